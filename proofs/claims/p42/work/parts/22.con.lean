section
set_option maxHeartbeats 400000 in
set_option maxRecDepth 100000 in
theorem J_X0_init {G : jG} {l : Launch} {d : Nat} {X : jX} {res : jH} (K : jOK G l mX0_init (d + 1) X) (n : Nat) (E : jEnd G mX0_init (jPV res) X) (a0 : Nat) (h : jH) (hf : F_X0_init n a0 h = some res) : jJ G X h 1 12 0 [some (.ref a0)] [] := by
  unfold F_X0_init at hf
  refine jr_aload_n K (D_at DX0_init 0 rfl) rfl rfl ?_
  refine jr_objInit K (D_at DX0_init 1 rfl) oi_X0_1 (by exact Nat.le_of_ble_eq_true rfl) ?_
  refine jr_aload_n K (D_at DX0_init 2 rfl) rfl rfl ?_
  refine jr_bipush K (D_at DX0_init 3 rfl) (v := (12 : Int32)) (by decide) ?_
  obtain ⟨h7, e7, hf⟩ := jbind hf
  refine jr_newQE (N := 12) K (D_at DX0_init 4 rfl) cl_X0_9 (by decide) (by decide) (by decide) (kc := 0) (ks := 0) e7 ?_
  obtain ⟨h10, e10, hf⟩ := jbind hf
  refine jr_putA K (D_at DX0_init 5 rfl) fp_X0_11_0 (Or.inr rfl) e10 ?_
  cases hf
  exact jr_vret K E (D_at DX0_init 6 rfl) rfl ⟨rfl, rfl⟩
theorem C_X0_init {G : jG} {l : Launch} (d : Nat) {n : Nat} {a0 : Nat} {h : jH} {res : jH} (hf : F_X0_init n a0 h = some res) : jC G l mX0_init (d + 1) 1 12 [.ref a0] h (jPV res) :=
  jC.of (by decide +kernel) (jcats rfl) (Nat.le_of_ble_eq_true rfl) (fun X K E => J_X0_init K n E a0 h hf)
set_option maxHeartbeats 400000 in
set_option maxRecDepth 100000 in
theorem J_X5_init {G : jG} {l : Launch} {d : Nat} {X : jX} {res : jH} (K : jOK G l mX5_init (d + 1) X) (n : Nat) (E : jEnd G mX5_init (jPV res) X) (a0 : Nat) (h : jH) (hf : F_X5_init n a0 h = some res) : jJ G X h 1 60 0 [some (.ref a0)] [] := by
  unfold F_X5_init at hf
  refine jr_aload_n K (D_at DX5_init 0 rfl) rfl rfl ?_
  refine jr_objInit K (D_at DX5_init 1 rfl) oi_X5_3 (by exact Nat.le_of_ble_eq_true rfl) ?_
  refine jr_aload_n K (D_at DX5_init 2 rfl) rfl rfl ?_
  refine jr_bipush K (D_at DX5_init 3 rfl) (v := (60 : Int32)) (by decide) ?_
  obtain ⟨h7, e7, hf⟩ := jbind hf
  refine jr_newIE (N := 60) K (D_at DX5_init 4 rfl) ac_int (by decide) (by decide) (by decide) (kc := 0) (ks := 0) e7 ?_
  obtain ⟨h9, e9, hf⟩ := jbind hf
  refine jr_putA K (D_at DX5_init 5 rfl) fp_X5_11_4 (Or.inr rfl) e9 ?_
  cases hf
  exact jr_vret K E (D_at DX5_init 6 rfl) rfl ⟨rfl, rfl⟩
theorem C_X5_init {G : jG} {l : Launch} (d : Nat) {n : Nat} {a0 : Nat} {h : jH} {res : jH} (hf : F_X5_init n a0 h = some res) : jC G l mX5_init (d + 1) 1 60 [.ref a0] h (jPV res) :=
  jC.of (by decide +kernel) (jcats rfl) (Nat.le_of_ble_eq_true rfl) (fun X K E => J_X5_init K n E a0 h hf)
set_option maxHeartbeats 400000 in
set_option maxRecDepth 100000 in
theorem J_X8_init {G : jG} {l : Launch} {d : Nat} {X : jX} {res : jH} (K : jOK G l mX8_init (d + 2) X) (n : Nat) (E : jEnd G mX8_init (jPV res) X) (a0 : Nat) (h : jH) (hf : F_X8_init n a0 h = some res) : jJ G X h 6 95 0 [some (.ref a0)] [] := by
  unfold F_X8_init at hf
  refine jr_aload_n K (D_at DX8_init 0 rfl) rfl rfl ?_
  refine jr_objInit K (D_at DX8_init 1 rfl) oi_X8_3 (by exact Nat.le_of_ble_eq_true rfl) ?_
  refine jr_aload_n K (D_at DX8_init 2 rfl) rfl rfl ?_
  refine jr_bipush K (D_at DX8_init 3 rfl) (v := (8 : Int32)) (by decide) ?_
  obtain ⟨h7, e7, hf⟩ := jbind hf
  refine jr_newIE (N := 8) K (D_at DX8_init 4 rfl) ac_int (by decide) (by decide) (by decide) (kc := 5) (ks := 87) e7 ?_
  obtain ⟨h9, e9, hf⟩ := jbind hf
  refine jr_putA K (D_at DX8_init 5 rfl) fp_X8_9_6 (Or.inr rfl) e9 ?_
  refine jr_aload_n K (D_at DX8_init 6 rfl) rfl rfl ?_
  refine jr_bipush K (D_at DX8_init 7 rfl) (v := (8 : Int32)) (by decide) ?_
  obtain ⟨h15, e15, hf⟩ := jbind hf
  refine jr_newIE (N := 8) K (D_at DX8_init 8 rfl) ac_int (by decide) (by decide) (by decide) (kc := 4) (ks := 79) e15 ?_
  obtain ⟨h17, e17, hf⟩ := jbind hf
  refine jr_putA K (D_at DX8_init 9 rfl) fp_X8_15_6 (Or.inr rfl) e17 ?_
  refine jr_aload_n K (D_at DX8_init 10 rfl) rfl rfl ?_
  refine jr_bipush K (D_at DX8_init 11 rfl) (v := (8 : Int32)) (by decide) ?_
  obtain ⟨h23, e23, hf⟩ := jbind hf
  refine jr_newIE (N := 8) K (D_at DX8_init 12 rfl) ac_int (by decide) (by decide) (by decide) (kc := 3) (ks := 71) e23 ?_
  obtain ⟨h25, e25, hf⟩ := jbind hf
  refine jr_putA K (D_at DX8_init 13 rfl) fp_X8_18_6 (Or.inr rfl) e25 ?_
  refine jr_aload_n K (D_at DX8_init 14 rfl) rfl rfl ?_
  refine jr_bipush K (D_at DX8_init 15 rfl) (v := (8 : Int32)) (by decide) ?_
  obtain ⟨h31, e31, hf⟩ := jbind hf
  refine jr_newIE (N := 8) K (D_at DX8_init 16 rfl) ac_int (by decide) (by decide) (by decide) (kc := 2) (ks := 63) e31 ?_
  obtain ⟨h33, e33, hf⟩ := jbind hf
  refine jr_putA K (D_at DX8_init 17 rfl) fp_X8_21_6 (Or.inr rfl) e33 ?_
  refine jr_aload_n K (D_at DX8_init 18 rfl) rfl rfl ?_
  obtain ⟨h37, e37, hf⟩ := jbind hf
  refine jr_newE (N := 3) K (D_at DX8_init 19 rfl) fn_X8_24 (kc := 1) (ks := 60) e37 ?_
  refine jr_dup K (D_at DX8_init 20 rfl) rfl ?_
  obtain ⟨h41, e41, hf⟩ := jbind hf
  refine jr_callIN K (C_X5_init (d) e41) (D_at DX8_init 21 rfl) cin_X8_26_X5_init (As := []) rfl rfl (by exact Nat.le_of_ble_eq_true rfl) (kc2 := 0) (ks2 := 0) rfl rfl (fun k9 h9 w9 => by cases w9.1) (fun r9 h9 w9 => ?_)
  obtain ⟨w1, w2⟩ := w9
  subst h9
  cases w1
  obtain ⟨h44, e44, hf⟩ := jbind hf
  refine jr_putR K (D_at DX8_init 22 rfl) fp_X8_27_6 (Or.inr rfl) e44 ?_
  refine jr_aload_n K (D_at DX8_init 23 rfl) rfl rfl ?_
  refine jr_bipush K (D_at DX8_init 24 rfl) (v := (16 : Int32)) (by decide) ?_
  obtain ⟨h50, e50, hf⟩ := jbind hf
  refine jr_putI K (D_at DX8_init 25 rfl) fp_X8_31_6 (Or.inl rfl) e50 ?_
  refine jr_aload_n K (D_at DX8_init 26 rfl) rfl rfl ?_
  refine jr_bipush K (D_at DX8_init 27 rfl) (v := (8 : Int32)) (by decide) ?_
  obtain ⟨h56, e56, hf⟩ := jbind hf
  refine jr_putI K (D_at DX8_init 28 rfl) fp_X8_35_6 (Or.inl rfl) e56 ?_
  refine jr_aload_n K (D_at DX8_init 29 rfl) rfl rfl ?_
  refine jr_iconst K (D_at DX8_init 30 rfl) (v := (1 : Int32)) (by decide) ?_
  obtain ⟨h61, e61, hf⟩ := jbind hf
  refine jr_putI K (D_at DX8_init 31 rfl) fp_X8_38_6 (Or.inl rfl) e61 ?_
  cases hf
  exact jr_vret K E (D_at DX8_init 32 rfl) rfl ⟨rfl, rfl⟩
theorem C_X8_init {G : jG} {l : Launch} (d : Nat) {n : Nat} {a0 : Nat} {h : jH} {res : jH} (hf : F_X8_init n a0 h = some res) : jC G l mX8_init (d + 2) 6 95 [.ref a0] h (jPV res) :=
  jC.of (by decide +kernel) (jcats rfl) (Nat.le_of_ble_eq_true rfl) (fun X K E => J_X8_init K n E a0 h hf)
set_option maxHeartbeats 400000 in
set_option maxRecDepth 100000 in
theorem J_X5_copyFrom {G : jG} {l : Launch} {d : Nat} {X : jX} {res : jH} (K : jOK G l mX5_copyFrom (d + 1) X) (n : Nat) (E : jEnd G mX5_copyFrom (jPV res) X) (a0 : Nat) (a1 : Nat) (h : jH) (hf : F_X5_copyFrom n a0 a1 h = some res) : jJ G X h 0 0 0 [some (.ref a0), some (.ref a1)] [] := by
  unfold F_X5_copyFrom at hf
  refine jr_aload_n K (D_at DX5_copyFrom 0 rfl) rfl rfl ?_
  obtain ⟨p1, e1, hf⟩ := jbind hf
  refine jr_getR K (D_at DX5_copyFrom 1 rfl) fg_X5_11_4 e1 ?_
  refine jr_iconst K (D_at DX5_copyFrom 2 rfl) (v := (0 : Int32)) (by decide) ?_
  refine jr_aload_n K (D_at DX5_copyFrom 3 rfl) rfl rfl ?_
  obtain ⟨p6, e6, hf⟩ := jbind hf
  refine jr_getR K (D_at DX5_copyFrom 4 rfl) fg_X5_11_4 e6 ?_
  refine jr_iconst K (D_at DX5_copyFrom 5 rfl) (v := (0 : Int32)) (by decide) ?_
  refine jr_bipush K (D_at DX5_copyFrom 6 rfl) (v := (60 : Int32)) (by decide) ?_
  obtain ⟨h12, e12, hf⟩ := jbind hf
  refine jr_copy K (D_at DX5_copyFrom 7 rfl) cy_X5_15 (by exact Nat.le_of_ble_eq_true rfl) e12 ?_
  refine jr_aload_n K (D_at DX5_copyFrom 8 rfl) rfl rfl ?_
  refine jr_aload_n K (D_at DX5_copyFrom 9 rfl) rfl rfl ?_
  obtain ⟨v17, e17, hf⟩ := jbind hf
  refine jr_getI K (D_at DX5_copyFrom 10 rfl) fg_X5_21_4 e17 ?_
  obtain ⟨h20, e20, hf⟩ := jbind hf
  refine jr_putI K (D_at DX5_copyFrom 11 rfl) fp_X5_21_4 (Or.inl rfl) e20 ?_
  refine jr_aload_n K (D_at DX5_copyFrom 12 rfl) rfl rfl ?_
  refine jr_aload_n K (D_at DX5_copyFrom 13 rfl) rfl rfl ?_
  obtain ⟨v25, e25, hf⟩ := jbind hf
  refine jr_getI K (D_at DX5_copyFrom 14 rfl) fg_X5_25_4 e25 ?_
  obtain ⟨h28, e28, hf⟩ := jbind hf
  refine jr_putI K (D_at DX5_copyFrom 15 rfl) fp_X5_25_4 (Or.inl rfl) e28 ?_
  cases hf
  exact jr_vret K E (D_at DX5_copyFrom 16 rfl) rfl ⟨rfl, rfl⟩
theorem C_X5_copyFrom {G : jG} {l : Launch} (d : Nat) {n : Nat} {a0 : Nat} {a1 : Nat} {h : jH} {res : jH} (hf : F_X5_copyFrom n a0 a1 h = some res) : jC G l mX5_copyFrom (d + 1) 0 0 [.ref a0, .ref a1] h (jPV res) :=
  jC.of (by decide +kernel) (jcats rfl) (Nat.le_of_ble_eq_true rfl) (fun X K E => J_X5_copyFrom K n E a0 a1 h hf)
set_option maxHeartbeats 400000 in
set_option maxRecDepth 100000 in
theorem J_X8_hangAs {G : jG} {l : Launch} {d : Nat} {X : jX} {res : jH} (K : jOK G l mX8_hangAs (d + 1) X) (n : Nat) (E : jEnd G mX8_hangAs (jPV res) X) (a0 : Nat) (a1 : Nat) (h : jH) (hf : F_X8_hangAs n a0 a1 h = some res) : jJ G X h 0 0 0 [some (.ref a0), some (.ref a1)] [] := by
  unfold F_X8_hangAs at hf
  refine jr_aload_n K (D_at DX8_hangAs 0 rfl) rfl rfl ?_
  obtain ⟨p1, e1, hf⟩ := jbind hf
  refine jr_getR K (D_at DX8_hangAs 1 rfl) fg_X8_9_6 e1 ?_
  refine jr_iconst K (D_at DX8_hangAs 2 rfl) (v := (0 : Int32)) (by decide) ?_
  refine jr_aload_n K (D_at DX8_hangAs 3 rfl) rfl rfl ?_
  obtain ⟨p6, e6, hf⟩ := jbind hf
  refine jr_getR K (D_at DX8_hangAs 4 rfl) fg_X8_9_6 e6 ?_
  refine jr_iconst K (D_at DX8_hangAs 5 rfl) (v := (0 : Int32)) (by decide) ?_
  refine jr_bipush K (D_at DX8_hangAs 6 rfl) (v := (8 : Int32)) (by decide) ?_
  obtain ⟨h12, e12, hf⟩ := jbind hf
  refine jr_copy K (D_at DX8_hangAs 7 rfl) cy_X8_41 (by exact Nat.le_of_ble_eq_true rfl) e12 ?_
  refine jr_aload_n K (D_at DX8_hangAs 8 rfl) rfl rfl ?_
  refine jr_aload_n K (D_at DX8_hangAs 9 rfl) rfl rfl ?_
  obtain ⟨v17, e17, hf⟩ := jbind hf
  refine jr_getI K (D_at DX8_hangAs 10 rfl) fg_X8_79_6 e17 ?_
  obtain ⟨h20, e20, hf⟩ := jbind hf
  refine jr_putI K (D_at DX8_hangAs 11 rfl) fp_X8_79_6 (Or.inl rfl) e20 ?_
  refine jr_aload_n K (D_at DX8_hangAs 12 rfl) rfl rfl ?_
  refine jr_aload_n K (D_at DX8_hangAs 13 rfl) rfl rfl ?_
  obtain ⟨v25, e25, hf⟩ := jbind hf
  refine jr_getI K (D_at DX8_hangAs 14 rfl) fg_X8_82_6 e25 ?_
  obtain ⟨h28, e28, hf⟩ := jbind hf
  refine jr_putI K (D_at DX8_hangAs 15 rfl) fp_X8_82_6 (Or.inl rfl) e28 ?_
  cases hf
  exact jr_vret K E (D_at DX8_hangAs 16 rfl) rfl ⟨rfl, rfl⟩
theorem C_X8_hangAs {G : jG} {l : Launch} (d : Nat) {n : Nat} {a0 : Nat} {a1 : Nat} {h : jH} {res : jH} (hf : F_X8_hangAs n a0 a1 h = some res) : jC G l mX8_hangAs (d + 1) 0 0 [.ref a0, .ref a1] h (jPV res) :=
  jC.of (by decide +kernel) (jcats rfl) (Nat.le_of_ble_eq_true rfl) (fun X K E => J_X8_hangAs K n E a0 a1 h hf)
set_option maxHeartbeats 400000 in
set_option maxRecDepth 100000 in
theorem J_X8_copyFrom {G : jG} {l : Launch} {d : Nat} {X : jX} {res : jH} (K : jOK G l mX8_copyFrom (d + 2) X) (n : Nat) (E : jEnd G mX8_copyFrom (jPV res) X) (a0 : Nat) (a1 : Nat) (h : jH) (hf : F_X8_copyFrom n a0 a1 h = some res) : jJ G X h 0 0 0 [some (.ref a0), some (.ref a1)] [] := by
  unfold F_X8_copyFrom at hf
  refine jr_aload_n K (D_at DX8_copyFrom 0 rfl) rfl rfl ?_
  obtain ⟨p1, e1, hf⟩ := jbind hf
  refine jr_getR K (D_at DX8_copyFrom 1 rfl) fg_X8_15_6 e1 ?_
  refine jr_iconst K (D_at DX8_copyFrom 2 rfl) (v := (0 : Int32)) (by decide) ?_
  refine jr_aload_n K (D_at DX8_copyFrom 3 rfl) rfl rfl ?_
  obtain ⟨p6, e6, hf⟩ := jbind hf
  refine jr_getR K (D_at DX8_copyFrom 4 rfl) fg_X8_15_6 e6 ?_
  refine jr_iconst K (D_at DX8_copyFrom 5 rfl) (v := (0 : Int32)) (by decide) ?_
  refine jr_bipush K (D_at DX8_copyFrom 6 rfl) (v := (8 : Int32)) (by decide) ?_
  obtain ⟨h12, e12, hf⟩ := jbind hf
  refine jr_copy K (D_at DX8_copyFrom 7 rfl) cy_X8_41 (by exact Nat.le_of_ble_eq_true rfl) e12 ?_
  refine jr_aload_n K (D_at DX8_copyFrom 8 rfl) rfl rfl ?_
  obtain ⟨p16, e16, hf⟩ := jbind hf
  refine jr_getR K (D_at DX8_copyFrom 9 rfl) fg_X8_18_6 e16 ?_
  refine jr_iconst K (D_at DX8_copyFrom 10 rfl) (v := (0 : Int32)) (by decide) ?_
  refine jr_aload_n K (D_at DX8_copyFrom 11 rfl) rfl rfl ?_
  obtain ⟨p21, e21, hf⟩ := jbind hf
  refine jr_getR K (D_at DX8_copyFrom 12 rfl) fg_X8_18_6 e21 ?_
  refine jr_iconst K (D_at DX8_copyFrom 13 rfl) (v := (0 : Int32)) (by decide) ?_
  refine jr_bipush K (D_at DX8_copyFrom 14 rfl) (v := (8 : Int32)) (by decide) ?_
  obtain ⟨h27, e27, hf⟩ := jbind hf
  refine jr_copy K (D_at DX8_copyFrom 15 rfl) cy_X8_41 (by exact Nat.le_of_ble_eq_true rfl) e27 ?_
  refine jr_aload_n K (D_at DX8_copyFrom 16 rfl) rfl rfl ?_
  obtain ⟨p31, e31, hf⟩ := jbind hf
  refine jr_getR K (D_at DX8_copyFrom 17 rfl) fg_X8_21_6 e31 ?_
  refine jr_iconst K (D_at DX8_copyFrom 18 rfl) (v := (0 : Int32)) (by decide) ?_
  refine jr_aload_n K (D_at DX8_copyFrom 19 rfl) rfl rfl ?_
  obtain ⟨p36, e36, hf⟩ := jbind hf
  refine jr_getR K (D_at DX8_copyFrom 20 rfl) fg_X8_21_6 e36 ?_
  refine jr_iconst K (D_at DX8_copyFrom 21 rfl) (v := (0 : Int32)) (by decide) ?_
  refine jr_bipush K (D_at DX8_copyFrom 22 rfl) (v := (8 : Int32)) (by decide) ?_
  obtain ⟨h42, e42, hf⟩ := jbind hf
  refine jr_copy K (D_at DX8_copyFrom 23 rfl) cy_X8_41 (by exact Nat.le_of_ble_eq_true rfl) e42 ?_
  refine jr_aload_n K (D_at DX8_copyFrom 24 rfl) rfl rfl ?_
  obtain ⟨p46, e46, hf⟩ := jbind hf
  refine jr_getR K (D_at DX8_copyFrom 25 rfl) fg_X8_27_6 e46 ?_
  refine jr_aload_n K (D_at DX8_copyFrom 26 rfl) rfl rfl ?_
  obtain ⟨p50, e50, hf⟩ := jbind hf
  refine jr_getR K (D_at DX8_copyFrom 27 rfl) fg_X8_27_6 e50 ?_
  obtain ⟨h53, e53, hf⟩ := jbind hf
  obtain ⟨rc_53, e53⟩ := jcv_o e53
  refine jr_callV K (C_X5_copyFrom (d) e53) (D_at DX8_copyFrom 28 rfl) cv_X8_47_X5_copyFrom (As := [.ref p50]) (ci := 4) rfl rc_53 rfl rfl (by exact Nat.le_of_ble_eq_true rfl) (kc2 := 0) (ks2 := 0) rfl rfl (fun k9 h9 w9 => by cases w9.1) (fun r9 h9 w9 => ?_)
  obtain ⟨w1, w2⟩ := w9
  subst h9
  cases w1
  show jJ G X _ 0 0 _ _ []
  refine jr_aload_n K (D_at DX8_copyFrom 29 rfl) rfl rfl ?_
  refine jr_aload_n K (D_at DX8_copyFrom 30 rfl) rfl rfl ?_
  obtain ⟨v58, e58, hf⟩ := jbind hf
  refine jr_getI K (D_at DX8_copyFrom 31 rfl) fg_X8_51_6 e58 ?_
  obtain ⟨h61, e61, hf⟩ := jbind hf
  refine jr_putI K (D_at DX8_copyFrom 32 rfl) fp_X8_51_6 (Or.inl rfl) e61 ?_
  refine jr_aload_n K (D_at DX8_copyFrom 33 rfl) rfl rfl ?_
  refine jr_aload_n K (D_at DX8_copyFrom 34 rfl) rfl rfl ?_
  obtain ⟨v66, e66, hf⟩ := jbind hf
  refine jr_getI K (D_at DX8_copyFrom 35 rfl) fg_X8_54_6 e66 ?_
  obtain ⟨h69, e69, hf⟩ := jbind hf
  refine jr_putI K (D_at DX8_copyFrom 36 rfl) fp_X8_54_6 (Or.inl rfl) e69 ?_
  refine jr_aload_n K (D_at DX8_copyFrom 37 rfl) rfl rfl ?_
  refine jr_aload_n K (D_at DX8_copyFrom 38 rfl) rfl rfl ?_
  obtain ⟨v74, e74, hf⟩ := jbind hf
  refine jr_getI K (D_at DX8_copyFrom 39 rfl) fg_X8_57_6 e74 ?_
  obtain ⟨h77, e77, hf⟩ := jbind hf
  refine jr_putI K (D_at DX8_copyFrom 40 rfl) fp_X8_57_6 (Or.inl rfl) e77 ?_
  refine jr_aload_n K (D_at DX8_copyFrom 41 rfl) rfl rfl ?_
  refine jr_aload_n K (D_at DX8_copyFrom 42 rfl) rfl rfl ?_
  obtain ⟨v82, e82, hf⟩ := jbind hf
  refine jr_getI K (D_at DX8_copyFrom 43 rfl) fg_X8_60_6 e82 ?_
  obtain ⟨h85, e85, hf⟩ := jbind hf
  refine jr_putI K (D_at DX8_copyFrom 44 rfl) fp_X8_60_6 (Or.inl rfl) e85 ?_
  refine jr_aload_n K (D_at DX8_copyFrom 45 rfl) rfl rfl ?_
  refine jr_aload_n K (D_at DX8_copyFrom 46 rfl) rfl rfl ?_
  obtain ⟨v90, e90, hf⟩ := jbind hf
  refine jr_getI K (D_at DX8_copyFrom 47 rfl) fg_X8_63_6 e90 ?_
  obtain ⟨h93, e93, hf⟩ := jbind hf
  refine jr_putI K (D_at DX8_copyFrom 48 rfl) fp_X8_63_6 (Or.inl rfl) e93 ?_
  refine jr_aload_n K (D_at DX8_copyFrom 49 rfl) rfl rfl ?_
  refine jr_aload_n K (D_at DX8_copyFrom 50 rfl) rfl rfl ?_
  obtain ⟨v98, e98, hf⟩ := jbind hf
  refine jr_getI K (D_at DX8_copyFrom 51 rfl) fg_X8_31_6 e98 ?_
  obtain ⟨h101, e101, hf⟩ := jbind hf
  refine jr_putI K (D_at DX8_copyFrom 52 rfl) fp_X8_31_6 (Or.inl rfl) e101 ?_
  refine jr_aload_n K (D_at DX8_copyFrom 53 rfl) rfl rfl ?_
  refine jr_aload_n K (D_at DX8_copyFrom 54 rfl) rfl rfl ?_
  obtain ⟨v106, e106, hf⟩ := jbind hf
  refine jr_getI K (D_at DX8_copyFrom 55 rfl) fg_X8_35_6 e106 ?_
  obtain ⟨h109, e109, hf⟩ := jbind hf
  refine jr_putI K (D_at DX8_copyFrom 56 rfl) fp_X8_35_6 (Or.inl rfl) e109 ?_
  refine jr_aload_n K (D_at DX8_copyFrom 57 rfl) rfl rfl ?_
  refine jr_aload_n K (D_at DX8_copyFrom 58 rfl) rfl rfl ?_
  obtain ⟨v114, e114, hf⟩ := jbind hf
  refine jr_getI K (D_at DX8_copyFrom 59 rfl) fg_X8_66_6 e114 ?_
  obtain ⟨h117, e117, hf⟩ := jbind hf
  refine jr_putI K (D_at DX8_copyFrom 60 rfl) fp_X8_66_6 (Or.inl rfl) e117 ?_
  refine jr_aload_n K (D_at DX8_copyFrom 61 rfl) rfl rfl ?_
  refine jr_aload_n K (D_at DX8_copyFrom 62 rfl) rfl rfl ?_
  obtain ⟨v122, e122, hf⟩ := jbind hf
  refine jr_getI K (D_at DX8_copyFrom 63 rfl) fg_X8_69_6 e122 ?_
  obtain ⟨h125, e125, hf⟩ := jbind hf
  refine jr_putI K (D_at DX8_copyFrom_1 0 rfl) fp_X8_69_6 (Or.inl rfl) e125 ?_
  refine jr_aload_n K (D_at DX8_copyFrom_1 1 rfl) rfl rfl ?_
  refine jr_aload_n K (D_at DX8_copyFrom_1 2 rfl) rfl rfl ?_
  obtain ⟨v130, e130, hf⟩ := jbind hf
  refine jr_getI K (D_at DX8_copyFrom_1 3 rfl) fg_X8_38_6 e130 ?_
  obtain ⟨h133, e133, hf⟩ := jbind hf
  refine jr_putI K (D_at DX8_copyFrom_1 4 rfl) fp_X8_38_6 (Or.inl rfl) e133 ?_
  refine jr_aload_n K (D_at DX8_copyFrom_1 5 rfl) rfl rfl ?_
  refine jr_aload_n K (D_at DX8_copyFrom_1 6 rfl) rfl rfl ?_
  obtain ⟨v138, e138, hf⟩ := jbind hf
  refine jr_getI K (D_at DX8_copyFrom_1 7 rfl) fg_X8_72_6 e138 ?_
  obtain ⟨h141, e141, hf⟩ := jbind hf
  refine jr_putI K (D_at DX8_copyFrom_1 8 rfl) fp_X8_72_6 (Or.inl rfl) e141 ?_
  refine jr_aload_n K (D_at DX8_copyFrom_1 9 rfl) rfl rfl ?_
  refine jr_aload_n K (D_at DX8_copyFrom_1 10 rfl) rfl rfl ?_
  obtain ⟨h146, e146, hf⟩ := jbind hf
  obtain ⟨rc_146, e146⟩ := jcv_o e146
  refine jr_callV K (C_X8_hangAs (d) e146) (D_at DX8_copyFrom_1 11 rfl) cv_X8_75_X8_hangAs (As := [.ref a1]) (ci := 6) rfl rc_146 rfl rfl (by exact Nat.le_of_ble_eq_true rfl) (kc2 := 0) (ks2 := 0) rfl rfl (fun k9 h9 w9 => by cases w9.1) (fun r9 h9 w9 => ?_)
  obtain ⟨w1, w2⟩ := w9
  subst h9
  cases w1
  show jJ G X _ 0 0 _ _ []
  cases hf
  exact jr_vret K E (D_at DX8_copyFrom_1 12 rfl) rfl ⟨rfl, rfl⟩
theorem C_X8_copyFrom {G : jG} {l : Launch} (d : Nat) {n : Nat} {a0 : Nat} {a1 : Nat} {h : jH} {res : jH} (hf : F_X8_copyFrom n a0 a1 h = some res) : jC G l mX8_copyFrom (d + 2) 0 0 [.ref a0, .ref a1] h (jPV res) :=
  jC.of (by decide +kernel) (jcats rfl) (Nat.le_of_ble_eq_true rfl) (fun X K E => J_X8_copyFrom K n E a0 a1 h hf)
set_option maxHeartbeats 400000 in
set_option maxRecDepth 100000 in
theorem J_X0_remember_63 {G : jG} {l : Launch} {d : Nat} {X : jX} {res : jH} (K : jOK G l mX0_remember (d + 3) X) (n : Nat) (E : jEnd G mX0_remember (jPV res) X) (a0 : Nat) (sa0 : Nat) (s1 : Int32) (h : jH) (hf : F_X0_remember_63 n a0 sa0 s1 h = some res) : jJ G X h 0 0 63 [some (.ref a0), none] [.int s1, .ref sa0] := by
  unfold F_X0_remember_63 at hf
  obtain ⟨h63, e63, hf⟩ := jbind hf
  refine jr_putI K (D_at DX0_remember 34 rfl) fp_X0_15_0 (Or.inl rfl) e63 ?_
  refine jr_aload_n K (D_at DX0_remember 35 rfl) rfl rfl ?_
  refine jr_bipush K (D_at DX0_remember 36 rfl) (v := (12 : Int32)) (by decide) ?_
  refine jr_aload_n K (D_at DX0_remember 37 rfl) rfl rfl ?_
  obtain ⟨v70, e70, hf⟩ := jbind hf
  refine jr_getI K (D_at DX0_remember 38 rfl) fg_X0_24_0 e70 ?_
  refine jr_iconst K (D_at DX0_remember 39 rfl) (v := (1 : Int32)) (by decide) ?_
  refine jr_iadd K (D_at DX0_remember 40 rfl) ?_
  refine jr_min K (D_at DX0_remember 41 rfl) mm_X0_27 (by exact Nat.le_of_ble_eq_true rfl) ?_
  obtain ⟨h78, e78, hf⟩ := jbind hf
  refine jr_putI K (D_at DX0_remember 42 rfl) fp_X0_24_0 (Or.inl rfl) e78 ?_
  cases hf
  exact jr_vret K E (D_at DX0_remember 43 rfl) rfl ⟨rfl, rfl⟩
set_option maxHeartbeats 400000 in
set_option maxRecDepth 100000 in
theorem J_X0_remember_28 {G : jG} {l : Launch} {d : Nat} {X : jX} {res : jH} (K : jOK G l mX0_remember (d + 3) X) (n : Nat) (E : jEnd G mX0_remember (jPV res) X) (a0 : Nat) (a1 : Nat) (h : jH) (hf : F_X0_remember_28 n a0 a1 h = some res) : jJ G X h 0 0 28 [some (.ref a0), some (.ref a1)] [] := by
  unfold F_X0_remember_28 at hf
  refine jr_aload_n K (D_at DX0_remember 14 rfl) rfl rfl ?_
  obtain ⟨p29, e29, hf⟩ := jbind hf
  refine jr_getR K (D_at DX0_remember 15 rfl) fg_X0_11_0 e29 ?_
  refine jr_aload_n K (D_at DX0_remember 16 rfl) rfl rfl ?_
  obtain ⟨v33, e33, hf⟩ := jbind hf
  refine jr_getI K (D_at DX0_remember 17 rfl) fg_X0_15_0 e33 ?_
  obtain ⟨o36, e36, hf⟩ := jbind hf
  refine jr_aald K (D_at DX0_remember 18 rfl) e36 ?_
  refine jr_aload_n K (D_at DX0_remember 19 rfl) rfl rfl ?_
  cases o36 with
  | none => exact jno (show (none : Option jH) = some res from hf)
  | some p38 =>
    dsimp only at hf
    obtain ⟨h38, e38, hf⟩ := jbind hf
    obtain ⟨rc_38, e38⟩ := jcv_o e38
    refine jr_callV K (C_X8_copyFrom (d) e38) (D_at DX0_remember 20 rfl) cv_X0_20_X8_copyFrom (As := [.ref a1]) (ci := 6) rfl rc_38 rfl rfl (by exact Nat.le_of_ble_eq_true rfl) (kc2 := 0) (ks2 := 0) rfl rfl (fun k9 h9 w9 => by cases w9.1) (fun r9 h9 w9 => ?_)
    obtain ⟨w1, w2⟩ := w9
    subst h9
    cases w1
    show jJ G X _ 0 0 _ _ []
    refine jr_aload_n K (D_at DX0_remember 21 rfl) rfl rfl ?_
    refine jr_aload_n K (D_at DX0_remember 22 rfl) rfl rfl ?_
    obtain ⟨v43, e43, hf⟩ := jbind hf
    refine jr_getI K (D_at DX0_remember 23 rfl) fg_X0_15_0 e43 ?_
    refine jr_iconst K (D_at DX0_remember 24 rfl) (v := (1 : Int32)) (by decide) ?_
    refine jr_iadd K (D_at DX0_remember 25 rfl) ?_
    refine jr_bipush K (D_at DX0_remember 26 rfl) (v := (12 : Int32)) (by decide) ?_
    refine jr_icmp_ge K (D_at DX0_remember 27 rfl) (tgt := 62) (by decide) (fun c50 => ?_) (fun c50 => ?_)
    · replace hf := (if_pos c50).symm.trans hf
      refine jr_iconst K (D_at DX0_remember 33 rfl) (v := (0 : Int32)) (by decide) ?_
      refine jr_keep [true, false] ?_
      exact J_X0_remember_63 K n E a0 a0 (0 : Int32) h38 hf
    · replace hf := (if_neg c50).symm.trans hf
      refine jr_aload_n K (D_at DX0_remember 28 rfl) rfl rfl ?_
      obtain ⟨v54, e54, hf⟩ := jbind hf
      refine jr_getI K (D_at DX0_remember 29 rfl) fg_X0_15_0 e54 ?_
      refine jr_iconst K (D_at DX0_remember 30 rfl) (v := (1 : Int32)) (by decide) ?_
      refine jr_iadd K (D_at DX0_remember 31 rfl) ?_
      refine jr_goto K (D_at DX0_remember 32 rfl) (tgt := 63) (by decide) ?_
      refine jr_keep [true, false] ?_
      exact J_X0_remember_63 K n E a0 a0 (v54 + (1 : Int32)) h38 hf
set_option maxHeartbeats 400000 in
set_option maxRecDepth 100000 in
theorem J_X0_remember {G : jG} {l : Launch} {d : Nat} {X : jX} {res : jH} (K : jOK G l mX0_remember (d + 3) X) (n : Nat) (E : jEnd G mX0_remember (jPV res) X) (a0 : Nat) (a1 : Nat) (h : jH) (hf : F_X0_remember n a0 a1 h = some res) : jJ G X h 7 113 0 [some (.ref a0), some (.ref a1)] [] := by
  unfold F_X0_remember at hf
  refine jr_aload_n K (D_at DX0_remember 0 rfl) rfl rfl ?_
  obtain ⟨p1, e1, hf⟩ := jbind hf
  refine jr_getR K (D_at DX0_remember 1 rfl) fg_X0_11_0 e1 ?_
  refine jr_aload_n K (D_at DX0_remember 2 rfl) rfl rfl ?_
  obtain ⟨v5, e5, hf⟩ := jbind hf
  refine jr_getI K (D_at DX0_remember 3 rfl) fg_X0_15_0 e5 ?_
  obtain ⟨o8, e8, hf⟩ := jbind hf
  refine jr_aald K (D_at DX0_remember 4 rfl) e8 ?_
  cases o8 with
  | none =>
    dsimp only at hf
    refine jr_ifnonnullN K (D_at DX0_remember 5 rfl) ?_
    refine jr_aload_n K (D_at DX0_remember 6 rfl) rfl rfl ?_
    obtain ⟨p13, e13, hf⟩ := jbind hf
    refine jr_getR K (D_at DX0_remember 7 rfl) fg_X0_11_0 e13 ?_
    refine jr_aload_n K (D_at DX0_remember 8 rfl) rfl rfl ?_
    obtain ⟨v17, e17, hf⟩ := jbind hf
    refine jr_getI K (D_at DX0_remember 9 rfl) fg_X0_15_0 e17 ?_
    obtain ⟨h20, e20, hf⟩ := jbind hf
    refine jr_newE (N := 18) K (D_at DX0_remember 10 rfl) fn_X0_9 (kc := 6) (ks := 95) e20 ?_
    refine jr_dup K (D_at DX0_remember 11 rfl) rfl ?_
    obtain ⟨h24, e24, hf⟩ := jbind hf
    refine jr_callIN K (C_X8_init (d) e24) (D_at DX0_remember 12 rfl) cin_X0_19_X8_init (As := []) rfl rfl (by exact Nat.le_of_ble_eq_true rfl) (kc2 := 0) (ks2 := 0) rfl rfl (fun k9 h9 w9 => by cases w9.1) (fun r9 h9 w9 => ?_)
    obtain ⟨w1, w2⟩ := w9
    subst h9
    cases w1
    obtain ⟨h27, e27, hf⟩ := jbind hf
    refine jr_aast K (D_at DX0_remember 13 rfl) e27 ?_
    refine jr_keep [true, true] ?_
    exact J_X0_remember_28 K n E a0 a1 h27 hf
  | some p9 =>
    dsimp only at hf
    refine jr_ifnonnull K (D_at DX0_remember 5 rfl) (tgt := 28) (by decide) ?_
    refine jr_credit (kc' := 0) (ks' := 0) (by decide) (by decide) ?_
    refine jr_keep [true, true] ?_
    exact J_X0_remember_28 K n E a0 a1 h hf
theorem C_X0_remember {G : jG} {l : Launch} (d : Nat) {n : Nat} {a0 : Nat} {a1 : Nat} {h : jH} {res : jH} (hf : F_X0_remember n a0 a1 h = some res) : jC G l mX0_remember (d + 3) 7 113 [.ref a0, .ref a1] h (jPV res) :=
  jC.of (by decide +kernel) (jcats rfl) (Nat.le_of_ble_eq_true rfl) (fun X K E => J_X0_remember K n E a0 a1 h hf)
set_option maxHeartbeats 400000 in
set_option maxRecDepth 100000 in
theorem J_X0_takeBack_18 {G : jG} {l : Launch} {d : Nat} {X : jX} {res : (Int32 × jH)} (K : jOK G l mX0_takeBack (d + 3) X) (n : Nat) (E : jEnd G mX0_takeBack (jPW res) X) (a0 : Nat) (a1 : Nat) (s0 : Int32) (h : jH) (hf : F_X0_takeBack_18 n a0 a1 s0 h = some res) : jJ G X h 0 0 18 [some (.ref a0), some (.ref a1), none] [.int s0] := by
  unfold F_X0_takeBack_18 at hf
  refine jr_istore_n K (D_at DX0_takeBack 9 rfl) (i := 2) rfl (by decide) (L2 := [_, _, _]) rfl ?_
  refine jr_aload_n K (D_at DX0_takeBack 10 rfl) rfl rfl ?_
  obtain ⟨v20, e20, hf⟩ := jbind hf
  refine jr_getI K (D_at DX0_takeBack 11 rfl) fg_X0_24_0 e20 ?_
  refine jr_if_eq K (D_at DX0_takeBack 12 rfl) (tgt := 35) (by decide) (fun c23 => ?_) (fun c23 => ?_)
  · replace hf := (if_pos c23).symm.trans hf
    refine jr_iconst K (D_at DX0_takeBack 18 rfl) (v := (0 : Int32)) (by decide) ?_
    cases hf
    exact jr_zret K E (D_at DX0_takeBack 19 rfl) rfl (Or.inl rfl) ⟨rfl, rfl⟩
  · replace hf := (if_neg c23).symm.trans hf
    refine jr_aload_n K (D_at DX0_takeBack 13 rfl) rfl rfl ?_
    obtain ⟨p27, e27, hf⟩ := jbind hf
    refine jr_getR K (D_at DX0_takeBack 14 rfl) fg_X0_11_0 e27 ?_
    refine jr_iload_n K (D_at DX0_takeBack 15 rfl) rfl rfl ?_
    obtain ⟨o31, e31, hf⟩ := jbind hf
    refine jr_aald K (D_at DX0_takeBack 16 rfl) e31 ?_
    cases o31 with
    | none =>
      dsimp only at hf
      refine jr_ifnonnullN K (D_at DX0_takeBack 17 rfl) ?_
      refine jr_iconst K (D_at DX0_takeBack 18 rfl) (v := (0 : Int32)) (by decide) ?_
      cases hf
      exact jr_zret K E (D_at DX0_takeBack 19 rfl) rfl (Or.inl rfl) ⟨rfl, rfl⟩
    | some p32 =>
      dsimp only at hf
      refine jr_ifnonnull K (D_at DX0_takeBack 17 rfl) (tgt := 37) (by decide) ?_
      refine jr_aload_n K (D_at DX0_takeBack 20 rfl) rfl rfl ?_
      refine jr_aload_n K (D_at DX0_takeBack 21 rfl) rfl rfl ?_
      obtain ⟨p39, e39, hf⟩ := jbind hf
      refine jr_getR K (D_at DX0_takeBack 22 rfl) fg_X0_11_0 e39 ?_
      refine jr_iload_n K (D_at DX0_takeBack 23 rfl) rfl rfl ?_
      obtain ⟨o43, e43, hf⟩ := jbind hf
      refine jr_aald K (D_at DX0_takeBack 24 rfl) e43 ?_
      cases o43 with
      | none => exact jno (show (none : Option (Int32 × jH)) = some res from hf)
      | some p44_0 =>
        dsimp only at hf
        obtain ⟨h44, e44, hf⟩ := jbind hf
        obtain ⟨rc_44, e44⟩ := jcv_o e44
        refine jr_callV K (C_X8_copyFrom (d) e44) (D_at DX0_takeBack 25 rfl) cv_X0_20_X8_copyFrom (As := [.ref p44_0]) (ci := 6) rfl rc_44 rfl rfl (by exact Nat.le_of_ble_eq_true rfl) (kc2 := 0) (ks2 := 0) rfl rfl (fun k9 h9 w9 => by cases w9.1) (fun r9 h9 w9 => ?_)
        obtain ⟨w1, w2⟩ := w9
        subst h9
        cases w1
        show jJ G X _ 0 0 _ _ []
        refine jr_aload_n K (D_at DX0_takeBack 26 rfl) rfl rfl ?_
        refine jr_iload_n K (D_at DX0_takeBack 27 rfl) rfl rfl ?_
        obtain ⟨h49, e49, hf⟩ := jbind hf
        refine jr_putI K (D_at DX0_takeBack 28 rfl) fp_X0_15_0 (Or.inl rfl) e49 ?_
        refine jr_aload_n K (D_at DX0_takeBack 29 rfl) rfl rfl ?_
        refine jr_dup K (D_at DX0_takeBack 30 rfl) rfl ?_
        obtain ⟨v54, e54, hf⟩ := jbind hf
        refine jr_getI K (D_at DX0_takeBack 31 rfl) fg_X0_24_0 e54 ?_
        refine jr_iconst K (D_at DX0_takeBack 32 rfl) (v := (1 : Int32)) (by decide) ?_
        refine jr_isub K (D_at DX0_takeBack 33 rfl) ?_
        obtain ⟨h59, e59, hf⟩ := jbind hf
        refine jr_putI K (D_at DX0_takeBack 34 rfl) fp_X0_24_0 (Or.inl rfl) e59 ?_
        refine jr_iconst K (D_at DX0_takeBack 35 rfl) (v := (1 : Int32)) (by decide) ?_
        cases hf
        exact jr_zret K E (D_at DX0_takeBack 36 rfl) rfl (Or.inr rfl) ⟨rfl, rfl⟩
set_option maxHeartbeats 400000 in
set_option maxRecDepth 100000 in
theorem J_X0_takeBack {G : jG} {l : Launch} {d : Nat} {X : jX} {res : (Int32 × jH)} (K : jOK G l mX0_takeBack (d + 3) X) (n : Nat) (E : jEnd G mX0_takeBack (jPW res) X) (a0 : Nat) (a1 : Nat) (h : jH) (hf : F_X0_takeBack n a0 a1 h = some res) : jJ G X h 0 0 0 [some (.ref a0), some (.ref a1), none] [] := by
  unfold F_X0_takeBack at hf
  refine jr_aload_n K (D_at DX0_takeBack 0 rfl) rfl rfl ?_
  obtain ⟨v1, e1, hf⟩ := jbind hf
  refine jr_getI K (D_at DX0_takeBack 1 rfl) fg_X0_15_0 e1 ?_
  refine jr_if_le K (D_at DX0_takeBack 2 rfl) (tgt := 16) (by decide) (fun c4 => ?_) (fun c4 => ?_)
  · replace hf := (if_pos c4).symm.trans hf
    refine jr_bipush K (D_at DX0_takeBack 8 rfl) (v := (11 : Int32)) (by decide) ?_
    refine jr_keep [true, true, false] ?_
    exact J_X0_takeBack_18 K n E a0 a1 (11 : Int32) h hf
  · replace hf := (if_neg c4).symm.trans hf
    refine jr_aload_n K (D_at DX0_takeBack 3 rfl) rfl rfl ?_
    obtain ⟨v8, e8, hf⟩ := jbind hf
    refine jr_getI K (D_at DX0_takeBack 4 rfl) fg_X0_15_0 e8 ?_
    refine jr_iconst K (D_at DX0_takeBack 5 rfl) (v := (1 : Int32)) (by decide) ?_
    refine jr_isub K (D_at DX0_takeBack 6 rfl) ?_
    refine jr_goto K (D_at DX0_takeBack 7 rfl) (tgt := 18) (by decide) ?_
    refine jr_keep [true, true, false] ?_
    exact J_X0_takeBack_18 K n E a0 a1 (v8 - (1 : Int32)) h hf
theorem C_X0_takeBack {G : jG} {l : Launch} (d : Nat) {n : Nat} {a0 : Nat} {a1 : Nat} {h : jH} {res : (Int32 × jH)} (hf : F_X0_takeBack n a0 a1 h = some res) : jC G l mX0_takeBack (d + 3) 0 0 [.ref a0, .ref a1] h (jPW res) :=
  jC.of (by decide +kernel) (jcats rfl) (Nat.le_of_ble_eq_true rfl) (fun X K E => J_X0_takeBack K n E a0 a1 h hf)
set_option maxHeartbeats 400000 in
set_option maxRecDepth 100000 in
theorem J_X0_forget {G : jG} {l : Launch} {d : Nat} {X : jX} {res : jH} (K : jOK G l mX0_forget (d) X) (n : Nat) (E : jEnd G mX0_forget (jPV res) X) (a0 : Nat) (h : jH) (hf : F_X0_forget n a0 h = some res) : jJ G X h 0 0 0 [some (.ref a0)] [] := by
  unfold F_X0_forget at hf
  refine jr_aload_n K (D_at DX0_forget 0 rfl) rfl rfl ?_
  refine jr_iconst K (D_at DX0_forget 1 rfl) (v := (0 : Int32)) (by decide) ?_
  obtain ⟨h2, e2, hf⟩ := jbind hf
  refine jr_putI K (D_at DX0_forget 2 rfl) fp_X0_24_0 (Or.inl rfl) e2 ?_
  cases hf
  exact jr_vret K E (D_at DX0_forget 3 rfl) rfl ⟨rfl, rfl⟩
theorem C_X0_forget {G : jG} {l : Launch} (d : Nat) {n : Nat} {a0 : Nat} {h : jH} {res : jH} (hf : F_X0_forget n a0 h = some res) : jC G l mX0_forget (d) 0 0 [.ref a0] h (jPV res) :=
  jC.of (by decide +kernel) (jcats rfl) (Nat.le_of_ble_eq_true rfl) (fun X K E => J_X0_forget K n E a0 h hf)
set_option maxHeartbeats 400000 in
set_option maxRecDepth 100000 in
theorem J_X1_init {G : jG} {l : Launch} {d : Nat} {X : jX} {res : jH} (K : jOK G l mX1_init (d + 1) X) (n : Nat) (E : jEnd G mX1_init (jPV res) X) (a0 : Nat) (a1 : Nat) (a2 : Nat) (h : jH) (hf : F_X1_init n a0 a1 a2 h = some res) : jJ G X h 0 0 0 [some (.ref a0), some (.ref a1), some (.ref a2)] [] := by
  unfold F_X1_init at hf
  refine jr_aload_n K (D_at DX1_init 0 rfl) rfl rfl ?_
  refine jr_objInit K (D_at DX1_init 1 rfl) oi_X1_3 (by exact Nat.le_of_ble_eq_true rfl) ?_
  refine jr_aload_n K (D_at DX1_init 2 rfl) rfl rfl ?_
  refine jr_aload_n K (D_at DX1_init 3 rfl) rfl rfl ?_
  obtain ⟨h6, e6, hf⟩ := jbind hf
  refine jr_putR K (D_at DX1_init 4 rfl) fp_X1_9_1 (Or.inr rfl) e6 ?_
  refine jr_aload_n K (D_at DX1_init 5 rfl) rfl rfl ?_
  refine jr_aload_n K (D_at DX1_init 6 rfl) rfl rfl ?_
  obtain ⟨h11, e11, hf⟩ := jbind hf
  refine jr_putR K (D_at DX1_init 7 rfl) fp_X1_15_1 (Or.inr rfl) e11 ?_
  cases hf
  exact jr_vret K E (D_at DX1_init 8 rfl) rfl ⟨rfl, rfl⟩
theorem C_X1_init {G : jG} {l : Launch} (d : Nat) {n : Nat} {a0 : Nat} {a1 : Nat} {a2 : Nat} {h : jH} {res : jH} (hf : F_X1_init n a0 a1 a2 h = some res) : jC G l mX1_init (d + 1) 0 0 [.ref a0, .ref a1, .ref a2] h (jPV res) :=
  jC.of (by decide +kernel) (jcats rfl) (Nat.le_of_ble_eq_true rfl) (fun X K E => J_X1_init K n E a0 a1 a2 h hf)
set_option maxHeartbeats 400000 in
set_option maxRecDepth 100000 in
theorem J_X8_isLit {G : jG} {l : Launch} {d : Nat} {X : jX} {res : Int32} (K : jOK G l mX8_isLit (d) X) (n : Nat) (h : jH) (E : jEnd G mX8_isLit (jPR h res) X) (a0 : Nat) (x1 : Int32) (x2 : Int32) (hf : F_X8_isLit n a0 x1 x2 h = some res) : jJ G X h 0 0 0 [some (.ref a0), some (.int x1), some (.int x2)] [] := by
  unfold F_X8_isLit at hf
  refine jr_aload_n K (D_at DX8_isLit 0 rfl) rfl rfl ?_
  obtain ⟨p1, e1, hf⟩ := jbind hf
  refine jr_getR K (D_at DX8_isLit 1 rfl) fg_X8_9_6 e1 ?_
  refine jr_iload_n K (D_at DX8_isLit 2 rfl) rfl rfl ?_
  obtain ⟨v5, e5, hf⟩ := jbind hf
  refine jr_iald K (D_at DX8_isLit 3 rfl) e5 ?_
  refine jr_iconst K (D_at DX8_isLit 4 rfl) (v := (4 : Int32)) (by decide) ?_
  refine jr_iload_n K (D_at DX8_isLit 5 rfl) rfl rfl ?_
  refine jr_imul K (D_at DX8_isLit 6 rfl) ?_
  refine jr_icmp_lt K (D_at DX8_isLit 7 rfl) (tgt := 33) (by decide) (fun c9 => ?_) (fun c9 => ?_)
  · replace hf := (if_pos c9).symm.trans hf
    refine jr_iconst K (D_at DX8_isLit 21 rfl) (v := (0 : Int32)) (by decide) ?_
    cases hf
    exact jr_zret K E (D_at DX8_isLit 22 rfl) rfl (Or.inl rfl) ⟨rfl, rfl⟩
  · replace hf := (if_neg c9).symm.trans hf
    refine jr_aload_n K (D_at DX8_isLit 8 rfl) rfl rfl ?_
    obtain ⟨p13, e13, hf⟩ := jbind hf
    refine jr_getR K (D_at DX8_isLit 9 rfl) fg_X8_9_6 e13 ?_
    refine jr_iload_n K (D_at DX8_isLit 10 rfl) rfl rfl ?_
    obtain ⟨v17, e17, hf⟩ := jbind hf
    refine jr_iald K (D_at DX8_isLit 11 rfl) e17 ?_
    refine jr_iconst K (D_at DX8_isLit 12 rfl) (v := (4 : Int32)) (by decide) ?_
    refine jr_iload_n K (D_at DX8_isLit 13 rfl) rfl rfl ?_
    refine jr_imul K (D_at DX8_isLit 14 rfl) ?_
    refine jr_aload_n K (D_at DX8_isLit 15 rfl) rfl rfl ?_
    obtain ⟨v22, e22, hf⟩ := jbind hf
    refine jr_getI K (D_at DX8_isLit 16 rfl) fg_X8_35_6 e22 ?_
    refine jr_iadd K (D_at DX8_isLit 17 rfl) ?_
    refine jr_icmp_gt K (D_at DX8_isLit 18 rfl) (tgt := 33) (by decide) (fun c26 => ?_) (fun c26 => ?_)
    · replace hf := (if_pos c26).symm.trans hf
      refine jr_iconst K (D_at DX8_isLit 21 rfl) (v := (0 : Int32)) (by decide) ?_
      cases hf
      exact jr_zret K E (D_at DX8_isLit 22 rfl) rfl (Or.inl rfl) ⟨rfl, rfl⟩
    · replace hf := (if_neg c26).symm.trans hf
      refine jr_iconst K (D_at DX8_isLit 19 rfl) (v := (1 : Int32)) (by decide) ?_
      refine jr_goto K (D_at DX8_isLit 20 rfl) (tgt := 34) (by decide) ?_
      cases hf
      exact jr_zret K E (D_at DX8_isLit 22 rfl) rfl (Or.inr rfl) ⟨rfl, rfl⟩
theorem C_X8_isLit {G : jG} {l : Launch} (d : Nat) {n : Nat} {a0 : Nat} {x1 : Int32} {x2 : Int32} {h : jH} {res : Int32} (hf : F_X8_isLit n a0 x1 x2 h = some res) : jC G l mX8_isLit (d) 0 0 [.ref a0, .int x1, .int x2] h (jPR h res) :=
  jC.of (by decide +kernel) (jcats rfl) (Nat.le_of_ble_eq_true rfl) (fun X K E => J_X8_isLit K n h E a0 x1 x2 hf)
set_option maxHeartbeats 400000 in
set_option maxRecDepth 100000 in
theorem J_X2_untoldAmount {G : jG} {l : Launch} {d : Nat} {X : jX} {res : Int32} (K : jOK G l mX2_untoldAmount (d + 1) X) (n : Nat) (h : jH) (E : jEnd G mX2_untoldAmount (jPR h res) X) (x0 : Int32) (a1 : Nat) (x2 : Int32) (hf : F_X2_untoldAmount n x0 a1 x2 h = some res) : jJ G X h 0 0 0 [some (.int x0), some (.ref a1), some (.int x2)] [] := by
  unfold F_X2_untoldAmount at hf
  refine jr_iload_n K (D_at DX2_untoldAmount 0 rfl) rfl rfl ?_
  refine jr_if_ne K (D_at DX2_untoldAmount 1 rfl) (tgt := 22) (by decide) (fun c1 => ?_) (fun c1 => ?_)
  · replace hf := (if_neg c1).symm.trans hf
    refine jr_iload_n K (D_at DX2_untoldAmount 12 rfl) rfl rfl ?_
    refine jr_iconst K (D_at DX2_untoldAmount 13 rfl) (v := (1 : Int32)) (by decide) ?_
    refine jr_icmp_ne K (D_at DX2_untoldAmount 14 rfl) (tgt := 32) (by decide) (fun c24 => ?_) (fun c24 => ?_)
    · replace hf := (if_neg c24).symm.trans hf
      refine jr_iconst K (D_at DX2_untoldAmount 17 rfl) (v := (0 : Int32)) (by decide) ?_
      cases hf
      exact jr_iret K E (D_at DX2_untoldAmount 18 rfl) rfl ⟨rfl, rfl⟩
    · replace hf := (if_pos c24).symm.trans hf
      refine jr_bipush K (D_at DX2_untoldAmount 15 rfl) (v := (10 : Int32)) (by decide) ?_
      refine jr_goto K (D_at DX2_untoldAmount 16 rfl) (tgt := 33) (by decide) ?_
      cases hf
      exact jr_iret K E (D_at DX2_untoldAmount 18 rfl) rfl ⟨rfl, rfl⟩
  · replace hf := (if_pos c1).symm.trans hf
    refine jr_aload_n K (D_at DX2_untoldAmount 2 rfl) rfl rfl ?_
    refine jr_iload_n K (D_at DX2_untoldAmount 3 rfl) rfl rfl ?_
    refine jr_aload_n K (D_at DX2_untoldAmount 4 rfl) rfl rfl ?_
    obtain ⟨v7, e7, hf⟩ := jbind hf
    refine jr_getI K (D_at DX2_untoldAmount 5 rfl) fg_X2_52_6 e7 ?_
    obtain ⟨v10, e10, hf⟩ := jbind hf
    obtain ⟨rc_10, e10⟩ := jcv_o e10
    refine jr_callV K (C_X8_isLit (d) e10) (D_at DX2_untoldAmount 6 rfl) cv_X2_57_X8_isLit (As := [.int x2, .int v7]) (ci := 6) rfl rc_10 rfl rfl (by exact Nat.le_of_ble_eq_true rfl) (kc2 := 0) (ks2 := 0) rfl rfl (fun k9 h9 w9 => by cases w9.1) (fun r9 h9 w9 => ?_)
    obtain ⟨w1, w2⟩ := w9
    subst h9
    cases w1
    show jJ G X _ 0 0 _ _ (.int v10 :: _)
    refine jr_if_eq K (D_at DX2_untoldAmount 7 rfl) (tgt := 20) (by decide) (fun c13 => ?_) (fun c13 => ?_)
    · replace hf := (if_pos c13).symm.trans hf
      refine jr_iconst K (D_at DX2_untoldAmount 10 rfl) (v := (0 : Int32)) (by decide) ?_
      cases hf
      exact jr_iret K E (D_at DX2_untoldAmount 11 rfl) rfl ⟨rfl, rfl⟩
    · replace hf := (if_neg c13).symm.trans hf
      refine jr_iconst K (D_at DX2_untoldAmount 8 rfl) (v := (1 : Int32)) (by decide) ?_
      refine jr_goto K (D_at DX2_untoldAmount 9 rfl) (tgt := 21) (by decide) ?_
      cases hf
      exact jr_iret K E (D_at DX2_untoldAmount 11 rfl) rfl ⟨rfl, rfl⟩
theorem C_X2_untoldAmount {G : jG} {l : Launch} (d : Nat) {n : Nat} {x0 : Int32} {a1 : Nat} {x2 : Int32} {h : jH} {res : Int32} (hf : F_X2_untoldAmount n x0 a1 x2 h = some res) : jC G l mX2_untoldAmount (d + 1) 0 0 [.int x0, .ref a1, .int x2] h (jPR h res) :=
  jC.of (by decide +kernel) (jcats rfl) (Nat.le_of_ble_eq_true rfl) (fun X K E => J_X2_untoldAmount K n h E x0 a1 x2 hf)
set_option maxHeartbeats 400000 in
set_option maxRecDepth 100000 in
theorem J_X2_isValue {G : jG} {l : Launch} {d : Nat} {X : jX} {res : Int32} (K : jOK G l mX2_isValue (d) X) (n : Nat) (h : jH) (E : jEnd G mX2_isValue (jPR h res) X) (x0 : Int32) (hf : F_X2_isValue n x0 h = some res) : jJ G X h 0 0 0 [some (.int x0)] [] := by
  unfold F_X2_isValue at hf
  refine jr_iload_n K (D_at DX2_isValue 0 rfl) rfl rfl ?_
  refine jr_sipush K (D_at DX2_isValue 1 rfl) (v := (256 : Int32)) (by decide) ?_
  refine jr_icmp_ge K (D_at DX2_isValue 2 rfl) (tgt := 13) (by decide) (fun c4 => ?_) (fun c4 => ?_)
  · replace hf := (if_pos c4).symm.trans hf
    refine jr_iconst K (D_at DX2_isValue 6 rfl) (v := (1 : Int32)) (by decide) ?_
    refine jr_goto K (D_at DX2_isValue 7 rfl) (tgt := 18) (by decide) ?_
    cases hf
    exact jr_zret K E (D_at DX2_isValue 9 rfl) rfl (Or.inr rfl) ⟨rfl, rfl⟩
  · replace hf := (if_neg c4).symm.trans hf
    refine jr_iload_n K (D_at DX2_isValue 3 rfl) rfl rfl ?_
    refine jr_bipush K (D_at DX2_isValue 4 rfl) (v := (10 : Int32)) (by decide) ?_
    refine jr_icmp_gt K (D_at DX2_isValue 5 rfl) (tgt := 17) (by decide) (fun c10 => ?_) (fun c10 => ?_)
    · replace hf := (if_pos c10).symm.trans hf
      refine jr_iconst K (D_at DX2_isValue 8 rfl) (v := (0 : Int32)) (by decide) ?_
      cases hf
      exact jr_zret K E (D_at DX2_isValue 9 rfl) rfl (Or.inl rfl) ⟨rfl, rfl⟩
    · replace hf := (if_neg c10).symm.trans hf
      refine jr_iconst K (D_at DX2_isValue 6 rfl) (v := (1 : Int32)) (by decide) ?_
      refine jr_goto K (D_at DX2_isValue 7 rfl) (tgt := 18) (by decide) ?_
      cases hf
      exact jr_zret K E (D_at DX2_isValue 9 rfl) rfl (Or.inr rfl) ⟨rfl, rfl⟩
theorem C_X2_isValue {G : jG} {l : Launch} (d : Nat) {n : Nat} {x0 : Int32} {h : jH} {res : Int32} (hf : F_X2_isValue n x0 h = some res) : jC G l mX2_isValue (d) 0 0 [.int x0] h (jPR h res) :=
  jC.of (by decide +kernel) (jcats rfl) (Nat.le_of_ble_eq_true rfl) (fun X K E => J_X2_isValue K n h E x0 hf)
set_option maxHeartbeats 400000 in
set_option maxRecDepth 100000 in
theorem J_X8_gap {G : jG} {l : Launch} {d : Nat} {X : jX} {res : Int32} (K : jOK G l mX8_gap (d) X) (n : Nat) (h : jH) (E : jEnd G mX8_gap (jPR h res) X) (a0 : Nat) (x1 : Int32) (x2 : Int32) (hf : F_X8_gap n a0 x1 x2 h = some res) : jJ G X h 0 0 0 [some (.ref a0), some (.int x1), some (.int x2)] [] := by
  unfold F_X8_gap at hf
  refine jr_iload_n K (D_at DX8_gap 0 rfl) rfl rfl ?_
  refine jr_if_lt K (D_at DX8_gap 1 rfl) (tgt := 14) (by decide) (fun c1 => ?_) (fun c1 => ?_)
  · replace hf := (if_pos c1).symm.trans hf
    refine jr_iload_n K (D_at DX8_gap 8 rfl) rfl rfl ?_
    refine jr_goto K (D_at DX8_gap 9 rfl) (tgt := 33) (by decide) ?_
    cases hf
    exact jr_iret K E (D_at DX8_gap 21 rfl) rfl ⟨rfl, rfl⟩
  · replace hf := (if_neg c1).symm.trans hf
    refine jr_iload_n K (D_at DX8_gap 2 rfl) rfl rfl ?_
    refine jr_aload_n K (D_at DX8_gap 3 rfl) rfl rfl ?_
    obtain ⟨v6, e6, hf⟩ := jbind hf
    refine jr_getI K (D_at DX8_gap 4 rfl) fg_X8_51_6 e6 ?_
    refine jr_iconst K (D_at DX8_gap 5 rfl) (v := (1 : Int32)) (by decide) ?_
    refine jr_isub K (D_at DX8_gap 6 rfl) ?_
    refine jr_icmp_lt K (D_at DX8_gap 7 rfl) (tgt := 18) (by decide) (fun c11 => ?_) (fun c11 => ?_)
    · replace hf := (if_pos c11).symm.trans hf
      refine jr_aload_n K (D_at DX8_gap 10 rfl) rfl rfl ?_
      obtain ⟨p19, e19, hf⟩ := jbind hf
      refine jr_getR K (D_at DX8_gap 11 rfl) fg_X8_9_6 e19 ?_
      refine jr_iload_n K (D_at DX8_gap 12 rfl) rfl rfl ?_
      refine jr_iconst K (D_at DX8_gap 13 rfl) (v := (1 : Int32)) (by decide) ?_
      refine jr_iadd K (D_at DX8_gap 14 rfl) ?_
      obtain ⟨v25, e25, hf⟩ := jbind hf
      refine jr_iald K (D_at DX8_gap 15 rfl) e25 ?_
      refine jr_aload_n K (D_at DX8_gap 16 rfl) rfl rfl ?_
      obtain ⟨p27, e27, hf⟩ := jbind hf
      refine jr_getR K (D_at DX8_gap 17 rfl) fg_X8_9_6 e27 ?_
      refine jr_iload_n K (D_at DX8_gap 18 rfl) rfl rfl ?_
      obtain ⟨v31, e31, hf⟩ := jbind hf
      refine jr_iald K (D_at DX8_gap 19 rfl) e31 ?_
      refine jr_isub K (D_at DX8_gap 20 rfl) ?_
      cases hf
      exact jr_iret K E (D_at DX8_gap 21 rfl) rfl ⟨rfl, rfl⟩
    · replace hf := (if_neg c11).symm.trans hf
      refine jr_iload_n K (D_at DX8_gap 8 rfl) rfl rfl ?_
      refine jr_goto K (D_at DX8_gap 9 rfl) (tgt := 33) (by decide) ?_
      cases hf
      exact jr_iret K E (D_at DX8_gap 21 rfl) rfl ⟨rfl, rfl⟩
theorem C_X8_gap {G : jG} {l : Launch} (d : Nat) {n : Nat} {a0 : Nat} {x1 : Int32} {x2 : Int32} {h : jH} {res : Int32} (hf : F_X8_gap n a0 x1 x2 h = some res) : jC G l mX8_gap (d) 0 0 [.ref a0, .int x1, .int x2] h (jPR h res) :=
  jC.of (by decide +kernel) (jcats rfl) (Nat.le_of_ble_eq_true rfl) (fun X K E => J_X8_gap K n h E a0 x1 x2 hf)
set_option maxHeartbeats 400000 in
set_option maxRecDepth 100000 in
theorem J_X11_bit {G : jG} {l : Launch} {d : Nat} {X : jX} {res : Int32} (K : jOK G l mX11_bit (d) X) (n : Nat) (h : jH) (E : jEnd G mX11_bit (jPR h res) X) (x0 : Int32) (x1 : Int32) (hf : F_X11_bit n x0 x1 h = some res) : jJ G X h 0 0 0 [some (.int x0), some (.int x1)] [] := by
  unfold F_X11_bit at hf
  refine jr_iload_n K (D_at DX11_bit 0 rfl) rfl rfl ?_
  refine jr_iload_n K (D_at DX11_bit 1 rfl) rfl rfl ?_
  refine jr_iushr K (D_at DX11_bit 2 rfl) (v := jushr x0 x1) rfl ?_
  refine jr_iconst K (D_at DX11_bit 3 rfl) (v := (1 : Int32)) (by decide) ?_
  refine jr_iand K (D_at DX11_bit 4 rfl) ?_
  cases hf
  exact jr_iret K E (D_at DX11_bit 5 rfl) rfl ⟨rfl, rfl⟩
theorem C_X11_bit {G : jG} {l : Launch} (d : Nat) {n : Nat} {x0 : Int32} {x1 : Int32} {h : jH} {res : Int32} (hf : F_X11_bit n x0 x1 h = some res) : jC G l mX11_bit (d) 0 0 [.int x0, .int x1] h (jPR h res) :=
  jC.of (by decide +kernel) (jcats rfl) (Nat.le_of_ble_eq_true rfl) (fun X K E => J_X11_bit K n h E x0 x1 hf)
set_option maxHeartbeats 400000 in
set_option maxRecDepth 100000 in
theorem J_X2_value {G : jG} {l : Launch} {d : Nat} {X : jX} {res : Int32} (K : jOK G l mX2_value (d + 1) X) (n : Nat) (h : jH) (E : jEnd G mX2_value (jPR h res) X) (x0 : Int32) (a1 : Nat) (x2 : Int32) (hf : F_X2_value n x0 a1 x2 h = some res) : jJ G X h 0 0 0 [some (.int x0), some (.ref a1), some (.int x2)] [] := by
  unfold F_X2_value at hf
  refine jr_iload_n K (D_at DX2_value 0 rfl) rfl rfl ?_
  by_cases c1_0 : x0 = (0 : Int32)
  · replace hf := (if_pos c1_0).symm.trans hf
    refine jr_tableIn K (D_at DX2_value 1 rfl) (off := 59) (tgt := 60) (by rw [c1_0]; decide) (by rw [c1_0]; decide) (by rw [c1_0]; decide) (by decide) ?_
    refine jr_iload_n K (D_at DX2_value 2 rfl) rfl rfl ?_
    cases hf
    exact jr_iret K E (D_at DX2_value 3 rfl) rfl ⟨rfl, rfl⟩
  replace hf := (if_neg c1_0).symm.trans hf
  by_cases c1_1 : x0 = (1 : Int32)
  · replace hf := (if_pos c1_1).symm.trans hf
    refine jr_tableIn K (D_at DX2_value 1 rfl) (off := 61) (tgt := 62) (by rw [c1_1]; decide) (by rw [c1_1]; decide) (by rw [c1_1]; decide) (by decide) ?_
    refine jr_aload_n K (D_at DX2_value 4 rfl) rfl rfl ?_
    obtain ⟨p63, e63, hf⟩ := jbind hf
    refine jr_getR K (D_at DX2_value 5 rfl) fg_X2_85_6 e63 ?_
    refine jr_iload_n K (D_at DX2_value 6 rfl) rfl rfl ?_
    obtain ⟨v67, e67, hf⟩ := jbind hf
    refine jr_iald K (D_at DX2_value 7 rfl) e67 ?_
    cases hf
    exact jr_iret K E (D_at DX2_value 8 rfl) rfl ⟨rfl, rfl⟩
  replace hf := (if_neg c1_1).symm.trans hf
  by_cases c1_2 : x0 = (2 : Int32)
  · replace hf := (if_pos c1_2).symm.trans hf
    refine jr_tableIn K (D_at DX2_value 1 rfl) (off := 68) (tgt := 69) (by rw [c1_2]; decide) (by rw [c1_2]; decide) (by rw [c1_2]; decide) (by decide) ?_
    refine jr_aload_n K (D_at DX2_value 9 rfl) rfl rfl ?_
    refine jr_iload_n K (D_at DX2_value 10 rfl) rfl rfl ?_
    refine jr_bipush K (D_at DX2_value 11 rfl) (v := (99 : Int32)) (by decide) ?_
    obtain ⟨v73, e73, hf⟩ := jbind hf
    obtain ⟨rc_73, e73⟩ := jcv_o e73
    refine jr_callV K (C_X8_gap (d) e73) (D_at DX2_value 12 rfl) cv_X2_88_X8_gap (As := [.int x2, .int (99 : Int32)]) (ci := 6) rfl rc_73 rfl rfl (by exact Nat.le_of_ble_eq_true rfl) (kc2 := 0) (ks2 := 0) rfl rfl (fun k9 h9 w9 => by cases w9.1) (fun r9 h9 w9 => ?_)
    obtain ⟨w1, w2⟩ := w9
    subst h9
    cases w1
    show jJ G X _ 0 0 _ _ (.int v73 :: _)
    cases hf
    exact jr_iret K E (D_at DX2_value 13 rfl) rfl ⟨rfl, rfl⟩
  replace hf := (if_neg c1_2).symm.trans hf
  by_cases c1_3 : x0 = (3 : Int32)
  · replace hf := (if_pos c1_3).symm.trans hf
    refine jr_tableIn K (D_at DX2_value 1 rfl) (off := 76) (tgt := 77) (by rw [c1_3]; decide) (by rw [c1_3]; decide) (by rw [c1_3]; decide) (by decide) ?_
    refine jr_aload_n K (D_at DX2_value 14 rfl) rfl rfl ?_
    obtain ⟨p78, e78, hf⟩ := jbind hf
    refine jr_getR K (D_at DX2_value 15 rfl) fg_X2_92_6 e78 ?_
    refine jr_iload_n K (D_at DX2_value 16 rfl) rfl rfl ?_
    obtain ⟨v82, e82, hf⟩ := jbind hf
    refine jr_iald K (D_at DX2_value 17 rfl) e82 ?_
    cases hf
    exact jr_iret K E (D_at DX2_value 18 rfl) rfl ⟨rfl, rfl⟩
  replace hf := (if_neg c1_3).symm.trans hf
  by_cases c1_4 : x0 = (4 : Int32)
  · replace hf := (if_pos c1_4).symm.trans hf
    refine jr_tableIn K (D_at DX2_value 1 rfl) (off := 83) (tgt := 84) (by rw [c1_4]; decide) (by rw [c1_4]; decide) (by rw [c1_4]; decide) (by decide) ?_
    refine jr_aload_n K (D_at DX2_value 19 rfl) rfl rfl ?_
    obtain ⟨p85, e85, hf⟩ := jbind hf
    refine jr_getR K (D_at DX2_value 20 rfl) fg_X2_95_6 e85 ?_
    refine jr_iload_n K (D_at DX2_value 21 rfl) rfl rfl ?_
    obtain ⟨v89, e89, hf⟩ := jbind hf
    refine jr_iald K (D_at DX2_value 22 rfl) e89 ?_
    cases hf
    exact jr_iret K E (D_at DX2_value 23 rfl) rfl ⟨rfl, rfl⟩
  replace hf := (if_neg c1_4).symm.trans hf
  by_cases c1_5 : x0 = (5 : Int32)
  · replace hf := (if_pos c1_5).symm.trans hf
    refine jr_tableIn K (D_at DX2_value 1 rfl) (off := 90) (tgt := 91) (by rw [c1_5]; decide) (by rw [c1_5]; decide) (by rw [c1_5]; decide) (by decide) ?_
    refine jr_aload_n K (D_at DX2_value 24 rfl) rfl rfl ?_
    obtain ⟨v92, e92, hf⟩ := jbind hf
    refine jr_getI K (D_at DX2_value 25 rfl) fg_X2_52_6 e92 ?_
    cases hf
    exact jr_iret K E (D_at DX2_value 26 rfl) rfl ⟨rfl, rfl⟩
  replace hf := (if_neg c1_5).symm.trans hf
  by_cases c1_6 : x0 = (6 : Int32)
  · replace hf := (if_pos c1_6).symm.trans hf
    refine jr_tableIn K (D_at DX2_value 1 rfl) (off := 95) (tgt := 96) (by rw [c1_6]; decide) (by rw [c1_6]; decide) (by rw [c1_6]; decide) (by decide) ?_
    refine jr_aload_n K (D_at DX2_value 27 rfl) rfl rfl ?_
    obtain ⟨v97, e97, hf⟩ := jbind hf
    refine jr_getI K (D_at DX2_value 28 rfl) fg_X2_98_6 e97 ?_
    cases hf
    exact jr_iret K E (D_at DX2_value 29 rfl) rfl ⟨rfl, rfl⟩
  replace hf := (if_neg c1_6).symm.trans hf
  by_cases c1_7 : x0 = (7 : Int32)
  · replace hf := (if_pos c1_7).symm.trans hf
    refine jr_tableIn K (D_at DX2_value 1 rfl) (off := 100) (tgt := 101) (by rw [c1_7]; decide) (by rw [c1_7]; decide) (by rw [c1_7]; decide) (by decide) ?_
    refine jr_aload_n K (D_at DX2_value 30 rfl) rfl rfl ?_
    obtain ⟨v102, e102, hf⟩ := jbind hf
    refine jr_getI K (D_at DX2_value 31 rfl) fg_X2_101_6 e102 ?_
    refine jr_iload_n K (D_at DX2_value 32 rfl) rfl rfl ?_
    obtain ⟨v106, e106, hf⟩ := jbind hf
    refine jr_callSN K (C_X11_bit (d) e106) (D_at DX2_value 33 rfl) csn_X2_104_X11_bit (As := [.int v102, .int x2]) rfl rfl (by exact Nat.le_of_ble_eq_true rfl) (kc2 := 0) (ks2 := 0) rfl rfl (fun k9 h9 w9 => by cases w9.1) (fun r9 h9 w9 => ?_)
    obtain ⟨w1, w2⟩ := w9
    subst h9
    cases w1
    show jJ G X _ 0 0 _ _ (.int v106 :: _)
    cases hf
    exact jr_iret K E (D_at DX2_value 34 rfl) rfl ⟨rfl, rfl⟩
  replace hf := (if_neg c1_7).symm.trans hf
  by_cases c1_8 : x0 = (8 : Int32)
  · replace hf := (if_pos c1_8).symm.trans hf
    refine jr_tableIn K (D_at DX2_value 1 rfl) (off := 109) (tgt := 110) (by rw [c1_8]; decide) (by rw [c1_8]; decide) (by rw [c1_8]; decide) (by decide) ?_
    refine jr_aload_n K (D_at DX2_value 35 rfl) rfl rfl ?_
    obtain ⟨v111, e111, hf⟩ := jbind hf
    refine jr_getI K (D_at DX2_value 36 rfl) fg_X2_107_6 e111 ?_
    refine jr_iload_n K (D_at DX2_value 37 rfl) rfl rfl ?_
    obtain ⟨v115, e115, hf⟩ := jbind hf
    refine jr_callSN K (C_X11_bit (d) e115) (D_at DX2_value 38 rfl) csn_X2_104_X11_bit (As := [.int v111, .int x2]) rfl rfl (by exact Nat.le_of_ble_eq_true rfl) (kc2 := 0) (ks2 := 0) rfl rfl (fun k9 h9 w9 => by cases w9.1) (fun r9 h9 w9 => ?_)
    obtain ⟨w1, w2⟩ := w9
    subst h9
    cases w1
    show jJ G X _ 0 0 _ _ (.int v115 :: _)
    cases hf
    exact jr_iret K E (D_at DX2_value 39 rfl) rfl ⟨rfl, rfl⟩
  replace hf := (if_neg c1_8).symm.trans hf
  by_cases c1_9 : x0 = (9 : Int32)
  · replace hf := (if_pos c1_9).symm.trans hf
    refine jr_tableIn K (D_at DX2_value 1 rfl) (off := 118) (tgt := 119) (by rw [c1_9]; decide) (by rw [c1_9]; decide) (by rw [c1_9]; decide) (by decide) ?_
    refine jr_aload_n K (D_at DX2_value 40 rfl) rfl rfl ?_
    refine jr_iload_n K (D_at DX2_value 41 rfl) rfl rfl ?_
    refine jr_aload_n K (D_at DX2_value 42 rfl) rfl rfl ?_
    obtain ⟨v122, e122, hf⟩ := jbind hf
    refine jr_getI K (D_at DX2_value 43 rfl) fg_X2_52_6 e122 ?_
    obtain ⟨v125, e125, hf⟩ := jbind hf
    obtain ⟨rc_125, e125⟩ := jcv_o e125
    refine jr_callV K (C_X8_isLit (d) e125) (D_at DX2_value 44 rfl) cv_X2_57_X8_isLit (As := [.int x2, .int v122]) (ci := 6) rfl rc_125 rfl rfl (by exact Nat.le_of_ble_eq_true rfl) (kc2 := 0) (ks2 := 0) rfl rfl (fun k9 h9 w9 => by cases w9.1) (fun r9 h9 w9 => ?_)
    obtain ⟨w1, w2⟩ := w9
    subst h9
    cases w1
    show jJ G X _ 0 0 _ _ (.int v125 :: _)
    refine jr_if_eq K (D_at DX2_value 45 rfl) (tgt := 135) (by decide) (fun c128 => ?_) (fun c128 => ?_)
    · replace hf := (if_pos c128).symm.trans hf
      refine jr_iconst K (D_at DX2_value 48 rfl) (v := (0 : Int32)) (by decide) ?_
      cases hf
      exact jr_iret K E (D_at DX2_value 49 rfl) rfl ⟨rfl, rfl⟩
    · replace hf := (if_neg c128).symm.trans hf
      refine jr_iconst K (D_at DX2_value 46 rfl) (v := (1 : Int32)) (by decide) ?_
      refine jr_goto K (D_at DX2_value 47 rfl) (tgt := 136) (by decide) ?_
      cases hf
      exact jr_iret K E (D_at DX2_value 49 rfl) rfl ⟨rfl, rfl⟩
  replace hf := (if_neg c1_9).symm.trans hf
  by_cases c1_10 : x0 = (10 : Int32)
  · replace hf := (if_pos c1_10).symm.trans hf
    refine jr_tableIn K (D_at DX2_value 1 rfl) (off := 136) (tgt := 137) (by rw [c1_10]; decide) (by rw [c1_10]; decide) (by rw [c1_10]; decide) (by decide) ?_
    refine jr_aload_n K (D_at DX2_value 50 rfl) rfl rfl ?_
    obtain ⟨v138, e138, hf⟩ := jbind hf
    refine jr_getI K (D_at DX2_value 51 rfl) fg_X2_110_6 e138 ?_
    refine jr_iload_n K (D_at DX2_value 52 rfl) rfl rfl ?_
    obtain ⟨v142, e142, hf⟩ := jbind hf
    refine jr_callSN K (C_X11_bit (d) e142) (D_at DX2_value 53 rfl) csn_X2_104_X11_bit (As := [.int v138, .int x2]) rfl rfl (by exact Nat.le_of_ble_eq_true rfl) (kc2 := 0) (ks2 := 0) rfl rfl (fun k9 h9 w9 => by cases w9.1) (fun r9 h9 w9 => ?_)
    obtain ⟨w1, w2⟩ := w9
    subst h9
    cases w1
    show jJ G X _ 0 0 _ _ (.int v142 :: _)
    cases hf
    exact jr_iret K E (D_at DX2_value 54 rfl) rfl ⟨rfl, rfl⟩
  replace hf := (if_neg c1_10).symm.trans hf
  have w1_0 := lv_neT c1_0 (a := 0) (by decide)
  have w1_1 := lv_neT c1_1 (a := 1) (by decide)
  have w1_2 := lv_neT c1_2 (a := 2) (by decide)
  have w1_3 := lv_neT c1_3 (a := 3) (by decide)
  have w1_4 := lv_neT c1_4 (a := 4) (by decide)
  have w1_5 := lv_neT c1_5 (a := 5) (by decide)
  have w1_6 := lv_neT c1_6 (a := 6) (by decide)
  have w1_7 := lv_neT c1_7 (a := 7) (by decide)
  have w1_8 := lv_neT c1_8 (a := 8) (by decide)
  have w1_9 := lv_neT c1_9 (a := 9) (by decide)
  have w1_10 := lv_neT c1_10 (a := 10) (by decide)
  refine jr_tableOut K (D_at DX2_value 1 rfl) (tgt := 146) (by omega) (by decide) ?_
  refine jr_iload_n K (D_at DX2_value 55 rfl) rfl rfl ?_
  refine jr_sipush K (D_at DX2_value 56 rfl) (v := (256 : Int32)) (by decide) ?_
  refine jr_isub K (D_at DX2_value 57 rfl) ?_
  cases hf
  exact jr_iret K E (D_at DX2_value 58 rfl) rfl ⟨rfl, rfl⟩
theorem C_X2_value {G : jG} {l : Launch} (d : Nat) {n : Nat} {x0 : Int32} {a1 : Nat} {x2 : Int32} {h : jH} {res : Int32} (hf : F_X2_value n x0 a1 x2 h = some res) : jC G l mX2_value (d + 1) 0 0 [.int x0, .ref a1, .int x2] h (jPR h res) :=
  jC.of (by decide +kernel) (jcats rfl) (Nat.le_of_ble_eq_true rfl) (fun X K E => J_X2_value K n h E x0 a1 x2 hf)
set_option maxHeartbeats 400000 in
set_option maxRecDepth 100000 in
theorem J_X2_push {G : jG} {l : Launch} {d : Nat} {X : jX} {res : jH} (K : jOK G l mX2_push (d) X) (n : Nat) (E : jEnd G mX2_push (jPV res) X) (a0 : Nat) (x1 : Int32) (h : jH) (hf : F_X2_push n a0 x1 h = some res) : jJ G X h 0 0 0 [some (.ref a0), some (.int x1)] [] := by
  unfold F_X2_push at hf
  refine jr_aload_n K (D_at DX2_push 0 rfl) rfl rfl ?_
  obtain ⟨v1, e1, hf⟩ := jbind hf
  refine jr_getI K (D_at DX2_push 1 rfl) fg_X2_61_2 e1 ?_
  refine jr_bipush K (D_at DX2_push 2 rfl) (v := (24 : Int32)) (by decide) ?_
  refine jr_icmp_ge K (D_at DX2_push 3 rfl) (tgt := 29) (by decide) (fun c6 => ?_) (fun c6 => ?_)
  · replace hf := (if_pos c6).symm.trans hf
    cases hf
    exact jr_vret K E (D_at DX2_push 16 rfl) rfl ⟨rfl, rfl⟩
  · replace hf := (if_neg c6).symm.trans hf
    refine jr_aload_n K (D_at DX2_push 4 rfl) rfl rfl ?_
    obtain ⟨p10, e10, hf⟩ := jbind hf
    refine jr_getR K (D_at DX2_push 5 rfl) fg_X2_24_2 e10 ?_
    refine jr_aload_n K (D_at DX2_push 6 rfl) rfl rfl ?_
    obtain ⟨v14, e14, hf⟩ := jbind hf
    refine jr_getI K (D_at DX2_push 7 rfl) fg_X2_61_2 e14 ?_
    refine jr_iload_n K (D_at DX2_push 8 rfl) rfl rfl ?_
    obtain ⟨h18, e18, hf⟩ := jbind hf
    refine jr_iast K (D_at DX2_push 9 rfl) e18 ?_
    refine jr_aload_n K (D_at DX2_push 10 rfl) rfl rfl ?_
    refine jr_dup K (D_at DX2_push 11 rfl) rfl ?_
    obtain ⟨v21, e21, hf⟩ := jbind hf
    refine jr_getI K (D_at DX2_push 12 rfl) fg_X2_61_2 e21 ?_
    refine jr_iconst K (D_at DX2_push 13 rfl) (v := (1 : Int32)) (by decide) ?_
    refine jr_iadd K (D_at DX2_push 14 rfl) ?_
    obtain ⟨h26, e26, hf⟩ := jbind hf
    refine jr_putI K (D_at DX2_push 15 rfl) fp_X2_61_2 (Or.inl rfl) e26 ?_
    cases hf
    exact jr_vret K E (D_at DX2_push 16 rfl) rfl ⟨rfl, rfl⟩
theorem C_X2_push {G : jG} {l : Launch} (d : Nat) {n : Nat} {a0 : Nat} {x1 : Int32} {h : jH} {res : jH} (hf : F_X2_push n a0 x1 h = some res) : jC G l mX2_push (d) 0 0 [.ref a0, .int x1] h (jPV res) :=
  jC.of (by decide +kernel) (jcats rfl) (Nat.le_of_ble_eq_true rfl) (fun X K E => J_X2_push K n E a0 x1 h hf)
set_option maxHeartbeats 400000 in
set_option maxRecDepth 100000 in
theorem J_X2_pop {G : jG} {l : Launch} {d : Nat} {X : jX} {res : (Int32 × jH)} (K : jOK G l mX2_pop (d) X) (n : Nat) (E : jEnd G mX2_pop (jPW res) X) (a0 : Nat) (h : jH) (hf : F_X2_pop n a0 h = some res) : jJ G X h 0 0 0 [some (.ref a0)] [] := by
  unfold F_X2_pop at hf
  refine jr_aload_n K (D_at DX2_pop 0 rfl) rfl rfl ?_
  obtain ⟨v1, e1, hf⟩ := jbind hf
  refine jr_getI K (D_at DX2_pop 1 rfl) fg_X2_61_2 e1 ?_
  refine jr_if_gt K (D_at DX2_pop 2 rfl) (tgt := 9) (by decide) (fun c4 => ?_) (fun c4 => ?_)
  · replace hf := (if_pos c4).symm.trans hf
    refine jr_aload_n K (D_at DX2_pop 5 rfl) rfl rfl ?_
    refine jr_dup K (D_at DX2_pop 6 rfl) rfl ?_
    obtain ⟨v11, e11, hf⟩ := jbind hf
    refine jr_getI K (D_at DX2_pop 7 rfl) fg_X2_61_2 e11 ?_
    refine jr_iconst K (D_at DX2_pop 8 rfl) (v := (1 : Int32)) (by decide) ?_
    refine jr_isub K (D_at DX2_pop 9 rfl) ?_
    obtain ⟨h16, e16, hf⟩ := jbind hf
    refine jr_putI K (D_at DX2_pop 10 rfl) fp_X2_61_2 (Or.inl rfl) e16 ?_
    refine jr_aload_n K (D_at DX2_pop 11 rfl) rfl rfl ?_
    obtain ⟨p20, e20, hf⟩ := jbind hf
    refine jr_getR K (D_at DX2_pop 12 rfl) fg_X2_24_2 e20 ?_
    refine jr_aload_n K (D_at DX2_pop 13 rfl) rfl rfl ?_
    obtain ⟨v24, e24, hf⟩ := jbind hf
    refine jr_getI K (D_at DX2_pop 14 rfl) fg_X2_61_2 e24 ?_
    obtain ⟨v27, e27, hf⟩ := jbind hf
    refine jr_iald K (D_at DX2_pop 15 rfl) e27 ?_
    cases hf
    exact jr_iret K E (D_at DX2_pop 16 rfl) rfl ⟨rfl, rfl⟩
  · replace hf := (if_neg c4).symm.trans hf
    refine jr_iconst K (D_at DX2_pop 3 rfl) (v := (0 : Int32)) (by decide) ?_
    cases hf
    exact jr_iret K E (D_at DX2_pop 4 rfl) rfl ⟨rfl, rfl⟩
theorem C_X2_pop {G : jG} {l : Launch} (d : Nat) {n : Nat} {a0 : Nat} {h : jH} {res : (Int32 × jH)} (hf : F_X2_pop n a0 h = some res) : jC G l mX2_pop (d) 0 0 [.ref a0] h (jPW res) :=
  jC.of (by decide +kernel) (jcats rfl) (Nat.le_of_ble_eq_true rfl) (fun X K E => J_X2_pop K n E a0 h hf)
set_option maxHeartbeats 400000 in
set_option maxRecDepth 100000 in
theorem J_X2_joined {G : jG} {l : Launch} {d : Nat} {X : jX} {res : Int32} (K : jOK G l mX2_joined (d) X) (n : Nat) (h : jH) (E : jEnd G mX2_joined (jPR h res) X) (x0 : Int32) (x1 : Int32) (x2 : Int32) (hf : F_X2_joined n x0 x1 x2 h = some res) : jJ G X h 0 0 0 [some (.int x0), some (.int x1), some (.int x2)] [] := by
  unfold F_X2_joined at hf
  refine jr_iload_n K (D_at DX2_joined 0 rfl) rfl rfl ?_
  by_cases c1_0 : x0 = (12 : Int32)
  · replace hf := (if_pos c1_0).symm.trans hf
    refine jr_lookup K (D_at DX2_joined 1 rfl) (off := 69) (tgt := 70) (by decide) (by rw [c1_0]; decide) (by decide) ?_
    refine jr_iload_n K (D_at DX2_joined 20 rfl) rfl rfl ?_
    refine jr_iload_n K (D_at DX2_joined 21 rfl) rfl rfl ?_
    refine jr_iand K (D_at DX2_joined 22 rfl) ?_
    cases hf
    exact jr_iret K E (D_at DX2_joined 23 rfl) rfl ⟨rfl, rfl⟩
  replace hf := (if_neg c1_0).symm.trans hf
  by_cases c1_1 : x0 = (43 : Int32)
  · replace hf := (if_pos c1_1).symm.trans hf
    refine jr_lookup K (D_at DX2_joined 1 rfl) (off := 43) (tgt := 44) (by decide) (by rw [c1_1]; decide) (by decide) ?_
    refine jr_iload_n K (D_at DX2_joined 2 rfl) rfl rfl ?_
    refine jr_iload_n K (D_at DX2_joined 3 rfl) rfl rfl ?_
    refine jr_iadd K (D_at DX2_joined 4 rfl) ?_
    cases hf
    exact jr_iret K E (D_at DX2_joined 5 rfl) rfl ⟨rfl, rfl⟩
  replace hf := (if_neg c1_1).symm.trans hf
  by_cases c1_2 : x0 = (60 : Int32)
  · replace hf := (if_pos c1_2).symm.trans hf
    refine jr_lookup K (D_at DX2_joined 1 rfl) (off := 47) (tgt := 48) (by decide) (by rw [c1_2]; decide) (by decide) ?_
    refine jr_iload_n K (D_at DX2_joined 6 rfl) rfl rfl ?_
    refine jr_iload_n K (D_at DX2_joined 7 rfl) rfl rfl ?_
    refine jr_icmp_ge K (D_at DX2_joined 8 rfl) (tgt := 57) (by decide) (fun c50 => ?_) (fun c50 => ?_)
    · replace hf := (if_pos c50).symm.trans hf
      refine jr_iconst K (D_at DX2_joined 11 rfl) (v := (0 : Int32)) (by decide) ?_
      cases hf
      exact jr_iret K E (D_at DX2_joined 12 rfl) rfl ⟨rfl, rfl⟩
    · replace hf := (if_neg c50).symm.trans hf
      refine jr_iconst K (D_at DX2_joined 9 rfl) (v := (1 : Int32)) (by decide) ?_
      refine jr_goto K (D_at DX2_joined 10 rfl) (tgt := 58) (by decide) ?_
      cases hf
      exact jr_iret K E (D_at DX2_joined 12 rfl) rfl ⟨rfl, rfl⟩
  replace hf := (if_neg c1_2).symm.trans hf
  by_cases c1_3 : x0 = (62 : Int32)
  · replace hf := (if_pos c1_3).symm.trans hf
    refine jr_lookup K (D_at DX2_joined 1 rfl) (off := 58) (tgt := 59) (by decide) (by rw [c1_3]; decide) (by decide) ?_
    refine jr_iload_n K (D_at DX2_joined 13 rfl) rfl rfl ?_
    refine jr_iload_n K (D_at DX2_joined 14 rfl) rfl rfl ?_
    refine jr_icmp_le K (D_at DX2_joined 15 rfl) (tgt := 68) (by decide) (fun c61 => ?_) (fun c61 => ?_)
    · replace hf := (if_pos c61).symm.trans hf
      refine jr_iconst K (D_at DX2_joined 18 rfl) (v := (0 : Int32)) (by decide) ?_
      cases hf
      exact jr_iret K E (D_at DX2_joined 19 rfl) rfl ⟨rfl, rfl⟩
    · replace hf := (if_neg c61).symm.trans hf
      refine jr_iconst K (D_at DX2_joined 16 rfl) (v := (1 : Int32)) (by decide) ?_
      refine jr_goto K (D_at DX2_joined 17 rfl) (tgt := 69) (by decide) ?_
      cases hf
      exact jr_iret K E (D_at DX2_joined 19 rfl) rfl ⟨rfl, rfl⟩
  replace hf := (if_neg c1_3).symm.trans hf
  refine jr_lookup K (D_at DX2_joined 1 rfl) (off := 73) (tgt := 74) (by decide) (by show Op.lookupswitch.offset [(12, 69), (43, 43), (60, 47), (62, 58)] 73 _ = _; rw [lv_osw c1_0 (a := 12) (by decide), lv_osw c1_1 (a := 43) (by decide), lv_osw c1_2 (a := 60) (by decide), lv_osw c1_3 (a := 62) (by decide)]; rfl) (by decide) ?_
  refine jr_iload_n K (D_at DX2_joined 24 rfl) rfl rfl ?_
  refine jr_iload_n K (D_at DX2_joined 25 rfl) rfl rfl ?_
  refine jr_ior K (D_at DX2_joined 26 rfl) ?_
  cases hf
  exact jr_iret K E (D_at DX2_joined 27 rfl) rfl ⟨rfl, rfl⟩
theorem C_X2_joined {G : jG} {l : Launch} (d : Nat) {n : Nat} {x0 : Int32} {x1 : Int32} {x2 : Int32} {h : jH} {res : Int32} (hf : F_X2_joined n x0 x1 x2 h = some res) : jC G l mX2_joined (d) 0 0 [.int x0, .int x1, .int x2] h (jPR h res) :=
  jC.of (by decide +kernel) (jcats rfl) (Nat.le_of_ble_eq_true rfl) (fun X K E => J_X2_joined K n h E x0 x1 x2 hf)
set_option maxHeartbeats 400000 in
set_option maxRecDepth 100000 in
theorem J_X2_holds_23_b {G : jG} {l : Launch} {d : Nat} {X : jX} {res : (Int32 × jH)} (K : jOK G l mX2_holds (d + 2) X) (n : Nat) (rc23 : Nat → Int32 → Nat → Int32 → Int32 → jH → Option (Int32 × jH)) (hr23 : ∀ (a0 : Nat) (x1 : Int32) (a2 : Nat) (x3 : Int32) (x4 : Int32) (h : jH), rc23 a0 x1 a2 x3 x4 h = some res → jJ G X h 0 0 23 [some (.ref a0), some (.int x1), some (.ref a2), some (.int x3), some (.int x4), none, none] []) (E : jEnd G mX2_holds (jPW res) X) (a0 : Nat) (x1 : Int32) (a2 : Nat) (x3 : Int32) (x4 : Int32) (h : jH) (hf : F_X2_holds_23_b n rc23 a0 x1 a2 x3 x4 h = some res) : jJ G X h 0 0 23 [some (.ref a0), some (.int x1), some (.ref a2), some (.int x3), some (.int x4), none, none] [] := by
  unfold F_X2_holds_23_b at hf
  refine jr_iload K (D_at DX2_holds 14 rfl) rfl ?_
  refine jr_aload_n K (D_at DX2_holds 15 rfl) rfl rfl ?_
  obtain ⟨p26, e26, hf⟩ := jbind hf
  refine jr_getR K (D_at DX2_holds 16 rfl) fg_X2_18_2 e26 ?_
  refine jr_iload_n K (D_at DX2_holds 17 rfl) rfl rfl ?_
  obtain ⟨v30, e30, hf⟩ := jbind hf
  refine jr_iald K (D_at DX2_holds 18 rfl) e30 ?_
  refine jr_icmp_ge K (D_at DX2_holds 19 rfl) (tgt := 112) (by decide) (fun c31 => ?_) (fun c31 => ?_)
  · replace hf := (if_pos c31).symm.trans hf
    refine jr_aload_n K (D_at DX2_holds 57 rfl) rfl rfl ?_
    obtain ⟨v113, e113, hf⟩ := jbind hf
    refine jr_getI K (D_at DX2_holds 58 rfl) fg_X2_61_2 e113 ?_
    refine jr_if_eq K (D_at DX2_holds 59 rfl) (tgt := 126) (by decide) (fun c116 => ?_) (fun c116 => ?_)
    · replace hf := (if_pos c116).symm.trans hf
      refine jr_iconst K (D_at DX2_holds 63 rfl) (v := (1 : Int32)) (by decide) ?_
      refine jr_goto K (D_at DX2_holds_1 0 rfl) (tgt := 131) (by decide) ?_
      cases hf
      exact jr_zret K E (D_at DX2_holds_1 2 rfl) rfl (Or.inr rfl) ⟨rfl, rfl⟩
    · replace hf := (if_neg c116).symm.trans hf
      refine jr_aload_n K (D_at DX2_holds 60 rfl) rfl rfl ?_
      obtain ⟨q120, e120, hf⟩ := jbind hf
      obtain ⟨rc_120, e120⟩ := jcv_o e120
      refine jr_callV K (C_X2_pop (d + 1) e120) (D_at DX2_holds 61 rfl) cv_X2_77_X2_pop (As := []) (ci := 2) rfl rc_120 rfl rfl (by exact Nat.le_of_ble_eq_true rfl) (kc2 := 0) (ks2 := 0) rfl rfl (fun k9 h9 w9 => by cases w9.1) (fun r9 h9 w9 => ?_)
      obtain ⟨w1, w2⟩ := w9
      subst h9
      cases w1
      show jJ G X _ 0 0 _ _ (.int q120.1 :: _)
      refine jr_if_eq K (D_at DX2_holds 62 rfl) (tgt := 130) (by decide) (fun c123 => ?_) (fun c123 => ?_)
      · replace hf := (if_pos c123).symm.trans hf
        refine jr_iconst K (D_at DX2_holds_1 1 rfl) (v := (0 : Int32)) (by decide) ?_
        cases hf
        exact jr_zret K E (D_at DX2_holds_1 2 rfl) rfl (Or.inl rfl) ⟨rfl, rfl⟩
      · replace hf := (if_neg c123).symm.trans hf
        refine jr_iconst K (D_at DX2_holds 63 rfl) (v := (1 : Int32)) (by decide) ?_
        refine jr_goto K (D_at DX2_holds_1 0 rfl) (tgt := 131) (by decide) ?_
        cases hf
        exact jr_zret K E (D_at DX2_holds_1 2 rfl) rfl (Or.inr rfl) ⟨rfl, rfl⟩
  · replace hf := (if_neg c31).symm.trans hf
    refine jr_aload_n K (D_at DX2_holds 20 rfl) rfl rfl ?_
    obtain ⟨p35, e35, hf⟩ := jbind hf
    refine jr_getR K (D_at DX2_holds 21 rfl) fg_X2_21_2 e35 ?_
    refine jr_iload K (D_at DX2_holds 22 rfl) rfl ?_
    obtain ⟨v40, e40, hf⟩ := jbind hf
    refine jr_iald K (D_at DX2_holds 23 rfl) e40 ?_
    refine jr_istore K (D_at DX2_holds 24 rfl) (i := 5) (by decide) (L2 := [_, _, _, _, _, _, _]) rfl ?_
    refine jr_iload K (D_at DX2_holds 25 rfl) rfl ?_
    obtain ⟨v45, e45, hf⟩ := jbind hf
    refine jr_callS K (C_X2_isValue (d + 1) e45) (D_at DX2_holds 26 rfl) cs_X2_64_X2_isValue (As := [.int v40]) rfl rfl (by exact Nat.le_of_ble_eq_true rfl) (kc2 := 0) (ks2 := 0) rfl rfl (fun k9 h9 w9 => by cases w9.1) (fun r9 h9 w9 => ?_)
    obtain ⟨w1, w2⟩ := w9
    subst h9
    cases w1
    show jJ G X _ 0 0 _ _ (.int v45 :: _)
    refine jr_if_eq K (D_at DX2_holds 27 rfl) (tgt := 65) (by decide) (fun c48 => ?_) (fun c48 => ?_)
    · replace hf := (if_pos c48).symm.trans hf
      refine jr_iload K (D_at DX2_holds 35 rfl) rfl ?_
      refine jr_bipush K (D_at DX2_holds 36 rfl) (v := (11 : Int32)) (by decide) ?_
      refine jr_icmp_ne K (D_at DX2_holds 37 rfl) (tgt := 85) (by decide) (fun c69 => ?_) (fun c69 => ?_)
      · replace hf := (if_neg c69).symm.trans hf
        refine jr_aload_n K (D_at DX2_holds 45 rfl) rfl rfl ?_
        obtain ⟨q86, e86, hf⟩ := jbind hf
        obtain ⟨rc_86, e86⟩ := jcv_o e86
        refine jr_callV K (C_X2_pop (d + 1) e86) (D_at DX2_holds 46 rfl) cv_X2_77_X2_pop (As := []) (ci := 2) rfl rc_86 rfl rfl (by exact Nat.le_of_ble_eq_true rfl) (kc2 := 0) (ks2 := 0) rfl rfl (fun k9 h9 w9 => by cases w9.1) (fun r9 h9 w9 => ?_)
        obtain ⟨w1, w2⟩ := w9
        subst h9
        cases w1
        show jJ G X _ 0 0 _ _ (.int q86.1 :: _)
        refine jr_istore K (D_at DX2_holds 47 rfl) (i := 6) (by decide) (L2 := [_, _, _, _, _, _, _]) rfl ?_
        refine jr_aload_n K (D_at DX2_holds 48 rfl) rfl rfl ?_
        refine jr_iload K (D_at DX2_holds 49 rfl) rfl ?_
        refine jr_aload_n K (D_at DX2_holds 50 rfl) rfl rfl ?_
        obtain ⟨q95, e95, hf⟩ := jbind hf
        obtain ⟨rc_95, e95⟩ := jcv_o e95
        refine jr_callV K (C_X2_pop (d + 1) e95) (D_at DX2_holds 51 rfl) cv_X2_77_X2_pop (As := []) (ci := 2) rfl rc_95 rfl rfl (by exact Nat.le_of_ble_eq_true rfl) (kc2 := 0) (ks2 := 0) rfl rfl (fun k9 h9 w9 => by cases w9.1) (fun r9 h9 w9 => ?_)
        obtain ⟨w1, w2⟩ := w9
        subst h9
        cases w1
        show jJ G X _ 0 0 _ _ (.int q95.1 :: _)
        refine jr_iload K (D_at DX2_holds 52 rfl) rfl ?_
        obtain ⟨v100, e100, hf⟩ := jbind hf
        refine jr_callS K (C_X2_joined (d + 1) e100) (D_at DX2_holds 53 rfl) cs_X2_81_X2_joined (As := [.int v40, .int q95.1, .int q86.1]) rfl rfl (by exact Nat.le_of_ble_eq_true rfl) (kc2 := 0) (ks2 := 0) rfl rfl (fun k9 h9 w9 => by cases w9.1) (fun r9 h9 w9 => ?_)
        obtain ⟨w1, w2⟩ := w9
        subst h9
        cases w1
        show jJ G X _ 0 0 _ _ (.int v100 :: _)
        obtain ⟨h103, e103, hf⟩ := jbind hf
        obtain ⟨rc_103, e103⟩ := jcv_o e103
        refine jr_callV K (C_X2_push (d + 1) e103) (D_at DX2_holds 54 rfl) cv_X2_71_X2_push (As := [.int v100]) (ci := 2) rfl rc_103 rfl rfl (by exact Nat.le_of_ble_eq_true rfl) (kc2 := 0) (ks2 := 0) rfl rfl (fun k9 h9 w9 => by cases w9.1) (fun r9 h9 w9 => ?_)
        obtain ⟨w1, w2⟩ := w9
        subst h9
        cases w1
        show jJ G X _ 0 0 _ _ []
        refine jr_iinc K (D_at DX2_holds 55 rfl) (i := 4) rfl (v := x4 + (1 : Int32)) (jinc (by decide)) (by decide) (L2 := [_, _, _, _, _, _, _]) rfl ?_
        refine jr_goto K (D_at DX2_holds 56 rfl) (tgt := 23) (by decide) ?_
        refine jr_keep [true, true, true, true, true, false, false] ?_
        exact hr23 a0 x1 a2 x3 (x4 + (1 : Int32)) h103 hf
      · replace hf := (if_pos c69).symm.trans hf
        refine jr_aload_n K (D_at DX2_holds 38 rfl) rfl rfl ?_
        refine jr_iconst K (D_at DX2_holds 39 rfl) (v := (1 : Int32)) (by decide) ?_
        refine jr_aload_n K (D_at DX2_holds 40 rfl) rfl rfl ?_
        obtain ⟨q75, e75, hf⟩ := jbind hf
        obtain ⟨rc_75, e75⟩ := jcv_o e75
        refine jr_callV K (C_X2_pop (d + 1) e75) (D_at DX2_holds 41 rfl) cv_X2_77_X2_pop (As := []) (ci := 2) rfl rc_75 rfl rfl (by exact Nat.le_of_ble_eq_true rfl) (kc2 := 0) (ks2 := 0) rfl rfl (fun k9 h9 w9 => by cases w9.1) (fun r9 h9 w9 => ?_)
        obtain ⟨w1, w2⟩ := w9
        subst h9
        cases w1
        show jJ G X _ 0 0 _ _ (.int q75.1 :: _)
        refine jr_isub K (D_at DX2_holds 42 rfl) ?_
        obtain ⟨h79, e79, hf⟩ := jbind hf
        obtain ⟨rc_79, e79⟩ := jcv_o e79
        refine jr_callV K (C_X2_push (d + 1) e79) (D_at DX2_holds 43 rfl) cv_X2_71_X2_push (As := [.int ((1 : Int32) - q75.1)]) (ci := 2) rfl rc_79 rfl rfl (by exact Nat.le_of_ble_eq_true rfl) (kc2 := 0) (ks2 := 0) rfl rfl (fun k9 h9 w9 => by cases w9.1) (fun r9 h9 w9 => ?_)
        obtain ⟨w1, w2⟩ := w9
        subst h9
        cases w1
        show jJ G X _ 0 0 _ _ []
        refine jr_goto K (D_at DX2_holds 44 rfl) (tgt := 106) (by decide) ?_
        refine jr_iinc K (D_at DX2_holds 55 rfl) (i := 4) rfl (v := x4 + (1 : Int32)) (jinc (by decide)) (by decide) (L2 := [_, _, _, _, _, _, _]) rfl ?_
        refine jr_goto K (D_at DX2_holds 56 rfl) (tgt := 23) (by decide) ?_
        refine jr_keep [true, true, true, true, true, false, false] ?_
        exact hr23 a0 x1 a2 x3 (x4 + (1 : Int32)) h79 hf
    · replace hf := (if_neg c48).symm.trans hf
      refine jr_aload_n K (D_at DX2_holds 28 rfl) rfl rfl ?_
      refine jr_iload K (D_at DX2_holds 29 rfl) rfl ?_
      refine jr_aload_n K (D_at DX2_holds 30 rfl) rfl rfl ?_
      refine jr_iload_n K (D_at DX2_holds 31 rfl) rfl rfl ?_
      obtain ⟨v56, e56, hf⟩ := jbind hf
      refine jr_callS K (C_X2_value (d) e56) (D_at DX2_holds 32 rfl) cs_X2_68_X2_value (As := [.int v40, .ref a2, .int x3]) rfl rfl (by exact Nat.le_of_ble_eq_true rfl) (kc2 := 0) (ks2 := 0) rfl rfl (fun k9 h9 w9 => by cases w9.1) (fun r9 h9 w9 => ?_)
      obtain ⟨w1, w2⟩ := w9
      subst h9
      cases w1
      show jJ G X _ 0 0 _ _ (.int v56 :: _)
      obtain ⟨h59, e59, hf⟩ := jbind hf
      obtain ⟨rc_59, e59⟩ := jcv_o e59
      refine jr_callV K (C_X2_push (d + 1) e59) (D_at DX2_holds 33 rfl) cv_X2_71_X2_push (As := [.int v56]) (ci := 2) rfl rc_59 rfl rfl (by exact Nat.le_of_ble_eq_true rfl) (kc2 := 0) (ks2 := 0) rfl rfl (fun k9 h9 w9 => by cases w9.1) (fun r9 h9 w9 => ?_)
      obtain ⟨w1, w2⟩ := w9
      subst h9
      cases w1
      show jJ G X _ 0 0 _ _ []
      refine jr_goto K (D_at DX2_holds 34 rfl) (tgt := 106) (by decide) ?_
      refine jr_iinc K (D_at DX2_holds 55 rfl) (i := 4) rfl (v := x4 + (1 : Int32)) (jinc (by decide)) (by decide) (L2 := [_, _, _, _, _, _, _]) rfl ?_
      refine jr_goto K (D_at DX2_holds 56 rfl) (tgt := 23) (by decide) ?_
      refine jr_keep [true, true, true, true, true, false, false] ?_
      exact hr23 a0 x1 a2 x3 (x4 + (1 : Int32)) h59 hf
theorem J_X2_holds_23 {G : jG} {l : Launch} {d : Nat} {X : jX} {res : (Int32 × jH)} (K : jOK G l mX2_holds (d + 2) X) (n : Nat) (E : jEnd G mX2_holds (jPW res) X) (k : Nat) : ∀ (a0 : Nat) (x1 : Int32) (a2 : Nat) (x3 : Int32) (x4 : Int32) (h : jH), F_X2_holds_23 n k a0 x1 a2 x3 x4 h = some res → jJ G X h 0 0 23 [some (.ref a0), some (.int x1), some (.ref a2), some (.int x3), some (.int x4), none, none] [] := by
  induction k with
  | zero =>
    intro a0 x1 a2 x3 x4 h hf
    exact jno (show (none : Option (Int32 × jH)) = some res from hf)
  | succ k ih =>
    intro a0 x1 a2 x3 x4 h hf
    exact J_X2_holds_23_b K n (F_X2_holds_23 n k) ih E a0 x1 a2 x3 x4 h hf
set_option maxHeartbeats 400000 in
set_option maxRecDepth 100000 in
theorem J_X2_holds {G : jG} {l : Launch} {d : Nat} {X : jX} {res : (Int32 × jH)} (K : jOK G l mX2_holds (d + 2) X) (n : Nat) (E : jEnd G mX2_holds (jPW res) X) (a0 : Nat) (x1 : Int32) (a2 : Nat) (x3 : Int32) (h : jH) (hf : F_X2_holds n a0 x1 a2 x3 h = some res) : jJ G X h 0 0 0 [some (.ref a0), some (.int x1), some (.ref a2), some (.int x3), none, none, none] [] := by
  unfold F_X2_holds at hf
  refine jr_aload_n K (D_at DX2_holds 0 rfl) rfl rfl ?_
  refine jr_iconst K (D_at DX2_holds 1 rfl) (v := (0 : Int32)) (by decide) ?_
  obtain ⟨h2, e2, hf⟩ := jbind hf
  refine jr_putI K (D_at DX2_holds 2 rfl) fp_X2_61_2 (Or.inl rfl) e2 ?_
  refine jr_iload_n K (D_at DX2_holds 3 rfl) rfl rfl ?_
  refine jr_if_ne K (D_at DX2_holds 4 rfl) (tgt := 13) (by decide) (fun c6 => ?_) (fun c6 => ?_)
  · replace hf := (if_neg c6).symm.trans hf
    refine jr_aload_n K (D_at DX2_holds 7 rfl) rfl rfl ?_
    obtain ⟨p14, e14, hf⟩ := jbind hf
    refine jr_getR K (D_at DX2_holds 8 rfl) fg_X2_18_2 e14 ?_
    refine jr_iload_n K (D_at DX2_holds 9 rfl) rfl rfl ?_
    refine jr_iconst K (D_at DX2_holds 10 rfl) (v := (1 : Int32)) (by decide) ?_
    refine jr_isub K (D_at DX2_holds 11 rfl) ?_
    obtain ⟨v20, e20, hf⟩ := jbind hf
    refine jr_iald K (D_at DX2_holds 12 rfl) e20 ?_
    refine jr_istore K (D_at DX2_holds 13 rfl) (i := 4) (by decide) (L2 := [_, _, _, _, _, _, _]) rfl ?_
    refine jr_keep [true, true, true, true, true, false, false] ?_
    exact J_X2_holds_23 K n E n a0 x1 a2 x3 v20 h2 hf
  · replace hf := (if_pos c6).symm.trans hf
    refine jr_iconst K (D_at DX2_holds 5 rfl) (v := (0 : Int32)) (by decide) ?_
    refine jr_goto K (D_at DX2_holds 6 rfl) (tgt := 21) (by decide) ?_
    refine jr_istore K (D_at DX2_holds 13 rfl) (i := 4) (by decide) (L2 := [_, _, _, _, _, _, _]) rfl ?_
    refine jr_keep [true, true, true, true, true, false, false] ?_
    exact J_X2_holds_23 K n E n a0 x1 a2 x3 (0 : Int32) h2 hf
theorem C_X2_holds {G : jG} {l : Launch} (d : Nat) {n : Nat} {a0 : Nat} {x1 : Int32} {a2 : Nat} {x3 : Int32} {h : jH} {res : (Int32 × jH)} (hf : F_X2_holds n a0 x1 a2 x3 h = some res) : jC G l mX2_holds (d + 2) 0 0 [.ref a0, .int x1, .ref a2, .int x3] h (jPW res) :=
  jC.of (by decide +kernel) (jcats rfl) (Nat.le_of_ble_eq_true rfl) (fun X K E => J_X2_holds K n E a0 x1 a2 x3 h hf)
set_option maxHeartbeats 400000 in
set_option maxRecDepth 100000 in
theorem J_X2_amount_20_b {G : jG} {l : Launch} {d : Nat} {X : jX} {res : (Int32 × jH)} (K : jOK G l mX2_amount (d + 3) X) (n : Nat) (rc20 : Nat → Int32 → Nat → Int32 → Int32 → Int32 → jH → Option (Int32 × jH)) (hr20 : ∀ (a0 : Nat) (x1 : Int32) (a2 : Nat) (x3 : Int32) (x4 : Int32) (x5 : Int32) (h : jH), rc20 a0 x1 a2 x3 x4 x5 h = some res → jJ G X h 0 0 20 [some (.ref a0), some (.int x1), some (.ref a2), some (.int x3), some (.int x4), some (.int x5)] []) (E : jEnd G mX2_amount (jPW res) X) (a0 : Nat) (x1 : Int32) (a2 : Nat) (x3 : Int32) (x4 : Int32) (x5 : Int32) (h : jH) (hf : F_X2_amount_20_b n rc20 a0 x1 a2 x3 x4 x5 h = some res) : jJ G X h 0 0 20 [some (.ref a0), some (.int x1), some (.ref a2), some (.int x3), some (.int x4), some (.int x5)] [] := by
  unfold F_X2_amount_20_b at hf
  refine jr_iload K (D_at DX2_amount 12 rfl) rfl ?_
  refine jr_aload_n K (D_at DX2_amount 13 rfl) rfl rfl ?_
  obtain ⟨v23, e23, hf⟩ := jbind hf
  refine jr_getI K (D_at DX2_amount 14 rfl) fg_X2_31_2 e23 ?_
  refine jr_icmp_ge K (D_at DX2_amount 15 rfl) (tgt := 69) (by decide) (fun c26 => ?_) (fun c26 => ?_)
  · replace hf := (if_pos c26).symm.trans hf
    refine jr_iload K (D_at DX2_amount 37 rfl) rfl ?_
    cases hf
    exact jr_iret K E (D_at DX2_amount 38 rfl) rfl ⟨rfl, rfl⟩
  · replace hf := (if_neg c26).symm.trans hf
    refine jr_aload_n K (D_at DX2_amount 16 rfl) rfl rfl ?_
    obtain ⟨p30, e30, hf⟩ := jbind hf
    refine jr_getR K (D_at DX2_amount 17 rfl) fg_X2_11_2 e30 ?_
    refine jr_iload K (D_at DX2_amount 18 rfl) rfl ?_
    obtain ⟨v35, e35, hf⟩ := jbind hf
    refine jr_iald K (D_at DX2_amount 19 rfl) e35 ?_
    refine jr_iload_n K (D_at DX2_amount 20 rfl) rfl rfl ?_
    refine jr_icmp_ne K (D_at DX2_amount 21 rfl) (tgt := 63) (by decide) (fun c37 => ?_) (fun c37 => ?_)
    · replace hf := (if_neg c37).symm.trans hf
      refine jr_iinc K (D_at DX2_amount 35 rfl) (i := 5) rfl (v := x5 + (1 : Int32)) (jinc (by decide)) (by decide) (L2 := [_, _, _, _, _, _]) rfl ?_
      refine jr_goto K (D_at DX2_amount 36 rfl) (tgt := 20) (by decide) ?_
      refine jr_keep [true, true, true, true, true, true] ?_
      exact hr20 a0 x1 a2 x3 x4 (x5 + (1 : Int32)) h hf
    · replace hf := (if_pos c37).symm.trans hf
      refine jr_aload_n K (D_at DX2_amount 22 rfl) rfl rfl ?_
      refine jr_iload K (D_at DX2_amount 23 rfl) rfl ?_
      refine jr_aload_n K (D_at DX2_amount 24 rfl) rfl rfl ?_
      refine jr_iload_n K (D_at DX2_amount 25 rfl) rfl rfl ?_
      obtain ⟨q45, e45, hf⟩ := jbind hf
      obtain ⟨rc_45, e45⟩ := jcv_o e45
      refine jr_callV K (C_X2_holds (d) e45) (D_at DX2_amount 26 rfl) cv_X2_48_X2_holds (As := [.int x5, .ref a2, .int x3]) (ci := 2) rfl rc_45 rfl rfl (by exact Nat.le_of_ble_eq_true rfl) (kc2 := 0) (ks2 := 0) rfl rfl (fun k9 h9 w9 => by cases w9.1) (fun r9 h9 w9 => ?_)
      obtain ⟨w1, w2⟩ := w9
      subst h9
      cases w1
      show jJ G X _ 0 0 _ _ (.int q45.1 :: _)
      refine jr_if_eq K (D_at DX2_amount 27 rfl) (tgt := 63) (by decide) (fun c48 => ?_) (fun c48 => ?_)
      · replace hf := (if_pos c48).symm.trans hf
        refine jr_iinc K (D_at DX2_amount 35 rfl) (i := 5) rfl (v := x5 + (1 : Int32)) (jinc (by decide)) (by decide) (L2 := [_, _, _, _, _, _]) rfl ?_
        refine jr_goto K (D_at DX2_amount 36 rfl) (tgt := 20) (by decide) ?_
        refine jr_keep [true, true, true, true, true, true] ?_
        exact hr20 a0 x1 a2 x3 x4 (x5 + (1 : Int32)) q45.2 hf
      · replace hf := (if_neg c48).symm.trans hf
        refine jr_iload K (D_at DX2_amount 28 rfl) rfl ?_
        refine jr_aload_n K (D_at DX2_amount 29 rfl) rfl rfl ?_
        obtain ⟨p54, e54, hf⟩ := jbind hf
        refine jr_getR K (D_at DX2_amount 30 rfl) fg_X2_15_2 e54 ?_
        refine jr_iload K (D_at DX2_amount 31 rfl) rfl ?_
        obtain ⟨v59, e59, hf⟩ := jbind hf
        refine jr_iald K (D_at DX2_amount 32 rfl) e59 ?_
        refine jr_iadd K (D_at DX2_amount 33 rfl) ?_
        refine jr_istore K (D_at DX2_amount 34 rfl) (i := 4) (by decide) (L2 := [_, _, _, _, _, _]) rfl ?_
        refine jr_iinc K (D_at DX2_amount 35 rfl) (i := 5) rfl (v := x5 + (1 : Int32)) (jinc (by decide)) (by decide) (L2 := [_, _, _, _, _, _]) rfl ?_
        refine jr_goto K (D_at DX2_amount 36 rfl) (tgt := 20) (by decide) ?_
        refine jr_keep [true, true, true, true, true, true] ?_
        exact hr20 a0 x1 a2 x3 (x4 + v59) (x5 + (1 : Int32)) q45.2 hf
theorem J_X2_amount_20 {G : jG} {l : Launch} {d : Nat} {X : jX} {res : (Int32 × jH)} (K : jOK G l mX2_amount (d + 3) X) (n : Nat) (E : jEnd G mX2_amount (jPW res) X) (k : Nat) : ∀ (a0 : Nat) (x1 : Int32) (a2 : Nat) (x3 : Int32) (x4 : Int32) (x5 : Int32) (h : jH), F_X2_amount_20 n k a0 x1 a2 x3 x4 x5 h = some res → jJ G X h 0 0 20 [some (.ref a0), some (.int x1), some (.ref a2), some (.int x3), some (.int x4), some (.int x5)] [] := by
  induction k with
  | zero =>
    intro a0 x1 a2 x3 x4 x5 h hf
    exact jno (show (none : Option (Int32 × jH)) = some res from hf)
  | succ k ih =>
    intro a0 x1 a2 x3 x4 x5 h hf
    exact J_X2_amount_20_b K n (F_X2_amount_20 n k) ih E a0 x1 a2 x3 x4 x5 h hf
set_option maxHeartbeats 400000 in
set_option maxRecDepth 100000 in
theorem J_X2_amount {G : jG} {l : Launch} {d : Nat} {X : jX} {res : (Int32 × jH)} (K : jOK G l mX2_amount (d + 3) X) (n : Nat) (E : jEnd G mX2_amount (jPW res) X) (a0 : Nat) (x1 : Int32) (a2 : Nat) (x3 : Int32) (h : jH) (hf : F_X2_amount n a0 x1 a2 x3 h = some res) : jJ G X h 0 0 0 [some (.ref a0), some (.int x1), some (.ref a2), some (.int x3), none, none] [] := by
  unfold F_X2_amount at hf
  refine jr_aload_n K (D_at DX2_amount 0 rfl) rfl rfl ?_
  obtain ⟨v1, e1, hf⟩ := jbind hf
  refine jr_getI K (D_at DX2_amount 1 rfl) fg_X2_27_2 e1 ?_
  refine jr_if_ne K (D_at DX2_amount 2 rfl) (tgt := 14) (by decide) (fun c4 => ?_) (fun c4 => ?_)
  · replace hf := (if_neg c4).symm.trans hf
    refine jr_iconst K (D_at DX2_amount 8 rfl) (v := (0 : Int32)) (by decide) ?_
    refine jr_istore K (D_at DX2_amount 9 rfl) (i := 4) (by decide) (L2 := [_, _, _, _, _, _]) rfl ?_
    refine jr_iconst K (D_at DX2_amount 10 rfl) (v := (0 : Int32)) (by decide) ?_
    refine jr_istore K (D_at DX2_amount 11 rfl) (i := 5) (by decide) (L2 := [_, _, _, _, _, _]) rfl ?_
    refine jr_keep [true, true, true, true, true, true] ?_
    exact J_X2_amount_20 K n E n a0 x1 a2 x3 (0 : Int32) (0 : Int32) h hf
  · replace hf := (if_pos c4).symm.trans hf
    refine jr_iload_n K (D_at DX2_amount 3 rfl) rfl rfl ?_
    refine jr_aload_n K (D_at DX2_amount 4 rfl) rfl rfl ?_
    refine jr_iload_n K (D_at DX2_amount 5 rfl) rfl rfl ?_
    obtain ⟨v10, e10, hf⟩ := jbind hf
    refine jr_callS K (C_X2_untoldAmount (d + 1) e10) (D_at DX2_amount 6 rfl) cs_X2_44_X2_untoldAmount (As := [.int x1, .ref a2, .int x3]) rfl rfl (by exact Nat.le_of_ble_eq_true rfl) (kc2 := 0) (ks2 := 0) rfl rfl (fun k9 h9 w9 => by cases w9.1) (fun r9 h9 w9 => ?_)
    obtain ⟨w1, w2⟩ := w9
    subst h9
    cases w1
    show jJ G X _ 0 0 _ _ (.int v10 :: _)
    cases hf
    exact jr_iret K E (D_at DX2_amount 7 rfl) rfl ⟨rfl, rfl⟩
theorem C_X2_amount {G : jG} {l : Launch} (d : Nat) {n : Nat} {a0 : Nat} {x1 : Int32} {a2 : Nat} {x3 : Int32} {h : jH} {res : (Int32 × jH)} (hf : F_X2_amount n a0 x1 a2 x3 h = some res) : jC G l mX2_amount (d + 3) 0 0 [.ref a0, .int x1, .ref a2, .int x3] h (jPW res) :=
  jC.of (by decide +kernel) (jcats rfl) (Nat.le_of_ble_eq_true rfl) (fun X K E => J_X2_amount K n E a0 x1 a2 x3 h hf)
set_option maxHeartbeats 400000 in
set_option maxRecDepth 100000 in
theorem J_X1_fadeAll_2_b {G : jG} {l : Launch} {d : Nat} {X : jX} {res : jH} (K : jOK G l mX1_fadeAll (d + 4) X) (n : Nat) (rc2 : Nat → Nat → Int32 → jH → Option jH) (hr2 : ∀ (a0 : Nat) (a1 : Nat) (x2 : Int32) (h : jH), rc2 a0 a1 x2 h = some res → jJ G X h 0 0 2 [some (.ref a0), some (.ref a1), some (.int x2)] []) (E : jEnd G mX1_fadeAll (jPV res) X) (a0 : Nat) (a1 : Nat) (x2 : Int32) (h : jH) (hf : F_X1_fadeAll_2_b n rc2 a0 a1 x2 h = some res) : jJ G X h 0 0 2 [some (.ref a0), some (.ref a1), some (.int x2)] [] := by
  unfold F_X1_fadeAll_2_b at hf
  refine jr_iload_n K (D_at DX1_fadeAll 2 rfl) rfl rfl ?_
  refine jr_aload_n K (D_at DX1_fadeAll 3 rfl) rfl rfl ?_
  obtain ⟨v4, e4, hf⟩ := jbind hf
  refine jr_getI K (D_at DX1_fadeAll 4 rfl) fg_X1_62_6 e4 ?_
  refine jr_icmp_ge K (D_at DX1_fadeAll 5 rfl) (tgt := 44) (by decide) (fun c7 => ?_) (fun c7 => ?_)
  · replace hf := (if_pos c7).symm.trans hf
    cases hf
    exact jr_vret K E (D_at DX1_fadeAll 25 rfl) rfl ⟨rfl, rfl⟩
  · replace hf := (if_neg c7).symm.trans hf
    refine jr_aload_n K (D_at DX1_fadeAll 6 rfl) rfl rfl ?_
    obtain ⟨p11, e11, hf⟩ := jbind hf
    refine jr_getR K (D_at DX1_fadeAll 7 rfl) fg_X1_65_6 e11 ?_
    refine jr_iload_n K (D_at DX1_fadeAll 8 rfl) rfl rfl ?_
    refine jr_bipush K (D_at DX1_fadeAll 9 rfl) (v := (99 : Int32)) (by decide) ?_
    refine jr_aload_n K (D_at DX1_fadeAll 10 rfl) rfl rfl ?_
    obtain ⟨p18, e18, hf⟩ := jbind hf
    refine jr_getR K (D_at DX1_fadeAll 11 rfl) fg_X1_65_6 e18 ?_
    refine jr_iload_n K (D_at DX1_fadeAll 12 rfl) rfl rfl ?_
    obtain ⟨v22, e22, hf⟩ := jbind hf
    refine jr_iald K (D_at DX1_fadeAll 13 rfl) e22 ?_
    refine jr_aload_n K (D_at DX1_fadeAll 14 rfl) rfl rfl ?_
    obtain ⟨p24, e24, hf⟩ := jbind hf
    refine jr_getR K (D_at DX1_fadeAll 15 rfl) fg_X1_9_1 e24 ?_
    refine jr_iconst K (D_at DX1_fadeAll 16 rfl) (v := (0 : Int32)) (by decide) ?_
    refine jr_aload_n K (D_at DX1_fadeAll 17 rfl) rfl rfl ?_
    refine jr_iload_n K (D_at DX1_fadeAll 18 rfl) rfl rfl ?_
    obtain ⟨q30, e30, hf⟩ := jbind hf
    obtain ⟨rc_30, e30⟩ := jcv_o e30
    refine jr_callV K (C_X2_amount (d) e30) (D_at DX1_fadeAll 19 rfl) cv_X1_50_X2_amount (As := [.int (0 : Int32), .ref a1, .int x2]) (ci := 2) rfl rc_30 rfl rfl (by exact Nat.le_of_ble_eq_true rfl) (kc2 := 0) (ks2 := 0) rfl rfl (fun k9 h9 w9 => by cases w9.1) (fun r9 h9 w9 => ?_)
    obtain ⟨w1, w2⟩ := w9
    subst h9
    cases w1
    show jJ G X _ 0 0 _ _ (.int q30.1 :: _)
    refine jr_iadd K (D_at DX1_fadeAll 20 rfl) ?_
    refine jr_min K (D_at DX1_fadeAll 21 rfl) mm_X1_56 (by exact Nat.le_of_ble_eq_true rfl) ?_
    obtain ⟨h37, e37, hf⟩ := jbind hf
    refine jr_iast K (D_at DX1_fadeAll 22 rfl) e37 ?_
    refine jr_iinc K (D_at DX1_fadeAll 23 rfl) (i := 2) rfl (v := x2 + (1 : Int32)) (jinc (by decide)) (by decide) (L2 := [_, _, _]) rfl ?_
    refine jr_goto K (D_at DX1_fadeAll 24 rfl) (tgt := 2) (by decide) ?_
    refine jr_keep [true, true, true] ?_
    exact hr2 a0 a1 (x2 + (1 : Int32)) h37 hf
theorem J_X1_fadeAll_2 {G : jG} {l : Launch} {d : Nat} {X : jX} {res : jH} (K : jOK G l mX1_fadeAll (d + 4) X) (n : Nat) (E : jEnd G mX1_fadeAll (jPV res) X) (k : Nat) : ∀ (a0 : Nat) (a1 : Nat) (x2 : Int32) (h : jH), F_X1_fadeAll_2 n k a0 a1 x2 h = some res → jJ G X h 0 0 2 [some (.ref a0), some (.ref a1), some (.int x2)] [] := by
  induction k with
  | zero =>
    intro a0 a1 x2 h hf
    exact jno (show (none : Option jH) = some res from hf)
  | succ k ih =>
    intro a0 a1 x2 h hf
    exact J_X1_fadeAll_2_b K n (F_X1_fadeAll_2 n k) ih E a0 a1 x2 h hf
set_option maxHeartbeats 400000 in
set_option maxRecDepth 100000 in
theorem J_X1_fadeAll {G : jG} {l : Launch} {d : Nat} {X : jX} {res : jH} (K : jOK G l mX1_fadeAll (d + 4) X) (n : Nat) (E : jEnd G mX1_fadeAll (jPV res) X) (a0 : Nat) (a1 : Nat) (h : jH) (hf : F_X1_fadeAll n a0 a1 h = some res) : jJ G X h 0 0 0 [some (.ref a0), some (.ref a1), none] [] := by
  unfold F_X1_fadeAll at hf
  refine jr_iconst K (D_at DX1_fadeAll 0 rfl) (v := (0 : Int32)) (by decide) ?_
  refine jr_istore_n K (D_at DX1_fadeAll 1 rfl) (i := 2) rfl (by decide) (L2 := [_, _, _]) rfl ?_
  refine jr_keep [true, true, true] ?_
  exact J_X1_fadeAll_2 K n E n a0 a1 (0 : Int32) h hf
theorem C_X1_fadeAll {G : jG} {l : Launch} (d : Nat) {n : Nat} {a0 : Nat} {a1 : Nat} {h : jH} {res : jH} (hf : F_X1_fadeAll n a0 a1 h = some res) : jC G l mX1_fadeAll (d + 4) 0 0 [.ref a0, .ref a1] h (jPV res) :=
  jC.of (by decide +kernel) (jcats rfl) (Nat.le_of_ble_eq_true rfl) (fun X K E => J_X1_fadeAll K n E a0 a1 h hf)
set_option maxHeartbeats 400000 in
set_option maxRecDepth 100000 in
theorem J_X1_draw {G : jG} {l : Launch} {d : Nat} {X : jX} {res : (Int32 × jH)} (K : jOK G l mX1_draw (d) X) (n : Nat) (E : jEnd G mX1_draw (jPW res) X) (a0 : Nat) (h : jH) (hf : F_X1_draw n a0 h = some res) : jJ G X h 0 0 0 [some (.ref a0)] [] := by
  unfold F_X1_draw at hf
  refine jr_aload_n K (D_at DX1_draw 0 rfl) rfl rfl ?_
  refine jr_ldc K (D_at DX1_draw 1 rfl) (v := (1103515245 : Int32)) kc_X1_98 ?_
  refine jr_aload_n K (D_at DX1_draw 2 rfl) rfl rfl ?_
  obtain ⟨v4, e4, hf⟩ := jbind hf
  refine jr_getI K (D_at DX1_draw 3 rfl) fg_X1_38_6 e4 ?_
  refine jr_imul K (D_at DX1_draw 4 rfl) ?_
  refine jr_sipush K (D_at DX1_draw 5 rfl) (v := (12345 : Int32)) (by decide) ?_
  refine jr_iadd K (D_at DX1_draw 6 rfl) ?_
  obtain ⟨h12, e12, hf⟩ := jbind hf
  refine jr_putI K (D_at DX1_draw 7 rfl) fp_X1_38_6 (Or.inl rfl) e12 ?_
  refine jr_aload_n K (D_at DX1_draw 8 rfl) rfl rfl ?_
  obtain ⟨v16, e16, hf⟩ := jbind hf
  refine jr_getI K (D_at DX1_draw 9 rfl) fg_X1_38_6 e16 ?_
  refine jr_bipush K (D_at DX1_draw 10 rfl) (v := (16 : Int32)) (by decide) ?_
  refine jr_iushr K (D_at DX1_draw 11 rfl) (v := jushr v16 (16 : Int32)) rfl ?_
  refine jr_sipush K (D_at DX1_draw 12 rfl) (v := (32767 : Int32)) (by decide) ?_
  refine jr_iand K (D_at DX1_draw 13 rfl) ?_
  refine jr_bipush K (D_at DX1_draw 14 rfl) (v := (100 : Int32)) (by decide) ?_
  refine jr_irem K (D_at DX1_draw 15 rfl) (by decide) ?_
  cases hf
  exact jr_iret K E (D_at DX1_draw 16 rfl) rfl ⟨rfl, rfl⟩
theorem C_X1_draw {G : jG} {l : Launch} (d : Nat) {n : Nat} {a0 : Nat} {h : jH} {res : (Int32 × jH)} (hf : F_X1_draw n a0 h = some res) : jC G l mX1_draw (d) 0 0 [.ref a0] h (jPW res) :=
  jC.of (by decide +kernel) (jcats rfl) (Nat.le_of_ble_eq_true rfl) (fun X K E => J_X1_draw K n E a0 h hf)
set_option maxHeartbeats 400000 in
set_option maxRecDepth 100000 in
theorem J_X11_withBit {G : jG} {l : Launch} {d : Nat} {X : jX} {res : Int32} (K : jOK G l mX11_withBit (d) X) (n : Nat) (h : jH) (E : jEnd G mX11_withBit (jPR h res) X) (x0 : Int32) (x1 : Int32) (x2 : Int32) (hf : F_X11_withBit n x0 x1 x2 h = some res) : jJ G X h 0 0 0 [some (.int x0), some (.int x1), some (.int x2)] [] := by
  unfold F_X11_withBit at hf
  refine jr_iload_n K (D_at DX11_withBit 0 rfl) rfl rfl ?_
  refine jr_if_eq K (D_at DX11_withBit 1 rfl) (tgt := 12) (by decide) (fun c1 => ?_) (fun c1 => ?_)
  · replace hf := (if_pos c1).symm.trans hf
    refine jr_iload_n K (D_at DX11_withBit 8 rfl) rfl rfl ?_
    refine jr_iconst K (D_at DX11_withBit 9 rfl) (v := (1 : Int32)) (by decide) ?_
    refine jr_iload_n K (D_at DX11_withBit 10 rfl) rfl rfl ?_
    refine jr_ishl K (D_at DX11_withBit 11 rfl) ?_
    refine jr_iconst K (D_at DX11_withBit 12 rfl) (v := (-1 : Int32)) (by decide) ?_
    refine jr_ixor K (D_at DX11_withBit 13 rfl) ?_
    refine jr_iand K (D_at DX11_withBit 14 rfl) ?_
    cases hf
    exact jr_iret K E (D_at DX11_withBit 15 rfl) rfl ⟨rfl, rfl⟩
  · replace hf := (if_neg c1).symm.trans hf
    refine jr_iload_n K (D_at DX11_withBit 2 rfl) rfl rfl ?_
    refine jr_iconst K (D_at DX11_withBit 3 rfl) (v := (1 : Int32)) (by decide) ?_
    refine jr_iload_n K (D_at DX11_withBit 4 rfl) rfl rfl ?_
    refine jr_ishl K (D_at DX11_withBit 5 rfl) ?_
    refine jr_ior K (D_at DX11_withBit 6 rfl) ?_
    refine jr_goto K (D_at DX11_withBit 7 rfl) (tgt := 19) (by decide) ?_
    cases hf
    exact jr_iret K E (D_at DX11_withBit 15 rfl) rfl ⟨rfl, rfl⟩
theorem C_X11_withBit {G : jG} {l : Launch} (d : Nat) {n : Nat} {x0 : Int32} {x1 : Int32} {x2 : Int32} {h : jH} {res : Int32} (hf : F_X11_withBit n x0 x1 x2 h = some res) : jC G l mX11_withBit (d) 0 0 [.int x0, .int x1, .int x2] h (jPR h res) :=
  jC.of (by decide +kernel) (jcats rfl) (Nat.le_of_ble_eq_true rfl) (fun X K E => J_X11_withBit K n h E x0 x1 x2 hf)
set_option maxHeartbeats 400000 in
set_option maxRecDepth 100000 in
theorem J_X5_add_90 {G : jG} {l : Launch} {d : Nat} {X : jX} {res : jH} (K : jOK G l mX5_add (d + 1) X) (n : Nat) (E : jEnd G mX5_add (jPV res) X) (a0 : Nat) (sa0 : Nat) (s1 : Int32) (h : jH) (hf : F_X5_add_90 n a0 sa0 s1 h = some res) : jJ G X h 0 0 90 [some (.ref a0), none, none, none, none] [.int s1, .ref sa0] := by
  unfold F_X5_add_90 at hf
  obtain ⟨h90, e90, hf⟩ := jbind hf
  refine jr_putI K (D_at DX5_add 58 rfl) fp_X5_25_4 (Or.inl rfl) e90 ?_
  refine jr_aload_n K (D_at DX5_add 59 rfl) rfl rfl ?_
  refine jr_bipush K (D_at DX5_add 60 rfl) (v := (60 : Int32)) (by decide) ?_
  refine jr_aload_n K (D_at DX5_add 61 rfl) rfl rfl ?_
  obtain ⟨v97, e97, hf⟩ := jbind hf
  refine jr_getI K (D_at DX5_add 62 rfl) fg_X5_21_4 e97 ?_
  refine jr_iconst K (D_at DX5_add 63 rfl) (v := (1 : Int32)) (by decide) ?_
  refine jr_iadd K (D_at DX5_add_1 0 rfl) ?_
  refine jr_min K (D_at DX5_add_1 1 rfl) mm_X5_42 (by exact Nat.le_of_ble_eq_true rfl) ?_
  obtain ⟨h105, e105, hf⟩ := jbind hf
  refine jr_putI K (D_at DX5_add_1 2 rfl) fp_X5_21_4 (Or.inl rfl) e105 ?_
  cases hf
  exact jr_vret K E (D_at DX5_add_1 3 rfl) rfl ⟨rfl, rfl⟩
set_option maxHeartbeats 400000 in
set_option maxRecDepth 100000 in
theorem J_X5_add {G : jG} {l : Launch} {d : Nat} {X : jX} {res : jH} (K : jOK G l mX5_add (d + 1) X) (n : Nat) (E : jEnd G mX5_add (jPV res) X) (a0 : Nat) (a1 : Nat) (x2 : Int32) (x3 : Int32) (x4 : Int32) (h : jH) (hf : F_X5_add n a0 a1 x2 x3 x4 h = some res) : jJ G X h 0 0 0 [some (.ref a0), some (.ref a1), some (.int x2), some (.int x3), some (.int x4)] [] := by
  unfold F_X5_add at hf
  refine jr_aload_n K (D_at DX5_add 0 rfl) rfl rfl ?_
  obtain ⟨p1, e1, hf⟩ := jbind hf
  refine jr_getR K (D_at DX5_add 1 rfl) fg_X5_11_4 e1 ?_
  refine jr_aload_n K (D_at DX5_add 2 rfl) rfl rfl ?_
  obtain ⟨v5, e5, hf⟩ := jbind hf
  refine jr_getI K (D_at DX5_add 3 rfl) fg_X5_25_4 e5 ?_
  refine jr_aload_n K (D_at DX5_add 4 rfl) rfl rfl ?_
  obtain ⟨v9, e9, hf⟩ := jbind hf
  refine jr_getI K (D_at DX5_add 5 rfl) fg_X5_28_6 e9 ?_
  refine jr_shf K (D_at DX5_add 6 rfl) st_X5_33 ?_
  refine jr_iconst K (D_at DX5_add 7 rfl) (v := (0 : Int32)) (by decide) ?_
  refine jr_stald (f := fun j => jshf.getD j 0) (n := 6) K jT_shf (D_at DX5_add 8 rfl) (by decide) ?_
  rw [show jshf.getD ((0 : Int32)).toNatClampNeg 0 = (18 : Int32) from by decide]
  refine jr_ishl K (D_at DX5_add 9 rfl) ?_
  refine jr_aload_n K (D_at DX5_add 10 rfl) rfl rfl ?_
  obtain ⟨v19, e19, hf⟩ := jbind hf
  refine jr_getI K (D_at DX5_add 11 rfl) fg_X5_36_6 e19 ?_
  refine jr_shf K (D_at DX5_add 12 rfl) st_X5_33 ?_
  refine jr_iconst K (D_at DX5_add 13 rfl) (v := (1 : Int32)) (by decide) ?_
  refine jr_stald (f := fun j => jshf.getD j 0) (n := 6) K jT_shf (D_at DX5_add 14 rfl) (by decide) ?_
  rw [show jshf.getD ((1 : Int32)).toNatClampNeg 0 = (15 : Int32) from by decide]
  refine jr_ishl K (D_at DX5_add 15 rfl) ?_
  refine jr_ior K (D_at DX5_add 16 rfl) ?_
  refine jr_iload_n K (D_at DX5_add 17 rfl) rfl rfl ?_
  refine jr_shf K (D_at DX5_add 18 rfl) st_X5_33 ?_
  refine jr_iconst K (D_at DX5_add 19 rfl) (v := (2 : Int32)) (by decide) ?_
  refine jr_stald (f := fun j => jshf.getD j 0) (n := 6) K jT_shf (D_at DX5_add 20 rfl) (by decide) ?_
  rw [show jshf.getD ((2 : Int32)).toNatClampNeg 0 = (12 : Int32) from by decide]
  refine jr_ishl K (D_at DX5_add 21 rfl) ?_
  refine jr_ior K (D_at DX5_add 22 rfl) ?_
  refine jr_iload_n K (D_at DX5_add 23 rfl) rfl rfl ?_
  refine jr_shf K (D_at DX5_add 24 rfl) st_X5_33 ?_
  refine jr_iconst K (D_at DX5_add 25 rfl) (v := (3 : Int32)) (by decide) ?_
  refine jr_stald (f := fun j => jshf.getD j 0) (n := 6) K jT_shf (D_at DX5_add 26 rfl) (by decide) ?_
  rw [show jshf.getD ((3 : Int32)).toNatClampNeg 0 = (10 : Int32) from by decide]
  refine jr_ishl K (D_at DX5_add 27 rfl) ?_
  refine jr_ior K (D_at DX5_add 28 rfl) ?_
  refine jr_iload K (D_at DX5_add 29 rfl) rfl ?_
  refine jr_shf K (D_at DX5_add 30 rfl) st_X5_33 ?_
  refine jr_iconst K (D_at DX5_add 31 rfl) (v := (4 : Int32)) (by decide) ?_
  refine jr_stald (f := fun j => jshf.getD j 0) (n := 6) K jT_shf (D_at DX5_add 32 rfl) (by decide) ?_
  rw [show jshf.getD ((4 : Int32)).toNatClampNeg 0 = (5 : Int32) from by decide]
  refine jr_ishl K (D_at DX5_add 33 rfl) ?_
  refine jr_ior K (D_at DX5_add 34 rfl) ?_
  refine jr_aload_n K (D_at DX5_add 35 rfl) rfl rfl ?_
  obtain ⟨p55, e55, hf⟩ := jbind hf
  refine jr_getR K (D_at DX5_add 36 rfl) fg_X5_39_6 e55 ?_
  refine jr_iload_n K (D_at DX5_add 37 rfl) rfl rfl ?_
  obtain ⟨v59, e59, hf⟩ := jbind hf
  refine jr_iald K (D_at DX5_add 38 rfl) e59 ?_
  refine jr_shf K (D_at DX5_add 39 rfl) st_X5_33 ?_
  refine jr_iconst K (D_at DX5_add 40 rfl) (v := (5 : Int32)) (by decide) ?_
  refine jr_stald (f := fun j => jshf.getD j 0) (n := 6) K jT_shf (D_at DX5_add 41 rfl) (by decide) ?_
  rw [show jshf.getD ((5 : Int32)).toNatClampNeg 0 = (0 : Int32) from by decide]
  refine jr_ishl K (D_at DX5_add 42 rfl) ?_
  refine jr_ior K (D_at DX5_add 43 rfl) ?_
  obtain ⟨h67, e67, hf⟩ := jbind hf
  refine jr_iast K (D_at DX5_add 44 rfl) e67 ?_
  refine jr_aload_n K (D_at DX5_add 45 rfl) rfl rfl ?_
  refine jr_aload_n K (D_at DX5_add 46 rfl) rfl rfl ?_
  obtain ⟨v70, e70, hf⟩ := jbind hf
  refine jr_getI K (D_at DX5_add 47 rfl) fg_X5_25_4 e70 ?_
  refine jr_iconst K (D_at DX5_add 48 rfl) (v := (1 : Int32)) (by decide) ?_
  refine jr_iadd K (D_at DX5_add 49 rfl) ?_
  refine jr_bipush K (D_at DX5_add 50 rfl) (v := (60 : Int32)) (by decide) ?_
  refine jr_icmp_ge K (D_at DX5_add 51 rfl) (tgt := 89) (by decide) (fun c77 => ?_) (fun c77 => ?_)
  · replace hf := (if_pos c77).symm.trans hf
    refine jr_iconst K (D_at DX5_add 57 rfl) (v := (0 : Int32)) (by decide) ?_
    refine jr_keep [true, false, false, false, false] ?_
    exact J_X5_add_90 K n E a0 a0 (0 : Int32) h67 hf
  · replace hf := (if_neg c77).symm.trans hf
    refine jr_aload_n K (D_at DX5_add 52 rfl) rfl rfl ?_
    obtain ⟨v81, e81, hf⟩ := jbind hf
    refine jr_getI K (D_at DX5_add 53 rfl) fg_X5_25_4 e81 ?_
    refine jr_iconst K (D_at DX5_add 54 rfl) (v := (1 : Int32)) (by decide) ?_
    refine jr_iadd K (D_at DX5_add 55 rfl) ?_
    refine jr_goto K (D_at DX5_add 56 rfl) (tgt := 90) (by decide) ?_
    refine jr_keep [true, false, false, false, false] ?_
    exact J_X5_add_90 K n E a0 a0 (v81 + (1 : Int32)) h67 hf
theorem C_X5_add {G : jG} {l : Launch} (d : Nat) {n : Nat} {a0 : Nat} {a1 : Nat} {x2 : Int32} {x3 : Int32} {x4 : Int32} {h : jH} {res : jH} (hf : F_X5_add n a0 a1 x2 x3 x4 h = some res) : jC G l mX5_add (d + 1) 0 0 [.ref a0, .ref a1, .int x2, .int x3, .int x4] h (jPV res) :=
  jC.of (by decide +kernel) (jcats rfl) (Nat.le_of_ble_eq_true rfl) (fun X K E => J_X5_add K n E a0 a1 x2 x3 x4 h hf)
set_option maxHeartbeats 400000 in
set_option maxRecDepth 100000 in
theorem J_X1_catchSome_4_b {G : jG} {l : Launch} {d : Nat} {X : jX} {res : (Int32 × jH)} (K : jOK G l mX1_catchSome (d + 4) X) (n : Nat) (rc4 : Nat → Nat → Int32 → Int32 → jH → Option (Int32 × jH)) (hr4 : ∀ (a0 : Nat) (a1 : Nat) (x2 : Int32) (x3 : Int32) (h : jH), rc4 a0 a1 x2 x3 h = some res → jJ G X h 0 0 4 [some (.ref a0), some (.ref a1), some (.int x2), some (.int x3)] []) (E : jEnd G mX1_catchSome (jPW res) X) (a0 : Nat) (a1 : Nat) (x2 : Int32) (x3 : Int32) (h : jH) (hf : F_X1_catchSome_4_b n rc4 a0 a1 x2 x3 h = some res) : jJ G X h 0 0 4 [some (.ref a0), some (.ref a1), some (.int x2), some (.int x3)] [] := by
  unfold F_X1_catchSome_4_b at hf
  refine jr_iload_n K (D_at DX1_catchSome 4 rfl) rfl rfl ?_
  refine jr_aload_n K (D_at DX1_catchSome 5 rfl) rfl rfl ?_
  obtain ⟨v6, e6, hf⟩ := jbind hf
  refine jr_getI K (D_at DX1_catchSome 6 rfl) fg_X1_62_6 e6 ?_
  refine jr_icmp_ge K (D_at DX1_catchSome 7 rfl) (tgt := 83) (by decide) (fun c9 => ?_) (fun c9 => ?_)
  · replace hf := (if_pos c9).symm.trans hf
    refine jr_iload_n K (D_at DX1_catchSome 45 rfl) rfl rfl ?_
    cases hf
    exact jr_iret K E (D_at DX1_catchSome 46 rfl) rfl ⟨rfl, rfl⟩
  · replace hf := (if_neg c9).symm.trans hf
    refine jr_aload_n K (D_at DX1_catchSome 8 rfl) rfl rfl ?_
    refine jr_iload_n K (D_at DX1_catchSome 9 rfl) rfl rfl ?_
    refine jr_iconst K (D_at DX1_catchSome 10 rfl) (v := (-1 : Int32)) (by decide) ?_
    obtain ⟨v15, e15, hf⟩ := jbind hf
    obtain ⟨rc_15, e15⟩ := jcv_o e15
    refine jr_callV K (C_X8_gap (d + 3) e15) (D_at DX1_catchSome 11 rfl) cv_X1_69_X8_gap (As := [.int x3, .int (-1 : Int32)]) (ci := 6) rfl rc_15 rfl rfl (by exact Nat.le_of_ble_eq_true rfl) (kc2 := 0) (ks2 := 0) rfl rfl (fun k9 h9 w9 => by cases w9.1) (fun r9 h9 w9 => ?_)
    obtain ⟨w1, w2⟩ := w9
    subst h9
    cases w1
    show jJ G X _ 0 0 _ _ (.int v15 :: _)
    refine jr_iconst K (D_at DX1_catchSome 12 rfl) (v := (1 : Int32)) (by decide) ?_
    refine jr_icmp_ne K (D_at DX1_catchSome 13 rfl) (tgt := 77) (by decide) (fun c19 => ?_) (fun c19 => ?_)
    · replace hf := (if_neg c19).symm.trans hf
      refine jr_iinc K (D_at DX1_catchSome 43 rfl) (i := 3) rfl (v := x3 + (1 : Int32)) (jinc (by decide)) (by decide) (L2 := [_, _, _, _]) rfl ?_
      refine jr_goto K (D_at DX1_catchSome 44 rfl) (tgt := 4) (by decide) ?_
      refine jr_keep [true, true, true, true] ?_
      exact hr4 a0 a1 x2 (x3 + (1 : Int32)) h hf
    · replace hf := (if_pos c19).symm.trans hf
      refine jr_aload_n K (D_at DX1_catchSome 14 rfl) rfl rfl ?_
      obtain ⟨v23, e23, hf⟩ := jbind hf
      refine jr_getI K (D_at DX1_catchSome 15 rfl) fg_X1_72_6 e23 ?_
      refine jr_iload_n K (D_at DX1_catchSome 16 rfl) rfl rfl ?_
      obtain ⟨v27, e27, hf⟩ := jbind hf
      refine jr_callSN K (C_X11_bit (d + 3) e27) (D_at DX1_catchSome 17 rfl) csn_X1_75_X11_bit (As := [.int v23, .int x3]) rfl rfl (by exact Nat.le_of_ble_eq_true rfl) (kc2 := 0) (ks2 := 0) rfl rfl (fun k9 h9 w9 => by cases w9.1) (fun r9 h9 w9 => ?_)
      obtain ⟨w1, w2⟩ := w9
      subst h9
      cases w1
      show jJ G X _ 0 0 _ _ (.int v27 :: _)
      refine jr_if_ne K (D_at DX1_catchSome 18 rfl) (tgt := 77) (by decide) (fun c30 => ?_) (fun c30 => ?_)
      · replace hf := (if_neg c30).symm.trans hf
        refine jr_iinc K (D_at DX1_catchSome 43 rfl) (i := 3) rfl (v := x3 + (1 : Int32)) (jinc (by decide)) (by decide) (L2 := [_, _, _, _]) rfl ?_
        refine jr_goto K (D_at DX1_catchSome 44 rfl) (tgt := 4) (by decide) ?_
        refine jr_keep [true, true, true, true] ?_
        exact hr4 a0 a1 x2 (x3 + (1 : Int32)) h hf
      · replace hf := (if_pos c30).symm.trans hf
        refine jr_aload_n K (D_at DX1_catchSome 19 rfl) rfl rfl ?_
        obtain ⟨q34, e34, hf⟩ := jbind hf
        refine jr_callS K (C_X1_draw (d + 3) e34) (D_at DX1_catchSome 20 rfl) cs_X1_78_X1_draw (As := [.ref a1]) rfl rfl (by exact Nat.le_of_ble_eq_true rfl) (kc2 := 0) (ks2 := 0) rfl rfl (fun k9 h9 w9 => by cases w9.1) (fun r9 h9 w9 => ?_)
        obtain ⟨w1, w2⟩ := w9
        subst h9
        cases w1
        show jJ G X _ 0 0 _ _ (.int q34.1 :: _)
        refine jr_aload_n K (D_at DX1_catchSome 21 rfl) rfl rfl ?_
        obtain ⟨p38, e38, hf⟩ := jbind hf
        refine jr_getR K (D_at DX1_catchSome 22 rfl) fg_X1_9_1 e38 ?_
        refine jr_iconst K (D_at DX1_catchSome 23 rfl) (v := (1 : Int32)) (by decide) ?_
        refine jr_aload_n K (D_at DX1_catchSome 24 rfl) rfl rfl ?_
        refine jr_iload_n K (D_at DX1_catchSome 25 rfl) rfl rfl ?_
        obtain ⟨q44, e44, hf⟩ := jbind hf
        obtain ⟨rc_44, e44⟩ := jcv_o e44
        refine jr_callV K (C_X2_amount (d) e44) (D_at DX1_catchSome 26 rfl) cv_X1_50_X2_amount (As := [.int (1 : Int32), .ref a1, .int x3]) (ci := 2) rfl rc_44 rfl rfl (by exact Nat.le_of_ble_eq_true rfl) (kc2 := 0) (ks2 := 0) rfl rfl (fun k9 h9 w9 => by cases w9.1) (fun r9 h9 w9 => ?_)
        obtain ⟨w1, w2⟩ := w9
        subst h9
        cases w1
        show jJ G X _ 0 0 _ _ (.int q44.1 :: _)
        refine jr_icmp_ge K (D_at DX1_catchSome 27 rfl) (tgt := 77) (by decide) (fun c47 => ?_) (fun c47 => ?_)
        · replace hf := (if_pos c47).symm.trans hf
          refine jr_iinc K (D_at DX1_catchSome 43 rfl) (i := 3) rfl (v := x3 + (1 : Int32)) (jinc (by decide)) (by decide) (L2 := [_, _, _, _]) rfl ?_
          refine jr_goto K (D_at DX1_catchSome 44 rfl) (tgt := 4) (by decide) ?_
          refine jr_keep [true, true, true, true] ?_
          exact hr4 a0 a1 x2 (x3 + (1 : Int32)) q44.2 hf
        · replace hf := (if_neg c47).symm.trans hf
          refine jr_aload_n K (D_at DX1_catchSome 28 rfl) rfl rfl ?_
          refine jr_aload_n K (D_at DX1_catchSome 29 rfl) rfl rfl ?_
          obtain ⟨v52, e52, hf⟩ := jbind hf
          refine jr_getI K (D_at DX1_catchSome 30 rfl) fg_X1_72_6 e52 ?_
          refine jr_iload_n K (D_at DX1_catchSome 31 rfl) rfl rfl ?_
          refine jr_iconst K (D_at DX1_catchSome 32 rfl) (v := (1 : Int32)) (by decide) ?_
          obtain ⟨v57, e57, hf⟩ := jbind hf
          refine jr_callSN K (C_X11_withBit (d + 3) e57) (D_at DX1_catchSome 33 rfl) csn_X1_81_X11_withBit (As := [.int v52, .int x3, .int (1 : Int32)]) rfl rfl (by exact Nat.le_of_ble_eq_true rfl) (kc2 := 0) (ks2 := 0) rfl rfl (fun k9 h9 w9 => by cases w9.1) (fun r9 h9 w9 => ?_)
          obtain ⟨w1, w2⟩ := w9
          subst h9
          cases w1
          show jJ G X _ 0 0 _ _ (.int v57 :: _)
          obtain ⟨h60, e60, hf⟩ := jbind hf
          refine jr_putI K (D_at DX1_catchSome 34 rfl) fp_X1_72_6 (Or.inl rfl) e60 ?_
          refine jr_aload_n K (D_at DX1_catchSome 35 rfl) rfl rfl ?_
          obtain ⟨p64, e64, hf⟩ := jbind hf
          refine jr_getR K (D_at DX1_catchSome 36 rfl) fg_X1_85_6 e64 ?_
          refine jr_aload_n K (D_at DX1_catchSome 37 rfl) rfl rfl ?_
          refine jr_iload_n K (D_at DX1_catchSome 38 rfl) rfl rfl ?_
          refine jr_iconst K (D_at DX1_catchSome 39 rfl) (v := (1 : Int32)) (by decide) ?_
          refine jr_iconst K (D_at DX1_catchSome 40 rfl) (v := (0 : Int32)) (by decide) ?_
          obtain ⟨h71, e71, hf⟩ := jbind hf
          obtain ⟨rc_71, e71⟩ := jcv_o e71
          refine jr_callV K (C_X5_add (d + 2) e71) (D_at DX1_catchSome 41 rfl) cv_X1_89_X5_add (As := [.ref a1, .int x3, .int (1 : Int32), .int (0 : Int32)]) (ci := 4) rfl rc_71 rfl rfl (by exact Nat.le_of_ble_eq_true rfl) (kc2 := 0) (ks2 := 0) rfl rfl (fun k9 h9 w9 => by cases w9.1) (fun r9 h9 w9 => ?_)
          obtain ⟨w1, w2⟩ := w9
          subst h9
          cases w1
          show jJ G X _ 0 0 _ _ []
          refine jr_iinc K (D_at DX1_catchSome 42 rfl) (i := 2) rfl (v := x2 + (1 : Int32)) (jinc (by decide)) (by decide) (L2 := [_, _, _, _]) rfl ?_
          refine jr_iinc K (D_at DX1_catchSome 43 rfl) (i := 3) rfl (v := x3 + (1 : Int32)) (jinc (by decide)) (by decide) (L2 := [_, _, _, _]) rfl ?_
          refine jr_goto K (D_at DX1_catchSome 44 rfl) (tgt := 4) (by decide) ?_
          refine jr_keep [true, true, true, true] ?_
          exact hr4 a0 a1 (x2 + (1 : Int32)) (x3 + (1 : Int32)) h71 hf
theorem J_X1_catchSome_4 {G : jG} {l : Launch} {d : Nat} {X : jX} {res : (Int32 × jH)} (K : jOK G l mX1_catchSome (d + 4) X) (n : Nat) (E : jEnd G mX1_catchSome (jPW res) X) (k : Nat) : ∀ (a0 : Nat) (a1 : Nat) (x2 : Int32) (x3 : Int32) (h : jH), F_X1_catchSome_4 n k a0 a1 x2 x3 h = some res → jJ G X h 0 0 4 [some (.ref a0), some (.ref a1), some (.int x2), some (.int x3)] [] := by
  induction k with
  | zero =>
    intro a0 a1 x2 x3 h hf
    exact jno (show (none : Option (Int32 × jH)) = some res from hf)
  | succ k ih =>
    intro a0 a1 x2 x3 h hf
    exact J_X1_catchSome_4_b K n (F_X1_catchSome_4 n k) ih E a0 a1 x2 x3 h hf
set_option maxHeartbeats 400000 in
set_option maxRecDepth 100000 in
theorem J_X1_catchSome {G : jG} {l : Launch} {d : Nat} {X : jX} {res : (Int32 × jH)} (K : jOK G l mX1_catchSome (d + 4) X) (n : Nat) (E : jEnd G mX1_catchSome (jPW res) X) (a0 : Nat) (a1 : Nat) (h : jH) (hf : F_X1_catchSome n a0 a1 h = some res) : jJ G X h 0 0 0 [some (.ref a0), some (.ref a1), none, none] [] := by
  unfold F_X1_catchSome at hf
  refine jr_iconst K (D_at DX1_catchSome 0 rfl) (v := (0 : Int32)) (by decide) ?_
  refine jr_istore_n K (D_at DX1_catchSome 1 rfl) (i := 2) rfl (by decide) (L2 := [_, _, _, _]) rfl ?_
  refine jr_iconst K (D_at DX1_catchSome 2 rfl) (v := (0 : Int32)) (by decide) ?_
  refine jr_istore_n K (D_at DX1_catchSome 3 rfl) (i := 3) rfl (by decide) (L2 := [_, _, _, _]) rfl ?_
  refine jr_keep [true, true, true, true] ?_
  exact J_X1_catchSome_4 K n E n a0 a1 (0 : Int32) (0 : Int32) h hf
theorem C_X1_catchSome {G : jG} {l : Launch} (d : Nat) {n : Nat} {a0 : Nat} {a1 : Nat} {h : jH} {res : (Int32 × jH)} (hf : F_X1_catchSome n a0 a1 h = some res) : jC G l mX1_catchSome (d + 4) 0 0 [.ref a0, .ref a1] h (jPW res) :=
  jC.of (by decide +kernel) (jcats rfl) (Nat.le_of_ble_eq_true rfl) (fun X K E => J_X1_catchSome K n E a0 a1 h hf)
set_option maxHeartbeats 400000 in
set_option maxRecDepth 100000 in
theorem J_X1_dropSome_4_b {G : jG} {l : Launch} {d : Nat} {X : jX} {res : (Int32 × jH)} (K : jOK G l mX1_dropSome (d + 4) X) (n : Nat) (rc4 : Nat → Nat → Int32 → Int32 → jH → Option (Int32 × jH)) (hr4 : ∀ (a0 : Nat) (a1 : Nat) (x2 : Int32) (x3 : Int32) (h : jH), rc4 a0 a1 x2 x3 h = some res → jJ G X h 0 0 4 [some (.ref a0), some (.ref a1), some (.int x2), some (.int x3)] []) (E : jEnd G mX1_dropSome (jPW res) X) (a0 : Nat) (a1 : Nat) (x2 : Int32) (x3 : Int32) (h : jH) (hf : F_X1_dropSome_4_b n rc4 a0 a1 x2 x3 h = some res) : jJ G X h 0 0 4 [some (.ref a0), some (.ref a1), some (.int x2), some (.int x3)] [] := by
  unfold F_X1_dropSome_4_b at hf
  refine jr_iload_n K (D_at DX1_dropSome 4 rfl) rfl rfl ?_
  refine jr_aload_n K (D_at DX1_dropSome 5 rfl) rfl rfl ?_
  obtain ⟨v6, e6, hf⟩ := jbind hf
  refine jr_getI K (D_at DX1_dropSome 6 rfl) fg_X1_62_6 e6 ?_
  refine jr_icmp_ge K (D_at DX1_dropSome 7 rfl) (tgt := 74) (by decide) (fun c9 => ?_) (fun c9 => ?_)
  · replace hf := (if_pos c9).symm.trans hf
    refine jr_iload_n K (D_at DX1_dropSome 40 rfl) rfl rfl ?_
    cases hf
    exact jr_iret K E (D_at DX1_dropSome 41 rfl) rfl ⟨rfl, rfl⟩
  · replace hf := (if_neg c9).symm.trans hf
    refine jr_aload_n K (D_at DX1_dropSome 8 rfl) rfl rfl ?_
    obtain ⟨v13, e13, hf⟩ := jbind hf
    refine jr_getI K (D_at DX1_dropSome 9 rfl) fg_X1_95_6 e13 ?_
    refine jr_iload_n K (D_at DX1_dropSome 10 rfl) rfl rfl ?_
    obtain ⟨v17, e17, hf⟩ := jbind hf
    refine jr_callSN K (C_X11_bit (d + 3) e17) (D_at DX1_dropSome 11 rfl) csn_X1_75_X11_bit (As := [.int v13, .int x3]) rfl rfl (by exact Nat.le_of_ble_eq_true rfl) (kc2 := 0) (ks2 := 0) rfl rfl (fun k9 h9 w9 => by cases w9.1) (fun r9 h9 w9 => ?_)
    obtain ⟨w1, w2⟩ := w9
    subst h9
    cases w1
    show jJ G X _ 0 0 _ _ (.int v17 :: _)
    refine jr_iconst K (D_at DX1_dropSome 12 rfl) (v := (1 : Int32)) (by decide) ?_
    refine jr_icmp_ne K (D_at DX1_dropSome 13 rfl) (tgt := 68) (by decide) (fun c21 => ?_) (fun c21 => ?_)
    · replace hf := (if_neg c21).symm.trans hf
      refine jr_iinc K (D_at DX1_dropSome 38 rfl) (i := 3) rfl (v := x3 + (1 : Int32)) (jinc (by decide)) (by decide) (L2 := [_, _, _, _]) rfl ?_
      refine jr_goto K (D_at DX1_dropSome 39 rfl) (tgt := 4) (by decide) ?_
      refine jr_keep [true, true, true, true] ?_
      exact hr4 a0 a1 x2 (x3 + (1 : Int32)) h hf
    · replace hf := (if_pos c21).symm.trans hf
      refine jr_aload_n K (D_at DX1_dropSome 14 rfl) rfl rfl ?_
      obtain ⟨q25, e25, hf⟩ := jbind hf
      refine jr_callS K (C_X1_draw (d + 3) e25) (D_at DX1_dropSome 15 rfl) cs_X1_78_X1_draw (As := [.ref a1]) rfl rfl (by exact Nat.le_of_ble_eq_true rfl) (kc2 := 0) (ks2 := 0) rfl rfl (fun k9 h9 w9 => by cases w9.1) (fun r9 h9 w9 => ?_)
      obtain ⟨w1, w2⟩ := w9
      subst h9
      cases w1
      show jJ G X _ 0 0 _ _ (.int q25.1 :: _)
      refine jr_aload_n K (D_at DX1_dropSome 16 rfl) rfl rfl ?_
      obtain ⟨p29, e29, hf⟩ := jbind hf
      refine jr_getR K (D_at DX1_dropSome 17 rfl) fg_X1_9_1 e29 ?_
      refine jr_iconst K (D_at DX1_dropSome 18 rfl) (v := (2 : Int32)) (by decide) ?_
      refine jr_aload_n K (D_at DX1_dropSome 19 rfl) rfl rfl ?_
      refine jr_iload_n K (D_at DX1_dropSome 20 rfl) rfl rfl ?_
      obtain ⟨q35, e35, hf⟩ := jbind hf
      obtain ⟨rc_35, e35⟩ := jcv_o e35
      refine jr_callV K (C_X2_amount (d) e35) (D_at DX1_dropSome 21 rfl) cv_X1_50_X2_amount (As := [.int (2 : Int32), .ref a1, .int x3]) (ci := 2) rfl rc_35 rfl rfl (by exact Nat.le_of_ble_eq_true rfl) (kc2 := 0) (ks2 := 0) rfl rfl (fun k9 h9 w9 => by cases w9.1) (fun r9 h9 w9 => ?_)
      obtain ⟨w1, w2⟩ := w9
      subst h9
      cases w1
      show jJ G X _ 0 0 _ _ (.int q35.1 :: _)
      refine jr_icmp_ge K (D_at DX1_dropSome 22 rfl) (tgt := 68) (by decide) (fun c38 => ?_) (fun c38 => ?_)
      · replace hf := (if_pos c38).symm.trans hf
        refine jr_iinc K (D_at DX1_dropSome 38 rfl) (i := 3) rfl (v := x3 + (1 : Int32)) (jinc (by decide)) (by decide) (L2 := [_, _, _, _]) rfl ?_
        refine jr_goto K (D_at DX1_dropSome 39 rfl) (tgt := 4) (by decide) ?_
        refine jr_keep [true, true, true, true] ?_
        exact hr4 a0 a1 x2 (x3 + (1 : Int32)) q35.2 hf
      · replace hf := (if_neg c38).symm.trans hf
        refine jr_aload_n K (D_at DX1_dropSome 23 rfl) rfl rfl ?_
        refine jr_aload_n K (D_at DX1_dropSome 24 rfl) rfl rfl ?_
        obtain ⟨v43, e43, hf⟩ := jbind hf
        refine jr_getI K (D_at DX1_dropSome 25 rfl) fg_X1_95_6 e43 ?_
        refine jr_iload_n K (D_at DX1_dropSome 26 rfl) rfl rfl ?_
        refine jr_iconst K (D_at DX1_dropSome 27 rfl) (v := (0 : Int32)) (by decide) ?_
        obtain ⟨v48, e48, hf⟩ := jbind hf
        refine jr_callSN K (C_X11_withBit (d + 3) e48) (D_at DX1_dropSome 28 rfl) csn_X1_81_X11_withBit (As := [.int v43, .int x3, .int (0 : Int32)]) rfl rfl (by exact Nat.le_of_ble_eq_true rfl) (kc2 := 0) (ks2 := 0) rfl rfl (fun k9 h9 w9 => by cases w9.1) (fun r9 h9 w9 => ?_)
        obtain ⟨w1, w2⟩ := w9
        subst h9
        cases w1
        show jJ G X _ 0 0 _ _ (.int v48 :: _)
        obtain ⟨h51, e51, hf⟩ := jbind hf
        refine jr_putI K (D_at DX1_dropSome 29 rfl) fp_X1_95_6 (Or.inl rfl) e51 ?_
        refine jr_aload_n K (D_at DX1_dropSome 30 rfl) rfl rfl ?_
        obtain ⟨p55, e55, hf⟩ := jbind hf
        refine jr_getR K (D_at DX1_dropSome 31 rfl) fg_X1_85_6 e55 ?_
        refine jr_aload_n K (D_at DX1_dropSome 32 rfl) rfl rfl ?_
        refine jr_iload_n K (D_at DX1_dropSome 33 rfl) rfl rfl ?_
        refine jr_iconst K (D_at DX1_dropSome 34 rfl) (v := (2 : Int32)) (by decide) ?_
        refine jr_iconst K (D_at DX1_dropSome 35 rfl) (v := (0 : Int32)) (by decide) ?_
        obtain ⟨h62, e62, hf⟩ := jbind hf
        obtain ⟨rc_62, e62⟩ := jcv_o e62
        refine jr_callV K (C_X5_add (d + 2) e62) (D_at DX1_dropSome 36 rfl) cv_X1_89_X5_add (As := [.ref a1, .int x3, .int (2 : Int32), .int (0 : Int32)]) (ci := 4) rfl rc_62 rfl rfl (by exact Nat.le_of_ble_eq_true rfl) (kc2 := 0) (ks2 := 0) rfl rfl (fun k9 h9 w9 => by cases w9.1) (fun r9 h9 w9 => ?_)
        obtain ⟨w1, w2⟩ := w9
        subst h9
        cases w1
        show jJ G X _ 0 0 _ _ []
        refine jr_iinc K (D_at DX1_dropSome 37 rfl) (i := 2) rfl (v := x2 + (1 : Int32)) (jinc (by decide)) (by decide) (L2 := [_, _, _, _]) rfl ?_
        refine jr_iinc K (D_at DX1_dropSome 38 rfl) (i := 3) rfl (v := x3 + (1 : Int32)) (jinc (by decide)) (by decide) (L2 := [_, _, _, _]) rfl ?_
        refine jr_goto K (D_at DX1_dropSome 39 rfl) (tgt := 4) (by decide) ?_
        refine jr_keep [true, true, true, true] ?_
        exact hr4 a0 a1 (x2 + (1 : Int32)) (x3 + (1 : Int32)) h62 hf
theorem J_X1_dropSome_4 {G : jG} {l : Launch} {d : Nat} {X : jX} {res : (Int32 × jH)} (K : jOK G l mX1_dropSome (d + 4) X) (n : Nat) (E : jEnd G mX1_dropSome (jPW res) X) (k : Nat) : ∀ (a0 : Nat) (a1 : Nat) (x2 : Int32) (x3 : Int32) (h : jH), F_X1_dropSome_4 n k a0 a1 x2 x3 h = some res → jJ G X h 0 0 4 [some (.ref a0), some (.ref a1), some (.int x2), some (.int x3)] [] := by
  induction k with
  | zero =>
    intro a0 a1 x2 x3 h hf
    exact jno (show (none : Option (Int32 × jH)) = some res from hf)
  | succ k ih =>
    intro a0 a1 x2 x3 h hf
    exact J_X1_dropSome_4_b K n (F_X1_dropSome_4 n k) ih E a0 a1 x2 x3 h hf
set_option maxHeartbeats 400000 in
set_option maxRecDepth 100000 in
theorem J_X1_dropSome {G : jG} {l : Launch} {d : Nat} {X : jX} {res : (Int32 × jH)} (K : jOK G l mX1_dropSome (d + 4) X) (n : Nat) (E : jEnd G mX1_dropSome (jPW res) X) (a0 : Nat) (a1 : Nat) (h : jH) (hf : F_X1_dropSome n a0 a1 h = some res) : jJ G X h 0 0 0 [some (.ref a0), some (.ref a1), none, none] [] := by
  unfold F_X1_dropSome at hf
  refine jr_iconst K (D_at DX1_dropSome 0 rfl) (v := (0 : Int32)) (by decide) ?_
  refine jr_istore_n K (D_at DX1_dropSome 1 rfl) (i := 2) rfl (by decide) (L2 := [_, _, _, _]) rfl ?_
  refine jr_iconst K (D_at DX1_dropSome 2 rfl) (v := (0 : Int32)) (by decide) ?_
  refine jr_istore_n K (D_at DX1_dropSome 3 rfl) (i := 3) rfl (by decide) (L2 := [_, _, _, _]) rfl ?_
  refine jr_keep [true, true, true, true] ?_
  exact J_X1_dropSome_4 K n E n a0 a1 (0 : Int32) (0 : Int32) h hf
theorem C_X1_dropSome {G : jG} {l : Launch} (d : Nat) {n : Nat} {a0 : Nat} {a1 : Nat} {h : jH} {res : (Int32 × jH)} (hf : F_X1_dropSome n a0 a1 h = some res) : jC G l mX1_dropSome (d + 4) 0 0 [.ref a0, .ref a1] h (jPW res) :=
  jC.of (by decide +kernel) (jcats rfl) (Nat.le_of_ble_eq_true rfl) (fun X K E => J_X1_dropSome K n E a0 a1 h hf)
set_option maxHeartbeats 400000 in
set_option maxRecDepth 100000 in
theorem J_X1_turn {G : jG} {l : Launch} {d : Nat} {X : jX} {res : jH} (K : jOK G l mX1_turn (d + 1) X) (n : Nat) (E : jEnd G mX1_turn (jPV res) X) (a0 : Nat) (h : jH) (hf : F_X1_turn n a0 h = some res) : jJ G X h 0 0 0 [some (.ref a0)] [] := by
  unfold F_X1_turn at hf
  refine jr_aload_n K (D_at DX1_turn 0 rfl) rfl rfl ?_
  refine jr_dup K (D_at DX1_turn 1 rfl) rfl ?_
  obtain ⟨v2, e2, hf⟩ := jbind hf
  refine jr_getI K (D_at DX1_turn 2 rfl) fg_X1_99_6 e2 ?_
  refine jr_iconst K (D_at DX1_turn 3 rfl) (v := (1 : Int32)) (by decide) ?_
  refine jr_iadd K (D_at DX1_turn 4 rfl) ?_
  obtain ⟨h7, e7, hf⟩ := jbind hf
  refine jr_putI K (D_at DX1_turn 5 rfl) fp_X1_99_6 (Or.inl rfl) e7 ?_
  refine jr_aload_n K (D_at DX1_turn 6 rfl) rfl rfl ?_
  obtain ⟨v11, e11, hf⟩ := jbind hf
  refine jr_getI K (D_at DX1_turn 7 rfl) fg_X1_99_6 e11 ?_
  refine jr_bipush K (D_at DX1_turn 8 rfl) (v := (8 : Int32)) (by decide) ?_
  refine jr_icmp_lt K (D_at DX1_turn 9 rfl) (tgt := 40) (by decide) (fun c16 => ?_) (fun c16 => ?_)
  · replace hf := (if_pos c16).symm.trans hf
    cases hf
    exact jr_vret K E (D_at DX1_turn 21 rfl) rfl ⟨rfl, rfl⟩
  · replace hf := (if_neg c16).symm.trans hf
    refine jr_aload_n K (D_at DX1_turn 10 rfl) rfl rfl ?_
    refine jr_iconst K (D_at DX1_turn 11 rfl) (v := (0 : Int32)) (by decide) ?_
    obtain ⟨h21, e21, hf⟩ := jbind hf
    refine jr_putI K (D_at DX1_turn 12 rfl) fp_X1_99_6 (Or.inl rfl) e21 ?_
    refine jr_aload_n K (D_at DX1_turn 13 rfl) rfl rfl ?_
    refine jr_sipush K (D_at DX1_turn 14 rfl) (v := (9999 : Int32)) (by decide) ?_
    refine jr_aload_n K (D_at DX1_turn 15 rfl) rfl rfl ?_
    obtain ⟨v29, e29, hf⟩ := jbind hf
    refine jr_getI K (D_at DX1_turn 16 rfl) fg_X1_102_6 e29 ?_
    refine jr_iconst K (D_at DX1_turn 17 rfl) (v := (1 : Int32)) (by decide) ?_
    refine jr_iadd K (D_at DX1_turn 18 rfl) ?_
    refine jr_min K (D_at DX1_turn 19 rfl) mm_X1_56 (by exact Nat.le_of_ble_eq_true rfl) ?_
    obtain ⟨h37, e37, hf⟩ := jbind hf
    refine jr_putI K (D_at DX1_turn 20 rfl) fp_X1_102_6 (Or.inl rfl) e37 ?_
    cases hf
    exact jr_vret K E (D_at DX1_turn 21 rfl) rfl ⟨rfl, rfl⟩
theorem C_X1_turn {G : jG} {l : Launch} (d : Nat) {n : Nat} {a0 : Nat} {h : jH} {res : jH} (hf : F_X1_turn n a0 h = some res) : jC G l mX1_turn (d + 1) 0 0 [.ref a0] h (jPV res) :=
  jC.of (by decide +kernel) (jcats rfl) (Nat.le_of_ble_eq_true rfl) (fun X K E => J_X1_turn K n E a0 h hf)
set_option maxHeartbeats 400000 in
set_option maxRecDepth 100000 in
theorem J_X1_run_5_b {G : jG} {l : Launch} {d : Nat} {X : jX} {res : (Int32 × jH)} (K : jOK G l mX1_run (d + 5) X) (n : Nat) (rc5 : Nat → Nat → Int32 → Int32 → Int32 → jH → Option (Int32 × jH)) (hr5 : ∀ (a0 : Nat) (a1 : Nat) (x2 : Int32) (x3 : Int32) (x4 : Int32) (h : jH), rc5 a0 a1 x2 x3 x4 h = some res → jJ G X h 0 0 5 [some (.ref a0), some (.ref a1), some (.int x2), some (.int x3), some (.int x4)] []) (E : jEnd G mX1_run (jPW res) X) (a0 : Nat) (a1 : Nat) (x2 : Int32) (x3 : Int32) (x4 : Int32) (h : jH) (hf : F_X1_run_5_b n rc5 a0 a1 x2 x3 x4 h = some res) : jJ G X h 0 0 5 [some (.ref a0), some (.ref a1), some (.int x2), some (.int x3), some (.int x4)] [] := by
  unfold F_X1_run_5_b at hf
  refine jr_iload K (D_at DX1_run 4 rfl) rfl ?_
  refine jr_iload_n K (D_at DX1_run 5 rfl) rfl rfl ?_
  refine jr_icmp_ge K (D_at DX1_run 6 rfl) (tgt := 40) (by decide) (fun c8 => ?_) (fun c8 => ?_)
  · replace hf := (if_pos c8).symm.trans hf
    refine jr_iload_n K (D_at DX1_run 24 rfl) rfl rfl ?_
    cases hf
    exact jr_iret K E (D_at DX1_run 25 rfl) rfl ⟨rfl, rfl⟩
  · replace hf := (if_neg c8).symm.trans hf
    refine jr_aload_n K (D_at DX1_run 7 rfl) rfl rfl ?_
    refine jr_aload_n K (D_at DX1_run 8 rfl) rfl rfl ?_
    obtain ⟨h13, e13, hf⟩ := jbind hf
    obtain ⟨rc_13, e13⟩ := jcv_o e13
    refine jr_callV K (C_X1_fadeAll (d) e13) (D_at DX1_run 9 rfl) cv_X1_19_X1_fadeAll (As := [.ref a1]) (ci := 1) rfl rc_13 rfl rfl (by exact Nat.le_of_ble_eq_true rfl) (kc2 := 0) (ks2 := 0) rfl rfl (fun k9 h9 w9 => by cases w9.1) (fun r9 h9 w9 => ?_)
    obtain ⟨w1, w2⟩ := w9
    subst h9
    cases w1
    show jJ G X _ 0 0 _ _ []
    refine jr_iload_n K (D_at DX1_run 10 rfl) rfl rfl ?_
    refine jr_aload_n K (D_at DX1_run 11 rfl) rfl rfl ?_
    refine jr_aload_n K (D_at DX1_run 12 rfl) rfl rfl ?_
    obtain ⟨q19, e19, hf⟩ := jbind hf
    obtain ⟨rc_19, e19⟩ := jcv_o e19
    refine jr_callV K (C_X1_catchSome (d) e19) (D_at DX1_run 13 rfl) cv_X1_23_X1_catchSome (As := [.ref a1]) (ci := 1) rfl rc_19 rfl rfl (by exact Nat.le_of_ble_eq_true rfl) (kc2 := 0) (ks2 := 0) rfl rfl (fun k9 h9 w9 => by cases w9.1) (fun r9 h9 w9 => ?_)
    obtain ⟨w1, w2⟩ := w9
    subst h9
    cases w1
    show jJ G X _ 0 0 _ _ (.int q19.1 :: _)
    refine jr_aload_n K (D_at DX1_run 14 rfl) rfl rfl ?_
    refine jr_aload_n K (D_at DX1_run 15 rfl) rfl rfl ?_
    obtain ⟨q24, e24, hf⟩ := jbind hf
    obtain ⟨rc_24, e24⟩ := jcv_o e24
    refine jr_callV K (C_X1_dropSome (d) e24) (D_at DX1_run 16 rfl) cv_X1_27_X1_dropSome (As := [.ref a1]) (ci := 1) rfl rc_24 rfl rfl (by exact Nat.le_of_ble_eq_true rfl) (kc2 := 0) (ks2 := 0) rfl rfl (fun k9 h9 w9 => by cases w9.1) (fun r9 h9 w9 => ?_)
    obtain ⟨w1, w2⟩ := w9
    subst h9
    cases w1
    show jJ G X _ 0 0 _ _ (.int q24.1 :: _)
    refine jr_iadd K (D_at DX1_run 17 rfl) ?_
    refine jr_iadd K (D_at DX1_run 18 rfl) ?_
    refine jr_istore_n K (D_at DX1_run 19 rfl) (i := 3) rfl (by decide) (L2 := [_, _, _, _, _]) rfl ?_
    refine jr_aload_n K (D_at DX1_run 20 rfl) rfl rfl ?_
    obtain ⟨h31, e31, hf⟩ := jbind hf
    refine jr_callS K (C_X1_turn (d + 3) e31) (D_at DX1_run 21 rfl) cs_X1_30_X1_turn (As := [.ref a1]) rfl rfl (by exact Nat.le_of_ble_eq_true rfl) (kc2 := 0) (ks2 := 0) rfl rfl (fun k9 h9 w9 => by cases w9.1) (fun r9 h9 w9 => ?_)
    obtain ⟨w1, w2⟩ := w9
    subst h9
    cases w1
    show jJ G X _ 0 0 _ _ []
    refine jr_iinc K (D_at DX1_run 22 rfl) (i := 4) rfl (v := x4 + (1 : Int32)) (jinc (by decide)) (by decide) (L2 := [_, _, _, _, _]) rfl ?_
    refine jr_goto K (D_at DX1_run 23 rfl) (tgt := 5) (by decide) ?_
    refine jr_keep [true, true, true, true, true] ?_
    exact hr5 a0 a1 x2 (x3 + (q19.1 + q24.1)) (x4 + (1 : Int32)) h31 hf
theorem J_X1_run_5 {G : jG} {l : Launch} {d : Nat} {X : jX} {res : (Int32 × jH)} (K : jOK G l mX1_run (d + 5) X) (n : Nat) (E : jEnd G mX1_run (jPW res) X) (k : Nat) : ∀ (a0 : Nat) (a1 : Nat) (x2 : Int32) (x3 : Int32) (x4 : Int32) (h : jH), F_X1_run_5 n k a0 a1 x2 x3 x4 h = some res → jJ G X h 0 0 5 [some (.ref a0), some (.ref a1), some (.int x2), some (.int x3), some (.int x4)] [] := by
  induction k with
  | zero =>
    intro a0 a1 x2 x3 x4 h hf
    exact jno (show (none : Option (Int32 × jH)) = some res from hf)
  | succ k ih =>
    intro a0 a1 x2 x3 x4 h hf
    exact J_X1_run_5_b K n (F_X1_run_5 n k) ih E a0 a1 x2 x3 x4 h hf
set_option maxHeartbeats 400000 in
set_option maxRecDepth 100000 in
theorem J_X1_run {G : jG} {l : Launch} {d : Nat} {X : jX} {res : (Int32 × jH)} (K : jOK G l mX1_run (d + 5) X) (n : Nat) (E : jEnd G mX1_run (jPW res) X) (a0 : Nat) (a1 : Nat) (x2 : Int32) (h : jH) (hf : F_X1_run n a0 a1 x2 h = some res) : jJ G X h 0 0 0 [some (.ref a0), some (.ref a1), some (.int x2), none, none] [] := by
  unfold F_X1_run at hf
  refine jr_iconst K (D_at DX1_run 0 rfl) (v := (0 : Int32)) (by decide) ?_
  refine jr_istore_n K (D_at DX1_run 1 rfl) (i := 3) rfl (by decide) (L2 := [_, _, _, _, _]) rfl ?_
  refine jr_iconst K (D_at DX1_run 2 rfl) (v := (0 : Int32)) (by decide) ?_
  refine jr_istore K (D_at DX1_run 3 rfl) (i := 4) (by decide) (L2 := [_, _, _, _, _]) rfl ?_
  refine jr_keep [true, true, true, true, true] ?_
  exact J_X1_run_5 K n E n a0 a1 x2 (0 : Int32) (0 : Int32) h hf
theorem C_X1_run {G : jG} {l : Launch} (d : Nat) {n : Nat} {a0 : Nat} {a1 : Nat} {x2 : Int32} {h : jH} {res : (Int32 × jH)} (hf : F_X1_run n a0 a1 x2 h = some res) : jC G l mX1_run (d + 5) 0 0 [.ref a0, .ref a1, .int x2] h (jPW res) :=
  jC.of (by decide +kernel) (jcats rfl) (Nat.le_of_ble_eq_true rfl) (fun X K E => J_X1_run K n E a0 a1 x2 h hf)
set_option maxHeartbeats 400000 in
set_option maxRecDepth 100000 in
theorem J_X1_tryHours {G : jG} {l : Launch} {d : Nat} {X : jX} {res : jH} (K : jOK G l mX1_tryHours (d + 6) X) (n : Nat) (E : jEnd G mX1_tryHours (jPV res) X) (a0 : Nat) (a1 : Nat) (x2 : Int32) (x3 : Int32) (h : jH) (hf : F_X1_tryHours n a0 a1 x2 x3 h = some res) : jJ G X h 0 0 0 [some (.ref a0), some (.ref a1), some (.int x2), some (.int x3)] [] := by
  unfold F_X1_tryHours at hf
  refine jr_aload_n K (D_at DX1_tryHours 0 rfl) rfl rfl ?_
  obtain ⟨p1, e1, hf⟩ := jbind hf
  refine jr_getR K (D_at DX1_tryHours 1 rfl) fg_X1_15_1 e1 ?_
  refine jr_aload_n K (D_at DX1_tryHours 2 rfl) rfl rfl ?_
  obtain ⟨h5, e5, hf⟩ := jbind hf
  obtain ⟨rc_5, e5⟩ := jcv_o e5
  refine jr_callV K (C_X8_copyFrom (d + 3) e5) (D_at DX1_tryHours 3 rfl) cv_X1_33_X8_copyFrom (As := [.ref a1]) (ci := 6) rfl rc_5 rfl rfl (by exact Nat.le_of_ble_eq_true rfl) (kc2 := 0) (ks2 := 0) rfl rfl (fun k9 h9 w9 => by cases w9.1) (fun r9 h9 w9 => ?_)
  obtain ⟨w1, w2⟩ := w9
  subst h9
  cases w1
  show jJ G X _ 0 0 _ _ []
  refine jr_aload_n K (D_at DX1_tryHours 4 rfl) rfl rfl ?_
  obtain ⟨p9, e9, hf⟩ := jbind hf
  refine jr_getR K (D_at DX1_tryHours 5 rfl) fg_X1_15_1 e9 ?_
  refine jr_iload_n K (D_at DX1_tryHours 6 rfl) rfl rfl ?_
  obtain ⟨h13, e13, hf⟩ := jbind hf
  refine jr_putI K (D_at DX1_tryHours 7 rfl) fp_X1_38_6 (Or.inl rfl) e13 ?_
  refine jr_aload_n K (D_at DX1_tryHours 8 rfl) rfl rfl ?_
  refine jr_aload_n K (D_at DX1_tryHours 9 rfl) rfl rfl ?_
  obtain ⟨p18, e18, hf⟩ := jbind hf
  refine jr_getR K (D_at DX1_tryHours 10 rfl) fg_X1_15_1 e18 ?_
  refine jr_iload_n K (D_at DX1_tryHours 11 rfl) rfl rfl ?_
  obtain ⟨q22, e22, hf⟩ := jbind hf
  obtain ⟨rc_22, e22⟩ := jcv_o e22
  refine jr_callV K (C_X1_run (d) e22) (D_at DX1_tryHours 12 rfl) cv_X1_42_X1_run (As := [.ref p18, .int x2]) (ci := 1) rfl rc_22 rfl rfl (by exact Nat.le_of_ble_eq_true rfl) (kc2 := 0) (ks2 := 0) rfl rfl (fun k9 h9 w9 => by cases w9.1) (fun r9 h9 w9 => ?_)
  obtain ⟨w1, w2⟩ := w9
  subst h9
  cases w1
  show jJ G X _ 0 0 _ _ (.int q22.1 :: _)
  refine jr_pop K (D_at DX1_tryHours 13 rfl) rfl ?_
  cases hf
  exact jr_vret K E (D_at DX1_tryHours 14 rfl) rfl ⟨rfl, rfl⟩
theorem C_X1_tryHours {G : jG} {l : Launch} (d : Nat) {n : Nat} {a0 : Nat} {a1 : Nat} {x2 : Int32} {x3 : Int32} {h : jH} {res : jH} (hf : F_X1_tryHours n a0 a1 x2 x3 h = some res) : jC G l mX1_tryHours (d + 6) 0 0 [.ref a0, .ref a1, .int x2, .int x3] h (jPV res) :=
  jC.of (by decide +kernel) (jcats rfl) (Nat.le_of_ble_eq_true rfl) (fun X K E => J_X1_tryHours K n E a0 a1 x2 x3 h hf)
set_option maxHeartbeats 400000 in
set_option maxRecDepth 100000 in
theorem J_X1_goAhead_10_b {G : jG} {l : Launch} {d : Nat} {X : jX} {res : jH} (K : jOK G l mX1_goAhead (d + 5) X) (n : Nat) (rc10 : Nat → Int32 → Int32 → jH → Option jH) (hr10 : ∀ (a0 : Nat) (x2 : Int32) (x3 : Int32) (h : jH), rc10 a0 x2 x3 h = some res → jJ G X h 0 0 10 [some (.ref a0), none, some (.int x2), some (.int x3)] []) (E : jEnd G mX1_goAhead (jPV res) X) (a0 : Nat) (x2 : Int32) (x3 : Int32) (h : jH) (hf : F_X1_goAhead_10_b n rc10 a0 x2 x3 h = some res) : jJ G X h 0 0 10 [some (.ref a0), none, some (.int x2), some (.int x3)] [] := by
  unfold F_X1_goAhead_10_b at hf
  refine jr_iload_n K (D_at DX1_goAhead 6 rfl) rfl rfl ?_
  refine jr_iload_n K (D_at DX1_goAhead 7 rfl) rfl rfl ?_
  refine jr_icmp_ge K (D_at DX1_goAhead 8 rfl) (tgt := 36) (by decide) (fun c12 => ?_) (fun c12 => ?_)
  · replace hf := (if_pos c12).symm.trans hf
    cases hf
    exact jr_vret K E (D_at DX1_goAhead 18 rfl) rfl ⟨rfl, rfl⟩
  · replace hf := (if_neg c12).symm.trans hf
    refine jr_aload_n K (D_at DX1_goAhead 9 rfl) rfl rfl ?_
    refine jr_aload_n K (D_at DX1_goAhead 10 rfl) rfl rfl ?_
    obtain ⟨p17, e17, hf⟩ := jbind hf
    refine jr_getR K (D_at DX1_goAhead 11 rfl) fg_X1_15_1 e17 ?_
    obtain ⟨h20, e20, hf⟩ := jbind hf
    obtain ⟨rc_20, e20⟩ := jcv_o e20
    refine jr_callV K (C_X1_fadeAll (d) e20) (D_at DX1_goAhead 12 rfl) cv_X1_19_X1_fadeAll (As := [.ref p17]) (ci := 1) rfl rc_20 rfl rfl (by exact Nat.le_of_ble_eq_true rfl) (kc2 := 0) (ks2 := 0) rfl rfl (fun k9 h9 w9 => by cases w9.1) (fun r9 h9 w9 => ?_)
    obtain ⟨w1, w2⟩ := w9
    subst h9
    cases w1
    show jJ G X _ 0 0 _ _ []
    refine jr_aload_n K (D_at DX1_goAhead 13 rfl) rfl rfl ?_
    obtain ⟨p24, e24, hf⟩ := jbind hf
    refine jr_getR K (D_at DX1_goAhead 14 rfl) fg_X1_15_1 e24 ?_
    obtain ⟨h27, e27, hf⟩ := jbind hf
    refine jr_callS K (C_X1_turn (d + 3) e27) (D_at DX1_goAhead 15 rfl) cs_X1_30_X1_turn (As := [.ref p24]) rfl rfl (by exact Nat.le_of_ble_eq_true rfl) (kc2 := 0) (ks2 := 0) rfl rfl (fun k9 h9 w9 => by cases w9.1) (fun r9 h9 w9 => ?_)
    obtain ⟨w1, w2⟩ := w9
    subst h9
    cases w1
    show jJ G X _ 0 0 _ _ []
    refine jr_iinc K (D_at DX1_goAhead 16 rfl) (i := 3) rfl (v := x3 + (1 : Int32)) (jinc (by decide)) (by decide) (L2 := [_, _, _, _]) rfl ?_
    refine jr_goto K (D_at DX1_goAhead 17 rfl) (tgt := 10) (by decide) ?_
    refine jr_keep [true, false, true, true] ?_
    exact hr10 a0 x2 (x3 + (1 : Int32)) h27 hf
theorem J_X1_goAhead_10 {G : jG} {l : Launch} {d : Nat} {X : jX} {res : jH} (K : jOK G l mX1_goAhead (d + 5) X) (n : Nat) (E : jEnd G mX1_goAhead (jPV res) X) (k : Nat) : ∀ (a0 : Nat) (x2 : Int32) (x3 : Int32) (h : jH), F_X1_goAhead_10 n k a0 x2 x3 h = some res → jJ G X h 0 0 10 [some (.ref a0), none, some (.int x2), some (.int x3)] [] := by
  induction k with
  | zero =>
    intro a0 x2 x3 h hf
    exact jno (show (none : Option jH) = some res from hf)
  | succ k ih =>
    intro a0 x2 x3 h hf
    exact J_X1_goAhead_10_b K n (F_X1_goAhead_10 n k) ih E a0 x2 x3 h hf
set_option maxHeartbeats 400000 in
set_option maxRecDepth 100000 in
theorem J_X1_goAhead {G : jG} {l : Launch} {d : Nat} {X : jX} {res : jH} (K : jOK G l mX1_goAhead (d + 5) X) (n : Nat) (E : jEnd G mX1_goAhead (jPV res) X) (a0 : Nat) (a1 : Nat) (x2 : Int32) (h : jH) (hf : F_X1_goAhead n a0 a1 x2 h = some res) : jJ G X h 0 0 0 [some (.ref a0), some (.ref a1), some (.int x2), none] [] := by
  unfold F_X1_goAhead at hf
  refine jr_aload_n K (D_at DX1_goAhead 0 rfl) rfl rfl ?_
  obtain ⟨p1, e1, hf⟩ := jbind hf
  refine jr_getR K (D_at DX1_goAhead 1 rfl) fg_X1_15_1 e1 ?_
  refine jr_aload_n K (D_at DX1_goAhead 2 rfl) rfl rfl ?_
  obtain ⟨h5, e5, hf⟩ := jbind hf
  obtain ⟨rc_5, e5⟩ := jcv_o e5
  refine jr_callV K (C_X8_copyFrom (d + 2) e5) (D_at DX1_goAhead 3 rfl) cv_X1_33_X8_copyFrom (As := [.ref a1]) (ci := 6) rfl rc_5 rfl rfl (by exact Nat.le_of_ble_eq_true rfl) (kc2 := 0) (ks2 := 0) rfl rfl (fun k9 h9 w9 => by cases w9.1) (fun r9 h9 w9 => ?_)
  obtain ⟨w1, w2⟩ := w9
  subst h9
  cases w1
  show jJ G X _ 0 0 _ _ []
  refine jr_iconst K (D_at DX1_goAhead 4 rfl) (v := (0 : Int32)) (by decide) ?_
  refine jr_istore_n K (D_at DX1_goAhead 5 rfl) (i := 3) rfl (by decide) (L2 := [_, _, _, _]) rfl ?_
  refine jr_keep [true, false, true, true] ?_
  exact J_X1_goAhead_10 K n E n a0 x2 (0 : Int32) h5 hf
theorem C_X1_goAhead {G : jG} {l : Launch} (d : Nat) {n : Nat} {a0 : Nat} {a1 : Nat} {x2 : Int32} {h : jH} {res : jH} (hf : F_X1_goAhead n a0 a1 x2 h = some res) : jC G l mX1_goAhead (d + 5) 0 0 [.ref a0, .ref a1, .int x2] h (jPV res) :=
  jC.of (by decide +kernel) (jcats rfl) (Nat.le_of_ble_eq_true rfl) (fun X K E => J_X1_goAhead K n E a0 a1 x2 h hf)
set_option maxHeartbeats 400000 in
set_option maxRecDepth 100000 in
theorem J_X1_isSomePale_2_b {G : jG} {l : Launch} {d : Nat} {X : jX} {res : Int32} (K : jOK G l mX1_isSomePale (d) X) (n : Nat) (h : jH) (rc2 : Nat → Int32 → jH → Option Int32) (hr2 : ∀ (a0 : Nat) (x1 : Int32), rc2 a0 x1 h = some res → jJ G X h 0 0 2 [some (.ref a0), some (.int x1)] []) (E : jEnd G mX1_isSomePale (jPR h res) X) (a0 : Nat) (x1 : Int32) (hf : F_X1_isSomePale_2_b n rc2 a0 x1 h = some res) : jJ G X h 0 0 2 [some (.ref a0), some (.int x1)] [] := by
  unfold F_X1_isSomePale_2_b at hf
  refine jr_iload_n K (D_at DX1_isSomePale 2 rfl) rfl rfl ?_
  refine jr_aload_n K (D_at DX1_isSomePale 3 rfl) rfl rfl ?_
  obtain ⟨v4, e4, hf⟩ := jbind hf
  refine jr_getI K (D_at DX1_isSomePale 4 rfl) fg_X1_62_6 e4 ?_
  refine jr_icmp_ge K (D_at DX1_isSomePale 5 rfl) (tgt := 29) (by decide) (fun c7 => ?_) (fun c7 => ?_)
  · replace hf := (if_pos c7).symm.trans hf
    refine jr_iconst K (D_at DX1_isSomePale 16 rfl) (v := (0 : Int32)) (by decide) ?_
    cases hf
    exact jr_zret K E (D_at DX1_isSomePale 17 rfl) rfl (Or.inl rfl) ⟨rfl, rfl⟩
  · replace hf := (if_neg c7).symm.trans hf
    refine jr_aload_n K (D_at DX1_isSomePale 6 rfl) rfl rfl ?_
    obtain ⟨p11, e11, hf⟩ := jbind hf
    refine jr_getR K (D_at DX1_isSomePale 7 rfl) fg_X1_65_6 e11 ?_
    refine jr_iload_n K (D_at DX1_isSomePale 8 rfl) rfl rfl ?_
    obtain ⟨v15, e15, hf⟩ := jbind hf
    refine jr_iald K (D_at DX1_isSomePale 9 rfl) e15 ?_
    refine jr_bipush K (D_at DX1_isSomePale 10 rfl) (v := (99 : Int32)) (by decide) ?_
    refine jr_icmp_ne K (D_at DX1_isSomePale 11 rfl) (tgt := 23) (by decide) (fun c18 => ?_) (fun c18 => ?_)
    · replace hf := (if_neg c18).symm.trans hf
      refine jr_iinc K (D_at DX1_isSomePale 14 rfl) (i := 1) rfl (v := x1 + (1 : Int32)) (jinc (by decide)) (by decide) (L2 := [_, _]) rfl ?_
      refine jr_goto K (D_at DX1_isSomePale 15 rfl) (tgt := 2) (by decide) ?_
      refine jr_keep [true, true] ?_
      exact hr2 a0 (x1 + (1 : Int32)) hf
    · replace hf := (if_pos c18).symm.trans hf
      refine jr_iconst K (D_at DX1_isSomePale 12 rfl) (v := (1 : Int32)) (by decide) ?_
      cases hf
      exact jr_zret K E (D_at DX1_isSomePale 13 rfl) rfl (Or.inr rfl) ⟨rfl, rfl⟩
theorem J_X1_isSomePale_2 {G : jG} {l : Launch} {d : Nat} {X : jX} {res : Int32} (K : jOK G l mX1_isSomePale (d) X) (n : Nat) (h : jH) (E : jEnd G mX1_isSomePale (jPR h res) X) (k : Nat) : ∀ (a0 : Nat) (x1 : Int32), F_X1_isSomePale_2 n k a0 x1 h = some res → jJ G X h 0 0 2 [some (.ref a0), some (.int x1)] [] := by
  induction k with
  | zero =>
    intro a0 x1 hf
    exact jno (show (none : Option Int32) = some res from hf)
  | succ k ih =>
    intro a0 x1 hf
    exact J_X1_isSomePale_2_b K n h (F_X1_isSomePale_2 n k) ih E a0 x1 hf
set_option maxHeartbeats 400000 in
set_option maxRecDepth 100000 in
theorem J_X1_isSomePale {G : jG} {l : Launch} {d : Nat} {X : jX} {res : Int32} (K : jOK G l mX1_isSomePale (d) X) (n : Nat) (h : jH) (E : jEnd G mX1_isSomePale (jPR h res) X) (a0 : Nat) (hf : F_X1_isSomePale n a0 h = some res) : jJ G X h 0 0 0 [some (.ref a0), none] [] := by
  unfold F_X1_isSomePale at hf
  refine jr_iconst K (D_at DX1_isSomePale 0 rfl) (v := (0 : Int32)) (by decide) ?_
  refine jr_istore_n K (D_at DX1_isSomePale 1 rfl) (i := 1) rfl (by decide) (L2 := [_, _]) rfl ?_
  refine jr_keep [true, true] ?_
  exact J_X1_isSomePale_2 K n h E n a0 (0 : Int32) hf
theorem C_X1_isSomePale {G : jG} {l : Launch} (d : Nat) {n : Nat} {a0 : Nat} {h : jH} {res : Int32} (hf : F_X1_isSomePale n a0 h = some res) : jC G l mX1_isSomePale (d) 0 0 [.ref a0] h (jPR h res) :=
  jC.of (by decide +kernel) (jcats rfl) (Nat.le_of_ble_eq_true rfl) (fun X K E => J_X1_isSomePale K n h E a0 hf)
set_option maxHeartbeats 400000 in
set_option maxRecDepth 100000 in
theorem J_X1_firstPale_10_b {G : jG} {l : Launch} {d : Nat} {X : jX} {res : (Int32 × jH)} (K : jOK G l mX1_firstPale (d + 5) X) (n : Nat) (rc10 : Nat → Int32 → jH → Option (Int32 × jH)) (hr10 : ∀ (a0 : Nat) (x2 : Int32) (h : jH), rc10 a0 x2 h = some res → jJ G X h 0 0 10 [some (.ref a0), none, some (.int x2)] []) (E : jEnd G mX1_firstPale (jPW res) X) (a0 : Nat) (x2 : Int32) (h : jH) (hf : F_X1_firstPale_10_b n rc10 a0 x2 h = some res) : jJ G X h 0 0 10 [some (.ref a0), none, some (.int x2)] [] := by
  unfold F_X1_firstPale_10_b at hf
  refine jr_iload_n K (D_at DX1_firstPale 6 rfl) rfl rfl ?_
  refine jr_bipush K (D_at DX1_firstPale 7 rfl) (v := (80 : Int32)) (by decide) ?_
  refine jr_icmp_gt K (D_at DX1_firstPale 8 rfl) (tgt := 49) (by decide) (fun c13 => ?_) (fun c13 => ?_)
  · replace hf := (if_pos c13).symm.trans hf
    refine jr_iconst K (D_at DX1_firstPale 24 rfl) (v := (-1 : Int32)) (by decide) ?_
    cases hf
    exact jr_iret K E (D_at DX1_firstPale 25 rfl) rfl ⟨rfl, rfl⟩
  · replace hf := (if_neg c13).symm.trans hf
    refine jr_aload_n K (D_at DX1_firstPale 9 rfl) rfl rfl ?_
    obtain ⟨p17, e17, hf⟩ := jbind hf
    refine jr_getR K (D_at DX1_firstPale 10 rfl) fg_X1_15_1 e17 ?_
    obtain ⟨v20, e20, hf⟩ := jbind hf
    refine jr_callS K (C_X1_isSomePale (d + 4) e20) (D_at DX1_firstPale 11 rfl) cs_X1_46_X1_isSomePale (As := [.ref p17]) rfl rfl (by exact Nat.le_of_ble_eq_true rfl) (kc2 := 0) (ks2 := 0) rfl rfl (fun k9 h9 w9 => by cases w9.1) (fun r9 h9 w9 => ?_)
    obtain ⟨w1, w2⟩ := w9
    subst h9
    cases w1
    show jJ G X _ 0 0 _ _ (.int v20 :: _)
    refine jr_if_eq K (D_at DX1_firstPale 12 rfl) (tgt := 28) (by decide) (fun c23 => ?_) (fun c23 => ?_)
    · replace hf := (if_pos c23).symm.trans hf
      refine jr_aload_n K (D_at DX1_firstPale 15 rfl) rfl rfl ?_
      refine jr_aload_n K (D_at DX1_firstPale 16 rfl) rfl rfl ?_
      obtain ⟨p30, e30, hf⟩ := jbind hf
      refine jr_getR K (D_at DX1_firstPale 17 rfl) fg_X1_15_1 e30 ?_
      obtain ⟨h33, e33, hf⟩ := jbind hf
      obtain ⟨rc_33, e33⟩ := jcv_o e33
      refine jr_callV K (C_X1_fadeAll (d) e33) (D_at DX1_firstPale 18 rfl) cv_X1_19_X1_fadeAll (As := [.ref p30]) (ci := 1) rfl rc_33 rfl rfl (by exact Nat.le_of_ble_eq_true rfl) (kc2 := 0) (ks2 := 0) rfl rfl (fun k9 h9 w9 => by cases w9.1) (fun r9 h9 w9 => ?_)
      obtain ⟨w1, w2⟩ := w9
      subst h9
      cases w1
      show jJ G X _ 0 0 _ _ []
      refine jr_aload_n K (D_at DX1_firstPale 19 rfl) rfl rfl ?_
      obtain ⟨p37, e37, hf⟩ := jbind hf
      refine jr_getR K (D_at DX1_firstPale 20 rfl) fg_X1_15_1 e37 ?_
      obtain ⟨h40, e40, hf⟩ := jbind hf
      refine jr_callS K (C_X1_turn (d + 3) e40) (D_at DX1_firstPale 21 rfl) cs_X1_30_X1_turn (As := [.ref p37]) rfl rfl (by exact Nat.le_of_ble_eq_true rfl) (kc2 := 0) (ks2 := 0) rfl rfl (fun k9 h9 w9 => by cases w9.1) (fun r9 h9 w9 => ?_)
      obtain ⟨w1, w2⟩ := w9
      subst h9
      cases w1
      show jJ G X _ 0 0 _ _ []
      refine jr_iinc K (D_at DX1_firstPale 22 rfl) (i := 2) rfl (v := x2 + (1 : Int32)) (jinc (by decide)) (by decide) (L2 := [_, _, _]) rfl ?_
      refine jr_goto K (D_at DX1_firstPale 23 rfl) (tgt := 10) (by decide) ?_
      refine jr_keep [true, false, true] ?_
      exact hr10 a0 (x2 + (1 : Int32)) h40 hf
    · replace hf := (if_neg c23).symm.trans hf
      refine jr_iload_n K (D_at DX1_firstPale 13 rfl) rfl rfl ?_
      cases hf
      exact jr_iret K E (D_at DX1_firstPale 14 rfl) rfl ⟨rfl, rfl⟩
theorem J_X1_firstPale_10 {G : jG} {l : Launch} {d : Nat} {X : jX} {res : (Int32 × jH)} (K : jOK G l mX1_firstPale (d + 5) X) (n : Nat) (E : jEnd G mX1_firstPale (jPW res) X) (k : Nat) : ∀ (a0 : Nat) (x2 : Int32) (h : jH), F_X1_firstPale_10 n k a0 x2 h = some res → jJ G X h 0 0 10 [some (.ref a0), none, some (.int x2)] [] := by
  induction k with
  | zero =>
    intro a0 x2 h hf
    exact jno (show (none : Option (Int32 × jH)) = some res from hf)
  | succ k ih =>
    intro a0 x2 h hf
    exact J_X1_firstPale_10_b K n (F_X1_firstPale_10 n k) ih E a0 x2 h hf
set_option maxHeartbeats 400000 in
set_option maxRecDepth 100000 in
theorem J_X1_firstPale {G : jG} {l : Launch} {d : Nat} {X : jX} {res : (Int32 × jH)} (K : jOK G l mX1_firstPale (d + 5) X) (n : Nat) (E : jEnd G mX1_firstPale (jPW res) X) (a0 : Nat) (a1 : Nat) (h : jH) (hf : F_X1_firstPale n a0 a1 h = some res) : jJ G X h 0 0 0 [some (.ref a0), some (.ref a1), none] [] := by
  unfold F_X1_firstPale at hf
  refine jr_aload_n K (D_at DX1_firstPale 0 rfl) rfl rfl ?_
  obtain ⟨p1, e1, hf⟩ := jbind hf
  refine jr_getR K (D_at DX1_firstPale 1 rfl) fg_X1_15_1 e1 ?_
  refine jr_aload_n K (D_at DX1_firstPale 2 rfl) rfl rfl ?_
  obtain ⟨h5, e5, hf⟩ := jbind hf
  obtain ⟨rc_5, e5⟩ := jcv_o e5
  refine jr_callV K (C_X8_copyFrom (d + 2) e5) (D_at DX1_firstPale 3 rfl) cv_X1_33_X8_copyFrom (As := [.ref a1]) (ci := 6) rfl rc_5 rfl rfl (by exact Nat.le_of_ble_eq_true rfl) (kc2 := 0) (ks2 := 0) rfl rfl (fun k9 h9 w9 => by cases w9.1) (fun r9 h9 w9 => ?_)
  obtain ⟨w1, w2⟩ := w9
  subst h9
  cases w1
  show jJ G X _ 0 0 _ _ []
  refine jr_iconst K (D_at DX1_firstPale 4 rfl) (v := (0 : Int32)) (by decide) ?_
  refine jr_istore_n K (D_at DX1_firstPale 5 rfl) (i := 2) rfl (by decide) (L2 := [_, _, _]) rfl ?_
  refine jr_keep [true, false, true] ?_
  exact J_X1_firstPale_10 K n E n a0 (0 : Int32) h5 hf
theorem C_X1_firstPale {G : jG} {l : Launch} (d : Nat) {n : Nat} {a0 : Nat} {a1 : Nat} {h : jH} {res : (Int32 × jH)} (hf : F_X1_firstPale n a0 a1 h = some res) : jC G l mX1_firstPale (d + 5) 0 0 [.ref a0, .ref a1] h (jPW res) :=
  jC.of (by decide +kernel) (jcats rfl) (Nat.le_of_ble_eq_true rfl) (fun X K E => J_X1_firstPale K n E a0 a1 h hf)
set_option maxHeartbeats 400000 in
set_option maxRecDepth 100000 in
theorem J_X1_oddsToStay_25_b {G : jG} {l : Launch} {d : Nat} {X : jX} {res : (Int32 × jH)} (K : jOK G l mX1_oddsToStay (d + 4) X) (n : Nat) (rc25 : Int32 → Int32 → Int32 → Int32 → jH → Option (Int32 × jH)) (hr25 : ∀ (x3 : Int32) (x4 : Int32) (x5 : Int32) (x6 : Int32) (h : jH), rc25 x3 x4 x5 x6 h = some res → jJ G X h 0 0 25 [none, none, none, some (.int x3), some (.int x4), some (.int x5), some (.int x6)] []) (E : jEnd G mX1_oddsToStay (jPW res) X) (x3 : Int32) (x4 : Int32) (x5 : Int32) (x6 : Int32) (h : jH) (hf : F_X1_oddsToStay_25_b n rc25 x3 x4 x5 x6 h = some res) : jJ G X h 0 0 25 [none, none, none, some (.int x3), some (.int x4), some (.int x5), some (.int x6)] [] := by
  unfold F_X1_oddsToStay_25_b at hf
  refine jr_iload K (D_at DX1_oddsToStay 13 rfl) rfl ?_
  refine jr_iload_n K (D_at DX1_oddsToStay 14 rfl) rfl rfl ?_
  refine jr_icmp_ge K (D_at DX1_oddsToStay 15 rfl) (tgt := 50) (by decide) (fun c28 => ?_) (fun c28 => ?_)
  · replace hf := (if_pos c28).symm.trans hf
    refine jr_iload K (D_at DX1_oddsToStay 26 rfl) rfl ?_
    cases hf
    exact jr_iret K E (D_at DX1_oddsToStay 27 rfl) rfl ⟨rfl, rfl⟩
  · replace hf := (if_neg c28).symm.trans hf
    refine jr_iload K (D_at DX1_oddsToStay 16 rfl) rfl ?_
    refine jr_bipush K (D_at DX1_oddsToStay 17 rfl) (v := (100 : Int32)) (by decide) ?_
    refine jr_iload K (D_at DX1_oddsToStay 18 rfl) rfl ?_
    refine jr_isub K (D_at DX1_oddsToStay 19 rfl) ?_
    refine jr_imul K (D_at DX1_oddsToStay 20 rfl) ?_
    refine jr_bipush K (D_at DX1_oddsToStay 21 rfl) (v := (100 : Int32)) (by decide) ?_
    refine jr_idiv K (D_at DX1_oddsToStay 22 rfl) (by decide) ?_
    refine jr_istore K (D_at DX1_oddsToStay 23 rfl) (i := 5) (by decide) (L2 := [_, _, _, _, _, _, _]) rfl ?_
    refine jr_iinc K (D_at DX1_oddsToStay 24 rfl) (i := 6) rfl (v := x6 + (1 : Int32)) (jinc (by decide)) (by decide) (L2 := [_, _, _, _, _, _, _]) rfl ?_
    refine jr_goto K (D_at DX1_oddsToStay 25 rfl) (tgt := 25) (by decide) ?_
    refine jr_keep [false, false, false, true, true, true, true] ?_
    exact hr25 x3 x4 ((x5 * ((100 : Int32) - x4)) / (100 : Int32)) (x6 + (1 : Int32)) h hf
theorem J_X1_oddsToStay_25 {G : jG} {l : Launch} {d : Nat} {X : jX} {res : (Int32 × jH)} (K : jOK G l mX1_oddsToStay (d + 4) X) (n : Nat) (E : jEnd G mX1_oddsToStay (jPW res) X) (k : Nat) : ∀ (x3 : Int32) (x4 : Int32) (x5 : Int32) (x6 : Int32) (h : jH), F_X1_oddsToStay_25 n k x3 x4 x5 x6 h = some res → jJ G X h 0 0 25 [none, none, none, some (.int x3), some (.int x4), some (.int x5), some (.int x6)] [] := by
  induction k with
  | zero =>
    intro x3 x4 x5 x6 h hf
    exact jno (show (none : Option (Int32 × jH)) = some res from hf)
  | succ k ih =>
    intro x3 x4 x5 x6 h hf
    exact J_X1_oddsToStay_25_b K n (F_X1_oddsToStay_25 n k) ih E x3 x4 x5 x6 h hf
set_option maxHeartbeats 400000 in
set_option maxRecDepth 100000 in
theorem J_X1_oddsToStay {G : jG} {l : Launch} {d : Nat} {X : jX} {res : (Int32 × jH)} (K : jOK G l mX1_oddsToStay (d + 4) X) (n : Nat) (E : jEnd G mX1_oddsToStay (jPW res) X) (a0 : Nat) (a1 : Nat) (x2 : Int32) (x3 : Int32) (h : jH) (hf : F_X1_oddsToStay n a0 a1 x2 x3 h = some res) : jJ G X h 0 0 0 [some (.ref a0), some (.ref a1), some (.int x2), some (.int x3), none, none, none] [] := by
  unfold F_X1_oddsToStay at hf
  refine jr_bipush K (D_at DX1_oddsToStay 0 rfl) (v := (100 : Int32)) (by decide) ?_
  refine jr_aload_n K (D_at DX1_oddsToStay 1 rfl) rfl rfl ?_
  obtain ⟨p3, e3, hf⟩ := jbind hf
  refine jr_getR K (D_at DX1_oddsToStay 2 rfl) fg_X1_9_1 e3 ?_
  refine jr_iconst K (D_at DX1_oddsToStay 3 rfl) (v := (2 : Int32)) (by decide) ?_
  refine jr_aload_n K (D_at DX1_oddsToStay 4 rfl) rfl rfl ?_
  refine jr_iload_n K (D_at DX1_oddsToStay 5 rfl) rfl rfl ?_
  obtain ⟨q9, e9, hf⟩ := jbind hf
  obtain ⟨rc_9, e9⟩ := jcv_o e9
  refine jr_callV K (C_X2_amount (d) e9) (D_at DX1_oddsToStay 6 rfl) cv_X1_50_X2_amount (As := [.int (2 : Int32), .ref a1, .int x2]) (ci := 2) rfl rc_9 rfl rfl (by exact Nat.le_of_ble_eq_true rfl) (kc2 := 0) (ks2 := 0) rfl rfl (fun k9 h9 w9 => by cases w9.1) (fun r9 h9 w9 => ?_)
  obtain ⟨w1, w2⟩ := w9
  subst h9
  cases w1
  show jJ G X _ 0 0 _ _ (.int q9.1 :: _)
  refine jr_min K (D_at DX1_oddsToStay 7 rfl) mm_X1_56 (by exact Nat.le_of_ble_eq_true rfl) ?_
  refine jr_istore K (D_at DX1_oddsToStay 8 rfl) (i := 4) (by decide) (L2 := [_, _, _, _, _, _, _]) rfl ?_
  refine jr_sipush K (D_at DX1_oddsToStay 9 rfl) (v := (10000 : Int32)) (by decide) ?_
  refine jr_istore K (D_at DX1_oddsToStay 10 rfl) (i := 5) (by decide) (L2 := [_, _, _, _, _, _, _]) rfl ?_
  refine jr_iconst K (D_at DX1_oddsToStay 11 rfl) (v := (0 : Int32)) (by decide) ?_
  refine jr_istore K (D_at DX1_oddsToStay 12 rfl) (i := 6) (by decide) (L2 := [_, _, _, _, _, _, _]) rfl ?_
  refine jr_keep [false, false, false, true, true, true, true] ?_
  exact J_X1_oddsToStay_25 K n E n x3 (if q9.1 < (100 : Int32) then q9.1 else (100 : Int32)) (10000 : Int32) (0 : Int32) q9.2 hf
theorem C_X1_oddsToStay {G : jG} {l : Launch} (d : Nat) {n : Nat} {a0 : Nat} {a1 : Nat} {x2 : Int32} {x3 : Int32} {h : jH} {res : (Int32 × jH)} (hf : F_X1_oddsToStay n a0 a1 x2 x3 h = some res) : jC G l mX1_oddsToStay (d + 4) 0 0 [.ref a0, .ref a1, .int x2, .int x3] h (jPW res) :=
  jC.of (by decide +kernel) (jcats rfl) (Nat.le_of_ble_eq_true rfl) (fun X K E => J_X1_oddsToStay K n E a0 a1 x2 x3 h hf)
set_option maxHeartbeats 400000 in
set_option maxRecDepth 100000 in
theorem J_X2_init {G : jG} {l : Launch} {d : Nat} {X : jX} {res : jH} (K : jOK G l mX2_init (d + 1) X) (n : Nat) (E : jEnd G mX2_init (jPV res) X) (a0 : Nat) (h : jH) (hf : F_X2_init n a0 h = some res) : jJ G X h 5 460 0 [some (.ref a0)] [] := by
  unfold F_X2_init at hf
  refine jr_aload_n K (D_at DX2_init 0 rfl) rfl rfl ?_
  refine jr_objInit K (D_at DX2_init 1 rfl) oi_X2_3 (by exact Nat.le_of_ble_eq_true rfl) ?_
  refine jr_aload_n K (D_at DX2_init 2 rfl) rfl rfl ?_
  refine jr_bipush K (D_at DX2_init 3 rfl) (v := (12 : Int32)) (by decide) ?_
  obtain ⟨h7, e7, hf⟩ := jbind hf
  refine jr_newIE (N := 12) K (D_at DX2_init 4 rfl) ac_int (by decide) (by decide) (by decide) (kc := 4) (ks := 448) e7 ?_
  obtain ⟨h9, e9, hf⟩ := jbind hf
  refine jr_putA K (D_at DX2_init 5 rfl) fp_X2_11_2 (Or.inr rfl) e9 ?_
  refine jr_aload_n K (D_at DX2_init 6 rfl) rfl rfl ?_
  refine jr_bipush K (D_at DX2_init 7 rfl) (v := (12 : Int32)) (by decide) ?_
  obtain ⟨h15, e15, hf⟩ := jbind hf
  refine jr_newIE (N := 12) K (D_at DX2_init 8 rfl) ac_int (by decide) (by decide) (by decide) (kc := 3) (ks := 436) e15 ?_
  obtain ⟨h17, e17, hf⟩ := jbind hf
  refine jr_putA K (D_at DX2_init 9 rfl) fp_X2_15_2 (Or.inr rfl) e17 ?_
  refine jr_aload_n K (D_at DX2_init 10 rfl) rfl rfl ?_
  refine jr_bipush K (D_at DX2_init 11 rfl) (v := (12 : Int32)) (by decide) ?_
  obtain ⟨h23, e23, hf⟩ := jbind hf
  refine jr_newIE (N := 12) K (D_at DX2_init 12 rfl) ac_int (by decide) (by decide) (by decide) (kc := 2) (ks := 424) e23 ?_
  obtain ⟨h25, e25, hf⟩ := jbind hf
  refine jr_putA K (D_at DX2_init 13 rfl) fp_X2_18_2 (Or.inr rfl) e25 ?_
  refine jr_aload_n K (D_at DX2_init 14 rfl) rfl rfl ?_
  refine jr_sipush K (D_at DX2_init 15 rfl) (v := (400 : Int32)) (by decide) ?_
  obtain ⟨h32, e32, hf⟩ := jbind hf
  refine jr_newIE (N := 400) K (D_at DX2_init 16 rfl) ac_int (by decide) (by decide) (by decide) (kc := 1) (ks := 24) e32 ?_
  obtain ⟨h34, e34, hf⟩ := jbind hf
  refine jr_putA K (D_at DX2_init 17 rfl) fp_X2_21_2 (Or.inr rfl) e34 ?_
  refine jr_aload_n K (D_at DX2_init 18 rfl) rfl rfl ?_
  refine jr_bipush K (D_at DX2_init 19 rfl) (v := (24 : Int32)) (by decide) ?_
  obtain ⟨h40, e40, hf⟩ := jbind hf
  refine jr_newIE (N := 24) K (D_at DX2_init 20 rfl) ac_int (by decide) (by decide) (by decide) (kc := 0) (ks := 0) e40 ?_
  obtain ⟨h42, e42, hf⟩ := jbind hf
  refine jr_putA K (D_at DX2_init 21 rfl) fp_X2_24_2 (Or.inr rfl) e42 ?_
  cases hf
  exact jr_vret K E (D_at DX2_init 22 rfl) rfl ⟨rfl, rfl⟩
theorem C_X2_init {G : jG} {l : Launch} (d : Nat) {n : Nat} {a0 : Nat} {h : jH} {res : jH} (hf : F_X2_init n a0 h = some res) : jC G l mX2_init (d + 1) 5 460 [.ref a0] h (jPV res) :=
  jC.of (by decide +kernel) (jcats rfl) (Nat.le_of_ble_eq_true rfl) (fun X K E => J_X2_init K n E a0 h hf)
set_option maxHeartbeats 400000 in
set_option maxRecDepth 100000 in
theorem J_X2_begin {G : jG} {l : Launch} {d : Nat} {X : jX} {res : jH} (K : jOK G l mX2_begin (d) X) (n : Nat) (E : jEnd G mX2_begin (jPV res) X) (a0 : Nat) (h : jH) (hf : F_X2_begin n a0 h = some res) : jJ G X h 0 0 0 [some (.ref a0)] [] := by
  unfold F_X2_begin at hf
  refine jr_aload_n K (D_at DX2_begin 0 rfl) rfl rfl ?_
  refine jr_iconst K (D_at DX2_begin 1 rfl) (v := (1 : Int32)) (by decide) ?_
  obtain ⟨h2, e2, hf⟩ := jbind hf
  refine jr_putZ K (D_at DX2_begin 2 rfl) fp_X2_27_2 (Or.inl rfl) (Or.inr rfl) e2 ?_
  refine jr_aload_n K (D_at DX2_begin 3 rfl) rfl rfl ?_
  refine jr_iconst K (D_at DX2_begin 4 rfl) (v := (0 : Int32)) (by decide) ?_
  obtain ⟨h7, e7, hf⟩ := jbind hf
  refine jr_putI K (D_at DX2_begin 5 rfl) fp_X2_31_2 (Or.inl rfl) e7 ?_
  refine jr_aload_n K (D_at DX2_begin 6 rfl) rfl rfl ?_
  refine jr_iconst K (D_at DX2_begin 7 rfl) (v := (0 : Int32)) (by decide) ?_
  obtain ⟨h12, e12, hf⟩ := jbind hf
  refine jr_putI K (D_at DX2_begin 8 rfl) fp_X2_35_2 (Or.inl rfl) e12 ?_
  cases hf
  exact jr_vret K E (D_at DX2_begin 9 rfl) rfl ⟨rfl, rfl⟩
theorem C_X2_begin {G : jG} {l : Launch} (d : Nat) {n : Nat} {a0 : Nat} {h : jH} {res : jH} (hf : F_X2_begin n a0 h = some res) : jC G l mX2_begin (d) 0 0 [.ref a0] h (jPV res) :=
  jC.of (by decide +kernel) (jcats rfl) (Nat.le_of_ble_eq_true rfl) (fun X K E => J_X2_begin K n E a0 h hf)
set_option maxHeartbeats 400000 in
set_option maxRecDepth 100000 in
theorem J_X2_copyFrom {G : jG} {l : Launch} {d : Nat} {X : jX} {res : jH} (K : jOK G l mX2_copyFrom (d + 1) X) (n : Nat) (E : jEnd G mX2_copyFrom (jPV res) X) (a0 : Nat) (a1 : Nat) (h : jH) (hf : F_X2_copyFrom n a0 a1 h = some res) : jJ G X h 0 0 0 [some (.ref a0), some (.ref a1)] [] := by
  unfold F_X2_copyFrom at hf
  refine jr_aload_n K (D_at DX2_copyFrom 0 rfl) rfl rfl ?_
  obtain ⟨p1, e1, hf⟩ := jbind hf
  refine jr_getR K (D_at DX2_copyFrom 1 rfl) fg_X2_11_2 e1 ?_
  refine jr_iconst K (D_at DX2_copyFrom 2 rfl) (v := (0 : Int32)) (by decide) ?_
  refine jr_aload_n K (D_at DX2_copyFrom 3 rfl) rfl rfl ?_
  obtain ⟨p6, e6, hf⟩ := jbind hf
  refine jr_getR K (D_at DX2_copyFrom 4 rfl) fg_X2_11_2 e6 ?_
  refine jr_iconst K (D_at DX2_copyFrom 5 rfl) (v := (0 : Int32)) (by decide) ?_
  refine jr_bipush K (D_at DX2_copyFrom 6 rfl) (v := (12 : Int32)) (by decide) ?_
  obtain ⟨h12, e12, hf⟩ := jbind hf
  refine jr_copy K (D_at DX2_copyFrom 7 rfl) cy_X2_38 (by exact Nat.le_of_ble_eq_true rfl) e12 ?_
  refine jr_aload_n K (D_at DX2_copyFrom 8 rfl) rfl rfl ?_
  obtain ⟨p16, e16, hf⟩ := jbind hf
  refine jr_getR K (D_at DX2_copyFrom 9 rfl) fg_X2_15_2 e16 ?_
  refine jr_iconst K (D_at DX2_copyFrom 10 rfl) (v := (0 : Int32)) (by decide) ?_
  refine jr_aload_n K (D_at DX2_copyFrom 11 rfl) rfl rfl ?_
  obtain ⟨p21, e21, hf⟩ := jbind hf
  refine jr_getR K (D_at DX2_copyFrom 12 rfl) fg_X2_15_2 e21 ?_
  refine jr_iconst K (D_at DX2_copyFrom 13 rfl) (v := (0 : Int32)) (by decide) ?_
  refine jr_bipush K (D_at DX2_copyFrom 14 rfl) (v := (12 : Int32)) (by decide) ?_
  obtain ⟨h27, e27, hf⟩ := jbind hf
  refine jr_copy K (D_at DX2_copyFrom 15 rfl) cy_X2_38 (by exact Nat.le_of_ble_eq_true rfl) e27 ?_
  refine jr_aload_n K (D_at DX2_copyFrom 16 rfl) rfl rfl ?_
  obtain ⟨p31, e31, hf⟩ := jbind hf
  refine jr_getR K (D_at DX2_copyFrom 17 rfl) fg_X2_18_2 e31 ?_
  refine jr_iconst K (D_at DX2_copyFrom 18 rfl) (v := (0 : Int32)) (by decide) ?_
  refine jr_aload_n K (D_at DX2_copyFrom 19 rfl) rfl rfl ?_
  obtain ⟨p36, e36, hf⟩ := jbind hf
  refine jr_getR K (D_at DX2_copyFrom 20 rfl) fg_X2_18_2 e36 ?_
  refine jr_iconst K (D_at DX2_copyFrom 21 rfl) (v := (0 : Int32)) (by decide) ?_
  refine jr_bipush K (D_at DX2_copyFrom 22 rfl) (v := (12 : Int32)) (by decide) ?_
  obtain ⟨h42, e42, hf⟩ := jbind hf
  refine jr_copy K (D_at DX2_copyFrom 23 rfl) cy_X2_38 (by exact Nat.le_of_ble_eq_true rfl) e42 ?_
  refine jr_aload_n K (D_at DX2_copyFrom 24 rfl) rfl rfl ?_
  obtain ⟨p46, e46, hf⟩ := jbind hf
  refine jr_getR K (D_at DX2_copyFrom 25 rfl) fg_X2_21_2 e46 ?_
  refine jr_iconst K (D_at DX2_copyFrom 26 rfl) (v := (0 : Int32)) (by decide) ?_
  refine jr_aload_n K (D_at DX2_copyFrom 27 rfl) rfl rfl ?_
  obtain ⟨p51, e51, hf⟩ := jbind hf
  refine jr_getR K (D_at DX2_copyFrom 28 rfl) fg_X2_21_2 e51 ?_
  refine jr_iconst K (D_at DX2_copyFrom 29 rfl) (v := (0 : Int32)) (by decide) ?_
  refine jr_sipush K (D_at DX2_copyFrom 30 rfl) (v := (400 : Int32)) (by decide) ?_
  obtain ⟨h58, e58, hf⟩ := jbind hf
  refine jr_copy K (D_at DX2_copyFrom 31 rfl) cy_X2_38 (by exact Nat.le_of_ble_eq_true rfl) e58 ?_
  refine jr_aload_n K (D_at DX2_copyFrom 32 rfl) rfl rfl ?_
  refine jr_aload_n K (D_at DX2_copyFrom 33 rfl) rfl rfl ?_
  obtain ⟨v63, e63, hf⟩ := jbind hf
  refine jr_getI K (D_at DX2_copyFrom 34 rfl) fg_X2_35_2 e63 ?_
  obtain ⟨h66, e66, hf⟩ := jbind hf
  refine jr_putI K (D_at DX2_copyFrom 35 rfl) fp_X2_35_2 (Or.inl rfl) e66 ?_
  refine jr_aload_n K (D_at DX2_copyFrom 36 rfl) rfl rfl ?_
  refine jr_aload_n K (D_at DX2_copyFrom 37 rfl) rfl rfl ?_
  obtain ⟨v71, e71, hf⟩ := jbind hf
  refine jr_getI K (D_at DX2_copyFrom 38 rfl) fg_X2_27_2 e71 ?_
  by_cases z74 : v71 = 0 ∨ v71 = 1
  rotate_left
  · exact jno (show (none : Option jH) = some res from (if_neg z74).symm.trans hf)
  replace hf := (if_pos z74).symm.trans hf
  obtain ⟨h74, e74, hf⟩ := jbind hf
  refine jr_putZ K (D_at DX2_copyFrom 39 rfl) fp_X2_27_2 (Or.inl rfl) z74 e74 ?_
  refine jr_aload_n K (D_at DX2_copyFrom 40 rfl) rfl rfl ?_
  refine jr_aload_n K (D_at DX2_copyFrom 41 rfl) rfl rfl ?_
  obtain ⟨v79, e79, hf⟩ := jbind hf
  refine jr_getI K (D_at DX2_copyFrom 42 rfl) fg_X2_31_2 e79 ?_
  obtain ⟨h82, e82, hf⟩ := jbind hf
  refine jr_putI K (D_at DX2_copyFrom 43 rfl) fp_X2_31_2 (Or.inl rfl) e82 ?_
  cases hf
  exact jr_vret K E (D_at DX2_copyFrom 44 rfl) rfl ⟨rfl, rfl⟩
theorem C_X2_copyFrom {G : jG} {l : Launch} (d : Nat) {n : Nat} {a0 : Nat} {a1 : Nat} {h : jH} {res : jH} (hf : F_X2_copyFrom n a0 a1 h = some res) : jC G l mX2_copyFrom (d + 1) 0 0 [.ref a0, .ref a1] h (jPV res) :=
  jC.of (by decide +kernel) (jcats rfl) (Nat.le_of_ble_eq_true rfl) (fun X K E => J_X2_copyFrom K n E a0 a1 h hf)
set_option maxHeartbeats 400000 in
set_option maxRecDepth 100000 in
theorem J_X2_addLine {G : jG} {l : Launch} {d : Nat} {X : jX} {res : jH} (K : jOK G l mX2_addLine (d) X) (n : Nat) (E : jEnd G mX2_addLine (jPV res) X) (a0 : Nat) (x1 : Int32) (x2 : Int32) (h : jH) (hf : F_X2_addLine n a0 x1 x2 h = some res) : jJ G X h 0 0 0 [some (.ref a0), some (.int x1), some (.int x2)] [] := by
  unfold F_X2_addLine at hf
  refine jr_aload_n K (D_at DX2_addLine 0 rfl) rfl rfl ?_
  obtain ⟨v1, e1, hf⟩ := jbind hf
  refine jr_getI K (D_at DX2_addLine 1 rfl) fg_X2_31_2 e1 ?_
  refine jr_bipush K (D_at DX2_addLine 2 rfl) (v := (12 : Int32)) (by decide) ?_
  refine jr_icmp_ge K (D_at DX2_addLine 3 rfl) (tgt := 52) (by decide) (fun c6 => ?_) (fun c6 => ?_)
  · replace hf := (if_pos c6).symm.trans hf
    cases hf
    exact jr_vret K E (D_at DX2_addLine 29 rfl) rfl ⟨rfl, rfl⟩
  · replace hf := (if_neg c6).symm.trans hf
    refine jr_aload_n K (D_at DX2_addLine 4 rfl) rfl rfl ?_
    obtain ⟨p10, e10, hf⟩ := jbind hf
    refine jr_getR K (D_at DX2_addLine 5 rfl) fg_X2_11_2 e10 ?_
    refine jr_aload_n K (D_at DX2_addLine 6 rfl) rfl rfl ?_
    obtain ⟨v14, e14, hf⟩ := jbind hf
    refine jr_getI K (D_at DX2_addLine 7 rfl) fg_X2_31_2 e14 ?_
    refine jr_iload_n K (D_at DX2_addLine 8 rfl) rfl rfl ?_
    obtain ⟨h18, e18, hf⟩ := jbind hf
    refine jr_iast K (D_at DX2_addLine 9 rfl) e18 ?_
    refine jr_aload_n K (D_at DX2_addLine 10 rfl) rfl rfl ?_
    obtain ⟨p20, e20, hf⟩ := jbind hf
    refine jr_getR K (D_at DX2_addLine 11 rfl) fg_X2_15_2 e20 ?_
    refine jr_aload_n K (D_at DX2_addLine 12 rfl) rfl rfl ?_
    obtain ⟨v24, e24, hf⟩ := jbind hf
    refine jr_getI K (D_at DX2_addLine 13 rfl) fg_X2_31_2 e24 ?_
    refine jr_iload_n K (D_at DX2_addLine 14 rfl) rfl rfl ?_
    obtain ⟨h28, e28, hf⟩ := jbind hf
    refine jr_iast K (D_at DX2_addLine 15 rfl) e28 ?_
    refine jr_aload_n K (D_at DX2_addLine 16 rfl) rfl rfl ?_
    obtain ⟨p30, e30, hf⟩ := jbind hf
    refine jr_getR K (D_at DX2_addLine 17 rfl) fg_X2_18_2 e30 ?_
    refine jr_aload_n K (D_at DX2_addLine 18 rfl) rfl rfl ?_
    obtain ⟨v34, e34, hf⟩ := jbind hf
    refine jr_getI K (D_at DX2_addLine 19 rfl) fg_X2_31_2 e34 ?_
    refine jr_aload_n K (D_at DX2_addLine 20 rfl) rfl rfl ?_
    obtain ⟨v38, e38, hf⟩ := jbind hf
    refine jr_getI K (D_at DX2_addLine 21 rfl) fg_X2_35_2 e38 ?_
    obtain ⟨h41, e41, hf⟩ := jbind hf
    refine jr_iast K (D_at DX2_addLine 22 rfl) e41 ?_
    refine jr_aload_n K (D_at DX2_addLine 23 rfl) rfl rfl ?_
    refine jr_dup K (D_at DX2_addLine 24 rfl) rfl ?_
    obtain ⟨v44, e44, hf⟩ := jbind hf
    refine jr_getI K (D_at DX2_addLine 25 rfl) fg_X2_31_2 e44 ?_
    refine jr_iconst K (D_at DX2_addLine 26 rfl) (v := (1 : Int32)) (by decide) ?_
    refine jr_iadd K (D_at DX2_addLine 27 rfl) ?_
    obtain ⟨h49, e49, hf⟩ := jbind hf
    refine jr_putI K (D_at DX2_addLine 28 rfl) fp_X2_31_2 (Or.inl rfl) e49 ?_
    cases hf
    exact jr_vret K E (D_at DX2_addLine 29 rfl) rfl ⟨rfl, rfl⟩
theorem C_X2_addLine {G : jG} {l : Launch} (d : Nat) {n : Nat} {a0 : Nat} {x1 : Int32} {x2 : Int32} {h : jH} {res : jH} (hf : F_X2_addLine n a0 x1 x2 h = some res) : jC G l mX2_addLine (d) 0 0 [.ref a0, .int x1, .int x2] h (jPV res) :=
  jC.of (by decide +kernel) (jcats rfl) (Nat.le_of_ble_eq_true rfl) (fun X K E => J_X2_addLine K n E a0 x1 x2 h hf)
set_option maxHeartbeats 400000 in
set_option maxRecDepth 100000 in
theorem J_X2_addCode {G : jG} {l : Launch} {d : Nat} {X : jX} {res : jH} (K : jOK G l mX2_addCode (d) X) (n : Nat) (E : jEnd G mX2_addCode (jPV res) X) (a0 : Nat) (x1 : Int32) (h : jH) (hf : F_X2_addCode n a0 x1 h = some res) : jJ G X h 0 0 0 [some (.ref a0), some (.int x1)] [] := by
  unfold F_X2_addCode at hf
  refine jr_aload_n K (D_at DX2_addCode 0 rfl) rfl rfl ?_
  obtain ⟨v1, e1, hf⟩ := jbind hf
  refine jr_getI K (D_at DX2_addCode 1 rfl) fg_X2_35_2 e1 ?_
  refine jr_sipush K (D_at DX2_addCode 2 rfl) (v := (400 : Int32)) (by decide) ?_
  refine jr_icmp_ge K (D_at DX2_addCode 3 rfl) (tgt := 52) (by decide) (fun c7 => ?_) (fun c7 => ?_)
  · replace hf := (if_pos c7).symm.trans hf
    cases hf
    exact jr_vret K E (D_at DX2_addCode 28 rfl) rfl ⟨rfl, rfl⟩
  · replace hf := (if_neg c7).symm.trans hf
    refine jr_aload_n K (D_at DX2_addCode 4 rfl) rfl rfl ?_
    obtain ⟨v11, e11, hf⟩ := jbind hf
    refine jr_getI K (D_at DX2_addCode 5 rfl) fg_X2_31_2 e11 ?_
    refine jr_if_le K (D_at DX2_addCode 6 rfl) (tgt := 52) (by decide) (fun c14 => ?_) (fun c14 => ?_)
    · replace hf := (if_pos c14).symm.trans hf
      cases hf
      exact jr_vret K E (D_at DX2_addCode 28 rfl) rfl ⟨rfl, rfl⟩
    · replace hf := (if_neg c14).symm.trans hf
      refine jr_aload_n K (D_at DX2_addCode 7 rfl) rfl rfl ?_
      obtain ⟨p18, e18, hf⟩ := jbind hf
      refine jr_getR K (D_at DX2_addCode 8 rfl) fg_X2_21_2 e18 ?_
      refine jr_aload_n K (D_at DX2_addCode 9 rfl) rfl rfl ?_
      obtain ⟨v22, e22, hf⟩ := jbind hf
      refine jr_getI K (D_at DX2_addCode 10 rfl) fg_X2_35_2 e22 ?_
      refine jr_iload_n K (D_at DX2_addCode 11 rfl) rfl rfl ?_
      obtain ⟨h26, e26, hf⟩ := jbind hf
      refine jr_iast K (D_at DX2_addCode 12 rfl) e26 ?_
      refine jr_aload_n K (D_at DX2_addCode 13 rfl) rfl rfl ?_
      refine jr_dup K (D_at DX2_addCode 14 rfl) rfl ?_
      obtain ⟨v29, e29, hf⟩ := jbind hf
      refine jr_getI K (D_at DX2_addCode 15 rfl) fg_X2_35_2 e29 ?_
      refine jr_iconst K (D_at DX2_addCode 16 rfl) (v := (1 : Int32)) (by decide) ?_
      refine jr_iadd K (D_at DX2_addCode 17 rfl) ?_
      obtain ⟨h34, e34, hf⟩ := jbind hf
      refine jr_putI K (D_at DX2_addCode 18 rfl) fp_X2_35_2 (Or.inl rfl) e34 ?_
      refine jr_aload_n K (D_at DX2_addCode 19 rfl) rfl rfl ?_
      obtain ⟨p38, e38, hf⟩ := jbind hf
      refine jr_getR K (D_at DX2_addCode 20 rfl) fg_X2_18_2 e38 ?_
      refine jr_aload_n K (D_at DX2_addCode 21 rfl) rfl rfl ?_
      obtain ⟨v42, e42, hf⟩ := jbind hf
      refine jr_getI K (D_at DX2_addCode 22 rfl) fg_X2_31_2 e42 ?_
      refine jr_iconst K (D_at DX2_addCode 23 rfl) (v := (1 : Int32)) (by decide) ?_
      refine jr_isub K (D_at DX2_addCode 24 rfl) ?_
      refine jr_aload_n K (D_at DX2_addCode 25 rfl) rfl rfl ?_
      obtain ⟨v48, e48, hf⟩ := jbind hf
      refine jr_getI K (D_at DX2_addCode 26 rfl) fg_X2_35_2 e48 ?_
      obtain ⟨h51, e51, hf⟩ := jbind hf
      refine jr_iast K (D_at DX2_addCode 27 rfl) e51 ?_
      cases hf
      exact jr_vret K E (D_at DX2_addCode 28 rfl) rfl ⟨rfl, rfl⟩
theorem C_X2_addCode {G : jG} {l : Launch} (d : Nat) {n : Nat} {a0 : Nat} {x1 : Int32} {h : jH} {res : jH} (hf : F_X2_addCode n a0 x1 h = some res) : jC G l mX2_addCode (d) 0 0 [.ref a0, .int x1] h (jPV res) :=
  jC.of (by decide +kernel) (jcats rfl) (Nat.le_of_ble_eq_true rfl) (fun X K E => J_X2_addCode K n E a0 x1 h hf)
set_option maxHeartbeats 400000 in
set_option maxRecDepth 100000 in
theorem J_X4_init_L {G : jG} {l : Launch} {d : Nat} {X : jX} {res : jH} (K : jOK G l mX4_init (d + 1) X) (n : Nat) (E : jEnd G mX4_init (jPV res) X) (a0 : Nat) (a1 : Nat) (x2 : Int32) (h : jH) (hf : F_X4_init_L n a0 a1 x2 h = some res) : jJ G X h 0 0 0 [some (.ref a0), some (.ref a1), some (.int x2)] [] := by
  unfold F_X4_init_L at hf
  refine jr_aload_n K (D_at DX4_init 0 rfl) rfl rfl ?_
  refine jr_objInit K (D_at DX4_init 1 rfl) oi_X4_3 (by exact Nat.le_of_ble_eq_true rfl) ?_
  refine jr_aload_n K (D_at DX4_init 2 rfl) rfl rfl ?_
  refine jr_aload_n K (D_at DX4_init 3 rfl) rfl rfl ?_
  obtain ⟨h6, e6, hf⟩ := jbind hf
  refine jr_putR K (D_at DX4_init 4 rfl) fp_X4_9_3 (Or.inr rfl) e6 ?_
  refine jr_aload_n K (D_at DX4_init 5 rfl) rfl rfl ?_
  refine jr_iload_n K (D_at DX4_init 6 rfl) rfl rfl ?_
  obtain ⟨h11, e11, hf⟩ := jbind hf
  refine jr_putI K (D_at DX4_init 7 rfl) fp_X4_15_3 (Or.inr rfl) e11 ?_
  cases hf
  exact jr_vret K E (D_at DX4_init 8 rfl) rfl ⟨rfl, rfl⟩
theorem C_X4_init_L {G : jG} {l : Launch} (d : Nat) {n : Nat} {a0 : Nat} {a1 : Nat} {x2 : Int32} {h : jH} {res : jH} (hf : F_X4_init_L n a0 a1 x2 h = some res) : jC G l mX4_init (d + 1) 0 0 [.ref a0, .ref a1, .int x2] h (jPV res) :=
  jC.of (by decide +kernel) (jcats rfl) (Nat.le_of_ble_eq_true rfl) (fun X K E => J_X4_init_L K n E a0 a1 x2 h hf)
set_option maxHeartbeats 400000 in
set_option maxRecDepth 100000 in
theorem J_X3_init {G : jG} {l : Launch} {d : Nat} {X : jX} {res : jH} (K : jOK G l mX3_init (d + 2) X) (n : Nat) (E : jEnd G mX3_init (jPV res) X) (a0 : Nat) (a1 : Nat) (a2 : Nat) (h : jH) (hf : F_X3_init n a0 a1 a2 h = some res) : jJ G X h 0 0 0 [some (.ref a0), some (.ref a1), some (.ref a2)] [] := by
  unfold F_X3_init at hf
  refine jr_aload_n K (D_at DX3_init 0 rfl) rfl rfl ?_
  refine jr_aload_n K (D_at DX3_init 1 rfl) rfl rfl ?_
  refine jr_bipush K (D_at DX3_init 2 rfl) (v := (12 : Int32)) (by decide) ?_
  obtain ⟨h4, e4, hf⟩ := jbind hf
  refine jr_callI K (C_X4_init_L (d) e4) (D_at DX3_init 3 rfl) ci_X3_5_X4_init (As := [.ref a1, .int (12 : Int32)]) rfl rfl (by exact Nat.le_of_ble_eq_true rfl) (kc2 := 0) (ks2 := 0) rfl rfl (fun k9 h9 w9 => by cases w9.1) (fun r9 h9 w9 => ?_)
  obtain ⟨w1, w2⟩ := w9
  subst h9
  cases w1
  refine jr_aload_n K (D_at DX3_init 4 rfl) rfl rfl ?_
  refine jr_aload_n K (D_at DX3_init 5 rfl) rfl rfl ?_
  obtain ⟨h9, e9, hf⟩ := jbind hf
  refine jr_putR K (D_at DX3_init 6 rfl) fp_X3_11_3 (Or.inr rfl) e9 ?_
  cases hf
  exact jr_vret K E (D_at DX3_init 7 rfl) rfl ⟨rfl, rfl⟩
theorem C_X3_init {G : jG} {l : Launch} (d : Nat) {n : Nat} {a0 : Nat} {a1 : Nat} {a2 : Nat} {h : jH} {res : jH} (hf : F_X3_init n a0 a1 a2 h = some res) : jC G l mX3_init (d + 2) 0 0 [.ref a0, .ref a1, .ref a2] h (jPV res) :=
  jC.of (by decide +kernel) (jcats rfl) (Nat.le_of_ble_eq_true rfl) (fun X K E => J_X3_init K n E a0 a1 a2 h hf)
set_option maxHeartbeats 400000 in
set_option maxRecDepth 100000 in
theorem J_X10_kind {G : jG} {l : Launch} {d : Nat} {X : jX} {res : Int32} (K : jOK G l mX10_kind (d) X) (n : Nat) (h : jH) (E : jEnd G mX10_kind (jPR h res) X) (a0 : Nat) (hf : F_X10_kind n a0 h = some res) : jJ G X h 0 0 0 [some (.ref a0)] [] := by
  unfold F_X10_kind at hf
  refine jr_aload_n K (D_at DX10_kind 0 rfl) rfl rfl ?_
  obtain ⟨v1, e1, hf⟩ := jbind hf
  refine jr_getI K (D_at DX10_kind 1 rfl) fg_X10_32_8 e1 ?_
  refine jr_aload_n K (D_at DX10_kind 2 rfl) rfl rfl ?_
  obtain ⟨v5, e5, hf⟩ := jbind hf
  refine jr_getI K (D_at DX10_kind 3 rfl) fg_X10_29_8 e5 ?_
  refine jr_icmp_ge K (D_at DX10_kind 4 rfl) (tgt := 23) (by decide) (fun c8 => ?_) (fun c8 => ?_)
  · replace hf := (if_pos c8).symm.trans hf
    refine jr_iconst K (D_at DX10_kind 11 rfl) (v := (-1 : Int32)) (by decide) ?_
    cases hf
    exact jr_iret K E (D_at DX10_kind 12 rfl) rfl ⟨rfl, rfl⟩
  · replace hf := (if_neg c8).symm.trans hf
    refine jr_aload_n K (D_at DX10_kind 5 rfl) rfl rfl ?_
    obtain ⟨p12, e12, hf⟩ := jbind hf
    refine jr_getR K (D_at DX10_kind 6 rfl) fg_X10_15_8 e12 ?_
    refine jr_aload_n K (D_at DX10_kind 7 rfl) rfl rfl ?_
    obtain ⟨v16, e16, hf⟩ := jbind hf
    refine jr_getI K (D_at DX10_kind 8 rfl) fg_X10_32_8 e16 ?_
    obtain ⟨v19, e19, hf⟩ := jbind hf
    refine jr_iald K (D_at DX10_kind 9 rfl) e19 ?_
    refine jr_goto K (D_at DX10_kind 10 rfl) (tgt := 24) (by decide) ?_
    cases hf
    exact jr_iret K E (D_at DX10_kind 12 rfl) rfl ⟨rfl, rfl⟩
theorem C_X10_kind {G : jG} {l : Launch} (d : Nat) {n : Nat} {a0 : Nat} {h : jH} {res : Int32} (hf : F_X10_kind n a0 h = some res) : jC G l mX10_kind (d) 0 0 [.ref a0] h (jPR h res) :=
  jC.of (by decide +kernel) (jcats rfl) (Nat.le_of_ble_eq_true rfl) (fun X K E => J_X10_kind K n h E a0 hf)
set_option maxHeartbeats 400000 in
set_option maxRecDepth 100000 in
theorem J_X10_skip {G : jG} {l : Launch} {d : Nat} {X : jX} {res : jH} (K : jOK G l mX10_skip (d) X) (n : Nat) (E : jEnd G mX10_skip (jPV res) X) (a0 : Nat) (h : jH) (hf : F_X10_skip n a0 h = some res) : jJ G X h 0 0 0 [some (.ref a0)] [] := by
  unfold F_X10_skip at hf
  refine jr_aload_n K (D_at DX10_skip 0 rfl) rfl rfl ?_
  obtain ⟨v1, e1, hf⟩ := jbind hf
  refine jr_getI K (D_at DX10_skip 1 rfl) fg_X10_32_8 e1 ?_
  refine jr_aload_n K (D_at DX10_skip 2 rfl) rfl rfl ?_
  obtain ⟨v5, e5, hf⟩ := jbind hf
  refine jr_getI K (D_at DX10_skip 3 rfl) fg_X10_29_8 e5 ?_
  refine jr_icmp_ge K (D_at DX10_skip 4 rfl) (tgt := 21) (by decide) (fun c8 => ?_) (fun c8 => ?_)
  · replace hf := (if_pos c8).symm.trans hf
    cases hf
    exact jr_vret K E (D_at DX10_skip 11 rfl) rfl ⟨rfl, rfl⟩
  · replace hf := (if_neg c8).symm.trans hf
    refine jr_aload_n K (D_at DX10_skip 5 rfl) rfl rfl ?_
    refine jr_dup K (D_at DX10_skip 6 rfl) rfl ?_
    obtain ⟨v13, e13, hf⟩ := jbind hf
    refine jr_getI K (D_at DX10_skip 7 rfl) fg_X10_32_8 e13 ?_
    refine jr_iconst K (D_at DX10_skip 8 rfl) (v := (1 : Int32)) (by decide) ?_
    refine jr_iadd K (D_at DX10_skip 9 rfl) ?_
    obtain ⟨h18, e18, hf⟩ := jbind hf
    refine jr_putI K (D_at DX10_skip 10 rfl) fp_X10_32_8 (Or.inl rfl) e18 ?_
    cases hf
    exact jr_vret K E (D_at DX10_skip 11 rfl) rfl ⟨rfl, rfl⟩
theorem C_X10_skip {G : jG} {l : Launch} (d : Nat) {n : Nat} {a0 : Nat} {h : jH} {res : jH} (hf : F_X10_skip n a0 h = some res) : jC G l mX10_skip (d) 0 0 [.ref a0] h (jPV res) :=
  jC.of (by decide +kernel) (jcats rfl) (Nat.le_of_ble_eq_true rfl) (fun X K E => J_X10_skip K n E a0 h hf)
set_option maxHeartbeats 400000 in
set_option maxRecDepth 100000 in
theorem J_X10_takeNumber {G : jG} {l : Launch} {d : Nat} {X : jX} {res : (Int32 × jH)} (K : jOK G l mX10_takeNumber (d) X) (n : Nat) (E : jEnd G mX10_takeNumber (jPW res) X) (a0 : Nat) (x1 : Int32) (x2 : Int32) (h : jH) (hf : F_X10_takeNumber n a0 x1 x2 h = some res) : jJ G X h 0 0 0 [some (.ref a0), some (.int x1), some (.int x2)] [] := by
  unfold F_X10_takeNumber at hf
  refine jr_aload_n K (D_at DX10_takeNumber 0 rfl) rfl rfl ?_
  obtain ⟨v1, e1, hf⟩ := jbind hf
  refine jr_getI K (D_at DX10_takeNumber 1 rfl) fg_X10_32_8 e1 ?_
  refine jr_aload_n K (D_at DX10_takeNumber 2 rfl) rfl rfl ?_
  obtain ⟨v5, e5, hf⟩ := jbind hf
  refine jr_getI K (D_at DX10_takeNumber 3 rfl) fg_X10_29_8 e5 ?_
  refine jr_icmp_ge K (D_at DX10_takeNumber 4 rfl) (tgt := 51) (by decide) (fun c8 => ?_) (fun c8 => ?_)
  · replace hf := (if_pos c8).symm.trans hf
    refine jr_iconst K (D_at DX10_takeNumber 26 rfl) (v := (-1 : Int32)) (by decide) ?_
    cases hf
    exact jr_iret K E (D_at DX10_takeNumber 27 rfl) rfl ⟨rfl, rfl⟩
  · replace hf := (if_neg c8).symm.trans hf
    refine jr_aload_n K (D_at DX10_takeNumber 5 rfl) rfl rfl ?_
    obtain ⟨p12, e12, hf⟩ := jbind hf
    refine jr_getR K (D_at DX10_takeNumber 6 rfl) fg_X10_15_8 e12 ?_
    refine jr_aload_n K (D_at DX10_takeNumber 7 rfl) rfl rfl ?_
    obtain ⟨v16, e16, hf⟩ := jbind hf
    refine jr_getI K (D_at DX10_takeNumber 8 rfl) fg_X10_32_8 e16 ?_
    obtain ⟨v19, e19, hf⟩ := jbind hf
    refine jr_iald K (D_at DX10_takeNumber 9 rfl) e19 ?_
    refine jr_bipush K (D_at DX10_takeNumber 10 rfl) (v := (-3 : Int32)) (by decide) ?_
    refine jr_icmp_ne K (D_at DX10_takeNumber 11 rfl) (tgt := 51) (by decide) (fun c22 => ?_) (fun c22 => ?_)
    · replace hf := (if_neg c22).symm.trans hf
      refine jr_iconst K (D_at DX10_takeNumber 26 rfl) (v := (-1 : Int32)) (by decide) ?_
      cases hf
      exact jr_iret K E (D_at DX10_takeNumber 27 rfl) rfl ⟨rfl, rfl⟩
    · replace hf := (if_pos c22).symm.trans hf
      refine jr_aload_n K (D_at DX10_takeNumber 12 rfl) rfl rfl ?_
      obtain ⟨p26, e26, hf⟩ := jbind hf
      refine jr_getR K (D_at DX10_takeNumber 13 rfl) fg_X10_22_8 e26 ?_
      refine jr_aload_n K (D_at DX10_takeNumber 14 rfl) rfl rfl ?_
      obtain ⟨v30, e30, hf⟩ := jbind hf
      refine jr_getI K (D_at DX10_takeNumber 15 rfl) fg_X10_32_8 e30 ?_
      obtain ⟨v33, e33, hf⟩ := jbind hf
      refine jr_iald K (D_at DX10_takeNumber 16 rfl) e33 ?_
      refine jr_iload_n K (D_at DX10_takeNumber 17 rfl) rfl rfl ?_
      refine jr_icmp_lt K (D_at DX10_takeNumber 18 rfl) (tgt := 51) (by decide) (fun c35 => ?_) (fun c35 => ?_)
      · replace hf := (if_pos c35).symm.trans hf
        refine jr_iconst K (D_at DX10_takeNumber 26 rfl) (v := (-1 : Int32)) (by decide) ?_
        cases hf
        exact jr_iret K E (D_at DX10_takeNumber 27 rfl) rfl ⟨rfl, rfl⟩
      · replace hf := (if_neg c35).symm.trans hf
        refine jr_aload_n K (D_at DX10_takeNumber 19 rfl) rfl rfl ?_
        obtain ⟨p39, e39, hf⟩ := jbind hf
        refine jr_getR K (D_at DX10_takeNumber 20 rfl) fg_X10_22_8 e39 ?_
        refine jr_aload_n K (D_at DX10_takeNumber 21 rfl) rfl rfl ?_
        obtain ⟨v43, e43, hf⟩ := jbind hf
        refine jr_getI K (D_at DX10_takeNumber 22 rfl) fg_X10_32_8 e43 ?_
        obtain ⟨v46, e46, hf⟩ := jbind hf
        refine jr_iald K (D_at DX10_takeNumber 23 rfl) e46 ?_
        refine jr_iload_n K (D_at DX10_takeNumber 24 rfl) rfl rfl ?_
        refine jr_icmp_le K (D_at DX10_takeNumber 25 rfl) (tgt := 53) (by decide) (fun c48 => ?_) (fun c48 => ?_)
        · replace hf := (if_pos c48).symm.trans hf
          refine jr_aload_n K (D_at DX10_takeNumber 28 rfl) rfl rfl ?_
          refine jr_dup K (D_at DX10_takeNumber 29 rfl) rfl ?_
          obtain ⟨v55, e55, hf⟩ := jbind hf
          refine jr_getI K (D_at DX10_takeNumber 30 rfl) fg_X10_32_8 e55 ?_
          refine jr_iconst K (D_at DX10_takeNumber 31 rfl) (v := (1 : Int32)) (by decide) ?_
          refine jr_iadd K (D_at DX10_takeNumber 32 rfl) ?_
          obtain ⟨h60, e60, hf⟩ := jbind hf
          refine jr_putI K (D_at DX10_takeNumber 33 rfl) fp_X10_32_8 (Or.inl rfl) e60 ?_
          refine jr_aload_n K (D_at DX10_takeNumber 34 rfl) rfl rfl ?_
          obtain ⟨p64, e64, hf⟩ := jbind hf
          refine jr_getR K (D_at DX10_takeNumber 35 rfl) fg_X10_22_8 e64 ?_
          refine jr_aload_n K (D_at DX10_takeNumber 36 rfl) rfl rfl ?_
          obtain ⟨v68, e68, hf⟩ := jbind hf
          refine jr_getI K (D_at DX10_takeNumber 37 rfl) fg_X10_32_8 e68 ?_
          refine jr_iconst K (D_at DX10_takeNumber 38 rfl) (v := (1 : Int32)) (by decide) ?_
          refine jr_isub K (D_at DX10_takeNumber 39 rfl) ?_
          obtain ⟨v73, e73, hf⟩ := jbind hf
          refine jr_iald K (D_at DX10_takeNumber 40 rfl) e73 ?_
          cases hf
          exact jr_iret K E (D_at DX10_takeNumber 41 rfl) rfl ⟨rfl, rfl⟩
        · replace hf := (if_neg c48).symm.trans hf
          refine jr_iconst K (D_at DX10_takeNumber 26 rfl) (v := (-1 : Int32)) (by decide) ?_
          cases hf
          exact jr_iret K E (D_at DX10_takeNumber 27 rfl) rfl ⟨rfl, rfl⟩
theorem C_X10_takeNumber {G : jG} {l : Launch} (d : Nat) {n : Nat} {a0 : Nat} {x1 : Int32} {x2 : Int32} {h : jH} {res : (Int32 × jH)} (hf : F_X10_takeNumber n a0 x1 x2 h = some res) : jC G l mX10_takeNumber (d) 0 0 [.ref a0, .int x1, .int x2] h (jPW res) :=
  jC.of (by decide +kernel) (jcats rfl) (Nat.le_of_ble_eq_true rfl) (fun X K E => J_X10_takeNumber K n E a0 x1 x2 h hf)
set_option maxHeartbeats 400000 in
set_option maxRecDepth 100000 in
theorem J_X10_take {G : jG} {l : Launch} {d : Nat} {X : jX} {res : (Int32 × jH)} (K : jOK G l mX10_take (d) X) (n : Nat) (E : jEnd G mX10_take (jPW res) X) (a0 : Nat) (x1 : Int32) (h : jH) (hf : F_X10_take n a0 x1 h = some res) : jJ G X h 0 0 0 [some (.ref a0), some (.int x1)] [] := by
  unfold F_X10_take at hf
  refine jr_aload_n K (D_at DX10_take 0 rfl) rfl rfl ?_
  obtain ⟨v1, e1, hf⟩ := jbind hf
  refine jr_getI K (D_at DX10_take 1 rfl) fg_X10_32_8 e1 ?_
  refine jr_aload_n K (D_at DX10_take 2 rfl) rfl rfl ?_
  obtain ⟨v5, e5, hf⟩ := jbind hf
  refine jr_getI K (D_at DX10_take 3 rfl) fg_X10_29_8 e5 ?_
  refine jr_icmp_ge K (D_at DX10_take 4 rfl) (tgt := 24) (by decide) (fun c8 => ?_) (fun c8 => ?_)
  · replace hf := (if_pos c8).symm.trans hf
    refine jr_iconst K (D_at DX10_take 12 rfl) (v := (0 : Int32)) (by decide) ?_
    cases hf
    exact jr_zret K E (D_at DX10_take 13 rfl) rfl (Or.inl rfl) ⟨rfl, rfl⟩
  · replace hf := (if_neg c8).symm.trans hf
    refine jr_aload_n K (D_at DX10_take 5 rfl) rfl rfl ?_
    obtain ⟨p12, e12, hf⟩ := jbind hf
    refine jr_getR K (D_at DX10_take 6 rfl) fg_X10_15_8 e12 ?_
    refine jr_aload_n K (D_at DX10_take 7 rfl) rfl rfl ?_
    obtain ⟨v16, e16, hf⟩ := jbind hf
    refine jr_getI K (D_at DX10_take 8 rfl) fg_X10_32_8 e16 ?_
    obtain ⟨v19, e19, hf⟩ := jbind hf
    refine jr_iald K (D_at DX10_take 9 rfl) e19 ?_
    refine jr_iload_n K (D_at DX10_take 10 rfl) rfl rfl ?_
    refine jr_icmp_eq K (D_at DX10_take 11 rfl) (tgt := 26) (by decide) (fun c21 => ?_) (fun c21 => ?_)
    · replace hf := (if_pos c21).symm.trans hf
      refine jr_aload_n K (D_at DX10_take 14 rfl) rfl rfl ?_
      refine jr_dup K (D_at DX10_take 15 rfl) rfl ?_
      obtain ⟨v28, e28, hf⟩ := jbind hf
      refine jr_getI K (D_at DX10_take 16 rfl) fg_X10_32_8 e28 ?_
      refine jr_iconst K (D_at DX10_take 17 rfl) (v := (1 : Int32)) (by decide) ?_
      refine jr_iadd K (D_at DX10_take 18 rfl) ?_
      obtain ⟨h33, e33, hf⟩ := jbind hf
      refine jr_putI K (D_at DX10_take 19 rfl) fp_X10_32_8 (Or.inl rfl) e33 ?_
      refine jr_iconst K (D_at DX10_take 20 rfl) (v := (1 : Int32)) (by decide) ?_
      cases hf
      exact jr_zret K E (D_at DX10_take 21 rfl) rfl (Or.inr rfl) ⟨rfl, rfl⟩
    · replace hf := (if_neg c21).symm.trans hf
      refine jr_iconst K (D_at DX10_take 12 rfl) (v := (0 : Int32)) (by decide) ?_
      cases hf
      exact jr_zret K E (D_at DX10_take 13 rfl) rfl (Or.inl rfl) ⟨rfl, rfl⟩
theorem C_X10_take {G : jG} {l : Launch} (d : Nat) {n : Nat} {a0 : Nat} {x1 : Int32} {h : jH} {res : (Int32 × jH)} (hf : F_X10_take n a0 x1 h = some res) : jC G l mX10_take (d) 0 0 [.ref a0, .int x1] h (jPW res) :=
  jC.of (by decide +kernel) (jcats rfl) (Nat.le_of_ble_eq_true rfl) (fun X K E => J_X10_take K n E a0 x1 h hf)
set_option maxHeartbeats 400000 in
set_option maxRecDepth 100000 in
theorem J_X3_readSum_94 {G : jG} {l : Launch} {d : Nat} {X : jX} {res : (Int32 × jH)} (K : jOK G l mX3_readSum (d + 1) X) (n : Nat) (rc4 : Nat → Int32 → Int32 → jH → Option (Int32 × jH)) (hr4 : ∀ (a0 : Nat) (x1 : Int32) (x2 : Int32) (h : jH), rc4 a0 x1 x2 h = some res → jJ G X h 0 0 4 [some (.ref a0), some (.int x1), some (.int x2), none, none] []) (E : jEnd G mX3_readSum (jPW res) X) (a0 : Nat) (x2 : Int32) (h : jH) (hf : F_X3_readSum_94 n rc4 a0 x2 h = some res) : jJ G X h 0 0 94 [some (.ref a0), none, some (.int x2), none, none] [] := by
  unfold F_X3_readSum_94 at hf
  refine jr_aload_n K (D_at DX3_readSum 47 rfl) rfl rfl ?_
  obtain ⟨p95, e95, hf⟩ := jbind hf
  refine jr_getR K (D_at DX3_readSum 48 rfl) fg_X3_17_3 e95 ?_
  refine jr_bipush K (D_at DX3_readSum 49 rfl) (v := (43 : Int32)) (by decide) ?_
  obtain ⟨q100, e100, hf⟩ := jbind hf
  obtain ⟨rc_100, e100⟩ := jcv_o e100
  refine jr_callV K (C_X10_take (d) e100) (D_at DX3_readSum 50 rfl) cv_X3_39_X10_take (As := [.int (43 : Int32)]) (ci := 8) rfl rc_100 rfl rfl (by exact Nat.le_of_ble_eq_true rfl) (kc2 := 0) (ks2 := 0) rfl rfl (fun k9 h9 w9 => by cases w9.1) (fun r9 h9 w9 => ?_)
  obtain ⟨w1, w2⟩ := w9
  subst h9
  cases w1
  show jJ G X _ 0 0 _ _ (.int q100.1 :: _)
  refine jr_istore_n K (D_at DX3_readSum 51 rfl) (i := 1) rfl (by decide) (L2 := [_, _, _, _, _]) rfl ?_
  refine jr_iload_n K (D_at DX3_readSum 52 rfl) rfl rfl ?_
  refine jr_if_ne K (D_at DX3_readSum 53 rfl) (tgt := 110) (by decide) (fun c105 => ?_) (fun c105 => ?_)
  · replace hf := (if_neg c105).symm.trans hf
    refine jr_iinc K (D_at DX3_readSum 56 rfl) (i := 2) rfl (v := x2 + (1 : Int32)) (jinc (by decide)) (by decide) (L2 := [_, _, _, _, _]) rfl ?_
    refine jr_goto K (D_at DX3_readSum 57 rfl) (tgt := 4) (by decide) ?_
    refine jr_keep [true, true, true, false, false] ?_
    exact hr4 a0 q100.1 (x2 + (1 : Int32)) q100.2 hf
  · replace hf := (if_pos c105).symm.trans hf
    refine jr_iconst K (D_at DX3_readSum 54 rfl) (v := (1 : Int32)) (by decide) ?_
    cases hf
    exact jr_zret K E (D_at DX3_readSum 55 rfl) rfl (Or.inr rfl) ⟨rfl, rfl⟩
set_option maxHeartbeats 400000 in
set_option maxRecDepth 100000 in
theorem J_X3_readSum_81 {G : jG} {l : Launch} {d : Nat} {X : jX} {res : (Int32 × jH)} (K : jOK G l mX3_readSum (d + 1) X) (n : Nat) (rc4 : Nat → Int32 → Int32 → jH → Option (Int32 × jH)) (hr4 : ∀ (a0 : Nat) (x1 : Int32) (x2 : Int32) (h : jH), rc4 a0 x1 x2 h = some res → jJ G X h 0 0 4 [some (.ref a0), some (.int x1), some (.int x2), none, none] []) (E : jEnd G mX3_readSum (jPW res) X) (a0 : Nat) (x1 : Int32) (x2 : Int32) (h : jH) (hf : F_X3_readSum_81 n rc4 a0 x1 x2 h = some res) : jJ G X h 0 0 81 [some (.ref a0), some (.int x1), some (.int x2), none, none] [] := by
  unfold F_X3_readSum_81 at hf
  refine jr_iload_n K (D_at DX3_readSum 41 rfl) rfl rfl ?_
  refine jr_if_eq K (D_at DX3_readSum 42 rfl) (tgt := 94) (by decide) (fun c82 => ?_) (fun c82 => ?_)
  · replace hf := (if_pos c82).symm.trans hf
    refine jr_keep [true, false, true, false, false] ?_
    exact J_X3_readSum_94 K n rc4 hr4 E a0 x2 h hf
  · replace hf := (if_neg c82).symm.trans hf
    refine jr_aload_n K (D_at DX3_readSum 43 rfl) rfl rfl ?_
    obtain ⟨p86, e86, hf⟩ := jbind hf
    refine jr_getR K (D_at DX3_readSum 44 rfl) fg_X3_11_3 e86 ?_
    refine jr_bipush K (D_at DX3_readSum 45 rfl) (v := (43 : Int32)) (by decide) ?_
    obtain ⟨h91, e91, hf⟩ := jbind hf
    obtain ⟨rc_91, e91⟩ := jcv_o e91
    refine jr_callV K (C_X2_addCode (d) e91) (D_at DX3_readSum 46 rfl) cv_X3_49_X2_addCode (As := [.int (43 : Int32)]) (ci := 2) rfl rc_91 rfl rfl (by exact Nat.le_of_ble_eq_true rfl) (kc2 := 0) (ks2 := 0) rfl rfl (fun k9 h9 w9 => by cases w9.1) (fun r9 h9 w9 => ?_)
    obtain ⟨w1, w2⟩ := w9
    subst h9
    cases w1
    show jJ G X _ 0 0 _ _ []
    refine jr_keep [true, false, true, false, false] ?_
    exact J_X3_readSum_94 K n rc4 hr4 E a0 x2 h91 hf
set_option maxHeartbeats 400000 in
set_option maxRecDepth 100000 in
theorem J_X3_readSum_47 {G : jG} {l : Launch} {d : Nat} {X : jX} {res : (Int32 × jH)} (K : jOK G l mX3_readSum (d + 1) X) (n : Nat) (rc4 : Nat → Int32 → Int32 → jH → Option (Int32 × jH)) (hr4 : ∀ (a0 : Nat) (x1 : Int32) (x2 : Int32) (h : jH), rc4 a0 x1 x2 h = some res → jJ G X h 0 0 4 [some (.ref a0), some (.int x1), some (.int x2), none, none] []) (E : jEnd G mX3_readSum (jPW res) X) (a0 : Nat) (x1 : Int32) (x2 : Int32) (h : jH) (hf : F_X3_readSum_47 n rc4 a0 x1 x2 h = some res) : jJ G X h 0 0 47 [some (.ref a0), some (.int x1), some (.int x2), none, none] [] := by
  unfold F_X3_readSum_47 at hf
  refine jr_aload_n K (D_at DX3_readSum 24 rfl) rfl rfl ?_
  obtain ⟨p48, e48, hf⟩ := jbind hf
  refine jr_getR K (D_at DX3_readSum 25 rfl) fg_X3_17_3 e48 ?_
  refine jr_iconst K (D_at DX3_readSum 26 rfl) (v := (0 : Int32)) (by decide) ?_
  refine jr_sipush K (D_at DX3_readSum 27 rfl) (v := (999 : Int32)) (by decide) ?_
  obtain ⟨q55, e55, hf⟩ := jbind hf
  obtain ⟨rc_55, e55⟩ := jcv_o e55
  refine jr_callV K (C_X10_takeNumber (d) e55) (D_at DX3_readSum 28 rfl) cv_X3_31_X10_takeNumber (As := [.int (0 : Int32), .int (999 : Int32)]) (ci := 8) rfl rc_55 rfl rfl (by exact Nat.le_of_ble_eq_true rfl) (kc2 := 0) (ks2 := 0) rfl rfl (fun k9 h9 w9 => by cases w9.1) (fun r9 h9 w9 => ?_)
  obtain ⟨w1, w2⟩ := w9
  subst h9
  cases w1
  show jJ G X _ 0 0 _ _ (.int q55.1 :: _)
  refine jr_istore K (D_at DX3_readSum 29 rfl) (i := 4) (by decide) (L2 := [_, _, _, _, _]) rfl ?_
  refine jr_iload K (D_at DX3_readSum 30 rfl) rfl ?_
  refine jr_iconst K (D_at DX3_readSum 31 rfl) (v := (-1 : Int32)) (by decide) ?_
  refine jr_icmp_ne K (D_at DX3_readSum 32 rfl) (tgt := 68) (by decide) (fun c63 => ?_) (fun c63 => ?_)
  · replace hf := (if_neg c63).symm.trans hf
    refine jr_aload_n K (D_at DX3_readSum 35 rfl) rfl rfl ?_
    obtain ⟨p69, e69, hf⟩ := jbind hf
    refine jr_getR K (D_at DX3_readSum 36 rfl) fg_X3_11_3 e69 ?_
    refine jr_sipush K (D_at DX3_readSum 37 rfl) (v := (256 : Int32)) (by decide) ?_
    refine jr_iload K (D_at DX3_readSum 38 rfl) rfl ?_
    refine jr_iadd K (D_at DX3_readSum 39 rfl) ?_
    obtain ⟨h78, e78, hf⟩ := jbind hf
    obtain ⟨rc_78, e78⟩ := jcv_o e78
    refine jr_callV K (C_X2_addCode (d) e78) (D_at DX3_readSum 40 rfl) cv_X3_49_X2_addCode (As := [.int ((256 : Int32) + q55.1)]) (ci := 2) rfl rc_78 rfl rfl (by exact Nat.le_of_ble_eq_true rfl) (kc2 := 0) (ks2 := 0) rfl rfl (fun k9 h9 w9 => by cases w9.1) (fun r9 h9 w9 => ?_)
    obtain ⟨w1, w2⟩ := w9
    subst h9
    cases w1
    show jJ G X _ 0 0 _ _ []
    refine jr_keep [true, true, true, false, false] ?_
    exact J_X3_readSum_81 K n rc4 hr4 E a0 x1 x2 h78 hf
  · replace hf := (if_pos c63).symm.trans hf
    refine jr_iconst K (D_at DX3_readSum 33 rfl) (v := (0 : Int32)) (by decide) ?_
    cases hf
    exact jr_zret K E (D_at DX3_readSum 34 rfl) rfl (Or.inl rfl) ⟨rfl, rfl⟩
set_option maxHeartbeats 400000 in
set_option maxRecDepth 100000 in
theorem J_X3_readSum_4_b {G : jG} {l : Launch} {d : Nat} {X : jX} {res : (Int32 × jH)} (K : jOK G l mX3_readSum (d + 1) X) (n : Nat) (rc4 : Nat → Int32 → Int32 → jH → Option (Int32 × jH)) (hr4 : ∀ (a0 : Nat) (x1 : Int32) (x2 : Int32) (h : jH), rc4 a0 x1 x2 h = some res → jJ G X h 0 0 4 [some (.ref a0), some (.int x1), some (.int x2), none, none] []) (E : jEnd G mX3_readSum (jPW res) X) (a0 : Nat) (x1 : Int32) (x2 : Int32) (h : jH) (hf : F_X3_readSum_4_b n rc4 a0 x1 x2 h = some res) : jJ G X h 0 0 4 [some (.ref a0), some (.int x1), some (.int x2), none, none] [] := by
  unfold F_X3_readSum_4_b at hf
  refine jr_iload_n K (D_at DX3_readSum 4 rfl) rfl rfl ?_
  refine jr_sipush K (D_at DX3_readSum 5 rfl) (v := (400 : Int32)) (by decide) ?_
  refine jr_icmp_ge K (D_at DX3_readSum 6 rfl) (tgt := 116) (by decide) (fun c8 => ?_) (fun c8 => ?_)
  · replace hf := (if_pos c8).symm.trans hf
    refine jr_iconst K (D_at DX3_readSum 58 rfl) (v := (0 : Int32)) (by decide) ?_
    cases hf
    exact jr_zret K E (D_at DX3_readSum 59 rfl) rfl (Or.inl rfl) ⟨rfl, rfl⟩
  · replace hf := (if_neg c8).symm.trans hf
    refine jr_aload_n K (D_at DX3_readSum 7 rfl) rfl rfl ?_
    obtain ⟨p12, e12, hf⟩ := jbind hf
    refine jr_getR K (D_at DX3_readSum 8 rfl) fg_X3_17_3 e12 ?_
    obtain ⟨v15, e15, hf⟩ := jbind hf
    obtain ⟨rc_15, e15⟩ := jcv_o e15
    refine jr_callV K (C_X10_kind (d) e15) (D_at DX3_readSum 9 rfl) cv_X3_21_X10_kind (As := []) (ci := 8) rfl rc_15 rfl rfl (by exact Nat.le_of_ble_eq_true rfl) (kc2 := 0) (ks2 := 0) rfl rfl (fun k9 h9 w9 => by cases w9.1) (fun r9 h9 w9 => ?_)
    obtain ⟨w1, w2⟩ := w9
    subst h9
    cases w1
    show jJ G X _ 0 0 _ _ (.int v15 :: _)
    refine jr_istore_n K (D_at DX3_readSum 10 rfl) (i := 3) rfl (by decide) (L2 := [_, _, _, _, _]) rfl ?_
    refine jr_iload_n K (D_at DX3_readSum 11 rfl) rfl rfl ?_
    refine jr_if_lt K (D_at DX3_readSum 12 rfl) (tgt := 47) (by decide) (fun c20 => ?_) (fun c20 => ?_)
    · replace hf := (if_pos c20).symm.trans hf
      refine jr_keep [true, true, true, false, false] ?_
      exact J_X3_readSum_47 K n rc4 hr4 E a0 x1 x2 h hf
    · replace hf := (if_neg c20).symm.trans hf
      refine jr_iload_n K (D_at DX3_readSum 13 rfl) rfl rfl ?_
      refine jr_bipush K (D_at DX3_readSum 14 rfl) (v := (6 : Int32)) (by decide) ?_
      refine jr_icmp_gt K (D_at DX3_readSum 15 rfl) (tgt := 47) (by decide) (fun c26 => ?_) (fun c26 => ?_)
      · replace hf := (if_pos c26).symm.trans hf
        refine jr_keep [true, true, true, false, false] ?_
        exact J_X3_readSum_47 K n rc4 hr4 E a0 x1 x2 h hf
      · replace hf := (if_neg c26).symm.trans hf
        refine jr_aload_n K (D_at DX3_readSum 16 rfl) rfl rfl ?_
        obtain ⟨p30, e30, hf⟩ := jbind hf
        refine jr_getR K (D_at DX3_readSum 17 rfl) fg_X3_17_3 e30 ?_
        obtain ⟨h33, e33, hf⟩ := jbind hf
        obtain ⟨rc_33, e33⟩ := jcv_o e33
        refine jr_callV K (C_X10_skip (d) e33) (D_at DX3_readSum 18 rfl) cv_X3_27_X10_skip (As := []) (ci := 8) rfl rc_33 rfl rfl (by exact Nat.le_of_ble_eq_true rfl) (kc2 := 0) (ks2 := 0) rfl rfl (fun k9 h9 w9 => by cases w9.1) (fun r9 h9 w9 => ?_)
        obtain ⟨w1, w2⟩ := w9
        subst h9
        cases w1
        show jJ G X _ 0 0 _ _ []
        refine jr_aload_n K (D_at DX3_readSum 19 rfl) rfl rfl ?_
        obtain ⟨p37, e37, hf⟩ := jbind hf
        refine jr_getR K (D_at DX3_readSum 20 rfl) fg_X3_11_3 e37 ?_
        refine jr_iload_n K (D_at DX3_readSum 21 rfl) rfl rfl ?_
        obtain ⟨h41, e41, hf⟩ := jbind hf
        obtain ⟨rc_41, e41⟩ := jcv_o e41
        refine jr_callV K (C_X2_addCode (d) e41) (D_at DX3_readSum 22 rfl) cv_X3_49_X2_addCode (As := [.int v15]) (ci := 2) rfl rc_41 rfl rfl (by exact Nat.le_of_ble_eq_true rfl) (kc2 := 0) (ks2 := 0) rfl rfl (fun k9 h9 w9 => by cases w9.1) (fun r9 h9 w9 => ?_)
        obtain ⟨w1, w2⟩ := w9
        subst h9
        cases w1
        show jJ G X _ 0 0 _ _ []
        refine jr_goto K (D_at DX3_readSum 23 rfl) (tgt := 81) (by decide) ?_
        refine jr_keep [true, true, true, false, false] ?_
        exact J_X3_readSum_81 K n rc4 hr4 E a0 x1 x2 h41 hf
theorem J_X3_readSum_4 {G : jG} {l : Launch} {d : Nat} {X : jX} {res : (Int32 × jH)} (K : jOK G l mX3_readSum (d + 1) X) (n : Nat) (E : jEnd G mX3_readSum (jPW res) X) (k : Nat) : ∀ (a0 : Nat) (x1 : Int32) (x2 : Int32) (h : jH), F_X3_readSum_4 n k a0 x1 x2 h = some res → jJ G X h 0 0 4 [some (.ref a0), some (.int x1), some (.int x2), none, none] [] := by
  induction k with
  | zero =>
    intro a0 x1 x2 h hf
    exact jno (show (none : Option (Int32 × jH)) = some res from hf)
  | succ k ih =>
    intro a0 x1 x2 h hf
    exact J_X3_readSum_4_b K n (F_X3_readSum_4 n k) ih E a0 x1 x2 h hf
set_option maxHeartbeats 400000 in
set_option maxRecDepth 100000 in
theorem J_X3_readSum {G : jG} {l : Launch} {d : Nat} {X : jX} {res : (Int32 × jH)} (K : jOK G l mX3_readSum (d + 1) X) (n : Nat) (E : jEnd G mX3_readSum (jPW res) X) (a0 : Nat) (h : jH) (hf : F_X3_readSum n a0 h = some res) : jJ G X h 0 0 0 [some (.ref a0), none, none, none, none] [] := by
  unfold F_X3_readSum at hf
  refine jr_iconst K (D_at DX3_readSum 0 rfl) (v := (0 : Int32)) (by decide) ?_
  refine jr_istore_n K (D_at DX3_readSum 1 rfl) (i := 1) rfl (by decide) (L2 := [_, _, _, _, _]) rfl ?_
  refine jr_iconst K (D_at DX3_readSum 2 rfl) (v := (0 : Int32)) (by decide) ?_
  refine jr_istore_n K (D_at DX3_readSum 3 rfl) (i := 2) rfl (by decide) (L2 := [_, _, _, _, _]) rfl ?_
  refine jr_keep [true, true, true, false, false] ?_
  exact J_X3_readSum_4 K n E n a0 (0 : Int32) (0 : Int32) h hf
theorem C_X3_readSum {G : jG} {l : Launch} (d : Nat) {n : Nat} {a0 : Nat} {h : jH} {res : (Int32 × jH)} (hf : F_X3_readSum n a0 h = some res) : jC G l mX3_readSum (d + 1) 0 0 [.ref a0] h (jPW res) :=
  jC.of (by decide +kernel) (jcats rfl) (Nat.le_of_ble_eq_true rfl) (fun X K E => J_X3_readSum K n E a0 h hf)
set_option maxHeartbeats 400000 in
set_option maxRecDepth 100000 in
theorem J_X3_readComparison_43 {G : jG} {l : Launch} {d : Nat} {X : jX} {res : (Int32 × jH)} (K : jOK G l mX3_readComparison (d + 2) X) (n : Nat) (E : jEnd G mX3_readComparison (jPW res) X) (a0 : Nat) (x1 : Int32) (h : jH) (hf : F_X3_readComparison_43 n a0 x1 h = some res) : jJ G X h 0 0 43 [some (.ref a0), some (.int x1), none] [] := by
  unfold F_X3_readComparison_43 at hf
  refine jr_aload_n K (D_at DX3_readComparison 21 rfl) rfl rfl ?_
  obtain ⟨q44, e44, hf⟩ := jbind hf
  obtain ⟨rc_44, e44⟩ := jcv_o e44
  refine jr_callV K (C_X3_readSum (d) e44) (D_at DX3_readComparison 22 rfl) cv_X3_57_X3_readSum (As := []) (ci := 3) rfl rc_44 rfl rfl (by exact Nat.le_of_ble_eq_true rfl) (kc2 := 0) (ks2 := 0) rfl rfl (fun k9 h9 w9 => by cases w9.1) (fun r9 h9 w9 => ?_)
  obtain ⟨w1, w2⟩ := w9
  subst h9
  cases w1
  show jJ G X _ 0 0 _ _ (.int q44.1 :: _)
  refine jr_istore_n K (D_at DX3_readComparison 23 rfl) (i := 2) rfl (by decide) (L2 := [_, _, _]) rfl ?_
  refine jr_aload_n K (D_at DX3_readComparison 24 rfl) rfl rfl ?_
  obtain ⟨p49, e49, hf⟩ := jbind hf
  refine jr_getR K (D_at DX3_readComparison 25 rfl) fg_X3_11_3 e49 ?_
  refine jr_iload_n K (D_at DX3_readComparison 26 rfl) rfl rfl ?_
  obtain ⟨h53, e53, hf⟩ := jbind hf
  obtain ⟨rc_53, e53⟩ := jcv_o e53
  refine jr_callV K (C_X2_addCode (d + 1) e53) (D_at DX3_readComparison 27 rfl) cv_X3_49_X2_addCode (As := [.int x1]) (ci := 2) rfl rc_53 rfl rfl (by exact Nat.le_of_ble_eq_true rfl) (kc2 := 0) (ks2 := 0) rfl rfl (fun k9 h9 w9 => by cases w9.1) (fun r9 h9 w9 => ?_)
  obtain ⟨w1, w2⟩ := w9
  subst h9
  cases w1
  show jJ G X _ 0 0 _ _ []
  refine jr_iload_n K (D_at DX3_readComparison 28 rfl) rfl rfl ?_
  by_cases z9 : q44.1 = 0 ∨ q44.1 = 1
  · replace hf := (if_pos z9).symm.trans hf
    cases hf
    exact jr_zret K E (D_at DX3_readComparison 29 rfl) rfl z9 ⟨rfl, rfl⟩
  · exact jno (show (none : Option (Int32 × jH)) = some res from (if_neg z9).symm.trans hf)
set_option maxHeartbeats 400000 in
set_option maxRecDepth 100000 in
theorem J_X3_readComparison {G : jG} {l : Launch} {d : Nat} {X : jX} {res : (Int32 × jH)} (K : jOK G l mX3_readComparison (d + 2) X) (n : Nat) (E : jEnd G mX3_readComparison (jPW res) X) (a0 : Nat) (h : jH) (hf : F_X3_readComparison n a0 h = some res) : jJ G X h 0 0 0 [some (.ref a0), none, none] [] := by
  unfold F_X3_readComparison at hf
  refine jr_aload_n K (D_at DX3_readComparison 0 rfl) rfl rfl ?_
  obtain ⟨q1, e1, hf⟩ := jbind hf
  obtain ⟨rc_1, e1⟩ := jcv_o e1
  refine jr_callV K (C_X3_readSum (d) e1) (D_at DX3_readComparison 1 rfl) cv_X3_57_X3_readSum (As := []) (ci := 3) rfl rc_1 rfl rfl (by exact Nat.le_of_ble_eq_true rfl) (kc2 := 0) (ks2 := 0) rfl rfl (fun k9 h9 w9 => by cases w9.1) (fun r9 h9 w9 => ?_)
  obtain ⟨w1, w2⟩ := w9
  subst h9
  cases w1
  show jJ G X _ 0 0 _ _ (.int q1.1 :: _)
  refine jr_if_ne K (D_at DX3_readComparison 2 rfl) (tgt := 9) (by decide) (fun c4 => ?_) (fun c4 => ?_)
  · replace hf := (if_neg c4).symm.trans hf
    refine jr_aload_n K (D_at DX3_readComparison 5 rfl) rfl rfl ?_
    obtain ⟨p10, e10, hf⟩ := jbind hf
    refine jr_getR K (D_at DX3_readComparison 6 rfl) fg_X3_17_3 e10 ?_
    obtain ⟨v13, e13, hf⟩ := jbind hf
    obtain ⟨rc_13, e13⟩ := jcv_o e13
    refine jr_callV K (C_X10_kind (d + 1) e13) (D_at DX3_readComparison 7 rfl) cv_X3_21_X10_kind (As := []) (ci := 8) rfl rc_13 rfl rfl (by exact Nat.le_of_ble_eq_true rfl) (kc2 := 0) (ks2 := 0) rfl rfl (fun k9 h9 w9 => by cases w9.1) (fun r9 h9 w9 => ?_)
    obtain ⟨w1, w2⟩ := w9
    subst h9
    cases w1
    show jJ G X _ 0 0 _ _ (.int v13 :: _)
    refine jr_istore_n K (D_at DX3_readComparison 8 rfl) (i := 1) rfl (by decide) (L2 := [_, _, _]) rfl ?_
    refine jr_aload_n K (D_at DX3_readComparison 9 rfl) rfl rfl ?_
    obtain ⟨p18, e18, hf⟩ := jbind hf
    refine jr_getR K (D_at DX3_readComparison 10 rfl) fg_X3_17_3 e18 ?_
    refine jr_bipush K (D_at DX3_readComparison 11 rfl) (v := (60 : Int32)) (by decide) ?_
    obtain ⟨q23, e23, hf⟩ := jbind hf
    obtain ⟨rc_23, e23⟩ := jcv_o e23
    refine jr_callV K (C_X10_take (d + 1) e23) (D_at DX3_readComparison 12 rfl) cv_X3_39_X10_take (As := [.int (60 : Int32)]) (ci := 8) rfl rc_23 rfl rfl (by exact Nat.le_of_ble_eq_true rfl) (kc2 := 0) (ks2 := 0) rfl rfl (fun k9 h9 w9 => by cases w9.1) (fun r9 h9 w9 => ?_)
    obtain ⟨w1, w2⟩ := w9
    subst h9
    cases w1
    show jJ G X _ 0 0 _ _ (.int q23.1 :: _)
    refine jr_if_ne K (D_at DX3_readComparison 13 rfl) (tgt := 43) (by decide) (fun c26 => ?_) (fun c26 => ?_)
    · replace hf := (if_neg c26).symm.trans hf
      refine jr_keep [true, true, false] ?_
      exact J_X3_readComparison_43 K n E a0 v13 q23.2 hf
    · replace hf := (if_pos c26).symm.trans hf
      refine jr_aload_n K (D_at DX3_readComparison 14 rfl) rfl rfl ?_
      obtain ⟨p30, e30, hf⟩ := jbind hf
      refine jr_getR K (D_at DX3_readComparison 15 rfl) fg_X3_17_3 e30 ?_
      refine jr_bipush K (D_at DX3_readComparison 16 rfl) (v := (62 : Int32)) (by decide) ?_
      obtain ⟨q35, e35, hf⟩ := jbind hf
      obtain ⟨rc_35, e35⟩ := jcv_o e35
      refine jr_callV K (C_X10_take (d + 1) e35) (D_at DX3_readComparison 17 rfl) cv_X3_39_X10_take (As := [.int (62 : Int32)]) (ci := 8) rfl rc_35 rfl rfl (by exact Nat.le_of_ble_eq_true rfl) (kc2 := 0) (ks2 := 0) rfl rfl (fun k9 h9 w9 => by cases w9.1) (fun r9 h9 w9 => ?_)
      obtain ⟨w1, w2⟩ := w9
      subst h9
      cases w1
      show jJ G X _ 0 0 _ _ (.int q35.1 :: _)
      refine jr_if_ne K (D_at DX3_readComparison 18 rfl) (tgt := 43) (by decide) (fun c38 => ?_) (fun c38 => ?_)
      · replace hf := (if_neg c38).symm.trans hf
        refine jr_keep [true, true, false] ?_
        exact J_X3_readComparison_43 K n E a0 v13 q35.2 hf
      · replace hf := (if_pos c38).symm.trans hf
        refine jr_iconst K (D_at DX3_readComparison 19 rfl) (v := (0 : Int32)) (by decide) ?_
        cases hf
        exact jr_zret K E (D_at DX3_readComparison 20 rfl) rfl (Or.inl rfl) ⟨rfl, rfl⟩
  · replace hf := (if_pos c4).symm.trans hf
    refine jr_iconst K (D_at DX3_readComparison 3 rfl) (v := (0 : Int32)) (by decide) ?_
    cases hf
    exact jr_zret K E (D_at DX3_readComparison 4 rfl) rfl (Or.inl rfl) ⟨rfl, rfl⟩
theorem C_X3_readComparison {G : jG} {l : Launch} (d : Nat) {n : Nat} {a0 : Nat} {h : jH} {res : (Int32 × jH)} (hf : F_X3_readComparison n a0 h = some res) : jC G l mX3_readComparison (d + 2) 0 0 [.ref a0] h (jPW res) :=
  jC.of (by decide +kernel) (jcats rfl) (Nat.le_of_ble_eq_true rfl) (fun X K E => J_X3_readComparison K n E a0 h hf)
set_option maxHeartbeats 400000 in
set_option maxRecDepth 100000 in
theorem J_X3_readCondition_65 {G : jG} {l : Launch} {D9 : Nat} (hD9 : 3 ≤ D9) {X : jX} {res : (Int32 × jH)} (K : jOK G l mX3_readCondition (D9 + 1) X) (n : Nat) (g0 : Nat → Int32 → jH → Option (Int32 × jH)) (hg0 : ∀ (b0 : Nat) (b1 : Int32) (h : jH) (r : (Int32 × jH)), g0 b0 b1 h = some r → jC G l mX3_readCondition D9 0 0 [.ref b0, .int b1] h (jPW r)) (g1 : Nat → Int32 → jH → Option (Int32 × jH)) (hg1 : ∀ (b0 : Nat) (b1 : Int32) (h : jH) (r : (Int32 × jH)), g1 b0 b1 h = some r → jC G l mX3_readAtom D9 0 0 [.ref b0, .int b1] h (jPW r)) (rc7 : Nat → Int32 → Int32 → Int32 → Int32 → jH → Option (Int32 × jH)) (hr7 : ∀ (a0 : Nat) (x1 : Int32) (x2 : Int32) (x3 : Int32) (x4 : Int32) (h : jH), rc7 a0 x1 x2 x3 x4 h = some res → jJ G X h 0 0 7 [some (.ref a0), some (.int x1), some (.int x2), some (.int x3), some (.int x4)] []) (E : jEnd G mX3_readCondition (jPW res) X) (a0 : Nat) (x1 : Int32) (x2 : Int32) (x4 : Int32) (h : jH) (hf : F_X3_readCondition_65 n g0 g1 rc7 a0 x1 x2 x4 h = some res) : jJ G X h 0 0 65 [some (.ref a0), some (.int x1), some (.int x2), none, some (.int x4)] [] := by
  unfold F_X3_readCondition_65 at hf
  refine jr_aload_n K (D_at DX3_readCondition 34 rfl) rfl rfl ?_
  obtain ⟨p66, e66, hf⟩ := jbind hf
  refine jr_getR K (D_at DX3_readCondition 35 rfl) fg_X3_17_3 e66 ?_
  refine jr_bipush K (D_at DX3_readCondition 36 rfl) (v := (13 : Int32)) (by decide) ?_
  obtain ⟨q71, e71, hf⟩ := jbind hf
  obtain ⟨rc_71, e71⟩ := jcv_o e71
  refine jr_callV K (jC_le (k := 0) (Nat.le_trans (by decide) hD9) (fun d => C_X10_take d e71)) (D_at DX3_readCondition 37 rfl) cv_X3_39_X10_take (As := [.int (13 : Int32)]) (ci := 8) rfl rc_71 rfl rfl (by exact Nat.le_of_ble_eq_true rfl) (kc2 := 0) (ks2 := 0) rfl rfl (fun k9 h9 w9 => by cases w9.1) (fun r9 h9 w9 => ?_)
  obtain ⟨w1, w2⟩ := w9
  subst h9
  cases w1
  show jJ G X _ 0 0 _ _ (.int q71.1 :: _)
  refine jr_istore_n K (D_at DX3_readCondition 38 rfl) (i := 3) rfl (by decide) (L2 := [_, _, _, _, _]) rfl ?_
  refine jr_iload_n K (D_at DX3_readCondition 39 rfl) rfl rfl ?_
  refine jr_if_ne K (D_at DX3_readCondition 40 rfl) (tgt := 81) (by decide) (fun c76 => ?_) (fun c76 => ?_)
  · replace hf := (if_neg c76).symm.trans hf
    refine jr_iinc K (D_at DX3_readCondition 43 rfl) (i := 4) rfl (v := x4 + (1 : Int32)) (jinc (by decide)) (by decide) (L2 := [_, _, _, _, _]) rfl ?_
    refine jr_goto K (D_at DX3_readCondition 44 rfl) (tgt := 7) (by decide) ?_
    refine jr_keep [true, true, true, true, true] ?_
    exact hr7 a0 x1 x2 q71.1 (x4 + (1 : Int32)) q71.2 hf
  · replace hf := (if_pos c76).symm.trans hf
    refine jr_iconst K (D_at DX3_readCondition 41 rfl) (v := (1 : Int32)) (by decide) ?_
    cases hf
    exact jr_zret K E (D_at DX3_readCondition 42 rfl) rfl (Or.inr rfl) ⟨rfl, rfl⟩
set_option maxHeartbeats 400000 in
set_option maxRecDepth 100000 in
theorem J_X3_readCondition_38 {G : jG} {l : Launch} {D9 : Nat} (hD9 : 3 ≤ D9) {X : jX} {res : (Int32 × jH)} (K : jOK G l mX3_readCondition (D9 + 1) X) (n : Nat) (g0 : Nat → Int32 → jH → Option (Int32 × jH)) (hg0 : ∀ (b0 : Nat) (b1 : Int32) (h : jH) (r : (Int32 × jH)), g0 b0 b1 h = some r → jC G l mX3_readCondition D9 0 0 [.ref b0, .int b1] h (jPW r)) (g1 : Nat → Int32 → jH → Option (Int32 × jH)) (hg1 : ∀ (b0 : Nat) (b1 : Int32) (h : jH) (r : (Int32 × jH)), g1 b0 b1 h = some r → jC G l mX3_readAtom D9 0 0 [.ref b0, .int b1] h (jPW r)) (rc7 : Nat → Int32 → Int32 → Int32 → Int32 → jH → Option (Int32 × jH)) (hr7 : ∀ (a0 : Nat) (x1 : Int32) (x2 : Int32) (x3 : Int32) (x4 : Int32) (h : jH), rc7 a0 x1 x2 x3 x4 h = some res → jJ G X h 0 0 7 [some (.ref a0), some (.int x1), some (.int x2), some (.int x3), some (.int x4)] []) (E : jEnd G mX3_readCondition (jPW res) X) (a0 : Nat) (x1 : Int32) (x3 : Int32) (x4 : Int32) (h : jH) (hf : F_X3_readCondition_38 n g0 g1 rc7 a0 x1 x3 x4 h = some res) : jJ G X h 0 0 38 [some (.ref a0), some (.int x1), none, some (.int x3), some (.int x4)] [] := by
  unfold F_X3_readCondition_38 at hf
  refine jr_aload_n K (D_at DX3_readCondition 21 rfl) rfl rfl ?_
  obtain ⟨p39, e39, hf⟩ := jbind hf
  refine jr_getR K (D_at DX3_readCondition 22 rfl) fg_X3_17_3 e39 ?_
  refine jr_bipush K (D_at DX3_readCondition 23 rfl) (v := (12 : Int32)) (by decide) ?_
  obtain ⟨q44, e44, hf⟩ := jbind hf
  obtain ⟨rc_44, e44⟩ := jcv_o e44
  refine jr_callV K (jC_le (k := 0) (Nat.le_trans (by decide) hD9) (fun d => C_X10_take d e44)) (D_at DX3_readCondition 24 rfl) cv_X3_39_X10_take (As := [.int (12 : Int32)]) (ci := 8) rfl rc_44 rfl rfl (by exact Nat.le_of_ble_eq_true rfl) (kc2 := 0) (ks2 := 0) rfl rfl (fun k9 h9 w9 => by cases w9.1) (fun r9 h9 w9 => ?_)
  obtain ⟨w1, w2⟩ := w9
  subst h9
  cases w1
  show jJ G X _ 0 0 _ _ (.int q44.1 :: _)
  refine jr_istore_n K (D_at DX3_readCondition 25 rfl) (i := 2) rfl (by decide) (L2 := [_, _, _, _, _]) rfl ?_
  refine jr_iload_n K (D_at DX3_readCondition 26 rfl) rfl rfl ?_
  refine jr_if_ne K (D_at DX3_readCondition 27 rfl) (tgt := 81) (by decide) (fun c49 => ?_) (fun c49 => ?_)
  · replace hf := (if_neg c49).symm.trans hf
    refine jr_iinc K (D_at DX3_readCondition 43 rfl) (i := 4) rfl (v := x4 + (1 : Int32)) (jinc (by decide)) (by decide) (L2 := [_, _, _, _, _]) rfl ?_
    refine jr_goto K (D_at DX3_readCondition 44 rfl) (tgt := 7) (by decide) ?_
    refine jr_keep [true, true, true, true, true] ?_
    exact hr7 a0 x1 q44.1 x3 (x4 + (1 : Int32)) q44.2 hf
  · replace hf := (if_pos c49).symm.trans hf
    refine jr_iload_n K (D_at DX3_readCondition 28 rfl) rfl rfl ?_
    refine jr_if_eq K (D_at DX3_readCondition 29 rfl) (tgt := 65) (by decide) (fun c53 => ?_) (fun c53 => ?_)
    · replace hf := (if_pos c53).symm.trans hf
      refine jr_keep [true, true, true, false, true] ?_
      exact J_X3_readCondition_65 hD9 K n g0 hg0 g1 hg1 rc7 hr7 E a0 x1 q44.1 x4 q44.2 hf
    · replace hf := (if_neg c53).symm.trans hf
      refine jr_aload_n K (D_at DX3_readCondition 30 rfl) rfl rfl ?_
      obtain ⟨p57, e57, hf⟩ := jbind hf
      refine jr_getR K (D_at DX3_readCondition 31 rfl) fg_X3_11_3 e57 ?_
      refine jr_bipush K (D_at DX3_readCondition 32 rfl) (v := (13 : Int32)) (by decide) ?_
      obtain ⟨h62, e62, hf⟩ := jbind hf
      obtain ⟨rc_62, e62⟩ := jcv_o e62
      refine jr_callV K (jC_le (k := 0) (Nat.le_trans (by decide) hD9) (fun d => C_X2_addCode d e62)) (D_at DX3_readCondition 33 rfl) cv_X3_49_X2_addCode (As := [.int (13 : Int32)]) (ci := 2) rfl rc_62 rfl rfl (by exact Nat.le_of_ble_eq_true rfl) (kc2 := 0) (ks2 := 0) rfl rfl (fun k9 h9 w9 => by cases w9.1) (fun r9 h9 w9 => ?_)
      obtain ⟨w1, w2⟩ := w9
      subst h9
      cases w1
      show jJ G X _ 0 0 _ _ []
      refine jr_keep [true, true, true, false, true] ?_
      exact J_X3_readCondition_65 hD9 K n g0 hg0 g1 hg1 rc7 hr7 E a0 x1 q44.1 x4 h62 hf
set_option maxHeartbeats 400000 in
set_option maxRecDepth 100000 in
theorem J_X3_readCondition_7_b {G : jG} {l : Launch} {D9 : Nat} (hD9 : 3 ≤ D9) {X : jX} {res : (Int32 × jH)} (K : jOK G l mX3_readCondition (D9 + 1) X) (n : Nat) (g0 : Nat → Int32 → jH → Option (Int32 × jH)) (hg0 : ∀ (b0 : Nat) (b1 : Int32) (h : jH) (r : (Int32 × jH)), g0 b0 b1 h = some r → jC G l mX3_readCondition D9 0 0 [.ref b0, .int b1] h (jPW r)) (g1 : Nat → Int32 → jH → Option (Int32 × jH)) (hg1 : ∀ (b0 : Nat) (b1 : Int32) (h : jH) (r : (Int32 × jH)), g1 b0 b1 h = some r → jC G l mX3_readAtom D9 0 0 [.ref b0, .int b1] h (jPW r)) (rc7 : Nat → Int32 → Int32 → Int32 → Int32 → jH → Option (Int32 × jH)) (hr7 : ∀ (a0 : Nat) (x1 : Int32) (x2 : Int32) (x3 : Int32) (x4 : Int32) (h : jH), rc7 a0 x1 x2 x3 x4 h = some res → jJ G X h 0 0 7 [some (.ref a0), some (.int x1), some (.int x2), some (.int x3), some (.int x4)] []) (E : jEnd G mX3_readCondition (jPW res) X) (a0 : Nat) (x1 : Int32) (x2 : Int32) (x3 : Int32) (x4 : Int32) (h : jH) (hf : F_X3_readCondition_7_b n g0 g1 rc7 a0 x1 x2 x3 x4 h = some res) : jJ G X h 0 0 7 [some (.ref a0), some (.int x1), some (.int x2), some (.int x3), some (.int x4)] [] := by
  unfold F_X3_readCondition_7_b at hf
  refine jr_iload K (D_at DX3_readCondition 6 rfl) rfl ?_
  refine jr_sipush K (D_at DX3_readCondition 7 rfl) (v := (400 : Int32)) (by decide) ?_
  refine jr_icmp_ge K (D_at DX3_readCondition 8 rfl) (tgt := 87) (by decide) (fun c12 => ?_) (fun c12 => ?_)
  · replace hf := (if_pos c12).symm.trans hf
    refine jr_iconst K (D_at DX3_readCondition 45 rfl) (v := (0 : Int32)) (by decide) ?_
    cases hf
    exact jr_zret K E (D_at DX3_readCondition 46 rfl) rfl (Or.inl rfl) ⟨rfl, rfl⟩
  · replace hf := (if_neg c12).symm.trans hf
    refine jr_aload_n K (D_at DX3_readCondition 9 rfl) rfl rfl ?_
    refine jr_iload_n K (D_at DX3_readCondition 10 rfl) rfl rfl ?_
    obtain ⟨q17, e17, hf⟩ := jbind hf
    obtain ⟨rc_17, e17⟩ := jcv_o e17
    refine jr_callV K (hg1 a0 x1 h _ e17) (D_at DX3_readCondition 11 rfl) cv_X3_46_X3_readAtom (As := [.int x1]) (ci := 3) rfl rc_17 rfl rfl (by exact Nat.le_of_ble_eq_true rfl) (kc2 := 0) (ks2 := 0) rfl rfl (fun k9 h9 w9 => by cases w9.1) (fun r9 h9 w9 => ?_)
    obtain ⟨w1, w2⟩ := w9
    subst h9
    cases w1
    show jJ G X _ 0 0 _ _ (.int q17.1 :: _)
    refine jr_if_ne K (D_at DX3_readCondition 12 rfl) (tgt := 25) (by decide) (fun c20 => ?_) (fun c20 => ?_)
    · replace hf := (if_neg c20).symm.trans hf
      refine jr_iload_n K (D_at DX3_readCondition 15 rfl) rfl rfl ?_
      refine jr_if_eq K (D_at DX3_readCondition 16 rfl) (tgt := 38) (by decide) (fun c26 => ?_) (fun c26 => ?_)
      · replace hf := (if_pos c26).symm.trans hf
        refine jr_keep [true, true, false, true, true] ?_
        exact J_X3_readCondition_38 hD9 K n g0 hg0 g1 hg1 rc7 hr7 E a0 x1 x3 x4 q17.2 hf
      · replace hf := (if_neg c26).symm.trans hf
        refine jr_aload_n K (D_at DX3_readCondition 17 rfl) rfl rfl ?_
        obtain ⟨p30, e30, hf⟩ := jbind hf
        refine jr_getR K (D_at DX3_readCondition 18 rfl) fg_X3_11_3 e30 ?_
        refine jr_bipush K (D_at DX3_readCondition 19 rfl) (v := (12 : Int32)) (by decide) ?_
        obtain ⟨h35, e35, hf⟩ := jbind hf
        obtain ⟨rc_35, e35⟩ := jcv_o e35
        refine jr_callV K (jC_le (k := 0) (Nat.le_trans (by decide) hD9) (fun d => C_X2_addCode d e35)) (D_at DX3_readCondition 20 rfl) cv_X3_49_X2_addCode (As := [.int (12 : Int32)]) (ci := 2) rfl rc_35 rfl rfl (by exact Nat.le_of_ble_eq_true rfl) (kc2 := 0) (ks2 := 0) rfl rfl (fun k9 h9 w9 => by cases w9.1) (fun r9 h9 w9 => ?_)
        obtain ⟨w1, w2⟩ := w9
        subst h9
        cases w1
        show jJ G X _ 0 0 _ _ []
        refine jr_keep [true, true, false, true, true] ?_
        exact J_X3_readCondition_38 hD9 K n g0 hg0 g1 hg1 rc7 hr7 E a0 x1 x3 x4 h35 hf
    · replace hf := (if_pos c20).symm.trans hf
      refine jr_iconst K (D_at DX3_readCondition 13 rfl) (v := (0 : Int32)) (by decide) ?_
      cases hf
      exact jr_zret K E (D_at DX3_readCondition 14 rfl) rfl (Or.inl rfl) ⟨rfl, rfl⟩
theorem J_X3_readCondition_7 {G : jG} {l : Launch} {D9 : Nat} (hD9 : 3 ≤ D9) {X : jX} {res : (Int32 × jH)} (K : jOK G l mX3_readCondition (D9 + 1) X) (n : Nat) (g0 : Nat → Int32 → jH → Option (Int32 × jH)) (hg0 : ∀ (b0 : Nat) (b1 : Int32) (h : jH) (r : (Int32 × jH)), g0 b0 b1 h = some r → jC G l mX3_readCondition D9 0 0 [.ref b0, .int b1] h (jPW r)) (g1 : Nat → Int32 → jH → Option (Int32 × jH)) (hg1 : ∀ (b0 : Nat) (b1 : Int32) (h : jH) (r : (Int32 × jH)), g1 b0 b1 h = some r → jC G l mX3_readAtom D9 0 0 [.ref b0, .int b1] h (jPW r)) (E : jEnd G mX3_readCondition (jPW res) X) (k : Nat) : ∀ (a0 : Nat) (x1 : Int32) (x2 : Int32) (x3 : Int32) (x4 : Int32) (h : jH), F_X3_readCondition_7 n g0 g1 k a0 x1 x2 x3 x4 h = some res → jJ G X h 0 0 7 [some (.ref a0), some (.int x1), some (.int x2), some (.int x3), some (.int x4)] [] := by
  induction k with
  | zero =>
    intro a0 x1 x2 x3 x4 h hf
    exact jno (show (none : Option (Int32 × jH)) = some res from hf)
  | succ k ih =>
    intro a0 x1 x2 x3 x4 h hf
    exact J_X3_readCondition_7_b hD9 K n g0 hg0 g1 hg1 (F_X3_readCondition_7 n g0 g1 k) ih E a0 x1 x2 x3 x4 h hf
set_option maxHeartbeats 400000 in
set_option maxRecDepth 100000 in
theorem J_X3_readCondition {G : jG} {l : Launch} {D9 : Nat} (hD9 : 3 ≤ D9) {X : jX} {res : (Int32 × jH)} (K : jOK G l mX3_readCondition (D9 + 1) X) (n : Nat) (g0 : Nat → Int32 → jH → Option (Int32 × jH)) (hg0 : ∀ (b0 : Nat) (b1 : Int32) (h : jH) (r : (Int32 × jH)), g0 b0 b1 h = some r → jC G l mX3_readCondition D9 0 0 [.ref b0, .int b1] h (jPW r)) (g1 : Nat → Int32 → jH → Option (Int32 × jH)) (hg1 : ∀ (b0 : Nat) (b1 : Int32) (h : jH) (r : (Int32 × jH)), g1 b0 b1 h = some r → jC G l mX3_readAtom D9 0 0 [.ref b0, .int b1] h (jPW r)) (E : jEnd G mX3_readCondition (jPW res) X) (a0 : Nat) (x1 : Int32) (h : jH) (hf : F_X3_readCondition n g0 g1 a0 x1 h = some res) : jJ G X h 0 0 0 [some (.ref a0), some (.int x1), none, none, none] [] := by
  unfold F_X3_readCondition at hf
  refine jr_iconst K (D_at DX3_readCondition 0 rfl) (v := (0 : Int32)) (by decide) ?_
  refine jr_istore_n K (D_at DX3_readCondition 1 rfl) (i := 2) rfl (by decide) (L2 := [_, _, _, _, _]) rfl ?_
  refine jr_iconst K (D_at DX3_readCondition 2 rfl) (v := (0 : Int32)) (by decide) ?_
  refine jr_istore_n K (D_at DX3_readCondition 3 rfl) (i := 3) rfl (by decide) (L2 := [_, _, _, _, _]) rfl ?_
  refine jr_iconst K (D_at DX3_readCondition 4 rfl) (v := (0 : Int32)) (by decide) ?_
  refine jr_istore K (D_at DX3_readCondition 5 rfl) (i := 4) (by decide) (L2 := [_, _, _, _, _]) rfl ?_
  refine jr_keep [true, true, true, true, true] ?_
  exact J_X3_readCondition_7 hD9 K n g0 hg0 g1 hg1 E n a0 x1 (0 : Int32) (0 : Int32) (0 : Int32) h hf
theorem C_X3_readCondition {G : jG} {l : Launch} {D9 n : Nat} (hD9 : 3 ≤ D9) {g0 : Nat → Int32 → jH → Option (Int32 × jH)} (hg0 : ∀ (b0 : Nat) (b1 : Int32) (h : jH) (r : (Int32 × jH)), g0 b0 b1 h = some r → jC G l mX3_readCondition D9 0 0 [.ref b0, .int b1] h (jPW r)) {g1 : Nat → Int32 → jH → Option (Int32 × jH)} (hg1 : ∀ (b0 : Nat) (b1 : Int32) (h : jH) (r : (Int32 × jH)), g1 b0 b1 h = some r → jC G l mX3_readAtom D9 0 0 [.ref b0, .int b1] h (jPW r)) {a0 : Nat} {x1 : Int32} {h : jH} {res : (Int32 × jH)} (hf : F_X3_readCondition n g0 g1 a0 x1 h = some res) : jC G l mX3_readCondition (D9 + 1) 0 0 [.ref a0, .int x1] h (jPW res) :=
  jC.of (by decide +kernel) (jcats rfl) (Nat.le_of_ble_eq_true rfl) (fun X K E => J_X3_readCondition hD9 K n g0 hg0 g1 hg1 E a0 x1 h hf)
set_option maxHeartbeats 400000 in
set_option maxRecDepth 100000 in
theorem J_X3_readAtom_128 {G : jG} {l : Launch} {D9 : Nat} (hD9 : 3 ≤ D9) {X : jX} {res : (Int32 × jH)} (K : jOK G l mX3_readAtom (D9 + 1) X) (n : Nat) (g0 : Nat → Int32 → jH → Option (Int32 × jH)) (hg0 : ∀ (b0 : Nat) (b1 : Int32) (h : jH) (r : (Int32 × jH)), g0 b0 b1 h = some r → jC G l mX3_readCondition D9 0 0 [.ref b0, .int b1] h (jPW r)) (g1 : Nat → Int32 → jH → Option (Int32 × jH)) (hg1 : ∀ (b0 : Nat) (b1 : Int32) (h : jH) (r : (Int32 × jH)), g1 b0 b1 h = some r → jC G l mX3_readAtom D9 0 0 [.ref b0, .int b1] h (jPW r)) (E : jEnd G mX3_readAtom (jPW res) X) (a0 : Nat) (h : jH) (hf : F_X3_readAtom_128 n g0 g1 a0 h = some res) : jJ G X h 0 0 128 [some (.ref a0), none, none, none] [] := by
  unfold F_X3_readAtom_128 at hf
  refine jr_aload_n K (D_at DX3_readAtom_1 3 rfl) rfl rfl ?_
  obtain ⟨q129, e129, hf⟩ := jbind hf
  obtain ⟨rc_129, e129⟩ := jcv_o e129
  refine jr_callV K (jC_le (k := 2) (Nat.le_trans (by decide) hD9) (fun d => C_X3_readComparison d e129)) (D_at DX3_readAtom_1 4 rfl) cv_X3_53_X3_readComparison (As := []) (ci := 3) rfl rc_129 rfl rfl (by exact Nat.le_of_ble_eq_true rfl) (kc2 := 0) (ks2 := 0) rfl rfl (fun k9 h9 w9 => by cases w9.1) (fun r9 h9 w9 => ?_)
  obtain ⟨w1, w2⟩ := w9
  subst h9
  cases w1
  show jJ G X _ 0 0 _ _ (.int q129.1 :: _)
  by_cases z9 : q129.1 = 0 ∨ q129.1 = 1
  · replace hf := (if_pos z9).symm.trans hf
    cases hf
    exact jr_zret K E (D_at DX3_readAtom_1 5 rfl) rfl z9 ⟨rfl, rfl⟩
  · exact jno (show (none : Option (Int32 × jH)) = some res from (if_neg z9).symm.trans hf)
set_option maxHeartbeats 400000 in
set_option maxRecDepth 100000 in
theorem J_X3_readAtom_28 {G : jG} {l : Launch} {D9 : Nat} (hD9 : 3 ≤ D9) {X : jX} {res : (Int32 × jH)} (K : jOK G l mX3_readAtom (D9 + 1) X) (n : Nat) (g0 : Nat → Int32 → jH → Option (Int32 × jH)) (hg0 : ∀ (b0 : Nat) (b1 : Int32) (h : jH) (r : (Int32 × jH)), g0 b0 b1 h = some r → jC G l mX3_readCondition D9 0 0 [.ref b0, .int b1] h (jPW r)) (g1 : Nat → Int32 → jH → Option (Int32 × jH)) (hg1 : ∀ (b0 : Nat) (b1 : Int32) (h : jH) (r : (Int32 × jH)), g1 b0 b1 h = some r → jC G l mX3_readAtom D9 0 0 [.ref b0, .int b1] h (jPW r)) (E : jEnd G mX3_readAtom (jPW res) X) (a0 : Nat) (x1 : Int32) (x2 : Int32) (h : jH) (hf : F_X3_readAtom_28 n g0 g1 a0 x1 x2 h = some res) : jJ G X h 0 0 28 [some (.ref a0), some (.int x1), some (.int x2), none] [] := by
  unfold F_X3_readAtom_28 at hf
  refine jr_aload_n K (D_at DX3_readAtom 15 rfl) rfl rfl ?_
  obtain ⟨p29, e29, hf⟩ := jbind hf
  refine jr_getR K (D_at DX3_readAtom 16 rfl) fg_X3_17_3 e29 ?_
  refine jr_bipush K (D_at DX3_readAtom 17 rfl) (v := (11 : Int32)) (by decide) ?_
  obtain ⟨q34, e34, hf⟩ := jbind hf
  obtain ⟨rc_34, e34⟩ := jcv_o e34
  refine jr_callV K (jC_le (k := 0) (Nat.le_trans (by decide) hD9) (fun d => C_X10_take d e34)) (D_at DX3_readAtom 18 rfl) cv_X3_39_X10_take (As := [.int (11 : Int32)]) (ci := 8) rfl rc_34 rfl rfl (by exact Nat.le_of_ble_eq_true rfl) (kc2 := 0) (ks2 := 0) rfl rfl (fun k9 h9 w9 => by cases w9.1) (fun r9 h9 w9 => ?_)
  obtain ⟨w1, w2⟩ := w9
  subst h9
  cases w1
  show jJ G X _ 0 0 _ _ (.int q34.1 :: _)
  refine jr_if_eq K (D_at DX3_readAtom 19 rfl) (tgt := 59) (by decide) (fun c37 => ?_) (fun c37 => ?_)
  · replace hf := (if_pos c37).symm.trans hf
    refine jr_aload_n K (D_at DX3_readAtom 32 rfl) rfl rfl ?_
    obtain ⟨p60, e60, hf⟩ := jbind hf
    refine jr_getR K (D_at DX3_readAtom 33 rfl) fg_X3_17_3 e60 ?_
    refine jr_bipush K (D_at DX3_readAtom 34 rfl) (v := (40 : Int32)) (by decide) ?_
    obtain ⟨q65, e65, hf⟩ := jbind hf
    obtain ⟨rc_65, e65⟩ := jcv_o e65
    refine jr_callV K (jC_le (k := 0) (Nat.le_trans (by decide) hD9) (fun d => C_X10_take d e65)) (D_at DX3_readAtom 35 rfl) cv_X3_39_X10_take (As := [.int (40 : Int32)]) (ci := 8) rfl rc_65 rfl rfl (by exact Nat.le_of_ble_eq_true rfl) (kc2 := 0) (ks2 := 0) rfl rfl (fun k9 h9 w9 => by cases w9.1) (fun r9 h9 w9 => ?_)
    obtain ⟨w1, w2⟩ := w9
    subst h9
    cases w1
    show jJ G X _ 0 0 _ _ (.int q65.1 :: _)
    refine jr_if_eq K (D_at DX3_readAtom 36 rfl) (tgt := 99) (by decide) (fun c68 => ?_) (fun c68 => ?_)
    · replace hf := (if_pos c68).symm.trans hf
      refine jr_iload_n K (D_at DX3_readAtom 52 rfl) rfl rfl ?_
      refine jr_bipush K (D_at DX3_readAtom 53 rfl) (v := (7 : Int32)) (by decide) ?_
      refine jr_icmp_lt K (D_at DX3_readAtom 54 rfl) (tgt := 128) (by decide) (fun c102 => ?_) (fun c102 => ?_)
      · replace hf := (if_pos c102).symm.trans hf
        refine jr_keep [true, false, false, false] ?_
        exact J_X3_readAtom_128 hD9 K n g0 hg0 g1 hg1 E a0 q65.2 hf
      · replace hf := (if_neg c102).symm.trans hf
        refine jr_iload_n K (D_at DX3_readAtom 55 rfl) rfl rfl ?_
        refine jr_bipush K (D_at DX3_readAtom 56 rfl) (v := (10 : Int32)) (by decide) ?_
        refine jr_icmp_gt K (D_at DX3_readAtom 57 rfl) (tgt := 128) (by decide) (fun c108 => ?_) (fun c108 => ?_)
        · replace hf := (if_pos c108).symm.trans hf
          refine jr_keep [true, false, false, false] ?_
          exact J_X3_readAtom_128 hD9 K n g0 hg0 g1 hg1 E a0 q65.2 hf
        · replace hf := (if_neg c108).symm.trans hf
          refine jr_aload_n K (D_at DX3_readAtom 58 rfl) rfl rfl ?_
          obtain ⟨p112, e112, hf⟩ := jbind hf
          refine jr_getR K (D_at DX3_readAtom 59 rfl) fg_X3_17_3 e112 ?_
          obtain ⟨h115, e115, hf⟩ := jbind hf
          obtain ⟨rc_115, e115⟩ := jcv_o e115
          refine jr_callV K (jC_le (k := 0) (Nat.le_trans (by decide) hD9) (fun d => C_X10_skip d e115)) (D_at DX3_readAtom 60 rfl) cv_X3_27_X10_skip (As := []) (ci := 8) rfl rc_115 rfl rfl (by exact Nat.le_of_ble_eq_true rfl) (kc2 := 0) (ks2 := 0) rfl rfl (fun k9 h9 w9 => by cases w9.1) (fun r9 h9 w9 => ?_)
          obtain ⟨w1, w2⟩ := w9
          subst h9
          cases w1
          show jJ G X _ 0 0 _ _ []
          refine jr_aload_n K (D_at DX3_readAtom 61 rfl) rfl rfl ?_
          obtain ⟨p119, e119, hf⟩ := jbind hf
          refine jr_getR K (D_at DX3_readAtom 62 rfl) fg_X3_11_3 e119 ?_
          refine jr_iload_n K (D_at DX3_readAtom 63 rfl) rfl rfl ?_
          obtain ⟨h123, e123, hf⟩ := jbind hf
          obtain ⟨rc_123, e123⟩ := jcv_o e123
          refine jr_callV K (jC_le (k := 0) (Nat.le_trans (by decide) hD9) (fun d => C_X2_addCode d e123)) (D_at DX3_readAtom_1 0 rfl) cv_X3_49_X2_addCode (As := [.int x2]) (ci := 2) rfl rc_123 rfl rfl (by exact Nat.le_of_ble_eq_true rfl) (kc2 := 0) (ks2 := 0) rfl rfl (fun k9 h9 w9 => by cases w9.1) (fun r9 h9 w9 => ?_)
          obtain ⟨w1, w2⟩ := w9
          subst h9
          cases w1
          show jJ G X _ 0 0 _ _ []
          refine jr_iconst K (D_at DX3_readAtom_1 1 rfl) (v := (1 : Int32)) (by decide) ?_
          cases hf
          exact jr_zret K E (D_at DX3_readAtom_1 2 rfl) rfl (Or.inr rfl) ⟨rfl, rfl⟩
    · replace hf := (if_neg c68).symm.trans hf
      refine jr_aload_n K (D_at DX3_readAtom 37 rfl) rfl rfl ?_
      refine jr_iload_n K (D_at DX3_readAtom 38 rfl) rfl rfl ?_
      refine jr_iconst K (D_at DX3_readAtom 39 rfl) (v := (1 : Int32)) (by decide) ?_
      refine jr_iadd K (D_at DX3_readAtom 40 rfl) ?_
      obtain ⟨q75, e75, hf⟩ := jbind hf
      obtain ⟨rc_75, e75⟩ := jcv_o e75
      refine jr_callV K (hg0 a0 (x1 + (1 : Int32)) q65.2 _ e75) (D_at DX3_readAtom 41 rfl) cv_X3_43_X3_readCondition (As := [.int (x1 + (1 : Int32))]) (ci := 3) rfl rc_75 rfl rfl (by exact Nat.le_of_ble_eq_true rfl) (kc2 := 0) (ks2 := 0) rfl rfl (fun k9 h9 w9 => by cases w9.1) (fun r9 h9 w9 => ?_)
      obtain ⟨w1, w2⟩ := w9
      subst h9
      cases w1
      show jJ G X _ 0 0 _ _ (.int q75.1 :: _)
      refine jr_if_eq K (D_at DX3_readAtom 42 rfl) (tgt := 97) (by decide) (fun c78 => ?_) (fun c78 => ?_)
      · replace hf := (if_pos c78).symm.trans hf
        refine jr_iconst K (D_at DX3_readAtom 50 rfl) (v := (0 : Int32)) (by decide) ?_
        cases hf
        exact jr_zret K E (D_at DX3_readAtom 51 rfl) rfl (Or.inl rfl) ⟨rfl, rfl⟩
      · replace hf := (if_neg c78).symm.trans hf
        refine jr_aload_n K (D_at DX3_readAtom 43 rfl) rfl rfl ?_
        obtain ⟨p82, e82, hf⟩ := jbind hf
        refine jr_getR K (D_at DX3_readAtom 44 rfl) fg_X3_17_3 e82 ?_
        refine jr_bipush K (D_at DX3_readAtom 45 rfl) (v := (41 : Int32)) (by decide) ?_
        obtain ⟨q87, e87, hf⟩ := jbind hf
        obtain ⟨rc_87, e87⟩ := jcv_o e87
        refine jr_callV K (jC_le (k := 0) (Nat.le_trans (by decide) hD9) (fun d => C_X10_take d e87)) (D_at DX3_readAtom 46 rfl) cv_X3_39_X10_take (As := [.int (41 : Int32)]) (ci := 8) rfl rc_87 rfl rfl (by exact Nat.le_of_ble_eq_true rfl) (kc2 := 0) (ks2 := 0) rfl rfl (fun k9 h9 w9 => by cases w9.1) (fun r9 h9 w9 => ?_)
        obtain ⟨w1, w2⟩ := w9
        subst h9
        cases w1
        show jJ G X _ 0 0 _ _ (.int q87.1 :: _)
        refine jr_if_eq K (D_at DX3_readAtom 47 rfl) (tgt := 97) (by decide) (fun c90 => ?_) (fun c90 => ?_)
        · replace hf := (if_pos c90).symm.trans hf
          refine jr_iconst K (D_at DX3_readAtom 50 rfl) (v := (0 : Int32)) (by decide) ?_
          cases hf
          exact jr_zret K E (D_at DX3_readAtom 51 rfl) rfl (Or.inl rfl) ⟨rfl, rfl⟩
        · replace hf := (if_neg c90).symm.trans hf
          refine jr_iconst K (D_at DX3_readAtom 48 rfl) (v := (1 : Int32)) (by decide) ?_
          refine jr_goto K (D_at DX3_readAtom 49 rfl) (tgt := 98) (by decide) ?_
          cases hf
          exact jr_zret K E (D_at DX3_readAtom 51 rfl) rfl (Or.inr rfl) ⟨rfl, rfl⟩
  · replace hf := (if_neg c37).symm.trans hf
    refine jr_aload_n K (D_at DX3_readAtom 20 rfl) rfl rfl ?_
    refine jr_iload_n K (D_at DX3_readAtom 21 rfl) rfl rfl ?_
    refine jr_iconst K (D_at DX3_readAtom 22 rfl) (v := (1 : Int32)) (by decide) ?_
    refine jr_iadd K (D_at DX3_readAtom 23 rfl) ?_
    obtain ⟨q44, e44, hf⟩ := jbind hf
    obtain ⟨rc_44, e44⟩ := jcv_o e44
    refine jr_callV K (hg1 a0 (x1 + (1 : Int32)) q34.2 _ e44) (D_at DX3_readAtom 24 rfl) cv_X3_46_X3_readAtom (As := [.int (x1 + (1 : Int32))]) (ci := 3) rfl rc_44 rfl rfl (by exact Nat.le_of_ble_eq_true rfl) (kc2 := 0) (ks2 := 0) rfl rfl (fun k9 h9 w9 => by cases w9.1) (fun r9 h9 w9 => ?_)
    obtain ⟨w1, w2⟩ := w9
    subst h9
    cases w1
    show jJ G X _ 0 0 _ _ (.int q44.1 :: _)
    refine jr_istore_n K (D_at DX3_readAtom 25 rfl) (i := 3) rfl (by decide) (L2 := [_, _, _, _]) rfl ?_
    refine jr_aload_n K (D_at DX3_readAtom 26 rfl) rfl rfl ?_
    obtain ⟨p49, e49, hf⟩ := jbind hf
    refine jr_getR K (D_at DX3_readAtom 27 rfl) fg_X3_11_3 e49 ?_
    refine jr_bipush K (D_at DX3_readAtom 28 rfl) (v := (11 : Int32)) (by decide) ?_
    obtain ⟨h54, e54, hf⟩ := jbind hf
    obtain ⟨rc_54, e54⟩ := jcv_o e54
    refine jr_callV K (jC_le (k := 0) (Nat.le_trans (by decide) hD9) (fun d => C_X2_addCode d e54)) (D_at DX3_readAtom 29 rfl) cv_X3_49_X2_addCode (As := [.int (11 : Int32)]) (ci := 2) rfl rc_54 rfl rfl (by exact Nat.le_of_ble_eq_true rfl) (kc2 := 0) (ks2 := 0) rfl rfl (fun k9 h9 w9 => by cases w9.1) (fun r9 h9 w9 => ?_)
    obtain ⟨w1, w2⟩ := w9
    subst h9
    cases w1
    show jJ G X _ 0 0 _ _ []
    refine jr_iload_n K (D_at DX3_readAtom 30 rfl) rfl rfl ?_
    by_cases z9 : q44.1 = 0 ∨ q44.1 = 1
    · replace hf := (if_pos z9).symm.trans hf
      cases hf
      exact jr_zret K E (D_at DX3_readAtom 31 rfl) rfl z9 ⟨rfl, rfl⟩
    · exact jno (show (none : Option (Int32 × jH)) = some res from (if_neg z9).symm.trans hf)
set_option maxHeartbeats 400000 in
set_option maxRecDepth 100000 in
theorem J_X3_readAtom_20 {G : jG} {l : Launch} {D9 : Nat} (hD9 : 3 ≤ D9) {X : jX} {res : (Int32 × jH)} (K : jOK G l mX3_readAtom (D9 + 1) X) (n : Nat) (g0 : Nat → Int32 → jH → Option (Int32 × jH)) (hg0 : ∀ (b0 : Nat) (b1 : Int32) (h : jH) (r : (Int32 × jH)), g0 b0 b1 h = some r → jC G l mX3_readCondition D9 0 0 [.ref b0, .int b1] h (jPW r)) (g1 : Nat → Int32 → jH → Option (Int32 × jH)) (hg1 : ∀ (b0 : Nat) (b1 : Int32) (h : jH) (r : (Int32 × jH)), g1 b0 b1 h = some r → jC G l mX3_readAtom D9 0 0 [.ref b0, .int b1] h (jPW r)) (E : jEnd G mX3_readAtom (jPW res) X) (a0 : Nat) (x1 : Int32) (x2 : Int32) (h : jH) (hf : F_X3_readAtom_20 n g0 g1 a0 x1 x2 h = some res) : jJ G X h 0 0 20 [some (.ref a0), some (.int x1), some (.int x2), none] [] := by
  unfold F_X3_readAtom_20 at hf
  refine jr_iload_n K (D_at DX3_readAtom 10 rfl) rfl rfl ?_
  refine jr_bipush K (D_at DX3_readAtom 11 rfl) (v := (6 : Int32)) (by decide) ?_
  refine jr_icmp_lt K (D_at DX3_readAtom 12 rfl) (tgt := 28) (by decide) (fun c23 => ?_) (fun c23 => ?_)
  · replace hf := (if_pos c23).symm.trans hf
    refine jr_keep [true, true, true, false] ?_
    exact J_X3_readAtom_28 hD9 K n g0 hg0 g1 hg1 E a0 x1 x2 h hf
  · replace hf := (if_neg c23).symm.trans hf
    refine jr_iconst K (D_at DX3_readAtom 13 rfl) (v := (0 : Int32)) (by decide) ?_
    cases hf
    exact jr_zret K E (D_at DX3_readAtom 14 rfl) rfl (Or.inl rfl) ⟨rfl, rfl⟩
set_option maxHeartbeats 400000 in
set_option maxRecDepth 100000 in
theorem J_X3_readAtom {G : jG} {l : Launch} {D9 : Nat} (hD9 : 3 ≤ D9) {X : jX} {res : (Int32 × jH)} (K : jOK G l mX3_readAtom (D9 + 1) X) (n : Nat) (g0 : Nat → Int32 → jH → Option (Int32 × jH)) (hg0 : ∀ (b0 : Nat) (b1 : Int32) (h : jH) (r : (Int32 × jH)), g0 b0 b1 h = some r → jC G l mX3_readCondition D9 0 0 [.ref b0, .int b1] h (jPW r)) (g1 : Nat → Int32 → jH → Option (Int32 × jH)) (hg1 : ∀ (b0 : Nat) (b1 : Int32) (h : jH) (r : (Int32 × jH)), g1 b0 b1 h = some r → jC G l mX3_readAtom D9 0 0 [.ref b0, .int b1] h (jPW r)) (E : jEnd G mX3_readAtom (jPW res) X) (a0 : Nat) (x1 : Int32) (h : jH) (hf : F_X3_readAtom n g0 g1 a0 x1 h = some res) : jJ G X h 0 0 0 [some (.ref a0), some (.int x1), none, none] [] := by
  unfold F_X3_readAtom at hf
  refine jr_aload_n K (D_at DX3_readAtom 0 rfl) rfl rfl ?_
  obtain ⟨p1, e1, hf⟩ := jbind hf
  refine jr_getR K (D_at DX3_readAtom 1 rfl) fg_X3_17_3 e1 ?_
  obtain ⟨v4, e4, hf⟩ := jbind hf
  obtain ⟨rc_4, e4⟩ := jcv_o e4
  refine jr_callV K (jC_le (k := 0) (Nat.le_trans (by decide) hD9) (fun d => C_X10_kind d e4)) (D_at DX3_readAtom 2 rfl) cv_X3_21_X10_kind (As := []) (ci := 8) rfl rc_4 rfl rfl (by exact Nat.le_of_ble_eq_true rfl) (kc2 := 0) (ks2 := 0) rfl rfl (fun k9 h9 w9 => by cases w9.1) (fun r9 h9 w9 => ?_)
  obtain ⟨w1, w2⟩ := w9
  subst h9
  cases w1
  show jJ G X _ 0 0 _ _ (.int v4 :: _)
  refine jr_istore_n K (D_at DX3_readAtom 3 rfl) (i := 2) rfl (by decide) (L2 := [_, _, _, _]) rfl ?_
  refine jr_iload_n K (D_at DX3_readAtom 4 rfl) rfl rfl ?_
  refine jr_bipush K (D_at DX3_readAtom 5 rfl) (v := (11 : Int32)) (by decide) ?_
  refine jr_icmp_eq K (D_at DX3_readAtom 6 rfl) (tgt := 20) (by decide) (fun c11 => ?_) (fun c11 => ?_)
  · replace hf := (if_pos c11).symm.trans hf
    refine jr_keep [true, true, true, false] ?_
    exact J_X3_readAtom_20 hD9 K n g0 hg0 g1 hg1 E a0 x1 v4 h hf
  · replace hf := (if_neg c11).symm.trans hf
    refine jr_iload_n K (D_at DX3_readAtom 7 rfl) rfl rfl ?_
    refine jr_bipush K (D_at DX3_readAtom 8 rfl) (v := (40 : Int32)) (by decide) ?_
    refine jr_icmp_ne K (D_at DX3_readAtom 9 rfl) (tgt := 28) (by decide) (fun c17 => ?_) (fun c17 => ?_)
    · replace hf := (if_neg c17).symm.trans hf
      refine jr_keep [true, true, true, false] ?_
      exact J_X3_readAtom_28 hD9 K n g0 hg0 g1 hg1 E a0 x1 v4 h hf
    · replace hf := (if_pos c17).symm.trans hf
      refine jr_keep [true, true, true, false] ?_
      exact J_X3_readAtom_20 hD9 K n g0 hg0 g1 hg1 E a0 x1 v4 h hf
theorem C_X3_readAtom {G : jG} {l : Launch} {D9 n : Nat} (hD9 : 3 ≤ D9) {g0 : Nat → Int32 → jH → Option (Int32 × jH)} (hg0 : ∀ (b0 : Nat) (b1 : Int32) (h : jH) (r : (Int32 × jH)), g0 b0 b1 h = some r → jC G l mX3_readCondition D9 0 0 [.ref b0, .int b1] h (jPW r)) {g1 : Nat → Int32 → jH → Option (Int32 × jH)} (hg1 : ∀ (b0 : Nat) (b1 : Int32) (h : jH) (r : (Int32 × jH)), g1 b0 b1 h = some r → jC G l mX3_readAtom D9 0 0 [.ref b0, .int b1] h (jPW r)) {a0 : Nat} {x1 : Int32} {h : jH} {res : (Int32 × jH)} (hf : F_X3_readAtom n g0 g1 a0 x1 h = some res) : jC G l mX3_readAtom (D9 + 1) 0 0 [.ref a0, .int x1] h (jPW res) :=
  jC.of (by decide +kernel) (jcats rfl) (Nat.le_of_ble_eq_true rfl) (fun X K E => J_X3_readAtom hD9 K n g0 hg0 g1 hg1 E a0 x1 h hf)
theorem CG_RC {G : jG} {l : Launch} {n : Nat} {D : Nat} (hD : 3 ≤ D) (i : Nat) : (∀ (b0 : Nat) (b1 : Int32) (h : jH) (r : (Int32 × jH)), FG_RC n i 0 b0 b1 h = some r → jC G l mX3_readCondition (D + i) 0 0 [.ref b0, .int b1] h (jPW r)) ∧ (∀ (b0 : Nat) (b1 : Int32) (h : jH) (r : (Int32 × jH)), FG_RC n i 1 b0 b1 h = some r → jC G l mX3_readAtom (D + i) 0 0 [.ref b0, .int b1] h (jPW r)) := by
  induction i with
  | zero =>
    refine ⟨?_, ?_⟩ <;> intro b0 b1 h r hf <;> exact jno (show (none : Option (Int32 × jH)) = some r from hf)
  | succ i ih =>
    obtain ⟨ih0, ih1⟩ := ih
    refine ⟨?_, ?_⟩
    · intro b0 b1 h r hf
      exact C_X3_readCondition (D9 := D + i) (by omega) ih0 ih1 hf
    · intro b0 b1 h r hf
      exact C_X3_readAtom (D9 := D + i) (by omega) ih0 ih1 hf
theorem CG_RC_0 {G : jG} {l : Launch} {n : Nat} (d i : Nat) {b0 : Nat} {b1 : Int32} {h : jH} {r : (Int32 × jH)} (hf : FG_RC n i 0 b0 b1 h = some r) : jC G l mX3_readCondition (d + (3 + i)) 0 0 [.ref b0, .int b1] h (jPW r) := by
  have := (CG_RC (G := G) (l := l) (n := n) (D := d + 3) (Nat.le_add_left _ _) i).1 b0 b1 h r hf
  rwa [Nat.add_assoc] at this
theorem CG_RC_1 {G : jG} {l : Launch} {n : Nat} (d i : Nat) {b0 : Nat} {b1 : Int32} {h : jH} {r : (Int32 × jH)} (hf : FG_RC n i 1 b0 b1 h = some r) : jC G l mX3_readAtom (d + (3 + i)) 0 0 [.ref b0, .int b1] h (jPW r) := by
  have := (CG_RC (G := G) (l := l) (n := n) (D := d + 3) (Nat.le_add_left _ _) i).2 b0 b1 h r hf
  rwa [Nat.add_assoc] at this
set_option maxHeartbeats 400000 in
set_option maxRecDepth 100000 in
theorem J_X3_readLine_76 {G : jG} {l : Launch} {d : Nat} {X : jX} {res : (Int32 × jH)} (K : jOK G l mX3_readLine (d + 24) X) (n : Nat) (E : jEnd G mX3_readLine (jPW res) X) (a0 : Nat) (x2 : Int32) (sa0 : Nat) (s1 : Int32) (h : jH) (hf : F_X3_readLine_76 n a0 x2 sa0 s1 h = some res) : jJ G X h 0 0 76 [some (.ref a0), none, some (.int x2)] [.int s1, .ref sa0] := by
  unfold F_X3_readLine_76 at hf
  refine jr_iload_n K (D_at DX3_readLine 42 rfl) rfl rfl ?_
  obtain ⟨h77, e77, hf⟩ := jbind hf
  obtain ⟨rc_77, e77⟩ := jcv_o e77
  refine jr_callV K (C_X2_addLine (d + 23) e77) (D_at DX3_readLine 43 rfl) cv_X3_35_X2_addLine (As := [.int s1, .int x2]) (ci := 2) rfl rc_77 rfl rfl (by exact Nat.le_of_ble_eq_true rfl) (kc2 := 0) (ks2 := 0) rfl rfl (fun k9 h9 w9 => by cases w9.1) (fun r9 h9 w9 => ?_)
  obtain ⟨w1, w2⟩ := w9
  subst h9
  cases w1
  show jJ G X _ 0 0 _ _ []
  refine jr_aload_n K (D_at DX3_readLine 44 rfl) rfl rfl ?_
  obtain ⟨p81, e81, hf⟩ := jbind hf
  refine jr_getR K (D_at DX3_readLine 45 rfl) fg_X3_17_3 e81 ?_
  refine jr_bipush K (D_at DX3_readLine 46 rfl) (v := (14 : Int32)) (by decide) ?_
  obtain ⟨q86, e86, hf⟩ := jbind hf
  obtain ⟨rc_86, e86⟩ := jcv_o e86
  refine jr_callV K (C_X10_take (d + 23) e86) (D_at DX3_readLine 47 rfl) cv_X3_39_X10_take (As := [.int (14 : Int32)]) (ci := 8) rfl rc_86 rfl rfl (by exact Nat.le_of_ble_eq_true rfl) (kc2 := 0) (ks2 := 0) rfl rfl (fun k9 h9 w9 => by cases w9.1) (fun r9 h9 w9 => ?_)
  obtain ⟨w1, w2⟩ := w9
  subst h9
  cases w1
  show jJ G X _ 0 0 _ _ (.int q86.1 :: _)
  refine jr_if_eq K (D_at DX3_readLine 48 rfl) (tgt := 100) (by decide) (fun c89 => ?_) (fun c89 => ?_)
  · replace hf := (if_pos c89).symm.trans hf
    refine jr_iconst K (D_at DX3_readLine 53 rfl) (v := (1 : Int32)) (by decide) ?_
    refine jr_goto K (D_at DX3_readLine 54 rfl) (tgt := 105) (by decide) ?_
    cases hf
    exact jr_zret K E (D_at DX3_readLine 56 rfl) rfl (Or.inr rfl) ⟨rfl, rfl⟩
  · replace hf := (if_neg c89).symm.trans hf
    refine jr_aload_n K (D_at DX3_readLine 49 rfl) rfl rfl ?_
    refine jr_iconst K (D_at DX3_readLine 50 rfl) (v := (0 : Int32)) (by decide) ?_
    obtain ⟨q94, e94, hf⟩ := jbind hf
    obtain ⟨rc_94, e94⟩ := jcv_o e94
    refine jr_callV K (CG_RC_0 (d + 0) 20 e94) (D_at DX3_readLine 51 rfl) cv_X3_43_X3_readCondition (As := [.int (0 : Int32)]) (ci := 3) rfl rc_94 rfl rfl (by exact Nat.le_of_ble_eq_true rfl) (kc2 := 0) (ks2 := 0) rfl rfl (fun k9 h9 w9 => by cases w9.1) (fun r9 h9 w9 => ?_)
    obtain ⟨w1, w2⟩ := w9
    subst h9
    cases w1
    show jJ G X _ 0 0 _ _ (.int q94.1 :: _)
    refine jr_if_eq K (D_at DX3_readLine 52 rfl) (tgt := 104) (by decide) (fun c97 => ?_) (fun c97 => ?_)
    · replace hf := (if_pos c97).symm.trans hf
      refine jr_iconst K (D_at DX3_readLine 55 rfl) (v := (0 : Int32)) (by decide) ?_
      cases hf
      exact jr_zret K E (D_at DX3_readLine 56 rfl) rfl (Or.inl rfl) ⟨rfl, rfl⟩
    · replace hf := (if_neg c97).symm.trans hf
      refine jr_iconst K (D_at DX3_readLine 53 rfl) (v := (1 : Int32)) (by decide) ?_
      refine jr_goto K (D_at DX3_readLine 54 rfl) (tgt := 105) (by decide) ?_
      cases hf
      exact jr_zret K E (D_at DX3_readLine 56 rfl) rfl (Or.inr rfl) ⟨rfl, rfl⟩
set_option maxHeartbeats 400000 in
set_option maxRecDepth 100000 in
theorem J_X3_readLine_27 {G : jG} {l : Launch} {d : Nat} {X : jX} {res : (Int32 × jH)} (K : jOK G l mX3_readLine (d + 24) X) (n : Nat) (E : jEnd G mX3_readLine (jPW res) X) (a0 : Nat) (x1 : Int32) (h : jH) (hf : F_X3_readLine_27 n a0 x1 h = some res) : jJ G X h 0 0 27 [some (.ref a0), some (.int x1), none] [] := by
  unfold F_X3_readLine_27 at hf
  refine jr_aload_n K (D_at DX3_readLine 15 rfl) rfl rfl ?_
  obtain ⟨p28, e28, hf⟩ := jbind hf
  refine jr_getR K (D_at DX3_readLine 16 rfl) fg_X3_17_3 e28 ?_
  obtain ⟨h31, e31, hf⟩ := jbind hf
  obtain ⟨rc_31, e31⟩ := jcv_o e31
  refine jr_callV K (C_X10_skip (d + 23) e31) (D_at DX3_readLine 17 rfl) cv_X3_27_X10_skip (As := []) (ci := 8) rfl rc_31 rfl rfl (by exact Nat.le_of_ble_eq_true rfl) (kc2 := 0) (ks2 := 0) rfl rfl (fun k9 h9 w9 => by cases w9.1) (fun r9 h9 w9 => ?_)
  obtain ⟨w1, w2⟩ := w9
  subst h9
  cases w1
  show jJ G X _ 0 0 _ _ []
  refine jr_aload_n K (D_at DX3_readLine 18 rfl) rfl rfl ?_
  obtain ⟨p35, e35, hf⟩ := jbind hf
  refine jr_getR K (D_at DX3_readLine 19 rfl) fg_X3_17_3 e35 ?_
  refine jr_iconst K (D_at DX3_readLine 20 rfl) (v := (0 : Int32)) (by decide) ?_
  refine jr_bipush K (D_at DX3_readLine 21 rfl) (v := (100 : Int32)) (by decide) ?_
  obtain ⟨q41, e41, hf⟩ := jbind hf
  obtain ⟨rc_41, e41⟩ := jcv_o e41
  refine jr_callV K (C_X10_takeNumber (d + 23) e41) (D_at DX3_readLine 22 rfl) cv_X3_31_X10_takeNumber (As := [.int (0 : Int32), .int (100 : Int32)]) (ci := 8) rfl rc_41 rfl rfl (by exact Nat.le_of_ble_eq_true rfl) (kc2 := 0) (ks2 := 0) rfl rfl (fun k9 h9 w9 => by cases w9.1) (fun r9 h9 w9 => ?_)
  obtain ⟨w1, w2⟩ := w9
  subst h9
  cases w1
  show jJ G X _ 0 0 _ _ (.int q41.1 :: _)
  refine jr_istore_n K (D_at DX3_readLine 23 rfl) (i := 2) rfl (by decide) (L2 := [_, _, _]) rfl ?_
  refine jr_iload_n K (D_at DX3_readLine 24 rfl) rfl rfl ?_
  refine jr_iconst K (D_at DX3_readLine 25 rfl) (v := (-1 : Int32)) (by decide) ?_
  refine jr_icmp_ne K (D_at DX3_readLine 26 rfl) (tgt := 52) (by decide) (fun c47 => ?_) (fun c47 => ?_)
  · replace hf := (if_neg c47).symm.trans hf
    refine jr_aload_n K (D_at DX3_readLine 29 rfl) rfl rfl ?_
    obtain ⟨p53, e53, hf⟩ := jbind hf
    refine jr_getR K (D_at DX3_readLine 30 rfl) fg_X3_11_3 e53 ?_
    refine jr_iload_n K (D_at DX3_readLine 31 rfl) rfl rfl ?_
    refine jr_iconst K (D_at DX3_readLine 32 rfl) (v := (3 : Int32)) (by decide) ?_
    refine jr_icmp_ne K (D_at DX3_readLine 33 rfl) (tgt := 65) (by decide) (fun c58 => ?_) (fun c58 => ?_)
    · replace hf := (if_neg c58).symm.trans hf
      refine jr_iload_n K (D_at DX3_readLine 36 rfl) rfl rfl ?_
      refine jr_bipush K (D_at DX3_readLine 37 rfl) (v := (15 : Int32)) (by decide) ?_
      refine jr_icmp_ne K (D_at DX3_readLine 38 rfl) (tgt := 75) (by decide) (fun c68 => ?_) (fun c68 => ?_)
      · replace hf := (if_neg c68).symm.trans hf
        refine jr_iconst K (D_at DX3_readLine 41 rfl) (v := (2 : Int32)) (by decide) ?_
        refine jr_keep [true, false, true] ?_
        exact J_X3_readLine_76 K n E a0 q41.1 p53 (2 : Int32) q41.2 hf
      · replace hf := (if_pos c68).symm.trans hf
        refine jr_iconst K (D_at DX3_readLine 39 rfl) (v := (1 : Int32)) (by decide) ?_
        refine jr_goto K (D_at DX3_readLine 40 rfl) (tgt := 76) (by decide) ?_
        refine jr_keep [true, false, true] ?_
        exact J_X3_readLine_76 K n E a0 q41.1 p53 (1 : Int32) q41.2 hf
    · replace hf := (if_pos c58).symm.trans hf
      refine jr_iconst K (D_at DX3_readLine 34 rfl) (v := (0 : Int32)) (by decide) ?_
      refine jr_goto K (D_at DX3_readLine 35 rfl) (tgt := 76) (by decide) ?_
      refine jr_keep [true, false, true] ?_
      exact J_X3_readLine_76 K n E a0 q41.1 p53 (0 : Int32) q41.2 hf
  · replace hf := (if_pos c47).symm.trans hf
    refine jr_iconst K (D_at DX3_readLine 27 rfl) (v := (0 : Int32)) (by decide) ?_
    cases hf
    exact jr_zret K E (D_at DX3_readLine 28 rfl) rfl (Or.inl rfl) ⟨rfl, rfl⟩
set_option maxHeartbeats 400000 in
set_option maxRecDepth 100000 in
theorem J_X3_readLine {G : jG} {l : Launch} {d : Nat} {X : jX} {res : (Int32 × jH)} (K : jOK G l mX3_readLine (d + 24) X) (n : Nat) (E : jEnd G mX3_readLine (jPW res) X) (a0 : Nat) (h : jH) (hf : F_X3_readLine n a0 h = some res) : jJ G X h 0 0 0 [some (.ref a0), none, none] [] := by
  unfold F_X3_readLine at hf
  refine jr_aload_n K (D_at DX3_readLine 0 rfl) rfl rfl ?_
  obtain ⟨p1, e1, hf⟩ := jbind hf
  refine jr_getR K (D_at DX3_readLine 1 rfl) fg_X3_17_3 e1 ?_
  obtain ⟨v4, e4, hf⟩ := jbind hf
  obtain ⟨rc_4, e4⟩ := jcv_o e4
  refine jr_callV K (C_X10_kind (d + 23) e4) (D_at DX3_readLine 2 rfl) cv_X3_21_X10_kind (As := []) (ci := 8) rfl rc_4 rfl rfl (by exact Nat.le_of_ble_eq_true rfl) (kc2 := 0) (ks2 := 0) rfl rfl (fun k9 h9 w9 => by cases w9.1) (fun r9 h9 w9 => ?_)
  obtain ⟨w1, w2⟩ := w9
  subst h9
  cases w1
  show jJ G X _ 0 0 _ _ (.int v4 :: _)
  refine jr_istore_n K (D_at DX3_readLine 3 rfl) (i := 1) rfl (by decide) (L2 := [_, _, _]) rfl ?_
  refine jr_iload_n K (D_at DX3_readLine 4 rfl) rfl rfl ?_
  refine jr_iconst K (D_at DX3_readLine 5 rfl) (v := (3 : Int32)) (by decide) ?_
  refine jr_icmp_eq K (D_at DX3_readLine 6 rfl) (tgt := 27) (by decide) (fun c10 => ?_) (fun c10 => ?_)
  · replace hf := (if_pos c10).symm.trans hf
    refine jr_keep [true, true, false] ?_
    exact J_X3_readLine_27 K n E a0 v4 h hf
  · replace hf := (if_neg c10).symm.trans hf
    refine jr_iload_n K (D_at DX3_readLine 7 rfl) rfl rfl ?_
    refine jr_bipush K (D_at DX3_readLine 8 rfl) (v := (15 : Int32)) (by decide) ?_
    refine jr_icmp_eq K (D_at DX3_readLine 9 rfl) (tgt := 27) (by decide) (fun c16 => ?_) (fun c16 => ?_)
    · replace hf := (if_pos c16).symm.trans hf
      refine jr_keep [true, true, false] ?_
      exact J_X3_readLine_27 K n E a0 v4 h hf
    · replace hf := (if_neg c16).symm.trans hf
      refine jr_iload_n K (D_at DX3_readLine 10 rfl) rfl rfl ?_
      refine jr_bipush K (D_at DX3_readLine 11 rfl) (v := (16 : Int32)) (by decide) ?_
      refine jr_icmp_eq K (D_at DX3_readLine 12 rfl) (tgt := 27) (by decide) (fun c22 => ?_) (fun c22 => ?_)
      · replace hf := (if_pos c22).symm.trans hf
        refine jr_keep [true, true, false] ?_
        exact J_X3_readLine_27 K n E a0 v4 h hf
      · replace hf := (if_neg c22).symm.trans hf
        refine jr_iconst K (D_at DX3_readLine 13 rfl) (v := (0 : Int32)) (by decide) ?_
        cases hf
        exact jr_zret K E (D_at DX3_readLine 14 rfl) rfl (Or.inl rfl) ⟨rfl, rfl⟩
theorem C_X3_readLine {G : jG} {l : Launch} (d : Nat) {n : Nat} {a0 : Nat} {h : jH} {res : (Int32 × jH)} (hf : F_X3_readLine n a0 h = some res) : jC G l mX3_readLine (d + 24) 0 0 [.ref a0] h (jPW res) :=
  jC.of (by decide +kernel) (jcats rfl) (Nat.le_of_ble_eq_true rfl) (fun X K E => J_X3_readLine K n E a0 h hf)
set_option maxHeartbeats 400000 in
set_option maxRecDepth 100000 in
theorem J_J9_floorMod_7cf53 {G : jG} {l : Launch} {d : Nat} {X : jX} {res : Int32} (K : jOK G l mJ9_floorMod_7cf53 (d) X) (n : Nat) (h : jH) (E : jEnd G mJ9_floorMod_7cf53 (jPR h res) X) (x0 : Int32) (x1 : Int32) (hf : F_J9_floorMod_7cf53 n x0 x1 h = some res) : jJ G X h 0 0 0 [some (.int x0), some (.int x1), none] [] := by
  unfold F_J9_floorMod_7cf53 at hf
  refine jr_iload_n K (D_at DJ9_floorMod_7cf53 0 rfl) rfl rfl ?_
  refine jr_iload_n K (D_at DJ9_floorMod_7cf53 1 rfl) rfl rfl ?_
  by_cases c2 : x1 = 0
  · exact jno (show (none : Option Int32) = some res from (if_pos c2).symm.trans hf)
  replace hf := (if_neg c2).symm.trans hf
  refine jr_irem K (D_at DJ9_floorMod_7cf53 2 rfl) c2 ?_
  refine jr_istore_n K (D_at DJ9_floorMod_7cf53 3 rfl) (i := 2) rfl (by decide) (L2 := [_, _, _]) rfl ?_
  refine jr_iload_n K (D_at DJ9_floorMod_7cf53 4 rfl) rfl rfl ?_
  refine jr_iload_n K (D_at DJ9_floorMod_7cf53 5 rfl) rfl rfl ?_
  refine jr_ixor K (D_at DJ9_floorMod_7cf53 6 rfl) ?_
  refine jr_if_ge K (D_at DJ9_floorMod_7cf53 7 rfl) (tgt := 18) (by decide) (fun c7 => ?_) (fun c7 => ?_)
  · replace hf := (if_pos c7).symm.trans hf
    refine jr_iload_n K (D_at DJ9_floorMod_7cf53 14 rfl) rfl rfl ?_
    cases hf
    exact jr_iret K E (D_at DJ9_floorMod_7cf53 15 rfl) rfl ⟨rfl, rfl⟩
  · replace hf := (if_neg c7).symm.trans hf
    refine jr_iload_n K (D_at DJ9_floorMod_7cf53 8 rfl) rfl rfl ?_
    refine jr_if_eq K (D_at DJ9_floorMod_7cf53 9 rfl) (tgt := 18) (by decide) (fun c11 => ?_) (fun c11 => ?_)
    · replace hf := (if_pos c11).symm.trans hf
      refine jr_iload_n K (D_at DJ9_floorMod_7cf53 14 rfl) rfl rfl ?_
      cases hf
      exact jr_iret K E (D_at DJ9_floorMod_7cf53 15 rfl) rfl ⟨rfl, rfl⟩
    · replace hf := (if_neg c11).symm.trans hf
      refine jr_iload_n K (D_at DJ9_floorMod_7cf53 10 rfl) rfl rfl ?_
      refine jr_iload_n K (D_at DJ9_floorMod_7cf53 11 rfl) rfl rfl ?_
      refine jr_iadd K (D_at DJ9_floorMod_7cf53 12 rfl) ?_
      cases hf
      exact jr_iret K E (D_at DJ9_floorMod_7cf53 13 rfl) rfl ⟨rfl, rfl⟩
theorem C_J9_floorMod_7cf53 {G : jG} {l : Launch} (d : Nat) {n : Nat} {x0 : Int32} {x1 : Int32} {h : jH} {res : Int32} (hf : F_J9_floorMod_7cf53 n x0 x1 h = some res) : jC G l mJ9_floorMod_7cf53 (d) 0 0 [.int x0, .int x1] h (jPR h res) :=
  jC.ofF (by decide +kernel) (jcats rfl) (Nat.le_of_ble_eq_true rfl) (fun X K E => J_J9_floorMod_7cf53 K n h E x0 x1 hf)
set_option maxHeartbeats 400000 in
set_option maxRecDepth 100000 in
theorem J_X5_read {G : jG} {l : Launch} {d : Nat} {X : jX} {res : Int32} (K : jOK G l mX5_read (d + 1) X) (n : Nat) (h : jH) (E : jEnd G mX5_read (jPR h res) X) (a0 : Nat) (x1 : Int32) (x2 : Int32) (hf : F_X5_read n a0 x1 x2 h = some res) : jJ G X h 0 0 0 [some (.ref a0), some (.int x1), some (.int x2), none] [] := by
  unfold F_X5_read at hf
  refine jr_iload_n K (D_at DX5_read 0 rfl) rfl rfl ?_
  refine jr_if_lt K (D_at DX5_read 1 rfl) (tgt := 22) (by decide) (fun c1 => ?_) (fun c1 => ?_)
  · replace hf := (if_pos c1).symm.trans hf
    refine jr_iconst K (D_at DX5_read 11 rfl) (v := (-1 : Int32)) (by decide) ?_
    cases hf
    exact jr_iret K E (D_at DX5_read 12 rfl) rfl ⟨rfl, rfl⟩
  · replace hf := (if_neg c1).symm.trans hf
    refine jr_iload_n K (D_at DX5_read 2 rfl) rfl rfl ?_
    refine jr_aload_n K (D_at DX5_read 3 rfl) rfl rfl ?_
    obtain ⟨v6, e6, hf⟩ := jbind hf
    refine jr_getI K (D_at DX5_read 4 rfl) fg_X5_21_4 e6 ?_
    refine jr_icmp_ge K (D_at DX5_read 5 rfl) (tgt := 22) (by decide) (fun c9 => ?_) (fun c9 => ?_)
    · replace hf := (if_pos c9).symm.trans hf
      refine jr_iconst K (D_at DX5_read 11 rfl) (v := (-1 : Int32)) (by decide) ?_
      cases hf
      exact jr_iret K E (D_at DX5_read 12 rfl) rfl ⟨rfl, rfl⟩
    · replace hf := (if_neg c9).symm.trans hf
      refine jr_iload_n K (D_at DX5_read 6 rfl) rfl rfl ?_
      refine jr_if_lt K (D_at DX5_read 7 rfl) (tgt := 22) (by decide) (fun c13 => ?_) (fun c13 => ?_)
      · replace hf := (if_pos c13).symm.trans hf
        refine jr_iconst K (D_at DX5_read 11 rfl) (v := (-1 : Int32)) (by decide) ?_
        cases hf
        exact jr_iret K E (D_at DX5_read 12 rfl) rfl ⟨rfl, rfl⟩
      · replace hf := (if_neg c13).symm.trans hf
        refine jr_iload_n K (D_at DX5_read 8 rfl) rfl rfl ?_
        refine jr_bipush K (D_at DX5_read 9 rfl) (v := (6 : Int32)) (by decide) ?_
        refine jr_icmp_lt K (D_at DX5_read 10 rfl) (tgt := 24) (by decide) (fun c19 => ?_) (fun c19 => ?_)
        · replace hf := (if_pos c19).symm.trans hf
          refine jr_aload_n K (D_at DX5_read 13 rfl) rfl rfl ?_
          obtain ⟨p25, e25, hf⟩ := jbind hf
          refine jr_getR K (D_at DX5_read 14 rfl) fg_X5_11_4 e25 ?_
          refine jr_aload_n K (D_at DX5_read 15 rfl) rfl rfl ?_
          obtain ⟨v29, e29, hf⟩ := jbind hf
          refine jr_getI K (D_at DX5_read 16 rfl) fg_X5_25_4 e29 ?_
          refine jr_iconst K (D_at DX5_read 17 rfl) (v := (1 : Int32)) (by decide) ?_
          refine jr_isub K (D_at DX5_read 18 rfl) ?_
          refine jr_iload_n K (D_at DX5_read 19 rfl) rfl rfl ?_
          refine jr_isub K (D_at DX5_read 20 rfl) ?_
          refine jr_bipush K (D_at DX5_read 21 rfl) (v := (60 : Int32)) (by decide) ?_
          obtain ⟨v38, e38, hf⟩ := jbind hf
          refine jr_callS K (C_J9_floorMod_7cf53 (d) e38) (D_at DX5_read 22 rfl) cs_X5_48_J9_floorMod_7cf53 (As := [.int ((v29 - (1 : Int32)) - x1), .int (60 : Int32)]) rfl rfl (by exact Nat.le_of_ble_eq_true rfl) (kc2 := 0) (ks2 := 0) rfl rfl (fun k9 h9 w9 => by cases w9.1) (fun r9 h9 w9 => ?_)
          obtain ⟨w1, w2⟩ := w9
          subst h9
          cases w1
          show jJ G X _ 0 0 _ _ (.int v38 :: _)
          obtain ⟨v41, e41, hf⟩ := jbind hf
          refine jr_iald K (D_at DX5_read 23 rfl) e41 ?_
          refine jr_istore_n K (D_at DX5_read 24 rfl) (i := 3) rfl (by decide) (L2 := [_, _, _, _]) rfl ?_
          refine jr_iload_n K (D_at DX5_read 25 rfl) rfl rfl ?_
          refine jr_shf K (D_at DX5_read 26 rfl) st_X5_33 ?_
          refine jr_iload_n K (D_at DX5_read 27 rfl) rfl rfl ?_
          by_cases c48 : x2 < 0 ∨ 6 ≤ x2.toNatClampNeg
          · exact jno (show (none : Option Int32) = some res from (if_pos c48).symm.trans hf)
          replace hf := (if_neg c48).symm.trans hf
          refine jr_stald (f := fun j => jshf.getD j 0) (n := 6) K jT_shf (D_at DX5_read 28 rfl) c48 ?_
          refine jr_iushr K (D_at DX5_read 29 rfl) (v := jushr v41 (jshf.getD x2.toNatClampNeg 0)) rfl ?_
          refine jr_msk K (D_at DX5_read 30 rfl) st_X5_51 ?_
          refine jr_iload_n K (D_at DX5_read 31 rfl) rfl rfl ?_
          by_cases c54 : x2 < 0 ∨ 6 ≤ x2.toNatClampNeg
          · exact jno (show (none : Option Int32) = some res from (if_pos c54).symm.trans hf)
          replace hf := (if_neg c54).symm.trans hf
          refine jr_stald (f := fun j => jmsk.getD j 0) (n := 6) K jT_msk (D_at DX5_read 32 rfl) c54 ?_
          refine jr_iand K (D_at DX5_read 33 rfl) ?_
          cases hf
          exact jr_iret K E (D_at DX5_read 34 rfl) rfl ⟨rfl, rfl⟩
        · replace hf := (if_neg c19).symm.trans hf
          refine jr_iconst K (D_at DX5_read 11 rfl) (v := (-1 : Int32)) (by decide) ?_
          cases hf
          exact jr_iret K E (D_at DX5_read 12 rfl) rfl ⟨rfl, rfl⟩
theorem C_X5_read {G : jG} {l : Launch} (d : Nat) {n : Nat} {a0 : Nat} {x1 : Int32} {x2 : Int32} {h : jH} {res : Int32} (hf : F_X5_read n a0 x1 x2 h = some res) : jC G l mX5_read (d + 1) 0 0 [.ref a0, .int x1, .int x2] h (jPR h res) :=
  jC.of (by decide +kernel) (jcats rfl) (Nat.le_of_ble_eq_true rfl) (fun X K E => J_X5_read K n h E a0 x1 x2 hf)
set_option maxHeartbeats 400000 in
set_option maxRecDepth 100000 in
theorem J_X5_rowsOf_4_b {G : jG} {l : Launch} {d : Nat} {X : jX} {res : Int32} (K : jOK G l mX5_rowsOf (d + 2) X) (n : Nat) (h : jH) (rc4 : Nat → Int32 → Int32 → Int32 → jH → Option Int32) (hr4 : ∀ (a0 : Nat) (x1 : Int32) (x2 : Int32) (x3 : Int32), rc4 a0 x1 x2 x3 h = some res → jJ G X h 0 0 4 [some (.ref a0), some (.int x1), some (.int x2), some (.int x3)] []) (E : jEnd G mX5_rowsOf (jPR h res) X) (a0 : Nat) (x1 : Int32) (x2 : Int32) (x3 : Int32) (hf : F_X5_rowsOf_4_b n rc4 a0 x1 x2 x3 h = some res) : jJ G X h 0 0 4 [some (.ref a0), some (.int x1), some (.int x2), some (.int x3)] [] := by
  unfold F_X5_rowsOf_4_b at hf
  refine jr_iload_n K (D_at DX5_rowsOf 4 rfl) rfl rfl ?_
  refine jr_aload_n K (D_at DX5_rowsOf 5 rfl) rfl rfl ?_
  obtain ⟨v6, e6, hf⟩ := jbind hf
  refine jr_getI K (D_at DX5_rowsOf 6 rfl) fg_X5_21_4 e6 ?_
  refine jr_icmp_ge K (D_at DX5_rowsOf 7 rfl) (tgt := 31) (by decide) (fun c9 => ?_) (fun c9 => ?_)
  · replace hf := (if_pos c9).symm.trans hf
    refine jr_iload_n K (D_at DX5_rowsOf 17 rfl) rfl rfl ?_
    cases hf
    exact jr_iret K E (D_at DX5_rowsOf 18 rfl) rfl ⟨rfl, rfl⟩
  · replace hf := (if_neg c9).symm.trans hf
    refine jr_aload_n K (D_at DX5_rowsOf 8 rfl) rfl rfl ?_
    refine jr_iload_n K (D_at DX5_rowsOf 9 rfl) rfl rfl ?_
    refine jr_iconst K (D_at DX5_rowsOf 10 rfl) (v := (2 : Int32)) (by decide) ?_
    obtain ⟨v15, e15, hf⟩ := jbind hf
    obtain ⟨rc_15, e15⟩ := jcv_o e15
    refine jr_callV K (C_X5_read (d) e15) (D_at DX5_rowsOf 11 rfl) cv_X5_54_X5_read (As := [.int x3, .int (2 : Int32)]) (ci := 4) rfl rc_15 rfl rfl (by exact Nat.le_of_ble_eq_true rfl) (kc2 := 0) (ks2 := 0) rfl rfl (fun k9 h9 w9 => by cases w9.1) (fun r9 h9 w9 => ?_)
    obtain ⟨w1, w2⟩ := w9
    subst h9
    cases w1
    show jJ G X _ 0 0 _ _ (.int v15 :: _)
    refine jr_iload_n K (D_at DX5_rowsOf 12 rfl) rfl rfl ?_
    refine jr_icmp_ne K (D_at DX5_rowsOf 13 rfl) (tgt := 25) (by decide) (fun c19 => ?_) (fun c19 => ?_)
    · replace hf := (if_neg c19).symm.trans hf
      refine jr_iinc K (D_at DX5_rowsOf 15 rfl) (i := 3) rfl (v := x3 + (1 : Int32)) (jinc (by decide)) (by decide) (L2 := [_, _, _, _]) rfl ?_
      refine jr_goto K (D_at DX5_rowsOf 16 rfl) (tgt := 4) (by decide) ?_
      refine jr_keep [true, true, true, true] ?_
      exact hr4 a0 x1 x2 (x3 + (1 : Int32)) hf
    · replace hf := (if_pos c19).symm.trans hf
      refine jr_iinc K (D_at DX5_rowsOf 14 rfl) (i := 2) rfl (v := x2 + (1 : Int32)) (jinc (by decide)) (by decide) (L2 := [_, _, _, _]) rfl ?_
      refine jr_iinc K (D_at DX5_rowsOf 15 rfl) (i := 3) rfl (v := x3 + (1 : Int32)) (jinc (by decide)) (by decide) (L2 := [_, _, _, _]) rfl ?_
      refine jr_goto K (D_at DX5_rowsOf 16 rfl) (tgt := 4) (by decide) ?_
      refine jr_keep [true, true, true, true] ?_
      exact hr4 a0 x1 (x2 + (1 : Int32)) (x3 + (1 : Int32)) hf
theorem J_X5_rowsOf_4 {G : jG} {l : Launch} {d : Nat} {X : jX} {res : Int32} (K : jOK G l mX5_rowsOf (d + 2) X) (n : Nat) (h : jH) (E : jEnd G mX5_rowsOf (jPR h res) X) (k : Nat) : ∀ (a0 : Nat) (x1 : Int32) (x2 : Int32) (x3 : Int32), F_X5_rowsOf_4 n k a0 x1 x2 x3 h = some res → jJ G X h 0 0 4 [some (.ref a0), some (.int x1), some (.int x2), some (.int x3)] [] := by
  induction k with
  | zero =>
    intro a0 x1 x2 x3 hf
    exact jno (show (none : Option Int32) = some res from hf)
  | succ k ih =>
    intro a0 x1 x2 x3 hf
    exact J_X5_rowsOf_4_b K n h (F_X5_rowsOf_4 n k) ih E a0 x1 x2 x3 hf
set_option maxHeartbeats 400000 in
set_option maxRecDepth 100000 in
theorem J_X5_rowsOf {G : jG} {l : Launch} {d : Nat} {X : jX} {res : Int32} (K : jOK G l mX5_rowsOf (d + 2) X) (n : Nat) (h : jH) (E : jEnd G mX5_rowsOf (jPR h res) X) (a0 : Nat) (x1 : Int32) (hf : F_X5_rowsOf n a0 x1 h = some res) : jJ G X h 0 0 0 [some (.ref a0), some (.int x1), none, none] [] := by
  unfold F_X5_rowsOf at hf
  refine jr_iconst K (D_at DX5_rowsOf 0 rfl) (v := (0 : Int32)) (by decide) ?_
  refine jr_istore_n K (D_at DX5_rowsOf 1 rfl) (i := 2) rfl (by decide) (L2 := [_, _, _, _]) rfl ?_
  refine jr_iconst K (D_at DX5_rowsOf 2 rfl) (v := (0 : Int32)) (by decide) ?_
  refine jr_istore_n K (D_at DX5_rowsOf 3 rfl) (i := 3) rfl (by decide) (L2 := [_, _, _, _]) rfl ?_
  refine jr_keep [true, true, true, true] ?_
  exact J_X5_rowsOf_4 K n h E n a0 x1 (0 : Int32) (0 : Int32) hf
theorem C_X5_rowsOf {G : jG} {l : Launch} (d : Nat) {n : Nat} {a0 : Nat} {x1 : Int32} {h : jH} {res : Int32} (hf : F_X5_rowsOf n a0 x1 h = some res) : jC G l mX5_rowsOf (d + 2) 0 0 [.ref a0, .int x1] h (jPR h res) :=
  jC.of (by decide +kernel) (jcats rfl) (Nat.le_of_ble_eq_true rfl) (fun X K E => J_X5_rowsOf K n h E a0 x1 hf)
set_option maxHeartbeats 400000 in
set_option maxRecDepth 100000 in
theorem J_X5_latestPlace_2_b {G : jG} {l : Launch} {d : Nat} {X : jX} {res : Int32} (K : jOK G l mX5_latestPlace (d + 2) X) (n : Nat) (h : jH) (rc2 : Nat → Int32 → Int32 → jH → Option Int32) (hr2 : ∀ (a0 : Nat) (x1 : Int32) (x2 : Int32), rc2 a0 x1 x2 h = some res → jJ G X h 0 0 2 [some (.ref a0), some (.int x1), some (.int x2)] []) (E : jEnd G mX5_latestPlace (jPR h res) X) (a0 : Nat) (x1 : Int32) (x2 : Int32) (hf : F_X5_latestPlace_2_b n rc2 a0 x1 x2 h = some res) : jJ G X h 0 0 2 [some (.ref a0), some (.int x1), some (.int x2)] [] := by
  unfold F_X5_latestPlace_2_b at hf
  refine jr_iload_n K (D_at DX5_latestPlace 2 rfl) rfl rfl ?_
  refine jr_aload_n K (D_at DX5_latestPlace 3 rfl) rfl rfl ?_
  obtain ⟨v4, e4, hf⟩ := jbind hf
  refine jr_getI K (D_at DX5_latestPlace 4 rfl) fg_X5_21_4 e4 ?_
  refine jr_icmp_ge K (D_at DX5_latestPlace 5 rfl) (tgt := 33) (by decide) (fun c7 => ?_) (fun c7 => ?_)
  · replace hf := (if_pos c7).symm.trans hf
    refine jr_iconst K (D_at DX5_latestPlace 19 rfl) (v := (-1 : Int32)) (by decide) ?_
    cases hf
    exact jr_iret K E (D_at DX5_latestPlace 20 rfl) rfl ⟨rfl, rfl⟩
  · replace hf := (if_neg c7).symm.trans hf
    refine jr_aload_n K (D_at DX5_latestPlace 6 rfl) rfl rfl ?_
    refine jr_iload_n K (D_at DX5_latestPlace 7 rfl) rfl rfl ?_
    refine jr_iconst K (D_at DX5_latestPlace 8 rfl) (v := (2 : Int32)) (by decide) ?_
    obtain ⟨v13, e13, hf⟩ := jbind hf
    obtain ⟨rc_13, e13⟩ := jcv_o e13
    refine jr_callV K (C_X5_read (d) e13) (D_at DX5_latestPlace 9 rfl) cv_X5_54_X5_read (As := [.int x2, .int (2 : Int32)]) (ci := 4) rfl rc_13 rfl rfl (by exact Nat.le_of_ble_eq_true rfl) (kc2 := 0) (ks2 := 0) rfl rfl (fun k9 h9 w9 => by cases w9.1) (fun r9 h9 w9 => ?_)
    obtain ⟨w1, w2⟩ := w9
    subst h9
    cases w1
    show jJ G X _ 0 0 _ _ (.int v13 :: _)
    refine jr_iload_n K (D_at DX5_latestPlace 10 rfl) rfl rfl ?_
    refine jr_icmp_ne K (D_at DX5_latestPlace 11 rfl) (tgt := 27) (by decide) (fun c17 => ?_) (fun c17 => ?_)
    · replace hf := (if_neg c17).symm.trans hf
      refine jr_iinc K (D_at DX5_latestPlace 17 rfl) (i := 2) rfl (v := x2 + (1 : Int32)) (jinc (by decide)) (by decide) (L2 := [_, _, _]) rfl ?_
      refine jr_goto K (D_at DX5_latestPlace 18 rfl) (tgt := 2) (by decide) ?_
      refine jr_keep [true, true, true] ?_
      exact hr2 a0 x1 (x2 + (1 : Int32)) hf
    · replace hf := (if_pos c17).symm.trans hf
      refine jr_aload_n K (D_at DX5_latestPlace 12 rfl) rfl rfl ?_
      refine jr_iload_n K (D_at DX5_latestPlace 13 rfl) rfl rfl ?_
      refine jr_iconst K (D_at DX5_latestPlace 14 rfl) (v := (5 : Int32)) (by decide) ?_
      obtain ⟨v23, e23, hf⟩ := jbind hf
      obtain ⟨rc_23, e23⟩ := jcv_o e23
      refine jr_callV K (C_X5_read (d) e23) (D_at DX5_latestPlace 15 rfl) cv_X5_54_X5_read (As := [.int x2, .int (5 : Int32)]) (ci := 4) rfl rc_23 rfl rfl (by exact Nat.le_of_ble_eq_true rfl) (kc2 := 0) (ks2 := 0) rfl rfl (fun k9 h9 w9 => by cases w9.1) (fun r9 h9 w9 => ?_)
      obtain ⟨w1, w2⟩ := w9
      subst h9
      cases w1
      show jJ G X _ 0 0 _ _ (.int v23 :: _)
      cases hf
      exact jr_iret K E (D_at DX5_latestPlace 16 rfl) rfl ⟨rfl, rfl⟩
theorem J_X5_latestPlace_2 {G : jG} {l : Launch} {d : Nat} {X : jX} {res : Int32} (K : jOK G l mX5_latestPlace (d + 2) X) (n : Nat) (h : jH) (E : jEnd G mX5_latestPlace (jPR h res) X) (k : Nat) : ∀ (a0 : Nat) (x1 : Int32) (x2 : Int32), F_X5_latestPlace_2 n k a0 x1 x2 h = some res → jJ G X h 0 0 2 [some (.ref a0), some (.int x1), some (.int x2)] [] := by
  induction k with
  | zero =>
    intro a0 x1 x2 hf
    exact jno (show (none : Option Int32) = some res from hf)
  | succ k ih =>
    intro a0 x1 x2 hf
    exact J_X5_latestPlace_2_b K n h (F_X5_latestPlace_2 n k) ih E a0 x1 x2 hf
set_option maxHeartbeats 400000 in
set_option maxRecDepth 100000 in
theorem J_X5_latestPlace {G : jG} {l : Launch} {d : Nat} {X : jX} {res : Int32} (K : jOK G l mX5_latestPlace (d + 2) X) (n : Nat) (h : jH) (E : jEnd G mX5_latestPlace (jPR h res) X) (a0 : Nat) (x1 : Int32) (hf : F_X5_latestPlace n a0 x1 h = some res) : jJ G X h 0 0 0 [some (.ref a0), some (.int x1), none] [] := by
  unfold F_X5_latestPlace at hf
  refine jr_iconst K (D_at DX5_latestPlace 0 rfl) (v := (0 : Int32)) (by decide) ?_
  refine jr_istore_n K (D_at DX5_latestPlace 1 rfl) (i := 2) rfl (by decide) (L2 := [_, _, _]) rfl ?_
  refine jr_keep [true, true, true] ?_
  exact J_X5_latestPlace_2 K n h E n a0 x1 (0 : Int32) hf
theorem C_X5_latestPlace {G : jG} {l : Launch} (d : Nat) {n : Nat} {a0 : Nat} {x1 : Int32} {h : jH} {res : Int32} (hf : F_X5_latestPlace n a0 x1 h = some res) : jC G l mX5_latestPlace (d + 2) 0 0 [.ref a0, .int x1] h (jPR h res) :=
  jC.of (by decide +kernel) (jcats rfl) (Nat.le_of_ble_eq_true rfl) (fun X K E => J_X5_latestPlace K n h E a0 x1 hf)
set_option maxHeartbeats 400000 in
set_option maxRecDepth 100000 in
theorem J_X6_hangsBy_22_b {G : jG} {l : Launch} {d : Nat} {X : jX} {res : Int32} (K : jOK G l mX6_hangsBy (d + 1) X) (n : Nat) (h : jH) (rc22 : Nat → Int32 → Int32 → Int32 → Int32 → jH → Option Int32) (hr22 : ∀ (a0 : Nat) (x1 : Int32) (x2 : Int32) (x3 : Int32) (x4 : Int32), rc22 a0 x1 x2 x3 x4 h = some res → jJ G X h 0 0 22 [some (.ref a0), some (.int x1), some (.int x2), some (.int x3), some (.int x4), none] []) (E : jEnd G mX6_hangsBy (jPR h res) X) (a0 : Nat) (x1 : Int32) (x2 : Int32) (x3 : Int32) (x4 : Int32) (hf : F_X6_hangsBy_22_b n rc22 a0 x1 x2 x3 x4 h = some res) : jJ G X h 0 0 22 [some (.ref a0), some (.int x1), some (.int x2), some (.int x3), some (.int x4), none] [] := by
  unfold F_X6_hangsBy_22_b at hf
  refine jr_iload K (D_at DX6_hangsBy 14 rfl) rfl ?_
  refine jr_aload_n K (D_at DX6_hangsBy 15 rfl) rfl rfl ?_
  obtain ⟨v25, e25, hf⟩ := jbind hf
  refine jr_getI K (D_at DX6_hangsBy 16 rfl) fg_X6_19_6 e25 ?_
  refine jr_icmp_ge K (D_at DX6_hangsBy 17 rfl) (tgt := 81) (by decide) (fun c28 => ?_) (fun c28 => ?_)
  · replace hf := (if_pos c28).symm.trans hf
    refine jr_iload_n K (D_at DX6_hangsBy 44 rfl) rfl rfl ?_
    cases hf
    exact jr_iret K E (D_at DX6_hangsBy 45 rfl) rfl ⟨rfl, rfl⟩
  · replace hf := (if_neg c28).symm.trans hf
    refine jr_aload_n K (D_at DX6_hangsBy 18 rfl) rfl rfl ?_
    obtain ⟨p32, e32, hf⟩ := jbind hf
    refine jr_getR K (D_at DX6_hangsBy 19 rfl) fg_X6_22_6 e32 ?_
    refine jr_iload K (D_at DX6_hangsBy 20 rfl) rfl ?_
    obtain ⟨v37, e37, hf⟩ := jbind hf
    refine jr_iald K (D_at DX6_hangsBy 21 rfl) e37 ?_
    refine jr_aload_n K (D_at DX6_hangsBy 22 rfl) rfl rfl ?_
    obtain ⟨p39, e39, hf⟩ := jbind hf
    refine jr_getR K (D_at DX6_hangsBy 23 rfl) fg_X6_22_6 e39 ?_
    refine jr_iload_n K (D_at DX6_hangsBy 24 rfl) rfl rfl ?_
    obtain ⟨v43, e43, hf⟩ := jbind hf
    refine jr_iald K (D_at DX6_hangsBy 25 rfl) e43 ?_
    refine jr_isub K (D_at DX6_hangsBy 26 rfl) ?_
    refine jr_abs K (D_at DX6_hangsBy 27 rfl) mm_X6_26 (by exact Nat.le_of_ble_eq_true rfl) ?_
    refine jr_istore K (D_at DX6_hangsBy 28 rfl) (i := 5) (by decide) (L2 := [_, _, _, _, _, _]) rfl ?_
    refine jr_aload_n K (D_at DX6_hangsBy 29 rfl) rfl rfl ?_
    obtain ⟨v51, e51, hf⟩ := jbind hf
    refine jr_getI K (D_at DX6_hangsBy 30 rfl) fg_X6_9_6 e51 ?_
    refine jr_iload K (D_at DX6_hangsBy 31 rfl) rfl ?_
    obtain ⟨v56, e56, hf⟩ := jbind hf
    refine jr_callSN K (C_X11_bit (d) e56) (D_at DX6_hangsBy 32 rfl) csn_X6_15_X11_bit (As := [.int v51, .int x4]) rfl rfl (by exact Nat.le_of_ble_eq_true rfl) (kc2 := 0) (ks2 := 0) rfl rfl (fun k9 h9 w9 => by cases w9.1) (fun r9 h9 w9 => ?_)
    obtain ⟨w1, w2⟩ := w9
    subst h9
    cases w1
    show jJ G X _ 0 0 _ _ (.int v56 :: _)
    refine jr_iconst K (D_at DX6_hangsBy 33 rfl) (v := (1 : Int32)) (by decide) ?_
    refine jr_icmp_ne K (D_at DX6_hangsBy 34 rfl) (tgt := 75) (by decide) (fun c60 => ?_) (fun c60 => ?_)
    · replace hf := (if_neg c60).symm.trans hf
      refine jr_iinc K (D_at DX6_hangsBy 42 rfl) (i := 4) rfl (v := x4 + (1 : Int32)) (jinc (by decide)) (by decide) (L2 := [_, _, _, _, _, _]) rfl ?_
      refine jr_goto K (D_at DX6_hangsBy 43 rfl) (tgt := 22) (by decide) ?_
      refine jr_keep [true, true, true, true, true, false] ?_
      exact hr22 a0 x1 x2 x3 (x4 + (1 : Int32)) hf
    · replace hf := (if_pos c60).symm.trans hf
      refine jr_iload K (D_at DX6_hangsBy 35 rfl) rfl ?_
      refine jr_iload_n K (D_at DX6_hangsBy 36 rfl) rfl rfl ?_
      refine jr_icmp_ge K (D_at DX6_hangsBy 37 rfl) (tgt := 75) (by decide) (fun c66 => ?_) (fun c66 => ?_)
      · replace hf := (if_pos c66).symm.trans hf
        refine jr_iinc K (D_at DX6_hangsBy 42 rfl) (i := 4) rfl (v := x4 + (1 : Int32)) (jinc (by decide)) (by decide) (L2 := [_, _, _, _, _, _]) rfl ?_
        refine jr_goto K (D_at DX6_hangsBy 43 rfl) (tgt := 22) (by decide) ?_
        refine jr_keep [true, true, true, true, true, false] ?_
        exact hr22 a0 x1 x2 x3 (x4 + (1 : Int32)) hf
      · replace hf := (if_neg c66).symm.trans hf
        refine jr_iload K (D_at DX6_hangsBy 38 rfl) rfl ?_
        refine jr_istore_n K (D_at DX6_hangsBy 39 rfl) (i := 3) rfl (by decide) (L2 := [_, _, _, _, _, _]) rfl ?_
        refine jr_iload K (D_at DX6_hangsBy 40 rfl) rfl ?_
        refine jr_istore_n K (D_at DX6_hangsBy 41 rfl) (i := 2) rfl (by decide) (L2 := [_, _, _, _, _, _]) rfl ?_
        refine jr_iinc K (D_at DX6_hangsBy 42 rfl) (i := 4) rfl (v := x4 + (1 : Int32)) (jinc (by decide)) (by decide) (L2 := [_, _, _, _, _, _]) rfl ?_
        refine jr_goto K (D_at DX6_hangsBy 43 rfl) (tgt := 22) (by decide) ?_
        refine jr_keep [true, true, true, true, true, false] ?_
        exact hr22 a0 x1 x4 (if 0 ≤ v37 - v43 then v37 - v43 else 0 - (v37 - v43)) (x4 + (1 : Int32)) hf
theorem J_X6_hangsBy_22 {G : jG} {l : Launch} {d : Nat} {X : jX} {res : Int32} (K : jOK G l mX6_hangsBy (d + 1) X) (n : Nat) (h : jH) (E : jEnd G mX6_hangsBy (jPR h res) X) (k : Nat) : ∀ (a0 : Nat) (x1 : Int32) (x2 : Int32) (x3 : Int32) (x4 : Int32), F_X6_hangsBy_22 n k a0 x1 x2 x3 x4 h = some res → jJ G X h 0 0 22 [some (.ref a0), some (.int x1), some (.int x2), some (.int x3), some (.int x4), none] [] := by
  induction k with
  | zero =>
    intro a0 x1 x2 x3 x4 hf
    exact jno (show (none : Option Int32) = some res from hf)
  | succ k ih =>
    intro a0 x1 x2 x3 x4 hf
    exact J_X6_hangsBy_22_b K n h (F_X6_hangsBy_22 n k) ih E a0 x1 x2 x3 x4 hf
set_option maxHeartbeats 400000 in
set_option maxRecDepth 100000 in
theorem J_X6_hangsBy {G : jG} {l : Launch} {d : Nat} {X : jX} {res : Int32} (K : jOK G l mX6_hangsBy (d + 1) X) (n : Nat) (h : jH) (E : jEnd G mX6_hangsBy (jPR h res) X) (a0 : Nat) (x1 : Int32) (hf : F_X6_hangsBy n a0 x1 h = some res) : jJ G X h 0 0 0 [some (.ref a0), some (.int x1), none, none, none, none] [] := by
  unfold F_X6_hangsBy at hf
  refine jr_aload_n K (D_at DX6_hangsBy 0 rfl) rfl rfl ?_
  obtain ⟨v1, e1, hf⟩ := jbind hf
  refine jr_getI K (D_at DX6_hangsBy 1 rfl) fg_X6_9_6 e1 ?_
  refine jr_iload_n K (D_at DX6_hangsBy 2 rfl) rfl rfl ?_
  obtain ⟨v5, e5, hf⟩ := jbind hf
  refine jr_callSN K (C_X11_bit (d) e5) (D_at DX6_hangsBy 3 rfl) csn_X6_15_X11_bit (As := [.int v1, .int x1]) rfl rfl (by exact Nat.le_of_ble_eq_true rfl) (kc2 := 0) (ks2 := 0) rfl rfl (fun k9 h9 w9 => by cases w9.1) (fun r9 h9 w9 => ?_)
  obtain ⟨w1, w2⟩ := w9
  subst h9
  cases w1
  show jJ G X _ 0 0 _ _ (.int v5 :: _)
  refine jr_iconst K (D_at DX6_hangsBy 4 rfl) (v := (1 : Int32)) (by decide) ?_
  refine jr_icmp_ne K (D_at DX6_hangsBy 5 rfl) (tgt := 14) (by decide) (fun c9 => ?_) (fun c9 => ?_)
  · replace hf := (if_neg c9).symm.trans hf
    refine jr_iconst K (D_at DX6_hangsBy 8 rfl) (v := (-1 : Int32)) (by decide) ?_
    refine jr_istore_n K (D_at DX6_hangsBy 9 rfl) (i := 2) rfl (by decide) (L2 := [_, _, _, _, _, _]) rfl ?_
    refine jr_bipush K (D_at DX6_hangsBy 10 rfl) (v := (32 : Int32)) (by decide) ?_
    refine jr_istore_n K (D_at DX6_hangsBy 11 rfl) (i := 3) rfl (by decide) (L2 := [_, _, _, _, _, _]) rfl ?_
    refine jr_iconst K (D_at DX6_hangsBy 12 rfl) (v := (0 : Int32)) (by decide) ?_
    refine jr_istore K (D_at DX6_hangsBy 13 rfl) (i := 4) (by decide) (L2 := [_, _, _, _, _, _]) rfl ?_
    refine jr_keep [true, true, true, true, true, false] ?_
    exact J_X6_hangsBy_22 K n h E n a0 x1 (-1 : Int32) (32 : Int32) (0 : Int32) hf
  · replace hf := (if_pos c9).symm.trans hf
    refine jr_iload_n K (D_at DX6_hangsBy 6 rfl) rfl rfl ?_
    cases hf
    exact jr_iret K E (D_at DX6_hangsBy 7 rfl) rfl ⟨rfl, rfl⟩
theorem C_X6_hangsBy {G : jG} {l : Launch} (d : Nat) {n : Nat} {a0 : Nat} {x1 : Int32} {h : jH} {res : Int32} (hf : F_X6_hangsBy n a0 x1 h = some res) : jC G l mX6_hangsBy (d + 1) 0 0 [.ref a0, .int x1] h (jPR h res) :=
  jC.of (by decide +kernel) (jcats rfl) (Nat.le_of_ble_eq_true rfl) (fun X K E => J_X6_hangsBy K n h E a0 x1 hf)
end
