set_option maxHeartbeats 400000 in
set_option maxRecDepth 100000 in
theorem J_X0_init {G : jG} {l : Launch} {d : Nat} {X : jX} {res : jH} (K : jOK G l mX0_init (d + 1) X) (n : Nat) (E : jEnd G mX0_init (jPV res) X) (a0 : Nat) (h : jH) (hf : F_X0_init n a0 h = some res) : jJ G X h 1 12 0 [some (.ref a0)] [] := by
  unfold F_X0_init at hf
  refine jr_aload_n K (D_at DX0_init 0 rfl) rfl rfl ?_
  refine jr_objInit K (D_at DX0_init 1 rfl) oi_X0_1 (by exact Nat.le_of_ble_eq_true rfl) ?_
  refine jr_aload_n K (D_at DX0_init 2 rfl) rfl rfl ?_
  refine jr_bipush K (D_at DX0_init 3 rfl) (v := (12 : Int32)) (by decide) ?_
  obtain ⟨h7, e7, hf⟩ := jbind hf
  refine jr_newQE (N := 12) K (D_at DX0_init 4 rfl) cl_X0_9 (by decide) (by decide) (by decide) (kc := 0) (ks := 0) e7 ?_
  obtain ⟨h10, e10, hf⟩ := jbind hf
  refine jr_putA K (D_at DX0_init 5 rfl) fp_X0_11_0 (Or.inr rfl) e10 ?_
  cases hf
  exact jr_vret K E (D_at DX0_init 6 rfl) rfl ⟨rfl, rfl⟩
theorem C_X0_init {G : jG} {l : Launch} (d : Nat) {n : Nat} {a0 : Nat} {h : jH} {res : jH} (hf : F_X0_init n a0 h = some res) : jC G l mX0_init (d + 1) 1 12 [.ref a0] h (jPV res) :=
  jC.of (by decide +kernel) (jcats rfl) (Nat.le_of_ble_eq_true rfl) (fun X K E => J_X0_init K n E a0 h hf)
set_option maxHeartbeats 400000 in
set_option maxRecDepth 100000 in
theorem J_X5_init {G : jG} {l : Launch} {d : Nat} {X : jX} {res : jH} (K : jOK G l mX5_init (d + 1) X) (n : Nat) (E : jEnd G mX5_init (jPV res) X) (a0 : Nat) (h : jH) (hf : F_X5_init n a0 h = some res) : jJ G X h 1 60 0 [some (.ref a0)] [] := by
  unfold F_X5_init at hf
  refine jr_aload_n K (D_at DX5_init 0 rfl) rfl rfl ?_
  refine jr_objInit K (D_at DX5_init 1 rfl) oi_X5_3 (by exact Nat.le_of_ble_eq_true rfl) ?_
  refine jr_aload_n K (D_at DX5_init 2 rfl) rfl rfl ?_
  refine jr_bipush K (D_at DX5_init 3 rfl) (v := (60 : Int32)) (by decide) ?_
  obtain ⟨h7, e7, hf⟩ := jbind hf
  refine jr_newIE (N := 60) K (D_at DX5_init 4 rfl) ac_int (by decide) (by decide) (by decide) (kc := 0) (ks := 0) e7 ?_
  obtain ⟨h9, e9, hf⟩ := jbind hf
  refine jr_putA K (D_at DX5_init 5 rfl) fp_X5_11_4 (Or.inr rfl) e9 ?_
  cases hf
  exact jr_vret K E (D_at DX5_init 6 rfl) rfl ⟨rfl, rfl⟩
theorem C_X5_init {G : jG} {l : Launch} (d : Nat) {n : Nat} {a0 : Nat} {h : jH} {res : jH} (hf : F_X5_init n a0 h = some res) : jC G l mX5_init (d + 1) 1 60 [.ref a0] h (jPV res) :=
  jC.of (by decide +kernel) (jcats rfl) (Nat.le_of_ble_eq_true rfl) (fun X K E => J_X5_init K n E a0 h hf)
set_option maxHeartbeats 400000 in
set_option maxRecDepth 100000 in
theorem J_X8_init {G : jG} {l : Launch} {d : Nat} {X : jX} {res : jH} (K : jOK G l mX8_init (d + 2) X) (n : Nat) (E : jEnd G mX8_init (jPV res) X) (a0 : Nat) (h : jH) (hf : F_X8_init n a0 h = some res) : jJ G X h 6 95 0 [some (.ref a0)] [] := by
  unfold F_X8_init at hf
  refine jr_aload_n K (D_at DX8_init 0 rfl) rfl rfl ?_
  refine jr_objInit K (D_at DX8_init 1 rfl) oi_X8_3 (by exact Nat.le_of_ble_eq_true rfl) ?_
  refine jr_aload_n K (D_at DX8_init 2 rfl) rfl rfl ?_
  refine jr_bipush K (D_at DX8_init 3 rfl) (v := (8 : Int32)) (by decide) ?_
  obtain ⟨h7, e7, hf⟩ := jbind hf
  refine jr_newIE (N := 8) K (D_at DX8_init 4 rfl) ac_int (by decide) (by decide) (by decide) (kc := 5) (ks := 87) e7 ?_
  obtain ⟨h9, e9, hf⟩ := jbind hf
  refine jr_putA K (D_at DX8_init 5 rfl) fp_X8_9_6 (Or.inr rfl) e9 ?_
  refine jr_aload_n K (D_at DX8_init 6 rfl) rfl rfl ?_
  refine jr_bipush K (D_at DX8_init 7 rfl) (v := (8 : Int32)) (by decide) ?_
  obtain ⟨h15, e15, hf⟩ := jbind hf
  refine jr_newIE (N := 8) K (D_at DX8_init 8 rfl) ac_int (by decide) (by decide) (by decide) (kc := 4) (ks := 79) e15 ?_
  obtain ⟨h17, e17, hf⟩ := jbind hf
  refine jr_putA K (D_at DX8_init 9 rfl) fp_X8_15_6 (Or.inr rfl) e17 ?_
  refine jr_aload_n K (D_at DX8_init 10 rfl) rfl rfl ?_
  refine jr_bipush K (D_at DX8_init 11 rfl) (v := (8 : Int32)) (by decide) ?_
  obtain ⟨h23, e23, hf⟩ := jbind hf
  refine jr_newIE (N := 8) K (D_at DX8_init 12 rfl) ac_int (by decide) (by decide) (by decide) (kc := 3) (ks := 71) e23 ?_
  obtain ⟨h25, e25, hf⟩ := jbind hf
  refine jr_putA K (D_at DX8_init 13 rfl) fp_X8_18_6 (Or.inr rfl) e25 ?_
  refine jr_aload_n K (D_at DX8_init 14 rfl) rfl rfl ?_
  refine jr_bipush K (D_at DX8_init 15 rfl) (v := (8 : Int32)) (by decide) ?_
  obtain ⟨h31, e31, hf⟩ := jbind hf
  refine jr_newIE (N := 8) K (D_at DX8_init 16 rfl) ac_int (by decide) (by decide) (by decide) (kc := 2) (ks := 63) e31 ?_
  obtain ⟨h33, e33, hf⟩ := jbind hf
  refine jr_putA K (D_at DX8_init 17 rfl) fp_X8_21_6 (Or.inr rfl) e33 ?_
  refine jr_aload_n K (D_at DX8_init 18 rfl) rfl rfl ?_
  obtain ⟨h37, e37, hf⟩ := jbind hf
  refine jr_newE (N := 3) K (D_at DX8_init 19 rfl) fn_X8_24 (kc := 1) (ks := 60) e37 ?_
  refine jr_dup K (D_at DX8_init 20 rfl) rfl ?_
  obtain ⟨h41, e41, hf⟩ := jbind hf
  refine jr_callIN K (C_X5_init (d) e41) (D_at DX8_init 21 rfl) cin_X8_26_X5_init (As := []) rfl rfl (by exact Nat.le_of_ble_eq_true rfl) (kc2 := 0) (ks2 := 0) rfl rfl (fun k9 h9 w9 => by cases w9.1) (fun r9 h9 w9 => ?_)
  obtain ⟨w1, w2⟩ := w9
  subst h9
  cases w1
  obtain ⟨h44, e44, hf⟩ := jbind hf
  refine jr_putR K (D_at DX8_init 22 rfl) fp_X8_27_6 (Or.inr rfl) e44 ?_
  refine jr_aload_n K (D_at DX8_init 23 rfl) rfl rfl ?_
  refine jr_bipush K (D_at DX8_init 24 rfl) (v := (16 : Int32)) (by decide) ?_
  obtain ⟨h50, e50, hf⟩ := jbind hf
  refine jr_putI K (D_at DX8_init 25 rfl) fp_X8_31_6 (Or.inl rfl) e50 ?_
  refine jr_aload_n K (D_at DX8_init 26 rfl) rfl rfl ?_
  refine jr_bipush K (D_at DX8_init 27 rfl) (v := (8 : Int32)) (by decide) ?_
  obtain ⟨h56, e56, hf⟩ := jbind hf
  refine jr_putI K (D_at DX8_init 28 rfl) fp_X8_35_6 (Or.inl rfl) e56 ?_
  refine jr_aload_n K (D_at DX8_init 29 rfl) rfl rfl ?_
  refine jr_iconst K (D_at DX8_init 30 rfl) (v := (1 : Int32)) (by decide) ?_
  obtain ⟨h61, e61, hf⟩ := jbind hf
  refine jr_putI K (D_at DX8_init 31 rfl) fp_X8_38_6 (Or.inl rfl) e61 ?_
  cases hf
  exact jr_vret K E (D_at DX8_init 32 rfl) rfl ⟨rfl, rfl⟩
theorem C_X8_init {G : jG} {l : Launch} (d : Nat) {n : Nat} {a0 : Nat} {h : jH} {res : jH} (hf : F_X8_init n a0 h = some res) : jC G l mX8_init (d + 2) 6 95 [.ref a0] h (jPV res) :=
  jC.of (by decide +kernel) (jcats rfl) (Nat.le_of_ble_eq_true rfl) (fun X K E => J_X8_init K n E a0 h hf)
set_option maxHeartbeats 400000 in
set_option maxRecDepth 100000 in
theorem J_X5_copyFrom {G : jG} {l : Launch} {d : Nat} {X : jX} {res : jH} (K : jOK G l mX5_copyFrom (d + 1) X) (n : Nat) (E : jEnd G mX5_copyFrom (jPV res) X) (a0 : Nat) (a1 : Nat) (h : jH) (hf : F_X5_copyFrom n a0 a1 h = some res) : jJ G X h 0 0 0 [some (.ref a0), some (.ref a1)] [] := by
  unfold F_X5_copyFrom at hf
  refine jr_aload_n K (D_at DX5_copyFrom 0 rfl) rfl rfl ?_
  obtain ⟨p1, e1, hf⟩ := jbind hf
  refine jr_getR K (D_at DX5_copyFrom 1 rfl) fg_X5_11_4 e1 ?_
  refine jr_iconst K (D_at DX5_copyFrom 2 rfl) (v := (0 : Int32)) (by decide) ?_
  refine jr_aload_n K (D_at DX5_copyFrom 3 rfl) rfl rfl ?_
  obtain ⟨p6, e6, hf⟩ := jbind hf
  refine jr_getR K (D_at DX5_copyFrom 4 rfl) fg_X5_11_4 e6 ?_
  refine jr_iconst K (D_at DX5_copyFrom 5 rfl) (v := (0 : Int32)) (by decide) ?_
  refine jr_bipush K (D_at DX5_copyFrom 6 rfl) (v := (60 : Int32)) (by decide) ?_
  obtain ⟨h12, e12, hf⟩ := jbind hf
  refine jr_copy K (D_at DX5_copyFrom 7 rfl) cy_X5_15 (by exact Nat.le_of_ble_eq_true rfl) e12 ?_
  refine jr_aload_n K (D_at DX5_copyFrom 8 rfl) rfl rfl ?_
  refine jr_aload_n K (D_at DX5_copyFrom 9 rfl) rfl rfl ?_
  obtain ⟨v17, e17, hf⟩ := jbind hf
  refine jr_getI K (D_at DX5_copyFrom 10 rfl) fg_X5_21_4 e17 ?_
  obtain ⟨h20, e20, hf⟩ := jbind hf
  refine jr_putI K (D_at DX5_copyFrom 11 rfl) fp_X5_21_4 (Or.inl rfl) e20 ?_
  refine jr_aload_n K (D_at DX5_copyFrom 12 rfl) rfl rfl ?_
  refine jr_aload_n K (D_at DX5_copyFrom 13 rfl) rfl rfl ?_
  obtain ⟨v25, e25, hf⟩ := jbind hf
  refine jr_getI K (D_at DX5_copyFrom 14 rfl) fg_X5_25_4 e25 ?_
  obtain ⟨h28, e28, hf⟩ := jbind hf
  refine jr_putI K (D_at DX5_copyFrom 15 rfl) fp_X5_25_4 (Or.inl rfl) e28 ?_
  cases hf
  exact jr_vret K E (D_at DX5_copyFrom 16 rfl) rfl ⟨rfl, rfl⟩
theorem C_X5_copyFrom {G : jG} {l : Launch} (d : Nat) {n : Nat} {a0 : Nat} {a1 : Nat} {h : jH} {res : jH} (hf : F_X5_copyFrom n a0 a1 h = some res) : jC G l mX5_copyFrom (d + 1) 0 0 [.ref a0, .ref a1] h (jPV res) :=
  jC.of (by decide +kernel) (jcats rfl) (Nat.le_of_ble_eq_true rfl) (fun X K E => J_X5_copyFrom K n E a0 a1 h hf)
set_option maxHeartbeats 400000 in
set_option maxRecDepth 100000 in
theorem J_X8_hangAs {G : jG} {l : Launch} {d : Nat} {X : jX} {res : jH} (K : jOK G l mX8_hangAs (d + 1) X) (n : Nat) (E : jEnd G mX8_hangAs (jPV res) X) (a0 : Nat) (a1 : Nat) (h : jH) (hf : F_X8_hangAs n a0 a1 h = some res) : jJ G X h 0 0 0 [some (.ref a0), some (.ref a1)] [] := by
  unfold F_X8_hangAs at hf
  refine jr_aload_n K (D_at DX8_hangAs 0 rfl) rfl rfl ?_
  obtain ⟨p1, e1, hf⟩ := jbind hf
  refine jr_getR K (D_at DX8_hangAs 1 rfl) fg_X8_9_6 e1 ?_
  refine jr_iconst K (D_at DX8_hangAs 2 rfl) (v := (0 : Int32)) (by decide) ?_
  refine jr_aload_n K (D_at DX8_hangAs 3 rfl) rfl rfl ?_
  obtain ⟨p6, e6, hf⟩ := jbind hf
  refine jr_getR K (D_at DX8_hangAs 4 rfl) fg_X8_9_6 e6 ?_
  refine jr_iconst K (D_at DX8_hangAs 5 rfl) (v := (0 : Int32)) (by decide) ?_
  refine jr_bipush K (D_at DX8_hangAs 6 rfl) (v := (8 : Int32)) (by decide) ?_
  obtain ⟨h12, e12, hf⟩ := jbind hf
  refine jr_copy K (D_at DX8_hangAs 7 rfl) cy_X8_41 (by exact Nat.le_of_ble_eq_true rfl) e12 ?_
  refine jr_aload_n K (D_at DX8_hangAs 8 rfl) rfl rfl ?_
  refine jr_aload_n K (D_at DX8_hangAs 9 rfl) rfl rfl ?_
  obtain ⟨v17, e17, hf⟩ := jbind hf
  refine jr_getI K (D_at DX8_hangAs 10 rfl) fg_X8_79_6 e17 ?_
  obtain ⟨h20, e20, hf⟩ := jbind hf
  refine jr_putI K (D_at DX8_hangAs 11 rfl) fp_X8_79_6 (Or.inl rfl) e20 ?_
  refine jr_aload_n K (D_at DX8_hangAs 12 rfl) rfl rfl ?_
  refine jr_aload_n K (D_at DX8_hangAs 13 rfl) rfl rfl ?_
  obtain ⟨v25, e25, hf⟩ := jbind hf
  refine jr_getI K (D_at DX8_hangAs 14 rfl) fg_X8_82_6 e25 ?_
  obtain ⟨h28, e28, hf⟩ := jbind hf
  refine jr_putI K (D_at DX8_hangAs 15 rfl) fp_X8_82_6 (Or.inl rfl) e28 ?_
  cases hf
  exact jr_vret K E (D_at DX8_hangAs 16 rfl) rfl ⟨rfl, rfl⟩
theorem C_X8_hangAs {G : jG} {l : Launch} (d : Nat) {n : Nat} {a0 : Nat} {a1 : Nat} {h : jH} {res : jH} (hf : F_X8_hangAs n a0 a1 h = some res) : jC G l mX8_hangAs (d + 1) 0 0 [.ref a0, .ref a1] h (jPV res) :=
  jC.of (by decide +kernel) (jcats rfl) (Nat.le_of_ble_eq_true rfl) (fun X K E => J_X8_hangAs K n E a0 a1 h hf)
set_option maxHeartbeats 400000 in
set_option maxRecDepth 100000 in
theorem J_X8_copyFrom {G : jG} {l : Launch} {d : Nat} {X : jX} {res : jH} (K : jOK G l mX8_copyFrom (d + 2) X) (n : Nat) (E : jEnd G mX8_copyFrom (jPV res) X) (a0 : Nat) (a1 : Nat) (h : jH) (hf : F_X8_copyFrom n a0 a1 h = some res) : jJ G X h 0 0 0 [some (.ref a0), some (.ref a1)] [] := by
  unfold F_X8_copyFrom at hf
  refine jr_aload_n K (D_at DX8_copyFrom 0 rfl) rfl rfl ?_
  obtain ⟨p1, e1, hf⟩ := jbind hf
  refine jr_getR K (D_at DX8_copyFrom 1 rfl) fg_X8_15_6 e1 ?_
  refine jr_iconst K (D_at DX8_copyFrom 2 rfl) (v := (0 : Int32)) (by decide) ?_
  refine jr_aload_n K (D_at DX8_copyFrom 3 rfl) rfl rfl ?_
  obtain ⟨p6, e6, hf⟩ := jbind hf
  refine jr_getR K (D_at DX8_copyFrom 4 rfl) fg_X8_15_6 e6 ?_
  refine jr_iconst K (D_at DX8_copyFrom 5 rfl) (v := (0 : Int32)) (by decide) ?_
  refine jr_bipush K (D_at DX8_copyFrom 6 rfl) (v := (8 : Int32)) (by decide) ?_
  obtain ⟨h12, e12, hf⟩ := jbind hf
  refine jr_copy K (D_at DX8_copyFrom 7 rfl) cy_X8_41 (by exact Nat.le_of_ble_eq_true rfl) e12 ?_
  refine jr_aload_n K (D_at DX8_copyFrom 8 rfl) rfl rfl ?_
  obtain ⟨p16, e16, hf⟩ := jbind hf
  refine jr_getR K (D_at DX8_copyFrom 9 rfl) fg_X8_18_6 e16 ?_
  refine jr_iconst K (D_at DX8_copyFrom 10 rfl) (v := (0 : Int32)) (by decide) ?_
  refine jr_aload_n K (D_at DX8_copyFrom 11 rfl) rfl rfl ?_
  obtain ⟨p21, e21, hf⟩ := jbind hf
  refine jr_getR K (D_at DX8_copyFrom 12 rfl) fg_X8_18_6 e21 ?_
  refine jr_iconst K (D_at DX8_copyFrom 13 rfl) (v := (0 : Int32)) (by decide) ?_
  refine jr_bipush K (D_at DX8_copyFrom 14 rfl) (v := (8 : Int32)) (by decide) ?_
  obtain ⟨h27, e27, hf⟩ := jbind hf
  refine jr_copy K (D_at DX8_copyFrom 15 rfl) cy_X8_41 (by exact Nat.le_of_ble_eq_true rfl) e27 ?_
  refine jr_aload_n K (D_at DX8_copyFrom 16 rfl) rfl rfl ?_
  obtain ⟨p31, e31, hf⟩ := jbind hf
  refine jr_getR K (D_at DX8_copyFrom 17 rfl) fg_X8_21_6 e31 ?_
  refine jr_iconst K (D_at DX8_copyFrom 18 rfl) (v := (0 : Int32)) (by decide) ?_
  refine jr_aload_n K (D_at DX8_copyFrom 19 rfl) rfl rfl ?_
  obtain ⟨p36, e36, hf⟩ := jbind hf
  refine jr_getR K (D_at DX8_copyFrom 20 rfl) fg_X8_21_6 e36 ?_
  refine jr_iconst K (D_at DX8_copyFrom 21 rfl) (v := (0 : Int32)) (by decide) ?_
  refine jr_bipush K (D_at DX8_copyFrom 22 rfl) (v := (8 : Int32)) (by decide) ?_
  obtain ⟨h42, e42, hf⟩ := jbind hf
  refine jr_copy K (D_at DX8_copyFrom 23 rfl) cy_X8_41 (by exact Nat.le_of_ble_eq_true rfl) e42 ?_
  refine jr_aload_n K (D_at DX8_copyFrom 24 rfl) rfl rfl ?_
  obtain ⟨p46, e46, hf⟩ := jbind hf
  refine jr_getR K (D_at DX8_copyFrom 25 rfl) fg_X8_27_6 e46 ?_
  refine jr_aload_n K (D_at DX8_copyFrom 26 rfl) rfl rfl ?_
  obtain ⟨p50, e50, hf⟩ := jbind hf
  refine jr_getR K (D_at DX8_copyFrom 27 rfl) fg_X8_27_6 e50 ?_
  obtain ⟨h53, e53, hf⟩ := jbind hf
  obtain ⟨rc_53, e53⟩ := jcv_o e53
  refine jr_callV K (C_X5_copyFrom (d) e53) (D_at DX8_copyFrom 28 rfl) cv_X8_47_X5_copyFrom (As := [.ref p50]) (ci := 4) rfl rc_53 rfl rfl (by exact Nat.le_of_ble_eq_true rfl) (kc2 := 0) (ks2 := 0) rfl rfl (fun k9 h9 w9 => by cases w9.1) (fun r9 h9 w9 => ?_)
  obtain ⟨w1, w2⟩ := w9
  subst h9
  cases w1
  show jJ G X _ 0 0 _ _ []
  refine jr_aload_n K (D_at DX8_copyFrom 29 rfl) rfl rfl ?_
  refine jr_aload_n K (D_at DX8_copyFrom 30 rfl) rfl rfl ?_
  obtain ⟨v58, e58, hf⟩ := jbind hf
  refine jr_getI K (D_at DX8_copyFrom 31 rfl) fg_X8_51_6 e58 ?_
  obtain ⟨h61, e61, hf⟩ := jbind hf
  refine jr_putI K (D_at DX8_copyFrom 32 rfl) fp_X8_51_6 (Or.inl rfl) e61 ?_
  refine jr_aload_n K (D_at DX8_copyFrom 33 rfl) rfl rfl ?_
  refine jr_aload_n K (D_at DX8_copyFrom 34 rfl) rfl rfl ?_
  obtain ⟨v66, e66, hf⟩ := jbind hf
  refine jr_getI K (D_at DX8_copyFrom 35 rfl) fg_X8_54_6 e66 ?_
  obtain ⟨h69, e69, hf⟩ := jbind hf
  refine jr_putI K (D_at DX8_copyFrom 36 rfl) fp_X8_54_6 (Or.inl rfl) e69 ?_
  refine jr_aload_n K (D_at DX8_copyFrom 37 rfl) rfl rfl ?_
  refine jr_aload_n K (D_at DX8_copyFrom 38 rfl) rfl rfl ?_
  obtain ⟨v74, e74, hf⟩ := jbind hf
  refine jr_getI K (D_at DX8_copyFrom 39 rfl) fg_X8_57_6 e74 ?_
  obtain ⟨h77, e77, hf⟩ := jbind hf
  refine jr_putI K (D_at DX8_copyFrom 40 rfl) fp_X8_57_6 (Or.inl rfl) e77 ?_
  refine jr_aload_n K (D_at DX8_copyFrom 41 rfl) rfl rfl ?_
  refine jr_aload_n K (D_at DX8_copyFrom 42 rfl) rfl rfl ?_
  obtain ⟨v82, e82, hf⟩ := jbind hf
  refine jr_getI K (D_at DX8_copyFrom 43 rfl) fg_X8_60_6 e82 ?_
  obtain ⟨h85, e85, hf⟩ := jbind hf
  refine jr_putI K (D_at DX8_copyFrom 44 rfl) fp_X8_60_6 (Or.inl rfl) e85 ?_
  refine jr_aload_n K (D_at DX8_copyFrom 45 rfl) rfl rfl ?_
  refine jr_aload_n K (D_at DX8_copyFrom 46 rfl) rfl rfl ?_
  obtain ⟨v90, e90, hf⟩ := jbind hf
  refine jr_getI K (D_at DX8_copyFrom 47 rfl) fg_X8_63_6 e90 ?_
  obtain ⟨h93, e93, hf⟩ := jbind hf
  refine jr_putI K (D_at DX8_copyFrom 48 rfl) fp_X8_63_6 (Or.inl rfl) e93 ?_
  refine jr_aload_n K (D_at DX8_copyFrom 49 rfl) rfl rfl ?_
  refine jr_aload_n K (D_at DX8_copyFrom 50 rfl) rfl rfl ?_
  obtain ⟨v98, e98, hf⟩ := jbind hf
  refine jr_getI K (D_at DX8_copyFrom 51 rfl) fg_X8_31_6 e98 ?_
  obtain ⟨h101, e101, hf⟩ := jbind hf
  refine jr_putI K (D_at DX8_copyFrom 52 rfl) fp_X8_31_6 (Or.inl rfl) e101 ?_
  refine jr_aload_n K (D_at DX8_copyFrom 53 rfl) rfl rfl ?_
  refine jr_aload_n K (D_at DX8_copyFrom 54 rfl) rfl rfl ?_
  obtain ⟨v106, e106, hf⟩ := jbind hf
  refine jr_getI K (D_at DX8_copyFrom 55 rfl) fg_X8_35_6 e106 ?_
  obtain ⟨h109, e109, hf⟩ := jbind hf
  refine jr_putI K (D_at DX8_copyFrom 56 rfl) fp_X8_35_6 (Or.inl rfl) e109 ?_
  refine jr_aload_n K (D_at DX8_copyFrom 57 rfl) rfl rfl ?_
  refine jr_aload_n K (D_at DX8_copyFrom 58 rfl) rfl rfl ?_
  obtain ⟨v114, e114, hf⟩ := jbind hf
  refine jr_getI K (D_at DX8_copyFrom 59 rfl) fg_X8_66_6 e114 ?_
  obtain ⟨h117, e117, hf⟩ := jbind hf
  refine jr_putI K (D_at DX8_copyFrom 60 rfl) fp_X8_66_6 (Or.inl rfl) e117 ?_
  refine jr_aload_n K (D_at DX8_copyFrom 61 rfl) rfl rfl ?_
  refine jr_aload_n K (D_at DX8_copyFrom 62 rfl) rfl rfl ?_
  obtain ⟨v122, e122, hf⟩ := jbind hf
  refine jr_getI K (D_at DX8_copyFrom 63 rfl) fg_X8_69_6 e122 ?_
  obtain ⟨h125, e125, hf⟩ := jbind hf
  refine jr_putI K (D_at DX8_copyFrom_1 0 rfl) fp_X8_69_6 (Or.inl rfl) e125 ?_
  refine jr_aload_n K (D_at DX8_copyFrom_1 1 rfl) rfl rfl ?_
  refine jr_aload_n K (D_at DX8_copyFrom_1 2 rfl) rfl rfl ?_
  obtain ⟨v130, e130, hf⟩ := jbind hf
  refine jr_getI K (D_at DX8_copyFrom_1 3 rfl) fg_X8_38_6 e130 ?_
  obtain ⟨h133, e133, hf⟩ := jbind hf
  refine jr_putI K (D_at DX8_copyFrom_1 4 rfl) fp_X8_38_6 (Or.inl rfl) e133 ?_
  refine jr_aload_n K (D_at DX8_copyFrom_1 5 rfl) rfl rfl ?_
  refine jr_aload_n K (D_at DX8_copyFrom_1 6 rfl) rfl rfl ?_
  obtain ⟨v138, e138, hf⟩ := jbind hf
  refine jr_getI K (D_at DX8_copyFrom_1 7 rfl) fg_X8_72_6 e138 ?_
  obtain ⟨h141, e141, hf⟩ := jbind hf
  refine jr_putI K (D_at DX8_copyFrom_1 8 rfl) fp_X8_72_6 (Or.inl rfl) e141 ?_
  refine jr_aload_n K (D_at DX8_copyFrom_1 9 rfl) rfl rfl ?_
  refine jr_aload_n K (D_at DX8_copyFrom_1 10 rfl) rfl rfl ?_
  obtain ⟨h146, e146, hf⟩ := jbind hf
  obtain ⟨rc_146, e146⟩ := jcv_o e146
  refine jr_callV K (C_X8_hangAs (d) e146) (D_at DX8_copyFrom_1 11 rfl) cv_X8_75_X8_hangAs (As := [.ref a1]) (ci := 6) rfl rc_146 rfl rfl (by exact Nat.le_of_ble_eq_true rfl) (kc2 := 0) (ks2 := 0) rfl rfl (fun k9 h9 w9 => by cases w9.1) (fun r9 h9 w9 => ?_)
  obtain ⟨w1, w2⟩ := w9
  subst h9
  cases w1
  show jJ G X _ 0 0 _ _ []
  cases hf
  exact jr_vret K E (D_at DX8_copyFrom_1 12 rfl) rfl ⟨rfl, rfl⟩
theorem C_X8_copyFrom {G : jG} {l : Launch} (d : Nat) {n : Nat} {a0 : Nat} {a1 : Nat} {h : jH} {res : jH} (hf : F_X8_copyFrom n a0 a1 h = some res) : jC G l mX8_copyFrom (d + 2) 0 0 [.ref a0, .ref a1] h (jPV res) :=
  jC.of (by decide +kernel) (jcats rfl) (Nat.le_of_ble_eq_true rfl) (fun X K E => J_X8_copyFrom K n E a0 a1 h hf)
set_option maxHeartbeats 400000 in
set_option maxRecDepth 100000 in
theorem J_X0_remember_63 {G : jG} {l : Launch} {d : Nat} {X : jX} {res : jH} (K : jOK G l mX0_remember (d + 3) X) (n : Nat) (E : jEnd G mX0_remember (jPV res) X) (a0 : Nat) (sa0 : Nat) (s1 : Int32) (h : jH) (hf : F_X0_remember_63 n a0 sa0 s1 h = some res) : jJ G X h 0 0 63 [some (.ref a0), none] [.int s1, .ref sa0] := by
  unfold F_X0_remember_63 at hf
  obtain ⟨h63, e63, hf⟩ := jbind hf
  refine jr_putI K (D_at DX0_remember 34 rfl) fp_X0_15_0 (Or.inl rfl) e63 ?_
  refine jr_aload_n K (D_at DX0_remember 35 rfl) rfl rfl ?_
  refine jr_bipush K (D_at DX0_remember 36 rfl) (v := (12 : Int32)) (by decide) ?_
  refine jr_aload_n K (D_at DX0_remember 37 rfl) rfl rfl ?_
  obtain ⟨v70, e70, hf⟩ := jbind hf
  refine jr_getI K (D_at DX0_remember 38 rfl) fg_X0_24_0 e70 ?_
  refine jr_iconst K (D_at DX0_remember 39 rfl) (v := (1 : Int32)) (by decide) ?_
  refine jr_iadd K (D_at DX0_remember 40 rfl) ?_
  refine jr_min K (D_at DX0_remember 41 rfl) mm_X0_27 (by exact Nat.le_of_ble_eq_true rfl) ?_
  obtain ⟨h78, e78, hf⟩ := jbind hf
  refine jr_putI K (D_at DX0_remember 42 rfl) fp_X0_24_0 (Or.inl rfl) e78 ?_
  cases hf
  exact jr_vret K E (D_at DX0_remember 43 rfl) rfl ⟨rfl, rfl⟩
set_option maxHeartbeats 400000 in
set_option maxRecDepth 100000 in
theorem J_X0_remember_28 {G : jG} {l : Launch} {d : Nat} {X : jX} {res : jH} (K : jOK G l mX0_remember (d + 3) X) (n : Nat) (E : jEnd G mX0_remember (jPV res) X) (a0 : Nat) (a1 : Nat) (h : jH) (hf : F_X0_remember_28 n a0 a1 h = some res) : jJ G X h 0 0 28 [some (.ref a0), some (.ref a1)] [] := by
  unfold F_X0_remember_28 at hf
  refine jr_aload_n K (D_at DX0_remember 14 rfl) rfl rfl ?_
  obtain ⟨p29, e29, hf⟩ := jbind hf
  refine jr_getR K (D_at DX0_remember 15 rfl) fg_X0_11_0 e29 ?_
  refine jr_aload_n K (D_at DX0_remember 16 rfl) rfl rfl ?_
  obtain ⟨v33, e33, hf⟩ := jbind hf
  refine jr_getI K (D_at DX0_remember 17 rfl) fg_X0_15_0 e33 ?_
  obtain ⟨o36, e36, hf⟩ := jbind hf
  refine jr_aald K (D_at DX0_remember 18 rfl) e36 ?_
  refine jr_aload_n K (D_at DX0_remember 19 rfl) rfl rfl ?_
  cases o36 with
  | none => exact jno (show (none : Option jH) = some res from hf)
  | some p38 =>
    dsimp only at hf
    obtain ⟨h38, e38, hf⟩ := jbind hf
    obtain ⟨rc_38, e38⟩ := jcv_o e38
    refine jr_callV K (C_X8_copyFrom (d) e38) (D_at DX0_remember 20 rfl) cv_X0_20_X8_copyFrom (As := [.ref a1]) (ci := 6) rfl rc_38 rfl rfl (by exact Nat.le_of_ble_eq_true rfl) (kc2 := 0) (ks2 := 0) rfl rfl (fun k9 h9 w9 => by cases w9.1) (fun r9 h9 w9 => ?_)
    obtain ⟨w1, w2⟩ := w9
    subst h9
    cases w1
    show jJ G X _ 0 0 _ _ []
    refine jr_aload_n K (D_at DX0_remember 21 rfl) rfl rfl ?_
    refine jr_aload_n K (D_at DX0_remember 22 rfl) rfl rfl ?_
    obtain ⟨v43, e43, hf⟩ := jbind hf
    refine jr_getI K (D_at DX0_remember 23 rfl) fg_X0_15_0 e43 ?_
    refine jr_iconst K (D_at DX0_remember 24 rfl) (v := (1 : Int32)) (by decide) ?_
    refine jr_iadd K (D_at DX0_remember 25 rfl) ?_
    refine jr_bipush K (D_at DX0_remember 26 rfl) (v := (12 : Int32)) (by decide) ?_
    refine jr_icmp_ge K (D_at DX0_remember 27 rfl) (tgt := 62) (by decide) (fun c50 => ?_) (fun c50 => ?_)
    · replace hf := (if_pos c50).symm.trans hf
      refine jr_iconst K (D_at DX0_remember 33 rfl) (v := (0 : Int32)) (by decide) ?_
      refine jr_keep [true, false] ?_
      exact J_X0_remember_63 K n E a0 a0 (0 : Int32) h38 hf
    · replace hf := (if_neg c50).symm.trans hf
      refine jr_aload_n K (D_at DX0_remember 28 rfl) rfl rfl ?_
      obtain ⟨v54, e54, hf⟩ := jbind hf
      refine jr_getI K (D_at DX0_remember 29 rfl) fg_X0_15_0 e54 ?_
      refine jr_iconst K (D_at DX0_remember 30 rfl) (v := (1 : Int32)) (by decide) ?_
      refine jr_iadd K (D_at DX0_remember 31 rfl) ?_
      refine jr_goto K (D_at DX0_remember 32 rfl) (tgt := 63) (by decide) ?_
      refine jr_keep [true, false] ?_
      exact J_X0_remember_63 K n E a0 a0 (v54 + (1 : Int32)) h38 hf
set_option maxHeartbeats 400000 in
set_option maxRecDepth 100000 in
theorem J_X0_remember {G : jG} {l : Launch} {d : Nat} {X : jX} {res : jH} (K : jOK G l mX0_remember (d + 3) X) (n : Nat) (E : jEnd G mX0_remember (jPV res) X) (a0 : Nat) (a1 : Nat) (h : jH) (hf : F_X0_remember n a0 a1 h = some res) : jJ G X h 7 113 0 [some (.ref a0), some (.ref a1)] [] := by
  unfold F_X0_remember at hf
  refine jr_aload_n K (D_at DX0_remember 0 rfl) rfl rfl ?_
  obtain ⟨p1, e1, hf⟩ := jbind hf
  refine jr_getR K (D_at DX0_remember 1 rfl) fg_X0_11_0 e1 ?_
  refine jr_aload_n K (D_at DX0_remember 2 rfl) rfl rfl ?_
  obtain ⟨v5, e5, hf⟩ := jbind hf
  refine jr_getI K (D_at DX0_remember 3 rfl) fg_X0_15_0 e5 ?_
  obtain ⟨o8, e8, hf⟩ := jbind hf
  refine jr_aald K (D_at DX0_remember 4 rfl) e8 ?_
  cases o8 with
  | none =>
    dsimp only at hf
    refine jr_ifnonnullN K (D_at DX0_remember 5 rfl) ?_
    refine jr_aload_n K (D_at DX0_remember 6 rfl) rfl rfl ?_
    obtain ⟨p13, e13, hf⟩ := jbind hf
    refine jr_getR K (D_at DX0_remember 7 rfl) fg_X0_11_0 e13 ?_
    refine jr_aload_n K (D_at DX0_remember 8 rfl) rfl rfl ?_
    obtain ⟨v17, e17, hf⟩ := jbind hf
    refine jr_getI K (D_at DX0_remember 9 rfl) fg_X0_15_0 e17 ?_
    obtain ⟨h20, e20, hf⟩ := jbind hf
    refine jr_newE (N := 18) K (D_at DX0_remember 10 rfl) fn_X0_9 (kc := 6) (ks := 95) e20 ?_
    refine jr_dup K (D_at DX0_remember 11 rfl) rfl ?_
    obtain ⟨h24, e24, hf⟩ := jbind hf
    refine jr_callIN K (C_X8_init (d) e24) (D_at DX0_remember 12 rfl) cin_X0_19_X8_init (As := []) rfl rfl (by exact Nat.le_of_ble_eq_true rfl) (kc2 := 0) (ks2 := 0) rfl rfl (fun k9 h9 w9 => by cases w9.1) (fun r9 h9 w9 => ?_)
    obtain ⟨w1, w2⟩ := w9
    subst h9
    cases w1
    obtain ⟨h27, e27, hf⟩ := jbind hf
    refine jr_aast K (D_at DX0_remember 13 rfl) e27 ?_
    refine jr_keep [true, true] ?_
    exact J_X0_remember_28 K n E a0 a1 h27 hf
  | some p9 =>
    dsimp only at hf
    refine jr_ifnonnull K (D_at DX0_remember 5 rfl) (tgt := 28) (by decide) ?_
    refine jr_credit (kc' := 0) (ks' := 0) (by decide) (by decide) ?_
    refine jr_keep [true, true] ?_
    exact J_X0_remember_28 K n E a0 a1 h hf
theorem C_X0_remember {G : jG} {l : Launch} (d : Nat) {n : Nat} {a0 : Nat} {a1 : Nat} {h : jH} {res : jH} (hf : F_X0_remember n a0 a1 h = some res) : jC G l mX0_remember (d + 3) 7 113 [.ref a0, .ref a1] h (jPV res) :=
  jC.of (by decide +kernel) (jcats rfl) (Nat.le_of_ble_eq_true rfl) (fun X K E => J_X0_remember K n E a0 a1 h hf)
set_option maxHeartbeats 400000 in
set_option maxRecDepth 100000 in
theorem J_X0_takeBack_18 {G : jG} {l : Launch} {d : Nat} {X : jX} {res : (Int32 × jH)} (K : jOK G l mX0_takeBack (d + 3) X) (n : Nat) (E : jEnd G mX0_takeBack (jPW res) X) (a0 : Nat) (a1 : Nat) (s0 : Int32) (h : jH) (hf : F_X0_takeBack_18 n a0 a1 s0 h = some res) : jJ G X h 0 0 18 [some (.ref a0), some (.ref a1), none] [.int s0] := by
  unfold F_X0_takeBack_18 at hf
  refine jr_istore_n K (D_at DX0_takeBack 9 rfl) (i := 2) rfl (by decide) (L2 := [_, _, _]) rfl ?_
  refine jr_aload_n K (D_at DX0_takeBack 10 rfl) rfl rfl ?_
  obtain ⟨v20, e20, hf⟩ := jbind hf
  refine jr_getI K (D_at DX0_takeBack 11 rfl) fg_X0_24_0 e20 ?_
  refine jr_if_eq K (D_at DX0_takeBack 12 rfl) (tgt := 35) (by decide) (fun c23 => ?_) (fun c23 => ?_)
  · replace hf := (if_pos c23).symm.trans hf
    refine jr_iconst K (D_at DX0_takeBack 18 rfl) (v := (0 : Int32)) (by decide) ?_
    cases hf
    exact jr_zret K E (D_at DX0_takeBack 19 rfl) rfl (Or.inl rfl) ⟨rfl, rfl⟩
  · replace hf := (if_neg c23).symm.trans hf
    refine jr_aload_n K (D_at DX0_takeBack 13 rfl) rfl rfl ?_
    obtain ⟨p27, e27, hf⟩ := jbind hf
    refine jr_getR K (D_at DX0_takeBack 14 rfl) fg_X0_11_0 e27 ?_
    refine jr_iload_n K (D_at DX0_takeBack 15 rfl) rfl rfl ?_
    obtain ⟨o31, e31, hf⟩ := jbind hf
    refine jr_aald K (D_at DX0_takeBack 16 rfl) e31 ?_
    cases o31 with
    | none =>
      dsimp only at hf
      refine jr_ifnonnullN K (D_at DX0_takeBack 17 rfl) ?_
      refine jr_iconst K (D_at DX0_takeBack 18 rfl) (v := (0 : Int32)) (by decide) ?_
      cases hf
      exact jr_zret K E (D_at DX0_takeBack 19 rfl) rfl (Or.inl rfl) ⟨rfl, rfl⟩
    | some p32 =>
      dsimp only at hf
      refine jr_ifnonnull K (D_at DX0_takeBack 17 rfl) (tgt := 37) (by decide) ?_
      refine jr_aload_n K (D_at DX0_takeBack 20 rfl) rfl rfl ?_
      refine jr_aload_n K (D_at DX0_takeBack 21 rfl) rfl rfl ?_
      obtain ⟨p39, e39, hf⟩ := jbind hf
      refine jr_getR K (D_at DX0_takeBack 22 rfl) fg_X0_11_0 e39 ?_
      refine jr_iload_n K (D_at DX0_takeBack 23 rfl) rfl rfl ?_
      obtain ⟨o43, e43, hf⟩ := jbind hf
      refine jr_aald K (D_at DX0_takeBack 24 rfl) e43 ?_
      cases o43 with
      | none => exact jno (show (none : Option (Int32 × jH)) = some res from hf)
      | some p44_0 =>
        dsimp only at hf
        obtain ⟨h44, e44, hf⟩ := jbind hf
        obtain ⟨rc_44, e44⟩ := jcv_o e44
        refine jr_callV K (C_X8_copyFrom (d) e44) (D_at DX0_takeBack 25 rfl) cv_X0_20_X8_copyFrom (As := [.ref p44_0]) (ci := 6) rfl rc_44 rfl rfl (by exact Nat.le_of_ble_eq_true rfl) (kc2 := 0) (ks2 := 0) rfl rfl (fun k9 h9 w9 => by cases w9.1) (fun r9 h9 w9 => ?_)
        obtain ⟨w1, w2⟩ := w9
        subst h9
        cases w1
        show jJ G X _ 0 0 _ _ []
        refine jr_aload_n K (D_at DX0_takeBack 26 rfl) rfl rfl ?_
        refine jr_iload_n K (D_at DX0_takeBack 27 rfl) rfl rfl ?_
        obtain ⟨h49, e49, hf⟩ := jbind hf
        refine jr_putI K (D_at DX0_takeBack 28 rfl) fp_X0_15_0 (Or.inl rfl) e49 ?_
        refine jr_aload_n K (D_at DX0_takeBack 29 rfl) rfl rfl ?_
        refine jr_dup K (D_at DX0_takeBack 30 rfl) rfl ?_
        obtain ⟨v54, e54, hf⟩ := jbind hf
        refine jr_getI K (D_at DX0_takeBack 31 rfl) fg_X0_24_0 e54 ?_
        refine jr_iconst K (D_at DX0_takeBack 32 rfl) (v := (1 : Int32)) (by decide) ?_
        refine jr_isub K (D_at DX0_takeBack 33 rfl) ?_
        obtain ⟨h59, e59, hf⟩ := jbind hf
        refine jr_putI K (D_at DX0_takeBack 34 rfl) fp_X0_24_0 (Or.inl rfl) e59 ?_
        refine jr_iconst K (D_at DX0_takeBack 35 rfl) (v := (1 : Int32)) (by decide) ?_
        cases hf
        exact jr_zret K E (D_at DX0_takeBack 36 rfl) rfl (Or.inr rfl) ⟨rfl, rfl⟩
set_option maxHeartbeats 400000 in
set_option maxRecDepth 100000 in
theorem J_X0_takeBack {G : jG} {l : Launch} {d : Nat} {X : jX} {res : (Int32 × jH)} (K : jOK G l mX0_takeBack (d + 3) X) (n : Nat) (E : jEnd G mX0_takeBack (jPW res) X) (a0 : Nat) (a1 : Nat) (h : jH) (hf : F_X0_takeBack n a0 a1 h = some res) : jJ G X h 0 0 0 [some (.ref a0), some (.ref a1), none] [] := by
  unfold F_X0_takeBack at hf
  refine jr_aload_n K (D_at DX0_takeBack 0 rfl) rfl rfl ?_
  obtain ⟨v1, e1, hf⟩ := jbind hf
  refine jr_getI K (D_at DX0_takeBack 1 rfl) fg_X0_15_0 e1 ?_
  refine jr_if_le K (D_at DX0_takeBack 2 rfl) (tgt := 16) (by decide) (fun c4 => ?_) (fun c4 => ?_)
  · replace hf := (if_pos c4).symm.trans hf
    refine jr_bipush K (D_at DX0_takeBack 8 rfl) (v := (11 : Int32)) (by decide) ?_
    refine jr_keep [true, true, false] ?_
    exact J_X0_takeBack_18 K n E a0 a1 (11 : Int32) h hf
  · replace hf := (if_neg c4).symm.trans hf
    refine jr_aload_n K (D_at DX0_takeBack 3 rfl) rfl rfl ?_
    obtain ⟨v8, e8, hf⟩ := jbind hf
    refine jr_getI K (D_at DX0_takeBack 4 rfl) fg_X0_15_0 e8 ?_
    refine jr_iconst K (D_at DX0_takeBack 5 rfl) (v := (1 : Int32)) (by decide) ?_
    refine jr_isub K (D_at DX0_takeBack 6 rfl) ?_
    refine jr_goto K (D_at DX0_takeBack 7 rfl) (tgt := 18) (by decide) ?_
    refine jr_keep [true, true, false] ?_
    exact J_X0_takeBack_18 K n E a0 a1 (v8 - (1 : Int32)) h hf
theorem C_X0_takeBack {G : jG} {l : Launch} (d : Nat) {n : Nat} {a0 : Nat} {a1 : Nat} {h : jH} {res : (Int32 × jH)} (hf : F_X0_takeBack n a0 a1 h = some res) : jC G l mX0_takeBack (d + 3) 0 0 [.ref a0, .ref a1] h (jPW res) :=
  jC.of (by decide +kernel) (jcats rfl) (Nat.le_of_ble_eq_true rfl) (fun X K E => J_X0_takeBack K n E a0 a1 h hf)
set_option maxHeartbeats 400000 in
set_option maxRecDepth 100000 in
theorem J_X0_forget {G : jG} {l : Launch} {d : Nat} {X : jX} {res : jH} (K : jOK G l mX0_forget (d) X) (n : Nat) (E : jEnd G mX0_forget (jPV res) X) (a0 : Nat) (h : jH) (hf : F_X0_forget n a0 h = some res) : jJ G X h 0 0 0 [some (.ref a0)] [] := by
  unfold F_X0_forget at hf
  refine jr_aload_n K (D_at DX0_forget 0 rfl) rfl rfl ?_
  refine jr_iconst K (D_at DX0_forget 1 rfl) (v := (0 : Int32)) (by decide) ?_
  obtain ⟨h2, e2, hf⟩ := jbind hf
  refine jr_putI K (D_at DX0_forget 2 rfl) fp_X0_24_0 (Or.inl rfl) e2 ?_
  cases hf
  exact jr_vret K E (D_at DX0_forget 3 rfl) rfl ⟨rfl, rfl⟩
theorem C_X0_forget {G : jG} {l : Launch} (d : Nat) {n : Nat} {a0 : Nat} {h : jH} {res : jH} (hf : F_X0_forget n a0 h = some res) : jC G l mX0_forget (d) 0 0 [.ref a0] h (jPV res) :=
  jC.of (by decide +kernel) (jcats rfl) (Nat.le_of_ble_eq_true rfl) (fun X K E => J_X0_forget K n E a0 h hf)
set_option maxHeartbeats 400000 in
set_option maxRecDepth 100000 in
theorem J_X1_init {G : jG} {l : Launch} {d : Nat} {X : jX} {res : jH} (K : jOK G l mX1_init (d + 1) X) (n : Nat) (E : jEnd G mX1_init (jPV res) X) (a0 : Nat) (a1 : Nat) (a2 : Nat) (h : jH) (hf : F_X1_init n a0 a1 a2 h = some res) : jJ G X h 0 0 0 [some (.ref a0), some (.ref a1), some (.ref a2)] [] := by
  unfold F_X1_init at hf
  refine jr_aload_n K (D_at DX1_init 0 rfl) rfl rfl ?_
  refine jr_objInit K (D_at DX1_init 1 rfl) oi_X1_3 (by exact Nat.le_of_ble_eq_true rfl) ?_
  refine jr_aload_n K (D_at DX1_init 2 rfl) rfl rfl ?_
  refine jr_aload_n K (D_at DX1_init 3 rfl) rfl rfl ?_
  obtain ⟨h6, e6, hf⟩ := jbind hf
  refine jr_putR K (D_at DX1_init 4 rfl) fp_X1_9_1 (Or.inr rfl) e6 ?_
  refine jr_aload_n K (D_at DX1_init 5 rfl) rfl rfl ?_
  refine jr_aload_n K (D_at DX1_init 6 rfl) rfl rfl ?_
  obtain ⟨h11, e11, hf⟩ := jbind hf
  refine jr_putR K (D_at DX1_init 7 rfl) fp_X1_15_1 (Or.inr rfl) e11 ?_
  cases hf
  exact jr_vret K E (D_at DX1_init 8 rfl) rfl ⟨rfl, rfl⟩
theorem C_X1_init {G : jG} {l : Launch} (d : Nat) {n : Nat} {a0 : Nat} {a1 : Nat} {a2 : Nat} {h : jH} {res : jH} (hf : F_X1_init n a0 a1 a2 h = some res) : jC G l mX1_init (d + 1) 0 0 [.ref a0, .ref a1, .ref a2] h (jPV res) :=
  jC.of (by decide +kernel) (jcats rfl) (Nat.le_of_ble_eq_true rfl) (fun X K E => J_X1_init K n E a0 a1 a2 h hf)
set_option maxHeartbeats 400000 in
set_option maxRecDepth 100000 in
theorem J_X8_isLit {G : jG} {l : Launch} {d : Nat} {X : jX} {res : Int32} (K : jOK G l mX8_isLit (d) X) (n : Nat) (h : jH) (E : jEnd G mX8_isLit (jPR h res) X) (a0 : Nat) (x1 : Int32) (x2 : Int32) (hf : F_X8_isLit n a0 x1 x2 h = some res) : jJ G X h 0 0 0 [some (.ref a0), some (.int x1), some (.int x2)] [] := by
  unfold F_X8_isLit at hf
  refine jr_aload_n K (D_at DX8_isLit 0 rfl) rfl rfl ?_
  obtain ⟨p1, e1, hf⟩ := jbind hf
  refine jr_getR K (D_at DX8_isLit 1 rfl) fg_X8_9_6 e1 ?_
  refine jr_iload_n K (D_at DX8_isLit 2 rfl) rfl rfl ?_
  obtain ⟨v5, e5, hf⟩ := jbind hf
  refine jr_iald K (D_at DX8_isLit 3 rfl) e5 ?_
  refine jr_iconst K (D_at DX8_isLit 4 rfl) (v := (4 : Int32)) (by decide) ?_
  refine jr_iload_n K (D_at DX8_isLit 5 rfl) rfl rfl ?_
  refine jr_imul K (D_at DX8_isLit 6 rfl) ?_
  refine jr_icmp_lt K (D_at DX8_isLit 7 rfl) (tgt := 33) (by decide) (fun c9 => ?_) (fun c9 => ?_)
  · replace hf := (if_pos c9).symm.trans hf
    refine jr_iconst K (D_at DX8_isLit 21 rfl) (v := (0 : Int32)) (by decide) ?_
    cases hf
    exact jr_zret K E (D_at DX8_isLit 22 rfl) rfl (Or.inl rfl) ⟨rfl, rfl⟩
  · replace hf := (if_neg c9).symm.trans hf
    refine jr_aload_n K (D_at DX8_isLit 8 rfl) rfl rfl ?_
    obtain ⟨p13, e13, hf⟩ := jbind hf
    refine jr_getR K (D_at DX8_isLit 9 rfl) fg_X8_9_6 e13 ?_
    refine jr_iload_n K (D_at DX8_isLit 10 rfl) rfl rfl ?_
    obtain ⟨v17, e17, hf⟩ := jbind hf
    refine jr_iald K (D_at DX8_isLit 11 rfl) e17 ?_
    refine jr_iconst K (D_at DX8_isLit 12 rfl) (v := (4 : Int32)) (by decide) ?_
    refine jr_iload_n K (D_at DX8_isLit 13 rfl) rfl rfl ?_
    refine jr_imul K (D_at DX8_isLit 14 rfl) ?_
    refine jr_aload_n K (D_at DX8_isLit 15 rfl) rfl rfl ?_
    obtain ⟨v22, e22, hf⟩ := jbind hf
    refine jr_getI K (D_at DX8_isLit 16 rfl) fg_X8_35_6 e22 ?_
    refine jr_iadd K (D_at DX8_isLit 17 rfl) ?_
    refine jr_icmp_gt K (D_at DX8_isLit 18 rfl) (tgt := 33) (by decide) (fun c26 => ?_) (fun c26 => ?_)
    · replace hf := (if_pos c26).symm.trans hf
      refine jr_iconst K (D_at DX8_isLit 21 rfl) (v := (0 : Int32)) (by decide) ?_
      cases hf
      exact jr_zret K E (D_at DX8_isLit 22 rfl) rfl (Or.inl rfl) ⟨rfl, rfl⟩
    · replace hf := (if_neg c26).symm.trans hf
      refine jr_iconst K (D_at DX8_isLit 19 rfl) (v := (1 : Int32)) (by decide) ?_
      refine jr_goto K (D_at DX8_isLit 20 rfl) (tgt := 34) (by decide) ?_
      cases hf
      exact jr_zret K E (D_at DX8_isLit 22 rfl) rfl (Or.inr rfl) ⟨rfl, rfl⟩
theorem C_X8_isLit {G : jG} {l : Launch} (d : Nat) {n : Nat} {a0 : Nat} {x1 : Int32} {x2 : Int32} {h : jH} {res : Int32} (hf : F_X8_isLit n a0 x1 x2 h = some res) : jC G l mX8_isLit (d) 0 0 [.ref a0, .int x1, .int x2] h (jPR h res) :=
  jC.of (by decide +kernel) (jcats rfl) (Nat.le_of_ble_eq_true rfl) (fun X K E => J_X8_isLit K n h E a0 x1 x2 hf)
set_option maxHeartbeats 400000 in
set_option maxRecDepth 100000 in
theorem J_X2_untoldAmount {G : jG} {l : Launch} {d : Nat} {X : jX} {res : Int32} (K : jOK G l mX2_untoldAmount (d + 1) X) (n : Nat) (h : jH) (E : jEnd G mX2_untoldAmount (jPR h res) X) (x0 : Int32) (a1 : Nat) (x2 : Int32) (hf : F_X2_untoldAmount n x0 a1 x2 h = some res) : jJ G X h 0 0 0 [some (.int x0), some (.ref a1), some (.int x2)] [] := by
  unfold F_X2_untoldAmount at hf
  refine jr_iload_n K (D_at DX2_untoldAmount 0 rfl) rfl rfl ?_
  refine jr_if_ne K (D_at DX2_untoldAmount 1 rfl) (tgt := 22) (by decide) (fun c1 => ?_) (fun c1 => ?_)
  · replace hf := (if_neg c1).symm.trans hf
    refine jr_iload_n K (D_at DX2_untoldAmount 12 rfl) rfl rfl ?_
    refine jr_iconst K (D_at DX2_untoldAmount 13 rfl) (v := (1 : Int32)) (by decide) ?_
    refine jr_icmp_ne K (D_at DX2_untoldAmount 14 rfl) (tgt := 32) (by decide) (fun c24 => ?_) (fun c24 => ?_)
    · replace hf := (if_neg c24).symm.trans hf
      refine jr_iconst K (D_at DX2_untoldAmount 17 rfl) (v := (0 : Int32)) (by decide) ?_
      cases hf
      exact jr_iret K E (D_at DX2_untoldAmount 18 rfl) rfl ⟨rfl, rfl⟩
    · replace hf := (if_pos c24).symm.trans hf
      refine jr_bipush K (D_at DX2_untoldAmount 15 rfl) (v := (10 : Int32)) (by decide) ?_
      refine jr_goto K (D_at DX2_untoldAmount 16 rfl) (tgt := 33) (by decide) ?_
      cases hf
      exact jr_iret K E (D_at DX2_untoldAmount 18 rfl) rfl ⟨rfl, rfl⟩
  · replace hf := (if_pos c1).symm.trans hf
    refine jr_aload_n K (D_at DX2_untoldAmount 2 rfl) rfl rfl ?_
    refine jr_iload_n K (D_at DX2_untoldAmount 3 rfl) rfl rfl ?_
    refine jr_aload_n K (D_at DX2_untoldAmount 4 rfl) rfl rfl ?_
    obtain ⟨v7, e7, hf⟩ := jbind hf
    refine jr_getI K (D_at DX2_untoldAmount 5 rfl) fg_X2_52_6 e7 ?_
    obtain ⟨v10, e10, hf⟩ := jbind hf
    obtain ⟨rc_10, e10⟩ := jcv_o e10
    refine jr_callV K (C_X8_isLit (d) e10) (D_at DX2_untoldAmount 6 rfl) cv_X2_57_X8_isLit (As := [.int x2, .int v7]) (ci := 6) rfl rc_10 rfl rfl (by exact Nat.le_of_ble_eq_true rfl) (kc2 := 0) (ks2 := 0) rfl rfl (fun k9 h9 w9 => by cases w9.1) (fun r9 h9 w9 => ?_)
    obtain ⟨w1, w2⟩ := w9
    subst h9
    cases w1
    show jJ G X _ 0 0 _ _ (.int v10 :: _)
    refine jr_if_eq K (D_at DX2_untoldAmount 7 rfl) (tgt := 20) (by decide) (fun c13 => ?_) (fun c13 => ?_)
    · replace hf := (if_pos c13).symm.trans hf
      refine jr_iconst K (D_at DX2_untoldAmount 10 rfl) (v := (0 : Int32)) (by decide) ?_
      cases hf
      exact jr_iret K E (D_at DX2_untoldAmount 11 rfl) rfl ⟨rfl, rfl⟩
    · replace hf := (if_neg c13).symm.trans hf
      refine jr_iconst K (D_at DX2_untoldAmount 8 rfl) (v := (1 : Int32)) (by decide) ?_
      refine jr_goto K (D_at DX2_untoldAmount 9 rfl) (tgt := 21) (by decide) ?_
      cases hf
      exact jr_iret K E (D_at DX2_untoldAmount 11 rfl) rfl ⟨rfl, rfl⟩
theorem C_X2_untoldAmount {G : jG} {l : Launch} (d : Nat) {n : Nat} {x0 : Int32} {a1 : Nat} {x2 : Int32} {h : jH} {res : Int32} (hf : F_X2_untoldAmount n x0 a1 x2 h = some res) : jC G l mX2_untoldAmount (d + 1) 0 0 [.int x0, .ref a1, .int x2] h (jPR h res) :=
  jC.of (by decide +kernel) (jcats rfl) (Nat.le_of_ble_eq_true rfl) (fun X K E => J_X2_untoldAmount K n h E x0 a1 x2 hf)
set_option maxHeartbeats 400000 in
set_option maxRecDepth 100000 in
theorem J_X2_isValue {G : jG} {l : Launch} {d : Nat} {X : jX} {res : Int32} (K : jOK G l mX2_isValue (d) X) (n : Nat) (h : jH) (E : jEnd G mX2_isValue (jPR h res) X) (x0 : Int32) (hf : F_X2_isValue n x0 h = some res) : jJ G X h 0 0 0 [some (.int x0)] [] := by
  unfold F_X2_isValue at hf
  refine jr_iload_n K (D_at DX2_isValue 0 rfl) rfl rfl ?_
  refine jr_sipush K (D_at DX2_isValue 1 rfl) (v := (256 : Int32)) (by decide) ?_
  refine jr_icmp_ge K (D_at DX2_isValue 2 rfl) (tgt := 13) (by decide) (fun c4 => ?_) (fun c4 => ?_)
  · replace hf := (if_pos c4).symm.trans hf
    refine jr_iconst K (D_at DX2_isValue 6 rfl) (v := (1 : Int32)) (by decide) ?_
    refine jr_goto K (D_at DX2_isValue 7 rfl) (tgt := 18) (by decide) ?_
    cases hf
    exact jr_zret K E (D_at DX2_isValue 9 rfl) rfl (Or.inr rfl) ⟨rfl, rfl⟩
  · replace hf := (if_neg c4).symm.trans hf
    refine jr_iload_n K (D_at DX2_isValue 3 rfl) rfl rfl ?_
    refine jr_bipush K (D_at DX2_isValue 4 rfl) (v := (10 : Int32)) (by decide) ?_
    refine jr_icmp_gt K (D_at DX2_isValue 5 rfl) (tgt := 17) (by decide) (fun c10 => ?_) (fun c10 => ?_)
    · replace hf := (if_pos c10).symm.trans hf
      refine jr_iconst K (D_at DX2_isValue 8 rfl) (v := (0 : Int32)) (by decide) ?_
      cases hf
      exact jr_zret K E (D_at DX2_isValue 9 rfl) rfl (Or.inl rfl) ⟨rfl, rfl⟩
    · replace hf := (if_neg c10).symm.trans hf
      refine jr_iconst K (D_at DX2_isValue 6 rfl) (v := (1 : Int32)) (by decide) ?_
      refine jr_goto K (D_at DX2_isValue 7 rfl) (tgt := 18) (by decide) ?_
      cases hf
      exact jr_zret K E (D_at DX2_isValue 9 rfl) rfl (Or.inr rfl) ⟨rfl, rfl⟩
theorem C_X2_isValue {G : jG} {l : Launch} (d : Nat) {n : Nat} {x0 : Int32} {h : jH} {res : Int32} (hf : F_X2_isValue n x0 h = some res) : jC G l mX2_isValue (d) 0 0 [.int x0] h (jPR h res) :=
  jC.of (by decide +kernel) (jcats rfl) (Nat.le_of_ble_eq_true rfl) (fun X K E => J_X2_isValue K n h E x0 hf)
set_option maxHeartbeats 400000 in
set_option maxRecDepth 100000 in
theorem J_X8_gap {G : jG} {l : Launch} {d : Nat} {X : jX} {res : Int32} (K : jOK G l mX8_gap (d) X) (n : Nat) (h : jH) (E : jEnd G mX8_gap (jPR h res) X) (a0 : Nat) (x1 : Int32) (x2 : Int32) (hf : F_X8_gap n a0 x1 x2 h = some res) : jJ G X h 0 0 0 [some (.ref a0), some (.int x1), some (.int x2)] [] := by
  unfold F_X8_gap at hf
  refine jr_iload_n K (D_at DX8_gap 0 rfl) rfl rfl ?_
  refine jr_if_lt K (D_at DX8_gap 1 rfl) (tgt := 14) (by decide) (fun c1 => ?_) (fun c1 => ?_)
  · replace hf := (if_pos c1).symm.trans hf
    refine jr_iload_n K (D_at DX8_gap 8 rfl) rfl rfl ?_
    refine jr_goto K (D_at DX8_gap 9 rfl) (tgt := 33) (by decide) ?_
    cases hf
    exact jr_iret K E (D_at DX8_gap 21 rfl) rfl ⟨rfl, rfl⟩
  · replace hf := (if_neg c1).symm.trans hf
    refine jr_iload_n K (D_at DX8_gap 2 rfl) rfl rfl ?_
    refine jr_aload_n K (D_at DX8_gap 3 rfl) rfl rfl ?_
    obtain ⟨v6, e6, hf⟩ := jbind hf
    refine jr_getI K (D_at DX8_gap 4 rfl) fg_X8_51_6 e6 ?_
    refine jr_iconst K (D_at DX8_gap 5 rfl) (v := (1 : Int32)) (by decide) ?_
    refine jr_isub K (D_at DX8_gap 6 rfl) ?_
    refine jr_icmp_lt K (D_at DX8_gap 7 rfl) (tgt := 18) (by decide) (fun c11 => ?_) (fun c11 => ?_)
    · replace hf := (if_pos c11).symm.trans hf
      refine jr_aload_n K (D_at DX8_gap 10 rfl) rfl rfl ?_
      obtain ⟨p19, e19, hf⟩ := jbind hf
      refine jr_getR K (D_at DX8_gap 11 rfl) fg_X8_9_6 e19 ?_
      refine jr_iload_n K (D_at DX8_gap 12 rfl) rfl rfl ?_
      refine jr_iconst K (D_at DX8_gap 13 rfl) (v := (1 : Int32)) (by decide) ?_
      refine jr_iadd K (D_at DX8_gap 14 rfl) ?_
      obtain ⟨v25, e25, hf⟩ := jbind hf
      refine jr_iald K (D_at DX8_gap 15 rfl) e25 ?_
      refine jr_aload_n K (D_at DX8_gap 16 rfl) rfl rfl ?_
      obtain ⟨p27, e27, hf⟩ := jbind hf
      refine jr_getR K (D_at DX8_gap 17 rfl) fg_X8_9_6 e27 ?_
      refine jr_iload_n K (D_at DX8_gap 18 rfl) rfl rfl ?_
      obtain ⟨v31, e31, hf⟩ := jbind hf
      refine jr_iald K (D_at DX8_gap 19 rfl) e31 ?_
      refine jr_isub K (D_at DX8_gap 20 rfl) ?_
      cases hf
      exact jr_iret K E (D_at DX8_gap 21 rfl) rfl ⟨rfl, rfl⟩
    · replace hf := (if_neg c11).symm.trans hf
      refine jr_iload_n K (D_at DX8_gap 8 rfl) rfl rfl ?_
      refine jr_goto K (D_at DX8_gap 9 rfl) (tgt := 33) (by decide) ?_
      cases hf
      exact jr_iret K E (D_at DX8_gap 21 rfl) rfl ⟨rfl, rfl⟩
theorem C_X8_gap {G : jG} {l : Launch} (d : Nat) {n : Nat} {a0 : Nat} {x1 : Int32} {x2 : Int32} {h : jH} {res : Int32} (hf : F_X8_gap n a0 x1 x2 h = some res) : jC G l mX8_gap (d) 0 0 [.ref a0, .int x1, .int x2] h (jPR h res) :=
  jC.of (by decide +kernel) (jcats rfl) (Nat.le_of_ble_eq_true rfl) (fun X K E => J_X8_gap K n h E a0 x1 x2 hf)
set_option maxHeartbeats 400000 in
set_option maxRecDepth 100000 in
theorem J_X11_bit {G : jG} {l : Launch} {d : Nat} {X : jX} {res : Int32} (K : jOK G l mX11_bit (d) X) (n : Nat) (h : jH) (E : jEnd G mX11_bit (jPR h res) X) (x0 : Int32) (x1 : Int32) (hf : F_X11_bit n x0 x1 h = some res) : jJ G X h 0 0 0 [some (.int x0), some (.int x1)] [] := by
  unfold F_X11_bit at hf
  refine jr_iload_n K (D_at DX11_bit 0 rfl) rfl rfl ?_
  refine jr_iload_n K (D_at DX11_bit 1 rfl) rfl rfl ?_
  refine jr_iushr K (D_at DX11_bit 2 rfl) (v := jushr x0 x1) rfl ?_
  refine jr_iconst K (D_at DX11_bit 3 rfl) (v := (1 : Int32)) (by decide) ?_
  refine jr_iand K (D_at DX11_bit 4 rfl) ?_
  cases hf
  exact jr_iret K E (D_at DX11_bit 5 rfl) rfl ⟨rfl, rfl⟩
theorem C_X11_bit {G : jG} {l : Launch} (d : Nat) {n : Nat} {x0 : Int32} {x1 : Int32} {h : jH} {res : Int32} (hf : F_X11_bit n x0 x1 h = some res) : jC G l mX11_bit (d) 0 0 [.int x0, .int x1] h (jPR h res) :=
  jC.of (by decide +kernel) (jcats rfl) (Nat.le_of_ble_eq_true rfl) (fun X K E => J_X11_bit K n h E x0 x1 hf)
set_option maxHeartbeats 400000 in
set_option maxRecDepth 100000 in
theorem J_X2_value {G : jG} {l : Launch} {d : Nat} {X : jX} {res : Int32} (K : jOK G l mX2_value (d + 1) X) (n : Nat) (h : jH) (E : jEnd G mX2_value (jPR h res) X) (x0 : Int32) (a1 : Nat) (x2 : Int32) (hf : F_X2_value n x0 a1 x2 h = some res) : jJ G X h 0 0 0 [some (.int x0), some (.ref a1), some (.int x2)] [] := by
  unfold F_X2_value at hf
  refine jr_iload_n K (D_at DX2_value 0 rfl) rfl rfl ?_
  by_cases c1_0 : x0 = (0 : Int32)
  · replace hf := (if_pos c1_0).symm.trans hf
    refine jr_tableIn K (D_at DX2_value 1 rfl) (off := 59) (tgt := 60) (by rw [c1_0]; decide) (by rw [c1_0]; decide) (by rw [c1_0]; decide) (by decide) ?_
    refine jr_iload_n K (D_at DX2_value 2 rfl) rfl rfl ?_
    cases hf
    exact jr_iret K E (D_at DX2_value 3 rfl) rfl ⟨rfl, rfl⟩
  replace hf := (if_neg c1_0).symm.trans hf
  by_cases c1_1 : x0 = (1 : Int32)
  · replace hf := (if_pos c1_1).symm.trans hf
    refine jr_tableIn K (D_at DX2_value 1 rfl) (off := 61) (tgt := 62) (by rw [c1_1]; decide) (by rw [c1_1]; decide) (by rw [c1_1]; decide) (by decide) ?_
    refine jr_aload_n K (D_at DX2_value 4 rfl) rfl rfl ?_
    obtain ⟨p63, e63, hf⟩ := jbind hf
    refine jr_getR K (D_at DX2_value 5 rfl) fg_X2_85_6 e63 ?_
    refine jr_iload_n K (D_at DX2_value 6 rfl) rfl rfl ?_
    obtain ⟨v67, e67, hf⟩ := jbind hf
    refine jr_iald K (D_at DX2_value 7 rfl) e67 ?_
    cases hf
    exact jr_iret K E (D_at DX2_value 8 rfl) rfl ⟨rfl, rfl⟩
  replace hf := (if_neg c1_1).symm.trans hf
  by_cases c1_2 : x0 = (2 : Int32)
  · replace hf := (if_pos c1_2).symm.trans hf
    refine jr_tableIn K (D_at DX2_value 1 rfl) (off := 68) (tgt := 69) (by rw [c1_2]; decide) (by rw [c1_2]; decide) (by rw [c1_2]; decide) (by decide) ?_
    refine jr_aload_n K (D_at DX2_value 9 rfl) rfl rfl ?_
    refine jr_iload_n K (D_at DX2_value 10 rfl) rfl rfl ?_
    refine jr_bipush K (D_at DX2_value 11 rfl) (v := (99 : Int32)) (by decide) ?_
    obtain ⟨v73, e73, hf⟩ := jbind hf
    obtain ⟨rc_73, e73⟩ := jcv_o e73
    refine jr_callV K (C_X8_gap (d) e73) (D_at DX2_value 12 rfl) cv_X2_88_X8_gap (As := [.int x2, .int (99 : Int32)]) (ci := 6) rfl rc_73 rfl rfl (by exact Nat.le_of_ble_eq_true rfl) (kc2 := 0) (ks2 := 0) rfl rfl (fun k9 h9 w9 => by cases w9.1) (fun r9 h9 w9 => ?_)
    obtain ⟨w1, w2⟩ := w9
    subst h9
    cases w1
    show jJ G X _ 0 0 _ _ (.int v73 :: _)
    cases hf
    exact jr_iret K E (D_at DX2_value 13 rfl) rfl ⟨rfl, rfl⟩
  replace hf := (if_neg c1_2).symm.trans hf
  by_cases c1_3 : x0 = (3 : Int32)
  · replace hf := (if_pos c1_3).symm.trans hf
    refine jr_tableIn K (D_at DX2_value 1 rfl) (off := 76) (tgt := 77) (by rw [c1_3]; decide) (by rw [c1_3]; decide) (by rw [c1_3]; decide) (by decide) ?_
    refine jr_aload_n K (D_at DX2_value 14 rfl) rfl rfl ?_
    obtain ⟨p78, e78, hf⟩ := jbind hf
    refine jr_getR K (D_at DX2_value 15 rfl) fg_X2_92_6 e78 ?_
    refine jr_iload_n K (D_at DX2_value 16 rfl) rfl rfl ?_
    obtain ⟨v82, e82, hf⟩ := jbind hf
    refine jr_iald K (D_at DX2_value 17 rfl) e82 ?_
    cases hf
    exact jr_iret K E (D_at DX2_value 18 rfl) rfl ⟨rfl, rfl⟩
  replace hf := (if_neg c1_3).symm.trans hf
  by_cases c1_4 : x0 = (4 : Int32)
  · replace hf := (if_pos c1_4).symm.trans hf
    refine jr_tableIn K (D_at DX2_value 1 rfl) (off := 83) (tgt := 84) (by rw [c1_4]; decide) (by rw [c1_4]; decide) (by rw [c1_4]; decide) (by decide) ?_
    refine jr_aload_n K (D_at DX2_value 19 rfl) rfl rfl ?_
    obtain ⟨p85, e85, hf⟩ := jbind hf
    refine jr_getR K (D_at DX2_value 20 rfl) fg_X2_95_6 e85 ?_
    refine jr_iload_n K (D_at DX2_value 21 rfl) rfl rfl ?_
    obtain ⟨v89, e89, hf⟩ := jbind hf
    refine jr_iald K (D_at DX2_value 22 rfl) e89 ?_
    cases hf
    exact jr_iret K E (D_at DX2_value 23 rfl) rfl ⟨rfl, rfl⟩
  replace hf := (if_neg c1_4).symm.trans hf
  by_cases c1_5 : x0 = (5 : Int32)
  · replace hf := (if_pos c1_5).symm.trans hf
    refine jr_tableIn K (D_at DX2_value 1 rfl) (off := 90) (tgt := 91) (by rw [c1_5]; decide) (by rw [c1_5]; decide) (by rw [c1_5]; decide) (by decide) ?_
    refine jr_aload_n K (D_at DX2_value 24 rfl) rfl rfl ?_
    obtain ⟨v92, e92, hf⟩ := jbind hf
    refine jr_getI K (D_at DX2_value 25 rfl) fg_X2_52_6 e92 ?_
    cases hf
    exact jr_iret K E (D_at DX2_value 26 rfl) rfl ⟨rfl, rfl⟩
  replace hf := (if_neg c1_5).symm.trans hf
  by_cases c1_6 : x0 = (6 : Int32)
  · replace hf := (if_pos c1_6).symm.trans hf
    refine jr_tableIn K (D_at DX2_value 1 rfl) (off := 95) (tgt := 96) (by rw [c1_6]; decide) (by rw [c1_6]; decide) (by rw [c1_6]; decide) (by decide) ?_
    refine jr_aload_n K (D_at DX2_value 27 rfl) rfl rfl ?_
    obtain ⟨v97, e97, hf⟩ := jbind hf
    refine jr_getI K (D_at DX2_value 28 rfl) fg_X2_98_6 e97 ?_
    cases hf
    exact jr_iret K E (D_at DX2_value 29 rfl) rfl ⟨rfl, rfl⟩
  replace hf := (if_neg c1_6).symm.trans hf
  by_cases c1_7 : x0 = (7 : Int32)
  · replace hf := (if_pos c1_7).symm.trans hf
    refine jr_tableIn K (D_at DX2_value 1 rfl) (off := 100) (tgt := 101) (by rw [c1_7]; decide) (by rw [c1_7]; decide) (by rw [c1_7]; decide) (by decide) ?_
    refine jr_aload_n K (D_at DX2_value 30 rfl) rfl rfl ?_
    obtain ⟨v102, e102, hf⟩ := jbind hf
    refine jr_getI K (D_at DX2_value 31 rfl) fg_X2_101_6 e102 ?_
    refine jr_iload_n K (D_at DX2_value 32 rfl) rfl rfl ?_
    obtain ⟨v106, e106, hf⟩ := jbind hf
    refine jr_callSN K (C_X11_bit (d) e106) (D_at DX2_value 33 rfl) csn_X2_104_X11_bit (As := [.int v102, .int x2]) rfl rfl (by exact Nat.le_of_ble_eq_true rfl) (kc2 := 0) (ks2 := 0) rfl rfl (fun k9 h9 w9 => by cases w9.1) (fun r9 h9 w9 => ?_)
    obtain ⟨w1, w2⟩ := w9
    subst h9
    cases w1
    show jJ G X _ 0 0 _ _ (.int v106 :: _)
    cases hf
    exact jr_iret K E (D_at DX2_value 34 rfl) rfl ⟨rfl, rfl⟩
  replace hf := (if_neg c1_7).symm.trans hf
  by_cases c1_8 : x0 = (8 : Int32)
  · replace hf := (if_pos c1_8).symm.trans hf
    refine jr_tableIn K (D_at DX2_value 1 rfl) (off := 109) (tgt := 110) (by rw [c1_8]; decide) (by rw [c1_8]; decide) (by rw [c1_8]; decide) (by decide) ?_
    refine jr_aload_n K (D_at DX2_value 35 rfl) rfl rfl ?_
    obtain ⟨v111, e111, hf⟩ := jbind hf
    refine jr_getI K (D_at DX2_value 36 rfl) fg_X2_107_6 e111 ?_
    refine jr_iload_n K (D_at DX2_value 37 rfl) rfl rfl ?_
    obtain ⟨v115, e115, hf⟩ := jbind hf
    refine jr_callSN K (C_X11_bit (d) e115) (D_at DX2_value 38 rfl) csn_X2_104_X11_bit (As := [.int v111, .int x2]) rfl rfl (by exact Nat.le_of_ble_eq_true rfl) (kc2 := 0) (ks2 := 0) rfl rfl (fun k9 h9 w9 => by cases w9.1) (fun r9 h9 w9 => ?_)
    obtain ⟨w1, w2⟩ := w9
    subst h9
    cases w1
    show jJ G X _ 0 0 _ _ (.int v115 :: _)
    cases hf
    exact jr_iret K E (D_at DX2_value 39 rfl) rfl ⟨rfl, rfl⟩
  replace hf := (if_neg c1_8).symm.trans hf
  by_cases c1_9 : x0 = (9 : Int32)
  · replace hf := (if_pos c1_9).symm.trans hf
    refine jr_tableIn K (D_at DX2_value 1 rfl) (off := 118) (tgt := 119) (by rw [c1_9]; decide) (by rw [c1_9]; decide) (by rw [c1_9]; decide) (by decide) ?_
    refine jr_aload_n K (D_at DX2_value 40 rfl) rfl rfl ?_
    refine jr_iload_n K (D_at DX2_value 41 rfl) rfl rfl ?_
    refine jr_aload_n K (D_at DX2_value 42 rfl) rfl rfl ?_
    obtain ⟨v122, e122, hf⟩ := jbind hf
    refine jr_getI K (D_at DX2_value 43 rfl) fg_X2_52_6 e122 ?_
    obtain ⟨v125, e125, hf⟩ := jbind hf
    obtain ⟨rc_125, e125⟩ := jcv_o e125
    refine jr_callV K (C_X8_isLit (d) e125) (D_at DX2_value 44 rfl) cv_X2_57_X8_isLit (As := [.int x2, .int v122]) (ci := 6) rfl rc_125 rfl rfl (by exact Nat.le_of_ble_eq_true rfl) (kc2 := 0) (ks2 := 0) rfl rfl (fun k9 h9 w9 => by cases w9.1) (fun r9 h9 w9 => ?_)
    obtain ⟨w1, w2⟩ := w9
    subst h9
    cases w1
    show jJ G X _ 0 0 _ _ (.int v125 :: _)
    refine jr_if_eq K (D_at DX2_value 45 rfl) (tgt := 135) (by decide) (fun c128 => ?_) (fun c128 => ?_)
    · replace hf := (if_pos c128).symm.trans hf
      refine jr_iconst K (D_at DX2_value 48 rfl) (v := (0 : Int32)) (by decide) ?_
      cases hf
      exact jr_iret K E (D_at DX2_value 49 rfl) rfl ⟨rfl, rfl⟩
    · replace hf := (if_neg c128).symm.trans hf
      refine jr_iconst K (D_at DX2_value 46 rfl) (v := (1 : Int32)) (by decide) ?_
      refine jr_goto K (D_at DX2_value 47 rfl) (tgt := 136) (by decide) ?_
      cases hf
      exact jr_iret K E (D_at DX2_value 49 rfl) rfl ⟨rfl, rfl⟩
  replace hf := (if_neg c1_9).symm.trans hf
  by_cases c1_10 : x0 = (10 : Int32)
  · replace hf := (if_pos c1_10).symm.trans hf
    refine jr_tableIn K (D_at DX2_value 1 rfl) (off := 136) (tgt := 137) (by rw [c1_10]; decide) (by rw [c1_10]; decide) (by rw [c1_10]; decide) (by decide) ?_
    refine jr_aload_n K (D_at DX2_value 50 rfl) rfl rfl ?_
    obtain ⟨v138, e138, hf⟩ := jbind hf
    refine jr_getI K (D_at DX2_value 51 rfl) fg_X2_110_6 e138 ?_
    refine jr_iload_n K (D_at DX2_value 52 rfl) rfl rfl ?_
    obtain ⟨v142, e142, hf⟩ := jbind hf
    refine jr_callSN K (C_X11_bit (d) e142) (D_at DX2_value 53 rfl) csn_X2_104_X11_bit (As := [.int v138, .int x2]) rfl rfl (by exact Nat.le_of_ble_eq_true rfl) (kc2 := 0) (ks2 := 0) rfl rfl (fun k9 h9 w9 => by cases w9.1) (fun r9 h9 w9 => ?_)
    obtain ⟨w1, w2⟩ := w9
    subst h9
    cases w1
    show jJ G X _ 0 0 _ _ (.int v142 :: _)
    cases hf
    exact jr_iret K E (D_at DX2_value 54 rfl) rfl ⟨rfl, rfl⟩
  replace hf := (if_neg c1_10).symm.trans hf
  have w1_0 := lv_neT c1_0 (a := 0) (by decide)
  have w1_1 := lv_neT c1_1 (a := 1) (by decide)
  have w1_2 := lv_neT c1_2 (a := 2) (by decide)
  have w1_3 := lv_neT c1_3 (a := 3) (by decide)
  have w1_4 := lv_neT c1_4 (a := 4) (by decide)
  have w1_5 := lv_neT c1_5 (a := 5) (by decide)
  have w1_6 := lv_neT c1_6 (a := 6) (by decide)
  have w1_7 := lv_neT c1_7 (a := 7) (by decide)
  have w1_8 := lv_neT c1_8 (a := 8) (by decide)
  have w1_9 := lv_neT c1_9 (a := 9) (by decide)
  have w1_10 := lv_neT c1_10 (a := 10) (by decide)
  refine jr_tableOut K (D_at DX2_value 1 rfl) (tgt := 146) (by omega) (by decide) ?_
  refine jr_iload_n K (D_at DX2_value 55 rfl) rfl rfl ?_
  refine jr_sipush K (D_at DX2_value 56 rfl) (v := (256 : Int32)) (by decide) ?_
  refine jr_isub K (D_at DX2_value 57 rfl) ?_
  cases hf
  exact jr_iret K E (D_at DX2_value 58 rfl) rfl ⟨rfl, rfl⟩
theorem C_X2_value {G : jG} {l : Launch} (d : Nat) {n : Nat} {x0 : Int32} {a1 : Nat} {x2 : Int32} {h : jH} {res : Int32} (hf : F_X2_value n x0 a1 x2 h = some res) : jC G l mX2_value (d + 1) 0 0 [.int x0, .ref a1, .int x2] h (jPR h res) :=
  jC.of (by decide +kernel) (jcats rfl) (Nat.le_of_ble_eq_true rfl) (fun X K E => J_X2_value K n h E x0 a1 x2 hf)
set_option maxHeartbeats 400000 in
set_option maxRecDepth 100000 in
theorem J_X2_push {G : jG} {l : Launch} {d : Nat} {X : jX} {res : jH} (K : jOK G l mX2_push (d) X) (n : Nat) (E : jEnd G mX2_push (jPV res) X) (a0 : Nat) (x1 : Int32) (h : jH) (hf : F_X2_push n a0 x1 h = some res) : jJ G X h 0 0 0 [some (.ref a0), some (.int x1)] [] := by
  unfold F_X2_push at hf
  refine jr_aload_n K (D_at DX2_push 0 rfl) rfl rfl ?_
  obtain ⟨v1, e1, hf⟩ := jbind hf
  refine jr_getI K (D_at DX2_push 1 rfl) fg_X2_61_2 e1 ?_
  refine jr_bipush K (D_at DX2_push 2 rfl) (v := (24 : Int32)) (by decide) ?_
  refine jr_icmp_ge K (D_at DX2_push 3 rfl) (tgt := 29) (by decide) (fun c6 => ?_) (fun c6 => ?_)
  · replace hf := (if_pos c6).symm.trans hf
    cases hf
    exact jr_vret K E (D_at DX2_push 16 rfl) rfl ⟨rfl, rfl⟩
  · replace hf := (if_neg c6).symm.trans hf
    refine jr_aload_n K (D_at DX2_push 4 rfl) rfl rfl ?_
    obtain ⟨p10, e10, hf⟩ := jbind hf
    refine jr_getR K (D_at DX2_push 5 rfl) fg_X2_24_2 e10 ?_
    refine jr_aload_n K (D_at DX2_push 6 rfl) rfl rfl ?_
    obtain ⟨v14, e14, hf⟩ := jbind hf
    refine jr_getI K (D_at DX2_push 7 rfl) fg_X2_61_2 e14 ?_
    refine jr_iload_n K (D_at DX2_push 8 rfl) rfl rfl ?_
    obtain ⟨h18, e18, hf⟩ := jbind hf
    refine jr_iast K (D_at DX2_push 9 rfl) e18 ?_
    refine jr_aload_n K (D_at DX2_push 10 rfl) rfl rfl ?_
    refine jr_dup K (D_at DX2_push 11 rfl) rfl ?_
    obtain ⟨v21, e21, hf⟩ := jbind hf
    refine jr_getI K (D_at DX2_push 12 rfl) fg_X2_61_2 e21 ?_
    refine jr_iconst K (D_at DX2_push 13 rfl) (v := (1 : Int32)) (by decide) ?_
    refine jr_iadd K (D_at DX2_push 14 rfl) ?_
    obtain ⟨h26, e26, hf⟩ := jbind hf
    refine jr_putI K (D_at DX2_push 15 rfl) fp_X2_61_2 (Or.inl rfl) e26 ?_
    cases hf
    exact jr_vret K E (D_at DX2_push 16 rfl) rfl ⟨rfl, rfl⟩
theorem C_X2_push {G : jG} {l : Launch} (d : Nat) {n : Nat} {a0 : Nat} {x1 : Int32} {h : jH} {res : jH} (hf : F_X2_push n a0 x1 h = some res) : jC G l mX2_push (d) 0 0 [.ref a0, .int x1] h (jPV res) :=
  jC.of (by decide +kernel) (jcats rfl) (Nat.le_of_ble_eq_true rfl) (fun X K E => J_X2_push K n E a0 x1 h hf)
set_option maxHeartbeats 400000 in
set_option maxRecDepth 100000 in
theorem J_X2_pop {G : jG} {l : Launch} {d : Nat} {X : jX} {res : (Int32 × jH)} (K : jOK G l mX2_pop (d) X) (n : Nat) (E : jEnd G mX2_pop (jPW res) X) (a0 : Nat) (h : jH) (hf : F_X2_pop n a0 h = some res) : jJ G X h 0 0 0 [some (.ref a0)] [] := by
  unfold F_X2_pop at hf
  refine jr_aload_n K (D_at DX2_pop 0 rfl) rfl rfl ?_
  obtain ⟨v1, e1, hf⟩ := jbind hf
  refine jr_getI K (D_at DX2_pop 1 rfl) fg_X2_61_2 e1 ?_
  refine jr_if_gt K (D_at DX2_pop 2 rfl) (tgt := 9) (by decide) (fun c4 => ?_) (fun c4 => ?_)
  · replace hf := (if_pos c4).symm.trans hf
    refine jr_aload_n K (D_at DX2_pop 5 rfl) rfl rfl ?_
    refine jr_dup K (D_at DX2_pop 6 rfl) rfl ?_
    obtain ⟨v11, e11, hf⟩ := jbind hf
    refine jr_getI K (D_at DX2_pop 7 rfl) fg_X2_61_2 e11 ?_
    refine jr_iconst K (D_at DX2_pop 8 rfl) (v := (1 : Int32)) (by decide) ?_
    refine jr_isub K (D_at DX2_pop 9 rfl) ?_
    obtain ⟨h16, e16, hf⟩ := jbind hf
    refine jr_putI K (D_at DX2_pop 10 rfl) fp_X2_61_2 (Or.inl rfl) e16 ?_
    refine jr_aload_n K (D_at DX2_pop 11 rfl) rfl rfl ?_
    obtain ⟨p20, e20, hf⟩ := jbind hf
    refine jr_getR K (D_at DX2_pop 12 rfl) fg_X2_24_2 e20 ?_
    refine jr_aload_n K (D_at DX2_pop 13 rfl) rfl rfl ?_
    obtain ⟨v24, e24, hf⟩ := jbind hf
    refine jr_getI K (D_at DX2_pop 14 rfl) fg_X2_61_2 e24 ?_
    obtain ⟨v27, e27, hf⟩ := jbind hf
    refine jr_iald K (D_at DX2_pop 15 rfl) e27 ?_
    cases hf
    exact jr_iret K E (D_at DX2_pop 16 rfl) rfl ⟨rfl, rfl⟩
  · replace hf := (if_neg c4).symm.trans hf
    refine jr_iconst K (D_at DX2_pop 3 rfl) (v := (0 : Int32)) (by decide) ?_
    cases hf
    exact jr_iret K E (D_at DX2_pop 4 rfl) rfl ⟨rfl, rfl⟩
theorem C_X2_pop {G : jG} {l : Launch} (d : Nat) {n : Nat} {a0 : Nat} {h : jH} {res : (Int32 × jH)} (hf : F_X2_pop n a0 h = some res) : jC G l mX2_pop (d) 0 0 [.ref a0] h (jPW res) :=
  jC.of (by decide +kernel) (jcats rfl) (Nat.le_of_ble_eq_true rfl) (fun X K E => J_X2_pop K n E a0 h hf)
set_option maxHeartbeats 400000 in
set_option maxRecDepth 100000 in
theorem J_X2_joined {G : jG} {l : Launch} {d : Nat} {X : jX} {res : Int32} (K : jOK G l mX2_joined (d) X) (n : Nat) (h : jH) (E : jEnd G mX2_joined (jPR h res) X) (x0 : Int32) (x1 : Int32) (x2 : Int32) (hf : F_X2_joined n x0 x1 x2 h = some res) : jJ G X h 0 0 0 [some (.int x0), some (.int x1), some (.int x2)] [] := by
  unfold F_X2_joined at hf
  refine jr_iload_n K (D_at DX2_joined 0 rfl) rfl rfl ?_
  by_cases c1_0 : x0 = (12 : Int32)
  · replace hf := (if_pos c1_0).symm.trans hf
    refine jr_lookup K (D_at DX2_joined 1 rfl) (off := 69) (tgt := 70) (by decide) (by rw [c1_0]; decide) (by decide) ?_
    refine jr_iload_n K (D_at DX2_joined 20 rfl) rfl rfl ?_
    refine jr_iload_n K (D_at DX2_joined 21 rfl) rfl rfl ?_
    refine jr_iand K (D_at DX2_joined 22 rfl) ?_
    cases hf
    exact jr_iret K E (D_at DX2_joined 23 rfl) rfl ⟨rfl, rfl⟩
  replace hf := (if_neg c1_0).symm.trans hf
  by_cases c1_1 : x0 = (43 : Int32)
  · replace hf := (if_pos c1_1).symm.trans hf
    refine jr_lookup K (D_at DX2_joined 1 rfl) (off := 43) (tgt := 44) (by decide) (by rw [c1_1]; decide) (by decide) ?_
    refine jr_iload_n K (D_at DX2_joined 2 rfl) rfl rfl ?_
    refine jr_iload_n K (D_at DX2_joined 3 rfl) rfl rfl ?_
    refine jr_iadd K (D_at DX2_joined 4 rfl) ?_
    cases hf
    exact jr_iret K E (D_at DX2_joined 5 rfl) rfl ⟨rfl, rfl⟩
  replace hf := (if_neg c1_1).symm.trans hf
  by_cases c1_2 : x0 = (60 : Int32)
  · replace hf := (if_pos c1_2).symm.trans hf
    refine jr_lookup K (D_at DX2_joined 1 rfl) (off := 47) (tgt := 48) (by decide) (by rw [c1_2]; decide) (by decide) ?_
    refine jr_iload_n K (D_at DX2_joined 6 rfl) rfl rfl ?_
    refine jr_iload_n K (D_at DX2_joined 7 rfl) rfl rfl ?_
    refine jr_icmp_ge K (D_at DX2_joined 8 rfl) (tgt := 57) (by decide) (fun c50 => ?_) (fun c50 => ?_)
    · replace hf := (if_pos c50).symm.trans hf
      refine jr_iconst K (D_at DX2_joined 11 rfl) (v := (0 : Int32)) (by decide) ?_
      cases hf
      exact jr_iret K E (D_at DX2_joined 12 rfl) rfl ⟨rfl, rfl⟩
    · replace hf := (if_neg c50).symm.trans hf
      refine jr_iconst K (D_at DX2_joined 9 rfl) (v := (1 : Int32)) (by decide) ?_
      refine jr_goto K (D_at DX2_joined 10 rfl) (tgt := 58) (by decide) ?_
      cases hf
      exact jr_iret K E (D_at DX2_joined 12 rfl) rfl ⟨rfl, rfl⟩
  replace hf := (if_neg c1_2).symm.trans hf
  by_cases c1_3 : x0 = (62 : Int32)
  · replace hf := (if_pos c1_3).symm.trans hf
    refine jr_lookup K (D_at DX2_joined 1 rfl) (off := 58) (tgt := 59) (by decide) (by rw [c1_3]; decide) (by decide) ?_
    refine jr_iload_n K (D_at DX2_joined 13 rfl) rfl rfl ?_
    refine jr_iload_n K (D_at DX2_joined 14 rfl) rfl rfl ?_
    refine jr_icmp_le K (D_at DX2_joined 15 rfl) (tgt := 68) (by decide) (fun c61 => ?_) (fun c61 => ?_)
    · replace hf := (if_pos c61).symm.trans hf
      refine jr_iconst K (D_at DX2_joined 18 rfl) (v := (0 : Int32)) (by decide) ?_
      cases hf
      exact jr_iret K E (D_at DX2_joined 19 rfl) rfl ⟨rfl, rfl⟩
    · replace hf := (if_neg c61).symm.trans hf
      refine jr_iconst K (D_at DX2_joined 16 rfl) (v := (1 : Int32)) (by decide) ?_
      refine jr_goto K (D_at DX2_joined 17 rfl) (tgt := 69) (by decide) ?_
      cases hf
      exact jr_iret K E (D_at DX2_joined 19 rfl) rfl ⟨rfl, rfl⟩
  replace hf := (if_neg c1_3).symm.trans hf
  refine jr_lookup K (D_at DX2_joined 1 rfl) (off := 73) (tgt := 74) (by decide) (by show Op.lookupswitch.offset [(12, 69), (43, 43), (60, 47), (62, 58)] 73 _ = _; rw [lv_osw c1_0 (a := 12) (by decide), lv_osw c1_1 (a := 43) (by decide), lv_osw c1_2 (a := 60) (by decide), lv_osw c1_3 (a := 62) (by decide)]; rfl) (by decide) ?_
  refine jr_iload_n K (D_at DX2_joined 24 rfl) rfl rfl ?_
  refine jr_iload_n K (D_at DX2_joined 25 rfl) rfl rfl ?_
  refine jr_ior K (D_at DX2_joined 26 rfl) ?_
  cases hf
  exact jr_iret K E (D_at DX2_joined 27 rfl) rfl ⟨rfl, rfl⟩
theorem C_X2_joined {G : jG} {l : Launch} (d : Nat) {n : Nat} {x0 : Int32} {x1 : Int32} {x2 : Int32} {h : jH} {res : Int32} (hf : F_X2_joined n x0 x1 x2 h = some res) : jC G l mX2_joined (d) 0 0 [.int x0, .int x1, .int x2] h (jPR h res) :=
  jC.of (by decide +kernel) (jcats rfl) (Nat.le_of_ble_eq_true rfl) (fun X K E => J_X2_joined K n h E x0 x1 x2 hf)
set_option maxHeartbeats 400000 in
set_option maxRecDepth 100000 in
theorem J_X2_holds_23_b {G : jG} {l : Launch} {d : Nat} {X : jX} {res : (Int32 × jH)} (K : jOK G l mX2_holds (d + 2) X) (n : Nat) (rc23 : Nat → Int32 → Nat → Int32 → Int32 → jH → Option (Int32 × jH)) (hr23 : ∀ (a0 : Nat) (x1 : Int32) (a2 : Nat) (x3 : Int32) (x4 : Int32) (h : jH), rc23 a0 x1 a2 x3 x4 h = some res → jJ G X h 0 0 23 [some (.ref a0), some (.int x1), some (.ref a2), some (.int x3), some (.int x4), none, none] []) (E : jEnd G mX2_holds (jPW res) X) (a0 : Nat) (x1 : Int32) (a2 : Nat) (x3 : Int32) (x4 : Int32) (h : jH) (hf : F_X2_holds_23_b n rc23 a0 x1 a2 x3 x4 h = some res) : jJ G X h 0 0 23 [some (.ref a0), some (.int x1), some (.ref a2), some (.int x3), some (.int x4), none, none] [] := by
  unfold F_X2_holds_23_b at hf
  refine jr_iload K (D_at DX2_holds 14 rfl) rfl ?_
  refine jr_aload_n K (D_at DX2_holds 15 rfl) rfl rfl ?_
  obtain ⟨p26, e26, hf⟩ := jbind hf
  refine jr_getR K (D_at DX2_holds 16 rfl) fg_X2_18_2 e26 ?_
  refine jr_iload_n K (D_at DX2_holds 17 rfl) rfl rfl ?_
  obtain ⟨v30, e30, hf⟩ := jbind hf
  refine jr_iald K (D_at DX2_holds 18 rfl) e30 ?_
  refine jr_icmp_ge K (D_at DX2_holds 19 rfl) (tgt := 112) (by decide) (fun c31 => ?_) (fun c31 => ?_)
  · replace hf := (if_pos c31).symm.trans hf
    refine jr_aload_n K (D_at DX2_holds 57 rfl) rfl rfl ?_
    obtain ⟨v113, e113, hf⟩ := jbind hf
    refine jr_getI K (D_at DX2_holds 58 rfl) fg_X2_61_2 e113 ?_
    refine jr_if_eq K (D_at DX2_holds 59 rfl) (tgt := 126) (by decide) (fun c116 => ?_) (fun c116 => ?_)
    · replace hf := (if_pos c116).symm.trans hf
      refine jr_iconst K (D_at DX2_holds 63 rfl) (v := (1 : Int32)) (by decide) ?_
      refine jr_goto K (D_at DX2_holds_1 0 rfl) (tgt := 131) (by decide) ?_
      cases hf
      exact jr_zret K E (D_at DX2_holds_1 2 rfl) rfl (Or.inr rfl) ⟨rfl, rfl⟩
    · replace hf := (if_neg c116).symm.trans hf
      refine jr_aload_n K (D_at DX2_holds 60 rfl) rfl rfl ?_
      obtain ⟨q120, e120, hf⟩ := jbind hf
      obtain ⟨rc_120, e120⟩ := jcv_o e120
      refine jr_callV K (C_X2_pop (d + 1) e120) (D_at DX2_holds 61 rfl) cv_X2_77_X2_pop (As := []) (ci := 2) rfl rc_120 rfl rfl (by exact Nat.le_of_ble_eq_true rfl) (kc2 := 0) (ks2 := 0) rfl rfl (fun k9 h9 w9 => by cases w9.1) (fun r9 h9 w9 => ?_)
      obtain ⟨w1, w2⟩ := w9
      subst h9
      cases w1
      show jJ G X _ 0 0 _ _ (.int q120.1 :: _)
      refine jr_if_eq K (D_at DX2_holds 62 rfl) (tgt := 130) (by decide) (fun c123 => ?_) (fun c123 => ?_)
      · replace hf := (if_pos c123).symm.trans hf
        refine jr_iconst K (D_at DX2_holds_1 1 rfl) (v := (0 : Int32)) (by decide) ?_
        cases hf
        exact jr_zret K E (D_at DX2_holds_1 2 rfl) rfl (Or.inl rfl) ⟨rfl, rfl⟩
      · replace hf := (if_neg c123).symm.trans hf
        refine jr_iconst K (D_at DX2_holds 63 rfl) (v := (1 : Int32)) (by decide) ?_
        refine jr_goto K (D_at DX2_holds_1 0 rfl) (tgt := 131) (by decide) ?_
        cases hf
        exact jr_zret K E (D_at DX2_holds_1 2 rfl) rfl (Or.inr rfl) ⟨rfl, rfl⟩
  · replace hf := (if_neg c31).symm.trans hf
    refine jr_aload_n K (D_at DX2_holds 20 rfl) rfl rfl ?_
    obtain ⟨p35, e35, hf⟩ := jbind hf
    refine jr_getR K (D_at DX2_holds 21 rfl) fg_X2_21_2 e35 ?_
    refine jr_iload K (D_at DX2_holds 22 rfl) rfl ?_
    obtain ⟨v40, e40, hf⟩ := jbind hf
    refine jr_iald K (D_at DX2_holds 23 rfl) e40 ?_
    refine jr_istore K (D_at DX2_holds 24 rfl) (i := 5) (by decide) (L2 := [_, _, _, _, _, _, _]) rfl ?_
    refine jr_iload K (D_at DX2_holds 25 rfl) rfl ?_
    obtain ⟨v45, e45, hf⟩ := jbind hf
    refine jr_callS K (C_X2_isValue (d + 1) e45) (D_at DX2_holds 26 rfl) cs_X2_64_X2_isValue (As := [.int v40]) rfl rfl (by exact Nat.le_of_ble_eq_true rfl) (kc2 := 0) (ks2 := 0) rfl rfl (fun k9 h9 w9 => by cases w9.1) (fun r9 h9 w9 => ?_)
    obtain ⟨w1, w2⟩ := w9
    subst h9
    cases w1
    show jJ G X _ 0 0 _ _ (.int v45 :: _)
    refine jr_if_eq K (D_at DX2_holds 27 rfl) (tgt := 65) (by decide) (fun c48 => ?_) (fun c48 => ?_)
    · replace hf := (if_pos c48).symm.trans hf
      refine jr_iload K (D_at DX2_holds 35 rfl) rfl ?_
      refine jr_bipush K (D_at DX2_holds 36 rfl) (v := (11 : Int32)) (by decide) ?_
      refine jr_icmp_ne K (D_at DX2_holds 37 rfl) (tgt := 85) (by decide) (fun c69 => ?_) (fun c69 => ?_)
      · replace hf := (if_neg c69).symm.trans hf
        refine jr_aload_n K (D_at DX2_holds 45 rfl) rfl rfl ?_
        obtain ⟨q86, e86, hf⟩ := jbind hf
        obtain ⟨rc_86, e86⟩ := jcv_o e86
        refine jr_callV K (C_X2_pop (d + 1) e86) (D_at DX2_holds 46 rfl) cv_X2_77_X2_pop (As := []) (ci := 2) rfl rc_86 rfl rfl (by exact Nat.le_of_ble_eq_true rfl) (kc2 := 0) (ks2 := 0) rfl rfl (fun k9 h9 w9 => by cases w9.1) (fun r9 h9 w9 => ?_)
        obtain ⟨w1, w2⟩ := w9
        subst h9
        cases w1
        show jJ G X _ 0 0 _ _ (.int q86.1 :: _)
        refine jr_istore K (D_at DX2_holds 47 rfl) (i := 6) (by decide) (L2 := [_, _, _, _, _, _, _]) rfl ?_
        refine jr_aload_n K (D_at DX2_holds 48 rfl) rfl rfl ?_
        refine jr_iload K (D_at DX2_holds 49 rfl) rfl ?_
        refine jr_aload_n K (D_at DX2_holds 50 rfl) rfl rfl ?_
        obtain ⟨q95, e95, hf⟩ := jbind hf
        obtain ⟨rc_95, e95⟩ := jcv_o e95
        refine jr_callV K (C_X2_pop (d + 1) e95) (D_at DX2_holds 51 rfl) cv_X2_77_X2_pop (As := []) (ci := 2) rfl rc_95 rfl rfl (by exact Nat.le_of_ble_eq_true rfl) (kc2 := 0) (ks2 := 0) rfl rfl (fun k9 h9 w9 => by cases w9.1) (fun r9 h9 w9 => ?_)
        obtain ⟨w1, w2⟩ := w9
        subst h9
        cases w1
        show jJ G X _ 0 0 _ _ (.int q95.1 :: _)
        refine jr_iload K (D_at DX2_holds 52 rfl) rfl ?_
        obtain ⟨v100, e100, hf⟩ := jbind hf
        refine jr_callS K (C_X2_joined (d + 1) e100) (D_at DX2_holds 53 rfl) cs_X2_81_X2_joined (As := [.int v40, .int q95.1, .int q86.1]) rfl rfl (by exact Nat.le_of_ble_eq_true rfl) (kc2 := 0) (ks2 := 0) rfl rfl (fun k9 h9 w9 => by cases w9.1) (fun r9 h9 w9 => ?_)
        obtain ⟨w1, w2⟩ := w9
        subst h9
        cases w1
        show jJ G X _ 0 0 _ _ (.int v100 :: _)
        obtain ⟨h103, e103, hf⟩ := jbind hf
        obtain ⟨rc_103, e103⟩ := jcv_o e103
        refine jr_callV K (C_X2_push (d + 1) e103) (D_at DX2_holds 54 rfl) cv_X2_71_X2_push (As := [.int v100]) (ci := 2) rfl rc_103 rfl rfl (by exact Nat.le_of_ble_eq_true rfl) (kc2 := 0) (ks2 := 0) rfl rfl (fun k9 h9 w9 => by cases w9.1) (fun r9 h9 w9 => ?_)
        obtain ⟨w1, w2⟩ := w9
        subst h9
        cases w1
        show jJ G X _ 0 0 _ _ []
        refine jr_iinc K (D_at DX2_holds 55 rfl) (i := 4) rfl (v := x4 + (1 : Int32)) (jinc (by decide)) (by decide) (L2 := [_, _, _, _, _, _, _]) rfl ?_
        refine jr_goto K (D_at DX2_holds 56 rfl) (tgt := 23) (by decide) ?_
        refine jr_keep [true, true, true, true, true, false, false] ?_
        exact hr23 a0 x1 a2 x3 (x4 + (1 : Int32)) h103 hf
      · replace hf := (if_pos c69).symm.trans hf
        refine jr_aload_n K (D_at DX2_holds 38 rfl) rfl rfl ?_
        refine jr_iconst K (D_at DX2_holds 39 rfl) (v := (1 : Int32)) (by decide) ?_
        refine jr_aload_n K (D_at DX2_holds 40 rfl) rfl rfl ?_
        obtain ⟨q75, e75, hf⟩ := jbind hf
        obtain ⟨rc_75, e75⟩ := jcv_o e75
        refine jr_callV K (C_X2_pop (d + 1) e75) (D_at DX2_holds 41 rfl) cv_X2_77_X2_pop (As := []) (ci := 2) rfl rc_75 rfl rfl (by exact Nat.le_of_ble_eq_true rfl) (kc2 := 0) (ks2 := 0) rfl rfl (fun k9 h9 w9 => by cases w9.1) (fun r9 h9 w9 => ?_)
        obtain ⟨w1, w2⟩ := w9
        subst h9
        cases w1
        show jJ G X _ 0 0 _ _ (.int q75.1 :: _)
        refine jr_isub K (D_at DX2_holds 42 rfl) ?_
        obtain ⟨h79, e79, hf⟩ := jbind hf
        obtain ⟨rc_79, e79⟩ := jcv_o e79
        refine jr_callV K (C_X2_push (d + 1) e79) (D_at DX2_holds 43 rfl) cv_X2_71_X2_push (As := [.int ((1 : Int32) - q75.1)]) (ci := 2) rfl rc_79 rfl rfl (by exact Nat.le_of_ble_eq_true rfl) (kc2 := 0) (ks2 := 0) rfl rfl (fun k9 h9 w9 => by cases w9.1) (fun r9 h9 w9 => ?_)
        obtain ⟨w1, w2⟩ := w9
        subst h9
        cases w1
        show jJ G X _ 0 0 _ _ []
        refine jr_goto K (D_at DX2_holds 44 rfl) (tgt := 106) (by decide) ?_
        refine jr_iinc K (D_at DX2_holds 55 rfl) (i := 4) rfl (v := x4 + (1 : Int32)) (jinc (by decide)) (by decide) (L2 := [_, _, _, _, _, _, _]) rfl ?_
        refine jr_goto K (D_at DX2_holds 56 rfl) (tgt := 23) (by decide) ?_
        refine jr_keep [true, true, true, true, true, false, false] ?_
        exact hr23 a0 x1 a2 x3 (x4 + (1 : Int32)) h79 hf
    · replace hf := (if_neg c48).symm.trans hf
      refine jr_aload_n K (D_at DX2_holds 28 rfl) rfl rfl ?_
      refine jr_iload K (D_at DX2_holds 29 rfl) rfl ?_
      refine jr_aload_n K (D_at DX2_holds 30 rfl) rfl rfl ?_
      refine jr_iload_n K (D_at DX2_holds 31 rfl) rfl rfl ?_
      obtain ⟨v56, e56, hf⟩ := jbind hf
      refine jr_callS K (C_X2_value (d) e56) (D_at DX2_holds 32 rfl) cs_X2_68_X2_value (As := [.int v40, .ref a2, .int x3]) rfl rfl (by exact Nat.le_of_ble_eq_true rfl) (kc2 := 0) (ks2 := 0) rfl rfl (fun k9 h9 w9 => by cases w9.1) (fun r9 h9 w9 => ?_)
      obtain ⟨w1, w2⟩ := w9
      subst h9
      cases w1
      show jJ G X _ 0 0 _ _ (.int v56 :: _)
      obtain ⟨h59, e59, hf⟩ := jbind hf
      obtain ⟨rc_59, e59⟩ := jcv_o e59
      refine jr_callV K (C_X2_push (d + 1) e59) (D_at DX2_holds 33 rfl) cv_X2_71_X2_push (As := [.int v56]) (ci := 2) rfl rc_59 rfl rfl (by exact Nat.le_of_ble_eq_true rfl) (kc2 := 0) (ks2 := 0) rfl rfl (fun k9 h9 w9 => by cases w9.1) (fun r9 h9 w9 => ?_)
      obtain ⟨w1, w2⟩ := w9
      subst h9
      cases w1
      show jJ G X _ 0 0 _ _ []
      refine jr_goto K (D_at DX2_holds 34 rfl) (tgt := 106) (by decide) ?_
      refine jr_iinc K (D_at DX2_holds 55 rfl) (i := 4) rfl (v := x4 + (1 : Int32)) (jinc (by decide)) (by decide) (L2 := [_, _, _, _, _, _, _]) rfl ?_
      refine jr_goto K (D_at DX2_holds 56 rfl) (tgt := 23) (by decide) ?_
      refine jr_keep [true, true, true, true, true, false, false] ?_
      exact hr23 a0 x1 a2 x3 (x4 + (1 : Int32)) h59 hf
theorem J_X2_holds_23 {G : jG} {l : Launch} {d : Nat} {X : jX} {res : (Int32 × jH)} (K : jOK G l mX2_holds (d + 2) X) (n : Nat) (E : jEnd G mX2_holds (jPW res) X) (k : Nat) : ∀ (a0 : Nat) (x1 : Int32) (a2 : Nat) (x3 : Int32) (x4 : Int32) (h : jH), F_X2_holds_23 n k a0 x1 a2 x3 x4 h = some res → jJ G X h 0 0 23 [some (.ref a0), some (.int x1), some (.ref a2), some (.int x3), some (.int x4), none, none] [] := by
  induction k with
  | zero =>
    intro a0 x1 a2 x3 x4 h hf
    exact jno (show (none : Option (Int32 × jH)) = some res from hf)
  | succ k ih =>
    intro a0 x1 a2 x3 x4 h hf
    exact J_X2_holds_23_b K n (F_X2_holds_23 n k) ih E a0 x1 a2 x3 x4 h hf
set_option maxHeartbeats 400000 in
set_option maxRecDepth 100000 in
theorem J_X2_holds {G : jG} {l : Launch} {d : Nat} {X : jX} {res : (Int32 × jH)} (K : jOK G l mX2_holds (d + 2) X) (n : Nat) (E : jEnd G mX2_holds (jPW res) X) (a0 : Nat) (x1 : Int32) (a2 : Nat) (x3 : Int32) (h : jH) (hf : F_X2_holds n a0 x1 a2 x3 h = some res) : jJ G X h 0 0 0 [some (.ref a0), some (.int x1), some (.ref a2), some (.int x3), none, none, none] [] := by
  unfold F_X2_holds at hf
  refine jr_aload_n K (D_at DX2_holds 0 rfl) rfl rfl ?_
  refine jr_iconst K (D_at DX2_holds 1 rfl) (v := (0 : Int32)) (by decide) ?_
  obtain ⟨h2, e2, hf⟩ := jbind hf
  refine jr_putI K (D_at DX2_holds 2 rfl) fp_X2_61_2 (Or.inl rfl) e2 ?_
  refine jr_iload_n K (D_at DX2_holds 3 rfl) rfl rfl ?_
  refine jr_if_ne K (D_at DX2_holds 4 rfl) (tgt := 13) (by decide) (fun c6 => ?_) (fun c6 => ?_)
  · replace hf := (if_neg c6).symm.trans hf
    refine jr_aload_n K (D_at DX2_holds 7 rfl) rfl rfl ?_
    obtain ⟨p14, e14, hf⟩ := jbind hf
    refine jr_getR K (D_at DX2_holds 8 rfl) fg_X2_18_2 e14 ?_
    refine jr_iload_n K (D_at DX2_holds 9 rfl) rfl rfl ?_
    refine jr_iconst K (D_at DX2_holds 10 rfl) (v := (1 : Int32)) (by decide) ?_
    refine jr_isub K (D_at DX2_holds 11 rfl) ?_
    obtain ⟨v20, e20, hf⟩ := jbind hf
    refine jr_iald K (D_at DX2_holds 12 rfl) e20 ?_
    refine jr_istore K (D_at DX2_holds 13 rfl) (i := 4) (by decide) (L2 := [_, _, _, _, _, _, _]) rfl ?_
    refine jr_keep [true, true, true, true, true, false, false] ?_
    exact J_X2_holds_23 K n E n a0 x1 a2 x3 v20 h2 hf
  · replace hf := (if_pos c6).symm.trans hf
    refine jr_iconst K (D_at DX2_holds 5 rfl) (v := (0 : Int32)) (by decide) ?_
    refine jr_goto K (D_at DX2_holds 6 rfl) (tgt := 21) (by decide) ?_
    refine jr_istore K (D_at DX2_holds 13 rfl) (i := 4) (by decide) (L2 := [_, _, _, _, _, _, _]) rfl ?_
    refine jr_keep [true, true, true, true, true, false, false] ?_
    exact J_X2_holds_23 K n E n a0 x1 a2 x3 (0 : Int32) h2 hf
theorem C_X2_holds {G : jG} {l : Launch} (d : Nat) {n : Nat} {a0 : Nat} {x1 : Int32} {a2 : Nat} {x3 : Int32} {h : jH} {res : (Int32 × jH)} (hf : F_X2_holds n a0 x1 a2 x3 h = some res) : jC G l mX2_holds (d + 2) 0 0 [.ref a0, .int x1, .ref a2, .int x3] h (jPW res) :=
  jC.of (by decide +kernel) (jcats rfl) (Nat.le_of_ble_eq_true rfl) (fun X K E => J_X2_holds K n E a0 x1 a2 x3 h hf)
set_option maxHeartbeats 400000 in
set_option maxRecDepth 100000 in
theorem J_X2_amount_20_b {G : jG} {l : Launch} {d : Nat} {X : jX} {res : (Int32 × jH)} (K : jOK G l mX2_amount (d + 3) X) (n : Nat) (rc20 : Nat → Int32 → Nat → Int32 → Int32 → Int32 → jH → Option (Int32 × jH)) (hr20 : ∀ (a0 : Nat) (x1 : Int32) (a2 : Nat) (x3 : Int32) (x4 : Int32) (x5 : Int32) (h : jH), rc20 a0 x1 a2 x3 x4 x5 h = some res → jJ G X h 0 0 20 [some (.ref a0), some (.int x1), some (.ref a2), some (.int x3), some (.int x4), some (.int x5)] []) (E : jEnd G mX2_amount (jPW res) X) (a0 : Nat) (x1 : Int32) (a2 : Nat) (x3 : Int32) (x4 : Int32) (x5 : Int32) (h : jH) (hf : F_X2_amount_20_b n rc20 a0 x1 a2 x3 x4 x5 h = some res) : jJ G X h 0 0 20 [some (.ref a0), some (.int x1), some (.ref a2), some (.int x3), some (.int x4), some (.int x5)] [] := by
  unfold F_X2_amount_20_b at hf
  refine jr_iload K (D_at DX2_amount 12 rfl) rfl ?_
  refine jr_aload_n K (D_at DX2_amount 13 rfl) rfl rfl ?_
  obtain ⟨v23, e23, hf⟩ := jbind hf
  refine jr_getI K (D_at DX2_amount 14 rfl) fg_X2_31_2 e23 ?_
  refine jr_icmp_ge K (D_at DX2_amount 15 rfl) (tgt := 69) (by decide) (fun c26 => ?_) (fun c26 => ?_)
  · replace hf := (if_pos c26).symm.trans hf
    refine jr_iload K (D_at DX2_amount 37 rfl) rfl ?_
    cases hf
    exact jr_iret K E (D_at DX2_amount 38 rfl) rfl ⟨rfl, rfl⟩
  · replace hf := (if_neg c26).symm.trans hf
    refine jr_aload_n K (D_at DX2_amount 16 rfl) rfl rfl ?_
    obtain ⟨p30, e30, hf⟩ := jbind hf
    refine jr_getR K (D_at DX2_amount 17 rfl) fg_X2_11_2 e30 ?_
    refine jr_iload K (D_at DX2_amount 18 rfl) rfl ?_
    obtain ⟨v35, e35, hf⟩ := jbind hf
    refine jr_iald K (D_at DX2_amount 19 rfl) e35 ?_
    refine jr_iload_n K (D_at DX2_amount 20 rfl) rfl rfl ?_
    refine jr_icmp_ne K (D_at DX2_amount 21 rfl) (tgt := 63) (by decide) (fun c37 => ?_) (fun c37 => ?_)
    · replace hf := (if_neg c37).symm.trans hf
      refine jr_iinc K (D_at DX2_amount 35 rfl) (i := 5) rfl (v := x5 + (1 : Int32)) (jinc (by decide)) (by decide) (L2 := [_, _, _, _, _, _]) rfl ?_
      refine jr_goto K (D_at DX2_amount 36 rfl) (tgt := 20) (by decide) ?_
      refine jr_keep [true, true, true, true, true, true] ?_
      exact hr20 a0 x1 a2 x3 x4 (x5 + (1 : Int32)) h hf
    · replace hf := (if_pos c37).symm.trans hf
      refine jr_aload_n K (D_at DX2_amount 22 rfl) rfl rfl ?_
      refine jr_iload K (D_at DX2_amount 23 rfl) rfl ?_
      refine jr_aload_n K (D_at DX2_amount 24 rfl) rfl rfl ?_
      refine jr_iload_n K (D_at DX2_amount 25 rfl) rfl rfl ?_
      obtain ⟨q45, e45, hf⟩ := jbind hf
      obtain ⟨rc_45, e45⟩ := jcv_o e45
      refine jr_callV K (C_X2_holds (d) e45) (D_at DX2_amount 26 rfl) cv_X2_48_X2_holds (As := [.int x5, .ref a2, .int x3]) (ci := 2) rfl rc_45 rfl rfl (by exact Nat.le_of_ble_eq_true rfl) (kc2 := 0) (ks2 := 0) rfl rfl (fun k9 h9 w9 => by cases w9.1) (fun r9 h9 w9 => ?_)
      obtain ⟨w1, w2⟩ := w9
      subst h9
      cases w1
      show jJ G X _ 0 0 _ _ (.int q45.1 :: _)
      refine jr_if_eq K (D_at DX2_amount 27 rfl) (tgt := 63) (by decide) (fun c48 => ?_) (fun c48 => ?_)
      · replace hf := (if_pos c48).symm.trans hf
        refine jr_iinc K (D_at DX2_amount 35 rfl) (i := 5) rfl (v := x5 + (1 : Int32)) (jinc (by decide)) (by decide) (L2 := [_, _, _, _, _, _]) rfl ?_
        refine jr_goto K (D_at DX2_amount 36 rfl) (tgt := 20) (by decide) ?_
        refine jr_keep [true, true, true, true, true, true] ?_
        exact hr20 a0 x1 a2 x3 x4 (x5 + (1 : Int32)) q45.2 hf
      · replace hf := (if_neg c48).symm.trans hf
        refine jr_iload K (D_at DX2_amount 28 rfl) rfl ?_
        refine jr_aload_n K (D_at DX2_amount 29 rfl) rfl rfl ?_
        obtain ⟨p54, e54, hf⟩ := jbind hf
        refine jr_getR K (D_at DX2_amount 30 rfl) fg_X2_15_2 e54 ?_
        refine jr_iload K (D_at DX2_amount 31 rfl) rfl ?_
        obtain ⟨v59, e59, hf⟩ := jbind hf
        refine jr_iald K (D_at DX2_amount 32 rfl) e59 ?_
        refine jr_iadd K (D_at DX2_amount 33 rfl) ?_
        refine jr_istore K (D_at DX2_amount 34 rfl) (i := 4) (by decide) (L2 := [_, _, _, _, _, _]) rfl ?_
        refine jr_iinc K (D_at DX2_amount 35 rfl) (i := 5) rfl (v := x5 + (1 : Int32)) (jinc (by decide)) (by decide) (L2 := [_, _, _, _, _, _]) rfl ?_
        refine jr_goto K (D_at DX2_amount 36 rfl) (tgt := 20) (by decide) ?_
        refine jr_keep [true, true, true, true, true, true] ?_
        exact hr20 a0 x1 a2 x3 (x4 + v59) (x5 + (1 : Int32)) q45.2 hf
theorem J_X2_amount_20 {G : jG} {l : Launch} {d : Nat} {X : jX} {res : (Int32 × jH)} (K : jOK G l mX2_amount (d + 3) X) (n : Nat) (E : jEnd G mX2_amount (jPW res) X) (k : Nat) : ∀ (a0 : Nat) (x1 : Int32) (a2 : Nat) (x3 : Int32) (x4 : Int32) (x5 : Int32) (h : jH), F_X2_amount_20 n k a0 x1 a2 x3 x4 x5 h = some res → jJ G X h 0 0 20 [some (.ref a0), some (.int x1), some (.ref a2), some (.int x3), some (.int x4), some (.int x5)] [] := by
  induction k with
  | zero =>
    intro a0 x1 a2 x3 x4 x5 h hf
    exact jno (show (none : Option (Int32 × jH)) = some res from hf)
  | succ k ih =>
    intro a0 x1 a2 x3 x4 x5 h hf
    exact J_X2_amount_20_b K n (F_X2_amount_20 n k) ih E a0 x1 a2 x3 x4 x5 h hf
set_option maxHeartbeats 400000 in
set_option maxRecDepth 100000 in
theorem J_X2_amount {G : jG} {l : Launch} {d : Nat} {X : jX} {res : (Int32 × jH)} (K : jOK G l mX2_amount (d + 3) X) (n : Nat) (E : jEnd G mX2_amount (jPW res) X) (a0 : Nat) (x1 : Int32) (a2 : Nat) (x3 : Int32) (h : jH) (hf : F_X2_amount n a0 x1 a2 x3 h = some res) : jJ G X h 0 0 0 [some (.ref a0), some (.int x1), some (.ref a2), some (.int x3), none, none] [] := by
  unfold F_X2_amount at hf
  refine jr_aload_n K (D_at DX2_amount 0 rfl) rfl rfl ?_
  obtain ⟨v1, e1, hf⟩ := jbind hf
  refine jr_getI K (D_at DX2_amount 1 rfl) fg_X2_27_2 e1 ?_
  refine jr_if_ne K (D_at DX2_amount 2 rfl) (tgt := 14) (by decide) (fun c4 => ?_) (fun c4 => ?_)
  · replace hf := (if_neg c4).symm.trans hf
    refine jr_iconst K (D_at DX2_amount 8 rfl) (v := (0 : Int32)) (by decide) ?_
    refine jr_istore K (D_at DX2_amount 9 rfl) (i := 4) (by decide) (L2 := [_, _, _, _, _, _]) rfl ?_
    refine jr_iconst K (D_at DX2_amount 10 rfl) (v := (0 : Int32)) (by decide) ?_
    refine jr_istore K (D_at DX2_amount 11 rfl) (i := 5) (by decide) (L2 := [_, _, _, _, _, _]) rfl ?_
    refine jr_keep [true, true, true, true, true, true] ?_
    exact J_X2_amount_20 K n E n a0 x1 a2 x3 (0 : Int32) (0 : Int32) h hf
  · replace hf := (if_pos c4).symm.trans hf
    refine jr_iload_n K (D_at DX2_amount 3 rfl) rfl rfl ?_
    refine jr_aload_n K (D_at DX2_amount 4 rfl) rfl rfl ?_
    refine jr_iload_n K (D_at DX2_amount 5 rfl) rfl rfl ?_
    obtain ⟨v10, e10, hf⟩ := jbind hf
    refine jr_callS K (C_X2_untoldAmount (d + 1) e10) (D_at DX2_amount 6 rfl) cs_X2_44_X2_untoldAmount (As := [.int x1, .ref a2, .int x3]) rfl rfl (by exact Nat.le_of_ble_eq_true rfl) (kc2 := 0) (ks2 := 0) rfl rfl (fun k9 h9 w9 => by cases w9.1) (fun r9 h9 w9 => ?_)
    obtain ⟨w1, w2⟩ := w9
    subst h9
    cases w1
    show jJ G X _ 0 0 _ _ (.int v10 :: _)
    cases hf
    exact jr_iret K E (D_at DX2_amount 7 rfl) rfl ⟨rfl, rfl⟩
theorem C_X2_amount {G : jG} {l : Launch} (d : Nat) {n : Nat} {a0 : Nat} {x1 : Int32} {a2 : Nat} {x3 : Int32} {h : jH} {res : (Int32 × jH)} (hf : F_X2_amount n a0 x1 a2 x3 h = some res) : jC G l mX2_amount (d + 3) 0 0 [.ref a0, .int x1, .ref a2, .int x3] h (jPW res) :=
  jC.of (by decide +kernel) (jcats rfl) (Nat.le_of_ble_eq_true rfl) (fun X K E => J_X2_amount K n E a0 x1 a2 x3 h hf)
set_option maxHeartbeats 400000 in
set_option maxRecDepth 100000 in
theorem J_X1_fadeAll_2_b {G : jG} {l : Launch} {d : Nat} {X : jX} {res : jH} (K : jOK G l mX1_fadeAll (d + 4) X) (n : Nat) (rc2 : Nat → Nat → Int32 → jH → Option jH) (hr2 : ∀ (a0 : Nat) (a1 : Nat) (x2 : Int32) (h : jH), rc2 a0 a1 x2 h = some res → jJ G X h 0 0 2 [some (.ref a0), some (.ref a1), some (.int x2)] []) (E : jEnd G mX1_fadeAll (jPV res) X) (a0 : Nat) (a1 : Nat) (x2 : Int32) (h : jH) (hf : F_X1_fadeAll_2_b n rc2 a0 a1 x2 h = some res) : jJ G X h 0 0 2 [some (.ref a0), some (.ref a1), some (.int x2)] [] := by
  unfold F_X1_fadeAll_2_b at hf
  refine jr_iload_n K (D_at DX1_fadeAll 2 rfl) rfl rfl ?_
  refine jr_aload_n K (D_at DX1_fadeAll 3 rfl) rfl rfl ?_
  obtain ⟨v4, e4, hf⟩ := jbind hf
  refine jr_getI K (D_at DX1_fadeAll 4 rfl) fg_X1_62_6 e4 ?_
  refine jr_icmp_ge K (D_at DX1_fadeAll 5 rfl) (tgt := 44) (by decide) (fun c7 => ?_) (fun c7 => ?_)
  · replace hf := (if_pos c7).symm.trans hf
    cases hf
    exact jr_vret K E (D_at DX1_fadeAll 25 rfl) rfl ⟨rfl, rfl⟩
  · replace hf := (if_neg c7).symm.trans hf
    refine jr_aload_n K (D_at DX1_fadeAll 6 rfl) rfl rfl ?_
    obtain ⟨p11, e11, hf⟩ := jbind hf
    refine jr_getR K (D_at DX1_fadeAll 7 rfl) fg_X1_65_6 e11 ?_
    refine jr_iload_n K (D_at DX1_fadeAll 8 rfl) rfl rfl ?_
    refine jr_bipush K (D_at DX1_fadeAll 9 rfl) (v := (99 : Int32)) (by decide) ?_
    refine jr_aload_n K (D_at DX1_fadeAll 10 rfl) rfl rfl ?_
    obtain ⟨p18, e18, hf⟩ := jbind hf
    refine jr_getR K (D_at DX1_fadeAll 11 rfl) fg_X1_65_6 e18 ?_
    refine jr_iload_n K (D_at DX1_fadeAll 12 rfl) rfl rfl ?_
    obtain ⟨v22, e22, hf⟩ := jbind hf
    refine jr_iald K (D_at DX1_fadeAll 13 rfl) e22 ?_
    refine jr_aload_n K (D_at DX1_fadeAll 14 rfl) rfl rfl ?_
    obtain ⟨p24, e24, hf⟩ := jbind hf
    refine jr_getR K (D_at DX1_fadeAll 15 rfl) fg_X1_9_1 e24 ?_
    refine jr_iconst K (D_at DX1_fadeAll 16 rfl) (v := (0 : Int32)) (by decide) ?_
    refine jr_aload_n K (D_at DX1_fadeAll 17 rfl) rfl rfl ?_
    refine jr_iload_n K (D_at DX1_fadeAll 18 rfl) rfl rfl ?_
    obtain ⟨q30, e30, hf⟩ := jbind hf
    obtain ⟨rc_30, e30⟩ := jcv_o e30
    refine jr_callV K (C_X2_amount (d) e30) (D_at DX1_fadeAll 19 rfl) cv_X1_50_X2_amount (As := [.int (0 : Int32), .ref a1, .int x2]) (ci := 2) rfl rc_30 rfl rfl (by exact Nat.le_of_ble_eq_true rfl) (kc2 := 0) (ks2 := 0) rfl rfl (fun k9 h9 w9 => by cases w9.1) (fun r9 h9 w9 => ?_)
    obtain ⟨w1, w2⟩ := w9
    subst h9
    cases w1
    show jJ G X _ 0 0 _ _ (.int q30.1 :: _)
    refine jr_iadd K (D_at DX1_fadeAll 20 rfl) ?_
    refine jr_min K (D_at DX1_fadeAll 21 rfl) mm_X1_56 (by exact Nat.le_of_ble_eq_true rfl) ?_
    obtain ⟨h37, e37, hf⟩ := jbind hf
    refine jr_iast K (D_at DX1_fadeAll 22 rfl) e37 ?_
    refine jr_iinc K (D_at DX1_fadeAll 23 rfl) (i := 2) rfl (v := x2 + (1 : Int32)) (jinc (by decide)) (by decide) (L2 := [_, _, _]) rfl ?_
    refine jr_goto K (D_at DX1_fadeAll 24 rfl) (tgt := 2) (by decide) ?_
    refine jr_keep [true, true, true] ?_
    exact hr2 a0 a1 (x2 + (1 : Int32)) h37 hf
theorem J_X1_fadeAll_2 {G : jG} {l : Launch} {d : Nat} {X : jX} {res : jH} (K : jOK G l mX1_fadeAll (d + 4) X) (n : Nat) (E : jEnd G mX1_fadeAll (jPV res) X) (k : Nat) : ∀ (a0 : Nat) (a1 : Nat) (x2 : Int32) (h : jH), F_X1_fadeAll_2 n k a0 a1 x2 h = some res → jJ G X h 0 0 2 [some (.ref a0), some (.ref a1), some (.int x2)] [] := by
  induction k with
  | zero =>
    intro a0 a1 x2 h hf
    exact jno (show (none : Option jH) = some res from hf)
  | succ k ih =>
    intro a0 a1 x2 h hf
    exact J_X1_fadeAll_2_b K n (F_X1_fadeAll_2 n k) ih E a0 a1 x2 h hf
set_option maxHeartbeats 400000 in
set_option maxRecDepth 100000 in
theorem J_X1_fadeAll {G : jG} {l : Launch} {d : Nat} {X : jX} {res : jH} (K : jOK G l mX1_fadeAll (d + 4) X) (n : Nat) (E : jEnd G mX1_fadeAll (jPV res) X) (a0 : Nat) (a1 : Nat) (h : jH) (hf : F_X1_fadeAll n a0 a1 h = some res) : jJ G X h 0 0 0 [some (.ref a0), some (.ref a1), none] [] := by
  unfold F_X1_fadeAll at hf
  refine jr_iconst K (D_at DX1_fadeAll 0 rfl) (v := (0 : Int32)) (by decide) ?_
  refine jr_istore_n K (D_at DX1_fadeAll 1 rfl) (i := 2) rfl (by decide) (L2 := [_, _, _]) rfl ?_
  refine jr_keep [true, true, true] ?_
  exact J_X1_fadeAll_2 K n E n a0 a1 (0 : Int32) h hf
theorem C_X1_fadeAll {G : jG} {l : Launch} (d : Nat) {n : Nat} {a0 : Nat} {a1 : Nat} {h : jH} {res : jH} (hf : F_X1_fadeAll n a0 a1 h = some res) : jC G l mX1_fadeAll (d + 4) 0 0 [.ref a0, .ref a1] h (jPV res) :=
  jC.of (by decide +kernel) (jcats rfl) (Nat.le_of_ble_eq_true rfl) (fun X K E => J_X1_fadeAll K n E a0 a1 h hf)
set_option maxHeartbeats 400000 in
set_option maxRecDepth 100000 in
theorem J_X1_draw {G : jG} {l : Launch} {d : Nat} {X : jX} {res : (Int32 × jH)} (K : jOK G l mX1_draw (d) X) (n : Nat) (E : jEnd G mX1_draw (jPW res) X) (a0 : Nat) (h : jH) (hf : F_X1_draw n a0 h = some res) : jJ G X h 0 0 0 [some (.ref a0)] [] := by
  unfold F_X1_draw at hf
  refine jr_aload_n K (D_at DX1_draw 0 rfl) rfl rfl ?_
  refine jr_ldc K (D_at DX1_draw 1 rfl) (v := (1103515245 : Int32)) kc_X1_98 ?_
  refine jr_aload_n K (D_at DX1_draw 2 rfl) rfl rfl ?_
  obtain ⟨v4, e4, hf⟩ := jbind hf
  refine jr_getI K (D_at DX1_draw 3 rfl) fg_X1_38_6 e4 ?_
  refine jr_imul K (D_at DX1_draw 4 rfl) ?_
  refine jr_sipush K (D_at DX1_draw 5 rfl) (v := (12345 : Int32)) (by decide) ?_
  refine jr_iadd K (D_at DX1_draw 6 rfl) ?_
  obtain ⟨h12, e12, hf⟩ := jbind hf
  refine jr_putI K (D_at DX1_draw 7 rfl) fp_X1_38_6 (Or.inl rfl) e12 ?_
  refine jr_aload_n K (D_at DX1_draw 8 rfl) rfl rfl ?_
  obtain ⟨v16, e16, hf⟩ := jbind hf
  refine jr_getI K (D_at DX1_draw 9 rfl) fg_X1_38_6 e16 ?_
  refine jr_bipush K (D_at DX1_draw 10 rfl) (v := (16 : Int32)) (by decide) ?_
  refine jr_iushr K (D_at DX1_draw 11 rfl) (v := jushr v16 (16 : Int32)) rfl ?_
  refine jr_sipush K (D_at DX1_draw 12 rfl) (v := (32767 : Int32)) (by decide) ?_
  refine jr_iand K (D_at DX1_draw 13 rfl) ?_
  refine jr_bipush K (D_at DX1_draw 14 rfl) (v := (100 : Int32)) (by decide) ?_
  refine jr_irem K (D_at DX1_draw 15 rfl) (by decide) ?_
  cases hf
  exact jr_iret K E (D_at DX1_draw 16 rfl) rfl ⟨rfl, rfl⟩
theorem C_X1_draw {G : jG} {l : Launch} (d : Nat) {n : Nat} {a0 : Nat} {h : jH} {res : (Int32 × jH)} (hf : F_X1_draw n a0 h = some res) : jC G l mX1_draw (d) 0 0 [.ref a0] h (jPW res) :=
  jC.of (by decide +kernel) (jcats rfl) (Nat.le_of_ble_eq_true rfl) (fun X K E => J_X1_draw K n E a0 h hf)
set_option maxHeartbeats 400000 in
set_option maxRecDepth 100000 in
theorem J_X11_withBit {G : jG} {l : Launch} {d : Nat} {X : jX} {res : Int32} (K : jOK G l mX11_withBit (d) X) (n : Nat) (h : jH) (E : jEnd G mX11_withBit (jPR h res) X) (x0 : Int32) (x1 : Int32) (x2 : Int32) (hf : F_X11_withBit n x0 x1 x2 h = some res) : jJ G X h 0 0 0 [some (.int x0), some (.int x1), some (.int x2)] [] := by
  unfold F_X11_withBit at hf
  refine jr_iload_n K (D_at DX11_withBit 0 rfl) rfl rfl ?_
  refine jr_if_eq K (D_at DX11_withBit 1 rfl) (tgt := 12) (by decide) (fun c1 => ?_) (fun c1 => ?_)
  · replace hf := (if_pos c1).symm.trans hf
    refine jr_iload_n K (D_at DX11_withBit 8 rfl) rfl rfl ?_
    refine jr_iconst K (D_at DX11_withBit 9 rfl) (v := (1 : Int32)) (by decide) ?_
    refine jr_iload_n K (D_at DX11_withBit 10 rfl) rfl rfl ?_
    refine jr_ishl K (D_at DX11_withBit 11 rfl) ?_
    refine jr_iconst K (D_at DX11_withBit 12 rfl) (v := (-1 : Int32)) (by decide) ?_
    refine jr_ixor K (D_at DX11_withBit 13 rfl) ?_
    refine jr_iand K (D_at DX11_withBit 14 rfl) ?_
    cases hf
    exact jr_iret K E (D_at DX11_withBit 15 rfl) rfl ⟨rfl, rfl⟩
  · replace hf := (if_neg c1).symm.trans hf
    refine jr_iload_n K (D_at DX11_withBit 2 rfl) rfl rfl ?_
    refine jr_iconst K (D_at DX11_withBit 3 rfl) (v := (1 : Int32)) (by decide) ?_
    refine jr_iload_n K (D_at DX11_withBit 4 rfl) rfl rfl ?_
    refine jr_ishl K (D_at DX11_withBit 5 rfl) ?_
    refine jr_ior K (D_at DX11_withBit 6 rfl) ?_
    refine jr_goto K (D_at DX11_withBit 7 rfl) (tgt := 19) (by decide) ?_
    cases hf
    exact jr_iret K E (D_at DX11_withBit 15 rfl) rfl ⟨rfl, rfl⟩
theorem C_X11_withBit {G : jG} {l : Launch} (d : Nat) {n : Nat} {x0 : Int32} {x1 : Int32} {x2 : Int32} {h : jH} {res : Int32} (hf : F_X11_withBit n x0 x1 x2 h = some res) : jC G l mX11_withBit (d) 0 0 [.int x0, .int x1, .int x2] h (jPR h res) :=
  jC.of (by decide +kernel) (jcats rfl) (Nat.le_of_ble_eq_true rfl) (fun X K E => J_X11_withBit K n h E x0 x1 x2 hf)
set_option maxHeartbeats 400000 in
set_option maxRecDepth 100000 in
theorem J_X5_add_90 {G : jG} {l : Launch} {d : Nat} {X : jX} {res : jH} (K : jOK G l mX5_add (d + 1) X) (n : Nat) (E : jEnd G mX5_add (jPV res) X) (a0 : Nat) (sa0 : Nat) (s1 : Int32) (h : jH) (hf : F_X5_add_90 n a0 sa0 s1 h = some res) : jJ G X h 0 0 90 [some (.ref a0), none, none, none, none] [.int s1, .ref sa0] := by
  unfold F_X5_add_90 at hf
  obtain ⟨h90, e90, hf⟩ := jbind hf
  refine jr_putI K (D_at DX5_add 58 rfl) fp_X5_25_4 (Or.inl rfl) e90 ?_
  refine jr_aload_n K (D_at DX5_add 59 rfl) rfl rfl ?_
  refine jr_bipush K (D_at DX5_add 60 rfl) (v := (60 : Int32)) (by decide) ?_
  refine jr_aload_n K (D_at DX5_add 61 rfl) rfl rfl ?_
  obtain ⟨v97, e97, hf⟩ := jbind hf
  refine jr_getI K (D_at DX5_add 62 rfl) fg_X5_21_4 e97 ?_
  refine jr_iconst K (D_at DX5_add 63 rfl) (v := (1 : Int32)) (by decide) ?_
  refine jr_iadd K (D_at DX5_add_1 0 rfl) ?_
  refine jr_min K (D_at DX5_add_1 1 rfl) mm_X5_42 (by exact Nat.le_of_ble_eq_true rfl) ?_
  obtain ⟨h105, e105, hf⟩ := jbind hf
  refine jr_putI K (D_at DX5_add_1 2 rfl) fp_X5_21_4 (Or.inl rfl) e105 ?_
  cases hf
  exact jr_vret K E (D_at DX5_add_1 3 rfl) rfl ⟨rfl, rfl⟩
set_option maxHeartbeats 400000 in
set_option maxRecDepth 100000 in
theorem J_X5_add {G : jG} {l : Launch} {d : Nat} {X : jX} {res : jH} (K : jOK G l mX5_add (d + 1) X) (n : Nat) (E : jEnd G mX5_add (jPV res) X) (a0 : Nat) (a1 : Nat) (x2 : Int32) (x3 : Int32) (x4 : Int32) (h : jH) (hf : F_X5_add n a0 a1 x2 x3 x4 h = some res) : jJ G X h 0 0 0 [some (.ref a0), some (.ref a1), some (.int x2), some (.int x3), some (.int x4)] [] := by
  unfold F_X5_add at hf
  refine jr_aload_n K (D_at DX5_add 0 rfl) rfl rfl ?_
  obtain ⟨p1, e1, hf⟩ := jbind hf
  refine jr_getR K (D_at DX5_add 1 rfl) fg_X5_11_4 e1 ?_
  refine jr_aload_n K (D_at DX5_add 2 rfl) rfl rfl ?_
  obtain ⟨v5, e5, hf⟩ := jbind hf
  refine jr_getI K (D_at DX5_add 3 rfl) fg_X5_25_4 e5 ?_
  refine jr_aload_n K (D_at DX5_add 4 rfl) rfl rfl ?_
  obtain ⟨v9, e9, hf⟩ := jbind hf
  refine jr_getI K (D_at DX5_add 5 rfl) fg_X5_28_6 e9 ?_
  refine jr_shf K (D_at DX5_add 6 rfl) st_X5_33 ?_
  refine jr_iconst K (D_at DX5_add 7 rfl) (v := (0 : Int32)) (by decide) ?_
  refine jr_stald (f := fun j => jshf.getD j 0) (n := 6) K jT_shf (D_at DX5_add 8 rfl) (by decide) ?_
  rw [show jshf.getD ((0 : Int32)).toNatClampNeg 0 = (18 : Int32) from by decide]
  refine jr_ishl K (D_at DX5_add 9 rfl) ?_
  refine jr_aload_n K (D_at DX5_add 10 rfl) rfl rfl ?_
  obtain ⟨v19, e19, hf⟩ := jbind hf
  refine jr_getI K (D_at DX5_add 11 rfl) fg_X5_36_6 e19 ?_
  refine jr_shf K (D_at DX5_add 12 rfl) st_X5_33 ?_
  refine jr_iconst K (D_at DX5_add 13 rfl) (v := (1 : Int32)) (by decide) ?_
  refine jr_stald (f := fun j => jshf.getD j 0) (n := 6) K jT_shf (D_at DX5_add 14 rfl) (by decide) ?_
  rw [show jshf.getD ((1 : Int32)).toNatClampNeg 0 = (15 : Int32) from by decide]
  refine jr_ishl K (D_at DX5_add 15 rfl) ?_
  refine jr_ior K (D_at DX5_add 16 rfl) ?_
  refine jr_iload_n K (D_at DX5_add 17 rfl) rfl rfl ?_
  refine jr_shf K (D_at DX5_add 18 rfl) st_X5_33 ?_
  refine jr_iconst K (D_at DX5_add 19 rfl) (v := (2 : Int32)) (by decide) ?_
  refine jr_stald (f := fun j => jshf.getD j 0) (n := 6) K jT_shf (D_at DX5_add 20 rfl) (by decide) ?_
  rw [show jshf.getD ((2 : Int32)).toNatClampNeg 0 = (12 : Int32) from by decide]
  refine jr_ishl K (D_at DX5_add 21 rfl) ?_
  refine jr_ior K (D_at DX5_add 22 rfl) ?_
  refine jr_iload_n K (D_at DX5_add 23 rfl) rfl rfl ?_
  refine jr_shf K (D_at DX5_add 24 rfl) st_X5_33 ?_
  refine jr_iconst K (D_at DX5_add 25 rfl) (v := (3 : Int32)) (by decide) ?_
  refine jr_stald (f := fun j => jshf.getD j 0) (n := 6) K jT_shf (D_at DX5_add 26 rfl) (by decide) ?_
  rw [show jshf.getD ((3 : Int32)).toNatClampNeg 0 = (10 : Int32) from by decide]
  refine jr_ishl K (D_at DX5_add 27 rfl) ?_
  refine jr_ior K (D_at DX5_add 28 rfl) ?_
  refine jr_iload K (D_at DX5_add 29 rfl) rfl ?_
  refine jr_shf K (D_at DX5_add 30 rfl) st_X5_33 ?_
  refine jr_iconst K (D_at DX5_add 31 rfl) (v := (4 : Int32)) (by decide) ?_
  refine jr_stald (f := fun j => jshf.getD j 0) (n := 6) K jT_shf (D_at DX5_add 32 rfl) (by decide) ?_
  rw [show jshf.getD ((4 : Int32)).toNatClampNeg 0 = (5 : Int32) from by decide]
  refine jr_ishl K (D_at DX5_add 33 rfl) ?_
  refine jr_ior K (D_at DX5_add 34 rfl) ?_
  refine jr_aload_n K (D_at DX5_add 35 rfl) rfl rfl ?_
  obtain ⟨p55, e55, hf⟩ := jbind hf
  refine jr_getR K (D_at DX5_add 36 rfl) fg_X5_39_6 e55 ?_
  refine jr_iload_n K (D_at DX5_add 37 rfl) rfl rfl ?_
  obtain ⟨v59, e59, hf⟩ := jbind hf
  refine jr_iald K (D_at DX5_add 38 rfl) e59 ?_
  refine jr_shf K (D_at DX5_add 39 rfl) st_X5_33 ?_
  refine jr_iconst K (D_at DX5_add 40 rfl) (v := (5 : Int32)) (by decide) ?_
  refine jr_stald (f := fun j => jshf.getD j 0) (n := 6) K jT_shf (D_at DX5_add 41 rfl) (by decide) ?_
  rw [show jshf.getD ((5 : Int32)).toNatClampNeg 0 = (0 : Int32) from by decide]
  refine jr_ishl K (D_at DX5_add 42 rfl) ?_
  refine jr_ior K (D_at DX5_add 43 rfl) ?_
  obtain ⟨h67, e67, hf⟩ := jbind hf
  refine jr_iast K (D_at DX5_add 44 rfl) e67 ?_
  refine jr_aload_n K (D_at DX5_add 45 rfl) rfl rfl ?_
  refine jr_aload_n K (D_at DX5_add 46 rfl) rfl rfl ?_
  obtain ⟨v70, e70, hf⟩ := jbind hf
  refine jr_getI K (D_at DX5_add 47 rfl) fg_X5_25_4 e70 ?_
  refine jr_iconst K (D_at DX5_add 48 rfl) (v := (1 : Int32)) (by decide) ?_
  refine jr_iadd K (D_at DX5_add 49 rfl) ?_
  refine jr_bipush K (D_at DX5_add 50 rfl) (v := (60 : Int32)) (by decide) ?_
  refine jr_icmp_ge K (D_at DX5_add 51 rfl) (tgt := 89) (by decide) (fun c77 => ?_) (fun c77 => ?_)
  · replace hf := (if_pos c77).symm.trans hf
    refine jr_iconst K (D_at DX5_add 57 rfl) (v := (0 : Int32)) (by decide) ?_
    refine jr_keep [true, false, false, false, false] ?_
    exact J_X5_add_90 K n E a0 a0 (0 : Int32) h67 hf
  · replace hf := (if_neg c77).symm.trans hf
    refine jr_aload_n K (D_at DX5_add 52 rfl) rfl rfl ?_
    obtain ⟨v81, e81, hf⟩ := jbind hf
    refine jr_getI K (D_at DX5_add 53 rfl) fg_X5_25_4 e81 ?_
    refine jr_iconst K (D_at DX5_add 54 rfl) (v := (1 : Int32)) (by decide) ?_
    refine jr_iadd K (D_at DX5_add 55 rfl) ?_
    refine jr_goto K (D_at DX5_add 56 rfl) (tgt := 90) (by decide) ?_
    refine jr_keep [true, false, false, false, false] ?_
    exact J_X5_add_90 K n E a0 a0 (v81 + (1 : Int32)) h67 hf
theorem C_X5_add {G : jG} {l : Launch} (d : Nat) {n : Nat} {a0 : Nat} {a1 : Nat} {x2 : Int32} {x3 : Int32} {x4 : Int32} {h : jH} {res : jH} (hf : F_X5_add n a0 a1 x2 x3 x4 h = some res) : jC G l mX5_add (d + 1) 0 0 [.ref a0, .ref a1, .int x2, .int x3, .int x4] h (jPV res) :=
  jC.of (by decide +kernel) (jcats rfl) (Nat.le_of_ble_eq_true rfl) (fun X K E => J_X5_add K n E a0 a1 x2 x3 x4 h hf)
set_option maxHeartbeats 400000 in
set_option maxRecDepth 100000 in
theorem J_X1_catchSome_4_b {G : jG} {l : Launch} {d : Nat} {X : jX} {res : (Int32 × jH)} (K : jOK G l mX1_catchSome (d + 4) X) (n : Nat) (rc4 : Nat → Nat → Int32 → Int32 → jH → Option (Int32 × jH)) (hr4 : ∀ (a0 : Nat) (a1 : Nat) (x2 : Int32) (x3 : Int32) (h : jH), rc4 a0 a1 x2 x3 h = some res → jJ G X h 0 0 4 [some (.ref a0), some (.ref a1), some (.int x2), some (.int x3)] []) (E : jEnd G mX1_catchSome (jPW res) X) (a0 : Nat) (a1 : Nat) (x2 : Int32) (x3 : Int32) (h : jH) (hf : F_X1_catchSome_4_b n rc4 a0 a1 x2 x3 h = some res) : jJ G X h 0 0 4 [some (.ref a0), some (.ref a1), some (.int x2), some (.int x3)] [] := by
  unfold F_X1_catchSome_4_b at hf
  refine jr_iload_n K (D_at DX1_catchSome 4 rfl) rfl rfl ?_
  refine jr_aload_n K (D_at DX1_catchSome 5 rfl) rfl rfl ?_
  obtain ⟨v6, e6, hf⟩ := jbind hf
  refine jr_getI K (D_at DX1_catchSome 6 rfl) fg_X1_62_6 e6 ?_
  refine jr_icmp_ge K (D_at DX1_catchSome 7 rfl) (tgt := 83) (by decide) (fun c9 => ?_) (fun c9 => ?_)
  · replace hf := (if_pos c9).symm.trans hf
    refine jr_iload_n K (D_at DX1_catchSome 45 rfl) rfl rfl ?_
    cases hf
    exact jr_iret K E (D_at DX1_catchSome 46 rfl) rfl ⟨rfl, rfl⟩
  · replace hf := (if_neg c9).symm.trans hf
    refine jr_aload_n K (D_at DX1_catchSome 8 rfl) rfl rfl ?_
    refine jr_iload_n K (D_at DX1_catchSome 9 rfl) rfl rfl ?_
    refine jr_iconst K (D_at DX1_catchSome 10 rfl) (v := (-1 : Int32)) (by decide) ?_
    obtain ⟨v15, e15, hf⟩ := jbind hf
    obtain ⟨rc_15, e15⟩ := jcv_o e15
    refine jr_callV K (C_X8_gap (d + 3) e15) (D_at DX1_catchSome 11 rfl) cv_X1_69_X8_gap (As := [.int x3, .int (-1 : Int32)]) (ci := 6) rfl rc_15 rfl rfl (by exact Nat.le_of_ble_eq_true rfl) (kc2 := 0) (ks2 := 0) rfl rfl (fun k9 h9 w9 => by cases w9.1) (fun r9 h9 w9 => ?_)
    obtain ⟨w1, w2⟩ := w9
    subst h9
    cases w1
    show jJ G X _ 0 0 _ _ (.int v15 :: _)
    refine jr_iconst K (D_at DX1_catchSome 12 rfl) (v := (1 : Int32)) (by decide) ?_
    refine jr_icmp_ne K (D_at DX1_catchSome 13 rfl) (tgt := 77) (by decide) (fun c19 => ?_) (fun c19 => ?_)
    · replace hf := (if_neg c19).symm.trans hf
      refine jr_iinc K (D_at DX1_catchSome 43 rfl) (i := 3) rfl (v := x3 + (1 : Int32)) (jinc (by decide)) (by decide) (L2 := [_, _, _, _]) rfl ?_
      refine jr_goto K (D_at DX1_catchSome 44 rfl) (tgt := 4) (by decide) ?_
      refine jr_keep [true, true, true, true] ?_
      exact hr4 a0 a1 x2 (x3 + (1 : Int32)) h hf
    · replace hf := (if_pos c19).symm.trans hf
      refine jr_aload_n K (D_at DX1_catchSome 14 rfl) rfl rfl ?_
      obtain ⟨v23, e23, hf⟩ := jbind hf
      refine jr_getI K (D_at DX1_catchSome 15 rfl) fg_X1_72_6 e23 ?_
      refine jr_iload_n K (D_at DX1_catchSome 16 rfl) rfl rfl ?_
      obtain ⟨v27, e27, hf⟩ := jbind hf
      refine jr_callSN K (C_X11_bit (d + 3) e27) (D_at DX1_catchSome 17 rfl) csn_X1_75_X11_bit (As := [.int v23, .int x3]) rfl rfl (by exact Nat.le_of_ble_eq_true rfl) (kc2 := 0) (ks2 := 0) rfl rfl (fun k9 h9 w9 => by cases w9.1) (fun r9 h9 w9 => ?_)
      obtain ⟨w1, w2⟩ := w9
      subst h9
      cases w1
      show jJ G X _ 0 0 _ _ (.int v27 :: _)
      refine jr_if_ne K (D_at DX1_catchSome 18 rfl) (tgt := 77) (by decide) (fun c30 => ?_) (fun c30 => ?_)
      · replace hf := (if_neg c30).symm.trans hf
        refine jr_iinc K (D_at DX1_catchSome 43 rfl) (i := 3) rfl (v := x3 + (1 : Int32)) (jinc (by decide)) (by decide) (L2 := [_, _, _, _]) rfl ?_
        refine jr_goto K (D_at DX1_catchSome 44 rfl) (tgt := 4) (by decide) ?_
        refine jr_keep [true, true, true, true] ?_
        exact hr4 a0 a1 x2 (x3 + (1 : Int32)) h hf
      · replace hf := (if_pos c30).symm.trans hf
        refine jr_aload_n K (D_at DX1_catchSome 19 rfl) rfl rfl ?_
        obtain ⟨q34, e34, hf⟩ := jbind hf
        refine jr_callS K (C_X1_draw (d + 3) e34) (D_at DX1_catchSome 20 rfl) cs_X1_78_X1_draw (As := [.ref a1]) rfl rfl (by exact Nat.le_of_ble_eq_true rfl) (kc2 := 0) (ks2 := 0) rfl rfl (fun k9 h9 w9 => by cases w9.1) (fun r9 h9 w9 => ?_)
        obtain ⟨w1, w2⟩ := w9
        subst h9
        cases w1
        show jJ G X _ 0 0 _ _ (.int q34.1 :: _)
        refine jr_aload_n K (D_at DX1_catchSome 21 rfl) rfl rfl ?_
        obtain ⟨p38, e38, hf⟩ := jbind hf
        refine jr_getR K (D_at DX1_catchSome 22 rfl) fg_X1_9_1 e38 ?_
        refine jr_iconst K (D_at DX1_catchSome 23 rfl) (v := (1 : Int32)) (by decide) ?_
        refine jr_aload_n K (D_at DX1_catchSome 24 rfl) rfl rfl ?_
        refine jr_iload_n K (D_at DX1_catchSome 25 rfl) rfl rfl ?_
        obtain ⟨q44, e44, hf⟩ := jbind hf
        obtain ⟨rc_44, e44⟩ := jcv_o e44
        refine jr_callV K (C_X2_amount (d) e44) (D_at DX1_catchSome 26 rfl) cv_X1_50_X2_amount (As := [.int (1 : Int32), .ref a1, .int x3]) (ci := 2) rfl rc_44 rfl rfl (by exact Nat.le_of_ble_eq_true rfl) (kc2 := 0) (ks2 := 0) rfl rfl (fun k9 h9 w9 => by cases w9.1) (fun r9 h9 w9 => ?_)
        obtain ⟨w1, w2⟩ := w9
        subst h9
        cases w1
        show jJ G X _ 0 0 _ _ (.int q44.1 :: _)
        refine jr_icmp_ge K (D_at DX1_catchSome 27 rfl) (tgt := 77) (by decide) (fun c47 => ?_) (fun c47 => ?_)
        · replace hf := (if_pos c47).symm.trans hf
          refine jr_iinc K (D_at DX1_catchSome 43 rfl) (i := 3) rfl (v := x3 + (1 : Int32)) (jinc (by decide)) (by decide) (L2 := [_, _, _, _]) rfl ?_
          refine jr_goto K (D_at DX1_catchSome 44 rfl) (tgt := 4) (by decide) ?_
          refine jr_keep [true, true, true, true] ?_
          exact hr4 a0 a1 x2 (x3 + (1 : Int32)) q44.2 hf
        · replace hf := (if_neg c47).symm.trans hf
          refine jr_aload_n K (D_at DX1_catchSome 28 rfl) rfl rfl ?_
          refine jr_aload_n K (D_at DX1_catchSome 29 rfl) rfl rfl ?_
          obtain ⟨v52, e52, hf⟩ := jbind hf
          refine jr_getI K (D_at DX1_catchSome 30 rfl) fg_X1_72_6 e52 ?_
          refine jr_iload_n K (D_at DX1_catchSome 31 rfl) rfl rfl ?_
          refine jr_iconst K (D_at DX1_catchSome 32 rfl) (v := (1 : Int32)) (by decide) ?_
          obtain ⟨v57, e57, hf⟩ := jbind hf
          refine jr_callSN K (C_X11_withBit (d + 3) e57) (D_at DX1_catchSome 33 rfl) csn_X1_81_X11_withBit (As := [.int v52, .int x3, .int (1 : Int32)]) rfl rfl (by exact Nat.le_of_ble_eq_true rfl) (kc2 := 0) (ks2 := 0) rfl rfl (fun k9 h9 w9 => by cases w9.1) (fun r9 h9 w9 => ?_)
          obtain ⟨w1, w2⟩ := w9
          subst h9
          cases w1
          show jJ G X _ 0 0 _ _ (.int v57 :: _)
          obtain ⟨h60, e60, hf⟩ := jbind hf
          refine jr_putI K (D_at DX1_catchSome 34 rfl) fp_X1_72_6 (Or.inl rfl) e60 ?_
          refine jr_aload_n K (D_at DX1_catchSome 35 rfl) rfl rfl ?_
          obtain ⟨p64, e64, hf⟩ := jbind hf
          refine jr_getR K (D_at DX1_catchSome 36 rfl) fg_X1_85_6 e64 ?_
          refine jr_aload_n K (D_at DX1_catchSome 37 rfl) rfl rfl ?_
          refine jr_iload_n K (D_at DX1_catchSome 38 rfl) rfl rfl ?_
          refine jr_iconst K (D_at DX1_catchSome 39 rfl) (v := (1 : Int32)) (by decide) ?_
          refine jr_iconst K (D_at DX1_catchSome 40 rfl) (v := (0 : Int32)) (by decide) ?_
          obtain ⟨h71, e71, hf⟩ := jbind hf
          obtain ⟨rc_71, e71⟩ := jcv_o e71
          refine jr_callV K (C_X5_add (d + 2) e71) (D_at DX1_catchSome 41 rfl) cv_X1_89_X5_add (As := [.ref a1, .int x3, .int (1 : Int32), .int (0 : Int32)]) (ci := 4) rfl rc_71 rfl rfl (by exact Nat.le_of_ble_eq_true rfl) (kc2 := 0) (ks2 := 0) rfl rfl (fun k9 h9 w9 => by cases w9.1) (fun r9 h9 w9 => ?_)
          obtain ⟨w1, w2⟩ := w9
          subst h9
          cases w1
          show jJ G X _ 0 0 _ _ []
          refine jr_iinc K (D_at DX1_catchSome 42 rfl) (i := 2) rfl (v := x2 + (1 : Int32)) (jinc (by decide)) (by decide) (L2 := [_, _, _, _]) rfl ?_
          refine jr_iinc K (D_at DX1_catchSome 43 rfl) (i := 3) rfl (v := x3 + (1 : Int32)) (jinc (by decide)) (by decide) (L2 := [_, _, _, _]) rfl ?_
          refine jr_goto K (D_at DX1_catchSome 44 rfl) (tgt := 4) (by decide) ?_
          refine jr_keep [true, true, true, true] ?_
          exact hr4 a0 a1 (x2 + (1 : Int32)) (x3 + (1 : Int32)) h71 hf
theorem J_X1_catchSome_4 {G : jG} {l : Launch} {d : Nat} {X : jX} {res : (Int32 × jH)} (K : jOK G l mX1_catchSome (d + 4) X) (n : Nat) (E : jEnd G mX1_catchSome (jPW res) X) (k : Nat) : ∀ (a0 : Nat) (a1 : Nat) (x2 : Int32) (x3 : Int32) (h : jH), F_X1_catchSome_4 n k a0 a1 x2 x3 h = some res → jJ G X h 0 0 4 [some (.ref a0), some (.ref a1), some (.int x2), some (.int x3)] [] := by
  induction k with
  | zero =>
    intro a0 a1 x2 x3 h hf
    exact jno (show (none : Option (Int32 × jH)) = some res from hf)
  | succ k ih =>
    intro a0 a1 x2 x3 h hf
    exact J_X1_catchSome_4_b K n (F_X1_catchSome_4 n k) ih E a0 a1 x2 x3 h hf
set_option maxHeartbeats 400000 in
set_option maxRecDepth 100000 in
theorem J_X1_catchSome {G : jG} {l : Launch} {d : Nat} {X : jX} {res : (Int32 × jH)} (K : jOK G l mX1_catchSome (d + 4) X) (n : Nat) (E : jEnd G mX1_catchSome (jPW res) X) (a0 : Nat) (a1 : Nat) (h : jH) (hf : F_X1_catchSome n a0 a1 h = some res) : jJ G X h 0 0 0 [some (.ref a0), some (.ref a1), none, none] [] := by
  unfold F_X1_catchSome at hf
  refine jr_iconst K (D_at DX1_catchSome 0 rfl) (v := (0 : Int32)) (by decide) ?_
  refine jr_istore_n K (D_at DX1_catchSome 1 rfl) (i := 2) rfl (by decide) (L2 := [_, _, _, _]) rfl ?_
  refine jr_iconst K (D_at DX1_catchSome 2 rfl) (v := (0 : Int32)) (by decide) ?_
  refine jr_istore_n K (D_at DX1_catchSome 3 rfl) (i := 3) rfl (by decide) (L2 := [_, _, _, _]) rfl ?_
  refine jr_keep [true, true, true, true] ?_
  exact J_X1_catchSome_4 K n E n a0 a1 (0 : Int32) (0 : Int32) h hf
theorem C_X1_catchSome {G : jG} {l : Launch} (d : Nat) {n : Nat} {a0 : Nat} {a1 : Nat} {h : jH} {res : (Int32 × jH)} (hf : F_X1_catchSome n a0 a1 h = some res) : jC G l mX1_catchSome (d + 4) 0 0 [.ref a0, .ref a1] h (jPW res) :=
  jC.of (by decide +kernel) (jcats rfl) (Nat.le_of_ble_eq_true rfl) (fun X K E => J_X1_catchSome K n E a0 a1 h hf)
set_option maxHeartbeats 400000 in
set_option maxRecDepth 100000 in
theorem J_X1_dropSome_4_b {G : jG} {l : Launch} {d : Nat} {X : jX} {res : (Int32 × jH)} (K : jOK G l mX1_dropSome (d + 4) X) (n : Nat) (rc4 : Nat → Nat → Int32 → Int32 → jH → Option (Int32 × jH)) (hr4 : ∀ (a0 : Nat) (a1 : Nat) (x2 : Int32) (x3 : Int32) (h : jH), rc4 a0 a1 x2 x3 h = some res → jJ G X h 0 0 4 [some (.ref a0), some (.ref a1), some (.int x2), some (.int x3)] []) (E : jEnd G mX1_dropSome (jPW res) X) (a0 : Nat) (a1 : Nat) (x2 : Int32) (x3 : Int32) (h : jH) (hf : F_X1_dropSome_4_b n rc4 a0 a1 x2 x3 h = some res) : jJ G X h 0 0 4 [some (.ref a0), some (.ref a1), some (.int x2), some (.int x3)] [] := by
  unfold F_X1_dropSome_4_b at hf
  refine jr_iload_n K (D_at DX1_dropSome 4 rfl) rfl rfl ?_
  refine jr_aload_n K (D_at DX1_dropSome 5 rfl) rfl rfl ?_
  obtain ⟨v6, e6, hf⟩ := jbind hf
  refine jr_getI K (D_at DX1_dropSome 6 rfl) fg_X1_62_6 e6 ?_
  refine jr_icmp_ge K (D_at DX1_dropSome 7 rfl) (tgt := 74) (by decide) (fun c9 => ?_) (fun c9 => ?_)
  · replace hf := (if_pos c9).symm.trans hf
    refine jr_iload_n K (D_at DX1_dropSome 40 rfl) rfl rfl ?_
    cases hf
    exact jr_iret K E (D_at DX1_dropSome 41 rfl) rfl ⟨rfl, rfl⟩
  · replace hf := (if_neg c9).symm.trans hf
    refine jr_aload_n K (D_at DX1_dropSome 8 rfl) rfl rfl ?_
    obtain ⟨v13, e13, hf⟩ := jbind hf
    refine jr_getI K (D_at DX1_dropSome 9 rfl) fg_X1_95_6 e13 ?_
    refine jr_iload_n K (D_at DX1_dropSome 10 rfl) rfl rfl ?_
    obtain ⟨v17, e17, hf⟩ := jbind hf
    refine jr_callSN K (C_X11_bit (d + 3) e17) (D_at DX1_dropSome 11 rfl) csn_X1_75_X11_bit (As := [.int v13, .int x3]) rfl rfl (by exact Nat.le_of_ble_eq_true rfl) (kc2 := 0) (ks2 := 0) rfl rfl (fun k9 h9 w9 => by cases w9.1) (fun r9 h9 w9 => ?_)
    obtain ⟨w1, w2⟩ := w9
    subst h9
    cases w1
    show jJ G X _ 0 0 _ _ (.int v17 :: _)
    refine jr_iconst K (D_at DX1_dropSome 12 rfl) (v := (1 : Int32)) (by decide) ?_
    refine jr_icmp_ne K (D_at DX1_dropSome 13 rfl) (tgt := 68) (by decide) (fun c21 => ?_) (fun c21 => ?_)
    · replace hf := (if_neg c21).symm.trans hf
      refine jr_iinc K (D_at DX1_dropSome 38 rfl) (i := 3) rfl (v := x3 + (1 : Int32)) (jinc (by decide)) (by decide) (L2 := [_, _, _, _]) rfl ?_
      refine jr_goto K (D_at DX1_dropSome 39 rfl) (tgt := 4) (by decide) ?_
      refine jr_keep [true, true, true, true] ?_
      exact hr4 a0 a1 x2 (x3 + (1 : Int32)) h hf
    · replace hf := (if_pos c21).symm.trans hf
      refine jr_aload_n K (D_at DX1_dropSome 14 rfl) rfl rfl ?_
      obtain ⟨q25, e25, hf⟩ := jbind hf
      refine jr_callS K (C_X1_draw (d + 3) e25) (D_at DX1_dropSome 15 rfl) cs_X1_78_X1_draw (As := [.ref a1]) rfl rfl (by exact Nat.le_of_ble_eq_true rfl) (kc2 := 0) (ks2 := 0) rfl rfl (fun k9 h9 w9 => by cases w9.1) (fun r9 h9 w9 => ?_)
      obtain ⟨w1, w2⟩ := w9
      subst h9
      cases w1
      show jJ G X _ 0 0 _ _ (.int q25.1 :: _)
      refine jr_aload_n K (D_at DX1_dropSome 16 rfl) rfl rfl ?_
      obtain ⟨p29, e29, hf⟩ := jbind hf
      refine jr_getR K (D_at DX1_dropSome 17 rfl) fg_X1_9_1 e29 ?_
      refine jr_iconst K (D_at DX1_dropSome 18 rfl) (v := (2 : Int32)) (by decide) ?_
      refine jr_aload_n K (D_at DX1_dropSome 19 rfl) rfl rfl ?_
      refine jr_iload_n K (D_at DX1_dropSome 20 rfl) rfl rfl ?_
      obtain ⟨q35, e35, hf⟩ := jbind hf
      obtain ⟨rc_35, e35⟩ := jcv_o e35
      refine jr_callV K (C_X2_amount (d) e35) (D_at DX1_dropSome 21 rfl) cv_X1_50_X2_amount (As := [.int (2 : Int32), .ref a1, .int x3]) (ci := 2) rfl rc_35 rfl rfl (by exact Nat.le_of_ble_eq_true rfl) (kc2 := 0) (ks2 := 0) rfl rfl (fun k9 h9 w9 => by cases w9.1) (fun r9 h9 w9 => ?_)
      obtain ⟨w1, w2⟩ := w9
      subst h9
      cases w1
      show jJ G X _ 0 0 _ _ (.int q35.1 :: _)
      refine jr_icmp_ge K (D_at DX1_dropSome 22 rfl) (tgt := 68) (by decide) (fun c38 => ?_) (fun c38 => ?_)
      · replace hf := (if_pos c38).symm.trans hf
        refine jr_iinc K (D_at DX1_dropSome 38 rfl) (i := 3) rfl (v := x3 + (1 : Int32)) (jinc (by decide)) (by decide) (L2 := [_, _, _, _]) rfl ?_
        refine jr_goto K (D_at DX1_dropSome 39 rfl) (tgt := 4) (by decide) ?_
        refine jr_keep [true, true, true, true] ?_
        exact hr4 a0 a1 x2 (x3 + (1 : Int32)) q35.2 hf
      · replace hf := (if_neg c38).symm.trans hf
        refine jr_aload_n K (D_at DX1_dropSome 23 rfl) rfl rfl ?_
        refine jr_aload_n K (D_at DX1_dropSome 24 rfl) rfl rfl ?_
        obtain ⟨v43, e43, hf⟩ := jbind hf
        refine jr_getI K (D_at DX1_dropSome 25 rfl) fg_X1_95_6 e43 ?_
        refine jr_iload_n K (D_at DX1_dropSome 26 rfl) rfl rfl ?_
        refine jr_iconst K (D_at DX1_dropSome 27 rfl) (v := (0 : Int32)) (by decide) ?_
        obtain ⟨v48, e48, hf⟩ := jbind hf
        refine jr_callSN K (C_X11_withBit (d + 3) e48) (D_at DX1_dropSome 28 rfl) csn_X1_81_X11_withBit (As := [.int v43, .int x3, .int (0 : Int32)]) rfl rfl (by exact Nat.le_of_ble_eq_true rfl) (kc2 := 0) (ks2 := 0) rfl rfl (fun k9 h9 w9 => by cases w9.1) (fun r9 h9 w9 => ?_)
        obtain ⟨w1, w2⟩ := w9
        subst h9
        cases w1
        show jJ G X _ 0 0 _ _ (.int v48 :: _)
        obtain ⟨h51, e51, hf⟩ := jbind hf
        refine jr_putI K (D_at DX1_dropSome 29 rfl) fp_X1_95_6 (Or.inl rfl) e51 ?_
        refine jr_aload_n K (D_at DX1_dropSome 30 rfl) rfl rfl ?_
        obtain ⟨p55, e55, hf⟩ := jbind hf
        refine jr_getR K (D_at DX1_dropSome 31 rfl) fg_X1_85_6 e55 ?_
        refine jr_aload_n K (D_at DX1_dropSome 32 rfl) rfl rfl ?_
        refine jr_iload_n K (D_at DX1_dropSome 33 rfl) rfl rfl ?_
        refine jr_iconst K (D_at DX1_dropSome 34 rfl) (v := (2 : Int32)) (by decide) ?_
        refine jr_iconst K (D_at DX1_dropSome 35 rfl) (v := (0 : Int32)) (by decide) ?_
        obtain ⟨h62, e62, hf⟩ := jbind hf
        obtain ⟨rc_62, e62⟩ := jcv_o e62
        refine jr_callV K (C_X5_add (d + 2) e62) (D_at DX1_dropSome 36 rfl) cv_X1_89_X5_add (As := [.ref a1, .int x3, .int (2 : Int32), .int (0 : Int32)]) (ci := 4) rfl rc_62 rfl rfl (by exact Nat.le_of_ble_eq_true rfl) (kc2 := 0) (ks2 := 0) rfl rfl (fun k9 h9 w9 => by cases w9.1) (fun r9 h9 w9 => ?_)
        obtain ⟨w1, w2⟩ := w9
        subst h9
        cases w1
        show jJ G X _ 0 0 _ _ []
        refine jr_iinc K (D_at DX1_dropSome 37 rfl) (i := 2) rfl (v := x2 + (1 : Int32)) (jinc (by decide)) (by decide) (L2 := [_, _, _, _]) rfl ?_
        refine jr_iinc K (D_at DX1_dropSome 38 rfl) (i := 3) rfl (v := x3 + (1 : Int32)) (jinc (by decide)) (by decide) (L2 := [_, _, _, _]) rfl ?_
        refine jr_goto K (D_at DX1_dropSome 39 rfl) (tgt := 4) (by decide) ?_
        refine jr_keep [true, true, true, true] ?_
        exact hr4 a0 a1 (x2 + (1 : Int32)) (x3 + (1 : Int32)) h62 hf
theorem J_X1_dropSome_4 {G : jG} {l : Launch} {d : Nat} {X : jX} {res : (Int32 × jH)} (K : jOK G l mX1_dropSome (d + 4) X) (n : Nat) (E : jEnd G mX1_dropSome (jPW res) X) (k : Nat) : ∀ (a0 : Nat) (a1 : Nat) (x2 : Int32) (x3 : Int32) (h : jH), F_X1_dropSome_4 n k a0 a1 x2 x3 h = some res → jJ G X h 0 0 4 [some (.ref a0), some (.ref a1), some (.int x2), some (.int x3)] [] := by
  induction k with
  | zero =>
    intro a0 a1 x2 x3 h hf
    exact jno (show (none : Option (Int32 × jH)) = some res from hf)
  | succ k ih =>
    intro a0 a1 x2 x3 h hf
    exact J_X1_dropSome_4_b K n (F_X1_dropSome_4 n k) ih E a0 a1 x2 x3 h hf
set_option maxHeartbeats 400000 in
set_option maxRecDepth 100000 in
theorem J_X1_dropSome {G : jG} {l : Launch} {d : Nat} {X : jX} {res : (Int32 × jH)} (K : jOK G l mX1_dropSome (d + 4) X) (n : Nat) (E : jEnd G mX1_dropSome (jPW res) X) (a0 : Nat) (a1 : Nat) (h : jH) (hf : F_X1_dropSome n a0 a1 h = some res) : jJ G X h 0 0 0 [some (.ref a0), some (.ref a1), none, none] [] := by
  unfold F_X1_dropSome at hf
  refine jr_iconst K (D_at DX1_dropSome 0 rfl) (v := (0 : Int32)) (by decide) ?_
  refine jr_istore_n K (D_at DX1_dropSome 1 rfl) (i := 2) rfl (by decide) (L2 := [_, _, _, _]) rfl ?_
  refine jr_iconst K (D_at DX1_dropSome 2 rfl) (v := (0 : Int32)) (by decide) ?_
  refine jr_istore_n K (D_at DX1_dropSome 3 rfl) (i := 3) rfl (by decide) (L2 := [_, _, _, _]) rfl ?_
  refine jr_keep [true, true, true, true] ?_
  exact J_X1_dropSome_4 K n E n a0 a1 (0 : Int32) (0 : Int32) h hf
theorem C_X1_dropSome {G : jG} {l : Launch} (d : Nat) {n : Nat} {a0 : Nat} {a1 : Nat} {h : jH} {res : (Int32 × jH)} (hf : F_X1_dropSome n a0 a1 h = some res) : jC G l mX1_dropSome (d + 4) 0 0 [.ref a0, .ref a1] h (jPW res) :=
  jC.of (by decide +kernel) (jcats rfl) (Nat.le_of_ble_eq_true rfl) (fun X K E => J_X1_dropSome K n E a0 a1 h hf)
set_option maxHeartbeats 400000 in
set_option maxRecDepth 100000 in
theorem J_X1_turn {G : jG} {l : Launch} {d : Nat} {X : jX} {res : jH} (K : jOK G l mX1_turn (d + 1) X) (n : Nat) (E : jEnd G mX1_turn (jPV res) X) (a0 : Nat) (h : jH) (hf : F_X1_turn n a0 h = some res) : jJ G X h 0 0 0 [some (.ref a0)] [] := by
  unfold F_X1_turn at hf
  refine jr_aload_n K (D_at DX1_turn 0 rfl) rfl rfl ?_
  refine jr_dup K (D_at DX1_turn 1 rfl) rfl ?_
  obtain ⟨v2, e2, hf⟩ := jbind hf
  refine jr_getI K (D_at DX1_turn 2 rfl) fg_X1_99_6 e2 ?_
  refine jr_iconst K (D_at DX1_turn 3 rfl) (v := (1 : Int32)) (by decide) ?_
  refine jr_iadd K (D_at DX1_turn 4 rfl) ?_
  obtain ⟨h7, e7, hf⟩ := jbind hf
  refine jr_putI K (D_at DX1_turn 5 rfl) fp_X1_99_6 (Or.inl rfl) e7 ?_
  refine jr_aload_n K (D_at DX1_turn 6 rfl) rfl rfl ?_
  obtain ⟨v11, e11, hf⟩ := jbind hf
  refine jr_getI K (D_at DX1_turn 7 rfl) fg_X1_99_6 e11 ?_
  refine jr_bipush K (D_at DX1_turn 8 rfl) (v := (8 : Int32)) (by decide) ?_
  refine jr_icmp_lt K (D_at DX1_turn 9 rfl) (tgt := 40) (by decide) (fun c16 => ?_) (fun c16 => ?_)
  · replace hf := (if_pos c16).symm.trans hf
    cases hf
    exact jr_vret K E (D_at DX1_turn 21 rfl) rfl ⟨rfl, rfl⟩
  · replace hf := (if_neg c16).symm.trans hf
    refine jr_aload_n K (D_at DX1_turn 10 rfl) rfl rfl ?_
    refine jr_iconst K (D_at DX1_turn 11 rfl) (v := (0 : Int32)) (by decide) ?_
    obtain ⟨h21, e21, hf⟩ := jbind hf
    refine jr_putI K (D_at DX1_turn 12 rfl) fp_X1_99_6 (Or.inl rfl) e21 ?_
    refine jr_aload_n K (D_at DX1_turn 13 rfl) rfl rfl ?_
    refine jr_sipush K (D_at DX1_turn 14 rfl) (v := (9999 : Int32)) (by decide) ?_
    refine jr_aload_n K (D_at DX1_turn 15 rfl) rfl rfl ?_
    obtain ⟨v29, e29, hf⟩ := jbind hf
    refine jr_getI K (D_at DX1_turn 16 rfl) fg_X1_102_6 e29 ?_
    refine jr_iconst K (D_at DX1_turn 17 rfl) (v := (1 : Int32)) (by decide) ?_
    refine jr_iadd K (D_at DX1_turn 18 rfl) ?_
    refine jr_min K (D_at DX1_turn 19 rfl) mm_X1_56 (by exact Nat.le_of_ble_eq_true rfl) ?_
    obtain ⟨h37, e37, hf⟩ := jbind hf
    refine jr_putI K (D_at DX1_turn 20 rfl) fp_X1_102_6 (Or.inl rfl) e37 ?_
    cases hf
    exact jr_vret K E (D_at DX1_turn 21 rfl) rfl ⟨rfl, rfl⟩
theorem C_X1_turn {G : jG} {l : Launch} (d : Nat) {n : Nat} {a0 : Nat} {h : jH} {res : jH} (hf : F_X1_turn n a0 h = some res) : jC G l mX1_turn (d + 1) 0 0 [.ref a0] h (jPV res) :=
  jC.of (by decide +kernel) (jcats rfl) (Nat.le_of_ble_eq_true rfl) (fun X K E => J_X1_turn K n E a0 h hf)
set_option maxHeartbeats 400000 in
set_option maxRecDepth 100000 in
theorem J_X1_run_5_b {G : jG} {l : Launch} {d : Nat} {X : jX} {res : (Int32 × jH)} (K : jOK G l mX1_run (d + 5) X) (n : Nat) (rc5 : Nat → Nat → Int32 → Int32 → Int32 → jH → Option (Int32 × jH)) (hr5 : ∀ (a0 : Nat) (a1 : Nat) (x2 : Int32) (x3 : Int32) (x4 : Int32) (h : jH), rc5 a0 a1 x2 x3 x4 h = some res → jJ G X h 0 0 5 [some (.ref a0), some (.ref a1), some (.int x2), some (.int x3), some (.int x4)] []) (E : jEnd G mX1_run (jPW res) X) (a0 : Nat) (a1 : Nat) (x2 : Int32) (x3 : Int32) (x4 : Int32) (h : jH) (hf : F_X1_run_5_b n rc5 a0 a1 x2 x3 x4 h = some res) : jJ G X h 0 0 5 [some (.ref a0), some (.ref a1), some (.int x2), some (.int x3), some (.int x4)] [] := by
  unfold F_X1_run_5_b at hf
  refine jr_iload K (D_at DX1_run 4 rfl) rfl ?_
  refine jr_iload_n K (D_at DX1_run 5 rfl) rfl rfl ?_
  refine jr_icmp_ge K (D_at DX1_run 6 rfl) (tgt := 40) (by decide) (fun c8 => ?_) (fun c8 => ?_)
  · replace hf := (if_pos c8).symm.trans hf
    refine jr_iload_n K (D_at DX1_run 24 rfl) rfl rfl ?_
    cases hf
    exact jr_iret K E (D_at DX1_run 25 rfl) rfl ⟨rfl, rfl⟩
  · replace hf := (if_neg c8).symm.trans hf
    refine jr_aload_n K (D_at DX1_run 7 rfl) rfl rfl ?_
    refine jr_aload_n K (D_at DX1_run 8 rfl) rfl rfl ?_
    obtain ⟨h13, e13, hf⟩ := jbind hf
    obtain ⟨rc_13, e13⟩ := jcv_o e13
    refine jr_callV K (C_X1_fadeAll (d) e13) (D_at DX1_run 9 rfl) cv_X1_19_X1_fadeAll (As := [.ref a1]) (ci := 1) rfl rc_13 rfl rfl (by exact Nat.le_of_ble_eq_true rfl) (kc2 := 0) (ks2 := 0) rfl rfl (fun k9 h9 w9 => by cases w9.1) (fun r9 h9 w9 => ?_)
    obtain ⟨w1, w2⟩ := w9
    subst h9
    cases w1
    show jJ G X _ 0 0 _ _ []
    refine jr_iload_n K (D_at DX1_run 10 rfl) rfl rfl ?_
    refine jr_aload_n K (D_at DX1_run 11 rfl) rfl rfl ?_
    refine jr_aload_n K (D_at DX1_run 12 rfl) rfl rfl ?_
    obtain ⟨q19, e19, hf⟩ := jbind hf
    obtain ⟨rc_19, e19⟩ := jcv_o e19
    refine jr_callV K (C_X1_catchSome (d) e19) (D_at DX1_run 13 rfl) cv_X1_23_X1_catchSome (As := [.ref a1]) (ci := 1) rfl rc_19 rfl rfl (by exact Nat.le_of_ble_eq_true rfl) (kc2 := 0) (ks2 := 0) rfl rfl (fun k9 h9 w9 => by cases w9.1) (fun r9 h9 w9 => ?_)
    obtain ⟨w1, w2⟩ := w9
    subst h9
    cases w1
    show jJ G X _ 0 0 _ _ (.int q19.1 :: _)
    refine jr_aload_n K (D_at DX1_run 14 rfl) rfl rfl ?_
    refine jr_aload_n K (D_at DX1_run 15 rfl) rfl rfl ?_
    obtain ⟨q24, e24, hf⟩ := jbind hf
    obtain ⟨rc_24, e24⟩ := jcv_o e24
    refine jr_callV K (C_X1_dropSome (d) e24) (D_at DX1_run 16 rfl) cv_X1_27_X1_dropSome (As := [.ref a1]) (ci := 1) rfl rc_24 rfl rfl (by exact Nat.le_of_ble_eq_true rfl) (kc2 := 0) (ks2 := 0) rfl rfl (fun k9 h9 w9 => by cases w9.1) (fun r9 h9 w9 => ?_)
    obtain ⟨w1, w2⟩ := w9
    subst h9
    cases w1
    show jJ G X _ 0 0 _ _ (.int q24.1 :: _)
    refine jr_iadd K (D_at DX1_run 17 rfl) ?_
    refine jr_iadd K (D_at DX1_run 18 rfl) ?_
    refine jr_istore_n K (D_at DX1_run 19 rfl) (i := 3) rfl (by decide) (L2 := [_, _, _, _, _]) rfl ?_
    refine jr_aload_n K (D_at DX1_run 20 rfl) rfl rfl ?_
    obtain ⟨h31, e31, hf⟩ := jbind hf
    refine jr_callS K (C_X1_turn (d + 3) e31) (D_at DX1_run 21 rfl) cs_X1_30_X1_turn (As := [.ref a1]) rfl rfl (by exact Nat.le_of_ble_eq_true rfl) (kc2 := 0) (ks2 := 0) rfl rfl (fun k9 h9 w9 => by cases w9.1) (fun r9 h9 w9 => ?_)
    obtain ⟨w1, w2⟩ := w9
    subst h9
    cases w1
    show jJ G X _ 0 0 _ _ []
    refine jr_iinc K (D_at DX1_run 22 rfl) (i := 4) rfl (v := x4 + (1 : Int32)) (jinc (by decide)) (by decide) (L2 := [_, _, _, _, _]) rfl ?_
    refine jr_goto K (D_at DX1_run 23 rfl) (tgt := 5) (by decide) ?_
    refine jr_keep [true, true, true, true, true] ?_
    exact hr5 a0 a1 x2 (x3 + (q19.1 + q24.1)) (x4 + (1 : Int32)) h31 hf
theorem J_X1_run_5 {G : jG} {l : Launch} {d : Nat} {X : jX} {res : (Int32 × jH)} (K : jOK G l mX1_run (d + 5) X) (n : Nat) (E : jEnd G mX1_run (jPW res) X) (k : Nat) : ∀ (a0 : Nat) (a1 : Nat) (x2 : Int32) (x3 : Int32) (x4 : Int32) (h : jH), F_X1_run_5 n k a0 a1 x2 x3 x4 h = some res → jJ G X h 0 0 5 [some (.ref a0), some (.ref a1), some (.int x2), some (.int x3), some (.int x4)] [] := by
  induction k with
  | zero =>
    intro a0 a1 x2 x3 x4 h hf
    exact jno (show (none : Option (Int32 × jH)) = some res from hf)
  | succ k ih =>
    intro a0 a1 x2 x3 x4 h hf
    exact J_X1_run_5_b K n (F_X1_run_5 n k) ih E a0 a1 x2 x3 x4 h hf
set_option maxHeartbeats 400000 in
set_option maxRecDepth 100000 in
theorem J_X1_run {G : jG} {l : Launch} {d : Nat} {X : jX} {res : (Int32 × jH)} (K : jOK G l mX1_run (d + 5) X) (n : Nat) (E : jEnd G mX1_run (jPW res) X) (a0 : Nat) (a1 : Nat) (x2 : Int32) (h : jH) (hf : F_X1_run n a0 a1 x2 h = some res) : jJ G X h 0 0 0 [some (.ref a0), some (.ref a1), some (.int x2), none, none] [] := by
  unfold F_X1_run at hf
  refine jr_iconst K (D_at DX1_run 0 rfl) (v := (0 : Int32)) (by decide) ?_
  refine jr_istore_n K (D_at DX1_run 1 rfl) (i := 3) rfl (by decide) (L2 := [_, _, _, _, _]) rfl ?_
  refine jr_iconst K (D_at DX1_run 2 rfl) (v := (0 : Int32)) (by decide) ?_
  refine jr_istore K (D_at DX1_run 3 rfl) (i := 4) (by decide) (L2 := [_, _, _, _, _]) rfl ?_
  refine jr_keep [true, true, true, true, true] ?_
  exact J_X1_run_5 K n E n a0 a1 x2 (0 : Int32) (0 : Int32) h hf
theorem C_X1_run {G : jG} {l : Launch} (d : Nat) {n : Nat} {a0 : Nat} {a1 : Nat} {x2 : Int32} {h : jH} {res : (Int32 × jH)} (hf : F_X1_run n a0 a1 x2 h = some res) : jC G l mX1_run (d + 5) 0 0 [.ref a0, .ref a1, .int x2] h (jPW res) :=
  jC.of (by decide +kernel) (jcats rfl) (Nat.le_of_ble_eq_true rfl) (fun X K E => J_X1_run K n E a0 a1 x2 h hf)
set_option maxHeartbeats 400000 in
set_option maxRecDepth 100000 in
theorem J_X1_tryHours {G : jG} {l : Launch} {d : Nat} {X : jX} {res : jH} (K : jOK G l mX1_tryHours (d + 6) X) (n : Nat) (E : jEnd G mX1_tryHours (jPV res) X) (a0 : Nat) (a1 : Nat) (x2 : Int32) (x3 : Int32) (h : jH) (hf : F_X1_tryHours n a0 a1 x2 x3 h = some res) : jJ G X h 0 0 0 [some (.ref a0), some (.ref a1), some (.int x2), some (.int x3)] [] := by
  unfold F_X1_tryHours at hf
  refine jr_aload_n K (D_at DX1_tryHours 0 rfl) rfl rfl ?_
  obtain ⟨p1, e1, hf⟩ := jbind hf
  refine jr_getR K (D_at DX1_tryHours 1 rfl) fg_X1_15_1 e1 ?_
  refine jr_aload_n K (D_at DX1_tryHours 2 rfl) rfl rfl ?_
  obtain ⟨h5, e5, hf⟩ := jbind hf
  obtain ⟨rc_5, e5⟩ := jcv_o e5
  refine jr_callV K (C_X8_copyFrom (d + 3) e5) (D_at DX1_tryHours 3 rfl) cv_X1_33_X8_copyFrom (As := [.ref a1]) (ci := 6) rfl rc_5 rfl rfl (by exact Nat.le_of_ble_eq_true rfl) (kc2 := 0) (ks2 := 0) rfl rfl (fun k9 h9 w9 => by cases w9.1) (fun r9 h9 w9 => ?_)
  obtain ⟨w1, w2⟩ := w9
  subst h9
  cases w1
  show jJ G X _ 0 0 _ _ []
  refine jr_aload_n K (D_at DX1_tryHours 4 rfl) rfl rfl ?_
  obtain ⟨p9, e9, hf⟩ := jbind hf
  refine jr_getR K (D_at DX1_tryHours 5 rfl) fg_X1_15_1 e9 ?_
  refine jr_iload_n K (D_at DX1_tryHours 6 rfl) rfl rfl ?_
  obtain ⟨h13, e13, hf⟩ := jbind hf
  refine jr_putI K (D_at DX1_tryHours 7 rfl) fp_X1_38_6 (Or.inl rfl) e13 ?_
  refine jr_aload_n K (D_at DX1_tryHours 8 rfl) rfl rfl ?_
  refine jr_aload_n K (D_at DX1_tryHours 9 rfl) rfl rfl ?_
  obtain ⟨p18, e18, hf⟩ := jbind hf
  refine jr_getR K (D_at DX1_tryHours 10 rfl) fg_X1_15_1 e18 ?_
  refine jr_iload_n K (D_at DX1_tryHours 11 rfl) rfl rfl ?_
  obtain ⟨q22, e22, hf⟩ := jbind hf
  obtain ⟨rc_22, e22⟩ := jcv_o e22
  refine jr_callV K (C_X1_run (d) e22) (D_at DX1_tryHours 12 rfl) cv_X1_42_X1_run (As := [.ref p18, .int x2]) (ci := 1) rfl rc_22 rfl rfl (by exact Nat.le_of_ble_eq_true rfl) (kc2 := 0) (ks2 := 0) rfl rfl (fun k9 h9 w9 => by cases w9.1) (fun r9 h9 w9 => ?_)
  obtain ⟨w1, w2⟩ := w9
  subst h9
  cases w1
  show jJ G X _ 0 0 _ _ (.int q22.1 :: _)
  refine jr_pop K (D_at DX1_tryHours 13 rfl) rfl ?_
  cases hf
  exact jr_vret K E (D_at DX1_tryHours 14 rfl) rfl ⟨rfl, rfl⟩
theorem C_X1_tryHours {G : jG} {l : Launch} (d : Nat) {n : Nat} {a0 : Nat} {a1 : Nat} {x2 : Int32} {x3 : Int32} {h : jH} {res : jH} (hf : F_X1_tryHours n a0 a1 x2 x3 h = some res) : jC G l mX1_tryHours (d + 6) 0 0 [.ref a0, .ref a1, .int x2, .int x3] h (jPV res) :=
  jC.of (by decide +kernel) (jcats rfl) (Nat.le_of_ble_eq_true rfl) (fun X K E => J_X1_tryHours K n E a0 a1 x2 x3 h hf)
set_option maxHeartbeats 400000 in
set_option maxRecDepth 100000 in
theorem J_X1_goAhead_10_b {G : jG} {l : Launch} {d : Nat} {X : jX} {res : jH} (K : jOK G l mX1_goAhead (d + 5) X) (n : Nat) (rc10 : Nat → Int32 → Int32 → jH → Option jH) (hr10 : ∀ (a0 : Nat) (x2 : Int32) (x3 : Int32) (h : jH), rc10 a0 x2 x3 h = some res → jJ G X h 0 0 10 [some (.ref a0), none, some (.int x2), some (.int x3)] []) (E : jEnd G mX1_goAhead (jPV res) X) (a0 : Nat) (x2 : Int32) (x3 : Int32) (h : jH) (hf : F_X1_goAhead_10_b n rc10 a0 x2 x3 h = some res) : jJ G X h 0 0 10 [some (.ref a0), none, some (.int x2), some (.int x3)] [] := by
  unfold F_X1_goAhead_10_b at hf
  refine jr_iload_n K (D_at DX1_goAhead 6 rfl) rfl rfl ?_
  refine jr_iload_n K (D_at DX1_goAhead 7 rfl) rfl rfl ?_
  refine jr_icmp_ge K (D_at DX1_goAhead 8 rfl) (tgt := 36) (by decide) (fun c12 => ?_) (fun c12 => ?_)
  · replace hf := (if_pos c12).symm.trans hf
    cases hf
    exact jr_vret K E (D_at DX1_goAhead 18 rfl) rfl ⟨rfl, rfl⟩
  · replace hf := (if_neg c12).symm.trans hf
    refine jr_aload_n K (D_at DX1_goAhead 9 rfl) rfl rfl ?_
    refine jr_aload_n K (D_at DX1_goAhead 10 rfl) rfl rfl ?_
    obtain ⟨p17, e17, hf⟩ := jbind hf
    refine jr_getR K (D_at DX1_goAhead 11 rfl) fg_X1_15_1 e17 ?_
    obtain ⟨h20, e20, hf⟩ := jbind hf
    obtain ⟨rc_20, e20⟩ := jcv_o e20
    refine jr_callV K (C_X1_fadeAll (d) e20) (D_at DX1_goAhead 12 rfl) cv_X1_19_X1_fadeAll (As := [.ref p17]) (ci := 1) rfl rc_20 rfl rfl (by exact Nat.le_of_ble_eq_true rfl) (kc2 := 0) (ks2 := 0) rfl rfl (fun k9 h9 w9 => by cases w9.1) (fun r9 h9 w9 => ?_)
    obtain ⟨w1, w2⟩ := w9
    subst h9
    cases w1
    show jJ G X _ 0 0 _ _ []
    refine jr_aload_n K (D_at DX1_goAhead 13 rfl) rfl rfl ?_
    obtain ⟨p24, e24, hf⟩ := jbind hf
    refine jr_getR K (D_at DX1_goAhead 14 rfl) fg_X1_15_1 e24 ?_
    obtain ⟨h27, e27, hf⟩ := jbind hf
    refine jr_callS K (C_X1_turn (d + 3) e27) (D_at DX1_goAhead 15 rfl) cs_X1_30_X1_turn (As := [.ref p24]) rfl rfl (by exact Nat.le_of_ble_eq_true rfl) (kc2 := 0) (ks2 := 0) rfl rfl (fun k9 h9 w9 => by cases w9.1) (fun r9 h9 w9 => ?_)
    obtain ⟨w1, w2⟩ := w9
    subst h9
    cases w1
    show jJ G X _ 0 0 _ _ []
    refine jr_iinc K (D_at DX1_goAhead 16 rfl) (i := 3) rfl (v := x3 + (1 : Int32)) (jinc (by decide)) (by decide) (L2 := [_, _, _, _]) rfl ?_
    refine jr_goto K (D_at DX1_goAhead 17 rfl) (tgt := 10) (by decide) ?_
    refine jr_keep [true, false, true, true] ?_
    exact hr10 a0 x2 (x3 + (1 : Int32)) h27 hf
theorem J_X1_goAhead_10 {G : jG} {l : Launch} {d : Nat} {X : jX} {res : jH} (K : jOK G l mX1_goAhead (d + 5) X) (n : Nat) (E : jEnd G mX1_goAhead (jPV res) X) (k : Nat) : ∀ (a0 : Nat) (x2 : Int32) (x3 : Int32) (h : jH), F_X1_goAhead_10 n k a0 x2 x3 h = some res → jJ G X h 0 0 10 [some (.ref a0), none, some (.int x2), some (.int x3)] [] := by
  induction k with
  | zero =>
    intro a0 x2 x3 h hf
    exact jno (show (none : Option jH) = some res from hf)
  | succ k ih =>
    intro a0 x2 x3 h hf
    exact J_X1_goAhead_10_b K n (F_X1_goAhead_10 n k) ih E a0 x2 x3 h hf
set_option maxHeartbeats 400000 in
set_option maxRecDepth 100000 in
theorem J_X1_goAhead {G : jG} {l : Launch} {d : Nat} {X : jX} {res : jH} (K : jOK G l mX1_goAhead (d + 5) X) (n : Nat) (E : jEnd G mX1_goAhead (jPV res) X) (a0 : Nat) (a1 : Nat) (x2 : Int32) (h : jH) (hf : F_X1_goAhead n a0 a1 x2 h = some res) : jJ G X h 0 0 0 [some (.ref a0), some (.ref a1), some (.int x2), none] [] := by
  unfold F_X1_goAhead at hf
  refine jr_aload_n K (D_at DX1_goAhead 0 rfl) rfl rfl ?_
  obtain ⟨p1, e1, hf⟩ := jbind hf
  refine jr_getR K (D_at DX1_goAhead 1 rfl) fg_X1_15_1 e1 ?_
  refine jr_aload_n K (D_at DX1_goAhead 2 rfl) rfl rfl ?_
  obtain ⟨h5, e5, hf⟩ := jbind hf
  obtain ⟨rc_5, e5⟩ := jcv_o e5
  refine jr_callV K (C_X8_copyFrom (d + 2) e5) (D_at DX1_goAhead 3 rfl) cv_X1_33_X8_copyFrom (As := [.ref a1]) (ci := 6) rfl rc_5 rfl rfl (by exact Nat.le_of_ble_eq_true rfl) (kc2 := 0) (ks2 := 0) rfl rfl (fun k9 h9 w9 => by cases w9.1) (fun r9 h9 w9 => ?_)
  obtain ⟨w1, w2⟩ := w9
  subst h9
  cases w1
  show jJ G X _ 0 0 _ _ []
  refine jr_iconst K (D_at DX1_goAhead 4 rfl) (v := (0 : Int32)) (by decide) ?_
  refine jr_istore_n K (D_at DX1_goAhead 5 rfl) (i := 3) rfl (by decide) (L2 := [_, _, _, _]) rfl ?_
  refine jr_keep [true, false, true, true] ?_
  exact J_X1_goAhead_10 K n E n a0 x2 (0 : Int32) h5 hf
theorem C_X1_goAhead {G : jG} {l : Launch} (d : Nat) {n : Nat} {a0 : Nat} {a1 : Nat} {x2 : Int32} {h : jH} {res : jH} (hf : F_X1_goAhead n a0 a1 x2 h = some res) : jC G l mX1_goAhead (d + 5) 0 0 [.ref a0, .ref a1, .int x2] h (jPV res) :=
  jC.of (by decide +kernel) (jcats rfl) (Nat.le_of_ble_eq_true rfl) (fun X K E => J_X1_goAhead K n E a0 a1 x2 h hf)
set_option maxHeartbeats 400000 in
set_option maxRecDepth 100000 in
theorem J_X1_isSomePale_2_b {G : jG} {l : Launch} {d : Nat} {X : jX} {res : Int32} (K : jOK G l mX1_isSomePale (d) X) (n : Nat) (h : jH) (rc2 : Nat → Int32 → jH → Option Int32) (hr2 : ∀ (a0 : Nat) (x1 : Int32), rc2 a0 x1 h = some res → jJ G X h 0 0 2 [some (.ref a0), some (.int x1)] []) (E : jEnd G mX1_isSomePale (jPR h res) X) (a0 : Nat) (x1 : Int32) (hf : F_X1_isSomePale_2_b n rc2 a0 x1 h = some res) : jJ G X h 0 0 2 [some (.ref a0), some (.int x1)] [] := by
  unfold F_X1_isSomePale_2_b at hf
  refine jr_iload_n K (D_at DX1_isSomePale 2 rfl) rfl rfl ?_
  refine jr_aload_n K (D_at DX1_isSomePale 3 rfl) rfl rfl ?_
  obtain ⟨v4, e4, hf⟩ := jbind hf
  refine jr_getI K (D_at DX1_isSomePale 4 rfl) fg_X1_62_6 e4 ?_
  refine jr_icmp_ge K (D_at DX1_isSomePale 5 rfl) (tgt := 29) (by decide) (fun c7 => ?_) (fun c7 => ?_)
  · replace hf := (if_pos c7).symm.trans hf
    refine jr_iconst K (D_at DX1_isSomePale 16 rfl) (v := (0 : Int32)) (by decide) ?_
    cases hf
    exact jr_zret K E (D_at DX1_isSomePale 17 rfl) rfl (Or.inl rfl) ⟨rfl, rfl⟩
  · replace hf := (if_neg c7).symm.trans hf
    refine jr_aload_n K (D_at DX1_isSomePale 6 rfl) rfl rfl ?_
    obtain ⟨p11, e11, hf⟩ := jbind hf
    refine jr_getR K (D_at DX1_isSomePale 7 rfl) fg_X1_65_6 e11 ?_
    refine jr_iload_n K (D_at DX1_isSomePale 8 rfl) rfl rfl ?_
    obtain ⟨v15, e15, hf⟩ := jbind hf
    refine jr_iald K (D_at DX1_isSomePale 9 rfl) e15 ?_
    refine jr_bipush K (D_at DX1_isSomePale 10 rfl) (v := (99 : Int32)) (by decide) ?_
    refine jr_icmp_ne K (D_at DX1_isSomePale 11 rfl) (tgt := 23) (by decide) (fun c18 => ?_) (fun c18 => ?_)
    · replace hf := (if_neg c18).symm.trans hf
      refine jr_iinc K (D_at DX1_isSomePale 14 rfl) (i := 1) rfl (v := x1 + (1 : Int32)) (jinc (by decide)) (by decide) (L2 := [_, _]) rfl ?_
      refine jr_goto K (D_at DX1_isSomePale 15 rfl) (tgt := 2) (by decide) ?_
      refine jr_keep [true, true] ?_
      exact hr2 a0 (x1 + (1 : Int32)) hf
    · replace hf := (if_pos c18).symm.trans hf
      refine jr_iconst K (D_at DX1_isSomePale 12 rfl) (v := (1 : Int32)) (by decide) ?_
      cases hf
      exact jr_zret K E (D_at DX1_isSomePale 13 rfl) rfl (Or.inr rfl) ⟨rfl, rfl⟩
theorem J_X1_isSomePale_2 {G : jG} {l : Launch} {d : Nat} {X : jX} {res : Int32} (K : jOK G l mX1_isSomePale (d) X) (n : Nat) (h : jH) (E : jEnd G mX1_isSomePale (jPR h res) X) (k : Nat) : ∀ (a0 : Nat) (x1 : Int32), F_X1_isSomePale_2 n k a0 x1 h = some res → jJ G X h 0 0 2 [some (.ref a0), some (.int x1)] [] := by
  induction k with
  | zero =>
    intro a0 x1 hf
    exact jno (show (none : Option Int32) = some res from hf)
  | succ k ih =>
    intro a0 x1 hf
    exact J_X1_isSomePale_2_b K n h (F_X1_isSomePale_2 n k) ih E a0 x1 hf
set_option maxHeartbeats 400000 in
set_option maxRecDepth 100000 in
theorem J_X1_isSomePale {G : jG} {l : Launch} {d : Nat} {X : jX} {res : Int32} (K : jOK G l mX1_isSomePale (d) X) (n : Nat) (h : jH) (E : jEnd G mX1_isSomePale (jPR h res) X) (a0 : Nat) (hf : F_X1_isSomePale n a0 h = some res) : jJ G X h 0 0 0 [some (.ref a0), none] [] := by
  unfold F_X1_isSomePale at hf
  refine jr_iconst K (D_at DX1_isSomePale 0 rfl) (v := (0 : Int32)) (by decide) ?_
  refine jr_istore_n K (D_at DX1_isSomePale 1 rfl) (i := 1) rfl (by decide) (L2 := [_, _]) rfl ?_
  refine jr_keep [true, true] ?_
  exact J_X1_isSomePale_2 K n h E n a0 (0 : Int32) hf
theorem C_X1_isSomePale {G : jG} {l : Launch} (d : Nat) {n : Nat} {a0 : Nat} {h : jH} {res : Int32} (hf : F_X1_isSomePale n a0 h = some res) : jC G l mX1_isSomePale (d) 0 0 [.ref a0] h (jPR h res) :=
  jC.of (by decide +kernel) (jcats rfl) (Nat.le_of_ble_eq_true rfl) (fun X K E => J_X1_isSomePale K n h E a0 hf)
set_option maxHeartbeats 400000 in
set_option maxRecDepth 100000 in
theorem J_X1_firstPale_10_b {G : jG} {l : Launch} {d : Nat} {X : jX} {res : (Int32 × jH)} (K : jOK G l mX1_firstPale (d + 5) X) (n : Nat) (rc10 : Nat → Int32 → jH → Option (Int32 × jH)) (hr10 : ∀ (a0 : Nat) (x2 : Int32) (h : jH), rc10 a0 x2 h = some res → jJ G X h 0 0 10 [some (.ref a0), none, some (.int x2)] []) (E : jEnd G mX1_firstPale (jPW res) X) (a0 : Nat) (x2 : Int32) (h : jH) (hf : F_X1_firstPale_10_b n rc10 a0 x2 h = some res) : jJ G X h 0 0 10 [some (.ref a0), none, some (.int x2)] [] := by
  unfold F_X1_firstPale_10_b at hf
  refine jr_iload_n K (D_at DX1_firstPale 6 rfl) rfl rfl ?_
  refine jr_bipush K (D_at DX1_firstPale 7 rfl) (v := (80 : Int32)) (by decide) ?_
  refine jr_icmp_gt K (D_at DX1_firstPale 8 rfl) (tgt := 49) (by decide) (fun c13 => ?_) (fun c13 => ?_)
  · replace hf := (if_pos c13).symm.trans hf
    refine jr_iconst K (D_at DX1_firstPale 24 rfl) (v := (-1 : Int32)) (by decide) ?_
    cases hf
    exact jr_iret K E (D_at DX1_firstPale 25 rfl) rfl ⟨rfl, rfl⟩
  · replace hf := (if_neg c13).symm.trans hf
    refine jr_aload_n K (D_at DX1_firstPale 9 rfl) rfl rfl ?_
    obtain ⟨p17, e17, hf⟩ := jbind hf
    refine jr_getR K (D_at DX1_firstPale 10 rfl) fg_X1_15_1 e17 ?_
    obtain ⟨v20, e20, hf⟩ := jbind hf
    refine jr_callS K (C_X1_isSomePale (d + 4) e20) (D_at DX1_firstPale 11 rfl) cs_X1_46_X1_isSomePale (As := [.ref p17]) rfl rfl (by exact Nat.le_of_ble_eq_true rfl) (kc2 := 0) (ks2 := 0) rfl rfl (fun k9 h9 w9 => by cases w9.1) (fun r9 h9 w9 => ?_)
    obtain ⟨w1, w2⟩ := w9
    subst h9
    cases w1
    show jJ G X _ 0 0 _ _ (.int v20 :: _)
    refine jr_if_eq K (D_at DX1_firstPale 12 rfl) (tgt := 28) (by decide) (fun c23 => ?_) (fun c23 => ?_)
    · replace hf := (if_pos c23).symm.trans hf
      refine jr_aload_n K (D_at DX1_firstPale 15 rfl) rfl rfl ?_
      refine jr_aload_n K (D_at DX1_firstPale 16 rfl) rfl rfl ?_
      obtain ⟨p30, e30, hf⟩ := jbind hf
      refine jr_getR K (D_at DX1_firstPale 17 rfl) fg_X1_15_1 e30 ?_
      obtain ⟨h33, e33, hf⟩ := jbind hf
      obtain ⟨rc_33, e33⟩ := jcv_o e33
      refine jr_callV K (C_X1_fadeAll (d) e33) (D_at DX1_firstPale 18 rfl) cv_X1_19_X1_fadeAll (As := [.ref p30]) (ci := 1) rfl rc_33 rfl rfl (by exact Nat.le_of_ble_eq_true rfl) (kc2 := 0) (ks2 := 0) rfl rfl (fun k9 h9 w9 => by cases w9.1) (fun r9 h9 w9 => ?_)
      obtain ⟨w1, w2⟩ := w9
      subst h9
      cases w1
      show jJ G X _ 0 0 _ _ []
      refine jr_aload_n K (D_at DX1_firstPale 19 rfl) rfl rfl ?_
      obtain ⟨p37, e37, hf⟩ := jbind hf
      refine jr_getR K (D_at DX1_firstPale 20 rfl) fg_X1_15_1 e37 ?_
      obtain ⟨h40, e40, hf⟩ := jbind hf
      refine jr_callS K (C_X1_turn (d + 3) e40) (D_at DX1_firstPale 21 rfl) cs_X1_30_X1_turn (As := [.ref p37]) rfl rfl (by exact Nat.le_of_ble_eq_true rfl) (kc2 := 0) (ks2 := 0) rfl rfl (fun k9 h9 w9 => by cases w9.1) (fun r9 h9 w9 => ?_)
      obtain ⟨w1, w2⟩ := w9
      subst h9
      cases w1
      show jJ G X _ 0 0 _ _ []
      refine jr_iinc K (D_at DX1_firstPale 22 rfl) (i := 2) rfl (v := x2 + (1 : Int32)) (jinc (by decide)) (by decide) (L2 := [_, _, _]) rfl ?_
      refine jr_goto K (D_at DX1_firstPale 23 rfl) (tgt := 10) (by decide) ?_
      refine jr_keep [true, false, true] ?_
      exact hr10 a0 (x2 + (1 : Int32)) h40 hf
    · replace hf := (if_neg c23).symm.trans hf
      refine jr_iload_n K (D_at DX1_firstPale 13 rfl) rfl rfl ?_
      cases hf
      exact jr_iret K E (D_at DX1_firstPale 14 rfl) rfl ⟨rfl, rfl⟩
theorem J_X1_firstPale_10 {G : jG} {l : Launch} {d : Nat} {X : jX} {res : (Int32 × jH)} (K : jOK G l mX1_firstPale (d + 5) X) (n : Nat) (E : jEnd G mX1_firstPale (jPW res) X) (k : Nat) : ∀ (a0 : Nat) (x2 : Int32) (h : jH), F_X1_firstPale_10 n k a0 x2 h = some res → jJ G X h 0 0 10 [some (.ref a0), none, some (.int x2)] [] := by
  induction k with
  | zero =>
    intro a0 x2 h hf
    exact jno (show (none : Option (Int32 × jH)) = some res from hf)
  | succ k ih =>
    intro a0 x2 h hf
    exact J_X1_firstPale_10_b K n (F_X1_firstPale_10 n k) ih E a0 x2 h hf
set_option maxHeartbeats 400000 in
set_option maxRecDepth 100000 in
theorem J_X1_firstPale {G : jG} {l : Launch} {d : Nat} {X : jX} {res : (Int32 × jH)} (K : jOK G l mX1_firstPale (d + 5) X) (n : Nat) (E : jEnd G mX1_firstPale (jPW res) X) (a0 : Nat) (a1 : Nat) (h : jH) (hf : F_X1_firstPale n a0 a1 h = some res) : jJ G X h 0 0 0 [some (.ref a0), some (.ref a1), none] [] := by
  unfold F_X1_firstPale at hf
  refine jr_aload_n K (D_at DX1_firstPale 0 rfl) rfl rfl ?_
  obtain ⟨p1, e1, hf⟩ := jbind hf
  refine jr_getR K (D_at DX1_firstPale 1 rfl) fg_X1_15_1 e1 ?_
  refine jr_aload_n K (D_at DX1_firstPale 2 rfl) rfl rfl ?_
  obtain ⟨h5, e5, hf⟩ := jbind hf
  obtain ⟨rc_5, e5⟩ := jcv_o e5
  refine jr_callV K (C_X8_copyFrom (d + 2) e5) (D_at DX1_firstPale 3 rfl) cv_X1_33_X8_copyFrom (As := [.ref a1]) (ci := 6) rfl rc_5 rfl rfl (by exact Nat.le_of_ble_eq_true rfl) (kc2 := 0) (ks2 := 0) rfl rfl (fun k9 h9 w9 => by cases w9.1) (fun r9 h9 w9 => ?_)
  obtain ⟨w1, w2⟩ := w9
  subst h9
  cases w1
  show jJ G X _ 0 0 _ _ []
  refine jr_iconst K (D_at DX1_firstPale 4 rfl) (v := (0 : Int32)) (by decide) ?_
  refine jr_istore_n K (D_at DX1_firstPale 5 rfl) (i := 2) rfl (by decide) (L2 := [_, _, _]) rfl ?_
  refine jr_keep [true, false, true] ?_
  exact J_X1_firstPale_10 K n E n a0 (0 : Int32) h5 hf
theorem C_X1_firstPale {G : jG} {l : Launch} (d : Nat) {n : Nat} {a0 : Nat} {a1 : Nat} {h : jH} {res : (Int32 × jH)} (hf : F_X1_firstPale n a0 a1 h = some res) : jC G l mX1_firstPale (d + 5) 0 0 [.ref a0, .ref a1] h (jPW res) :=
  jC.of (by decide +kernel) (jcats rfl) (Nat.le_of_ble_eq_true rfl) (fun X K E => J_X1_firstPale K n E a0 a1 h hf)
set_option maxHeartbeats 400000 in
set_option maxRecDepth 100000 in
theorem J_X1_oddsToStay_25_b {G : jG} {l : Launch} {d : Nat} {X : jX} {res : (Int32 × jH)} (K : jOK G l mX1_oddsToStay (d + 4) X) (n : Nat) (rc25 : Int32 → Int32 → Int32 → Int32 → jH → Option (Int32 × jH)) (hr25 : ∀ (x3 : Int32) (x4 : Int32) (x5 : Int32) (x6 : Int32) (h : jH), rc25 x3 x4 x5 x6 h = some res → jJ G X h 0 0 25 [none, none, none, some (.int x3), some (.int x4), some (.int x5), some (.int x6)] []) (E : jEnd G mX1_oddsToStay (jPW res) X) (x3 : Int32) (x4 : Int32) (x5 : Int32) (x6 : Int32) (h : jH) (hf : F_X1_oddsToStay_25_b n rc25 x3 x4 x5 x6 h = some res) : jJ G X h 0 0 25 [none, none, none, some (.int x3), some (.int x4), some (.int x5), some (.int x6)] [] := by
  unfold F_X1_oddsToStay_25_b at hf
  refine jr_iload K (D_at DX1_oddsToStay 13 rfl) rfl ?_
  refine jr_iload_n K (D_at DX1_oddsToStay 14 rfl) rfl rfl ?_
  refine jr_icmp_ge K (D_at DX1_oddsToStay 15 rfl) (tgt := 50) (by decide) (fun c28 => ?_) (fun c28 => ?_)
  · replace hf := (if_pos c28).symm.trans hf
    refine jr_iload K (D_at DX1_oddsToStay 26 rfl) rfl ?_
    cases hf
    exact jr_iret K E (D_at DX1_oddsToStay 27 rfl) rfl ⟨rfl, rfl⟩
  · replace hf := (if_neg c28).symm.trans hf
    refine jr_iload K (D_at DX1_oddsToStay 16 rfl) rfl ?_
    refine jr_bipush K (D_at DX1_oddsToStay 17 rfl) (v := (100 : Int32)) (by decide) ?_
    refine jr_iload K (D_at DX1_oddsToStay 18 rfl) rfl ?_
    refine jr_isub K (D_at DX1_oddsToStay 19 rfl) ?_
    refine jr_imul K (D_at DX1_oddsToStay 20 rfl) ?_
    refine jr_bipush K (D_at DX1_oddsToStay 21 rfl) (v := (100 : Int32)) (by decide) ?_
    refine jr_idiv K (D_at DX1_oddsToStay 22 rfl) (by decide) ?_
    refine jr_istore K (D_at DX1_oddsToStay 23 rfl) (i := 5) (by decide) (L2 := [_, _, _, _, _, _, _]) rfl ?_
    refine jr_iinc K (D_at DX1_oddsToStay 24 rfl) (i := 6) rfl (v := x6 + (1 : Int32)) (jinc (by decide)) (by decide) (L2 := [_, _, _, _, _, _, _]) rfl ?_
    refine jr_goto K (D_at DX1_oddsToStay 25 rfl) (tgt := 25) (by decide) ?_
    refine jr_keep [false, false, false, true, true, true, true] ?_
    exact hr25 x3 x4 ((x5 * ((100 : Int32) - x4)) / (100 : Int32)) (x6 + (1 : Int32)) h hf
theorem J_X1_oddsToStay_25 {G : jG} {l : Launch} {d : Nat} {X : jX} {res : (Int32 × jH)} (K : jOK G l mX1_oddsToStay (d + 4) X) (n : Nat) (E : jEnd G mX1_oddsToStay (jPW res) X) (k : Nat) : ∀ (x3 : Int32) (x4 : Int32) (x5 : Int32) (x6 : Int32) (h : jH), F_X1_oddsToStay_25 n k x3 x4 x5 x6 h = some res → jJ G X h 0 0 25 [none, none, none, some (.int x3), some (.int x4), some (.int x5), some (.int x6)] [] := by
  induction k with
  | zero =>
    intro x3 x4 x5 x6 h hf
    exact jno (show (none : Option (Int32 × jH)) = some res from hf)
  | succ k ih =>
    intro x3 x4 x5 x6 h hf
    exact J_X1_oddsToStay_25_b K n (F_X1_oddsToStay_25 n k) ih E x3 x4 x5 x6 h hf
set_option maxHeartbeats 400000 in
set_option maxRecDepth 100000 in
theorem J_X1_oddsToStay {G : jG} {l : Launch} {d : Nat} {X : jX} {res : (Int32 × jH)} (K : jOK G l mX1_oddsToStay (d + 4) X) (n : Nat) (E : jEnd G mX1_oddsToStay (jPW res) X) (a0 : Nat) (a1 : Nat) (x2 : Int32) (x3 : Int32) (h : jH) (hf : F_X1_oddsToStay n a0 a1 x2 x3 h = some res) : jJ G X h 0 0 0 [some (.ref a0), some (.ref a1), some (.int x2), some (.int x3), none, none, none] [] := by
  unfold F_X1_oddsToStay at hf
  refine jr_bipush K (D_at DX1_oddsToStay 0 rfl) (v := (100 : Int32)) (by decide) ?_
  refine jr_aload_n K (D_at DX1_oddsToStay 1 rfl) rfl rfl ?_
  obtain ⟨p3, e3, hf⟩ := jbind hf
  refine jr_getR K (D_at DX1_oddsToStay 2 rfl) fg_X1_9_1 e3 ?_
  refine jr_iconst K (D_at DX1_oddsToStay 3 rfl) (v := (2 : Int32)) (by decide) ?_
  refine jr_aload_n K (D_at DX1_oddsToStay 4 rfl) rfl rfl ?_
  refine jr_iload_n K (D_at DX1_oddsToStay 5 rfl) rfl rfl ?_
  obtain ⟨q9, e9, hf⟩ := jbind hf
  obtain ⟨rc_9, e9⟩ := jcv_o e9
  refine jr_callV K (C_X2_amount (d) e9) (D_at DX1_oddsToStay 6 rfl) cv_X1_50_X2_amount (As := [.int (2 : Int32), .ref a1, .int x2]) (ci := 2) rfl rc_9 rfl rfl (by exact Nat.le_of_ble_eq_true rfl) (kc2 := 0) (ks2 := 0) rfl rfl (fun k9 h9 w9 => by cases w9.1) (fun r9 h9 w9 => ?_)
  obtain ⟨w1, w2⟩ := w9
  subst h9
  cases w1
  show jJ G X _ 0 0 _ _ (.int q9.1 :: _)
  refine jr_min K (D_at DX1_oddsToStay 7 rfl) mm_X1_56 (by exact Nat.le_of_ble_eq_true rfl) ?_
  refine jr_istore K (D_at DX1_oddsToStay 8 rfl) (i := 4) (by decide) (L2 := [_, _, _, _, _, _, _]) rfl ?_
  refine jr_sipush K (D_at DX1_oddsToStay 9 rfl) (v := (10000 : Int32)) (by decide) ?_
  refine jr_istore K (D_at DX1_oddsToStay 10 rfl) (i := 5) (by decide) (L2 := [_, _, _, _, _, _, _]) rfl ?_
  refine jr_iconst K (D_at DX1_oddsToStay 11 rfl) (v := (0 : Int32)) (by decide) ?_
  refine jr_istore K (D_at DX1_oddsToStay 12 rfl) (i := 6) (by decide) (L2 := [_, _, _, _, _, _, _]) rfl ?_
  refine jr_keep [false, false, false, true, true, true, true] ?_
  exact J_X1_oddsToStay_25 K n E n x3 (if q9.1 < (100 : Int32) then q9.1 else (100 : Int32)) (10000 : Int32) (0 : Int32) q9.2 hf
theorem C_X1_oddsToStay {G : jG} {l : Launch} (d : Nat) {n : Nat} {a0 : Nat} {a1 : Nat} {x2 : Int32} {x3 : Int32} {h : jH} {res : (Int32 × jH)} (hf : F_X1_oddsToStay n a0 a1 x2 x3 h = some res) : jC G l mX1_oddsToStay (d + 4) 0 0 [.ref a0, .ref a1, .int x2, .int x3] h (jPW res) :=
  jC.of (by decide +kernel) (jcats rfl) (Nat.le_of_ble_eq_true rfl) (fun X K E => J_X1_oddsToStay K n E a0 a1 x2 x3 h hf)
set_option maxHeartbeats 400000 in
set_option maxRecDepth 100000 in
theorem J_X2_init {G : jG} {l : Launch} {d : Nat} {X : jX} {res : jH} (K : jOK G l mX2_init (d + 1) X) (n : Nat) (E : jEnd G mX2_init (jPV res) X) (a0 : Nat) (h : jH) (hf : F_X2_init n a0 h = some res) : jJ G X h 5 460 0 [some (.ref a0)] [] := by
  unfold F_X2_init at hf
  refine jr_aload_n K (D_at DX2_init 0 rfl) rfl rfl ?_
  refine jr_objInit K (D_at DX2_init 1 rfl) oi_X2_3 (by exact Nat.le_of_ble_eq_true rfl) ?_
  refine jr_aload_n K (D_at DX2_init 2 rfl) rfl rfl ?_
  refine jr_bipush K (D_at DX2_init 3 rfl) (v := (12 : Int32)) (by decide) ?_
  obtain ⟨h7, e7, hf⟩ := jbind hf
  refine jr_newIE (N := 12) K (D_at DX2_init 4 rfl) ac_int (by decide) (by decide) (by decide) (kc := 4) (ks := 448) e7 ?_
  obtain ⟨h9, e9, hf⟩ := jbind hf
  refine jr_putA K (D_at DX2_init 5 rfl) fp_X2_11_2 (Or.inr rfl) e9 ?_
  refine jr_aload_n K (D_at DX2_init 6 rfl) rfl rfl ?_
  refine jr_bipush K (D_at DX2_init 7 rfl) (v := (12 : Int32)) (by decide) ?_
  obtain ⟨h15, e15, hf⟩ := jbind hf
  refine jr_newIE (N := 12) K (D_at DX2_init 8 rfl) ac_int (by decide) (by decide) (by decide) (kc := 3) (ks := 436) e15 ?_
  obtain ⟨h17, e17, hf⟩ := jbind hf
  refine jr_putA K (D_at DX2_init 9 rfl) fp_X2_15_2 (Or.inr rfl) e17 ?_
  refine jr_aload_n K (D_at DX2_init 10 rfl) rfl rfl ?_
  refine jr_bipush K (D_at DX2_init 11 rfl) (v := (12 : Int32)) (by decide) ?_
  obtain ⟨h23, e23, hf⟩ := jbind hf
  refine jr_newIE (N := 12) K (D_at DX2_init 12 rfl) ac_int (by decide) (by decide) (by decide) (kc := 2) (ks := 424) e23 ?_
  obtain ⟨h25, e25, hf⟩ := jbind hf
  refine jr_putA K (D_at DX2_init 13 rfl) fp_X2_18_2 (Or.inr rfl) e25 ?_
  refine jr_aload_n K (D_at DX2_init 14 rfl) rfl rfl ?_
  refine jr_sipush K (D_at DX2_init 15 rfl) (v := (400 : Int32)) (by decide) ?_
  obtain ⟨h32, e32, hf⟩ := jbind hf
  refine jr_newIE (N := 400) K (D_at DX2_init 16 rfl) ac_int (by decide) (by decide) (by decide) (kc := 1) (ks := 24) e32 ?_
  obtain ⟨h34, e34, hf⟩ := jbind hf
  refine jr_putA K (D_at DX2_init 17 rfl) fp_X2_21_2 (Or.inr rfl) e34 ?_
  refine jr_aload_n K (D_at DX2_init 18 rfl) rfl rfl ?_
  refine jr_bipush K (D_at DX2_init 19 rfl) (v := (24 : Int32)) (by decide) ?_
  obtain ⟨h40, e40, hf⟩ := jbind hf
  refine jr_newIE (N := 24) K (D_at DX2_init 20 rfl) ac_int (by decide) (by decide) (by decide) (kc := 0) (ks := 0) e40 ?_
  obtain ⟨h42, e42, hf⟩ := jbind hf
  refine jr_putA K (D_at DX2_init 21 rfl) fp_X2_24_2 (Or.inr rfl) e42 ?_
  cases hf
  exact jr_vret K E (D_at DX2_init 22 rfl) rfl ⟨rfl, rfl⟩
theorem C_X2_init {G : jG} {l : Launch} (d : Nat) {n : Nat} {a0 : Nat} {h : jH} {res : jH} (hf : F_X2_init n a0 h = some res) : jC G l mX2_init (d + 1) 5 460 [.ref a0] h (jPV res) :=
  jC.of (by decide +kernel) (jcats rfl) (Nat.le_of_ble_eq_true rfl) (fun X K E => J_X2_init K n E a0 h hf)
set_option maxHeartbeats 400000 in
set_option maxRecDepth 100000 in
theorem J_X2_begin {G : jG} {l : Launch} {d : Nat} {X : jX} {res : jH} (K : jOK G l mX2_begin (d) X) (n : Nat) (E : jEnd G mX2_begin (jPV res) X) (a0 : Nat) (h : jH) (hf : F_X2_begin n a0 h = some res) : jJ G X h 0 0 0 [some (.ref a0)] [] := by
  unfold F_X2_begin at hf
  refine jr_aload_n K (D_at DX2_begin 0 rfl) rfl rfl ?_
  refine jr_iconst K (D_at DX2_begin 1 rfl) (v := (1 : Int32)) (by decide) ?_
  obtain ⟨h2, e2, hf⟩ := jbind hf
  refine jr_putZ K (D_at DX2_begin 2 rfl) fp_X2_27_2 (Or.inl rfl) (Or.inr rfl) e2 ?_
  refine jr_aload_n K (D_at DX2_begin 3 rfl) rfl rfl ?_
  refine jr_iconst K (D_at DX2_begin 4 rfl) (v := (0 : Int32)) (by decide) ?_
  obtain ⟨h7, e7, hf⟩ := jbind hf
  refine jr_putI K (D_at DX2_begin 5 rfl) fp_X2_31_2 (Or.inl rfl) e7 ?_
  refine jr_aload_n K (D_at DX2_begin 6 rfl) rfl rfl ?_
  refine jr_iconst K (D_at DX2_begin 7 rfl) (v := (0 : Int32)) (by decide) ?_
  obtain ⟨h12, e12, hf⟩ := jbind hf
  refine jr_putI K (D_at DX2_begin 8 rfl) fp_X2_35_2 (Or.inl rfl) e12 ?_
  cases hf
  exact jr_vret K E (D_at DX2_begin 9 rfl) rfl ⟨rfl, rfl⟩
theorem C_X2_begin {G : jG} {l : Launch} (d : Nat) {n : Nat} {a0 : Nat} {h : jH} {res : jH} (hf : F_X2_begin n a0 h = some res) : jC G l mX2_begin (d) 0 0 [.ref a0] h (jPV res) :=
  jC.of (by decide +kernel) (jcats rfl) (Nat.le_of_ble_eq_true rfl) (fun X K E => J_X2_begin K n E a0 h hf)
set_option maxHeartbeats 400000 in
set_option maxRecDepth 100000 in
theorem J_X2_copyFrom {G : jG} {l : Launch} {d : Nat} {X : jX} {res : jH} (K : jOK G l mX2_copyFrom (d + 1) X) (n : Nat) (E : jEnd G mX2_copyFrom (jPV res) X) (a0 : Nat) (a1 : Nat) (h : jH) (hf : F_X2_copyFrom n a0 a1 h = some res) : jJ G X h 0 0 0 [some (.ref a0), some (.ref a1)] [] := by
  unfold F_X2_copyFrom at hf
  refine jr_aload_n K (D_at DX2_copyFrom 0 rfl) rfl rfl ?_
  obtain ⟨p1, e1, hf⟩ := jbind hf
  refine jr_getR K (D_at DX2_copyFrom 1 rfl) fg_X2_11_2 e1 ?_
  refine jr_iconst K (D_at DX2_copyFrom 2 rfl) (v := (0 : Int32)) (by decide) ?_
  refine jr_aload_n K (D_at DX2_copyFrom 3 rfl) rfl rfl ?_
  obtain ⟨p6, e6, hf⟩ := jbind hf
  refine jr_getR K (D_at DX2_copyFrom 4 rfl) fg_X2_11_2 e6 ?_
  refine jr_iconst K (D_at DX2_copyFrom 5 rfl) (v := (0 : Int32)) (by decide) ?_
  refine jr_bipush K (D_at DX2_copyFrom 6 rfl) (v := (12 : Int32)) (by decide) ?_
  obtain ⟨h12, e12, hf⟩ := jbind hf
  refine jr_copy K (D_at DX2_copyFrom 7 rfl) cy_X2_38 (by exact Nat.le_of_ble_eq_true rfl) e12 ?_
  refine jr_aload_n K (D_at DX2_copyFrom 8 rfl) rfl rfl ?_
  obtain ⟨p16, e16, hf⟩ := jbind hf
  refine jr_getR K (D_at DX2_copyFrom 9 rfl) fg_X2_15_2 e16 ?_
  refine jr_iconst K (D_at DX2_copyFrom 10 rfl) (v := (0 : Int32)) (by decide) ?_
  refine jr_aload_n K (D_at DX2_copyFrom 11 rfl) rfl rfl ?_
  obtain ⟨p21, e21, hf⟩ := jbind hf
  refine jr_getR K (D_at DX2_copyFrom 12 rfl) fg_X2_15_2 e21 ?_
  refine jr_iconst K (D_at DX2_copyFrom 13 rfl) (v := (0 : Int32)) (by decide) ?_
  refine jr_bipush K (D_at DX2_copyFrom 14 rfl) (v := (12 : Int32)) (by decide) ?_
  obtain ⟨h27, e27, hf⟩ := jbind hf
  refine jr_copy K (D_at DX2_copyFrom 15 rfl) cy_X2_38 (by exact Nat.le_of_ble_eq_true rfl) e27 ?_
  refine jr_aload_n K (D_at DX2_copyFrom 16 rfl) rfl rfl ?_
  obtain ⟨p31, e31, hf⟩ := jbind hf
  refine jr_getR K (D_at DX2_copyFrom 17 rfl) fg_X2_18_2 e31 ?_
  refine jr_iconst K (D_at DX2_copyFrom 18 rfl) (v := (0 : Int32)) (by decide) ?_
  refine jr_aload_n K (D_at DX2_copyFrom 19 rfl) rfl rfl ?_
  obtain ⟨p36, e36, hf⟩ := jbind hf
  refine jr_getR K (D_at DX2_copyFrom 20 rfl) fg_X2_18_2 e36 ?_
  refine jr_iconst K (D_at DX2_copyFrom 21 rfl) (v := (0 : Int32)) (by decide) ?_
  refine jr_bipush K (D_at DX2_copyFrom 22 rfl) (v := (12 : Int32)) (by decide) ?_
  obtain ⟨h42, e42, hf⟩ := jbind hf
  refine jr_copy K (D_at DX2_copyFrom 23 rfl) cy_X2_38 (by exact Nat.le_of_ble_eq_true rfl) e42 ?_
  refine jr_aload_n K (D_at DX2_copyFrom 24 rfl) rfl rfl ?_
  obtain ⟨p46, e46, hf⟩ := jbind hf
  refine jr_getR K (D_at DX2_copyFrom 25 rfl) fg_X2_21_2 e46 ?_
  refine jr_iconst K (D_at DX2_copyFrom 26 rfl) (v := (0 : Int32)) (by decide) ?_
  refine jr_aload_n K (D_at DX2_copyFrom 27 rfl) rfl rfl ?_
  obtain ⟨p51, e51, hf⟩ := jbind hf
  refine jr_getR K (D_at DX2_copyFrom 28 rfl) fg_X2_21_2 e51 ?_
  refine jr_iconst K (D_at DX2_copyFrom 29 rfl) (v := (0 : Int32)) (by decide) ?_
  refine jr_sipush K (D_at DX2_copyFrom 30 rfl) (v := (400 : Int32)) (by decide) ?_
  obtain ⟨h58, e58, hf⟩ := jbind hf
  refine jr_copy K (D_at DX2_copyFrom 31 rfl) cy_X2_38 (by exact Nat.le_of_ble_eq_true rfl) e58 ?_
  refine jr_aload_n K (D_at DX2_copyFrom 32 rfl) rfl rfl ?_
  refine jr_aload_n K (D_at DX2_copyFrom 33 rfl) rfl rfl ?_
  obtain ⟨v63, e63, hf⟩ := jbind hf
  refine jr_getI K (D_at DX2_copyFrom 34 rfl) fg_X2_35_2 e63 ?_
  obtain ⟨h66, e66, hf⟩ := jbind hf
  refine jr_putI K (D_at DX2_copyFrom 35 rfl) fp_X2_35_2 (Or.inl rfl) e66 ?_
  refine jr_aload_n K (D_at DX2_copyFrom 36 rfl) rfl rfl ?_
  refine jr_aload_n K (D_at DX2_copyFrom 37 rfl) rfl rfl ?_
  obtain ⟨v71, e71, hf⟩ := jbind hf
  refine jr_getI K (D_at DX2_copyFrom 38 rfl) fg_X2_27_2 e71 ?_
  by_cases z74 : v71 = 0 ∨ v71 = 1
  rotate_left
  · exact jno (show (none : Option jH) = some res from (if_neg z74).symm.trans hf)
  replace hf := (if_pos z74).symm.trans hf
  obtain ⟨h74, e74, hf⟩ := jbind hf
  refine jr_putZ K (D_at DX2_copyFrom 39 rfl) fp_X2_27_2 (Or.inl rfl) z74 e74 ?_
  refine jr_aload_n K (D_at DX2_copyFrom 40 rfl) rfl rfl ?_
  refine jr_aload_n K (D_at DX2_copyFrom 41 rfl) rfl rfl ?_
  obtain ⟨v79, e79, hf⟩ := jbind hf
  refine jr_getI K (D_at DX2_copyFrom 42 rfl) fg_X2_31_2 e79 ?_
  obtain ⟨h82, e82, hf⟩ := jbind hf
  refine jr_putI K (D_at DX2_copyFrom 43 rfl) fp_X2_31_2 (Or.inl rfl) e82 ?_
  cases hf
  exact jr_vret K E (D_at DX2_copyFrom 44 rfl) rfl ⟨rfl, rfl⟩
theorem C_X2_copyFrom {G : jG} {l : Launch} (d : Nat) {n : Nat} {a0 : Nat} {a1 : Nat} {h : jH} {res : jH} (hf : F_X2_copyFrom n a0 a1 h = some res) : jC G l mX2_copyFrom (d + 1) 0 0 [.ref a0, .ref a1] h (jPV res) :=
  jC.of (by decide +kernel) (jcats rfl) (Nat.le_of_ble_eq_true rfl) (fun X K E => J_X2_copyFrom K n E a0 a1 h hf)
set_option maxHeartbeats 400000 in
set_option maxRecDepth 100000 in
theorem J_X2_addLine {G : jG} {l : Launch} {d : Nat} {X : jX} {res : jH} (K : jOK G l mX2_addLine (d) X) (n : Nat) (E : jEnd G mX2_addLine (jPV res) X) (a0 : Nat) (x1 : Int32) (x2 : Int32) (h : jH) (hf : F_X2_addLine n a0 x1 x2 h = some res) : jJ G X h 0 0 0 [some (.ref a0), some (.int x1), some (.int x2)] [] := by
  unfold F_X2_addLine at hf
  refine jr_aload_n K (D_at DX2_addLine 0 rfl) rfl rfl ?_
  obtain ⟨v1, e1, hf⟩ := jbind hf
  refine jr_getI K (D_at DX2_addLine 1 rfl) fg_X2_31_2 e1 ?_
  refine jr_bipush K (D_at DX2_addLine 2 rfl) (v := (12 : Int32)) (by decide) ?_
  refine jr_icmp_ge K (D_at DX2_addLine 3 rfl) (tgt := 52) (by decide) (fun c6 => ?_) (fun c6 => ?_)
  · replace hf := (if_pos c6).symm.trans hf
    cases hf
    exact jr_vret K E (D_at DX2_addLine 29 rfl) rfl ⟨rfl, rfl⟩
  · replace hf := (if_neg c6).symm.trans hf
    refine jr_aload_n K (D_at DX2_addLine 4 rfl) rfl rfl ?_
    obtain ⟨p10, e10, hf⟩ := jbind hf
    refine jr_getR K (D_at DX2_addLine 5 rfl) fg_X2_11_2 e10 ?_
    refine jr_aload_n K (D_at DX2_addLine 6 rfl) rfl rfl ?_
    obtain ⟨v14, e14, hf⟩ := jbind hf
    refine jr_getI K (D_at DX2_addLine 7 rfl) fg_X2_31_2 e14 ?_
    refine jr_iload_n K (D_at DX2_addLine 8 rfl) rfl rfl ?_
    obtain ⟨h18, e18, hf⟩ := jbind hf
    refine jr_iast K (D_at DX2_addLine 9 rfl) e18 ?_
    refine jr_aload_n K (D_at DX2_addLine 10 rfl) rfl rfl ?_
    obtain ⟨p20, e20, hf⟩ := jbind hf
    refine jr_getR K (D_at DX2_addLine 11 rfl) fg_X2_15_2 e20 ?_
    refine jr_aload_n K (D_at DX2_addLine 12 rfl) rfl rfl ?_
    obtain ⟨v24, e24, hf⟩ := jbind hf
    refine jr_getI K (D_at DX2_addLine 13 rfl) fg_X2_31_2 e24 ?_
    refine jr_iload_n K (D_at DX2_addLine 14 rfl) rfl rfl ?_
    obtain ⟨h28, e28, hf⟩ := jbind hf
    refine jr_iast K (D_at DX2_addLine 15 rfl) e28 ?_
    refine jr_aload_n K (D_at DX2_addLine 16 rfl) rfl rfl ?_
    obtain ⟨p30, e30, hf⟩ := jbind hf
    refine jr_getR K (D_at DX2_addLine 17 rfl) fg_X2_18_2 e30 ?_
    refine jr_aload_n K (D_at DX2_addLine 18 rfl) rfl rfl ?_
    obtain ⟨v34, e34, hf⟩ := jbind hf
    refine jr_getI K (D_at DX2_addLine 19 rfl) fg_X2_31_2 e34 ?_
    refine jr_aload_n K (D_at DX2_addLine 20 rfl) rfl rfl ?_
    obtain ⟨v38, e38, hf⟩ := jbind hf
    refine jr_getI K (D_at DX2_addLine 21 rfl) fg_X2_35_2 e38 ?_
    obtain ⟨h41, e41, hf⟩ := jbind hf
    refine jr_iast K (D_at DX2_addLine 22 rfl) e41 ?_
    refine jr_aload_n K (D_at DX2_addLine 23 rfl) rfl rfl ?_
    refine jr_dup K (D_at DX2_addLine 24 rfl) rfl ?_
    obtain ⟨v44, e44, hf⟩ := jbind hf
    refine jr_getI K (D_at DX2_addLine 25 rfl) fg_X2_31_2 e44 ?_
    refine jr_iconst K (D_at DX2_addLine 26 rfl) (v := (1 : Int32)) (by decide) ?_
    refine jr_iadd K (D_at DX2_addLine 27 rfl) ?_
    obtain ⟨h49, e49, hf⟩ := jbind hf
    refine jr_putI K (D_at DX2_addLine 28 rfl) fp_X2_31_2 (Or.inl rfl) e49 ?_
    cases hf
    exact jr_vret K E (D_at DX2_addLine 29 rfl) rfl ⟨rfl, rfl⟩
theorem C_X2_addLine {G : jG} {l : Launch} (d : Nat) {n : Nat} {a0 : Nat} {x1 : Int32} {x2 : Int32} {h : jH} {res : jH} (hf : F_X2_addLine n a0 x1 x2 h = some res) : jC G l mX2_addLine (d) 0 0 [.ref a0, .int x1, .int x2] h (jPV res) :=
  jC.of (by decide +kernel) (jcats rfl) (Nat.le_of_ble_eq_true rfl) (fun X K E => J_X2_addLine K n E a0 x1 x2 h hf)
set_option maxHeartbeats 400000 in
set_option maxRecDepth 100000 in
theorem J_X2_addCode {G : jG} {l : Launch} {d : Nat} {X : jX} {res : jH} (K : jOK G l mX2_addCode (d) X) (n : Nat) (E : jEnd G mX2_addCode (jPV res) X) (a0 : Nat) (x1 : Int32) (h : jH) (hf : F_X2_addCode n a0 x1 h = some res) : jJ G X h 0 0 0 [some (.ref a0), some (.int x1)] [] := by
  unfold F_X2_addCode at hf
  refine jr_aload_n K (D_at DX2_addCode 0 rfl) rfl rfl ?_
  obtain ⟨v1, e1, hf⟩ := jbind hf
  refine jr_getI K (D_at DX2_addCode 1 rfl) fg_X2_35_2 e1 ?_
  refine jr_sipush K (D_at DX2_addCode 2 rfl) (v := (400 : Int32)) (by decide) ?_
  refine jr_icmp_ge K (D_at DX2_addCode 3 rfl) (tgt := 52) (by decide) (fun c7 => ?_) (fun c7 => ?_)
  · replace hf := (if_pos c7).symm.trans hf
    cases hf
    exact jr_vret K E (D_at DX2_addCode 28 rfl) rfl ⟨rfl, rfl⟩
  · replace hf := (if_neg c7).symm.trans hf
    refine jr_aload_n K (D_at DX2_addCode 4 rfl) rfl rfl ?_
    obtain ⟨v11, e11, hf⟩ := jbind hf
    refine jr_getI K (D_at DX2_addCode 5 rfl) fg_X2_31_2 e11 ?_
    refine jr_if_le K (D_at DX2_addCode 6 rfl) (tgt := 52) (by decide) (fun c14 => ?_) (fun c14 => ?_)
    · replace hf := (if_pos c14).symm.trans hf
      cases hf
      exact jr_vret K E (D_at DX2_addCode 28 rfl) rfl ⟨rfl, rfl⟩
    · replace hf := (if_neg c14).symm.trans hf
      refine jr_aload_n K (D_at DX2_addCode 7 rfl) rfl rfl ?_
      obtain ⟨p18, e18, hf⟩ := jbind hf
      refine jr_getR K (D_at DX2_addCode 8 rfl) fg_X2_21_2 e18 ?_
      refine jr_aload_n K (D_at DX2_addCode 9 rfl) rfl rfl ?_
      obtain ⟨v22, e22, hf⟩ := jbind hf
      refine jr_getI K (D_at DX2_addCode 10 rfl) fg_X2_35_2 e22 ?_
      refine jr_iload_n K (D_at DX2_addCode 11 rfl) rfl rfl ?_
      obtain ⟨h26, e26, hf⟩ := jbind hf
      refine jr_iast K (D_at DX2_addCode 12 rfl) e26 ?_
      refine jr_aload_n K (D_at DX2_addCode 13 rfl) rfl rfl ?_
      refine jr_dup K (D_at DX2_addCode 14 rfl) rfl ?_
      obtain ⟨v29, e29, hf⟩ := jbind hf
      refine jr_getI K (D_at DX2_addCode 15 rfl) fg_X2_35_2 e29 ?_
      refine jr_iconst K (D_at DX2_addCode 16 rfl) (v := (1 : Int32)) (by decide) ?_
      refine jr_iadd K (D_at DX2_addCode 17 rfl) ?_
      obtain ⟨h34, e34, hf⟩ := jbind hf
      refine jr_putI K (D_at DX2_addCode 18 rfl) fp_X2_35_2 (Or.inl rfl) e34 ?_
      refine jr_aload_n K (D_at DX2_addCode 19 rfl) rfl rfl ?_
      obtain ⟨p38, e38, hf⟩ := jbind hf
      refine jr_getR K (D_at DX2_addCode 20 rfl) fg_X2_18_2 e38 ?_
      refine jr_aload_n K (D_at DX2_addCode 21 rfl) rfl rfl ?_
      obtain ⟨v42, e42, hf⟩ := jbind hf
      refine jr_getI K (D_at DX2_addCode 22 rfl) fg_X2_31_2 e42 ?_
      refine jr_iconst K (D_at DX2_addCode 23 rfl) (v := (1 : Int32)) (by decide) ?_
      refine jr_isub K (D_at DX2_addCode 24 rfl) ?_
      refine jr_aload_n K (D_at DX2_addCode 25 rfl) rfl rfl ?_
      obtain ⟨v48, e48, hf⟩ := jbind hf
      refine jr_getI K (D_at DX2_addCode 26 rfl) fg_X2_35_2 e48 ?_
      obtain ⟨h51, e51, hf⟩ := jbind hf
      refine jr_iast K (D_at DX2_addCode 27 rfl) e51 ?_
      cases hf
      exact jr_vret K E (D_at DX2_addCode 28 rfl) rfl ⟨rfl, rfl⟩
theorem C_X2_addCode {G : jG} {l : Launch} (d : Nat) {n : Nat} {a0 : Nat} {x1 : Int32} {h : jH} {res : jH} (hf : F_X2_addCode n a0 x1 h = some res) : jC G l mX2_addCode (d) 0 0 [.ref a0, .int x1] h (jPV res) :=
  jC.of (by decide +kernel) (jcats rfl) (Nat.le_of_ble_eq_true rfl) (fun X K E => J_X2_addCode K n E a0 x1 h hf)
set_option maxHeartbeats 400000 in
set_option maxRecDepth 100000 in
theorem J_J9_floorMod_7cf53 {G : jG} {l : Launch} {d : Nat} {X : jX} {res : Int32} (K : jOK G l mJ9_floorMod_7cf53 (d) X) (n : Nat) (h : jH) (E : jEnd G mJ9_floorMod_7cf53 (jPR h res) X) (x0 : Int32) (x1 : Int32) (hf : F_J9_floorMod_7cf53 n x0 x1 h = some res) : jJ G X h 0 0 0 [some (.int x0), some (.int x1), none] [] := by
  unfold F_J9_floorMod_7cf53 at hf
  refine jr_iload_n K (D_at DJ9_floorMod_7cf53 0 rfl) rfl rfl ?_
  refine jr_iload_n K (D_at DJ9_floorMod_7cf53 1 rfl) rfl rfl ?_
  by_cases c2 : x1 = 0
  · exact jno (show (none : Option Int32) = some res from (if_pos c2).symm.trans hf)
  replace hf := (if_neg c2).symm.trans hf
  refine jr_irem K (D_at DJ9_floorMod_7cf53 2 rfl) c2 ?_
  refine jr_istore_n K (D_at DJ9_floorMod_7cf53 3 rfl) (i := 2) rfl (by decide) (L2 := [_, _, _]) rfl ?_
  refine jr_iload_n K (D_at DJ9_floorMod_7cf53 4 rfl) rfl rfl ?_
  refine jr_iload_n K (D_at DJ9_floorMod_7cf53 5 rfl) rfl rfl ?_
  refine jr_ixor K (D_at DJ9_floorMod_7cf53 6 rfl) ?_
  refine jr_if_ge K (D_at DJ9_floorMod_7cf53 7 rfl) (tgt := 18) (by decide) (fun c7 => ?_) (fun c7 => ?_)
  · replace hf := (if_pos c7).symm.trans hf
    refine jr_iload_n K (D_at DJ9_floorMod_7cf53 14 rfl) rfl rfl ?_
    cases hf
    exact jr_iret K E (D_at DJ9_floorMod_7cf53 15 rfl) rfl ⟨rfl, rfl⟩
  · replace hf := (if_neg c7).symm.trans hf
    refine jr_iload_n K (D_at DJ9_floorMod_7cf53 8 rfl) rfl rfl ?_
    refine jr_if_eq K (D_at DJ9_floorMod_7cf53 9 rfl) (tgt := 18) (by decide) (fun c11 => ?_) (fun c11 => ?_)
    · replace hf := (if_pos c11).symm.trans hf
      refine jr_iload_n K (D_at DJ9_floorMod_7cf53 14 rfl) rfl rfl ?_
      cases hf
      exact jr_iret K E (D_at DJ9_floorMod_7cf53 15 rfl) rfl ⟨rfl, rfl⟩
    · replace hf := (if_neg c11).symm.trans hf
      refine jr_iload_n K (D_at DJ9_floorMod_7cf53 10 rfl) rfl rfl ?_
      refine jr_iload_n K (D_at DJ9_floorMod_7cf53 11 rfl) rfl rfl ?_
      refine jr_iadd K (D_at DJ9_floorMod_7cf53 12 rfl) ?_
      cases hf
      exact jr_iret K E (D_at DJ9_floorMod_7cf53 13 rfl) rfl ⟨rfl, rfl⟩
theorem C_J9_floorMod_7cf53 {G : jG} {l : Launch} (d : Nat) {n : Nat} {x0 : Int32} {x1 : Int32} {h : jH} {res : Int32} (hf : F_J9_floorMod_7cf53 n x0 x1 h = some res) : jC G l mJ9_floorMod_7cf53 (d) 0 0 [.int x0, .int x1] h (jPR h res) :=
  jC.ofF (by decide +kernel) (jcats rfl) (Nat.le_of_ble_eq_true rfl) (fun X K E => J_J9_floorMod_7cf53 K n h E x0 x1 hf)
set_option maxHeartbeats 400000 in
set_option maxRecDepth 100000 in
theorem J_X5_read {G : jG} {l : Launch} {d : Nat} {X : jX} {res : Int32} (K : jOK G l mX5_read (d + 1) X) (n : Nat) (h : jH) (E : jEnd G mX5_read (jPR h res) X) (a0 : Nat) (x1 : Int32) (x2 : Int32) (hf : F_X5_read n a0 x1 x2 h = some res) : jJ G X h 0 0 0 [some (.ref a0), some (.int x1), some (.int x2), none] [] := by
  unfold F_X5_read at hf
  refine jr_iload_n K (D_at DX5_read 0 rfl) rfl rfl ?_
  refine jr_if_lt K (D_at DX5_read 1 rfl) (tgt := 22) (by decide) (fun c1 => ?_) (fun c1 => ?_)
  · replace hf := (if_pos c1).symm.trans hf
    refine jr_iconst K (D_at DX5_read 11 rfl) (v := (-1 : Int32)) (by decide) ?_
    cases hf
    exact jr_iret K E (D_at DX5_read 12 rfl) rfl ⟨rfl, rfl⟩
  · replace hf := (if_neg c1).symm.trans hf
    refine jr_iload_n K (D_at DX5_read 2 rfl) rfl rfl ?_
    refine jr_aload_n K (D_at DX5_read 3 rfl) rfl rfl ?_
    obtain ⟨v6, e6, hf⟩ := jbind hf
    refine jr_getI K (D_at DX5_read 4 rfl) fg_X5_21_4 e6 ?_
    refine jr_icmp_ge K (D_at DX5_read 5 rfl) (tgt := 22) (by decide) (fun c9 => ?_) (fun c9 => ?_)
    · replace hf := (if_pos c9).symm.trans hf
      refine jr_iconst K (D_at DX5_read 11 rfl) (v := (-1 : Int32)) (by decide) ?_
      cases hf
      exact jr_iret K E (D_at DX5_read 12 rfl) rfl ⟨rfl, rfl⟩
    · replace hf := (if_neg c9).symm.trans hf
      refine jr_iload_n K (D_at DX5_read 6 rfl) rfl rfl ?_
      refine jr_if_lt K (D_at DX5_read 7 rfl) (tgt := 22) (by decide) (fun c13 => ?_) (fun c13 => ?_)
      · replace hf := (if_pos c13).symm.trans hf
        refine jr_iconst K (D_at DX5_read 11 rfl) (v := (-1 : Int32)) (by decide) ?_
        cases hf
        exact jr_iret K E (D_at DX5_read 12 rfl) rfl ⟨rfl, rfl⟩
      · replace hf := (if_neg c13).symm.trans hf
        refine jr_iload_n K (D_at DX5_read 8 rfl) rfl rfl ?_
        refine jr_bipush K (D_at DX5_read 9 rfl) (v := (6 : Int32)) (by decide) ?_
        refine jr_icmp_lt K (D_at DX5_read 10 rfl) (tgt := 24) (by decide) (fun c19 => ?_) (fun c19 => ?_)
        · replace hf := (if_pos c19).symm.trans hf
          refine jr_aload_n K (D_at DX5_read 13 rfl) rfl rfl ?_
          obtain ⟨p25, e25, hf⟩ := jbind hf
          refine jr_getR K (D_at DX5_read 14 rfl) fg_X5_11_4 e25 ?_
          refine jr_aload_n K (D_at DX5_read 15 rfl) rfl rfl ?_
          obtain ⟨v29, e29, hf⟩ := jbind hf
          refine jr_getI K (D_at DX5_read 16 rfl) fg_X5_25_4 e29 ?_
          refine jr_iconst K (D_at DX5_read 17 rfl) (v := (1 : Int32)) (by decide) ?_
          refine jr_isub K (D_at DX5_read 18 rfl) ?_
          refine jr_iload_n K (D_at DX5_read 19 rfl) rfl rfl ?_
          refine jr_isub K (D_at DX5_read 20 rfl) ?_
          refine jr_bipush K (D_at DX5_read 21 rfl) (v := (60 : Int32)) (by decide) ?_
          obtain ⟨v38, e38, hf⟩ := jbind hf
          refine jr_callS K (C_J9_floorMod_7cf53 (d) e38) (D_at DX5_read 22 rfl) cs_X5_48_J9_floorMod_7cf53 (As := [.int ((v29 - (1 : Int32)) - x1), .int (60 : Int32)]) rfl rfl (by exact Nat.le_of_ble_eq_true rfl) (kc2 := 0) (ks2 := 0) rfl rfl (fun k9 h9 w9 => by cases w9.1) (fun r9 h9 w9 => ?_)
          obtain ⟨w1, w2⟩ := w9
          subst h9
          cases w1
          show jJ G X _ 0 0 _ _ (.int v38 :: _)
          obtain ⟨v41, e41, hf⟩ := jbind hf
          refine jr_iald K (D_at DX5_read 23 rfl) e41 ?_
          refine jr_istore_n K (D_at DX5_read 24 rfl) (i := 3) rfl (by decide) (L2 := [_, _, _, _]) rfl ?_
          refine jr_iload_n K (D_at DX5_read 25 rfl) rfl rfl ?_
          refine jr_shf K (D_at DX5_read 26 rfl) st_X5_33 ?_
          refine jr_iload_n K (D_at DX5_read 27 rfl) rfl rfl ?_
          by_cases c48 : x2 < 0 ∨ 6 ≤ x2.toNatClampNeg
          · exact jno (show (none : Option Int32) = some res from (if_pos c48).symm.trans hf)
          replace hf := (if_neg c48).symm.trans hf
          refine jr_stald (f := fun j => jshf.getD j 0) (n := 6) K jT_shf (D_at DX5_read 28 rfl) c48 ?_
          refine jr_iushr K (D_at DX5_read 29 rfl) (v := jushr v41 (jshf.getD x2.toNatClampNeg 0)) rfl ?_
          refine jr_msk K (D_at DX5_read 30 rfl) st_X5_51 ?_
          refine jr_iload_n K (D_at DX5_read 31 rfl) rfl rfl ?_
          by_cases c54 : x2 < 0 ∨ 6 ≤ x2.toNatClampNeg
          · exact jno (show (none : Option Int32) = some res from (if_pos c54).symm.trans hf)
          replace hf := (if_neg c54).symm.trans hf
          refine jr_stald (f := fun j => jmsk.getD j 0) (n := 6) K jT_msk (D_at DX5_read 32 rfl) c54 ?_
          refine jr_iand K (D_at DX5_read 33 rfl) ?_
          cases hf
          exact jr_iret K E (D_at DX5_read 34 rfl) rfl ⟨rfl, rfl⟩
        · replace hf := (if_neg c19).symm.trans hf
          refine jr_iconst K (D_at DX5_read 11 rfl) (v := (-1 : Int32)) (by decide) ?_
          cases hf
          exact jr_iret K E (D_at DX5_read 12 rfl) rfl ⟨rfl, rfl⟩
theorem C_X5_read {G : jG} {l : Launch} (d : Nat) {n : Nat} {a0 : Nat} {x1 : Int32} {x2 : Int32} {h : jH} {res : Int32} (hf : F_X5_read n a0 x1 x2 h = some res) : jC G l mX5_read (d + 1) 0 0 [.ref a0, .int x1, .int x2] h (jPR h res) :=
  jC.of (by decide +kernel) (jcats rfl) (Nat.le_of_ble_eq_true rfl) (fun X K E => J_X5_read K n h E a0 x1 x2 hf)
set_option maxHeartbeats 400000 in
set_option maxRecDepth 100000 in
theorem J_X5_rowsOf_4_b {G : jG} {l : Launch} {d : Nat} {X : jX} {res : Int32} (K : jOK G l mX5_rowsOf (d + 2) X) (n : Nat) (h : jH) (rc4 : Nat → Int32 → Int32 → Int32 → jH → Option Int32) (hr4 : ∀ (a0 : Nat) (x1 : Int32) (x2 : Int32) (x3 : Int32), rc4 a0 x1 x2 x3 h = some res → jJ G X h 0 0 4 [some (.ref a0), some (.int x1), some (.int x2), some (.int x3)] []) (E : jEnd G mX5_rowsOf (jPR h res) X) (a0 : Nat) (x1 : Int32) (x2 : Int32) (x3 : Int32) (hf : F_X5_rowsOf_4_b n rc4 a0 x1 x2 x3 h = some res) : jJ G X h 0 0 4 [some (.ref a0), some (.int x1), some (.int x2), some (.int x3)] [] := by
  unfold F_X5_rowsOf_4_b at hf
  refine jr_iload_n K (D_at DX5_rowsOf 4 rfl) rfl rfl ?_
  refine jr_aload_n K (D_at DX5_rowsOf 5 rfl) rfl rfl ?_
  obtain ⟨v6, e6, hf⟩ := jbind hf
  refine jr_getI K (D_at DX5_rowsOf 6 rfl) fg_X5_21_4 e6 ?_
  refine jr_icmp_ge K (D_at DX5_rowsOf 7 rfl) (tgt := 31) (by decide) (fun c9 => ?_) (fun c9 => ?_)
  · replace hf := (if_pos c9).symm.trans hf
    refine jr_iload_n K (D_at DX5_rowsOf 17 rfl) rfl rfl ?_
    cases hf
    exact jr_iret K E (D_at DX5_rowsOf 18 rfl) rfl ⟨rfl, rfl⟩
  · replace hf := (if_neg c9).symm.trans hf
    refine jr_aload_n K (D_at DX5_rowsOf 8 rfl) rfl rfl ?_
    refine jr_iload_n K (D_at DX5_rowsOf 9 rfl) rfl rfl ?_
    refine jr_iconst K (D_at DX5_rowsOf 10 rfl) (v := (2 : Int32)) (by decide) ?_
    obtain ⟨v15, e15, hf⟩ := jbind hf
    obtain ⟨rc_15, e15⟩ := jcv_o e15
    refine jr_callV K (C_X5_read (d) e15) (D_at DX5_rowsOf 11 rfl) cv_X5_54_X5_read (As := [.int x3, .int (2 : Int32)]) (ci := 4) rfl rc_15 rfl rfl (by exact Nat.le_of_ble_eq_true rfl) (kc2 := 0) (ks2 := 0) rfl rfl (fun k9 h9 w9 => by cases w9.1) (fun r9 h9 w9 => ?_)
    obtain ⟨w1, w2⟩ := w9
    subst h9
    cases w1
    show jJ G X _ 0 0 _ _ (.int v15 :: _)
    refine jr_iload_n K (D_at DX5_rowsOf 12 rfl) rfl rfl ?_
    refine jr_icmp_ne K (D_at DX5_rowsOf 13 rfl) (tgt := 25) (by decide) (fun c19 => ?_) (fun c19 => ?_)
    · replace hf := (if_neg c19).symm.trans hf
      refine jr_iinc K (D_at DX5_rowsOf 15 rfl) (i := 3) rfl (v := x3 + (1 : Int32)) (jinc (by decide)) (by decide) (L2 := [_, _, _, _]) rfl ?_
      refine jr_goto K (D_at DX5_rowsOf 16 rfl) (tgt := 4) (by decide) ?_
      refine jr_keep [true, true, true, true] ?_
      exact hr4 a0 x1 x2 (x3 + (1 : Int32)) hf
    · replace hf := (if_pos c19).symm.trans hf
      refine jr_iinc K (D_at DX5_rowsOf 14 rfl) (i := 2) rfl (v := x2 + (1 : Int32)) (jinc (by decide)) (by decide) (L2 := [_, _, _, _]) rfl ?_
      refine jr_iinc K (D_at DX5_rowsOf 15 rfl) (i := 3) rfl (v := x3 + (1 : Int32)) (jinc (by decide)) (by decide) (L2 := [_, _, _, _]) rfl ?_
      refine jr_goto K (D_at DX5_rowsOf 16 rfl) (tgt := 4) (by decide) ?_
      refine jr_keep [true, true, true, true] ?_
      exact hr4 a0 x1 (x2 + (1 : Int32)) (x3 + (1 : Int32)) hf
theorem J_X5_rowsOf_4 {G : jG} {l : Launch} {d : Nat} {X : jX} {res : Int32} (K : jOK G l mX5_rowsOf (d + 2) X) (n : Nat) (h : jH) (E : jEnd G mX5_rowsOf (jPR h res) X) (k : Nat) : ∀ (a0 : Nat) (x1 : Int32) (x2 : Int32) (x3 : Int32), F_X5_rowsOf_4 n k a0 x1 x2 x3 h = some res → jJ G X h 0 0 4 [some (.ref a0), some (.int x1), some (.int x2), some (.int x3)] [] := by
  induction k with
  | zero =>
    intro a0 x1 x2 x3 hf
    exact jno (show (none : Option Int32) = some res from hf)
  | succ k ih =>
    intro a0 x1 x2 x3 hf
    exact J_X5_rowsOf_4_b K n h (F_X5_rowsOf_4 n k) ih E a0 x1 x2 x3 hf
set_option maxHeartbeats 400000 in
set_option maxRecDepth 100000 in
theorem J_X5_rowsOf {G : jG} {l : Launch} {d : Nat} {X : jX} {res : Int32} (K : jOK G l mX5_rowsOf (d + 2) X) (n : Nat) (h : jH) (E : jEnd G mX5_rowsOf (jPR h res) X) (a0 : Nat) (x1 : Int32) (hf : F_X5_rowsOf n a0 x1 h = some res) : jJ G X h 0 0 0 [some (.ref a0), some (.int x1), none, none] [] := by
  unfold F_X5_rowsOf at hf
  refine jr_iconst K (D_at DX5_rowsOf 0 rfl) (v := (0 : Int32)) (by decide) ?_
  refine jr_istore_n K (D_at DX5_rowsOf 1 rfl) (i := 2) rfl (by decide) (L2 := [_, _, _, _]) rfl ?_
  refine jr_iconst K (D_at DX5_rowsOf 2 rfl) (v := (0 : Int32)) (by decide) ?_
  refine jr_istore_n K (D_at DX5_rowsOf 3 rfl) (i := 3) rfl (by decide) (L2 := [_, _, _, _]) rfl ?_
  refine jr_keep [true, true, true, true] ?_
  exact J_X5_rowsOf_4 K n h E n a0 x1 (0 : Int32) (0 : Int32) hf
theorem C_X5_rowsOf {G : jG} {l : Launch} (d : Nat) {n : Nat} {a0 : Nat} {x1 : Int32} {h : jH} {res : Int32} (hf : F_X5_rowsOf n a0 x1 h = some res) : jC G l mX5_rowsOf (d + 2) 0 0 [.ref a0, .int x1] h (jPR h res) :=
  jC.of (by decide +kernel) (jcats rfl) (Nat.le_of_ble_eq_true rfl) (fun X K E => J_X5_rowsOf K n h E a0 x1 hf)
set_option maxHeartbeats 400000 in
set_option maxRecDepth 100000 in
theorem J_X5_latestPlace_2_b {G : jG} {l : Launch} {d : Nat} {X : jX} {res : Int32} (K : jOK G l mX5_latestPlace (d + 2) X) (n : Nat) (h : jH) (rc2 : Nat → Int32 → Int32 → jH → Option Int32) (hr2 : ∀ (a0 : Nat) (x1 : Int32) (x2 : Int32), rc2 a0 x1 x2 h = some res → jJ G X h 0 0 2 [some (.ref a0), some (.int x1), some (.int x2)] []) (E : jEnd G mX5_latestPlace (jPR h res) X) (a0 : Nat) (x1 : Int32) (x2 : Int32) (hf : F_X5_latestPlace_2_b n rc2 a0 x1 x2 h = some res) : jJ G X h 0 0 2 [some (.ref a0), some (.int x1), some (.int x2)] [] := by
  unfold F_X5_latestPlace_2_b at hf
  refine jr_iload_n K (D_at DX5_latestPlace 2 rfl) rfl rfl ?_
  refine jr_aload_n K (D_at DX5_latestPlace 3 rfl) rfl rfl ?_
  obtain ⟨v4, e4, hf⟩ := jbind hf
  refine jr_getI K (D_at DX5_latestPlace 4 rfl) fg_X5_21_4 e4 ?_
  refine jr_icmp_ge K (D_at DX5_latestPlace 5 rfl) (tgt := 33) (by decide) (fun c7 => ?_) (fun c7 => ?_)
  · replace hf := (if_pos c7).symm.trans hf
    refine jr_iconst K (D_at DX5_latestPlace 19 rfl) (v := (-1 : Int32)) (by decide) ?_
    cases hf
    exact jr_iret K E (D_at DX5_latestPlace 20 rfl) rfl ⟨rfl, rfl⟩
  · replace hf := (if_neg c7).symm.trans hf
    refine jr_aload_n K (D_at DX5_latestPlace 6 rfl) rfl rfl ?_
    refine jr_iload_n K (D_at DX5_latestPlace 7 rfl) rfl rfl ?_
    refine jr_iconst K (D_at DX5_latestPlace 8 rfl) (v := (2 : Int32)) (by decide) ?_
    obtain ⟨v13, e13, hf⟩ := jbind hf
    obtain ⟨rc_13, e13⟩ := jcv_o e13
    refine jr_callV K (C_X5_read (d) e13) (D_at DX5_latestPlace 9 rfl) cv_X5_54_X5_read (As := [.int x2, .int (2 : Int32)]) (ci := 4) rfl rc_13 rfl rfl (by exact Nat.le_of_ble_eq_true rfl) (kc2 := 0) (ks2 := 0) rfl rfl (fun k9 h9 w9 => by cases w9.1) (fun r9 h9 w9 => ?_)
    obtain ⟨w1, w2⟩ := w9
    subst h9
    cases w1
    show jJ G X _ 0 0 _ _ (.int v13 :: _)
    refine jr_iload_n K (D_at DX5_latestPlace 10 rfl) rfl rfl ?_
    refine jr_icmp_ne K (D_at DX5_latestPlace 11 rfl) (tgt := 27) (by decide) (fun c17 => ?_) (fun c17 => ?_)
    · replace hf := (if_neg c17).symm.trans hf
      refine jr_iinc K (D_at DX5_latestPlace 17 rfl) (i := 2) rfl (v := x2 + (1 : Int32)) (jinc (by decide)) (by decide) (L2 := [_, _, _]) rfl ?_
      refine jr_goto K (D_at DX5_latestPlace 18 rfl) (tgt := 2) (by decide) ?_
      refine jr_keep [true, true, true] ?_
      exact hr2 a0 x1 (x2 + (1 : Int32)) hf
    · replace hf := (if_pos c17).symm.trans hf
      refine jr_aload_n K (D_at DX5_latestPlace 12 rfl) rfl rfl ?_
      refine jr_iload_n K (D_at DX5_latestPlace 13 rfl) rfl rfl ?_
      refine jr_iconst K (D_at DX5_latestPlace 14 rfl) (v := (5 : Int32)) (by decide) ?_
      obtain ⟨v23, e23, hf⟩ := jbind hf
      obtain ⟨rc_23, e23⟩ := jcv_o e23
      refine jr_callV K (C_X5_read (d) e23) (D_at DX5_latestPlace 15 rfl) cv_X5_54_X5_read (As := [.int x2, .int (5 : Int32)]) (ci := 4) rfl rc_23 rfl rfl (by exact Nat.le_of_ble_eq_true rfl) (kc2 := 0) (ks2 := 0) rfl rfl (fun k9 h9 w9 => by cases w9.1) (fun r9 h9 w9 => ?_)
      obtain ⟨w1, w2⟩ := w9
      subst h9
      cases w1
      show jJ G X _ 0 0 _ _ (.int v23 :: _)
      cases hf
      exact jr_iret K E (D_at DX5_latestPlace 16 rfl) rfl ⟨rfl, rfl⟩
theorem J_X5_latestPlace_2 {G : jG} {l : Launch} {d : Nat} {X : jX} {res : Int32} (K : jOK G l mX5_latestPlace (d + 2) X) (n : Nat) (h : jH) (E : jEnd G mX5_latestPlace (jPR h res) X) (k : Nat) : ∀ (a0 : Nat) (x1 : Int32) (x2 : Int32), F_X5_latestPlace_2 n k a0 x1 x2 h = some res → jJ G X h 0 0 2 [some (.ref a0), some (.int x1), some (.int x2)] [] := by
  induction k with
  | zero =>
    intro a0 x1 x2 hf
    exact jno (show (none : Option Int32) = some res from hf)
  | succ k ih =>
    intro a0 x1 x2 hf
    exact J_X5_latestPlace_2_b K n h (F_X5_latestPlace_2 n k) ih E a0 x1 x2 hf
set_option maxHeartbeats 400000 in
set_option maxRecDepth 100000 in
theorem J_X5_latestPlace {G : jG} {l : Launch} {d : Nat} {X : jX} {res : Int32} (K : jOK G l mX5_latestPlace (d + 2) X) (n : Nat) (h : jH) (E : jEnd G mX5_latestPlace (jPR h res) X) (a0 : Nat) (x1 : Int32) (hf : F_X5_latestPlace n a0 x1 h = some res) : jJ G X h 0 0 0 [some (.ref a0), some (.int x1), none] [] := by
  unfold F_X5_latestPlace at hf
  refine jr_iconst K (D_at DX5_latestPlace 0 rfl) (v := (0 : Int32)) (by decide) ?_
  refine jr_istore_n K (D_at DX5_latestPlace 1 rfl) (i := 2) rfl (by decide) (L2 := [_, _, _]) rfl ?_
  refine jr_keep [true, true, true] ?_
  exact J_X5_latestPlace_2 K n h E n a0 x1 (0 : Int32) hf
theorem C_X5_latestPlace {G : jG} {l : Launch} (d : Nat) {n : Nat} {a0 : Nat} {x1 : Int32} {h : jH} {res : Int32} (hf : F_X5_latestPlace n a0 x1 h = some res) : jC G l mX5_latestPlace (d + 2) 0 0 [.ref a0, .int x1] h (jPR h res) :=
  jC.of (by decide +kernel) (jcats rfl) (Nat.le_of_ble_eq_true rfl) (fun X K E => J_X5_latestPlace K n h E a0 x1 hf)
set_option maxHeartbeats 400000 in
set_option maxRecDepth 100000 in
theorem J_X6_hangsBy_22_b {G : jG} {l : Launch} {d : Nat} {X : jX} {res : Int32} (K : jOK G l mX6_hangsBy (d + 1) X) (n : Nat) (h : jH) (rc22 : Nat → Int32 → Int32 → Int32 → Int32 → jH → Option Int32) (hr22 : ∀ (a0 : Nat) (x1 : Int32) (x2 : Int32) (x3 : Int32) (x4 : Int32), rc22 a0 x1 x2 x3 x4 h = some res → jJ G X h 0 0 22 [some (.ref a0), some (.int x1), some (.int x2), some (.int x3), some (.int x4), none] []) (E : jEnd G mX6_hangsBy (jPR h res) X) (a0 : Nat) (x1 : Int32) (x2 : Int32) (x3 : Int32) (x4 : Int32) (hf : F_X6_hangsBy_22_b n rc22 a0 x1 x2 x3 x4 h = some res) : jJ G X h 0 0 22 [some (.ref a0), some (.int x1), some (.int x2), some (.int x3), some (.int x4), none] [] := by
  unfold F_X6_hangsBy_22_b at hf
  refine jr_iload K (D_at DX6_hangsBy 14 rfl) rfl ?_
  refine jr_aload_n K (D_at DX6_hangsBy 15 rfl) rfl rfl ?_
  obtain ⟨v25, e25, hf⟩ := jbind hf
  refine jr_getI K (D_at DX6_hangsBy 16 rfl) fg_X6_19_6 e25 ?_
  refine jr_icmp_ge K (D_at DX6_hangsBy 17 rfl) (tgt := 81) (by decide) (fun c28 => ?_) (fun c28 => ?_)
  · replace hf := (if_pos c28).symm.trans hf
    refine jr_iload_n K (D_at DX6_hangsBy 44 rfl) rfl rfl ?_
    cases hf
    exact jr_iret K E (D_at DX6_hangsBy 45 rfl) rfl ⟨rfl, rfl⟩
  · replace hf := (if_neg c28).symm.trans hf
    refine jr_aload_n K (D_at DX6_hangsBy 18 rfl) rfl rfl ?_
    obtain ⟨p32, e32, hf⟩ := jbind hf
    refine jr_getR K (D_at DX6_hangsBy 19 rfl) fg_X6_22_6 e32 ?_
    refine jr_iload K (D_at DX6_hangsBy 20 rfl) rfl ?_
    obtain ⟨v37, e37, hf⟩ := jbind hf
    refine jr_iald K (D_at DX6_hangsBy 21 rfl) e37 ?_
    refine jr_aload_n K (D_at DX6_hangsBy 22 rfl) rfl rfl ?_
    obtain ⟨p39, e39, hf⟩ := jbind hf
    refine jr_getR K (D_at DX6_hangsBy 23 rfl) fg_X6_22_6 e39 ?_
    refine jr_iload_n K (D_at DX6_hangsBy 24 rfl) rfl rfl ?_
    obtain ⟨v43, e43, hf⟩ := jbind hf
    refine jr_iald K (D_at DX6_hangsBy 25 rfl) e43 ?_
    refine jr_isub K (D_at DX6_hangsBy 26 rfl) ?_
    refine jr_abs K (D_at DX6_hangsBy 27 rfl) mm_X6_26 (by exact Nat.le_of_ble_eq_true rfl) ?_
    refine jr_istore K (D_at DX6_hangsBy 28 rfl) (i := 5) (by decide) (L2 := [_, _, _, _, _, _]) rfl ?_
    refine jr_aload_n K (D_at DX6_hangsBy 29 rfl) rfl rfl ?_
    obtain ⟨v51, e51, hf⟩ := jbind hf
    refine jr_getI K (D_at DX6_hangsBy 30 rfl) fg_X6_9_6 e51 ?_
    refine jr_iload K (D_at DX6_hangsBy 31 rfl) rfl ?_
    obtain ⟨v56, e56, hf⟩ := jbind hf
    refine jr_callSN K (C_X11_bit (d) e56) (D_at DX6_hangsBy 32 rfl) csn_X6_15_X11_bit (As := [.int v51, .int x4]) rfl rfl (by exact Nat.le_of_ble_eq_true rfl) (kc2 := 0) (ks2 := 0) rfl rfl (fun k9 h9 w9 => by cases w9.1) (fun r9 h9 w9 => ?_)
    obtain ⟨w1, w2⟩ := w9
    subst h9
    cases w1
    show jJ G X _ 0 0 _ _ (.int v56 :: _)
    refine jr_iconst K (D_at DX6_hangsBy 33 rfl) (v := (1 : Int32)) (by decide) ?_
    refine jr_icmp_ne K (D_at DX6_hangsBy 34 rfl) (tgt := 75) (by decide) (fun c60 => ?_) (fun c60 => ?_)
    · replace hf := (if_neg c60).symm.trans hf
      refine jr_iinc K (D_at DX6_hangsBy 42 rfl) (i := 4) rfl (v := x4 + (1 : Int32)) (jinc (by decide)) (by decide) (L2 := [_, _, _, _, _, _]) rfl ?_
      refine jr_goto K (D_at DX6_hangsBy 43 rfl) (tgt := 22) (by decide) ?_
      refine jr_keep [true, true, true, true, true, false] ?_
      exact hr22 a0 x1 x2 x3 (x4 + (1 : Int32)) hf
    · replace hf := (if_pos c60).symm.trans hf
      refine jr_iload K (D_at DX6_hangsBy 35 rfl) rfl ?_
      refine jr_iload_n K (D_at DX6_hangsBy 36 rfl) rfl rfl ?_
      refine jr_icmp_ge K (D_at DX6_hangsBy 37 rfl) (tgt := 75) (by decide) (fun c66 => ?_) (fun c66 => ?_)
      · replace hf := (if_pos c66).symm.trans hf
        refine jr_iinc K (D_at DX6_hangsBy 42 rfl) (i := 4) rfl (v := x4 + (1 : Int32)) (jinc (by decide)) (by decide) (L2 := [_, _, _, _, _, _]) rfl ?_
        refine jr_goto K (D_at DX6_hangsBy 43 rfl) (tgt := 22) (by decide) ?_
        refine jr_keep [true, true, true, true, true, false] ?_
        exact hr22 a0 x1 x2 x3 (x4 + (1 : Int32)) hf
      · replace hf := (if_neg c66).symm.trans hf
        refine jr_iload K (D_at DX6_hangsBy 38 rfl) rfl ?_
        refine jr_istore_n K (D_at DX6_hangsBy 39 rfl) (i := 3) rfl (by decide) (L2 := [_, _, _, _, _, _]) rfl ?_
        refine jr_iload K (D_at DX6_hangsBy 40 rfl) rfl ?_
        refine jr_istore_n K (D_at DX6_hangsBy 41 rfl) (i := 2) rfl (by decide) (L2 := [_, _, _, _, _, _]) rfl ?_
        refine jr_iinc K (D_at DX6_hangsBy 42 rfl) (i := 4) rfl (v := x4 + (1 : Int32)) (jinc (by decide)) (by decide) (L2 := [_, _, _, _, _, _]) rfl ?_
        refine jr_goto K (D_at DX6_hangsBy 43 rfl) (tgt := 22) (by decide) ?_
        refine jr_keep [true, true, true, true, true, false] ?_
        exact hr22 a0 x1 x4 (if 0 ≤ v37 - v43 then v37 - v43 else 0 - (v37 - v43)) (x4 + (1 : Int32)) hf
theorem J_X6_hangsBy_22 {G : jG} {l : Launch} {d : Nat} {X : jX} {res : Int32} (K : jOK G l mX6_hangsBy (d + 1) X) (n : Nat) (h : jH) (E : jEnd G mX6_hangsBy (jPR h res) X) (k : Nat) : ∀ (a0 : Nat) (x1 : Int32) (x2 : Int32) (x3 : Int32) (x4 : Int32), F_X6_hangsBy_22 n k a0 x1 x2 x3 x4 h = some res → jJ G X h 0 0 22 [some (.ref a0), some (.int x1), some (.int x2), some (.int x3), some (.int x4), none] [] := by
  induction k with
  | zero =>
    intro a0 x1 x2 x3 x4 hf
    exact jno (show (none : Option Int32) = some res from hf)
  | succ k ih =>
    intro a0 x1 x2 x3 x4 hf
    exact J_X6_hangsBy_22_b K n h (F_X6_hangsBy_22 n k) ih E a0 x1 x2 x3 x4 hf
set_option maxHeartbeats 400000 in
set_option maxRecDepth 100000 in
theorem J_X6_hangsBy {G : jG} {l : Launch} {d : Nat} {X : jX} {res : Int32} (K : jOK G l mX6_hangsBy (d + 1) X) (n : Nat) (h : jH) (E : jEnd G mX6_hangsBy (jPR h res) X) (a0 : Nat) (x1 : Int32) (hf : F_X6_hangsBy n a0 x1 h = some res) : jJ G X h 0 0 0 [some (.ref a0), some (.int x1), none, none, none, none] [] := by
  unfold F_X6_hangsBy at hf
  refine jr_aload_n K (D_at DX6_hangsBy 0 rfl) rfl rfl ?_
  obtain ⟨v1, e1, hf⟩ := jbind hf
  refine jr_getI K (D_at DX6_hangsBy 1 rfl) fg_X6_9_6 e1 ?_
  refine jr_iload_n K (D_at DX6_hangsBy 2 rfl) rfl rfl ?_
  obtain ⟨v5, e5, hf⟩ := jbind hf
  refine jr_callSN K (C_X11_bit (d) e5) (D_at DX6_hangsBy 3 rfl) csn_X6_15_X11_bit (As := [.int v1, .int x1]) rfl rfl (by exact Nat.le_of_ble_eq_true rfl) (kc2 := 0) (ks2 := 0) rfl rfl (fun k9 h9 w9 => by cases w9.1) (fun r9 h9 w9 => ?_)
  obtain ⟨w1, w2⟩ := w9
  subst h9
  cases w1
  show jJ G X _ 0 0 _ _ (.int v5 :: _)
  refine jr_iconst K (D_at DX6_hangsBy 4 rfl) (v := (1 : Int32)) (by decide) ?_
  refine jr_icmp_ne K (D_at DX6_hangsBy 5 rfl) (tgt := 14) (by decide) (fun c9 => ?_) (fun c9 => ?_)
  · replace hf := (if_neg c9).symm.trans hf
    refine jr_iconst K (D_at DX6_hangsBy 8 rfl) (v := (-1 : Int32)) (by decide) ?_
    refine jr_istore_n K (D_at DX6_hangsBy 9 rfl) (i := 2) rfl (by decide) (L2 := [_, _, _, _, _, _]) rfl ?_
    refine jr_bipush K (D_at DX6_hangsBy 10 rfl) (v := (32 : Int32)) (by decide) ?_
    refine jr_istore_n K (D_at DX6_hangsBy 11 rfl) (i := 3) rfl (by decide) (L2 := [_, _, _, _, _, _]) rfl ?_
    refine jr_iconst K (D_at DX6_hangsBy 12 rfl) (v := (0 : Int32)) (by decide) ?_
    refine jr_istore K (D_at DX6_hangsBy 13 rfl) (i := 4) (by decide) (L2 := [_, _, _, _, _, _]) rfl ?_
    refine jr_keep [true, true, true, true, true, false] ?_
    exact J_X6_hangsBy_22 K n h E n a0 x1 (-1 : Int32) (32 : Int32) (0 : Int32) hf
  · replace hf := (if_pos c9).symm.trans hf
    refine jr_iload_n K (D_at DX6_hangsBy 6 rfl) rfl rfl ?_
    cases hf
    exact jr_iret K E (D_at DX6_hangsBy 7 rfl) rfl ⟨rfl, rfl⟩
theorem C_X6_hangsBy {G : jG} {l : Launch} (d : Nat) {n : Nat} {a0 : Nat} {x1 : Int32} {h : jH} {res : Int32} (hf : F_X6_hangsBy n a0 x1 h = some res) : jC G l mX6_hangsBy (d + 1) 0 0 [.ref a0, .int x1] h (jPR h res) :=
  jC.of (by decide +kernel) (jcats rfl) (Nat.le_of_ble_eq_true rfl) (fun X K E => J_X6_hangsBy K n h E a0 x1 hf)
set_option maxHeartbeats 400000 in
set_option maxRecDepth 100000 in
theorem J_X8_allFades_4_b {G : jG} {l : Launch} {d : Nat} {X : jX} {res : Int32} (K : jOK G l mX8_allFades (d) X) (n : Nat) (h : jH) (rc4 : Nat → Int32 → Int32 → jH → Option Int32) (hr4 : ∀ (a0 : Nat) (x1 : Int32) (x2 : Int32), rc4 a0 x1 x2 h = some res → jJ G X h 0 0 4 [some (.ref a0), some (.int x1), some (.int x2)] []) (E : jEnd G mX8_allFades (jPR h res) X) (a0 : Nat) (x1 : Int32) (x2 : Int32) (hf : F_X8_allFades_4_b n rc4 a0 x1 x2 h = some res) : jJ G X h 0 0 4 [some (.ref a0), some (.int x1), some (.int x2)] [] := by
  unfold F_X8_allFades_4_b at hf
  refine jr_iload_n K (D_at DX8_allFades 4 rfl) rfl rfl ?_
  refine jr_aload_n K (D_at DX8_allFades 5 rfl) rfl rfl ?_
  obtain ⟨v6, e6, hf⟩ := jbind hf
  refine jr_getI K (D_at DX8_allFades 6 rfl) fg_X8_51_6 e6 ?_
  refine jr_icmp_ge K (D_at DX8_allFades 7 rfl) (tgt := 27) (by decide) (fun c9 => ?_) (fun c9 => ?_)
  · replace hf := (if_pos c9).symm.trans hf
    refine jr_iload_n K (D_at DX8_allFades 17 rfl) rfl rfl ?_
    cases hf
    exact jr_iret K E (D_at DX8_allFades 18 rfl) rfl ⟨rfl, rfl⟩
  · replace hf := (if_neg c9).symm.trans hf
    refine jr_iload_n K (D_at DX8_allFades 8 rfl) rfl rfl ?_
    refine jr_aload_n K (D_at DX8_allFades 9 rfl) rfl rfl ?_
    obtain ⟨p14, e14, hf⟩ := jbind hf
    refine jr_getR K (D_at DX8_allFades 10 rfl) fg_X8_18_6 e14 ?_
    refine jr_iload_n K (D_at DX8_allFades 11 rfl) rfl rfl ?_
    obtain ⟨v18, e18, hf⟩ := jbind hf
    refine jr_iald K (D_at DX8_allFades 12 rfl) e18 ?_
    refine jr_iadd K (D_at DX8_allFades 13 rfl) ?_
    refine jr_istore_n K (D_at DX8_allFades 14 rfl) (i := 1) rfl (by decide) (L2 := [_, _, _]) rfl ?_
    refine jr_iinc K (D_at DX8_allFades 15 rfl) (i := 2) rfl (v := x2 + (1 : Int32)) (jinc (by decide)) (by decide) (L2 := [_, _, _]) rfl ?_
    refine jr_goto K (D_at DX8_allFades 16 rfl) (tgt := 4) (by decide) ?_
    refine jr_keep [true, true, true] ?_
    exact hr4 a0 (x1 + v18) (x2 + (1 : Int32)) hf
theorem J_X8_allFades_4 {G : jG} {l : Launch} {d : Nat} {X : jX} {res : Int32} (K : jOK G l mX8_allFades (d) X) (n : Nat) (h : jH) (E : jEnd G mX8_allFades (jPR h res) X) (k : Nat) : ∀ (a0 : Nat) (x1 : Int32) (x2 : Int32), F_X8_allFades_4 n k a0 x1 x2 h = some res → jJ G X h 0 0 4 [some (.ref a0), some (.int x1), some (.int x2)] [] := by
  induction k with
  | zero =>
    intro a0 x1 x2 hf
    exact jno (show (none : Option Int32) = some res from hf)
  | succ k ih =>
    intro a0 x1 x2 hf
    exact J_X8_allFades_4_b K n h (F_X8_allFades_4 n k) ih E a0 x1 x2 hf
set_option maxHeartbeats 400000 in
set_option maxRecDepth 100000 in
theorem J_X8_allFades {G : jG} {l : Launch} {d : Nat} {X : jX} {res : Int32} (K : jOK G l mX8_allFades (d) X) (n : Nat) (h : jH) (E : jEnd G mX8_allFades (jPR h res) X) (a0 : Nat) (hf : F_X8_allFades n a0 h = some res) : jJ G X h 0 0 0 [some (.ref a0), none, none] [] := by
  unfold F_X8_allFades at hf
  refine jr_iconst K (D_at DX8_allFades 0 rfl) (v := (0 : Int32)) (by decide) ?_
  refine jr_istore_n K (D_at DX8_allFades 1 rfl) (i := 1) rfl (by decide) (L2 := [_, _, _]) rfl ?_
  refine jr_iconst K (D_at DX8_allFades 2 rfl) (v := (0 : Int32)) (by decide) ?_
  refine jr_istore_n K (D_at DX8_allFades 3 rfl) (i := 2) rfl (by decide) (L2 := [_, _, _]) rfl ?_
  refine jr_keep [true, true, true] ?_
  exact J_X8_allFades_4 K n h E n a0 (0 : Int32) (0 : Int32) hf
theorem C_X8_allFades {G : jG} {l : Launch} (d : Nat) {n : Nat} {a0 : Nat} {h : jH} {res : Int32} (hf : F_X8_allFades n a0 h = some res) : jC G l mX8_allFades (d) 0 0 [.ref a0] h (jPR h res) :=
  jC.of (by decide +kernel) (jcats rfl) (Nat.le_of_ble_eq_true rfl) (fun X K E => J_X8_allFades K n h E a0 hf)
set_option maxHeartbeats 400000 in
set_option maxRecDepth 100000 in
theorem J_X6_share {G : jG} {l : Launch} {d : Nat} {X : jX} {res : Int32} (K : jOK G l mX6_share (d + 1) X) (n : Nat) (h : jH) (E : jEnd G mX6_share (jPR h res) X) (a0 : Nat) (x1 : Int32) (hf : F_X6_share n a0 x1 h = some res) : jJ G X h 0 0 0 [some (.ref a0), some (.int x1), none] [] := by
  unfold F_X6_share at hf
  refine jr_aload_n K (D_at DX6_share 0 rfl) rfl rfl ?_
  obtain ⟨v1, e1, hf⟩ := jbind hf
  obtain ⟨rc_1, e1⟩ := jcv_o e1
  refine jr_callV K (C_X8_allFades (d) e1) (D_at DX6_share 1 rfl) cv_X6_32_X8_allFades (As := []) (ci := 6) rfl rc_1 rfl rfl (by exact Nat.le_of_ble_eq_true rfl) (kc2 := 0) (ks2 := 0) rfl rfl (fun k9 h9 w9 => by cases w9.1) (fun r9 h9 w9 => ?_)
  obtain ⟨w1, w2⟩ := w9
  subst h9
  cases w1
  show jJ G X _ 0 0 _ _ (.int v1 :: _)
  refine jr_istore_n K (D_at DX6_share 2 rfl) (i := 2) rfl (by decide) (L2 := [_, _, _]) rfl ?_
  refine jr_iload_n K (D_at DX6_share 3 rfl) rfl rfl ?_
  refine jr_if_ne K (D_at DX6_share 4 rfl) (tgt := 13) (by decide) (fun c6 => ?_) (fun c6 => ?_)
  · replace hf := (if_neg c6).symm.trans hf
    refine jr_bipush K (D_at DX6_share 7 rfl) (v := (100 : Int32)) (by decide) ?_
    refine jr_aload_n K (D_at DX6_share 8 rfl) rfl rfl ?_
    obtain ⟨p16, e16, hf⟩ := jbind hf
    refine jr_getR K (D_at DX6_share 9 rfl) fg_X6_36_6 e16 ?_
    refine jr_iload_n K (D_at DX6_share 10 rfl) rfl rfl ?_
    obtain ⟨v20, e20, hf⟩ := jbind hf
    refine jr_iald K (D_at DX6_share 11 rfl) e20 ?_
    refine jr_imul K (D_at DX6_share 12 rfl) ?_
    refine jr_iload_n K (D_at DX6_share 13 rfl) rfl rfl ?_
    by_cases c23 : v1 = 0
    · exact jno (show (none : Option Int32) = some res from (if_pos c23).symm.trans hf)
    replace hf := (if_neg c23).symm.trans hf
    refine jr_idiv K (D_at DX6_share 14 rfl) c23 ?_
    cases hf
    exact jr_iret K E (D_at DX6_share 15 rfl) rfl ⟨rfl, rfl⟩
  · replace hf := (if_pos c6).symm.trans hf
    refine jr_iconst K (D_at DX6_share 5 rfl) (v := (0 : Int32)) (by decide) ?_
    refine jr_goto K (D_at DX6_share 6 rfl) (tgt := 24) (by decide) ?_
    cases hf
    exact jr_iret K E (D_at DX6_share 15 rfl) rfl ⟨rfl, rfl⟩
theorem C_X6_share {G : jG} {l : Launch} (d : Nat) {n : Nat} {a0 : Nat} {x1 : Int32} {h : jH} {res : Int32} (hf : F_X6_share n a0 x1 h = some res) : jC G l mX6_share (d + 1) 0 0 [.ref a0, .int x1] h (jPR h res) :=
  jC.of (by decide +kernel) (jcats rfl) (Nat.le_of_ble_eq_true rfl) (fun X K E => J_X6_share K n h E a0 x1 hf)
set_option maxHeartbeats 400000 in
set_option maxRecDepth 100000 in
theorem J_X6_isInOrder_4_b {G : jG} {l : Launch} {d : Nat} {X : jX} {res : Int32} (K : jOK G l mX6_isInOrder (d + 1) X) (n : Nat) (h : jH) (rc4 : Nat → Int32 → Int32 → Int32 → jH → Option Int32) (hr4 : ∀ (a0 : Nat) (x1 : Int32) (x2 : Int32) (x3 : Int32), rc4 a0 x1 x2 x3 h = some res → jJ G X h 0 0 4 [some (.ref a0), some (.int x1), some (.int x2), some (.int x3)] []) (E : jEnd G mX6_isInOrder (jPR h res) X) (a0 : Nat) (x1 : Int32) (x2 : Int32) (x3 : Int32) (hf : F_X6_isInOrder_4_b n rc4 a0 x1 x2 x3 h = some res) : jJ G X h 0 0 4 [some (.ref a0), some (.int x1), some (.int x2), some (.int x3)] [] := by
  unfold F_X6_isInOrder_4_b at hf
  refine jr_iload_n K (D_at DX6_isInOrder 4 rfl) rfl rfl ?_
  refine jr_aload_n K (D_at DX6_isInOrder 5 rfl) rfl rfl ?_
  obtain ⟨v6, e6, hf⟩ := jbind hf
  refine jr_getI K (D_at DX6_isInOrder 6 rfl) fg_X6_19_6 e6 ?_
  refine jr_icmp_ge K (D_at DX6_isInOrder 7 rfl) (tgt := 46) (by decide) (fun c9 => ?_) (fun c9 => ?_)
  · replace hf := (if_pos c9).symm.trans hf
    refine jr_iconst K (D_at DX6_isInOrder 28 rfl) (v := (1 : Int32)) (by decide) ?_
    cases hf
    exact jr_zret K E (D_at DX6_isInOrder 29 rfl) rfl (Or.inr rfl) ⟨rfl, rfl⟩
  · replace hf := (if_neg c9).symm.trans hf
    refine jr_iload_n K (D_at DX6_isInOrder 8 rfl) rfl rfl ?_
    refine jr_iload_n K (D_at DX6_isInOrder 9 rfl) rfl rfl ?_
    obtain ⟨v14, e14, hf⟩ := jbind hf
    refine jr_callSN K (C_X11_bit (d) e14) (D_at DX6_isInOrder 10 rfl) csn_X6_15_X11_bit (As := [.int x1, .int x3]) rfl rfl (by exact Nat.le_of_ble_eq_true rfl) (kc2 := 0) (ks2 := 0) rfl rfl (fun k9 h9 w9 => by cases w9.1) (fun r9 h9 w9 => ?_)
    obtain ⟨w1, w2⟩ := w9
    subst h9
    cases w1
    show jJ G X _ 0 0 _ _ (.int v14 :: _)
    refine jr_iconst K (D_at DX6_isInOrder 11 rfl) (v := (1 : Int32)) (by decide) ?_
    refine jr_icmp_ne K (D_at DX6_isInOrder 12 rfl) (tgt := 40) (by decide) (fun c18 => ?_) (fun c18 => ?_)
    · replace hf := (if_neg c18).symm.trans hf
      refine jr_iinc K (D_at DX6_isInOrder 26 rfl) (i := 3) rfl (v := x3 + (1 : Int32)) (jinc (by decide)) (by decide) (L2 := [_, _, _, _]) rfl ?_
      refine jr_goto K (D_at DX6_isInOrder 27 rfl) (tgt := 4) (by decide) ?_
      refine jr_keep [true, true, true, true] ?_
      exact hr4 a0 x1 x2 (x3 + (1 : Int32)) hf
    · replace hf := (if_pos c18).symm.trans hf
      refine jr_aload_n K (D_at DX6_isInOrder 13 rfl) rfl rfl ?_
      obtain ⟨p22, e22, hf⟩ := jbind hf
      refine jr_getR K (D_at DX6_isInOrder 14 rfl) fg_X6_36_6 e22 ?_
      refine jr_iload_n K (D_at DX6_isInOrder 15 rfl) rfl rfl ?_
      obtain ⟨v26, e26, hf⟩ := jbind hf
      refine jr_iald K (D_at DX6_isInOrder 16 rfl) e26 ?_
      refine jr_iload_n K (D_at DX6_isInOrder 17 rfl) rfl rfl ?_
      refine jr_icmp_ge K (D_at DX6_isInOrder 18 rfl) (tgt := 33) (by decide) (fun c28 => ?_) (fun c28 => ?_)
      · replace hf := (if_pos c28).symm.trans hf
        refine jr_aload_n K (D_at DX6_isInOrder 21 rfl) rfl rfl ?_
        obtain ⟨p34, e34, hf⟩ := jbind hf
        refine jr_getR K (D_at DX6_isInOrder 22 rfl) fg_X6_36_6 e34 ?_
        refine jr_iload_n K (D_at DX6_isInOrder 23 rfl) rfl rfl ?_
        obtain ⟨v38, e38, hf⟩ := jbind hf
        refine jr_iald K (D_at DX6_isInOrder 24 rfl) e38 ?_
        refine jr_istore_n K (D_at DX6_isInOrder 25 rfl) (i := 2) rfl (by decide) (L2 := [_, _, _, _]) rfl ?_
        refine jr_iinc K (D_at DX6_isInOrder 26 rfl) (i := 3) rfl (v := x3 + (1 : Int32)) (jinc (by decide)) (by decide) (L2 := [_, _, _, _]) rfl ?_
        refine jr_goto K (D_at DX6_isInOrder 27 rfl) (tgt := 4) (by decide) ?_
        refine jr_keep [true, true, true, true] ?_
        exact hr4 a0 x1 v38 (x3 + (1 : Int32)) hf
      · replace hf := (if_neg c28).symm.trans hf
        refine jr_iconst K (D_at DX6_isInOrder 19 rfl) (v := (0 : Int32)) (by decide) ?_
        cases hf
        exact jr_zret K E (D_at DX6_isInOrder 20 rfl) rfl (Or.inl rfl) ⟨rfl, rfl⟩
theorem J_X6_isInOrder_4 {G : jG} {l : Launch} {d : Nat} {X : jX} {res : Int32} (K : jOK G l mX6_isInOrder (d + 1) X) (n : Nat) (h : jH) (E : jEnd G mX6_isInOrder (jPR h res) X) (k : Nat) : ∀ (a0 : Nat) (x1 : Int32) (x2 : Int32) (x3 : Int32), F_X6_isInOrder_4 n k a0 x1 x2 x3 h = some res → jJ G X h 0 0 4 [some (.ref a0), some (.int x1), some (.int x2), some (.int x3)] [] := by
  induction k with
  | zero =>
    intro a0 x1 x2 x3 hf
    exact jno (show (none : Option Int32) = some res from hf)
  | succ k ih =>
    intro a0 x1 x2 x3 hf
    exact J_X6_isInOrder_4_b K n h (F_X6_isInOrder_4 n k) ih E a0 x1 x2 x3 hf
set_option maxHeartbeats 400000 in
set_option maxRecDepth 100000 in
theorem J_X6_isInOrder {G : jG} {l : Launch} {d : Nat} {X : jX} {res : Int32} (K : jOK G l mX6_isInOrder (d + 1) X) (n : Nat) (h : jH) (E : jEnd G mX6_isInOrder (jPR h res) X) (a0 : Nat) (x1 : Int32) (hf : F_X6_isInOrder n a0 x1 h = some res) : jJ G X h 0 0 0 [some (.ref a0), some (.int x1), none, none] [] := by
  unfold F_X6_isInOrder at hf
  refine jr_iconst K (D_at DX6_isInOrder 0 rfl) (v := (0 : Int32)) (by decide) ?_
  refine jr_istore_n K (D_at DX6_isInOrder 1 rfl) (i := 2) rfl (by decide) (L2 := [_, _, _, _]) rfl ?_
  refine jr_iconst K (D_at DX6_isInOrder 2 rfl) (v := (0 : Int32)) (by decide) ?_
  refine jr_istore_n K (D_at DX6_isInOrder 3 rfl) (i := 3) rfl (by decide) (L2 := [_, _, _, _]) rfl ?_
  refine jr_keep [true, true, true, true] ?_
  exact J_X6_isInOrder_4 K n h E n a0 x1 (0 : Int32) (0 : Int32) hf
theorem C_X6_isInOrder {G : jG} {l : Launch} (d : Nat) {n : Nat} {a0 : Nat} {x1 : Int32} {h : jH} {res : Int32} (hf : F_X6_isInOrder n a0 x1 h = some res) : jC G l mX6_isInOrder (d + 1) 0 0 [.ref a0, .int x1] h (jPR h res) :=
  jC.of (by decide +kernel) (jcats rfl) (Nat.le_of_ble_eq_true rfl) (fun X K E => J_X6_isInOrder K n h E a0 x1 hf)
set_option maxHeartbeats 400000 in
set_option maxRecDepth 100000 in
theorem J_J6_bitCount_0f7a4 {G : jG} {l : Launch} {d : Nat} {X : jX} {res : Int32} (K : jOK G l mJ6_bitCount_0f7a4 (d) X) (n : Nat) (h : jH) (E : jEnd G mJ6_bitCount_0f7a4 (jPR h res) X) (x0 : Int32) (hf : F_J6_bitCount_0f7a4 n x0 h = some res) : jJ G X h 0 0 0 [some (.int x0)] [] := by
  unfold F_J6_bitCount_0f7a4 at hf
  refine jr_iload_n K (D_at DJ6_bitCount_0f7a4 0 rfl) rfl rfl ?_
  refine jr_iload_n K (D_at DJ6_bitCount_0f7a4 1 rfl) rfl rfl ?_
  refine jr_iconst K (D_at DJ6_bitCount_0f7a4 2 rfl) (v := (1 : Int32)) (by decide) ?_
  refine jr_iushr K (D_at DJ6_bitCount_0f7a4 3 rfl) (v := jushr x0 (1 : Int32)) rfl ?_
  refine jr_ldcw K (D_at DJ6_bitCount_0f7a4 4 rfl) (v := (1431655765 : Int32)) kc_J6_265 ?_
  refine jr_iand K (D_at DJ6_bitCount_0f7a4 5 rfl) ?_
  refine jr_isub K (D_at DJ6_bitCount_0f7a4 6 rfl) ?_
  refine jr_istore_n K (D_at DJ6_bitCount_0f7a4 7 rfl) (i := 0) rfl (by decide) (L2 := [_]) rfl ?_
  refine jr_iload_n K (D_at DJ6_bitCount_0f7a4 8 rfl) rfl rfl ?_
  refine jr_ldcw K (D_at DJ6_bitCount_0f7a4 9 rfl) (v := (858993459 : Int32)) kc_J6_266 ?_
  refine jr_iand K (D_at DJ6_bitCount_0f7a4 10 rfl) ?_
  refine jr_iload_n K (D_at DJ6_bitCount_0f7a4 11 rfl) rfl rfl ?_
  refine jr_iconst K (D_at DJ6_bitCount_0f7a4 12 rfl) (v := (2 : Int32)) (by decide) ?_
  refine jr_iushr K (D_at DJ6_bitCount_0f7a4 13 rfl) (v := jushr (x0 - ((jushr x0 (1 : Int32)) &&& (1431655765 : Int32))) (2 : Int32)) rfl ?_
  refine jr_ldcw K (D_at DJ6_bitCount_0f7a4 14 rfl) (v := (858993459 : Int32)) kc_J6_266 ?_
  refine jr_iand K (D_at DJ6_bitCount_0f7a4 15 rfl) ?_
  refine jr_iadd K (D_at DJ6_bitCount_0f7a4 16 rfl) ?_
  refine jr_istore_n K (D_at DJ6_bitCount_0f7a4 17 rfl) (i := 0) rfl (by decide) (L2 := [_]) rfl ?_
  refine jr_iload_n K (D_at DJ6_bitCount_0f7a4 18 rfl) rfl rfl ?_
  refine jr_iload_n K (D_at DJ6_bitCount_0f7a4 19 rfl) rfl rfl ?_
  refine jr_iconst K (D_at DJ6_bitCount_0f7a4 20 rfl) (v := (4 : Int32)) (by decide) ?_
  refine jr_iushr K (D_at DJ6_bitCount_0f7a4 21 rfl) (v := jushr (((x0 - ((jushr x0 (1 : Int32)) &&& (1431655765 : Int32))) &&& (858993459 : Int32)) + ((jushr (x0 - ((jushr x0 (1 : Int32)) &&& (1431655765 : Int32))) (2 : Int32)) &&& (858993459 : Int32))) (4 : Int32)) rfl ?_
  refine jr_iadd K (D_at DJ6_bitCount_0f7a4 22 rfl) ?_
  refine jr_ldcw K (D_at DJ6_bitCount_0f7a4 23 rfl) (v := (252645135 : Int32)) kc_J6_267 ?_
  refine jr_iand K (D_at DJ6_bitCount_0f7a4 24 rfl) ?_
  refine jr_istore_n K (D_at DJ6_bitCount_0f7a4 25 rfl) (i := 0) rfl (by decide) (L2 := [_]) rfl ?_
  refine jr_iload_n K (D_at DJ6_bitCount_0f7a4 26 rfl) rfl rfl ?_
  refine jr_iload_n K (D_at DJ6_bitCount_0f7a4 27 rfl) rfl rfl ?_
  refine jr_bipush K (D_at DJ6_bitCount_0f7a4 28 rfl) (v := (8 : Int32)) (by decide) ?_
  refine jr_iushr K (D_at DJ6_bitCount_0f7a4 29 rfl) (v := jushr (((((x0 - ((jushr x0 (1 : Int32)) &&& (1431655765 : Int32))) &&& (858993459 : Int32)) + ((jushr (x0 - ((jushr x0 (1 : Int32)) &&& (1431655765 : Int32))) (2 : Int32)) &&& (858993459 : Int32))) + (jushr (((x0 - ((jushr x0 (1 : Int32)) &&& (1431655765 : Int32))) &&& (858993459 : Int32)) + ((jushr (x0 - ((jushr x0 (1 : Int32)) &&& (1431655765 : Int32))) (2 : Int32)) &&& (858993459 : Int32))) (4 : Int32))) &&& (252645135 : Int32)) (8 : Int32)) rfl ?_
  refine jr_iadd K (D_at DJ6_bitCount_0f7a4 30 rfl) ?_
  refine jr_istore_n K (D_at DJ6_bitCount_0f7a4 31 rfl) (i := 0) rfl (by decide) (L2 := [_]) rfl ?_
  refine jr_iload_n K (D_at DJ6_bitCount_0f7a4 32 rfl) rfl rfl ?_
  refine jr_iload_n K (D_at DJ6_bitCount_0f7a4 33 rfl) rfl rfl ?_
  refine jr_bipush K (D_at DJ6_bitCount_0f7a4 34 rfl) (v := (16 : Int32)) (by decide) ?_
  refine jr_iushr K (D_at DJ6_bitCount_0f7a4 35 rfl) (v := jushr ((((((x0 - ((jushr x0 (1 : Int32)) &&& (1431655765 : Int32))) &&& (858993459 : Int32)) + ((jushr (x0 - ((jushr x0 (1 : Int32)) &&& (1431655765 : Int32))) (2 : Int32)) &&& (858993459 : Int32))) + (jushr (((x0 - ((jushr x0 (1 : Int32)) &&& (1431655765 : Int32))) &&& (858993459 : Int32)) + ((jushr (x0 - ((jushr x0 (1 : Int32)) &&& (1431655765 : Int32))) (2 : Int32)) &&& (858993459 : Int32))) (4 : Int32))) &&& (252645135 : Int32)) + (jushr (((((x0 - ((jushr x0 (1 : Int32)) &&& (1431655765 : Int32))) &&& (858993459 : Int32)) + ((jushr (x0 - ((jushr x0 (1 : Int32)) &&& (1431655765 : Int32))) (2 : Int32)) &&& (858993459 : Int32))) + (jushr (((x0 - ((jushr x0 (1 : Int32)) &&& (1431655765 : Int32))) &&& (858993459 : Int32)) + ((jushr (x0 - ((jushr x0 (1 : Int32)) &&& (1431655765 : Int32))) (2 : Int32)) &&& (858993459 : Int32))) (4 : Int32))) &&& (252645135 : Int32)) (8 : Int32))) (16 : Int32)) rfl ?_
  refine jr_iadd K (D_at DJ6_bitCount_0f7a4 36 rfl) ?_
  refine jr_istore_n K (D_at DJ6_bitCount_0f7a4 37 rfl) (i := 0) rfl (by decide) (L2 := [_]) rfl ?_
  refine jr_iload_n K (D_at DJ6_bitCount_0f7a4 38 rfl) rfl rfl ?_
  refine jr_bipush K (D_at DJ6_bitCount_0f7a4 39 rfl) (v := (63 : Int32)) (by decide) ?_
  refine jr_iand K (D_at DJ6_bitCount_0f7a4 40 rfl) ?_
  cases hf
  exact jr_iret K E (D_at DJ6_bitCount_0f7a4 41 rfl) rfl ⟨rfl, rfl⟩
theorem C_J6_bitCount_0f7a4 {G : jG} {l : Launch} (d : Nat) {n : Nat} {x0 : Int32} {h : jH} {res : Int32} (hf : F_J6_bitCount_0f7a4 n x0 h = some res) : jC G l mJ6_bitCount_0f7a4 (d) 0 0 [.int x0] h (jPR h res) :=
  jC.ofF (by decide +kernel) (jcats rfl) (Nat.le_of_ble_eq_true rfl) (fun X K E => J_J6_bitCount_0f7a4 K n h E x0 hf)
set_option maxHeartbeats 400000 in
set_option maxRecDepth 100000 in
theorem J_X6_outOfOrder_4_b {G : jG} {l : Launch} {d : Nat} {X : jX} {res : Int32} (K : jOK G l mX6_outOfOrder (d + 2) X) (n : Nat) (h : jH) (rc4 : Nat → Int32 → Int32 → jH → Option Int32) (hr4 : ∀ (a0 : Nat) (x1 : Int32) (x2 : Int32), rc4 a0 x1 x2 h = some res → jJ G X h 0 0 4 [some (.ref a0), some (.int x1), some (.int x2)] []) (E : jEnd G mX6_outOfOrder (jPR h res) X) (a0 : Nat) (x1 : Int32) (x2 : Int32) (hf : F_X6_outOfOrder_4_b n rc4 a0 x1 x2 h = some res) : jJ G X h 0 0 4 [some (.ref a0), some (.int x1), some (.int x2)] [] := by
  unfold F_X6_outOfOrder_4_b at hf
  refine jr_iload_n K (D_at DX6_outOfOrder 4 rfl) rfl rfl ?_
  refine jr_iconst K (D_at DX6_outOfOrder 5 rfl) (v := (1 : Int32)) (by decide) ?_
  refine jr_aload_n K (D_at DX6_outOfOrder 6 rfl) rfl rfl ?_
  obtain ⟨v7, e7, hf⟩ := jbind hf
  refine jr_getI K (D_at DX6_outOfOrder 7 rfl) fg_X6_19_6 e7 ?_
  refine jr_ishl K (D_at DX6_outOfOrder 8 rfl) ?_
  refine jr_icmp_ge K (D_at DX6_outOfOrder 9 rfl) (tgt := 37) (by decide) (fun c11 => ?_) (fun c11 => ?_)
  · replace hf := (if_pos c11).symm.trans hf
    refine jr_aload_n K (D_at DX6_outOfOrder 21 rfl) rfl rfl ?_
    obtain ⟨v38, e38, hf⟩ := jbind hf
    refine jr_getI K (D_at DX6_outOfOrder 22 rfl) fg_X6_19_6 e38 ?_
    refine jr_iload_n K (D_at DX6_outOfOrder 23 rfl) rfl rfl ?_
    refine jr_isub K (D_at DX6_outOfOrder 24 rfl) ?_
    cases hf
    exact jr_iret K E (D_at DX6_outOfOrder 25 rfl) rfl ⟨rfl, rfl⟩
  · replace hf := (if_neg c11).symm.trans hf
    refine jr_aload_n K (D_at DX6_outOfOrder 10 rfl) rfl rfl ?_
    refine jr_iload_n K (D_at DX6_outOfOrder 11 rfl) rfl rfl ?_
    obtain ⟨v16, e16, hf⟩ := jbind hf
    refine jr_callS K (C_X6_isInOrder (d) e16) (D_at DX6_outOfOrder 12 rfl) cs_X6_39_X6_isInOrder (As := [.ref a0, .int x2]) rfl rfl (by exact Nat.le_of_ble_eq_true rfl) (kc2 := 0) (ks2 := 0) rfl rfl (fun k9 h9 w9 => by cases w9.1) (fun r9 h9 w9 => ?_)
    obtain ⟨w1, w2⟩ := w9
    subst h9
    cases w1
    show jJ G X _ 0 0 _ _ (.int v16 :: _)
    refine jr_if_eq K (D_at DX6_outOfOrder 13 rfl) (tgt := 31) (by decide) (fun c19 => ?_) (fun c19 => ?_)
    · replace hf := (if_pos c19).symm.trans hf
      refine jr_iinc K (D_at DX6_outOfOrder 19 rfl) (i := 2) rfl (v := x2 + (1 : Int32)) (jinc (by decide)) (by decide) (L2 := [_, _, _]) rfl ?_
      refine jr_goto K (D_at DX6_outOfOrder 20 rfl) (tgt := 4) (by decide) ?_
      refine jr_keep [true, true, true] ?_
      exact hr4 a0 x1 (x2 + (1 : Int32)) hf
    · replace hf := (if_neg c19).symm.trans hf
      refine jr_iload_n K (D_at DX6_outOfOrder 14 rfl) rfl rfl ?_
      refine jr_iload_n K (D_at DX6_outOfOrder 15 rfl) rfl rfl ?_
      obtain ⟨v24, e24, hf⟩ := jbind hf
      refine jr_callS K (C_J6_bitCount_0f7a4 (d + 1) e24) (D_at DX6_outOfOrder 16 rfl) cs_X6_45_J6_bitCount_0f7a4 (As := [.int x2]) rfl rfl (by exact Nat.le_of_ble_eq_true rfl) (kc2 := 0) (ks2 := 0) rfl rfl (fun k9 h9 w9 => by cases w9.1) (fun r9 h9 w9 => ?_)
      obtain ⟨w1, w2⟩ := w9
      subst h9
      cases w1
      show jJ G X _ 0 0 _ _ (.int v24 :: _)
      refine jr_max K (D_at DX6_outOfOrder 17 rfl) mm_X6_50 (by exact Nat.le_of_ble_eq_true rfl) ?_
      refine jr_istore_n K (D_at DX6_outOfOrder 18 rfl) (i := 1) rfl (by decide) (L2 := [_, _, _]) rfl ?_
      refine jr_iinc K (D_at DX6_outOfOrder 19 rfl) (i := 2) rfl (v := x2 + (1 : Int32)) (jinc (by decide)) (by decide) (L2 := [_, _, _]) rfl ?_
      refine jr_goto K (D_at DX6_outOfOrder 20 rfl) (tgt := 4) (by decide) ?_
      refine jr_keep [true, true, true] ?_
      exact hr4 a0 (if x1 < v24 then v24 else x1) (x2 + (1 : Int32)) hf
theorem J_X6_outOfOrder_4 {G : jG} {l : Launch} {d : Nat} {X : jX} {res : Int32} (K : jOK G l mX6_outOfOrder (d + 2) X) (n : Nat) (h : jH) (E : jEnd G mX6_outOfOrder (jPR h res) X) (k : Nat) : ∀ (a0 : Nat) (x1 : Int32) (x2 : Int32), F_X6_outOfOrder_4 n k a0 x1 x2 h = some res → jJ G X h 0 0 4 [some (.ref a0), some (.int x1), some (.int x2)] [] := by
  induction k with
  | zero =>
    intro a0 x1 x2 hf
    exact jno (show (none : Option Int32) = some res from hf)
  | succ k ih =>
    intro a0 x1 x2 hf
    exact J_X6_outOfOrder_4_b K n h (F_X6_outOfOrder_4 n k) ih E a0 x1 x2 hf
set_option maxHeartbeats 400000 in
set_option maxRecDepth 100000 in
theorem J_X6_outOfOrder {G : jG} {l : Launch} {d : Nat} {X : jX} {res : Int32} (K : jOK G l mX6_outOfOrder (d + 2) X) (n : Nat) (h : jH) (E : jEnd G mX6_outOfOrder (jPR h res) X) (a0 : Nat) (hf : F_X6_outOfOrder n a0 h = some res) : jJ G X h 0 0 0 [some (.ref a0), none, none] [] := by
  unfold F_X6_outOfOrder at hf
  refine jr_iconst K (D_at DX6_outOfOrder 0 rfl) (v := (0 : Int32)) (by decide) ?_
  refine jr_istore_n K (D_at DX6_outOfOrder 1 rfl) (i := 1) rfl (by decide) (L2 := [_, _, _]) rfl ?_
  refine jr_iconst K (D_at DX6_outOfOrder 2 rfl) (v := (0 : Int32)) (by decide) ?_
  refine jr_istore_n K (D_at DX6_outOfOrder 3 rfl) (i := 2) rfl (by decide) (L2 := [_, _, _]) rfl ?_
  refine jr_keep [true, true, true] ?_
  exact J_X6_outOfOrder_4 K n h E n a0 (0 : Int32) (0 : Int32) hf
theorem C_X6_outOfOrder {G : jG} {l : Launch} (d : Nat) {n : Nat} {a0 : Nat} {h : jH} {res : Int32} (hf : F_X6_outOfOrder n a0 h = some res) : jC G l mX6_outOfOrder (d + 2) 0 0 [.ref a0] h (jPR h res) :=
  jC.of (by decide +kernel) (jcats rfl) (Nat.le_of_ble_eq_true rfl) (fun X K E => J_X6_outOfOrder K n h E a0 hf)
set_option maxHeartbeats 400000 in
set_option maxRecDepth 100000 in
theorem J_X6_tightest_8_b {G : jG} {l : Launch} {d : Nat} {X : jX} {res : Int32} (K : jOK G l mX6_tightest (d) X) (n : Nat) (h : jH) (rc8 : Nat → Int32 → Int32 → Int32 → Int32 → jH → Option Int32) (hr8 : ∀ (a0 : Nat) (x1 : Int32) (x2 : Int32) (x3 : Int32) (x4 : Int32), rc8 a0 x1 x2 x3 x4 h = some res → jJ G X h 0 0 8 [some (.ref a0), some (.int x1), some (.int x2), some (.int x3), some (.int x4), none] []) (E : jEnd G mX6_tightest (jPR h res) X) (a0 : Nat) (x1 : Int32) (x2 : Int32) (x3 : Int32) (x4 : Int32) (hf : F_X6_tightest_8_b n rc8 a0 x1 x2 x3 x4 h = some res) : jJ G X h 0 0 8 [some (.ref a0), some (.int x1), some (.int x2), some (.int x3), some (.int x4), none] [] := by
  unfold F_X6_tightest_8_b at hf
  refine jr_iload K (D_at DX6_tightest 6 rfl) rfl ?_
  refine jr_iload_n K (D_at DX6_tightest 7 rfl) rfl rfl ?_
  refine jr_iadd K (D_at DX6_tightest 8 rfl) ?_
  refine jr_aload_n K (D_at DX6_tightest 9 rfl) rfl rfl ?_
  obtain ⟨v13, e13, hf⟩ := jbind hf
  refine jr_getI K (D_at DX6_tightest 10 rfl) fg_X6_19_6 e13 ?_
  refine jr_icmp_gt K (D_at DX6_tightest 11 rfl) (tgt := 58) (by decide) (fun c16 => ?_) (fun c16 => ?_)
  · replace hf := (if_pos c16).symm.trans hf
    refine jr_iload_n K (D_at DX6_tightest 35 rfl) rfl rfl ?_
    cases hf
    exact jr_iret K E (D_at DX6_tightest 36 rfl) rfl ⟨rfl, rfl⟩
  · replace hf := (if_neg c16).symm.trans hf
    refine jr_aload_n K (D_at DX6_tightest 12 rfl) rfl rfl ?_
    obtain ⟨p20, e20, hf⟩ := jbind hf
    refine jr_getR K (D_at DX6_tightest 13 rfl) fg_X6_22_6 e20 ?_
    refine jr_iload K (D_at DX6_tightest 14 rfl) rfl ?_
    refine jr_iload_n K (D_at DX6_tightest 15 rfl) rfl rfl ?_
    refine jr_iadd K (D_at DX6_tightest 16 rfl) ?_
    refine jr_iconst K (D_at DX6_tightest 17 rfl) (v := (1 : Int32)) (by decide) ?_
    refine jr_isub K (D_at DX6_tightest 18 rfl) ?_
    obtain ⟨v29, e29, hf⟩ := jbind hf
    refine jr_iald K (D_at DX6_tightest 19 rfl) e29 ?_
    refine jr_aload_n K (D_at DX6_tightest 20 rfl) rfl rfl ?_
    obtain ⟨p31, e31, hf⟩ := jbind hf
    refine jr_getR K (D_at DX6_tightest 21 rfl) fg_X6_22_6 e31 ?_
    refine jr_iload K (D_at DX6_tightest 22 rfl) rfl ?_
    obtain ⟨v36, e36, hf⟩ := jbind hf
    refine jr_iald K (D_at DX6_tightest 23 rfl) e36 ?_
    refine jr_isub K (D_at DX6_tightest 24 rfl) ?_
    refine jr_istore K (D_at DX6_tightest 25 rfl) (i := 5) (by decide) (L2 := [_, _, _, _, _, _]) rfl ?_
    refine jr_iload K (D_at DX6_tightest 26 rfl) rfl ?_
    refine jr_iload_n K (D_at DX6_tightest 27 rfl) rfl rfl ?_
    refine jr_icmp_ge K (D_at DX6_tightest 28 rfl) (tgt := 52) (by decide) (fun c43 => ?_) (fun c43 => ?_)
    · replace hf := (if_pos c43).symm.trans hf
      refine jr_iinc K (D_at DX6_tightest 33 rfl) (i := 4) rfl (v := x4 + (1 : Int32)) (jinc (by decide)) (by decide) (L2 := [_, _, _, _, _, _]) rfl ?_
      refine jr_goto K (D_at DX6_tightest 34 rfl) (tgt := 8) (by decide) ?_
      refine jr_keep [true, true, true, true, true, false] ?_
      exact hr8 a0 x1 x2 x3 (x4 + (1 : Int32)) hf
    · replace hf := (if_neg c43).symm.trans hf
      refine jr_iload K (D_at DX6_tightest 29 rfl) rfl ?_
      refine jr_istore_n K (D_at DX6_tightest 30 rfl) (i := 3) rfl (by decide) (L2 := [_, _, _, _, _, _]) rfl ?_
      refine jr_iload K (D_at DX6_tightest 31 rfl) rfl ?_
      refine jr_istore_n K (D_at DX6_tightest 32 rfl) (i := 2) rfl (by decide) (L2 := [_, _, _, _, _, _]) rfl ?_
      refine jr_iinc K (D_at DX6_tightest 33 rfl) (i := 4) rfl (v := x4 + (1 : Int32)) (jinc (by decide)) (by decide) (L2 := [_, _, _, _, _, _]) rfl ?_
      refine jr_goto K (D_at DX6_tightest 34 rfl) (tgt := 8) (by decide) ?_
      refine jr_keep [true, true, true, true, true, false] ?_
      exact hr8 a0 x1 x4 (v29 - v36) (x4 + (1 : Int32)) hf
theorem J_X6_tightest_8 {G : jG} {l : Launch} {d : Nat} {X : jX} {res : Int32} (K : jOK G l mX6_tightest (d) X) (n : Nat) (h : jH) (E : jEnd G mX6_tightest (jPR h res) X) (k : Nat) : ∀ (a0 : Nat) (x1 : Int32) (x2 : Int32) (x3 : Int32) (x4 : Int32), F_X6_tightest_8 n k a0 x1 x2 x3 x4 h = some res → jJ G X h 0 0 8 [some (.ref a0), some (.int x1), some (.int x2), some (.int x3), some (.int x4), none] [] := by
  induction k with
  | zero =>
    intro a0 x1 x2 x3 x4 hf
    exact jno (show (none : Option Int32) = some res from hf)
  | succ k ih =>
    intro a0 x1 x2 x3 x4 hf
    exact J_X6_tightest_8_b K n h (F_X6_tightest_8 n k) ih E a0 x1 x2 x3 x4 hf
set_option maxHeartbeats 400000 in
set_option maxRecDepth 100000 in
theorem J_X6_tightest {G : jG} {l : Launch} {d : Nat} {X : jX} {res : Int32} (K : jOK G l mX6_tightest (d) X) (n : Nat) (h : jH) (E : jEnd G mX6_tightest (jPR h res) X) (a0 : Nat) (x1 : Int32) (hf : F_X6_tightest n a0 x1 h = some res) : jJ G X h 0 0 0 [some (.ref a0), some (.int x1), none, none, none, none] [] := by
  unfold F_X6_tightest at hf
  refine jr_iconst K (D_at DX6_tightest 0 rfl) (v := (-1 : Int32)) (by decide) ?_
  refine jr_istore_n K (D_at DX6_tightest 1 rfl) (i := 2) rfl (by decide) (L2 := [_, _, _, _, _, _]) rfl ?_
  refine jr_bipush K (D_at DX6_tightest 2 rfl) (v := (32 : Int32)) (by decide) ?_
  refine jr_istore_n K (D_at DX6_tightest 3 rfl) (i := 3) rfl (by decide) (L2 := [_, _, _, _, _, _]) rfl ?_
  refine jr_iconst K (D_at DX6_tightest 4 rfl) (v := (0 : Int32)) (by decide) ?_
  refine jr_istore K (D_at DX6_tightest 5 rfl) (i := 4) (by decide) (L2 := [_, _, _, _, _, _]) rfl ?_
  refine jr_keep [true, true, true, true, true, false] ?_
  exact J_X6_tightest_8 K n h E n a0 x1 (-1 : Int32) (32 : Int32) (0 : Int32) hf
theorem C_X6_tightest {G : jG} {l : Launch} (d : Nat) {n : Nat} {a0 : Nat} {x1 : Int32} {h : jH} {res : Int32} (hf : F_X6_tightest n a0 x1 h = some res) : jC G l mX6_tightest (d) 0 0 [.ref a0, .int x1] h (jPR h res) :=
  jC.of (by decide +kernel) (jcats rfl) (Nat.le_of_ble_eq_true rfl) (fun X K E => J_X6_tightest K n h E a0 x1 hf)
set_option maxHeartbeats 400000 in
set_option maxRecDepth 100000 in
theorem J_X6_spareCloth_4_b {G : jG} {l : Launch} {d : Nat} {X : jX} {res : Int32} (K : jOK G l mX6_spareCloth (d + 1) X) (n : Nat) (h : jH) (rc4 : Nat → Int32 → Int32 → jH → Option Int32) (hr4 : ∀ (a0 : Nat) (x1 : Int32) (x2 : Int32), rc4 a0 x1 x2 h = some res → jJ G X h 0 0 4 [some (.ref a0), some (.int x1), some (.int x2)] []) (E : jEnd G mX6_spareCloth (jPR h res) X) (a0 : Nat) (x1 : Int32) (x2 : Int32) (hf : F_X6_spareCloth_4_b n rc4 a0 x1 x2 h = some res) : jJ G X h 0 0 4 [some (.ref a0), some (.int x1), some (.int x2)] [] := by
  unfold F_X6_spareCloth_4_b at hf
  refine jr_iload_n K (D_at DX6_spareCloth 4 rfl) rfl rfl ?_
  refine jr_iconst K (D_at DX6_spareCloth 5 rfl) (v := (1 : Int32)) (by decide) ?_
  refine jr_iadd K (D_at DX6_spareCloth 6 rfl) ?_
  refine jr_aload_n K (D_at DX6_spareCloth 7 rfl) rfl rfl ?_
  obtain ⟨v8, e8, hf⟩ := jbind hf
  refine jr_getI K (D_at DX6_spareCloth 8 rfl) fg_X6_19_6 e8 ?_
  refine jr_icmp_ge K (D_at DX6_spareCloth 9 rfl) (tgt := 36) (by decide) (fun c11 => ?_) (fun c11 => ?_)
  · replace hf := (if_pos c11).symm.trans hf
    refine jr_iload_n K (D_at DX6_spareCloth 24 rfl) rfl rfl ?_
    cases hf
    exact jr_iret K E (D_at DX6_spareCloth 25 rfl) rfl ⟨rfl, rfl⟩
  · replace hf := (if_neg c11).symm.trans hf
    refine jr_iload_n K (D_at DX6_spareCloth 10 rfl) rfl rfl ?_
    refine jr_aload_n K (D_at DX6_spareCloth 11 rfl) rfl rfl ?_
    obtain ⟨p16, e16, hf⟩ := jbind hf
    refine jr_getR K (D_at DX6_spareCloth 12 rfl) fg_X6_53_6 e16 ?_
    refine jr_iload_n K (D_at DX6_spareCloth 13 rfl) rfl rfl ?_
    obtain ⟨v20, e20, hf⟩ := jbind hf
    refine jr_iald K (D_at DX6_spareCloth 14 rfl) e20 ?_
    refine jr_aload_n K (D_at DX6_spareCloth 15 rfl) rfl rfl ?_
    refine jr_iload_n K (D_at DX6_spareCloth 16 rfl) rfl rfl ?_
    refine jr_iconst K (D_at DX6_spareCloth 17 rfl) (v := (0 : Int32)) (by decide) ?_
    obtain ⟨v24, e24, hf⟩ := jbind hf
    obtain ⟨rc_24, e24⟩ := jcv_o e24
    refine jr_callV K (C_X8_gap (d) e24) (D_at DX6_spareCloth 18 rfl) cv_X6_56_X8_gap (As := [.int x2, .int (0 : Int32)]) (ci := 6) rfl rc_24 rfl rfl (by exact Nat.le_of_ble_eq_true rfl) (kc2 := 0) (ks2 := 0) rfl rfl (fun k9 h9 w9 => by cases w9.1) (fun r9 h9 w9 => ?_)
    obtain ⟨w1, w2⟩ := w9
    subst h9
    cases w1
    show jJ G X _ 0 0 _ _ (.int v24 :: _)
    refine jr_isub K (D_at DX6_spareCloth 19 rfl) ?_
    refine jr_iadd K (D_at DX6_spareCloth 20 rfl) ?_
    refine jr_istore_n K (D_at DX6_spareCloth 21 rfl) (i := 1) rfl (by decide) (L2 := [_, _, _]) rfl ?_
    refine jr_iinc K (D_at DX6_spareCloth 22 rfl) (i := 2) rfl (v := x2 + (1 : Int32)) (jinc (by decide)) (by decide) (L2 := [_, _, _]) rfl ?_
    refine jr_goto K (D_at DX6_spareCloth 23 rfl) (tgt := 4) (by decide) ?_
    refine jr_keep [true, true, true] ?_
    exact hr4 a0 (x1 + (v20 - v24)) (x2 + (1 : Int32)) hf
theorem J_X6_spareCloth_4 {G : jG} {l : Launch} {d : Nat} {X : jX} {res : Int32} (K : jOK G l mX6_spareCloth (d + 1) X) (n : Nat) (h : jH) (E : jEnd G mX6_spareCloth (jPR h res) X) (k : Nat) : ∀ (a0 : Nat) (x1 : Int32) (x2 : Int32), F_X6_spareCloth_4 n k a0 x1 x2 h = some res → jJ G X h 0 0 4 [some (.ref a0), some (.int x1), some (.int x2)] [] := by
  induction k with
  | zero =>
    intro a0 x1 x2 hf
    exact jno (show (none : Option Int32) = some res from hf)
  | succ k ih =>
    intro a0 x1 x2 hf
    exact J_X6_spareCloth_4_b K n h (F_X6_spareCloth_4 n k) ih E a0 x1 x2 hf
set_option maxHeartbeats 400000 in
set_option maxRecDepth 100000 in
theorem J_X6_spareCloth {G : jG} {l : Launch} {d : Nat} {X : jX} {res : Int32} (K : jOK G l mX6_spareCloth (d + 1) X) (n : Nat) (h : jH) (E : jEnd G mX6_spareCloth (jPR h res) X) (a0 : Nat) (hf : F_X6_spareCloth n a0 h = some res) : jJ G X h 0 0 0 [some (.ref a0), none, none] [] := by
  unfold F_X6_spareCloth at hf
  refine jr_iconst K (D_at DX6_spareCloth 0 rfl) (v := (0 : Int32)) (by decide) ?_
  refine jr_istore_n K (D_at DX6_spareCloth 1 rfl) (i := 1) rfl (by decide) (L2 := [_, _, _]) rfl ?_
  refine jr_iconst K (D_at DX6_spareCloth 2 rfl) (v := (0 : Int32)) (by decide) ?_
  refine jr_istore_n K (D_at DX6_spareCloth 3 rfl) (i := 2) rfl (by decide) (L2 := [_, _, _]) rfl ?_
  refine jr_keep [true, true, true] ?_
  exact J_X6_spareCloth_4 K n h E n a0 (0 : Int32) (0 : Int32) hf
theorem C_X6_spareCloth {G : jG} {l : Launch} (d : Nat) {n : Nat} {a0 : Nat} {h : jH} {res : Int32} (hf : F_X6_spareCloth n a0 h = some res) : jC G l mX6_spareCloth (d + 1) 0 0 [.ref a0] h (jPR h res) :=
  jC.of (by decide +kernel) (jcats rfl) (Nat.le_of_ble_eq_true rfl) (fun X K E => J_X6_spareCloth K n h E a0 hf)
set_option maxHeartbeats 400000 in
set_option maxRecDepth 100000 in
theorem J_X6_tautRings_36 {G : jG} {l : Launch} {d : Nat} {X : jX} {res : Int32} (K : jOK G l mX6_tautRings (d + 1) X) (n : Nat) (h : jH) (rc4 : Nat → Int32 → Int32 → jH → Option Int32) (hr4 : ∀ (a0 : Nat) (x1 : Int32) (x2 : Int32), rc4 a0 x1 x2 h = some res → jJ G X h 0 0 4 [some (.ref a0), some (.int x1), some (.int x2)] []) (E : jEnd G mX6_tautRings (jPR h res) X) (a0 : Nat) (x2 : Int32) (s0 : Int32) (s1 : Int32) (s2 : Int32) (hf : F_X6_tautRings_36 n rc4 a0 x2 s0 s1 s2 h = some res) : jJ G X h 0 0 36 [some (.ref a0), none, some (.int x2)] [.int s2, .int s1, .int s0] := by
  unfold F_X6_tautRings_36 at hf
  obtain ⟨v36, e36, hf⟩ := jbind hf
  refine jr_callSN K (C_X11_withBit (d) e36) (D_at DX6_tautRings 24 rfl) csn_X6_59_X11_withBit (As := [.int s0, .int s1, .int s2]) rfl rfl (by exact Nat.le_of_ble_eq_true rfl) (kc2 := 0) (ks2 := 0) rfl rfl (fun k9 h9 w9 => by cases w9.1) (fun r9 h9 w9 => ?_)
  obtain ⟨w1, w2⟩ := w9
  subst h9
  cases w1
  show jJ G X _ 0 0 _ _ (.int v36 :: _)
  refine jr_istore_n K (D_at DX6_tautRings 25 rfl) (i := 1) rfl (by decide) (L2 := [_, _, _]) rfl ?_
  refine jr_iinc K (D_at DX6_tautRings 26 rfl) (i := 2) rfl (v := x2 + (1 : Int32)) (jinc (by decide)) (by decide) (L2 := [_, _, _]) rfl ?_
  refine jr_goto K (D_at DX6_tautRings 27 rfl) (tgt := 4) (by decide) ?_
  refine jr_keep [true, true, true] ?_
  exact hr4 a0 v36 (x2 + (1 : Int32)) hf
set_option maxHeartbeats 400000 in
set_option maxRecDepth 100000 in
theorem J_X6_tautRings_4_b {G : jG} {l : Launch} {d : Nat} {X : jX} {res : Int32} (K : jOK G l mX6_tautRings (d + 1) X) (n : Nat) (h : jH) (rc4 : Nat → Int32 → Int32 → jH → Option Int32) (hr4 : ∀ (a0 : Nat) (x1 : Int32) (x2 : Int32), rc4 a0 x1 x2 h = some res → jJ G X h 0 0 4 [some (.ref a0), some (.int x1), some (.int x2)] []) (E : jEnd G mX6_tautRings (jPR h res) X) (a0 : Nat) (x1 : Int32) (x2 : Int32) (hf : F_X6_tautRings_4_b n rc4 a0 x1 x2 h = some res) : jJ G X h 0 0 4 [some (.ref a0), some (.int x1), some (.int x2)] [] := by
  unfold F_X6_tautRings_4_b at hf
  refine jr_iload_n K (D_at DX6_tautRings 4 rfl) rfl rfl ?_
  refine jr_iconst K (D_at DX6_tautRings 5 rfl) (v := (1 : Int32)) (by decide) ?_
  refine jr_iadd K (D_at DX6_tautRings 6 rfl) ?_
  refine jr_aload_n K (D_at DX6_tautRings 7 rfl) rfl rfl ?_
  obtain ⟨v8, e8, hf⟩ := jbind hf
  refine jr_getI K (D_at DX6_tautRings 8 rfl) fg_X6_19_6 e8 ?_
  refine jr_icmp_ge K (D_at DX6_tautRings 9 rfl) (tgt := 46) (by decide) (fun c11 => ?_) (fun c11 => ?_)
  · replace hf := (if_pos c11).symm.trans hf
    refine jr_iload_n K (D_at DX6_tautRings 28 rfl) rfl rfl ?_
    cases hf
    exact jr_iret K E (D_at DX6_tautRings 29 rfl) rfl ⟨rfl, rfl⟩
  · replace hf := (if_neg c11).symm.trans hf
    refine jr_iload_n K (D_at DX6_tautRings 10 rfl) rfl rfl ?_
    refine jr_iload_n K (D_at DX6_tautRings 11 rfl) rfl rfl ?_
    refine jr_aload_n K (D_at DX6_tautRings 12 rfl) rfl rfl ?_
    refine jr_iload_n K (D_at DX6_tautRings 13 rfl) rfl rfl ?_
    refine jr_iconst K (D_at DX6_tautRings 14 rfl) (v := (0 : Int32)) (by decide) ?_
    obtain ⟨v19, e19, hf⟩ := jbind hf
    obtain ⟨rc_19, e19⟩ := jcv_o e19
    refine jr_callV K (C_X8_gap (d) e19) (D_at DX6_tautRings 15 rfl) cv_X6_56_X8_gap (As := [.int x2, .int (0 : Int32)]) (ci := 6) rfl rc_19 rfl rfl (by exact Nat.le_of_ble_eq_true rfl) (kc2 := 0) (ks2 := 0) rfl rfl (fun k9 h9 w9 => by cases w9.1) (fun r9 h9 w9 => ?_)
    obtain ⟨w1, w2⟩ := w9
    subst h9
    cases w1
    show jJ G X _ 0 0 _ _ (.int v19 :: _)
    refine jr_aload_n K (D_at DX6_tautRings 16 rfl) rfl rfl ?_
    obtain ⟨p23, e23, hf⟩ := jbind hf
    refine jr_getR K (D_at DX6_tautRings 17 rfl) fg_X6_53_6 e23 ?_
    refine jr_iload_n K (D_at DX6_tautRings 18 rfl) rfl rfl ?_
    obtain ⟨v27, e27, hf⟩ := jbind hf
    refine jr_iald K (D_at DX6_tautRings 19 rfl) e27 ?_
    refine jr_icmp_ne K (D_at DX6_tautRings 20 rfl) (tgt := 35) (by decide) (fun c28 => ?_) (fun c28 => ?_)
    · replace hf := (if_neg c28).symm.trans hf
      refine jr_iconst K (D_at DX6_tautRings 23 rfl) (v := (0 : Int32)) (by decide) ?_
      refine jr_keep [true, false, true] ?_
      exact J_X6_tautRings_36 K n h rc4 hr4 E a0 x2 x1 x2 (0 : Int32) hf
    · replace hf := (if_pos c28).symm.trans hf
      refine jr_iconst K (D_at DX6_tautRings 21 rfl) (v := (1 : Int32)) (by decide) ?_
      refine jr_goto K (D_at DX6_tautRings 22 rfl) (tgt := 36) (by decide) ?_
      refine jr_keep [true, false, true] ?_
      exact J_X6_tautRings_36 K n h rc4 hr4 E a0 x2 x1 x2 (1 : Int32) hf
theorem J_X6_tautRings_4 {G : jG} {l : Launch} {d : Nat} {X : jX} {res : Int32} (K : jOK G l mX6_tautRings (d + 1) X) (n : Nat) (h : jH) (E : jEnd G mX6_tautRings (jPR h res) X) (k : Nat) : ∀ (a0 : Nat) (x1 : Int32) (x2 : Int32), F_X6_tautRings_4 n k a0 x1 x2 h = some res → jJ G X h 0 0 4 [some (.ref a0), some (.int x1), some (.int x2)] [] := by
  induction k with
  | zero =>
    intro a0 x1 x2 hf
    exact jno (show (none : Option Int32) = some res from hf)
  | succ k ih =>
    intro a0 x1 x2 hf
    exact J_X6_tautRings_4_b K n h (F_X6_tautRings_4 n k) ih E a0 x1 x2 hf
set_option maxHeartbeats 400000 in
set_option maxRecDepth 100000 in
theorem J_X6_tautRings {G : jG} {l : Launch} {d : Nat} {X : jX} {res : Int32} (K : jOK G l mX6_tautRings (d + 1) X) (n : Nat) (h : jH) (E : jEnd G mX6_tautRings (jPR h res) X) (a0 : Nat) (hf : F_X6_tautRings n a0 h = some res) : jJ G X h 0 0 0 [some (.ref a0), none, none] [] := by
  unfold F_X6_tautRings at hf
  refine jr_iconst K (D_at DX6_tautRings 0 rfl) (v := (0 : Int32)) (by decide) ?_
  refine jr_istore_n K (D_at DX6_tautRings 1 rfl) (i := 1) rfl (by decide) (L2 := [_, _, _]) rfl ?_
  refine jr_iconst K (D_at DX6_tautRings 2 rfl) (v := (0 : Int32)) (by decide) ?_
  refine jr_istore_n K (D_at DX6_tautRings 3 rfl) (i := 2) rfl (by decide) (L2 := [_, _, _]) rfl ?_
  refine jr_keep [true, true, true] ?_
  exact J_X6_tautRings_4 K n h E n a0 (0 : Int32) (0 : Int32) hf
theorem C_X6_tautRings {G : jG} {l : Launch} (d : Nat) {n : Nat} {a0 : Nat} {h : jH} {res : Int32} (hf : F_X6_tautRings n a0 h = some res) : jC G l mX6_tautRings (d + 1) 0 0 [.ref a0] h (jPR h res) :=
  jC.of (by decide +kernel) (jcats rfl) (Nat.le_of_ble_eq_true rfl) (fun X K E => J_X6_tautRings K n h E a0 hf)
set_option maxHeartbeats 400000 in
set_option maxRecDepth 100000 in
theorem J_X6_litRings_4_b {G : jG} {l : Launch} {d : Nat} {X : jX} {res : Int32} (K : jOK G l mX6_litRings (d + 1) X) (n : Nat) (h : jH) (rc4 : Nat → Int32 → Int32 → Int32 → jH → Option Int32) (hr4 : ∀ (a0 : Nat) (x1 : Int32) (x2 : Int32) (x3 : Int32), rc4 a0 x1 x2 x3 h = some res → jJ G X h 0 0 4 [some (.ref a0), some (.int x1), some (.int x2), some (.int x3)] []) (E : jEnd G mX6_litRings (jPR h res) X) (a0 : Nat) (x1 : Int32) (x2 : Int32) (x3 : Int32) (hf : F_X6_litRings_4_b n rc4 a0 x1 x2 x3 h = some res) : jJ G X h 0 0 4 [some (.ref a0), some (.int x1), some (.int x2), some (.int x3)] [] := by
  unfold F_X6_litRings_4_b at hf
  refine jr_iload_n K (D_at DX6_litRings 4 rfl) rfl rfl ?_
  refine jr_aload_n K (D_at DX6_litRings 5 rfl) rfl rfl ?_
  obtain ⟨v6, e6, hf⟩ := jbind hf
  refine jr_getI K (D_at DX6_litRings 6 rfl) fg_X6_19_6 e6 ?_
  refine jr_icmp_ge K (D_at DX6_litRings 7 rfl) (tgt := 30) (by decide) (fun c9 => ?_) (fun c9 => ?_)
  · replace hf := (if_pos c9).symm.trans hf
    refine jr_iload_n K (D_at DX6_litRings 18 rfl) rfl rfl ?_
    cases hf
    exact jr_iret K E (D_at DX6_litRings 19 rfl) rfl ⟨rfl, rfl⟩
  · replace hf := (if_neg c9).symm.trans hf
    refine jr_iload_n K (D_at DX6_litRings 8 rfl) rfl rfl ?_
    refine jr_iload_n K (D_at DX6_litRings 9 rfl) rfl rfl ?_
    refine jr_aload_n K (D_at DX6_litRings 10 rfl) rfl rfl ?_
    refine jr_iload_n K (D_at DX6_litRings 11 rfl) rfl rfl ?_
    refine jr_iload_n K (D_at DX6_litRings 12 rfl) rfl rfl ?_
    obtain ⟨v17, e17, hf⟩ := jbind hf
    obtain ⟨rc_17, e17⟩ := jcv_o e17
    refine jr_callV K (C_X8_isLit (d) e17) (D_at DX6_litRings 13 rfl) cv_X6_63_X8_isLit (As := [.int x3, .int x1]) (ci := 6) rfl rc_17 rfl rfl (by exact Nat.le_of_ble_eq_true rfl) (kc2 := 0) (ks2 := 0) rfl rfl (fun k9 h9 w9 => by cases w9.1) (fun r9 h9 w9 => ?_)
    obtain ⟨w1, w2⟩ := w9
    subst h9
    cases w1
    show jJ G X _ 0 0 _ _ (.int v17 :: _)
    obtain ⟨v20, e20, hf⟩ := jbind hf
    refine jr_callSN K (C_X11_withBit (d) e20) (D_at DX6_litRings 14 rfl) csn_X6_59_X11_withBit (As := [.int x2, .int x3, .int v17]) rfl rfl (by exact Nat.le_of_ble_eq_true rfl) (kc2 := 0) (ks2 := 0) rfl rfl (fun k9 h9 w9 => by cases w9.1) (fun r9 h9 w9 => ?_)
    obtain ⟨w1, w2⟩ := w9
    subst h9
    cases w1
    show jJ G X _ 0 0 _ _ (.int v20 :: _)
    refine jr_istore_n K (D_at DX6_litRings 15 rfl) (i := 2) rfl (by decide) (L2 := [_, _, _, _]) rfl ?_
    refine jr_iinc K (D_at DX6_litRings 16 rfl) (i := 3) rfl (v := x3 + (1 : Int32)) (jinc (by decide)) (by decide) (L2 := [_, _, _, _]) rfl ?_
    refine jr_goto K (D_at DX6_litRings 17 rfl) (tgt := 4) (by decide) ?_
    refine jr_keep [true, true, true, true] ?_
    exact hr4 a0 x1 v20 (x3 + (1 : Int32)) hf
theorem J_X6_litRings_4 {G : jG} {l : Launch} {d : Nat} {X : jX} {res : Int32} (K : jOK G l mX6_litRings (d + 1) X) (n : Nat) (h : jH) (E : jEnd G mX6_litRings (jPR h res) X) (k : Nat) : ∀ (a0 : Nat) (x1 : Int32) (x2 : Int32) (x3 : Int32), F_X6_litRings_4 n k a0 x1 x2 x3 h = some res → jJ G X h 0 0 4 [some (.ref a0), some (.int x1), some (.int x2), some (.int x3)] [] := by
  induction k with
  | zero =>
    intro a0 x1 x2 x3 hf
    exact jno (show (none : Option Int32) = some res from hf)
  | succ k ih =>
    intro a0 x1 x2 x3 hf
    exact J_X6_litRings_4_b K n h (F_X6_litRings_4 n k) ih E a0 x1 x2 x3 hf
set_option maxHeartbeats 400000 in
set_option maxRecDepth 100000 in
theorem J_X6_litRings {G : jG} {l : Launch} {d : Nat} {X : jX} {res : Int32} (K : jOK G l mX6_litRings (d + 1) X) (n : Nat) (h : jH) (E : jEnd G mX6_litRings (jPR h res) X) (a0 : Nat) (x1 : Int32) (hf : F_X6_litRings n a0 x1 h = some res) : jJ G X h 0 0 0 [some (.ref a0), some (.int x1), none, none] [] := by
  unfold F_X6_litRings at hf
  refine jr_iconst K (D_at DX6_litRings 0 rfl) (v := (0 : Int32)) (by decide) ?_
  refine jr_istore_n K (D_at DX6_litRings 1 rfl) (i := 2) rfl (by decide) (L2 := [_, _, _, _]) rfl ?_
  refine jr_iconst K (D_at DX6_litRings 2 rfl) (v := (0 : Int32)) (by decide) ?_
  refine jr_istore_n K (D_at DX6_litRings 3 rfl) (i := 3) rfl (by decide) (L2 := [_, _, _, _]) rfl ?_
  refine jr_keep [true, true, true, true] ?_
  exact J_X6_litRings_4 K n h E n a0 x1 (0 : Int32) (0 : Int32) hf
theorem C_X6_litRings {G : jG} {l : Launch} (d : Nat) {n : Nat} {a0 : Nat} {x1 : Int32} {h : jH} {res : Int32} (hf : F_X6_litRings n a0 x1 h = some res) : jC G l mX6_litRings (d + 1) 0 0 [.ref a0, .int x1] h (jPR h res) :=
  jC.of (by decide +kernel) (jcats rfl) (Nat.le_of_ble_eq_true rfl) (fun X K E => J_X6_litRings K n h E a0 x1 hf)
set_option maxHeartbeats 400000 in
set_option maxRecDepth 100000 in
theorem J_X6_litHours_4_b {G : jG} {l : Launch} {d : Nat} {X : jX} {res : Int32} (K : jOK G l mX6_litHours (d + 1) X) (n : Nat) (h : jH) (rc4 : Nat → Int32 → Int32 → Int32 → jH → Option Int32) (hr4 : ∀ (a0 : Nat) (x1 : Int32) (x2 : Int32) (x3 : Int32), rc4 a0 x1 x2 x3 h = some res → jJ G X h 0 0 4 [some (.ref a0), some (.int x1), some (.int x2), some (.int x3)] []) (E : jEnd G mX6_litHours (jPR h res) X) (a0 : Nat) (x1 : Int32) (x2 : Int32) (x3 : Int32) (hf : F_X6_litHours_4_b n rc4 a0 x1 x2 x3 h = some res) : jJ G X h 0 0 4 [some (.ref a0), some (.int x1), some (.int x2), some (.int x3)] [] := by
  unfold F_X6_litHours_4_b at hf
  refine jr_iload_n K (D_at DX6_litHours 4 rfl) rfl rfl ?_
  refine jr_bipush K (D_at DX6_litHours 5 rfl) (v := (8 : Int32)) (by decide) ?_
  refine jr_icmp_ge K (D_at DX6_litHours 6 rfl) (tgt := 28) (by decide) (fun c7 => ?_) (fun c7 => ?_)
  · replace hf := (if_pos c7).symm.trans hf
    refine jr_iload_n K (D_at DX6_litHours 15 rfl) rfl rfl ?_
    cases hf
    exact jr_iret K E (D_at DX6_litHours 16 rfl) rfl ⟨rfl, rfl⟩
  · replace hf := (if_neg c7).symm.trans hf
    refine jr_aload_n K (D_at DX6_litHours 7 rfl) rfl rfl ?_
    refine jr_iload_n K (D_at DX6_litHours 8 rfl) rfl rfl ?_
    refine jr_iload_n K (D_at DX6_litHours 9 rfl) rfl rfl ?_
    obtain ⟨v13, e13, hf⟩ := jbind hf
    obtain ⟨rc_13, e13⟩ := jcv_o e13
    refine jr_callV K (C_X8_isLit (d) e13) (D_at DX6_litHours 10 rfl) cv_X6_63_X8_isLit (As := [.int x1, .int x3]) (ci := 6) rfl rc_13 rfl rfl (by exact Nat.le_of_ble_eq_true rfl) (kc2 := 0) (ks2 := 0) rfl rfl (fun k9 h9 w9 => by cases w9.1) (fun r9 h9 w9 => ?_)
    obtain ⟨w1, w2⟩ := w9
    subst h9
    cases w1
    show jJ G X _ 0 0 _ _ (.int v13 :: _)
    refine jr_if_eq K (D_at DX6_litHours 11 rfl) (tgt := 22) (by decide) (fun c16 => ?_) (fun c16 => ?_)
    · replace hf := (if_pos c16).symm.trans hf
      refine jr_iinc K (D_at DX6_litHours 13 rfl) (i := 3) rfl (v := x3 + (1 : Int32)) (jinc (by decide)) (by decide) (L2 := [_, _, _, _]) rfl ?_
      refine jr_goto K (D_at DX6_litHours 14 rfl) (tgt := 4) (by decide) ?_
      refine jr_keep [true, true, true, true] ?_
      exact hr4 a0 x1 x2 (x3 + (1 : Int32)) hf
    · replace hf := (if_neg c16).symm.trans hf
      refine jr_iinc K (D_at DX6_litHours 12 rfl) (i := 2) rfl (v := x2 + (1 : Int32)) (jinc (by decide)) (by decide) (L2 := [_, _, _, _]) rfl ?_
      refine jr_iinc K (D_at DX6_litHours 13 rfl) (i := 3) rfl (v := x3 + (1 : Int32)) (jinc (by decide)) (by decide) (L2 := [_, _, _, _]) rfl ?_
      refine jr_goto K (D_at DX6_litHours 14 rfl) (tgt := 4) (by decide) ?_
      refine jr_keep [true, true, true, true] ?_
      exact hr4 a0 x1 (x2 + (1 : Int32)) (x3 + (1 : Int32)) hf
theorem J_X6_litHours_4 {G : jG} {l : Launch} {d : Nat} {X : jX} {res : Int32} (K : jOK G l mX6_litHours (d + 1) X) (n : Nat) (h : jH) (E : jEnd G mX6_litHours (jPR h res) X) (k : Nat) : ∀ (a0 : Nat) (x1 : Int32) (x2 : Int32) (x3 : Int32), F_X6_litHours_4 n k a0 x1 x2 x3 h = some res → jJ G X h 0 0 4 [some (.ref a0), some (.int x1), some (.int x2), some (.int x3)] [] := by
  induction k with
  | zero =>
    intro a0 x1 x2 x3 hf
    exact jno (show (none : Option Int32) = some res from hf)
  | succ k ih =>
    intro a0 x1 x2 x3 hf
    exact J_X6_litHours_4_b K n h (F_X6_litHours_4 n k) ih E a0 x1 x2 x3 hf
set_option maxHeartbeats 400000 in
set_option maxRecDepth 100000 in
theorem J_X6_litHours {G : jG} {l : Launch} {d : Nat} {X : jX} {res : Int32} (K : jOK G l mX6_litHours (d + 1) X) (n : Nat) (h : jH) (E : jEnd G mX6_litHours (jPR h res) X) (a0 : Nat) (x1 : Int32) (hf : F_X6_litHours n a0 x1 h = some res) : jJ G X h 0 0 0 [some (.ref a0), some (.int x1), none, none] [] := by
  unfold F_X6_litHours at hf
  refine jr_iconst K (D_at DX6_litHours 0 rfl) (v := (0 : Int32)) (by decide) ?_
  refine jr_istore_n K (D_at DX6_litHours 1 rfl) (i := 2) rfl (by decide) (L2 := [_, _, _, _]) rfl ?_
  refine jr_iconst K (D_at DX6_litHours 2 rfl) (v := (0 : Int32)) (by decide) ?_
  refine jr_istore_n K (D_at DX6_litHours 3 rfl) (i := 3) rfl (by decide) (L2 := [_, _, _, _]) rfl ?_
  refine jr_keep [true, true, true, true] ?_
  exact J_X6_litHours_4 K n h E n a0 x1 (0 : Int32) (0 : Int32) hf
theorem C_X6_litHours {G : jG} {l : Launch} (d : Nat) {n : Nat} {a0 : Nat} {x1 : Int32} {h : jH} {res : Int32} (hf : F_X6_litHours n a0 x1 h = some res) : jC G l mX6_litHours (d + 1) 0 0 [.ref a0, .int x1] h (jPR h res) :=
  jC.of (by decide +kernel) (jcats rfl) (Nat.le_of_ble_eq_true rfl) (fun X K E => J_X6_litHours K n h E a0 x1 hf)
set_option maxHeartbeats 400000 in
set_option maxRecDepth 100000 in
theorem J_X6_sunniest_6_b {G : jG} {l : Launch} {d : Nat} {X : jX} {res : Int32} (K : jOK G l mX6_sunniest (d + 2) X) (n : Nat) (h : jH) (rc6 : Nat → Int32 → Int32 → Int32 → jH → Option Int32) (hr6 : ∀ (a0 : Nat) (x1 : Int32) (x2 : Int32) (x3 : Int32), rc6 a0 x1 x2 x3 h = some res → jJ G X h 0 0 6 [some (.ref a0), some (.int x1), some (.int x2), some (.int x3), none] []) (E : jEnd G mX6_sunniest (jPR h res) X) (a0 : Nat) (x1 : Int32) (x2 : Int32) (x3 : Int32) (hf : F_X6_sunniest_6_b n rc6 a0 x1 x2 x3 h = some res) : jJ G X h 0 0 6 [some (.ref a0), some (.int x1), some (.int x2), some (.int x3), none] [] := by
  unfold F_X6_sunniest_6_b at hf
  refine jr_iload_n K (D_at DX6_sunniest 6 rfl) rfl rfl ?_
  refine jr_aload_n K (D_at DX6_sunniest 7 rfl) rfl rfl ?_
  obtain ⟨v8, e8, hf⟩ := jbind hf
  refine jr_getI K (D_at DX6_sunniest 8 rfl) fg_X6_19_6 e8 ?_
  refine jr_icmp_ge K (D_at DX6_sunniest 9 rfl) (tgt := 38) (by decide) (fun c11 => ?_) (fun c11 => ?_)
  · replace hf := (if_pos c11).symm.trans hf
    refine jr_iload_n K (D_at DX6_sunniest 23 rfl) rfl rfl ?_
    cases hf
    exact jr_iret K E (D_at DX6_sunniest 24 rfl) rfl ⟨rfl, rfl⟩
  · replace hf := (if_neg c11).symm.trans hf
    refine jr_aload_n K (D_at DX6_sunniest 10 rfl) rfl rfl ?_
    refine jr_iload_n K (D_at DX6_sunniest 11 rfl) rfl rfl ?_
    obtain ⟨v16, e16, hf⟩ := jbind hf
    refine jr_callS K (C_X6_litHours (d) e16) (D_at DX6_sunniest 12 rfl) cs_X6_67_X6_litHours (As := [.ref a0, .int x3]) rfl rfl (by exact Nat.le_of_ble_eq_true rfl) (kc2 := 0) (ks2 := 0) rfl rfl (fun k9 h9 w9 => by cases w9.1) (fun r9 h9 w9 => ?_)
    obtain ⟨w1, w2⟩ := w9
    subst h9
    cases w1
    show jJ G X _ 0 0 _ _ (.int v16 :: _)
    refine jr_istore K (D_at DX6_sunniest 13 rfl) (i := 4) (by decide) (L2 := [_, _, _, _, _]) rfl ?_
    refine jr_iload K (D_at DX6_sunniest 14 rfl) rfl ?_
    refine jr_iload_n K (D_at DX6_sunniest 15 rfl) rfl rfl ?_
    refine jr_icmp_le K (D_at DX6_sunniest 16 rfl) (tgt := 32) (by decide) (fun c24 => ?_) (fun c24 => ?_)
    · replace hf := (if_pos c24).symm.trans hf
      refine jr_iinc K (D_at DX6_sunniest 21 rfl) (i := 3) rfl (v := x3 + (1 : Int32)) (jinc (by decide)) (by decide) (L2 := [_, _, _, _, _]) rfl ?_
      refine jr_goto K (D_at DX6_sunniest 22 rfl) (tgt := 6) (by decide) ?_
      refine jr_keep [true, true, true, true, false] ?_
      exact hr6 a0 x1 x2 (x3 + (1 : Int32)) hf
    · replace hf := (if_neg c24).symm.trans hf
      refine jr_iload K (D_at DX6_sunniest 17 rfl) rfl ?_
      refine jr_istore_n K (D_at DX6_sunniest 18 rfl) (i := 2) rfl (by decide) (L2 := [_, _, _, _, _]) rfl ?_
      refine jr_iload_n K (D_at DX6_sunniest 19 rfl) rfl rfl ?_
      refine jr_istore_n K (D_at DX6_sunniest 20 rfl) (i := 1) rfl (by decide) (L2 := [_, _, _, _, _]) rfl ?_
      refine jr_iinc K (D_at DX6_sunniest 21 rfl) (i := 3) rfl (v := x3 + (1 : Int32)) (jinc (by decide)) (by decide) (L2 := [_, _, _, _, _]) rfl ?_
      refine jr_goto K (D_at DX6_sunniest 22 rfl) (tgt := 6) (by decide) ?_
      refine jr_keep [true, true, true, true, false] ?_
      exact hr6 a0 x3 v16 (x3 + (1 : Int32)) hf
theorem J_X6_sunniest_6 {G : jG} {l : Launch} {d : Nat} {X : jX} {res : Int32} (K : jOK G l mX6_sunniest (d + 2) X) (n : Nat) (h : jH) (E : jEnd G mX6_sunniest (jPR h res) X) (k : Nat) : ∀ (a0 : Nat) (x1 : Int32) (x2 : Int32) (x3 : Int32), F_X6_sunniest_6 n k a0 x1 x2 x3 h = some res → jJ G X h 0 0 6 [some (.ref a0), some (.int x1), some (.int x2), some (.int x3), none] [] := by
  induction k with
  | zero =>
    intro a0 x1 x2 x3 hf
    exact jno (show (none : Option Int32) = some res from hf)
  | succ k ih =>
    intro a0 x1 x2 x3 hf
    exact J_X6_sunniest_6_b K n h (F_X6_sunniest_6 n k) ih E a0 x1 x2 x3 hf
set_option maxHeartbeats 400000 in
set_option maxRecDepth 100000 in
theorem J_X6_sunniest {G : jG} {l : Launch} {d : Nat} {X : jX} {res : Int32} (K : jOK G l mX6_sunniest (d + 2) X) (n : Nat) (h : jH) (E : jEnd G mX6_sunniest (jPR h res) X) (a0 : Nat) (hf : F_X6_sunniest n a0 h = some res) : jJ G X h 0 0 0 [some (.ref a0), none, none, none, none] [] := by
  unfold F_X6_sunniest at hf
  refine jr_iconst K (D_at DX6_sunniest 0 rfl) (v := (-1 : Int32)) (by decide) ?_
  refine jr_istore_n K (D_at DX6_sunniest 1 rfl) (i := 1) rfl (by decide) (L2 := [_, _, _, _, _]) rfl ?_
  refine jr_iconst K (D_at DX6_sunniest 2 rfl) (v := (-1 : Int32)) (by decide) ?_
  refine jr_istore_n K (D_at DX6_sunniest 3 rfl) (i := 2) rfl (by decide) (L2 := [_, _, _, _, _]) rfl ?_
  refine jr_iconst K (D_at DX6_sunniest 4 rfl) (v := (0 : Int32)) (by decide) ?_
  refine jr_istore_n K (D_at DX6_sunniest 5 rfl) (i := 3) rfl (by decide) (L2 := [_, _, _, _, _]) rfl ?_
  refine jr_keep [true, true, true, true, false] ?_
  exact J_X6_sunniest_6 K n h E n a0 (-1 : Int32) (-1 : Int32) (0 : Int32) hf
theorem C_X6_sunniest {G : jG} {l : Launch} (d : Nat) {n : Nat} {a0 : Nat} {h : jH} {res : Int32} (hf : F_X6_sunniest n a0 h = some res) : jC G l mX6_sunniest (d + 2) 0 0 [.ref a0] h (jPR h res) :=
  jC.of (by decide +kernel) (jcats rfl) (Nat.le_of_ble_eq_true rfl) (fun X K E => J_X6_sunniest K n h E a0 hf)
set_option maxHeartbeats 400000 in
set_option maxRecDepth 100000 in
theorem J_X6_evenLength_67 {G : jG} {l : Launch} {d : Nat} {X : jX} {res : Int32} (K : jOK G l mX6_evenLength (d) X) (n : Nat) (h : jH) (E : jEnd G mX6_evenLength (jPR h res) X) (x1 : Int32) (x2 : Int32) (x4 : Int32) (x5 : Int32) (s0 : Int32) (s1 : Int32) (hf : F_X6_evenLength_67 n x1 x2 x4 x5 s0 s1 h = some res) : jJ G X h 0 0 67 [none, some (.int x1), some (.int x2), none, some (.int x4), some (.int x5)] [.int s1, .int s0] := by
  unfold F_X6_evenLength_67 at hf
  refine jr_iadd K (D_at DX6_evenLength 38 rfl) ?_
  refine jr_iload_n K (D_at DX6_evenLength 39 rfl) rfl rfl ?_
  refine jr_icmp_le K (D_at DX6_evenLength 40 rfl) (tgt := 74) (by decide) (fun c69 => ?_) (fun c69 => ?_)
  · replace hf := (if_pos c69).symm.trans hf
    refine jr_iload_n K (D_at DX6_evenLength 43 rfl) rfl rfl ?_
    refine jr_iload K (D_at DX6_evenLength 44 rfl) rfl ?_
    refine jr_icmp_ge K (D_at DX6_evenLength 45 rfl) (tgt := 87) (by decide) (fun c77 => ?_) (fun c77 => ?_)
    · replace hf := (if_pos c77).symm.trans hf
      refine jr_iload K (D_at DX6_evenLength 50 rfl) rfl ?_
      cases hf
      exact jr_iret K E (D_at DX6_evenLength 51 rfl) rfl ⟨rfl, rfl⟩
    · replace hf := (if_neg c77).symm.trans hf
      refine jr_iload K (D_at DX6_evenLength 46 rfl) rfl ?_
      refine jr_iconst K (D_at DX6_evenLength 47 rfl) (v := (1 : Int32)) (by decide) ?_
      refine jr_iadd K (D_at DX6_evenLength 48 rfl) ?_
      refine jr_goto K (D_at DX6_evenLength 49 rfl) (tgt := 89) (by decide) ?_
      cases hf
      exact jr_iret K E (D_at DX6_evenLength 51 rfl) rfl ⟨rfl, rfl⟩
  · replace hf := (if_neg c69).symm.trans hf
    refine jr_iconst K (D_at DX6_evenLength 41 rfl) (v := (-1 : Int32)) (by decide) ?_
    cases hf
    exact jr_iret K E (D_at DX6_evenLength 42 rfl) rfl ⟨rfl, rfl⟩
set_option maxHeartbeats 400000 in
set_option maxRecDepth 100000 in
theorem J_X6_evenLength_14_b {G : jG} {l : Launch} {d : Nat} {X : jX} {res : Int32} (K : jOK G l mX6_evenLength (d) X) (n : Nat) (h : jH) (rc14 : Nat → Int32 → Int32 → Int32 → Int32 → jH → Option Int32) (hr14 : ∀ (a0 : Nat) (x1 : Int32) (x2 : Int32) (x3 : Int32) (x4 : Int32), rc14 a0 x1 x2 x3 x4 h = some res → jJ G X h 0 0 14 [some (.ref a0), some (.int x1), some (.int x2), some (.int x3), some (.int x4), none] []) (E : jEnd G mX6_evenLength (jPR h res) X) (a0 : Nat) (x1 : Int32) (x2 : Int32) (x3 : Int32) (x4 : Int32) (hf : F_X6_evenLength_14_b n rc14 a0 x1 x2 x3 x4 h = some res) : jJ G X h 0 0 14 [some (.ref a0), some (.int x1), some (.int x2), some (.int x3), some (.int x4), none] [] := by
  unfold F_X6_evenLength_14_b at hf
  refine jr_iload K (D_at DX6_evenLength 9 rfl) rfl ?_
  refine jr_aload_n K (D_at DX6_evenLength 10 rfl) rfl rfl ?_
  obtain ⟨v17, e17, hf⟩ := jbind hf
  refine jr_getI K (D_at DX6_evenLength 11 rfl) fg_X6_19_6 e17 ?_
  refine jr_icmp_ge K (D_at DX6_evenLength 12 rfl) (tgt := 39) (by decide) (fun c20 => ?_) (fun c20 => ?_)
  · replace hf := (if_pos c20).symm.trans hf
    refine jr_iload_n K (D_at DX6_evenLength 22 rfl) rfl rfl ?_
    refine jr_aload_n K (D_at DX6_evenLength 23 rfl) rfl rfl ?_
    obtain ⟨v41, e41, hf⟩ := jbind hf
    refine jr_getI K (D_at DX6_evenLength 24 rfl) fg_X6_19_6 e41 ?_
    by_cases c44 : v41 = 0
    · exact jno (show (none : Option Int32) = some res from (if_pos c44).symm.trans hf)
    replace hf := (if_neg c44).symm.trans hf
    refine jr_idiv K (D_at DX6_evenLength 25 rfl) c44 ?_
    refine jr_istore K (D_at DX6_evenLength 26 rfl) (i := 4) (by decide) (L2 := [_, _, _, _, _, _]) rfl ?_
    refine jr_iload_n K (D_at DX6_evenLength 27 rfl) rfl rfl ?_
    refine jr_aload_n K (D_at DX6_evenLength 28 rfl) rfl rfl ?_
    obtain ⟨v49, e49, hf⟩ := jbind hf
    refine jr_getI K (D_at DX6_evenLength 29 rfl) fg_X6_19_6 e49 ?_
    by_cases c52 : v49 = 0
    · exact jno (show (none : Option Int32) = some res from (if_pos c52).symm.trans hf)
    replace hf := (if_neg c52).symm.trans hf
    refine jr_irem K (D_at DX6_evenLength 30 rfl) c52 ?_
    refine jr_istore K (D_at DX6_evenLength 31 rfl) (i := 5) (by decide) (L2 := [_, _, _, _, _, _]) rfl ?_
    refine jr_iload K (D_at DX6_evenLength 32 rfl) rfl ?_
    refine jr_iload K (D_at DX6_evenLength 33 rfl) rfl ?_
    refine jr_if_le K (D_at DX6_evenLength 34 rfl) (tgt := 66) (by decide) (fun c59 => ?_) (fun c59 => ?_)
    · replace hf := (if_pos c59).symm.trans hf
      refine jr_iconst K (D_at DX6_evenLength 37 rfl) (v := (0 : Int32)) (by decide) ?_
      refine jr_keep [false, true, true, false, true, true] ?_
      exact J_X6_evenLength_67 K n h E x1 x2 (x3 / v41) (x3 - x3 / v49 * v49) (x3 / v41) (0 : Int32) hf
    · replace hf := (if_neg c59).symm.trans hf
      refine jr_iconst K (D_at DX6_evenLength 35 rfl) (v := (1 : Int32)) (by decide) ?_
      refine jr_goto K (D_at DX6_evenLength 36 rfl) (tgt := 67) (by decide) ?_
      refine jr_keep [false, true, true, false, true, true] ?_
      exact J_X6_evenLength_67 K n h E x1 x2 (x3 / v41) (x3 - x3 / v49 * v49) (x3 / v41) (1 : Int32) hf
  · replace hf := (if_neg c20).symm.trans hf
    refine jr_iload_n K (D_at DX6_evenLength 13 rfl) rfl rfl ?_
    refine jr_aload_n K (D_at DX6_evenLength 14 rfl) rfl rfl ?_
    obtain ⟨p25, e25, hf⟩ := jbind hf
    refine jr_getR K (D_at DX6_evenLength 15 rfl) fg_X6_71_6 e25 ?_
    refine jr_iload K (D_at DX6_evenLength 16 rfl) rfl ?_
    obtain ⟨v30, e30, hf⟩ := jbind hf
    refine jr_iald K (D_at DX6_evenLength 17 rfl) e30 ?_
    refine jr_iadd K (D_at DX6_evenLength 18 rfl) ?_
    refine jr_istore_n K (D_at DX6_evenLength 19 rfl) (i := 3) rfl (by decide) (L2 := [_, _, _, _, _, _]) rfl ?_
    refine jr_iinc K (D_at DX6_evenLength 20 rfl) (i := 4) rfl (v := x4 + (1 : Int32)) (jinc (by decide)) (by decide) (L2 := [_, _, _, _, _, _]) rfl ?_
    refine jr_goto K (D_at DX6_evenLength 21 rfl) (tgt := 14) (by decide) ?_
    refine jr_keep [true, true, true, true, true, false] ?_
    exact hr14 a0 x1 x2 (x3 + v30) (x4 + (1 : Int32)) hf
theorem J_X6_evenLength_14 {G : jG} {l : Launch} {d : Nat} {X : jX} {res : Int32} (K : jOK G l mX6_evenLength (d) X) (n : Nat) (h : jH) (E : jEnd G mX6_evenLength (jPR h res) X) (k : Nat) : ∀ (a0 : Nat) (x1 : Int32) (x2 : Int32) (x3 : Int32) (x4 : Int32), F_X6_evenLength_14 n k a0 x1 x2 x3 x4 h = some res → jJ G X h 0 0 14 [some (.ref a0), some (.int x1), some (.int x2), some (.int x3), some (.int x4), none] [] := by
  induction k with
  | zero =>
    intro a0 x1 x2 x3 x4 hf
    exact jno (show (none : Option Int32) = some res from hf)
  | succ k ih =>
    intro a0 x1 x2 x3 x4 hf
    exact J_X6_evenLength_14_b K n h (F_X6_evenLength_14 n k) ih E a0 x1 x2 x3 x4 hf
set_option maxHeartbeats 400000 in
set_option maxRecDepth 100000 in
theorem J_X6_evenLength {G : jG} {l : Launch} {d : Nat} {X : jX} {res : Int32} (K : jOK G l mX6_evenLength (d) X) (n : Nat) (h : jH) (E : jEnd G mX6_evenLength (jPR h res) X) (a0 : Nat) (x1 : Int32) (x2 : Int32) (hf : F_X6_evenLength n a0 x1 x2 h = some res) : jJ G X h 0 0 0 [some (.ref a0), some (.int x1), some (.int x2), none, none, none] [] := by
  unfold F_X6_evenLength at hf
  refine jr_aload_n K (D_at DX6_evenLength 0 rfl) rfl rfl ?_
  obtain ⟨v1, e1, hf⟩ := jbind hf
  refine jr_getI K (D_at DX6_evenLength 1 rfl) fg_X6_19_6 e1 ?_
  refine jr_if_ne K (D_at DX6_evenLength 2 rfl) (tgt := 9) (by decide) (fun c4 => ?_) (fun c4 => ?_)
  · replace hf := (if_neg c4).symm.trans hf
    refine jr_iconst K (D_at DX6_evenLength 5 rfl) (v := (0 : Int32)) (by decide) ?_
    refine jr_istore_n K (D_at DX6_evenLength 6 rfl) (i := 3) rfl (by decide) (L2 := [_, _, _, _, _, _]) rfl ?_
    refine jr_iconst K (D_at DX6_evenLength 7 rfl) (v := (0 : Int32)) (by decide) ?_
    refine jr_istore K (D_at DX6_evenLength 8 rfl) (i := 4) (by decide) (L2 := [_, _, _, _, _, _]) rfl ?_
    refine jr_keep [true, true, true, true, true, false] ?_
    exact J_X6_evenLength_14 K n h E n a0 x1 x2 (0 : Int32) (0 : Int32) hf
  · replace hf := (if_pos c4).symm.trans hf
    refine jr_iconst K (D_at DX6_evenLength 3 rfl) (v := (-1 : Int32)) (by decide) ?_
    cases hf
    exact jr_iret K E (D_at DX6_evenLength 4 rfl) rfl ⟨rfl, rfl⟩
theorem C_X6_evenLength {G : jG} {l : Launch} (d : Nat) {n : Nat} {a0 : Nat} {x1 : Int32} {x2 : Int32} {h : jH} {res : Int32} (hf : F_X6_evenLength n a0 x1 x2 h = some res) : jC G l mX6_evenLength (d) 0 0 [.ref a0, .int x1, .int x2] h (jPR h res) :=
  jC.of (by decide +kernel) (jcats rfl) (Nat.le_of_ble_eq_true rfl) (fun X K E => J_X6_evenLength K n h E a0 x1 x2 hf)
set_option maxHeartbeats 400000 in
set_option maxRecDepth 100000 in
theorem J_X6_enviousPairs_4_b {G : jG} {l : Launch} {d : Nat} {X : jX} {res : Int32} (K : jOK G l mX6_enviousPairs (d + 1) X) (n : Nat) (h : jH) (rc4 : Nat → Int32 → Int32 → jH → Option Int32) (hr4 : ∀ (a0 : Nat) (x1 : Int32) (x2 : Int32), rc4 a0 x1 x2 h = some res → jJ G X h 0 0 4 [some (.ref a0), some (.int x1), some (.int x2)] []) (E : jEnd G mX6_enviousPairs (jPR h res) X) (a0 : Nat) (x1 : Int32) (x2 : Int32) (hf : F_X6_enviousPairs_4_b n rc4 a0 x1 x2 h = some res) : jJ G X h 0 0 4 [some (.ref a0), some (.int x1), some (.int x2)] [] := by
  unfold F_X6_enviousPairs_4_b at hf
  refine jr_iload_n K (D_at DX6_enviousPairs 4 rfl) rfl rfl ?_
  refine jr_iconst K (D_at DX6_enviousPairs 5 rfl) (v := (1 : Int32)) (by decide) ?_
  refine jr_iadd K (D_at DX6_enviousPairs 6 rfl) ?_
  refine jr_aload_n K (D_at DX6_enviousPairs 7 rfl) rfl rfl ?_
  obtain ⟨v8, e8, hf⟩ := jbind hf
  refine jr_getI K (D_at DX6_enviousPairs 8 rfl) fg_X6_19_6 e8 ?_
  refine jr_icmp_ge K (D_at DX6_enviousPairs 9 rfl) (tgt := 45) (by decide) (fun c11 => ?_) (fun c11 => ?_)
  · replace hf := (if_pos c11).symm.trans hf
    refine jr_iload_n K (D_at DX6_enviousPairs 27 rfl) rfl rfl ?_
    cases hf
    exact jr_iret K E (D_at DX6_enviousPairs 28 rfl) rfl ⟨rfl, rfl⟩
  · replace hf := (if_neg c11).symm.trans hf
    refine jr_aload_n K (D_at DX6_enviousPairs 10 rfl) rfl rfl ?_
    obtain ⟨p15, e15, hf⟩ := jbind hf
    refine jr_getR K (D_at DX6_enviousPairs 11 rfl) fg_X6_71_6 e15 ?_
    refine jr_iload_n K (D_at DX6_enviousPairs 12 rfl) rfl rfl ?_
    obtain ⟨v19, e19, hf⟩ := jbind hf
    refine jr_iald K (D_at DX6_enviousPairs 13 rfl) e19 ?_
    refine jr_aload_n K (D_at DX6_enviousPairs 14 rfl) rfl rfl ?_
    obtain ⟨p21, e21, hf⟩ := jbind hf
    refine jr_getR K (D_at DX6_enviousPairs 15 rfl) fg_X6_71_6 e21 ?_
    refine jr_iload_n K (D_at DX6_enviousPairs 16 rfl) rfl rfl ?_
    refine jr_iconst K (D_at DX6_enviousPairs 17 rfl) (v := (1 : Int32)) (by decide) ?_
    refine jr_iadd K (D_at DX6_enviousPairs 18 rfl) ?_
    obtain ⟨v27, e27, hf⟩ := jbind hf
    refine jr_iald K (D_at DX6_enviousPairs 19 rfl) e27 ?_
    refine jr_isub K (D_at DX6_enviousPairs 20 rfl) ?_
    refine jr_abs K (D_at DX6_enviousPairs 21 rfl) mm_X6_26 (by exact Nat.le_of_ble_eq_true rfl) ?_
    refine jr_iconst K (D_at DX6_enviousPairs 22 rfl) (v := (2 : Int32)) (by decide) ?_
    refine jr_icmp_lt K (D_at DX6_enviousPairs 23 rfl) (tgt := 39) (by decide) (fun c33 => ?_) (fun c33 => ?_)
    · replace hf := (if_pos c33).symm.trans hf
      refine jr_iinc K (D_at DX6_enviousPairs 25 rfl) (i := 2) rfl (v := x2 + (1 : Int32)) (jinc (by decide)) (by decide) (L2 := [_, _, _]) rfl ?_
      refine jr_goto K (D_at DX6_enviousPairs 26 rfl) (tgt := 4) (by decide) ?_
      refine jr_keep [true, true, true] ?_
      exact hr4 a0 x1 (x2 + (1 : Int32)) hf
    · replace hf := (if_neg c33).symm.trans hf
      refine jr_iinc K (D_at DX6_enviousPairs 24 rfl) (i := 1) rfl (v := x1 + (1 : Int32)) (jinc (by decide)) (by decide) (L2 := [_, _, _]) rfl ?_
      refine jr_iinc K (D_at DX6_enviousPairs 25 rfl) (i := 2) rfl (v := x2 + (1 : Int32)) (jinc (by decide)) (by decide) (L2 := [_, _, _]) rfl ?_
      refine jr_goto K (D_at DX6_enviousPairs 26 rfl) (tgt := 4) (by decide) ?_
      refine jr_keep [true, true, true] ?_
      exact hr4 a0 (x1 + (1 : Int32)) (x2 + (1 : Int32)) hf
theorem J_X6_enviousPairs_4 {G : jG} {l : Launch} {d : Nat} {X : jX} {res : Int32} (K : jOK G l mX6_enviousPairs (d + 1) X) (n : Nat) (h : jH) (E : jEnd G mX6_enviousPairs (jPR h res) X) (k : Nat) : ∀ (a0 : Nat) (x1 : Int32) (x2 : Int32), F_X6_enviousPairs_4 n k a0 x1 x2 h = some res → jJ G X h 0 0 4 [some (.ref a0), some (.int x1), some (.int x2)] [] := by
  induction k with
  | zero =>
    intro a0 x1 x2 hf
    exact jno (show (none : Option Int32) = some res from hf)
  | succ k ih =>
    intro a0 x1 x2 hf
    exact J_X6_enviousPairs_4_b K n h (F_X6_enviousPairs_4 n k) ih E a0 x1 x2 hf
set_option maxHeartbeats 400000 in
set_option maxRecDepth 100000 in
theorem J_X6_enviousPairs {G : jG} {l : Launch} {d : Nat} {X : jX} {res : Int32} (K : jOK G l mX6_enviousPairs (d + 1) X) (n : Nat) (h : jH) (E : jEnd G mX6_enviousPairs (jPR h res) X) (a0 : Nat) (hf : F_X6_enviousPairs n a0 h = some res) : jJ G X h 0 0 0 [some (.ref a0), none, none] [] := by
  unfold F_X6_enviousPairs at hf
  refine jr_iconst K (D_at DX6_enviousPairs 0 rfl) (v := (0 : Int32)) (by decide) ?_
  refine jr_istore_n K (D_at DX6_enviousPairs 1 rfl) (i := 1) rfl (by decide) (L2 := [_, _, _]) rfl ?_
  refine jr_iconst K (D_at DX6_enviousPairs 2 rfl) (v := (0 : Int32)) (by decide) ?_
  refine jr_istore_n K (D_at DX6_enviousPairs 3 rfl) (i := 2) rfl (by decide) (L2 := [_, _, _]) rfl ?_
  refine jr_keep [true, true, true] ?_
  exact J_X6_enviousPairs_4 K n h E n a0 (0 : Int32) (0 : Int32) hf
theorem C_X6_enviousPairs {G : jG} {l : Launch} (d : Nat) {n : Nat} {a0 : Nat} {h : jH} {res : Int32} (hf : F_X6_enviousPairs n a0 h = some res) : jC G l mX6_enviousPairs (d + 1) 0 0 [.ref a0] h (jPR h res) :=
  jC.of (by decide +kernel) (jcats rfl) (Nat.le_of_ble_eq_true rfl) (fun X K E => J_X6_enviousPairs K n h E a0 hf)
set_option maxHeartbeats 400000 in
set_option maxRecDepth 100000 in
theorem J_X6_gain {G : jG} {l : Launch} {d : Nat} {X : jX} {res : Int32} (K : jOK G l mX6_gain (d + 1) X) (n : Nat) (h : jH) (E : jEnd G mX6_gain (jPR h res) X) (a0 : Nat) (x1 : Int32) (x2 : Int32) (hf : F_X6_gain n a0 x1 x2 h = some res) : jJ G X h 0 0 0 [some (.ref a0), some (.int x1), some (.int x2)] [] := by
  unfold F_X6_gain at hf
  refine jr_iload_n K (D_at DX6_gain 0 rfl) rfl rfl ?_
  by_cases c1_0 : x2 = (1 : Int32)
  · replace hf := (if_pos c1_0).symm.trans hf
    refine jr_lookup K (D_at DX6_gain 1 rfl) (off := 27) (tgt := 28) (by decide) (by rw [c1_0]; decide) (by decide) ?_
    refine jr_aload_n K (D_at DX6_gain 2 rfl) rfl rfl ?_
    obtain ⟨v29, e29, hf⟩ := jbind hf
    refine jr_getI K (D_at DX6_gain 3 rfl) fg_X6_78_6 e29 ?_
    refine jr_iload_n K (D_at DX6_gain 4 rfl) rfl rfl ?_
    obtain ⟨v33, e33, hf⟩ := jbind hf
    refine jr_callSN K (C_X11_bit (d) e33) (D_at DX6_gain 5 rfl) csn_X6_15_X11_bit (As := [.int v29, .int x1]) rfl rfl (by exact Nat.le_of_ble_eq_true rfl) (kc2 := 0) (ks2 := 0) rfl rfl (fun k9 h9 w9 => by cases w9.1) (fun r9 h9 w9 => ?_)
    obtain ⟨w1, w2⟩ := w9
    subst h9
    cases w1
    show jJ G X _ 0 0 _ _ (.int v33 :: _)
    refine jr_iconst K (D_at DX6_gain 6 rfl) (v := (1 : Int32)) (by decide) ?_
    refine jr_icmp_ne K (D_at DX6_gain 7 rfl) (tgt := 45) (by decide) (fun c37 => ?_) (fun c37 => ?_)
    · replace hf := (if_neg c37).symm.trans hf
      refine jr_iconst K (D_at DX6_gain 10 rfl) (v := (1 : Int32)) (by decide) ?_
      cases hf
      exact jr_iret K E (D_at DX6_gain 11 rfl) rfl ⟨rfl, rfl⟩
    · replace hf := (if_pos c37).symm.trans hf
      refine jr_bipush K (D_at DX6_gain 8 rfl) (v := (-2 : Int32)) (by decide) ?_
      refine jr_goto K (D_at DX6_gain 9 rfl) (tgt := 46) (by decide) ?_
      cases hf
      exact jr_iret K E (D_at DX6_gain 11 rfl) rfl ⟨rfl, rfl⟩
  replace hf := (if_neg c1_0).symm.trans hf
  by_cases c1_1 : x2 = (2 : Int32)
  · replace hf := (if_pos c1_1).symm.trans hf
    refine jr_lookup K (D_at DX6_gain 1 rfl) (off := 46) (tgt := 47) (by decide) (by rw [c1_1]; decide) (by decide) ?_
    refine jr_aload_n K (D_at DX6_gain 12 rfl) rfl rfl ?_
    refine jr_iload_n K (D_at DX6_gain 13 rfl) rfl rfl ?_
    refine jr_iconst K (D_at DX6_gain 14 rfl) (v := (0 : Int32)) (by decide) ?_
    obtain ⟨v50, e50, hf⟩ := jbind hf
    obtain ⟨rc_50, e50⟩ := jcv_o e50
    refine jr_callV K (C_X8_gap (d) e50) (D_at DX6_gain 15 rfl) cv_X6_56_X8_gap (As := [.int x1, .int (0 : Int32)]) (ci := 6) rfl rc_50 rfl rfl (by exact Nat.le_of_ble_eq_true rfl) (kc2 := 0) (ks2 := 0) rfl rfl (fun k9 h9 w9 => by cases w9.1) (fun r9 h9 w9 => ?_)
    obtain ⟨w1, w2⟩ := w9
    subst h9
    cases w1
    show jJ G X _ 0 0 _ _ (.int v50 :: _)
    refine jr_iconst K (D_at DX6_gain 16 rfl) (v := (1 : Int32)) (by decide) ?_
    refine jr_isub K (D_at DX6_gain 17 rfl) ?_
    cases hf
    exact jr_iret K E (D_at DX6_gain 18 rfl) rfl ⟨rfl, rfl⟩
  replace hf := (if_neg c1_1).symm.trans hf
  refine jr_lookup K (D_at DX6_gain 1 rfl) (off := 55) (tgt := 56) (by decide) (by show Op.lookupswitch.offset [(1, 27), (2, 46)] 55 _ = _; rw [lv_osw c1_0 (a := 1) (by decide), lv_osw c1_1 (a := 2) (by decide)]; rfl) (by decide) ?_
  refine jr_iconst K (D_at DX6_gain 19 rfl) (v := (2 : Int32)) (by decide) ?_
  cases hf
  exact jr_iret K E (D_at DX6_gain 20 rfl) rfl ⟨rfl, rfl⟩
theorem C_X6_gain {G : jG} {l : Launch} (d : Nat) {n : Nat} {a0 : Nat} {x1 : Int32} {x2 : Int32} {h : jH} {res : Int32} (hf : F_X6_gain n a0 x1 x2 h = some res) : jC G l mX6_gain (d + 1) 0 0 [.ref a0, .int x1, .int x2] h (jPR h res) :=
  jC.of (by decide +kernel) (jcats rfl) (Nat.le_of_ble_eq_true rfl) (fun X K E => J_X6_gain K n h E a0 x1 x2 hf)
