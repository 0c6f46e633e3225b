set_option maxHeartbeats 4000000 in
set_option maxRecDepth 100000 in
theorem J_X5_init {G : jG} {l : Launch} {d : Nat} {X : jX} {res : jH} (K : jOK G l mX5_init (d + 1) X) (n : Nat) (E : jEnd G mX5_init (jPV res) X) (a0 : Nat) (h : jH) (hf : F_X5_init n a0 h = some res) : jJ G X h 1 60 0 [some (.ref a0)] [] := by
  unfold F_X5_init at hf
  refine jr_aload_n K (D_at DX5_init 0 rfl) rfl rfl ?_
  refine jr_objInit K (D_at DX5_init 1 rfl) oi_X5_3 (by exact Nat.le_of_ble_eq_true rfl) ?_
  refine jr_aload_n K (D_at DX5_init 2 rfl) rfl rfl ?_
  refine jr_bipush K (D_at DX5_init 3 rfl) (v := (60 : Int32)) (by decide) ?_
  obtain ⟨h7, e7, hf⟩ := jbind hf
  refine jr_newIE (N := 60) K (D_at DX5_init 4 rfl) ac_int (by decide) (by decide) (by decide) (kc := 0) (ks := 0) e7 ?_
  obtain ⟨h9, e9, hf⟩ := jbind hf
  refine jr_putA K (D_at DX5_init 5 rfl) fp_X5_11_4 (Or.inr rfl) e9 ?_
  cases hf
  exact jr_vret K E (D_at DX5_init 6 rfl) rfl ⟨rfl, rfl⟩
theorem C_X5_init {G : jG} {l : Launch} (d : Nat) {n : Nat} {a0 : Nat} {h : jH} {res : jH} (hf : F_X5_init n a0 h = some res) : jC G l mX5_init (d + 1) 1 60 [.ref a0] h (jPV res) :=
  jC.of (by decide +kernel) (jcats rfl) (Nat.le_of_ble_eq_true rfl) (fun X K E => J_X5_init K n E a0 h hf)
set_option maxHeartbeats 4000000 in
set_option maxRecDepth 100000 in
theorem J_X8_init {G : jG} {l : Launch} {d : Nat} {X : jX} {res : jH} (K : jOK G l mX8_init (d + 2) X) (n : Nat) (E : jEnd G mX8_init (jPV res) X) (a0 : Nat) (h : jH) (hf : F_X8_init n a0 h = some res) : jJ G X h 6 95 0 [some (.ref a0)] [] := by
  unfold F_X8_init at hf
  refine jr_aload_n K (D_at DX8_init 0 rfl) rfl rfl ?_
  refine jr_objInit K (D_at DX8_init 1 rfl) oi_X8_3 (by exact Nat.le_of_ble_eq_true rfl) ?_
  refine jr_aload_n K (D_at DX8_init 2 rfl) rfl rfl ?_
  refine jr_bipush K (D_at DX8_init 3 rfl) (v := (8 : Int32)) (by decide) ?_
  obtain ⟨h7, e7, hf⟩ := jbind hf
  refine jr_newIE (N := 8) K (D_at DX8_init 4 rfl) ac_int (by decide) (by decide) (by decide) (kc := 5) (ks := 87) e7 ?_
  obtain ⟨h9, e9, hf⟩ := jbind hf
  refine jr_putA K (D_at DX8_init 5 rfl) fp_X8_9_6 (Or.inr rfl) e9 ?_
  refine jr_aload_n K (D_at DX8_init 6 rfl) rfl rfl ?_
  refine jr_bipush K (D_at DX8_init 7 rfl) (v := (8 : Int32)) (by decide) ?_
  obtain ⟨h15, e15, hf⟩ := jbind hf
  refine jr_newIE (N := 8) K (D_at DX8_init 8 rfl) ac_int (by decide) (by decide) (by decide) (kc := 4) (ks := 79) e15 ?_
  obtain ⟨h17, e17, hf⟩ := jbind hf
  refine jr_putA K (D_at DX8_init 9 rfl) fp_X8_15_6 (Or.inr rfl) e17 ?_
  refine jr_aload_n K (D_at DX8_init 10 rfl) rfl rfl ?_
  refine jr_bipush K (D_at DX8_init 11 rfl) (v := (8 : Int32)) (by decide) ?_
  obtain ⟨h23, e23, hf⟩ := jbind hf
  refine jr_newIE (N := 8) K (D_at DX8_init 12 rfl) ac_int (by decide) (by decide) (by decide) (kc := 3) (ks := 71) e23 ?_
  obtain ⟨h25, e25, hf⟩ := jbind hf
  refine jr_putA K (D_at DX8_init 13 rfl) fp_X8_18_6 (Or.inr rfl) e25 ?_
  refine jr_aload_n K (D_at DX8_init 14 rfl) rfl rfl ?_
  refine jr_bipush K (D_at DX8_init 15 rfl) (v := (8 : Int32)) (by decide) ?_
  obtain ⟨h31, e31, hf⟩ := jbind hf
  refine jr_newIE (N := 8) K (D_at DX8_init 16 rfl) ac_int (by decide) (by decide) (by decide) (kc := 2) (ks := 63) e31 ?_
  obtain ⟨h33, e33, hf⟩ := jbind hf
  refine jr_putA K (D_at DX8_init 17 rfl) fp_X8_21_6 (Or.inr rfl) e33 ?_
  refine jr_aload_n K (D_at DX8_init 18 rfl) rfl rfl ?_
  obtain ⟨h37, e37, hf⟩ := jbind hf
  refine jr_newE (N := 3) K (D_at DX8_init 19 rfl) fn_X8_24 (kc := 1) (ks := 60) e37 ?_
  refine jr_dup K (D_at DX8_init 20 rfl) rfl ?_
  obtain ⟨h41, e41, hf⟩ := jbind hf
  refine jr_callIN K (C_X5_init (d) e41) (D_at DX8_init 21 rfl) cin_X8_26_X5_init (As := []) rfl rfl (by exact Nat.le_of_ble_eq_true rfl) (kc2 := 0) (ks2 := 0) rfl rfl (fun k9 h9 w9 => by cases w9.1) (fun r9 h9 w9 => ?_)
  obtain ⟨w1, w2⟩ := w9
  subst h9
  cases w1
  obtain ⟨h44, e44, hf⟩ := jbind hf
  refine jr_putR K (D_at DX8_init 22 rfl) fp_X8_27_6 (Or.inr rfl) e44 ?_
  refine jr_aload_n K (D_at DX8_init 23 rfl) rfl rfl ?_
  refine jr_bipush K (D_at DX8_init 24 rfl) (v := (16 : Int32)) (by decide) ?_
  obtain ⟨h50, e50, hf⟩ := jbind hf
  refine jr_putI K (D_at DX8_init 25 rfl) fp_X8_31_6 (Or.inl rfl) e50 ?_
  refine jr_aload_n K (D_at DX8_init 26 rfl) rfl rfl ?_
  refine jr_bipush K (D_at DX8_init 27 rfl) (v := (8 : Int32)) (by decide) ?_
  obtain ⟨h56, e56, hf⟩ := jbind hf
  refine jr_putI K (D_at DX8_init 28 rfl) fp_X8_35_6 (Or.inl rfl) e56 ?_
  refine jr_aload_n K (D_at DX8_init 29 rfl) rfl rfl ?_
  refine jr_iconst K (D_at DX8_init 30 rfl) (v := (1 : Int32)) (by decide) ?_
  obtain ⟨h61, e61, hf⟩ := jbind hf
  refine jr_putI K (D_at DX8_init 31 rfl) fp_X8_38_6 (Or.inl rfl) e61 ?_
  cases hf
  exact jr_vret K E (D_at DX8_init 32 rfl) rfl ⟨rfl, rfl⟩
theorem C_X8_init {G : jG} {l : Launch} (d : Nat) {n : Nat} {a0 : Nat} {h : jH} {res : jH} (hf : F_X8_init n a0 h = some res) : jC G l mX8_init (d + 2) 6 95 [.ref a0] h (jPV res) :=
  jC.of (by decide +kernel) (jcats rfl) (Nat.le_of_ble_eq_true rfl) (fun X K E => J_X8_init K n E a0 h hf)
set_option maxHeartbeats 4000000 in
set_option maxRecDepth 100000 in
theorem J_X5_copyFrom {G : jG} {l : Launch} {d : Nat} {X : jX} {res : jH} (K : jOK G l mX5_copyFrom (d + 1) X) (n : Nat) (E : jEnd G mX5_copyFrom (jPV res) X) (a0 : Nat) (a1 : Nat) (h : jH) (hf : F_X5_copyFrom n a0 a1 h = some res) : jJ G X h 0 0 0 [some (.ref a0), some (.ref a1)] [] := by
  unfold F_X5_copyFrom at hf
  refine jr_aload_n K (D_at DX5_copyFrom 0 rfl) rfl rfl ?_
  obtain ⟨p1, e1, hf⟩ := jbind hf
  refine jr_getR K (D_at DX5_copyFrom 1 rfl) fg_X5_11_4 e1 ?_
  refine jr_iconst K (D_at DX5_copyFrom 2 rfl) (v := (0 : Int32)) (by decide) ?_
  refine jr_aload_n K (D_at DX5_copyFrom 3 rfl) rfl rfl ?_
  obtain ⟨p6, e6, hf⟩ := jbind hf
  refine jr_getR K (D_at DX5_copyFrom 4 rfl) fg_X5_11_4 e6 ?_
  refine jr_iconst K (D_at DX5_copyFrom 5 rfl) (v := (0 : Int32)) (by decide) ?_
  refine jr_bipush K (D_at DX5_copyFrom 6 rfl) (v := (60 : Int32)) (by decide) ?_
  obtain ⟨h12, e12, hf⟩ := jbind hf
  refine jr_copy K (D_at DX5_copyFrom 7 rfl) cy_X5_15 (by exact Nat.le_of_ble_eq_true rfl) e12 ?_
  refine jr_aload_n K (D_at DX5_copyFrom 8 rfl) rfl rfl ?_
  refine jr_aload_n K (D_at DX5_copyFrom 9 rfl) rfl rfl ?_
  obtain ⟨v17, e17, hf⟩ := jbind hf
  refine jr_getI K (D_at DX5_copyFrom 10 rfl) fg_X5_21_4 e17 ?_
  obtain ⟨h20, e20, hf⟩ := jbind hf
  refine jr_putI K (D_at DX5_copyFrom 11 rfl) fp_X5_21_4 (Or.inl rfl) e20 ?_
  refine jr_aload_n K (D_at DX5_copyFrom 12 rfl) rfl rfl ?_
  refine jr_aload_n K (D_at DX5_copyFrom 13 rfl) rfl rfl ?_
  obtain ⟨v25, e25, hf⟩ := jbind hf
  refine jr_getI K (D_at DX5_copyFrom 14 rfl) fg_X5_25_4 e25 ?_
  obtain ⟨h28, e28, hf⟩ := jbind hf
  refine jr_putI K (D_at DX5_copyFrom 15 rfl) fp_X5_25_4 (Or.inl rfl) e28 ?_
  cases hf
  exact jr_vret K E (D_at DX5_copyFrom 16 rfl) rfl ⟨rfl, rfl⟩
theorem C_X5_copyFrom {G : jG} {l : Launch} (d : Nat) {n : Nat} {a0 : Nat} {a1 : Nat} {h : jH} {res : jH} (hf : F_X5_copyFrom n a0 a1 h = some res) : jC G l mX5_copyFrom (d + 1) 0 0 [.ref a0, .ref a1] h (jPV res) :=
  jC.of (by decide +kernel) (jcats rfl) (Nat.le_of_ble_eq_true rfl) (fun X K E => J_X5_copyFrom K n E a0 a1 h hf)
set_option maxHeartbeats 4000000 in
set_option maxRecDepth 100000 in
theorem J_X8_hangAs {G : jG} {l : Launch} {d : Nat} {X : jX} {res : jH} (K : jOK G l mX8_hangAs (d + 1) X) (n : Nat) (E : jEnd G mX8_hangAs (jPV res) X) (a0 : Nat) (a1 : Nat) (h : jH) (hf : F_X8_hangAs n a0 a1 h = some res) : jJ G X h 0 0 0 [some (.ref a0), some (.ref a1)] [] := by
  unfold F_X8_hangAs at hf
  refine jr_aload_n K (D_at DX8_hangAs 0 rfl) rfl rfl ?_
  obtain ⟨p1, e1, hf⟩ := jbind hf
  refine jr_getR K (D_at DX8_hangAs 1 rfl) fg_X8_9_6 e1 ?_
  refine jr_iconst K (D_at DX8_hangAs 2 rfl) (v := (0 : Int32)) (by decide) ?_
  refine jr_aload_n K (D_at DX8_hangAs 3 rfl) rfl rfl ?_
  obtain ⟨p6, e6, hf⟩ := jbind hf
  refine jr_getR K (D_at DX8_hangAs 4 rfl) fg_X8_9_6 e6 ?_
  refine jr_iconst K (D_at DX8_hangAs 5 rfl) (v := (0 : Int32)) (by decide) ?_
  refine jr_bipush K (D_at DX8_hangAs 6 rfl) (v := (8 : Int32)) (by decide) ?_
  obtain ⟨h12, e12, hf⟩ := jbind hf
  refine jr_copy K (D_at DX8_hangAs 7 rfl) cy_X8_41 (by exact Nat.le_of_ble_eq_true rfl) e12 ?_
  refine jr_aload_n K (D_at DX8_hangAs 8 rfl) rfl rfl ?_
  refine jr_aload_n K (D_at DX8_hangAs 9 rfl) rfl rfl ?_
  obtain ⟨v17, e17, hf⟩ := jbind hf
  refine jr_getI K (D_at DX8_hangAs 10 rfl) fg_X8_79_6 e17 ?_
  obtain ⟨h20, e20, hf⟩ := jbind hf
  refine jr_putI K (D_at DX8_hangAs 11 rfl) fp_X8_79_6 (Or.inl rfl) e20 ?_
  refine jr_aload_n K (D_at DX8_hangAs 12 rfl) rfl rfl ?_
  refine jr_aload_n K (D_at DX8_hangAs 13 rfl) rfl rfl ?_
  obtain ⟨v25, e25, hf⟩ := jbind hf
  refine jr_getI K (D_at DX8_hangAs 14 rfl) fg_X8_82_6 e25 ?_
  obtain ⟨h28, e28, hf⟩ := jbind hf
  refine jr_putI K (D_at DX8_hangAs 15 rfl) fp_X8_82_6 (Or.inl rfl) e28 ?_
  cases hf
  exact jr_vret K E (D_at DX8_hangAs 16 rfl) rfl ⟨rfl, rfl⟩
theorem C_X8_hangAs {G : jG} {l : Launch} (d : Nat) {n : Nat} {a0 : Nat} {a1 : Nat} {h : jH} {res : jH} (hf : F_X8_hangAs n a0 a1 h = some res) : jC G l mX8_hangAs (d + 1) 0 0 [.ref a0, .ref a1] h (jPV res) :=
  jC.of (by decide +kernel) (jcats rfl) (Nat.le_of_ble_eq_true rfl) (fun X K E => J_X8_hangAs K n E a0 a1 h hf)
set_option maxHeartbeats 4000000 in
set_option maxRecDepth 100000 in
theorem J_X8_copyFrom {G : jG} {l : Launch} {d : Nat} {X : jX} {res : jH} (K : jOK G l mX8_copyFrom (d + 2) X) (n : Nat) (E : jEnd G mX8_copyFrom (jPV res) X) (a0 : Nat) (a1 : Nat) (h : jH) (hf : F_X8_copyFrom n a0 a1 h = some res) : jJ G X h 0 0 0 [some (.ref a0), some (.ref a1)] [] := by
  unfold F_X8_copyFrom at hf
  refine jr_aload_n K (D_at DX8_copyFrom 0 rfl) rfl rfl ?_
  obtain ⟨p1, e1, hf⟩ := jbind hf
  refine jr_getR K (D_at DX8_copyFrom 1 rfl) fg_X8_15_6 e1 ?_
  refine jr_iconst K (D_at DX8_copyFrom 2 rfl) (v := (0 : Int32)) (by decide) ?_
  refine jr_aload_n K (D_at DX8_copyFrom 3 rfl) rfl rfl ?_
  obtain ⟨p6, e6, hf⟩ := jbind hf
  refine jr_getR K (D_at DX8_copyFrom 4 rfl) fg_X8_15_6 e6 ?_
  refine jr_iconst K (D_at DX8_copyFrom 5 rfl) (v := (0 : Int32)) (by decide) ?_
  refine jr_bipush K (D_at DX8_copyFrom 6 rfl) (v := (8 : Int32)) (by decide) ?_
  obtain ⟨h12, e12, hf⟩ := jbind hf
  refine jr_copy K (D_at DX8_copyFrom 7 rfl) cy_X8_41 (by exact Nat.le_of_ble_eq_true rfl) e12 ?_
  refine jr_aload_n K (D_at DX8_copyFrom 8 rfl) rfl rfl ?_
  obtain ⟨p16, e16, hf⟩ := jbind hf
  refine jr_getR K (D_at DX8_copyFrom 9 rfl) fg_X8_18_6 e16 ?_
  refine jr_iconst K (D_at DX8_copyFrom 10 rfl) (v := (0 : Int32)) (by decide) ?_
  refine jr_aload_n K (D_at DX8_copyFrom 11 rfl) rfl rfl ?_
  obtain ⟨p21, e21, hf⟩ := jbind hf
  refine jr_getR K (D_at DX8_copyFrom 12 rfl) fg_X8_18_6 e21 ?_
  refine jr_iconst K (D_at DX8_copyFrom 13 rfl) (v := (0 : Int32)) (by decide) ?_
  refine jr_bipush K (D_at DX8_copyFrom 14 rfl) (v := (8 : Int32)) (by decide) ?_
  obtain ⟨h27, e27, hf⟩ := jbind hf
  refine jr_copy K (D_at DX8_copyFrom 15 rfl) cy_X8_41 (by exact Nat.le_of_ble_eq_true rfl) e27 ?_
  refine jr_aload_n K (D_at DX8_copyFrom 16 rfl) rfl rfl ?_
  obtain ⟨p31, e31, hf⟩ := jbind hf
  refine jr_getR K (D_at DX8_copyFrom 17 rfl) fg_X8_21_6 e31 ?_
  refine jr_iconst K (D_at DX8_copyFrom 18 rfl) (v := (0 : Int32)) (by decide) ?_
  refine jr_aload_n K (D_at DX8_copyFrom 19 rfl) rfl rfl ?_
  obtain ⟨p36, e36, hf⟩ := jbind hf
  refine jr_getR K (D_at DX8_copyFrom 20 rfl) fg_X8_21_6 e36 ?_
  refine jr_iconst K (D_at DX8_copyFrom 21 rfl) (v := (0 : Int32)) (by decide) ?_
  refine jr_bipush K (D_at DX8_copyFrom 22 rfl) (v := (8 : Int32)) (by decide) ?_
  obtain ⟨h42, e42, hf⟩ := jbind hf
  refine jr_copy K (D_at DX8_copyFrom 23 rfl) cy_X8_41 (by exact Nat.le_of_ble_eq_true rfl) e42 ?_
  refine jr_aload_n K (D_at DX8_copyFrom 24 rfl) rfl rfl ?_
  obtain ⟨p46, e46, hf⟩ := jbind hf
  refine jr_getR K (D_at DX8_copyFrom 25 rfl) fg_X8_27_6 e46 ?_
  refine jr_aload_n K (D_at DX8_copyFrom 26 rfl) rfl rfl ?_
  obtain ⟨p50, e50, hf⟩ := jbind hf
  refine jr_getR K (D_at DX8_copyFrom 27 rfl) fg_X8_27_6 e50 ?_
  obtain ⟨h53, e53, hf⟩ := jbind hf
  obtain ⟨rc_53, e53⟩ := jcv_o e53
  refine jr_callV K (C_X5_copyFrom (d) e53) (D_at DX8_copyFrom 28 rfl) cv_X8_47_X5_copyFrom (As := [.ref p50]) (ci := 4) rfl rc_53 rfl rfl (by exact Nat.le_of_ble_eq_true rfl) (kc2 := 0) (ks2 := 0) rfl rfl (fun k9 h9 w9 => by cases w9.1) (fun r9 h9 w9 => ?_)
  obtain ⟨w1, w2⟩ := w9
  subst h9
  cases w1
  show jJ G X _ 0 0 _ _ []
  refine jr_aload_n K (D_at DX8_copyFrom 29 rfl) rfl rfl ?_
  refine jr_aload_n K (D_at DX8_copyFrom 30 rfl) rfl rfl ?_
  obtain ⟨v58, e58, hf⟩ := jbind hf
  refine jr_getI K (D_at DX8_copyFrom 31 rfl) fg_X8_51_6 e58 ?_
  obtain ⟨h61, e61, hf⟩ := jbind hf
  refine jr_putI K (D_at DX8_copyFrom 32 rfl) fp_X8_51_6 (Or.inl rfl) e61 ?_
  refine jr_aload_n K (D_at DX8_copyFrom 33 rfl) rfl rfl ?_
  refine jr_aload_n K (D_at DX8_copyFrom 34 rfl) rfl rfl ?_
  obtain ⟨v66, e66, hf⟩ := jbind hf
  refine jr_getI K (D_at DX8_copyFrom 35 rfl) fg_X8_54_6 e66 ?_
  obtain ⟨h69, e69, hf⟩ := jbind hf
  refine jr_putI K (D_at DX8_copyFrom 36 rfl) fp_X8_54_6 (Or.inl rfl) e69 ?_
  refine jr_aload_n K (D_at DX8_copyFrom 37 rfl) rfl rfl ?_
  refine jr_aload_n K (D_at DX8_copyFrom 38 rfl) rfl rfl ?_
  obtain ⟨v74, e74, hf⟩ := jbind hf
  refine jr_getI K (D_at DX8_copyFrom 39 rfl) fg_X8_57_6 e74 ?_
  obtain ⟨h77, e77, hf⟩ := jbind hf
  refine jr_putI K (D_at DX8_copyFrom 40 rfl) fp_X8_57_6 (Or.inl rfl) e77 ?_
  refine jr_aload_n K (D_at DX8_copyFrom 41 rfl) rfl rfl ?_
  refine jr_aload_n K (D_at DX8_copyFrom 42 rfl) rfl rfl ?_
  obtain ⟨v82, e82, hf⟩ := jbind hf
  refine jr_getI K (D_at DX8_copyFrom 43 rfl) fg_X8_60_6 e82 ?_
  obtain ⟨h85, e85, hf⟩ := jbind hf
  refine jr_putI K (D_at DX8_copyFrom 44 rfl) fp_X8_60_6 (Or.inl rfl) e85 ?_
  refine jr_aload_n K (D_at DX8_copyFrom 45 rfl) rfl rfl ?_
  refine jr_aload_n K (D_at DX8_copyFrom 46 rfl) rfl rfl ?_
  obtain ⟨v90, e90, hf⟩ := jbind hf
  refine jr_getI K (D_at DX8_copyFrom 47 rfl) fg_X8_63_6 e90 ?_
  obtain ⟨h93, e93, hf⟩ := jbind hf
  refine jr_putI K (D_at DX8_copyFrom 48 rfl) fp_X8_63_6 (Or.inl rfl) e93 ?_
  refine jr_aload_n K (D_at DX8_copyFrom 49 rfl) rfl rfl ?_
  refine jr_aload_n K (D_at DX8_copyFrom 50 rfl) rfl rfl ?_
  obtain ⟨v98, e98, hf⟩ := jbind hf
  refine jr_getI K (D_at DX8_copyFrom 51 rfl) fg_X8_31_6 e98 ?_
  obtain ⟨h101, e101, hf⟩ := jbind hf
  refine jr_putI K (D_at DX8_copyFrom 52 rfl) fp_X8_31_6 (Or.inl rfl) e101 ?_
  refine jr_aload_n K (D_at DX8_copyFrom 53 rfl) rfl rfl ?_
  refine jr_aload_n K (D_at DX8_copyFrom 54 rfl) rfl rfl ?_
  obtain ⟨v106, e106, hf⟩ := jbind hf
  refine jr_getI K (D_at DX8_copyFrom 55 rfl) fg_X8_35_6 e106 ?_
  obtain ⟨h109, e109, hf⟩ := jbind hf
  refine jr_putI K (D_at DX8_copyFrom 56 rfl) fp_X8_35_6 (Or.inl rfl) e109 ?_
  refine jr_aload_n K (D_at DX8_copyFrom 57 rfl) rfl rfl ?_
  refine jr_aload_n K (D_at DX8_copyFrom 58 rfl) rfl rfl ?_
  obtain ⟨v114, e114, hf⟩ := jbind hf
  refine jr_getI K (D_at DX8_copyFrom 59 rfl) fg_X8_66_6 e114 ?_
  obtain ⟨h117, e117, hf⟩ := jbind hf
  refine jr_putI K (D_at DX8_copyFrom 60 rfl) fp_X8_66_6 (Or.inl rfl) e117 ?_
  refine jr_aload_n K (D_at DX8_copyFrom 61 rfl) rfl rfl ?_
  refine jr_aload_n K (D_at DX8_copyFrom 62 rfl) rfl rfl ?_
  obtain ⟨v122, e122, hf⟩ := jbind hf
  refine jr_getI K (D_at DX8_copyFrom 63 rfl) fg_X8_69_6 e122 ?_
  obtain ⟨h125, e125, hf⟩ := jbind hf
  refine jr_putI K (D_at DX8_copyFrom_1 0 rfl) fp_X8_69_6 (Or.inl rfl) e125 ?_
  refine jr_aload_n K (D_at DX8_copyFrom_1 1 rfl) rfl rfl ?_
  refine jr_aload_n K (D_at DX8_copyFrom_1 2 rfl) rfl rfl ?_
  obtain ⟨v130, e130, hf⟩ := jbind hf
  refine jr_getI K (D_at DX8_copyFrom_1 3 rfl) fg_X8_38_6 e130 ?_
  obtain ⟨h133, e133, hf⟩ := jbind hf
  refine jr_putI K (D_at DX8_copyFrom_1 4 rfl) fp_X8_38_6 (Or.inl rfl) e133 ?_
  refine jr_aload_n K (D_at DX8_copyFrom_1 5 rfl) rfl rfl ?_
  refine jr_aload_n K (D_at DX8_copyFrom_1 6 rfl) rfl rfl ?_
  obtain ⟨v138, e138, hf⟩ := jbind hf
  refine jr_getI K (D_at DX8_copyFrom_1 7 rfl) fg_X8_72_6 e138 ?_
  obtain ⟨h141, e141, hf⟩ := jbind hf
  refine jr_putI K (D_at DX8_copyFrom_1 8 rfl) fp_X8_72_6 (Or.inl rfl) e141 ?_
  refine jr_aload_n K (D_at DX8_copyFrom_1 9 rfl) rfl rfl ?_
  refine jr_aload_n K (D_at DX8_copyFrom_1 10 rfl) rfl rfl ?_
  obtain ⟨h146, e146, hf⟩ := jbind hf
  obtain ⟨rc_146, e146⟩ := jcv_o e146
  refine jr_callV K (C_X8_hangAs (d) e146) (D_at DX8_copyFrom_1 11 rfl) cv_X8_75_X8_hangAs (As := [.ref a1]) (ci := 6) rfl rc_146 rfl rfl (by exact Nat.le_of_ble_eq_true rfl) (kc2 := 0) (ks2 := 0) rfl rfl (fun k9 h9 w9 => by cases w9.1) (fun r9 h9 w9 => ?_)
  obtain ⟨w1, w2⟩ := w9
  subst h9
  cases w1
  show jJ G X _ 0 0 _ _ []
  cases hf
  exact jr_vret K E (D_at DX8_copyFrom_1 12 rfl) rfl ⟨rfl, rfl⟩
theorem C_X8_copyFrom {G : jG} {l : Launch} (d : Nat) {n : Nat} {a0 : Nat} {a1 : Nat} {h : jH} {res : jH} (hf : F_X8_copyFrom n a0 a1 h = some res) : jC G l mX8_copyFrom (d + 2) 0 0 [.ref a0, .ref a1] h (jPV res) :=
  jC.of (by decide +kernel) (jcats rfl) (Nat.le_of_ble_eq_true rfl) (fun X K E => J_X8_copyFrom K n E a0 a1 h hf)
set_option maxHeartbeats 4000000 in
set_option maxRecDepth 100000 in
theorem J_X8_goTogether {G : jG} {l : Launch} {d : Nat} {X : jX} {res : Int32} (K : jOK G l mX8_goTogether (d) X) (n : Nat) (h : jH) (E : jEnd G mX8_goTogether (jPR h res) X) (a0 : Nat) (x1 : Int32) (x2 : Int32) (hf : F_X8_goTogether n a0 x1 x2 h = some res) : jJ G X h 0 0 0 [some (.ref a0), some (.int x1), some (.int x2), none] [] := by
  unfold F_X8_goTogether at hf
  refine jr_aload_n K (D_at DX8_goTogether 0 rfl) rfl rfl ?_
  obtain ⟨p1, e1, hf⟩ := jbind hf
  refine jr_getR K (D_at DX8_goTogether 1 rfl) fg_X8_9_6 e1 ?_
  refine jr_iload_n K (D_at DX8_goTogether 2 rfl) rfl rfl ?_
  refine jr_iconst K (D_at DX8_goTogether 3 rfl) (v := (1 : Int32)) (by decide) ?_
  refine jr_iadd K (D_at DX8_goTogether 4 rfl) ?_
  obtain ⟨v7, e7, hf⟩ := jbind hf
  refine jr_iald K (D_at DX8_goTogether 5 rfl) e7 ?_
  refine jr_aload_n K (D_at DX8_goTogether 6 rfl) rfl rfl ?_
  obtain ⟨p9, e9, hf⟩ := jbind hf
  refine jr_getR K (D_at DX8_goTogether 7 rfl) fg_X8_9_6 e9 ?_
  refine jr_iload_n K (D_at DX8_goTogether 8 rfl) rfl rfl ?_
  obtain ⟨v13, e13, hf⟩ := jbind hf
  refine jr_iald K (D_at DX8_goTogether 9 rfl) e13 ?_
  refine jr_isub K (D_at DX8_goTogether 10 rfl) ?_
  refine jr_istore_n K (D_at DX8_goTogether 11 rfl) (i := 3) rfl (by decide) (L2 := [_, _, _, _]) rfl ?_
  refine jr_aload_n K (D_at DX8_goTogether 12 rfl) rfl rfl ?_
  obtain ⟨v17, e17, hf⟩ := jbind hf
  refine jr_getI K (D_at DX8_goTogether 13 rfl) fg_X8_82_6 e17 ?_
  refine jr_iload_n K (D_at DX8_goTogether 14 rfl) rfl rfl ?_
  refine jr_iushr K (D_at DX8_goTogether 15 rfl) (v := jushr v17 x1) rfl ?_
  refine jr_iconst K (D_at DX8_goTogether 16 rfl) (v := (1 : Int32)) (by decide) ?_
  refine jr_iand K (D_at DX8_goTogether 17 rfl) ?_
  refine jr_iconst K (D_at DX8_goTogether 18 rfl) (v := (1 : Int32)) (by decide) ?_
  refine jr_icmp_eq K (D_at DX8_goTogether 19 rfl) (tgt := 52) (by decide) (fun c25 => ?_) (fun c25 => ?_)
  · replace hf := (if_pos c25).symm.trans hf
    refine jr_iconst K (D_at DX8_goTogether 34 rfl) (v := (1 : Int32)) (by decide) ?_
    refine jr_goto K (D_at DX8_goTogether 35 rfl) (tgt := 57) (by decide) ?_
    cases hf
    exact jr_zret K E (D_at DX8_goTogether 37 rfl) rfl (Or.inr rfl) ⟨rfl, rfl⟩
  · replace hf := (if_neg c25).symm.trans hf
    refine jr_iload_n K (D_at DX8_goTogether 20 rfl) rfl rfl ?_
    refine jr_if_eq K (D_at DX8_goTogether 21 rfl) (tgt := 40) (by decide) (fun c29 => ?_) (fun c29 => ?_)
    · replace hf := (if_pos c29).symm.trans hf
      refine jr_iload_n K (D_at DX8_goTogether 26 rfl) rfl rfl ?_
      refine jr_iconst K (D_at DX8_goTogether 27 rfl) (v := (1 : Int32)) (by decide) ?_
      refine jr_iadd K (D_at DX8_goTogether 28 rfl) ?_
      refine jr_aload_n K (D_at DX8_goTogether 29 rfl) rfl rfl ?_
      obtain ⟨p44, e44, hf⟩ := jbind hf
      refine jr_getR K (D_at DX8_goTogether 30 rfl) fg_X8_15_6 e44 ?_
      refine jr_iload_n K (D_at DX8_goTogether 31 rfl) rfl rfl ?_
      obtain ⟨v48, e48, hf⟩ := jbind hf
      refine jr_iald K (D_at DX8_goTogether 32 rfl) e48 ?_
      refine jr_icmp_le K (D_at DX8_goTogether 33 rfl) (tgt := 56) (by decide) (fun c49 => ?_) (fun c49 => ?_)
      · replace hf := (if_pos c49).symm.trans hf
        refine jr_iconst K (D_at DX8_goTogether 36 rfl) (v := (0 : Int32)) (by decide) ?_
        cases hf
        exact jr_zret K E (D_at DX8_goTogether 37 rfl) rfl (Or.inl rfl) ⟨rfl, rfl⟩
      · replace hf := (if_neg c49).symm.trans hf
        refine jr_iconst K (D_at DX8_goTogether 34 rfl) (v := (1 : Int32)) (by decide) ?_
        refine jr_goto K (D_at DX8_goTogether 35 rfl) (tgt := 57) (by decide) ?_
        cases hf
        exact jr_zret K E (D_at DX8_goTogether 37 rfl) rfl (Or.inr rfl) ⟨rfl, rfl⟩
    · replace hf := (if_neg c29).symm.trans hf
      refine jr_iload_n K (D_at DX8_goTogether 22 rfl) rfl rfl ?_
      refine jr_iconst K (D_at DX8_goTogether 23 rfl) (v := (1 : Int32)) (by decide) ?_
      refine jr_icmp_ne K (D_at DX8_goTogether 24 rfl) (tgt := 56) (by decide) (fun c34 => ?_) (fun c34 => ?_)
      · replace hf := (if_neg c34).symm.trans hf
        refine jr_iconst K (D_at DX8_goTogether 36 rfl) (v := (0 : Int32)) (by decide) ?_
        cases hf
        exact jr_zret K E (D_at DX8_goTogether 37 rfl) rfl (Or.inl rfl) ⟨rfl, rfl⟩
      · replace hf := (if_pos c34).symm.trans hf
        refine jr_goto K (D_at DX8_goTogether 25 rfl) (tgt := 52) (by decide) ?_
        refine jr_iconst K (D_at DX8_goTogether 34 rfl) (v := (1 : Int32)) (by decide) ?_
        refine jr_goto K (D_at DX8_goTogether 35 rfl) (tgt := 57) (by decide) ?_
        cases hf
        exact jr_zret K E (D_at DX8_goTogether 37 rfl) rfl (Or.inr rfl) ⟨rfl, rfl⟩
theorem C_X8_goTogether {G : jG} {l : Launch} (d : Nat) {n : Nat} {a0 : Nat} {x1 : Int32} {x2 : Int32} {h : jH} {res : Int32} (hf : F_X8_goTogether n a0 x1 x2 h = some res) : jC G l mX8_goTogether (d) 0 0 [.ref a0, .int x1, .int x2] h (jPR h res) :=
  jC.of (by decide +kernel) (jcats rfl) (Nat.le_of_ble_eq_true rfl) (fun X K E => J_X8_goTogether K n h E a0 x1 x2 hf)
set_option maxHeartbeats 4000000 in
set_option maxRecDepth 100000 in
theorem J_X8_isStopped_16 {G : jG} {l : Launch} {d : Nat} {X : jX} {res : Int32} (K : jOK G l mX8_isStopped (d) X) (n : Nat) (h : jH) (E : jEnd G mX8_isStopped (jPR h res) X) (a0 : Nat) (x1 : Int32) (x2 : Int32) (s0 : Int32) (s1 : Int32) (hf : F_X8_isStopped_16 n a0 x1 x2 s0 s1 h = some res) : jJ G X h 0 0 16 [some (.ref a0), some (.int x1), some (.int x2)] [.int s1, .int s0] := by
  unfold F_X8_isStopped_16 at hf
  refine jr_icmp_ne K (D_at DX8_isStopped 9 rfl) (tgt := 21) (by decide) (fun c16 => ?_) (fun c16 => ?_)
  · replace hf := (if_neg c16).symm.trans hf
    refine jr_aload_n K (D_at DX8_isStopped 12 rfl) rfl rfl ?_
    obtain ⟨v22, e22, hf⟩ := jbind hf
    refine jr_getI K (D_at DX8_isStopped 13 rfl) fg_X8_54_6 e22 ?_
    refine jr_iload_n K (D_at DX8_isStopped 14 rfl) rfl rfl ?_
    refine jr_iushr K (D_at DX8_isStopped 15 rfl) (v := jushr v22 x1) rfl ?_
    refine jr_iconst K (D_at DX8_isStopped 16 rfl) (v := (1 : Int32)) (by decide) ?_
    refine jr_iand K (D_at DX8_isStopped 17 rfl) ?_
    refine jr_iconst K (D_at DX8_isStopped 18 rfl) (v := (1 : Int32)) (by decide) ?_
    refine jr_icmp_ne K (D_at DX8_isStopped 19 rfl) (tgt := 63) (by decide) (fun c30 => ?_) (fun c30 => ?_)
    · replace hf := (if_neg c30).symm.trans hf
      refine jr_iconst K (D_at DX8_isStopped 36 rfl) (v := (0 : Int32)) (by decide) ?_
      cases hf
      exact jr_zret K E (D_at DX8_isStopped 37 rfl) rfl (Or.inl rfl) ⟨rfl, rfl⟩
    · replace hf := (if_pos c30).symm.trans hf
      refine jr_aload_n K (D_at DX8_isStopped 20 rfl) rfl rfl ?_
      obtain ⟨p34, e34, hf⟩ := jbind hf
      refine jr_getR K (D_at DX8_isStopped 21 rfl) fg_X8_9_6 e34 ?_
      refine jr_iload_n K (D_at DX8_isStopped 22 rfl) rfl rfl ?_
      obtain ⟨v38, e38, hf⟩ := jbind hf
      refine jr_iald K (D_at DX8_isStopped 23 rfl) e38 ?_
      refine jr_iload_n K (D_at DX8_isStopped 24 rfl) rfl rfl ?_
      refine jr_if_eq K (D_at DX8_isStopped 25 rfl) (tgt := 52) (by decide) (fun c40 => ?_) (fun c40 => ?_)
      · replace hf := (if_pos c40).symm.trans hf
        refine jr_aload_n K (D_at DX8_isStopped 31 rfl) rfl rfl ?_
        obtain ⟨v53, e53, hf⟩ := jbind hf
        refine jr_getI K (D_at DX8_isStopped 32 rfl) fg_X8_31_6 e53 ?_
        refine jr_icmp_ne K (D_at DX8_isStopped 33 rfl) (tgt := 63) (by decide) (fun c56 => ?_) (fun c56 => ?_)
        · replace hf := (if_neg c56).symm.trans hf
          refine jr_iconst K (D_at DX8_isStopped 36 rfl) (v := (0 : Int32)) (by decide) ?_
          cases hf
          exact jr_zret K E (D_at DX8_isStopped 37 rfl) rfl (Or.inl rfl) ⟨rfl, rfl⟩
        · replace hf := (if_pos c56).symm.trans hf
          refine jr_iconst K (D_at DX8_isStopped 34 rfl) (v := (1 : Int32)) (by decide) ?_
          refine jr_goto K (D_at DX8_isStopped 35 rfl) (tgt := 64) (by decide) ?_
          cases hf
          exact jr_zret K E (D_at DX8_isStopped 37 rfl) rfl (Or.inr rfl) ⟨rfl, rfl⟩
      · replace hf := (if_neg c40).symm.trans hf
        refine jr_aload_n K (D_at DX8_isStopped 26 rfl) rfl rfl ?_
        obtain ⟨v44, e44, hf⟩ := jbind hf
        refine jr_getI K (D_at DX8_isStopped 27 rfl) fg_X8_31_6 e44 ?_
        refine jr_iconst K (D_at DX8_isStopped 28 rfl) (v := (1 : Int32)) (by decide) ?_
        refine jr_isub K (D_at DX8_isStopped 29 rfl) ?_
        refine jr_goto K (D_at DX8_isStopped 30 rfl) (tgt := 56) (by decide) ?_
        refine jr_icmp_ne K (D_at DX8_isStopped 33 rfl) (tgt := 63) (by decide) (fun c56 => ?_) (fun c56 => ?_)
        · replace hf := (if_neg c56).symm.trans hf
          refine jr_iconst K (D_at DX8_isStopped 36 rfl) (v := (0 : Int32)) (by decide) ?_
          cases hf
          exact jr_zret K E (D_at DX8_isStopped 37 rfl) rfl (Or.inl rfl) ⟨rfl, rfl⟩
        · replace hf := (if_pos c56).symm.trans hf
          refine jr_iconst K (D_at DX8_isStopped 34 rfl) (v := (1 : Int32)) (by decide) ?_
          refine jr_goto K (D_at DX8_isStopped 35 rfl) (tgt := 64) (by decide) ?_
          cases hf
          exact jr_zret K E (D_at DX8_isStopped 37 rfl) rfl (Or.inr rfl) ⟨rfl, rfl⟩
  · replace hf := (if_pos c16).symm.trans hf
    refine jr_iconst K (D_at DX8_isStopped 10 rfl) (v := (1 : Int32)) (by decide) ?_
    cases hf
    exact jr_zret K E (D_at DX8_isStopped 11 rfl) rfl (Or.inr rfl) ⟨rfl, rfl⟩
set_option maxHeartbeats 4000000 in
set_option maxRecDepth 100000 in
theorem J_X8_isStopped {G : jG} {l : Launch} {d : Nat} {X : jX} {res : Int32} (K : jOK G l mX8_isStopped (d) X) (n : Nat) (h : jH) (E : jEnd G mX8_isStopped (jPR h res) X) (a0 : Nat) (x1 : Int32) (x2 : Int32) (hf : F_X8_isStopped n a0 x1 x2 h = some res) : jJ G X h 0 0 0 [some (.ref a0), some (.int x1), some (.int x2)] [] := by
  unfold F_X8_isStopped at hf
  refine jr_aload_n K (D_at DX8_isStopped 0 rfl) rfl rfl ?_
  obtain ⟨p1, e1, hf⟩ := jbind hf
  refine jr_getR K (D_at DX8_isStopped 1 rfl) fg_X8_9_6 e1 ?_
  refine jr_iload_n K (D_at DX8_isStopped 2 rfl) rfl rfl ?_
  obtain ⟨v5, e5, hf⟩ := jbind hf
  refine jr_iald K (D_at DX8_isStopped 3 rfl) e5 ?_
  refine jr_iload_n K (D_at DX8_isStopped 4 rfl) rfl rfl ?_
  refine jr_if_eq K (D_at DX8_isStopped 5 rfl) (tgt := 15) (by decide) (fun c7 => ?_) (fun c7 => ?_)
  · replace hf := (if_pos c7).symm.trans hf
    refine jr_iconst K (D_at DX8_isStopped 8 rfl) (v := (0 : Int32)) (by decide) ?_
    refine jr_keep [true, true, true] ?_
    exact J_X8_isStopped_16 K n h E a0 x1 x2 v5 (0 : Int32) hf
  · replace hf := (if_neg c7).symm.trans hf
    refine jr_bipush K (D_at DX8_isStopped 6 rfl) (v := (31 : Int32)) (by decide) ?_
    refine jr_goto K (D_at DX8_isStopped 7 rfl) (tgt := 16) (by decide) ?_
    refine jr_keep [true, true, true] ?_
    exact J_X8_isStopped_16 K n h E a0 x1 x2 v5 (31 : Int32) hf
theorem C_X8_isStopped {G : jG} {l : Launch} (d : Nat) {n : Nat} {a0 : Nat} {x1 : Int32} {x2 : Int32} {h : jH} {res : Int32} (hf : F_X8_isStopped n a0 x1 x2 h = some res) : jC G l mX8_isStopped (d) 0 0 [.ref a0, .int x1, .int x2] h (jPR h res) :=
  jC.of (by decide +kernel) (jcats rfl) (Nat.le_of_ble_eq_true rfl) (fun X K E => J_X8_isStopped K n h E a0 x1 x2 hf)
set_option maxHeartbeats 4000000 in
set_option maxRecDepth 100000 in
theorem J_X8_goers_64_b {G : jG} {l : Launch} {d : Nat} {X : jX} {res : Int32} (K : jOK G l mX8_goers (d + 1) X) (n : Nat) (h : jH) (rc64 : Nat → Int32 → Int32 → Int32 → Int32 → jH → Option Int32) (hr64 : ∀ (a0 : Nat) (x2 : Int32) (x3 : Int32) (x4 : Int32) (x5 : Int32), rc64 a0 x2 x3 x4 x5 h = some res → jJ G X h 0 0 64 [some (.ref a0), none, some (.int x2), some (.int x3), some (.int x4), some (.int x5)] []) (E : jEnd G mX8_goers (jPR h res) X) (a0 : Nat) (x2 : Int32) (x3 : Int32) (x4 : Int32) (x5 : Int32) (hf : F_X8_goers_64_b n rc64 a0 x2 x3 x4 x5 h = some res) : jJ G X h 0 0 64 [some (.ref a0), none, some (.int x2), some (.int x3), some (.int x4), some (.int x5)] [] := by
  unfold F_X8_goers_64_b at hf
  refine jr_iload K (D_at DX8_goers 34 rfl) rfl ?_
  refine jr_iload K (D_at DX8_goers 35 rfl) rfl ?_
  refine jr_icmp_gt K (D_at DX8_goers 36 rfl) (tgt := 89) (by decide) (fun c68 => ?_) (fun c68 => ?_)
  · replace hf := (if_pos c68).symm.trans hf
    refine jr_iconst K (D_at DX8_goers 46 rfl) (v := (1 : Int32)) (by decide) ?_
    refine jr_iload K (D_at DX8_goers 47 rfl) rfl ?_
    refine jr_iconst K (D_at DX8_goers 48 rfl) (v := (1 : Int32)) (by decide) ?_
    refine jr_iadd K (D_at DX8_goers 49 rfl) ?_
    refine jr_ishl K (D_at DX8_goers 50 rfl) ?_
    refine jr_iconst K (D_at DX8_goers 51 rfl) (v := (1 : Int32)) (by decide) ?_
    refine jr_iload_n K (D_at DX8_goers 52 rfl) rfl rfl ?_
    refine jr_ishl K (D_at DX8_goers 53 rfl) ?_
    refine jr_isub K (D_at DX8_goers 54 rfl) ?_
    cases hf
    exact jr_iret K E (D_at DX8_goers 55 rfl) rfl ⟨rfl, rfl⟩
  · replace hf := (if_neg c68).symm.trans hf
    refine jr_aload_n K (D_at DX8_goers 37 rfl) rfl rfl ?_
    refine jr_iload K (D_at DX8_goers 38 rfl) rfl ?_
    refine jr_iload_n K (D_at DX8_goers 39 rfl) rfl rfl ?_
    obtain ⟨v75, e75, hf⟩ := jbind hf
    obtain ⟨rc_75, e75⟩ := jcv_o e75
    refine jr_callV K (C_X8_isStopped (d) e75) (D_at DX8_goers 40 rfl) cv_X8_112_X8_isStopped (As := [.int x5, .int x2]) (ci := 6) rfl rc_75 rfl rfl (by exact Nat.le_of_ble_eq_true rfl) (kc2 := 0) (ks2 := 0) rfl rfl (fun k9 h9 w9 => by cases w9.1) (fun r9 h9 w9 => ?_)
    obtain ⟨w1, w2⟩ := w9
    subst h9
    cases w1
    show jJ G X _ 0 0 _ _ (.int v75 :: _)
    refine jr_if_eq K (D_at DX8_goers 41 rfl) (tgt := 83) (by decide) (fun c78 => ?_) (fun c78 => ?_)
    · replace hf := (if_pos c78).symm.trans hf
      refine jr_iinc K (D_at DX8_goers 44 rfl) (i := 5) rfl (v := x5 + (1 : Int32)) (jinc (by decide)) (by decide) (L2 := [_, _, _, _, _, _]) rfl ?_
      refine jr_goto K (D_at DX8_goers 45 rfl) (tgt := 64) (by decide) ?_
      refine jr_keep [true, false, true, true, true, true] ?_
      exact hr64 a0 x2 x3 x4 (x5 + (1 : Int32)) hf
    · replace hf := (if_neg c78).symm.trans hf
      refine jr_iconst K (D_at DX8_goers 42 rfl) (v := (0 : Int32)) (by decide) ?_
      cases hf
      exact jr_iret K E (D_at DX8_goers 43 rfl) rfl ⟨rfl, rfl⟩
theorem J_X8_goers_64 {G : jG} {l : Launch} {d : Nat} {X : jX} {res : Int32} (K : jOK G l mX8_goers (d + 1) X) (n : Nat) (h : jH) (E : jEnd G mX8_goers (jPR h res) X) (k : Nat) : ∀ (a0 : Nat) (x2 : Int32) (x3 : Int32) (x4 : Int32) (x5 : Int32), F_X8_goers_64 n k a0 x2 x3 x4 x5 h = some res → jJ G X h 0 0 64 [some (.ref a0), none, some (.int x2), some (.int x3), some (.int x4), some (.int x5)] [] := by
  induction k with
  | zero =>
    intro a0 x2 x3 x4 x5 hf
    exact jno (show (none : Option Int32) = some res from hf)
  | succ k ih =>
    intro a0 x2 x3 x4 x5 hf
    exact J_X8_goers_64_b K n h (F_X8_goers_64 n k) ih E a0 x2 x3 x4 x5 hf
set_option maxHeartbeats 4000000 in
set_option maxRecDepth 100000 in
theorem J_X8_goers_49 {G : jG} {l : Launch} {d : Nat} {X : jX} {res : Int32} (K : jOK G l mX8_goers (d + 1) X) (n : Nat) (h : jH) (rc32 : Nat → Int32 → Int32 → Int32 → jH → Option Int32) (hr32 : ∀ (a0 : Nat) (x2 : Int32) (x3 : Int32) (x4 : Int32), rc32 a0 x2 x3 x4 h = some res → jJ G X h 0 0 32 [some (.ref a0), none, some (.int x2), some (.int x3), some (.int x4), none] []) (E : jEnd G mX8_goers (jPR h res) X) (a0 : Nat) (x2 : Int32) (x3 : Int32) (x4 : Int32) (sa0 : Nat) (s1 : Int32) (s2 : Int32) (hf : F_X8_goers_49 n rc32 a0 x2 x3 x4 sa0 s1 s2 h = some res) : jJ G X h 0 0 49 [some (.ref a0), none, some (.int x2), some (.int x3), some (.int x4), none] [.int s2, .int s1, .ref sa0] := by
  unfold F_X8_goers_49 at hf
  obtain ⟨v49, e49, hf⟩ := jbind hf
  obtain ⟨rc_49, e49⟩ := jcv_o e49
  refine jr_callV K (C_X8_goTogether (d) e49) (D_at DX8_goers 28 rfl) cv_X8_108_X8_goTogether (As := [.int s1, .int s2]) (ci := 6) rfl rc_49 rfl rfl (by exact Nat.le_of_ble_eq_true rfl) (kc2 := 0) (ks2 := 0) rfl rfl (fun k9 h9 w9 => by cases w9.1) (fun r9 h9 w9 => ?_)
  obtain ⟨w1, w2⟩ := w9
  subst h9
  cases w1
  show jJ G X _ 0 0 _ _ (.int v49 :: _)
  refine jr_if_eq K (D_at DX8_goers 29 rfl) (tgt := 61) (by decide) (fun c52 => ?_) (fun c52 => ?_)
  · replace hf := (if_pos c52).symm.trans hf
    refine jr_iload_n K (D_at DX8_goers 32 rfl) rfl rfl ?_
    refine jr_istore K (D_at DX8_goers 33 rfl) (i := 5) (by decide) (L2 := [_, _, _, _, _, _]) rfl ?_
    refine jr_keep [true, false, true, true, true, true] ?_
    exact J_X8_goers_64 K n h E n a0 x2 x3 x4 x3 hf
  · replace hf := (if_neg c52).symm.trans hf
    refine jr_iinc K (D_at DX8_goers 30 rfl) (i := 3) rfl (v := x3 + (-1 : Int32)) (jinc (by decide)) (by decide) (L2 := [_, _, _, _, _, _]) rfl ?_
    refine jr_goto K (D_at DX8_goers 31 rfl) (tgt := 32) (by decide) ?_
    refine jr_keep [true, false, true, true, true, false] ?_
    exact hr32 a0 x2 (x3 + (-1 : Int32)) x4 hf
set_option maxHeartbeats 4000000 in
set_option maxRecDepth 100000 in
theorem J_X8_goers_32_b {G : jG} {l : Launch} {d : Nat} {X : jX} {res : Int32} (K : jOK G l mX8_goers (d + 1) X) (n : Nat) (h : jH) (rc32 : Nat → Int32 → Int32 → Int32 → jH → Option Int32) (hr32 : ∀ (a0 : Nat) (x2 : Int32) (x3 : Int32) (x4 : Int32), rc32 a0 x2 x3 x4 h = some res → jJ G X h 0 0 32 [some (.ref a0), none, some (.int x2), some (.int x3), some (.int x4), none] []) (E : jEnd G mX8_goers (jPR h res) X) (a0 : Nat) (x2 : Int32) (x3 : Int32) (x4 : Int32) (hf : F_X8_goers_32_b n rc32 a0 x2 x3 x4 h = some res) : jJ G X h 0 0 32 [some (.ref a0), none, some (.int x2), some (.int x3), some (.int x4), none] [] := by
  unfold F_X8_goers_32_b at hf
  refine jr_iload_n K (D_at DX8_goers 17 rfl) rfl rfl ?_
  refine jr_if_le K (D_at DX8_goers 18 rfl) (tgt := 61) (by decide) (fun c33 => ?_) (fun c33 => ?_)
  · replace hf := (if_pos c33).symm.trans hf
    refine jr_iload_n K (D_at DX8_goers 32 rfl) rfl rfl ?_
    refine jr_istore K (D_at DX8_goers 33 rfl) (i := 5) (by decide) (L2 := [_, _, _, _, _, _]) rfl ?_
    refine jr_keep [true, false, true, true, true, true] ?_
    exact J_X8_goers_64 K n h E n a0 x2 x3 x4 x3 hf
  · replace hf := (if_neg c33).symm.trans hf
    refine jr_aload_n K (D_at DX8_goers 19 rfl) rfl rfl ?_
    refine jr_iload_n K (D_at DX8_goers 20 rfl) rfl rfl ?_
    refine jr_iconst K (D_at DX8_goers 21 rfl) (v := (1 : Int32)) (by decide) ?_
    refine jr_isub K (D_at DX8_goers 22 rfl) ?_
    refine jr_iload_n K (D_at DX8_goers 23 rfl) rfl rfl ?_
    refine jr_if_ne K (D_at DX8_goers 24 rfl) (tgt := 48) (by decide) (fun c41 => ?_) (fun c41 => ?_)
    · replace hf := (if_neg c41).symm.trans hf
      refine jr_iconst K (D_at DX8_goers 27 rfl) (v := (0 : Int32)) (by decide) ?_
      refine jr_keep [true, false, true, true, true, false] ?_
      exact J_X8_goers_49 K n h rc32 hr32 E a0 x2 x3 x4 a0 (x3 - (1 : Int32)) (0 : Int32) hf
    · replace hf := (if_pos c41).symm.trans hf
      refine jr_iconst K (D_at DX8_goers 25 rfl) (v := (1 : Int32)) (by decide) ?_
      refine jr_goto K (D_at DX8_goers 26 rfl) (tgt := 49) (by decide) ?_
      refine jr_keep [true, false, true, true, true, false] ?_
      exact J_X8_goers_49 K n h rc32 hr32 E a0 x2 x3 x4 a0 (x3 - (1 : Int32)) (1 : Int32) hf
theorem J_X8_goers_32 {G : jG} {l : Launch} {d : Nat} {X : jX} {res : Int32} (K : jOK G l mX8_goers (d + 1) X) (n : Nat) (h : jH) (E : jEnd G mX8_goers (jPR h res) X) (k : Nat) : ∀ (a0 : Nat) (x2 : Int32) (x3 : Int32) (x4 : Int32), F_X8_goers_32 n k a0 x2 x3 x4 h = some res → jJ G X h 0 0 32 [some (.ref a0), none, some (.int x2), some (.int x3), some (.int x4), none] [] := by
  induction k with
  | zero =>
    intro a0 x2 x3 x4 hf
    exact jno (show (none : Option Int32) = some res from hf)
  | succ k ih =>
    intro a0 x2 x3 x4 hf
    exact J_X8_goers_32_b K n h (F_X8_goers_32 n k) ih E a0 x2 x3 x4 hf
set_option maxHeartbeats 4000000 in
set_option maxRecDepth 100000 in
theorem J_X8_goers_5_b {G : jG} {l : Launch} {d : Nat} {X : jX} {res : Int32} (K : jOK G l mX8_goers (d + 1) X) (n : Nat) (h : jH) (rc5 : Nat → Int32 → Int32 → Int32 → jH → Option Int32) (hr5 : ∀ (a0 : Nat) (x2 : Int32) (x3 : Int32) (x4 : Int32), rc5 a0 x2 x3 x4 h = some res → jJ G X h 0 0 5 [some (.ref a0), none, some (.int x2), some (.int x3), some (.int x4), none] []) (E : jEnd G mX8_goers (jPR h res) X) (a0 : Nat) (x2 : Int32) (x3 : Int32) (x4 : Int32) (hf : F_X8_goers_5_b n rc5 a0 x2 x3 x4 h = some res) : jJ G X h 0 0 5 [some (.ref a0), none, some (.int x2), some (.int x3), some (.int x4), none] [] := by
  unfold F_X8_goers_5_b at hf
  refine jr_iload K (D_at DX8_goers 4 rfl) rfl ?_
  refine jr_iconst K (D_at DX8_goers 5 rfl) (v := (1 : Int32)) (by decide) ?_
  refine jr_iadd K (D_at DX8_goers 6 rfl) ?_
  refine jr_aload_n K (D_at DX8_goers 7 rfl) rfl rfl ?_
  obtain ⟨v10, e10, hf⟩ := jbind hf
  refine jr_getI K (D_at DX8_goers 8 rfl) fg_X8_51_6 e10 ?_
  refine jr_icmp_ge K (D_at DX8_goers 9 rfl) (tgt := 32) (by decide) (fun c13 => ?_) (fun c13 => ?_)
  · replace hf := (if_pos c13).symm.trans hf
    refine jr_keep [true, false, true, true, true, false] ?_
    exact J_X8_goers_32 K n h E n a0 x2 x3 x4 hf
  · replace hf := (if_neg c13).symm.trans hf
    refine jr_aload_n K (D_at DX8_goers 10 rfl) rfl rfl ?_
    refine jr_iload K (D_at DX8_goers 11 rfl) rfl ?_
    refine jr_iload_n K (D_at DX8_goers 12 rfl) rfl rfl ?_
    obtain ⟨v20, e20, hf⟩ := jbind hf
    obtain ⟨rc_20, e20⟩ := jcv_o e20
    refine jr_callV K (C_X8_goTogether (d) e20) (D_at DX8_goers 13 rfl) cv_X8_108_X8_goTogether (As := [.int x4, .int x2]) (ci := 6) rfl rc_20 rfl rfl (by exact Nat.le_of_ble_eq_true rfl) (kc2 := 0) (ks2 := 0) rfl rfl (fun k9 h9 w9 => by cases w9.1) (fun r9 h9 w9 => ?_)
    obtain ⟨w1, w2⟩ := w9
    subst h9
    cases w1
    show jJ G X _ 0 0 _ _ (.int v20 :: _)
    refine jr_if_eq K (D_at DX8_goers 14 rfl) (tgt := 32) (by decide) (fun c23 => ?_) (fun c23 => ?_)
    · replace hf := (if_pos c23).symm.trans hf
      refine jr_keep [true, false, true, true, true, false] ?_
      exact J_X8_goers_32 K n h E n a0 x2 x3 x4 hf
    · replace hf := (if_neg c23).symm.trans hf
      refine jr_iinc K (D_at DX8_goers 15 rfl) (i := 4) rfl (v := x4 + (1 : Int32)) (jinc (by decide)) (by decide) (L2 := [_, _, _, _, _, _]) rfl ?_
      refine jr_goto K (D_at DX8_goers 16 rfl) (tgt := 5) (by decide) ?_
      refine jr_keep [true, false, true, true, true, false] ?_
      exact hr5 a0 x2 x3 (x4 + (1 : Int32)) hf
theorem J_X8_goers_5 {G : jG} {l : Launch} {d : Nat} {X : jX} {res : Int32} (K : jOK G l mX8_goers (d + 1) X) (n : Nat) (h : jH) (E : jEnd G mX8_goers (jPR h res) X) (k : Nat) : ∀ (a0 : Nat) (x2 : Int32) (x3 : Int32) (x4 : Int32), F_X8_goers_5 n k a0 x2 x3 x4 h = some res → jJ G X h 0 0 5 [some (.ref a0), none, some (.int x2), some (.int x3), some (.int x4), none] [] := by
  induction k with
  | zero =>
    intro a0 x2 x3 x4 hf
    exact jno (show (none : Option Int32) = some res from hf)
  | succ k ih =>
    intro a0 x2 x3 x4 hf
    exact J_X8_goers_5_b K n h (F_X8_goers_5 n k) ih E a0 x2 x3 x4 hf
set_option maxHeartbeats 4000000 in
set_option maxRecDepth 100000 in
theorem J_X8_goers {G : jG} {l : Launch} {d : Nat} {X : jX} {res : Int32} (K : jOK G l mX8_goers (d + 1) X) (n : Nat) (h : jH) (E : jEnd G mX8_goers (jPR h res) X) (a0 : Nat) (x1 : Int32) (x2 : Int32) (hf : F_X8_goers n a0 x1 x2 h = some res) : jJ G X h 0 0 0 [some (.ref a0), some (.int x1), some (.int x2), none, none, none] [] := by
  unfold F_X8_goers at hf
  refine jr_iload_n K (D_at DX8_goers 0 rfl) rfl rfl ?_
  refine jr_istore_n K (D_at DX8_goers 1 rfl) (i := 3) rfl (by decide) (L2 := [_, _, _, _, _, _]) rfl ?_
  refine jr_iload_n K (D_at DX8_goers 2 rfl) rfl rfl ?_
  refine jr_istore K (D_at DX8_goers 3 rfl) (i := 4) (by decide) (L2 := [_, _, _, _, _, _]) rfl ?_
  refine jr_keep [true, false, true, true, true, false] ?_
  exact J_X8_goers_5 K n h E n a0 x2 x1 x1 hf
theorem C_X8_goers {G : jG} {l : Launch} (d : Nat) {n : Nat} {a0 : Nat} {x1 : Int32} {x2 : Int32} {h : jH} {res : Int32} (hf : F_X8_goers n a0 x1 x2 h = some res) : jC G l mX8_goers (d + 1) 0 0 [.ref a0, .int x1, .int x2] h (jPR h res) :=
  jC.of (by decide +kernel) (jcats rfl) (Nat.le_of_ble_eq_true rfl) (fun X K E => J_X8_goers K n h E a0 x1 x2 hf)
set_option maxHeartbeats 4000000 in
set_option maxRecDepth 100000 in
theorem J_X11_bit {G : jG} {l : Launch} {d : Nat} {X : jX} {res : Int32} (K : jOK G l mX11_bit (d) X) (n : Nat) (h : jH) (E : jEnd G mX11_bit (jPR h res) X) (x0 : Int32) (x1 : Int32) (hf : F_X11_bit n x0 x1 h = some res) : jJ G X h 0 0 0 [some (.int x0), some (.int x1)] [] := by
  unfold F_X11_bit at hf
  refine jr_iload_n K (D_at DX11_bit 0 rfl) rfl rfl ?_
  refine jr_iload_n K (D_at DX11_bit 1 rfl) rfl rfl ?_
  refine jr_iushr K (D_at DX11_bit 2 rfl) (v := jushr x0 x1) rfl ?_
  refine jr_iconst K (D_at DX11_bit 3 rfl) (v := (1 : Int32)) (by decide) ?_
  refine jr_iand K (D_at DX11_bit 4 rfl) ?_
  cases hf
  exact jr_iret K E (D_at DX11_bit 5 rfl) rfl ⟨rfl, rfl⟩
theorem C_X11_bit {G : jG} {l : Launch} (d : Nat) {n : Nat} {x0 : Int32} {x1 : Int32} {h : jH} {res : Int32} (hf : F_X11_bit n x0 x1 h = some res) : jC G l mX11_bit (d) 0 0 [.int x0, .int x1] h (jPR h res) :=
  jC.of (by decide +kernel) (jcats rfl) (Nat.le_of_ble_eq_true rfl) (fun X K E => J_X11_bit K n h E x0 x1 hf)
set_option maxHeartbeats 4000000 in
set_option maxRecDepth 100000 in
theorem J_J6_bitCount_0f7a4 {G : jG} {l : Launch} {d : Nat} {X : jX} {res : Int32} (K : jOK G l mJ6_bitCount_0f7a4 (d) X) (n : Nat) (h : jH) (E : jEnd G mJ6_bitCount_0f7a4 (jPR h res) X) (x0 : Int32) (hf : F_J6_bitCount_0f7a4 n x0 h = some res) : jJ G X h 0 0 0 [some (.int x0)] [] := by
  unfold F_J6_bitCount_0f7a4 at hf
  refine jr_iload_n K (D_at DJ6_bitCount_0f7a4 0 rfl) rfl rfl ?_
  refine jr_iload_n K (D_at DJ6_bitCount_0f7a4 1 rfl) rfl rfl ?_
  refine jr_iconst K (D_at DJ6_bitCount_0f7a4 2 rfl) (v := (1 : Int32)) (by decide) ?_
  refine jr_iushr K (D_at DJ6_bitCount_0f7a4 3 rfl) (v := jushr x0 (1 : Int32)) rfl ?_
  refine jr_ldcw K (D_at DJ6_bitCount_0f7a4 4 rfl) (v := (1431655765 : Int32)) kc_J6_265 ?_
  refine jr_iand K (D_at DJ6_bitCount_0f7a4 5 rfl) ?_
  refine jr_isub K (D_at DJ6_bitCount_0f7a4 6 rfl) ?_
  refine jr_istore_n K (D_at DJ6_bitCount_0f7a4 7 rfl) (i := 0) rfl (by decide) (L2 := [_]) rfl ?_
  refine jr_iload_n K (D_at DJ6_bitCount_0f7a4 8 rfl) rfl rfl ?_
  refine jr_ldcw K (D_at DJ6_bitCount_0f7a4 9 rfl) (v := (858993459 : Int32)) kc_J6_266 ?_
  refine jr_iand K (D_at DJ6_bitCount_0f7a4 10 rfl) ?_
  refine jr_iload_n K (D_at DJ6_bitCount_0f7a4 11 rfl) rfl rfl ?_
  refine jr_iconst K (D_at DJ6_bitCount_0f7a4 12 rfl) (v := (2 : Int32)) (by decide) ?_
  refine jr_iushr K (D_at DJ6_bitCount_0f7a4 13 rfl) (v := jushr (x0 - ((jushr x0 (1 : Int32)) &&& (1431655765 : Int32))) (2 : Int32)) rfl ?_
  refine jr_ldcw K (D_at DJ6_bitCount_0f7a4 14 rfl) (v := (858993459 : Int32)) kc_J6_266 ?_
  refine jr_iand K (D_at DJ6_bitCount_0f7a4 15 rfl) ?_
  refine jr_iadd K (D_at DJ6_bitCount_0f7a4 16 rfl) ?_
  refine jr_istore_n K (D_at DJ6_bitCount_0f7a4 17 rfl) (i := 0) rfl (by decide) (L2 := [_]) rfl ?_
  refine jr_iload_n K (D_at DJ6_bitCount_0f7a4 18 rfl) rfl rfl ?_
  refine jr_iload_n K (D_at DJ6_bitCount_0f7a4 19 rfl) rfl rfl ?_
  refine jr_iconst K (D_at DJ6_bitCount_0f7a4 20 rfl) (v := (4 : Int32)) (by decide) ?_
  refine jr_iushr K (D_at DJ6_bitCount_0f7a4 21 rfl) (v := jushr (((x0 - ((jushr x0 (1 : Int32)) &&& (1431655765 : Int32))) &&& (858993459 : Int32)) + ((jushr (x0 - ((jushr x0 (1 : Int32)) &&& (1431655765 : Int32))) (2 : Int32)) &&& (858993459 : Int32))) (4 : Int32)) rfl ?_
  refine jr_iadd K (D_at DJ6_bitCount_0f7a4 22 rfl) ?_
  refine jr_ldcw K (D_at DJ6_bitCount_0f7a4 23 rfl) (v := (252645135 : Int32)) kc_J6_267 ?_
  refine jr_iand K (D_at DJ6_bitCount_0f7a4 24 rfl) ?_
  refine jr_istore_n K (D_at DJ6_bitCount_0f7a4 25 rfl) (i := 0) rfl (by decide) (L2 := [_]) rfl ?_
  refine jr_iload_n K (D_at DJ6_bitCount_0f7a4 26 rfl) rfl rfl ?_
  refine jr_iload_n K (D_at DJ6_bitCount_0f7a4 27 rfl) rfl rfl ?_
  refine jr_bipush K (D_at DJ6_bitCount_0f7a4 28 rfl) (v := (8 : Int32)) (by decide) ?_
  refine jr_iushr K (D_at DJ6_bitCount_0f7a4 29 rfl) (v := jushr (((((x0 - ((jushr x0 (1 : Int32)) &&& (1431655765 : Int32))) &&& (858993459 : Int32)) + ((jushr (x0 - ((jushr x0 (1 : Int32)) &&& (1431655765 : Int32))) (2 : Int32)) &&& (858993459 : Int32))) + (jushr (((x0 - ((jushr x0 (1 : Int32)) &&& (1431655765 : Int32))) &&& (858993459 : Int32)) + ((jushr (x0 - ((jushr x0 (1 : Int32)) &&& (1431655765 : Int32))) (2 : Int32)) &&& (858993459 : Int32))) (4 : Int32))) &&& (252645135 : Int32)) (8 : Int32)) rfl ?_
  refine jr_iadd K (D_at DJ6_bitCount_0f7a4 30 rfl) ?_
  refine jr_istore_n K (D_at DJ6_bitCount_0f7a4 31 rfl) (i := 0) rfl (by decide) (L2 := [_]) rfl ?_
  refine jr_iload_n K (D_at DJ6_bitCount_0f7a4 32 rfl) rfl rfl ?_
  refine jr_iload_n K (D_at DJ6_bitCount_0f7a4 33 rfl) rfl rfl ?_
  refine jr_bipush K (D_at DJ6_bitCount_0f7a4 34 rfl) (v := (16 : Int32)) (by decide) ?_
  refine jr_iushr K (D_at DJ6_bitCount_0f7a4 35 rfl) (v := jushr ((((((x0 - ((jushr x0 (1 : Int32)) &&& (1431655765 : Int32))) &&& (858993459 : Int32)) + ((jushr (x0 - ((jushr x0 (1 : Int32)) &&& (1431655765 : Int32))) (2 : Int32)) &&& (858993459 : Int32))) + (jushr (((x0 - ((jushr x0 (1 : Int32)) &&& (1431655765 : Int32))) &&& (858993459 : Int32)) + ((jushr (x0 - ((jushr x0 (1 : Int32)) &&& (1431655765 : Int32))) (2 : Int32)) &&& (858993459 : Int32))) (4 : Int32))) &&& (252645135 : Int32)) + (jushr (((((x0 - ((jushr x0 (1 : Int32)) &&& (1431655765 : Int32))) &&& (858993459 : Int32)) + ((jushr (x0 - ((jushr x0 (1 : Int32)) &&& (1431655765 : Int32))) (2 : Int32)) &&& (858993459 : Int32))) + (jushr (((x0 - ((jushr x0 (1 : Int32)) &&& (1431655765 : Int32))) &&& (858993459 : Int32)) + ((jushr (x0 - ((jushr x0 (1 : Int32)) &&& (1431655765 : Int32))) (2 : Int32)) &&& (858993459 : Int32))) (4 : Int32))) &&& (252645135 : Int32)) (8 : Int32))) (16 : Int32)) rfl ?_
  refine jr_iadd K (D_at DJ6_bitCount_0f7a4 36 rfl) ?_
  refine jr_istore_n K (D_at DJ6_bitCount_0f7a4 37 rfl) (i := 0) rfl (by decide) (L2 := [_]) rfl ?_
  refine jr_iload_n K (D_at DJ6_bitCount_0f7a4 38 rfl) rfl rfl ?_
  refine jr_bipush K (D_at DJ6_bitCount_0f7a4 39 rfl) (v := (63 : Int32)) (by decide) ?_
  refine jr_iand K (D_at DJ6_bitCount_0f7a4 40 rfl) ?_
  cases hf
  exact jr_iret K E (D_at DJ6_bitCount_0f7a4 41 rfl) rfl ⟨rfl, rfl⟩
theorem C_J6_bitCount_0f7a4 {G : jG} {l : Launch} (d : Nat) {n : Nat} {x0 : Int32} {h : jH} {res : Int32} (hf : F_J6_bitCount_0f7a4 n x0 h = some res) : jC G l mJ6_bitCount_0f7a4 (d) 0 0 [.int x0] h (jPR h res) :=
  jC.of (by decide +kernel) (jcats rfl) (Nat.le_of_ble_eq_true rfl) (fun X K E => J_J6_bitCount_0f7a4 K n h E x0 hf)
set_option maxHeartbeats 4000000 in
set_option maxRecDepth 100000 in
theorem J_X8_move_28_b {G : jG} {l : Launch} {d : Nat} {X : jX} {res : (Int32 × jH)} (K : jOK G l mX8_move (d + 2) X) (n : Nat) (rc3 : Nat → Int32 → Int32 → Int32 → Int32 → jH → Option (Int32 × jH)) (hr3 : ∀ (a0 : Nat) (x1 : Int32) (x2 : Int32) (x3 : Int32) (x4 : Int32) (h : jH), rc3 a0 x1 x2 x3 x4 h = some res → jJ G X h 0 0 3 [some (.ref a0), some (.int x1), some (.int x2), some (.int x3), some (.int x4), none, none] []) (rc28 : Nat → Int32 → Int32 → Int32 → Int32 → Int32 → Int32 → jH → Option (Int32 × jH)) (hr28 : ∀ (a0 : Nat) (x1 : Int32) (x2 : Int32) (x3 : Int32) (x4 : Int32) (x5 : Int32) (x6 : Int32) (h : jH), rc28 a0 x1 x2 x3 x4 x5 x6 h = some res → jJ G X h 0 0 28 [some (.ref a0), some (.int x1), some (.int x2), some (.int x3), some (.int x4), some (.int x5), some (.int x6)] []) (E : jEnd G mX8_move (jPW res) X) (a0 : Nat) (x1 : Int32) (x2 : Int32) (x3 : Int32) (x4 : Int32) (x5 : Int32) (x6 : Int32) (h : jH) (hf : F_X8_move_28_b n rc3 rc28 a0 x1 x2 x3 x4 x5 x6 h = some res) : jJ G X h 0 0 28 [some (.ref a0), some (.int x1), some (.int x2), some (.int x3), some (.int x4), some (.int x5), some (.int x6)] [] := by
  unfold F_X8_move_28_b at hf
  refine jr_iload K (D_at DX8_move 16 rfl) rfl ?_
  refine jr_aload_n K (D_at DX8_move 17 rfl) rfl rfl ?_
  obtain ⟨v31, e31, hf⟩ := jbind hf
  refine jr_getI K (D_at DX8_move 18 rfl) fg_X8_51_6 e31 ?_
  refine jr_icmp_ge K (D_at DX8_move 19 rfl) (tgt := 73) (by decide) (fun c34 => ?_) (fun c34 => ?_)
  · replace hf := (if_pos c34).symm.trans hf
    refine jr_aload_n K (D_at DX8_move 39 rfl) rfl rfl ?_
    refine jr_sipush K (D_at DX8_move 40 rfl) (v := (9999 : Int32)) (by decide) ?_
    refine jr_aload_n K (D_at DX8_move 41 rfl) rfl rfl ?_
    obtain ⟨v78, e78, hf⟩ := jbind hf
    refine jr_getI K (D_at DX8_move 42 rfl) fg_X8_79_6 e78 ?_
    refine jr_iload K (D_at DX8_move 43 rfl) rfl ?_
    refine jr_aload_n K (D_at DX8_move 44 rfl) rfl rfl ?_
    obtain ⟨v84, e84, hf⟩ := jbind hf
    refine jr_getI K (D_at DX8_move 45 rfl) fg_X8_57_6 e84 ?_
    refine jr_iconst K (D_at DX8_move 46 rfl) (v := (-1 : Int32)) (by decide) ?_
    refine jr_ixor K (D_at DX8_move 47 rfl) ?_
    refine jr_iand K (D_at DX8_move 48 rfl) ?_
    obtain ⟨v90, e90, hf⟩ := jbind hf
    refine jr_callS K (C_J6_bitCount_0f7a4 (d + 1) e90) (D_at DX8_move 49 rfl) cs_X8_102_J6_bitCount_0f7a4 (As := [.int (x5 &&& (v84 ^^^ (-1 : Int32)))]) rfl rfl (by exact Nat.le_of_ble_eq_true rfl) (kc2 := 0) (ks2 := 0) rfl rfl (fun k9 h9 w9 => by cases w9.1) (fun r9 h9 w9 => ?_)
    obtain ⟨w1, w2⟩ := w9
    subst h9
    cases w1
    show jJ G X _ 0 0 _ _ (.int v90 :: _)
    refine jr_iadd K (D_at DX8_move 50 rfl) ?_
    refine jr_min K (D_at DX8_move 51 rfl) mm_X8_85 (by exact Nat.le_of_ble_eq_true rfl) ?_
    obtain ⟨h97, e97, hf⟩ := jbind hf
    refine jr_putI K (D_at DX8_move 52 rfl) fp_X8_79_6 (Or.inl rfl) e97 ?_
    refine jr_iinc K (D_at DX8_move 53 rfl) (i := 4) rfl (v := x4 + (1 : Int32)) (jinc (by decide)) (by decide) (L2 := [_, _, _, _, _, _, _]) rfl ?_
    refine jr_goto K (D_at DX8_move 54 rfl) (tgt := 3) (by decide) ?_
    refine jr_keep [true, true, true, true, true, false, false] ?_
    exact hr3 a0 x1 x2 x3 (x4 + (1 : Int32)) h97 hf
  · replace hf := (if_neg c34).symm.trans hf
    refine jr_iload K (D_at DX8_move 20 rfl) rfl ?_
    refine jr_iload K (D_at DX8_move 21 rfl) rfl ?_
    obtain ⟨v41, e41, hf⟩ := jbind hf
    refine jr_callSN K (C_X11_bit (d + 1) e41) (D_at DX8_move 22 rfl) csn_X8_95_X11_bit (As := [.int x5, .int x6]) rfl rfl (by exact Nat.le_of_ble_eq_true rfl) (kc2 := 0) (ks2 := 0) rfl rfl (fun k9 h9 w9 => by cases w9.1) (fun r9 h9 w9 => ?_)
    obtain ⟨w1, w2⟩ := w9
    subst h9
    cases w1
    show jJ G X _ 0 0 _ _ (.int v41 :: _)
    refine jr_iconst K (D_at DX8_move 23 rfl) (v := (1 : Int32)) (by decide) ?_
    refine jr_icmp_ne K (D_at DX8_move 24 rfl) (tgt := 67) (by decide) (fun c45 => ?_) (fun c45 => ?_)
    · replace hf := (if_neg c45).symm.trans hf
      refine jr_iinc K (D_at DX8_move 37 rfl) (i := 6) rfl (v := x6 + (1 : Int32)) (jinc (by decide)) (by decide) (L2 := [_, _, _, _, _, _, _]) rfl ?_
      refine jr_goto K (D_at DX8_move 38 rfl) (tgt := 28) (by decide) ?_
      refine jr_keep [true, true, true, true, true, true, true] ?_
      exact hr28 a0 x1 x2 x3 x4 x5 (x6 + (1 : Int32)) h hf
    · replace hf := (if_pos c45).symm.trans hf
      refine jr_aload_n K (D_at DX8_move 25 rfl) rfl rfl ?_
      obtain ⟨p49, e49, hf⟩ := jbind hf
      refine jr_getR K (D_at DX8_move 26 rfl) fg_X8_9_6 e49 ?_
      refine jr_iload K (D_at DX8_move 27 rfl) rfl ?_
      refine jr_dup2 K (D_at DX8_move 28 rfl) rfl rfl ?_
      obtain ⟨v55, e55, hf⟩ := jbind hf
      refine jr_iald K (D_at DX8_move 29 rfl) e55 ?_
      refine jr_iload_n K (D_at DX8_move 30 rfl) rfl rfl ?_
      refine jr_if_eq K (D_at DX8_move 31 rfl) (tgt := 64) (by decide) (fun c57 => ?_) (fun c57 => ?_)
      · replace hf := (if_pos c57).symm.trans hf
        refine jr_iconst K (D_at DX8_move 34 rfl) (v := (-1 : Int32)) (by decide) ?_
        refine jr_iadd K (D_at DX8_move 35 rfl) ?_
        obtain ⟨h66, e66, hf⟩ := jbind hf
        refine jr_iast K (D_at DX8_move 36 rfl) e66 ?_
        refine jr_iinc K (D_at DX8_move 37 rfl) (i := 6) rfl (v := x6 + (1 : Int32)) (jinc (by decide)) (by decide) (L2 := [_, _, _, _, _, _, _]) rfl ?_
        refine jr_goto K (D_at DX8_move 38 rfl) (tgt := 28) (by decide) ?_
        refine jr_keep [true, true, true, true, true, true, true] ?_
        exact hr28 a0 x1 x2 x3 x4 x5 (x6 + (1 : Int32)) h66 hf
      · replace hf := (if_neg c57).symm.trans hf
        refine jr_iconst K (D_at DX8_move 32 rfl) (v := (1 : Int32)) (by decide) ?_
        refine jr_goto K (D_at DX8_move 33 rfl) (tgt := 65) (by decide) ?_
        refine jr_iadd K (D_at DX8_move 35 rfl) ?_
        obtain ⟨h66, e66, hf⟩ := jbind hf
        refine jr_iast K (D_at DX8_move 36 rfl) e66 ?_
        refine jr_iinc K (D_at DX8_move 37 rfl) (i := 6) rfl (v := x6 + (1 : Int32)) (jinc (by decide)) (by decide) (L2 := [_, _, _, _, _, _, _]) rfl ?_
        refine jr_goto K (D_at DX8_move 38 rfl) (tgt := 28) (by decide) ?_
        refine jr_keep [true, true, true, true, true, true, true] ?_
        exact hr28 a0 x1 x2 x3 x4 x5 (x6 + (1 : Int32)) h66 hf
theorem J_X8_move_28 {G : jG} {l : Launch} {d : Nat} {X : jX} {res : (Int32 × jH)} (K : jOK G l mX8_move (d + 2) X) (n : Nat) (rc3 : Nat → Int32 → Int32 → Int32 → Int32 → jH → Option (Int32 × jH)) (hr3 : ∀ (a0 : Nat) (x1 : Int32) (x2 : Int32) (x3 : Int32) (x4 : Int32) (h : jH), rc3 a0 x1 x2 x3 x4 h = some res → jJ G X h 0 0 3 [some (.ref a0), some (.int x1), some (.int x2), some (.int x3), some (.int x4), none, none] []) (E : jEnd G mX8_move (jPW res) X) (k : Nat) : ∀ (a0 : Nat) (x1 : Int32) (x2 : Int32) (x3 : Int32) (x4 : Int32) (x5 : Int32) (x6 : Int32) (h : jH), F_X8_move_28 n rc3 k a0 x1 x2 x3 x4 x5 x6 h = some res → jJ G X h 0 0 28 [some (.ref a0), some (.int x1), some (.int x2), some (.int x3), some (.int x4), some (.int x5), some (.int x6)] [] := by
  induction k with
  | zero =>
    intro a0 x1 x2 x3 x4 x5 x6 h hf
    exact jno (show (none : Option (Int32 × jH)) = some res from hf)
  | succ k ih =>
    intro a0 x1 x2 x3 x4 x5 x6 h hf
    exact J_X8_move_28_b K n rc3 hr3 (F_X8_move_28 n rc3 k) ih E a0 x1 x2 x3 x4 x5 x6 h hf
set_option maxHeartbeats 4000000 in
set_option maxRecDepth 100000 in
theorem J_X8_move_3_b {G : jG} {l : Launch} {d : Nat} {X : jX} {res : (Int32 × jH)} (K : jOK G l mX8_move (d + 2) X) (n : Nat) (rc3 : Nat → Int32 → Int32 → Int32 → Int32 → jH → Option (Int32 × jH)) (hr3 : ∀ (a0 : Nat) (x1 : Int32) (x2 : Int32) (x3 : Int32) (x4 : Int32) (h : jH), rc3 a0 x1 x2 x3 x4 h = some res → jJ G X h 0 0 3 [some (.ref a0), some (.int x1), some (.int x2), some (.int x3), some (.int x4), none, none] []) (E : jEnd G mX8_move (jPW res) X) (a0 : Nat) (x1 : Int32) (x2 : Int32) (x3 : Int32) (x4 : Int32) (h : jH) (hf : F_X8_move_3_b n rc3 a0 x1 x2 x3 x4 h = some res) : jJ G X h 0 0 3 [some (.ref a0), some (.int x1), some (.int x2), some (.int x3), some (.int x4), none, none] [] := by
  unfold F_X8_move_3_b at hf
  refine jr_iload K (D_at DX8_move 2 rfl) rfl ?_
  refine jr_iload_n K (D_at DX8_move 3 rfl) rfl rfl ?_
  refine jr_icmp_ge K (D_at DX8_move 4 rfl) (tgt := 106) (by decide) (fun c6 => ?_) (fun c6 => ?_)
  · replace hf := (if_pos c6).symm.trans hf
    refine jr_iload_n K (D_at DX8_move 55 rfl) rfl rfl ?_
    cases hf
    exact jr_iret K E (D_at DX8_move 56 rfl) rfl ⟨rfl, rfl⟩
  · replace hf := (if_neg c6).symm.trans hf
    refine jr_aload_n K (D_at DX8_move 5 rfl) rfl rfl ?_
    refine jr_iload_n K (D_at DX8_move 6 rfl) rfl rfl ?_
    refine jr_iload_n K (D_at DX8_move 7 rfl) rfl rfl ?_
    obtain ⟨v12, e12, hf⟩ := jbind hf
    obtain ⟨rc_12, e12⟩ := jcv_o e12
    refine jr_callV K (C_X8_goers (d) e12) (D_at DX8_move 8 rfl) cv_X8_115_X8_goers (As := [.int x1, .int x2]) (ci := 6) rfl rc_12 rfl rfl (by exact Nat.le_of_ble_eq_true rfl) (kc2 := 0) (ks2 := 0) rfl rfl (fun k9 h9 w9 => by cases w9.1) (fun r9 h9 w9 => ?_)
    obtain ⟨w1, w2⟩ := w9
    subst h9
    cases w1
    show jJ G X _ 0 0 _ _ (.int v12 :: _)
    refine jr_istore K (D_at DX8_move 9 rfl) (i := 5) (by decide) (L2 := [_, _, _, _, _, _, _]) rfl ?_
    refine jr_iload K (D_at DX8_move 10 rfl) rfl ?_
    refine jr_if_ne K (D_at DX8_move 11 rfl) (tgt := 25) (by decide) (fun c19 => ?_) (fun c19 => ?_)
    · replace hf := (if_neg c19).symm.trans hf
      refine jr_iconst K (D_at DX8_move 14 rfl) (v := (0 : Int32)) (by decide) ?_
      refine jr_istore K (D_at DX8_move 15 rfl) (i := 6) (by decide) (L2 := [_, _, _, _, _, _, _]) rfl ?_
      refine jr_keep [true, true, true, true, true, true, true] ?_
      exact J_X8_move_28 K n rc3 hr3 E n a0 x1 x2 x3 x4 v12 (0 : Int32) h hf
    · replace hf := (if_pos c19).symm.trans hf
      refine jr_iload K (D_at DX8_move 12 rfl) rfl ?_
      cases hf
      exact jr_iret K E (D_at DX8_move 13 rfl) rfl ⟨rfl, rfl⟩
theorem J_X8_move_3 {G : jG} {l : Launch} {d : Nat} {X : jX} {res : (Int32 × jH)} (K : jOK G l mX8_move (d + 2) X) (n : Nat) (E : jEnd G mX8_move (jPW res) X) (k : Nat) : ∀ (a0 : Nat) (x1 : Int32) (x2 : Int32) (x3 : Int32) (x4 : Int32) (h : jH), F_X8_move_3 n k a0 x1 x2 x3 x4 h = some res → jJ G X h 0 0 3 [some (.ref a0), some (.int x1), some (.int x2), some (.int x3), some (.int x4), none, none] [] := by
  induction k with
  | zero =>
    intro a0 x1 x2 x3 x4 h hf
    exact jno (show (none : Option (Int32 × jH)) = some res from hf)
  | succ k ih =>
    intro a0 x1 x2 x3 x4 h hf
    exact J_X8_move_3_b K n (F_X8_move_3 n k) ih E a0 x1 x2 x3 x4 h hf
set_option maxHeartbeats 4000000 in
set_option maxRecDepth 100000 in
theorem J_X8_move {G : jG} {l : Launch} {d : Nat} {X : jX} {res : (Int32 × jH)} (K : jOK G l mX8_move (d + 2) X) (n : Nat) (E : jEnd G mX8_move (jPW res) X) (a0 : Nat) (x1 : Int32) (x2 : Int32) (x3 : Int32) (h : jH) (hf : F_X8_move n a0 x1 x2 x3 h = some res) : jJ G X h 0 0 0 [some (.ref a0), some (.int x1), some (.int x2), some (.int x3), none, none, none] [] := by
  unfold F_X8_move at hf
  refine jr_iconst K (D_at DX8_move 0 rfl) (v := (0 : Int32)) (by decide) ?_
  refine jr_istore K (D_at DX8_move 1 rfl) (i := 4) (by decide) (L2 := [_, _, _, _, _, _, _]) rfl ?_
  refine jr_keep [true, true, true, true, true, false, false] ?_
  exact J_X8_move_3 K n E n a0 x1 x2 x3 (0 : Int32) h hf
theorem C_X8_move {G : jG} {l : Launch} (d : Nat) {n : Nat} {a0 : Nat} {x1 : Int32} {x2 : Int32} {x3 : Int32} {h : jH} {res : (Int32 × jH)} (hf : F_X8_move n a0 x1 x2 x3 h = some res) : jC G l mX8_move (d + 2) 0 0 [.ref a0, .int x1, .int x2, .int x3] h (jPW res) :=
  jC.of (by decide +kernel) (jcats rfl) (Nat.le_of_ble_eq_true rfl) (fun X K E => J_X8_move K n E a0 x1 x2 x3 h hf)
set_option maxHeartbeats 4000000 in
set_option maxRecDepth 100000 in
theorem J_X11_requireRing {G : jG} {l : Launch} (hst : l.stackTraces = false) {d : Nat} {X : jX} {res : (jR × jH)} (K : jOK G l mX11_requireRing (d + 6) X) (n : Nat) (E : jEnd G mX11_requireRing (jPX res) X) (a0 : Nat) (x1 : Int32) (h : jH) (hf : F_X11_requireRing n a0 x1 h = some res) : jJ G X h 1 6 0 [some (.ref a0), some (.int x1)] [] := by
  unfold F_X11_requireRing at hf
  refine jr_iload_n K (D_at DX11_requireRing 0 rfl) rfl rfl ?_
  refine jr_if_lt K (D_at DX11_requireRing 1 rfl) (tgt := 15) (by decide) (fun c1 => ?_) (fun c1 => ?_)
  · replace hf := (if_pos c1).symm.trans hf
    cases hf
    exact jr_throwW (dep := d + 0) hst K E (D_at DX11_requireRing 7 rfl) (D_at DX11_requireRing 8 rfl) (D_at DX11_requireRing 9 rfl) (D_at DX11_requireRing 10 rfl) (D_at DX11_requireRing 11 rfl) th_X11_2 (i := 3) rfl rfl (k := 2) rfl (by exact Nat.le_of_ble_eq_true rfl) (by decide) (by decide) ⟨rfl, rfl⟩
  · replace hf := (if_neg c1).symm.trans hf
    refine jr_iload_n K (D_at DX11_requireRing 2 rfl) rfl rfl ?_
    refine jr_aload_n K (D_at DX11_requireRing 3 rfl) rfl rfl ?_
    obtain ⟨p6, e6, hf⟩ := jbind hf
    refine jr_getR K (D_at DX11_requireRing 4 rfl) fg_X11_19_9 e6 ?_
    obtain ⟨v9, e9, hf⟩ := jbind hf
    refine jr_getI K (D_at DX11_requireRing 5 rfl) fg_X11_210_6 e9 ?_
    refine jr_icmp_lt K (D_at DX11_requireRing 6 rfl) (tgt := 26) (by decide) (fun c12 => ?_) (fun c12 => ?_)
    · replace hf := (if_pos c12).symm.trans hf
      cases hf
      exact jr_vret K E (D_at DX11_requireRing 12 rfl) rfl ⟨rfl, rfl⟩
    · replace hf := (if_neg c12).symm.trans hf
      cases hf
      exact jr_throwW (dep := d + 0) hst K E (D_at DX11_requireRing 7 rfl) (D_at DX11_requireRing 8 rfl) (D_at DX11_requireRing 9 rfl) (D_at DX11_requireRing 10 rfl) (D_at DX11_requireRing 11 rfl) th_X11_2 (i := 3) rfl rfl (k := 2) rfl (by exact Nat.le_of_ble_eq_true rfl) (by decide) (by decide) ⟨rfl, rfl⟩
theorem C_X11_requireRing {G : jG} {l : Launch} (hst : l.stackTraces = false) (d : Nat) {n : Nat} {a0 : Nat} {x1 : Int32} {h : jH} {res : (jR × jH)} (hf : F_X11_requireRing n a0 x1 h = some res) : jC G l mX11_requireRing (d + 6) 1 6 [.ref a0, .int x1] h (jPX res) :=
  jC.of (by decide +kernel) (jcats rfl) (Nat.le_of_ble_eq_true rfl) (fun X K E => J_X11_requireRing hst K n E a0 x1 h hf)
