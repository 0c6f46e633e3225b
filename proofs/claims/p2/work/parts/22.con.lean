set_option maxHeartbeats 400000 in
set_option maxRecDepth 100000 in
theorem J_X2_init {G : jG} {l : Launch} {d : Nat} {X : jX} {res : jH} (K : jOK G l mX2_init (d + 1) X) (n : Nat) (E : jEnd G mX2_init (jPV res) X) (a0 : Nat) (h : jH) (hf : F_X2_init n a0 h = some res) : jJ G X h 5 460 0 [some (.ref a0)] [] := by
  unfold F_X2_init at hf
  refine jr_aload_n K (D_at DX2_init 0 rfl) rfl rfl ?_
  refine jr_objInit K (D_at DX2_init 1 rfl) oi_X2_3 (by exact Nat.le_of_ble_eq_true rfl) ?_
  refine jr_aload_n K (D_at DX2_init 2 rfl) rfl rfl ?_
  refine jr_bipush K (D_at DX2_init 3 rfl) (v := (12 : Int32)) (by decide) ?_
  obtain ⟨h7, e7, hf⟩ := jbind hf
  refine jr_newIE (N := 12) K (D_at DX2_init 4 rfl) ac_int (by decide) (by decide) (by decide) (kc := 4) (ks := 448) e7 ?_
  obtain ⟨h9, e9, hf⟩ := jbind hf
  refine jr_putA K (D_at DX2_init 5 rfl) fp_X2_11_2 (Or.inr rfl) e9 ?_
  refine jr_aload_n K (D_at DX2_init 6 rfl) rfl rfl ?_
  refine jr_bipush K (D_at DX2_init 7 rfl) (v := (12 : Int32)) (by decide) ?_
  obtain ⟨h15, e15, hf⟩ := jbind hf
  refine jr_newIE (N := 12) K (D_at DX2_init 8 rfl) ac_int (by decide) (by decide) (by decide) (kc := 3) (ks := 436) e15 ?_
  obtain ⟨h17, e17, hf⟩ := jbind hf
  refine jr_putA K (D_at DX2_init 9 rfl) fp_X2_15_2 (Or.inr rfl) e17 ?_
  refine jr_aload_n K (D_at DX2_init 10 rfl) rfl rfl ?_
  refine jr_bipush K (D_at DX2_init 11 rfl) (v := (12 : Int32)) (by decide) ?_
  obtain ⟨h23, e23, hf⟩ := jbind hf
  refine jr_newIE (N := 12) K (D_at DX2_init 12 rfl) ac_int (by decide) (by decide) (by decide) (kc := 2) (ks := 424) e23 ?_
  obtain ⟨h25, e25, hf⟩ := jbind hf
  refine jr_putA K (D_at DX2_init 13 rfl) fp_X2_18_2 (Or.inr rfl) e25 ?_
  refine jr_aload_n K (D_at DX2_init 14 rfl) rfl rfl ?_
  refine jr_sipush K (D_at DX2_init 15 rfl) (v := (400 : Int32)) (by decide) ?_
  obtain ⟨h32, e32, hf⟩ := jbind hf
  refine jr_newIE (N := 400) K (D_at DX2_init 16 rfl) ac_int (by decide) (by decide) (by decide) (kc := 1) (ks := 24) e32 ?_
  obtain ⟨h34, e34, hf⟩ := jbind hf
  refine jr_putA K (D_at DX2_init 17 rfl) fp_X2_21_2 (Or.inr rfl) e34 ?_
  refine jr_aload_n K (D_at DX2_init 18 rfl) rfl rfl ?_
  refine jr_bipush K (D_at DX2_init 19 rfl) (v := (24 : Int32)) (by decide) ?_
  obtain ⟨h40, e40, hf⟩ := jbind hf
  refine jr_newIE (N := 24) K (D_at DX2_init 20 rfl) ac_int (by decide) (by decide) (by decide) (kc := 0) (ks := 0) e40 ?_
  obtain ⟨h42, e42, hf⟩ := jbind hf
  refine jr_putA K (D_at DX2_init 21 rfl) fp_X2_24_2 (Or.inr rfl) e42 ?_
  cases hf
  exact jr_vret K E (D_at DX2_init 22 rfl) rfl ⟨rfl, rfl⟩
theorem C_X2_init {G : jG} {l : Launch} (d : Nat) {n : Nat} {a0 : Nat} {h : jH} {res : jH} (hf : F_X2_init n a0 h = some res) : jC G l mX2_init (d + 1) 5 460 [.ref a0] h (jPV res) :=
  jC.of (by decide +kernel) (jcats rfl) (Nat.le_of_ble_eq_true rfl) (fun X K E => J_X2_init K n E a0 h hf)
set_option maxHeartbeats 400000 in
set_option maxRecDepth 100000 in
theorem J_X2_begin {G : jG} {l : Launch} {d : Nat} {X : jX} {res : jH} (K : jOK G l mX2_begin (d) X) (n : Nat) (E : jEnd G mX2_begin (jPV res) X) (a0 : Nat) (h : jH) (hf : F_X2_begin n a0 h = some res) : jJ G X h 0 0 0 [some (.ref a0)] [] := by
  unfold F_X2_begin at hf
  refine jr_aload_n K (D_at DX2_begin 0 rfl) rfl rfl ?_
  refine jr_iconst K (D_at DX2_begin 1 rfl) (v := (1 : Int32)) (by decide) ?_
  obtain ⟨h2, e2, hf⟩ := jbind hf
  refine jr_putZ K (D_at DX2_begin 2 rfl) fp_X2_27_2 (Or.inl rfl) (Or.inr rfl) e2 ?_
  refine jr_aload_n K (D_at DX2_begin 3 rfl) rfl rfl ?_
  refine jr_iconst K (D_at DX2_begin 4 rfl) (v := (0 : Int32)) (by decide) ?_
  obtain ⟨h7, e7, hf⟩ := jbind hf
  refine jr_putI K (D_at DX2_begin 5 rfl) fp_X2_31_2 (Or.inl rfl) e7 ?_
  refine jr_aload_n K (D_at DX2_begin 6 rfl) rfl rfl ?_
  refine jr_iconst K (D_at DX2_begin 7 rfl) (v := (0 : Int32)) (by decide) ?_
  obtain ⟨h12, e12, hf⟩ := jbind hf
  refine jr_putI K (D_at DX2_begin 8 rfl) fp_X2_35_2 (Or.inl rfl) e12 ?_
  cases hf
  exact jr_vret K E (D_at DX2_begin 9 rfl) rfl ⟨rfl, rfl⟩
theorem C_X2_begin {G : jG} {l : Launch} (d : Nat) {n : Nat} {a0 : Nat} {h : jH} {res : jH} (hf : F_X2_begin n a0 h = some res) : jC G l mX2_begin (d) 0 0 [.ref a0] h (jPV res) :=
  jC.of (by decide +kernel) (jcats rfl) (Nat.le_of_ble_eq_true rfl) (fun X K E => J_X2_begin K n E a0 h hf)
set_option maxHeartbeats 400000 in
set_option maxRecDepth 100000 in
theorem J_X2_copyFrom {G : jG} {l : Launch} {d : Nat} {X : jX} {res : jH} (K : jOK G l mX2_copyFrom (d + 1) X) (n : Nat) (E : jEnd G mX2_copyFrom (jPV res) X) (a0 : Nat) (a1 : Nat) (h : jH) (hf : F_X2_copyFrom n a0 a1 h = some res) : jJ G X h 0 0 0 [some (.ref a0), some (.ref a1)] [] := by
  unfold F_X2_copyFrom at hf
  refine jr_aload_n K (D_at DX2_copyFrom 0 rfl) rfl rfl ?_
  obtain ⟨p1, e1, hf⟩ := jbind hf
  refine jr_getR K (D_at DX2_copyFrom 1 rfl) fg_X2_11_2 e1 ?_
  refine jr_iconst K (D_at DX2_copyFrom 2 rfl) (v := (0 : Int32)) (by decide) ?_
  refine jr_aload_n K (D_at DX2_copyFrom 3 rfl) rfl rfl ?_
  obtain ⟨p6, e6, hf⟩ := jbind hf
  refine jr_getR K (D_at DX2_copyFrom 4 rfl) fg_X2_11_2 e6 ?_
  refine jr_iconst K (D_at DX2_copyFrom 5 rfl) (v := (0 : Int32)) (by decide) ?_
  refine jr_bipush K (D_at DX2_copyFrom 6 rfl) (v := (12 : Int32)) (by decide) ?_
  obtain ⟨h12, e12, hf⟩ := jbind hf
  refine jr_copy K (D_at DX2_copyFrom 7 rfl) cy_X2_38 (by exact Nat.le_of_ble_eq_true rfl) e12 ?_
  refine jr_aload_n K (D_at DX2_copyFrom 8 rfl) rfl rfl ?_
  obtain ⟨p16, e16, hf⟩ := jbind hf
  refine jr_getR K (D_at DX2_copyFrom 9 rfl) fg_X2_15_2 e16 ?_
  refine jr_iconst K (D_at DX2_copyFrom 10 rfl) (v := (0 : Int32)) (by decide) ?_
  refine jr_aload_n K (D_at DX2_copyFrom 11 rfl) rfl rfl ?_
  obtain ⟨p21, e21, hf⟩ := jbind hf
  refine jr_getR K (D_at DX2_copyFrom 12 rfl) fg_X2_15_2 e21 ?_
  refine jr_iconst K (D_at DX2_copyFrom 13 rfl) (v := (0 : Int32)) (by decide) ?_
  refine jr_bipush K (D_at DX2_copyFrom 14 rfl) (v := (12 : Int32)) (by decide) ?_
  obtain ⟨h27, e27, hf⟩ := jbind hf
  refine jr_copy K (D_at DX2_copyFrom 15 rfl) cy_X2_38 (by exact Nat.le_of_ble_eq_true rfl) e27 ?_
  refine jr_aload_n K (D_at DX2_copyFrom 16 rfl) rfl rfl ?_
  obtain ⟨p31, e31, hf⟩ := jbind hf
  refine jr_getR K (D_at DX2_copyFrom 17 rfl) fg_X2_18_2 e31 ?_
  refine jr_iconst K (D_at DX2_copyFrom 18 rfl) (v := (0 : Int32)) (by decide) ?_
  refine jr_aload_n K (D_at DX2_copyFrom 19 rfl) rfl rfl ?_
  obtain ⟨p36, e36, hf⟩ := jbind hf
  refine jr_getR K (D_at DX2_copyFrom 20 rfl) fg_X2_18_2 e36 ?_
  refine jr_iconst K (D_at DX2_copyFrom 21 rfl) (v := (0 : Int32)) (by decide) ?_
  refine jr_bipush K (D_at DX2_copyFrom 22 rfl) (v := (12 : Int32)) (by decide) ?_
  obtain ⟨h42, e42, hf⟩ := jbind hf
  refine jr_copy K (D_at DX2_copyFrom 23 rfl) cy_X2_38 (by exact Nat.le_of_ble_eq_true rfl) e42 ?_
  refine jr_aload_n K (D_at DX2_copyFrom 24 rfl) rfl rfl ?_
  obtain ⟨p46, e46, hf⟩ := jbind hf
  refine jr_getR K (D_at DX2_copyFrom 25 rfl) fg_X2_21_2 e46 ?_
  refine jr_iconst K (D_at DX2_copyFrom 26 rfl) (v := (0 : Int32)) (by decide) ?_
  refine jr_aload_n K (D_at DX2_copyFrom 27 rfl) rfl rfl ?_
  obtain ⟨p51, e51, hf⟩ := jbind hf
  refine jr_getR K (D_at DX2_copyFrom 28 rfl) fg_X2_21_2 e51 ?_
  refine jr_iconst K (D_at DX2_copyFrom 29 rfl) (v := (0 : Int32)) (by decide) ?_
  refine jr_sipush K (D_at DX2_copyFrom 30 rfl) (v := (400 : Int32)) (by decide) ?_
  obtain ⟨h58, e58, hf⟩ := jbind hf
  refine jr_copy K (D_at DX2_copyFrom 31 rfl) cy_X2_38 (by exact Nat.le_of_ble_eq_true rfl) e58 ?_
  refine jr_aload_n K (D_at DX2_copyFrom 32 rfl) rfl rfl ?_
  refine jr_aload_n K (D_at DX2_copyFrom 33 rfl) rfl rfl ?_
  obtain ⟨v63, e63, hf⟩ := jbind hf
  refine jr_getI K (D_at DX2_copyFrom 34 rfl) fg_X2_35_2 e63 ?_
  obtain ⟨h66, e66, hf⟩ := jbind hf
  refine jr_putI K (D_at DX2_copyFrom 35 rfl) fp_X2_35_2 (Or.inl rfl) e66 ?_
  refine jr_aload_n K (D_at DX2_copyFrom 36 rfl) rfl rfl ?_
  refine jr_aload_n K (D_at DX2_copyFrom 37 rfl) rfl rfl ?_
  obtain ⟨v71, e71, hf⟩ := jbind hf
  refine jr_getI K (D_at DX2_copyFrom 38 rfl) fg_X2_27_2 e71 ?_
  by_cases z74 : v71 = 0 ∨ v71 = 1
  rotate_left
  · exact jno (show (none : Option jH) = some res from (if_neg z74).symm.trans hf)
  replace hf := (if_pos z74).symm.trans hf
  obtain ⟨h74, e74, hf⟩ := jbind hf
  refine jr_putZ K (D_at DX2_copyFrom 39 rfl) fp_X2_27_2 (Or.inl rfl) z74 e74 ?_
  refine jr_aload_n K (D_at DX2_copyFrom 40 rfl) rfl rfl ?_
  refine jr_aload_n K (D_at DX2_copyFrom 41 rfl) rfl rfl ?_
  obtain ⟨v79, e79, hf⟩ := jbind hf
  refine jr_getI K (D_at DX2_copyFrom 42 rfl) fg_X2_31_2 e79 ?_
  obtain ⟨h82, e82, hf⟩ := jbind hf
  refine jr_putI K (D_at DX2_copyFrom 43 rfl) fp_X2_31_2 (Or.inl rfl) e82 ?_
  cases hf
  exact jr_vret K E (D_at DX2_copyFrom 44 rfl) rfl ⟨rfl, rfl⟩
theorem C_X2_copyFrom {G : jG} {l : Launch} (d : Nat) {n : Nat} {a0 : Nat} {a1 : Nat} {h : jH} {res : jH} (hf : F_X2_copyFrom n a0 a1 h = some res) : jC G l mX2_copyFrom (d + 1) 0 0 [.ref a0, .ref a1] h (jPV res) :=
  jC.of (by decide +kernel) (jcats rfl) (Nat.le_of_ble_eq_true rfl) (fun X K E => J_X2_copyFrom K n E a0 a1 h hf)
set_option maxHeartbeats 400000 in
set_option maxRecDepth 100000 in
theorem J_X2_addLine {G : jG} {l : Launch} {d : Nat} {X : jX} {res : jH} (K : jOK G l mX2_addLine (d) X) (n : Nat) (E : jEnd G mX2_addLine (jPV res) X) (a0 : Nat) (x1 : Int32) (x2 : Int32) (h : jH) (hf : F_X2_addLine n a0 x1 x2 h = some res) : jJ G X h 0 0 0 [some (.ref a0), some (.int x1), some (.int x2)] [] := by
  unfold F_X2_addLine at hf
  refine jr_aload_n K (D_at DX2_addLine 0 rfl) rfl rfl ?_
  obtain ⟨v1, e1, hf⟩ := jbind hf
  refine jr_getI K (D_at DX2_addLine 1 rfl) fg_X2_31_2 e1 ?_
  refine jr_bipush K (D_at DX2_addLine 2 rfl) (v := (12 : Int32)) (by decide) ?_
  refine jr_icmp_ge K (D_at DX2_addLine 3 rfl) (tgt := 52) (by decide) (fun c6 => ?_) (fun c6 => ?_)
  · replace hf := (if_pos c6).symm.trans hf
    cases hf
    exact jr_vret K E (D_at DX2_addLine 29 rfl) rfl ⟨rfl, rfl⟩
  · replace hf := (if_neg c6).symm.trans hf
    refine jr_aload_n K (D_at DX2_addLine 4 rfl) rfl rfl ?_
    obtain ⟨p10, e10, hf⟩ := jbind hf
    refine jr_getR K (D_at DX2_addLine 5 rfl) fg_X2_11_2 e10 ?_
    refine jr_aload_n K (D_at DX2_addLine 6 rfl) rfl rfl ?_
    obtain ⟨v14, e14, hf⟩ := jbind hf
    refine jr_getI K (D_at DX2_addLine 7 rfl) fg_X2_31_2 e14 ?_
    refine jr_iload_n K (D_at DX2_addLine 8 rfl) rfl rfl ?_
    obtain ⟨h18, e18, hf⟩ := jbind hf
    refine jr_iast K (D_at DX2_addLine 9 rfl) e18 ?_
    refine jr_aload_n K (D_at DX2_addLine 10 rfl) rfl rfl ?_
    obtain ⟨p20, e20, hf⟩ := jbind hf
    refine jr_getR K (D_at DX2_addLine 11 rfl) fg_X2_15_2 e20 ?_
    refine jr_aload_n K (D_at DX2_addLine 12 rfl) rfl rfl ?_
    obtain ⟨v24, e24, hf⟩ := jbind hf
    refine jr_getI K (D_at DX2_addLine 13 rfl) fg_X2_31_2 e24 ?_
    refine jr_iload_n K (D_at DX2_addLine 14 rfl) rfl rfl ?_
    obtain ⟨h28, e28, hf⟩ := jbind hf
    refine jr_iast K (D_at DX2_addLine 15 rfl) e28 ?_
    refine jr_aload_n K (D_at DX2_addLine 16 rfl) rfl rfl ?_
    obtain ⟨p30, e30, hf⟩ := jbind hf
    refine jr_getR K (D_at DX2_addLine 17 rfl) fg_X2_18_2 e30 ?_
    refine jr_aload_n K (D_at DX2_addLine 18 rfl) rfl rfl ?_
    obtain ⟨v34, e34, hf⟩ := jbind hf
    refine jr_getI K (D_at DX2_addLine 19 rfl) fg_X2_31_2 e34 ?_
    refine jr_aload_n K (D_at DX2_addLine 20 rfl) rfl rfl ?_
    obtain ⟨v38, e38, hf⟩ := jbind hf
    refine jr_getI K (D_at DX2_addLine 21 rfl) fg_X2_35_2 e38 ?_
    obtain ⟨h41, e41, hf⟩ := jbind hf
    refine jr_iast K (D_at DX2_addLine 22 rfl) e41 ?_
    refine jr_aload_n K (D_at DX2_addLine 23 rfl) rfl rfl ?_
    refine jr_dup K (D_at DX2_addLine 24 rfl) rfl ?_
    obtain ⟨v44, e44, hf⟩ := jbind hf
    refine jr_getI K (D_at DX2_addLine 25 rfl) fg_X2_31_2 e44 ?_
    refine jr_iconst K (D_at DX2_addLine 26 rfl) (v := (1 : Int32)) (by decide) ?_
    refine jr_iadd K (D_at DX2_addLine 27 rfl) ?_
    obtain ⟨h49, e49, hf⟩ := jbind hf
    refine jr_putI K (D_at DX2_addLine 28 rfl) fp_X2_31_2 (Or.inl rfl) e49 ?_
    cases hf
    exact jr_vret K E (D_at DX2_addLine 29 rfl) rfl ⟨rfl, rfl⟩
theorem C_X2_addLine {G : jG} {l : Launch} (d : Nat) {n : Nat} {a0 : Nat} {x1 : Int32} {x2 : Int32} {h : jH} {res : jH} (hf : F_X2_addLine n a0 x1 x2 h = some res) : jC G l mX2_addLine (d) 0 0 [.ref a0, .int x1, .int x2] h (jPV res) :=
  jC.of (by decide +kernel) (jcats rfl) (Nat.le_of_ble_eq_true rfl) (fun X K E => J_X2_addLine K n E a0 x1 x2 h hf)
set_option maxHeartbeats 400000 in
set_option maxRecDepth 100000 in
theorem J_X2_addCode {G : jG} {l : Launch} {d : Nat} {X : jX} {res : jH} (K : jOK G l mX2_addCode (d) X) (n : Nat) (E : jEnd G mX2_addCode (jPV res) X) (a0 : Nat) (x1 : Int32) (h : jH) (hf : F_X2_addCode n a0 x1 h = some res) : jJ G X h 0 0 0 [some (.ref a0), some (.int x1)] [] := by
  unfold F_X2_addCode at hf
  refine jr_aload_n K (D_at DX2_addCode 0 rfl) rfl rfl ?_
  obtain ⟨v1, e1, hf⟩ := jbind hf
  refine jr_getI K (D_at DX2_addCode 1 rfl) fg_X2_35_2 e1 ?_
  refine jr_sipush K (D_at DX2_addCode 2 rfl) (v := (400 : Int32)) (by decide) ?_
  refine jr_icmp_ge K (D_at DX2_addCode 3 rfl) (tgt := 52) (by decide) (fun c7 => ?_) (fun c7 => ?_)
  · replace hf := (if_pos c7).symm.trans hf
    cases hf
    exact jr_vret K E (D_at DX2_addCode 28 rfl) rfl ⟨rfl, rfl⟩
  · replace hf := (if_neg c7).symm.trans hf
    refine jr_aload_n K (D_at DX2_addCode 4 rfl) rfl rfl ?_
    obtain ⟨v11, e11, hf⟩ := jbind hf
    refine jr_getI K (D_at DX2_addCode 5 rfl) fg_X2_31_2 e11 ?_
    refine jr_if_le K (D_at DX2_addCode 6 rfl) (tgt := 52) (by decide) (fun c14 => ?_) (fun c14 => ?_)
    · replace hf := (if_pos c14).symm.trans hf
      cases hf
      exact jr_vret K E (D_at DX2_addCode 28 rfl) rfl ⟨rfl, rfl⟩
    · replace hf := (if_neg c14).symm.trans hf
      refine jr_aload_n K (D_at DX2_addCode 7 rfl) rfl rfl ?_
      obtain ⟨p18, e18, hf⟩ := jbind hf
      refine jr_getR K (D_at DX2_addCode 8 rfl) fg_X2_21_2 e18 ?_
      refine jr_aload_n K (D_at DX2_addCode 9 rfl) rfl rfl ?_
      obtain ⟨v22, e22, hf⟩ := jbind hf
      refine jr_getI K (D_at DX2_addCode 10 rfl) fg_X2_35_2 e22 ?_
      refine jr_iload_n K (D_at DX2_addCode 11 rfl) rfl rfl ?_
      obtain ⟨h26, e26, hf⟩ := jbind hf
      refine jr_iast K (D_at DX2_addCode 12 rfl) e26 ?_
      refine jr_aload_n K (D_at DX2_addCode 13 rfl) rfl rfl ?_
      refine jr_dup K (D_at DX2_addCode 14 rfl) rfl ?_
      obtain ⟨v29, e29, hf⟩ := jbind hf
      refine jr_getI K (D_at DX2_addCode 15 rfl) fg_X2_35_2 e29 ?_
      refine jr_iconst K (D_at DX2_addCode 16 rfl) (v := (1 : Int32)) (by decide) ?_
      refine jr_iadd K (D_at DX2_addCode 17 rfl) ?_
      obtain ⟨h34, e34, hf⟩ := jbind hf
      refine jr_putI K (D_at DX2_addCode 18 rfl) fp_X2_35_2 (Or.inl rfl) e34 ?_
      refine jr_aload_n K (D_at DX2_addCode 19 rfl) rfl rfl ?_
      obtain ⟨p38, e38, hf⟩ := jbind hf
      refine jr_getR K (D_at DX2_addCode 20 rfl) fg_X2_18_2 e38 ?_
      refine jr_aload_n K (D_at DX2_addCode 21 rfl) rfl rfl ?_
      obtain ⟨v42, e42, hf⟩ := jbind hf
      refine jr_getI K (D_at DX2_addCode 22 rfl) fg_X2_31_2 e42 ?_
      refine jr_iconst K (D_at DX2_addCode 23 rfl) (v := (1 : Int32)) (by decide) ?_
      refine jr_isub K (D_at DX2_addCode 24 rfl) ?_
      refine jr_aload_n K (D_at DX2_addCode 25 rfl) rfl rfl ?_
      obtain ⟨v48, e48, hf⟩ := jbind hf
      refine jr_getI K (D_at DX2_addCode 26 rfl) fg_X2_35_2 e48 ?_
      obtain ⟨h51, e51, hf⟩ := jbind hf
      refine jr_iast K (D_at DX2_addCode 27 rfl) e51 ?_
      cases hf
      exact jr_vret K E (D_at DX2_addCode 28 rfl) rfl ⟨rfl, rfl⟩
theorem C_X2_addCode {G : jG} {l : Launch} (d : Nat) {n : Nat} {a0 : Nat} {x1 : Int32} {h : jH} {res : jH} (hf : F_X2_addCode n a0 x1 h = some res) : jC G l mX2_addCode (d) 0 0 [.ref a0, .int x1] h (jPV res) :=
  jC.of (by decide +kernel) (jcats rfl) (Nat.le_of_ble_eq_true rfl) (fun X K E => J_X2_addCode K n E a0 x1 h hf)
set_option maxHeartbeats 400000 in
set_option maxRecDepth 100000 in
theorem J_X8_isLit {G : jG} {l : Launch} {d : Nat} {X : jX} {res : Int32} (K : jOK G l mX8_isLit (d) X) (n : Nat) (h : jH) (E : jEnd G mX8_isLit (jPR h res) X) (a0 : Nat) (x1 : Int32) (x2 : Int32) (hf : F_X8_isLit n a0 x1 x2 h = some res) : jJ G X h 0 0 0 [some (.ref a0), some (.int x1), some (.int x2)] [] := by
  unfold F_X8_isLit at hf
  refine jr_aload_n K (D_at DX8_isLit 0 rfl) rfl rfl ?_
  obtain ⟨p1, e1, hf⟩ := jbind hf
  refine jr_getR K (D_at DX8_isLit 1 rfl) fg_X8_9_6 e1 ?_
  refine jr_iload_n K (D_at DX8_isLit 2 rfl) rfl rfl ?_
  obtain ⟨v5, e5, hf⟩ := jbind hf
  refine jr_iald K (D_at DX8_isLit 3 rfl) e5 ?_
  refine jr_iconst K (D_at DX8_isLit 4 rfl) (v := (4 : Int32)) (by decide) ?_
  refine jr_iload_n K (D_at DX8_isLit 5 rfl) rfl rfl ?_
  refine jr_imul K (D_at DX8_isLit 6 rfl) ?_
  refine jr_icmp_lt K (D_at DX8_isLit 7 rfl) (tgt := 33) (by decide) (fun c9 => ?_) (fun c9 => ?_)
  · replace hf := (if_pos c9).symm.trans hf
    refine jr_iconst K (D_at DX8_isLit 21 rfl) (v := (0 : Int32)) (by decide) ?_
    cases hf
    exact jr_zret K E (D_at DX8_isLit 22 rfl) rfl (Or.inl rfl) ⟨rfl, rfl⟩
  · replace hf := (if_neg c9).symm.trans hf
    refine jr_aload_n K (D_at DX8_isLit 8 rfl) rfl rfl ?_
    obtain ⟨p13, e13, hf⟩ := jbind hf
    refine jr_getR K (D_at DX8_isLit 9 rfl) fg_X8_9_6 e13 ?_
    refine jr_iload_n K (D_at DX8_isLit 10 rfl) rfl rfl ?_
    obtain ⟨v17, e17, hf⟩ := jbind hf
    refine jr_iald K (D_at DX8_isLit 11 rfl) e17 ?_
    refine jr_iconst K (D_at DX8_isLit 12 rfl) (v := (4 : Int32)) (by decide) ?_
    refine jr_iload_n K (D_at DX8_isLit 13 rfl) rfl rfl ?_
    refine jr_imul K (D_at DX8_isLit 14 rfl) ?_
    refine jr_aload_n K (D_at DX8_isLit 15 rfl) rfl rfl ?_
    obtain ⟨v22, e22, hf⟩ := jbind hf
    refine jr_getI K (D_at DX8_isLit 16 rfl) fg_X8_35_6 e22 ?_
    refine jr_iadd K (D_at DX8_isLit 17 rfl) ?_
    refine jr_icmp_gt K (D_at DX8_isLit 18 rfl) (tgt := 33) (by decide) (fun c26 => ?_) (fun c26 => ?_)
    · replace hf := (if_pos c26).symm.trans hf
      refine jr_iconst K (D_at DX8_isLit 21 rfl) (v := (0 : Int32)) (by decide) ?_
      cases hf
      exact jr_zret K E (D_at DX8_isLit 22 rfl) rfl (Or.inl rfl) ⟨rfl, rfl⟩
    · replace hf := (if_neg c26).symm.trans hf
      refine jr_iconst K (D_at DX8_isLit 19 rfl) (v := (1 : Int32)) (by decide) ?_
      refine jr_goto K (D_at DX8_isLit 20 rfl) (tgt := 34) (by decide) ?_
      cases hf
      exact jr_zret K E (D_at DX8_isLit 22 rfl) rfl (Or.inr rfl) ⟨rfl, rfl⟩
theorem C_X8_isLit {G : jG} {l : Launch} (d : Nat) {n : Nat} {a0 : Nat} {x1 : Int32} {x2 : Int32} {h : jH} {res : Int32} (hf : F_X8_isLit n a0 x1 x2 h = some res) : jC G l mX8_isLit (d) 0 0 [.ref a0, .int x1, .int x2] h (jPR h res) :=
  jC.of (by decide +kernel) (jcats rfl) (Nat.le_of_ble_eq_true rfl) (fun X K E => J_X8_isLit K n h E a0 x1 x2 hf)
set_option maxHeartbeats 400000 in
set_option maxRecDepth 100000 in
theorem J_X2_untoldAmount {G : jG} {l : Launch} {d : Nat} {X : jX} {res : Int32} (K : jOK G l mX2_untoldAmount (d + 1) X) (n : Nat) (h : jH) (E : jEnd G mX2_untoldAmount (jPR h res) X) (x0 : Int32) (a1 : Nat) (x2 : Int32) (hf : F_X2_untoldAmount n x0 a1 x2 h = some res) : jJ G X h 0 0 0 [some (.int x0), some (.ref a1), some (.int x2)] [] := by
  unfold F_X2_untoldAmount at hf
  refine jr_iload_n K (D_at DX2_untoldAmount 0 rfl) rfl rfl ?_
  refine jr_if_ne K (D_at DX2_untoldAmount 1 rfl) (tgt := 22) (by decide) (fun c1 => ?_) (fun c1 => ?_)
  · replace hf := (if_neg c1).symm.trans hf
    refine jr_iload_n K (D_at DX2_untoldAmount 12 rfl) rfl rfl ?_
    refine jr_iconst K (D_at DX2_untoldAmount 13 rfl) (v := (1 : Int32)) (by decide) ?_
    refine jr_icmp_ne K (D_at DX2_untoldAmount 14 rfl) (tgt := 32) (by decide) (fun c24 => ?_) (fun c24 => ?_)
    · replace hf := (if_neg c24).symm.trans hf
      refine jr_iconst K (D_at DX2_untoldAmount 17 rfl) (v := (0 : Int32)) (by decide) ?_
      cases hf
      exact jr_iret K E (D_at DX2_untoldAmount 18 rfl) rfl ⟨rfl, rfl⟩
    · replace hf := (if_pos c24).symm.trans hf
      refine jr_bipush K (D_at DX2_untoldAmount 15 rfl) (v := (10 : Int32)) (by decide) ?_
      refine jr_goto K (D_at DX2_untoldAmount 16 rfl) (tgt := 33) (by decide) ?_
      cases hf
      exact jr_iret K E (D_at DX2_untoldAmount 18 rfl) rfl ⟨rfl, rfl⟩
  · replace hf := (if_pos c1).symm.trans hf
    refine jr_aload_n K (D_at DX2_untoldAmount 2 rfl) rfl rfl ?_
    refine jr_iload_n K (D_at DX2_untoldAmount 3 rfl) rfl rfl ?_
    refine jr_aload_n K (D_at DX2_untoldAmount 4 rfl) rfl rfl ?_
    obtain ⟨v7, e7, hf⟩ := jbind hf
    refine jr_getI K (D_at DX2_untoldAmount 5 rfl) fg_X2_52_6 e7 ?_
    obtain ⟨v10, e10, hf⟩ := jbind hf
    obtain ⟨rc_10, e10⟩ := jcv_o e10
    refine jr_callV K (C_X8_isLit (d) e10) (D_at DX2_untoldAmount 6 rfl) cv_X2_57_X8_isLit (As := [.int x2, .int v7]) (ci := 6) rfl rc_10 rfl rfl (by exact Nat.le_of_ble_eq_true rfl) (kc2 := 0) (ks2 := 0) rfl rfl (fun k9 h9 w9 => by cases w9.1) (fun r9 h9 w9 => ?_)
    obtain ⟨w1, w2⟩ := w9
    subst h9
    cases w1
    show jJ G X _ 0 0 _ _ (.int v10 :: _)
    refine jr_if_eq K (D_at DX2_untoldAmount 7 rfl) (tgt := 20) (by decide) (fun c13 => ?_) (fun c13 => ?_)
    · replace hf := (if_pos c13).symm.trans hf
      refine jr_iconst K (D_at DX2_untoldAmount 10 rfl) (v := (0 : Int32)) (by decide) ?_
      cases hf
      exact jr_iret K E (D_at DX2_untoldAmount 11 rfl) rfl ⟨rfl, rfl⟩
    · replace hf := (if_neg c13).symm.trans hf
      refine jr_iconst K (D_at DX2_untoldAmount 8 rfl) (v := (1 : Int32)) (by decide) ?_
      refine jr_goto K (D_at DX2_untoldAmount 9 rfl) (tgt := 21) (by decide) ?_
      cases hf
      exact jr_iret K E (D_at DX2_untoldAmount 11 rfl) rfl ⟨rfl, rfl⟩
theorem C_X2_untoldAmount {G : jG} {l : Launch} (d : Nat) {n : Nat} {x0 : Int32} {a1 : Nat} {x2 : Int32} {h : jH} {res : Int32} (hf : F_X2_untoldAmount n x0 a1 x2 h = some res) : jC G l mX2_untoldAmount (d + 1) 0 0 [.int x0, .ref a1, .int x2] h (jPR h res) :=
  jC.of (by decide +kernel) (jcats rfl) (Nat.le_of_ble_eq_true rfl) (fun X K E => J_X2_untoldAmount K n h E x0 a1 x2 hf)
set_option maxHeartbeats 400000 in
set_option maxRecDepth 100000 in
theorem J_X2_isValue {G : jG} {l : Launch} {d : Nat} {X : jX} {res : Int32} (K : jOK G l mX2_isValue (d) X) (n : Nat) (h : jH) (E : jEnd G mX2_isValue (jPR h res) X) (x0 : Int32) (hf : F_X2_isValue n x0 h = some res) : jJ G X h 0 0 0 [some (.int x0)] [] := by
  unfold F_X2_isValue at hf
  refine jr_iload_n K (D_at DX2_isValue 0 rfl) rfl rfl ?_
  refine jr_sipush K (D_at DX2_isValue 1 rfl) (v := (256 : Int32)) (by decide) ?_
  refine jr_icmp_ge K (D_at DX2_isValue 2 rfl) (tgt := 13) (by decide) (fun c4 => ?_) (fun c4 => ?_)
  · replace hf := (if_pos c4).symm.trans hf
    refine jr_iconst K (D_at DX2_isValue 6 rfl) (v := (1 : Int32)) (by decide) ?_
    refine jr_goto K (D_at DX2_isValue 7 rfl) (tgt := 18) (by decide) ?_
    cases hf
    exact jr_zret K E (D_at DX2_isValue 9 rfl) rfl (Or.inr rfl) ⟨rfl, rfl⟩
  · replace hf := (if_neg c4).symm.trans hf
    refine jr_iload_n K (D_at DX2_isValue 3 rfl) rfl rfl ?_
    refine jr_bipush K (D_at DX2_isValue 4 rfl) (v := (10 : Int32)) (by decide) ?_
    refine jr_icmp_gt K (D_at DX2_isValue 5 rfl) (tgt := 17) (by decide) (fun c10 => ?_) (fun c10 => ?_)
    · replace hf := (if_pos c10).symm.trans hf
      refine jr_iconst K (D_at DX2_isValue 8 rfl) (v := (0 : Int32)) (by decide) ?_
      cases hf
      exact jr_zret K E (D_at DX2_isValue 9 rfl) rfl (Or.inl rfl) ⟨rfl, rfl⟩
    · replace hf := (if_neg c10).symm.trans hf
      refine jr_iconst K (D_at DX2_isValue 6 rfl) (v := (1 : Int32)) (by decide) ?_
      refine jr_goto K (D_at DX2_isValue 7 rfl) (tgt := 18) (by decide) ?_
      cases hf
      exact jr_zret K E (D_at DX2_isValue 9 rfl) rfl (Or.inr rfl) ⟨rfl, rfl⟩
theorem C_X2_isValue {G : jG} {l : Launch} (d : Nat) {n : Nat} {x0 : Int32} {h : jH} {res : Int32} (hf : F_X2_isValue n x0 h = some res) : jC G l mX2_isValue (d) 0 0 [.int x0] h (jPR h res) :=
  jC.of (by decide +kernel) (jcats rfl) (Nat.le_of_ble_eq_true rfl) (fun X K E => J_X2_isValue K n h E x0 hf)
set_option maxHeartbeats 400000 in
set_option maxRecDepth 100000 in
theorem J_X8_gap {G : jG} {l : Launch} {d : Nat} {X : jX} {res : Int32} (K : jOK G l mX8_gap (d) X) (n : Nat) (h : jH) (E : jEnd G mX8_gap (jPR h res) X) (a0 : Nat) (x1 : Int32) (x2 : Int32) (hf : F_X8_gap n a0 x1 x2 h = some res) : jJ G X h 0 0 0 [some (.ref a0), some (.int x1), some (.int x2)] [] := by
  unfold F_X8_gap at hf
  refine jr_iload_n K (D_at DX8_gap 0 rfl) rfl rfl ?_
  refine jr_if_lt K (D_at DX8_gap 1 rfl) (tgt := 14) (by decide) (fun c1 => ?_) (fun c1 => ?_)
  · replace hf := (if_pos c1).symm.trans hf
    refine jr_iload_n K (D_at DX8_gap 8 rfl) rfl rfl ?_
    refine jr_goto K (D_at DX8_gap 9 rfl) (tgt := 33) (by decide) ?_
    cases hf
    exact jr_iret K E (D_at DX8_gap 21 rfl) rfl ⟨rfl, rfl⟩
  · replace hf := (if_neg c1).symm.trans hf
    refine jr_iload_n K (D_at DX8_gap 2 rfl) rfl rfl ?_
    refine jr_aload_n K (D_at DX8_gap 3 rfl) rfl rfl ?_
    obtain ⟨v6, e6, hf⟩ := jbind hf
    refine jr_getI K (D_at DX8_gap 4 rfl) fg_X8_51_6 e6 ?_
    refine jr_iconst K (D_at DX8_gap 5 rfl) (v := (1 : Int32)) (by decide) ?_
    refine jr_isub K (D_at DX8_gap 6 rfl) ?_
    refine jr_icmp_lt K (D_at DX8_gap 7 rfl) (tgt := 18) (by decide) (fun c11 => ?_) (fun c11 => ?_)
    · replace hf := (if_pos c11).symm.trans hf
      refine jr_aload_n K (D_at DX8_gap 10 rfl) rfl rfl ?_
      obtain ⟨p19, e19, hf⟩ := jbind hf
      refine jr_getR K (D_at DX8_gap 11 rfl) fg_X8_9_6 e19 ?_
      refine jr_iload_n K (D_at DX8_gap 12 rfl) rfl rfl ?_
      refine jr_iconst K (D_at DX8_gap 13 rfl) (v := (1 : Int32)) (by decide) ?_
      refine jr_iadd K (D_at DX8_gap 14 rfl) ?_
      obtain ⟨v25, e25, hf⟩ := jbind hf
      refine jr_iald K (D_at DX8_gap 15 rfl) e25 ?_
      refine jr_aload_n K (D_at DX8_gap 16 rfl) rfl rfl ?_
      obtain ⟨p27, e27, hf⟩ := jbind hf
      refine jr_getR K (D_at DX8_gap 17 rfl) fg_X8_9_6 e27 ?_
      refine jr_iload_n K (D_at DX8_gap 18 rfl) rfl rfl ?_
      obtain ⟨v31, e31, hf⟩ := jbind hf
      refine jr_iald K (D_at DX8_gap 19 rfl) e31 ?_
      refine jr_isub K (D_at DX8_gap 20 rfl) ?_
      cases hf
      exact jr_iret K E (D_at DX8_gap 21 rfl) rfl ⟨rfl, rfl⟩
    · replace hf := (if_neg c11).symm.trans hf
      refine jr_iload_n K (D_at DX8_gap 8 rfl) rfl rfl ?_
      refine jr_goto K (D_at DX8_gap 9 rfl) (tgt := 33) (by decide) ?_
      cases hf
      exact jr_iret K E (D_at DX8_gap 21 rfl) rfl ⟨rfl, rfl⟩
theorem C_X8_gap {G : jG} {l : Launch} (d : Nat) {n : Nat} {a0 : Nat} {x1 : Int32} {x2 : Int32} {h : jH} {res : Int32} (hf : F_X8_gap n a0 x1 x2 h = some res) : jC G l mX8_gap (d) 0 0 [.ref a0, .int x1, .int x2] h (jPR h res) :=
  jC.of (by decide +kernel) (jcats rfl) (Nat.le_of_ble_eq_true rfl) (fun X K E => J_X8_gap K n h E a0 x1 x2 hf)
set_option maxHeartbeats 400000 in
set_option maxRecDepth 100000 in
theorem J_X11_bit {G : jG} {l : Launch} {d : Nat} {X : jX} {res : Int32} (K : jOK G l mX11_bit (d) X) (n : Nat) (h : jH) (E : jEnd G mX11_bit (jPR h res) X) (x0 : Int32) (x1 : Int32) (hf : F_X11_bit n x0 x1 h = some res) : jJ G X h 0 0 0 [some (.int x0), some (.int x1)] [] := by
  unfold F_X11_bit at hf
  refine jr_iload_n K (D_at DX11_bit 0 rfl) rfl rfl ?_
  refine jr_iload_n K (D_at DX11_bit 1 rfl) rfl rfl ?_
  refine jr_iushr K (D_at DX11_bit 2 rfl) (v := jushr x0 x1) rfl ?_
  refine jr_iconst K (D_at DX11_bit 3 rfl) (v := (1 : Int32)) (by decide) ?_
  refine jr_iand K (D_at DX11_bit 4 rfl) ?_
  cases hf
  exact jr_iret K E (D_at DX11_bit 5 rfl) rfl ⟨rfl, rfl⟩
theorem C_X11_bit {G : jG} {l : Launch} (d : Nat) {n : Nat} {x0 : Int32} {x1 : Int32} {h : jH} {res : Int32} (hf : F_X11_bit n x0 x1 h = some res) : jC G l mX11_bit (d) 0 0 [.int x0, .int x1] h (jPR h res) :=
  jC.of (by decide +kernel) (jcats rfl) (Nat.le_of_ble_eq_true rfl) (fun X K E => J_X11_bit K n h E x0 x1 hf)
set_option maxHeartbeats 400000 in
set_option maxRecDepth 100000 in
theorem J_X2_value {G : jG} {l : Launch} {d : Nat} {X : jX} {res : Int32} (K : jOK G l mX2_value (d + 1) X) (n : Nat) (h : jH) (E : jEnd G mX2_value (jPR h res) X) (x0 : Int32) (a1 : Nat) (x2 : Int32) (hf : F_X2_value n x0 a1 x2 h = some res) : jJ G X h 0 0 0 [some (.int x0), some (.ref a1), some (.int x2)] [] := by
  unfold F_X2_value at hf
  refine jr_iload_n K (D_at DX2_value 0 rfl) rfl rfl ?_
  by_cases c1_0 : x0 = (0 : Int32)
  · replace hf := (if_pos c1_0).symm.trans hf
    refine jr_tableIn K (D_at DX2_value 1 rfl) (off := 59) (tgt := 60) (by rw [c1_0]; decide) (by rw [c1_0]; decide) (by rw [c1_0]; decide) (by decide) ?_
    refine jr_iload_n K (D_at DX2_value 2 rfl) rfl rfl ?_
    cases hf
    exact jr_iret K E (D_at DX2_value 3 rfl) rfl ⟨rfl, rfl⟩
  replace hf := (if_neg c1_0).symm.trans hf
  by_cases c1_1 : x0 = (1 : Int32)
  · replace hf := (if_pos c1_1).symm.trans hf
    refine jr_tableIn K (D_at DX2_value 1 rfl) (off := 61) (tgt := 62) (by rw [c1_1]; decide) (by rw [c1_1]; decide) (by rw [c1_1]; decide) (by decide) ?_
    refine jr_aload_n K (D_at DX2_value 4 rfl) rfl rfl ?_
    obtain ⟨p63, e63, hf⟩ := jbind hf
    refine jr_getR K (D_at DX2_value 5 rfl) fg_X2_85_6 e63 ?_
    refine jr_iload_n K (D_at DX2_value 6 rfl) rfl rfl ?_
    obtain ⟨v67, e67, hf⟩ := jbind hf
    refine jr_iald K (D_at DX2_value 7 rfl) e67 ?_
    cases hf
    exact jr_iret K E (D_at DX2_value 8 rfl) rfl ⟨rfl, rfl⟩
  replace hf := (if_neg c1_1).symm.trans hf
  by_cases c1_2 : x0 = (2 : Int32)
  · replace hf := (if_pos c1_2).symm.trans hf
    refine jr_tableIn K (D_at DX2_value 1 rfl) (off := 68) (tgt := 69) (by rw [c1_2]; decide) (by rw [c1_2]; decide) (by rw [c1_2]; decide) (by decide) ?_
    refine jr_aload_n K (D_at DX2_value 9 rfl) rfl rfl ?_
    refine jr_iload_n K (D_at DX2_value 10 rfl) rfl rfl ?_
    refine jr_bipush K (D_at DX2_value 11 rfl) (v := (99 : Int32)) (by decide) ?_
    obtain ⟨v73, e73, hf⟩ := jbind hf
    obtain ⟨rc_73, e73⟩ := jcv_o e73
    refine jr_callV K (C_X8_gap (d) e73) (D_at DX2_value 12 rfl) cv_X2_88_X8_gap (As := [.int x2, .int (99 : Int32)]) (ci := 6) rfl rc_73 rfl rfl (by exact Nat.le_of_ble_eq_true rfl) (kc2 := 0) (ks2 := 0) rfl rfl (fun k9 h9 w9 => by cases w9.1) (fun r9 h9 w9 => ?_)
    obtain ⟨w1, w2⟩ := w9
    subst h9
    cases w1
    show jJ G X _ 0 0 _ _ (.int v73 :: _)
    cases hf
    exact jr_iret K E (D_at DX2_value 13 rfl) rfl ⟨rfl, rfl⟩
  replace hf := (if_neg c1_2).symm.trans hf
  by_cases c1_3 : x0 = (3 : Int32)
  · replace hf := (if_pos c1_3).symm.trans hf
    refine jr_tableIn K (D_at DX2_value 1 rfl) (off := 76) (tgt := 77) (by rw [c1_3]; decide) (by rw [c1_3]; decide) (by rw [c1_3]; decide) (by decide) ?_
    refine jr_aload_n K (D_at DX2_value 14 rfl) rfl rfl ?_
    obtain ⟨p78, e78, hf⟩ := jbind hf
    refine jr_getR K (D_at DX2_value 15 rfl) fg_X2_92_6 e78 ?_
    refine jr_iload_n K (D_at DX2_value 16 rfl) rfl rfl ?_
    obtain ⟨v82, e82, hf⟩ := jbind hf
    refine jr_iald K (D_at DX2_value 17 rfl) e82 ?_
    cases hf
    exact jr_iret K E (D_at DX2_value 18 rfl) rfl ⟨rfl, rfl⟩
  replace hf := (if_neg c1_3).symm.trans hf
  by_cases c1_4 : x0 = (4 : Int32)
  · replace hf := (if_pos c1_4).symm.trans hf
    refine jr_tableIn K (D_at DX2_value 1 rfl) (off := 83) (tgt := 84) (by rw [c1_4]; decide) (by rw [c1_4]; decide) (by rw [c1_4]; decide) (by decide) ?_
    refine jr_aload_n K (D_at DX2_value 19 rfl) rfl rfl ?_
    obtain ⟨p85, e85, hf⟩ := jbind hf
    refine jr_getR K (D_at DX2_value 20 rfl) fg_X2_95_6 e85 ?_
    refine jr_iload_n K (D_at DX2_value 21 rfl) rfl rfl ?_
    obtain ⟨v89, e89, hf⟩ := jbind hf
    refine jr_iald K (D_at DX2_value 22 rfl) e89 ?_
    cases hf
    exact jr_iret K E (D_at DX2_value 23 rfl) rfl ⟨rfl, rfl⟩
  replace hf := (if_neg c1_4).symm.trans hf
  by_cases c1_5 : x0 = (5 : Int32)
  · replace hf := (if_pos c1_5).symm.trans hf
    refine jr_tableIn K (D_at DX2_value 1 rfl) (off := 90) (tgt := 91) (by rw [c1_5]; decide) (by rw [c1_5]; decide) (by rw [c1_5]; decide) (by decide) ?_
    refine jr_aload_n K (D_at DX2_value 24 rfl) rfl rfl ?_
    obtain ⟨v92, e92, hf⟩ := jbind hf
    refine jr_getI K (D_at DX2_value 25 rfl) fg_X2_52_6 e92 ?_
    cases hf
    exact jr_iret K E (D_at DX2_value 26 rfl) rfl ⟨rfl, rfl⟩
  replace hf := (if_neg c1_5).symm.trans hf
  by_cases c1_6 : x0 = (6 : Int32)
  · replace hf := (if_pos c1_6).symm.trans hf
    refine jr_tableIn K (D_at DX2_value 1 rfl) (off := 95) (tgt := 96) (by rw [c1_6]; decide) (by rw [c1_6]; decide) (by rw [c1_6]; decide) (by decide) ?_
    refine jr_aload_n K (D_at DX2_value 27 rfl) rfl rfl ?_
    obtain ⟨v97, e97, hf⟩ := jbind hf
    refine jr_getI K (D_at DX2_value 28 rfl) fg_X2_98_6 e97 ?_
    cases hf
    exact jr_iret K E (D_at DX2_value 29 rfl) rfl ⟨rfl, rfl⟩
  replace hf := (if_neg c1_6).symm.trans hf
  by_cases c1_7 : x0 = (7 : Int32)
  · replace hf := (if_pos c1_7).symm.trans hf
    refine jr_tableIn K (D_at DX2_value 1 rfl) (off := 100) (tgt := 101) (by rw [c1_7]; decide) (by rw [c1_7]; decide) (by rw [c1_7]; decide) (by decide) ?_
    refine jr_aload_n K (D_at DX2_value 30 rfl) rfl rfl ?_
    obtain ⟨v102, e102, hf⟩ := jbind hf
    refine jr_getI K (D_at DX2_value 31 rfl) fg_X2_101_6 e102 ?_
    refine jr_iload_n K (D_at DX2_value 32 rfl) rfl rfl ?_
    obtain ⟨v106, e106, hf⟩ := jbind hf
    refine jr_callSN K (C_X11_bit (d) e106) (D_at DX2_value 33 rfl) csn_X2_104_X11_bit (As := [.int v102, .int x2]) rfl rfl (by exact Nat.le_of_ble_eq_true rfl) (kc2 := 0) (ks2 := 0) rfl rfl (fun k9 h9 w9 => by cases w9.1) (fun r9 h9 w9 => ?_)
    obtain ⟨w1, w2⟩ := w9
    subst h9
    cases w1
    show jJ G X _ 0 0 _ _ (.int v106 :: _)
    cases hf
    exact jr_iret K E (D_at DX2_value 34 rfl) rfl ⟨rfl, rfl⟩
  replace hf := (if_neg c1_7).symm.trans hf
  by_cases c1_8 : x0 = (8 : Int32)
  · replace hf := (if_pos c1_8).symm.trans hf
    refine jr_tableIn K (D_at DX2_value 1 rfl) (off := 109) (tgt := 110) (by rw [c1_8]; decide) (by rw [c1_8]; decide) (by rw [c1_8]; decide) (by decide) ?_
    refine jr_aload_n K (D_at DX2_value 35 rfl) rfl rfl ?_
    obtain ⟨v111, e111, hf⟩ := jbind hf
    refine jr_getI K (D_at DX2_value 36 rfl) fg_X2_107_6 e111 ?_
    refine jr_iload_n K (D_at DX2_value 37 rfl) rfl rfl ?_
    obtain ⟨v115, e115, hf⟩ := jbind hf
    refine jr_callSN K (C_X11_bit (d) e115) (D_at DX2_value 38 rfl) csn_X2_104_X11_bit (As := [.int v111, .int x2]) rfl rfl (by exact Nat.le_of_ble_eq_true rfl) (kc2 := 0) (ks2 := 0) rfl rfl (fun k9 h9 w9 => by cases w9.1) (fun r9 h9 w9 => ?_)
    obtain ⟨w1, w2⟩ := w9
    subst h9
    cases w1
    show jJ G X _ 0 0 _ _ (.int v115 :: _)
    cases hf
    exact jr_iret K E (D_at DX2_value 39 rfl) rfl ⟨rfl, rfl⟩
  replace hf := (if_neg c1_8).symm.trans hf
  by_cases c1_9 : x0 = (9 : Int32)
  · replace hf := (if_pos c1_9).symm.trans hf
    refine jr_tableIn K (D_at DX2_value 1 rfl) (off := 118) (tgt := 119) (by rw [c1_9]; decide) (by rw [c1_9]; decide) (by rw [c1_9]; decide) (by decide) ?_
    refine jr_aload_n K (D_at DX2_value 40 rfl) rfl rfl ?_
    refine jr_iload_n K (D_at DX2_value 41 rfl) rfl rfl ?_
    refine jr_aload_n K (D_at DX2_value 42 rfl) rfl rfl ?_
    obtain ⟨v122, e122, hf⟩ := jbind hf
    refine jr_getI K (D_at DX2_value 43 rfl) fg_X2_52_6 e122 ?_
    obtain ⟨v125, e125, hf⟩ := jbind hf
    obtain ⟨rc_125, e125⟩ := jcv_o e125
    refine jr_callV K (C_X8_isLit (d) e125) (D_at DX2_value 44 rfl) cv_X2_57_X8_isLit (As := [.int x2, .int v122]) (ci := 6) rfl rc_125 rfl rfl (by exact Nat.le_of_ble_eq_true rfl) (kc2 := 0) (ks2 := 0) rfl rfl (fun k9 h9 w9 => by cases w9.1) (fun r9 h9 w9 => ?_)
    obtain ⟨w1, w2⟩ := w9
    subst h9
    cases w1
    show jJ G X _ 0 0 _ _ (.int v125 :: _)
    refine jr_if_eq K (D_at DX2_value 45 rfl) (tgt := 135) (by decide) (fun c128 => ?_) (fun c128 => ?_)
    · replace hf := (if_pos c128).symm.trans hf
      refine jr_iconst K (D_at DX2_value 48 rfl) (v := (0 : Int32)) (by decide) ?_
      cases hf
      exact jr_iret K E (D_at DX2_value 49 rfl) rfl ⟨rfl, rfl⟩
    · replace hf := (if_neg c128).symm.trans hf
      refine jr_iconst K (D_at DX2_value 46 rfl) (v := (1 : Int32)) (by decide) ?_
      refine jr_goto K (D_at DX2_value 47 rfl) (tgt := 136) (by decide) ?_
      cases hf
      exact jr_iret K E (D_at DX2_value 49 rfl) rfl ⟨rfl, rfl⟩
  replace hf := (if_neg c1_9).symm.trans hf
  by_cases c1_10 : x0 = (10 : Int32)
  · replace hf := (if_pos c1_10).symm.trans hf
    refine jr_tableIn K (D_at DX2_value 1 rfl) (off := 136) (tgt := 137) (by rw [c1_10]; decide) (by rw [c1_10]; decide) (by rw [c1_10]; decide) (by decide) ?_
    refine jr_aload_n K (D_at DX2_value 50 rfl) rfl rfl ?_
    obtain ⟨v138, e138, hf⟩ := jbind hf
    refine jr_getI K (D_at DX2_value 51 rfl) fg_X2_110_6 e138 ?_
    refine jr_iload_n K (D_at DX2_value 52 rfl) rfl rfl ?_
    obtain ⟨v142, e142, hf⟩ := jbind hf
    refine jr_callSN K (C_X11_bit (d) e142) (D_at DX2_value 53 rfl) csn_X2_104_X11_bit (As := [.int v138, .int x2]) rfl rfl (by exact Nat.le_of_ble_eq_true rfl) (kc2 := 0) (ks2 := 0) rfl rfl (fun k9 h9 w9 => by cases w9.1) (fun r9 h9 w9 => ?_)
    obtain ⟨w1, w2⟩ := w9
    subst h9
    cases w1
    show jJ G X _ 0 0 _ _ (.int v142 :: _)
    cases hf
    exact jr_iret K E (D_at DX2_value 54 rfl) rfl ⟨rfl, rfl⟩
  replace hf := (if_neg c1_10).symm.trans hf
  have w1_0 := lv_neT c1_0 (a := 0) (by decide)
  have w1_1 := lv_neT c1_1 (a := 1) (by decide)
  have w1_2 := lv_neT c1_2 (a := 2) (by decide)
  have w1_3 := lv_neT c1_3 (a := 3) (by decide)
  have w1_4 := lv_neT c1_4 (a := 4) (by decide)
  have w1_5 := lv_neT c1_5 (a := 5) (by decide)
  have w1_6 := lv_neT c1_6 (a := 6) (by decide)
  have w1_7 := lv_neT c1_7 (a := 7) (by decide)
  have w1_8 := lv_neT c1_8 (a := 8) (by decide)
  have w1_9 := lv_neT c1_9 (a := 9) (by decide)
  have w1_10 := lv_neT c1_10 (a := 10) (by decide)
  refine jr_tableOut K (D_at DX2_value 1 rfl) (tgt := 146) (by omega) (by decide) ?_
  refine jr_iload_n K (D_at DX2_value 55 rfl) rfl rfl ?_
  refine jr_sipush K (D_at DX2_value 56 rfl) (v := (256 : Int32)) (by decide) ?_
  refine jr_isub K (D_at DX2_value 57 rfl) ?_
  cases hf
  exact jr_iret K E (D_at DX2_value 58 rfl) rfl ⟨rfl, rfl⟩
theorem C_X2_value {G : jG} {l : Launch} (d : Nat) {n : Nat} {x0 : Int32} {a1 : Nat} {x2 : Int32} {h : jH} {res : Int32} (hf : F_X2_value n x0 a1 x2 h = some res) : jC G l mX2_value (d + 1) 0 0 [.int x0, .ref a1, .int x2] h (jPR h res) :=
  jC.of (by decide +kernel) (jcats rfl) (Nat.le_of_ble_eq_true rfl) (fun X K E => J_X2_value K n h E x0 a1 x2 hf)
set_option maxHeartbeats 400000 in
set_option maxRecDepth 100000 in
theorem J_X2_push {G : jG} {l : Launch} {d : Nat} {X : jX} {res : jH} (K : jOK G l mX2_push (d) X) (n : Nat) (E : jEnd G mX2_push (jPV res) X) (a0 : Nat) (x1 : Int32) (h : jH) (hf : F_X2_push n a0 x1 h = some res) : jJ G X h 0 0 0 [some (.ref a0), some (.int x1)] [] := by
  unfold F_X2_push at hf
  refine jr_aload_n K (D_at DX2_push 0 rfl) rfl rfl ?_
  obtain ⟨v1, e1, hf⟩ := jbind hf
  refine jr_getI K (D_at DX2_push 1 rfl) fg_X2_61_2 e1 ?_
  refine jr_bipush K (D_at DX2_push 2 rfl) (v := (24 : Int32)) (by decide) ?_
  refine jr_icmp_ge K (D_at DX2_push 3 rfl) (tgt := 29) (by decide) (fun c6 => ?_) (fun c6 => ?_)
  · replace hf := (if_pos c6).symm.trans hf
    cases hf
    exact jr_vret K E (D_at DX2_push 16 rfl) rfl ⟨rfl, rfl⟩
  · replace hf := (if_neg c6).symm.trans hf
    refine jr_aload_n K (D_at DX2_push 4 rfl) rfl rfl ?_
    obtain ⟨p10, e10, hf⟩ := jbind hf
    refine jr_getR K (D_at DX2_push 5 rfl) fg_X2_24_2 e10 ?_
    refine jr_aload_n K (D_at DX2_push 6 rfl) rfl rfl ?_
    obtain ⟨v14, e14, hf⟩ := jbind hf
    refine jr_getI K (D_at DX2_push 7 rfl) fg_X2_61_2 e14 ?_
    refine jr_iload_n K (D_at DX2_push 8 rfl) rfl rfl ?_
    obtain ⟨h18, e18, hf⟩ := jbind hf
    refine jr_iast K (D_at DX2_push 9 rfl) e18 ?_
    refine jr_aload_n K (D_at DX2_push 10 rfl) rfl rfl ?_
    refine jr_dup K (D_at DX2_push 11 rfl) rfl ?_
    obtain ⟨v21, e21, hf⟩ := jbind hf
    refine jr_getI K (D_at DX2_push 12 rfl) fg_X2_61_2 e21 ?_
    refine jr_iconst K (D_at DX2_push 13 rfl) (v := (1 : Int32)) (by decide) ?_
    refine jr_iadd K (D_at DX2_push 14 rfl) ?_
    obtain ⟨h26, e26, hf⟩ := jbind hf
    refine jr_putI K (D_at DX2_push 15 rfl) fp_X2_61_2 (Or.inl rfl) e26 ?_
    cases hf
    exact jr_vret K E (D_at DX2_push 16 rfl) rfl ⟨rfl, rfl⟩
theorem C_X2_push {G : jG} {l : Launch} (d : Nat) {n : Nat} {a0 : Nat} {x1 : Int32} {h : jH} {res : jH} (hf : F_X2_push n a0 x1 h = some res) : jC G l mX2_push (d) 0 0 [.ref a0, .int x1] h (jPV res) :=
  jC.of (by decide +kernel) (jcats rfl) (Nat.le_of_ble_eq_true rfl) (fun X K E => J_X2_push K n E a0 x1 h hf)
set_option maxHeartbeats 400000 in
set_option maxRecDepth 100000 in
theorem J_X2_pop {G : jG} {l : Launch} {d : Nat} {X : jX} {res : (Int32 × jH)} (K : jOK G l mX2_pop (d) X) (n : Nat) (E : jEnd G mX2_pop (jPW res) X) (a0 : Nat) (h : jH) (hf : F_X2_pop n a0 h = some res) : jJ G X h 0 0 0 [some (.ref a0)] [] := by
  unfold F_X2_pop at hf
  refine jr_aload_n K (D_at DX2_pop 0 rfl) rfl rfl ?_
  obtain ⟨v1, e1, hf⟩ := jbind hf
  refine jr_getI K (D_at DX2_pop 1 rfl) fg_X2_61_2 e1 ?_
  refine jr_if_gt K (D_at DX2_pop 2 rfl) (tgt := 9) (by decide) (fun c4 => ?_) (fun c4 => ?_)
  · replace hf := (if_pos c4).symm.trans hf
    refine jr_aload_n K (D_at DX2_pop 5 rfl) rfl rfl ?_
    refine jr_dup K (D_at DX2_pop 6 rfl) rfl ?_
    obtain ⟨v11, e11, hf⟩ := jbind hf
    refine jr_getI K (D_at DX2_pop 7 rfl) fg_X2_61_2 e11 ?_
    refine jr_iconst K (D_at DX2_pop 8 rfl) (v := (1 : Int32)) (by decide) ?_
    refine jr_isub K (D_at DX2_pop 9 rfl) ?_
    obtain ⟨h16, e16, hf⟩ := jbind hf
    refine jr_putI K (D_at DX2_pop 10 rfl) fp_X2_61_2 (Or.inl rfl) e16 ?_
    refine jr_aload_n K (D_at DX2_pop 11 rfl) rfl rfl ?_
    obtain ⟨p20, e20, hf⟩ := jbind hf
    refine jr_getR K (D_at DX2_pop 12 rfl) fg_X2_24_2 e20 ?_
    refine jr_aload_n K (D_at DX2_pop 13 rfl) rfl rfl ?_
    obtain ⟨v24, e24, hf⟩ := jbind hf
    refine jr_getI K (D_at DX2_pop 14 rfl) fg_X2_61_2 e24 ?_
    obtain ⟨v27, e27, hf⟩ := jbind hf
    refine jr_iald K (D_at DX2_pop 15 rfl) e27 ?_
    cases hf
    exact jr_iret K E (D_at DX2_pop 16 rfl) rfl ⟨rfl, rfl⟩
  · replace hf := (if_neg c4).symm.trans hf
    refine jr_iconst K (D_at DX2_pop 3 rfl) (v := (0 : Int32)) (by decide) ?_
    cases hf
    exact jr_iret K E (D_at DX2_pop 4 rfl) rfl ⟨rfl, rfl⟩
theorem C_X2_pop {G : jG} {l : Launch} (d : Nat) {n : Nat} {a0 : Nat} {h : jH} {res : (Int32 × jH)} (hf : F_X2_pop n a0 h = some res) : jC G l mX2_pop (d) 0 0 [.ref a0] h (jPW res) :=
  jC.of (by decide +kernel) (jcats rfl) (Nat.le_of_ble_eq_true rfl) (fun X K E => J_X2_pop K n E a0 h hf)
set_option maxHeartbeats 400000 in
set_option maxRecDepth 100000 in
theorem J_X2_joined {G : jG} {l : Launch} {d : Nat} {X : jX} {res : Int32} (K : jOK G l mX2_joined (d) X) (n : Nat) (h : jH) (E : jEnd G mX2_joined (jPR h res) X) (x0 : Int32) (x1 : Int32) (x2 : Int32) (hf : F_X2_joined n x0 x1 x2 h = some res) : jJ G X h 0 0 0 [some (.int x0), some (.int x1), some (.int x2)] [] := by
  unfold F_X2_joined at hf
  refine jr_iload_n K (D_at DX2_joined 0 rfl) rfl rfl ?_
  by_cases c1_0 : x0 = (12 : Int32)
  · replace hf := (if_pos c1_0).symm.trans hf
    refine jr_lookup K (D_at DX2_joined 1 rfl) (off := 69) (tgt := 70) (by decide) (by rw [c1_0]; decide) (by decide) ?_
    refine jr_iload_n K (D_at DX2_joined 20 rfl) rfl rfl ?_
    refine jr_iload_n K (D_at DX2_joined 21 rfl) rfl rfl ?_
    refine jr_iand K (D_at DX2_joined 22 rfl) ?_
    cases hf
    exact jr_iret K E (D_at DX2_joined 23 rfl) rfl ⟨rfl, rfl⟩
  replace hf := (if_neg c1_0).symm.trans hf
  by_cases c1_1 : x0 = (43 : Int32)
  · replace hf := (if_pos c1_1).symm.trans hf
    refine jr_lookup K (D_at DX2_joined 1 rfl) (off := 43) (tgt := 44) (by decide) (by rw [c1_1]; decide) (by decide) ?_
    refine jr_iload_n K (D_at DX2_joined 2 rfl) rfl rfl ?_
    refine jr_iload_n K (D_at DX2_joined 3 rfl) rfl rfl ?_
    refine jr_iadd K (D_at DX2_joined 4 rfl) ?_
    cases hf
    exact jr_iret K E (D_at DX2_joined 5 rfl) rfl ⟨rfl, rfl⟩
  replace hf := (if_neg c1_1).symm.trans hf
  by_cases c1_2 : x0 = (60 : Int32)
  · replace hf := (if_pos c1_2).symm.trans hf
    refine jr_lookup K (D_at DX2_joined 1 rfl) (off := 47) (tgt := 48) (by decide) (by rw [c1_2]; decide) (by decide) ?_
    refine jr_iload_n K (D_at DX2_joined 6 rfl) rfl rfl ?_
    refine jr_iload_n K (D_at DX2_joined 7 rfl) rfl rfl ?_
    refine jr_icmp_ge K (D_at DX2_joined 8 rfl) (tgt := 57) (by decide) (fun c50 => ?_) (fun c50 => ?_)
    · replace hf := (if_pos c50).symm.trans hf
      refine jr_iconst K (D_at DX2_joined 11 rfl) (v := (0 : Int32)) (by decide) ?_
      cases hf
      exact jr_iret K E (D_at DX2_joined 12 rfl) rfl ⟨rfl, rfl⟩
    · replace hf := (if_neg c50).symm.trans hf
      refine jr_iconst K (D_at DX2_joined 9 rfl) (v := (1 : Int32)) (by decide) ?_
      refine jr_goto K (D_at DX2_joined 10 rfl) (tgt := 58) (by decide) ?_
      cases hf
      exact jr_iret K E (D_at DX2_joined 12 rfl) rfl ⟨rfl, rfl⟩
  replace hf := (if_neg c1_2).symm.trans hf
  by_cases c1_3 : x0 = (62 : Int32)
  · replace hf := (if_pos c1_3).symm.trans hf
    refine jr_lookup K (D_at DX2_joined 1 rfl) (off := 58) (tgt := 59) (by decide) (by rw [c1_3]; decide) (by decide) ?_
    refine jr_iload_n K (D_at DX2_joined 13 rfl) rfl rfl ?_
    refine jr_iload_n K (D_at DX2_joined 14 rfl) rfl rfl ?_
    refine jr_icmp_le K (D_at DX2_joined 15 rfl) (tgt := 68) (by decide) (fun c61 => ?_) (fun c61 => ?_)
    · replace hf := (if_pos c61).symm.trans hf
      refine jr_iconst K (D_at DX2_joined 18 rfl) (v := (0 : Int32)) (by decide) ?_
      cases hf
      exact jr_iret K E (D_at DX2_joined 19 rfl) rfl ⟨rfl, rfl⟩
    · replace hf := (if_neg c61).symm.trans hf
      refine jr_iconst K (D_at DX2_joined 16 rfl) (v := (1 : Int32)) (by decide) ?_
      refine jr_goto K (D_at DX2_joined 17 rfl) (tgt := 69) (by decide) ?_
      cases hf
      exact jr_iret K E (D_at DX2_joined 19 rfl) rfl ⟨rfl, rfl⟩
  replace hf := (if_neg c1_3).symm.trans hf
  refine jr_lookup K (D_at DX2_joined 1 rfl) (off := 73) (tgt := 74) (by decide) (by show Op.lookupswitch.offset [(12, 69), (43, 43), (60, 47), (62, 58)] 73 _ = _; rw [lv_osw c1_0 (a := 12) (by decide), lv_osw c1_1 (a := 43) (by decide), lv_osw c1_2 (a := 60) (by decide), lv_osw c1_3 (a := 62) (by decide)]; rfl) (by decide) ?_
  refine jr_iload_n K (D_at DX2_joined 24 rfl) rfl rfl ?_
  refine jr_iload_n K (D_at DX2_joined 25 rfl) rfl rfl ?_
  refine jr_ior K (D_at DX2_joined 26 rfl) ?_
  cases hf
  exact jr_iret K E (D_at DX2_joined 27 rfl) rfl ⟨rfl, rfl⟩
theorem C_X2_joined {G : jG} {l : Launch} (d : Nat) {n : Nat} {x0 : Int32} {x1 : Int32} {x2 : Int32} {h : jH} {res : Int32} (hf : F_X2_joined n x0 x1 x2 h = some res) : jC G l mX2_joined (d) 0 0 [.int x0, .int x1, .int x2] h (jPR h res) :=
  jC.of (by decide +kernel) (jcats rfl) (Nat.le_of_ble_eq_true rfl) (fun X K E => J_X2_joined K n h E x0 x1 x2 hf)
set_option maxHeartbeats 400000 in
set_option maxRecDepth 100000 in
theorem J_X2_holds_23_b {G : jG} {l : Launch} {d : Nat} {X : jX} {res : (Int32 × jH)} (K : jOK G l mX2_holds (d + 2) X) (n : Nat) (rc23 : Nat → Int32 → Nat → Int32 → Int32 → jH → Option (Int32 × jH)) (hr23 : ∀ (a0 : Nat) (x1 : Int32) (a2 : Nat) (x3 : Int32) (x4 : Int32) (h : jH), rc23 a0 x1 a2 x3 x4 h = some res → jJ G X h 0 0 23 [some (.ref a0), some (.int x1), some (.ref a2), some (.int x3), some (.int x4), none, none] []) (E : jEnd G mX2_holds (jPW res) X) (a0 : Nat) (x1 : Int32) (a2 : Nat) (x3 : Int32) (x4 : Int32) (h : jH) (hf : F_X2_holds_23_b n rc23 a0 x1 a2 x3 x4 h = some res) : jJ G X h 0 0 23 [some (.ref a0), some (.int x1), some (.ref a2), some (.int x3), some (.int x4), none, none] [] := by
  unfold F_X2_holds_23_b at hf
  refine jr_iload K (D_at DX2_holds 14 rfl) rfl ?_
  refine jr_aload_n K (D_at DX2_holds 15 rfl) rfl rfl ?_
  obtain ⟨p26, e26, hf⟩ := jbind hf
  refine jr_getR K (D_at DX2_holds 16 rfl) fg_X2_18_2 e26 ?_
  refine jr_iload_n K (D_at DX2_holds 17 rfl) rfl rfl ?_
  obtain ⟨v30, e30, hf⟩ := jbind hf
  refine jr_iald K (D_at DX2_holds 18 rfl) e30 ?_
  refine jr_icmp_ge K (D_at DX2_holds 19 rfl) (tgt := 112) (by decide) (fun c31 => ?_) (fun c31 => ?_)
  · replace hf := (if_pos c31).symm.trans hf
    refine jr_aload_n K (D_at DX2_holds 57 rfl) rfl rfl ?_
    obtain ⟨v113, e113, hf⟩ := jbind hf
    refine jr_getI K (D_at DX2_holds 58 rfl) fg_X2_61_2 e113 ?_
    refine jr_if_eq K (D_at DX2_holds 59 rfl) (tgt := 126) (by decide) (fun c116 => ?_) (fun c116 => ?_)
    · replace hf := (if_pos c116).symm.trans hf
      refine jr_iconst K (D_at DX2_holds 63 rfl) (v := (1 : Int32)) (by decide) ?_
      refine jr_goto K (D_at DX2_holds_1 0 rfl) (tgt := 131) (by decide) ?_
      cases hf
      exact jr_zret K E (D_at DX2_holds_1 2 rfl) rfl (Or.inr rfl) ⟨rfl, rfl⟩
    · replace hf := (if_neg c116).symm.trans hf
      refine jr_aload_n K (D_at DX2_holds 60 rfl) rfl rfl ?_
      obtain ⟨q120, e120, hf⟩ := jbind hf
      obtain ⟨rc_120, e120⟩ := jcv_o e120
      refine jr_callV K (C_X2_pop (d + 1) e120) (D_at DX2_holds 61 rfl) cv_X2_77_X2_pop (As := []) (ci := 2) rfl rc_120 rfl rfl (by exact Nat.le_of_ble_eq_true rfl) (kc2 := 0) (ks2 := 0) rfl rfl (fun k9 h9 w9 => by cases w9.1) (fun r9 h9 w9 => ?_)
      obtain ⟨w1, w2⟩ := w9
      subst h9
      cases w1
      show jJ G X _ 0 0 _ _ (.int q120.1 :: _)
      refine jr_if_eq K (D_at DX2_holds 62 rfl) (tgt := 130) (by decide) (fun c123 => ?_) (fun c123 => ?_)
      · replace hf := (if_pos c123).symm.trans hf
        refine jr_iconst K (D_at DX2_holds_1 1 rfl) (v := (0 : Int32)) (by decide) ?_
        cases hf
        exact jr_zret K E (D_at DX2_holds_1 2 rfl) rfl (Or.inl rfl) ⟨rfl, rfl⟩
      · replace hf := (if_neg c123).symm.trans hf
        refine jr_iconst K (D_at DX2_holds 63 rfl) (v := (1 : Int32)) (by decide) ?_
        refine jr_goto K (D_at DX2_holds_1 0 rfl) (tgt := 131) (by decide) ?_
        cases hf
        exact jr_zret K E (D_at DX2_holds_1 2 rfl) rfl (Or.inr rfl) ⟨rfl, rfl⟩
  · replace hf := (if_neg c31).symm.trans hf
    refine jr_aload_n K (D_at DX2_holds 20 rfl) rfl rfl ?_
    obtain ⟨p35, e35, hf⟩ := jbind hf
    refine jr_getR K (D_at DX2_holds 21 rfl) fg_X2_21_2 e35 ?_
    refine jr_iload K (D_at DX2_holds 22 rfl) rfl ?_
    obtain ⟨v40, e40, hf⟩ := jbind hf
    refine jr_iald K (D_at DX2_holds 23 rfl) e40 ?_
    refine jr_istore K (D_at DX2_holds 24 rfl) (i := 5) (by decide) (L2 := [_, _, _, _, _, _, _]) rfl ?_
    refine jr_iload K (D_at DX2_holds 25 rfl) rfl ?_
    obtain ⟨v45, e45, hf⟩ := jbind hf
    refine jr_callS K (C_X2_isValue (d + 1) e45) (D_at DX2_holds 26 rfl) cs_X2_64_X2_isValue (As := [.int v40]) rfl rfl (by exact Nat.le_of_ble_eq_true rfl) (kc2 := 0) (ks2 := 0) rfl rfl (fun k9 h9 w9 => by cases w9.1) (fun r9 h9 w9 => ?_)
    obtain ⟨w1, w2⟩ := w9
    subst h9
    cases w1
    show jJ G X _ 0 0 _ _ (.int v45 :: _)
    refine jr_if_eq K (D_at DX2_holds 27 rfl) (tgt := 65) (by decide) (fun c48 => ?_) (fun c48 => ?_)
    · replace hf := (if_pos c48).symm.trans hf
      refine jr_iload K (D_at DX2_holds 35 rfl) rfl ?_
      refine jr_bipush K (D_at DX2_holds 36 rfl) (v := (11 : Int32)) (by decide) ?_
      refine jr_icmp_ne K (D_at DX2_holds 37 rfl) (tgt := 85) (by decide) (fun c69 => ?_) (fun c69 => ?_)
      · replace hf := (if_neg c69).symm.trans hf
        refine jr_aload_n K (D_at DX2_holds 45 rfl) rfl rfl ?_
        obtain ⟨q86, e86, hf⟩ := jbind hf
        obtain ⟨rc_86, e86⟩ := jcv_o e86
        refine jr_callV K (C_X2_pop (d + 1) e86) (D_at DX2_holds 46 rfl) cv_X2_77_X2_pop (As := []) (ci := 2) rfl rc_86 rfl rfl (by exact Nat.le_of_ble_eq_true rfl) (kc2 := 0) (ks2 := 0) rfl rfl (fun k9 h9 w9 => by cases w9.1) (fun r9 h9 w9 => ?_)
        obtain ⟨w1, w2⟩ := w9
        subst h9
        cases w1
        show jJ G X _ 0 0 _ _ (.int q86.1 :: _)
        refine jr_istore K (D_at DX2_holds 47 rfl) (i := 6) (by decide) (L2 := [_, _, _, _, _, _, _]) rfl ?_
        refine jr_aload_n K (D_at DX2_holds 48 rfl) rfl rfl ?_
        refine jr_iload K (D_at DX2_holds 49 rfl) rfl ?_
        refine jr_aload_n K (D_at DX2_holds 50 rfl) rfl rfl ?_
        obtain ⟨q95, e95, hf⟩ := jbind hf
        obtain ⟨rc_95, e95⟩ := jcv_o e95
        refine jr_callV K (C_X2_pop (d + 1) e95) (D_at DX2_holds 51 rfl) cv_X2_77_X2_pop (As := []) (ci := 2) rfl rc_95 rfl rfl (by exact Nat.le_of_ble_eq_true rfl) (kc2 := 0) (ks2 := 0) rfl rfl (fun k9 h9 w9 => by cases w9.1) (fun r9 h9 w9 => ?_)
        obtain ⟨w1, w2⟩ := w9
        subst h9
        cases w1
        show jJ G X _ 0 0 _ _ (.int q95.1 :: _)
        refine jr_iload K (D_at DX2_holds 52 rfl) rfl ?_
        obtain ⟨v100, e100, hf⟩ := jbind hf
        refine jr_callS K (C_X2_joined (d + 1) e100) (D_at DX2_holds 53 rfl) cs_X2_81_X2_joined (As := [.int v40, .int q95.1, .int q86.1]) rfl rfl (by exact Nat.le_of_ble_eq_true rfl) (kc2 := 0) (ks2 := 0) rfl rfl (fun k9 h9 w9 => by cases w9.1) (fun r9 h9 w9 => ?_)
        obtain ⟨w1, w2⟩ := w9
        subst h9
        cases w1
        show jJ G X _ 0 0 _ _ (.int v100 :: _)
        obtain ⟨h103, e103, hf⟩ := jbind hf
        obtain ⟨rc_103, e103⟩ := jcv_o e103
        refine jr_callV K (C_X2_push (d + 1) e103) (D_at DX2_holds 54 rfl) cv_X2_71_X2_push (As := [.int v100]) (ci := 2) rfl rc_103 rfl rfl (by exact Nat.le_of_ble_eq_true rfl) (kc2 := 0) (ks2 := 0) rfl rfl (fun k9 h9 w9 => by cases w9.1) (fun r9 h9 w9 => ?_)
        obtain ⟨w1, w2⟩ := w9
        subst h9
        cases w1
        show jJ G X _ 0 0 _ _ []
        refine jr_iinc K (D_at DX2_holds 55 rfl) (i := 4) rfl (v := x4 + (1 : Int32)) (jinc (by decide)) (by decide) (L2 := [_, _, _, _, _, _, _]) rfl ?_
        refine jr_goto K (D_at DX2_holds 56 rfl) (tgt := 23) (by decide) ?_
        refine jr_keep [true, true, true, true, true, false, false] ?_
        exact hr23 a0 x1 a2 x3 (x4 + (1 : Int32)) h103 hf
      · replace hf := (if_pos c69).symm.trans hf
        refine jr_aload_n K (D_at DX2_holds 38 rfl) rfl rfl ?_
        refine jr_iconst K (D_at DX2_holds 39 rfl) (v := (1 : Int32)) (by decide) ?_
        refine jr_aload_n K (D_at DX2_holds 40 rfl) rfl rfl ?_
        obtain ⟨q75, e75, hf⟩ := jbind hf
        obtain ⟨rc_75, e75⟩ := jcv_o e75
        refine jr_callV K (C_X2_pop (d + 1) e75) (D_at DX2_holds 41 rfl) cv_X2_77_X2_pop (As := []) (ci := 2) rfl rc_75 rfl rfl (by exact Nat.le_of_ble_eq_true rfl) (kc2 := 0) (ks2 := 0) rfl rfl (fun k9 h9 w9 => by cases w9.1) (fun r9 h9 w9 => ?_)
        obtain ⟨w1, w2⟩ := w9
        subst h9
        cases w1
        show jJ G X _ 0 0 _ _ (.int q75.1 :: _)
        refine jr_isub K (D_at DX2_holds 42 rfl) ?_
        obtain ⟨h79, e79, hf⟩ := jbind hf
        obtain ⟨rc_79, e79⟩ := jcv_o e79
        refine jr_callV K (C_X2_push (d + 1) e79) (D_at DX2_holds 43 rfl) cv_X2_71_X2_push (As := [.int ((1 : Int32) - q75.1)]) (ci := 2) rfl rc_79 rfl rfl (by exact Nat.le_of_ble_eq_true rfl) (kc2 := 0) (ks2 := 0) rfl rfl (fun k9 h9 w9 => by cases w9.1) (fun r9 h9 w9 => ?_)
        obtain ⟨w1, w2⟩ := w9
        subst h9
        cases w1
        show jJ G X _ 0 0 _ _ []
        refine jr_goto K (D_at DX2_holds 44 rfl) (tgt := 106) (by decide) ?_
        refine jr_iinc K (D_at DX2_holds 55 rfl) (i := 4) rfl (v := x4 + (1 : Int32)) (jinc (by decide)) (by decide) (L2 := [_, _, _, _, _, _, _]) rfl ?_
        refine jr_goto K (D_at DX2_holds 56 rfl) (tgt := 23) (by decide) ?_
        refine jr_keep [true, true, true, true, true, false, false] ?_
        exact hr23 a0 x1 a2 x3 (x4 + (1 : Int32)) h79 hf
    · replace hf := (if_neg c48).symm.trans hf
      refine jr_aload_n K (D_at DX2_holds 28 rfl) rfl rfl ?_
      refine jr_iload K (D_at DX2_holds 29 rfl) rfl ?_
      refine jr_aload_n K (D_at DX2_holds 30 rfl) rfl rfl ?_
      refine jr_iload_n K (D_at DX2_holds 31 rfl) rfl rfl ?_
      obtain ⟨v56, e56, hf⟩ := jbind hf
      refine jr_callS K (C_X2_value (d) e56) (D_at DX2_holds 32 rfl) cs_X2_68_X2_value (As := [.int v40, .ref a2, .int x3]) rfl rfl (by exact Nat.le_of_ble_eq_true rfl) (kc2 := 0) (ks2 := 0) rfl rfl (fun k9 h9 w9 => by cases w9.1) (fun r9 h9 w9 => ?_)
      obtain ⟨w1, w2⟩ := w9
      subst h9
      cases w1
      show jJ G X _ 0 0 _ _ (.int v56 :: _)
      obtain ⟨h59, e59, hf⟩ := jbind hf
      obtain ⟨rc_59, e59⟩ := jcv_o e59
      refine jr_callV K (C_X2_push (d + 1) e59) (D_at DX2_holds 33 rfl) cv_X2_71_X2_push (As := [.int v56]) (ci := 2) rfl rc_59 rfl rfl (by exact Nat.le_of_ble_eq_true rfl) (kc2 := 0) (ks2 := 0) rfl rfl (fun k9 h9 w9 => by cases w9.1) (fun r9 h9 w9 => ?_)
      obtain ⟨w1, w2⟩ := w9
      subst h9
      cases w1
      show jJ G X _ 0 0 _ _ []
      refine jr_goto K (D_at DX2_holds 34 rfl) (tgt := 106) (by decide) ?_
      refine jr_iinc K (D_at DX2_holds 55 rfl) (i := 4) rfl (v := x4 + (1 : Int32)) (jinc (by decide)) (by decide) (L2 := [_, _, _, _, _, _, _]) rfl ?_
      refine jr_goto K (D_at DX2_holds 56 rfl) (tgt := 23) (by decide) ?_
      refine jr_keep [true, true, true, true, true, false, false] ?_
      exact hr23 a0 x1 a2 x3 (x4 + (1 : Int32)) h59 hf
theorem J_X2_holds_23 {G : jG} {l : Launch} {d : Nat} {X : jX} {res : (Int32 × jH)} (K : jOK G l mX2_holds (d + 2) X) (n : Nat) (E : jEnd G mX2_holds (jPW res) X) (k : Nat) : ∀ (a0 : Nat) (x1 : Int32) (a2 : Nat) (x3 : Int32) (x4 : Int32) (h : jH), F_X2_holds_23 n k a0 x1 a2 x3 x4 h = some res → jJ G X h 0 0 23 [some (.ref a0), some (.int x1), some (.ref a2), some (.int x3), some (.int x4), none, none] [] := by
  induction k with
  | zero =>
    intro a0 x1 a2 x3 x4 h hf
    exact jno (show (none : Option (Int32 × jH)) = some res from hf)
  | succ k ih =>
    intro a0 x1 a2 x3 x4 h hf
    exact J_X2_holds_23_b K n (F_X2_holds_23 n k) ih E a0 x1 a2 x3 x4 h hf
set_option maxHeartbeats 400000 in
set_option maxRecDepth 100000 in
theorem J_X2_holds {G : jG} {l : Launch} {d : Nat} {X : jX} {res : (Int32 × jH)} (K : jOK G l mX2_holds (d + 2) X) (n : Nat) (E : jEnd G mX2_holds (jPW res) X) (a0 : Nat) (x1 : Int32) (a2 : Nat) (x3 : Int32) (h : jH) (hf : F_X2_holds n a0 x1 a2 x3 h = some res) : jJ G X h 0 0 0 [some (.ref a0), some (.int x1), some (.ref a2), some (.int x3), none, none, none] [] := by
  unfold F_X2_holds at hf
  refine jr_aload_n K (D_at DX2_holds 0 rfl) rfl rfl ?_
  refine jr_iconst K (D_at DX2_holds 1 rfl) (v := (0 : Int32)) (by decide) ?_
  obtain ⟨h2, e2, hf⟩ := jbind hf
  refine jr_putI K (D_at DX2_holds 2 rfl) fp_X2_61_2 (Or.inl rfl) e2 ?_
  refine jr_iload_n K (D_at DX2_holds 3 rfl) rfl rfl ?_
  refine jr_if_ne K (D_at DX2_holds 4 rfl) (tgt := 13) (by decide) (fun c6 => ?_) (fun c6 => ?_)
  · replace hf := (if_neg c6).symm.trans hf
    refine jr_aload_n K (D_at DX2_holds 7 rfl) rfl rfl ?_
    obtain ⟨p14, e14, hf⟩ := jbind hf
    refine jr_getR K (D_at DX2_holds 8 rfl) fg_X2_18_2 e14 ?_
    refine jr_iload_n K (D_at DX2_holds 9 rfl) rfl rfl ?_
    refine jr_iconst K (D_at DX2_holds 10 rfl) (v := (1 : Int32)) (by decide) ?_
    refine jr_isub K (D_at DX2_holds 11 rfl) ?_
    obtain ⟨v20, e20, hf⟩ := jbind hf
    refine jr_iald K (D_at DX2_holds 12 rfl) e20 ?_
    refine jr_istore K (D_at DX2_holds 13 rfl) (i := 4) (by decide) (L2 := [_, _, _, _, _, _, _]) rfl ?_
    refine jr_keep [true, true, true, true, true, false, false] ?_
    exact J_X2_holds_23 K n E n a0 x1 a2 x3 v20 h2 hf
  · replace hf := (if_pos c6).symm.trans hf
    refine jr_iconst K (D_at DX2_holds 5 rfl) (v := (0 : Int32)) (by decide) ?_
    refine jr_goto K (D_at DX2_holds 6 rfl) (tgt := 21) (by decide) ?_
    refine jr_istore K (D_at DX2_holds 13 rfl) (i := 4) (by decide) (L2 := [_, _, _, _, _, _, _]) rfl ?_
    refine jr_keep [true, true, true, true, true, false, false] ?_
    exact J_X2_holds_23 K n E n a0 x1 a2 x3 (0 : Int32) h2 hf
theorem C_X2_holds {G : jG} {l : Launch} (d : Nat) {n : Nat} {a0 : Nat} {x1 : Int32} {a2 : Nat} {x3 : Int32} {h : jH} {res : (Int32 × jH)} (hf : F_X2_holds n a0 x1 a2 x3 h = some res) : jC G l mX2_holds (d + 2) 0 0 [.ref a0, .int x1, .ref a2, .int x3] h (jPW res) :=
  jC.of (by decide +kernel) (jcats rfl) (Nat.le_of_ble_eq_true rfl) (fun X K E => J_X2_holds K n E a0 x1 a2 x3 h hf)
set_option maxHeartbeats 400000 in
set_option maxRecDepth 100000 in
theorem J_X2_amount_20_b {G : jG} {l : Launch} {d : Nat} {X : jX} {res : (Int32 × jH)} (K : jOK G l mX2_amount (d + 3) X) (n : Nat) (rc20 : Nat → Int32 → Nat → Int32 → Int32 → Int32 → jH → Option (Int32 × jH)) (hr20 : ∀ (a0 : Nat) (x1 : Int32) (a2 : Nat) (x3 : Int32) (x4 : Int32) (x5 : Int32) (h : jH), rc20 a0 x1 a2 x3 x4 x5 h = some res → jJ G X h 0 0 20 [some (.ref a0), some (.int x1), some (.ref a2), some (.int x3), some (.int x4), some (.int x5)] []) (E : jEnd G mX2_amount (jPW res) X) (a0 : Nat) (x1 : Int32) (a2 : Nat) (x3 : Int32) (x4 : Int32) (x5 : Int32) (h : jH) (hf : F_X2_amount_20_b n rc20 a0 x1 a2 x3 x4 x5 h = some res) : jJ G X h 0 0 20 [some (.ref a0), some (.int x1), some (.ref a2), some (.int x3), some (.int x4), some (.int x5)] [] := by
  unfold F_X2_amount_20_b at hf
  refine jr_iload K (D_at DX2_amount 12 rfl) rfl ?_
  refine jr_aload_n K (D_at DX2_amount 13 rfl) rfl rfl ?_
  obtain ⟨v23, e23, hf⟩ := jbind hf
  refine jr_getI K (D_at DX2_amount 14 rfl) fg_X2_31_2 e23 ?_
  refine jr_icmp_ge K (D_at DX2_amount 15 rfl) (tgt := 69) (by decide) (fun c26 => ?_) (fun c26 => ?_)
  · replace hf := (if_pos c26).symm.trans hf
    refine jr_iload K (D_at DX2_amount 37 rfl) rfl ?_
    cases hf
    exact jr_iret K E (D_at DX2_amount 38 rfl) rfl ⟨rfl, rfl⟩
  · replace hf := (if_neg c26).symm.trans hf
    refine jr_aload_n K (D_at DX2_amount 16 rfl) rfl rfl ?_
    obtain ⟨p30, e30, hf⟩ := jbind hf
    refine jr_getR K (D_at DX2_amount 17 rfl) fg_X2_11_2 e30 ?_
    refine jr_iload K (D_at DX2_amount 18 rfl) rfl ?_
    obtain ⟨v35, e35, hf⟩ := jbind hf
    refine jr_iald K (D_at DX2_amount 19 rfl) e35 ?_
    refine jr_iload_n K (D_at DX2_amount 20 rfl) rfl rfl ?_
    refine jr_icmp_ne K (D_at DX2_amount 21 rfl) (tgt := 63) (by decide) (fun c37 => ?_) (fun c37 => ?_)
    · replace hf := (if_neg c37).symm.trans hf
      refine jr_iinc K (D_at DX2_amount 35 rfl) (i := 5) rfl (v := x5 + (1 : Int32)) (jinc (by decide)) (by decide) (L2 := [_, _, _, _, _, _]) rfl ?_
      refine jr_goto K (D_at DX2_amount 36 rfl) (tgt := 20) (by decide) ?_
      refine jr_keep [true, true, true, true, true, true] ?_
      exact hr20 a0 x1 a2 x3 x4 (x5 + (1 : Int32)) h hf
    · replace hf := (if_pos c37).symm.trans hf
      refine jr_aload_n K (D_at DX2_amount 22 rfl) rfl rfl ?_
      refine jr_iload K (D_at DX2_amount 23 rfl) rfl ?_
      refine jr_aload_n K (D_at DX2_amount 24 rfl) rfl rfl ?_
      refine jr_iload_n K (D_at DX2_amount 25 rfl) rfl rfl ?_
      obtain ⟨q45, e45, hf⟩ := jbind hf
      obtain ⟨rc_45, e45⟩ := jcv_o e45
      refine jr_callV K (C_X2_holds (d) e45) (D_at DX2_amount 26 rfl) cv_X2_48_X2_holds (As := [.int x5, .ref a2, .int x3]) (ci := 2) rfl rc_45 rfl rfl (by exact Nat.le_of_ble_eq_true rfl) (kc2 := 0) (ks2 := 0) rfl rfl (fun k9 h9 w9 => by cases w9.1) (fun r9 h9 w9 => ?_)
      obtain ⟨w1, w2⟩ := w9
      subst h9
      cases w1
      show jJ G X _ 0 0 _ _ (.int q45.1 :: _)
      refine jr_if_eq K (D_at DX2_amount 27 rfl) (tgt := 63) (by decide) (fun c48 => ?_) (fun c48 => ?_)
      · replace hf := (if_pos c48).symm.trans hf
        refine jr_iinc K (D_at DX2_amount 35 rfl) (i := 5) rfl (v := x5 + (1 : Int32)) (jinc (by decide)) (by decide) (L2 := [_, _, _, _, _, _]) rfl ?_
        refine jr_goto K (D_at DX2_amount 36 rfl) (tgt := 20) (by decide) ?_
        refine jr_keep [true, true, true, true, true, true] ?_
        exact hr20 a0 x1 a2 x3 x4 (x5 + (1 : Int32)) q45.2 hf
      · replace hf := (if_neg c48).symm.trans hf
        refine jr_iload K (D_at DX2_amount 28 rfl) rfl ?_
        refine jr_aload_n K (D_at DX2_amount 29 rfl) rfl rfl ?_
        obtain ⟨p54, e54, hf⟩ := jbind hf
        refine jr_getR K (D_at DX2_amount 30 rfl) fg_X2_15_2 e54 ?_
        refine jr_iload K (D_at DX2_amount 31 rfl) rfl ?_
        obtain ⟨v59, e59, hf⟩ := jbind hf
        refine jr_iald K (D_at DX2_amount 32 rfl) e59 ?_
        refine jr_iadd K (D_at DX2_amount 33 rfl) ?_
        refine jr_istore K (D_at DX2_amount 34 rfl) (i := 4) (by decide) (L2 := [_, _, _, _, _, _]) rfl ?_
        refine jr_iinc K (D_at DX2_amount 35 rfl) (i := 5) rfl (v := x5 + (1 : Int32)) (jinc (by decide)) (by decide) (L2 := [_, _, _, _, _, _]) rfl ?_
        refine jr_goto K (D_at DX2_amount 36 rfl) (tgt := 20) (by decide) ?_
        refine jr_keep [true, true, true, true, true, true] ?_
        exact hr20 a0 x1 a2 x3 (x4 + v59) (x5 + (1 : Int32)) q45.2 hf
theorem J_X2_amount_20 {G : jG} {l : Launch} {d : Nat} {X : jX} {res : (Int32 × jH)} (K : jOK G l mX2_amount (d + 3) X) (n : Nat) (E : jEnd G mX2_amount (jPW res) X) (k : Nat) : ∀ (a0 : Nat) (x1 : Int32) (a2 : Nat) (x3 : Int32) (x4 : Int32) (x5 : Int32) (h : jH), F_X2_amount_20 n k a0 x1 a2 x3 x4 x5 h = some res → jJ G X h 0 0 20 [some (.ref a0), some (.int x1), some (.ref a2), some (.int x3), some (.int x4), some (.int x5)] [] := by
  induction k with
  | zero =>
    intro a0 x1 a2 x3 x4 x5 h hf
    exact jno (show (none : Option (Int32 × jH)) = some res from hf)
  | succ k ih =>
    intro a0 x1 a2 x3 x4 x5 h hf
    exact J_X2_amount_20_b K n (F_X2_amount_20 n k) ih E a0 x1 a2 x3 x4 x5 h hf
set_option maxHeartbeats 400000 in
set_option maxRecDepth 100000 in
theorem J_X2_amount {G : jG} {l : Launch} {d : Nat} {X : jX} {res : (Int32 × jH)} (K : jOK G l mX2_amount (d + 3) X) (n : Nat) (E : jEnd G mX2_amount (jPW res) X) (a0 : Nat) (x1 : Int32) (a2 : Nat) (x3 : Int32) (h : jH) (hf : F_X2_amount n a0 x1 a2 x3 h = some res) : jJ G X h 0 0 0 [some (.ref a0), some (.int x1), some (.ref a2), some (.int x3), none, none] [] := by
  unfold F_X2_amount at hf
  refine jr_aload_n K (D_at DX2_amount 0 rfl) rfl rfl ?_
  obtain ⟨v1, e1, hf⟩ := jbind hf
  refine jr_getI K (D_at DX2_amount 1 rfl) fg_X2_27_2 e1 ?_
  refine jr_if_ne K (D_at DX2_amount 2 rfl) (tgt := 14) (by decide) (fun c4 => ?_) (fun c4 => ?_)
  · replace hf := (if_neg c4).symm.trans hf
    refine jr_iconst K (D_at DX2_amount 8 rfl) (v := (0 : Int32)) (by decide) ?_
    refine jr_istore K (D_at DX2_amount 9 rfl) (i := 4) (by decide) (L2 := [_, _, _, _, _, _]) rfl ?_
    refine jr_iconst K (D_at DX2_amount 10 rfl) (v := (0 : Int32)) (by decide) ?_
    refine jr_istore K (D_at DX2_amount 11 rfl) (i := 5) (by decide) (L2 := [_, _, _, _, _, _]) rfl ?_
    refine jr_keep [true, true, true, true, true, true] ?_
    exact J_X2_amount_20 K n E n a0 x1 a2 x3 (0 : Int32) (0 : Int32) h hf
  · replace hf := (if_pos c4).symm.trans hf
    refine jr_iload_n K (D_at DX2_amount 3 rfl) rfl rfl ?_
    refine jr_aload_n K (D_at DX2_amount 4 rfl) rfl rfl ?_
    refine jr_iload_n K (D_at DX2_amount 5 rfl) rfl rfl ?_
    obtain ⟨v10, e10, hf⟩ := jbind hf
    refine jr_callS K (C_X2_untoldAmount (d + 1) e10) (D_at DX2_amount 6 rfl) cs_X2_44_X2_untoldAmount (As := [.int x1, .ref a2, .int x3]) rfl rfl (by exact Nat.le_of_ble_eq_true rfl) (kc2 := 0) (ks2 := 0) rfl rfl (fun k9 h9 w9 => by cases w9.1) (fun r9 h9 w9 => ?_)
    obtain ⟨w1, w2⟩ := w9
    subst h9
    cases w1
    show jJ G X _ 0 0 _ _ (.int v10 :: _)
    cases hf
    exact jr_iret K E (D_at DX2_amount 7 rfl) rfl ⟨rfl, rfl⟩
theorem C_X2_amount {G : jG} {l : Launch} (d : Nat) {n : Nat} {a0 : Nat} {x1 : Int32} {a2 : Nat} {x3 : Int32} {h : jH} {res : (Int32 × jH)} (hf : F_X2_amount n a0 x1 a2 x3 h = some res) : jC G l mX2_amount (d + 3) 0 0 [.ref a0, .int x1, .ref a2, .int x3] h (jPW res) :=
  jC.of (by decide +kernel) (jcats rfl) (Nat.le_of_ble_eq_true rfl) (fun X K E => J_X2_amount K n E a0 x1 a2 x3 h hf)
set_option maxHeartbeats 400000 in
set_option maxRecDepth 100000 in
theorem J_X5_init {G : jG} {l : Launch} {d : Nat} {X : jX} {res : jH} (K : jOK G l mX5_init (d + 1) X) (n : Nat) (E : jEnd G mX5_init (jPV res) X) (a0 : Nat) (h : jH) (hf : F_X5_init n a0 h = some res) : jJ G X h 1 60 0 [some (.ref a0)] [] := by
  unfold F_X5_init at hf
  refine jr_aload_n K (D_at DX5_init 0 rfl) rfl rfl ?_
  refine jr_objInit K (D_at DX5_init 1 rfl) oi_X5_3 (by exact Nat.le_of_ble_eq_true rfl) ?_
  refine jr_aload_n K (D_at DX5_init 2 rfl) rfl rfl ?_
  refine jr_bipush K (D_at DX5_init 3 rfl) (v := (60 : Int32)) (by decide) ?_
  obtain ⟨h7, e7, hf⟩ := jbind hf
  refine jr_newIE (N := 60) K (D_at DX5_init 4 rfl) ac_int (by decide) (by decide) (by decide) (kc := 0) (ks := 0) e7 ?_
  obtain ⟨h9, e9, hf⟩ := jbind hf
  refine jr_putA K (D_at DX5_init 5 rfl) fp_X5_11_4 (Or.inr rfl) e9 ?_
  cases hf
  exact jr_vret K E (D_at DX5_init 6 rfl) rfl ⟨rfl, rfl⟩
theorem C_X5_init {G : jG} {l : Launch} (d : Nat) {n : Nat} {a0 : Nat} {h : jH} {res : jH} (hf : F_X5_init n a0 h = some res) : jC G l mX5_init (d + 1) 1 60 [.ref a0] h (jPV res) :=
  jC.of (by decide +kernel) (jcats rfl) (Nat.le_of_ble_eq_true rfl) (fun X K E => J_X5_init K n E a0 h hf)
set_option maxHeartbeats 400000 in
set_option maxRecDepth 100000 in
theorem J_X5_copyFrom {G : jG} {l : Launch} {d : Nat} {X : jX} {res : jH} (K : jOK G l mX5_copyFrom (d + 1) X) (n : Nat) (E : jEnd G mX5_copyFrom (jPV res) X) (a0 : Nat) (a1 : Nat) (h : jH) (hf : F_X5_copyFrom n a0 a1 h = some res) : jJ G X h 0 0 0 [some (.ref a0), some (.ref a1)] [] := by
  unfold F_X5_copyFrom at hf
  refine jr_aload_n K (D_at DX5_copyFrom 0 rfl) rfl rfl ?_
  obtain ⟨p1, e1, hf⟩ := jbind hf
  refine jr_getR K (D_at DX5_copyFrom 1 rfl) fg_X5_11_4 e1 ?_
  refine jr_iconst K (D_at DX5_copyFrom 2 rfl) (v := (0 : Int32)) (by decide) ?_
  refine jr_aload_n K (D_at DX5_copyFrom 3 rfl) rfl rfl ?_
  obtain ⟨p6, e6, hf⟩ := jbind hf
  refine jr_getR K (D_at DX5_copyFrom 4 rfl) fg_X5_11_4 e6 ?_
  refine jr_iconst K (D_at DX5_copyFrom 5 rfl) (v := (0 : Int32)) (by decide) ?_
  refine jr_bipush K (D_at DX5_copyFrom 6 rfl) (v := (60 : Int32)) (by decide) ?_
  obtain ⟨h12, e12, hf⟩ := jbind hf
  refine jr_copy K (D_at DX5_copyFrom 7 rfl) cy_X5_15 (by exact Nat.le_of_ble_eq_true rfl) e12 ?_
  refine jr_aload_n K (D_at DX5_copyFrom 8 rfl) rfl rfl ?_
  refine jr_aload_n K (D_at DX5_copyFrom 9 rfl) rfl rfl ?_
  obtain ⟨v17, e17, hf⟩ := jbind hf
  refine jr_getI K (D_at DX5_copyFrom 10 rfl) fg_X5_21_4 e17 ?_
  obtain ⟨h20, e20, hf⟩ := jbind hf
  refine jr_putI K (D_at DX5_copyFrom 11 rfl) fp_X5_21_4 (Or.inl rfl) e20 ?_
  refine jr_aload_n K (D_at DX5_copyFrom 12 rfl) rfl rfl ?_
  refine jr_aload_n K (D_at DX5_copyFrom 13 rfl) rfl rfl ?_
  obtain ⟨v25, e25, hf⟩ := jbind hf
  refine jr_getI K (D_at DX5_copyFrom 14 rfl) fg_X5_25_4 e25 ?_
  obtain ⟨h28, e28, hf⟩ := jbind hf
  refine jr_putI K (D_at DX5_copyFrom 15 rfl) fp_X5_25_4 (Or.inl rfl) e28 ?_
  cases hf
  exact jr_vret K E (D_at DX5_copyFrom 16 rfl) rfl ⟨rfl, rfl⟩
theorem C_X5_copyFrom {G : jG} {l : Launch} (d : Nat) {n : Nat} {a0 : Nat} {a1 : Nat} {h : jH} {res : jH} (hf : F_X5_copyFrom n a0 a1 h = some res) : jC G l mX5_copyFrom (d + 1) 0 0 [.ref a0, .ref a1] h (jPV res) :=
  jC.of (by decide +kernel) (jcats rfl) (Nat.le_of_ble_eq_true rfl) (fun X K E => J_X5_copyFrom K n E a0 a1 h hf)
set_option maxHeartbeats 400000 in
set_option maxRecDepth 100000 in
theorem J_X5_add_90 {G : jG} {l : Launch} {d : Nat} {X : jX} {res : jH} (K : jOK G l mX5_add (d + 1) X) (n : Nat) (E : jEnd G mX5_add (jPV res) X) (a0 : Nat) (sa0 : Nat) (s1 : Int32) (h : jH) (hf : F_X5_add_90 n a0 sa0 s1 h = some res) : jJ G X h 0 0 90 [some (.ref a0), none, none, none, none] [.int s1, .ref sa0] := by
  unfold F_X5_add_90 at hf
  obtain ⟨h90, e90, hf⟩ := jbind hf
  refine jr_putI K (D_at DX5_add 58 rfl) fp_X5_25_4 (Or.inl rfl) e90 ?_
  refine jr_aload_n K (D_at DX5_add 59 rfl) rfl rfl ?_
  refine jr_bipush K (D_at DX5_add 60 rfl) (v := (60 : Int32)) (by decide) ?_
  refine jr_aload_n K (D_at DX5_add 61 rfl) rfl rfl ?_
  obtain ⟨v97, e97, hf⟩ := jbind hf
  refine jr_getI K (D_at DX5_add 62 rfl) fg_X5_21_4 e97 ?_
  refine jr_iconst K (D_at DX5_add 63 rfl) (v := (1 : Int32)) (by decide) ?_
  refine jr_iadd K (D_at DX5_add_1 0 rfl) ?_
  refine jr_min K (D_at DX5_add_1 1 rfl) mm_X5_42 (by exact Nat.le_of_ble_eq_true rfl) ?_
  obtain ⟨h105, e105, hf⟩ := jbind hf
  refine jr_putI K (D_at DX5_add_1 2 rfl) fp_X5_21_4 (Or.inl rfl) e105 ?_
  cases hf
  exact jr_vret K E (D_at DX5_add_1 3 rfl) rfl ⟨rfl, rfl⟩
set_option maxHeartbeats 400000 in
set_option maxRecDepth 100000 in
theorem J_X5_add {G : jG} {l : Launch} {d : Nat} {X : jX} {res : jH} (K : jOK G l mX5_add (d + 1) X) (n : Nat) (E : jEnd G mX5_add (jPV res) X) (a0 : Nat) (a1 : Nat) (x2 : Int32) (x3 : Int32) (x4 : Int32) (h : jH) (hf : F_X5_add n a0 a1 x2 x3 x4 h = some res) : jJ G X h 0 0 0 [some (.ref a0), some (.ref a1), some (.int x2), some (.int x3), some (.int x4)] [] := by
  unfold F_X5_add at hf
  refine jr_aload_n K (D_at DX5_add 0 rfl) rfl rfl ?_
  obtain ⟨p1, e1, hf⟩ := jbind hf
  refine jr_getR K (D_at DX5_add 1 rfl) fg_X5_11_4 e1 ?_
  refine jr_aload_n K (D_at DX5_add 2 rfl) rfl rfl ?_
  obtain ⟨v5, e5, hf⟩ := jbind hf
  refine jr_getI K (D_at DX5_add 3 rfl) fg_X5_25_4 e5 ?_
  refine jr_aload_n K (D_at DX5_add 4 rfl) rfl rfl ?_
  obtain ⟨v9, e9, hf⟩ := jbind hf
  refine jr_getI K (D_at DX5_add 5 rfl) fg_X5_28_6 e9 ?_
  refine jr_shf K (D_at DX5_add 6 rfl) st_X5_33 ?_
  refine jr_iconst K (D_at DX5_add 7 rfl) (v := (0 : Int32)) (by decide) ?_
  refine jr_stald (f := fun j => jshf.getD j 0) (n := 6) K jT_shf (D_at DX5_add 8 rfl) (by decide) ?_
  rw [show jshf.getD ((0 : Int32)).toNatClampNeg 0 = (18 : Int32) from by decide]
  refine jr_ishl K (D_at DX5_add 9 rfl) ?_
  refine jr_aload_n K (D_at DX5_add 10 rfl) rfl rfl ?_
  obtain ⟨v19, e19, hf⟩ := jbind hf
  refine jr_getI K (D_at DX5_add 11 rfl) fg_X5_36_6 e19 ?_
  refine jr_shf K (D_at DX5_add 12 rfl) st_X5_33 ?_
  refine jr_iconst K (D_at DX5_add 13 rfl) (v := (1 : Int32)) (by decide) ?_
  refine jr_stald (f := fun j => jshf.getD j 0) (n := 6) K jT_shf (D_at DX5_add 14 rfl) (by decide) ?_
  rw [show jshf.getD ((1 : Int32)).toNatClampNeg 0 = (15 : Int32) from by decide]
  refine jr_ishl K (D_at DX5_add 15 rfl) ?_
  refine jr_ior K (D_at DX5_add 16 rfl) ?_
  refine jr_iload_n K (D_at DX5_add 17 rfl) rfl rfl ?_
  refine jr_shf K (D_at DX5_add 18 rfl) st_X5_33 ?_
  refine jr_iconst K (D_at DX5_add 19 rfl) (v := (2 : Int32)) (by decide) ?_
  refine jr_stald (f := fun j => jshf.getD j 0) (n := 6) K jT_shf (D_at DX5_add 20 rfl) (by decide) ?_
  rw [show jshf.getD ((2 : Int32)).toNatClampNeg 0 = (12 : Int32) from by decide]
  refine jr_ishl K (D_at DX5_add 21 rfl) ?_
  refine jr_ior K (D_at DX5_add 22 rfl) ?_
  refine jr_iload_n K (D_at DX5_add 23 rfl) rfl rfl ?_
  refine jr_shf K (D_at DX5_add 24 rfl) st_X5_33 ?_
  refine jr_iconst K (D_at DX5_add 25 rfl) (v := (3 : Int32)) (by decide) ?_
  refine jr_stald (f := fun j => jshf.getD j 0) (n := 6) K jT_shf (D_at DX5_add 26 rfl) (by decide) ?_
  rw [show jshf.getD ((3 : Int32)).toNatClampNeg 0 = (10 : Int32) from by decide]
  refine jr_ishl K (D_at DX5_add 27 rfl) ?_
  refine jr_ior K (D_at DX5_add 28 rfl) ?_
  refine jr_iload K (D_at DX5_add 29 rfl) rfl ?_
  refine jr_shf K (D_at DX5_add 30 rfl) st_X5_33 ?_
  refine jr_iconst K (D_at DX5_add 31 rfl) (v := (4 : Int32)) (by decide) ?_
  refine jr_stald (f := fun j => jshf.getD j 0) (n := 6) K jT_shf (D_at DX5_add 32 rfl) (by decide) ?_
  rw [show jshf.getD ((4 : Int32)).toNatClampNeg 0 = (5 : Int32) from by decide]
  refine jr_ishl K (D_at DX5_add 33 rfl) ?_
  refine jr_ior K (D_at DX5_add 34 rfl) ?_
  refine jr_aload_n K (D_at DX5_add 35 rfl) rfl rfl ?_
  obtain ⟨p55, e55, hf⟩ := jbind hf
  refine jr_getR K (D_at DX5_add 36 rfl) fg_X5_39_6 e55 ?_
  refine jr_iload_n K (D_at DX5_add 37 rfl) rfl rfl ?_
  obtain ⟨v59, e59, hf⟩ := jbind hf
  refine jr_iald K (D_at DX5_add 38 rfl) e59 ?_
  refine jr_shf K (D_at DX5_add 39 rfl) st_X5_33 ?_
  refine jr_iconst K (D_at DX5_add 40 rfl) (v := (5 : Int32)) (by decide) ?_
  refine jr_stald (f := fun j => jshf.getD j 0) (n := 6) K jT_shf (D_at DX5_add 41 rfl) (by decide) ?_
  rw [show jshf.getD ((5 : Int32)).toNatClampNeg 0 = (0 : Int32) from by decide]
  refine jr_ishl K (D_at DX5_add 42 rfl) ?_
  refine jr_ior K (D_at DX5_add 43 rfl) ?_
  obtain ⟨h67, e67, hf⟩ := jbind hf
  refine jr_iast K (D_at DX5_add 44 rfl) e67 ?_
  refine jr_aload_n K (D_at DX5_add 45 rfl) rfl rfl ?_
  refine jr_aload_n K (D_at DX5_add 46 rfl) rfl rfl ?_
  obtain ⟨v70, e70, hf⟩ := jbind hf
  refine jr_getI K (D_at DX5_add 47 rfl) fg_X5_25_4 e70 ?_
  refine jr_iconst K (D_at DX5_add 48 rfl) (v := (1 : Int32)) (by decide) ?_
  refine jr_iadd K (D_at DX5_add 49 rfl) ?_
  refine jr_bipush K (D_at DX5_add 50 rfl) (v := (60 : Int32)) (by decide) ?_
  refine jr_icmp_ge K (D_at DX5_add 51 rfl) (tgt := 89) (by decide) (fun c77 => ?_) (fun c77 => ?_)
  · replace hf := (if_pos c77).symm.trans hf
    refine jr_iconst K (D_at DX5_add 57 rfl) (v := (0 : Int32)) (by decide) ?_
    refine jr_keep [true, false, false, false, false] ?_
    exact J_X5_add_90 K n E a0 a0 (0 : Int32) h67 hf
  · replace hf := (if_neg c77).symm.trans hf
    refine jr_aload_n K (D_at DX5_add 52 rfl) rfl rfl ?_
    obtain ⟨v81, e81, hf⟩ := jbind hf
    refine jr_getI K (D_at DX5_add 53 rfl) fg_X5_25_4 e81 ?_
    refine jr_iconst K (D_at DX5_add 54 rfl) (v := (1 : Int32)) (by decide) ?_
    refine jr_iadd K (D_at DX5_add 55 rfl) ?_
    refine jr_goto K (D_at DX5_add 56 rfl) (tgt := 90) (by decide) ?_
    refine jr_keep [true, false, false, false, false] ?_
    exact J_X5_add_90 K n E a0 a0 (v81 + (1 : Int32)) h67 hf
theorem C_X5_add {G : jG} {l : Launch} (d : Nat) {n : Nat} {a0 : Nat} {a1 : Nat} {x2 : Int32} {x3 : Int32} {x4 : Int32} {h : jH} {res : jH} (hf : F_X5_add n a0 a1 x2 x3 x4 h = some res) : jC G l mX5_add (d + 1) 0 0 [.ref a0, .ref a1, .int x2, .int x3, .int x4] h (jPV res) :=
  jC.of (by decide +kernel) (jcats rfl) (Nat.le_of_ble_eq_true rfl) (fun X K E => J_X5_add K n E a0 a1 x2 x3 x4 h hf)
set_option maxHeartbeats 400000 in
set_option maxRecDepth 100000 in
theorem J_J9_floorMod_7cf53 {G : jG} {l : Launch} {d : Nat} {X : jX} {res : Int32} (K : jOK G l mJ9_floorMod_7cf53 (d) X) (n : Nat) (h : jH) (E : jEnd G mJ9_floorMod_7cf53 (jPR h res) X) (x0 : Int32) (x1 : Int32) (hf : F_J9_floorMod_7cf53 n x0 x1 h = some res) : jJ G X h 0 0 0 [some (.int x0), some (.int x1), none] [] := by
  unfold F_J9_floorMod_7cf53 at hf
  refine jr_iload_n K (D_at DJ9_floorMod_7cf53 0 rfl) rfl rfl ?_
  refine jr_iload_n K (D_at DJ9_floorMod_7cf53 1 rfl) rfl rfl ?_
  by_cases c2 : x1 = 0
  · exact jno (show (none : Option Int32) = some res from (if_pos c2).symm.trans hf)
  replace hf := (if_neg c2).symm.trans hf
  refine jr_irem K (D_at DJ9_floorMod_7cf53 2 rfl) c2 ?_
  refine jr_istore_n K (D_at DJ9_floorMod_7cf53 3 rfl) (i := 2) rfl (by decide) (L2 := [_, _, _]) rfl ?_
  refine jr_iload_n K (D_at DJ9_floorMod_7cf53 4 rfl) rfl rfl ?_
  refine jr_iload_n K (D_at DJ9_floorMod_7cf53 5 rfl) rfl rfl ?_
  refine jr_ixor K (D_at DJ9_floorMod_7cf53 6 rfl) ?_
  refine jr_if_ge K (D_at DJ9_floorMod_7cf53 7 rfl) (tgt := 18) (by decide) (fun c7 => ?_) (fun c7 => ?_)
  · replace hf := (if_pos c7).symm.trans hf
    refine jr_iload_n K (D_at DJ9_floorMod_7cf53 14 rfl) rfl rfl ?_
    cases hf
    exact jr_iret K E (D_at DJ9_floorMod_7cf53 15 rfl) rfl ⟨rfl, rfl⟩
  · replace hf := (if_neg c7).symm.trans hf
    refine jr_iload_n K (D_at DJ9_floorMod_7cf53 8 rfl) rfl rfl ?_
    refine jr_if_eq K (D_at DJ9_floorMod_7cf53 9 rfl) (tgt := 18) (by decide) (fun c11 => ?_) (fun c11 => ?_)
    · replace hf := (if_pos c11).symm.trans hf
      refine jr_iload_n K (D_at DJ9_floorMod_7cf53 14 rfl) rfl rfl ?_
      cases hf
      exact jr_iret K E (D_at DJ9_floorMod_7cf53 15 rfl) rfl ⟨rfl, rfl⟩
    · replace hf := (if_neg c11).symm.trans hf
      refine jr_iload_n K (D_at DJ9_floorMod_7cf53 10 rfl) rfl rfl ?_
      refine jr_iload_n K (D_at DJ9_floorMod_7cf53 11 rfl) rfl rfl ?_
      refine jr_iadd K (D_at DJ9_floorMod_7cf53 12 rfl) ?_
      cases hf
      exact jr_iret K E (D_at DJ9_floorMod_7cf53 13 rfl) rfl ⟨rfl, rfl⟩
theorem C_J9_floorMod_7cf53 {G : jG} {l : Launch} (d : Nat) {n : Nat} {x0 : Int32} {x1 : Int32} {h : jH} {res : Int32} (hf : F_J9_floorMod_7cf53 n x0 x1 h = some res) : jC G l mJ9_floorMod_7cf53 (d) 0 0 [.int x0, .int x1] h (jPR h res) :=
  jC.ofF (by decide +kernel) (jcats rfl) (Nat.le_of_ble_eq_true rfl) (fun X K E => J_J9_floorMod_7cf53 K n h E x0 x1 hf)
set_option maxHeartbeats 400000 in
set_option maxRecDepth 100000 in
theorem J_X5_read {G : jG} {l : Launch} {d : Nat} {X : jX} {res : Int32} (K : jOK G l mX5_read (d + 1) X) (n : Nat) (h : jH) (E : jEnd G mX5_read (jPR h res) X) (a0 : Nat) (x1 : Int32) (x2 : Int32) (hf : F_X5_read n a0 x1 x2 h = some res) : jJ G X h 0 0 0 [some (.ref a0), some (.int x1), some (.int x2), none] [] := by
  unfold F_X5_read at hf
  refine jr_iload_n K (D_at DX5_read 0 rfl) rfl rfl ?_
  refine jr_if_lt K (D_at DX5_read 1 rfl) (tgt := 22) (by decide) (fun c1 => ?_) (fun c1 => ?_)
  · replace hf := (if_pos c1).symm.trans hf
    refine jr_iconst K (D_at DX5_read 11 rfl) (v := (-1 : Int32)) (by decide) ?_
    cases hf
    exact jr_iret K E (D_at DX5_read 12 rfl) rfl ⟨rfl, rfl⟩
  · replace hf := (if_neg c1).symm.trans hf
    refine jr_iload_n K (D_at DX5_read 2 rfl) rfl rfl ?_
    refine jr_aload_n K (D_at DX5_read 3 rfl) rfl rfl ?_
    obtain ⟨v6, e6, hf⟩ := jbind hf
    refine jr_getI K (D_at DX5_read 4 rfl) fg_X5_21_4 e6 ?_
    refine jr_icmp_ge K (D_at DX5_read 5 rfl) (tgt := 22) (by decide) (fun c9 => ?_) (fun c9 => ?_)
    · replace hf := (if_pos c9).symm.trans hf
      refine jr_iconst K (D_at DX5_read 11 rfl) (v := (-1 : Int32)) (by decide) ?_
      cases hf
      exact jr_iret K E (D_at DX5_read 12 rfl) rfl ⟨rfl, rfl⟩
    · replace hf := (if_neg c9).symm.trans hf
      refine jr_iload_n K (D_at DX5_read 6 rfl) rfl rfl ?_
      refine jr_if_lt K (D_at DX5_read 7 rfl) (tgt := 22) (by decide) (fun c13 => ?_) (fun c13 => ?_)
      · replace hf := (if_pos c13).symm.trans hf
        refine jr_iconst K (D_at DX5_read 11 rfl) (v := (-1 : Int32)) (by decide) ?_
        cases hf
        exact jr_iret K E (D_at DX5_read 12 rfl) rfl ⟨rfl, rfl⟩
      · replace hf := (if_neg c13).symm.trans hf
        refine jr_iload_n K (D_at DX5_read 8 rfl) rfl rfl ?_
        refine jr_bipush K (D_at DX5_read 9 rfl) (v := (6 : Int32)) (by decide) ?_
        refine jr_icmp_lt K (D_at DX5_read 10 rfl) (tgt := 24) (by decide) (fun c19 => ?_) (fun c19 => ?_)
        · replace hf := (if_pos c19).symm.trans hf
          refine jr_aload_n K (D_at DX5_read 13 rfl) rfl rfl ?_
          obtain ⟨p25, e25, hf⟩ := jbind hf
          refine jr_getR K (D_at DX5_read 14 rfl) fg_X5_11_4 e25 ?_
          refine jr_aload_n K (D_at DX5_read 15 rfl) rfl rfl ?_
          obtain ⟨v29, e29, hf⟩ := jbind hf
          refine jr_getI K (D_at DX5_read 16 rfl) fg_X5_25_4 e29 ?_
          refine jr_iconst K (D_at DX5_read 17 rfl) (v := (1 : Int32)) (by decide) ?_
          refine jr_isub K (D_at DX5_read 18 rfl) ?_
          refine jr_iload_n K (D_at DX5_read 19 rfl) rfl rfl ?_
          refine jr_isub K (D_at DX5_read 20 rfl) ?_
          refine jr_bipush K (D_at DX5_read 21 rfl) (v := (60 : Int32)) (by decide) ?_
          obtain ⟨v38, e38, hf⟩ := jbind hf
          refine jr_callS K (C_J9_floorMod_7cf53 (d) e38) (D_at DX5_read 22 rfl) cs_X5_48_J9_floorMod_7cf53 (As := [.int ((v29 - (1 : Int32)) - x1), .int (60 : Int32)]) rfl rfl (by exact Nat.le_of_ble_eq_true rfl) (kc2 := 0) (ks2 := 0) rfl rfl (fun k9 h9 w9 => by cases w9.1) (fun r9 h9 w9 => ?_)
          obtain ⟨w1, w2⟩ := w9
          subst h9
          cases w1
          show jJ G X _ 0 0 _ _ (.int v38 :: _)
          obtain ⟨v41, e41, hf⟩ := jbind hf
          refine jr_iald K (D_at DX5_read 23 rfl) e41 ?_
          refine jr_istore_n K (D_at DX5_read 24 rfl) (i := 3) rfl (by decide) (L2 := [_, _, _, _]) rfl ?_
          refine jr_iload_n K (D_at DX5_read 25 rfl) rfl rfl ?_
          refine jr_shf K (D_at DX5_read 26 rfl) st_X5_33 ?_
          refine jr_iload_n K (D_at DX5_read 27 rfl) rfl rfl ?_
          by_cases c48 : x2 < 0 ∨ 6 ≤ x2.toNatClampNeg
          · exact jno (show (none : Option Int32) = some res from (if_pos c48).symm.trans hf)
          replace hf := (if_neg c48).symm.trans hf
          refine jr_stald (f := fun j => jshf.getD j 0) (n := 6) K jT_shf (D_at DX5_read 28 rfl) c48 ?_
          refine jr_iushr K (D_at DX5_read 29 rfl) (v := jushr v41 (jshf.getD x2.toNatClampNeg 0)) rfl ?_
          refine jr_msk K (D_at DX5_read 30 rfl) st_X5_51 ?_
          refine jr_iload_n K (D_at DX5_read 31 rfl) rfl rfl ?_
          by_cases c54 : x2 < 0 ∨ 6 ≤ x2.toNatClampNeg
          · exact jno (show (none : Option Int32) = some res from (if_pos c54).symm.trans hf)
          replace hf := (if_neg c54).symm.trans hf
          refine jr_stald (f := fun j => jmsk.getD j 0) (n := 6) K jT_msk (D_at DX5_read 32 rfl) c54 ?_
          refine jr_iand K (D_at DX5_read 33 rfl) ?_
          cases hf
          exact jr_iret K E (D_at DX5_read 34 rfl) rfl ⟨rfl, rfl⟩
        · replace hf := (if_neg c19).symm.trans hf
          refine jr_iconst K (D_at DX5_read 11 rfl) (v := (-1 : Int32)) (by decide) ?_
          cases hf
          exact jr_iret K E (D_at DX5_read 12 rfl) rfl ⟨rfl, rfl⟩
theorem C_X5_read {G : jG} {l : Launch} (d : Nat) {n : Nat} {a0 : Nat} {x1 : Int32} {x2 : Int32} {h : jH} {res : Int32} (hf : F_X5_read n a0 x1 x2 h = some res) : jC G l mX5_read (d + 1) 0 0 [.ref a0, .int x1, .int x2] h (jPR h res) :=
  jC.of (by decide +kernel) (jcats rfl) (Nat.le_of_ble_eq_true rfl) (fun X K E => J_X5_read K n h E a0 x1 x2 hf)
set_option maxHeartbeats 400000 in
set_option maxRecDepth 100000 in
theorem J_X5_rowsOf_4_b {G : jG} {l : Launch} {d : Nat} {X : jX} {res : Int32} (K : jOK G l mX5_rowsOf (d + 2) X) (n : Nat) (h : jH) (rc4 : Nat → Int32 → Int32 → Int32 → jH → Option Int32) (hr4 : ∀ (a0 : Nat) (x1 : Int32) (x2 : Int32) (x3 : Int32), rc4 a0 x1 x2 x3 h = some res → jJ G X h 0 0 4 [some (.ref a0), some (.int x1), some (.int x2), some (.int x3)] []) (E : jEnd G mX5_rowsOf (jPR h res) X) (a0 : Nat) (x1 : Int32) (x2 : Int32) (x3 : Int32) (hf : F_X5_rowsOf_4_b n rc4 a0 x1 x2 x3 h = some res) : jJ G X h 0 0 4 [some (.ref a0), some (.int x1), some (.int x2), some (.int x3)] [] := by
  unfold F_X5_rowsOf_4_b at hf
  refine jr_iload_n K (D_at DX5_rowsOf 4 rfl) rfl rfl ?_
  refine jr_aload_n K (D_at DX5_rowsOf 5 rfl) rfl rfl ?_
  obtain ⟨v6, e6, hf⟩ := jbind hf
  refine jr_getI K (D_at DX5_rowsOf 6 rfl) fg_X5_21_4 e6 ?_
  refine jr_icmp_ge K (D_at DX5_rowsOf 7 rfl) (tgt := 31) (by decide) (fun c9 => ?_) (fun c9 => ?_)
  · replace hf := (if_pos c9).symm.trans hf
    refine jr_iload_n K (D_at DX5_rowsOf 17 rfl) rfl rfl ?_
    cases hf
    exact jr_iret K E (D_at DX5_rowsOf 18 rfl) rfl ⟨rfl, rfl⟩
  · replace hf := (if_neg c9).symm.trans hf
    refine jr_aload_n K (D_at DX5_rowsOf 8 rfl) rfl rfl ?_
    refine jr_iload_n K (D_at DX5_rowsOf 9 rfl) rfl rfl ?_
    refine jr_iconst K (D_at DX5_rowsOf 10 rfl) (v := (2 : Int32)) (by decide) ?_
    obtain ⟨v15, e15, hf⟩ := jbind hf
    obtain ⟨rc_15, e15⟩ := jcv_o e15
    refine jr_callV K (C_X5_read (d) e15) (D_at DX5_rowsOf 11 rfl) cv_X5_54_X5_read (As := [.int x3, .int (2 : Int32)]) (ci := 4) rfl rc_15 rfl rfl (by exact Nat.le_of_ble_eq_true rfl) (kc2 := 0) (ks2 := 0) rfl rfl (fun k9 h9 w9 => by cases w9.1) (fun r9 h9 w9 => ?_)
    obtain ⟨w1, w2⟩ := w9
    subst h9
    cases w1
    show jJ G X _ 0 0 _ _ (.int v15 :: _)
    refine jr_iload_n K (D_at DX5_rowsOf 12 rfl) rfl rfl ?_
    refine jr_icmp_ne K (D_at DX5_rowsOf 13 rfl) (tgt := 25) (by decide) (fun c19 => ?_) (fun c19 => ?_)
    · replace hf := (if_neg c19).symm.trans hf
      refine jr_iinc K (D_at DX5_rowsOf 15 rfl) (i := 3) rfl (v := x3 + (1 : Int32)) (jinc (by decide)) (by decide) (L2 := [_, _, _, _]) rfl ?_
      refine jr_goto K (D_at DX5_rowsOf 16 rfl) (tgt := 4) (by decide) ?_
      refine jr_keep [true, true, true, true] ?_
      exact hr4 a0 x1 x2 (x3 + (1 : Int32)) hf
    · replace hf := (if_pos c19).symm.trans hf
      refine jr_iinc K (D_at DX5_rowsOf 14 rfl) (i := 2) rfl (v := x2 + (1 : Int32)) (jinc (by decide)) (by decide) (L2 := [_, _, _, _]) rfl ?_
      refine jr_iinc K (D_at DX5_rowsOf 15 rfl) (i := 3) rfl (v := x3 + (1 : Int32)) (jinc (by decide)) (by decide) (L2 := [_, _, _, _]) rfl ?_
      refine jr_goto K (D_at DX5_rowsOf 16 rfl) (tgt := 4) (by decide) ?_
      refine jr_keep [true, true, true, true] ?_
      exact hr4 a0 x1 (x2 + (1 : Int32)) (x3 + (1 : Int32)) hf
theorem J_X5_rowsOf_4 {G : jG} {l : Launch} {d : Nat} {X : jX} {res : Int32} (K : jOK G l mX5_rowsOf (d + 2) X) (n : Nat) (h : jH) (E : jEnd G mX5_rowsOf (jPR h res) X) (k : Nat) : ∀ (a0 : Nat) (x1 : Int32) (x2 : Int32) (x3 : Int32), F_X5_rowsOf_4 n k a0 x1 x2 x3 h = some res → jJ G X h 0 0 4 [some (.ref a0), some (.int x1), some (.int x2), some (.int x3)] [] := by
  induction k with
  | zero =>
    intro a0 x1 x2 x3 hf
    exact jno (show (none : Option Int32) = some res from hf)
  | succ k ih =>
    intro a0 x1 x2 x3 hf
    exact J_X5_rowsOf_4_b K n h (F_X5_rowsOf_4 n k) ih E a0 x1 x2 x3 hf
set_option maxHeartbeats 400000 in
set_option maxRecDepth 100000 in
theorem J_X5_rowsOf {G : jG} {l : Launch} {d : Nat} {X : jX} {res : Int32} (K : jOK G l mX5_rowsOf (d + 2) X) (n : Nat) (h : jH) (E : jEnd G mX5_rowsOf (jPR h res) X) (a0 : Nat) (x1 : Int32) (hf : F_X5_rowsOf n a0 x1 h = some res) : jJ G X h 0 0 0 [some (.ref a0), some (.int x1), none, none] [] := by
  unfold F_X5_rowsOf at hf
  refine jr_iconst K (D_at DX5_rowsOf 0 rfl) (v := (0 : Int32)) (by decide) ?_
  refine jr_istore_n K (D_at DX5_rowsOf 1 rfl) (i := 2) rfl (by decide) (L2 := [_, _, _, _]) rfl ?_
  refine jr_iconst K (D_at DX5_rowsOf 2 rfl) (v := (0 : Int32)) (by decide) ?_
  refine jr_istore_n K (D_at DX5_rowsOf 3 rfl) (i := 3) rfl (by decide) (L2 := [_, _, _, _]) rfl ?_
  refine jr_keep [true, true, true, true] ?_
  exact J_X5_rowsOf_4 K n h E n a0 x1 (0 : Int32) (0 : Int32) hf
theorem C_X5_rowsOf {G : jG} {l : Launch} (d : Nat) {n : Nat} {a0 : Nat} {x1 : Int32} {h : jH} {res : Int32} (hf : F_X5_rowsOf n a0 x1 h = some res) : jC G l mX5_rowsOf (d + 2) 0 0 [.ref a0, .int x1] h (jPR h res) :=
  jC.of (by decide +kernel) (jcats rfl) (Nat.le_of_ble_eq_true rfl) (fun X K E => J_X5_rowsOf K n h E a0 x1 hf)
set_option maxHeartbeats 400000 in
set_option maxRecDepth 100000 in
theorem J_X5_latestPlace_2_b {G : jG} {l : Launch} {d : Nat} {X : jX} {res : Int32} (K : jOK G l mX5_latestPlace (d + 2) X) (n : Nat) (h : jH) (rc2 : Nat → Int32 → Int32 → jH → Option Int32) (hr2 : ∀ (a0 : Nat) (x1 : Int32) (x2 : Int32), rc2 a0 x1 x2 h = some res → jJ G X h 0 0 2 [some (.ref a0), some (.int x1), some (.int x2)] []) (E : jEnd G mX5_latestPlace (jPR h res) X) (a0 : Nat) (x1 : Int32) (x2 : Int32) (hf : F_X5_latestPlace_2_b n rc2 a0 x1 x2 h = some res) : jJ G X h 0 0 2 [some (.ref a0), some (.int x1), some (.int x2)] [] := by
  unfold F_X5_latestPlace_2_b at hf
  refine jr_iload_n K (D_at DX5_latestPlace 2 rfl) rfl rfl ?_
  refine jr_aload_n K (D_at DX5_latestPlace 3 rfl) rfl rfl ?_
  obtain ⟨v4, e4, hf⟩ := jbind hf
  refine jr_getI K (D_at DX5_latestPlace 4 rfl) fg_X5_21_4 e4 ?_
  refine jr_icmp_ge K (D_at DX5_latestPlace 5 rfl) (tgt := 33) (by decide) (fun c7 => ?_) (fun c7 => ?_)
  · replace hf := (if_pos c7).symm.trans hf
    refine jr_iconst K (D_at DX5_latestPlace 19 rfl) (v := (-1 : Int32)) (by decide) ?_
    cases hf
    exact jr_iret K E (D_at DX5_latestPlace 20 rfl) rfl ⟨rfl, rfl⟩
  · replace hf := (if_neg c7).symm.trans hf
    refine jr_aload_n K (D_at DX5_latestPlace 6 rfl) rfl rfl ?_
    refine jr_iload_n K (D_at DX5_latestPlace 7 rfl) rfl rfl ?_
    refine jr_iconst K (D_at DX5_latestPlace 8 rfl) (v := (2 : Int32)) (by decide) ?_
    obtain ⟨v13, e13, hf⟩ := jbind hf
    obtain ⟨rc_13, e13⟩ := jcv_o e13
    refine jr_callV K (C_X5_read (d) e13) (D_at DX5_latestPlace 9 rfl) cv_X5_54_X5_read (As := [.int x2, .int (2 : Int32)]) (ci := 4) rfl rc_13 rfl rfl (by exact Nat.le_of_ble_eq_true rfl) (kc2 := 0) (ks2 := 0) rfl rfl (fun k9 h9 w9 => by cases w9.1) (fun r9 h9 w9 => ?_)
    obtain ⟨w1, w2⟩ := w9
    subst h9
    cases w1
    show jJ G X _ 0 0 _ _ (.int v13 :: _)
    refine jr_iload_n K (D_at DX5_latestPlace 10 rfl) rfl rfl ?_
    refine jr_icmp_ne K (D_at DX5_latestPlace 11 rfl) (tgt := 27) (by decide) (fun c17 => ?_) (fun c17 => ?_)
    · replace hf := (if_neg c17).symm.trans hf
      refine jr_iinc K (D_at DX5_latestPlace 17 rfl) (i := 2) rfl (v := x2 + (1 : Int32)) (jinc (by decide)) (by decide) (L2 := [_, _, _]) rfl ?_
      refine jr_goto K (D_at DX5_latestPlace 18 rfl) (tgt := 2) (by decide) ?_
      refine jr_keep [true, true, true] ?_
      exact hr2 a0 x1 (x2 + (1 : Int32)) hf
    · replace hf := (if_pos c17).symm.trans hf
      refine jr_aload_n K (D_at DX5_latestPlace 12 rfl) rfl rfl ?_
      refine jr_iload_n K (D_at DX5_latestPlace 13 rfl) rfl rfl ?_
      refine jr_iconst K (D_at DX5_latestPlace 14 rfl) (v := (5 : Int32)) (by decide) ?_
      obtain ⟨v23, e23, hf⟩ := jbind hf
      obtain ⟨rc_23, e23⟩ := jcv_o e23
      refine jr_callV K (C_X5_read (d) e23) (D_at DX5_latestPlace 15 rfl) cv_X5_54_X5_read (As := [.int x2, .int (5 : Int32)]) (ci := 4) rfl rc_23 rfl rfl (by exact Nat.le_of_ble_eq_true rfl) (kc2 := 0) (ks2 := 0) rfl rfl (fun k9 h9 w9 => by cases w9.1) (fun r9 h9 w9 => ?_)
      obtain ⟨w1, w2⟩ := w9
      subst h9
      cases w1
      show jJ G X _ 0 0 _ _ (.int v23 :: _)
      cases hf
      exact jr_iret K E (D_at DX5_latestPlace 16 rfl) rfl ⟨rfl, rfl⟩
theorem J_X5_latestPlace_2 {G : jG} {l : Launch} {d : Nat} {X : jX} {res : Int32} (K : jOK G l mX5_latestPlace (d + 2) X) (n : Nat) (h : jH) (E : jEnd G mX5_latestPlace (jPR h res) X) (k : Nat) : ∀ (a0 : Nat) (x1 : Int32) (x2 : Int32), F_X5_latestPlace_2 n k a0 x1 x2 h = some res → jJ G X h 0 0 2 [some (.ref a0), some (.int x1), some (.int x2)] [] := by
  induction k with
  | zero =>
    intro a0 x1 x2 hf
    exact jno (show (none : Option Int32) = some res from hf)
  | succ k ih =>
    intro a0 x1 x2 hf
    exact J_X5_latestPlace_2_b K n h (F_X5_latestPlace_2 n k) ih E a0 x1 x2 hf
set_option maxHeartbeats 400000 in
set_option maxRecDepth 100000 in
theorem J_X5_latestPlace {G : jG} {l : Launch} {d : Nat} {X : jX} {res : Int32} (K : jOK G l mX5_latestPlace (d + 2) X) (n : Nat) (h : jH) (E : jEnd G mX5_latestPlace (jPR h res) X) (a0 : Nat) (x1 : Int32) (hf : F_X5_latestPlace n a0 x1 h = some res) : jJ G X h 0 0 0 [some (.ref a0), some (.int x1), none] [] := by
  unfold F_X5_latestPlace at hf
  refine jr_iconst K (D_at DX5_latestPlace 0 rfl) (v := (0 : Int32)) (by decide) ?_
  refine jr_istore_n K (D_at DX5_latestPlace 1 rfl) (i := 2) rfl (by decide) (L2 := [_, _, _]) rfl ?_
  refine jr_keep [true, true, true] ?_
  exact J_X5_latestPlace_2 K n h E n a0 x1 (0 : Int32) hf
theorem C_X5_latestPlace {G : jG} {l : Launch} (d : Nat) {n : Nat} {a0 : Nat} {x1 : Int32} {h : jH} {res : Int32} (hf : F_X5_latestPlace n a0 x1 h = some res) : jC G l mX5_latestPlace (d + 2) 0 0 [.ref a0, .int x1] h (jPR h res) :=
  jC.of (by decide +kernel) (jcats rfl) (Nat.le_of_ble_eq_true rfl) (fun X K E => J_X5_latestPlace K n h E a0 x1 hf)
set_option maxHeartbeats 400000 in
set_option maxRecDepth 100000 in
theorem J_X6_hangsBy_22_b {G : jG} {l : Launch} {d : Nat} {X : jX} {res : Int32} (K : jOK G l mX6_hangsBy (d + 1) X) (n : Nat) (h : jH) (rc22 : Nat → Int32 → Int32 → Int32 → Int32 → jH → Option Int32) (hr22 : ∀ (a0 : Nat) (x1 : Int32) (x2 : Int32) (x3 : Int32) (x4 : Int32), rc22 a0 x1 x2 x3 x4 h = some res → jJ G X h 0 0 22 [some (.ref a0), some (.int x1), some (.int x2), some (.int x3), some (.int x4), none] []) (E : jEnd G mX6_hangsBy (jPR h res) X) (a0 : Nat) (x1 : Int32) (x2 : Int32) (x3 : Int32) (x4 : Int32) (hf : F_X6_hangsBy_22_b n rc22 a0 x1 x2 x3 x4 h = some res) : jJ G X h 0 0 22 [some (.ref a0), some (.int x1), some (.int x2), some (.int x3), some (.int x4), none] [] := by
  unfold F_X6_hangsBy_22_b at hf
  refine jr_iload K (D_at DX6_hangsBy 14 rfl) rfl ?_
  refine jr_aload_n K (D_at DX6_hangsBy 15 rfl) rfl rfl ?_
  obtain ⟨v25, e25, hf⟩ := jbind hf
  refine jr_getI K (D_at DX6_hangsBy 16 rfl) fg_X6_19_6 e25 ?_
  refine jr_icmp_ge K (D_at DX6_hangsBy 17 rfl) (tgt := 81) (by decide) (fun c28 => ?_) (fun c28 => ?_)
  · replace hf := (if_pos c28).symm.trans hf
    refine jr_iload_n K (D_at DX6_hangsBy 44 rfl) rfl rfl ?_
    cases hf
    exact jr_iret K E (D_at DX6_hangsBy 45 rfl) rfl ⟨rfl, rfl⟩
  · replace hf := (if_neg c28).symm.trans hf
    refine jr_aload_n K (D_at DX6_hangsBy 18 rfl) rfl rfl ?_
    obtain ⟨p32, e32, hf⟩ := jbind hf
    refine jr_getR K (D_at DX6_hangsBy 19 rfl) fg_X6_22_6 e32 ?_
    refine jr_iload K (D_at DX6_hangsBy 20 rfl) rfl ?_
    obtain ⟨v37, e37, hf⟩ := jbind hf
    refine jr_iald K (D_at DX6_hangsBy 21 rfl) e37 ?_
    refine jr_aload_n K (D_at DX6_hangsBy 22 rfl) rfl rfl ?_
    obtain ⟨p39, e39, hf⟩ := jbind hf
    refine jr_getR K (D_at DX6_hangsBy 23 rfl) fg_X6_22_6 e39 ?_
    refine jr_iload_n K (D_at DX6_hangsBy 24 rfl) rfl rfl ?_
    obtain ⟨v43, e43, hf⟩ := jbind hf
    refine jr_iald K (D_at DX6_hangsBy 25 rfl) e43 ?_
    refine jr_isub K (D_at DX6_hangsBy 26 rfl) ?_
    refine jr_abs K (D_at DX6_hangsBy 27 rfl) mm_X6_26 (by exact Nat.le_of_ble_eq_true rfl) ?_
    refine jr_istore K (D_at DX6_hangsBy 28 rfl) (i := 5) (by decide) (L2 := [_, _, _, _, _, _]) rfl ?_
    refine jr_aload_n K (D_at DX6_hangsBy 29 rfl) rfl rfl ?_
    obtain ⟨v51, e51, hf⟩ := jbind hf
    refine jr_getI K (D_at DX6_hangsBy 30 rfl) fg_X6_9_6 e51 ?_
    refine jr_iload K (D_at DX6_hangsBy 31 rfl) rfl ?_
    obtain ⟨v56, e56, hf⟩ := jbind hf
    refine jr_callSN K (C_X11_bit (d) e56) (D_at DX6_hangsBy 32 rfl) csn_X6_15_X11_bit (As := [.int v51, .int x4]) rfl rfl (by exact Nat.le_of_ble_eq_true rfl) (kc2 := 0) (ks2 := 0) rfl rfl (fun k9 h9 w9 => by cases w9.1) (fun r9 h9 w9 => ?_)
    obtain ⟨w1, w2⟩ := w9
    subst h9
    cases w1
    show jJ G X _ 0 0 _ _ (.int v56 :: _)
    refine jr_iconst K (D_at DX6_hangsBy 33 rfl) (v := (1 : Int32)) (by decide) ?_
    refine jr_icmp_ne K (D_at DX6_hangsBy 34 rfl) (tgt := 75) (by decide) (fun c60 => ?_) (fun c60 => ?_)
    · replace hf := (if_neg c60).symm.trans hf
      refine jr_iinc K (D_at DX6_hangsBy 42 rfl) (i := 4) rfl (v := x4 + (1 : Int32)) (jinc (by decide)) (by decide) (L2 := [_, _, _, _, _, _]) rfl ?_
      refine jr_goto K (D_at DX6_hangsBy 43 rfl) (tgt := 22) (by decide) ?_
      refine jr_keep [true, true, true, true, true, false] ?_
      exact hr22 a0 x1 x2 x3 (x4 + (1 : Int32)) hf
    · replace hf := (if_pos c60).symm.trans hf
      refine jr_iload K (D_at DX6_hangsBy 35 rfl) rfl ?_
      refine jr_iload_n K (D_at DX6_hangsBy 36 rfl) rfl rfl ?_
      refine jr_icmp_ge K (D_at DX6_hangsBy 37 rfl) (tgt := 75) (by decide) (fun c66 => ?_) (fun c66 => ?_)
      · replace hf := (if_pos c66).symm.trans hf
        refine jr_iinc K (D_at DX6_hangsBy 42 rfl) (i := 4) rfl (v := x4 + (1 : Int32)) (jinc (by decide)) (by decide) (L2 := [_, _, _, _, _, _]) rfl ?_
        refine jr_goto K (D_at DX6_hangsBy 43 rfl) (tgt := 22) (by decide) ?_
        refine jr_keep [true, true, true, true, true, false] ?_
        exact hr22 a0 x1 x2 x3 (x4 + (1 : Int32)) hf
      · replace hf := (if_neg c66).symm.trans hf
        refine jr_iload K (D_at DX6_hangsBy 38 rfl) rfl ?_
        refine jr_istore_n K (D_at DX6_hangsBy 39 rfl) (i := 3) rfl (by decide) (L2 := [_, _, _, _, _, _]) rfl ?_
        refine jr_iload K (D_at DX6_hangsBy 40 rfl) rfl ?_
        refine jr_istore_n K (D_at DX6_hangsBy 41 rfl) (i := 2) rfl (by decide) (L2 := [_, _, _, _, _, _]) rfl ?_
        refine jr_iinc K (D_at DX6_hangsBy 42 rfl) (i := 4) rfl (v := x4 + (1 : Int32)) (jinc (by decide)) (by decide) (L2 := [_, _, _, _, _, _]) rfl ?_
        refine jr_goto K (D_at DX6_hangsBy 43 rfl) (tgt := 22) (by decide) ?_
        refine jr_keep [true, true, true, true, true, false] ?_
        exact hr22 a0 x1 x4 (if 0 ≤ v37 - v43 then v37 - v43 else 0 - (v37 - v43)) (x4 + (1 : Int32)) hf
theorem J_X6_hangsBy_22 {G : jG} {l : Launch} {d : Nat} {X : jX} {res : Int32} (K : jOK G l mX6_hangsBy (d + 1) X) (n : Nat) (h : jH) (E : jEnd G mX6_hangsBy (jPR h res) X) (k : Nat) : ∀ (a0 : Nat) (x1 : Int32) (x2 : Int32) (x3 : Int32) (x4 : Int32), F_X6_hangsBy_22 n k a0 x1 x2 x3 x4 h = some res → jJ G X h 0 0 22 [some (.ref a0), some (.int x1), some (.int x2), some (.int x3), some (.int x4), none] [] := by
  induction k with
  | zero =>
    intro a0 x1 x2 x3 x4 hf
    exact jno (show (none : Option Int32) = some res from hf)
  | succ k ih =>
    intro a0 x1 x2 x3 x4 hf
    exact J_X6_hangsBy_22_b K n h (F_X6_hangsBy_22 n k) ih E a0 x1 x2 x3 x4 hf
set_option maxHeartbeats 400000 in
set_option maxRecDepth 100000 in
theorem J_X6_hangsBy {G : jG} {l : Launch} {d : Nat} {X : jX} {res : Int32} (K : jOK G l mX6_hangsBy (d + 1) X) (n : Nat) (h : jH) (E : jEnd G mX6_hangsBy (jPR h res) X) (a0 : Nat) (x1 : Int32) (hf : F_X6_hangsBy n a0 x1 h = some res) : jJ G X h 0 0 0 [some (.ref a0), some (.int x1), none, none, none, none] [] := by
  unfold F_X6_hangsBy at hf
  refine jr_aload_n K (D_at DX6_hangsBy 0 rfl) rfl rfl ?_
  obtain ⟨v1, e1, hf⟩ := jbind hf
  refine jr_getI K (D_at DX6_hangsBy 1 rfl) fg_X6_9_6 e1 ?_
  refine jr_iload_n K (D_at DX6_hangsBy 2 rfl) rfl rfl ?_
  obtain ⟨v5, e5, hf⟩ := jbind hf
  refine jr_callSN K (C_X11_bit (d) e5) (D_at DX6_hangsBy 3 rfl) csn_X6_15_X11_bit (As := [.int v1, .int x1]) rfl rfl (by exact Nat.le_of_ble_eq_true rfl) (kc2 := 0) (ks2 := 0) rfl rfl (fun k9 h9 w9 => by cases w9.1) (fun r9 h9 w9 => ?_)
  obtain ⟨w1, w2⟩ := w9
  subst h9
  cases w1
  show jJ G X _ 0 0 _ _ (.int v5 :: _)
  refine jr_iconst K (D_at DX6_hangsBy 4 rfl) (v := (1 : Int32)) (by decide) ?_
  refine jr_icmp_ne K (D_at DX6_hangsBy 5 rfl) (tgt := 14) (by decide) (fun c9 => ?_) (fun c9 => ?_)
  · replace hf := (if_neg c9).symm.trans hf
    refine jr_iconst K (D_at DX6_hangsBy 8 rfl) (v := (-1 : Int32)) (by decide) ?_
    refine jr_istore_n K (D_at DX6_hangsBy 9 rfl) (i := 2) rfl (by decide) (L2 := [_, _, _, _, _, _]) rfl ?_
    refine jr_bipush K (D_at DX6_hangsBy 10 rfl) (v := (32 : Int32)) (by decide) ?_
    refine jr_istore_n K (D_at DX6_hangsBy 11 rfl) (i := 3) rfl (by decide) (L2 := [_, _, _, _, _, _]) rfl ?_
    refine jr_iconst K (D_at DX6_hangsBy 12 rfl) (v := (0 : Int32)) (by decide) ?_
    refine jr_istore K (D_at DX6_hangsBy 13 rfl) (i := 4) (by decide) (L2 := [_, _, _, _, _, _]) rfl ?_
    refine jr_keep [true, true, true, true, true, false] ?_
    exact J_X6_hangsBy_22 K n h E n a0 x1 (-1 : Int32) (32 : Int32) (0 : Int32) hf
  · replace hf := (if_pos c9).symm.trans hf
    refine jr_iload_n K (D_at DX6_hangsBy 6 rfl) rfl rfl ?_
    cases hf
    exact jr_iret K E (D_at DX6_hangsBy 7 rfl) rfl ⟨rfl, rfl⟩
theorem C_X6_hangsBy {G : jG} {l : Launch} (d : Nat) {n : Nat} {a0 : Nat} {x1 : Int32} {h : jH} {res : Int32} (hf : F_X6_hangsBy n a0 x1 h = some res) : jC G l mX6_hangsBy (d + 1) 0 0 [.ref a0, .int x1] h (jPR h res) :=
  jC.of (by decide +kernel) (jcats rfl) (Nat.le_of_ble_eq_true rfl) (fun X K E => J_X6_hangsBy K n h E a0 x1 hf)
set_option maxHeartbeats 400000 in
set_option maxRecDepth 100000 in
theorem J_X8_allFades_4_b {G : jG} {l : Launch} {d : Nat} {X : jX} {res : Int32} (K : jOK G l mX8_allFades (d) X) (n : Nat) (h : jH) (rc4 : Nat → Int32 → Int32 → jH → Option Int32) (hr4 : ∀ (a0 : Nat) (x1 : Int32) (x2 : Int32), rc4 a0 x1 x2 h = some res → jJ G X h 0 0 4 [some (.ref a0), some (.int x1), some (.int x2)] []) (E : jEnd G mX8_allFades (jPR h res) X) (a0 : Nat) (x1 : Int32) (x2 : Int32) (hf : F_X8_allFades_4_b n rc4 a0 x1 x2 h = some res) : jJ G X h 0 0 4 [some (.ref a0), some (.int x1), some (.int x2)] [] := by
  unfold F_X8_allFades_4_b at hf
  refine jr_iload_n K (D_at DX8_allFades 4 rfl) rfl rfl ?_
  refine jr_aload_n K (D_at DX8_allFades 5 rfl) rfl rfl ?_
  obtain ⟨v6, e6, hf⟩ := jbind hf
  refine jr_getI K (D_at DX8_allFades 6 rfl) fg_X8_51_6 e6 ?_
  refine jr_icmp_ge K (D_at DX8_allFades 7 rfl) (tgt := 27) (by decide) (fun c9 => ?_) (fun c9 => ?_)
  · replace hf := (if_pos c9).symm.trans hf
    refine jr_iload_n K (D_at DX8_allFades 17 rfl) rfl rfl ?_
    cases hf
    exact jr_iret K E (D_at DX8_allFades 18 rfl) rfl ⟨rfl, rfl⟩
  · replace hf := (if_neg c9).symm.trans hf
    refine jr_iload_n K (D_at DX8_allFades 8 rfl) rfl rfl ?_
    refine jr_aload_n K (D_at DX8_allFades 9 rfl) rfl rfl ?_
    obtain ⟨p14, e14, hf⟩ := jbind hf
    refine jr_getR K (D_at DX8_allFades 10 rfl) fg_X8_18_6 e14 ?_
    refine jr_iload_n K (D_at DX8_allFades 11 rfl) rfl rfl ?_
    obtain ⟨v18, e18, hf⟩ := jbind hf
    refine jr_iald K (D_at DX8_allFades 12 rfl) e18 ?_
    refine jr_iadd K (D_at DX8_allFades 13 rfl) ?_
    refine jr_istore_n K (D_at DX8_allFades 14 rfl) (i := 1) rfl (by decide) (L2 := [_, _, _]) rfl ?_
    refine jr_iinc K (D_at DX8_allFades 15 rfl) (i := 2) rfl (v := x2 + (1 : Int32)) (jinc (by decide)) (by decide) (L2 := [_, _, _]) rfl ?_
    refine jr_goto K (D_at DX8_allFades 16 rfl) (tgt := 4) (by decide) ?_
    refine jr_keep [true, true, true] ?_
    exact hr4 a0 (x1 + v18) (x2 + (1 : Int32)) hf
theorem J_X8_allFades_4 {G : jG} {l : Launch} {d : Nat} {X : jX} {res : Int32} (K : jOK G l mX8_allFades (d) X) (n : Nat) (h : jH) (E : jEnd G mX8_allFades (jPR h res) X) (k : Nat) : ∀ (a0 : Nat) (x1 : Int32) (x2 : Int32), F_X8_allFades_4 n k a0 x1 x2 h = some res → jJ G X h 0 0 4 [some (.ref a0), some (.int x1), some (.int x2)] [] := by
  induction k with
  | zero =>
    intro a0 x1 x2 hf
    exact jno (show (none : Option Int32) = some res from hf)
  | succ k ih =>
    intro a0 x1 x2 hf
    exact J_X8_allFades_4_b K n h (F_X8_allFades_4 n k) ih E a0 x1 x2 hf
set_option maxHeartbeats 400000 in
set_option maxRecDepth 100000 in
theorem J_X8_allFades {G : jG} {l : Launch} {d : Nat} {X : jX} {res : Int32} (K : jOK G l mX8_allFades (d) X) (n : Nat) (h : jH) (E : jEnd G mX8_allFades (jPR h res) X) (a0 : Nat) (hf : F_X8_allFades n a0 h = some res) : jJ G X h 0 0 0 [some (.ref a0), none, none] [] := by
  unfold F_X8_allFades at hf
  refine jr_iconst K (D_at DX8_allFades 0 rfl) (v := (0 : Int32)) (by decide) ?_
  refine jr_istore_n K (D_at DX8_allFades 1 rfl) (i := 1) rfl (by decide) (L2 := [_, _, _]) rfl ?_
  refine jr_iconst K (D_at DX8_allFades 2 rfl) (v := (0 : Int32)) (by decide) ?_
  refine jr_istore_n K (D_at DX8_allFades 3 rfl) (i := 2) rfl (by decide) (L2 := [_, _, _]) rfl ?_
  refine jr_keep [true, true, true] ?_
  exact J_X8_allFades_4 K n h E n a0 (0 : Int32) (0 : Int32) hf
theorem C_X8_allFades {G : jG} {l : Launch} (d : Nat) {n : Nat} {a0 : Nat} {h : jH} {res : Int32} (hf : F_X8_allFades n a0 h = some res) : jC G l mX8_allFades (d) 0 0 [.ref a0] h (jPR h res) :=
  jC.of (by decide +kernel) (jcats rfl) (Nat.le_of_ble_eq_true rfl) (fun X K E => J_X8_allFades K n h E a0 hf)
set_option maxHeartbeats 400000 in
set_option maxRecDepth 100000 in
theorem J_X6_share {G : jG} {l : Launch} {d : Nat} {X : jX} {res : Int32} (K : jOK G l mX6_share (d + 1) X) (n : Nat) (h : jH) (E : jEnd G mX6_share (jPR h res) X) (a0 : Nat) (x1 : Int32) (hf : F_X6_share n a0 x1 h = some res) : jJ G X h 0 0 0 [some (.ref a0), some (.int x1), none] [] := by
  unfold F_X6_share at hf
  refine jr_aload_n K (D_at DX6_share 0 rfl) rfl rfl ?_
  obtain ⟨v1, e1, hf⟩ := jbind hf
  obtain ⟨rc_1, e1⟩ := jcv_o e1
  refine jr_callV K (C_X8_allFades (d) e1) (D_at DX6_share 1 rfl) cv_X6_32_X8_allFades (As := []) (ci := 6) rfl rc_1 rfl rfl (by exact Nat.le_of_ble_eq_true rfl) (kc2 := 0) (ks2 := 0) rfl rfl (fun k9 h9 w9 => by cases w9.1) (fun r9 h9 w9 => ?_)
  obtain ⟨w1, w2⟩ := w9
  subst h9
  cases w1
  show jJ G X _ 0 0 _ _ (.int v1 :: _)
  refine jr_istore_n K (D_at DX6_share 2 rfl) (i := 2) rfl (by decide) (L2 := [_, _, _]) rfl ?_
  refine jr_iload_n K (D_at DX6_share 3 rfl) rfl rfl ?_
  refine jr_if_ne K (D_at DX6_share 4 rfl) (tgt := 13) (by decide) (fun c6 => ?_) (fun c6 => ?_)
  · replace hf := (if_neg c6).symm.trans hf
    refine jr_bipush K (D_at DX6_share 7 rfl) (v := (100 : Int32)) (by decide) ?_
    refine jr_aload_n K (D_at DX6_share 8 rfl) rfl rfl ?_
    obtain ⟨p16, e16, hf⟩ := jbind hf
    refine jr_getR K (D_at DX6_share 9 rfl) fg_X6_36_6 e16 ?_
    refine jr_iload_n K (D_at DX6_share 10 rfl) rfl rfl ?_
    obtain ⟨v20, e20, hf⟩ := jbind hf
    refine jr_iald K (D_at DX6_share 11 rfl) e20 ?_
    refine jr_imul K (D_at DX6_share 12 rfl) ?_
    refine jr_iload_n K (D_at DX6_share 13 rfl) rfl rfl ?_
    by_cases c23 : v1 = 0
    · exact jno (show (none : Option Int32) = some res from (if_pos c23).symm.trans hf)
    replace hf := (if_neg c23).symm.trans hf
    refine jr_idiv K (D_at DX6_share 14 rfl) c23 ?_
    cases hf
    exact jr_iret K E (D_at DX6_share 15 rfl) rfl ⟨rfl, rfl⟩
  · replace hf := (if_pos c6).symm.trans hf
    refine jr_iconst K (D_at DX6_share 5 rfl) (v := (0 : Int32)) (by decide) ?_
    refine jr_goto K (D_at DX6_share 6 rfl) (tgt := 24) (by decide) ?_
    cases hf
    exact jr_iret K E (D_at DX6_share 15 rfl) rfl ⟨rfl, rfl⟩
theorem C_X6_share {G : jG} {l : Launch} (d : Nat) {n : Nat} {a0 : Nat} {x1 : Int32} {h : jH} {res : Int32} (hf : F_X6_share n a0 x1 h = some res) : jC G l mX6_share (d + 1) 0 0 [.ref a0, .int x1] h (jPR h res) :=
  jC.of (by decide +kernel) (jcats rfl) (Nat.le_of_ble_eq_true rfl) (fun X K E => J_X6_share K n h E a0 x1 hf)
set_option maxHeartbeats 400000 in
set_option maxRecDepth 100000 in
theorem J_X6_isInOrder_4_b {G : jG} {l : Launch} {d : Nat} {X : jX} {res : Int32} (K : jOK G l mX6_isInOrder (d + 1) X) (n : Nat) (h : jH) (rc4 : Nat → Int32 → Int32 → Int32 → jH → Option Int32) (hr4 : ∀ (a0 : Nat) (x1 : Int32) (x2 : Int32) (x3 : Int32), rc4 a0 x1 x2 x3 h = some res → jJ G X h 0 0 4 [some (.ref a0), some (.int x1), some (.int x2), some (.int x3)] []) (E : jEnd G mX6_isInOrder (jPR h res) X) (a0 : Nat) (x1 : Int32) (x2 : Int32) (x3 : Int32) (hf : F_X6_isInOrder_4_b n rc4 a0 x1 x2 x3 h = some res) : jJ G X h 0 0 4 [some (.ref a0), some (.int x1), some (.int x2), some (.int x3)] [] := by
  unfold F_X6_isInOrder_4_b at hf
  refine jr_iload_n K (D_at DX6_isInOrder 4 rfl) rfl rfl ?_
  refine jr_aload_n K (D_at DX6_isInOrder 5 rfl) rfl rfl ?_
  obtain ⟨v6, e6, hf⟩ := jbind hf
  refine jr_getI K (D_at DX6_isInOrder 6 rfl) fg_X6_19_6 e6 ?_
  refine jr_icmp_ge K (D_at DX6_isInOrder 7 rfl) (tgt := 46) (by decide) (fun c9 => ?_) (fun c9 => ?_)
  · replace hf := (if_pos c9).symm.trans hf
    refine jr_iconst K (D_at DX6_isInOrder 28 rfl) (v := (1 : Int32)) (by decide) ?_
    cases hf
    exact jr_zret K E (D_at DX6_isInOrder 29 rfl) rfl (Or.inr rfl) ⟨rfl, rfl⟩
  · replace hf := (if_neg c9).symm.trans hf
    refine jr_iload_n K (D_at DX6_isInOrder 8 rfl) rfl rfl ?_
    refine jr_iload_n K (D_at DX6_isInOrder 9 rfl) rfl rfl ?_
    obtain ⟨v14, e14, hf⟩ := jbind hf
    refine jr_callSN K (C_X11_bit (d) e14) (D_at DX6_isInOrder 10 rfl) csn_X6_15_X11_bit (As := [.int x1, .int x3]) rfl rfl (by exact Nat.le_of_ble_eq_true rfl) (kc2 := 0) (ks2 := 0) rfl rfl (fun k9 h9 w9 => by cases w9.1) (fun r9 h9 w9 => ?_)
    obtain ⟨w1, w2⟩ := w9
    subst h9
    cases w1
    show jJ G X _ 0 0 _ _ (.int v14 :: _)
    refine jr_iconst K (D_at DX6_isInOrder 11 rfl) (v := (1 : Int32)) (by decide) ?_
    refine jr_icmp_ne K (D_at DX6_isInOrder 12 rfl) (tgt := 40) (by decide) (fun c18 => ?_) (fun c18 => ?_)
    · replace hf := (if_neg c18).symm.trans hf
      refine jr_iinc K (D_at DX6_isInOrder 26 rfl) (i := 3) rfl (v := x3 + (1 : Int32)) (jinc (by decide)) (by decide) (L2 := [_, _, _, _]) rfl ?_
      refine jr_goto K (D_at DX6_isInOrder 27 rfl) (tgt := 4) (by decide) ?_
      refine jr_keep [true, true, true, true] ?_
      exact hr4 a0 x1 x2 (x3 + (1 : Int32)) hf
    · replace hf := (if_pos c18).symm.trans hf
      refine jr_aload_n K (D_at DX6_isInOrder 13 rfl) rfl rfl ?_
      obtain ⟨p22, e22, hf⟩ := jbind hf
      refine jr_getR K (D_at DX6_isInOrder 14 rfl) fg_X6_36_6 e22 ?_
      refine jr_iload_n K (D_at DX6_isInOrder 15 rfl) rfl rfl ?_
      obtain ⟨v26, e26, hf⟩ := jbind hf
      refine jr_iald K (D_at DX6_isInOrder 16 rfl) e26 ?_
      refine jr_iload_n K (D_at DX6_isInOrder 17 rfl) rfl rfl ?_
      refine jr_icmp_ge K (D_at DX6_isInOrder 18 rfl) (tgt := 33) (by decide) (fun c28 => ?_) (fun c28 => ?_)
      · replace hf := (if_pos c28).symm.trans hf
        refine jr_aload_n K (D_at DX6_isInOrder 21 rfl) rfl rfl ?_
        obtain ⟨p34, e34, hf⟩ := jbind hf
        refine jr_getR K (D_at DX6_isInOrder 22 rfl) fg_X6_36_6 e34 ?_
        refine jr_iload_n K (D_at DX6_isInOrder 23 rfl) rfl rfl ?_
        obtain ⟨v38, e38, hf⟩ := jbind hf
        refine jr_iald K (D_at DX6_isInOrder 24 rfl) e38 ?_
        refine jr_istore_n K (D_at DX6_isInOrder 25 rfl) (i := 2) rfl (by decide) (L2 := [_, _, _, _]) rfl ?_
        refine jr_iinc K (D_at DX6_isInOrder 26 rfl) (i := 3) rfl (v := x3 + (1 : Int32)) (jinc (by decide)) (by decide) (L2 := [_, _, _, _]) rfl ?_
        refine jr_goto K (D_at DX6_isInOrder 27 rfl) (tgt := 4) (by decide) ?_
        refine jr_keep [true, true, true, true] ?_
        exact hr4 a0 x1 v38 (x3 + (1 : Int32)) hf
      · replace hf := (if_neg c28).symm.trans hf
        refine jr_iconst K (D_at DX6_isInOrder 19 rfl) (v := (0 : Int32)) (by decide) ?_
        cases hf
        exact jr_zret K E (D_at DX6_isInOrder 20 rfl) rfl (Or.inl rfl) ⟨rfl, rfl⟩
theorem J_X6_isInOrder_4 {G : jG} {l : Launch} {d : Nat} {X : jX} {res : Int32} (K : jOK G l mX6_isInOrder (d + 1) X) (n : Nat) (h : jH) (E : jEnd G mX6_isInOrder (jPR h res) X) (k : Nat) : ∀ (a0 : Nat) (x1 : Int32) (x2 : Int32) (x3 : Int32), F_X6_isInOrder_4 n k a0 x1 x2 x3 h = some res → jJ G X h 0 0 4 [some (.ref a0), some (.int x1), some (.int x2), some (.int x3)] [] := by
  induction k with
  | zero =>
    intro a0 x1 x2 x3 hf
    exact jno (show (none : Option Int32) = some res from hf)
  | succ k ih =>
    intro a0 x1 x2 x3 hf
    exact J_X6_isInOrder_4_b K n h (F_X6_isInOrder_4 n k) ih E a0 x1 x2 x3 hf
set_option maxHeartbeats 400000 in
set_option maxRecDepth 100000 in
theorem J_X6_isInOrder {G : jG} {l : Launch} {d : Nat} {X : jX} {res : Int32} (K : jOK G l mX6_isInOrder (d + 1) X) (n : Nat) (h : jH) (E : jEnd G mX6_isInOrder (jPR h res) X) (a0 : Nat) (x1 : Int32) (hf : F_X6_isInOrder n a0 x1 h = some res) : jJ G X h 0 0 0 [some (.ref a0), some (.int x1), none, none] [] := by
  unfold F_X6_isInOrder at hf
  refine jr_iconst K (D_at DX6_isInOrder 0 rfl) (v := (0 : Int32)) (by decide) ?_
  refine jr_istore_n K (D_at DX6_isInOrder 1 rfl) (i := 2) rfl (by decide) (L2 := [_, _, _, _]) rfl ?_
  refine jr_iconst K (D_at DX6_isInOrder 2 rfl) (v := (0 : Int32)) (by decide) ?_
  refine jr_istore_n K (D_at DX6_isInOrder 3 rfl) (i := 3) rfl (by decide) (L2 := [_, _, _, _]) rfl ?_
  refine jr_keep [true, true, true, true] ?_
  exact J_X6_isInOrder_4 K n h E n a0 x1 (0 : Int32) (0 : Int32) hf
theorem C_X6_isInOrder {G : jG} {l : Launch} (d : Nat) {n : Nat} {a0 : Nat} {x1 : Int32} {h : jH} {res : Int32} (hf : F_X6_isInOrder n a0 x1 h = some res) : jC G l mX6_isInOrder (d + 1) 0 0 [.ref a0, .int x1] h (jPR h res) :=
  jC.of (by decide +kernel) (jcats rfl) (Nat.le_of_ble_eq_true rfl) (fun X K E => J_X6_isInOrder K n h E a0 x1 hf)
set_option maxHeartbeats 400000 in
set_option maxRecDepth 100000 in
theorem J_J6_bitCount_0f7a4 {G : jG} {l : Launch} {d : Nat} {X : jX} {res : Int32} (K : jOK G l mJ6_bitCount_0f7a4 (d) X) (n : Nat) (h : jH) (E : jEnd G mJ6_bitCount_0f7a4 (jPR h res) X) (x0 : Int32) (hf : F_J6_bitCount_0f7a4 n x0 h = some res) : jJ G X h 0 0 0 [some (.int x0)] [] := by
  unfold F_J6_bitCount_0f7a4 at hf
  refine jr_iload_n K (D_at DJ6_bitCount_0f7a4 0 rfl) rfl rfl ?_
  refine jr_iload_n K (D_at DJ6_bitCount_0f7a4 1 rfl) rfl rfl ?_
  refine jr_iconst K (D_at DJ6_bitCount_0f7a4 2 rfl) (v := (1 : Int32)) (by decide) ?_
  refine jr_iushr K (D_at DJ6_bitCount_0f7a4 3 rfl) (v := jushr x0 (1 : Int32)) rfl ?_
  refine jr_ldcw K (D_at DJ6_bitCount_0f7a4 4 rfl) (v := (1431655765 : Int32)) kc_J6_265 ?_
  refine jr_iand K (D_at DJ6_bitCount_0f7a4 5 rfl) ?_
  refine jr_isub K (D_at DJ6_bitCount_0f7a4 6 rfl) ?_
  refine jr_istore_n K (D_at DJ6_bitCount_0f7a4 7 rfl) (i := 0) rfl (by decide) (L2 := [_]) rfl ?_
  refine jr_iload_n K (D_at DJ6_bitCount_0f7a4 8 rfl) rfl rfl ?_
  refine jr_ldcw K (D_at DJ6_bitCount_0f7a4 9 rfl) (v := (858993459 : Int32)) kc_J6_266 ?_
  refine jr_iand K (D_at DJ6_bitCount_0f7a4 10 rfl) ?_
  refine jr_iload_n K (D_at DJ6_bitCount_0f7a4 11 rfl) rfl rfl ?_
  refine jr_iconst K (D_at DJ6_bitCount_0f7a4 12 rfl) (v := (2 : Int32)) (by decide) ?_
  refine jr_iushr K (D_at DJ6_bitCount_0f7a4 13 rfl) (v := jushr (x0 - ((jushr x0 (1 : Int32)) &&& (1431655765 : Int32))) (2 : Int32)) rfl ?_
  refine jr_ldcw K (D_at DJ6_bitCount_0f7a4 14 rfl) (v := (858993459 : Int32)) kc_J6_266 ?_
  refine jr_iand K (D_at DJ6_bitCount_0f7a4 15 rfl) ?_
  refine jr_iadd K (D_at DJ6_bitCount_0f7a4 16 rfl) ?_
  refine jr_istore_n K (D_at DJ6_bitCount_0f7a4 17 rfl) (i := 0) rfl (by decide) (L2 := [_]) rfl ?_
  refine jr_iload_n K (D_at DJ6_bitCount_0f7a4 18 rfl) rfl rfl ?_
  refine jr_iload_n K (D_at DJ6_bitCount_0f7a4 19 rfl) rfl rfl ?_
  refine jr_iconst K (D_at DJ6_bitCount_0f7a4 20 rfl) (v := (4 : Int32)) (by decide) ?_
  refine jr_iushr K (D_at DJ6_bitCount_0f7a4 21 rfl) (v := jushr (((x0 - ((jushr x0 (1 : Int32)) &&& (1431655765 : Int32))) &&& (858993459 : Int32)) + ((jushr (x0 - ((jushr x0 (1 : Int32)) &&& (1431655765 : Int32))) (2 : Int32)) &&& (858993459 : Int32))) (4 : Int32)) rfl ?_
  refine jr_iadd K (D_at DJ6_bitCount_0f7a4 22 rfl) ?_
  refine jr_ldcw K (D_at DJ6_bitCount_0f7a4 23 rfl) (v := (252645135 : Int32)) kc_J6_267 ?_
  refine jr_iand K (D_at DJ6_bitCount_0f7a4 24 rfl) ?_
  refine jr_istore_n K (D_at DJ6_bitCount_0f7a4 25 rfl) (i := 0) rfl (by decide) (L2 := [_]) rfl ?_
  refine jr_iload_n K (D_at DJ6_bitCount_0f7a4 26 rfl) rfl rfl ?_
  refine jr_iload_n K (D_at DJ6_bitCount_0f7a4 27 rfl) rfl rfl ?_
  refine jr_bipush K (D_at DJ6_bitCount_0f7a4 28 rfl) (v := (8 : Int32)) (by decide) ?_
  refine jr_iushr K (D_at DJ6_bitCount_0f7a4 29 rfl) (v := jushr (((((x0 - ((jushr x0 (1 : Int32)) &&& (1431655765 : Int32))) &&& (858993459 : Int32)) + ((jushr (x0 - ((jushr x0 (1 : Int32)) &&& (1431655765 : Int32))) (2 : Int32)) &&& (858993459 : Int32))) + (jushr (((x0 - ((jushr x0 (1 : Int32)) &&& (1431655765 : Int32))) &&& (858993459 : Int32)) + ((jushr (x0 - ((jushr x0 (1 : Int32)) &&& (1431655765 : Int32))) (2 : Int32)) &&& (858993459 : Int32))) (4 : Int32))) &&& (252645135 : Int32)) (8 : Int32)) rfl ?_
  refine jr_iadd K (D_at DJ6_bitCount_0f7a4 30 rfl) ?_
  refine jr_istore_n K (D_at DJ6_bitCount_0f7a4 31 rfl) (i := 0) rfl (by decide) (L2 := [_]) rfl ?_
  refine jr_iload_n K (D_at DJ6_bitCount_0f7a4 32 rfl) rfl rfl ?_
  refine jr_iload_n K (D_at DJ6_bitCount_0f7a4 33 rfl) rfl rfl ?_
  refine jr_bipush K (D_at DJ6_bitCount_0f7a4 34 rfl) (v := (16 : Int32)) (by decide) ?_
  refine jr_iushr K (D_at DJ6_bitCount_0f7a4 35 rfl) (v := jushr ((((((x0 - ((jushr x0 (1 : Int32)) &&& (1431655765 : Int32))) &&& (858993459 : Int32)) + ((jushr (x0 - ((jushr x0 (1 : Int32)) &&& (1431655765 : Int32))) (2 : Int32)) &&& (858993459 : Int32))) + (jushr (((x0 - ((jushr x0 (1 : Int32)) &&& (1431655765 : Int32))) &&& (858993459 : Int32)) + ((jushr (x0 - ((jushr x0 (1 : Int32)) &&& (1431655765 : Int32))) (2 : Int32)) &&& (858993459 : Int32))) (4 : Int32))) &&& (252645135 : Int32)) + (jushr (((((x0 - ((jushr x0 (1 : Int32)) &&& (1431655765 : Int32))) &&& (858993459 : Int32)) + ((jushr (x0 - ((jushr x0 (1 : Int32)) &&& (1431655765 : Int32))) (2 : Int32)) &&& (858993459 : Int32))) + (jushr (((x0 - ((jushr x0 (1 : Int32)) &&& (1431655765 : Int32))) &&& (858993459 : Int32)) + ((jushr (x0 - ((jushr x0 (1 : Int32)) &&& (1431655765 : Int32))) (2 : Int32)) &&& (858993459 : Int32))) (4 : Int32))) &&& (252645135 : Int32)) (8 : Int32))) (16 : Int32)) rfl ?_
  refine jr_iadd K (D_at DJ6_bitCount_0f7a4 36 rfl) ?_
  refine jr_istore_n K (D_at DJ6_bitCount_0f7a4 37 rfl) (i := 0) rfl (by decide) (L2 := [_]) rfl ?_
  refine jr_iload_n K (D_at DJ6_bitCount_0f7a4 38 rfl) rfl rfl ?_
  refine jr_bipush K (D_at DJ6_bitCount_0f7a4 39 rfl) (v := (63 : Int32)) (by decide) ?_
  refine jr_iand K (D_at DJ6_bitCount_0f7a4 40 rfl) ?_
  cases hf
  exact jr_iret K E (D_at DJ6_bitCount_0f7a4 41 rfl) rfl ⟨rfl, rfl⟩
theorem C_J6_bitCount_0f7a4 {G : jG} {l : Launch} (d : Nat) {n : Nat} {x0 : Int32} {h : jH} {res : Int32} (hf : F_J6_bitCount_0f7a4 n x0 h = some res) : jC G l mJ6_bitCount_0f7a4 (d) 0 0 [.int x0] h (jPR h res) :=
  jC.ofF (by decide +kernel) (jcats rfl) (Nat.le_of_ble_eq_true rfl) (fun X K E => J_J6_bitCount_0f7a4 K n h E x0 hf)
set_option maxHeartbeats 400000 in
set_option maxRecDepth 100000 in
theorem J_X6_outOfOrder_4_b {G : jG} {l : Launch} {d : Nat} {X : jX} {res : Int32} (K : jOK G l mX6_outOfOrder (d + 2) X) (n : Nat) (h : jH) (rc4 : Nat → Int32 → Int32 → jH → Option Int32) (hr4 : ∀ (a0 : Nat) (x1 : Int32) (x2 : Int32), rc4 a0 x1 x2 h = some res → jJ G X h 0 0 4 [some (.ref a0), some (.int x1), some (.int x2)] []) (E : jEnd G mX6_outOfOrder (jPR h res) X) (a0 : Nat) (x1 : Int32) (x2 : Int32) (hf : F_X6_outOfOrder_4_b n rc4 a0 x1 x2 h = some res) : jJ G X h 0 0 4 [some (.ref a0), some (.int x1), some (.int x2)] [] := by
  unfold F_X6_outOfOrder_4_b at hf
  refine jr_iload_n K (D_at DX6_outOfOrder 4 rfl) rfl rfl ?_
  refine jr_iconst K (D_at DX6_outOfOrder 5 rfl) (v := (1 : Int32)) (by decide) ?_
  refine jr_aload_n K (D_at DX6_outOfOrder 6 rfl) rfl rfl ?_
  obtain ⟨v7, e7, hf⟩ := jbind hf
  refine jr_getI K (D_at DX6_outOfOrder 7 rfl) fg_X6_19_6 e7 ?_
  refine jr_ishl K (D_at DX6_outOfOrder 8 rfl) ?_
  refine jr_icmp_ge K (D_at DX6_outOfOrder 9 rfl) (tgt := 37) (by decide) (fun c11 => ?_) (fun c11 => ?_)
  · replace hf := (if_pos c11).symm.trans hf
    refine jr_aload_n K (D_at DX6_outOfOrder 21 rfl) rfl rfl ?_
    obtain ⟨v38, e38, hf⟩ := jbind hf
    refine jr_getI K (D_at DX6_outOfOrder 22 rfl) fg_X6_19_6 e38 ?_
    refine jr_iload_n K (D_at DX6_outOfOrder 23 rfl) rfl rfl ?_
    refine jr_isub K (D_at DX6_outOfOrder 24 rfl) ?_
    cases hf
    exact jr_iret K E (D_at DX6_outOfOrder 25 rfl) rfl ⟨rfl, rfl⟩
  · replace hf := (if_neg c11).symm.trans hf
    refine jr_aload_n K (D_at DX6_outOfOrder 10 rfl) rfl rfl ?_
    refine jr_iload_n K (D_at DX6_outOfOrder 11 rfl) rfl rfl ?_
    obtain ⟨v16, e16, hf⟩ := jbind hf
    refine jr_callS K (C_X6_isInOrder (d) e16) (D_at DX6_outOfOrder 12 rfl) cs_X6_39_X6_isInOrder (As := [.ref a0, .int x2]) rfl rfl (by exact Nat.le_of_ble_eq_true rfl) (kc2 := 0) (ks2 := 0) rfl rfl (fun k9 h9 w9 => by cases w9.1) (fun r9 h9 w9 => ?_)
    obtain ⟨w1, w2⟩ := w9
    subst h9
    cases w1
    show jJ G X _ 0 0 _ _ (.int v16 :: _)
    refine jr_if_eq K (D_at DX6_outOfOrder 13 rfl) (tgt := 31) (by decide) (fun c19 => ?_) (fun c19 => ?_)
    · replace hf := (if_pos c19).symm.trans hf
      refine jr_iinc K (D_at DX6_outOfOrder 19 rfl) (i := 2) rfl (v := x2 + (1 : Int32)) (jinc (by decide)) (by decide) (L2 := [_, _, _]) rfl ?_
      refine jr_goto K (D_at DX6_outOfOrder 20 rfl) (tgt := 4) (by decide) ?_
      refine jr_keep [true, true, true] ?_
      exact hr4 a0 x1 (x2 + (1 : Int32)) hf
    · replace hf := (if_neg c19).symm.trans hf
      refine jr_iload_n K (D_at DX6_outOfOrder 14 rfl) rfl rfl ?_
      refine jr_iload_n K (D_at DX6_outOfOrder 15 rfl) rfl rfl ?_
      obtain ⟨v24, e24, hf⟩ := jbind hf
      refine jr_callS K (C_J6_bitCount_0f7a4 (d + 1) e24) (D_at DX6_outOfOrder 16 rfl) cs_X6_45_J6_bitCount_0f7a4 (As := [.int x2]) rfl rfl (by exact Nat.le_of_ble_eq_true rfl) (kc2 := 0) (ks2 := 0) rfl rfl (fun k9 h9 w9 => by cases w9.1) (fun r9 h9 w9 => ?_)
      obtain ⟨w1, w2⟩ := w9
      subst h9
      cases w1
      show jJ G X _ 0 0 _ _ (.int v24 :: _)
      refine jr_max K (D_at DX6_outOfOrder 17 rfl) mm_X6_50 (by exact Nat.le_of_ble_eq_true rfl) ?_
      refine jr_istore_n K (D_at DX6_outOfOrder 18 rfl) (i := 1) rfl (by decide) (L2 := [_, _, _]) rfl ?_
      refine jr_iinc K (D_at DX6_outOfOrder 19 rfl) (i := 2) rfl (v := x2 + (1 : Int32)) (jinc (by decide)) (by decide) (L2 := [_, _, _]) rfl ?_
      refine jr_goto K (D_at DX6_outOfOrder 20 rfl) (tgt := 4) (by decide) ?_
      refine jr_keep [true, true, true] ?_
      exact hr4 a0 (if x1 < v24 then v24 else x1) (x2 + (1 : Int32)) hf
theorem J_X6_outOfOrder_4 {G : jG} {l : Launch} {d : Nat} {X : jX} {res : Int32} (K : jOK G l mX6_outOfOrder (d + 2) X) (n : Nat) (h : jH) (E : jEnd G mX6_outOfOrder (jPR h res) X) (k : Nat) : ∀ (a0 : Nat) (x1 : Int32) (x2 : Int32), F_X6_outOfOrder_4 n k a0 x1 x2 h = some res → jJ G X h 0 0 4 [some (.ref a0), some (.int x1), some (.int x2)] [] := by
  induction k with
  | zero =>
    intro a0 x1 x2 hf
    exact jno (show (none : Option Int32) = some res from hf)
  | succ k ih =>
    intro a0 x1 x2 hf
    exact J_X6_outOfOrder_4_b K n h (F_X6_outOfOrder_4 n k) ih E a0 x1 x2 hf
set_option maxHeartbeats 400000 in
set_option maxRecDepth 100000 in
theorem J_X6_outOfOrder {G : jG} {l : Launch} {d : Nat} {X : jX} {res : Int32} (K : jOK G l mX6_outOfOrder (d + 2) X) (n : Nat) (h : jH) (E : jEnd G mX6_outOfOrder (jPR h res) X) (a0 : Nat) (hf : F_X6_outOfOrder n a0 h = some res) : jJ G X h 0 0 0 [some (.ref a0), none, none] [] := by
  unfold F_X6_outOfOrder at hf
  refine jr_iconst K (D_at DX6_outOfOrder 0 rfl) (v := (0 : Int32)) (by decide) ?_
  refine jr_istore_n K (D_at DX6_outOfOrder 1 rfl) (i := 1) rfl (by decide) (L2 := [_, _, _]) rfl ?_
  refine jr_iconst K (D_at DX6_outOfOrder 2 rfl) (v := (0 : Int32)) (by decide) ?_
  refine jr_istore_n K (D_at DX6_outOfOrder 3 rfl) (i := 2) rfl (by decide) (L2 := [_, _, _]) rfl ?_
  refine jr_keep [true, true, true] ?_
  exact J_X6_outOfOrder_4 K n h E n a0 (0 : Int32) (0 : Int32) hf
theorem C_X6_outOfOrder {G : jG} {l : Launch} (d : Nat) {n : Nat} {a0 : Nat} {h : jH} {res : Int32} (hf : F_X6_outOfOrder n a0 h = some res) : jC G l mX6_outOfOrder (d + 2) 0 0 [.ref a0] h (jPR h res) :=
  jC.of (by decide +kernel) (jcats rfl) (Nat.le_of_ble_eq_true rfl) (fun X K E => J_X6_outOfOrder K n h E a0 hf)
set_option maxHeartbeats 400000 in
set_option maxRecDepth 100000 in
theorem J_X6_tightest_8_b {G : jG} {l : Launch} {d : Nat} {X : jX} {res : Int32} (K : jOK G l mX6_tightest (d) X) (n : Nat) (h : jH) (rc8 : Nat → Int32 → Int32 → Int32 → Int32 → jH → Option Int32) (hr8 : ∀ (a0 : Nat) (x1 : Int32) (x2 : Int32) (x3 : Int32) (x4 : Int32), rc8 a0 x1 x2 x3 x4 h = some res → jJ G X h 0 0 8 [some (.ref a0), some (.int x1), some (.int x2), some (.int x3), some (.int x4), none] []) (E : jEnd G mX6_tightest (jPR h res) X) (a0 : Nat) (x1 : Int32) (x2 : Int32) (x3 : Int32) (x4 : Int32) (hf : F_X6_tightest_8_b n rc8 a0 x1 x2 x3 x4 h = some res) : jJ G X h 0 0 8 [some (.ref a0), some (.int x1), some (.int x2), some (.int x3), some (.int x4), none] [] := by
  unfold F_X6_tightest_8_b at hf
  refine jr_iload K (D_at DX6_tightest 6 rfl) rfl ?_
  refine jr_iload_n K (D_at DX6_tightest 7 rfl) rfl rfl ?_
  refine jr_iadd K (D_at DX6_tightest 8 rfl) ?_
  refine jr_aload_n K (D_at DX6_tightest 9 rfl) rfl rfl ?_
  obtain ⟨v13, e13, hf⟩ := jbind hf
  refine jr_getI K (D_at DX6_tightest 10 rfl) fg_X6_19_6 e13 ?_
  refine jr_icmp_gt K (D_at DX6_tightest 11 rfl) (tgt := 58) (by decide) (fun c16 => ?_) (fun c16 => ?_)
  · replace hf := (if_pos c16).symm.trans hf
    refine jr_iload_n K (D_at DX6_tightest 35 rfl) rfl rfl ?_
    cases hf
    exact jr_iret K E (D_at DX6_tightest 36 rfl) rfl ⟨rfl, rfl⟩
  · replace hf := (if_neg c16).symm.trans hf
    refine jr_aload_n K (D_at DX6_tightest 12 rfl) rfl rfl ?_
    obtain ⟨p20, e20, hf⟩ := jbind hf
    refine jr_getR K (D_at DX6_tightest 13 rfl) fg_X6_22_6 e20 ?_
    refine jr_iload K (D_at DX6_tightest 14 rfl) rfl ?_
    refine jr_iload_n K (D_at DX6_tightest 15 rfl) rfl rfl ?_
    refine jr_iadd K (D_at DX6_tightest 16 rfl) ?_
    refine jr_iconst K (D_at DX6_tightest 17 rfl) (v := (1 : Int32)) (by decide) ?_
    refine jr_isub K (D_at DX6_tightest 18 rfl) ?_
    obtain ⟨v29, e29, hf⟩ := jbind hf
    refine jr_iald K (D_at DX6_tightest 19 rfl) e29 ?_
    refine jr_aload_n K (D_at DX6_tightest 20 rfl) rfl rfl ?_
    obtain ⟨p31, e31, hf⟩ := jbind hf
    refine jr_getR K (D_at DX6_tightest 21 rfl) fg_X6_22_6 e31 ?_
    refine jr_iload K (D_at DX6_tightest 22 rfl) rfl ?_
    obtain ⟨v36, e36, hf⟩ := jbind hf
    refine jr_iald K (D_at DX6_tightest 23 rfl) e36 ?_
    refine jr_isub K (D_at DX6_tightest 24 rfl) ?_
    refine jr_istore K (D_at DX6_tightest 25 rfl) (i := 5) (by decide) (L2 := [_, _, _, _, _, _]) rfl ?_
    refine jr_iload K (D_at DX6_tightest 26 rfl) rfl ?_
    refine jr_iload_n K (D_at DX6_tightest 27 rfl) rfl rfl ?_
    refine jr_icmp_ge K (D_at DX6_tightest 28 rfl) (tgt := 52) (by decide) (fun c43 => ?_) (fun c43 => ?_)
    · replace hf := (if_pos c43).symm.trans hf
      refine jr_iinc K (D_at DX6_tightest 33 rfl) (i := 4) rfl (v := x4 + (1 : Int32)) (jinc (by decide)) (by decide) (L2 := [_, _, _, _, _, _]) rfl ?_
      refine jr_goto K (D_at DX6_tightest 34 rfl) (tgt := 8) (by decide) ?_
      refine jr_keep [true, true, true, true, true, false] ?_
      exact hr8 a0 x1 x2 x3 (x4 + (1 : Int32)) hf
    · replace hf := (if_neg c43).symm.trans hf
      refine jr_iload K (D_at DX6_tightest 29 rfl) rfl ?_
      refine jr_istore_n K (D_at DX6_tightest 30 rfl) (i := 3) rfl (by decide) (L2 := [_, _, _, _, _, _]) rfl ?_
      refine jr_iload K (D_at DX6_tightest 31 rfl) rfl ?_
      refine jr_istore_n K (D_at DX6_tightest 32 rfl) (i := 2) rfl (by decide) (L2 := [_, _, _, _, _, _]) rfl ?_
      refine jr_iinc K (D_at DX6_tightest 33 rfl) (i := 4) rfl (v := x4 + (1 : Int32)) (jinc (by decide)) (by decide) (L2 := [_, _, _, _, _, _]) rfl ?_
      refine jr_goto K (D_at DX6_tightest 34 rfl) (tgt := 8) (by decide) ?_
      refine jr_keep [true, true, true, true, true, false] ?_
      exact hr8 a0 x1 x4 (v29 - v36) (x4 + (1 : Int32)) hf
theorem J_X6_tightest_8 {G : jG} {l : Launch} {d : Nat} {X : jX} {res : Int32} (K : jOK G l mX6_tightest (d) X) (n : Nat) (h : jH) (E : jEnd G mX6_tightest (jPR h res) X) (k : Nat) : ∀ (a0 : Nat) (x1 : Int32) (x2 : Int32) (x3 : Int32) (x4 : Int32), F_X6_tightest_8 n k a0 x1 x2 x3 x4 h = some res → jJ G X h 0 0 8 [some (.ref a0), some (.int x1), some (.int x2), some (.int x3), some (.int x4), none] [] := by
  induction k with
  | zero =>
    intro a0 x1 x2 x3 x4 hf
    exact jno (show (none : Option Int32) = some res from hf)
  | succ k ih =>
    intro a0 x1 x2 x3 x4 hf
    exact J_X6_tightest_8_b K n h (F_X6_tightest_8 n k) ih E a0 x1 x2 x3 x4 hf
set_option maxHeartbeats 400000 in
set_option maxRecDepth 100000 in
theorem J_X6_tightest {G : jG} {l : Launch} {d : Nat} {X : jX} {res : Int32} (K : jOK G l mX6_tightest (d) X) (n : Nat) (h : jH) (E : jEnd G mX6_tightest (jPR h res) X) (a0 : Nat) (x1 : Int32) (hf : F_X6_tightest n a0 x1 h = some res) : jJ G X h 0 0 0 [some (.ref a0), some (.int x1), none, none, none, none] [] := by
  unfold F_X6_tightest at hf
  refine jr_iconst K (D_at DX6_tightest 0 rfl) (v := (-1 : Int32)) (by decide) ?_
  refine jr_istore_n K (D_at DX6_tightest 1 rfl) (i := 2) rfl (by decide) (L2 := [_, _, _, _, _, _]) rfl ?_
  refine jr_bipush K (D_at DX6_tightest 2 rfl) (v := (32 : Int32)) (by decide) ?_
  refine jr_istore_n K (D_at DX6_tightest 3 rfl) (i := 3) rfl (by decide) (L2 := [_, _, _, _, _, _]) rfl ?_
  refine jr_iconst K (D_at DX6_tightest 4 rfl) (v := (0 : Int32)) (by decide) ?_
  refine jr_istore K (D_at DX6_tightest 5 rfl) (i := 4) (by decide) (L2 := [_, _, _, _, _, _]) rfl ?_
  refine jr_keep [true, true, true, true, true, false] ?_
  exact J_X6_tightest_8 K n h E n a0 x1 (-1 : Int32) (32 : Int32) (0 : Int32) hf
theorem C_X6_tightest {G : jG} {l : Launch} (d : Nat) {n : Nat} {a0 : Nat} {x1 : Int32} {h : jH} {res : Int32} (hf : F_X6_tightest n a0 x1 h = some res) : jC G l mX6_tightest (d) 0 0 [.ref a0, .int x1] h (jPR h res) :=
  jC.of (by decide +kernel) (jcats rfl) (Nat.le_of_ble_eq_true rfl) (fun X K E => J_X6_tightest K n h E a0 x1 hf)
set_option maxHeartbeats 400000 in
set_option maxRecDepth 100000 in
theorem J_X6_spareCloth_4_b {G : jG} {l : Launch} {d : Nat} {X : jX} {res : Int32} (K : jOK G l mX6_spareCloth (d + 1) X) (n : Nat) (h : jH) (rc4 : Nat → Int32 → Int32 → jH → Option Int32) (hr4 : ∀ (a0 : Nat) (x1 : Int32) (x2 : Int32), rc4 a0 x1 x2 h = some res → jJ G X h 0 0 4 [some (.ref a0), some (.int x1), some (.int x2)] []) (E : jEnd G mX6_spareCloth (jPR h res) X) (a0 : Nat) (x1 : Int32) (x2 : Int32) (hf : F_X6_spareCloth_4_b n rc4 a0 x1 x2 h = some res) : jJ G X h 0 0 4 [some (.ref a0), some (.int x1), some (.int x2)] [] := by
  unfold F_X6_spareCloth_4_b at hf
  refine jr_iload_n K (D_at DX6_spareCloth 4 rfl) rfl rfl ?_
  refine jr_iconst K (D_at DX6_spareCloth 5 rfl) (v := (1 : Int32)) (by decide) ?_
  refine jr_iadd K (D_at DX6_spareCloth 6 rfl) ?_
  refine jr_aload_n K (D_at DX6_spareCloth 7 rfl) rfl rfl ?_
  obtain ⟨v8, e8, hf⟩ := jbind hf
  refine jr_getI K (D_at DX6_spareCloth 8 rfl) fg_X6_19_6 e8 ?_
  refine jr_icmp_ge K (D_at DX6_spareCloth 9 rfl) (tgt := 36) (by decide) (fun c11 => ?_) (fun c11 => ?_)
  · replace hf := (if_pos c11).symm.trans hf
    refine jr_iload_n K (D_at DX6_spareCloth 24 rfl) rfl rfl ?_
    cases hf
    exact jr_iret K E (D_at DX6_spareCloth 25 rfl) rfl ⟨rfl, rfl⟩
  · replace hf := (if_neg c11).symm.trans hf
    refine jr_iload_n K (D_at DX6_spareCloth 10 rfl) rfl rfl ?_
    refine jr_aload_n K (D_at DX6_spareCloth 11 rfl) rfl rfl ?_
    obtain ⟨p16, e16, hf⟩ := jbind hf
    refine jr_getR K (D_at DX6_spareCloth 12 rfl) fg_X6_53_6 e16 ?_
    refine jr_iload_n K (D_at DX6_spareCloth 13 rfl) rfl rfl ?_
    obtain ⟨v20, e20, hf⟩ := jbind hf
    refine jr_iald K (D_at DX6_spareCloth 14 rfl) e20 ?_
    refine jr_aload_n K (D_at DX6_spareCloth 15 rfl) rfl rfl ?_
    refine jr_iload_n K (D_at DX6_spareCloth 16 rfl) rfl rfl ?_
    refine jr_iconst K (D_at DX6_spareCloth 17 rfl) (v := (0 : Int32)) (by decide) ?_
    obtain ⟨v24, e24, hf⟩ := jbind hf
    obtain ⟨rc_24, e24⟩ := jcv_o e24
    refine jr_callV K (C_X8_gap (d) e24) (D_at DX6_spareCloth 18 rfl) cv_X6_56_X8_gap (As := [.int x2, .int (0 : Int32)]) (ci := 6) rfl rc_24 rfl rfl (by exact Nat.le_of_ble_eq_true rfl) (kc2 := 0) (ks2 := 0) rfl rfl (fun k9 h9 w9 => by cases w9.1) (fun r9 h9 w9 => ?_)
    obtain ⟨w1, w2⟩ := w9
    subst h9
    cases w1
    show jJ G X _ 0 0 _ _ (.int v24 :: _)
    refine jr_isub K (D_at DX6_spareCloth 19 rfl) ?_
    refine jr_iadd K (D_at DX6_spareCloth 20 rfl) ?_
    refine jr_istore_n K (D_at DX6_spareCloth 21 rfl) (i := 1) rfl (by decide) (L2 := [_, _, _]) rfl ?_
    refine jr_iinc K (D_at DX6_spareCloth 22 rfl) (i := 2) rfl (v := x2 + (1 : Int32)) (jinc (by decide)) (by decide) (L2 := [_, _, _]) rfl ?_
    refine jr_goto K (D_at DX6_spareCloth 23 rfl) (tgt := 4) (by decide) ?_
    refine jr_keep [true, true, true] ?_
    exact hr4 a0 (x1 + (v20 - v24)) (x2 + (1 : Int32)) hf
theorem J_X6_spareCloth_4 {G : jG} {l : Launch} {d : Nat} {X : jX} {res : Int32} (K : jOK G l mX6_spareCloth (d + 1) X) (n : Nat) (h : jH) (E : jEnd G mX6_spareCloth (jPR h res) X) (k : Nat) : ∀ (a0 : Nat) (x1 : Int32) (x2 : Int32), F_X6_spareCloth_4 n k a0 x1 x2 h = some res → jJ G X h 0 0 4 [some (.ref a0), some (.int x1), some (.int x2)] [] := by
  induction k with
  | zero =>
    intro a0 x1 x2 hf
    exact jno (show (none : Option Int32) = some res from hf)
  | succ k ih =>
    intro a0 x1 x2 hf
    exact J_X6_spareCloth_4_b K n h (F_X6_spareCloth_4 n k) ih E a0 x1 x2 hf
set_option maxHeartbeats 400000 in
set_option maxRecDepth 100000 in
theorem J_X6_spareCloth {G : jG} {l : Launch} {d : Nat} {X : jX} {res : Int32} (K : jOK G l mX6_spareCloth (d + 1) X) (n : Nat) (h : jH) (E : jEnd G mX6_spareCloth (jPR h res) X) (a0 : Nat) (hf : F_X6_spareCloth n a0 h = some res) : jJ G X h 0 0 0 [some (.ref a0), none, none] [] := by
  unfold F_X6_spareCloth at hf
  refine jr_iconst K (D_at DX6_spareCloth 0 rfl) (v := (0 : Int32)) (by decide) ?_
  refine jr_istore_n K (D_at DX6_spareCloth 1 rfl) (i := 1) rfl (by decide) (L2 := [_, _, _]) rfl ?_
  refine jr_iconst K (D_at DX6_spareCloth 2 rfl) (v := (0 : Int32)) (by decide) ?_
  refine jr_istore_n K (D_at DX6_spareCloth 3 rfl) (i := 2) rfl (by decide) (L2 := [_, _, _]) rfl ?_
  refine jr_keep [true, true, true] ?_
  exact J_X6_spareCloth_4 K n h E n a0 (0 : Int32) (0 : Int32) hf
theorem C_X6_spareCloth {G : jG} {l : Launch} (d : Nat) {n : Nat} {a0 : Nat} {h : jH} {res : Int32} (hf : F_X6_spareCloth n a0 h = some res) : jC G l mX6_spareCloth (d + 1) 0 0 [.ref a0] h (jPR h res) :=
  jC.of (by decide +kernel) (jcats rfl) (Nat.le_of_ble_eq_true rfl) (fun X K E => J_X6_spareCloth K n h E a0 hf)
set_option maxHeartbeats 400000 in
set_option maxRecDepth 100000 in
theorem J_X11_withBit {G : jG} {l : Launch} {d : Nat} {X : jX} {res : Int32} (K : jOK G l mX11_withBit (d) X) (n : Nat) (h : jH) (E : jEnd G mX11_withBit (jPR h res) X) (x0 : Int32) (x1 : Int32) (x2 : Int32) (hf : F_X11_withBit n x0 x1 x2 h = some res) : jJ G X h 0 0 0 [some (.int x0), some (.int x1), some (.int x2)] [] := by
  unfold F_X11_withBit at hf
  refine jr_iload_n K (D_at DX11_withBit 0 rfl) rfl rfl ?_
  refine jr_if_eq K (D_at DX11_withBit 1 rfl) (tgt := 12) (by decide) (fun c1 => ?_) (fun c1 => ?_)
  · replace hf := (if_pos c1).symm.trans hf
    refine jr_iload_n K (D_at DX11_withBit 8 rfl) rfl rfl ?_
    refine jr_iconst K (D_at DX11_withBit 9 rfl) (v := (1 : Int32)) (by decide) ?_
    refine jr_iload_n K (D_at DX11_withBit 10 rfl) rfl rfl ?_
    refine jr_ishl K (D_at DX11_withBit 11 rfl) ?_
    refine jr_iconst K (D_at DX11_withBit 12 rfl) (v := (-1 : Int32)) (by decide) ?_
    refine jr_ixor K (D_at DX11_withBit 13 rfl) ?_
    refine jr_iand K (D_at DX11_withBit 14 rfl) ?_
    cases hf
    exact jr_iret K E (D_at DX11_withBit 15 rfl) rfl ⟨rfl, rfl⟩
  · replace hf := (if_neg c1).symm.trans hf
    refine jr_iload_n K (D_at DX11_withBit 2 rfl) rfl rfl ?_
    refine jr_iconst K (D_at DX11_withBit 3 rfl) (v := (1 : Int32)) (by decide) ?_
    refine jr_iload_n K (D_at DX11_withBit 4 rfl) rfl rfl ?_
    refine jr_ishl K (D_at DX11_withBit 5 rfl) ?_
    refine jr_ior K (D_at DX11_withBit 6 rfl) ?_
    refine jr_goto K (D_at DX11_withBit 7 rfl) (tgt := 19) (by decide) ?_
    cases hf
    exact jr_iret K E (D_at DX11_withBit 15 rfl) rfl ⟨rfl, rfl⟩
theorem C_X11_withBit {G : jG} {l : Launch} (d : Nat) {n : Nat} {x0 : Int32} {x1 : Int32} {x2 : Int32} {h : jH} {res : Int32} (hf : F_X11_withBit n x0 x1 x2 h = some res) : jC G l mX11_withBit (d) 0 0 [.int x0, .int x1, .int x2] h (jPR h res) :=
  jC.of (by decide +kernel) (jcats rfl) (Nat.le_of_ble_eq_true rfl) (fun X K E => J_X11_withBit K n h E x0 x1 x2 hf)
set_option maxHeartbeats 400000 in
set_option maxRecDepth 100000 in
theorem J_X6_tautRings_36 {G : jG} {l : Launch} {d : Nat} {X : jX} {res : Int32} (K : jOK G l mX6_tautRings (d + 1) X) (n : Nat) (h : jH) (rc4 : Nat → Int32 → Int32 → jH → Option Int32) (hr4 : ∀ (a0 : Nat) (x1 : Int32) (x2 : Int32), rc4 a0 x1 x2 h = some res → jJ G X h 0 0 4 [some (.ref a0), some (.int x1), some (.int x2)] []) (E : jEnd G mX6_tautRings (jPR h res) X) (a0 : Nat) (x2 : Int32) (s0 : Int32) (s1 : Int32) (s2 : Int32) (hf : F_X6_tautRings_36 n rc4 a0 x2 s0 s1 s2 h = some res) : jJ G X h 0 0 36 [some (.ref a0), none, some (.int x2)] [.int s2, .int s1, .int s0] := by
  unfold F_X6_tautRings_36 at hf
  obtain ⟨v36, e36, hf⟩ := jbind hf
  refine jr_callSN K (C_X11_withBit (d) e36) (D_at DX6_tautRings 24 rfl) csn_X6_59_X11_withBit (As := [.int s0, .int s1, .int s2]) rfl rfl (by exact Nat.le_of_ble_eq_true rfl) (kc2 := 0) (ks2 := 0) rfl rfl (fun k9 h9 w9 => by cases w9.1) (fun r9 h9 w9 => ?_)
  obtain ⟨w1, w2⟩ := w9
  subst h9
  cases w1
  show jJ G X _ 0 0 _ _ (.int v36 :: _)
  refine jr_istore_n K (D_at DX6_tautRings 25 rfl) (i := 1) rfl (by decide) (L2 := [_, _, _]) rfl ?_
  refine jr_iinc K (D_at DX6_tautRings 26 rfl) (i := 2) rfl (v := x2 + (1 : Int32)) (jinc (by decide)) (by decide) (L2 := [_, _, _]) rfl ?_
  refine jr_goto K (D_at DX6_tautRings 27 rfl) (tgt := 4) (by decide) ?_
  refine jr_keep [true, true, true] ?_
  exact hr4 a0 v36 (x2 + (1 : Int32)) hf
set_option maxHeartbeats 400000 in
set_option maxRecDepth 100000 in
theorem J_X6_tautRings_4_b {G : jG} {l : Launch} {d : Nat} {X : jX} {res : Int32} (K : jOK G l mX6_tautRings (d + 1) X) (n : Nat) (h : jH) (rc4 : Nat → Int32 → Int32 → jH → Option Int32) (hr4 : ∀ (a0 : Nat) (x1 : Int32) (x2 : Int32), rc4 a0 x1 x2 h = some res → jJ G X h 0 0 4 [some (.ref a0), some (.int x1), some (.int x2)] []) (E : jEnd G mX6_tautRings (jPR h res) X) (a0 : Nat) (x1 : Int32) (x2 : Int32) (hf : F_X6_tautRings_4_b n rc4 a0 x1 x2 h = some res) : jJ G X h 0 0 4 [some (.ref a0), some (.int x1), some (.int x2)] [] := by
  unfold F_X6_tautRings_4_b at hf
  refine jr_iload_n K (D_at DX6_tautRings 4 rfl) rfl rfl ?_
  refine jr_iconst K (D_at DX6_tautRings 5 rfl) (v := (1 : Int32)) (by decide) ?_
  refine jr_iadd K (D_at DX6_tautRings 6 rfl) ?_
  refine jr_aload_n K (D_at DX6_tautRings 7 rfl) rfl rfl ?_
  obtain ⟨v8, e8, hf⟩ := jbind hf
  refine jr_getI K (D_at DX6_tautRings 8 rfl) fg_X6_19_6 e8 ?_
  refine jr_icmp_ge K (D_at DX6_tautRings 9 rfl) (tgt := 46) (by decide) (fun c11 => ?_) (fun c11 => ?_)
  · replace hf := (if_pos c11).symm.trans hf
    refine jr_iload_n K (D_at DX6_tautRings 28 rfl) rfl rfl ?_
    cases hf
    exact jr_iret K E (D_at DX6_tautRings 29 rfl) rfl ⟨rfl, rfl⟩
  · replace hf := (if_neg c11).symm.trans hf
    refine jr_iload_n K (D_at DX6_tautRings 10 rfl) rfl rfl ?_
    refine jr_iload_n K (D_at DX6_tautRings 11 rfl) rfl rfl ?_
    refine jr_aload_n K (D_at DX6_tautRings 12 rfl) rfl rfl ?_
    refine jr_iload_n K (D_at DX6_tautRings 13 rfl) rfl rfl ?_
    refine jr_iconst K (D_at DX6_tautRings 14 rfl) (v := (0 : Int32)) (by decide) ?_
    obtain ⟨v19, e19, hf⟩ := jbind hf
    obtain ⟨rc_19, e19⟩ := jcv_o e19
    refine jr_callV K (C_X8_gap (d) e19) (D_at DX6_tautRings 15 rfl) cv_X6_56_X8_gap (As := [.int x2, .int (0 : Int32)]) (ci := 6) rfl rc_19 rfl rfl (by exact Nat.le_of_ble_eq_true rfl) (kc2 := 0) (ks2 := 0) rfl rfl (fun k9 h9 w9 => by cases w9.1) (fun r9 h9 w9 => ?_)
    obtain ⟨w1, w2⟩ := w9
    subst h9
    cases w1
    show jJ G X _ 0 0 _ _ (.int v19 :: _)
    refine jr_aload_n K (D_at DX6_tautRings 16 rfl) rfl rfl ?_
    obtain ⟨p23, e23, hf⟩ := jbind hf
    refine jr_getR K (D_at DX6_tautRings 17 rfl) fg_X6_53_6 e23 ?_
    refine jr_iload_n K (D_at DX6_tautRings 18 rfl) rfl rfl ?_
    obtain ⟨v27, e27, hf⟩ := jbind hf
    refine jr_iald K (D_at DX6_tautRings 19 rfl) e27 ?_
    refine jr_icmp_ne K (D_at DX6_tautRings 20 rfl) (tgt := 35) (by decide) (fun c28 => ?_) (fun c28 => ?_)
    · replace hf := (if_neg c28).symm.trans hf
      refine jr_iconst K (D_at DX6_tautRings 23 rfl) (v := (0 : Int32)) (by decide) ?_
      refine jr_keep [true, false, true] ?_
      exact J_X6_tautRings_36 K n h rc4 hr4 E a0 x2 x1 x2 (0 : Int32) hf
    · replace hf := (if_pos c28).symm.trans hf
      refine jr_iconst K (D_at DX6_tautRings 21 rfl) (v := (1 : Int32)) (by decide) ?_
      refine jr_goto K (D_at DX6_tautRings 22 rfl) (tgt := 36) (by decide) ?_
      refine jr_keep [true, false, true] ?_
      exact J_X6_tautRings_36 K n h rc4 hr4 E a0 x2 x1 x2 (1 : Int32) hf
theorem J_X6_tautRings_4 {G : jG} {l : Launch} {d : Nat} {X : jX} {res : Int32} (K : jOK G l mX6_tautRings (d + 1) X) (n : Nat) (h : jH) (E : jEnd G mX6_tautRings (jPR h res) X) (k : Nat) : ∀ (a0 : Nat) (x1 : Int32) (x2 : Int32), F_X6_tautRings_4 n k a0 x1 x2 h = some res → jJ G X h 0 0 4 [some (.ref a0), some (.int x1), some (.int x2)] [] := by
  induction k with
  | zero =>
    intro a0 x1 x2 hf
    exact jno (show (none : Option Int32) = some res from hf)
  | succ k ih =>
    intro a0 x1 x2 hf
    exact J_X6_tautRings_4_b K n h (F_X6_tautRings_4 n k) ih E a0 x1 x2 hf
set_option maxHeartbeats 400000 in
set_option maxRecDepth 100000 in
theorem J_X6_tautRings {G : jG} {l : Launch} {d : Nat} {X : jX} {res : Int32} (K : jOK G l mX6_tautRings (d + 1) X) (n : Nat) (h : jH) (E : jEnd G mX6_tautRings (jPR h res) X) (a0 : Nat) (hf : F_X6_tautRings n a0 h = some res) : jJ G X h 0 0 0 [some (.ref a0), none, none] [] := by
  unfold F_X6_tautRings at hf
  refine jr_iconst K (D_at DX6_tautRings 0 rfl) (v := (0 : Int32)) (by decide) ?_
  refine jr_istore_n K (D_at DX6_tautRings 1 rfl) (i := 1) rfl (by decide) (L2 := [_, _, _]) rfl ?_
  refine jr_iconst K (D_at DX6_tautRings 2 rfl) (v := (0 : Int32)) (by decide) ?_
  refine jr_istore_n K (D_at DX6_tautRings 3 rfl) (i := 2) rfl (by decide) (L2 := [_, _, _]) rfl ?_
  refine jr_keep [true, true, true] ?_
  exact J_X6_tautRings_4 K n h E n a0 (0 : Int32) (0 : Int32) hf
theorem C_X6_tautRings {G : jG} {l : Launch} (d : Nat) {n : Nat} {a0 : Nat} {h : jH} {res : Int32} (hf : F_X6_tautRings n a0 h = some res) : jC G l mX6_tautRings (d + 1) 0 0 [.ref a0] h (jPR h res) :=
  jC.of (by decide +kernel) (jcats rfl) (Nat.le_of_ble_eq_true rfl) (fun X K E => J_X6_tautRings K n h E a0 hf)
set_option maxHeartbeats 400000 in
set_option maxRecDepth 100000 in
theorem J_X6_litRings_4_b {G : jG} {l : Launch} {d : Nat} {X : jX} {res : Int32} (K : jOK G l mX6_litRings (d + 1) X) (n : Nat) (h : jH) (rc4 : Nat → Int32 → Int32 → Int32 → jH → Option Int32) (hr4 : ∀ (a0 : Nat) (x1 : Int32) (x2 : Int32) (x3 : Int32), rc4 a0 x1 x2 x3 h = some res → jJ G X h 0 0 4 [some (.ref a0), some (.int x1), some (.int x2), some (.int x3)] []) (E : jEnd G mX6_litRings (jPR h res) X) (a0 : Nat) (x1 : Int32) (x2 : Int32) (x3 : Int32) (hf : F_X6_litRings_4_b n rc4 a0 x1 x2 x3 h = some res) : jJ G X h 0 0 4 [some (.ref a0), some (.int x1), some (.int x2), some (.int x3)] [] := by
  unfold F_X6_litRings_4_b at hf
  refine jr_iload_n K (D_at DX6_litRings 4 rfl) rfl rfl ?_
  refine jr_aload_n K (D_at DX6_litRings 5 rfl) rfl rfl ?_
  obtain ⟨v6, e6, hf⟩ := jbind hf
  refine jr_getI K (D_at DX6_litRings 6 rfl) fg_X6_19_6 e6 ?_
  refine jr_icmp_ge K (D_at DX6_litRings 7 rfl) (tgt := 30) (by decide) (fun c9 => ?_) (fun c9 => ?_)
  · replace hf := (if_pos c9).symm.trans hf
    refine jr_iload_n K (D_at DX6_litRings 18 rfl) rfl rfl ?_
    cases hf
    exact jr_iret K E (D_at DX6_litRings 19 rfl) rfl ⟨rfl, rfl⟩
  · replace hf := (if_neg c9).symm.trans hf
    refine jr_iload_n K (D_at DX6_litRings 8 rfl) rfl rfl ?_
    refine jr_iload_n K (D_at DX6_litRings 9 rfl) rfl rfl ?_
    refine jr_aload_n K (D_at DX6_litRings 10 rfl) rfl rfl ?_
    refine jr_iload_n K (D_at DX6_litRings 11 rfl) rfl rfl ?_
    refine jr_iload_n K (D_at DX6_litRings 12 rfl) rfl rfl ?_
    obtain ⟨v17, e17, hf⟩ := jbind hf
    obtain ⟨rc_17, e17⟩ := jcv_o e17
    refine jr_callV K (C_X8_isLit (d) e17) (D_at DX6_litRings 13 rfl) cv_X6_63_X8_isLit (As := [.int x3, .int x1]) (ci := 6) rfl rc_17 rfl rfl (by exact Nat.le_of_ble_eq_true rfl) (kc2 := 0) (ks2 := 0) rfl rfl (fun k9 h9 w9 => by cases w9.1) (fun r9 h9 w9 => ?_)
    obtain ⟨w1, w2⟩ := w9
    subst h9
    cases w1
    show jJ G X _ 0 0 _ _ (.int v17 :: _)
    obtain ⟨v20, e20, hf⟩ := jbind hf
    refine jr_callSN K (C_X11_withBit (d) e20) (D_at DX6_litRings 14 rfl) csn_X6_59_X11_withBit (As := [.int x2, .int x3, .int v17]) rfl rfl (by exact Nat.le_of_ble_eq_true rfl) (kc2 := 0) (ks2 := 0) rfl rfl (fun k9 h9 w9 => by cases w9.1) (fun r9 h9 w9 => ?_)
    obtain ⟨w1, w2⟩ := w9
    subst h9
    cases w1
    show jJ G X _ 0 0 _ _ (.int v20 :: _)
    refine jr_istore_n K (D_at DX6_litRings 15 rfl) (i := 2) rfl (by decide) (L2 := [_, _, _, _]) rfl ?_
    refine jr_iinc K (D_at DX6_litRings 16 rfl) (i := 3) rfl (v := x3 + (1 : Int32)) (jinc (by decide)) (by decide) (L2 := [_, _, _, _]) rfl ?_
    refine jr_goto K (D_at DX6_litRings 17 rfl) (tgt := 4) (by decide) ?_
    refine jr_keep [true, true, true, true] ?_
    exact hr4 a0 x1 v20 (x3 + (1 : Int32)) hf
theorem J_X6_litRings_4 {G : jG} {l : Launch} {d : Nat} {X : jX} {res : Int32} (K : jOK G l mX6_litRings (d + 1) X) (n : Nat) (h : jH) (E : jEnd G mX6_litRings (jPR h res) X) (k : Nat) : ∀ (a0 : Nat) (x1 : Int32) (x2 : Int32) (x3 : Int32), F_X6_litRings_4 n k a0 x1 x2 x3 h = some res → jJ G X h 0 0 4 [some (.ref a0), some (.int x1), some (.int x2), some (.int x3)] [] := by
  induction k with
  | zero =>
    intro a0 x1 x2 x3 hf
    exact jno (show (none : Option Int32) = some res from hf)
  | succ k ih =>
    intro a0 x1 x2 x3 hf
    exact J_X6_litRings_4_b K n h (F_X6_litRings_4 n k) ih E a0 x1 x2 x3 hf
set_option maxHeartbeats 400000 in
set_option maxRecDepth 100000 in
theorem J_X6_litRings {G : jG} {l : Launch} {d : Nat} {X : jX} {res : Int32} (K : jOK G l mX6_litRings (d + 1) X) (n : Nat) (h : jH) (E : jEnd G mX6_litRings (jPR h res) X) (a0 : Nat) (x1 : Int32) (hf : F_X6_litRings n a0 x1 h = some res) : jJ G X h 0 0 0 [some (.ref a0), some (.int x1), none, none] [] := by
  unfold F_X6_litRings at hf
  refine jr_iconst K (D_at DX6_litRings 0 rfl) (v := (0 : Int32)) (by decide) ?_
  refine jr_istore_n K (D_at DX6_litRings 1 rfl) (i := 2) rfl (by decide) (L2 := [_, _, _, _]) rfl ?_
  refine jr_iconst K (D_at DX6_litRings 2 rfl) (v := (0 : Int32)) (by decide) ?_
  refine jr_istore_n K (D_at DX6_litRings 3 rfl) (i := 3) rfl (by decide) (L2 := [_, _, _, _]) rfl ?_
  refine jr_keep [true, true, true, true] ?_
  exact J_X6_litRings_4 K n h E n a0 x1 (0 : Int32) (0 : Int32) hf
theorem C_X6_litRings {G : jG} {l : Launch} (d : Nat) {n : Nat} {a0 : Nat} {x1 : Int32} {h : jH} {res : Int32} (hf : F_X6_litRings n a0 x1 h = some res) : jC G l mX6_litRings (d + 1) 0 0 [.ref a0, .int x1] h (jPR h res) :=
  jC.of (by decide +kernel) (jcats rfl) (Nat.le_of_ble_eq_true rfl) (fun X K E => J_X6_litRings K n h E a0 x1 hf)
set_option maxHeartbeats 400000 in
set_option maxRecDepth 100000 in
theorem J_X6_litHours_4_b {G : jG} {l : Launch} {d : Nat} {X : jX} {res : Int32} (K : jOK G l mX6_litHours (d + 1) X) (n : Nat) (h : jH) (rc4 : Nat → Int32 → Int32 → Int32 → jH → Option Int32) (hr4 : ∀ (a0 : Nat) (x1 : Int32) (x2 : Int32) (x3 : Int32), rc4 a0 x1 x2 x3 h = some res → jJ G X h 0 0 4 [some (.ref a0), some (.int x1), some (.int x2), some (.int x3)] []) (E : jEnd G mX6_litHours (jPR h res) X) (a0 : Nat) (x1 : Int32) (x2 : Int32) (x3 : Int32) (hf : F_X6_litHours_4_b n rc4 a0 x1 x2 x3 h = some res) : jJ G X h 0 0 4 [some (.ref a0), some (.int x1), some (.int x2), some (.int x3)] [] := by
  unfold F_X6_litHours_4_b at hf
  refine jr_iload_n K (D_at DX6_litHours 4 rfl) rfl rfl ?_
  refine jr_bipush K (D_at DX6_litHours 5 rfl) (v := (8 : Int32)) (by decide) ?_
  refine jr_icmp_ge K (D_at DX6_litHours 6 rfl) (tgt := 28) (by decide) (fun c7 => ?_) (fun c7 => ?_)
  · replace hf := (if_pos c7).symm.trans hf
    refine jr_iload_n K (D_at DX6_litHours 15 rfl) rfl rfl ?_
    cases hf
    exact jr_iret K E (D_at DX6_litHours 16 rfl) rfl ⟨rfl, rfl⟩
  · replace hf := (if_neg c7).symm.trans hf
    refine jr_aload_n K (D_at DX6_litHours 7 rfl) rfl rfl ?_
    refine jr_iload_n K (D_at DX6_litHours 8 rfl) rfl rfl ?_
    refine jr_iload_n K (D_at DX6_litHours 9 rfl) rfl rfl ?_
    obtain ⟨v13, e13, hf⟩ := jbind hf
    obtain ⟨rc_13, e13⟩ := jcv_o e13
    refine jr_callV K (C_X8_isLit (d) e13) (D_at DX6_litHours 10 rfl) cv_X6_63_X8_isLit (As := [.int x1, .int x3]) (ci := 6) rfl rc_13 rfl rfl (by exact Nat.le_of_ble_eq_true rfl) (kc2 := 0) (ks2 := 0) rfl rfl (fun k9 h9 w9 => by cases w9.1) (fun r9 h9 w9 => ?_)
    obtain ⟨w1, w2⟩ := w9
    subst h9
    cases w1
    show jJ G X _ 0 0 _ _ (.int v13 :: _)
    refine jr_if_eq K (D_at DX6_litHours 11 rfl) (tgt := 22) (by decide) (fun c16 => ?_) (fun c16 => ?_)
    · replace hf := (if_pos c16).symm.trans hf
      refine jr_iinc K (D_at DX6_litHours 13 rfl) (i := 3) rfl (v := x3 + (1 : Int32)) (jinc (by decide)) (by decide) (L2 := [_, _, _, _]) rfl ?_
      refine jr_goto K (D_at DX6_litHours 14 rfl) (tgt := 4) (by decide) ?_
      refine jr_keep [true, true, true, true] ?_
      exact hr4 a0 x1 x2 (x3 + (1 : Int32)) hf
    · replace hf := (if_neg c16).symm.trans hf
      refine jr_iinc K (D_at DX6_litHours 12 rfl) (i := 2) rfl (v := x2 + (1 : Int32)) (jinc (by decide)) (by decide) (L2 := [_, _, _, _]) rfl ?_
      refine jr_iinc K (D_at DX6_litHours 13 rfl) (i := 3) rfl (v := x3 + (1 : Int32)) (jinc (by decide)) (by decide) (L2 := [_, _, _, _]) rfl ?_
      refine jr_goto K (D_at DX6_litHours 14 rfl) (tgt := 4) (by decide) ?_
      refine jr_keep [true, true, true, true] ?_
      exact hr4 a0 x1 (x2 + (1 : Int32)) (x3 + (1 : Int32)) hf
theorem J_X6_litHours_4 {G : jG} {l : Launch} {d : Nat} {X : jX} {res : Int32} (K : jOK G l mX6_litHours (d + 1) X) (n : Nat) (h : jH) (E : jEnd G mX6_litHours (jPR h res) X) (k : Nat) : ∀ (a0 : Nat) (x1 : Int32) (x2 : Int32) (x3 : Int32), F_X6_litHours_4 n k a0 x1 x2 x3 h = some res → jJ G X h 0 0 4 [some (.ref a0), some (.int x1), some (.int x2), some (.int x3)] [] := by
  induction k with
  | zero =>
    intro a0 x1 x2 x3 hf
    exact jno (show (none : Option Int32) = some res from hf)
  | succ k ih =>
    intro a0 x1 x2 x3 hf
    exact J_X6_litHours_4_b K n h (F_X6_litHours_4 n k) ih E a0 x1 x2 x3 hf
set_option maxHeartbeats 400000 in
set_option maxRecDepth 100000 in
theorem J_X6_litHours {G : jG} {l : Launch} {d : Nat} {X : jX} {res : Int32} (K : jOK G l mX6_litHours (d + 1) X) (n : Nat) (h : jH) (E : jEnd G mX6_litHours (jPR h res) X) (a0 : Nat) (x1 : Int32) (hf : F_X6_litHours n a0 x1 h = some res) : jJ G X h 0 0 0 [some (.ref a0), some (.int x1), none, none] [] := by
  unfold F_X6_litHours at hf
  refine jr_iconst K (D_at DX6_litHours 0 rfl) (v := (0 : Int32)) (by decide) ?_
  refine jr_istore_n K (D_at DX6_litHours 1 rfl) (i := 2) rfl (by decide) (L2 := [_, _, _, _]) rfl ?_
  refine jr_iconst K (D_at DX6_litHours 2 rfl) (v := (0 : Int32)) (by decide) ?_
  refine jr_istore_n K (D_at DX6_litHours 3 rfl) (i := 3) rfl (by decide) (L2 := [_, _, _, _]) rfl ?_
  refine jr_keep [true, true, true, true] ?_
  exact J_X6_litHours_4 K n h E n a0 x1 (0 : Int32) (0 : Int32) hf
theorem C_X6_litHours {G : jG} {l : Launch} (d : Nat) {n : Nat} {a0 : Nat} {x1 : Int32} {h : jH} {res : Int32} (hf : F_X6_litHours n a0 x1 h = some res) : jC G l mX6_litHours (d + 1) 0 0 [.ref a0, .int x1] h (jPR h res) :=
  jC.of (by decide +kernel) (jcats rfl) (Nat.le_of_ble_eq_true rfl) (fun X K E => J_X6_litHours K n h E a0 x1 hf)
set_option maxHeartbeats 400000 in
set_option maxRecDepth 100000 in
theorem J_X6_sunniest_6_b {G : jG} {l : Launch} {d : Nat} {X : jX} {res : Int32} (K : jOK G l mX6_sunniest (d + 2) X) (n : Nat) (h : jH) (rc6 : Nat → Int32 → Int32 → Int32 → jH → Option Int32) (hr6 : ∀ (a0 : Nat) (x1 : Int32) (x2 : Int32) (x3 : Int32), rc6 a0 x1 x2 x3 h = some res → jJ G X h 0 0 6 [some (.ref a0), some (.int x1), some (.int x2), some (.int x3), none] []) (E : jEnd G mX6_sunniest (jPR h res) X) (a0 : Nat) (x1 : Int32) (x2 : Int32) (x3 : Int32) (hf : F_X6_sunniest_6_b n rc6 a0 x1 x2 x3 h = some res) : jJ G X h 0 0 6 [some (.ref a0), some (.int x1), some (.int x2), some (.int x3), none] [] := by
  unfold F_X6_sunniest_6_b at hf
  refine jr_iload_n K (D_at DX6_sunniest 6 rfl) rfl rfl ?_
  refine jr_aload_n K (D_at DX6_sunniest 7 rfl) rfl rfl ?_
  obtain ⟨v8, e8, hf⟩ := jbind hf
  refine jr_getI K (D_at DX6_sunniest 8 rfl) fg_X6_19_6 e8 ?_
  refine jr_icmp_ge K (D_at DX6_sunniest 9 rfl) (tgt := 38) (by decide) (fun c11 => ?_) (fun c11 => ?_)
  · replace hf := (if_pos c11).symm.trans hf
    refine jr_iload_n K (D_at DX6_sunniest 23 rfl) rfl rfl ?_
    cases hf
    exact jr_iret K E (D_at DX6_sunniest 24 rfl) rfl ⟨rfl, rfl⟩
  · replace hf := (if_neg c11).symm.trans hf
    refine jr_aload_n K (D_at DX6_sunniest 10 rfl) rfl rfl ?_
    refine jr_iload_n K (D_at DX6_sunniest 11 rfl) rfl rfl ?_
    obtain ⟨v16, e16, hf⟩ := jbind hf
    refine jr_callS K (C_X6_litHours (d) e16) (D_at DX6_sunniest 12 rfl) cs_X6_67_X6_litHours (As := [.ref a0, .int x3]) rfl rfl (by exact Nat.le_of_ble_eq_true rfl) (kc2 := 0) (ks2 := 0) rfl rfl (fun k9 h9 w9 => by cases w9.1) (fun r9 h9 w9 => ?_)
    obtain ⟨w1, w2⟩ := w9
    subst h9
    cases w1
    show jJ G X _ 0 0 _ _ (.int v16 :: _)
    refine jr_istore K (D_at DX6_sunniest 13 rfl) (i := 4) (by decide) (L2 := [_, _, _, _, _]) rfl ?_
    refine jr_iload K (D_at DX6_sunniest 14 rfl) rfl ?_
    refine jr_iload_n K (D_at DX6_sunniest 15 rfl) rfl rfl ?_
    refine jr_icmp_le K (D_at DX6_sunniest 16 rfl) (tgt := 32) (by decide) (fun c24 => ?_) (fun c24 => ?_)
    · replace hf := (if_pos c24).symm.trans hf
      refine jr_iinc K (D_at DX6_sunniest 21 rfl) (i := 3) rfl (v := x3 + (1 : Int32)) (jinc (by decide)) (by decide) (L2 := [_, _, _, _, _]) rfl ?_
      refine jr_goto K (D_at DX6_sunniest 22 rfl) (tgt := 6) (by decide) ?_
      refine jr_keep [true, true, true, true, false] ?_
      exact hr6 a0 x1 x2 (x3 + (1 : Int32)) hf
    · replace hf := (if_neg c24).symm.trans hf
      refine jr_iload K (D_at DX6_sunniest 17 rfl) rfl ?_
      refine jr_istore_n K (D_at DX6_sunniest 18 rfl) (i := 2) rfl (by decide) (L2 := [_, _, _, _, _]) rfl ?_
      refine jr_iload_n K (D_at DX6_sunniest 19 rfl) rfl rfl ?_
      refine jr_istore_n K (D_at DX6_sunniest 20 rfl) (i := 1) rfl (by decide) (L2 := [_, _, _, _, _]) rfl ?_
      refine jr_iinc K (D_at DX6_sunniest 21 rfl) (i := 3) rfl (v := x3 + (1 : Int32)) (jinc (by decide)) (by decide) (L2 := [_, _, _, _, _]) rfl ?_
      refine jr_goto K (D_at DX6_sunniest 22 rfl) (tgt := 6) (by decide) ?_
      refine jr_keep [true, true, true, true, false] ?_
      exact hr6 a0 x3 v16 (x3 + (1 : Int32)) hf
theorem J_X6_sunniest_6 {G : jG} {l : Launch} {d : Nat} {X : jX} {res : Int32} (K : jOK G l mX6_sunniest (d + 2) X) (n : Nat) (h : jH) (E : jEnd G mX6_sunniest (jPR h res) X) (k : Nat) : ∀ (a0 : Nat) (x1 : Int32) (x2 : Int32) (x3 : Int32), F_X6_sunniest_6 n k a0 x1 x2 x3 h = some res → jJ G X h 0 0 6 [some (.ref a0), some (.int x1), some (.int x2), some (.int x3), none] [] := by
  induction k with
  | zero =>
    intro a0 x1 x2 x3 hf
    exact jno (show (none : Option Int32) = some res from hf)
  | succ k ih =>
    intro a0 x1 x2 x3 hf
    exact J_X6_sunniest_6_b K n h (F_X6_sunniest_6 n k) ih E a0 x1 x2 x3 hf
set_option maxHeartbeats 400000 in
set_option maxRecDepth 100000 in
theorem J_X6_sunniest {G : jG} {l : Launch} {d : Nat} {X : jX} {res : Int32} (K : jOK G l mX6_sunniest (d + 2) X) (n : Nat) (h : jH) (E : jEnd G mX6_sunniest (jPR h res) X) (a0 : Nat) (hf : F_X6_sunniest n a0 h = some res) : jJ G X h 0 0 0 [some (.ref a0), none, none, none, none] [] := by
  unfold F_X6_sunniest at hf
  refine jr_iconst K (D_at DX6_sunniest 0 rfl) (v := (-1 : Int32)) (by decide) ?_
  refine jr_istore_n K (D_at DX6_sunniest 1 rfl) (i := 1) rfl (by decide) (L2 := [_, _, _, _, _]) rfl ?_
  refine jr_iconst K (D_at DX6_sunniest 2 rfl) (v := (-1 : Int32)) (by decide) ?_
  refine jr_istore_n K (D_at DX6_sunniest 3 rfl) (i := 2) rfl (by decide) (L2 := [_, _, _, _, _]) rfl ?_
  refine jr_iconst K (D_at DX6_sunniest 4 rfl) (v := (0 : Int32)) (by decide) ?_
  refine jr_istore_n K (D_at DX6_sunniest 5 rfl) (i := 3) rfl (by decide) (L2 := [_, _, _, _, _]) rfl ?_
  refine jr_keep [true, true, true, true, false] ?_
  exact J_X6_sunniest_6 K n h E n a0 (-1 : Int32) (-1 : Int32) (0 : Int32) hf
theorem C_X6_sunniest {G : jG} {l : Launch} (d : Nat) {n : Nat} {a0 : Nat} {h : jH} {res : Int32} (hf : F_X6_sunniest n a0 h = some res) : jC G l mX6_sunniest (d + 2) 0 0 [.ref a0] h (jPR h res) :=
  jC.of (by decide +kernel) (jcats rfl) (Nat.le_of_ble_eq_true rfl) (fun X K E => J_X6_sunniest K n h E a0 hf)
set_option maxHeartbeats 400000 in
set_option maxRecDepth 100000 in
theorem J_X6_evenLength_67 {G : jG} {l : Launch} {d : Nat} {X : jX} {res : Int32} (K : jOK G l mX6_evenLength (d) X) (n : Nat) (h : jH) (E : jEnd G mX6_evenLength (jPR h res) X) (x1 : Int32) (x2 : Int32) (x4 : Int32) (x5 : Int32) (s0 : Int32) (s1 : Int32) (hf : F_X6_evenLength_67 n x1 x2 x4 x5 s0 s1 h = some res) : jJ G X h 0 0 67 [none, some (.int x1), some (.int x2), none, some (.int x4), some (.int x5)] [.int s1, .int s0] := by
  unfold F_X6_evenLength_67 at hf
  refine jr_iadd K (D_at DX6_evenLength 38 rfl) ?_
  refine jr_iload_n K (D_at DX6_evenLength 39 rfl) rfl rfl ?_
  refine jr_icmp_le K (D_at DX6_evenLength 40 rfl) (tgt := 74) (by decide) (fun c69 => ?_) (fun c69 => ?_)
  · replace hf := (if_pos c69).symm.trans hf
    refine jr_iload_n K (D_at DX6_evenLength 43 rfl) rfl rfl ?_
    refine jr_iload K (D_at DX6_evenLength 44 rfl) rfl ?_
    refine jr_icmp_ge K (D_at DX6_evenLength 45 rfl) (tgt := 87) (by decide) (fun c77 => ?_) (fun c77 => ?_)
    · replace hf := (if_pos c77).symm.trans hf
      refine jr_iload K (D_at DX6_evenLength 50 rfl) rfl ?_
      cases hf
      exact jr_iret K E (D_at DX6_evenLength 51 rfl) rfl ⟨rfl, rfl⟩
    · replace hf := (if_neg c77).symm.trans hf
      refine jr_iload K (D_at DX6_evenLength 46 rfl) rfl ?_
      refine jr_iconst K (D_at DX6_evenLength 47 rfl) (v := (1 : Int32)) (by decide) ?_
      refine jr_iadd K (D_at DX6_evenLength 48 rfl) ?_
      refine jr_goto K (D_at DX6_evenLength 49 rfl) (tgt := 89) (by decide) ?_
      cases hf
      exact jr_iret K E (D_at DX6_evenLength 51 rfl) rfl ⟨rfl, rfl⟩
  · replace hf := (if_neg c69).symm.trans hf
    refine jr_iconst K (D_at DX6_evenLength 41 rfl) (v := (-1 : Int32)) (by decide) ?_
    cases hf
    exact jr_iret K E (D_at DX6_evenLength 42 rfl) rfl ⟨rfl, rfl⟩
set_option maxHeartbeats 400000 in
set_option maxRecDepth 100000 in
theorem J_X6_evenLength_14_b {G : jG} {l : Launch} {d : Nat} {X : jX} {res : Int32} (K : jOK G l mX6_evenLength (d) X) (n : Nat) (h : jH) (rc14 : Nat → Int32 → Int32 → Int32 → Int32 → jH → Option Int32) (hr14 : ∀ (a0 : Nat) (x1 : Int32) (x2 : Int32) (x3 : Int32) (x4 : Int32), rc14 a0 x1 x2 x3 x4 h = some res → jJ G X h 0 0 14 [some (.ref a0), some (.int x1), some (.int x2), some (.int x3), some (.int x4), none] []) (E : jEnd G mX6_evenLength (jPR h res) X) (a0 : Nat) (x1 : Int32) (x2 : Int32) (x3 : Int32) (x4 : Int32) (hf : F_X6_evenLength_14_b n rc14 a0 x1 x2 x3 x4 h = some res) : jJ G X h 0 0 14 [some (.ref a0), some (.int x1), some (.int x2), some (.int x3), some (.int x4), none] [] := by
  unfold F_X6_evenLength_14_b at hf
  refine jr_iload K (D_at DX6_evenLength 9 rfl) rfl ?_
  refine jr_aload_n K (D_at DX6_evenLength 10 rfl) rfl rfl ?_
  obtain ⟨v17, e17, hf⟩ := jbind hf
  refine jr_getI K (D_at DX6_evenLength 11 rfl) fg_X6_19_6 e17 ?_
  refine jr_icmp_ge K (D_at DX6_evenLength 12 rfl) (tgt := 39) (by decide) (fun c20 => ?_) (fun c20 => ?_)
  · replace hf := (if_pos c20).symm.trans hf
    refine jr_iload_n K (D_at DX6_evenLength 22 rfl) rfl rfl ?_
    refine jr_aload_n K (D_at DX6_evenLength 23 rfl) rfl rfl ?_
    obtain ⟨v41, e41, hf⟩ := jbind hf
    refine jr_getI K (D_at DX6_evenLength 24 rfl) fg_X6_19_6 e41 ?_
    by_cases c44 : v41 = 0
    · exact jno (show (none : Option Int32) = some res from (if_pos c44).symm.trans hf)
    replace hf := (if_neg c44).symm.trans hf
    refine jr_idiv K (D_at DX6_evenLength 25 rfl) c44 ?_
    refine jr_istore K (D_at DX6_evenLength 26 rfl) (i := 4) (by decide) (L2 := [_, _, _, _, _, _]) rfl ?_
    refine jr_iload_n K (D_at DX6_evenLength 27 rfl) rfl rfl ?_
    refine jr_aload_n K (D_at DX6_evenLength 28 rfl) rfl rfl ?_
    obtain ⟨v49, e49, hf⟩ := jbind hf
    refine jr_getI K (D_at DX6_evenLength 29 rfl) fg_X6_19_6 e49 ?_
    by_cases c52 : v49 = 0
    · exact jno (show (none : Option Int32) = some res from (if_pos c52).symm.trans hf)
    replace hf := (if_neg c52).symm.trans hf
    refine jr_irem K (D_at DX6_evenLength 30 rfl) c52 ?_
    refine jr_istore K (D_at DX6_evenLength 31 rfl) (i := 5) (by decide) (L2 := [_, _, _, _, _, _]) rfl ?_
    refine jr_iload K (D_at DX6_evenLength 32 rfl) rfl ?_
    refine jr_iload K (D_at DX6_evenLength 33 rfl) rfl ?_
    refine jr_if_le K (D_at DX6_evenLength 34 rfl) (tgt := 66) (by decide) (fun c59 => ?_) (fun c59 => ?_)
    · replace hf := (if_pos c59).symm.trans hf
      refine jr_iconst K (D_at DX6_evenLength 37 rfl) (v := (0 : Int32)) (by decide) ?_
      refine jr_keep [false, true, true, false, true, true] ?_
      exact J_X6_evenLength_67 K n h E x1 x2 (x3 / v41) (x3 - x3 / v49 * v49) (x3 / v41) (0 : Int32) hf
    · replace hf := (if_neg c59).symm.trans hf
      refine jr_iconst K (D_at DX6_evenLength 35 rfl) (v := (1 : Int32)) (by decide) ?_
      refine jr_goto K (D_at DX6_evenLength 36 rfl) (tgt := 67) (by decide) ?_
      refine jr_keep [false, true, true, false, true, true] ?_
      exact J_X6_evenLength_67 K n h E x1 x2 (x3 / v41) (x3 - x3 / v49 * v49) (x3 / v41) (1 : Int32) hf
  · replace hf := (if_neg c20).symm.trans hf
    refine jr_iload_n K (D_at DX6_evenLength 13 rfl) rfl rfl ?_
    refine jr_aload_n K (D_at DX6_evenLength 14 rfl) rfl rfl ?_
    obtain ⟨p25, e25, hf⟩ := jbind hf
    refine jr_getR K (D_at DX6_evenLength 15 rfl) fg_X6_71_6 e25 ?_
    refine jr_iload K (D_at DX6_evenLength 16 rfl) rfl ?_
    obtain ⟨v30, e30, hf⟩ := jbind hf
    refine jr_iald K (D_at DX6_evenLength 17 rfl) e30 ?_
    refine jr_iadd K (D_at DX6_evenLength 18 rfl) ?_
    refine jr_istore_n K (D_at DX6_evenLength 19 rfl) (i := 3) rfl (by decide) (L2 := [_, _, _, _, _, _]) rfl ?_
    refine jr_iinc K (D_at DX6_evenLength 20 rfl) (i := 4) rfl (v := x4 + (1 : Int32)) (jinc (by decide)) (by decide) (L2 := [_, _, _, _, _, _]) rfl ?_
    refine jr_goto K (D_at DX6_evenLength 21 rfl) (tgt := 14) (by decide) ?_
    refine jr_keep [true, true, true, true, true, false] ?_
    exact hr14 a0 x1 x2 (x3 + v30) (x4 + (1 : Int32)) hf
theorem J_X6_evenLength_14 {G : jG} {l : Launch} {d : Nat} {X : jX} {res : Int32} (K : jOK G l mX6_evenLength (d) X) (n : Nat) (h : jH) (E : jEnd G mX6_evenLength (jPR h res) X) (k : Nat) : ∀ (a0 : Nat) (x1 : Int32) (x2 : Int32) (x3 : Int32) (x4 : Int32), F_X6_evenLength_14 n k a0 x1 x2 x3 x4 h = some res → jJ G X h 0 0 14 [some (.ref a0), some (.int x1), some (.int x2), some (.int x3), some (.int x4), none] [] := by
  induction k with
  | zero =>
    intro a0 x1 x2 x3 x4 hf
    exact jno (show (none : Option Int32) = some res from hf)
  | succ k ih =>
    intro a0 x1 x2 x3 x4 hf
    exact J_X6_evenLength_14_b K n h (F_X6_evenLength_14 n k) ih E a0 x1 x2 x3 x4 hf
set_option maxHeartbeats 400000 in
set_option maxRecDepth 100000 in
theorem J_X6_evenLength {G : jG} {l : Launch} {d : Nat} {X : jX} {res : Int32} (K : jOK G l mX6_evenLength (d) X) (n : Nat) (h : jH) (E : jEnd G mX6_evenLength (jPR h res) X) (a0 : Nat) (x1 : Int32) (x2 : Int32) (hf : F_X6_evenLength n a0 x1 x2 h = some res) : jJ G X h 0 0 0 [some (.ref a0), some (.int x1), some (.int x2), none, none, none] [] := by
  unfold F_X6_evenLength at hf
  refine jr_aload_n K (D_at DX6_evenLength 0 rfl) rfl rfl ?_
  obtain ⟨v1, e1, hf⟩ := jbind hf
  refine jr_getI K (D_at DX6_evenLength 1 rfl) fg_X6_19_6 e1 ?_
  refine jr_if_ne K (D_at DX6_evenLength 2 rfl) (tgt := 9) (by decide) (fun c4 => ?_) (fun c4 => ?_)
  · replace hf := (if_neg c4).symm.trans hf
    refine jr_iconst K (D_at DX6_evenLength 5 rfl) (v := (0 : Int32)) (by decide) ?_
    refine jr_istore_n K (D_at DX6_evenLength 6 rfl) (i := 3) rfl (by decide) (L2 := [_, _, _, _, _, _]) rfl ?_
    refine jr_iconst K (D_at DX6_evenLength 7 rfl) (v := (0 : Int32)) (by decide) ?_
    refine jr_istore K (D_at DX6_evenLength 8 rfl) (i := 4) (by decide) (L2 := [_, _, _, _, _, _]) rfl ?_
    refine jr_keep [true, true, true, true, true, false] ?_
    exact J_X6_evenLength_14 K n h E n a0 x1 x2 (0 : Int32) (0 : Int32) hf
  · replace hf := (if_pos c4).symm.trans hf
    refine jr_iconst K (D_at DX6_evenLength 3 rfl) (v := (-1 : Int32)) (by decide) ?_
    cases hf
    exact jr_iret K E (D_at DX6_evenLength 4 rfl) rfl ⟨rfl, rfl⟩
theorem C_X6_evenLength {G : jG} {l : Launch} (d : Nat) {n : Nat} {a0 : Nat} {x1 : Int32} {x2 : Int32} {h : jH} {res : Int32} (hf : F_X6_evenLength n a0 x1 x2 h = some res) : jC G l mX6_evenLength (d) 0 0 [.ref a0, .int x1, .int x2] h (jPR h res) :=
  jC.of (by decide +kernel) (jcats rfl) (Nat.le_of_ble_eq_true rfl) (fun X K E => J_X6_evenLength K n h E a0 x1 x2 hf)
set_option maxHeartbeats 400000 in
set_option maxRecDepth 100000 in
theorem J_X6_enviousPairs_4_b {G : jG} {l : Launch} {d : Nat} {X : jX} {res : Int32} (K : jOK G l mX6_enviousPairs (d + 1) X) (n : Nat) (h : jH) (rc4 : Nat → Int32 → Int32 → jH → Option Int32) (hr4 : ∀ (a0 : Nat) (x1 : Int32) (x2 : Int32), rc4 a0 x1 x2 h = some res → jJ G X h 0 0 4 [some (.ref a0), some (.int x1), some (.int x2)] []) (E : jEnd G mX6_enviousPairs (jPR h res) X) (a0 : Nat) (x1 : Int32) (x2 : Int32) (hf : F_X6_enviousPairs_4_b n rc4 a0 x1 x2 h = some res) : jJ G X h 0 0 4 [some (.ref a0), some (.int x1), some (.int x2)] [] := by
  unfold F_X6_enviousPairs_4_b at hf
  refine jr_iload_n K (D_at DX6_enviousPairs 4 rfl) rfl rfl ?_
  refine jr_iconst K (D_at DX6_enviousPairs 5 rfl) (v := (1 : Int32)) (by decide) ?_
  refine jr_iadd K (D_at DX6_enviousPairs 6 rfl) ?_
  refine jr_aload_n K (D_at DX6_enviousPairs 7 rfl) rfl rfl ?_
  obtain ⟨v8, e8, hf⟩ := jbind hf
  refine jr_getI K (D_at DX6_enviousPairs 8 rfl) fg_X6_19_6 e8 ?_
  refine jr_icmp_ge K (D_at DX6_enviousPairs 9 rfl) (tgt := 45) (by decide) (fun c11 => ?_) (fun c11 => ?_)
  · replace hf := (if_pos c11).symm.trans hf
    refine jr_iload_n K (D_at DX6_enviousPairs 27 rfl) rfl rfl ?_
    cases hf
    exact jr_iret K E (D_at DX6_enviousPairs 28 rfl) rfl ⟨rfl, rfl⟩
  · replace hf := (if_neg c11).symm.trans hf
    refine jr_aload_n K (D_at DX6_enviousPairs 10 rfl) rfl rfl ?_
    obtain ⟨p15, e15, hf⟩ := jbind hf
    refine jr_getR K (D_at DX6_enviousPairs 11 rfl) fg_X6_71_6 e15 ?_
    refine jr_iload_n K (D_at DX6_enviousPairs 12 rfl) rfl rfl ?_
    obtain ⟨v19, e19, hf⟩ := jbind hf
    refine jr_iald K (D_at DX6_enviousPairs 13 rfl) e19 ?_
    refine jr_aload_n K (D_at DX6_enviousPairs 14 rfl) rfl rfl ?_
    obtain ⟨p21, e21, hf⟩ := jbind hf
    refine jr_getR K (D_at DX6_enviousPairs 15 rfl) fg_X6_71_6 e21 ?_
    refine jr_iload_n K (D_at DX6_enviousPairs 16 rfl) rfl rfl ?_
    refine jr_iconst K (D_at DX6_enviousPairs 17 rfl) (v := (1 : Int32)) (by decide) ?_
    refine jr_iadd K (D_at DX6_enviousPairs 18 rfl) ?_
    obtain ⟨v27, e27, hf⟩ := jbind hf
    refine jr_iald K (D_at DX6_enviousPairs 19 rfl) e27 ?_
    refine jr_isub K (D_at DX6_enviousPairs 20 rfl) ?_
    refine jr_abs K (D_at DX6_enviousPairs 21 rfl) mm_X6_26 (by exact Nat.le_of_ble_eq_true rfl) ?_
    refine jr_iconst K (D_at DX6_enviousPairs 22 rfl) (v := (2 : Int32)) (by decide) ?_
    refine jr_icmp_lt K (D_at DX6_enviousPairs 23 rfl) (tgt := 39) (by decide) (fun c33 => ?_) (fun c33 => ?_)
    · replace hf := (if_pos c33).symm.trans hf
      refine jr_iinc K (D_at DX6_enviousPairs 25 rfl) (i := 2) rfl (v := x2 + (1 : Int32)) (jinc (by decide)) (by decide) (L2 := [_, _, _]) rfl ?_
      refine jr_goto K (D_at DX6_enviousPairs 26 rfl) (tgt := 4) (by decide) ?_
      refine jr_keep [true, true, true] ?_
      exact hr4 a0 x1 (x2 + (1 : Int32)) hf
    · replace hf := (if_neg c33).symm.trans hf
      refine jr_iinc K (D_at DX6_enviousPairs 24 rfl) (i := 1) rfl (v := x1 + (1 : Int32)) (jinc (by decide)) (by decide) (L2 := [_, _, _]) rfl ?_
      refine jr_iinc K (D_at DX6_enviousPairs 25 rfl) (i := 2) rfl (v := x2 + (1 : Int32)) (jinc (by decide)) (by decide) (L2 := [_, _, _]) rfl ?_
      refine jr_goto K (D_at DX6_enviousPairs 26 rfl) (tgt := 4) (by decide) ?_
      refine jr_keep [true, true, true] ?_
      exact hr4 a0 (x1 + (1 : Int32)) (x2 + (1 : Int32)) hf
theorem J_X6_enviousPairs_4 {G : jG} {l : Launch} {d : Nat} {X : jX} {res : Int32} (K : jOK G l mX6_enviousPairs (d + 1) X) (n : Nat) (h : jH) (E : jEnd G mX6_enviousPairs (jPR h res) X) (k : Nat) : ∀ (a0 : Nat) (x1 : Int32) (x2 : Int32), F_X6_enviousPairs_4 n k a0 x1 x2 h = some res → jJ G X h 0 0 4 [some (.ref a0), some (.int x1), some (.int x2)] [] := by
  induction k with
  | zero =>
    intro a0 x1 x2 hf
    exact jno (show (none : Option Int32) = some res from hf)
  | succ k ih =>
    intro a0 x1 x2 hf
    exact J_X6_enviousPairs_4_b K n h (F_X6_enviousPairs_4 n k) ih E a0 x1 x2 hf
set_option maxHeartbeats 400000 in
set_option maxRecDepth 100000 in
theorem J_X6_enviousPairs {G : jG} {l : Launch} {d : Nat} {X : jX} {res : Int32} (K : jOK G l mX6_enviousPairs (d + 1) X) (n : Nat) (h : jH) (E : jEnd G mX6_enviousPairs (jPR h res) X) (a0 : Nat) (hf : F_X6_enviousPairs n a0 h = some res) : jJ G X h 0 0 0 [some (.ref a0), none, none] [] := by
  unfold F_X6_enviousPairs at hf
  refine jr_iconst K (D_at DX6_enviousPairs 0 rfl) (v := (0 : Int32)) (by decide) ?_
  refine jr_istore_n K (D_at DX6_enviousPairs 1 rfl) (i := 1) rfl (by decide) (L2 := [_, _, _]) rfl ?_
  refine jr_iconst K (D_at DX6_enviousPairs 2 rfl) (v := (0 : Int32)) (by decide) ?_
  refine jr_istore_n K (D_at DX6_enviousPairs 3 rfl) (i := 2) rfl (by decide) (L2 := [_, _, _]) rfl ?_
  refine jr_keep [true, true, true] ?_
  exact J_X6_enviousPairs_4 K n h E n a0 (0 : Int32) (0 : Int32) hf
theorem C_X6_enviousPairs {G : jG} {l : Launch} (d : Nat) {n : Nat} {a0 : Nat} {h : jH} {res : Int32} (hf : F_X6_enviousPairs n a0 h = some res) : jC G l mX6_enviousPairs (d + 1) 0 0 [.ref a0] h (jPR h res) :=
  jC.of (by decide +kernel) (jcats rfl) (Nat.le_of_ble_eq_true rfl) (fun X K E => J_X6_enviousPairs K n h E a0 hf)
set_option maxHeartbeats 400000 in
set_option maxRecDepth 100000 in
theorem J_X6_gain {G : jG} {l : Launch} {d : Nat} {X : jX} {res : Int32} (K : jOK G l mX6_gain (d + 1) X) (n : Nat) (h : jH) (E : jEnd G mX6_gain (jPR h res) X) (a0 : Nat) (x1 : Int32) (x2 : Int32) (hf : F_X6_gain n a0 x1 x2 h = some res) : jJ G X h 0 0 0 [some (.ref a0), some (.int x1), some (.int x2)] [] := by
  unfold F_X6_gain at hf
  refine jr_iload_n K (D_at DX6_gain 0 rfl) rfl rfl ?_
  by_cases c1_0 : x2 = (1 : Int32)
  · replace hf := (if_pos c1_0).symm.trans hf
    refine jr_lookup K (D_at DX6_gain 1 rfl) (off := 27) (tgt := 28) (by decide) (by rw [c1_0]; decide) (by decide) ?_
    refine jr_aload_n K (D_at DX6_gain 2 rfl) rfl rfl ?_
    obtain ⟨v29, e29, hf⟩ := jbind hf
    refine jr_getI K (D_at DX6_gain 3 rfl) fg_X6_78_6 e29 ?_
    refine jr_iload_n K (D_at DX6_gain 4 rfl) rfl rfl ?_
    obtain ⟨v33, e33, hf⟩ := jbind hf
    refine jr_callSN K (C_X11_bit (d) e33) (D_at DX6_gain 5 rfl) csn_X6_15_X11_bit (As := [.int v29, .int x1]) rfl rfl (by exact Nat.le_of_ble_eq_true rfl) (kc2 := 0) (ks2 := 0) rfl rfl (fun k9 h9 w9 => by cases w9.1) (fun r9 h9 w9 => ?_)
    obtain ⟨w1, w2⟩ := w9
    subst h9
    cases w1
    show jJ G X _ 0 0 _ _ (.int v33 :: _)
    refine jr_iconst K (D_at DX6_gain 6 rfl) (v := (1 : Int32)) (by decide) ?_
    refine jr_icmp_ne K (D_at DX6_gain 7 rfl) (tgt := 45) (by decide) (fun c37 => ?_) (fun c37 => ?_)
    · replace hf := (if_neg c37).symm.trans hf
      refine jr_iconst K (D_at DX6_gain 10 rfl) (v := (1 : Int32)) (by decide) ?_
      cases hf
      exact jr_iret K E (D_at DX6_gain 11 rfl) rfl ⟨rfl, rfl⟩
    · replace hf := (if_pos c37).symm.trans hf
      refine jr_bipush K (D_at DX6_gain 8 rfl) (v := (-2 : Int32)) (by decide) ?_
      refine jr_goto K (D_at DX6_gain 9 rfl) (tgt := 46) (by decide) ?_
      cases hf
      exact jr_iret K E (D_at DX6_gain 11 rfl) rfl ⟨rfl, rfl⟩
  replace hf := (if_neg c1_0).symm.trans hf
  by_cases c1_1 : x2 = (2 : Int32)
  · replace hf := (if_pos c1_1).symm.trans hf
    refine jr_lookup K (D_at DX6_gain 1 rfl) (off := 46) (tgt := 47) (by decide) (by rw [c1_1]; decide) (by decide) ?_
    refine jr_aload_n K (D_at DX6_gain 12 rfl) rfl rfl ?_
    refine jr_iload_n K (D_at DX6_gain 13 rfl) rfl rfl ?_
    refine jr_iconst K (D_at DX6_gain 14 rfl) (v := (0 : Int32)) (by decide) ?_
    obtain ⟨v50, e50, hf⟩ := jbind hf
    obtain ⟨rc_50, e50⟩ := jcv_o e50
    refine jr_callV K (C_X8_gap (d) e50) (D_at DX6_gain 15 rfl) cv_X6_56_X8_gap (As := [.int x1, .int (0 : Int32)]) (ci := 6) rfl rc_50 rfl rfl (by exact Nat.le_of_ble_eq_true rfl) (kc2 := 0) (ks2 := 0) rfl rfl (fun k9 h9 w9 => by cases w9.1) (fun r9 h9 w9 => ?_)
    obtain ⟨w1, w2⟩ := w9
    subst h9
    cases w1
    show jJ G X _ 0 0 _ _ (.int v50 :: _)
    refine jr_iconst K (D_at DX6_gain 16 rfl) (v := (1 : Int32)) (by decide) ?_
    refine jr_isub K (D_at DX6_gain 17 rfl) ?_
    cases hf
    exact jr_iret K E (D_at DX6_gain 18 rfl) rfl ⟨rfl, rfl⟩
  replace hf := (if_neg c1_1).symm.trans hf
  refine jr_lookup K (D_at DX6_gain 1 rfl) (off := 55) (tgt := 56) (by decide) (by show Op.lookupswitch.offset [(1, 27), (2, 46)] 55 _ = _; rw [lv_osw c1_0 (a := 1) (by decide), lv_osw c1_1 (a := 2) (by decide)]; rfl) (by decide) ?_
  refine jr_iconst K (D_at DX6_gain 19 rfl) (v := (2 : Int32)) (by decide) ?_
  cases hf
  exact jr_iret K E (D_at DX6_gain 20 rfl) rfl ⟨rfl, rfl⟩
theorem C_X6_gain {G : jG} {l : Launch} (d : Nat) {n : Nat} {a0 : Nat} {x1 : Int32} {x2 : Int32} {h : jH} {res : Int32} (hf : F_X6_gain n a0 x1 x2 h = some res) : jC G l mX6_gain (d + 1) 0 0 [.ref a0, .int x1, .int x2] h (jPR h res) :=
  jC.of (by decide +kernel) (jcats rfl) (Nat.le_of_ble_eq_true rfl) (fun X K E => J_X6_gain K n h E a0 x1 x2 hf)
set_option maxHeartbeats 400000 in
set_option maxRecDepth 100000 in
theorem J_X6_restingChoices_62 {G : jG} {l : Launch} {d : Nat} {X : jX} {res : Int32} (K : jOK G l mX6_restingChoices (d + 2) X) (n : Nat) (h : jH) (rc16 : Nat → Int32 → Int32 → Int32 → jH → Option Int32) (hr16 : ∀ (a0 : Nat) (x1 : Int32) (x2 : Int32) (x3 : Int32), rc16 a0 x1 x2 x3 h = some res → jJ G X h 0 0 16 [some (.ref a0), some (.int x1), some (.int x2), some (.int x3), none] []) (E : jEnd G mX6_restingChoices (jPR h res) X) (a0 : Nat) (x1 : Int32) (x3 : Int32) (s0 : Int32) (s1 : Int32) (s2 : Int32) (hf : F_X6_restingChoices_62 n rc16 a0 x1 x3 s0 s1 s2 h = some res) : jJ G X h 0 0 62 [some (.ref a0), some (.int x1), none, some (.int x3), none] [.int s2, .int s1, .int s0] := by
  unfold F_X6_restingChoices_62 at hf
  obtain ⟨v62, e62, hf⟩ := jbind hf
  refine jr_callSN K (C_X11_withBit (d + 1) e62) (D_at DX6_restingChoices 41 rfl) csn_X6_59_X11_withBit (As := [.int s0, .int s1, .int s2]) rfl rfl (by exact Nat.le_of_ble_eq_true rfl) (kc2 := 0) (ks2 := 0) rfl rfl (fun k9 h9 w9 => by cases w9.1) (fun r9 h9 w9 => ?_)
  obtain ⟨w1, w2⟩ := w9
  subst h9
  cases w1
  show jJ G X _ 0 0 _ _ (.int v62 :: _)
  refine jr_istore_n K (D_at DX6_restingChoices 42 rfl) (i := 2) rfl (by decide) (L2 := [_, _, _, _, _]) rfl ?_
  refine jr_iinc K (D_at DX6_restingChoices 43 rfl) (i := 3) rfl (v := x3 + (1 : Int32)) (jinc (by decide)) (by decide) (L2 := [_, _, _, _, _]) rfl ?_
  refine jr_goto K (D_at DX6_restingChoices 44 rfl) (tgt := 16) (by decide) ?_
  refine jr_keep [true, true, true, true, false] ?_
  exact hr16 a0 x1 v62 (x3 + (1 : Int32)) hf
set_option maxHeartbeats 400000 in
set_option maxRecDepth 100000 in
theorem J_X6_restingChoices_16_b {G : jG} {l : Launch} {d : Nat} {X : jX} {res : Int32} (K : jOK G l mX6_restingChoices (d + 2) X) (n : Nat) (h : jH) (rc16 : Nat → Int32 → Int32 → Int32 → jH → Option Int32) (hr16 : ∀ (a0 : Nat) (x1 : Int32) (x2 : Int32) (x3 : Int32), rc16 a0 x1 x2 x3 h = some res → jJ G X h 0 0 16 [some (.ref a0), some (.int x1), some (.int x2), some (.int x3), none] []) (E : jEnd G mX6_restingChoices (jPR h res) X) (a0 : Nat) (x1 : Int32) (x2 : Int32) (x3 : Int32) (hf : F_X6_restingChoices_16_b n rc16 a0 x1 x2 x3 h = some res) : jJ G X h 0 0 16 [some (.ref a0), some (.int x1), some (.int x2), some (.int x3), none] [] := by
  unfold F_X6_restingChoices_16_b at hf
  refine jr_iload_n K (D_at DX6_restingChoices 12 rfl) rfl rfl ?_
  refine jr_iconst K (D_at DX6_restingChoices 13 rfl) (v := (4 : Int32)) (by decide) ?_
  refine jr_icmp_ge K (D_at DX6_restingChoices 14 rfl) (tgt := 72) (by decide) (fun c18 => ?_) (fun c18 => ?_)
  · replace hf := (if_pos c18).symm.trans hf
    refine jr_iload_n K (D_at DX6_restingChoices 45 rfl) rfl rfl ?_
    cases hf
    exact jr_iret K E (D_at DX6_restingChoices 46 rfl) rfl ⟨rfl, rfl⟩
  · replace hf := (if_neg c18).symm.trans hf
    refine jr_aload_n K (D_at DX6_restingChoices 15 rfl) rfl rfl ?_
    refine jr_iload_n K (D_at DX6_restingChoices 16 rfl) rfl rfl ?_
    refine jr_iload_n K (D_at DX6_restingChoices 17 rfl) rfl rfl ?_
    obtain ⟨v24, e24, hf⟩ := jbind hf
    refine jr_callS K (C_X6_gain (d) e24) (D_at DX6_restingChoices 18 rfl) cs_X6_74_X6_gain (As := [.ref a0, .int x1, .int x3]) rfl rfl (by exact Nat.le_of_ble_eq_true rfl) (kc2 := 0) (ks2 := 0) rfl rfl (fun k9 h9 w9 => by cases w9.1) (fun r9 h9 w9 => ?_)
    obtain ⟨w1, w2⟩ := w9
    subst h9
    cases w1
    show jJ G X _ 0 0 _ _ (.int v24 :: _)
    refine jr_istore K (D_at DX6_restingChoices 19 rfl) (i := 4) (by decide) (L2 := [_, _, _, _, _]) rfl ?_
    refine jr_iload_n K (D_at DX6_restingChoices 20 rfl) rfl rfl ?_
    refine jr_iload_n K (D_at DX6_restingChoices 21 rfl) rfl rfl ?_
    refine jr_iload K (D_at DX6_restingChoices 22 rfl) rfl ?_
    refine jr_aload_n K (D_at DX6_restingChoices 23 rfl) rfl rfl ?_
    refine jr_iload_n K (D_at DX6_restingChoices 24 rfl) rfl rfl ?_
    refine jr_iload_n K (D_at DX6_restingChoices 25 rfl) rfl rfl ?_
    refine jr_iconst K (D_at DX6_restingChoices 26 rfl) (v := (2 : Int32)) (by decide) ?_
    refine jr_ixor K (D_at DX6_restingChoices 27 rfl) ?_
    obtain ⟨v38, e38, hf⟩ := jbind hf
    refine jr_callS K (C_X6_gain (d) e38) (D_at DX6_restingChoices 28 rfl) cs_X6_74_X6_gain (As := [.ref a0, .int x1, .int (x3 ^^^ (2 : Int32))]) rfl rfl (by exact Nat.le_of_ble_eq_true rfl) (kc2 := 0) (ks2 := 0) rfl rfl (fun k9 h9 w9 => by cases w9.1) (fun r9 h9 w9 => ?_)
    obtain ⟨w1, w2⟩ := w9
    subst h9
    cases w1
    show jJ G X _ 0 0 _ _ (.int v38 :: _)
    refine jr_icmp_lt K (D_at DX6_restingChoices 29 rfl) (tgt := 61) (by decide) (fun c41 => ?_) (fun c41 => ?_)
    · replace hf := (if_pos c41).symm.trans hf
      refine jr_iconst K (D_at DX6_restingChoices 40 rfl) (v := (0 : Int32)) (by decide) ?_
      refine jr_keep [true, true, false, true, false] ?_
      exact J_X6_restingChoices_62 K n h rc16 hr16 E a0 x1 x3 x2 x3 (0 : Int32) hf
    · replace hf := (if_neg c41).symm.trans hf
      refine jr_iload K (D_at DX6_restingChoices 30 rfl) rfl ?_
      refine jr_aload_n K (D_at DX6_restingChoices 31 rfl) rfl rfl ?_
      refine jr_iload_n K (D_at DX6_restingChoices 32 rfl) rfl rfl ?_
      refine jr_iload_n K (D_at DX6_restingChoices 33 rfl) rfl rfl ?_
      refine jr_iconst K (D_at DX6_restingChoices 34 rfl) (v := (1 : Int32)) (by decide) ?_
      refine jr_ixor K (D_at DX6_restingChoices 35 rfl) ?_
      obtain ⟨v51, e51, hf⟩ := jbind hf
      refine jr_callS K (C_X6_gain (d) e51) (D_at DX6_restingChoices 36 rfl) cs_X6_74_X6_gain (As := [.ref a0, .int x1, .int (x3 ^^^ (1 : Int32))]) rfl rfl (by exact Nat.le_of_ble_eq_true rfl) (kc2 := 0) (ks2 := 0) rfl rfl (fun k9 h9 w9 => by cases w9.1) (fun r9 h9 w9 => ?_)
      obtain ⟨w1, w2⟩ := w9
      subst h9
      cases w1
      show jJ G X _ 0 0 _ _ (.int v51 :: _)
      refine jr_icmp_lt K (D_at DX6_restingChoices 37 rfl) (tgt := 61) (by decide) (fun c54 => ?_) (fun c54 => ?_)
      · replace hf := (if_pos c54).symm.trans hf
        refine jr_iconst K (D_at DX6_restingChoices 40 rfl) (v := (0 : Int32)) (by decide) ?_
        refine jr_keep [true, true, false, true, false] ?_
        exact J_X6_restingChoices_62 K n h rc16 hr16 E a0 x1 x3 x2 x3 (0 : Int32) hf
      · replace hf := (if_neg c54).symm.trans hf
        refine jr_iconst K (D_at DX6_restingChoices 38 rfl) (v := (1 : Int32)) (by decide) ?_
        refine jr_goto K (D_at DX6_restingChoices 39 rfl) (tgt := 62) (by decide) ?_
        refine jr_keep [true, true, false, true, false] ?_
        exact J_X6_restingChoices_62 K n h rc16 hr16 E a0 x1 x3 x2 x3 (1 : Int32) hf
theorem J_X6_restingChoices_16 {G : jG} {l : Launch} {d : Nat} {X : jX} {res : Int32} (K : jOK G l mX6_restingChoices (d + 2) X) (n : Nat) (h : jH) (E : jEnd G mX6_restingChoices (jPR h res) X) (k : Nat) : ∀ (a0 : Nat) (x1 : Int32) (x2 : Int32) (x3 : Int32), F_X6_restingChoices_16 n k a0 x1 x2 x3 h = some res → jJ G X h 0 0 16 [some (.ref a0), some (.int x1), some (.int x2), some (.int x3), none] [] := by
  induction k with
  | zero =>
    intro a0 x1 x2 x3 hf
    exact jno (show (none : Option Int32) = some res from hf)
  | succ k ih =>
    intro a0 x1 x2 x3 hf
    exact J_X6_restingChoices_16_b K n h (F_X6_restingChoices_16 n k) ih E a0 x1 x2 x3 hf
set_option maxHeartbeats 400000 in
set_option maxRecDepth 100000 in
theorem J_X6_restingChoices {G : jG} {l : Launch} {d : Nat} {X : jX} {res : Int32} (K : jOK G l mX6_restingChoices (d + 2) X) (n : Nat) (h : jH) (E : jEnd G mX6_restingChoices (jPR h res) X) (a0 : Nat) (x1 : Int32) (hf : F_X6_restingChoices n a0 x1 h = some res) : jJ G X h 0 0 0 [some (.ref a0), some (.int x1), none, none, none] [] := by
  unfold F_X6_restingChoices at hf
  refine jr_iload_n K (D_at DX6_restingChoices 0 rfl) rfl rfl ?_
  refine jr_aload_n K (D_at DX6_restingChoices 1 rfl) rfl rfl ?_
  obtain ⟨v2, e2, hf⟩ := jbind hf
  refine jr_getI K (D_at DX6_restingChoices 2 rfl) fg_X6_19_6 e2 ?_
  refine jr_iconst K (D_at DX6_restingChoices 3 rfl) (v := (1 : Int32)) (by decide) ?_
  refine jr_isub K (D_at DX6_restingChoices 4 rfl) ?_
  refine jr_icmp_lt K (D_at DX6_restingChoices 5 rfl) (tgt := 12) (by decide) (fun c7 => ?_) (fun c7 => ?_)
  · replace hf := (if_pos c7).symm.trans hf
    refine jr_iconst K (D_at DX6_restingChoices 8 rfl) (v := (0 : Int32)) (by decide) ?_
    refine jr_istore_n K (D_at DX6_restingChoices 9 rfl) (i := 2) rfl (by decide) (L2 := [_, _, _, _, _]) rfl ?_
    refine jr_iconst K (D_at DX6_restingChoices 10 rfl) (v := (0 : Int32)) (by decide) ?_
    refine jr_istore_n K (D_at DX6_restingChoices 11 rfl) (i := 3) rfl (by decide) (L2 := [_, _, _, _, _]) rfl ?_
    refine jr_keep [true, true, true, true, false] ?_
    exact J_X6_restingChoices_16 K n h E n a0 x1 (0 : Int32) (0 : Int32) hf
  · replace hf := (if_neg c7).symm.trans hf
    refine jr_iconst K (D_at DX6_restingChoices 6 rfl) (v := (-1 : Int32)) (by decide) ?_
    cases hf
    exact jr_iret K E (D_at DX6_restingChoices 7 rfl) rfl ⟨rfl, rfl⟩
theorem C_X6_restingChoices {G : jG} {l : Launch} (d : Nat) {n : Nat} {a0 : Nat} {x1 : Int32} {h : jH} {res : Int32} (hf : F_X6_restingChoices n a0 x1 h = some res) : jC G l mX6_restingChoices (d + 2) 0 0 [.ref a0, .int x1] h (jPR h res) :=
  jC.of (by decide +kernel) (jcats rfl) (Nat.le_of_ble_eq_true rfl) (fun X K E => J_X6_restingChoices K n h E a0 x1 hf)
set_option maxHeartbeats 400000 in
set_option maxRecDepth 100000 in
theorem J_X6_largestBunch_33 {G : jG} {l : Launch} {d : Nat} {X : jX} {res : Int32} (K : jOK G l mX6_largestBunch (d + 1) X) (n : Nat) (h : jH) (rc6 : Nat → Int32 → Int32 → Int32 → jH → Option Int32) (hr6 : ∀ (a0 : Nat) (x1 : Int32) (x2 : Int32) (x3 : Int32), rc6 a0 x1 x2 x3 h = some res → jJ G X h 0 0 6 [some (.ref a0), some (.int x1), some (.int x2), some (.int x3)] []) (E : jEnd G mX6_largestBunch (jPR h res) X) (a0 : Nat) (x1 : Int32) (x3 : Int32) (s0 : Int32) (hf : F_X6_largestBunch_33 n rc6 a0 x1 x3 s0 h = some res) : jJ G X h 0 0 33 [some (.ref a0), some (.int x1), none, some (.int x3)] [.int s0] := by
  unfold F_X6_largestBunch_33 at hf
  refine jr_istore_n K (D_at DX6_largestBunch 23 rfl) (i := 2) rfl (by decide) (L2 := [_, _, _, _]) rfl ?_
  refine jr_iload_n K (D_at DX6_largestBunch 24 rfl) rfl rfl ?_
  refine jr_iload_n K (D_at DX6_largestBunch 25 rfl) rfl rfl ?_
  refine jr_max K (D_at DX6_largestBunch 26 rfl) mm_X6_50 (by exact Nat.le_of_ble_eq_true rfl) ?_
  refine jr_istore_n K (D_at DX6_largestBunch 27 rfl) (i := 1) rfl (by decide) (L2 := [_, _, _, _]) rfl ?_
  refine jr_iinc K (D_at DX6_largestBunch 28 rfl) (i := 3) rfl (v := x3 + (1 : Int32)) (jinc (by decide)) (by decide) (L2 := [_, _, _, _]) rfl ?_
  refine jr_goto K (D_at DX6_largestBunch 29 rfl) (tgt := 6) (by decide) ?_
  refine jr_keep [true, true, true, true] ?_
  exact hr6 a0 (if x1 < s0 then s0 else x1) s0 (x3 + (1 : Int32)) hf
set_option maxHeartbeats 400000 in
set_option maxRecDepth 100000 in
theorem J_X6_largestBunch_6_b {G : jG} {l : Launch} {d : Nat} {X : jX} {res : Int32} (K : jOK G l mX6_largestBunch (d + 1) X) (n : Nat) (h : jH) (rc6 : Nat → Int32 → Int32 → Int32 → jH → Option Int32) (hr6 : ∀ (a0 : Nat) (x1 : Int32) (x2 : Int32) (x3 : Int32), rc6 a0 x1 x2 x3 h = some res → jJ G X h 0 0 6 [some (.ref a0), some (.int x1), some (.int x2), some (.int x3)] []) (E : jEnd G mX6_largestBunch (jPR h res) X) (a0 : Nat) (x1 : Int32) (x2 : Int32) (x3 : Int32) (hf : F_X6_largestBunch_6_b n rc6 a0 x1 x2 x3 h = some res) : jJ G X h 0 0 6 [some (.ref a0), some (.int x1), some (.int x2), some (.int x3)] [] := by
  unfold F_X6_largestBunch_6_b at hf
  refine jr_iload_n K (D_at DX6_largestBunch 6 rfl) rfl rfl ?_
  refine jr_aload_n K (D_at DX6_largestBunch 7 rfl) rfl rfl ?_
  obtain ⟨v8, e8, hf⟩ := jbind hf
  refine jr_getI K (D_at DX6_largestBunch 8 rfl) fg_X6_19_6 e8 ?_
  refine jr_icmp_ge K (D_at DX6_largestBunch 9 rfl) (tgt := 46) (by decide) (fun c11 => ?_) (fun c11 => ?_)
  · replace hf := (if_pos c11).symm.trans hf
    refine jr_iload_n K (D_at DX6_largestBunch 30 rfl) rfl rfl ?_
    cases hf
    exact jr_iret K E (D_at DX6_largestBunch 31 rfl) rfl ⟨rfl, rfl⟩
  · replace hf := (if_neg c11).symm.trans hf
    refine jr_aload_n K (D_at DX6_largestBunch 10 rfl) rfl rfl ?_
    refine jr_iload_n K (D_at DX6_largestBunch 11 rfl) rfl rfl ?_
    refine jr_iconst K (D_at DX6_largestBunch 12 rfl) (v := (1 : Int32)) (by decide) ?_
    refine jr_isub K (D_at DX6_largestBunch 13 rfl) ?_
    refine jr_iconst K (D_at DX6_largestBunch 14 rfl) (v := (-1 : Int32)) (by decide) ?_
    obtain ⟨v19, e19, hf⟩ := jbind hf
    obtain ⟨rc_19, e19⟩ := jcv_o e19
    refine jr_callV K (C_X8_gap (d) e19) (D_at DX6_largestBunch 15 rfl) cv_X6_56_X8_gap (As := [.int (x3 - (1 : Int32)), .int (-1 : Int32)]) (ci := 6) rfl rc_19 rfl rfl (by exact Nat.le_of_ble_eq_true rfl) (kc2 := 0) (ks2 := 0) rfl rfl (fun k9 h9 w9 => by cases w9.1) (fun r9 h9 w9 => ?_)
    obtain ⟨w1, w2⟩ := w9
    subst h9
    cases w1
    show jJ G X _ 0 0 _ _ (.int v19 :: _)
    refine jr_iconst K (D_at DX6_largestBunch 16 rfl) (v := (1 : Int32)) (by decide) ?_
    refine jr_icmp_ne K (D_at DX6_largestBunch 17 rfl) (tgt := 32) (by decide) (fun c23 => ?_) (fun c23 => ?_)
    · replace hf := (if_neg c23).symm.trans hf
      refine jr_iconst K (D_at DX6_largestBunch 22 rfl) (v := (1 : Int32)) (by decide) ?_
      refine jr_keep [true, true, false, true] ?_
      exact J_X6_largestBunch_33 K n h rc6 hr6 E a0 x1 x3 (1 : Int32) hf
    · replace hf := (if_pos c23).symm.trans hf
      refine jr_iload_n K (D_at DX6_largestBunch 18 rfl) rfl rfl ?_
      refine jr_iconst K (D_at DX6_largestBunch 19 rfl) (v := (1 : Int32)) (by decide) ?_
      refine jr_iadd K (D_at DX6_largestBunch 20 rfl) ?_
      refine jr_goto K (D_at DX6_largestBunch 21 rfl) (tgt := 33) (by decide) ?_
      refine jr_keep [true, true, false, true] ?_
      exact J_X6_largestBunch_33 K n h rc6 hr6 E a0 x1 x3 (x2 + (1 : Int32)) hf
theorem J_X6_largestBunch_6 {G : jG} {l : Launch} {d : Nat} {X : jX} {res : Int32} (K : jOK G l mX6_largestBunch (d + 1) X) (n : Nat) (h : jH) (E : jEnd G mX6_largestBunch (jPR h res) X) (k : Nat) : ∀ (a0 : Nat) (x1 : Int32) (x2 : Int32) (x3 : Int32), F_X6_largestBunch_6 n k a0 x1 x2 x3 h = some res → jJ G X h 0 0 6 [some (.ref a0), some (.int x1), some (.int x2), some (.int x3)] [] := by
  induction k with
  | zero =>
    intro a0 x1 x2 x3 hf
    exact jno (show (none : Option Int32) = some res from hf)
  | succ k ih =>
    intro a0 x1 x2 x3 hf
    exact J_X6_largestBunch_6_b K n h (F_X6_largestBunch_6 n k) ih E a0 x1 x2 x3 hf
set_option maxHeartbeats 400000 in
set_option maxRecDepth 100000 in
theorem J_X6_largestBunch {G : jG} {l : Launch} {d : Nat} {X : jX} {res : Int32} (K : jOK G l mX6_largestBunch (d + 1) X) (n : Nat) (h : jH) (E : jEnd G mX6_largestBunch (jPR h res) X) (a0 : Nat) (hf : F_X6_largestBunch n a0 h = some res) : jJ G X h 0 0 0 [some (.ref a0), none, none, none] [] := by
  unfold F_X6_largestBunch at hf
  refine jr_iconst K (D_at DX6_largestBunch 0 rfl) (v := (0 : Int32)) (by decide) ?_
  refine jr_istore_n K (D_at DX6_largestBunch 1 rfl) (i := 1) rfl (by decide) (L2 := [_, _, _, _]) rfl ?_
  refine jr_iconst K (D_at DX6_largestBunch 2 rfl) (v := (0 : Int32)) (by decide) ?_
  refine jr_istore_n K (D_at DX6_largestBunch 3 rfl) (i := 2) rfl (by decide) (L2 := [_, _, _, _]) rfl ?_
  refine jr_iconst K (D_at DX6_largestBunch 4 rfl) (v := (0 : Int32)) (by decide) ?_
  refine jr_istore_n K (D_at DX6_largestBunch 5 rfl) (i := 3) rfl (by decide) (L2 := [_, _, _, _]) rfl ?_
  refine jr_keep [true, true, true, true] ?_
  exact J_X6_largestBunch_6 K n h E n a0 (0 : Int32) (0 : Int32) (0 : Int32) hf
theorem C_X6_largestBunch {G : jG} {l : Launch} (d : Nat) {n : Nat} {a0 : Nat} {h : jH} {res : Int32} (hf : F_X6_largestBunch n a0 h = some res) : jC G l mX6_largestBunch (d + 1) 0 0 [.ref a0] h (jPR h res) :=
  jC.of (by decide +kernel) (jcats rfl) (Nat.le_of_ble_eq_true rfl) (fun X K E => J_X6_largestBunch K n h E a0 hf)
set_option maxHeartbeats 400000 in
set_option maxRecDepth 100000 in
theorem J_X6_thickBeyondJoin_44 {G : jG} {l : Launch} {d : Nat} {X : jX} {res : Int32} (K : jOK G l mX6_thickBeyondJoin (d + 1) X) (n : Nat) (h : jH) (rc4 : Nat → Int32 → Int32 → jH → Option Int32) (hr4 : ∀ (a0 : Nat) (x1 : Int32) (x2 : Int32), rc4 a0 x1 x2 h = some res → jJ G X h 0 0 4 [some (.ref a0), some (.int x1), some (.int x2)] []) (E : jEnd G mX6_thickBeyondJoin (jPR h res) X) (a0 : Nat) (x2 : Int32) (s0 : Int32) (s1 : Int32) (s2 : Int32) (hf : F_X6_thickBeyondJoin_44 n rc4 a0 x2 s0 s1 s2 h = some res) : jJ G X h 0 0 44 [some (.ref a0), none, some (.int x2)] [.int s2, .int s1, .int s0] := by
  unfold F_X6_thickBeyondJoin_44 at hf
  obtain ⟨v44, e44, hf⟩ := jbind hf
  refine jr_callSN K (C_X11_withBit (d) e44) (D_at DX6_thickBeyondJoin 26 rfl) csn_X6_59_X11_withBit (As := [.int s0, .int s1, .int s2]) rfl rfl (by exact Nat.le_of_ble_eq_true rfl) (kc2 := 0) (ks2 := 0) rfl rfl (fun k9 h9 w9 => by cases w9.1) (fun r9 h9 w9 => ?_)
  obtain ⟨w1, w2⟩ := w9
  subst h9
  cases w1
  show jJ G X _ 0 0 _ _ (.int v44 :: _)
  refine jr_istore_n K (D_at DX6_thickBeyondJoin 27 rfl) (i := 1) rfl (by decide) (L2 := [_, _, _]) rfl ?_
  refine jr_iinc K (D_at DX6_thickBeyondJoin 28 rfl) (i := 2) rfl (v := x2 + (1 : Int32)) (jinc (by decide)) (by decide) (L2 := [_, _, _]) rfl ?_
  refine jr_goto K (D_at DX6_thickBeyondJoin 29 rfl) (tgt := 4) (by decide) ?_
  refine jr_keep [true, true, true] ?_
  exact hr4 a0 v44 (x2 + (1 : Int32)) hf
set_option maxHeartbeats 400000 in
set_option maxRecDepth 100000 in
theorem J_X6_thickBeyondJoin_4_b {G : jG} {l : Launch} {d : Nat} {X : jX} {res : Int32} (K : jOK G l mX6_thickBeyondJoin (d + 1) X) (n : Nat) (h : jH) (rc4 : Nat → Int32 → Int32 → jH → Option Int32) (hr4 : ∀ (a0 : Nat) (x1 : Int32) (x2 : Int32), rc4 a0 x1 x2 h = some res → jJ G X h 0 0 4 [some (.ref a0), some (.int x1), some (.int x2)] []) (E : jEnd G mX6_thickBeyondJoin (jPR h res) X) (a0 : Nat) (x1 : Int32) (x2 : Int32) (hf : F_X6_thickBeyondJoin_4_b n rc4 a0 x1 x2 h = some res) : jJ G X h 0 0 4 [some (.ref a0), some (.int x1), some (.int x2)] [] := by
  unfold F_X6_thickBeyondJoin_4_b at hf
  refine jr_iload_n K (D_at DX6_thickBeyondJoin 4 rfl) rfl rfl ?_
  refine jr_aload_n K (D_at DX6_thickBeyondJoin 5 rfl) rfl rfl ?_
  obtain ⟨v6, e6, hf⟩ := jbind hf
  refine jr_getI K (D_at DX6_thickBeyondJoin 6 rfl) fg_X6_19_6 e6 ?_
  refine jr_icmp_ge K (D_at DX6_thickBeyondJoin 7 rfl) (tgt := 54) (by decide) (fun c9 => ?_) (fun c9 => ?_)
  · replace hf := (if_pos c9).symm.trans hf
    refine jr_iload_n K (D_at DX6_thickBeyondJoin 30 rfl) rfl rfl ?_
    cases hf
    exact jr_iret K E (D_at DX6_thickBeyondJoin 31 rfl) rfl ⟨rfl, rfl⟩
  · replace hf := (if_neg c9).symm.trans hf
    refine jr_iload_n K (D_at DX6_thickBeyondJoin 8 rfl) rfl rfl ?_
    refine jr_iload_n K (D_at DX6_thickBeyondJoin 9 rfl) rfl rfl ?_
    refine jr_aload_n K (D_at DX6_thickBeyondJoin 10 rfl) rfl rfl ?_
    obtain ⟨v15, e15, hf⟩ := jbind hf
    refine jr_getI K (D_at DX6_thickBeyondJoin 11 rfl) fg_X6_81_6 e15 ?_
    refine jr_iload_n K (D_at DX6_thickBeyondJoin 12 rfl) rfl rfl ?_
    obtain ⟨v19, e19, hf⟩ := jbind hf
    refine jr_callSN K (C_X11_bit (d) e19) (D_at DX6_thickBeyondJoin 13 rfl) csn_X6_15_X11_bit (As := [.int v15, .int x2]) rfl rfl (by exact Nat.le_of_ble_eq_true rfl) (kc2 := 0) (ks2 := 0) rfl rfl (fun k9 h9 w9 => by cases w9.1) (fun r9 h9 w9 => ?_)
    obtain ⟨w1, w2⟩ := w9
    subst h9
    cases w1
    show jJ G X _ 0 0 _ _ (.int v19 :: _)
    refine jr_iconst K (D_at DX6_thickBeyondJoin 14 rfl) (v := (1 : Int32)) (by decide) ?_
    refine jr_icmp_ne K (D_at DX6_thickBeyondJoin 15 rfl) (tgt := 43) (by decide) (fun c23 => ?_) (fun c23 => ?_)
    · replace hf := (if_neg c23).symm.trans hf
      refine jr_iconst K (D_at DX6_thickBeyondJoin 25 rfl) (v := (0 : Int32)) (by decide) ?_
      refine jr_keep [true, false, true] ?_
      exact J_X6_thickBeyondJoin_44 K n h rc4 hr4 E a0 x2 x1 x2 (0 : Int32) hf
    · replace hf := (if_pos c23).symm.trans hf
      refine jr_aload_n K (D_at DX6_thickBeyondJoin 16 rfl) rfl rfl ?_
      obtain ⟨p27, e27, hf⟩ := jbind hf
      refine jr_getR K (D_at DX6_thickBeyondJoin 17 rfl) fg_X6_22_6 e27 ?_
      refine jr_iload_n K (D_at DX6_thickBeyondJoin 18 rfl) rfl rfl ?_
      obtain ⟨v31, e31, hf⟩ := jbind hf
      refine jr_iald K (D_at DX6_thickBeyondJoin 19 rfl) e31 ?_
      refine jr_aload_n K (D_at DX6_thickBeyondJoin 20 rfl) rfl rfl ?_
      obtain ⟨v33, e33, hf⟩ := jbind hf
      refine jr_getI K (D_at DX6_thickBeyondJoin 21 rfl) fg_X6_84_6 e33 ?_
      refine jr_icmp_lt K (D_at DX6_thickBeyondJoin 22 rfl) (tgt := 43) (by decide) (fun c36 => ?_) (fun c36 => ?_)
      · replace hf := (if_pos c36).symm.trans hf
        refine jr_iconst K (D_at DX6_thickBeyondJoin 25 rfl) (v := (0 : Int32)) (by decide) ?_
        refine jr_keep [true, false, true] ?_
        exact J_X6_thickBeyondJoin_44 K n h rc4 hr4 E a0 x2 x1 x2 (0 : Int32) hf
      · replace hf := (if_neg c36).symm.trans hf
        refine jr_iconst K (D_at DX6_thickBeyondJoin 23 rfl) (v := (1 : Int32)) (by decide) ?_
        refine jr_goto K (D_at DX6_thickBeyondJoin 24 rfl) (tgt := 44) (by decide) ?_
        refine jr_keep [true, false, true] ?_
        exact J_X6_thickBeyondJoin_44 K n h rc4 hr4 E a0 x2 x1 x2 (1 : Int32) hf
theorem J_X6_thickBeyondJoin_4 {G : jG} {l : Launch} {d : Nat} {X : jX} {res : Int32} (K : jOK G l mX6_thickBeyondJoin (d + 1) X) (n : Nat) (h : jH) (E : jEnd G mX6_thickBeyondJoin (jPR h res) X) (k : Nat) : ∀ (a0 : Nat) (x1 : Int32) (x2 : Int32), F_X6_thickBeyondJoin_4 n k a0 x1 x2 h = some res → jJ G X h 0 0 4 [some (.ref a0), some (.int x1), some (.int x2)] [] := by
  induction k with
  | zero =>
    intro a0 x1 x2 hf
    exact jno (show (none : Option Int32) = some res from hf)
  | succ k ih =>
    intro a0 x1 x2 hf
    exact J_X6_thickBeyondJoin_4_b K n h (F_X6_thickBeyondJoin_4 n k) ih E a0 x1 x2 hf
set_option maxHeartbeats 400000 in
set_option maxRecDepth 100000 in
theorem J_X6_thickBeyondJoin {G : jG} {l : Launch} {d : Nat} {X : jX} {res : Int32} (K : jOK G l mX6_thickBeyondJoin (d + 1) X) (n : Nat) (h : jH) (E : jEnd G mX6_thickBeyondJoin (jPR h res) X) (a0 : Nat) (hf : F_X6_thickBeyondJoin n a0 h = some res) : jJ G X h 0 0 0 [some (.ref a0), none, none] [] := by
  unfold F_X6_thickBeyondJoin at hf
  refine jr_iconst K (D_at DX6_thickBeyondJoin 0 rfl) (v := (0 : Int32)) (by decide) ?_
  refine jr_istore_n K (D_at DX6_thickBeyondJoin 1 rfl) (i := 1) rfl (by decide) (L2 := [_, _, _]) rfl ?_
  refine jr_iconst K (D_at DX6_thickBeyondJoin 2 rfl) (v := (0 : Int32)) (by decide) ?_
  refine jr_istore_n K (D_at DX6_thickBeyondJoin 3 rfl) (i := 2) rfl (by decide) (L2 := [_, _, _]) rfl ?_
  refine jr_keep [true, true, true] ?_
  exact J_X6_thickBeyondJoin_4 K n h E n a0 (0 : Int32) (0 : Int32) hf
theorem C_X6_thickBeyondJoin {G : jG} {l : Launch} (d : Nat) {n : Nat} {a0 : Nat} {h : jH} {res : Int32} (hf : F_X6_thickBeyondJoin n a0 h = some res) : jC G l mX6_thickBeyondJoin (d + 1) 0 0 [.ref a0] h (jPR h res) :=
  jC.of (by decide +kernel) (jcats rfl) (Nat.le_of_ble_eq_true rfl) (fun X K E => J_X6_thickBeyondJoin K n h E a0 hf)
set_option maxHeartbeats 400000 in
set_option maxRecDepth 100000 in
theorem J_X6_likePairs_16_b {G : jG} {l : Launch} {d : Nat} {X : jX} {res : Int32} (K : jOK G l mX6_likePairs (d) X) (n : Nat) (h : jH) (rc4 : Nat → Int32 → Int32 → jH → Option Int32) (hr4 : ∀ (a0 : Nat) (x1 : Int32) (x2 : Int32), rc4 a0 x1 x2 h = some res → jJ G X h 0 0 4 [some (.ref a0), some (.int x1), some (.int x2), none] []) (rc16 : Nat → Int32 → Int32 → Int32 → jH → Option Int32) (hr16 : ∀ (a0 : Nat) (x1 : Int32) (x2 : Int32) (x3 : Int32), rc16 a0 x1 x2 x3 h = some res → jJ G X h 0 0 16 [some (.ref a0), some (.int x1), some (.int x2), some (.int x3)] []) (E : jEnd G mX6_likePairs (jPR h res) X) (a0 : Nat) (x1 : Int32) (x2 : Int32) (x3 : Int32) (hf : F_X6_likePairs_16_b n rc4 rc16 a0 x1 x2 x3 h = some res) : jJ G X h 0 0 16 [some (.ref a0), some (.int x1), some (.int x2), some (.int x3)] [] := by
  unfold F_X6_likePairs_16_b at hf
  refine jr_iload_n K (D_at DX6_likePairs 12 rfl) rfl rfl ?_
  refine jr_aload_n K (D_at DX6_likePairs 13 rfl) rfl rfl ?_
  obtain ⟨v18, e18, hf⟩ := jbind hf
  refine jr_getI K (D_at DX6_likePairs 14 rfl) fg_X6_19_6 e18 ?_
  refine jr_icmp_ge K (D_at DX6_likePairs 15 rfl) (tgt := 78) (by decide) (fun c21 => ?_) (fun c21 => ?_)
  · replace hf := (if_pos c21).symm.trans hf
    refine jr_iinc K (D_at DX6_likePairs 46 rfl) (i := 2) rfl (v := x2 + (1 : Int32)) (jinc (by decide)) (by decide) (L2 := [_, _, _, _]) rfl ?_
    refine jr_goto K (D_at DX6_likePairs 47 rfl) (tgt := 4) (by decide) ?_
    refine jr_keep [true, true, true, false] ?_
    exact hr4 a0 x1 (x2 + (1 : Int32)) hf
  · replace hf := (if_neg c21).symm.trans hf
    refine jr_aload_n K (D_at DX6_likePairs 16 rfl) rfl rfl ?_
    obtain ⟨p25, e25, hf⟩ := jbind hf
    refine jr_getR K (D_at DX6_likePairs 17 rfl) fg_X6_53_6 e25 ?_
    refine jr_iload_n K (D_at DX6_likePairs 18 rfl) rfl rfl ?_
    obtain ⟨v29, e29, hf⟩ := jbind hf
    refine jr_iald K (D_at DX6_likePairs 19 rfl) e29 ?_
    refine jr_aload_n K (D_at DX6_likePairs 20 rfl) rfl rfl ?_
    obtain ⟨p31, e31, hf⟩ := jbind hf
    refine jr_getR K (D_at DX6_likePairs 21 rfl) fg_X6_53_6 e31 ?_
    refine jr_iload_n K (D_at DX6_likePairs 22 rfl) rfl rfl ?_
    obtain ⟨v35, e35, hf⟩ := jbind hf
    refine jr_iald K (D_at DX6_likePairs 23 rfl) e35 ?_
    refine jr_icmp_ne K (D_at DX6_likePairs 24 rfl) (tgt := 72) (by decide) (fun c36 => ?_) (fun c36 => ?_)
    · replace hf := (if_neg c36).symm.trans hf
      refine jr_iinc K (D_at DX6_likePairs 44 rfl) (i := 3) rfl (v := x3 + (1 : Int32)) (jinc (by decide)) (by decide) (L2 := [_, _, _, _]) rfl ?_
      refine jr_goto K (D_at DX6_likePairs 45 rfl) (tgt := 16) (by decide) ?_
      refine jr_keep [true, true, true, true] ?_
      exact hr16 a0 x1 x2 (x3 + (1 : Int32)) hf
    · replace hf := (if_pos c36).symm.trans hf
      refine jr_aload_n K (D_at DX6_likePairs 25 rfl) rfl rfl ?_
      obtain ⟨p40, e40, hf⟩ := jbind hf
      refine jr_getR K (D_at DX6_likePairs 26 rfl) fg_X6_71_6 e40 ?_
      refine jr_iload_n K (D_at DX6_likePairs 27 rfl) rfl rfl ?_
      obtain ⟨v44, e44, hf⟩ := jbind hf
      refine jr_iald K (D_at DX6_likePairs 28 rfl) e44 ?_
      refine jr_aload_n K (D_at DX6_likePairs 29 rfl) rfl rfl ?_
      obtain ⟨p46, e46, hf⟩ := jbind hf
      refine jr_getR K (D_at DX6_likePairs 30 rfl) fg_X6_71_6 e46 ?_
      refine jr_iload_n K (D_at DX6_likePairs 31 rfl) rfl rfl ?_
      obtain ⟨v50, e50, hf⟩ := jbind hf
      refine jr_iald K (D_at DX6_likePairs 32 rfl) e50 ?_
      refine jr_icmp_ne K (D_at DX6_likePairs 33 rfl) (tgt := 72) (by decide) (fun c51 => ?_) (fun c51 => ?_)
      · replace hf := (if_neg c51).symm.trans hf
        refine jr_iinc K (D_at DX6_likePairs 44 rfl) (i := 3) rfl (v := x3 + (1 : Int32)) (jinc (by decide)) (by decide) (L2 := [_, _, _, _]) rfl ?_
        refine jr_goto K (D_at DX6_likePairs 45 rfl) (tgt := 16) (by decide) ?_
        refine jr_keep [true, true, true, true] ?_
        exact hr16 a0 x1 x2 (x3 + (1 : Int32)) hf
      · replace hf := (if_pos c51).symm.trans hf
        refine jr_aload_n K (D_at DX6_likePairs 34 rfl) rfl rfl ?_
        obtain ⟨p55, e55, hf⟩ := jbind hf
        refine jr_getR K (D_at DX6_likePairs 35 rfl) fg_X6_36_6 e55 ?_
        refine jr_iload_n K (D_at DX6_likePairs 36 rfl) rfl rfl ?_
        obtain ⟨v59, e59, hf⟩ := jbind hf
        refine jr_iald K (D_at DX6_likePairs 37 rfl) e59 ?_
        refine jr_aload_n K (D_at DX6_likePairs 38 rfl) rfl rfl ?_
        obtain ⟨p61, e61, hf⟩ := jbind hf
        refine jr_getR K (D_at DX6_likePairs 39 rfl) fg_X6_36_6 e61 ?_
        refine jr_iload_n K (D_at DX6_likePairs 40 rfl) rfl rfl ?_
        obtain ⟨v65, e65, hf⟩ := jbind hf
        refine jr_iald K (D_at DX6_likePairs 41 rfl) e65 ?_
        refine jr_icmp_ne K (D_at DX6_likePairs 42 rfl) (tgt := 72) (by decide) (fun c66 => ?_) (fun c66 => ?_)
        · replace hf := (if_neg c66).symm.trans hf
          refine jr_iinc K (D_at DX6_likePairs 44 rfl) (i := 3) rfl (v := x3 + (1 : Int32)) (jinc (by decide)) (by decide) (L2 := [_, _, _, _]) rfl ?_
          refine jr_goto K (D_at DX6_likePairs 45 rfl) (tgt := 16) (by decide) ?_
          refine jr_keep [true, true, true, true] ?_
          exact hr16 a0 x1 x2 (x3 + (1 : Int32)) hf
        · replace hf := (if_pos c66).symm.trans hf
          refine jr_iinc K (D_at DX6_likePairs 43 rfl) (i := 1) rfl (v := x1 + (1 : Int32)) (jinc (by decide)) (by decide) (L2 := [_, _, _, _]) rfl ?_
          refine jr_iinc K (D_at DX6_likePairs 44 rfl) (i := 3) rfl (v := x3 + (1 : Int32)) (jinc (by decide)) (by decide) (L2 := [_, _, _, _]) rfl ?_
          refine jr_goto K (D_at DX6_likePairs 45 rfl) (tgt := 16) (by decide) ?_
          refine jr_keep [true, true, true, true] ?_
          exact hr16 a0 (x1 + (1 : Int32)) x2 (x3 + (1 : Int32)) hf
theorem J_X6_likePairs_16 {G : jG} {l : Launch} {d : Nat} {X : jX} {res : Int32} (K : jOK G l mX6_likePairs (d) X) (n : Nat) (h : jH) (rc4 : Nat → Int32 → Int32 → jH → Option Int32) (hr4 : ∀ (a0 : Nat) (x1 : Int32) (x2 : Int32), rc4 a0 x1 x2 h = some res → jJ G X h 0 0 4 [some (.ref a0), some (.int x1), some (.int x2), none] []) (E : jEnd G mX6_likePairs (jPR h res) X) (k : Nat) : ∀ (a0 : Nat) (x1 : Int32) (x2 : Int32) (x3 : Int32), F_X6_likePairs_16 n rc4 k a0 x1 x2 x3 h = some res → jJ G X h 0 0 16 [some (.ref a0), some (.int x1), some (.int x2), some (.int x3)] [] := by
  induction k with
  | zero =>
    intro a0 x1 x2 x3 hf
    exact jno (show (none : Option Int32) = some res from hf)
  | succ k ih =>
    intro a0 x1 x2 x3 hf
    exact J_X6_likePairs_16_b K n h rc4 hr4 (F_X6_likePairs_16 n rc4 k) ih E a0 x1 x2 x3 hf
set_option maxHeartbeats 400000 in
set_option maxRecDepth 100000 in
theorem J_X6_likePairs_4_b {G : jG} {l : Launch} {d : Nat} {X : jX} {res : Int32} (K : jOK G l mX6_likePairs (d) X) (n : Nat) (h : jH) (rc4 : Nat → Int32 → Int32 → jH → Option Int32) (hr4 : ∀ (a0 : Nat) (x1 : Int32) (x2 : Int32), rc4 a0 x1 x2 h = some res → jJ G X h 0 0 4 [some (.ref a0), some (.int x1), some (.int x2), none] []) (E : jEnd G mX6_likePairs (jPR h res) X) (a0 : Nat) (x1 : Int32) (x2 : Int32) (hf : F_X6_likePairs_4_b n rc4 a0 x1 x2 h = some res) : jJ G X h 0 0 4 [some (.ref a0), some (.int x1), some (.int x2), none] [] := by
  unfold F_X6_likePairs_4_b at hf
  refine jr_iload_n K (D_at DX6_likePairs 4 rfl) rfl rfl ?_
  refine jr_aload_n K (D_at DX6_likePairs 5 rfl) rfl rfl ?_
  obtain ⟨v6, e6, hf⟩ := jbind hf
  refine jr_getI K (D_at DX6_likePairs 6 rfl) fg_X6_19_6 e6 ?_
  refine jr_icmp_ge K (D_at DX6_likePairs 7 rfl) (tgt := 84) (by decide) (fun c9 => ?_) (fun c9 => ?_)
  · replace hf := (if_pos c9).symm.trans hf
    refine jr_iload_n K (D_at DX6_likePairs 48 rfl) rfl rfl ?_
    cases hf
    exact jr_iret K E (D_at DX6_likePairs 49 rfl) rfl ⟨rfl, rfl⟩
  · replace hf := (if_neg c9).symm.trans hf
    refine jr_iload_n K (D_at DX6_likePairs 8 rfl) rfl rfl ?_
    refine jr_iconst K (D_at DX6_likePairs 9 rfl) (v := (1 : Int32)) (by decide) ?_
    refine jr_iadd K (D_at DX6_likePairs 10 rfl) ?_
    refine jr_istore_n K (D_at DX6_likePairs 11 rfl) (i := 3) rfl (by decide) (L2 := [_, _, _, _]) rfl ?_
    refine jr_keep [true, true, true, true] ?_
    exact J_X6_likePairs_16 K n h rc4 hr4 E n a0 x1 x2 (x2 + (1 : Int32)) hf
theorem J_X6_likePairs_4 {G : jG} {l : Launch} {d : Nat} {X : jX} {res : Int32} (K : jOK G l mX6_likePairs (d) X) (n : Nat) (h : jH) (E : jEnd G mX6_likePairs (jPR h res) X) (k : Nat) : ∀ (a0 : Nat) (x1 : Int32) (x2 : Int32), F_X6_likePairs_4 n k a0 x1 x2 h = some res → jJ G X h 0 0 4 [some (.ref a0), some (.int x1), some (.int x2), none] [] := by
  induction k with
  | zero =>
    intro a0 x1 x2 hf
    exact jno (show (none : Option Int32) = some res from hf)
  | succ k ih =>
    intro a0 x1 x2 hf
    exact J_X6_likePairs_4_b K n h (F_X6_likePairs_4 n k) ih E a0 x1 x2 hf
set_option maxHeartbeats 400000 in
set_option maxRecDepth 100000 in
theorem J_X6_likePairs {G : jG} {l : Launch} {d : Nat} {X : jX} {res : Int32} (K : jOK G l mX6_likePairs (d) X) (n : Nat) (h : jH) (E : jEnd G mX6_likePairs (jPR h res) X) (a0 : Nat) (hf : F_X6_likePairs n a0 h = some res) : jJ G X h 0 0 0 [some (.ref a0), none, none, none] [] := by
  unfold F_X6_likePairs at hf
  refine jr_iconst K (D_at DX6_likePairs 0 rfl) (v := (0 : Int32)) (by decide) ?_
  refine jr_istore_n K (D_at DX6_likePairs 1 rfl) (i := 1) rfl (by decide) (L2 := [_, _, _, _]) rfl ?_
  refine jr_iconst K (D_at DX6_likePairs 2 rfl) (v := (0 : Int32)) (by decide) ?_
  refine jr_istore_n K (D_at DX6_likePairs 3 rfl) (i := 2) rfl (by decide) (L2 := [_, _, _, _]) rfl ?_
  refine jr_keep [true, true, true, false] ?_
  exact J_X6_likePairs_4 K n h E n a0 (0 : Int32) (0 : Int32) hf
theorem C_X6_likePairs {G : jG} {l : Launch} (d : Nat) {n : Nat} {a0 : Nat} {h : jH} {res : Int32} (hf : F_X6_likePairs n a0 h = some res) : jC G l mX6_likePairs (d) 0 0 [.ref a0] h (jPR h res) :=
  jC.of (by decide +kernel) (jcats rfl) (Nat.le_of_ble_eq_true rfl) (fun X K E => J_X6_likePairs K n h E a0 hf)
set_option maxHeartbeats 400000 in
set_option maxRecDepth 100000 in
theorem J_X8_init {G : jG} {l : Launch} {d : Nat} {X : jX} {res : jH} (K : jOK G l mX8_init (d + 2) X) (n : Nat) (E : jEnd G mX8_init (jPV res) X) (a0 : Nat) (h : jH) (hf : F_X8_init n a0 h = some res) : jJ G X h 6 95 0 [some (.ref a0)] [] := by
  unfold F_X8_init at hf
  refine jr_aload_n K (D_at DX8_init 0 rfl) rfl rfl ?_
  refine jr_objInit K (D_at DX8_init 1 rfl) oi_X8_3 (by exact Nat.le_of_ble_eq_true rfl) ?_
  refine jr_aload_n K (D_at DX8_init 2 rfl) rfl rfl ?_
  refine jr_bipush K (D_at DX8_init 3 rfl) (v := (8 : Int32)) (by decide) ?_
  obtain ⟨h7, e7, hf⟩ := jbind hf
  refine jr_newIE (N := 8) K (D_at DX8_init 4 rfl) ac_int (by decide) (by decide) (by decide) (kc := 5) (ks := 87) e7 ?_
  obtain ⟨h9, e9, hf⟩ := jbind hf
  refine jr_putA K (D_at DX8_init 5 rfl) fp_X8_9_6 (Or.inr rfl) e9 ?_
  refine jr_aload_n K (D_at DX8_init 6 rfl) rfl rfl ?_
  refine jr_bipush K (D_at DX8_init 7 rfl) (v := (8 : Int32)) (by decide) ?_
  obtain ⟨h15, e15, hf⟩ := jbind hf
  refine jr_newIE (N := 8) K (D_at DX8_init 8 rfl) ac_int (by decide) (by decide) (by decide) (kc := 4) (ks := 79) e15 ?_
  obtain ⟨h17, e17, hf⟩ := jbind hf
  refine jr_putA K (D_at DX8_init 9 rfl) fp_X8_15_6 (Or.inr rfl) e17 ?_
  refine jr_aload_n K (D_at DX8_init 10 rfl) rfl rfl ?_
  refine jr_bipush K (D_at DX8_init 11 rfl) (v := (8 : Int32)) (by decide) ?_
  obtain ⟨h23, e23, hf⟩ := jbind hf
  refine jr_newIE (N := 8) K (D_at DX8_init 12 rfl) ac_int (by decide) (by decide) (by decide) (kc := 3) (ks := 71) e23 ?_
  obtain ⟨h25, e25, hf⟩ := jbind hf
  refine jr_putA K (D_at DX8_init 13 rfl) fp_X8_18_6 (Or.inr rfl) e25 ?_
  refine jr_aload_n K (D_at DX8_init 14 rfl) rfl rfl ?_
  refine jr_bipush K (D_at DX8_init 15 rfl) (v := (8 : Int32)) (by decide) ?_
  obtain ⟨h31, e31, hf⟩ := jbind hf
  refine jr_newIE (N := 8) K (D_at DX8_init 16 rfl) ac_int (by decide) (by decide) (by decide) (kc := 2) (ks := 63) e31 ?_
  obtain ⟨h33, e33, hf⟩ := jbind hf
  refine jr_putA K (D_at DX8_init 17 rfl) fp_X8_21_6 (Or.inr rfl) e33 ?_
  refine jr_aload_n K (D_at DX8_init 18 rfl) rfl rfl ?_
  obtain ⟨h37, e37, hf⟩ := jbind hf
  refine jr_newE (N := 3) K (D_at DX8_init 19 rfl) fn_X8_24 (kc := 1) (ks := 60) e37 ?_
  refine jr_dup K (D_at DX8_init 20 rfl) rfl ?_
  obtain ⟨h41, e41, hf⟩ := jbind hf
  refine jr_callIN K (C_X5_init (d) e41) (D_at DX8_init 21 rfl) cin_X8_26_X5_init (As := []) rfl rfl (by exact Nat.le_of_ble_eq_true rfl) (kc2 := 0) (ks2 := 0) rfl rfl (fun k9 h9 w9 => by cases w9.1) (fun r9 h9 w9 => ?_)
  obtain ⟨w1, w2⟩ := w9
  subst h9
  cases w1
  obtain ⟨h44, e44, hf⟩ := jbind hf
  refine jr_putR K (D_at DX8_init 22 rfl) fp_X8_27_6 (Or.inr rfl) e44 ?_
  refine jr_aload_n K (D_at DX8_init 23 rfl) rfl rfl ?_
  refine jr_bipush K (D_at DX8_init 24 rfl) (v := (16 : Int32)) (by decide) ?_
  obtain ⟨h50, e50, hf⟩ := jbind hf
  refine jr_putI K (D_at DX8_init 25 rfl) fp_X8_31_6 (Or.inl rfl) e50 ?_
  refine jr_aload_n K (D_at DX8_init 26 rfl) rfl rfl ?_
  refine jr_bipush K (D_at DX8_init 27 rfl) (v := (8 : Int32)) (by decide) ?_
  obtain ⟨h56, e56, hf⟩ := jbind hf
  refine jr_putI K (D_at DX8_init 28 rfl) fp_X8_35_6 (Or.inl rfl) e56 ?_
  refine jr_aload_n K (D_at DX8_init 29 rfl) rfl rfl ?_
  refine jr_iconst K (D_at DX8_init 30 rfl) (v := (1 : Int32)) (by decide) ?_
  obtain ⟨h61, e61, hf⟩ := jbind hf
  refine jr_putI K (D_at DX8_init 31 rfl) fp_X8_38_6 (Or.inl rfl) e61 ?_
  cases hf
  exact jr_vret K E (D_at DX8_init 32 rfl) rfl ⟨rfl, rfl⟩
theorem C_X8_init {G : jG} {l : Launch} (d : Nat) {n : Nat} {a0 : Nat} {h : jH} {res : jH} (hf : F_X8_init n a0 h = some res) : jC G l mX8_init (d + 2) 6 95 [.ref a0] h (jPV res) :=
  jC.of (by decide +kernel) (jcats rfl) (Nat.le_of_ble_eq_true rfl) (fun X K E => J_X8_init K n E a0 h hf)
set_option maxHeartbeats 400000 in
set_option maxRecDepth 100000 in
theorem J_X8_hangAs {G : jG} {l : Launch} {d : Nat} {X : jX} {res : jH} (K : jOK G l mX8_hangAs (d + 1) X) (n : Nat) (E : jEnd G mX8_hangAs (jPV res) X) (a0 : Nat) (a1 : Nat) (h : jH) (hf : F_X8_hangAs n a0 a1 h = some res) : jJ G X h 0 0 0 [some (.ref a0), some (.ref a1)] [] := by
  unfold F_X8_hangAs at hf
  refine jr_aload_n K (D_at DX8_hangAs 0 rfl) rfl rfl ?_
  obtain ⟨p1, e1, hf⟩ := jbind hf
  refine jr_getR K (D_at DX8_hangAs 1 rfl) fg_X8_9_6 e1 ?_
  refine jr_iconst K (D_at DX8_hangAs 2 rfl) (v := (0 : Int32)) (by decide) ?_
  refine jr_aload_n K (D_at DX8_hangAs 3 rfl) rfl rfl ?_
  obtain ⟨p6, e6, hf⟩ := jbind hf
  refine jr_getR K (D_at DX8_hangAs 4 rfl) fg_X8_9_6 e6 ?_
  refine jr_iconst K (D_at DX8_hangAs 5 rfl) (v := (0 : Int32)) (by decide) ?_
  refine jr_bipush K (D_at DX8_hangAs 6 rfl) (v := (8 : Int32)) (by decide) ?_
  obtain ⟨h12, e12, hf⟩ := jbind hf
  refine jr_copy K (D_at DX8_hangAs 7 rfl) cy_X8_41 (by exact Nat.le_of_ble_eq_true rfl) e12 ?_
  refine jr_aload_n K (D_at DX8_hangAs 8 rfl) rfl rfl ?_
  refine jr_aload_n K (D_at DX8_hangAs 9 rfl) rfl rfl ?_
  obtain ⟨v17, e17, hf⟩ := jbind hf
  refine jr_getI K (D_at DX8_hangAs 10 rfl) fg_X8_79_6 e17 ?_
  obtain ⟨h20, e20, hf⟩ := jbind hf
  refine jr_putI K (D_at DX8_hangAs 11 rfl) fp_X8_79_6 (Or.inl rfl) e20 ?_
  refine jr_aload_n K (D_at DX8_hangAs 12 rfl) rfl rfl ?_
  refine jr_aload_n K (D_at DX8_hangAs 13 rfl) rfl rfl ?_
  obtain ⟨v25, e25, hf⟩ := jbind hf
  refine jr_getI K (D_at DX8_hangAs 14 rfl) fg_X8_82_6 e25 ?_
  obtain ⟨h28, e28, hf⟩ := jbind hf
  refine jr_putI K (D_at DX8_hangAs 15 rfl) fp_X8_82_6 (Or.inl rfl) e28 ?_
  cases hf
  exact jr_vret K E (D_at DX8_hangAs 16 rfl) rfl ⟨rfl, rfl⟩
theorem C_X8_hangAs {G : jG} {l : Launch} (d : Nat) {n : Nat} {a0 : Nat} {a1 : Nat} {h : jH} {res : jH} (hf : F_X8_hangAs n a0 a1 h = some res) : jC G l mX8_hangAs (d + 1) 0 0 [.ref a0, .ref a1] h (jPV res) :=
  jC.of (by decide +kernel) (jcats rfl) (Nat.le_of_ble_eq_true rfl) (fun X K E => J_X8_hangAs K n E a0 a1 h hf)
set_option maxHeartbeats 400000 in
set_option maxRecDepth 100000 in
theorem J_X8_copyFrom {G : jG} {l : Launch} {d : Nat} {X : jX} {res : jH} (K : jOK G l mX8_copyFrom (d + 2) X) (n : Nat) (E : jEnd G mX8_copyFrom (jPV res) X) (a0 : Nat) (a1 : Nat) (h : jH) (hf : F_X8_copyFrom n a0 a1 h = some res) : jJ G X h 0 0 0 [some (.ref a0), some (.ref a1)] [] := by
  unfold F_X8_copyFrom at hf
  refine jr_aload_n K (D_at DX8_copyFrom 0 rfl) rfl rfl ?_
  obtain ⟨p1, e1, hf⟩ := jbind hf
  refine jr_getR K (D_at DX8_copyFrom 1 rfl) fg_X8_15_6 e1 ?_
  refine jr_iconst K (D_at DX8_copyFrom 2 rfl) (v := (0 : Int32)) (by decide) ?_
  refine jr_aload_n K (D_at DX8_copyFrom 3 rfl) rfl rfl ?_
  obtain ⟨p6, e6, hf⟩ := jbind hf
  refine jr_getR K (D_at DX8_copyFrom 4 rfl) fg_X8_15_6 e6 ?_
  refine jr_iconst K (D_at DX8_copyFrom 5 rfl) (v := (0 : Int32)) (by decide) ?_
  refine jr_bipush K (D_at DX8_copyFrom 6 rfl) (v := (8 : Int32)) (by decide) ?_
  obtain ⟨h12, e12, hf⟩ := jbind hf
  refine jr_copy K (D_at DX8_copyFrom 7 rfl) cy_X8_41 (by exact Nat.le_of_ble_eq_true rfl) e12 ?_
  refine jr_aload_n K (D_at DX8_copyFrom 8 rfl) rfl rfl ?_
  obtain ⟨p16, e16, hf⟩ := jbind hf
  refine jr_getR K (D_at DX8_copyFrom 9 rfl) fg_X8_18_6 e16 ?_
  refine jr_iconst K (D_at DX8_copyFrom 10 rfl) (v := (0 : Int32)) (by decide) ?_
  refine jr_aload_n K (D_at DX8_copyFrom 11 rfl) rfl rfl ?_
  obtain ⟨p21, e21, hf⟩ := jbind hf
  refine jr_getR K (D_at DX8_copyFrom 12 rfl) fg_X8_18_6 e21 ?_
  refine jr_iconst K (D_at DX8_copyFrom 13 rfl) (v := (0 : Int32)) (by decide) ?_
  refine jr_bipush K (D_at DX8_copyFrom 14 rfl) (v := (8 : Int32)) (by decide) ?_
  obtain ⟨h27, e27, hf⟩ := jbind hf
  refine jr_copy K (D_at DX8_copyFrom 15 rfl) cy_X8_41 (by exact Nat.le_of_ble_eq_true rfl) e27 ?_
  refine jr_aload_n K (D_at DX8_copyFrom 16 rfl) rfl rfl ?_
  obtain ⟨p31, e31, hf⟩ := jbind hf
  refine jr_getR K (D_at DX8_copyFrom 17 rfl) fg_X8_21_6 e31 ?_
  refine jr_iconst K (D_at DX8_copyFrom 18 rfl) (v := (0 : Int32)) (by decide) ?_
  refine jr_aload_n K (D_at DX8_copyFrom 19 rfl) rfl rfl ?_
  obtain ⟨p36, e36, hf⟩ := jbind hf
  refine jr_getR K (D_at DX8_copyFrom 20 rfl) fg_X8_21_6 e36 ?_
  refine jr_iconst K (D_at DX8_copyFrom 21 rfl) (v := (0 : Int32)) (by decide) ?_
  refine jr_bipush K (D_at DX8_copyFrom 22 rfl) (v := (8 : Int32)) (by decide) ?_
  obtain ⟨h42, e42, hf⟩ := jbind hf
  refine jr_copy K (D_at DX8_copyFrom 23 rfl) cy_X8_41 (by exact Nat.le_of_ble_eq_true rfl) e42 ?_
  refine jr_aload_n K (D_at DX8_copyFrom 24 rfl) rfl rfl ?_
  obtain ⟨p46, e46, hf⟩ := jbind hf
  refine jr_getR K (D_at DX8_copyFrom 25 rfl) fg_X8_27_6 e46 ?_
  refine jr_aload_n K (D_at DX8_copyFrom 26 rfl) rfl rfl ?_
  obtain ⟨p50, e50, hf⟩ := jbind hf
  refine jr_getR K (D_at DX8_copyFrom 27 rfl) fg_X8_27_6 e50 ?_
  obtain ⟨h53, e53, hf⟩ := jbind hf
  obtain ⟨rc_53, e53⟩ := jcv_o e53
  refine jr_callV K (C_X5_copyFrom (d) e53) (D_at DX8_copyFrom 28 rfl) cv_X8_47_X5_copyFrom (As := [.ref p50]) (ci := 4) rfl rc_53 rfl rfl (by exact Nat.le_of_ble_eq_true rfl) (kc2 := 0) (ks2 := 0) rfl rfl (fun k9 h9 w9 => by cases w9.1) (fun r9 h9 w9 => ?_)
  obtain ⟨w1, w2⟩ := w9
  subst h9
  cases w1
  show jJ G X _ 0 0 _ _ []
  refine jr_aload_n K (D_at DX8_copyFrom 29 rfl) rfl rfl ?_
  refine jr_aload_n K (D_at DX8_copyFrom 30 rfl) rfl rfl ?_
  obtain ⟨v58, e58, hf⟩ := jbind hf
  refine jr_getI K (D_at DX8_copyFrom 31 rfl) fg_X8_51_6 e58 ?_
  obtain ⟨h61, e61, hf⟩ := jbind hf
  refine jr_putI K (D_at DX8_copyFrom 32 rfl) fp_X8_51_6 (Or.inl rfl) e61 ?_
  refine jr_aload_n K (D_at DX8_copyFrom 33 rfl) rfl rfl ?_
  refine jr_aload_n K (D_at DX8_copyFrom 34 rfl) rfl rfl ?_
  obtain ⟨v66, e66, hf⟩ := jbind hf
  refine jr_getI K (D_at DX8_copyFrom 35 rfl) fg_X8_54_6 e66 ?_
  obtain ⟨h69, e69, hf⟩ := jbind hf
  refine jr_putI K (D_at DX8_copyFrom 36 rfl) fp_X8_54_6 (Or.inl rfl) e69 ?_
  refine jr_aload_n K (D_at DX8_copyFrom 37 rfl) rfl rfl ?_
  refine jr_aload_n K (D_at DX8_copyFrom 38 rfl) rfl rfl ?_
  obtain ⟨v74, e74, hf⟩ := jbind hf
  refine jr_getI K (D_at DX8_copyFrom 39 rfl) fg_X8_57_6 e74 ?_
  obtain ⟨h77, e77, hf⟩ := jbind hf
  refine jr_putI K (D_at DX8_copyFrom 40 rfl) fp_X8_57_6 (Or.inl rfl) e77 ?_
  refine jr_aload_n K (D_at DX8_copyFrom 41 rfl) rfl rfl ?_
  refine jr_aload_n K (D_at DX8_copyFrom 42 rfl) rfl rfl ?_
  obtain ⟨v82, e82, hf⟩ := jbind hf
  refine jr_getI K (D_at DX8_copyFrom 43 rfl) fg_X8_60_6 e82 ?_
  obtain ⟨h85, e85, hf⟩ := jbind hf
  refine jr_putI K (D_at DX8_copyFrom 44 rfl) fp_X8_60_6 (Or.inl rfl) e85 ?_
  refine jr_aload_n K (D_at DX8_copyFrom 45 rfl) rfl rfl ?_
  refine jr_aload_n K (D_at DX8_copyFrom 46 rfl) rfl rfl ?_
  obtain ⟨v90, e90, hf⟩ := jbind hf
  refine jr_getI K (D_at DX8_copyFrom 47 rfl) fg_X8_63_6 e90 ?_
  obtain ⟨h93, e93, hf⟩ := jbind hf
  refine jr_putI K (D_at DX8_copyFrom 48 rfl) fp_X8_63_6 (Or.inl rfl) e93 ?_
  refine jr_aload_n K (D_at DX8_copyFrom 49 rfl) rfl rfl ?_
  refine jr_aload_n K (D_at DX8_copyFrom 50 rfl) rfl rfl ?_
  obtain ⟨v98, e98, hf⟩ := jbind hf
  refine jr_getI K (D_at DX8_copyFrom 51 rfl) fg_X8_31_6 e98 ?_
  obtain ⟨h101, e101, hf⟩ := jbind hf
  refine jr_putI K (D_at DX8_copyFrom 52 rfl) fp_X8_31_6 (Or.inl rfl) e101 ?_
  refine jr_aload_n K (D_at DX8_copyFrom 53 rfl) rfl rfl ?_
  refine jr_aload_n K (D_at DX8_copyFrom 54 rfl) rfl rfl ?_
  obtain ⟨v106, e106, hf⟩ := jbind hf
  refine jr_getI K (D_at DX8_copyFrom 55 rfl) fg_X8_35_6 e106 ?_
  obtain ⟨h109, e109, hf⟩ := jbind hf
  refine jr_putI K (D_at DX8_copyFrom 56 rfl) fp_X8_35_6 (Or.inl rfl) e109 ?_
  refine jr_aload_n K (D_at DX8_copyFrom 57 rfl) rfl rfl ?_
  refine jr_aload_n K (D_at DX8_copyFrom 58 rfl) rfl rfl ?_
  obtain ⟨v114, e114, hf⟩ := jbind hf
  refine jr_getI K (D_at DX8_copyFrom 59 rfl) fg_X8_66_6 e114 ?_
  obtain ⟨h117, e117, hf⟩ := jbind hf
  refine jr_putI K (D_at DX8_copyFrom 60 rfl) fp_X8_66_6 (Or.inl rfl) e117 ?_
  refine jr_aload_n K (D_at DX8_copyFrom 61 rfl) rfl rfl ?_
  refine jr_aload_n K (D_at DX8_copyFrom 62 rfl) rfl rfl ?_
  obtain ⟨v122, e122, hf⟩ := jbind hf
  refine jr_getI K (D_at DX8_copyFrom 63 rfl) fg_X8_69_6 e122 ?_
  obtain ⟨h125, e125, hf⟩ := jbind hf
  refine jr_putI K (D_at DX8_copyFrom_1 0 rfl) fp_X8_69_6 (Or.inl rfl) e125 ?_
  refine jr_aload_n K (D_at DX8_copyFrom_1 1 rfl) rfl rfl ?_
  refine jr_aload_n K (D_at DX8_copyFrom_1 2 rfl) rfl rfl ?_
  obtain ⟨v130, e130, hf⟩ := jbind hf
  refine jr_getI K (D_at DX8_copyFrom_1 3 rfl) fg_X8_38_6 e130 ?_
  obtain ⟨h133, e133, hf⟩ := jbind hf
  refine jr_putI K (D_at DX8_copyFrom_1 4 rfl) fp_X8_38_6 (Or.inl rfl) e133 ?_
  refine jr_aload_n K (D_at DX8_copyFrom_1 5 rfl) rfl rfl ?_
  refine jr_aload_n K (D_at DX8_copyFrom_1 6 rfl) rfl rfl ?_
  obtain ⟨v138, e138, hf⟩ := jbind hf
  refine jr_getI K (D_at DX8_copyFrom_1 7 rfl) fg_X8_72_6 e138 ?_
  obtain ⟨h141, e141, hf⟩ := jbind hf
  refine jr_putI K (D_at DX8_copyFrom_1 8 rfl) fp_X8_72_6 (Or.inl rfl) e141 ?_
  refine jr_aload_n K (D_at DX8_copyFrom_1 9 rfl) rfl rfl ?_
  refine jr_aload_n K (D_at DX8_copyFrom_1 10 rfl) rfl rfl ?_
  obtain ⟨h146, e146, hf⟩ := jbind hf
  obtain ⟨rc_146, e146⟩ := jcv_o e146
  refine jr_callV K (C_X8_hangAs (d) e146) (D_at DX8_copyFrom_1 11 rfl) cv_X8_75_X8_hangAs (As := [.ref a1]) (ci := 6) rfl rc_146 rfl rfl (by exact Nat.le_of_ble_eq_true rfl) (kc2 := 0) (ks2 := 0) rfl rfl (fun k9 h9 w9 => by cases w9.1) (fun r9 h9 w9 => ?_)
  obtain ⟨w1, w2⟩ := w9
  subst h9
  cases w1
  show jJ G X _ 0 0 _ _ []
  cases hf
  exact jr_vret K E (D_at DX8_copyFrom_1 12 rfl) rfl ⟨rfl, rfl⟩
theorem C_X8_copyFrom {G : jG} {l : Launch} (d : Nat) {n : Nat} {a0 : Nat} {a1 : Nat} {h : jH} {res : jH} (hf : F_X8_copyFrom n a0 a1 h = some res) : jC G l mX8_copyFrom (d + 2) 0 0 [.ref a0, .ref a1] h (jPV res) :=
  jC.of (by decide +kernel) (jcats rfl) (Nat.le_of_ble_eq_true rfl) (fun X K E => J_X8_copyFrom K n E a0 a1 h hf)
set_option maxHeartbeats 400000 in
set_option maxRecDepth 100000 in
theorem J_X8_nearestNew {G : jG} {l : Launch} {d : Nat} {X : jX} {res : Int32} (K : jOK G l mX8_nearestNew (d) X) (n : Nat) (h : jH) (E : jEnd G mX8_nearestNew (jPR h res) X) (a0 : Nat) (hf : F_X8_nearestNew n a0 h = some res) : jJ G X h 0 0 0 [some (.ref a0)] [] := by
  unfold F_X8_nearestNew at hf
  refine jr_aload_n K (D_at DX8_nearestNew 0 rfl) rfl rfl ?_
  obtain ⟨v1, e1, hf⟩ := jbind hf
  refine jr_getI K (D_at DX8_nearestNew 1 rfl) fg_X8_51_6 e1 ?_
  refine jr_if_ne K (D_at DX8_nearestNew 2 rfl) (tgt := 11) (by decide) (fun c4 => ?_) (fun c4 => ?_)
  · replace hf := (if_neg c4).symm.trans hf
    refine jr_aload_n K (D_at DX8_nearestNew 5 rfl) rfl rfl ?_
    obtain ⟨p12, e12, hf⟩ := jbind hf
    refine jr_getR K (D_at DX8_nearestNew 6 rfl) fg_X8_9_6 e12 ?_
    refine jr_aload_n K (D_at DX8_nearestNew 7 rfl) rfl rfl ?_
    obtain ⟨v16, e16, hf⟩ := jbind hf
    refine jr_getI K (D_at DX8_nearestNew 8 rfl) fg_X8_51_6 e16 ?_
    refine jr_iconst K (D_at DX8_nearestNew 9 rfl) (v := (1 : Int32)) (by decide) ?_
    refine jr_isub K (D_at DX8_nearestNew 10 rfl) ?_
    obtain ⟨v21, e21, hf⟩ := jbind hf
    refine jr_iald K (D_at DX8_nearestNew 11 rfl) e21 ?_
    refine jr_iconst K (D_at DX8_nearestNew 12 rfl) (v := (1 : Int32)) (by decide) ?_
    refine jr_iadd K (D_at DX8_nearestNew 13 rfl) ?_
    cases hf
    exact jr_iret K E (D_at DX8_nearestNew 14 rfl) rfl ⟨rfl, rfl⟩
  · replace hf := (if_pos c4).symm.trans hf
    refine jr_iconst K (D_at DX8_nearestNew 3 rfl) (v := (0 : Int32)) (by decide) ?_
    refine jr_goto K (D_at DX8_nearestNew 4 rfl) (tgt := 24) (by decide) ?_
    cases hf
    exact jr_iret K E (D_at DX8_nearestNew 14 rfl) rfl ⟨rfl, rfl⟩
theorem C_X8_nearestNew {G : jG} {l : Launch} (d : Nat) {n : Nat} {a0 : Nat} {h : jH} {res : Int32} (hf : F_X8_nearestNew n a0 h = some res) : jC G l mX8_nearestNew (d) 0 0 [.ref a0] h (jPR h res) :=
  jC.of (by decide +kernel) (jcats rfl) (Nat.le_of_ble_eq_true rfl) (fun X K E => J_X8_nearestNew K n h E a0 hf)
set_option maxHeartbeats 400000 in
set_option maxRecDepth 100000 in
theorem J_X8_farthestNew {G : jG} {l : Launch} {d : Nat} {X : jX} {res : Int32} (K : jOK G l mX8_farthestNew (d + 1) X) (n : Nat) (h : jH) (E : jEnd G mX8_farthestNew (jPR h res) X) (a0 : Nat) (hf : F_X8_farthestNew n a0 h = some res) : jJ G X h 0 0 0 [some (.ref a0)] [] := by
  unfold F_X8_farthestNew at hf
  refine jr_aload_n K (D_at DX8_farthestNew 0 rfl) rfl rfl ?_
  obtain ⟨v1, e1, hf⟩ := jbind hf
  refine jr_getI K (D_at DX8_farthestNew 1 rfl) fg_X8_51_6 e1 ?_
  refine jr_if_ne K (D_at DX8_farthestNew 2 rfl) (tgt := 12) (by decide) (fun c4 => ?_) (fun c4 => ?_)
  · replace hf := (if_neg c4).symm.trans hf
    refine jr_bipush K (D_at DX8_farthestNew 5 rfl) (v := (31 : Int32)) (by decide) ?_
    refine jr_aload_n K (D_at DX8_farthestNew 6 rfl) rfl rfl ?_
    obtain ⟨p15, e15, hf⟩ := jbind hf
    refine jr_getR K (D_at DX8_farthestNew 7 rfl) fg_X8_9_6 e15 ?_
    refine jr_aload_n K (D_at DX8_farthestNew 8 rfl) rfl rfl ?_
    obtain ⟨v19, e19, hf⟩ := jbind hf
    refine jr_getI K (D_at DX8_farthestNew 9 rfl) fg_X8_51_6 e19 ?_
    refine jr_iconst K (D_at DX8_farthestNew 10 rfl) (v := (1 : Int32)) (by decide) ?_
    refine jr_isub K (D_at DX8_farthestNew 11 rfl) ?_
    obtain ⟨v24, e24, hf⟩ := jbind hf
    refine jr_iald K (D_at DX8_farthestNew 12 rfl) e24 ?_
    refine jr_aload_n K (D_at DX8_farthestNew 13 rfl) rfl rfl ?_
    obtain ⟨p26, e26, hf⟩ := jbind hf
    refine jr_getR K (D_at DX8_farthestNew 14 rfl) fg_X8_15_6 e26 ?_
    refine jr_aload_n K (D_at DX8_farthestNew 15 rfl) rfl rfl ?_
    obtain ⟨v30, e30, hf⟩ := jbind hf
    refine jr_getI K (D_at DX8_farthestNew 16 rfl) fg_X8_51_6 e30 ?_
    refine jr_iconst K (D_at DX8_farthestNew 17 rfl) (v := (1 : Int32)) (by decide) ?_
    refine jr_isub K (D_at DX8_farthestNew 18 rfl) ?_
    obtain ⟨v35, e35, hf⟩ := jbind hf
    refine jr_iald K (D_at DX8_farthestNew 19 rfl) e35 ?_
    refine jr_iadd K (D_at DX8_farthestNew 20 rfl) ?_
    refine jr_min K (D_at DX8_farthestNew 21 rfl) mm_X8_85 (by exact Nat.le_of_ble_eq_true rfl) ?_
    cases hf
    exact jr_iret K E (D_at DX8_farthestNew 22 rfl) rfl ⟨rfl, rfl⟩
  · replace hf := (if_pos c4).symm.trans hf
    refine jr_bipush K (D_at DX8_farthestNew 3 rfl) (v := (31 : Int32)) (by decide) ?_
    refine jr_goto K (D_at DX8_farthestNew 4 rfl) (tgt := 40) (by decide) ?_
    cases hf
    exact jr_iret K E (D_at DX8_farthestNew 22 rfl) rfl ⟨rfl, rfl⟩
theorem C_X8_farthestNew {G : jG} {l : Launch} (d : Nat) {n : Nat} {a0 : Nat} {h : jH} {res : Int32} (hf : F_X8_farthestNew n a0 h = some res) : jC G l mX8_farthestNew (d + 1) 0 0 [.ref a0] h (jPR h res) :=
  jC.of (by decide +kernel) (jcats rfl) (Nat.le_of_ble_eq_true rfl) (fun X K E => J_X8_farthestNew K n h E a0 hf)
set_option maxHeartbeats 400000 in
set_option maxRecDepth 100000 in
theorem J_X8_add {G : jG} {l : Launch} {d : Nat} {X : jX} {res : jH} (K : jOK G l mX8_add (d + 1) X) (n : Nat) (E : jEnd G mX8_add (jPV res) X) (a0 : Nat) (x1 : Int32) (x2 : Int32) (h : jH) (hf : F_X8_add n a0 x1 x2 h = some res) : jJ G X h 0 0 0 [some (.ref a0), some (.int x1), some (.int x2)] [] := by
  unfold F_X8_add at hf
  refine jr_aload_n K (D_at DX8_add 0 rfl) rfl rfl ?_
  obtain ⟨v1, e1, hf⟩ := jbind hf
  refine jr_getI K (D_at DX8_add 1 rfl) fg_X8_51_6 e1 ?_
  refine jr_bipush K (D_at DX8_add 2 rfl) (v := (8 : Int32)) (by decide) ?_
  refine jr_icmp_lt K (D_at DX8_add 3 rfl) (tgt := 10) (by decide) (fun c6 => ?_) (fun c6 => ?_)
  · replace hf := (if_pos c6).symm.trans hf
    refine jr_aload_n K (D_at DX8_add 5 rfl) rfl rfl ?_
    obtain ⟨p11, e11, hf⟩ := jbind hf
    refine jr_getR K (D_at DX8_add 6 rfl) fg_X8_9_6 e11 ?_
    refine jr_aload_n K (D_at DX8_add 7 rfl) rfl rfl ?_
    obtain ⟨v15, e15, hf⟩ := jbind hf
    refine jr_getI K (D_at DX8_add 8 rfl) fg_X8_51_6 e15 ?_
    refine jr_iload_n K (D_at DX8_add 9 rfl) rfl rfl ?_
    obtain ⟨h19, e19, hf⟩ := jbind hf
    refine jr_iast K (D_at DX8_add 10 rfl) e19 ?_
    refine jr_aload_n K (D_at DX8_add 11 rfl) rfl rfl ?_
    obtain ⟨p21, e21, hf⟩ := jbind hf
    refine jr_getR K (D_at DX8_add 12 rfl) fg_X8_15_6 e21 ?_
    refine jr_aload_n K (D_at DX8_add 13 rfl) rfl rfl ?_
    obtain ⟨v25, e25, hf⟩ := jbind hf
    refine jr_getI K (D_at DX8_add 14 rfl) fg_X8_51_6 e25 ?_
    refine jr_iload_n K (D_at DX8_add 15 rfl) rfl rfl ?_
    obtain ⟨h29, e29, hf⟩ := jbind hf
    refine jr_iast K (D_at DX8_add 16 rfl) e29 ?_
    refine jr_aload_n K (D_at DX8_add 17 rfl) rfl rfl ?_
    obtain ⟨p31, e31, hf⟩ := jbind hf
    refine jr_getR K (D_at DX8_add 18 rfl) fg_X8_18_6 e31 ?_
    refine jr_aload_n K (D_at DX8_add 19 rfl) rfl rfl ?_
    obtain ⟨v35, e35, hf⟩ := jbind hf
    refine jr_getI K (D_at DX8_add 20 rfl) fg_X8_51_6 e35 ?_
    refine jr_iconst K (D_at DX8_add 21 rfl) (v := (0 : Int32)) (by decide) ?_
    obtain ⟨h39, e39, hf⟩ := jbind hf
    refine jr_iast K (D_at DX8_add 22 rfl) e39 ?_
    refine jr_aload_n K (D_at DX8_add 23 rfl) rfl rfl ?_
    obtain ⟨p41, e41, hf⟩ := jbind hf
    refine jr_getR K (D_at DX8_add 24 rfl) fg_X8_21_6 e41 ?_
    refine jr_aload_n K (D_at DX8_add 25 rfl) rfl rfl ?_
    obtain ⟨v45, e45, hf⟩ := jbind hf
    refine jr_getI K (D_at DX8_add 26 rfl) fg_X8_51_6 e45 ?_
    refine jr_iconst K (D_at DX8_add 27 rfl) (v := (0 : Int32)) (by decide) ?_
    obtain ⟨h49, e49, hf⟩ := jbind hf
    refine jr_iast K (D_at DX8_add 28 rfl) e49 ?_
    refine jr_aload_n K (D_at DX8_add 29 rfl) rfl rfl ?_
    refine jr_aload_n K (D_at DX8_add 30 rfl) rfl rfl ?_
    obtain ⟨v52, e52, hf⟩ := jbind hf
    refine jr_getI K (D_at DX8_add 31 rfl) fg_X8_54_6 e52 ?_
    refine jr_aload_n K (D_at DX8_add 32 rfl) rfl rfl ?_
    obtain ⟨v56, e56, hf⟩ := jbind hf
    refine jr_getI K (D_at DX8_add 33 rfl) fg_X8_51_6 e56 ?_
    refine jr_iconst K (D_at DX8_add 34 rfl) (v := (0 : Int32)) (by decide) ?_
    obtain ⟨v60, e60, hf⟩ := jbind hf
    refine jr_callSN K (C_X11_withBit (d) e60) (D_at DX8_add 35 rfl) csn_X8_91_X11_withBit (As := [.int v52, .int v56, .int (0 : Int32)]) rfl rfl (by exact Nat.le_of_ble_eq_true rfl) (kc2 := 0) (ks2 := 0) rfl rfl (fun k9 h9 w9 => by cases w9.1) (fun r9 h9 w9 => ?_)
    obtain ⟨w1, w2⟩ := w9
    subst h9
    cases w1
    show jJ G X _ 0 0 _ _ (.int v60 :: _)
    obtain ⟨h63, e63, hf⟩ := jbind hf
    refine jr_putI K (D_at DX8_add 36 rfl) fp_X8_54_6 (Or.inl rfl) e63 ?_
    refine jr_aload_n K (D_at DX8_add 37 rfl) rfl rfl ?_
    refine jr_aload_n K (D_at DX8_add 38 rfl) rfl rfl ?_
    obtain ⟨v68, e68, hf⟩ := jbind hf
    refine jr_getI K (D_at DX8_add 39 rfl) fg_X8_57_6 e68 ?_
    refine jr_aload_n K (D_at DX8_add 40 rfl) rfl rfl ?_
    obtain ⟨v72, e72, hf⟩ := jbind hf
    refine jr_getI K (D_at DX8_add 41 rfl) fg_X8_51_6 e72 ?_
    refine jr_iconst K (D_at DX8_add 42 rfl) (v := (0 : Int32)) (by decide) ?_
    obtain ⟨v76, e76, hf⟩ := jbind hf
    refine jr_callSN K (C_X11_withBit (d) e76) (D_at DX8_add 43 rfl) csn_X8_91_X11_withBit (As := [.int v68, .int v72, .int (0 : Int32)]) rfl rfl (by exact Nat.le_of_ble_eq_true rfl) (kc2 := 0) (ks2 := 0) rfl rfl (fun k9 h9 w9 => by cases w9.1) (fun r9 h9 w9 => ?_)
    obtain ⟨w1, w2⟩ := w9
    subst h9
    cases w1
    show jJ G X _ 0 0 _ _ (.int v76 :: _)
    obtain ⟨h79, e79, hf⟩ := jbind hf
    refine jr_putI K (D_at DX8_add 44 rfl) fp_X8_57_6 (Or.inl rfl) e79 ?_
    refine jr_aload_n K (D_at DX8_add 45 rfl) rfl rfl ?_
    refine jr_aload_n K (D_at DX8_add 46 rfl) rfl rfl ?_
    obtain ⟨v84, e84, hf⟩ := jbind hf
    refine jr_getI K (D_at DX8_add 47 rfl) fg_X8_60_6 e84 ?_
    refine jr_aload_n K (D_at DX8_add 48 rfl) rfl rfl ?_
    obtain ⟨v88, e88, hf⟩ := jbind hf
    refine jr_getI K (D_at DX8_add 49 rfl) fg_X8_51_6 e88 ?_
    refine jr_iconst K (D_at DX8_add 50 rfl) (v := (1 : Int32)) (by decide) ?_
    obtain ⟨v92, e92, hf⟩ := jbind hf
    refine jr_callSN K (C_X11_withBit (d) e92) (D_at DX8_add 51 rfl) csn_X8_91_X11_withBit (As := [.int v84, .int v88, .int (1 : Int32)]) rfl rfl (by exact Nat.le_of_ble_eq_true rfl) (kc2 := 0) (ks2 := 0) rfl rfl (fun k9 h9 w9 => by cases w9.1) (fun r9 h9 w9 => ?_)
    obtain ⟨w1, w2⟩ := w9
    subst h9
    cases w1
    show jJ G X _ 0 0 _ _ (.int v92 :: _)
    obtain ⟨h95, e95, hf⟩ := jbind hf
    refine jr_putI K (D_at DX8_add 52 rfl) fp_X8_60_6 (Or.inl rfl) e95 ?_
    refine jr_aload_n K (D_at DX8_add 53 rfl) rfl rfl ?_
    refine jr_aload_n K (D_at DX8_add 54 rfl) rfl rfl ?_
    obtain ⟨v100, e100, hf⟩ := jbind hf
    refine jr_getI K (D_at DX8_add 55 rfl) fg_X8_82_6 e100 ?_
    refine jr_aload_n K (D_at DX8_add 56 rfl) rfl rfl ?_
    obtain ⟨v104, e104, hf⟩ := jbind hf
    refine jr_getI K (D_at DX8_add 57 rfl) fg_X8_51_6 e104 ?_
    refine jr_iconst K (D_at DX8_add 58 rfl) (v := (0 : Int32)) (by decide) ?_
    obtain ⟨v108, e108, hf⟩ := jbind hf
    refine jr_callSN K (C_X11_withBit (d) e108) (D_at DX8_add 59 rfl) csn_X8_91_X11_withBit (As := [.int v100, .int v104, .int (0 : Int32)]) rfl rfl (by exact Nat.le_of_ble_eq_true rfl) (kc2 := 0) (ks2 := 0) rfl rfl (fun k9 h9 w9 => by cases w9.1) (fun r9 h9 w9 => ?_)
    obtain ⟨w1, w2⟩ := w9
    subst h9
    cases w1
    show jJ G X _ 0 0 _ _ (.int v108 :: _)
    obtain ⟨h111, e111, hf⟩ := jbind hf
    refine jr_putI K (D_at DX8_add 60 rfl) fp_X8_82_6 (Or.inl rfl) e111 ?_
    refine jr_aload_n K (D_at DX8_add 61 rfl) rfl rfl ?_
    refine jr_dup K (D_at DX8_add 62 rfl) rfl ?_
    obtain ⟨v116, e116, hf⟩ := jbind hf
    refine jr_getI K (D_at DX8_add 63 rfl) fg_X8_51_6 e116 ?_
    refine jr_iconst K (D_at DX8_add_1 0 rfl) (v := (1 : Int32)) (by decide) ?_
    refine jr_iadd K (D_at DX8_add_1 1 rfl) ?_
    obtain ⟨h121, e121, hf⟩ := jbind hf
    refine jr_putI K (D_at DX8_add_1 2 rfl) fp_X8_51_6 (Or.inl rfl) e121 ?_
    cases hf
    exact jr_vret K E (D_at DX8_add_1 3 rfl) rfl ⟨rfl, rfl⟩
  · replace hf := (if_neg c6).symm.trans hf
    cases hf
    exact jr_vret K E (D_at DX8_add 4 rfl) rfl ⟨rfl, rfl⟩
theorem C_X8_add {G : jG} {l : Launch} (d : Nat) {n : Nat} {a0 : Nat} {x1 : Int32} {x2 : Int32} {h : jH} {res : jH} (hf : F_X8_add n a0 x1 x2 h = some res) : jC G l mX8_add (d + 1) 0 0 [.ref a0, .int x1, .int x2] h (jPV res) :=
  jC.of (by decide +kernel) (jcats rfl) (Nat.le_of_ble_eq_true rfl) (fun X K E => J_X8_add K n E a0 x1 x2 h hf)
set_option maxHeartbeats 400000 in
set_option maxRecDepth 100000 in
theorem J_X8_unhooked {G : jG} {l : Launch} {d : Nat} {X : jX} {res : Int32} (K : jOK G l mX8_unhooked (d) X) (n : Nat) (h : jH) (E : jEnd G mX8_unhooked (jPR h res) X) (a0 : Nat) (hf : F_X8_unhooked n a0 h = some res) : jJ G X h 0 0 0 [some (.ref a0)] [] := by
  unfold F_X8_unhooked at hf
  refine jr_iconst K (D_at DX8_unhooked 0 rfl) (v := (1 : Int32)) (by decide) ?_
  refine jr_aload_n K (D_at DX8_unhooked 1 rfl) rfl rfl ?_
  obtain ⟨v2, e2, hf⟩ := jbind hf
  refine jr_getI K (D_at DX8_unhooked 2 rfl) fg_X8_51_6 e2 ?_
  refine jr_ishl K (D_at DX8_unhooked 3 rfl) ?_
  refine jr_iconst K (D_at DX8_unhooked 4 rfl) (v := (1 : Int32)) (by decide) ?_
  refine jr_isub K (D_at DX8_unhooked 5 rfl) ?_
  refine jr_aload_n K (D_at DX8_unhooked 6 rfl) rfl rfl ?_
  obtain ⟨v9, e9, hf⟩ := jbind hf
  refine jr_getI K (D_at DX8_unhooked 7 rfl) fg_X8_60_6 e9 ?_
  refine jr_iconst K (D_at DX8_unhooked 8 rfl) (v := (-1 : Int32)) (by decide) ?_
  refine jr_ixor K (D_at DX8_unhooked 9 rfl) ?_
  refine jr_iand K (D_at DX8_unhooked 10 rfl) ?_
  cases hf
  exact jr_iret K E (D_at DX8_unhooked 11 rfl) rfl ⟨rfl, rfl⟩
theorem C_X8_unhooked {G : jG} {l : Launch} (d : Nat) {n : Nat} {a0 : Nat} {h : jH} {res : Int32} (hf : F_X8_unhooked n a0 h = some res) : jC G l mX8_unhooked (d) 0 0 [.ref a0] h (jPR h res) :=
  jC.of (by decide +kernel) (jcats rfl) (Nat.le_of_ble_eq_true rfl) (fun X K E => J_X8_unhooked K n h E a0 hf)
set_option maxHeartbeats 400000 in
set_option maxRecDepth 100000 in
theorem J_X8_shadow_4_b {G : jG} {l : Launch} {d : Nat} {X : jX} {res : Int32} (K : jOK G l mX8_shadow (d + 1) X) (n : Nat) (h : jH) (rc4 : Nat → Int32 → Int32 → jH → Option Int32) (hr4 : ∀ (a0 : Nat) (x1 : Int32) (x2 : Int32), rc4 a0 x1 x2 h = some res → jJ G X h 0 0 4 [some (.ref a0), some (.int x1), some (.int x2)] []) (E : jEnd G mX8_shadow (jPR h res) X) (a0 : Nat) (x1 : Int32) (x2 : Int32) (hf : F_X8_shadow_4_b n rc4 a0 x1 x2 h = some res) : jJ G X h 0 0 4 [some (.ref a0), some (.int x1), some (.int x2)] [] := by
  unfold F_X8_shadow_4_b at hf
  refine jr_iload_n K (D_at DX8_shadow 4 rfl) rfl rfl ?_
  refine jr_iconst K (D_at DX8_shadow 5 rfl) (v := (1 : Int32)) (by decide) ?_
  refine jr_iadd K (D_at DX8_shadow 6 rfl) ?_
  refine jr_aload_n K (D_at DX8_shadow 7 rfl) rfl rfl ?_
  obtain ⟨v8, e8, hf⟩ := jbind hf
  refine jr_getI K (D_at DX8_shadow 8 rfl) fg_X8_51_6 e8 ?_
  refine jr_icmp_ge K (D_at DX8_shadow 9 rfl) (tgt := 71) (by decide) (fun c11 => ?_) (fun c11 => ?_)
  · replace hf := (if_pos c11).symm.trans hf
    refine jr_iload_n K (D_at DX8_shadow 46 rfl) rfl rfl ?_
    cases hf
    exact jr_iret K E (D_at DX8_shadow 47 rfl) rfl ⟨rfl, rfl⟩
  · replace hf := (if_neg c11).symm.trans hf
    refine jr_aload_n K (D_at DX8_shadow 10 rfl) rfl rfl ?_
    obtain ⟨v15, e15, hf⟩ := jbind hf
    refine jr_getI K (D_at DX8_shadow 11 rfl) fg_X8_60_6 e15 ?_
    refine jr_iload_n K (D_at DX8_shadow 12 rfl) rfl rfl ?_
    obtain ⟨v19, e19, hf⟩ := jbind hf
    refine jr_callSN K (C_X11_bit (d) e19) (D_at DX8_shadow 13 rfl) csn_X8_95_X11_bit (As := [.int v15, .int x2]) rfl rfl (by exact Nat.le_of_ble_eq_true rfl) (kc2 := 0) (ks2 := 0) rfl rfl (fun k9 h9 w9 => by cases w9.1) (fun r9 h9 w9 => ?_)
    obtain ⟨w1, w2⟩ := w9
    subst h9
    cases w1
    show jJ G X _ 0 0 _ _ (.int v19 :: _)
    refine jr_iconst K (D_at DX8_shadow 14 rfl) (v := (1 : Int32)) (by decide) ?_
    refine jr_icmp_ne K (D_at DX8_shadow 15 rfl) (tgt := 65) (by decide) (fun c23 => ?_) (fun c23 => ?_)
    · replace hf := (if_neg c23).symm.trans hf
      refine jr_iinc K (D_at DX8_shadow 44 rfl) (i := 2) rfl (v := x2 + (1 : Int32)) (jinc (by decide)) (by decide) (L2 := [_, _, _]) rfl ?_
      refine jr_goto K (D_at DX8_shadow 45 rfl) (tgt := 4) (by decide) ?_
      refine jr_keep [true, true, true] ?_
      exact hr4 a0 x1 (x2 + (1 : Int32)) hf
    · replace hf := (if_pos c23).symm.trans hf
      refine jr_aload_n K (D_at DX8_shadow 16 rfl) rfl rfl ?_
      obtain ⟨v27, e27, hf⟩ := jbind hf
      refine jr_getI K (D_at DX8_shadow 17 rfl) fg_X8_60_6 e27 ?_
      refine jr_iload_n K (D_at DX8_shadow 18 rfl) rfl rfl ?_
      refine jr_iconst K (D_at DX8_shadow 19 rfl) (v := (1 : Int32)) (by decide) ?_
      refine jr_iadd K (D_at DX8_shadow 20 rfl) ?_
      obtain ⟨v33, e33, hf⟩ := jbind hf
      refine jr_callSN K (C_X11_bit (d) e33) (D_at DX8_shadow 21 rfl) csn_X8_95_X11_bit (As := [.int v27, .int (x2 + (1 : Int32))]) rfl rfl (by exact Nat.le_of_ble_eq_true rfl) (kc2 := 0) (ks2 := 0) rfl rfl (fun k9 h9 w9 => by cases w9.1) (fun r9 h9 w9 => ?_)
      obtain ⟨w1, w2⟩ := w9
      subst h9
      cases w1
      show jJ G X _ 0 0 _ _ (.int v33 :: _)
      refine jr_iconst K (D_at DX8_shadow 22 rfl) (v := (1 : Int32)) (by decide) ?_
      refine jr_icmp_ne K (D_at DX8_shadow 23 rfl) (tgt := 65) (by decide) (fun c37 => ?_) (fun c37 => ?_)
      · replace hf := (if_neg c37).symm.trans hf
        refine jr_iinc K (D_at DX8_shadow 44 rfl) (i := 2) rfl (v := x2 + (1 : Int32)) (jinc (by decide)) (by decide) (L2 := [_, _, _]) rfl ?_
        refine jr_goto K (D_at DX8_shadow 45 rfl) (tgt := 4) (by decide) ?_
        refine jr_keep [true, true, true] ?_
        exact hr4 a0 x1 (x2 + (1 : Int32)) hf
      · replace hf := (if_pos c37).symm.trans hf
        refine jr_iload_n K (D_at DX8_shadow 24 rfl) rfl rfl ?_
        refine jr_iconst K (D_at DX8_shadow 25 rfl) (v := (-1 : Int32)) (by decide) ?_
        refine jr_aload_n K (D_at DX8_shadow 26 rfl) rfl rfl ?_
        obtain ⟨p43, e43, hf⟩ := jbind hf
        refine jr_getR K (D_at DX8_shadow 27 rfl) fg_X8_9_6 e43 ?_
        refine jr_iload_n K (D_at DX8_shadow 28 rfl) rfl rfl ?_
        obtain ⟨v47, e47, hf⟩ := jbind hf
        refine jr_iald K (D_at DX8_shadow 29 rfl) e47 ?_
        refine jr_ishl K (D_at DX8_shadow 30 rfl) ?_
        refine jr_iconst K (D_at DX8_shadow 31 rfl) (v := (-1 : Int32)) (by decide) ?_
        refine jr_bipush K (D_at DX8_shadow 32 rfl) (v := (31 : Int32)) (by decide) ?_
        refine jr_aload_n K (D_at DX8_shadow 33 rfl) rfl rfl ?_
        obtain ⟨p53, e53, hf⟩ := jbind hf
        refine jr_getR K (D_at DX8_shadow 34 rfl) fg_X8_9_6 e53 ?_
        refine jr_iload_n K (D_at DX8_shadow 35 rfl) rfl rfl ?_
        refine jr_iconst K (D_at DX8_shadow 36 rfl) (v := (1 : Int32)) (by decide) ?_
        refine jr_iadd K (D_at DX8_shadow 37 rfl) ?_
        obtain ⟨v59, e59, hf⟩ := jbind hf
        refine jr_iald K (D_at DX8_shadow 38 rfl) e59 ?_
        refine jr_isub K (D_at DX8_shadow 39 rfl) ?_
        refine jr_iushr K (D_at DX8_shadow 40 rfl) (v := jushr (-1 : Int32) ((31 : Int32) - v59)) rfl ?_
        refine jr_iand K (D_at DX8_shadow 41 rfl) ?_
        refine jr_ior K (D_at DX8_shadow 42 rfl) ?_
        refine jr_istore_n K (D_at DX8_shadow 43 rfl) (i := 1) rfl (by decide) (L2 := [_, _, _]) rfl ?_
        refine jr_iinc K (D_at DX8_shadow 44 rfl) (i := 2) rfl (v := x2 + (1 : Int32)) (jinc (by decide)) (by decide) (L2 := [_, _, _]) rfl ?_
        refine jr_goto K (D_at DX8_shadow 45 rfl) (tgt := 4) (by decide) ?_
        refine jr_keep [true, true, true] ?_
        exact hr4 a0 (x1 ||| (((-1 : Int32) <<< (v47 &&& 31)) &&& (jushr (-1 : Int32) ((31 : Int32) - v59)))) (x2 + (1 : Int32)) hf
theorem J_X8_shadow_4 {G : jG} {l : Launch} {d : Nat} {X : jX} {res : Int32} (K : jOK G l mX8_shadow (d + 1) X) (n : Nat) (h : jH) (E : jEnd G mX8_shadow (jPR h res) X) (k : Nat) : ∀ (a0 : Nat) (x1 : Int32) (x2 : Int32), F_X8_shadow_4 n k a0 x1 x2 h = some res → jJ G X h 0 0 4 [some (.ref a0), some (.int x1), some (.int x2)] [] := by
  induction k with
  | zero =>
    intro a0 x1 x2 hf
    exact jno (show (none : Option Int32) = some res from hf)
  | succ k ih =>
    intro a0 x1 x2 hf
    exact J_X8_shadow_4_b K n h (F_X8_shadow_4 n k) ih E a0 x1 x2 hf
set_option maxHeartbeats 400000 in
set_option maxRecDepth 100000 in
theorem J_X8_shadow {G : jG} {l : Launch} {d : Nat} {X : jX} {res : Int32} (K : jOK G l mX8_shadow (d + 1) X) (n : Nat) (h : jH) (E : jEnd G mX8_shadow (jPR h res) X) (a0 : Nat) (hf : F_X8_shadow n a0 h = some res) : jJ G X h 0 0 0 [some (.ref a0), none, none] [] := by
  unfold F_X8_shadow at hf
  refine jr_iconst K (D_at DX8_shadow 0 rfl) (v := (0 : Int32)) (by decide) ?_
  refine jr_istore_n K (D_at DX8_shadow 1 rfl) (i := 1) rfl (by decide) (L2 := [_, _, _]) rfl ?_
  refine jr_iconst K (D_at DX8_shadow 2 rfl) (v := (0 : Int32)) (by decide) ?_
  refine jr_istore_n K (D_at DX8_shadow 3 rfl) (i := 2) rfl (by decide) (L2 := [_, _, _]) rfl ?_
  refine jr_keep [true, true, true] ?_
  exact J_X8_shadow_4 K n h E n a0 (0 : Int32) (0 : Int32) hf
theorem C_X8_shadow {G : jG} {l : Launch} (d : Nat) {n : Nat} {a0 : Nat} {h : jH} {res : Int32} (hf : F_X8_shadow n a0 h = some res) : jC G l mX8_shadow (d + 1) 0 0 [.ref a0] h (jPR h res) :=
  jC.of (by decide +kernel) (jcats rfl) (Nat.le_of_ble_eq_true rfl) (fun X K E => J_X8_shadow K n h E a0 hf)
set_option maxHeartbeats 400000 in
set_option maxRecDepth 100000 in
theorem J_X8_shadedChairs {G : jG} {l : Launch} {d : Nat} {X : jX} {res : Int32} (K : jOK G l mX8_shadedChairs (d + 2) X) (n : Nat) (h : jH) (E : jEnd G mX8_shadedChairs (jPR h res) X) (a0 : Nat) (hf : F_X8_shadedChairs n a0 h = some res) : jJ G X h 0 0 0 [some (.ref a0)] [] := by
  unfold F_X8_shadedChairs at hf
  refine jr_aload_n K (D_at DX8_shadedChairs 0 rfl) rfl rfl ?_
  obtain ⟨v1, e1, hf⟩ := jbind hf
  refine jr_getI K (D_at DX8_shadedChairs 1 rfl) fg_X8_63_6 e1 ?_
  refine jr_aload_n K (D_at DX8_shadedChairs 2 rfl) rfl rfl ?_
  obtain ⟨v5, e5, hf⟩ := jbind hf
  obtain ⟨rc_5, e5⟩ := jcv_o e5
  refine jr_callV K (C_X8_shadow (d) e5) (D_at DX8_shadedChairs 3 rfl) cv_X8_98_X8_shadow (As := []) (ci := 6) rfl rc_5 rfl rfl (by exact Nat.le_of_ble_eq_true rfl) (kc2 := 0) (ks2 := 0) rfl rfl (fun k9 h9 w9 => by cases w9.1) (fun r9 h9 w9 => ?_)
  obtain ⟨w1, w2⟩ := w9
  subst h9
  cases w1
  show jJ G X _ 0 0 _ _ (.int v5 :: _)
  refine jr_iand K (D_at DX8_shadedChairs 4 rfl) ?_
  obtain ⟨v9, e9, hf⟩ := jbind hf
  refine jr_callS K (C_J6_bitCount_0f7a4 (d + 1) e9) (D_at DX8_shadedChairs 5 rfl) cs_X8_102_J6_bitCount_0f7a4 (As := [.int (v1 &&& v5)]) rfl rfl (by exact Nat.le_of_ble_eq_true rfl) (kc2 := 0) (ks2 := 0) rfl rfl (fun k9 h9 w9 => by cases w9.1) (fun r9 h9 w9 => ?_)
  obtain ⟨w1, w2⟩ := w9
  subst h9
  cases w1
  show jJ G X _ 0 0 _ _ (.int v9 :: _)
  cases hf
  exact jr_iret K E (D_at DX8_shadedChairs 6 rfl) rfl ⟨rfl, rfl⟩
theorem C_X8_shadedChairs {G : jG} {l : Launch} (d : Nat) {n : Nat} {a0 : Nat} {h : jH} {res : Int32} (hf : F_X8_shadedChairs n a0 h = some res) : jC G l mX8_shadedChairs (d + 2) 0 0 [.ref a0] h (jPR h res) :=
  jC.of (by decide +kernel) (jcats rfl) (Nat.le_of_ble_eq_true rfl) (fun X K E => J_X8_shadedChairs K n h E a0 hf)
set_option maxHeartbeats 400000 in
set_option maxRecDepth 100000 in
theorem J_X8_goTogether {G : jG} {l : Launch} {d : Nat} {X : jX} {res : Int32} (K : jOK G l mX8_goTogether (d) X) (n : Nat) (h : jH) (E : jEnd G mX8_goTogether (jPR h res) X) (a0 : Nat) (x1 : Int32) (x2 : Int32) (hf : F_X8_goTogether n a0 x1 x2 h = some res) : jJ G X h 0 0 0 [some (.ref a0), some (.int x1), some (.int x2), none] [] := by
  unfold F_X8_goTogether at hf
  refine jr_aload_n K (D_at DX8_goTogether 0 rfl) rfl rfl ?_
  obtain ⟨p1, e1, hf⟩ := jbind hf
  refine jr_getR K (D_at DX8_goTogether 1 rfl) fg_X8_9_6 e1 ?_
  refine jr_iload_n K (D_at DX8_goTogether 2 rfl) rfl rfl ?_
  refine jr_iconst K (D_at DX8_goTogether 3 rfl) (v := (1 : Int32)) (by decide) ?_
  refine jr_iadd K (D_at DX8_goTogether 4 rfl) ?_
  obtain ⟨v7, e7, hf⟩ := jbind hf
  refine jr_iald K (D_at DX8_goTogether 5 rfl) e7 ?_
  refine jr_aload_n K (D_at DX8_goTogether 6 rfl) rfl rfl ?_
  obtain ⟨p9, e9, hf⟩ := jbind hf
  refine jr_getR K (D_at DX8_goTogether 7 rfl) fg_X8_9_6 e9 ?_
  refine jr_iload_n K (D_at DX8_goTogether 8 rfl) rfl rfl ?_
  obtain ⟨v13, e13, hf⟩ := jbind hf
  refine jr_iald K (D_at DX8_goTogether 9 rfl) e13 ?_
  refine jr_isub K (D_at DX8_goTogether 10 rfl) ?_
  refine jr_istore_n K (D_at DX8_goTogether 11 rfl) (i := 3) rfl (by decide) (L2 := [_, _, _, _]) rfl ?_
  refine jr_aload_n K (D_at DX8_goTogether 12 rfl) rfl rfl ?_
  obtain ⟨v17, e17, hf⟩ := jbind hf
  refine jr_getI K (D_at DX8_goTogether 13 rfl) fg_X8_82_6 e17 ?_
  refine jr_iload_n K (D_at DX8_goTogether 14 rfl) rfl rfl ?_
  refine jr_iushr K (D_at DX8_goTogether 15 rfl) (v := jushr v17 x1) rfl ?_
  refine jr_iconst K (D_at DX8_goTogether 16 rfl) (v := (1 : Int32)) (by decide) ?_
  refine jr_iand K (D_at DX8_goTogether 17 rfl) ?_
  refine jr_iconst K (D_at DX8_goTogether 18 rfl) (v := (1 : Int32)) (by decide) ?_
  refine jr_icmp_eq K (D_at DX8_goTogether 19 rfl) (tgt := 52) (by decide) (fun c25 => ?_) (fun c25 => ?_)
  · replace hf := (if_pos c25).symm.trans hf
    refine jr_iconst K (D_at DX8_goTogether 34 rfl) (v := (1 : Int32)) (by decide) ?_
    refine jr_goto K (D_at DX8_goTogether 35 rfl) (tgt := 57) (by decide) ?_
    cases hf
    exact jr_zret K E (D_at DX8_goTogether 37 rfl) rfl (Or.inr rfl) ⟨rfl, rfl⟩
  · replace hf := (if_neg c25).symm.trans hf
    refine jr_iload_n K (D_at DX8_goTogether 20 rfl) rfl rfl ?_
    refine jr_if_eq K (D_at DX8_goTogether 21 rfl) (tgt := 40) (by decide) (fun c29 => ?_) (fun c29 => ?_)
    · replace hf := (if_pos c29).symm.trans hf
      refine jr_iload_n K (D_at DX8_goTogether 26 rfl) rfl rfl ?_
      refine jr_iconst K (D_at DX8_goTogether 27 rfl) (v := (1 : Int32)) (by decide) ?_
      refine jr_iadd K (D_at DX8_goTogether 28 rfl) ?_
      refine jr_aload_n K (D_at DX8_goTogether 29 rfl) rfl rfl ?_
      obtain ⟨p44, e44, hf⟩ := jbind hf
      refine jr_getR K (D_at DX8_goTogether 30 rfl) fg_X8_15_6 e44 ?_
      refine jr_iload_n K (D_at DX8_goTogether 31 rfl) rfl rfl ?_
      obtain ⟨v48, e48, hf⟩ := jbind hf
      refine jr_iald K (D_at DX8_goTogether 32 rfl) e48 ?_
      refine jr_icmp_le K (D_at DX8_goTogether 33 rfl) (tgt := 56) (by decide) (fun c49 => ?_) (fun c49 => ?_)
      · replace hf := (if_pos c49).symm.trans hf
        refine jr_iconst K (D_at DX8_goTogether 36 rfl) (v := (0 : Int32)) (by decide) ?_
        cases hf
        exact jr_zret K E (D_at DX8_goTogether 37 rfl) rfl (Or.inl rfl) ⟨rfl, rfl⟩
      · replace hf := (if_neg c49).symm.trans hf
        refine jr_iconst K (D_at DX8_goTogether 34 rfl) (v := (1 : Int32)) (by decide) ?_
        refine jr_goto K (D_at DX8_goTogether 35 rfl) (tgt := 57) (by decide) ?_
        cases hf
        exact jr_zret K E (D_at DX8_goTogether 37 rfl) rfl (Or.inr rfl) ⟨rfl, rfl⟩
    · replace hf := (if_neg c29).symm.trans hf
      refine jr_iload_n K (D_at DX8_goTogether 22 rfl) rfl rfl ?_
      refine jr_iconst K (D_at DX8_goTogether 23 rfl) (v := (1 : Int32)) (by decide) ?_
      refine jr_icmp_ne K (D_at DX8_goTogether 24 rfl) (tgt := 56) (by decide) (fun c34 => ?_) (fun c34 => ?_)
      · replace hf := (if_neg c34).symm.trans hf
        refine jr_iconst K (D_at DX8_goTogether 36 rfl) (v := (0 : Int32)) (by decide) ?_
        cases hf
        exact jr_zret K E (D_at DX8_goTogether 37 rfl) rfl (Or.inl rfl) ⟨rfl, rfl⟩
      · replace hf := (if_pos c34).symm.trans hf
        refine jr_goto K (D_at DX8_goTogether 25 rfl) (tgt := 52) (by decide) ?_
        refine jr_iconst K (D_at DX8_goTogether 34 rfl) (v := (1 : Int32)) (by decide) ?_
        refine jr_goto K (D_at DX8_goTogether 35 rfl) (tgt := 57) (by decide) ?_
        cases hf
        exact jr_zret K E (D_at DX8_goTogether 37 rfl) rfl (Or.inr rfl) ⟨rfl, rfl⟩
theorem C_X8_goTogether {G : jG} {l : Launch} (d : Nat) {n : Nat} {a0 : Nat} {x1 : Int32} {x2 : Int32} {h : jH} {res : Int32} (hf : F_X8_goTogether n a0 x1 x2 h = some res) : jC G l mX8_goTogether (d) 0 0 [.ref a0, .int x1, .int x2] h (jPR h res) :=
  jC.of (by decide +kernel) (jcats rfl) (Nat.le_of_ble_eq_true rfl) (fun X K E => J_X8_goTogether K n h E a0 x1 x2 hf)
set_option maxHeartbeats 400000 in
set_option maxRecDepth 100000 in
theorem J_X8_isStopped_16 {G : jG} {l : Launch} {d : Nat} {X : jX} {res : Int32} (K : jOK G l mX8_isStopped (d) X) (n : Nat) (h : jH) (E : jEnd G mX8_isStopped (jPR h res) X) (a0 : Nat) (x1 : Int32) (x2 : Int32) (s0 : Int32) (s1 : Int32) (hf : F_X8_isStopped_16 n a0 x1 x2 s0 s1 h = some res) : jJ G X h 0 0 16 [some (.ref a0), some (.int x1), some (.int x2)] [.int s1, .int s0] := by
  unfold F_X8_isStopped_16 at hf
  refine jr_icmp_ne K (D_at DX8_isStopped 9 rfl) (tgt := 21) (by decide) (fun c16 => ?_) (fun c16 => ?_)
  · replace hf := (if_neg c16).symm.trans hf
    refine jr_aload_n K (D_at DX8_isStopped 12 rfl) rfl rfl ?_
    obtain ⟨v22, e22, hf⟩ := jbind hf
    refine jr_getI K (D_at DX8_isStopped 13 rfl) fg_X8_54_6 e22 ?_
    refine jr_iload_n K (D_at DX8_isStopped 14 rfl) rfl rfl ?_
    refine jr_iushr K (D_at DX8_isStopped 15 rfl) (v := jushr v22 x1) rfl ?_
    refine jr_iconst K (D_at DX8_isStopped 16 rfl) (v := (1 : Int32)) (by decide) ?_
    refine jr_iand K (D_at DX8_isStopped 17 rfl) ?_
    refine jr_iconst K (D_at DX8_isStopped 18 rfl) (v := (1 : Int32)) (by decide) ?_
    refine jr_icmp_ne K (D_at DX8_isStopped 19 rfl) (tgt := 63) (by decide) (fun c30 => ?_) (fun c30 => ?_)
    · replace hf := (if_neg c30).symm.trans hf
      refine jr_iconst K (D_at DX8_isStopped 36 rfl) (v := (0 : Int32)) (by decide) ?_
      cases hf
      exact jr_zret K E (D_at DX8_isStopped 37 rfl) rfl (Or.inl rfl) ⟨rfl, rfl⟩
    · replace hf := (if_pos c30).symm.trans hf
      refine jr_aload_n K (D_at DX8_isStopped 20 rfl) rfl rfl ?_
      obtain ⟨p34, e34, hf⟩ := jbind hf
      refine jr_getR K (D_at DX8_isStopped 21 rfl) fg_X8_9_6 e34 ?_
      refine jr_iload_n K (D_at DX8_isStopped 22 rfl) rfl rfl ?_
      obtain ⟨v38, e38, hf⟩ := jbind hf
      refine jr_iald K (D_at DX8_isStopped 23 rfl) e38 ?_
      refine jr_iload_n K (D_at DX8_isStopped 24 rfl) rfl rfl ?_
      refine jr_if_eq K (D_at DX8_isStopped 25 rfl) (tgt := 52) (by decide) (fun c40 => ?_) (fun c40 => ?_)
      · replace hf := (if_pos c40).symm.trans hf
        refine jr_aload_n K (D_at DX8_isStopped 31 rfl) rfl rfl ?_
        obtain ⟨v53, e53, hf⟩ := jbind hf
        refine jr_getI K (D_at DX8_isStopped 32 rfl) fg_X8_31_6 e53 ?_
        refine jr_icmp_ne K (D_at DX8_isStopped 33 rfl) (tgt := 63) (by decide) (fun c56 => ?_) (fun c56 => ?_)
        · replace hf := (if_neg c56).symm.trans hf
          refine jr_iconst K (D_at DX8_isStopped 36 rfl) (v := (0 : Int32)) (by decide) ?_
          cases hf
          exact jr_zret K E (D_at DX8_isStopped 37 rfl) rfl (Or.inl rfl) ⟨rfl, rfl⟩
        · replace hf := (if_pos c56).symm.trans hf
          refine jr_iconst K (D_at DX8_isStopped 34 rfl) (v := (1 : Int32)) (by decide) ?_
          refine jr_goto K (D_at DX8_isStopped 35 rfl) (tgt := 64) (by decide) ?_
          cases hf
          exact jr_zret K E (D_at DX8_isStopped 37 rfl) rfl (Or.inr rfl) ⟨rfl, rfl⟩
      · replace hf := (if_neg c40).symm.trans hf
        refine jr_aload_n K (D_at DX8_isStopped 26 rfl) rfl rfl ?_
        obtain ⟨v44, e44, hf⟩ := jbind hf
        refine jr_getI K (D_at DX8_isStopped 27 rfl) fg_X8_31_6 e44 ?_
        refine jr_iconst K (D_at DX8_isStopped 28 rfl) (v := (1 : Int32)) (by decide) ?_
        refine jr_isub K (D_at DX8_isStopped 29 rfl) ?_
        refine jr_goto K (D_at DX8_isStopped 30 rfl) (tgt := 56) (by decide) ?_
        refine jr_icmp_ne K (D_at DX8_isStopped 33 rfl) (tgt := 63) (by decide) (fun c56 => ?_) (fun c56 => ?_)
        · replace hf := (if_neg c56).symm.trans hf
          refine jr_iconst K (D_at DX8_isStopped 36 rfl) (v := (0 : Int32)) (by decide) ?_
          cases hf
          exact jr_zret K E (D_at DX8_isStopped 37 rfl) rfl (Or.inl rfl) ⟨rfl, rfl⟩
        · replace hf := (if_pos c56).symm.trans hf
          refine jr_iconst K (D_at DX8_isStopped 34 rfl) (v := (1 : Int32)) (by decide) ?_
          refine jr_goto K (D_at DX8_isStopped 35 rfl) (tgt := 64) (by decide) ?_
          cases hf
          exact jr_zret K E (D_at DX8_isStopped 37 rfl) rfl (Or.inr rfl) ⟨rfl, rfl⟩
  · replace hf := (if_pos c16).symm.trans hf
    refine jr_iconst K (D_at DX8_isStopped 10 rfl) (v := (1 : Int32)) (by decide) ?_
    cases hf
    exact jr_zret K E (D_at DX8_isStopped 11 rfl) rfl (Or.inr rfl) ⟨rfl, rfl⟩
set_option maxHeartbeats 400000 in
set_option maxRecDepth 100000 in
theorem J_X8_isStopped {G : jG} {l : Launch} {d : Nat} {X : jX} {res : Int32} (K : jOK G l mX8_isStopped (d) X) (n : Nat) (h : jH) (E : jEnd G mX8_isStopped (jPR h res) X) (a0 : Nat) (x1 : Int32) (x2 : Int32) (hf : F_X8_isStopped n a0 x1 x2 h = some res) : jJ G X h 0 0 0 [some (.ref a0), some (.int x1), some (.int x2)] [] := by
  unfold F_X8_isStopped at hf
  refine jr_aload_n K (D_at DX8_isStopped 0 rfl) rfl rfl ?_
  obtain ⟨p1, e1, hf⟩ := jbind hf
  refine jr_getR K (D_at DX8_isStopped 1 rfl) fg_X8_9_6 e1 ?_
  refine jr_iload_n K (D_at DX8_isStopped 2 rfl) rfl rfl ?_
  obtain ⟨v5, e5, hf⟩ := jbind hf
  refine jr_iald K (D_at DX8_isStopped 3 rfl) e5 ?_
  refine jr_iload_n K (D_at DX8_isStopped 4 rfl) rfl rfl ?_
  refine jr_if_eq K (D_at DX8_isStopped 5 rfl) (tgt := 15) (by decide) (fun c7 => ?_) (fun c7 => ?_)
  · replace hf := (if_pos c7).symm.trans hf
    refine jr_iconst K (D_at DX8_isStopped 8 rfl) (v := (0 : Int32)) (by decide) ?_
    refine jr_keep [true, true, true] ?_
    exact J_X8_isStopped_16 K n h E a0 x1 x2 v5 (0 : Int32) hf
  · replace hf := (if_neg c7).symm.trans hf
    refine jr_bipush K (D_at DX8_isStopped 6 rfl) (v := (31 : Int32)) (by decide) ?_
    refine jr_goto K (D_at DX8_isStopped 7 rfl) (tgt := 16) (by decide) ?_
    refine jr_keep [true, true, true] ?_
    exact J_X8_isStopped_16 K n h E a0 x1 x2 v5 (31 : Int32) hf
theorem C_X8_isStopped {G : jG} {l : Launch} (d : Nat) {n : Nat} {a0 : Nat} {x1 : Int32} {x2 : Int32} {h : jH} {res : Int32} (hf : F_X8_isStopped n a0 x1 x2 h = some res) : jC G l mX8_isStopped (d) 0 0 [.ref a0, .int x1, .int x2] h (jPR h res) :=
  jC.of (by decide +kernel) (jcats rfl) (Nat.le_of_ble_eq_true rfl) (fun X K E => J_X8_isStopped K n h E a0 x1 x2 hf)
set_option maxHeartbeats 400000 in
set_option maxRecDepth 100000 in
theorem J_X8_goers_64_b {G : jG} {l : Launch} {d : Nat} {X : jX} {res : Int32} (K : jOK G l mX8_goers (d + 1) X) (n : Nat) (h : jH) (rc64 : Nat → Int32 → Int32 → Int32 → Int32 → jH → Option Int32) (hr64 : ∀ (a0 : Nat) (x2 : Int32) (x3 : Int32) (x4 : Int32) (x5 : Int32), rc64 a0 x2 x3 x4 x5 h = some res → jJ G X h 0 0 64 [some (.ref a0), none, some (.int x2), some (.int x3), some (.int x4), some (.int x5)] []) (E : jEnd G mX8_goers (jPR h res) X) (a0 : Nat) (x2 : Int32) (x3 : Int32) (x4 : Int32) (x5 : Int32) (hf : F_X8_goers_64_b n rc64 a0 x2 x3 x4 x5 h = some res) : jJ G X h 0 0 64 [some (.ref a0), none, some (.int x2), some (.int x3), some (.int x4), some (.int x5)] [] := by
  unfold F_X8_goers_64_b at hf
  refine jr_iload K (D_at DX8_goers 34 rfl) rfl ?_
  refine jr_iload K (D_at DX8_goers 35 rfl) rfl ?_
  refine jr_icmp_gt K (D_at DX8_goers 36 rfl) (tgt := 89) (by decide) (fun c68 => ?_) (fun c68 => ?_)
  · replace hf := (if_pos c68).symm.trans hf
    refine jr_iconst K (D_at DX8_goers 46 rfl) (v := (1 : Int32)) (by decide) ?_
    refine jr_iload K (D_at DX8_goers 47 rfl) rfl ?_
    refine jr_iconst K (D_at DX8_goers 48 rfl) (v := (1 : Int32)) (by decide) ?_
    refine jr_iadd K (D_at DX8_goers 49 rfl) ?_
    refine jr_ishl K (D_at DX8_goers 50 rfl) ?_
    refine jr_iconst K (D_at DX8_goers 51 rfl) (v := (1 : Int32)) (by decide) ?_
    refine jr_iload_n K (D_at DX8_goers 52 rfl) rfl rfl ?_
    refine jr_ishl K (D_at DX8_goers 53 rfl) ?_
    refine jr_isub K (D_at DX8_goers 54 rfl) ?_
    cases hf
    exact jr_iret K E (D_at DX8_goers 55 rfl) rfl ⟨rfl, rfl⟩
  · replace hf := (if_neg c68).symm.trans hf
    refine jr_aload_n K (D_at DX8_goers 37 rfl) rfl rfl ?_
    refine jr_iload K (D_at DX8_goers 38 rfl) rfl ?_
    refine jr_iload_n K (D_at DX8_goers 39 rfl) rfl rfl ?_
    obtain ⟨v75, e75, hf⟩ := jbind hf
    obtain ⟨rc_75, e75⟩ := jcv_o e75
    refine jr_callV K (C_X8_isStopped (d) e75) (D_at DX8_goers 40 rfl) cv_X8_112_X8_isStopped (As := [.int x5, .int x2]) (ci := 6) rfl rc_75 rfl rfl (by exact Nat.le_of_ble_eq_true rfl) (kc2 := 0) (ks2 := 0) rfl rfl (fun k9 h9 w9 => by cases w9.1) (fun r9 h9 w9 => ?_)
    obtain ⟨w1, w2⟩ := w9
    subst h9
    cases w1
    show jJ G X _ 0 0 _ _ (.int v75 :: _)
    refine jr_if_eq K (D_at DX8_goers 41 rfl) (tgt := 83) (by decide) (fun c78 => ?_) (fun c78 => ?_)
    · replace hf := (if_pos c78).symm.trans hf
      refine jr_iinc K (D_at DX8_goers 44 rfl) (i := 5) rfl (v := x5 + (1 : Int32)) (jinc (by decide)) (by decide) (L2 := [_, _, _, _, _, _]) rfl ?_
      refine jr_goto K (D_at DX8_goers 45 rfl) (tgt := 64) (by decide) ?_
      refine jr_keep [true, false, true, true, true, true] ?_
      exact hr64 a0 x2 x3 x4 (x5 + (1 : Int32)) hf
    · replace hf := (if_neg c78).symm.trans hf
      refine jr_iconst K (D_at DX8_goers 42 rfl) (v := (0 : Int32)) (by decide) ?_
      cases hf
      exact jr_iret K E (D_at DX8_goers 43 rfl) rfl ⟨rfl, rfl⟩
theorem J_X8_goers_64 {G : jG} {l : Launch} {d : Nat} {X : jX} {res : Int32} (K : jOK G l mX8_goers (d + 1) X) (n : Nat) (h : jH) (E : jEnd G mX8_goers (jPR h res) X) (k : Nat) : ∀ (a0 : Nat) (x2 : Int32) (x3 : Int32) (x4 : Int32) (x5 : Int32), F_X8_goers_64 n k a0 x2 x3 x4 x5 h = some res → jJ G X h 0 0 64 [some (.ref a0), none, some (.int x2), some (.int x3), some (.int x4), some (.int x5)] [] := by
  induction k with
  | zero =>
    intro a0 x2 x3 x4 x5 hf
    exact jno (show (none : Option Int32) = some res from hf)
  | succ k ih =>
    intro a0 x2 x3 x4 x5 hf
    exact J_X8_goers_64_b K n h (F_X8_goers_64 n k) ih E a0 x2 x3 x4 x5 hf
set_option maxHeartbeats 400000 in
set_option maxRecDepth 100000 in
theorem J_X8_goers_49 {G : jG} {l : Launch} {d : Nat} {X : jX} {res : Int32} (K : jOK G l mX8_goers (d + 1) X) (n : Nat) (h : jH) (rc32 : Nat → Int32 → Int32 → Int32 → jH → Option Int32) (hr32 : ∀ (a0 : Nat) (x2 : Int32) (x3 : Int32) (x4 : Int32), rc32 a0 x2 x3 x4 h = some res → jJ G X h 0 0 32 [some (.ref a0), none, some (.int x2), some (.int x3), some (.int x4), none] []) (E : jEnd G mX8_goers (jPR h res) X) (a0 : Nat) (x2 : Int32) (x3 : Int32) (x4 : Int32) (sa0 : Nat) (s1 : Int32) (s2 : Int32) (hf : F_X8_goers_49 n rc32 a0 x2 x3 x4 sa0 s1 s2 h = some res) : jJ G X h 0 0 49 [some (.ref a0), none, some (.int x2), some (.int x3), some (.int x4), none] [.int s2, .int s1, .ref sa0] := by
  unfold F_X8_goers_49 at hf
  obtain ⟨v49, e49, hf⟩ := jbind hf
  obtain ⟨rc_49, e49⟩ := jcv_o e49
  refine jr_callV K (C_X8_goTogether (d) e49) (D_at DX8_goers 28 rfl) cv_X8_108_X8_goTogether (As := [.int s1, .int s2]) (ci := 6) rfl rc_49 rfl rfl (by exact Nat.le_of_ble_eq_true rfl) (kc2 := 0) (ks2 := 0) rfl rfl (fun k9 h9 w9 => by cases w9.1) (fun r9 h9 w9 => ?_)
  obtain ⟨w1, w2⟩ := w9
  subst h9
  cases w1
  show jJ G X _ 0 0 _ _ (.int v49 :: _)
  refine jr_if_eq K (D_at DX8_goers 29 rfl) (tgt := 61) (by decide) (fun c52 => ?_) (fun c52 => ?_)
  · replace hf := (if_pos c52).symm.trans hf
    refine jr_iload_n K (D_at DX8_goers 32 rfl) rfl rfl ?_
    refine jr_istore K (D_at DX8_goers 33 rfl) (i := 5) (by decide) (L2 := [_, _, _, _, _, _]) rfl ?_
    refine jr_keep [true, false, true, true, true, true] ?_
    exact J_X8_goers_64 K n h E n a0 x2 x3 x4 x3 hf
  · replace hf := (if_neg c52).symm.trans hf
    refine jr_iinc K (D_at DX8_goers 30 rfl) (i := 3) rfl (v := x3 + (-1 : Int32)) (jinc (by decide)) (by decide) (L2 := [_, _, _, _, _, _]) rfl ?_
    refine jr_goto K (D_at DX8_goers 31 rfl) (tgt := 32) (by decide) ?_
    refine jr_keep [true, false, true, true, true, false] ?_
    exact hr32 a0 x2 (x3 + (-1 : Int32)) x4 hf
set_option maxHeartbeats 400000 in
set_option maxRecDepth 100000 in
theorem J_X8_goers_32_b {G : jG} {l : Launch} {d : Nat} {X : jX} {res : Int32} (K : jOK G l mX8_goers (d + 1) X) (n : Nat) (h : jH) (rc32 : Nat → Int32 → Int32 → Int32 → jH → Option Int32) (hr32 : ∀ (a0 : Nat) (x2 : Int32) (x3 : Int32) (x4 : Int32), rc32 a0 x2 x3 x4 h = some res → jJ G X h 0 0 32 [some (.ref a0), none, some (.int x2), some (.int x3), some (.int x4), none] []) (E : jEnd G mX8_goers (jPR h res) X) (a0 : Nat) (x2 : Int32) (x3 : Int32) (x4 : Int32) (hf : F_X8_goers_32_b n rc32 a0 x2 x3 x4 h = some res) : jJ G X h 0 0 32 [some (.ref a0), none, some (.int x2), some (.int x3), some (.int x4), none] [] := by
  unfold F_X8_goers_32_b at hf
  refine jr_iload_n K (D_at DX8_goers 17 rfl) rfl rfl ?_
  refine jr_if_le K (D_at DX8_goers 18 rfl) (tgt := 61) (by decide) (fun c33 => ?_) (fun c33 => ?_)
  · replace hf := (if_pos c33).symm.trans hf
    refine jr_iload_n K (D_at DX8_goers 32 rfl) rfl rfl ?_
    refine jr_istore K (D_at DX8_goers 33 rfl) (i := 5) (by decide) (L2 := [_, _, _, _, _, _]) rfl ?_
    refine jr_keep [true, false, true, true, true, true] ?_
    exact J_X8_goers_64 K n h E n a0 x2 x3 x4 x3 hf
  · replace hf := (if_neg c33).symm.trans hf
    refine jr_aload_n K (D_at DX8_goers 19 rfl) rfl rfl ?_
    refine jr_iload_n K (D_at DX8_goers 20 rfl) rfl rfl ?_
    refine jr_iconst K (D_at DX8_goers 21 rfl) (v := (1 : Int32)) (by decide) ?_
    refine jr_isub K (D_at DX8_goers 22 rfl) ?_
    refine jr_iload_n K (D_at DX8_goers 23 rfl) rfl rfl ?_
    refine jr_if_ne K (D_at DX8_goers 24 rfl) (tgt := 48) (by decide) (fun c41 => ?_) (fun c41 => ?_)
    · replace hf := (if_neg c41).symm.trans hf
      refine jr_iconst K (D_at DX8_goers 27 rfl) (v := (0 : Int32)) (by decide) ?_
      refine jr_keep [true, false, true, true, true, false] ?_
      exact J_X8_goers_49 K n h rc32 hr32 E a0 x2 x3 x4 a0 (x3 - (1 : Int32)) (0 : Int32) hf
    · replace hf := (if_pos c41).symm.trans hf
      refine jr_iconst K (D_at DX8_goers 25 rfl) (v := (1 : Int32)) (by decide) ?_
      refine jr_goto K (D_at DX8_goers 26 rfl) (tgt := 49) (by decide) ?_
      refine jr_keep [true, false, true, true, true, false] ?_
      exact J_X8_goers_49 K n h rc32 hr32 E a0 x2 x3 x4 a0 (x3 - (1 : Int32)) (1 : Int32) hf
theorem J_X8_goers_32 {G : jG} {l : Launch} {d : Nat} {X : jX} {res : Int32} (K : jOK G l mX8_goers (d + 1) X) (n : Nat) (h : jH) (E : jEnd G mX8_goers (jPR h res) X) (k : Nat) : ∀ (a0 : Nat) (x2 : Int32) (x3 : Int32) (x4 : Int32), F_X8_goers_32 n k a0 x2 x3 x4 h = some res → jJ G X h 0 0 32 [some (.ref a0), none, some (.int x2), some (.int x3), some (.int x4), none] [] := by
  induction k with
  | zero =>
    intro a0 x2 x3 x4 hf
    exact jno (show (none : Option Int32) = some res from hf)
  | succ k ih =>
    intro a0 x2 x3 x4 hf
    exact J_X8_goers_32_b K n h (F_X8_goers_32 n k) ih E a0 x2 x3 x4 hf
set_option maxHeartbeats 400000 in
set_option maxRecDepth 100000 in
theorem J_X8_goers_5_b {G : jG} {l : Launch} {d : Nat} {X : jX} {res : Int32} (K : jOK G l mX8_goers (d + 1) X) (n : Nat) (h : jH) (rc5 : Nat → Int32 → Int32 → Int32 → jH → Option Int32) (hr5 : ∀ (a0 : Nat) (x2 : Int32) (x3 : Int32) (x4 : Int32), rc5 a0 x2 x3 x4 h = some res → jJ G X h 0 0 5 [some (.ref a0), none, some (.int x2), some (.int x3), some (.int x4), none] []) (E : jEnd G mX8_goers (jPR h res) X) (a0 : Nat) (x2 : Int32) (x3 : Int32) (x4 : Int32) (hf : F_X8_goers_5_b n rc5 a0 x2 x3 x4 h = some res) : jJ G X h 0 0 5 [some (.ref a0), none, some (.int x2), some (.int x3), some (.int x4), none] [] := by
  unfold F_X8_goers_5_b at hf
  refine jr_iload K (D_at DX8_goers 4 rfl) rfl ?_
  refine jr_iconst K (D_at DX8_goers 5 rfl) (v := (1 : Int32)) (by decide) ?_
  refine jr_iadd K (D_at DX8_goers 6 rfl) ?_
  refine jr_aload_n K (D_at DX8_goers 7 rfl) rfl rfl ?_
  obtain ⟨v10, e10, hf⟩ := jbind hf
  refine jr_getI K (D_at DX8_goers 8 rfl) fg_X8_51_6 e10 ?_
  refine jr_icmp_ge K (D_at DX8_goers 9 rfl) (tgt := 32) (by decide) (fun c13 => ?_) (fun c13 => ?_)
  · replace hf := (if_pos c13).symm.trans hf
    refine jr_keep [true, false, true, true, true, false] ?_
    exact J_X8_goers_32 K n h E n a0 x2 x3 x4 hf
  · replace hf := (if_neg c13).symm.trans hf
    refine jr_aload_n K (D_at DX8_goers 10 rfl) rfl rfl ?_
    refine jr_iload K (D_at DX8_goers 11 rfl) rfl ?_
    refine jr_iload_n K (D_at DX8_goers 12 rfl) rfl rfl ?_
    obtain ⟨v20, e20, hf⟩ := jbind hf
    obtain ⟨rc_20, e20⟩ := jcv_o e20
    refine jr_callV K (C_X8_goTogether (d) e20) (D_at DX8_goers 13 rfl) cv_X8_108_X8_goTogether (As := [.int x4, .int x2]) (ci := 6) rfl rc_20 rfl rfl (by exact Nat.le_of_ble_eq_true rfl) (kc2 := 0) (ks2 := 0) rfl rfl (fun k9 h9 w9 => by cases w9.1) (fun r9 h9 w9 => ?_)
    obtain ⟨w1, w2⟩ := w9
    subst h9
    cases w1
    show jJ G X _ 0 0 _ _ (.int v20 :: _)
    refine jr_if_eq K (D_at DX8_goers 14 rfl) (tgt := 32) (by decide) (fun c23 => ?_) (fun c23 => ?_)
    · replace hf := (if_pos c23).symm.trans hf
      refine jr_keep [true, false, true, true, true, false] ?_
      exact J_X8_goers_32 K n h E n a0 x2 x3 x4 hf
    · replace hf := (if_neg c23).symm.trans hf
      refine jr_iinc K (D_at DX8_goers 15 rfl) (i := 4) rfl (v := x4 + (1 : Int32)) (jinc (by decide)) (by decide) (L2 := [_, _, _, _, _, _]) rfl ?_
      refine jr_goto K (D_at DX8_goers 16 rfl) (tgt := 5) (by decide) ?_
      refine jr_keep [true, false, true, true, true, false] ?_
      exact hr5 a0 x2 x3 (x4 + (1 : Int32)) hf
theorem J_X8_goers_5 {G : jG} {l : Launch} {d : Nat} {X : jX} {res : Int32} (K : jOK G l mX8_goers (d + 1) X) (n : Nat) (h : jH) (E : jEnd G mX8_goers (jPR h res) X) (k : Nat) : ∀ (a0 : Nat) (x2 : Int32) (x3 : Int32) (x4 : Int32), F_X8_goers_5 n k a0 x2 x3 x4 h = some res → jJ G X h 0 0 5 [some (.ref a0), none, some (.int x2), some (.int x3), some (.int x4), none] [] := by
  induction k with
  | zero =>
    intro a0 x2 x3 x4 hf
    exact jno (show (none : Option Int32) = some res from hf)
  | succ k ih =>
    intro a0 x2 x3 x4 hf
    exact J_X8_goers_5_b K n h (F_X8_goers_5 n k) ih E a0 x2 x3 x4 hf
set_option maxHeartbeats 400000 in
set_option maxRecDepth 100000 in
theorem J_X8_goers {G : jG} {l : Launch} {d : Nat} {X : jX} {res : Int32} (K : jOK G l mX8_goers (d + 1) X) (n : Nat) (h : jH) (E : jEnd G mX8_goers (jPR h res) X) (a0 : Nat) (x1 : Int32) (x2 : Int32) (hf : F_X8_goers n a0 x1 x2 h = some res) : jJ G X h 0 0 0 [some (.ref a0), some (.int x1), some (.int x2), none, none, none] [] := by
  unfold F_X8_goers at hf
  refine jr_iload_n K (D_at DX8_goers 0 rfl) rfl rfl ?_
  refine jr_istore_n K (D_at DX8_goers 1 rfl) (i := 3) rfl (by decide) (L2 := [_, _, _, _, _, _]) rfl ?_
  refine jr_iload_n K (D_at DX8_goers 2 rfl) rfl rfl ?_
  refine jr_istore K (D_at DX8_goers 3 rfl) (i := 4) (by decide) (L2 := [_, _, _, _, _, _]) rfl ?_
  refine jr_keep [true, false, true, true, true, false] ?_
  exact J_X8_goers_5 K n h E n a0 x2 x1 x1 hf
theorem C_X8_goers {G : jG} {l : Launch} (d : Nat) {n : Nat} {a0 : Nat} {x1 : Int32} {x2 : Int32} {h : jH} {res : Int32} (hf : F_X8_goers n a0 x1 x2 h = some res) : jC G l mX8_goers (d + 1) 0 0 [.ref a0, .int x1, .int x2] h (jPR h res) :=
  jC.of (by decide +kernel) (jcats rfl) (Nat.le_of_ble_eq_true rfl) (fun X K E => J_X8_goers K n h E a0 x1 x2 hf)
