section
set_option maxHeartbeats 400000 in
set_option maxRecDepth 100000 in
theorem J_X8_add {G : jG} {l : Launch} {d : Nat} {X : jX} {res : jH} (K : jOK G l mX8_add (d + 1) X) (n : Nat) (E : jEnd G mX8_add (jPV res) X) (a0 : Nat) (x1 : Int32) (x2 : Int32) (h : jH) (hf : F_X8_add n a0 x1 x2 h = some res) : jJ G X h 0 0 0 [some (.ref a0), some (.int x1), some (.int x2)] [] := by
  unfold F_X8_add at hf
  refine jr_aload_n K (D_at DX8_add_q0 0 rfl) rfl rfl ?_
  obtain ⟨v1, e1, hf⟩ := jbind hf
  refine jr_getI K (D_at DX8_add_q0 1 rfl) fg_X8_51_6 e1 ?_
  refine jr_bipush K (D_at DX8_add_q0 2 rfl) (v := (8 : Int32)) (by decide) ?_
  refine jr_icmp_lt K (D_at DX8_add_q0 3 rfl) (tgt := 10) (by decide) (fun c6 => ?_) (fun c6 => ?_)
  · replace hf := (if_pos c6).symm.trans hf
    refine jr_aload_n K (D_at DX8_add_q0 5 rfl) rfl rfl ?_
    obtain ⟨p11, e11, hf⟩ := jbind hf
    refine jr_getR K (D_at DX8_add_q0 6 rfl) fg_X8_9_6 e11 ?_
    refine jr_aload_n K (D_at DX8_add_q0 7 rfl) rfl rfl ?_
    obtain ⟨v15, e15, hf⟩ := jbind hf
    refine jr_getI K (D_at DX8_add_q0 8 rfl) fg_X8_51_6 e15 ?_
    refine jr_iload_n K (D_at DX8_add_q0 9 rfl) rfl rfl ?_
    obtain ⟨h19, e19, hf⟩ := jbind hf
    refine jr_iast K (D_at DX8_add_q0 10 rfl) e19 ?_
    refine jr_aload_n K (D_at DX8_add_q0 11 rfl) rfl rfl ?_
    obtain ⟨p21, e21, hf⟩ := jbind hf
    refine jr_getR K (D_at DX8_add_q1 0 rfl) fg_X8_15_6 e21 ?_
    refine jr_aload_n K (D_at DX8_add_q1 1 rfl) rfl rfl ?_
    obtain ⟨v25, e25, hf⟩ := jbind hf
    refine jr_getI K (D_at DX8_add_q1 2 rfl) fg_X8_51_6 e25 ?_
    refine jr_iload_n K (D_at DX8_add_q1 3 rfl) rfl rfl ?_
    obtain ⟨h29, e29, hf⟩ := jbind hf
    refine jr_iast K (D_at DX8_add_q1 4 rfl) e29 ?_
    refine jr_aload_n K (D_at DX8_add_q1 5 rfl) rfl rfl ?_
    obtain ⟨p31, e31, hf⟩ := jbind hf
    refine jr_getR K (D_at DX8_add_q1 6 rfl) fg_X8_18_6 e31 ?_
    refine jr_aload_n K (D_at DX8_add_q1 7 rfl) rfl rfl ?_
    obtain ⟨v35, e35, hf⟩ := jbind hf
    refine jr_getI K (D_at DX8_add_q1 8 rfl) fg_X8_51_6 e35 ?_
    refine jr_iconst K (D_at DX8_add_q1 9 rfl) (v := (0 : Int32)) (by decide) ?_
    obtain ⟨h39, e39, hf⟩ := jbind hf
    refine jr_iast K (D_at DX8_add_q1 10 rfl) e39 ?_
    refine jr_aload_n K (D_at DX8_add_q1 11 rfl) rfl rfl ?_
    obtain ⟨p41, e41, hf⟩ := jbind hf
    refine jr_getR K (D_at DX8_add_q2 0 rfl) fg_X8_21_6 e41 ?_
    refine jr_aload_n K (D_at DX8_add_q2 1 rfl) rfl rfl ?_
    obtain ⟨v45, e45, hf⟩ := jbind hf
    refine jr_getI K (D_at DX8_add_q2 2 rfl) fg_X8_51_6 e45 ?_
    refine jr_iconst K (D_at DX8_add_q2 3 rfl) (v := (0 : Int32)) (by decide) ?_
    obtain ⟨h49, e49, hf⟩ := jbind hf
    refine jr_iast K (D_at DX8_add_q2 4 rfl) e49 ?_
    refine jr_aload_n K (D_at DX8_add_q2 5 rfl) rfl rfl ?_
    refine jr_aload_n K (D_at DX8_add_q2 6 rfl) rfl rfl ?_
    obtain ⟨v52, e52, hf⟩ := jbind hf
    refine jr_getI K (D_at DX8_add_q2 7 rfl) fg_X8_54_6 e52 ?_
    refine jr_aload_n K (D_at DX8_add_q2 8 rfl) rfl rfl ?_
    obtain ⟨v56, e56, hf⟩ := jbind hf
    refine jr_getI K (D_at DX8_add_q2 9 rfl) fg_X8_51_6 e56 ?_
    refine jr_iconst K (D_at DX8_add_q2 10 rfl) (v := (0 : Int32)) (by decide) ?_
    obtain ⟨v60, e60, hf⟩ := jbind hf
    refine jr_callSN K (C_X11_withBit (d) e60) (D_at DX8_add_q2 11 rfl) csn_X8_91_X11_withBit (As := [.int v52, .int v56, .int (0 : Int32)]) rfl rfl (by exact Nat.le_of_ble_eq_true rfl) (kc2 := 0) (ks2 := 0) rfl rfl (fun k9 h9 w9 => by cases w9.1) (fun r9 h9 w9 => ?_)
    obtain ⟨w1, w2⟩ := w9
    subst h9
    cases w1
    show jJ G X _ 0 0 _ _ (.int v60 :: _)
    obtain ⟨h63, e63, hf⟩ := jbind hf
    refine jr_putI K (D_at DX8_add_q3 0 rfl) fp_X8_54_6 (Or.inl rfl) e63 ?_
    refine jr_aload_n K (D_at DX8_add_q3 1 rfl) rfl rfl ?_
    refine jr_aload_n K (D_at DX8_add_q3 2 rfl) rfl rfl ?_
    obtain ⟨v68, e68, hf⟩ := jbind hf
    refine jr_getI K (D_at DX8_add_q3 3 rfl) fg_X8_57_6 e68 ?_
    refine jr_aload_n K (D_at DX8_add_q3 4 rfl) rfl rfl ?_
    obtain ⟨v72, e72, hf⟩ := jbind hf
    refine jr_getI K (D_at DX8_add_q3 5 rfl) fg_X8_51_6 e72 ?_
    refine jr_iconst K (D_at DX8_add_q3 6 rfl) (v := (0 : Int32)) (by decide) ?_
    obtain ⟨v76, e76, hf⟩ := jbind hf
    refine jr_callSN K (C_X11_withBit (d) e76) (D_at DX8_add_q3 7 rfl) csn_X8_91_X11_withBit (As := [.int v68, .int v72, .int (0 : Int32)]) rfl rfl (by exact Nat.le_of_ble_eq_true rfl) (kc2 := 0) (ks2 := 0) rfl rfl (fun k9 h9 w9 => by cases w9.1) (fun r9 h9 w9 => ?_)
    obtain ⟨w1, w2⟩ := w9
    subst h9
    cases w1
    show jJ G X _ 0 0 _ _ (.int v76 :: _)
    obtain ⟨h79, e79, hf⟩ := jbind hf
    refine jr_putI K (D_at DX8_add_q3 8 rfl) fp_X8_57_6 (Or.inl rfl) e79 ?_
    refine jr_aload_n K (D_at DX8_add_q3 9 rfl) rfl rfl ?_
    refine jr_aload_n K (D_at DX8_add_q3 10 rfl) rfl rfl ?_
    obtain ⟨v84, e84, hf⟩ := jbind hf
    refine jr_getI K (D_at DX8_add_q3 11 rfl) fg_X8_60_6 e84 ?_
    refine jr_aload_n K (D_at DX8_add_q4 0 rfl) rfl rfl ?_
    obtain ⟨v88, e88, hf⟩ := jbind hf
    refine jr_getI K (D_at DX8_add_q4 1 rfl) fg_X8_51_6 e88 ?_
    refine jr_iconst K (D_at DX8_add_q4 2 rfl) (v := (1 : Int32)) (by decide) ?_
    obtain ⟨v92, e92, hf⟩ := jbind hf
    refine jr_callSN K (C_X11_withBit (d) e92) (D_at DX8_add_q4 3 rfl) csn_X8_91_X11_withBit (As := [.int v84, .int v88, .int (1 : Int32)]) rfl rfl (by exact Nat.le_of_ble_eq_true rfl) (kc2 := 0) (ks2 := 0) rfl rfl (fun k9 h9 w9 => by cases w9.1) (fun r9 h9 w9 => ?_)
    obtain ⟨w1, w2⟩ := w9
    subst h9
    cases w1
    show jJ G X _ 0 0 _ _ (.int v92 :: _)
    obtain ⟨h95, e95, hf⟩ := jbind hf
    refine jr_putI K (D_at DX8_add_q4 4 rfl) fp_X8_60_6 (Or.inl rfl) e95 ?_
    refine jr_aload_n K (D_at DX8_add_q4 5 rfl) rfl rfl ?_
    refine jr_aload_n K (D_at DX8_add_q4 6 rfl) rfl rfl ?_
    obtain ⟨v100, e100, hf⟩ := jbind hf
    refine jr_getI K (D_at DX8_add_q4 7 rfl) fg_X8_82_6 e100 ?_
    refine jr_aload_n K (D_at DX8_add_q4 8 rfl) rfl rfl ?_
    obtain ⟨v104, e104, hf⟩ := jbind hf
    refine jr_getI K (D_at DX8_add_q4 9 rfl) fg_X8_51_6 e104 ?_
    refine jr_iconst K (D_at DX8_add_q4 10 rfl) (v := (0 : Int32)) (by decide) ?_
    obtain ⟨v108, e108, hf⟩ := jbind hf
    refine jr_callSN K (C_X11_withBit (d) e108) (D_at DX8_add_q4 11 rfl) csn_X8_91_X11_withBit (As := [.int v100, .int v104, .int (0 : Int32)]) rfl rfl (by exact Nat.le_of_ble_eq_true rfl) (kc2 := 0) (ks2 := 0) rfl rfl (fun k9 h9 w9 => by cases w9.1) (fun r9 h9 w9 => ?_)
    obtain ⟨w1, w2⟩ := w9
    subst h9
    cases w1
    show jJ G X _ 0 0 _ _ (.int v108 :: _)
    obtain ⟨h111, e111, hf⟩ := jbind hf
    refine jr_putI K (D_at DX8_add_q5 0 rfl) fp_X8_82_6 (Or.inl rfl) e111 ?_
    refine jr_aload_n K (D_at DX8_add_q5 1 rfl) rfl rfl ?_
    refine jr_dup K (D_at DX8_add_q5 2 rfl) rfl ?_
    obtain ⟨v116, e116, hf⟩ := jbind hf
    refine jr_getI K (D_at DX8_add_q5 3 rfl) fg_X8_51_6 e116 ?_
    refine jr_iconst K (D_at DX8_add_1_q0 0 rfl) (v := (1 : Int32)) (by decide) ?_
    refine jr_iadd K (D_at DX8_add_1_q0 1 rfl) ?_
    obtain ⟨h121, e121, hf⟩ := jbind hf
    refine jr_putI K (D_at DX8_add_1_q0 2 rfl) fp_X8_51_6 (Or.inl rfl) e121 ?_
    cases hf
    exact jr_vret K E (D_at DX8_add_1_q0 3 rfl) rfl ⟨rfl, rfl⟩
  · replace hf := (if_neg c6).symm.trans hf
    cases hf
    exact jr_vret K E (D_at DX8_add_q0 4 rfl) rfl ⟨rfl, rfl⟩
theorem C_X8_add {G : jG} {l : Launch} (d : Nat) {n : Nat} {a0 : Nat} {x1 : Int32} {x2 : Int32} {h : jH} {res : jH} (hf : F_X8_add n a0 x1 x2 h = some res) : jC G l mX8_add (d + 1) 0 0 [.ref a0, .int x1, .int x2] h (jPV res) :=
  jC.of pn_X8 (jcats rfl) (Nat.le_of_ble_eq_true rfl) (fun X K E => J_X8_add K n E a0 x1 x2 h hf)
set_option maxHeartbeats 400000 in
set_option maxRecDepth 100000 in
theorem J_X8_unhooked {G : jG} {l : Launch} {d : Nat} {X : jX} {res : Int32} (K : jOK G l mX8_unhooked (d) X) (n : Nat) (h : jH) (E : jEnd G mX8_unhooked (jPR h res) X) (a0 : Nat) (hf : F_X8_unhooked n a0 h = some res) : jJ G X h 0 0 0 [some (.ref a0)] [] := by
  unfold F_X8_unhooked at hf
  refine jr_iconst K (D_at DX8_unhooked_q0 0 rfl) (v := (1 : Int32)) (by decide) ?_
  refine jr_aload_n K (D_at DX8_unhooked_q0 1 rfl) rfl rfl ?_
  obtain ⟨v2, e2, hf⟩ := jbind hf
  refine jr_getI K (D_at DX8_unhooked_q0 2 rfl) fg_X8_51_6 e2 ?_
  refine jr_ishl K (D_at DX8_unhooked_q0 3 rfl) ?_
  refine jr_iconst K (D_at DX8_unhooked_q0 4 rfl) (v := (1 : Int32)) (by decide) ?_
  refine jr_isub K (D_at DX8_unhooked_q0 5 rfl) ?_
  refine jr_aload_n K (D_at DX8_unhooked_q0 6 rfl) rfl rfl ?_
  obtain ⟨v9, e9, hf⟩ := jbind hf
  refine jr_getI K (D_at DX8_unhooked_q0 7 rfl) fg_X8_60_6 e9 ?_
  refine jr_iconst K (D_at DX8_unhooked_q0 8 rfl) (v := (-1 : Int32)) (by decide) ?_
  refine jr_ixor K (D_at DX8_unhooked_q0 9 rfl) ?_
  refine jr_iand K (D_at DX8_unhooked_q0 10 rfl) ?_
  cases hf
  exact jr_iret K E (D_at DX8_unhooked_q0 11 rfl) rfl ⟨rfl, rfl⟩
theorem C_X8_unhooked {G : jG} {l : Launch} (d : Nat) {n : Nat} {a0 : Nat} {h : jH} {res : Int32} (hf : F_X8_unhooked n a0 h = some res) : jC G l mX8_unhooked (d) 0 0 [.ref a0] h (jPR h res) :=
  jC.of pn_X8 (jcats rfl) (Nat.le_of_ble_eq_true rfl) (fun X K E => J_X8_unhooked K n h E a0 hf)
set_option maxHeartbeats 400000 in
set_option maxRecDepth 100000 in
theorem J_X4_init_R {G : jG} {l : Launch} {d : Nat} {X : jX} {res : jH} (K : jOK G l mX4_init (d + 1) X) (n : Nat) (E : jEnd G mX4_init (jPV res) X) (a0 : Nat) (a1 : Nat) (x2 : Int32) (h : jH) (hf : F_X4_init_R n a0 a1 x2 h = some res) : jJ G X h 0 0 0 [some (.ref a0), some (.ref a1), some (.int x2)] [] := by
  unfold F_X4_init_R at hf
  refine jr_aload_n K (D_at DX4_init_q0 0 rfl) rfl rfl ?_
  refine jr_objInit K (D_at DX4_init_q0 1 rfl) oi_X4_3 (by exact Nat.le_of_ble_eq_true rfl) ?_
  refine jr_aload_n K (D_at DX4_init_q0 2 rfl) rfl rfl ?_
  refine jr_aload_n K (D_at DX4_init_q0 3 rfl) rfl rfl ?_
  obtain ⟨h6, e6, hf⟩ := jbind hf
  refine jr_putR K (D_at DX4_init_q0 4 rfl) fp_X4_9_7 (Or.inr rfl) e6 ?_
  refine jr_aload_n K (D_at DX4_init_q0 5 rfl) rfl rfl ?_
  refine jr_iload_n K (D_at DX4_init_q0 6 rfl) rfl rfl ?_
  obtain ⟨h11, e11, hf⟩ := jbind hf
  refine jr_putI K (D_at DX4_init_q0 7 rfl) fp_X4_15_7 (Or.inr rfl) e11 ?_
  cases hf
  exact jr_vret K E (D_at DX4_init_q0 8 rfl) rfl ⟨rfl, rfl⟩
theorem C_X4_init_R {G : jG} {l : Launch} (d : Nat) {n : Nat} {a0 : Nat} {a1 : Nat} {x2 : Int32} {h : jH} {res : jH} (hf : F_X4_init_R n a0 a1 x2 h = some res) : jC G l mX4_init (d + 1) 0 0 [.ref a0, .ref a1, .int x2] h (jPV res) :=
  jC.of pn_X4 (jcats rfl) (Nat.le_of_ble_eq_true rfl) (fun X K E => J_X4_init_R K n E a0 a1 x2 h hf)
set_option maxHeartbeats 400000 in
set_option maxRecDepth 100000 in
theorem J_X9_init {G : jG} {l : Launch} {d : Nat} {X : jX} {res : jH} (K : jOK G l mX9_init (d + 2) X) (n : Nat) (E : jEnd G mX9_init (jPV res) X) (a0 : Nat) (a1 : Nat) (a2 : Nat) (h : jH) (hf : F_X9_init n a0 a1 a2 h = some res) : jJ G X h 0 0 0 [some (.ref a0), some (.ref a1), some (.ref a2)] [] := by
  unfold F_X9_init at hf
  refine jr_aload_n K (D_at DX9_init_q0 0 rfl) rfl rfl ?_
  refine jr_aload_n K (D_at DX9_init_q0 1 rfl) rfl rfl ?_
  refine jr_bipush K (D_at DX9_init_q0 2 rfl) (v := (14 : Int32)) (by decide) ?_
  obtain ⟨h4, e4, hf⟩ := jbind hf
  refine jr_callI K (C_X4_init_R (d) e4) (D_at DX9_init_q0 3 rfl) ci_X9_5_X4_init (As := [.ref a1, .int (14 : Int32)]) rfl rfl (by exact Nat.le_of_ble_eq_true rfl) (kc2 := 0) (ks2 := 0) rfl rfl (fun k9 h9 w9 => by cases w9.1) (fun r9 h9 w9 => ?_)
  obtain ⟨w1, w2⟩ := w9
  subst h9
  cases w1
  refine jr_aload_n K (D_at DX9_init_q0 4 rfl) rfl rfl ?_
  refine jr_aload_n K (D_at DX9_init_q0 5 rfl) rfl rfl ?_
  obtain ⟨h9, e9, hf⟩ := jbind hf
  refine jr_putR K (D_at DX9_init_q0 6 rfl) fp_X9_11_7 (Or.inr rfl) e9 ?_
  cases hf
  exact jr_vret K E (D_at DX9_init_q0 7 rfl) rfl ⟨rfl, rfl⟩
theorem C_X9_init {G : jG} {l : Launch} (d : Nat) {n : Nat} {a0 : Nat} {a1 : Nat} {a2 : Nat} {h : jH} {res : jH} (hf : F_X9_init n a0 a1 a2 h = some res) : jC G l mX9_init (d + 2) 0 0 [.ref a0, .ref a1, .ref a2] h (jPV res) :=
  jC.of pn_X9 (jcats rfl) (Nat.le_of_ble_eq_true rfl) (fun X K E => J_X9_init K n E a0 a1 a2 h hf)
set_option maxHeartbeats 400000 in
set_option maxRecDepth 100000 in
theorem J_X9_beginsLine {G : jG} {l : Launch} {d : Nat} {X : jX} {res : Int32} (K : jOK G l mX9_beginsLine (d) X) (n : Nat) (h : jH) (E : jEnd G mX9_beginsLine (jPR h res) X) (x0 : Int32) (hf : F_X9_beginsLine n x0 h = some res) : jJ G X h 0 0 0 [some (.int x0)] [] := by
  unfold F_X9_beginsLine at hf
  refine jr_iload_n K (D_at DX9_beginsLine_q0 0 rfl) rfl rfl ?_
  refine jr_if_eq K (D_at DX9_beginsLine_q0 1 rfl) (tgt := 39) (by decide) (fun c1 => ?_) (fun c1 => ?_)
  · replace hf := (if_pos c1).symm.trans hf
    refine jr_iconst K (D_at DX9_beginsLine_q1 8 rfl) (v := (1 : Int32)) (by decide) ?_
    refine jr_goto K (D_at DX9_beginsLine_q1 9 rfl) (tgt := 44) (by decide) ?_
    cases hf
    exact jr_zret K E (D_at DX9_beginsLine_q1 11 rfl) rfl (Or.inr rfl) ⟨rfl, rfl⟩
  · replace hf := (if_neg c1).symm.trans hf
    refine jr_iload_n K (D_at DX9_beginsLine_q0 2 rfl) rfl rfl ?_
    refine jr_bipush K (D_at DX9_beginsLine_q0 3 rfl) (v := (19 : Int32)) (by decide) ?_
    refine jr_icmp_eq K (D_at DX9_beginsLine_q0 4 rfl) (tgt := 39) (by decide) (fun c7 => ?_) (fun c7 => ?_)
    · replace hf := (if_pos c7).symm.trans hf
      refine jr_iconst K (D_at DX9_beginsLine_q1 8 rfl) (v := (1 : Int32)) (by decide) ?_
      refine jr_goto K (D_at DX9_beginsLine_q1 9 rfl) (tgt := 44) (by decide) ?_
      cases hf
      exact jr_zret K E (D_at DX9_beginsLine_q1 11 rfl) rfl (Or.inr rfl) ⟨rfl, rfl⟩
    · replace hf := (if_neg c7).symm.trans hf
      refine jr_iload_n K (D_at DX9_beginsLine_q0 5 rfl) rfl rfl ?_
      refine jr_bipush K (D_at DX9_beginsLine_q0 6 rfl) (v := (20 : Int32)) (by decide) ?_
      refine jr_icmp_eq K (D_at DX9_beginsLine_q0 7 rfl) (tgt := 39) (by decide) (fun c13 => ?_) (fun c13 => ?_)
      · replace hf := (if_pos c13).symm.trans hf
        refine jr_iconst K (D_at DX9_beginsLine_q1 8 rfl) (v := (1 : Int32)) (by decide) ?_
        refine jr_goto K (D_at DX9_beginsLine_q1 9 rfl) (tgt := 44) (by decide) ?_
        cases hf
        exact jr_zret K E (D_at DX9_beginsLine_q1 11 rfl) rfl (Or.inr rfl) ⟨rfl, rfl⟩
      · replace hf := (if_neg c13).symm.trans hf
        refine jr_iload_n K (D_at DX9_beginsLine_q0 8 rfl) rfl rfl ?_
        refine jr_bipush K (D_at DX9_beginsLine_q0 9 rfl) (v := (21 : Int32)) (by decide) ?_
        refine jr_icmp_eq K (D_at DX9_beginsLine_q0 10 rfl) (tgt := 39) (by decide) (fun c19 => ?_) (fun c19 => ?_)
        · replace hf := (if_pos c19).symm.trans hf
          refine jr_iconst K (D_at DX9_beginsLine_q1 8 rfl) (v := (1 : Int32)) (by decide) ?_
          refine jr_goto K (D_at DX9_beginsLine_q1 9 rfl) (tgt := 44) (by decide) ?_
          cases hf
          exact jr_zret K E (D_at DX9_beginsLine_q1 11 rfl) rfl (Or.inr rfl) ⟨rfl, rfl⟩
        · replace hf := (if_neg c19).symm.trans hf
          refine jr_iload_n K (D_at DX9_beginsLine_q0 11 rfl) rfl rfl ?_
          refine jr_bipush K (D_at DX9_beginsLine_q1 0 rfl) (v := (22 : Int32)) (by decide) ?_
          refine jr_icmp_eq K (D_at DX9_beginsLine_q1 1 rfl) (tgt := 39) (by decide) (fun c25 => ?_) (fun c25 => ?_)
          · replace hf := (if_pos c25).symm.trans hf
            refine jr_iconst K (D_at DX9_beginsLine_q1 8 rfl) (v := (1 : Int32)) (by decide) ?_
            refine jr_goto K (D_at DX9_beginsLine_q1 9 rfl) (tgt := 44) (by decide) ?_
            cases hf
            exact jr_zret K E (D_at DX9_beginsLine_q1 11 rfl) rfl (Or.inr rfl) ⟨rfl, rfl⟩
          · replace hf := (if_neg c25).symm.trans hf
            refine jr_iload_n K (D_at DX9_beginsLine_q1 2 rfl) rfl rfl ?_
            refine jr_iconst K (D_at DX9_beginsLine_q1 3 rfl) (v := (5 : Int32)) (by decide) ?_
            refine jr_icmp_eq K (D_at DX9_beginsLine_q1 4 rfl) (tgt := 39) (by decide) (fun c30 => ?_) (fun c30 => ?_)
            · replace hf := (if_pos c30).symm.trans hf
              refine jr_iconst K (D_at DX9_beginsLine_q1 8 rfl) (v := (1 : Int32)) (by decide) ?_
              refine jr_goto K (D_at DX9_beginsLine_q1 9 rfl) (tgt := 44) (by decide) ?_
              cases hf
              exact jr_zret K E (D_at DX9_beginsLine_q1 11 rfl) rfl (Or.inr rfl) ⟨rfl, rfl⟩
            · replace hf := (if_neg c30).symm.trans hf
              refine jr_iload_n K (D_at DX9_beginsLine_q1 5 rfl) rfl rfl ?_
              refine jr_bipush K (D_at DX9_beginsLine_q1 6 rfl) (v := (6 : Int32)) (by decide) ?_
              refine jr_icmp_ne K (D_at DX9_beginsLine_q1 7 rfl) (tgt := 43) (by decide) (fun c36 => ?_) (fun c36 => ?_)
              · replace hf := (if_neg c36).symm.trans hf
                refine jr_iconst K (D_at DX9_beginsLine_q1 10 rfl) (v := (0 : Int32)) (by decide) ?_
                cases hf
                exact jr_zret K E (D_at DX9_beginsLine_q1 11 rfl) rfl (Or.inl rfl) ⟨rfl, rfl⟩
              · replace hf := (if_pos c36).symm.trans hf
                refine jr_iconst K (D_at DX9_beginsLine_q1 8 rfl) (v := (1 : Int32)) (by decide) ?_
                refine jr_goto K (D_at DX9_beginsLine_q1 9 rfl) (tgt := 44) (by decide) ?_
                cases hf
                exact jr_zret K E (D_at DX9_beginsLine_q1 11 rfl) rfl (Or.inr rfl) ⟨rfl, rfl⟩
theorem C_X9_beginsLine {G : jG} {l : Launch} (d : Nat) {n : Nat} {x0 : Int32} {h : jH} {res : Int32} (hf : F_X9_beginsLine n x0 h = some res) : jC G l mX9_beginsLine (d) 0 0 [.int x0] h (jPR h res) :=
  jC.of pn_X9 (jcats rfl) (Nat.le_of_ble_eq_true rfl) (fun X K E => J_X9_beginsLine K n h E x0 hf)
set_option maxHeartbeats 400000 in
set_option maxRecDepth 100000 in
theorem J_X9_readMore {G : jG} {l : Launch} {d : Nat} {X : jX} {res : (Int32 × jH)} (K : jOK G l mX9_readMore (d + 1) X) (n : Nat) (E : jEnd G mX9_readMore (jPW res) X) (a0 : Nat) (x1 : Int32) (a2 : Nat) (x3 : Int32) (x4 : Int32) (h : jH) (hf : F_X9_readMore n a0 x1 a2 x3 x4 h = some res) : jJ G X h 0 0 0 [some (.ref a0), some (.int x1), some (.ref a2), some (.int x3), some (.int x4), none] [] := by
  unfold F_X9_readMore at hf
  refine jr_iload_n K (D_at DX9_readMore_q0 0 rfl) rfl rfl ?_
  refine jr_aload_n K (D_at DX9_readMore_q0 1 rfl) rfl rfl ?_
  obtain ⟨v2, e2, hf⟩ := jbind hf
  refine jr_alen K (D_at DX9_readMore_q0 2 rfl) e2 ?_
  refine jr_icmp_ge K (D_at DX9_readMore_q0 3 rfl) (tgt := 17) (by decide) (fun c3 => ?_) (fun c3 => ?_)
  · replace hf := (if_pos c3).symm.trans hf
    refine jr_iconst K (D_at DX9_readMore_q0 9 rfl) (v := (1 : Int32)) (by decide) ?_
    cases hf
    exact jr_zret K E (D_at DX9_readMore_q0 10 rfl) rfl (Or.inr rfl) ⟨rfl, rfl⟩
  · replace hf := (if_neg c3).symm.trans hf
    refine jr_aload_n K (D_at DX9_readMore_q0 4 rfl) rfl rfl ?_
    obtain ⟨p7, e7, hf⟩ := jbind hf
    refine jr_getR K (D_at DX9_readMore_q0 5 rfl) fg_X9_15_7 e7 ?_
    refine jr_iload_n K (D_at DX9_readMore_q0 6 rfl) rfl rfl ?_
    obtain ⟨q11, e11, hf⟩ := jbind hf
    obtain ⟨rc_11, e11⟩ := jcv_o e11
    refine jr_callV K (C_X10_take (d) e11) (D_at DX9_readMore_q0 7 rfl) cv_X9_77_X10_take (As := [.int x1]) (ci := 8) rfl rc_11 rfl rfl (by exact Nat.le_of_ble_eq_true rfl) (kc2 := 0) (ks2 := 0) rfl rfl (fun k9 h9 w9 => by cases w9.1) (fun r9 h9 w9 => ?_)
    obtain ⟨w1, w2⟩ := w9
    subst h9
    cases w1
    show jJ G X _ 0 0 _ _ (.int q11.1 :: _)
    refine jr_if_ne K (D_at DX9_readMore_q0 8 rfl) (tgt := 19) (by decide) (fun c14 => ?_) (fun c14 => ?_)
    · replace hf := (if_neg c14).symm.trans hf
      refine jr_aload_n K (D_at DX9_readMore_q0 11 rfl) rfl rfl ?_
      obtain ⟨p20, e20, hf⟩ := jbind hf
      refine jr_getR K (D_at DX9_readMore_q1 0 rfl) fg_X9_15_7 e20 ?_
      refine jr_iconst K (D_at DX9_readMore_q1 1 rfl) (v := (0 : Int32)) (by decide) ?_
      refine jr_iload K (D_at DX9_readMore_q1 2 rfl) rfl ?_
      obtain ⟨q26, e26, hf⟩ := jbind hf
      obtain ⟨rc_26, e26⟩ := jcv_o e26
      refine jr_callV K (C_X10_takeNumber (d) e26) (D_at DX9_readMore_q1 3 rfl) cv_X9_51_X10_takeNumber (As := [.int (0 : Int32), .int x4]) (ci := 8) rfl rc_26 rfl rfl (by exact Nat.le_of_ble_eq_true rfl) (kc2 := 0) (ks2 := 0) rfl rfl (fun k9 h9 w9 => by cases w9.1) (fun r9 h9 w9 => ?_)
      obtain ⟨w1, w2⟩ := w9
      subst h9
      cases w1
      show jJ G X _ 0 0 _ _ (.int q26.1 :: _)
      refine jr_istore K (D_at DX9_readMore_q1 4 rfl) (i := 5) (by decide) (L2 := [_, _, _, _, _, _]) rfl ?_
      refine jr_aload_n K (D_at DX9_readMore_q1 5 rfl) rfl rfl ?_
      refine jr_iload_n K (D_at DX9_readMore_q1 6 rfl) rfl rfl ?_
      refine jr_iload K (D_at DX9_readMore_q1 7 rfl) rfl ?_
      obtain ⟨h35, e35, hf⟩ := jbind hf
      refine jr_iast K (D_at DX9_readMore_q1 8 rfl) e35 ?_
      refine jr_iload K (D_at DX9_readMore_q1 9 rfl) rfl ?_
      refine jr_iconst K (D_at DX9_readMore_q1 10 rfl) (v := (-1 : Int32)) (by decide) ?_
      refine jr_icmp_eq K (D_at DX9_readMore_q1 11 rfl) (tgt := 46) (by decide) (fun c39 => ?_) (fun c39 => ?_)
      · replace hf := (if_pos c39).symm.trans hf
        refine jr_iconst K (D_at DX9_readMore_q2 2 rfl) (v := (0 : Int32)) (by decide) ?_
        cases hf
        exact jr_zret K E (D_at DX9_readMore_q2 3 rfl) rfl (Or.inl rfl) ⟨rfl, rfl⟩
      · replace hf := (if_neg c39).symm.trans hf
        refine jr_iconst K (D_at DX9_readMore_q2 0 rfl) (v := (1 : Int32)) (by decide) ?_
        refine jr_goto K (D_at DX9_readMore_q2 1 rfl) (tgt := 47) (by decide) ?_
        cases hf
        exact jr_zret K E (D_at DX9_readMore_q2 3 rfl) rfl (Or.inr rfl) ⟨rfl, rfl⟩
    · replace hf := (if_pos c14).symm.trans hf
      refine jr_iconst K (D_at DX9_readMore_q0 9 rfl) (v := (1 : Int32)) (by decide) ?_
      cases hf
      exact jr_zret K E (D_at DX9_readMore_q0 10 rfl) rfl (Or.inr rfl) ⟨rfl, rfl⟩
theorem C_X9_readMore {G : jG} {l : Launch} (d : Nat) {n : Nat} {a0 : Nat} {x1 : Int32} {a2 : Nat} {x3 : Int32} {x4 : Int32} {h : jH} {res : (Int32 × jH)} (hf : F_X9_readMore n a0 x1 a2 x3 x4 h = some res) : jC G l mX9_readMore (d + 1) 0 0 [.ref a0, .int x1, .ref a2, .int x3, .int x4] h (jPW res) :=
  jC.of pn_X9 (jcats rfl) (Nat.le_of_ble_eq_true rfl) (fun X K E => J_X9_readMore K n E a0 x1 a2 x3 x4 h hf)
set_option maxHeartbeats 400000 in
set_option maxRecDepth 100000 in
theorem J_X9_readRing {G : jG} {l : Launch} {d : Nat} {X : jX} {res : (Int32 × jH)} (K : jOK G l mX9_readRing (d + 2) X) (n : Nat) (E : jEnd G mX9_readRing (jPW res) X) (a0 : Nat) (h : jH) (hf : F_X9_readRing n a0 h = some res) : jJ G X h 0 0 0 [some (.ref a0), none, none, none] [] := by
  unfold F_X9_readRing at hf
  refine jr_aload_n K (D_at DX9_readRing_q0 0 rfl) rfl rfl ?_
  obtain ⟨p1, e1, hf⟩ := jbind hf
  refine jr_getR K (D_at DX9_readRing_q0 1 rfl) fg_X9_15_7 e1 ?_
  refine jr_bipush K (D_at DX9_readRing_q0 2 rfl) (v := (17 : Int32)) (by decide) ?_
  obtain ⟨q6, e6, hf⟩ := jbind hf
  obtain ⟨rc_6, e6⟩ := jcv_o e6
  refine jr_callV K (C_X10_take (d + 1) e6) (D_at DX9_readRing_q0 3 rfl) cv_X9_77_X10_take (As := [.int (17 : Int32)]) (ci := 8) rfl rc_6 rfl rfl (by exact Nat.le_of_ble_eq_true rfl) (kc2 := 0) (ks2 := 0) rfl rfl (fun k9 h9 w9 => by cases w9.1) (fun r9 h9 w9 => ?_)
  obtain ⟨w1, w2⟩ := w9
  subst h9
  cases w1
  show jJ G X _ 0 0 _ _ (.int q6.1 :: _)
  refine jr_if_ne K (D_at DX9_readRing_q0 4 rfl) (tgt := 14) (by decide) (fun c9 => ?_) (fun c9 => ?_)
  · replace hf := (if_neg c9).symm.trans hf
    refine jr_aload_n K (D_at DX9_readRing_q0 7 rfl) rfl rfl ?_
    obtain ⟨p15, e15, hf⟩ := jbind hf
    refine jr_getR K (D_at DX9_readRing_q0 8 rfl) fg_X9_15_7 e15 ?_
    refine jr_aload_n K (D_at DX9_readRing_q0 9 rfl) rfl rfl ?_
    obtain ⟨p19, e19, hf⟩ := jbind hf
    refine jr_getR K (D_at DX9_readRing_q0 10 rfl) fg_X9_11_7 e19 ?_
    obtain ⟨v22, e22, hf⟩ := jbind hf
    obtain ⟨rc_22, e22⟩ := jcv_o e22
    refine jr_callV K (C_X8_nearestNew (d + 1) e22) (D_at DX9_readRing_q0 11 rfl) cv_X9_80_X8_nearestNew (As := []) (ci := 6) rfl rc_22 rfl rfl (by exact Nat.le_of_ble_eq_true rfl) (kc2 := 0) (ks2 := 0) rfl rfl (fun k9 h9 w9 => by cases w9.1) (fun r9 h9 w9 => ?_)
    obtain ⟨w1, w2⟩ := w9
    subst h9
    cases w1
    show jJ G X _ 0 0 _ _ (.int v22 :: _)
    refine jr_aload_n K (D_at DX9_readRing_q1 0 rfl) rfl rfl ?_
    obtain ⟨p26, e26, hf⟩ := jbind hf
    refine jr_getR K (D_at DX9_readRing_q1 1 rfl) fg_X9_11_7 e26 ?_
    obtain ⟨v29, e29, hf⟩ := jbind hf
    obtain ⟨rc_29, e29⟩ := jcv_o e29
    refine jr_callV K (C_X8_farthestNew (d) e29) (D_at DX9_readRing_q1 2 rfl) cv_X9_83_X8_farthestNew (As := []) (ci := 6) rfl rc_29 rfl rfl (by exact Nat.le_of_ble_eq_true rfl) (kc2 := 0) (ks2 := 0) rfl rfl (fun k9 h9 w9 => by cases w9.1) (fun r9 h9 w9 => ?_)
    obtain ⟨w1, w2⟩ := w9
    subst h9
    cases w1
    show jJ G X _ 0 0 _ _ (.int v29 :: _)
    obtain ⟨q32, e32, hf⟩ := jbind hf
    obtain ⟨rc_32, e32⟩ := jcv_o e32
    refine jr_callV K (C_X10_takeNumber (d + 1) e32) (D_at DX9_readRing_q1 3 rfl) cv_X9_51_X10_takeNumber (As := [.int v22, .int v29]) (ci := 8) rfl rc_32 rfl rfl (by exact Nat.le_of_ble_eq_true rfl) (kc2 := 0) (ks2 := 0) rfl rfl (fun k9 h9 w9 => by cases w9.1) (fun r9 h9 w9 => ?_)
    obtain ⟨w1, w2⟩ := w9
    subst h9
    cases w1
    show jJ G X _ 0 0 _ _ (.int q32.1 :: _)
    refine jr_istore_n K (D_at DX9_readRing_q1 4 rfl) (i := 1) rfl (by decide) (L2 := [_, _, _, _]) rfl ?_
    refine jr_iload_n K (D_at DX9_readRing_q1 5 rfl) rfl rfl ?_
    refine jr_iconst K (D_at DX9_readRing_q1 6 rfl) (v := (-1 : Int32)) (by decide) ?_
    refine jr_icmp_eq K (D_at DX9_readRing_q1 7 rfl) (tgt := 53) (by decide) (fun c38 => ?_) (fun c38 => ?_)
    · replace hf := (if_pos c38).symm.trans hf
      refine jr_iconst K (D_at DX9_readRing_q2 1 rfl) (v := (0 : Int32)) (by decide) ?_
      cases hf
      exact jr_zret K E (D_at DX9_readRing_q2 2 rfl) rfl (Or.inl rfl) ⟨rfl, rfl⟩
    · replace hf := (if_neg c38).symm.trans hf
      refine jr_aload_n K (D_at DX9_readRing_q1 8 rfl) rfl rfl ?_
      obtain ⟨p42, e42, hf⟩ := jbind hf
      refine jr_getR K (D_at DX9_readRing_q1 9 rfl) fg_X9_15_7 e42 ?_
      refine jr_bipush K (D_at DX9_readRing_q1 10 rfl) (v := (18 : Int32)) (by decide) ?_
      obtain ⟨q47, e47, hf⟩ := jbind hf
      obtain ⟨rc_47, e47⟩ := jcv_o e47
      refine jr_callV K (C_X10_take (d + 1) e47) (D_at DX9_readRing_q1 11 rfl) cv_X9_77_X10_take (As := [.int (18 : Int32)]) (ci := 8) rfl rc_47 rfl rfl (by exact Nat.le_of_ble_eq_true rfl) (kc2 := 0) (ks2 := 0) rfl rfl (fun k9 h9 w9 => by cases w9.1) (fun r9 h9 w9 => ?_)
      obtain ⟨w1, w2⟩ := w9
      subst h9
      cases w1
      show jJ G X _ 0 0 _ _ (.int q47.1 :: _)
      refine jr_if_ne K (D_at DX9_readRing_q2 0 rfl) (tgt := 55) (by decide) (fun c50 => ?_) (fun c50 => ?_)
      · replace hf := (if_neg c50).symm.trans hf
        refine jr_aload_n K (D_at DX9_readRing_q2 3 rfl) rfl rfl ?_
        obtain ⟨p56, e56, hf⟩ := jbind hf
        refine jr_getR K (D_at DX9_readRing_q2 4 rfl) fg_X9_15_7 e56 ?_
        refine jr_iconst K (D_at DX9_readRing_q2 5 rfl) (v := (1 : Int32)) (by decide) ?_
        refine jr_bipush K (D_at DX9_readRing_q2 6 rfl) (v := (9 : Int32)) (by decide) ?_
        obtain ⟨q62, e62, hf⟩ := jbind hf
        obtain ⟨rc_62, e62⟩ := jcv_o e62
        refine jr_callV K (C_X10_takeNumber (d + 1) e62) (D_at DX9_readRing_q2 7 rfl) cv_X9_51_X10_takeNumber (As := [.int (1 : Int32), .int (9 : Int32)]) (ci := 8) rfl rc_62 rfl rfl (by exact Nat.le_of_ble_eq_true rfl) (kc2 := 0) (ks2 := 0) rfl rfl (fun k9 h9 w9 => by cases w9.1) (fun r9 h9 w9 => ?_)
        obtain ⟨w1, w2⟩ := w9
        subst h9
        cases w1
        show jJ G X _ 0 0 _ _ (.int q62.1 :: _)
        refine jr_istore_n K (D_at DX9_readRing_q2 8 rfl) (i := 2) rfl (by decide) (L2 := [_, _, _, _]) rfl ?_
        refine jr_iload_n K (D_at DX9_readRing_q2 9 rfl) rfl rfl ?_
        refine jr_iconst K (D_at DX9_readRing_q2 10 rfl) (v := (-1 : Int32)) (by decide) ?_
        refine jr_icmp_ne K (D_at DX9_readRing_q2 11 rfl) (tgt := 73) (by decide) (fun c68 => ?_) (fun c68 => ?_)
        · replace hf := (if_neg c68).symm.trans hf
          refine jr_aload_n K (D_at DX9_readRing_q3 2 rfl) rfl rfl ?_
          obtain ⟨p74, e74, hf⟩ := jbind hf
          refine jr_getR K (D_at DX9_readRing_q3 3 rfl) fg_X9_11_7 e74 ?_
          obtain ⟨v77, e77, hf⟩ := jbind hf
          refine jr_getI K (D_at DX9_readRing_q3 4 rfl) fg_X9_29_6 e77 ?_
          refine jr_istore_n K (D_at DX9_readRing_q3 5 rfl) (i := 3) rfl (by decide) (L2 := [_, _, _, _]) rfl ?_
          refine jr_aload_n K (D_at DX9_readRing_q3 6 rfl) rfl rfl ?_
          obtain ⟨p82, e82, hf⟩ := jbind hf
          refine jr_getR K (D_at DX9_readRing_q3 7 rfl) fg_X9_11_7 e82 ?_
          refine jr_iload_n K (D_at DX9_readRing_q3 8 rfl) rfl rfl ?_
          refine jr_iload_n K (D_at DX9_readRing_q3 9 rfl) rfl rfl ?_
          obtain ⟨h87, e87, hf⟩ := jbind hf
          obtain ⟨rc_87, e87⟩ := jcv_o e87
          refine jr_callV K (C_X8_add (d) e87) (D_at DX9_readRing_q3 10 rfl) cv_X9_86_X8_add (As := [.int q32.1, .int q62.1]) (ci := 6) rfl rc_87 rfl rfl (by exact Nat.le_of_ble_eq_true rfl) (kc2 := 0) (ks2 := 0) rfl rfl (fun k9 h9 w9 => by cases w9.1) (fun r9 h9 w9 => ?_)
          obtain ⟨w1, w2⟩ := w9
          subst h9
          cases w1
          show jJ G X _ 0 0 _ _ []
          refine jr_aload_n K (D_at DX9_readRing_q3 11 rfl) rfl rfl ?_
          obtain ⟨p91, e91, hf⟩ := jbind hf
          refine jr_getR K (D_at DX9_readRing_q4 0 rfl) fg_X9_11_7 e91 ?_
          refine jr_aload_n K (D_at DX9_readRing_q4 1 rfl) rfl rfl ?_
          obtain ⟨p95, e95, hf⟩ := jbind hf
          refine jr_getR K (D_at DX9_readRing_q4 2 rfl) fg_X9_11_7 e95 ?_
          obtain ⟨v98, e98, hf⟩ := jbind hf
          refine jr_getI K (D_at DX9_readRing_q4 3 rfl) fg_X9_89_6 e98 ?_
          refine jr_iload_n K (D_at DX9_readRing_q4 4 rfl) rfl rfl ?_
          refine jr_aload_n K (D_at DX9_readRing_q4 5 rfl) rfl rfl ?_
          obtain ⟨p103, e103, hf⟩ := jbind hf
          refine jr_getR K (D_at DX9_readRing_q4 6 rfl) fg_X9_15_7 e103 ?_
          refine jr_bipush K (D_at DX9_readRing_q4 7 rfl) (v := (8 : Int32)) (by decide) ?_
          obtain ⟨q108, e108, hf⟩ := jbind hf
          obtain ⟨rc_108, e108⟩ := jcv_o e108
          refine jr_callV K (C_X10_take (d + 1) e108) (D_at DX9_readRing_q4 8 rfl) cv_X9_77_X10_take (As := [.int (8 : Int32)]) (ci := 8) rfl rc_108 rfl rfl (by exact Nat.le_of_ble_eq_true rfl) (kc2 := 0) (ks2 := 0) rfl rfl (fun k9 h9 w9 => by cases w9.1) (fun r9 h9 w9 => ?_)
          obtain ⟨w1, w2⟩ := w9
          subst h9
          cases w1
          show jJ G X _ 0 0 _ _ (.int q108.1 :: _)
          obtain ⟨v111, e111, hf⟩ := jbind hf
          refine jr_callSN K (C_X11_withBit (d + 1) e111) (D_at DX9_readRing_q4 9 rfl) csn_X9_58_X11_withBit (As := [.int v98, .int v77, .int q108.1]) rfl rfl (by exact Nat.le_of_ble_eq_true rfl) (kc2 := 0) (ks2 := 0) rfl rfl (fun k9 h9 w9 => by cases w9.1) (fun r9 h9 w9 => ?_)
          obtain ⟨w1, w2⟩ := w9
          subst h9
          cases w1
          show jJ G X _ 0 0 _ _ (.int v111 :: _)
          obtain ⟨h114, e114, hf⟩ := jbind hf
          refine jr_putI K (D_at DX9_readRing_q4 10 rfl) fp_X9_89_6 (Or.inl rfl) e114 ?_
          refine jr_aload_n K (D_at DX9_readRing_q4 11 rfl) rfl rfl ?_
          obtain ⟨p118, e118, hf⟩ := jbind hf
          refine jr_getR K (D_at DX9_readRing_q5 0 rfl) fg_X9_11_7 e118 ?_
          refine jr_aload_n K (D_at DX9_readRing_q5 1 rfl) rfl rfl ?_
          obtain ⟨p122, e122, hf⟩ := jbind hf
          refine jr_getR K (D_at DX9_readRing_q5 2 rfl) fg_X9_11_7 e122 ?_
          obtain ⟨v125, e125, hf⟩ := jbind hf
          refine jr_getI K (D_at DX9_readRing_q5 3 rfl) fg_X9_92_6 e125 ?_
          refine jr_iload_n K (D_at DX9_readRing_1_q0 0 rfl) rfl rfl ?_
          refine jr_aload_n K (D_at DX9_readRing_1_q0 1 rfl) rfl rfl ?_
          obtain ⟨p130, e130, hf⟩ := jbind hf
          refine jr_getR K (D_at DX9_readRing_1_q0 2 rfl) fg_X9_15_7 e130 ?_
          refine jr_bipush K (D_at DX9_readRing_1_q0 3 rfl) (v := (7 : Int32)) (by decide) ?_
          obtain ⟨q135, e135, hf⟩ := jbind hf
          obtain ⟨rc_135, e135⟩ := jcv_o e135
          refine jr_callV K (C_X10_take (d + 1) e135) (D_at DX9_readRing_1_q0 4 rfl) cv_X9_77_X10_take (As := [.int (7 : Int32)]) (ci := 8) rfl rc_135 rfl rfl (by exact Nat.le_of_ble_eq_true rfl) (kc2 := 0) (ks2 := 0) rfl rfl (fun k9 h9 w9 => by cases w9.1) (fun r9 h9 w9 => ?_)
          obtain ⟨w1, w2⟩ := w9
          subst h9
          cases w1
          show jJ G X _ 0 0 _ _ (.int q135.1 :: _)
          obtain ⟨v138, e138, hf⟩ := jbind hf
          refine jr_callSN K (C_X11_withBit (d + 1) e138) (D_at DX9_readRing_1_q0 5 rfl) csn_X9_58_X11_withBit (As := [.int v125, .int v77, .int q135.1]) rfl rfl (by exact Nat.le_of_ble_eq_true rfl) (kc2 := 0) (ks2 := 0) rfl rfl (fun k9 h9 w9 => by cases w9.1) (fun r9 h9 w9 => ?_)
          obtain ⟨w1, w2⟩ := w9
          subst h9
          cases w1
          show jJ G X _ 0 0 _ _ (.int v138 :: _)
          obtain ⟨h141, e141, hf⟩ := jbind hf
          refine jr_putI K (D_at DX9_readRing_1_q0 6 rfl) fp_X9_92_6 (Or.inl rfl) e141 ?_
          refine jr_aload_n K (D_at DX9_readRing_1_q0 7 rfl) rfl rfl ?_
          refine jr_iconst K (D_at DX9_readRing_1_q0 8 rfl) (v := (3 : Int32)) (by decide) ?_
          refine jr_aload_n K (D_at DX9_readRing_1_q0 9 rfl) rfl rfl ?_
          obtain ⟨p147, e147, hf⟩ := jbind hf
          refine jr_getR K (D_at DX9_readRing_1_q0 10 rfl) fg_X9_11_7 e147 ?_
          obtain ⟨p150, e150, hf⟩ := jbind hf
          refine jr_getR K (D_at DX9_readRing_1_q0 11 rfl) fg_X9_95_6 e150 ?_
          refine jr_iload_n K (D_at DX9_readRing_1_q1 0 rfl) rfl rfl ?_
          refine jr_bipush K (D_at DX9_readRing_1_q1 1 rfl) (v := (99 : Int32)) (by decide) ?_
          obtain ⟨q156, e156, hf⟩ := jbind hf
          obtain ⟨rc_156, e156⟩ := jcv_o e156
          refine jr_callV K (C_X9_readMore (d) e156) (D_at DX9_readRing_1_q1 2 rfl) cv_X9_99_X9_readMore (As := [.int (3 : Int32), .ref p150, .int v77, .int (99 : Int32)]) (ci := 7) rfl rc_156 rfl rfl (by exact Nat.le_of_ble_eq_true rfl) (kc2 := 0) (ks2 := 0) rfl rfl (fun k9 h9 w9 => by cases w9.1) (fun r9 h9 w9 => ?_)
          obtain ⟨w1, w2⟩ := w9
          subst h9
          cases w1
          show jJ G X _ 0 0 _ _ (.int q156.1 :: _)
          refine jr_if_eq K (D_at DX9_readRing_1_q1 3 rfl) (tgt := 184) (by decide) (fun c159 => ?_) (fun c159 => ?_)
          · replace hf := (if_pos c159).symm.trans hf
            refine jr_iconst K (D_at DX9_readRing_1_q2 3 rfl) (v := (0 : Int32)) (by decide) ?_
            cases hf
            exact jr_zret K E (D_at DX9_readRing_1_q2 4 rfl) rfl (Or.inl rfl) ⟨rfl, rfl⟩
          · replace hf := (if_neg c159).symm.trans hf
            refine jr_aload_n K (D_at DX9_readRing_1_q1 4 rfl) rfl rfl ?_
            refine jr_iconst K (D_at DX9_readRing_1_q1 5 rfl) (v := (4 : Int32)) (by decide) ?_
            refine jr_aload_n K (D_at DX9_readRing_1_q1 6 rfl) rfl rfl ?_
            obtain ⟨p165, e165, hf⟩ := jbind hf
            refine jr_getR K (D_at DX9_readRing_1_q1 7 rfl) fg_X9_11_7 e165 ?_
            obtain ⟨p168, e168, hf⟩ := jbind hf
            refine jr_getR K (D_at DX9_readRing_1_q1 8 rfl) fg_X9_103_6 e168 ?_
            refine jr_iload_n K (D_at DX9_readRing_1_q1 9 rfl) rfl rfl ?_
            refine jr_bipush K (D_at DX9_readRing_1_q1 10 rfl) (v := (9 : Int32)) (by decide) ?_
            obtain ⟨q174, e174, hf⟩ := jbind hf
            obtain ⟨rc_174, e174⟩ := jcv_o e174
            refine jr_callV K (C_X9_readMore (d) e174) (D_at DX9_readRing_1_q1 11 rfl) cv_X9_99_X9_readMore (As := [.int (4 : Int32), .ref p168, .int v77, .int (9 : Int32)]) (ci := 7) rfl rc_174 rfl rfl (by exact Nat.le_of_ble_eq_true rfl) (kc2 := 0) (ks2 := 0) rfl rfl (fun k9 h9 w9 => by cases w9.1) (fun r9 h9 w9 => ?_)
            obtain ⟨w1, w2⟩ := w9
            subst h9
            cases w1
            show jJ G X _ 0 0 _ _ (.int q174.1 :: _)
            refine jr_if_eq K (D_at DX9_readRing_1_q2 0 rfl) (tgt := 184) (by decide) (fun c177 => ?_) (fun c177 => ?_)
            · replace hf := (if_pos c177).symm.trans hf
              refine jr_iconst K (D_at DX9_readRing_1_q2 3 rfl) (v := (0 : Int32)) (by decide) ?_
              cases hf
              exact jr_zret K E (D_at DX9_readRing_1_q2 4 rfl) rfl (Or.inl rfl) ⟨rfl, rfl⟩
            · replace hf := (if_neg c177).symm.trans hf
              refine jr_iconst K (D_at DX9_readRing_1_q2 1 rfl) (v := (1 : Int32)) (by decide) ?_
              refine jr_goto K (D_at DX9_readRing_1_q2 2 rfl) (tgt := 185) (by decide) ?_
              cases hf
              exact jr_zret K E (D_at DX9_readRing_1_q2 4 rfl) rfl (Or.inr rfl) ⟨rfl, rfl⟩
        · replace hf := (if_pos c68).symm.trans hf
          refine jr_iconst K (D_at DX9_readRing_q3 0 rfl) (v := (0 : Int32)) (by decide) ?_
          cases hf
          exact jr_zret K E (D_at DX9_readRing_q3 1 rfl) rfl (Or.inl rfl) ⟨rfl, rfl⟩
      · replace hf := (if_pos c50).symm.trans hf
        refine jr_iconst K (D_at DX9_readRing_q2 1 rfl) (v := (0 : Int32)) (by decide) ?_
        cases hf
        exact jr_zret K E (D_at DX9_readRing_q2 2 rfl) rfl (Or.inl rfl) ⟨rfl, rfl⟩
  · replace hf := (if_pos c9).symm.trans hf
    refine jr_iconst K (D_at DX9_readRing_q0 5 rfl) (v := (0 : Int32)) (by decide) ?_
    cases hf
    exact jr_zret K E (D_at DX9_readRing_q0 6 rfl) rfl (Or.inl rfl) ⟨rfl, rfl⟩
theorem C_X9_readRing {G : jG} {l : Launch} (d : Nat) {n : Nat} {a0 : Nat} {h : jH} {res : (Int32 × jH)} (hf : F_X9_readRing n a0 h = some res) : jC G l mX9_readRing (d + 2) 0 0 [.ref a0] h (jPW res) :=
  jC.of pn_X9 (jcats rfl) (Nat.le_of_ble_eq_true rfl) (fun X K E => J_X9_readRing K n E a0 h hf)
set_option maxHeartbeats 400000 in
set_option maxRecDepth 100000 in
theorem J_X9_readNumber {G : jG} {l : Launch} {d : Nat} {X : jX} {res : (Int32 × jH)} (K : jOK G l mX9_readNumber (d + 1) X) (n : Nat) (E : jEnd G mX9_readNumber (jPW res) X) (a0 : Nat) (x1 : Int32) (h : jH) (hf : F_X9_readNumber n a0 x1 h = some res) : jJ G X h 0 0 0 [some (.ref a0), some (.int x1)] [] := by
  unfold F_X9_readNumber at hf
  refine jr_iload_n K (D_at DX9_readNumber_q0 0 rfl) rfl rfl ?_
  by_cases c1_0 : x1 = (5 : Int32)
  · replace hf := (if_pos c1_0).symm.trans hf
    refine jr_lookup K (D_at DX9_readNumber_q1 0 rfl) (off := 72) (tgt := 73) (by decide) (by rw [c1_0]; decide) (by decide) ?_
    refine jr_aload_n K (D_at DX9_readNumber_q3 4 rfl) rfl rfl ?_
    obtain ⟨p74, e74, hf⟩ := jbind hf
    refine jr_getR K (D_at DX9_readNumber_q3 5 rfl) fg_X9_15_7 e74 ?_
    refine jr_iconst K (D_at DX9_readNumber_q3 6 rfl) (v := (0 : Int32)) (by decide) ?_
    refine jr_bipush K (D_at DX9_readNumber_q3 7 rfl) (v := (7 : Int32)) (by decide) ?_
    obtain ⟨q80, e80, hf⟩ := jbind hf
    obtain ⟨rc_80, e80⟩ := jcv_o e80
    refine jr_callV K (C_X10_takeNumber (d) e80) (D_at DX9_readNumber_q3 8 rfl) cv_X9_51_X10_takeNumber (As := [.int (0 : Int32), .int (7 : Int32)]) (ci := 8) rfl rc_80 rfl rfl (by exact Nat.le_of_ble_eq_true rfl) (kc2 := 0) (ks2 := 0) rfl rfl (fun k9 h9 w9 => by cases w9.1) (fun r9 h9 w9 => ?_)
    obtain ⟨w1, w2⟩ := w9
    subst h9
    cases w1
    show jJ G X _ 0 0 _ _ (.int q80.1 :: _)
    cases hf
    exact jr_iret K E (D_at DX9_readNumber_q3 9 rfl) rfl ⟨rfl, rfl⟩
  replace hf := (if_neg c1_0).symm.trans hf
  by_cases c1_1 : x1 = (6 : Int32)
  · replace hf := (if_pos c1_1).symm.trans hf
    refine jr_lookup K (D_at DX9_readNumber_q1 0 rfl) (off := 83) (tgt := 84) (by decide) (by rw [c1_1]; decide) (by decide) ?_
    refine jr_aload_n K (D_at DX9_readNumber_q3 10 rfl) rfl rfl ?_
    obtain ⟨p85, e85, hf⟩ := jbind hf
    refine jr_getR K (D_at DX9_readNumber_q3 11 rfl) fg_X9_15_7 e85 ?_
    refine jr_iconst K (D_at DX9_readNumber_q4 0 rfl) (v := (0 : Int32)) (by decide) ?_
    refine jr_sipush K (D_at DX9_readNumber_q4 1 rfl) (v := (999 : Int32)) (by decide) ?_
    obtain ⟨q92, e92, hf⟩ := jbind hf
    obtain ⟨rc_92, e92⟩ := jcv_o e92
    refine jr_callV K (C_X10_takeNumber (d) e92) (D_at DX9_readNumber_q4 2 rfl) cv_X9_51_X10_takeNumber (As := [.int (0 : Int32), .int (999 : Int32)]) (ci := 8) rfl rc_92 rfl rfl (by exact Nat.le_of_ble_eq_true rfl) (kc2 := 0) (ks2 := 0) rfl rfl (fun k9 h9 w9 => by cases w9.1) (fun r9 h9 w9 => ?_)
    obtain ⟨w1, w2⟩ := w9
    subst h9
    cases w1
    show jJ G X _ 0 0 _ _ (.int q92.1 :: _)
    cases hf
    exact jr_iret K E (D_at DX9_readNumber_q4 3 rfl) rfl ⟨rfl, rfl⟩
  replace hf := (if_neg c1_1).symm.trans hf
  by_cases c1_2 : x1 = (19 : Int32)
  · replace hf := (if_pos c1_2).symm.trans hf
    refine jr_lookup K (D_at DX9_readNumber_q1 0 rfl) (off := 43) (tgt := 44) (by decide) (by rw [c1_2]; decide) (by decide) ?_
    refine jr_aload_n K (D_at DX9_readNumber_q2 0 rfl) rfl rfl ?_
    obtain ⟨p45, e45, hf⟩ := jbind hf
    refine jr_getR K (D_at DX9_readNumber_q2 1 rfl) fg_X9_15_7 e45 ?_
    refine jr_iconst K (D_at DX9_readNumber_q2 2 rfl) (v := (0 : Int32)) (by decide) ?_
    refine jr_aload_n K (D_at DX9_readNumber_q2 3 rfl) rfl rfl ?_
    obtain ⟨p50, e50, hf⟩ := jbind hf
    refine jr_getR K (D_at DX9_readNumber_q2 4 rfl) fg_X9_11_7 e50 ?_
    obtain ⟨v53, e53, hf⟩ := jbind hf
    refine jr_getI K (D_at DX9_readNumber_q2 5 rfl) fg_X9_29_6 e53 ?_
    refine jr_iconst K (D_at DX9_readNumber_q2 6 rfl) (v := (2 : Int32)) (by decide) ?_
    refine jr_isub K (D_at DX9_readNumber_q2 7 rfl) ?_
    obtain ⟨q58, e58, hf⟩ := jbind hf
    obtain ⟨rc_58, e58⟩ := jcv_o e58
    refine jr_callV K (C_X10_takeNumber (d) e58) (D_at DX9_readNumber_q2 8 rfl) cv_X9_51_X10_takeNumber (As := [.int (0 : Int32), .int (v53 - (2 : Int32))]) (ci := 8) rfl rc_58 rfl rfl (by exact Nat.le_of_ble_eq_true rfl) (kc2 := 0) (ks2 := 0) rfl rfl (fun k9 h9 w9 => by cases w9.1) (fun r9 h9 w9 => ?_)
    obtain ⟨w1, w2⟩ := w9
    subst h9
    cases w1
    show jJ G X _ 0 0 _ _ (.int q58.1 :: _)
    cases hf
    exact jr_iret K E (D_at DX9_readNumber_q2 9 rfl) rfl ⟨rfl, rfl⟩
  replace hf := (if_neg c1_2).symm.trans hf
  by_cases c1_3 : x1 = (21 : Int32)
  · replace hf := (if_pos c1_3).symm.trans hf
    refine jr_lookup K (D_at DX9_readNumber_q1 0 rfl) (off := 61) (tgt := 62) (by decide) (by rw [c1_3]; decide) (by decide) ?_
    refine jr_aload_n K (D_at DX9_readNumber_q2 10 rfl) rfl rfl ?_
    obtain ⟨p63, e63, hf⟩ := jbind hf
    refine jr_getR K (D_at DX9_readNumber_q2 11 rfl) fg_X9_15_7 e63 ?_
    refine jr_iconst K (D_at DX9_readNumber_q3 0 rfl) (v := (1 : Int32)) (by decide) ?_
    refine jr_bipush K (D_at DX9_readNumber_q3 1 rfl) (v := (31 : Int32)) (by decide) ?_
    obtain ⟨q69, e69, hf⟩ := jbind hf
    obtain ⟨rc_69, e69⟩ := jcv_o e69
    refine jr_callV K (C_X10_takeNumber (d) e69) (D_at DX9_readNumber_q3 2 rfl) cv_X9_51_X10_takeNumber (As := [.int (1 : Int32), .int (31 : Int32)]) (ci := 8) rfl rc_69 rfl rfl (by exact Nat.le_of_ble_eq_true rfl) (kc2 := 0) (ks2 := 0) rfl rfl (fun k9 h9 w9 => by cases w9.1) (fun r9 h9 w9 => ?_)
    obtain ⟨w1, w2⟩ := w9
    subst h9
    cases w1
    show jJ G X _ 0 0 _ _ (.int q69.1 :: _)
    cases hf
    exact jr_iret K E (D_at DX9_readNumber_q3 3 rfl) rfl ⟨rfl, rfl⟩
  replace hf := (if_neg c1_3).symm.trans hf
  refine jr_lookup K (D_at DX9_readNumber_q1 0 rfl) (off := 95) (tgt := 96) (by decide) (by show Op.lookupswitch.offset [(5, 72), (6, 83), (19, 43), (21, 61)] 95 _ = _; rw [lv_osw c1_0 (a := 5) (by decide), lv_osw c1_1 (a := 6) (by decide), lv_osw c1_2 (a := 19) (by decide), lv_osw c1_3 (a := 21) (by decide)]; rfl) (by decide) ?_
  refine jr_aload_n K (D_at DX9_readNumber_q4 4 rfl) rfl rfl ?_
  obtain ⟨p97, e97, hf⟩ := jbind hf
  refine jr_getR K (D_at DX9_readNumber_q4 5 rfl) fg_X9_15_7 e97 ?_
  refine jr_iconst K (D_at DX9_readNumber_q4 6 rfl) (v := (0 : Int32)) (by decide) ?_
  refine jr_bipush K (D_at DX9_readNumber_q4 7 rfl) (v := (31 : Int32)) (by decide) ?_
  obtain ⟨q103, e103, hf⟩ := jbind hf
  obtain ⟨rc_103, e103⟩ := jcv_o e103
  refine jr_callV K (C_X10_takeNumber (d) e103) (D_at DX9_readNumber_q4 8 rfl) cv_X9_51_X10_takeNumber (As := [.int (0 : Int32), .int (31 : Int32)]) (ci := 8) rfl rc_103 rfl rfl (by exact Nat.le_of_ble_eq_true rfl) (kc2 := 0) (ks2 := 0) rfl rfl (fun k9 h9 w9 => by cases w9.1) (fun r9 h9 w9 => ?_)
  obtain ⟨w1, w2⟩ := w9
  subst h9
  cases w1
  show jJ G X _ 0 0 _ _ (.int q103.1 :: _)
  cases hf
  exact jr_iret K E (D_at DX9_readNumber_q4 9 rfl) rfl ⟨rfl, rfl⟩
theorem C_X9_readNumber {G : jG} {l : Launch} (d : Nat) {n : Nat} {a0 : Nat} {x1 : Int32} {h : jH} {res : (Int32 × jH)} (hf : F_X9_readNumber n a0 x1 h = some res) : jC G l mX9_readNumber (d + 1) 0 0 [.ref a0, .int x1] h (jPW res) :=
  jC.of pn_X9 (jcats rfl) (Nat.le_of_ble_eq_true rfl) (fun X K E => J_X9_readNumber K n E a0 x1 h hf)
set_option maxHeartbeats 400000 in
set_option maxRecDepth 100000 in
theorem J_X9_keepNumber {G : jG} {l : Launch} {d : Nat} {X : jX} {res : jH} (K : jOK G l mX9_keepNumber (d + 1) X) (n : Nat) (E : jEnd G mX9_keepNumber (jPV res) X) (a0 : Nat) (x1 : Int32) (x2 : Int32) (h : jH) (hf : F_X9_keepNumber n a0 x1 x2 h = some res) : jJ G X h 0 0 0 [some (.ref a0), some (.int x1), some (.int x2)] [] := by
  unfold F_X9_keepNumber at hf
  refine jr_iload_n K (D_at DX9_keepNumber_q0 0 rfl) rfl rfl ?_
  by_cases c1_0 : x1 = (5 : Int32)
  · replace hf := (if_pos c1_0).symm.trans hf
    refine jr_lookup K (D_at DX9_keepNumber_q1 0 rfl) (off := 117) (tgt := 118) (by decide) (by rw [c1_0]; decide) (by decide) ?_
    refine jr_aload_n K (D_at DX9_keepNumber_q4 6 rfl) rfl rfl ?_
    obtain ⟨p119, e119, hf⟩ := jbind hf
    refine jr_getR K (D_at DX9_keepNumber_q4 7 rfl) fg_X9_11_7 e119 ?_
    refine jr_iload_n K (D_at DX9_keepNumber_q4 8 rfl) rfl rfl ?_
    obtain ⟨h123, e123, hf⟩ := jbind hf
    refine jr_putI K (D_at DX9_keepNumber_q4 9 rfl) fp_X9_71_6 (Or.inl rfl) e123 ?_
    refine jr_goto K (D_at DX9_keepNumber_q4 10 rfl) (tgt := 137) (by decide) ?_
    cases hf
    exact jr_vret K E (D_at DX9_keepNumber_q5 3 rfl) rfl ⟨rfl, rfl⟩
  replace hf := (if_neg c1_0).symm.trans hf
  by_cases c1_1 : x1 = (19 : Int32)
  · replace hf := (if_pos c1_1).symm.trans hf
    refine jr_lookup K (D_at DX9_keepNumber_q1 0 rfl) (off := 51) (tgt := 52) (by decide) (by rw [c1_1]; decide) (by decide) ?_
    refine jr_aload_n K (D_at DX9_keepNumber_q2 0 rfl) rfl rfl ?_
    obtain ⟨p53, e53, hf⟩ := jbind hf
    refine jr_getR K (D_at DX9_keepNumber_q2 1 rfl) fg_X9_11_7 e53 ?_
    refine jr_aload_n K (D_at DX9_keepNumber_q2 2 rfl) rfl rfl ?_
    obtain ⟨p57, e57, hf⟩ := jbind hf
    refine jr_getR K (D_at DX9_keepNumber_q2 3 rfl) fg_X9_11_7 e57 ?_
    obtain ⟨v60, e60, hf⟩ := jbind hf
    refine jr_getI K (D_at DX9_keepNumber_q2 4 rfl) fg_X9_55_6 e60 ?_
    refine jr_iload_n K (D_at DX9_keepNumber_q2 5 rfl) rfl rfl ?_
    refine jr_iconst K (D_at DX9_keepNumber_q2 6 rfl) (v := (1 : Int32)) (by decide) ?_
    obtain ⟨v65, e65, hf⟩ := jbind hf
    refine jr_callSN K (C_X11_withBit (d) e65) (D_at DX9_keepNumber_q2 7 rfl) csn_X9_58_X11_withBit (As := [.int v60, .int x2, .int (1 : Int32)]) rfl rfl (by exact Nat.le_of_ble_eq_true rfl) (kc2 := 0) (ks2 := 0) rfl rfl (fun k9 h9 w9 => by cases w9.1) (fun r9 h9 w9 => ?_)
    obtain ⟨w1, w2⟩ := w9
    subst h9
    cases w1
    show jJ G X _ 0 0 _ _ (.int v65 :: _)
    obtain ⟨h68, e68, hf⟩ := jbind hf
    refine jr_putI K (D_at DX9_keepNumber_q2 8 rfl) fp_X9_55_6 (Or.inl rfl) e68 ?_
    refine jr_goto K (D_at DX9_keepNumber_q2 9 rfl) (tgt := 137) (by decide) ?_
    cases hf
    exact jr_vret K E (D_at DX9_keepNumber_q5 3 rfl) rfl ⟨rfl, rfl⟩
  replace hf := (if_neg c1_1).symm.trans hf
  by_cases c1_2 : x1 = (20 : Int32)
  · replace hf := (if_pos c1_2).symm.trans hf
    refine jr_lookup K (D_at DX9_keepNumber_q1 0 rfl) (off := 73) (tgt := 74) (by decide) (by rw [c1_2]; decide) (by decide) ?_
    refine jr_aload_n K (D_at DX9_keepNumber_q2 10 rfl) rfl rfl ?_
    obtain ⟨p75, e75, hf⟩ := jbind hf
    refine jr_getR K (D_at DX9_keepNumber_q2 11 rfl) fg_X9_11_7 e75 ?_
    refine jr_aload_n K (D_at DX9_keepNumber_q3 0 rfl) rfl rfl ?_
    obtain ⟨p79, e79, hf⟩ := jbind hf
    refine jr_getR K (D_at DX9_keepNumber_q3 1 rfl) fg_X9_11_7 e79 ?_
    obtain ⟨v82, e82, hf⟩ := jbind hf
    refine jr_getI K (D_at DX9_keepNumber_q3 2 rfl) fg_X9_62_6 e82 ?_
    refine jr_iload_n K (D_at DX9_keepNumber_q3 3 rfl) rfl rfl ?_
    refine jr_iconst K (D_at DX9_keepNumber_q3 4 rfl) (v := (1 : Int32)) (by decide) ?_
    obtain ⟨v87, e87, hf⟩ := jbind hf
    refine jr_callSN K (C_X11_withBit (d) e87) (D_at DX9_keepNumber_q3 5 rfl) csn_X9_58_X11_withBit (As := [.int v82, .int x2, .int (1 : Int32)]) rfl rfl (by exact Nat.le_of_ble_eq_true rfl) (kc2 := 0) (ks2 := 0) rfl rfl (fun k9 h9 w9 => by cases w9.1) (fun r9 h9 w9 => ?_)
    obtain ⟨w1, w2⟩ := w9
    subst h9
    cases w1
    show jJ G X _ 0 0 _ _ (.int v87 :: _)
    obtain ⟨h90, e90, hf⟩ := jbind hf
    refine jr_putI K (D_at DX9_keepNumber_q3 6 rfl) fp_X9_62_6 (Or.inl rfl) e90 ?_
    refine jr_goto K (D_at DX9_keepNumber_q3 7 rfl) (tgt := 137) (by decide) ?_
    cases hf
    exact jr_vret K E (D_at DX9_keepNumber_q5 3 rfl) rfl ⟨rfl, rfl⟩
  replace hf := (if_neg c1_2).symm.trans hf
  by_cases c1_3 : x1 = (21 : Int32)
  · replace hf := (if_pos c1_3).symm.trans hf
    refine jr_lookup K (D_at DX9_keepNumber_q1 0 rfl) (off := 95) (tgt := 96) (by decide) (by rw [c1_3]; decide) (by decide) ?_
    refine jr_aload_n K (D_at DX9_keepNumber_q3 8 rfl) rfl rfl ?_
    obtain ⟨p97, e97, hf⟩ := jbind hf
    refine jr_getR K (D_at DX9_keepNumber_q3 9 rfl) fg_X9_11_7 e97 ?_
    refine jr_iload_n K (D_at DX9_keepNumber_q3 10 rfl) rfl rfl ?_
    obtain ⟨h101, e101, hf⟩ := jbind hf
    refine jr_putI K (D_at DX9_keepNumber_q3 11 rfl) fp_X9_65_6 (Or.inl rfl) e101 ?_
    refine jr_goto K (D_at DX9_keepNumber_q4 0 rfl) (tgt := 137) (by decide) ?_
    cases hf
    exact jr_vret K E (D_at DX9_keepNumber_q5 3 rfl) rfl ⟨rfl, rfl⟩
  replace hf := (if_neg c1_3).symm.trans hf
  by_cases c1_4 : x1 = (22 : Int32)
  · replace hf := (if_pos c1_4).symm.trans hf
    refine jr_lookup K (D_at DX9_keepNumber_q1 0 rfl) (off := 106) (tgt := 107) (by decide) (by rw [c1_4]; decide) (by decide) ?_
    refine jr_aload_n K (D_at DX9_keepNumber_q4 1 rfl) rfl rfl ?_
    obtain ⟨p108, e108, hf⟩ := jbind hf
    refine jr_getR K (D_at DX9_keepNumber_q4 2 rfl) fg_X9_11_7 e108 ?_
    refine jr_iload_n K (D_at DX9_keepNumber_q4 3 rfl) rfl rfl ?_
    obtain ⟨h112, e112, hf⟩ := jbind hf
    refine jr_putI K (D_at DX9_keepNumber_q4 4 rfl) fp_X9_68_6 (Or.inl rfl) e112 ?_
    refine jr_goto K (D_at DX9_keepNumber_q4 5 rfl) (tgt := 137) (by decide) ?_
    cases hf
    exact jr_vret K E (D_at DX9_keepNumber_q5 3 rfl) rfl ⟨rfl, rfl⟩
  replace hf := (if_neg c1_4).symm.trans hf
  refine jr_lookup K (D_at DX9_keepNumber_q1 0 rfl) (off := 128) (tgt := 129) (by decide) (by show Op.lookupswitch.offset [(5, 117), (19, 51), (20, 73), (21, 95), (22, 106)] 128 _ = _; rw [lv_osw c1_0 (a := 5) (by decide), lv_osw c1_1 (a := 19) (by decide), lv_osw c1_2 (a := 20) (by decide), lv_osw c1_3 (a := 21) (by decide), lv_osw c1_4 (a := 22) (by decide)]; rfl) (by decide) ?_
  refine jr_aload_n K (D_at DX9_keepNumber_q4 11 rfl) rfl rfl ?_
  obtain ⟨p130, e130, hf⟩ := jbind hf
  refine jr_getR K (D_at DX9_keepNumber_q5 0 rfl) fg_X9_11_7 e130 ?_
  refine jr_iload_n K (D_at DX9_keepNumber_q5 1 rfl) rfl rfl ?_
  obtain ⟨h134, e134, hf⟩ := jbind hf
  refine jr_putI K (D_at DX9_keepNumber_q5 2 rfl) fp_X9_74_6 (Or.inl rfl) e134 ?_
  cases hf
  exact jr_vret K E (D_at DX9_keepNumber_q5 3 rfl) rfl ⟨rfl, rfl⟩
theorem C_X9_keepNumber {G : jG} {l : Launch} (d : Nat) {n : Nat} {a0 : Nat} {x1 : Int32} {x2 : Int32} {h : jH} {res : jH} (hf : F_X9_keepNumber n a0 x1 x2 h = some res) : jC G l mX9_keepNumber (d + 1) 0 0 [.ref a0, .int x1, .int x2] h (jPV res) :=
  jC.of pn_X9 (jcats rfl) (Nat.le_of_ble_eq_true rfl) (fun X K E => J_X9_keepNumber K n E a0 x1 x2 h hf)
set_option maxHeartbeats 400000 in
set_option maxRecDepth 100000 in
theorem J_X9_readLine_33 {G : jG} {l : Launch} {d : Nat} {X : jX} {res : (Int32 × jH)} (K : jOK G l mX9_readLine (d + 3) X) (n : Nat) (E : jEnd G mX9_readLine (jPW res) X) (a0 : Nat) (x1 : Int32) (h : jH) (hf : F_X9_readLine_33 n a0 x1 h = some res) : jJ G X h 0 0 33 [some (.ref a0), some (.int x1), none] [] := by
  unfold F_X9_readLine_33 at hf
  refine jr_aload_n K (D_at DX9_readLine_q1 4 rfl) rfl rfl ?_
  obtain ⟨p34, e34, hf⟩ := jbind hf
  refine jr_getR K (D_at DX9_readLine_q1 5 rfl) fg_X9_15_7 e34 ?_
  obtain ⟨h37, e37, hf⟩ := jbind hf
  obtain ⟨rc_37, e37⟩ := jcv_o e37
  refine jr_callV K (C_X10_skip (d + 2) e37) (D_at DX9_readLine_q1 6 rfl) cv_X9_35_X10_skip (As := []) (ci := 8) rfl rc_37 rfl rfl (by exact Nat.le_of_ble_eq_true rfl) (kc2 := 0) (ks2 := 0) rfl rfl (fun k9 h9 w9 => by cases w9.1) (fun r9 h9 w9 => ?_)
  obtain ⟨w1, w2⟩ := w9
  subst h9
  cases w1
  show jJ G X _ 0 0 _ _ []
  refine jr_iload_n K (D_at DX9_readLine_q1 7 rfl) rfl rfl ?_
  refine jr_if_ne K (D_at DX9_readLine_q1 8 rfl) (tgt := 49) (by decide) (fun c41 => ?_) (fun c41 => ?_)
  · replace hf := (if_neg c41).symm.trans hf
    refine jr_aload_n K (D_at DX9_readLine_q2 0 rfl) rfl rfl ?_
    refine jr_iload_n K (D_at DX9_readLine_q2 1 rfl) rfl rfl ?_
    obtain ⟨q51, e51, hf⟩ := jbind hf
    obtain ⟨rc_51, e51⟩ := jcv_o e51
    refine jr_callV K (C_X9_readNumber (d + 1) e51) (D_at DX9_readLine_q2 2 rfl) cv_X9_43_X9_readNumber (As := [.int x1]) (ci := 7) rfl rc_51 rfl rfl (by exact Nat.le_of_ble_eq_true rfl) (kc2 := 0) (ks2 := 0) rfl rfl (fun k9 h9 w9 => by cases w9.1) (fun r9 h9 w9 => ?_)
    obtain ⟨w1, w2⟩ := w9
    subst h9
    cases w1
    show jJ G X _ 0 0 _ _ (.int q51.1 :: _)
    refine jr_istore_n K (D_at DX9_readLine_q2 3 rfl) (i := 2) rfl (by decide) (L2 := [_, _, _]) rfl ?_
    refine jr_iload_n K (D_at DX9_readLine_q2 4 rfl) rfl rfl ?_
    refine jr_iconst K (D_at DX9_readLine_q2 5 rfl) (v := (-1 : Int32)) (by decide) ?_
    refine jr_icmp_ne K (D_at DX9_readLine_q2 6 rfl) (tgt := 62) (by decide) (fun c57 => ?_) (fun c57 => ?_)
    · replace hf := (if_neg c57).symm.trans hf
      refine jr_aload_n K (D_at DX9_readLine_q2 9 rfl) rfl rfl ?_
      refine jr_iload_n K (D_at DX9_readLine_q2 10 rfl) rfl rfl ?_
      refine jr_iload_n K (D_at DX9_readLine_q2 11 rfl) rfl rfl ?_
      obtain ⟨h65, e65, hf⟩ := jbind hf
      obtain ⟨rc_65, e65⟩ := jcv_o e65
      refine jr_callV K (C_X9_keepNumber (d + 1) e65) (D_at DX9_readLine_q3 0 rfl) cv_X9_47_X9_keepNumber (As := [.int x1, .int q51.1]) (ci := 7) rfl rc_65 rfl rfl (by exact Nat.le_of_ble_eq_true rfl) (kc2 := 0) (ks2 := 0) rfl rfl (fun k9 h9 w9 => by cases w9.1) (fun r9 h9 w9 => ?_)
      obtain ⟨w1, w2⟩ := w9
      subst h9
      cases w1
      show jJ G X _ 0 0 _ _ []
      refine jr_iconst K (D_at DX9_readLine_q3 1 rfl) (v := (1 : Int32)) (by decide) ?_
      cases hf
      exact jr_zret K E (D_at DX9_readLine_q3 2 rfl) rfl (Or.inr rfl) ⟨rfl, rfl⟩
    · replace hf := (if_pos c57).symm.trans hf
      refine jr_iconst K (D_at DX9_readLine_q2 7 rfl) (v := (0 : Int32)) (by decide) ?_
      cases hf
      exact jr_zret K E (D_at DX9_readLine_q2 8 rfl) rfl (Or.inl rfl) ⟨rfl, rfl⟩
  · replace hf := (if_pos c41).symm.trans hf
    refine jr_aload_n K (D_at DX9_readLine_q1 9 rfl) rfl rfl ?_
    obtain ⟨q45, e45, hf⟩ := jbind hf
    obtain ⟨rc_45, e45⟩ := jcv_o e45
    refine jr_callV K (C_X9_readRing (d) e45) (D_at DX9_readLine_q1 10 rfl) cv_X9_39_X9_readRing (As := []) (ci := 7) rfl rc_45 rfl rfl (by exact Nat.le_of_ble_eq_true rfl) (kc2 := 0) (ks2 := 0) rfl rfl (fun k9 h9 w9 => by cases w9.1) (fun r9 h9 w9 => ?_)
    obtain ⟨w1, w2⟩ := w9
    subst h9
    cases w1
    show jJ G X _ 0 0 _ _ (.int q45.1 :: _)
    by_cases z9 : q45.1 = 0 ∨ q45.1 = 1
    · replace hf := (if_pos z9).symm.trans hf
      cases hf
      exact jr_zret K E (D_at DX9_readLine_q1 11 rfl) rfl z9 ⟨rfl, rfl⟩
    · exact jno (show (none : Option (Int32 × jH)) = some res from (if_neg z9).symm.trans hf)
set_option maxHeartbeats 400000 in
set_option maxRecDepth 100000 in
theorem J_X9_readLine {G : jG} {l : Launch} {d : Nat} {X : jX} {res : (Int32 × jH)} (K : jOK G l mX9_readLine (d + 3) X) (n : Nat) (E : jEnd G mX9_readLine (jPW res) X) (a0 : Nat) (h : jH) (hf : F_X9_readLine n a0 h = some res) : jJ G X h 0 0 0 [some (.ref a0), none, none] [] := by
  unfold F_X9_readLine at hf
  refine jr_aload_n K (D_at DX9_readLine_q0 0 rfl) rfl rfl ?_
  obtain ⟨p1, e1, hf⟩ := jbind hf
  refine jr_getR K (D_at DX9_readLine_q0 1 rfl) fg_X9_15_7 e1 ?_
  obtain ⟨v4, e4, hf⟩ := jbind hf
  obtain ⟨rc_4, e4⟩ := jcv_o e4
  refine jr_callV K (C_X10_kind (d + 2) e4) (D_at DX9_readLine_q0 2 rfl) cv_X9_19_X10_kind (As := []) (ci := 8) rfl rc_4 rfl rfl (by exact Nat.le_of_ble_eq_true rfl) (kc2 := 0) (ks2 := 0) rfl rfl (fun k9 h9 w9 => by cases w9.1) (fun r9 h9 w9 => ?_)
  obtain ⟨w1, w2⟩ := w9
  subst h9
  cases w1
  show jJ G X _ 0 0 _ _ (.int v4 :: _)
  refine jr_istore_n K (D_at DX9_readLine_q0 3 rfl) (i := 1) rfl (by decide) (L2 := [_, _, _]) rfl ?_
  refine jr_iload_n K (D_at DX9_readLine_q0 4 rfl) rfl rfl ?_
  obtain ⟨v9, e9, hf⟩ := jbind hf
  refine jr_callS K (C_X9_beginsLine (d + 2) e9) (D_at DX9_readLine_q0 5 rfl) cs_X9_25_X9_beginsLine (As := [.int v4]) rfl rfl (by exact Nat.le_of_ble_eq_true rfl) (kc2 := 0) (ks2 := 0) rfl rfl (fun k9 h9 w9 => by cases w9.1) (fun r9 h9 w9 => ?_)
  obtain ⟨w1, w2⟩ := w9
  subst h9
  cases w1
  show jJ G X _ 0 0 _ _ (.int v9 :: _)
  refine jr_if_eq K (D_at DX9_readLine_q0 6 rfl) (tgt := 31) (by decide) (fun c12 => ?_) (fun c12 => ?_)
  · replace hf := (if_pos c12).symm.trans hf
    refine jr_iconst K (D_at DX9_readLine_q1 2 rfl) (v := (0 : Int32)) (by decide) ?_
    cases hf
    exact jr_zret K E (D_at DX9_readLine_q1 3 rfl) rfl (Or.inl rfl) ⟨rfl, rfl⟩
  · replace hf := (if_neg c12).symm.trans hf
    refine jr_iload_n K (D_at DX9_readLine_q0 7 rfl) rfl rfl ?_
    refine jr_if_ne K (D_at DX9_readLine_q0 8 rfl) (tgt := 33) (by decide) (fun c16 => ?_) (fun c16 => ?_)
    · replace hf := (if_neg c16).symm.trans hf
      refine jr_keep [true, true, false] ?_
      exact J_X9_readLine_33 K n E a0 v4 h hf
    · replace hf := (if_pos c16).symm.trans hf
      refine jr_aload_n K (D_at DX9_readLine_q0 9 rfl) rfl rfl ?_
      obtain ⟨p20, e20, hf⟩ := jbind hf
      refine jr_getR K (D_at DX9_readLine_q0 10 rfl) fg_X9_11_7 e20 ?_
      obtain ⟨v23, e23, hf⟩ := jbind hf
      refine jr_getI K (D_at DX9_readLine_q0 11 rfl) fg_X9_29_6 e23 ?_
      refine jr_bipush K (D_at DX9_readLine_q1 0 rfl) (v := (8 : Int32)) (by decide) ?_
      refine jr_icmp_lt K (D_at DX9_readLine_q1 1 rfl) (tgt := 33) (by decide) (fun c28 => ?_) (fun c28 => ?_)
      · replace hf := (if_pos c28).symm.trans hf
        refine jr_keep [true, true, false] ?_
        exact J_X9_readLine_33 K n E a0 v4 h hf
      · replace hf := (if_neg c28).symm.trans hf
        refine jr_iconst K (D_at DX9_readLine_q1 2 rfl) (v := (0 : Int32)) (by decide) ?_
        cases hf
        exact jr_zret K E (D_at DX9_readLine_q1 3 rfl) rfl (Or.inl rfl) ⟨rfl, rfl⟩
theorem C_X9_readLine {G : jG} {l : Launch} (d : Nat) {n : Nat} {a0 : Nat} {h : jH} {res : (Int32 × jH)} (hf : F_X9_readLine n a0 h = some res) : jC G l mX9_readLine (d + 3) 0 0 [.ref a0] h (jPW res) :=
  jC.of pn_X9 (jcats rfl) (Nat.le_of_ble_eq_true rfl) (fun X K E => J_X9_readLine K n E a0 h hf)
set_option maxHeartbeats 400000 in
set_option maxRecDepth 100000 in
theorem J_X10_init {G : jG} {l : Launch} {d : Nat} {X : jX} {res : jH} (K : jOK G l mX10_init (d + 1) X) (n : Nat) (E : jEnd G mX10_init (jPV res) X) (a0 : Nat) (h : jH) (hf : F_X10_init n a0 h = some res) : jJ G X h 4 1600 0 [some (.ref a0)] [] := by
  unfold F_X10_init at hf
  refine jr_aload_n K (D_at DX10_init_q0 0 rfl) rfl rfl ?_
  refine jr_objInit K (D_at DX10_init_q0 1 rfl) oi_X10_3 (by exact Nat.le_of_ble_eq_true rfl) ?_
  refine jr_aload_n K (D_at DX10_init_q0 2 rfl) rfl rfl ?_
  refine jr_sipush K (D_at DX10_init_q0 3 rfl) (v := (400 : Int32)) (by decide) ?_
  obtain ⟨h8, e8, hf⟩ := jbind hf
  refine jr_newBE (N := 400) K (D_at DX10_init_q0 4 rfl) ac_byte (by decide) (by decide) (by decide) (kc := 3) (ks := 1200) e8 ?_
  obtain ⟨h10, e10, hf⟩ := jbind hf
  refine jr_putA K (D_at DX10_init_q0 5 rfl) fp_X10_9_8 (Or.inr rfl) e10 ?_
  refine jr_aload_n K (D_at DX10_init_q0 6 rfl) rfl rfl ?_
  refine jr_sipush K (D_at DX10_init_q0 7 rfl) (v := (400 : Int32)) (by decide) ?_
  obtain ⟨h17, e17, hf⟩ := jbind hf
  refine jr_newIE (N := 400) K (D_at DX10_init_q0 8 rfl) ac_int (by decide) (by decide) (by decide) (kc := 2) (ks := 800) e17 ?_
  obtain ⟨h19, e19, hf⟩ := jbind hf
  refine jr_putA K (D_at DX10_init_q0 9 rfl) fp_X10_15_8 (Or.inr rfl) e19 ?_
  refine jr_aload_n K (D_at DX10_init_q0 10 rfl) rfl rfl ?_
  refine jr_sipush K (D_at DX10_init_q0 11 rfl) (v := (400 : Int32)) (by decide) ?_
  obtain ⟨h26, e26, hf⟩ := jbind hf
  refine jr_newIE (N := 400) K (D_at DX10_init_q1 0 rfl) ac_int (by decide) (by decide) (by decide) (kc := 1) (ks := 400) e26 ?_
  obtain ⟨h28, e28, hf⟩ := jbind hf
  refine jr_putA K (D_at DX10_init_q1 1 rfl) fp_X10_19_8 (Or.inr rfl) e28 ?_
  refine jr_aload_n K (D_at DX10_init_q1 2 rfl) rfl rfl ?_
  refine jr_sipush K (D_at DX10_init_q1 3 rfl) (v := (400 : Int32)) (by decide) ?_
  obtain ⟨h35, e35, hf⟩ := jbind hf
  refine jr_newIE (N := 400) K (D_at DX10_init_q1 4 rfl) ac_int (by decide) (by decide) (by decide) (kc := 0) (ks := 0) e35 ?_
  obtain ⟨h37, e37, hf⟩ := jbind hf
  refine jr_putA K (D_at DX10_init_q1 5 rfl) fp_X10_22_8 (Or.inr rfl) e37 ?_
  cases hf
  exact jr_vret K E (D_at DX10_init_q1 6 rfl) rfl ⟨rfl, rfl⟩
theorem C_X10_init {G : jG} {l : Launch} (d : Nat) {n : Nat} {a0 : Nat} {h : jH} {res : jH} (hf : F_X10_init n a0 h = some res) : jC G l mX10_init (d + 1) 4 1600 [.ref a0] h (jPV res) :=
  jC.of pn_X10 (jcats rfl) (Nat.le_of_ble_eq_true rfl) (fun X K E => J_X10_init K n E a0 h hf)
set_option maxHeartbeats 400000 in
set_option maxRecDepth 100000 in
theorem J_X10_hasRoom {G : jG} {l : Launch} {d : Nat} {X : jX} {res : Int32} (K : jOK G l mX10_hasRoom (d) X) (n : Nat) (h : jH) (E : jEnd G mX10_hasRoom (jPR h res) X) (a0 : Nat) (hf : F_X10_hasRoom n a0 h = some res) : jJ G X h 0 0 0 [some (.ref a0)] [] := by
  unfold F_X10_hasRoom at hf
  refine jr_aload_n K (D_at DX10_hasRoom_q0 0 rfl) rfl rfl ?_
  obtain ⟨v1, e1, hf⟩ := jbind hf
  refine jr_getI K (D_at DX10_hasRoom_q0 1 rfl) fg_X10_25_8 e1 ?_
  refine jr_bipush K (D_at DX10_hasRoom_q0 2 rfl) (v := (20 : Int32)) (by decide) ?_
  refine jr_iadd K (D_at DX10_hasRoom_q0 3 rfl) ?_
  refine jr_sipush K (D_at DX10_hasRoom_q0 4 rfl) (v := (400 : Int32)) (by decide) ?_
  refine jr_icmp_gt K (D_at DX10_hasRoom_q0 5 rfl) (tgt := 17) (by decide) (fun c10 => ?_) (fun c10 => ?_)
  · replace hf := (if_pos c10).symm.trans hf
    refine jr_iconst K (D_at DX10_hasRoom_q0 8 rfl) (v := (0 : Int32)) (by decide) ?_
    cases hf
    exact jr_zret K E (D_at DX10_hasRoom_q0 9 rfl) rfl (Or.inl rfl) ⟨rfl, rfl⟩
  · replace hf := (if_neg c10).symm.trans hf
    refine jr_iconst K (D_at DX10_hasRoom_q0 6 rfl) (v := (1 : Int32)) (by decide) ?_
    refine jr_goto K (D_at DX10_hasRoom_q0 7 rfl) (tgt := 18) (by decide) ?_
    cases hf
    exact jr_zret K E (D_at DX10_hasRoom_q0 9 rfl) rfl (Or.inr rfl) ⟨rfl, rfl⟩
theorem C_X10_hasRoom {G : jG} {l : Launch} (d : Nat) {n : Nat} {a0 : Nat} {h : jH} {res : Int32} (hf : F_X10_hasRoom n a0 h = some res) : jC G l mX10_hasRoom (d) 0 0 [.ref a0] h (jPR h res) :=
  jC.of pn_X10 (jcats rfl) (Nat.le_of_ble_eq_true rfl) (fun X K E => J_X10_hasRoom K n h E a0 hf)
set_option maxHeartbeats 400000 in
set_option maxRecDepth 100000 in
theorem J_X10_put_3_b {G : jG} {l : Launch} {d : Nat} {X : jX} {res : jH} (K : jOK G l mX10_put (d) X) (n : Nat) (rc3 : Nat → Int32 → Int32 → jH → Option jH) (hr3 : ∀ (a0 : Nat) (x1 : Int32) (x2 : Int32) (h : jH), rc3 a0 x1 x2 h = some res → jJ G X h 0 0 3 [some (.ref a0), some (.int x1), some (.int x2)] []) (E : jEnd G mX10_put (jPV res) X) (a0 : Nat) (x1 : Int32) (x2 : Int32) (h : jH) (hf : F_X10_put_3_b n rc3 a0 x1 x2 h = some res) : jJ G X h 0 0 3 [some (.ref a0), some (.int x1), some (.int x2)] [] := by
  unfold F_X10_put_3_b at hf
  refine jr_iload_n K (D_at DX10_put_q0 2 rfl) rfl rfl ?_
  refine jr_if_lt K (D_at DX10_put_q0 3 rfl) (tgt := 46) (by decide) (fun c4 => ?_) (fun c4 => ?_)
  · replace hf := (if_pos c4).symm.trans hf
    cases hf
    exact jr_vret K E (D_at DX10_put_q2 1 rfl) rfl ⟨rfl, rfl⟩
  · replace hf := (if_neg c4).symm.trans hf
    refine jr_aload_n K (D_at DX10_put_q0 4 rfl) rfl rfl ?_
    obtain ⟨v8, e8, hf⟩ := jbind hf
    refine jr_getI K (D_at DX10_put_q0 5 rfl) fg_X10_25_8 e8 ?_
    refine jr_sipush K (D_at DX10_put_q0 6 rfl) (v := (400 : Int32)) (by decide) ?_
    refine jr_icmp_ge K (D_at DX10_put_q0 7 rfl) (tgt := 46) (by decide) (fun c14 => ?_) (fun c14 => ?_)
    · replace hf := (if_pos c14).symm.trans hf
      cases hf
      exact jr_vret K E (D_at DX10_put_q2 1 rfl) rfl ⟨rfl, rfl⟩
    · replace hf := (if_neg c14).symm.trans hf
      refine jr_aload_n K (D_at DX10_put_q0 8 rfl) rfl rfl ?_
      obtain ⟨p18, e18, hf⟩ := jbind hf
      refine jr_getR K (D_at DX10_put_q0 9 rfl) fg_X10_9_8 e18 ?_
      refine jr_aload_n K (D_at DX10_put_q0 10 rfl) rfl rfl ?_
      obtain ⟨v22, e22, hf⟩ := jbind hf
      refine jr_getI K (D_at DX10_put_q0 11 rfl) fg_X10_25_8 e22 ?_
      refine jr_iload_n K (D_at DX10_put_q1 0 rfl) rfl rfl ?_
      refine jr_iload_n K (D_at DX10_put_q1 1 rfl) rfl rfl ?_
      refine jr_iushr K (D_at DX10_put_q1 2 rfl) (v := jushr x1 x2) rfl ?_
      refine jr_i2b K (D_at DX10_put_q1 3 rfl) (v := (jushr x1 x2).toInt8.toInt32) rfl ?_
      obtain ⟨h29, e29, hf⟩ := jbind hf
      refine jr_bast K (D_at DX10_put_q1 4 rfl) e29 ?_
      refine jr_aload_n K (D_at DX10_put_q1 5 rfl) rfl rfl ?_
      refine jr_dup K (D_at DX10_put_q1 6 rfl) rfl ?_
      obtain ⟨v32, e32, hf⟩ := jbind hf
      refine jr_getI K (D_at DX10_put_q1 7 rfl) fg_X10_25_8 e32 ?_
      refine jr_iconst K (D_at DX10_put_q1 8 rfl) (v := (1 : Int32)) (by decide) ?_
      refine jr_iadd K (D_at DX10_put_q1 9 rfl) ?_
      obtain ⟨h37, e37, hf⟩ := jbind hf
      refine jr_putI K (D_at DX10_put_q1 10 rfl) fp_X10_25_8 (Or.inl rfl) e37 ?_
      refine jr_iinc K (D_at DX10_put_q1 11 rfl) (i := 2) rfl (v := x2 + (-8 : Int32)) (jinc (by decide)) (by decide) (L2 := [_, _, _]) rfl ?_
      refine jr_goto K (D_at DX10_put_q2 0 rfl) (tgt := 3) (by decide) ?_
      refine jr_keep [true, true, true] ?_
      exact hr3 a0 x1 (x2 + (-8 : Int32)) h37 hf
theorem J_X10_put_3 {G : jG} {l : Launch} {d : Nat} {X : jX} {res : jH} (K : jOK G l mX10_put (d) X) (n : Nat) (E : jEnd G mX10_put (jPV res) X) (k : Nat) : ∀ (a0 : Nat) (x1 : Int32) (x2 : Int32) (h : jH), F_X10_put_3 n k a0 x1 x2 h = some res → jJ G X h 0 0 3 [some (.ref a0), some (.int x1), some (.int x2)] [] := by
  induction k with
  | zero =>
    intro a0 x1 x2 h hf
    exact jno (show (none : Option jH) = some res from hf)
  | succ k ih =>
    intro a0 x1 x2 h hf
    exact J_X10_put_3_b K n (F_X10_put_3 n k) ih E a0 x1 x2 h hf
set_option maxHeartbeats 400000 in
set_option maxRecDepth 100000 in
theorem J_X10_put {G : jG} {l : Launch} {d : Nat} {X : jX} {res : jH} (K : jOK G l mX10_put (d) X) (n : Nat) (E : jEnd G mX10_put (jPV res) X) (a0 : Nat) (x1 : Int32) (h : jH) (hf : F_X10_put n a0 x1 h = some res) : jJ G X h 0 0 0 [some (.ref a0), some (.int x1), none] [] := by
  unfold F_X10_put at hf
  refine jr_bipush K (D_at DX10_put_q0 0 rfl) (v := (24 : Int32)) (by decide) ?_
  refine jr_istore_n K (D_at DX10_put_q0 1 rfl) (i := 2) rfl (by decide) (L2 := [_, _, _]) rfl ?_
  refine jr_keep [true, true, true] ?_
  exact J_X10_put_3 K n E n a0 x1 (24 : Int32) h hf
theorem C_X10_put {G : jG} {l : Launch} (d : Nat) {n : Nat} {a0 : Nat} {x1 : Int32} {h : jH} {res : jH} (hf : F_X10_put n a0 x1 h = some res) : jC G l mX10_put (d) 0 0 [.ref a0, .int x1] h (jPV res) :=
  jC.of pn_X10 (jcats rfl) (Nat.le_of_ble_eq_true rfl) (fun X K E => J_X10_put K n E a0 x1 h hf)
set_option maxHeartbeats 400000 in
set_option maxRecDepth 100000 in
theorem J_X10_endOfRow_3_b {G : jG} {l : Launch} {d : Nat} {X : jX} {res : Int32} (K : jOK G l mX10_endOfRow (d + 1) X) (n : Nat) (h : jH) (rc3 : Nat → Int32 → Int32 → Int32 → jH → Option Int32) (hr3 : ∀ (a0 : Nat) (x2 : Int32) (x3 : Int32) (x4 : Int32), rc3 a0 x2 x3 x4 h = some res → jJ G X h 0 0 3 [some (.ref a0), none, some (.int x2), some (.int x3), some (.int x4)] []) (E : jEnd G mX10_endOfRow (jPR h res) X) (a0 : Nat) (x2 : Int32) (x3 : Int32) (x4 : Int32) (hf : F_X10_endOfRow_3_b n rc3 a0 x2 x3 x4 h = some res) : jJ G X h 0 0 3 [some (.ref a0), none, some (.int x2), some (.int x3), some (.int x4)] [] := by
  unfold F_X10_endOfRow_3_b at hf
  refine jr_iload K (D_at DX10_endOfRow_q0 2 rfl) rfl ?_
  refine jr_aload_n K (D_at DX10_endOfRow_q0 3 rfl) rfl rfl ?_
  obtain ⟨v6, e6, hf⟩ := jbind hf
  refine jr_getI K (D_at DX10_endOfRow_q0 4 rfl) fg_X10_25_8 e6 ?_
  refine jr_icmp_ge K (D_at DX10_endOfRow_q0 5 rfl) (tgt := 38) (by decide) (fun c9 => ?_) (fun c9 => ?_)
  · replace hf := (if_pos c9).symm.trans hf
    refine jr_iload K (D_at DX10_endOfRow_q1 6 rfl) rfl ?_
    cases hf
    exact jr_iret K E (D_at DX10_endOfRow_q1 7 rfl) rfl ⟨rfl, rfl⟩
  · replace hf := (if_neg c9).symm.trans hf
    refine jr_aload_n K (D_at DX10_endOfRow_q0 6 rfl) rfl rfl ?_
    refine jr_iload K (D_at DX10_endOfRow_q0 7 rfl) rfl ?_
    obtain ⟨v15, e15, hf⟩ := jbind hf
    obtain ⟨rc_15, e15⟩ := jcv_o e15
    refine jr_callV K (C_X10_at (d) e15) (D_at DX10_endOfRow_q0 8 rfl) cv_X10_35_X10_at (As := [.int x4]) (ci := 8) rfl rc_15 rfl rfl (by exact Nat.le_of_ble_eq_true rfl) (kc2 := 0) (ks2 := 0) rfl rfl (fun k9 h9 w9 => by cases w9.1) (fun r9 h9 w9 => ?_)
    obtain ⟨w1, w2⟩ := w9
    subst h9
    cases w1
    show jJ G X _ 0 0 _ _ (.int v15 :: _)
    refine jr_iload_n K (D_at DX10_endOfRow_q0 9 rfl) rfl rfl ?_
    refine jr_icmp_lt K (D_at DX10_endOfRow_q0 10 rfl) (tgt := 38) (by decide) (fun c19 => ?_) (fun c19 => ?_)
    · replace hf := (if_pos c19).symm.trans hf
      refine jr_iload K (D_at DX10_endOfRow_q1 6 rfl) rfl ?_
      cases hf
      exact jr_iret K E (D_at DX10_endOfRow_q1 7 rfl) rfl ⟨rfl, rfl⟩
    · replace hf := (if_neg c19).symm.trans hf
      refine jr_aload_n K (D_at DX10_endOfRow_q0 11 rfl) rfl rfl ?_
      refine jr_iload K (D_at DX10_endOfRow_q1 0 rfl) rfl ?_
      obtain ⟨v25, e25, hf⟩ := jbind hf
      obtain ⟨rc_25, e25⟩ := jcv_o e25
      refine jr_callV K (C_X10_at (d) e25) (D_at DX10_endOfRow_q1 1 rfl) cv_X10_35_X10_at (As := [.int x4]) (ci := 8) rfl rc_25 rfl rfl (by exact Nat.le_of_ble_eq_true rfl) (kc2 := 0) (ks2 := 0) rfl rfl (fun k9 h9 w9 => by cases w9.1) (fun r9 h9 w9 => ?_)
      obtain ⟨w1, w2⟩ := w9
      subst h9
      cases w1
      show jJ G X _ 0 0 _ _ (.int v25 :: _)
      refine jr_iload_n K (D_at DX10_endOfRow_q1 2 rfl) rfl rfl ?_
      refine jr_icmp_gt K (D_at DX10_endOfRow_q1 3 rfl) (tgt := 38) (by decide) (fun c29 => ?_) (fun c29 => ?_)
      · replace hf := (if_pos c29).symm.trans hf
        refine jr_iload K (D_at DX10_endOfRow_q1 6 rfl) rfl ?_
        cases hf
        exact jr_iret K E (D_at DX10_endOfRow_q1 7 rfl) rfl ⟨rfl, rfl⟩
      · replace hf := (if_neg c29).symm.trans hf
        refine jr_iinc K (D_at DX10_endOfRow_q1 4 rfl) (i := 4) rfl (v := x4 + (1 : Int32)) (jinc (by decide)) (by decide) (L2 := [_, _, _, _, _]) rfl ?_
        refine jr_goto K (D_at DX10_endOfRow_q1 5 rfl) (tgt := 3) (by decide) ?_
        refine jr_keep [true, false, true, true, true] ?_
        exact hr3 a0 x2 x3 (x4 + (1 : Int32)) hf
theorem J_X10_endOfRow_3 {G : jG} {l : Launch} {d : Nat} {X : jX} {res : Int32} (K : jOK G l mX10_endOfRow (d + 1) X) (n : Nat) (h : jH) (E : jEnd G mX10_endOfRow (jPR h res) X) (k : Nat) : ∀ (a0 : Nat) (x2 : Int32) (x3 : Int32) (x4 : Int32), F_X10_endOfRow_3 n k a0 x2 x3 x4 h = some res → jJ G X h 0 0 3 [some (.ref a0), none, some (.int x2), some (.int x3), some (.int x4)] [] := by
  induction k with
  | zero =>
    intro a0 x2 x3 x4 hf
    exact jno (show (none : Option Int32) = some res from hf)
  | succ k ih =>
    intro a0 x2 x3 x4 hf
    exact J_X10_endOfRow_3_b K n h (F_X10_endOfRow_3 n k) ih E a0 x2 x3 x4 hf
set_option maxHeartbeats 400000 in
set_option maxRecDepth 100000 in
theorem J_X10_endOfRow {G : jG} {l : Launch} {d : Nat} {X : jX} {res : Int32} (K : jOK G l mX10_endOfRow (d + 1) X) (n : Nat) (h : jH) (E : jEnd G mX10_endOfRow (jPR h res) X) (a0 : Nat) (x1 : Int32) (x2 : Int32) (x3 : Int32) (hf : F_X10_endOfRow n a0 x1 x2 x3 h = some res) : jJ G X h 0 0 0 [some (.ref a0), some (.int x1), some (.int x2), some (.int x3), none] [] := by
  unfold F_X10_endOfRow at hf
  refine jr_iload_n K (D_at DX10_endOfRow_q0 0 rfl) rfl rfl ?_
  refine jr_istore K (D_at DX10_endOfRow_q0 1 rfl) (i := 4) (by decide) (L2 := [_, _, _, _, _]) rfl ?_
  refine jr_keep [true, false, true, true, true] ?_
  exact J_X10_endOfRow_3 K n h E n a0 x2 x3 x1 hf
theorem C_X10_endOfRow {G : jG} {l : Launch} (d : Nat) {n : Nat} {a0 : Nat} {x1 : Int32} {x2 : Int32} {x3 : Int32} {h : jH} {res : Int32} (hf : F_X10_endOfRow n a0 x1 x2 x3 h = some res) : jC G l mX10_endOfRow (d + 1) 0 0 [.ref a0, .int x1, .int x2, .int x3] h (jPR h res) :=
  jC.of pn_X10 (jcats rfl) (Nat.le_of_ble_eq_true rfl) (fun X K E => J_X10_endOfRow K n h E a0 x1 x2 x3 hf)
set_option maxHeartbeats 400000 in
set_option maxRecDepth 100000 in
theorem J_X10_standsAt_3_b {G : jG} {l : Launch} {d : Nat} {X : jX} {res : Int32} (K : jOK G l mX10_standsAt (d + 6) X) (n : Nat) (h : jH) (rc3 : Nat → Int32 → Int32 → Int32 → Int32 → jH → Option Int32) (hr3 : ∀ (a0 : Nat) (x1 : Int32) (x2 : Int32) (x3 : Int32) (x4 : Int32), rc3 a0 x1 x2 x3 x4 h = some res → jJ G X h 0 0 3 [some (.ref a0), some (.int x1), some (.int x2), some (.int x3), some (.int x4)] []) (E : jEnd G mX10_standsAt (jPR h res) X) (a0 : Nat) (x1 : Int32) (x2 : Int32) (x3 : Int32) (x4 : Int32) (hf : F_X10_standsAt_3_b n rc3 a0 x1 x2 x3 x4 h = some res) : jJ G X h 0 0 3 [some (.ref a0), some (.int x1), some (.int x2), some (.int x3), some (.int x4)] [] := by
  unfold F_X10_standsAt_3_b at hf
  refine jr_iload K (D_at DX10_standsAt_q0 2 rfl) rfl ?_
  refine jr_iload_n K (D_at DX10_standsAt_q0 3 rfl) rfl rfl ?_
  refine jr_icmp_ge K (D_at DX10_standsAt_q0 4 rfl) (tgt := 37) (by decide) (fun c6 => ?_) (fun c6 => ?_)
  · replace hf := (if_pos c6).symm.trans hf
    refine jr_iconst K (D_at DX10_standsAt_q1 8 rfl) (v := (1 : Int32)) (by decide) ?_
    cases hf
    exact jr_zret K E (D_at DX10_standsAt_q1 9 rfl) rfl (Or.inr rfl) ⟨rfl, rfl⟩
  · replace hf := (if_neg c6).symm.trans hf
    refine jr_aload_n K (D_at DX10_standsAt_q0 5 rfl) rfl rfl ?_
    refine jr_iload_n K (D_at DX10_standsAt_q0 6 rfl) rfl rfl ?_
    refine jr_iload K (D_at DX10_standsAt_q0 7 rfl) rfl ?_
    refine jr_iadd K (D_at DX10_standsAt_q0 8 rfl) ?_
    refine jr_iload_n K (D_at DX10_standsAt_q0 9 rfl) rfl rfl ?_
    refine jr_isub K (D_at DX10_standsAt_q0 10 rfl) ?_
    obtain ⟨v16, e16, hf⟩ := jbind hf
    obtain ⟨rc_16, e16⟩ := jcv_o e16
    refine jr_callV K (C_X10_at (d + 5) e16) (D_at DX10_standsAt_q0 11 rfl) cv_X10_35_X10_at (As := [.int ((x1 + x4) - x2)]) (ci := 8) rfl rc_16 rfl rfl (by exact Nat.le_of_ble_eq_true rfl) (kc2 := 0) (ks2 := 0) rfl rfl (fun k9 h9 w9 => by cases w9.1) (fun r9 h9 w9 => ?_)
    obtain ⟨w1, w2⟩ := w9
    subst h9
    cases w1
    show jJ G X _ 0 0 _ _ (.int v16 :: _)
    refine jr_ldcS K (D_at DX10_standsAt_q1 0 rfl) (i := 0) rfl ?_
    refine jr_iload K (D_at DX10_standsAt_q1 1 rfl) rfl ?_
    obtain ⟨v23, e23, hf⟩ := jbind hf
    refine jr_schar K (D_at DX10_standsAt_q1 2 rfl) ss_X10_60 (by exact Nat.le_of_ble_eq_true rfl) e23 ?_
    refine jr_icmp_eq K (D_at DX10_standsAt_q1 3 rfl) (tgt := 31) (by decide) (fun c26 => ?_) (fun c26 => ?_)
    · replace hf := (if_pos c26).symm.trans hf
      refine jr_iinc K (D_at DX10_standsAt_q1 6 rfl) (i := 4) rfl (v := x4 + (1 : Int32)) (jinc (by decide)) (by decide) (L2 := [_, _, _, _, _]) rfl ?_
      refine jr_goto K (D_at DX10_standsAt_q1 7 rfl) (tgt := 3) (by decide) ?_
      refine jr_keep [true, true, true, true, true] ?_
      exact hr3 a0 x1 x2 x3 (x4 + (1 : Int32)) hf
    · replace hf := (if_neg c26).symm.trans hf
      refine jr_iconst K (D_at DX10_standsAt_q1 4 rfl) (v := (0 : Int32)) (by decide) ?_
      cases hf
      exact jr_zret K E (D_at DX10_standsAt_q1 5 rfl) rfl (Or.inl rfl) ⟨rfl, rfl⟩
theorem J_X10_standsAt_3 {G : jG} {l : Launch} {d : Nat} {X : jX} {res : Int32} (K : jOK G l mX10_standsAt (d + 6) X) (n : Nat) (h : jH) (E : jEnd G mX10_standsAt (jPR h res) X) (k : Nat) : ∀ (a0 : Nat) (x1 : Int32) (x2 : Int32) (x3 : Int32) (x4 : Int32), F_X10_standsAt_3 n k a0 x1 x2 x3 x4 h = some res → jJ G X h 0 0 3 [some (.ref a0), some (.int x1), some (.int x2), some (.int x3), some (.int x4)] [] := by
  induction k with
  | zero =>
    intro a0 x1 x2 x3 x4 hf
    exact jno (show (none : Option Int32) = some res from hf)
  | succ k ih =>
    intro a0 x1 x2 x3 x4 hf
    exact J_X10_standsAt_3_b K n h (F_X10_standsAt_3 n k) ih E a0 x1 x2 x3 x4 hf
set_option maxHeartbeats 400000 in
set_option maxRecDepth 100000 in
theorem J_X10_standsAt {G : jG} {l : Launch} {d : Nat} {X : jX} {res : Int32} (K : jOK G l mX10_standsAt (d + 6) X) (n : Nat) (h : jH) (E : jEnd G mX10_standsAt (jPR h res) X) (a0 : Nat) (x1 : Int32) (x2 : Int32) (x3 : Int32) (hf : F_X10_standsAt n a0 x1 x2 x3 h = some res) : jJ G X h 0 0 0 [some (.ref a0), some (.int x1), some (.int x2), some (.int x3), none] [] := by
  unfold F_X10_standsAt at hf
  refine jr_iload_n K (D_at DX10_standsAt_q0 0 rfl) rfl rfl ?_
  refine jr_istore K (D_at DX10_standsAt_q0 1 rfl) (i := 4) (by decide) (L2 := [_, _, _, _, _]) rfl ?_
  refine jr_keep [true, true, true, true, true] ?_
  exact J_X10_standsAt_3 K n h E n a0 x1 x2 x3 x2 hf
theorem C_X10_standsAt {G : jG} {l : Launch} (d : Nat) {n : Nat} {a0 : Nat} {x1 : Int32} {x2 : Int32} {x3 : Int32} {h : jH} {res : Int32} (hf : F_X10_standsAt n a0 x1 x2 x3 h = some res) : jC G l mX10_standsAt (d + 6) 0 0 [.ref a0, .int x1, .int x2, .int x3] h (jPR h res) :=
  jC.of pn_X10 (jcats rfl) (Nat.le_of_ble_eq_true rfl) (fun X K E => J_X10_standsAt K n h E a0 x1 x2 x3 hf)
set_option maxHeartbeats 400000 in
set_option maxRecDepth 100000 in
theorem J_X10_wordBetween_8_b {G : jG} {l : Launch} {d : Nat} {X : jX} {res : Int32} (K : jOK G l mX10_wordBetween (d + 7) X) (n : Nat) (h : jH) (rc8 : Nat → Int32 → Int32 → Int32 → Int32 → Int32 → jH → Option Int32) (hr8 : ∀ (a0 : Nat) (x1 : Int32) (x2 : Int32) (x3 : Int32) (x4 : Int32) (x5 : Int32), rc8 a0 x1 x2 x3 x4 x5 h = some res → jJ G X h 0 0 8 [some (.ref a0), some (.int x1), some (.int x2), some (.int x3), some (.int x4), some (.int x5)] []) (E : jEnd G mX10_wordBetween (jPR h res) X) (a0 : Nat) (x1 : Int32) (x2 : Int32) (x3 : Int32) (x4 : Int32) (x5 : Int32) (hf : F_X10_wordBetween_8_b n rc8 a0 x1 x2 x3 x4 x5 h = some res) : jJ G X h 0 0 8 [some (.ref a0), some (.int x1), some (.int x2), some (.int x3), some (.int x4), some (.int x5)] [] := by
  unfold F_X10_wordBetween_8_b at hf
  refine jr_iload K (D_at DX10_wordBetween_q0 6 rfl) rfl ?_
  refine jr_ldcS K (D_at DX10_wordBetween_q0 7 rfl) (i := 0) rfl ?_
  obtain ⟨v12, e12, hf⟩ := jbind hf
  refine jr_slen K (D_at DX10_wordBetween_q0 8 rfl) ss_X10_55 (by exact Nat.le_of_ble_eq_true rfl) e12 ?_
  refine jr_icmp_ge K (D_at DX10_wordBetween_q0 9 rfl) (tgt := 70) (by decide) (fun c15 => ?_) (fun c15 => ?_)
  · replace hf := (if_pos c15).symm.trans hf
    refine jr_bipush K (D_at DX10_wordBetween_q3 1 rfl) (v := (-2 : Int32)) (by decide) ?_
    cases hf
    exact jr_iret K E (D_at DX10_wordBetween_q3 2 rfl) rfl ⟨rfl, rfl⟩
  · replace hf := (if_neg c15).symm.trans hf
    refine jr_ldcS K (D_at DX10_wordBetween_q0 10 rfl) (i := 0) rfl ?_
    refine jr_iload K (D_at DX10_wordBetween_q0 11 rfl) rfl ?_
    obtain ⟨v22, e22, hf⟩ := jbind hf
    refine jr_schar K (D_at DX10_wordBetween_q1 0 rfl) ss_X10_60 (by exact Nat.le_of_ble_eq_true rfl) e22 ?_
    refine jr_bipush K (D_at DX10_wordBetween_q1 1 rfl) (v := (32 : Int32)) (by decide) ?_
    refine jr_icmp_ne K (D_at DX10_wordBetween_q1 2 rfl) (tgt := 64) (by decide) (fun c27 => ?_) (fun c27 => ?_)
    · replace hf := (if_neg c27).symm.trans hf
      refine jr_iinc K (D_at DX10_wordBetween_q2 11 rfl) (i := 5) rfl (v := x5 + (1 : Int32)) (jinc (by decide)) (by decide) (L2 := [_, _, _, _, _, _]) rfl ?_
      refine jr_goto K (D_at DX10_wordBetween_q3 0 rfl) (tgt := 8) (by decide) ?_
      refine jr_keep [true, true, true, true, true, true] ?_
      exact hr8 a0 x1 x2 x3 x4 (x5 + (1 : Int32)) hf
    · replace hf := (if_pos c27).symm.trans hf
      refine jr_iload K (D_at DX10_wordBetween_q1 3 rfl) rfl ?_
      refine jr_iload K (D_at DX10_wordBetween_q1 4 rfl) rfl ?_
      refine jr_isub K (D_at DX10_wordBetween_q1 5 rfl) ?_
      refine jr_iload_n K (D_at DX10_wordBetween_q1 6 rfl) rfl rfl ?_
      refine jr_iload_n K (D_at DX10_wordBetween_q1 7 rfl) rfl rfl ?_
      refine jr_isub K (D_at DX10_wordBetween_q1 8 rfl) ?_
      refine jr_icmp_ne K (D_at DX10_wordBetween_q1 9 rfl) (tgt := 55) (by decide) (fun c38 => ?_) (fun c38 => ?_)
      · replace hf := (if_neg c38).symm.trans hf
        refine jr_iinc K (D_at DX10_wordBetween_q2 6 rfl) (i := 3) rfl (v := x3 + (1 : Int32)) (jinc (by decide)) (by decide) (L2 := [_, _, _, _, _, _]) rfl ?_
        refine jr_iload K (D_at DX10_wordBetween_q2 7 rfl) rfl ?_
        refine jr_iconst K (D_at DX10_wordBetween_q2 8 rfl) (v := (1 : Int32)) (by decide) ?_
        refine jr_iadd K (D_at DX10_wordBetween_q2 9 rfl) ?_
        refine jr_istore K (D_at DX10_wordBetween_q2 10 rfl) (i := 4) (by decide) (L2 := [_, _, _, _, _, _]) rfl ?_
        refine jr_iinc K (D_at DX10_wordBetween_q2 11 rfl) (i := 5) rfl (v := x5 + (1 : Int32)) (jinc (by decide)) (by decide) (L2 := [_, _, _, _, _, _]) rfl ?_
        refine jr_goto K (D_at DX10_wordBetween_q3 0 rfl) (tgt := 8) (by decide) ?_
        refine jr_keep [true, true, true, true, true, true] ?_
        exact hr8 a0 x1 x2 (x3 + (1 : Int32)) (x5 + (1 : Int32)) (x5 + (1 : Int32)) hf
      · replace hf := (if_pos c38).symm.trans hf
        refine jr_aload_n K (D_at DX10_wordBetween_q1 10 rfl) rfl rfl ?_
        refine jr_iload_n K (D_at DX10_wordBetween_q1 11 rfl) rfl rfl ?_
        refine jr_iload K (D_at DX10_wordBetween_q2 0 rfl) rfl ?_
        refine jr_iload K (D_at DX10_wordBetween_q2 1 rfl) rfl ?_
        obtain ⟨v47, e47, hf⟩ := jbind hf
        obtain ⟨rc_47, e47⟩ := jcv_o e47
        refine jr_callV K (C_X10_standsAt (d) e47) (D_at DX10_wordBetween_q2 2 rfl) cv_X10_64_X10_standsAt (As := [.int x1, .int x4, .int x5]) (ci := 8) rfl rc_47 rfl rfl (by exact Nat.le_of_ble_eq_true rfl) (kc2 := 0) (ks2 := 0) rfl rfl (fun k9 h9 w9 => by cases w9.1) (fun r9 h9 w9 => ?_)
        obtain ⟨w1, w2⟩ := w9
        subst h9
        cases w1
        show jJ G X _ 0 0 _ _ (.int v47 :: _)
        refine jr_if_eq K (D_at DX10_wordBetween_q2 3 rfl) (tgt := 55) (by decide) (fun c50 => ?_) (fun c50 => ?_)
        · replace hf := (if_pos c50).symm.trans hf
          refine jr_iinc K (D_at DX10_wordBetween_q2 6 rfl) (i := 3) rfl (v := x3 + (1 : Int32)) (jinc (by decide)) (by decide) (L2 := [_, _, _, _, _, _]) rfl ?_
          refine jr_iload K (D_at DX10_wordBetween_q2 7 rfl) rfl ?_
          refine jr_iconst K (D_at DX10_wordBetween_q2 8 rfl) (v := (1 : Int32)) (by decide) ?_
          refine jr_iadd K (D_at DX10_wordBetween_q2 9 rfl) ?_
          refine jr_istore K (D_at DX10_wordBetween_q2 10 rfl) (i := 4) (by decide) (L2 := [_, _, _, _, _, _]) rfl ?_
          refine jr_iinc K (D_at DX10_wordBetween_q2 11 rfl) (i := 5) rfl (v := x5 + (1 : Int32)) (jinc (by decide)) (by decide) (L2 := [_, _, _, _, _, _]) rfl ?_
          refine jr_goto K (D_at DX10_wordBetween_q3 0 rfl) (tgt := 8) (by decide) ?_
          refine jr_keep [true, true, true, true, true, true] ?_
          exact hr8 a0 x1 x2 (x3 + (1 : Int32)) (x5 + (1 : Int32)) (x5 + (1 : Int32)) hf
        · replace hf := (if_neg c50).symm.trans hf
          refine jr_iload_n K (D_at DX10_wordBetween_q2 4 rfl) rfl rfl ?_
          cases hf
          exact jr_iret K E (D_at DX10_wordBetween_q2 5 rfl) rfl ⟨rfl, rfl⟩
theorem J_X10_wordBetween_8 {G : jG} {l : Launch} {d : Nat} {X : jX} {res : Int32} (K : jOK G l mX10_wordBetween (d + 7) X) (n : Nat) (h : jH) (E : jEnd G mX10_wordBetween (jPR h res) X) (k : Nat) : ∀ (a0 : Nat) (x1 : Int32) (x2 : Int32) (x3 : Int32) (x4 : Int32) (x5 : Int32), F_X10_wordBetween_8 n k a0 x1 x2 x3 x4 x5 h = some res → jJ G X h 0 0 8 [some (.ref a0), some (.int x1), some (.int x2), some (.int x3), some (.int x4), some (.int x5)] [] := by
  induction k with
  | zero =>
    intro a0 x1 x2 x3 x4 x5 hf
    exact jno (show (none : Option Int32) = some res from hf)
  | succ k ih =>
    intro a0 x1 x2 x3 x4 x5 hf
    exact J_X10_wordBetween_8_b K n h (F_X10_wordBetween_8 n k) ih E a0 x1 x2 x3 x4 x5 hf
set_option maxHeartbeats 400000 in
set_option maxRecDepth 100000 in
theorem J_X10_wordBetween {G : jG} {l : Launch} {d : Nat} {X : jX} {res : Int32} (K : jOK G l mX10_wordBetween (d + 7) X) (n : Nat) (h : jH) (E : jEnd G mX10_wordBetween (jPR h res) X) (a0 : Nat) (x1 : Int32) (x2 : Int32) (hf : F_X10_wordBetween n a0 x1 x2 h = some res) : jJ G X h 0 0 0 [some (.ref a0), some (.int x1), some (.int x2), none, none, none] [] := by
  unfold F_X10_wordBetween at hf
  refine jr_iconst K (D_at DX10_wordBetween_q0 0 rfl) (v := (0 : Int32)) (by decide) ?_
  refine jr_istore_n K (D_at DX10_wordBetween_q0 1 rfl) (i := 3) rfl (by decide) (L2 := [_, _, _, _, _, _]) rfl ?_
  refine jr_iconst K (D_at DX10_wordBetween_q0 2 rfl) (v := (0 : Int32)) (by decide) ?_
  refine jr_istore K (D_at DX10_wordBetween_q0 3 rfl) (i := 4) (by decide) (L2 := [_, _, _, _, _, _]) rfl ?_
  refine jr_iconst K (D_at DX10_wordBetween_q0 4 rfl) (v := (0 : Int32)) (by decide) ?_
  refine jr_istore K (D_at DX10_wordBetween_q0 5 rfl) (i := 5) (by decide) (L2 := [_, _, _, _, _, _]) rfl ?_
  refine jr_keep [true, true, true, true, true, true] ?_
  exact J_X10_wordBetween_8 K n h E n a0 x1 x2 (0 : Int32) (0 : Int32) (0 : Int32) hf
theorem C_X10_wordBetween {G : jG} {l : Launch} (d : Nat) {n : Nat} {a0 : Nat} {x1 : Int32} {x2 : Int32} {h : jH} {res : Int32} (hf : F_X10_wordBetween n a0 x1 x2 h = some res) : jC G l mX10_wordBetween (d + 7) 0 0 [.ref a0, .int x1, .int x2] h (jPR h res) :=
  jC.of pn_X10 (jcats rfl) (Nat.le_of_ble_eq_true rfl) (fun X K E => J_X10_wordBetween K n h E a0 x1 x2 hf)
set_option maxHeartbeats 400000 in
set_option maxRecDepth 100000 in
theorem J_X10_numberBetween_16_b {G : jG} {l : Launch} {d : Nat} {X : jX} {res : Int32} (K : jOK G l mX10_numberBetween (d + 1) X) (n : Nat) (h : jH) (rc16 : Nat → Int32 → Int32 → Int32 → jH → Option Int32) (hr16 : ∀ (a0 : Nat) (x2 : Int32) (x3 : Int32) (x4 : Int32), rc16 a0 x2 x3 x4 h = some res → jJ G X h 0 0 16 [some (.ref a0), none, some (.int x2), some (.int x3), some (.int x4)] []) (E : jEnd G mX10_numberBetween (jPR h res) X) (a0 : Nat) (x2 : Int32) (x3 : Int32) (x4 : Int32) (hf : F_X10_numberBetween_16_b n rc16 a0 x2 x3 x4 h = some res) : jJ G X h 0 0 16 [some (.ref a0), none, some (.int x2), some (.int x3), some (.int x4)] [] := by
  unfold F_X10_numberBetween_16_b at hf
  refine jr_iload K (D_at DX10_numberBetween_q0 11 rfl) rfl ?_
  refine jr_iload_n K (D_at DX10_numberBetween_q1 0 rfl) rfl rfl ?_
  refine jr_icmp_ge K (D_at DX10_numberBetween_q1 1 rfl) (tgt := 43) (by decide) (fun c19 => ?_) (fun c19 => ?_)
  · replace hf := (if_pos c19).symm.trans hf
    refine jr_iload_n K (D_at DX10_numberBetween_q2 2 rfl) rfl rfl ?_
    cases hf
    exact jr_iret K E (D_at DX10_numberBetween_q2 3 rfl) rfl ⟨rfl, rfl⟩
  · replace hf := (if_neg c19).symm.trans hf
    refine jr_bipush K (D_at DX10_numberBetween_q1 2 rfl) (v := (10 : Int32)) (by decide) ?_
    refine jr_iload_n K (D_at DX10_numberBetween_q1 3 rfl) rfl rfl ?_
    refine jr_imul K (D_at DX10_numberBetween_q1 4 rfl) ?_
    refine jr_aload_n K (D_at DX10_numberBetween_q1 5 rfl) rfl rfl ?_
    refine jr_iload K (D_at DX10_numberBetween_q1 6 rfl) rfl ?_
    obtain ⟨v29, e29, hf⟩ := jbind hf
    obtain ⟨rc_29, e29⟩ := jcv_o e29
    refine jr_callV K (C_X10_at (d) e29) (D_at DX10_numberBetween_q1 7 rfl) cv_X10_35_X10_at (As := [.int x4]) (ci := 8) rfl rc_29 rfl rfl (by exact Nat.le_of_ble_eq_true rfl) (kc2 := 0) (ks2 := 0) rfl rfl (fun k9 h9 w9 => by cases w9.1) (fun r9 h9 w9 => ?_)
    obtain ⟨w1, w2⟩ := w9
    subst h9
    cases w1
    show jJ G X _ 0 0 _ _ (.int v29 :: _)
    refine jr_iadd K (D_at DX10_numberBetween_q1 8 rfl) ?_
    refine jr_bipush K (D_at DX10_numberBetween_q1 9 rfl) (v := (48 : Int32)) (by decide) ?_
    refine jr_isub K (D_at DX10_numberBetween_q1 10 rfl) ?_
    refine jr_istore_n K (D_at DX10_numberBetween_q1 11 rfl) (i := 3) rfl (by decide) (L2 := [_, _, _, _, _]) rfl ?_
    refine jr_iinc K (D_at DX10_numberBetween_q2 0 rfl) (i := 4) rfl (v := x4 + (1 : Int32)) (jinc (by decide)) (by decide) (L2 := [_, _, _, _, _]) rfl ?_
    refine jr_goto K (D_at DX10_numberBetween_q2 1 rfl) (tgt := 16) (by decide) ?_
    refine jr_keep [true, false, true, true, true] ?_
    exact hr16 a0 x2 ((((10 : Int32) * x3) + v29) - (48 : Int32)) (x4 + (1 : Int32)) hf
theorem J_X10_numberBetween_16 {G : jG} {l : Launch} {d : Nat} {X : jX} {res : Int32} (K : jOK G l mX10_numberBetween (d + 1) X) (n : Nat) (h : jH) (E : jEnd G mX10_numberBetween (jPR h res) X) (k : Nat) : ∀ (a0 : Nat) (x2 : Int32) (x3 : Int32) (x4 : Int32), F_X10_numberBetween_16 n k a0 x2 x3 x4 h = some res → jJ G X h 0 0 16 [some (.ref a0), none, some (.int x2), some (.int x3), some (.int x4)] [] := by
  induction k with
  | zero =>
    intro a0 x2 x3 x4 hf
    exact jno (show (none : Option Int32) = some res from hf)
  | succ k ih =>
    intro a0 x2 x3 x4 hf
    exact J_X10_numberBetween_16_b K n h (F_X10_numberBetween_16 n k) ih E a0 x2 x3 x4 hf
set_option maxHeartbeats 400000 in
set_option maxRecDepth 100000 in
theorem J_X10_numberBetween {G : jG} {l : Launch} {d : Nat} {X : jX} {res : Int32} (K : jOK G l mX10_numberBetween (d + 1) X) (n : Nat) (h : jH) (E : jEnd G mX10_numberBetween (jPR h res) X) (a0 : Nat) (x1 : Int32) (x2 : Int32) (hf : F_X10_numberBetween n a0 x1 x2 h = some res) : jJ G X h 0 0 0 [some (.ref a0), some (.int x1), some (.int x2), none, none] [] := by
  unfold F_X10_numberBetween at hf
  refine jr_iload_n K (D_at DX10_numberBetween_q0 0 rfl) rfl rfl ?_
  refine jr_iload_n K (D_at DX10_numberBetween_q0 1 rfl) rfl rfl ?_
  refine jr_isub K (D_at DX10_numberBetween_q0 2 rfl) ?_
  refine jr_iconst K (D_at DX10_numberBetween_q0 3 rfl) (v := (3 : Int32)) (by decide) ?_
  refine jr_icmp_le K (D_at DX10_numberBetween_q0 4 rfl) (tgt := 11) (by decide) (fun c4 => ?_) (fun c4 => ?_)
  · replace hf := (if_pos c4).symm.trans hf
    refine jr_iconst K (D_at DX10_numberBetween_q0 7 rfl) (v := (0 : Int32)) (by decide) ?_
    refine jr_istore_n K (D_at DX10_numberBetween_q0 8 rfl) (i := 3) rfl (by decide) (L2 := [_, _, _, _, _]) rfl ?_
    refine jr_iload_n K (D_at DX10_numberBetween_q0 9 rfl) rfl rfl ?_
    refine jr_istore K (D_at DX10_numberBetween_q0 10 rfl) (i := 4) (by decide) (L2 := [_, _, _, _, _]) rfl ?_
    refine jr_keep [true, false, true, true, true] ?_
    exact J_X10_numberBetween_16 K n h E n a0 x2 (0 : Int32) x1 hf
  · replace hf := (if_neg c4).symm.trans hf
    refine jr_sipush K (D_at DX10_numberBetween_q0 5 rfl) (v := (1000 : Int32)) (by decide) ?_
    cases hf
    exact jr_iret K E (D_at DX10_numberBetween_q0 6 rfl) rfl ⟨rfl, rfl⟩
theorem C_X10_numberBetween {G : jG} {l : Launch} (d : Nat) {n : Nat} {a0 : Nat} {x1 : Int32} {x2 : Int32} {h : jH} {res : Int32} (hf : F_X10_numberBetween n a0 x1 x2 h = some res) : jC G l mX10_numberBetween (d + 1) 0 0 [.ref a0, .int x1, .int x2] h (jPR h res) :=
  jC.of pn_X10 (jcats rfl) (Nat.le_of_ble_eq_true rfl) (fun X K E => J_X10_numberBetween K n h E a0 x1 x2 hf)
set_option maxHeartbeats 400000 in
set_option maxRecDepth 100000 in
theorem J_X10_scanThing {G : jG} {l : Launch} {d : Nat} {X : jX} {res : (Int32 × jH)} (K : jOK G l mX10_scanThing (d + 8) X) (n : Nat) (E : jEnd G mX10_scanThing (jPW res) X) (a0 : Nat) (x1 : Int32) (h : jH) (hf : F_X10_scanThing n a0 x1 h = some res) : jJ G X h 0 0 0 [some (.ref a0), some (.int x1), none, none] [] := by
  unfold F_X10_scanThing at hf
  refine jr_aload_n K (D_at DX10_scanThing_q0 0 rfl) rfl rfl ?_
  refine jr_iload_n K (D_at DX10_scanThing_q0 1 rfl) rfl rfl ?_
  refine jr_bipush K (D_at DX10_scanThing_q0 2 rfl) (v := (97 : Int32)) (by decide) ?_
  refine jr_bipush K (D_at DX10_scanThing_q0 3 rfl) (v := (122 : Int32)) (by decide) ?_
  obtain ⟨v6, e6, hf⟩ := jbind hf
  obtain ⟨rc_6, e6⟩ := jcv_o e6
  refine jr_callV K (C_X10_endOfRow (d + 6) e6) (D_at DX10_scanThing_q0 4 rfl) cv_X10_42_X10_endOfRow (As := [.int x1, .int (97 : Int32), .int (122 : Int32)]) (ci := 8) rfl rc_6 rfl rfl (by exact Nat.le_of_ble_eq_true rfl) (kc2 := 0) (ks2 := 0) rfl rfl (fun k9 h9 w9 => by cases w9.1) (fun r9 h9 w9 => ?_)
  obtain ⟨w1, w2⟩ := w9
  subst h9
  cases w1
  show jJ G X _ 0 0 _ _ (.int v6 :: _)
  refine jr_istore_n K (D_at DX10_scanThing_q0 5 rfl) (i := 2) rfl (by decide) (L2 := [_, _, _, _]) rfl ?_
  refine jr_iload_n K (D_at DX10_scanThing_q0 6 rfl) rfl rfl ?_
  refine jr_iload_n K (D_at DX10_scanThing_q0 7 rfl) rfl rfl ?_
  refine jr_icmp_le K (D_at DX10_scanThing_q0 8 rfl) (tgt := 32) (by decide) (fun c12 => ?_) (fun c12 => ?_)
  · replace hf := (if_pos c12).symm.trans hf
    refine jr_aload_n K (D_at DX10_scanThing_q1 8 rfl) rfl rfl ?_
    refine jr_iload_n K (D_at DX10_scanThing_q1 9 rfl) rfl rfl ?_
    refine jr_bipush K (D_at DX10_scanThing_q1 10 rfl) (v := (48 : Int32)) (by decide) ?_
    refine jr_bipush K (D_at DX10_scanThing_q1 11 rfl) (v := (57 : Int32)) (by decide) ?_
    obtain ⟨v38, e38, hf⟩ := jbind hf
    obtain ⟨rc_38, e38⟩ := jcv_o e38
    refine jr_callV K (C_X10_endOfRow (d + 6) e38) (D_at DX10_scanThing_q2 0 rfl) cv_X10_42_X10_endOfRow (As := [.int x1, .int (48 : Int32), .int (57 : Int32)]) (ci := 8) rfl rc_38 rfl rfl (by exact Nat.le_of_ble_eq_true rfl) (kc2 := 0) (ks2 := 0) rfl rfl (fun k9 h9 w9 => by cases w9.1) (fun r9 h9 w9 => ?_)
    obtain ⟨w1, w2⟩ := w9
    subst h9
    cases w1
    show jJ G X _ 0 0 _ _ (.int v38 :: _)
    refine jr_istore_n K (D_at DX10_scanThing_q2 1 rfl) (i := 2) rfl (by decide) (L2 := [_, _, _, _]) rfl ?_
    refine jr_iload_n K (D_at DX10_scanThing_q2 2 rfl) rfl rfl ?_
    refine jr_iload_n K (D_at DX10_scanThing_q2 3 rfl) rfl rfl ?_
    refine jr_icmp_le K (D_at DX10_scanThing_q2 4 rfl) (tgt := 75) (by decide) (fun c44 => ?_) (fun c44 => ?_)
    · replace hf := (if_pos c44).symm.trans hf
      refine jr_aload_n K (D_at DX10_scanThing_q3 10 rfl) rfl rfl ?_
      refine jr_iload_n K (D_at DX10_scanThing_q3 11 rfl) rfl rfl ?_
      obtain ⟨v77, e77, hf⟩ := jbind hf
      obtain ⟨rc_77, e77⟩ := jcv_o e77
      refine jr_callV K (C_X10_at (d + 7) e77) (D_at DX10_scanThing_q4 0 rfl) cv_X10_35_X10_at (As := [.int x1]) (ci := 8) rfl rc_77 rfl rfl (by exact Nat.le_of_ble_eq_true rfl) (kc2 := 0) (ks2 := 0) rfl rfl (fun k9 h9 w9 => by cases w9.1) (fun r9 h9 w9 => ?_)
      obtain ⟨w1, w2⟩ := w9
      subst h9
      cases w1
      show jJ G X _ 0 0 _ _ (.int v77 :: _)
      refine jr_istore_n K (D_at DX10_scanThing_q4 1 rfl) (i := 3) rfl (by decide) (L2 := [_, _, _, _]) rfl ?_
      refine jr_aload_n K (D_at DX10_scanThing_q4 2 rfl) rfl rfl ?_
      obtain ⟨p82, e82, hf⟩ := jbind hf
      refine jr_getR K (D_at DX10_scanThing_q4 3 rfl) fg_X10_15_8 e82 ?_
      refine jr_aload_n K (D_at DX10_scanThing_q4 4 rfl) rfl rfl ?_
      obtain ⟨v86, e86, hf⟩ := jbind hf
      refine jr_getI K (D_at DX10_scanThing_q4 5 rfl) fg_X10_29_8 e86 ?_
      refine jr_iload_n K (D_at DX10_scanThing_q4 6 rfl) rfl rfl ?_
      refine jr_bipush K (D_at DX10_scanThing_q4 7 rfl) (v := (32 : Int32)) (by decide) ?_
      refine jr_icmp_ge K (D_at DX10_scanThing_q4 8 rfl) (tgt := 100) (by decide) (fun c92 => ?_) (fun c92 => ?_)
      · replace hf := (if_pos c92).symm.trans hf
        refine jr_iload_n K (D_at DX10_scanThing_q4 11 rfl) rfl rfl ?_
        obtain ⟨h101, e101, hf⟩ := jbind hf
        refine jr_iast K (D_at DX10_scanThing_q5 0 rfl) e101 ?_
        refine jr_iload_n K (D_at DX10_scanThing_q5 1 rfl) rfl rfl ?_
        refine jr_iconst K (D_at DX10_scanThing_q5 2 rfl) (v := (1 : Int32)) (by decide) ?_
        refine jr_iadd K (D_at DX10_scanThing_q5 3 rfl) ?_
        cases hf
        exact jr_iret K E (D_at DX10_scanThing_1_q0 0 rfl) rfl ⟨rfl, rfl⟩
      · replace hf := (if_neg c92).symm.trans hf
        refine jr_bipush K (D_at DX10_scanThing_q4 9 rfl) (v := (-2 : Int32)) (by decide) ?_
        refine jr_goto K (D_at DX10_scanThing_q4 10 rfl) (tgt := 101) (by decide) ?_
        obtain ⟨h101, e101, hf⟩ := jbind hf
        refine jr_iast K (D_at DX10_scanThing_q5 0 rfl) e101 ?_
        refine jr_iload_n K (D_at DX10_scanThing_q5 1 rfl) rfl rfl ?_
        refine jr_iconst K (D_at DX10_scanThing_q5 2 rfl) (v := (1 : Int32)) (by decide) ?_
        refine jr_iadd K (D_at DX10_scanThing_q5 3 rfl) ?_
        cases hf
        exact jr_iret K E (D_at DX10_scanThing_1_q0 0 rfl) rfl ⟨rfl, rfl⟩
    · replace hf := (if_neg c44).symm.trans hf
      refine jr_aload_n K (D_at DX10_scanThing_q2 5 rfl) rfl rfl ?_
      obtain ⟨p48, e48, hf⟩ := jbind hf
      refine jr_getR K (D_at DX10_scanThing_q2 6 rfl) fg_X10_15_8 e48 ?_
      refine jr_aload_n K (D_at DX10_scanThing_q2 7 rfl) rfl rfl ?_
      obtain ⟨v52, e52, hf⟩ := jbind hf
      refine jr_getI K (D_at DX10_scanThing_q2 8 rfl) fg_X10_29_8 e52 ?_
      refine jr_bipush K (D_at DX10_scanThing_q2 9 rfl) (v := (-3 : Int32)) (by decide) ?_
      obtain ⟨h57, e57, hf⟩ := jbind hf
      refine jr_iast K (D_at DX10_scanThing_q2 10 rfl) e57 ?_
      refine jr_aload_n K (D_at DX10_scanThing_q2 11 rfl) rfl rfl ?_
      obtain ⟨p59, e59, hf⟩ := jbind hf
      refine jr_getR K (D_at DX10_scanThing_q3 0 rfl) fg_X10_22_8 e59 ?_
      refine jr_aload_n K (D_at DX10_scanThing_q3 1 rfl) rfl rfl ?_
      obtain ⟨v63, e63, hf⟩ := jbind hf
      refine jr_getI K (D_at DX10_scanThing_q3 2 rfl) fg_X10_29_8 e63 ?_
      refine jr_aload_n K (D_at DX10_scanThing_q3 3 rfl) rfl rfl ?_
      refine jr_iload_n K (D_at DX10_scanThing_q3 4 rfl) rfl rfl ?_
      refine jr_iload_n K (D_at DX10_scanThing_q3 5 rfl) rfl rfl ?_
      obtain ⟨v69, e69, hf⟩ := jbind hf
      obtain ⟨rc_69, e69⟩ := jcv_o e69
      refine jr_callV K (C_X10_numberBetween (d + 6) e69) (D_at DX10_scanThing_q3 6 rfl) cv_X10_50_X10_numberBetween (As := [.int x1, .int v38]) (ci := 8) rfl rc_69 rfl rfl (by exact Nat.le_of_ble_eq_true rfl) (kc2 := 0) (ks2 := 0) rfl rfl (fun k9 h9 w9 => by cases w9.1) (fun r9 h9 w9 => ?_)
      obtain ⟨w1, w2⟩ := w9
      subst h9
      cases w1
      show jJ G X _ 0 0 _ _ (.int v69 :: _)
      obtain ⟨h72, e72, hf⟩ := jbind hf
      refine jr_iast K (D_at DX10_scanThing_q3 7 rfl) e72 ?_
      refine jr_iload_n K (D_at DX10_scanThing_q3 8 rfl) rfl rfl ?_
      cases hf
      exact jr_iret K E (D_at DX10_scanThing_q3 9 rfl) rfl ⟨rfl, rfl⟩
  · replace hf := (if_neg c12).symm.trans hf
    refine jr_aload_n K (D_at DX10_scanThing_q0 9 rfl) rfl rfl ?_
    obtain ⟨p16, e16, hf⟩ := jbind hf
    refine jr_getR K (D_at DX10_scanThing_q0 10 rfl) fg_X10_15_8 e16 ?_
    refine jr_aload_n K (D_at DX10_scanThing_q0 11 rfl) rfl rfl ?_
    obtain ⟨v20, e20, hf⟩ := jbind hf
    refine jr_getI K (D_at DX10_scanThing_q1 0 rfl) fg_X10_29_8 e20 ?_
    refine jr_aload_n K (D_at DX10_scanThing_q1 1 rfl) rfl rfl ?_
    refine jr_iload_n K (D_at DX10_scanThing_q1 2 rfl) rfl rfl ?_
    refine jr_iload_n K (D_at DX10_scanThing_q1 3 rfl) rfl rfl ?_
    obtain ⟨v26, e26, hf⟩ := jbind hf
    obtain ⟨rc_26, e26⟩ := jcv_o e26
    refine jr_callV K (C_X10_wordBetween (d) e26) (D_at DX10_scanThing_q1 4 rfl) cv_X10_46_X10_wordBetween (As := [.int x1, .int v6]) (ci := 8) rfl rc_26 rfl rfl (by exact Nat.le_of_ble_eq_true rfl) (kc2 := 0) (ks2 := 0) rfl rfl (fun k9 h9 w9 => by cases w9.1) (fun r9 h9 w9 => ?_)
    obtain ⟨w1, w2⟩ := w9
    subst h9
    cases w1
    show jJ G X _ 0 0 _ _ (.int v26 :: _)
    obtain ⟨h29, e29, hf⟩ := jbind hf
    refine jr_iast K (D_at DX10_scanThing_q1 5 rfl) e29 ?_
    refine jr_iload_n K (D_at DX10_scanThing_q1 6 rfl) rfl rfl ?_
    cases hf
    exact jr_iret K E (D_at DX10_scanThing_q1 7 rfl) rfl ⟨rfl, rfl⟩
theorem C_X10_scanThing {G : jG} {l : Launch} (d : Nat) {n : Nat} {a0 : Nat} {x1 : Int32} {h : jH} {res : (Int32 × jH)} (hf : F_X10_scanThing n a0 x1 h = some res) : jC G l mX10_scanThing (d + 8) 0 0 [.ref a0, .int x1] h (jPW res) :=
  jC.of pn_X10 (jcats rfl) (Nat.le_of_ble_eq_true rfl) (fun X K E => J_X10_scanThing K n E a0 x1 h hf)
set_option maxHeartbeats 400000 in
set_option maxRecDepth 100000 in
theorem J_X10_scan_12_b {G : jG} {l : Launch} {d : Nat} {X : jX} {res : jH} (K : jOK G l mX10_scan (d + 9) X) (n : Nat) (rc12 : Nat → Int32 → jH → Option jH) (hr12 : ∀ (a0 : Nat) (x1 : Int32) (h : jH), rc12 a0 x1 h = some res → jJ G X h 0 0 12 [some (.ref a0), some (.int x1), none] []) (E : jEnd G mX10_scan (jPV res) X) (a0 : Nat) (x1 : Int32) (h : jH) (hf : F_X10_scan_12_b n rc12 a0 x1 h = some res) : jJ G X h 0 0 12 [some (.ref a0), some (.int x1), none] [] := by
  unfold F_X10_scan_12_b at hf
  refine jr_iload_n K (D_at DX10_scan_q0 8 rfl) rfl rfl ?_
  refine jr_aload_n K (D_at DX10_scan_q0 9 rfl) rfl rfl ?_
  obtain ⟨v14, e14, hf⟩ := jbind hf
  refine jr_getI K (D_at DX10_scan_q0 10 rfl) fg_X10_25_8 e14 ?_
  refine jr_icmp_ge K (D_at DX10_scan_q0 11 rfl) (tgt := 75) (by decide) (fun c17 => ?_) (fun c17 => ?_)
  · replace hf := (if_pos c17).symm.trans hf
    cases hf
    exact jr_vret K E (D_at DX10_scan_q3 8 rfl) rfl ⟨rfl, rfl⟩
  · replace hf := (if_neg c17).symm.trans hf
    refine jr_aload_n K (D_at DX10_scan_q1 0 rfl) rfl rfl ?_
    obtain ⟨v21, e21, hf⟩ := jbind hf
    refine jr_getI K (D_at DX10_scan_q1 1 rfl) fg_X10_29_8 e21 ?_
    refine jr_sipush K (D_at DX10_scan_q1 2 rfl) (v := (400 : Int32)) (by decide) ?_
    refine jr_icmp_ge K (D_at DX10_scan_q1 3 rfl) (tgt := 75) (by decide) (fun c27 => ?_) (fun c27 => ?_)
    · replace hf := (if_pos c27).symm.trans hf
      cases hf
      exact jr_vret K E (D_at DX10_scan_q3 8 rfl) rfl ⟨rfl, rfl⟩
    · replace hf := (if_neg c27).symm.trans hf
      refine jr_iload_n K (D_at DX10_scan_q1 4 rfl) rfl rfl ?_
      refine jr_iconst K (D_at DX10_scan_q1 5 rfl) (v := (1 : Int32)) (by decide) ?_
      refine jr_iadd K (D_at DX10_scan_q1 6 rfl) ?_
      refine jr_istore_n K (D_at DX10_scan_q1 7 rfl) (i := 2) rfl (by decide) (L2 := [_, _, _]) rfl ?_
      refine jr_aload_n K (D_at DX10_scan_q1 8 rfl) rfl rfl ?_
      refine jr_iload_n K (D_at DX10_scan_q1 9 rfl) rfl rfl ?_
      obtain ⟨v36, e36, hf⟩ := jbind hf
      obtain ⟨rc_36, e36⟩ := jcv_o e36
      refine jr_callV K (C_X10_at (d + 8) e36) (D_at DX10_scan_q1 10 rfl) cv_X10_35_X10_at (As := [.int x1]) (ci := 8) rfl rc_36 rfl rfl (by exact Nat.le_of_ble_eq_true rfl) (kc2 := 0) (ks2 := 0) rfl rfl (fun k9 h9 w9 => by cases w9.1) (fun r9 h9 w9 => ?_)
      obtain ⟨w1, w2⟩ := w9
      subst h9
      cases w1
      show jJ G X _ 0 0 _ _ (.int v36 :: _)
      refine jr_bipush K (D_at DX10_scan_q1 11 rfl) (v := (32 : Int32)) (by decide) ?_
      refine jr_icmp_eq K (D_at DX10_scan_q2 0 rfl) (tgt := 70) (by decide) (fun c41 => ?_) (fun c41 => ?_)
      · replace hf := (if_pos c41).symm.trans hf
        refine jr_iload_n K (D_at DX10_scan_q3 5 rfl) rfl rfl ?_
        refine jr_istore_n K (D_at DX10_scan_q3 6 rfl) (i := 1) rfl (by decide) (L2 := [_, _, _]) rfl ?_
        refine jr_goto K (D_at DX10_scan_q3 7 rfl) (tgt := 12) (by decide) ?_
        refine jr_keep [true, true, false] ?_
        exact hr12 a0 (x1 + (1 : Int32)) h hf
      · replace hf := (if_neg c41).symm.trans hf
        refine jr_aload_n K (D_at DX10_scan_q2 1 rfl) rfl rfl ?_
        refine jr_iload_n K (D_at DX10_scan_q2 2 rfl) rfl rfl ?_
        obtain ⟨q46, e46, hf⟩ := jbind hf
        obtain ⟨rc_46, e46⟩ := jcv_o e46
        refine jr_callV K (C_X10_scanThing (d) e46) (D_at DX10_scan_q2 3 rfl) cv_X10_39_X10_scanThing (As := [.int x1]) (ci := 8) rfl rc_46 rfl rfl (by exact Nat.le_of_ble_eq_true rfl) (kc2 := 0) (ks2 := 0) rfl rfl (fun k9 h9 w9 => by cases w9.1) (fun r9 h9 w9 => ?_)
        obtain ⟨w1, w2⟩ := w9
        subst h9
        cases w1
        show jJ G X _ 0 0 _ _ (.int q46.1 :: _)
        refine jr_istore_n K (D_at DX10_scan_q2 4 rfl) (i := 2) rfl (by decide) (L2 := [_, _, _]) rfl ?_
        refine jr_aload_n K (D_at DX10_scan_q2 5 rfl) rfl rfl ?_
        obtain ⟨p51, e51, hf⟩ := jbind hf
        refine jr_getR K (D_at DX10_scan_q2 6 rfl) fg_X10_19_8 e51 ?_
        refine jr_aload_n K (D_at DX10_scan_q2 7 rfl) rfl rfl ?_
        obtain ⟨v55, e55, hf⟩ := jbind hf
        refine jr_getI K (D_at DX10_scan_q2 8 rfl) fg_X10_29_8 e55 ?_
        refine jr_iload_n K (D_at DX10_scan_q2 9 rfl) rfl rfl ?_
        obtain ⟨h59, e59, hf⟩ := jbind hf
        refine jr_iast K (D_at DX10_scan_q2 10 rfl) e59 ?_
        refine jr_aload_n K (D_at DX10_scan_q2 11 rfl) rfl rfl ?_
        refine jr_dup K (D_at DX10_scan_q3 0 rfl) rfl ?_
        obtain ⟨v62, e62, hf⟩ := jbind hf
        refine jr_getI K (D_at DX10_scan_q3 1 rfl) fg_X10_29_8 e62 ?_
        refine jr_iconst K (D_at DX10_scan_q3 2 rfl) (v := (1 : Int32)) (by decide) ?_
        refine jr_iadd K (D_at DX10_scan_q3 3 rfl) ?_
        obtain ⟨h67, e67, hf⟩ := jbind hf
        refine jr_putI K (D_at DX10_scan_q3 4 rfl) fp_X10_29_8 (Or.inl rfl) e67 ?_
        refine jr_iload_n K (D_at DX10_scan_q3 5 rfl) rfl rfl ?_
        refine jr_istore_n K (D_at DX10_scan_q3 6 rfl) (i := 1) rfl (by decide) (L2 := [_, _, _]) rfl ?_
        refine jr_goto K (D_at DX10_scan_q3 7 rfl) (tgt := 12) (by decide) ?_
        refine jr_keep [true, true, false] ?_
        exact hr12 a0 q46.1 h67 hf
theorem J_X10_scan_12 {G : jG} {l : Launch} {d : Nat} {X : jX} {res : jH} (K : jOK G l mX10_scan (d + 9) X) (n : Nat) (E : jEnd G mX10_scan (jPV res) X) (k : Nat) : ∀ (a0 : Nat) (x1 : Int32) (h : jH), F_X10_scan_12 n k a0 x1 h = some res → jJ G X h 0 0 12 [some (.ref a0), some (.int x1), none] [] := by
  induction k with
  | zero =>
    intro a0 x1 h hf
    exact jno (show (none : Option jH) = some res from hf)
  | succ k ih =>
    intro a0 x1 h hf
    exact J_X10_scan_12_b K n (F_X10_scan_12 n k) ih E a0 x1 h hf
set_option maxHeartbeats 400000 in
set_option maxRecDepth 100000 in
theorem J_X10_scan {G : jG} {l : Launch} {d : Nat} {X : jX} {res : jH} (K : jOK G l mX10_scan (d + 9) X) (n : Nat) (E : jEnd G mX10_scan (jPV res) X) (a0 : Nat) (h : jH) (hf : F_X10_scan n a0 h = some res) : jJ G X h 0 0 0 [some (.ref a0), none, none] [] := by
  unfold F_X10_scan at hf
  refine jr_aload_n K (D_at DX10_scan_q0 0 rfl) rfl rfl ?_
  refine jr_iconst K (D_at DX10_scan_q0 1 rfl) (v := (0 : Int32)) (by decide) ?_
  obtain ⟨h2, e2, hf⟩ := jbind hf
  refine jr_putI K (D_at DX10_scan_q0 2 rfl) fp_X10_29_8 (Or.inl rfl) e2 ?_
  refine jr_aload_n K (D_at DX10_scan_q0 3 rfl) rfl rfl ?_
  refine jr_iconst K (D_at DX10_scan_q0 4 rfl) (v := (0 : Int32)) (by decide) ?_
  obtain ⟨h7, e7, hf⟩ := jbind hf
  refine jr_putI K (D_at DX10_scan_q0 5 rfl) fp_X10_32_8 (Or.inl rfl) e7 ?_
  refine jr_iconst K (D_at DX10_scan_q0 6 rfl) (v := (0 : Int32)) (by decide) ?_
  refine jr_istore_n K (D_at DX10_scan_q0 7 rfl) (i := 1) rfl (by decide) (L2 := [_, _, _]) rfl ?_
  refine jr_keep [true, true, false] ?_
  exact J_X10_scan_12 K n E n a0 (0 : Int32) h7 hf
theorem C_X10_scan {G : jG} {l : Launch} (d : Nat) {n : Nat} {a0 : Nat} {h : jH} {res : jH} (hf : F_X10_scan n a0 h = some res) : jC G l mX10_scan (d + 9) 0 0 [.ref a0] h (jPV res) :=
  jC.of pn_X10 (jcats rfl) (Nat.le_of_ble_eq_true rfl) (fun X K E => J_X10_scan K n E a0 h hf)
set_option maxHeartbeats 400000 in
set_option maxRecDepth 100000 in
theorem J_X10_start {G : jG} {l : Launch} {d : Nat} {X : jX} {res : Int32} (K : jOK G l mX10_start (d) X) (n : Nat) (h : jH) (E : jEnd G mX10_start (jPR h res) X) (a0 : Nat) (hf : F_X10_start n a0 h = some res) : jJ G X h 0 0 0 [some (.ref a0)] [] := by
  unfold F_X10_start at hf
  refine jr_aload_n K (D_at DX10_start_q0 0 rfl) rfl rfl ?_
  obtain ⟨v1, e1, hf⟩ := jbind hf
  refine jr_getI K (D_at DX10_start_q0 1 rfl) fg_X10_32_8 e1 ?_
  refine jr_aload_n K (D_at DX10_start_q0 2 rfl) rfl rfl ?_
  obtain ⟨v5, e5, hf⟩ := jbind hf
  refine jr_getI K (D_at DX10_start_q0 3 rfl) fg_X10_29_8 e5 ?_
  refine jr_icmp_ge K (D_at DX10_start_q0 4 rfl) (tgt := 23) (by decide) (fun c8 => ?_) (fun c8 => ?_)
  · replace hf := (if_pos c8).symm.trans hf
    refine jr_aload_n K (D_at DX10_start_q0 11 rfl) rfl rfl ?_
    obtain ⟨v24, e24, hf⟩ := jbind hf
    refine jr_getI K (D_at DX10_start_q1 0 rfl) fg_X10_25_8 e24 ?_
    cases hf
    exact jr_iret K E (D_at DX10_start_q1 1 rfl) rfl ⟨rfl, rfl⟩
  · replace hf := (if_neg c8).symm.trans hf
    refine jr_aload_n K (D_at DX10_start_q0 5 rfl) rfl rfl ?_
    obtain ⟨p12, e12, hf⟩ := jbind hf
    refine jr_getR K (D_at DX10_start_q0 6 rfl) fg_X10_19_8 e12 ?_
    refine jr_aload_n K (D_at DX10_start_q0 7 rfl) rfl rfl ?_
    obtain ⟨v16, e16, hf⟩ := jbind hf
    refine jr_getI K (D_at DX10_start_q0 8 rfl) fg_X10_32_8 e16 ?_
    obtain ⟨v19, e19, hf⟩ := jbind hf
    refine jr_iald K (D_at DX10_start_q0 9 rfl) e19 ?_
    refine jr_goto K (D_at DX10_start_q0 10 rfl) (tgt := 27) (by decide) ?_
    cases hf
    exact jr_iret K E (D_at DX10_start_q1 1 rfl) rfl ⟨rfl, rfl⟩
theorem C_X10_start {G : jG} {l : Launch} (d : Nat) {n : Nat} {a0 : Nat} {h : jH} {res : Int32} (hf : F_X10_start n a0 h = some res) : jC G l mX10_start (d) 0 0 [.ref a0] h (jPR h res) :=
  jC.of pn_X10 (jcats rfl) (Nat.le_of_ble_eq_true rfl) (fun X K E => J_X10_start K n h E a0 hf)
set_option maxHeartbeats 400000 in
set_option maxRecDepth 100000 in
theorem J_X11_init {G : jG} {l : Launch} {d : Nat} {X : jX} {res : jH} (K : jOK G l mX11_init (d + 3) X) (n : Nat) (E : jEnd G mX11_init (jPV res) X) (a0 : Nat) (h : jH) (hf : F_X11_init n a0 h = some res) : jJ G X h 39 2961 0 [some (.ref a0)] [] := by
  unfold F_X11_init at hf
  refine jr_aload_n K (D_at DX11_init_q0 0 rfl) rfl rfl ?_
  refine jr_objInit K (D_at DX11_init_q0 1 rfl) oi_X11_1 (by exact Nat.le_of_ble_eq_true rfl) ?_
  refine jr_aload_n K (D_at DX11_init_q0 2 rfl) rfl rfl ?_
  obtain ⟨h5, e5, hf⟩ := jbind hf
  refine jr_newE (N := 7) K (D_at DX11_init_q0 3 rfl) fn_X11_7 (kc := 38) (ks := 2954) e5 ?_
  refine jr_dup K (D_at DX11_init_q0 4 rfl) rfl ?_
  obtain ⟨h9, e9, hf⟩ := jbind hf
  refine jr_callIN K (C_X10_init (d + 1) e9) (D_at DX11_init_q0 5 rfl) cin_X11_9_X10_init (As := []) rfl rfl (by exact Nat.le_of_ble_eq_true rfl) (kc2 := 34) (ks2 := 1354) rfl rfl (fun k9 h9 w9 => by cases w9.1) (fun r9 h9 w9 => ?_)
  obtain ⟨w1, w2⟩ := w9
  subst h9
  cases w1
  obtain ⟨h12, e12, hf⟩ := jbind hf
  refine jr_putR K (D_at DX11_init_q0 6 rfl) fp_X11_10_9 (Or.inr rfl) e12 ?_
  refine jr_aload_n K (D_at DX11_init_q0 7 rfl) rfl rfl ?_
  obtain ⟨h16, e16, hf⟩ := jbind hf
  refine jr_newE (N := 18) K (D_at DX11_init_q0 8 rfl) fn_X11_16 (kc := 33) (ks := 1336) e16 ?_
  refine jr_dup K (D_at DX11_init_q0 9 rfl) rfl ?_
  obtain ⟨h20, e20, hf⟩ := jbind hf
  refine jr_callIN K (C_X8_init (d) e20) (D_at DX11_init_q0 10 rfl) cin_X11_18_X8_init (As := []) rfl rfl (by exact Nat.le_of_ble_eq_true rfl) (kc2 := 27) (ks2 := 1241) rfl rfl (fun k9 h9 w9 => by cases w9.1) (fun r9 h9 w9 => ?_)
  obtain ⟨w1, w2⟩ := w9
  subst h9
  cases w1
  obtain ⟨h23, e23, hf⟩ := jbind hf
  refine jr_putR K (D_at DX11_init_q0 11 rfl) fp_X11_19_9 (Or.inr rfl) e23 ?_
  refine jr_aload_n K (D_at DX11_init_q1 0 rfl) rfl rfl ?_
  obtain ⟨h27, e27, hf⟩ := jbind hf
  refine jr_newE (N := 9) K (D_at DX11_init_q1 1 rfl) fn_X11_23 (kc := 26) (ks := 1232) e27 ?_
  refine jr_dup K (D_at DX11_init_q1 2 rfl) rfl ?_
  obtain ⟨h31, e31, hf⟩ := jbind hf
  refine jr_callIN K (C_X2_init (d + 1) e31) (D_at DX11_init_q1 3 rfl) cin_X11_25_X2_init (As := []) rfl rfl (by exact Nat.le_of_ble_eq_true rfl) (kc2 := 21) (ks2 := 772) rfl rfl (fun k9 h9 w9 => by cases w9.1) (fun r9 h9 w9 => ?_)
  obtain ⟨w1, w2⟩ := w9
  subst h9
  cases w1
  obtain ⟨h34, e34, hf⟩ := jbind hf
  refine jr_putR K (D_at DX11_init_q1 4 rfl) fp_X11_26_9 (Or.inr rfl) e34 ?_
  refine jr_aload_n K (D_at DX11_init_q1 5 rfl) rfl rfl ?_
  obtain ⟨h38, e38, hf⟩ := jbind hf
  refine jr_newE (N := 3) K (D_at DX11_init_q1 6 rfl) fn_X11_30 (kc := 20) (ks := 769) e38 ?_
  refine jr_dup K (D_at DX11_init_q1 7 rfl) rfl ?_
  obtain ⟨h42, e42, hf⟩ := jbind hf
  refine jr_callIN K (C_X0_init (d + 1) e42) (D_at DX11_init_q1 8 rfl) cin_X11_32_X0_init (As := []) rfl rfl (by exact Nat.le_of_ble_eq_true rfl) (kc2 := 19) (ks2 := 757) rfl rfl (fun k9 h9 w9 => by cases w9.1) (fun r9 h9 w9 => ?_)
  obtain ⟨w1, w2⟩ := w9
  subst h9
  cases w1
  obtain ⟨h45, e45, hf⟩ := jbind hf
  refine jr_putR K (D_at DX11_init_q1 9 rfl) fp_X11_33_9 (Or.inr rfl) e45 ?_
  refine jr_aload_n K (D_at DX11_init_q1 10 rfl) rfl rfl ?_
  obtain ⟨h49, e49, hf⟩ := jbind hf
  refine jr_newE (N := 18) K (D_at DX11_init_q1 11 rfl) fn_X11_16 (kc := 18) (ks := 739) e49 ?_
  refine jr_dup K (D_at DX11_init_q2 0 rfl) rfl ?_
  obtain ⟨h53, e53, hf⟩ := jbind hf
  refine jr_callIN K (C_X8_init (d) e53) (D_at DX11_init_q2 1 rfl) cin_X11_18_X8_init (As := []) rfl rfl (by exact Nat.le_of_ble_eq_true rfl) (kc2 := 12) (ks2 := 644) rfl rfl (fun k9 h9 w9 => by cases w9.1) (fun r9 h9 w9 => ?_)
  obtain ⟨w1, w2⟩ := w9
  subst h9
  cases w1
  obtain ⟨h56, e56, hf⟩ := jbind hf
  refine jr_putR K (D_at DX11_init_q2 2 rfl) fp_X11_37_9 (Or.inr rfl) e56 ?_
  refine jr_aload_n K (D_at DX11_init_q2 3 rfl) rfl rfl ?_
  obtain ⟨h60, e60, hf⟩ := jbind hf
  refine jr_newE (N := 9) K (D_at DX11_init_q2 4 rfl) fn_X11_23 (kc := 11) (ks := 635) e60 ?_
  refine jr_dup K (D_at DX11_init_q2 5 rfl) rfl ?_
  obtain ⟨h64, e64, hf⟩ := jbind hf
  refine jr_callIN K (C_X2_init (d + 1) e64) (D_at DX11_init_q2 6 rfl) cin_X11_25_X2_init (As := []) rfl rfl (by exact Nat.le_of_ble_eq_true rfl) (kc2 := 6) (ks2 := 175) rfl rfl (fun k9 h9 w9 => by cases w9.1) (fun r9 h9 w9 => ?_)
  obtain ⟨w1, w2⟩ := w9
  subst h9
  cases w1
  obtain ⟨h67, e67, hf⟩ := jbind hf
  refine jr_putR K (D_at DX11_init_q2 7 rfl) fp_X11_40_9 (Or.inr rfl) e67 ?_
  refine jr_aload_n K (D_at DX11_init_q2 8 rfl) rfl rfl ?_
  obtain ⟨h71, e71, hf⟩ := jbind hf
  refine jr_newE (N := 3) K (D_at DX11_init_q2 9 rfl) fn_X11_43 (kc := 5) (ks := 172) e71 ?_
  refine jr_dup K (D_at DX11_init_q2 10 rfl) rfl ?_
  refine jr_aload_n K (D_at DX11_init_q2 11 rfl) rfl rfl ?_
  obtain ⟨p76, e76, hf⟩ := jbind hf
  refine jr_getR K (D_at DX11_init_q3 0 rfl) fg_X11_10_9 e76 ?_
  refine jr_aload_n K (D_at DX11_init_q3 1 rfl) rfl rfl ?_
  obtain ⟨p80, e80, hf⟩ := jbind hf
  refine jr_getR K (D_at DX11_init_q3 2 rfl) fg_X11_37_9 e80 ?_
  obtain ⟨h83, e83, hf⟩ := jbind hf
  refine jr_callI K (C_X9_init (d) e83) (D_at DX11_init_q3 3 rfl) ci_X11_45_X9_init (As := [.ref p76, .ref p80]) rfl rfl (by exact Nat.le_of_ble_eq_true rfl) (kc2 := 5) (ks2 := 172) rfl rfl (fun k9 h9 w9 => by cases w9.1) (fun r9 h9 w9 => ?_)
  obtain ⟨w1, w2⟩ := w9
  subst h9
  cases w1
  obtain ⟨h86, e86, hf⟩ := jbind hf
  refine jr_putR K (D_at DX11_init_q3 4 rfl) fp_X11_48_9 (Or.inr rfl) e86 ?_
  refine jr_aload_n K (D_at DX11_init_q3 5 rfl) rfl rfl ?_
  obtain ⟨h90, e90, hf⟩ := jbind hf
  refine jr_newE (N := 3) K (D_at DX11_init_q3 6 rfl) fn_X11_52 (kc := 4) (ks := 169) e90 ?_
  refine jr_dup K (D_at DX11_init_q3 7 rfl) rfl ?_
  refine jr_aload_n K (D_at DX11_init_q3 8 rfl) rfl rfl ?_
  obtain ⟨p95, e95, hf⟩ := jbind hf
  refine jr_getR K (D_at DX11_init_q3 9 rfl) fg_X11_10_9 e95 ?_
  refine jr_aload_n K (D_at DX11_init_q3 10 rfl) rfl rfl ?_
  obtain ⟨p99, e99, hf⟩ := jbind hf
  refine jr_getR K (D_at DX11_init_q3 11 rfl) fg_X11_40_9 e99 ?_
  obtain ⟨h102, e102, hf⟩ := jbind hf
  refine jr_callI K (C_X3_init (d) e102) (D_at DX11_init_q4 0 rfl) ci_X11_54_X3_init (As := [.ref p95, .ref p99]) rfl rfl (by exact Nat.le_of_ble_eq_true rfl) (kc2 := 4) (ks2 := 169) rfl rfl (fun k9 h9 w9 => by cases w9.1) (fun r9 h9 w9 => ?_)
  obtain ⟨w1, w2⟩ := w9
  subst h9
  cases w1
  obtain ⟨h105, e105, hf⟩ := jbind hf
  refine jr_putR K (D_at DX11_init_q4 1 rfl) fp_X11_57_9 (Or.inr rfl) e105 ?_
  refine jr_aload_n K (D_at DX11_init_q4 2 rfl) rfl rfl ?_
  obtain ⟨h109, e109, hf⟩ := jbind hf
  refine jr_newE (N := 2) K (D_at DX11_init_q4 3 rfl) fn_X11_61 (kc := 3) (ks := 167) e109 ?_
  refine jr_dup K (D_at DX11_init_q4 4 rfl) rfl ?_
  refine jr_aload_n K (D_at DX11_init_q4 5 rfl) rfl rfl ?_
  obtain ⟨p114, e114, hf⟩ := jbind hf
  refine jr_getR K (D_at DX11_init_q4 6 rfl) fg_X11_26_9 e114 ?_
  refine jr_aload_n K (D_at DX11_init_q4 7 rfl) rfl rfl ?_
  obtain ⟨p118, e118, hf⟩ := jbind hf
  refine jr_getR K (D_at DX11_init_q4 8 rfl) fg_X11_37_9 e118 ?_
  obtain ⟨h121, e121, hf⟩ := jbind hf
  refine jr_callI K (C_X1_init (d + 1) e121) (D_at DX11_init_q4 9 rfl) ci_X11_63_X1_init (As := [.ref p114, .ref p118]) rfl rfl (by exact Nat.le_of_ble_eq_true rfl) (kc2 := 3) (ks2 := 167) rfl rfl (fun k9 h9 w9 => by cases w9.1) (fun r9 h9 w9 => ?_)
  obtain ⟨w1, w2⟩ := w9
  subst h9
  cases w1
  obtain ⟨h124, e124, hf⟩ := jbind hf
  refine jr_putR K (D_at DX11_init_q4 10 rfl) fp_X11_66_9 (Or.inr rfl) e124 ?_
  refine jr_aload_n K (D_at DX11_init_q4 11 rfl) rfl rfl ?_
  obtain ⟨h128, e128, hf⟩ := jbind hf
  refine jr_newE (N := 7) K (D_at DX11_init_q5 0 rfl) fn_X11_70 (kc := 2) (ks := 160) e128 ?_
  refine jr_dup K (D_at DX11_init_q5 1 rfl) rfl ?_
  refine jr_aload_n K (D_at DX11_init_q5 2 rfl) rfl rfl ?_
  obtain ⟨p133, e133, hf⟩ := jbind hf
  refine jr_getR K (D_at DX11_init_q5 3 rfl) fg_X11_10_9 e133 ?_
  refine jr_aload_n K (D_at DX11_init_1_q0 0 rfl) rfl rfl ?_
  obtain ⟨p137, e137, hf⟩ := jbind hf
  refine jr_getR K (D_at DX11_init_1_q0 1 rfl) fg_X11_37_9 e137 ?_
  obtain ⟨h140, e140, hf⟩ := jbind hf
  refine jr_callI K (C_X7_init (d + 1) e140) (D_at DX11_init_1_q0 2 rfl) ci_X11_72_X7_init (As := [.ref p133, .ref p137]) rfl rfl (by exact Nat.le_of_ble_eq_true rfl) (kc2 := 0) (ks2 := 0) rfl rfl (fun k9 h9 w9 => by cases w9.1) (fun r9 h9 w9 => ?_)
  obtain ⟨w1, w2⟩ := w9
  subst h9
  cases w1
  obtain ⟨h143, e143, hf⟩ := jbind hf
  refine jr_putR K (D_at DX11_init_1_q0 3 rfl) fp_X11_73_9 (Or.inr rfl) e143 ?_
  refine jr_aload_n K (D_at DX11_init_1_q0 4 rfl) rfl rfl ?_
  refine jr_iconst K (D_at DX11_init_1_q0 5 rfl) (v := (-1 : Int32)) (by decide) ?_
  obtain ⟨h148, e148, hf⟩ := jbind hf
  refine jr_putI K (D_at DX11_init_1_q0 6 rfl) fp_X11_77_9 (Or.inl rfl) e148 ?_
  cases hf
  exact jr_vret K E (D_at DX11_init_1_q0 7 rfl) rfl ⟨rfl, rfl⟩
theorem C_X11_init {G : jG} {l : Launch} (d : Nat) {n : Nat} {a0 : Nat} {h : jH} {res : jH} (hf : F_X11_init n a0 h = some res) : jC G l mX11_init (d + 3) 39 2961 [.ref a0] h (jPV res) :=
  jC.of pn_X11 (jcats rfl) (Nat.le_of_ble_eq_true rfl) (fun X K E => J_X11_init K n E a0 h hf)
set_option maxHeartbeats 400000 in
set_option maxRecDepth 100000 in
theorem J_X11_feed {G : jG} {l : Launch} {d : Nat} {X : jX} {res : (Int32 × jH)} (K : jOK G l mX11_feed (d + 1) X) (n : Nat) (E : jEnd G mX11_feed (jPW res) X) (a0 : Nat) (x1 : Int32) (x2 : Int32) (x3 : Int32) (x4 : Int32) (x5 : Int32) (h : jH) (hf : F_X11_feed n a0 x1 x2 x3 x4 x5 h = some res) : jJ G X h 0 0 0 [some (.ref a0), some (.int x1), some (.int x2), some (.int x3), some (.int x4), some (.int x5)] [] := by
  unfold F_X11_feed at hf
  refine jr_aload_n K (D_at DX11_feed_q0 0 rfl) rfl rfl ?_
  obtain ⟨p1, e1, hf⟩ := jbind hf
  refine jr_getR K (D_at DX11_feed_q0 1 rfl) fg_X11_10_9 e1 ?_
  obtain ⟨v4, e4, hf⟩ := jbind hf
  obtain ⟨rc_4, e4⟩ := jcv_o e4
  refine jr_callV K (C_X10_hasRoom (d) e4) (D_at DX11_feed_q0 2 rfl) cv_X11_81_X10_hasRoom (As := []) (ci := 8) rfl rc_4 rfl rfl (by exact Nat.le_of_ble_eq_true rfl) (kc2 := 0) (ks2 := 0) rfl rfl (fun k9 h9 w9 => by cases w9.1) (fun r9 h9 w9 => ?_)
  obtain ⟨w1, w2⟩ := w9
  subst h9
  cases w1
  show jJ G X _ 0 0 _ _ (.int v4 :: _)
  refine jr_if_ne K (D_at DX11_feed_q0 3 rfl) (tgt := 12) (by decide) (fun c7 => ?_) (fun c7 => ?_)
  · replace hf := (if_neg c7).symm.trans hf
    refine jr_aload_n K (D_at DX11_feed_q0 6 rfl) rfl rfl ?_
    obtain ⟨p13, e13, hf⟩ := jbind hf
    refine jr_getR K (D_at DX11_feed_q0 7 rfl) fg_X11_10_9 e13 ?_
    refine jr_iload_n K (D_at DX11_feed_q0 8 rfl) rfl rfl ?_
    obtain ⟨h17, e17, hf⟩ := jbind hf
    obtain ⟨rc_17, e17⟩ := jcv_o e17
    refine jr_callV K (C_X10_put (d) e17) (D_at DX11_feed_q0 9 rfl) cv_X11_85_X10_put (As := [.int x1]) (ci := 8) rfl rc_17 rfl rfl (by exact Nat.le_of_ble_eq_true rfl) (kc2 := 0) (ks2 := 0) rfl rfl (fun k9 h9 w9 => by cases w9.1) (fun r9 h9 w9 => ?_)
    obtain ⟨w1, w2⟩ := w9
    subst h9
    cases w1
    show jJ G X _ 0 0 _ _ []
    refine jr_aload_n K (D_at DX11_feed_q0 10 rfl) rfl rfl ?_
    obtain ⟨p21, e21, hf⟩ := jbind hf
    refine jr_getR K (D_at DX11_feed_q0 11 rfl) fg_X11_10_9 e21 ?_
    refine jr_iload_n K (D_at DX11_feed_q1 0 rfl) rfl rfl ?_
    obtain ⟨h25, e25, hf⟩ := jbind hf
    obtain ⟨rc_25, e25⟩ := jcv_o e25
    refine jr_callV K (C_X10_put (d) e25) (D_at DX11_feed_q1 1 rfl) cv_X11_85_X10_put (As := [.int x2]) (ci := 8) rfl rc_25 rfl rfl (by exact Nat.le_of_ble_eq_true rfl) (kc2 := 0) (ks2 := 0) rfl rfl (fun k9 h9 w9 => by cases w9.1) (fun r9 h9 w9 => ?_)
    obtain ⟨w1, w2⟩ := w9
    subst h9
    cases w1
    show jJ G X _ 0 0 _ _ []
    refine jr_aload_n K (D_at DX11_feed_q1 2 rfl) rfl rfl ?_
    obtain ⟨p29, e29, hf⟩ := jbind hf
    refine jr_getR K (D_at DX11_feed_q1 3 rfl) fg_X11_10_9 e29 ?_
    refine jr_iload_n K (D_at DX11_feed_q1 4 rfl) rfl rfl ?_
    obtain ⟨h33, e33, hf⟩ := jbind hf
    obtain ⟨rc_33, e33⟩ := jcv_o e33
    refine jr_callV K (C_X10_put (d) e33) (D_at DX11_feed_q1 5 rfl) cv_X11_85_X10_put (As := [.int x3]) (ci := 8) rfl rc_33 rfl rfl (by exact Nat.le_of_ble_eq_true rfl) (kc2 := 0) (ks2 := 0) rfl rfl (fun k9 h9 w9 => by cases w9.1) (fun r9 h9 w9 => ?_)
    obtain ⟨w1, w2⟩ := w9
    subst h9
    cases w1
    show jJ G X _ 0 0 _ _ []
    refine jr_aload_n K (D_at DX11_feed_q1 6 rfl) rfl rfl ?_
    obtain ⟨p37, e37, hf⟩ := jbind hf
    refine jr_getR K (D_at DX11_feed_q1 7 rfl) fg_X11_10_9 e37 ?_
    refine jr_iload K (D_at DX11_feed_q1 8 rfl) rfl ?_
    obtain ⟨h42, e42, hf⟩ := jbind hf
    obtain ⟨rc_42, e42⟩ := jcv_o e42
    refine jr_callV K (C_X10_put (d) e42) (D_at DX11_feed_q1 9 rfl) cv_X11_85_X10_put (As := [.int x4]) (ci := 8) rfl rc_42 rfl rfl (by exact Nat.le_of_ble_eq_true rfl) (kc2 := 0) (ks2 := 0) rfl rfl (fun k9 h9 w9 => by cases w9.1) (fun r9 h9 w9 => ?_)
    obtain ⟨w1, w2⟩ := w9
    subst h9
    cases w1
    show jJ G X _ 0 0 _ _ []
    refine jr_aload_n K (D_at DX11_feed_q1 10 rfl) rfl rfl ?_
    obtain ⟨p46, e46, hf⟩ := jbind hf
    refine jr_getR K (D_at DX11_feed_q1 11 rfl) fg_X11_10_9 e46 ?_
    refine jr_iload K (D_at DX11_feed_q2 0 rfl) rfl ?_
    obtain ⟨h51, e51, hf⟩ := jbind hf
    obtain ⟨rc_51, e51⟩ := jcv_o e51
    refine jr_callV K (C_X10_put (d) e51) (D_at DX11_feed_q2 1 rfl) cv_X11_85_X10_put (As := [.int x5]) (ci := 8) rfl rc_51 rfl rfl (by exact Nat.le_of_ble_eq_true rfl) (kc2 := 0) (ks2 := 0) rfl rfl (fun k9 h9 w9 => by cases w9.1) (fun r9 h9 w9 => ?_)
    obtain ⟨w1, w2⟩ := w9
    subst h9
    cases w1
    show jJ G X _ 0 0 _ _ []
    refine jr_aload_n K (D_at DX11_feed_q2 2 rfl) rfl rfl ?_
    obtain ⟨p55, e55, hf⟩ := jbind hf
    refine jr_getR K (D_at DX11_feed_q2 3 rfl) fg_X11_10_9 e55 ?_
    obtain ⟨v58, e58, hf⟩ := jbind hf
    refine jr_getI K (D_at DX11_feed_q2 4 rfl) fg_X11_89_8 e58 ?_
    cases hf
    exact jr_iret K E (D_at DX11_feed_q2 5 rfl) rfl ⟨rfl, rfl⟩
  · replace hf := (if_pos c7).symm.trans hf
    refine jr_iconst K (D_at DX11_feed_q0 4 rfl) (v := (-1 : Int32)) (by decide) ?_
    cases hf
    exact jr_iret K E (D_at DX11_feed_q0 5 rfl) rfl ⟨rfl, rfl⟩
theorem C_X11_feed {G : jG} {l : Launch} (d : Nat) {n : Nat} {a0 : Nat} {x1 : Int32} {x2 : Int32} {x3 : Int32} {x4 : Int32} {x5 : Int32} {h : jH} {res : (Int32 × jH)} (hf : F_X11_feed n a0 x1 x2 x3 x4 x5 h = some res) : jC G l mX11_feed (d + 1) 0 0 [.ref a0, .int x1, .int x2, .int x3, .int x4, .int x5] h (jPW res) :=
  jC.of pn_X11 (jcats rfl) (Nat.le_of_ble_eq_true rfl) (fun X K E => J_X11_feed K n E a0 x1 x2 x3 x4 x5 h hf)
set_option maxHeartbeats 400000 in
set_option maxRecDepth 100000 in
theorem J_X11_end {G : jG} {l : Launch} {d : Nat} {X : jX} {res : (Int32 × jH)} (K : jOK G l mX11_end (d) X) (n : Nat) (E : jEnd G mX11_end (jPW res) X) (a0 : Nat) (x1 : Int32) (h : jH) (hf : F_X11_end n a0 x1 h = some res) : jJ G X h 0 0 0 [some (.ref a0), some (.int x1)] [] := by
  unfold F_X11_end at hf
  refine jr_iload_n K (D_at DX11_end_q0 0 rfl) rfl rfl ?_
  refine jr_if_lt K (D_at DX11_end_q0 1 rfl) (tgt := 15) (by decide) (fun c1 => ?_) (fun c1 => ?_)
  · replace hf := (if_pos c1).symm.trans hf
    refine jr_iconst K (D_at DX11_end_q0 7 rfl) (v := (0 : Int32)) (by decide) ?_
    cases hf
    exact jr_zret K E (D_at DX11_end_q0 8 rfl) rfl (Or.inl rfl) ⟨rfl, rfl⟩
  · replace hf := (if_neg c1).symm.trans hf
    refine jr_iload_n K (D_at DX11_end_q0 2 rfl) rfl rfl ?_
    refine jr_aload_n K (D_at DX11_end_q0 3 rfl) rfl rfl ?_
    obtain ⟨p6, e6, hf⟩ := jbind hf
    refine jr_getR K (D_at DX11_end_q0 4 rfl) fg_X11_10_9 e6 ?_
    obtain ⟨v9, e9, hf⟩ := jbind hf
    refine jr_getI K (D_at DX11_end_q0 5 rfl) fg_X11_89_8 e9 ?_
    refine jr_icmp_le K (D_at DX11_end_q0 6 rfl) (tgt := 17) (by decide) (fun c12 => ?_) (fun c12 => ?_)
    · replace hf := (if_pos c12).symm.trans hf
      refine jr_aload_n K (D_at DX11_end_q0 9 rfl) rfl rfl ?_
      obtain ⟨p18, e18, hf⟩ := jbind hf
      refine jr_getR K (D_at DX11_end_q0 10 rfl) fg_X11_10_9 e18 ?_
      refine jr_iload_n K (D_at DX11_end_q0 11 rfl) rfl rfl ?_
      obtain ⟨h22, e22, hf⟩ := jbind hf
      refine jr_putI K (D_at DX11_end_q1 0 rfl) fp_X11_89_8 (Or.inl rfl) e22 ?_
      refine jr_iconst K (D_at DX11_end_q1 1 rfl) (v := (1 : Int32)) (by decide) ?_
      cases hf
      exact jr_zret K E (D_at DX11_end_q1 2 rfl) rfl (Or.inr rfl) ⟨rfl, rfl⟩
    · replace hf := (if_neg c12).symm.trans hf
      refine jr_iconst K (D_at DX11_end_q0 7 rfl) (v := (0 : Int32)) (by decide) ?_
      cases hf
      exact jr_zret K E (D_at DX11_end_q0 8 rfl) rfl (Or.inl rfl) ⟨rfl, rfl⟩
theorem C_X11_end {G : jG} {l : Launch} (d : Nat) {n : Nat} {a0 : Nat} {x1 : Int32} {h : jH} {res : (Int32 × jH)} (hf : F_X11_end n a0 x1 h = some res) : jC G l mX11_end (d) 0 0 [.ref a0, .int x1] h (jPW res) :=
  jC.of pn_X11 (jcats rfl) (Nat.le_of_ble_eq_true rfl) (fun X K E => J_X11_end K n E a0 x1 h hf)
set_option maxHeartbeats 400000 in
set_option maxRecDepth 100000 in
theorem J_X4_read_R_22_b {G : jG} {l : Launch} {d : Nat} {X : jX} {res : (Int32 × jH)} (K : jOK G l mX4_read (d + 10) X) (n : Nat) (rc22 : Nat → Int32 → jH → Option (Int32 × jH)) (hr22 : ∀ (a0 : Nat) (x1 : Int32) (h : jH), rc22 a0 x1 h = some res → jJ G X h 0 0 22 [some (.ref a0), some (.int x1)] []) (E : jEnd G mX4_read (jPW res) X) (a0 : Nat) (x1 : Int32) (h : jH) (hf : F_X4_read_R_22_b n rc22 a0 x1 h = some res) : jJ G X h 0 0 22 [some (.ref a0), some (.int x1)] [] := by
  unfold F_X4_read_R_22_b at hf
  refine jr_iload_n K (D_at DX4_read_q1 0 rfl) rfl rfl ?_
  refine jr_aload_n K (D_at DX4_read_q1 1 rfl) rfl rfl ?_
  obtain ⟨v24, e24, hf⟩ := jbind hf
  refine jr_getI K (D_at DX4_read_q1 2 rfl) fg_X4_15_7 e24 ?_
  refine jr_icmp_ge K (D_at DX4_read_q1 3 rfl) (tgt := 84) (by decide) (fun c27 => ?_) (fun c27 => ?_)
  · replace hf := (if_pos c27).symm.trans hf
    refine jr_aload_n K (D_at DX4_read_q3 5 rfl) rfl rfl ?_
    obtain ⟨p85, e85, hf⟩ := jbind hf
    refine jr_getR K (D_at DX4_read_q3 6 rfl) fg_X4_9_7 e85 ?_
    obtain ⟨v88, e88, hf⟩ := jbind hf
    obtain ⟨rc_88, e88⟩ := jcv_o e88
    refine jr_callV K (C_X10_start (d + 9) e88) (D_at DX4_read_q3 7 rfl) cv_X4_32_X10_start (As := []) (ci := 8) rfl rc_88 rfl rfl (by exact Nat.le_of_ble_eq_true rfl) (kc2 := 0) (ks2 := 0) rfl rfl (fun k9 h9 w9 => by cases w9.1) (fun r9 h9 w9 => ?_)
    obtain ⟨w1, w2⟩ := w9
    subst h9
    cases w1
    show jJ G X _ 0 0 _ _ (.int v88 :: _)
    cases hf
    exact jr_iret K E (D_at DX4_read_q3 8 rfl) rfl ⟨rfl, rfl⟩
  · replace hf := (if_neg c27).symm.trans hf
    refine jr_aload_n K (D_at DX4_read_q1 4 rfl) rfl rfl ?_
    obtain ⟨q31, e31, hf⟩ := jbind hf
    obtain ⟨rc_31, e31⟩ := jcv_o e31
    refine jr_callU K (C_X9_readLine (d + 6) e31) (D_at DX4_read_q1 5 rfl) cu_X4_28_RodRings_RodReader_X9_readLine (As := []) (ci := 7) rfl rc_31 rfl rfl (by exact Nat.le_of_ble_eq_true rfl) (kc2 := 0) (ks2 := 0) rfl rfl (fun k9 h9 w9 => by cases w9.1) (fun r9 h9 w9 => ?_)
    obtain ⟨w1, w2⟩ := w9
    subst h9
    cases w1
    show jJ G X _ 0 0 _ _ (.int q31.1 :: _)
    refine jr_if_ne K (D_at DX4_read_q1 6 rfl) (tgt := 45) (by decide) (fun c34 => ?_) (fun c34 => ?_)
    · replace hf := (if_neg c34).symm.trans hf
      refine jr_aload_n K (D_at DX4_read_q1 11 rfl) rfl rfl ?_
      obtain ⟨p46, e46, hf⟩ := jbind hf
      refine jr_getR K (D_at DX4_read_q2 0 rfl) fg_X4_9_7 e46 ?_
      obtain ⟨v49, e49, hf⟩ := jbind hf
      obtain ⟨rc_49, e49⟩ := jcv_o e49
      refine jr_callV K (C_X10_kind (d + 9) e49) (D_at DX4_read_q2 1 rfl) cv_X4_24_X10_kind (As := []) (ci := 8) rfl rc_49 rfl rfl (by exact Nat.le_of_ble_eq_true rfl) (kc2 := 0) (ks2 := 0) rfl rfl (fun k9 h9 w9 => by cases w9.1) (fun r9 h9 w9 => ?_)
      obtain ⟨w1, w2⟩ := w9
      subst h9
      cases w1
      show jJ G X _ 0 0 _ _ (.int v49 :: _)
      refine jr_iconst K (D_at DX4_read_q2 2 rfl) (v := (-1 : Int32)) (by decide) ?_
      refine jr_icmp_ne K (D_at DX4_read_q2 3 rfl) (tgt := 58) (by decide) (fun c53 => ?_) (fun c53 => ?_)
      · replace hf := (if_neg c53).symm.trans hf
        refine jr_aload_n K (D_at DX4_read_q2 6 rfl) rfl rfl ?_
        obtain ⟨p59, e59, hf⟩ := jbind hf
        refine jr_getR K (D_at DX4_read_q2 7 rfl) fg_X4_9_7 e59 ?_
        refine jr_bipush K (D_at DX4_read_q2 8 rfl) (v := (59 : Int32)) (by decide) ?_
        obtain ⟨q64, e64, hf⟩ := jbind hf
        obtain ⟨rc_64, e64⟩ := jcv_o e64
        refine jr_callV K (C_X10_take (d + 9) e64) (D_at DX4_read_q2 9 rfl) cv_X4_35_X10_take (As := [.int (59 : Int32)]) (ci := 8) rfl rc_64 rfl rfl (by exact Nat.le_of_ble_eq_true rfl) (kc2 := 0) (ks2 := 0) rfl rfl (fun k9 h9 w9 => by cases w9.1) (fun r9 h9 w9 => ?_)
        obtain ⟨w1, w2⟩ := w9
        subst h9
        cases w1
        show jJ G X _ 0 0 _ _ (.int q64.1 :: _)
        refine jr_if_ne K (D_at DX4_read_q2 10 rfl) (tgt := 78) (by decide) (fun c67 => ?_) (fun c67 => ?_)
        · replace hf := (if_neg c67).symm.trans hf
          refine jr_iinc K (D_at DX4_read_q3 3 rfl) (i := 1) rfl (v := x1 + (1 : Int32)) (jinc (by decide)) (by decide) (L2 := [_, _]) rfl ?_
          refine jr_goto K (D_at DX4_read_q3 4 rfl) (tgt := 22) (by decide) ?_
          refine jr_keep [true, true] ?_
          exact hr22 a0 (x1 + (1 : Int32)) q64.2 hf
        · replace hf := (if_pos c67).symm.trans hf
          refine jr_aload_n K (D_at DX4_read_q2 11 rfl) rfl rfl ?_
          obtain ⟨p71, e71, hf⟩ := jbind hf
          refine jr_getR K (D_at DX4_read_q3 0 rfl) fg_X4_9_7 e71 ?_
          obtain ⟨v74, e74, hf⟩ := jbind hf
          obtain ⟨rc_74, e74⟩ := jcv_o e74
          refine jr_callV K (C_X10_start (d + 9) e74) (D_at DX4_read_q3 1 rfl) cv_X4_32_X10_start (As := []) (ci := 8) rfl rc_74 rfl rfl (by exact Nat.le_of_ble_eq_true rfl) (kc2 := 0) (ks2 := 0) rfl rfl (fun k9 h9 w9 => by cases w9.1) (fun r9 h9 w9 => ?_)
          obtain ⟨w1, w2⟩ := w9
          subst h9
          cases w1
          show jJ G X _ 0 0 _ _ (.int v74 :: _)
          cases hf
          exact jr_iret K E (D_at DX4_read_q3 2 rfl) rfl ⟨rfl, rfl⟩
      · replace hf := (if_pos c53).symm.trans hf
        refine jr_iconst K (D_at DX4_read_q2 4 rfl) (v := (-1 : Int32)) (by decide) ?_
        cases hf
        exact jr_iret K E (D_at DX4_read_q2 5 rfl) rfl ⟨rfl, rfl⟩
    · replace hf := (if_pos c34).symm.trans hf
      refine jr_aload_n K (D_at DX4_read_q1 7 rfl) rfl rfl ?_
      obtain ⟨p38, e38, hf⟩ := jbind hf
      refine jr_getR K (D_at DX4_read_q1 8 rfl) fg_X4_9_7 e38 ?_
      obtain ⟨v41, e41, hf⟩ := jbind hf
      obtain ⟨rc_41, e41⟩ := jcv_o e41
      refine jr_callV K (C_X10_start (d + 9) e41) (D_at DX4_read_q1 9 rfl) cv_X4_32_X10_start (As := []) (ci := 8) rfl rc_41 rfl rfl (by exact Nat.le_of_ble_eq_true rfl) (kc2 := 0) (ks2 := 0) rfl rfl (fun k9 h9 w9 => by cases w9.1) (fun r9 h9 w9 => ?_)
      obtain ⟨w1, w2⟩ := w9
      subst h9
      cases w1
      show jJ G X _ 0 0 _ _ (.int v41 :: _)
      cases hf
      exact jr_iret K E (D_at DX4_read_q1 10 rfl) rfl ⟨rfl, rfl⟩
theorem J_X4_read_R_22 {G : jG} {l : Launch} {d : Nat} {X : jX} {res : (Int32 × jH)} (K : jOK G l mX4_read (d + 10) X) (n : Nat) (E : jEnd G mX4_read (jPW res) X) (k : Nat) : ∀ (a0 : Nat) (x1 : Int32) (h : jH), F_X4_read_R_22 n k a0 x1 h = some res → jJ G X h 0 0 22 [some (.ref a0), some (.int x1)] [] := by
  induction k with
  | zero =>
    intro a0 x1 h hf
    exact jno (show (none : Option (Int32 × jH)) = some res from hf)
  | succ k ih =>
    intro a0 x1 h hf
    exact J_X4_read_R_22_b K n (F_X4_read_R_22 n k) ih E a0 x1 h hf
set_option maxHeartbeats 400000 in
set_option maxRecDepth 100000 in
theorem J_X4_read_R {G : jG} {l : Launch} {d : Nat} {X : jX} {res : (Int32 × jH)} (K : jOK G l mX4_read (d + 10) X) (n : Nat) (E : jEnd G mX4_read (jPW res) X) (a0 : Nat) (h : jH) (hf : F_X4_read_R n a0 h = some res) : jJ G X h 0 0 0 [some (.ref a0), none] [] := by
  unfold F_X4_read_R at hf
  refine jr_aload_n K (D_at DX4_read_q0 0 rfl) rfl rfl ?_
  obtain ⟨p1, e1, hf⟩ := jbind hf
  refine jr_getR K (D_at DX4_read_q0 1 rfl) fg_X4_9_7 e1 ?_
  obtain ⟨h4, e4, hf⟩ := jbind hf
  obtain ⟨rc_4, e4⟩ := jcv_o e4
  refine jr_callV K (C_X10_scan (d) e4) (D_at DX4_read_q0 2 rfl) cv_X4_19_X10_scan (As := []) (ci := 8) rfl rc_4 rfl rfl (by exact Nat.le_of_ble_eq_true rfl) (kc2 := 0) (ks2 := 0) rfl rfl (fun k9 h9 w9 => by cases w9.1) (fun r9 h9 w9 => ?_)
  obtain ⟨w1, w2⟩ := w9
  subst h9
  cases w1
  show jJ G X _ 0 0 _ _ []
  refine jr_aload_n K (D_at DX4_read_q0 3 rfl) rfl rfl ?_
  obtain ⟨p8, e8, hf⟩ := jbind hf
  refine jr_getR K (D_at DX4_read_q0 4 rfl) fg_X4_9_7 e8 ?_
  obtain ⟨v11, e11, hf⟩ := jbind hf
  obtain ⟨rc_11, e11⟩ := jcv_o e11
  refine jr_callV K (C_X10_kind (d + 9) e11) (D_at DX4_read_q0 5 rfl) cv_X4_24_X10_kind (As := []) (ci := 8) rfl rc_11 rfl rfl (by exact Nat.le_of_ble_eq_true rfl) (kc2 := 0) (ks2 := 0) rfl rfl (fun k9 h9 w9 => by cases w9.1) (fun r9 h9 w9 => ?_)
  obtain ⟨w1, w2⟩ := w9
  subst h9
  cases w1
  show jJ G X _ 0 0 _ _ (.int v11 :: _)
  refine jr_iconst K (D_at DX4_read_q0 6 rfl) (v := (-1 : Int32)) (by decide) ?_
  refine jr_icmp_ne K (D_at DX4_read_q0 7 rfl) (tgt := 20) (by decide) (fun c15 => ?_) (fun c15 => ?_)
  · replace hf := (if_neg c15).symm.trans hf
    refine jr_iconst K (D_at DX4_read_q0 10 rfl) (v := (0 : Int32)) (by decide) ?_
    refine jr_istore_n K (D_at DX4_read_q0 11 rfl) (i := 1) rfl (by decide) (L2 := [_, _]) rfl ?_
    refine jr_keep [true, true] ?_
    exact J_X4_read_R_22 K n E n a0 (0 : Int32) h4 hf
  · replace hf := (if_pos c15).symm.trans hf
    refine jr_iconst K (D_at DX4_read_q0 8 rfl) (v := (-1 : Int32)) (by decide) ?_
    cases hf
    exact jr_iret K E (D_at DX4_read_q0 9 rfl) rfl ⟨rfl, rfl⟩
theorem C_X4_read_R {G : jG} {l : Launch} (d : Nat) {n : Nat} {a0 : Nat} {h : jH} {res : (Int32 × jH)} (hf : F_X4_read_R n a0 h = some res) : jC G l mX4_read (d + 10) 0 0 [.ref a0] h (jPW res) :=
  jC.of pn_X4 (jcats rfl) (Nat.le_of_ble_eq_true rfl) (fun X K E => J_X4_read_R K n E a0 h hf)
set_option maxHeartbeats 400000 in
set_option maxRecDepth 100000 in
theorem J_X11_pole {G : jG} {l : Launch} (hst : l.stackTraces = false) {d : Nat} {X : jX} {res : (jR × jH)} (K : jOK G l mX11_pole (d + 11) X) (n : Nat) (E : jEnd G mX11_pole (jPX res) X) (a0 : Nat) (h : jH) (hf : F_X11_pole n a0 h = some res) : jJ G X h 1 6 0 [some (.ref a0)] [] := by
  unfold F_X11_pole at hf
  refine jr_aload_n K (D_at DX11_pole_q0 0 rfl) rfl rfl ?_
  obtain ⟨p1, e1, hf⟩ := jbind hf
  refine jr_getR K (D_at DX11_pole_q0 1 rfl) fg_X11_37_9 e1 ?_
  refine jr_aload_n K (D_at DX11_pole_q0 2 rfl) rfl rfl ?_
  obtain ⟨p5, e5, hf⟩ := jbind hf
  refine jr_getR K (D_at DX11_pole_q0 3 rfl) fg_X11_19_9 e5 ?_
  obtain ⟨h8, e8, hf⟩ := jbind hf
  obtain ⟨rc_8, e8⟩ := jcv_o e8
  refine jr_callV K (C_X8_copyFrom (d + 8) e8) (D_at DX11_pole_q0 4 rfl) cv_X11_92_X8_copyFrom (As := [.ref p5]) (ci := 6) rfl rc_8 rfl rfl (by exact Nat.le_of_ble_eq_true rfl) (kc2 := 1) (ks2 := 6) rfl rfl (fun k9 h9 w9 => by cases w9.1) (fun r9 h9 w9 => ?_)
  obtain ⟨w1, w2⟩ := w9
  subst h9
  cases w1
  show jJ G X _ 1 6 _ _ []
  refine jr_aload_n K (D_at DX11_pole_q0 5 rfl) rfl rfl ?_
  refine jr_aload_n K (D_at DX11_pole_q0 6 rfl) rfl rfl ?_
  obtain ⟨p13, e13, hf⟩ := jbind hf
  refine jr_getR K (D_at DX11_pole_q0 7 rfl) fg_X11_48_9 e13 ?_
  obtain ⟨q16, e16, hf⟩ := jbind hf
  obtain ⟨rc_16, e16⟩ := jcv_o e16
  refine jr_callU K (C_X4_read_R (d) e16) (D_at DX11_pole_q0 8 rfl) cu_X11_96_RodRings_RodReader_X4_read (As := []) (ci := 7) rfl rc_16 rfl rfl (by exact Nat.le_of_ble_eq_true rfl) (kc2 := 1) (ks2 := 6) rfl rfl (fun k9 h9 w9 => by cases w9.1) (fun r9 h9 w9 => ?_)
  obtain ⟨w1, w2⟩ := w9
  subst h9
  cases w1
  show jJ G X _ 1 6 _ _ (.int q16.1 :: _)
  obtain ⟨h19, e19, hf⟩ := jbind hf
  refine jr_putI K (D_at DX11_pole_q0 9 rfl) fp_X11_77_9 (Or.inl rfl) e19 ?_
  refine jr_aload_n K (D_at DX11_pole_q0 10 rfl) rfl rfl ?_
  obtain ⟨p23, e23, hf⟩ := jbind hf
  refine jr_getR K (D_at DX11_pole_q0 11 rfl) fg_X11_10_9 e23 ?_
  refine jr_iconst K (D_at DX11_pole_q1 0 rfl) (v := (0 : Int32)) (by decide) ?_
  obtain ⟨h27, e27, hf⟩ := jbind hf
  refine jr_putI K (D_at DX11_pole_q1 1 rfl) fp_X11_89_8 (Or.inl rfl) e27 ?_
  refine jr_aload_n K (D_at DX11_pole_q1 2 rfl) rfl rfl ?_
  obtain ⟨v31, e31, hf⟩ := jbind hf
  refine jr_getI K (D_at DX11_pole_q1 3 rfl) fg_X11_77_9 e31 ?_
  refine jr_iconst K (D_at DX11_pole_q1 4 rfl) (v := (-1 : Int32)) (by decide) ?_
  refine jr_icmp_eq K (D_at DX11_pole_q1 5 rfl) (tgt := 48) (by decide) (fun c35 => ?_) (fun c35 => ?_)
  · replace hf := (if_pos c35).symm.trans hf
    refine jr_aload_n K (D_at DX11_pole_q1 11 rfl) rfl rfl ?_
    obtain ⟨p49, e49, hf⟩ := jbind hf
    refine jr_getR K (D_at DX11_pole_q2 0 rfl) fg_X11_19_9 e49 ?_
    obtain ⟨v52, e52, hf⟩ := jbind hf
    refine jr_getI K (D_at DX11_pole_q2 1 rfl) fg_X11_107_6 e52 ?_
    refine jr_bipush K (D_at DX11_pole_q2 2 rfl) (v := (12 : Int32)) (by decide) ?_
    refine jr_icmp_lt K (D_at DX11_pole_q2 3 rfl) (tgt := 70) (by decide) (fun c57 => ?_) (fun c57 => ?_)
    · replace hf := (if_pos c57).symm.trans hf
      refine jr_aload_n K (D_at DX11_pole_q2 9 rfl) rfl rfl ?_
      obtain ⟨p71, e71, hf⟩ := jbind hf
      refine jr_getR K (D_at DX11_pole_q2 10 rfl) fg_X11_37_9 e71 ?_
      refine jr_dup K (D_at DX11_pole_q2 11 rfl) rfl ?_
      obtain ⟨v75, e75, hf⟩ := jbind hf
      refine jr_getI K (D_at DX11_pole_q3 0 rfl) fg_X11_107_6 e75 ?_
      refine jr_iconst K (D_at DX11_pole_q3 1 rfl) (v := (1 : Int32)) (by decide) ?_
      refine jr_iadd K (D_at DX11_pole_q3 2 rfl) ?_
      obtain ⟨h80, e80, hf⟩ := jbind hf
      refine jr_putI K (D_at DX11_pole_q3 3 rfl) fp_X11_107_6 (Or.inl rfl) e80 ?_
      refine jr_aload_n K (D_at DX11_pole_q3 4 rfl) rfl rfl ?_
      obtain ⟨p84, e84, hf⟩ := jbind hf
      refine jr_getR K (D_at DX11_pole_q3 5 rfl) fg_X11_19_9 e84 ?_
      refine jr_aload_n K (D_at DX11_pole_q3 6 rfl) rfl rfl ?_
      obtain ⟨p88, e88, hf⟩ := jbind hf
      refine jr_getR K (D_at DX11_pole_q3 7 rfl) fg_X11_37_9 e88 ?_
      obtain ⟨h91, e91, hf⟩ := jbind hf
      obtain ⟨rc_91, e91⟩ := jcv_o e91
      refine jr_callV K (C_X8_copyFrom (d + 8) e91) (D_at DX11_pole_q3 8 rfl) cv_X11_92_X8_copyFrom (As := [.ref p88]) (ci := 6) rfl rc_91 rfl rfl (by exact Nat.le_of_ble_eq_true rfl) (kc2 := 1) (ks2 := 6) rfl rfl (fun k9 h9 w9 => by cases w9.1) (fun r9 h9 w9 => ?_)
      obtain ⟨w1, w2⟩ := w9
      subst h9
      cases w1
      show jJ G X _ 1 6 _ _ []
      refine jr_aload_n K (D_at DX11_pole_q3 9 rfl) rfl rfl ?_
      obtain ⟨p95, e95, hf⟩ := jbind hf
      refine jr_getR K (D_at DX11_pole_q3 10 rfl) fg_X11_33_9 e95 ?_
      obtain ⟨h98, e98, hf⟩ := jbind hf
      obtain ⟨rc_98, e98⟩ := jcv_o e98
      refine jr_callV K (C_X0_forget (d + 10) e98) (D_at DX11_pole_q3 11 rfl) cv_X11_115_X0_forget (As := []) (ci := 0) rfl rc_98 rfl rfl (by exact Nat.le_of_ble_eq_true rfl) (kc2 := 1) (ks2 := 6) rfl rfl (fun k9 h9 w9 => by cases w9.1) (fun r9 h9 w9 => ?_)
      obtain ⟨w1, w2⟩ := w9
      subst h9
      cases w1
      show jJ G X _ 1 6 _ _ []
      refine jr_aload_n K (D_at DX11_pole_q4 0 rfl) rfl rfl ?_
      obtain ⟨p102, e102, hf⟩ := jbind hf
      refine jr_getR K (D_at DX11_pole_q4 1 rfl) fg_X11_19_9 e102 ?_
      obtain ⟨v105, e105, hf⟩ := jbind hf
      refine jr_getI K (D_at DX11_pole_q4 2 rfl) fg_X11_107_6 e105 ?_
      cases hf
      exact jr_iret K E (D_at DX11_pole_q4 3 rfl) rfl ⟨rfl, rfl⟩
    · replace hf := (if_neg c57).symm.trans hf
      cases hf
      exact jr_throw (dep := d + 5) hst K E (D_at DX11_pole_q2 4 rfl) (D_at DX11_pole_q2 5 rfl) (D_at DX11_pole_q2 6 rfl) (D_at DX11_pole_q2 7 rfl) (D_at DX11_pole_q2 8 rfl) th_X11_3 (i := 2) rfl rfl (k := 3) rfl (by exact Nat.le_of_ble_eq_true rfl) (by decide) (by decide) ⟨rfl, rfl⟩
  · replace hf := (if_neg c35).symm.trans hf
    cases hf
    exact jr_throw (dep := d + 5) hst K E (D_at DX11_pole_q1 6 rfl) (D_at DX11_pole_q1 7 rfl) (D_at DX11_pole_q1 8 rfl) (D_at DX11_pole_q1 9 rfl) (D_at DX11_pole_q1 10 rfl) th_X11_0 (i := 1) rfl rfl (k := 0) rfl (by exact Nat.le_of_ble_eq_true rfl) (by decide) (by decide) ⟨rfl, rfl⟩
theorem C_X11_pole {G : jG} {l : Launch} (hst : l.stackTraces = false) (d : Nat) {n : Nat} {a0 : Nat} {h : jH} {res : (jR × jH)} (hf : F_X11_pole n a0 h = some res) : jC G l mX11_pole (d + 11) 1 6 [.ref a0] h (jPX res) :=
  jC.of pn_X11 (jcats rfl) (Nat.le_of_ble_eq_true rfl) (fun X K E => J_X11_pole hst K n E a0 h hf)
set_option maxHeartbeats 400000 in
set_option maxRecDepth 100000 in
theorem J_X4_read_L_22_b {G : jG} {l : Launch} {d : Nat} {X : jX} {res : (Int32 × jH)} (K : jOK G l mX4_read (d + 25) X) (n : Nat) (rc22 : Nat → Int32 → jH → Option (Int32 × jH)) (hr22 : ∀ (a0 : Nat) (x1 : Int32) (h : jH), rc22 a0 x1 h = some res → jJ G X h 0 0 22 [some (.ref a0), some (.int x1)] []) (E : jEnd G mX4_read (jPW res) X) (a0 : Nat) (x1 : Int32) (h : jH) (hf : F_X4_read_L_22_b n rc22 a0 x1 h = some res) : jJ G X h 0 0 22 [some (.ref a0), some (.int x1)] [] := by
  unfold F_X4_read_L_22_b at hf
  refine jr_iload_n K (D_at DX4_read_q1 0 rfl) rfl rfl ?_
  refine jr_aload_n K (D_at DX4_read_q1 1 rfl) rfl rfl ?_
  obtain ⟨v24, e24, hf⟩ := jbind hf
  refine jr_getI K (D_at DX4_read_q1 2 rfl) fg_X4_15_3 e24 ?_
  refine jr_icmp_ge K (D_at DX4_read_q1 3 rfl) (tgt := 84) (by decide) (fun c27 => ?_) (fun c27 => ?_)
  · replace hf := (if_pos c27).symm.trans hf
    refine jr_aload_n K (D_at DX4_read_q3 5 rfl) rfl rfl ?_
    obtain ⟨p85, e85, hf⟩ := jbind hf
    refine jr_getR K (D_at DX4_read_q3 6 rfl) fg_X4_9_3 e85 ?_
    obtain ⟨v88, e88, hf⟩ := jbind hf
    obtain ⟨rc_88, e88⟩ := jcv_o e88
    refine jr_callV K (C_X10_start (d + 24) e88) (D_at DX4_read_q3 7 rfl) cv_X4_32_X10_start (As := []) (ci := 8) rfl rc_88 rfl rfl (by exact Nat.le_of_ble_eq_true rfl) (kc2 := 0) (ks2 := 0) rfl rfl (fun k9 h9 w9 => by cases w9.1) (fun r9 h9 w9 => ?_)
    obtain ⟨w1, w2⟩ := w9
    subst h9
    cases w1
    show jJ G X _ 0 0 _ _ (.int v88 :: _)
    cases hf
    exact jr_iret K E (D_at DX4_read_q3 8 rfl) rfl ⟨rfl, rfl⟩
  · replace hf := (if_neg c27).symm.trans hf
    refine jr_aload_n K (D_at DX4_read_q1 4 rfl) rfl rfl ?_
    obtain ⟨q31, e31, hf⟩ := jbind hf
    obtain ⟨rc_31, e31⟩ := jcv_o e31
    refine jr_callU K (C_X3_readLine (d) e31) (D_at DX4_read_q1 5 rfl) cu_X4_28_RodRings_LawReader_X3_readLine (As := []) (ci := 3) rfl rc_31 rfl rfl (by exact Nat.le_of_ble_eq_true rfl) (kc2 := 0) (ks2 := 0) rfl rfl (fun k9 h9 w9 => by cases w9.1) (fun r9 h9 w9 => ?_)
    obtain ⟨w1, w2⟩ := w9
    subst h9
    cases w1
    show jJ G X _ 0 0 _ _ (.int q31.1 :: _)
    refine jr_if_ne K (D_at DX4_read_q1 6 rfl) (tgt := 45) (by decide) (fun c34 => ?_) (fun c34 => ?_)
    · replace hf := (if_neg c34).symm.trans hf
      refine jr_aload_n K (D_at DX4_read_q1 11 rfl) rfl rfl ?_
      obtain ⟨p46, e46, hf⟩ := jbind hf
      refine jr_getR K (D_at DX4_read_q2 0 rfl) fg_X4_9_3 e46 ?_
      obtain ⟨v49, e49, hf⟩ := jbind hf
      obtain ⟨rc_49, e49⟩ := jcv_o e49
      refine jr_callV K (C_X10_kind (d + 24) e49) (D_at DX4_read_q2 1 rfl) cv_X4_24_X10_kind (As := []) (ci := 8) rfl rc_49 rfl rfl (by exact Nat.le_of_ble_eq_true rfl) (kc2 := 0) (ks2 := 0) rfl rfl (fun k9 h9 w9 => by cases w9.1) (fun r9 h9 w9 => ?_)
      obtain ⟨w1, w2⟩ := w9
      subst h9
      cases w1
      show jJ G X _ 0 0 _ _ (.int v49 :: _)
      refine jr_iconst K (D_at DX4_read_q2 2 rfl) (v := (-1 : Int32)) (by decide) ?_
      refine jr_icmp_ne K (D_at DX4_read_q2 3 rfl) (tgt := 58) (by decide) (fun c53 => ?_) (fun c53 => ?_)
      · replace hf := (if_neg c53).symm.trans hf
        refine jr_aload_n K (D_at DX4_read_q2 6 rfl) rfl rfl ?_
        obtain ⟨p59, e59, hf⟩ := jbind hf
        refine jr_getR K (D_at DX4_read_q2 7 rfl) fg_X4_9_3 e59 ?_
        refine jr_bipush K (D_at DX4_read_q2 8 rfl) (v := (59 : Int32)) (by decide) ?_
        obtain ⟨q64, e64, hf⟩ := jbind hf
        obtain ⟨rc_64, e64⟩ := jcv_o e64
        refine jr_callV K (C_X10_take (d + 24) e64) (D_at DX4_read_q2 9 rfl) cv_X4_35_X10_take (As := [.int (59 : Int32)]) (ci := 8) rfl rc_64 rfl rfl (by exact Nat.le_of_ble_eq_true rfl) (kc2 := 0) (ks2 := 0) rfl rfl (fun k9 h9 w9 => by cases w9.1) (fun r9 h9 w9 => ?_)
        obtain ⟨w1, w2⟩ := w9
        subst h9
        cases w1
        show jJ G X _ 0 0 _ _ (.int q64.1 :: _)
        refine jr_if_ne K (D_at DX4_read_q2 10 rfl) (tgt := 78) (by decide) (fun c67 => ?_) (fun c67 => ?_)
        · replace hf := (if_neg c67).symm.trans hf
          refine jr_iinc K (D_at DX4_read_q3 3 rfl) (i := 1) rfl (v := x1 + (1 : Int32)) (jinc (by decide)) (by decide) (L2 := [_, _]) rfl ?_
          refine jr_goto K (D_at DX4_read_q3 4 rfl) (tgt := 22) (by decide) ?_
          refine jr_keep [true, true] ?_
          exact hr22 a0 (x1 + (1 : Int32)) q64.2 hf
        · replace hf := (if_pos c67).symm.trans hf
          refine jr_aload_n K (D_at DX4_read_q2 11 rfl) rfl rfl ?_
          obtain ⟨p71, e71, hf⟩ := jbind hf
          refine jr_getR K (D_at DX4_read_q3 0 rfl) fg_X4_9_3 e71 ?_
          obtain ⟨v74, e74, hf⟩ := jbind hf
          obtain ⟨rc_74, e74⟩ := jcv_o e74
          refine jr_callV K (C_X10_start (d + 24) e74) (D_at DX4_read_q3 1 rfl) cv_X4_32_X10_start (As := []) (ci := 8) rfl rc_74 rfl rfl (by exact Nat.le_of_ble_eq_true rfl) (kc2 := 0) (ks2 := 0) rfl rfl (fun k9 h9 w9 => by cases w9.1) (fun r9 h9 w9 => ?_)
          obtain ⟨w1, w2⟩ := w9
          subst h9
          cases w1
          show jJ G X _ 0 0 _ _ (.int v74 :: _)
          cases hf
          exact jr_iret K E (D_at DX4_read_q3 2 rfl) rfl ⟨rfl, rfl⟩
      · replace hf := (if_pos c53).symm.trans hf
        refine jr_iconst K (D_at DX4_read_q2 4 rfl) (v := (-1 : Int32)) (by decide) ?_
        cases hf
        exact jr_iret K E (D_at DX4_read_q2 5 rfl) rfl ⟨rfl, rfl⟩
    · replace hf := (if_pos c34).symm.trans hf
      refine jr_aload_n K (D_at DX4_read_q1 7 rfl) rfl rfl ?_
      obtain ⟨p38, e38, hf⟩ := jbind hf
      refine jr_getR K (D_at DX4_read_q1 8 rfl) fg_X4_9_3 e38 ?_
      obtain ⟨v41, e41, hf⟩ := jbind hf
      obtain ⟨rc_41, e41⟩ := jcv_o e41
      refine jr_callV K (C_X10_start (d + 24) e41) (D_at DX4_read_q1 9 rfl) cv_X4_32_X10_start (As := []) (ci := 8) rfl rc_41 rfl rfl (by exact Nat.le_of_ble_eq_true rfl) (kc2 := 0) (ks2 := 0) rfl rfl (fun k9 h9 w9 => by cases w9.1) (fun r9 h9 w9 => ?_)
      obtain ⟨w1, w2⟩ := w9
      subst h9
      cases w1
      show jJ G X _ 0 0 _ _ (.int v41 :: _)
      cases hf
      exact jr_iret K E (D_at DX4_read_q1 10 rfl) rfl ⟨rfl, rfl⟩
theorem J_X4_read_L_22 {G : jG} {l : Launch} {d : Nat} {X : jX} {res : (Int32 × jH)} (K : jOK G l mX4_read (d + 25) X) (n : Nat) (E : jEnd G mX4_read (jPW res) X) (k : Nat) : ∀ (a0 : Nat) (x1 : Int32) (h : jH), F_X4_read_L_22 n k a0 x1 h = some res → jJ G X h 0 0 22 [some (.ref a0), some (.int x1)] [] := by
  induction k with
  | zero =>
    intro a0 x1 h hf
    exact jno (show (none : Option (Int32 × jH)) = some res from hf)
  | succ k ih =>
    intro a0 x1 h hf
    exact J_X4_read_L_22_b K n (F_X4_read_L_22 n k) ih E a0 x1 h hf
set_option maxHeartbeats 400000 in
set_option maxRecDepth 100000 in
theorem J_X4_read_L {G : jG} {l : Launch} {d : Nat} {X : jX} {res : (Int32 × jH)} (K : jOK G l mX4_read (d + 25) X) (n : Nat) (E : jEnd G mX4_read (jPW res) X) (a0 : Nat) (h : jH) (hf : F_X4_read_L n a0 h = some res) : jJ G X h 0 0 0 [some (.ref a0), none] [] := by
  unfold F_X4_read_L at hf
  refine jr_aload_n K (D_at DX4_read_q0 0 rfl) rfl rfl ?_
  obtain ⟨p1, e1, hf⟩ := jbind hf
  refine jr_getR K (D_at DX4_read_q0 1 rfl) fg_X4_9_3 e1 ?_
  obtain ⟨h4, e4, hf⟩ := jbind hf
  obtain ⟨rc_4, e4⟩ := jcv_o e4
  refine jr_callV K (C_X10_scan (d + 15) e4) (D_at DX4_read_q0 2 rfl) cv_X4_19_X10_scan (As := []) (ci := 8) rfl rc_4 rfl rfl (by exact Nat.le_of_ble_eq_true rfl) (kc2 := 0) (ks2 := 0) rfl rfl (fun k9 h9 w9 => by cases w9.1) (fun r9 h9 w9 => ?_)
  obtain ⟨w1, w2⟩ := w9
  subst h9
  cases w1
  show jJ G X _ 0 0 _ _ []
  refine jr_aload_n K (D_at DX4_read_q0 3 rfl) rfl rfl ?_
  obtain ⟨p8, e8, hf⟩ := jbind hf
  refine jr_getR K (D_at DX4_read_q0 4 rfl) fg_X4_9_3 e8 ?_
  obtain ⟨v11, e11, hf⟩ := jbind hf
  obtain ⟨rc_11, e11⟩ := jcv_o e11
  refine jr_callV K (C_X10_kind (d + 24) e11) (D_at DX4_read_q0 5 rfl) cv_X4_24_X10_kind (As := []) (ci := 8) rfl rc_11 rfl rfl (by exact Nat.le_of_ble_eq_true rfl) (kc2 := 0) (ks2 := 0) rfl rfl (fun k9 h9 w9 => by cases w9.1) (fun r9 h9 w9 => ?_)
  obtain ⟨w1, w2⟩ := w9
  subst h9
  cases w1
  show jJ G X _ 0 0 _ _ (.int v11 :: _)
  refine jr_iconst K (D_at DX4_read_q0 6 rfl) (v := (-1 : Int32)) (by decide) ?_
  refine jr_icmp_ne K (D_at DX4_read_q0 7 rfl) (tgt := 20) (by decide) (fun c15 => ?_) (fun c15 => ?_)
  · replace hf := (if_neg c15).symm.trans hf
    refine jr_iconst K (D_at DX4_read_q0 10 rfl) (v := (0 : Int32)) (by decide) ?_
    refine jr_istore_n K (D_at DX4_read_q0 11 rfl) (i := 1) rfl (by decide) (L2 := [_, _]) rfl ?_
    refine jr_keep [true, true] ?_
    exact J_X4_read_L_22 K n E n a0 (0 : Int32) h4 hf
  · replace hf := (if_pos c15).symm.trans hf
    refine jr_iconst K (D_at DX4_read_q0 8 rfl) (v := (-1 : Int32)) (by decide) ?_
    cases hf
    exact jr_iret K E (D_at DX4_read_q0 9 rfl) rfl ⟨rfl, rfl⟩
theorem C_X4_read_L {G : jG} {l : Launch} (d : Nat) {n : Nat} {a0 : Nat} {h : jH} {res : (Int32 × jH)} (hf : F_X4_read_L n a0 h = some res) : jC G l mX4_read (d + 25) 0 0 [.ref a0] h (jPW res) :=
  jC.of pn_X4 (jcats rfl) (Nat.le_of_ble_eq_true rfl) (fun X K E => J_X4_read_L K n E a0 h hf)
set_option maxHeartbeats 400000 in
set_option maxRecDepth 100000 in
theorem J_X11_law {G : jG} {l : Launch} (hst : l.stackTraces = false) {d : Nat} {X : jX} {res : (jR × jH)} (K : jOK G l mX11_law (d + 26) X) (n : Nat) (E : jEnd G mX11_law (jPX res) X) (a0 : Nat) (h : jH) (hf : F_X11_law n a0 h = some res) : jJ G X h 1 6 0 [some (.ref a0)] [] := by
  unfold F_X11_law at hf
  refine jr_aload_n K (D_at DX11_law_q0 0 rfl) rfl rfl ?_
  obtain ⟨p1, e1, hf⟩ := jbind hf
  refine jr_getR K (D_at DX11_law_q0 1 rfl) fg_X11_40_9 e1 ?_
  obtain ⟨h4, e4, hf⟩ := jbind hf
  obtain ⟨rc_4, e4⟩ := jcv_o e4
  refine jr_callV K (C_X2_begin (d + 25) e4) (D_at DX11_law_q0 2 rfl) cv_X11_118_X2_begin (As := []) (ci := 2) rfl rc_4 rfl rfl (by exact Nat.le_of_ble_eq_true rfl) (kc2 := 1) (ks2 := 6) rfl rfl (fun k9 h9 w9 => by cases w9.1) (fun r9 h9 w9 => ?_)
  obtain ⟨w1, w2⟩ := w9
  subst h9
  cases w1
  show jJ G X _ 1 6 _ _ []
  refine jr_aload_n K (D_at DX11_law_q0 3 rfl) rfl rfl ?_
  refine jr_aload_n K (D_at DX11_law_q0 4 rfl) rfl rfl ?_
  obtain ⟨p9, e9, hf⟩ := jbind hf
  refine jr_getR K (D_at DX11_law_q0 5 rfl) fg_X11_57_9 e9 ?_
  obtain ⟨q12, e12, hf⟩ := jbind hf
  obtain ⟨rc_12, e12⟩ := jcv_o e12
  refine jr_callU K (C_X4_read_L (d) e12) (D_at DX11_law_q0 6 rfl) cu_X11_121_RodRings_LawReader_X4_read (As := []) (ci := 3) rfl rc_12 rfl rfl (by exact Nat.le_of_ble_eq_true rfl) (kc2 := 1) (ks2 := 6) rfl rfl (fun k9 h9 w9 => by cases w9.1) (fun r9 h9 w9 => ?_)
  obtain ⟨w1, w2⟩ := w9
  subst h9
  cases w1
  show jJ G X _ 1 6 _ _ (.int q12.1 :: _)
  obtain ⟨h15, e15, hf⟩ := jbind hf
  refine jr_putI K (D_at DX11_law_q0 7 rfl) fp_X11_77_9 (Or.inl rfl) e15 ?_
  refine jr_aload_n K (D_at DX11_law_q0 8 rfl) rfl rfl ?_
  obtain ⟨p19, e19, hf⟩ := jbind hf
  refine jr_getR K (D_at DX11_law_q0 9 rfl) fg_X11_10_9 e19 ?_
  refine jr_iconst K (D_at DX11_law_q0 10 rfl) (v := (0 : Int32)) (by decide) ?_
  obtain ⟨h23, e23, hf⟩ := jbind hf
  refine jr_putI K (D_at DX11_law_q0 11 rfl) fp_X11_89_8 (Or.inl rfl) e23 ?_
  refine jr_aload_n K (D_at DX11_law_q1 0 rfl) rfl rfl ?_
  obtain ⟨v27, e27, hf⟩ := jbind hf
  refine jr_getI K (D_at DX11_law_q1 1 rfl) fg_X11_77_9 e27 ?_
  refine jr_iconst K (D_at DX11_law_q1 2 rfl) (v := (-1 : Int32)) (by decide) ?_
  refine jr_icmp_eq K (D_at DX11_law_q1 3 rfl) (tgt := 44) (by decide) (fun c31 => ?_) (fun c31 => ?_)
  · replace hf := (if_pos c31).symm.trans hf
    refine jr_aload_n K (D_at DX11_law_q1 9 rfl) rfl rfl ?_
    obtain ⟨p45, e45, hf⟩ := jbind hf
    refine jr_getR K (D_at DX11_law_q1 10 rfl) fg_X11_26_9 e45 ?_
    refine jr_aload_n K (D_at DX11_law_q1 11 rfl) rfl rfl ?_
    obtain ⟨p49, e49, hf⟩ := jbind hf
    refine jr_getR K (D_at DX11_law_q2 0 rfl) fg_X11_40_9 e49 ?_
    obtain ⟨h52, e52, hf⟩ := jbind hf
    obtain ⟨rc_52, e52⟩ := jcv_o e52
    refine jr_callV K (C_X2_copyFrom (d + 24) e52) (D_at DX11_law_q2 1 rfl) cv_X11_122_X2_copyFrom (As := [.ref p49]) (ci := 2) rfl rc_52 rfl rfl (by exact Nat.le_of_ble_eq_true rfl) (kc2 := 1) (ks2 := 6) rfl rfl (fun k9 h9 w9 => by cases w9.1) (fun r9 h9 w9 => ?_)
    obtain ⟨w1, w2⟩ := w9
    subst h9
    cases w1
    show jJ G X _ 1 6 _ _ []
    refine jr_aload_n K (D_at DX11_law_q2 2 rfl) rfl rfl ?_
    obtain ⟨p56, e56, hf⟩ := jbind hf
    refine jr_getR K (D_at DX11_law_q2 3 rfl) fg_X11_33_9 e56 ?_
    obtain ⟨h59, e59, hf⟩ := jbind hf
    obtain ⟨rc_59, e59⟩ := jcv_o e59
    refine jr_callV K (C_X0_forget (d + 25) e59) (D_at DX11_law_q2 4 rfl) cv_X11_115_X0_forget (As := []) (ci := 0) rfl rc_59 rfl rfl (by exact Nat.le_of_ble_eq_true rfl) (kc2 := 1) (ks2 := 6) rfl rfl (fun k9 h9 w9 => by cases w9.1) (fun r9 h9 w9 => ?_)
    obtain ⟨w1, w2⟩ := w9
    subst h9
    cases w1
    show jJ G X _ 1 6 _ _ []
    refine jr_aload_n K (D_at DX11_law_q2 5 rfl) rfl rfl ?_
    obtain ⟨p63, e63, hf⟩ := jbind hf
    refine jr_getR K (D_at DX11_law_q2 6 rfl) fg_X11_26_9 e63 ?_
    obtain ⟨v66, e66, hf⟩ := jbind hf
    refine jr_getI K (D_at DX11_law_q2 7 rfl) fg_X11_125_2 e66 ?_
    cases hf
    exact jr_iret K E (D_at DX11_law_q2 8 rfl) rfl ⟨rfl, rfl⟩
  · replace hf := (if_neg c31).symm.trans hf
    cases hf
    exact jr_throw (dep := d + 20) hst K E (D_at DX11_law_q1 4 rfl) (D_at DX11_law_q1 5 rfl) (D_at DX11_law_q1 6 rfl) (D_at DX11_law_q1 7 rfl) (D_at DX11_law_q1 8 rfl) th_X11_0 (i := 1) rfl rfl (k := 0) rfl (by exact Nat.le_of_ble_eq_true rfl) (by decide) (by decide) ⟨rfl, rfl⟩
theorem C_X11_law {G : jG} {l : Launch} (hst : l.stackTraces = false) (d : Nat) {n : Nat} {a0 : Nat} {h : jH} {res : (jR × jH)} (hf : F_X11_law n a0 h = some res) : jC G l mX11_law (d + 26) 1 6 [.ref a0] h (jPX res) :=
  jC.of pn_X11 (jcats rfl) (Nat.le_of_ble_eq_true rfl) (fun X K E => J_X11_law hst K n E a0 h hf)
set_option maxHeartbeats 400000 in
set_option maxRecDepth 100000 in
theorem J_X11_fault {G : jG} {l : Launch} {d : Nat} {X : jX} {res : Int32} (K : jOK G l mX11_fault (d) X) (n : Nat) (h : jH) (E : jEnd G mX11_fault (jPR h res) X) (a0 : Nat) (hf : F_X11_fault n a0 h = some res) : jJ G X h 0 0 0 [some (.ref a0)] [] := by
  unfold F_X11_fault at hf
  refine jr_aload_n K (D_at DX11_fault_q0 0 rfl) rfl rfl ?_
  obtain ⟨v1, e1, hf⟩ := jbind hf
  refine jr_getI K (D_at DX11_fault_q0 1 rfl) fg_X11_77_9 e1 ?_
  cases hf
  exact jr_iret K E (D_at DX11_fault_q0 2 rfl) rfl ⟨rfl, rfl⟩
theorem C_X11_fault {G : jG} {l : Launch} (d : Nat) {n : Nat} {a0 : Nat} {h : jH} {res : Int32} (hf : F_X11_fault n a0 h = some res) : jC G l mX11_fault (d) 0 0 [.ref a0] h (jPR h res) :=
  jC.of pn_X11 (jcats rfl) (Nat.le_of_ble_eq_true rfl) (fun X K E => J_X11_fault K n h E a0 hf)
set_option maxHeartbeats 400000 in
set_option maxRecDepth 100000 in
theorem J_X11_requireRing {G : jG} {l : Launch} (hst : l.stackTraces = false) {d : Nat} {X : jX} {res : (jR × jH)} (K : jOK G l mX11_requireRing (d + 6) X) (n : Nat) (E : jEnd G mX11_requireRing (jPX res) X) (a0 : Nat) (x1 : Int32) (h : jH) (hf : F_X11_requireRing n a0 x1 h = some res) : jJ G X h 1 6 0 [some (.ref a0), some (.int x1)] [] := by
  unfold F_X11_requireRing at hf
  refine jr_iload_n K (D_at DX11_requireRing_q0 0 rfl) rfl rfl ?_
  refine jr_if_lt K (D_at DX11_requireRing_q0 1 rfl) (tgt := 15) (by decide) (fun c1 => ?_) (fun c1 => ?_)
  · replace hf := (if_pos c1).symm.trans hf
    cases hf
    exact jr_throwW (dep := d + 0) hst K E (D_at DX11_requireRing_q0 7 rfl) (D_at DX11_requireRing_q0 8 rfl) (D_at DX11_requireRing_q0 9 rfl) (D_at DX11_requireRing_q0 10 rfl) (D_at DX11_requireRing_q0 11 rfl) th_X11_2 (i := 3) rfl rfl (k := 2) rfl (by exact Nat.le_of_ble_eq_true rfl) (by decide) (by decide) ⟨rfl, rfl⟩
  · replace hf := (if_neg c1).symm.trans hf
    refine jr_iload_n K (D_at DX11_requireRing_q0 2 rfl) rfl rfl ?_
    refine jr_aload_n K (D_at DX11_requireRing_q0 3 rfl) rfl rfl ?_
    obtain ⟨p6, e6, hf⟩ := jbind hf
    refine jr_getR K (D_at DX11_requireRing_q0 4 rfl) fg_X11_19_9 e6 ?_
    obtain ⟨v9, e9, hf⟩ := jbind hf
    refine jr_getI K (D_at DX11_requireRing_q0 5 rfl) fg_X11_210_6 e9 ?_
    refine jr_icmp_lt K (D_at DX11_requireRing_q0 6 rfl) (tgt := 26) (by decide) (fun c12 => ?_) (fun c12 => ?_)
    · replace hf := (if_pos c12).symm.trans hf
      cases hf
      exact jr_vret K E (D_at DX11_requireRing_q1 0 rfl) rfl ⟨rfl, rfl⟩
    · replace hf := (if_neg c12).symm.trans hf
      cases hf
      exact jr_throwW (dep := d + 0) hst K E (D_at DX11_requireRing_q0 7 rfl) (D_at DX11_requireRing_q0 8 rfl) (D_at DX11_requireRing_q0 9 rfl) (D_at DX11_requireRing_q0 10 rfl) (D_at DX11_requireRing_q0 11 rfl) th_X11_2 (i := 3) rfl rfl (k := 2) rfl (by exact Nat.le_of_ble_eq_true rfl) (by decide) (by decide) ⟨rfl, rfl⟩
theorem C_X11_requireRing {G : jG} {l : Launch} (hst : l.stackTraces = false) (d : Nat) {n : Nat} {a0 : Nat} {x1 : Int32} {h : jH} {res : (jR × jH)} (hf : F_X11_requireRing n a0 x1 h = some res) : jC G l mX11_requireRing (d + 6) 1 6 [.ref a0, .int x1] h (jPX res) :=
  jC.of pn_X11 (jcats rfl) (Nat.le_of_ble_eq_true rfl) (fun X K E => J_X11_requireRing hst K n E a0 x1 h hf)
set_option maxHeartbeats 400000 in
set_option maxRecDepth 100000 in
theorem J_X11_ring {G : jG} {l : Launch} (hst : l.stackTraces = false) {d : Nat} {X : jX} {res : (jR × jH)} (K : jOK G l mX11_ring (d + 7) X) (n : Nat) (E : jEnd G mX11_ring (jPX res) X) (a0 : Nat) (x1 : Int32) (x2 : Int32) (h : jH) (hf : F_X11_ring n a0 x1 x2 h = some res) : jJ G X h 2 12 0 [some (.ref a0), some (.int x1), some (.int x2)] [] := by
  unfold F_X11_ring at hf
  refine jr_aload_n K (D_at DX11_ring_q0 0 rfl) rfl rfl ?_
  refine jr_iload_n K (D_at DX11_ring_q0 1 rfl) rfl rfl ?_
  obtain ⟨q2, e2, hf⟩ := jbind hf
  obtain ⟨rc_2, e2⟩ := jcv_o e2
  refine jr_callVx K (C_X11_requireRing hst (d) e2) (D_at DX11_ring_q0 2 rfl) cv_X11_128_X11_requireRing (As := [.int x1])  (ci := 9) rfl rc_2 rfl rfl (by exact Nat.le_of_ble_eq_true rfl) (kc2 := 1) (ks2 := 6) rfl rfl (fun k9 z9 h9 w9 hz9 => ?_) (fun r9 h9 w9 => ?_)
  · obtain ⟨w1, rfl⟩ := w9
    have hf := (jthen_r w1.symm).symm.trans hf
    cases hf
    exact jr_out K E rfl hz9 ⟨rfl, rfl⟩
  obtain ⟨w1, rfl⟩ := w9
  obtain ⟨r2, w2⟩ : ∃ z, z = r9 := ⟨_, rfl⟩
  subst w2
  replace hf := (jthen_l w1.symm).symm.trans hf
  obtain ⟨h2, w3⟩ : ∃ z, z = q2.2 := ⟨_, rfl⟩
  rw [← w3] at hf ⊢
  show jJ G X h2 1 6 _ _ []
  refine jr_iload_n K (D_at DX11_ring_q0 3 rfl) rfl rfl ?_
  by_cases c6_0 : x2 = (0 : Int32)
  · replace hf := (if_pos c6_0).symm.trans hf
    refine jr_tableIn K (D_at DX11_ring_q1 0 rfl) (off := 70) (tgt := 76) (by rw [c6_0]; decide) (by rw [c6_0]; decide) (by rw [c6_0]; decide) (by decide) ?_
    refine jr_aload_n K (D_at DX11_ring_q2 0 rfl) rfl rfl ?_
    obtain ⟨p77, e77, hf⟩ := jbind hf
    refine jr_getR K (D_at DX11_ring_q2 1 rfl) fg_X11_19_9 e77 ?_
    obtain ⟨p80, e80, hf⟩ := jbind hf
    refine jr_getR K (D_at DX11_ring_q2 2 rfl) fg_X11_131_6 e80 ?_
    refine jr_iload_n K (D_at DX11_ring_q2 3 rfl) rfl rfl ?_
    obtain ⟨v84, e84, hf⟩ := jbind hf
    refine jr_iald K (D_at DX11_ring_q2 4 rfl) e84 ?_
    cases hf
    exact jr_iret K E (D_at DX11_ring_q2 5 rfl) rfl ⟨rfl, rfl⟩
  replace hf := (if_neg c6_0).symm.trans hf
  by_cases c6_1 : x2 = (1 : Int32)
  · replace hf := (if_pos c6_1).symm.trans hf
    refine jr_tableIn K (D_at DX11_ring_q1 0 rfl) (off := 80) (tgt := 86) (by rw [c6_1]; decide) (by rw [c6_1]; decide) (by rw [c6_1]; decide) (by decide) ?_
    refine jr_aload_n K (D_at DX11_ring_q2 6 rfl) rfl rfl ?_
    obtain ⟨p87, e87, hf⟩ := jbind hf
    refine jr_getR K (D_at DX11_ring_q2 7 rfl) fg_X11_19_9 e87 ?_
    obtain ⟨p90, e90, hf⟩ := jbind hf
    refine jr_getR K (D_at DX11_ring_q2 8 rfl) fg_X11_135_6 e90 ?_
    refine jr_iload_n K (D_at DX11_ring_q2 9 rfl) rfl rfl ?_
    obtain ⟨v94, e94, hf⟩ := jbind hf
    refine jr_iald K (D_at DX11_ring_q2 10 rfl) e94 ?_
    cases hf
    exact jr_iret K E (D_at DX11_ring_q2 11 rfl) rfl ⟨rfl, rfl⟩
  replace hf := (if_neg c6_1).symm.trans hf
  by_cases c6_2 : x2 = (2 : Int32)
  · replace hf := (if_pos c6_2).symm.trans hf
    refine jr_tableIn K (D_at DX11_ring_q1 0 rfl) (off := 90) (tgt := 96) (by rw [c6_2]; decide) (by rw [c6_2]; decide) (by rw [c6_2]; decide) (by decide) ?_
    refine jr_aload_n K (D_at DX11_ring_q3 0 rfl) rfl rfl ?_
    obtain ⟨p97, e97, hf⟩ := jbind hf
    refine jr_getR K (D_at DX11_ring_q3 1 rfl) fg_X11_19_9 e97 ?_
    obtain ⟨v100, e100, hf⟩ := jbind hf
    refine jr_getI K (D_at DX11_ring_q3 2 rfl) fg_X11_138_6 e100 ?_
    refine jr_iload_n K (D_at DX11_ring_q3 3 rfl) rfl rfl ?_
    obtain ⟨v104, e104, hf⟩ := jbind hf
    refine jr_callS K (C_X11_bit (d + 6) e104) (D_at DX11_ring_q3 4 rfl) cs_X11_141_X11_bit (As := [.int v100, .int x1]) rfl rfl (by exact Nat.le_of_ble_eq_true rfl) (kc2 := 1) (ks2 := 6) rfl rfl (fun k9 h9 w9 => by cases w9.1) (fun r9 h9 w9 => ?_)
    obtain ⟨w1, w2⟩ := w9
    subst h9
    cases w1
    show jJ G X _ 1 6 _ _ (.int v104 :: _)
    cases hf
    exact jr_iret K E (D_at DX11_ring_q3 5 rfl) rfl ⟨rfl, rfl⟩
  replace hf := (if_neg c6_2).symm.trans hf
  by_cases c6_3 : x2 = (3 : Int32)
  · replace hf := (if_pos c6_3).symm.trans hf
    refine jr_tableIn K (D_at DX11_ring_q1 0 rfl) (off := 102) (tgt := 108) (by rw [c6_3]; decide) (by rw [c6_3]; decide) (by rw [c6_3]; decide) (by decide) ?_
    refine jr_aload_n K (D_at DX11_ring_q3 6 rfl) rfl rfl ?_
    obtain ⟨p109, e109, hf⟩ := jbind hf
    refine jr_getR K (D_at DX11_ring_q3 7 rfl) fg_X11_19_9 e109 ?_
    obtain ⟨v112, e112, hf⟩ := jbind hf
    refine jr_getI K (D_at DX11_ring_q3 8 rfl) fg_X11_145_6 e112 ?_
    refine jr_iload_n K (D_at DX11_ring_q3 9 rfl) rfl rfl ?_
    obtain ⟨v116, e116, hf⟩ := jbind hf
    refine jr_callS K (C_X11_bit (d + 6) e116) (D_at DX11_ring_q3 10 rfl) cs_X11_141_X11_bit (As := [.int v112, .int x1]) rfl rfl (by exact Nat.le_of_ble_eq_true rfl) (kc2 := 1) (ks2 := 6) rfl rfl (fun k9 h9 w9 => by cases w9.1) (fun r9 h9 w9 => ?_)
    obtain ⟨w1, w2⟩ := w9
    subst h9
    cases w1
    show jJ G X _ 1 6 _ _ (.int v116 :: _)
    cases hf
    exact jr_iret K E (D_at DX11_ring_q3 11 rfl) rfl ⟨rfl, rfl⟩
  replace hf := (if_neg c6_3).symm.trans hf
  by_cases c6_4 : x2 = (4 : Int32)
  · replace hf := (if_pos c6_4).symm.trans hf
    refine jr_tableIn K (D_at DX11_ring_q1 0 rfl) (off := 114) (tgt := 120) (by rw [c6_4]; decide) (by rw [c6_4]; decide) (by rw [c6_4]; decide) (by decide) ?_
    refine jr_aload_n K (D_at DX11_ring_q4 0 rfl) rfl rfl ?_
    obtain ⟨p121, e121, hf⟩ := jbind hf
    refine jr_getR K (D_at DX11_ring_q4 1 rfl) fg_X11_19_9 e121 ?_
    obtain ⟨p124, e124, hf⟩ := jbind hf
    refine jr_getR K (D_at DX11_ring_q4 2 rfl) fg_X11_148_6 e124 ?_
    refine jr_iload_n K (D_at DX11_ring_q4 3 rfl) rfl rfl ?_
    obtain ⟨v128, e128, hf⟩ := jbind hf
    refine jr_iald K (D_at DX11_ring_q4 4 rfl) e128 ?_
    cases hf
    exact jr_iret K E (D_at DX11_ring_q4 5 rfl) rfl ⟨rfl, rfl⟩
  replace hf := (if_neg c6_4).symm.trans hf
  by_cases c6_5 : x2 = (5 : Int32)
  · replace hf := (if_pos c6_5).symm.trans hf
    refine jr_tableIn K (D_at DX11_ring_q1 0 rfl) (off := 124) (tgt := 130) (by rw [c6_5]; decide) (by rw [c6_5]; decide) (by rw [c6_5]; decide) (by decide) ?_
    refine jr_aload_n K (D_at DX11_ring_q4 6 rfl) rfl rfl ?_
    obtain ⟨p131, e131, hf⟩ := jbind hf
    refine jr_getR K (D_at DX11_ring_q4 7 rfl) fg_X11_19_9 e131 ?_
    obtain ⟨p134, e134, hf⟩ := jbind hf
    refine jr_getR K (D_at DX11_ring_q4 8 rfl) fg_X11_151_6 e134 ?_
    refine jr_iload_n K (D_at DX11_ring_q4 9 rfl) rfl rfl ?_
    obtain ⟨v138, e138, hf⟩ := jbind hf
    refine jr_iald K (D_at DX11_ring_q4 10 rfl) e138 ?_
    cases hf
    exact jr_iret K E (D_at DX11_ring_q4 11 rfl) rfl ⟨rfl, rfl⟩
  replace hf := (if_neg c6_5).symm.trans hf
  by_cases c6_6 : x2 = (6 : Int32)
  · replace hf := (if_pos c6_6).symm.trans hf
    refine jr_tableIn K (D_at DX11_ring_q1 0 rfl) (off := 134) (tgt := 140) (by rw [c6_6]; decide) (by rw [c6_6]; decide) (by rw [c6_6]; decide) (by decide) ?_
    refine jr_aload_n K (D_at DX11_ring_q5 0 rfl) rfl rfl ?_
    obtain ⟨p141, e141, hf⟩ := jbind hf
    refine jr_getR K (D_at DX11_ring_q5 1 rfl) fg_X11_19_9 e141 ?_
    obtain ⟨v144, e144, hf⟩ := jbind hf
    refine jr_getI K (D_at DX11_ring_q5 2 rfl) fg_X11_153_6 e144 ?_
    refine jr_iload_n K (D_at DX11_ring_q5 3 rfl) rfl rfl ?_
    obtain ⟨v148, e148, hf⟩ := jbind hf
    refine jr_callS K (C_X11_bit (d + 6) e148) (D_at DX11_ring_q5 4 rfl) cs_X11_141_X11_bit (As := [.int v144, .int x1]) rfl rfl (by exact Nat.le_of_ble_eq_true rfl) (kc2 := 1) (ks2 := 6) rfl rfl (fun k9 h9 w9 => by cases w9.1) (fun r9 h9 w9 => ?_)
    obtain ⟨w1, w2⟩ := w9
    subst h9
    cases w1
    show jJ G X _ 1 6 _ _ (.int v148 :: _)
    cases hf
    exact jr_iret K E (D_at DX11_ring_q5 5 rfl) rfl ⟨rfl, rfl⟩
  replace hf := (if_neg c6_6).symm.trans hf
  by_cases c6_7 : x2 = (7 : Int32)
  · replace hf := (if_pos c6_7).symm.trans hf
    refine jr_tableIn K (D_at DX11_ring_q1 0 rfl) (off := 146) (tgt := 152) (by rw [c6_7]; decide) (by rw [c6_7]; decide) (by rw [c6_7]; decide) (by decide) ?_
    refine jr_aload_n K (D_at DX11_ring_q5 6 rfl) rfl rfl ?_
    obtain ⟨p153, e153, hf⟩ := jbind hf
    refine jr_getR K (D_at DX11_ring_q5 7 rfl) fg_X11_19_9 e153 ?_
    obtain ⟨v156, e156, hf⟩ := jbind hf
    refine jr_getI K (D_at DX11_ring_q5 8 rfl) fg_X11_156_6 e156 ?_
    refine jr_iload_n K (D_at DX11_ring_q5 9 rfl) rfl rfl ?_
    obtain ⟨v160, e160, hf⟩ := jbind hf
    refine jr_callS K (C_X11_bit (d + 6) e160) (D_at DX11_ring_q5 10 rfl) cs_X11_141_X11_bit (As := [.int v156, .int x1]) rfl rfl (by exact Nat.le_of_ble_eq_true rfl) (kc2 := 1) (ks2 := 6) rfl rfl (fun k9 h9 w9 => by cases w9.1) (fun r9 h9 w9 => ?_)
    obtain ⟨w1, w2⟩ := w9
    subst h9
    cases w1
    show jJ G X _ 1 6 _ _ (.int v160 :: _)
    cases hf
    exact jr_iret K E (D_at DX11_ring_q5 11 rfl) rfl ⟨rfl, rfl⟩
  replace hf := (if_neg c6_7).symm.trans hf
  by_cases c6_8 : x2 = (8 : Int32)
  · replace hf := (if_pos c6_8).symm.trans hf
    refine jr_tableIn K (D_at DX11_ring_q1 0 rfl) (off := 158) (tgt := 164) (by rw [c6_8]; decide) (by rw [c6_8]; decide) (by rw [c6_8]; decide) (by decide) ?_
    refine jr_aload_n K (D_at DX11_ring_q6 0 rfl) rfl rfl ?_
    obtain ⟨p165, e165, hf⟩ := jbind hf
    refine jr_getR K (D_at DX11_ring_q6 1 rfl) fg_X11_19_9 e165 ?_
    refine jr_iload_n K (D_at DX11_ring_q6 2 rfl) rfl rfl ?_
    refine jr_iconst K (D_at DX11_ring_q6 3 rfl) (v := (-1 : Int32)) (by decide) ?_
    obtain ⟨v170, e170, hf⟩ := jbind hf
    obtain ⟨rc_170, e170⟩ := jcv_o e170
    refine jr_callV K (C_X8_gap (d + 6) e170) (D_at DX11_ring_q6 4 rfl) cv_X11_159_X8_gap (As := [.int x1, .int (-1 : Int32)]) (ci := 6) rfl rc_170 rfl rfl (by exact Nat.le_of_ble_eq_true rfl) (kc2 := 1) (ks2 := 6) rfl rfl (fun k9 h9 w9 => by cases w9.1) (fun r9 h9 w9 => ?_)
    obtain ⟨w1, w2⟩ := w9
    subst h9
    cases w1
    show jJ G X _ 1 6 _ _ (.int v170 :: _)
    cases hf
    exact jr_iret K E (D_at DX11_ring_q6 5 rfl) rfl ⟨rfl, rfl⟩
  replace hf := (if_neg c6_8).symm.trans hf
  by_cases c6_9 : x2 = (9 : Int32)
  · replace hf := (if_pos c6_9).symm.trans hf
    refine jr_tableIn K (D_at DX11_ring_q1 0 rfl) (off := 168) (tgt := 174) (by rw [c6_9]; decide) (by rw [c6_9]; decide) (by rw [c6_9]; decide) (by decide) ?_
    refine jr_aload_n K (D_at DX11_ring_q6 6 rfl) rfl rfl ?_
    obtain ⟨p175, e175, hf⟩ := jbind hf
    refine jr_getR K (D_at DX11_ring_q6 7 rfl) fg_X11_26_9 e175 ?_
    refine jr_iconst K (D_at DX11_ring_q6 8 rfl) (v := (0 : Int32)) (by decide) ?_
    refine jr_aload_n K (D_at DX11_ring_q6 9 rfl) rfl rfl ?_
    obtain ⟨p180, e180, hf⟩ := jbind hf
    refine jr_getR K (D_at DX11_ring_q6 10 rfl) fg_X11_19_9 e180 ?_
    refine jr_iload_n K (D_at DX11_ring_1_q0 0 rfl) rfl rfl ?_
    obtain ⟨q184, e184, hf⟩ := jbind hf
    obtain ⟨rc_184, e184⟩ := jcv_o e184
    refine jr_callV K (C_X2_amount (d + 3) e184) (D_at DX11_ring_1_q0 1 rfl) cv_X11_162_X2_amount (As := [.int (0 : Int32), .ref p180, .int x1]) (ci := 2) rfl rc_184 rfl rfl (by exact Nat.le_of_ble_eq_true rfl) (kc2 := 1) (ks2 := 6) rfl rfl (fun k9 h9 w9 => by cases w9.1) (fun r9 h9 w9 => ?_)
    obtain ⟨w1, w2⟩ := w9
    subst h9
    cases w1
    show jJ G X _ 1 6 _ _ (.int q184.1 :: _)
    cases hf
    exact jr_iret K E (D_at DX11_ring_1_q0 2 rfl) rfl ⟨rfl, rfl⟩
  replace hf := (if_neg c6_9).symm.trans hf
  by_cases c6_10 : x2 = (10 : Int32)
  · replace hf := (if_pos c6_10).symm.trans hf
    refine jr_tableIn K (D_at DX11_ring_q1 0 rfl) (off := 182) (tgt := 188) (by rw [c6_10]; decide) (by rw [c6_10]; decide) (by rw [c6_10]; decide) (by decide) ?_
    refine jr_aload_n K (D_at DX11_ring_1_q0 3 rfl) rfl rfl ?_
    obtain ⟨p189, e189, hf⟩ := jbind hf
    refine jr_getR K (D_at DX11_ring_1_q0 4 rfl) fg_X11_26_9 e189 ?_
    refine jr_iconst K (D_at DX11_ring_1_q0 5 rfl) (v := (1 : Int32)) (by decide) ?_
    refine jr_aload_n K (D_at DX11_ring_1_q0 6 rfl) rfl rfl ?_
    obtain ⟨p194, e194, hf⟩ := jbind hf
    refine jr_getR K (D_at DX11_ring_1_q0 7 rfl) fg_X11_19_9 e194 ?_
    refine jr_iload_n K (D_at DX11_ring_1_q0 8 rfl) rfl rfl ?_
    obtain ⟨q198, e198, hf⟩ := jbind hf
    obtain ⟨rc_198, e198⟩ := jcv_o e198
    refine jr_callV K (C_X2_amount (d + 3) e198) (D_at DX11_ring_1_q0 9 rfl) cv_X11_162_X2_amount (As := [.int (1 : Int32), .ref p194, .int x1]) (ci := 2) rfl rc_198 rfl rfl (by exact Nat.le_of_ble_eq_true rfl) (kc2 := 1) (ks2 := 6) rfl rfl (fun k9 h9 w9 => by cases w9.1) (fun r9 h9 w9 => ?_)
    obtain ⟨w1, w2⟩ := w9
    subst h9
    cases w1
    show jJ G X _ 1 6 _ _ (.int q198.1 :: _)
    cases hf
    exact jr_iret K E (D_at DX11_ring_1_q0 10 rfl) rfl ⟨rfl, rfl⟩
  replace hf := (if_neg c6_10).symm.trans hf
  by_cases c6_11 : x2 = (11 : Int32)
  · replace hf := (if_pos c6_11).symm.trans hf
    refine jr_tableIn K (D_at DX11_ring_q1 0 rfl) (off := 196) (tgt := 202) (by rw [c6_11]; decide) (by rw [c6_11]; decide) (by rw [c6_11]; decide) (by decide) ?_
    refine jr_aload_n K (D_at DX11_ring_1_q0 11 rfl) rfl rfl ?_
    obtain ⟨p203, e203, hf⟩ := jbind hf
    refine jr_getR K (D_at DX11_ring_1_q1 0 rfl) fg_X11_26_9 e203 ?_
    refine jr_iconst K (D_at DX11_ring_1_q1 1 rfl) (v := (2 : Int32)) (by decide) ?_
    refine jr_aload_n K (D_at DX11_ring_1_q1 2 rfl) rfl rfl ?_
    obtain ⟨p208, e208, hf⟩ := jbind hf
    refine jr_getR K (D_at DX11_ring_1_q1 3 rfl) fg_X11_19_9 e208 ?_
    refine jr_iload_n K (D_at DX11_ring_1_q1 4 rfl) rfl rfl ?_
    obtain ⟨q212, e212, hf⟩ := jbind hf
    obtain ⟨rc_212, e212⟩ := jcv_o e212
    refine jr_callV K (C_X2_amount (d + 3) e212) (D_at DX11_ring_1_q1 5 rfl) cv_X11_162_X2_amount (As := [.int (2 : Int32), .ref p208, .int x1]) (ci := 2) rfl rc_212 rfl rfl (by exact Nat.le_of_ble_eq_true rfl) (kc2 := 1) (ks2 := 6) rfl rfl (fun k9 h9 w9 => by cases w9.1) (fun r9 h9 w9 => ?_)
    obtain ⟨w1, w2⟩ := w9
    subst h9
    cases w1
    show jJ G X _ 1 6 _ _ (.int q212.1 :: _)
    cases hf
    exact jr_iret K E (D_at DX11_ring_1_q1 6 rfl) rfl ⟨rfl, rfl⟩
  replace hf := (if_neg c6_11).symm.trans hf
  by_cases c6_12 : x2 = (12 : Int32)
  · replace hf := (if_pos c6_12).symm.trans hf
    refine jr_tableIn K (D_at DX11_ring_q1 0 rfl) (off := 210) (tgt := 216) (by rw [c6_12]; decide) (by rw [c6_12]; decide) (by rw [c6_12]; decide) (by decide) ?_
    refine jr_aload_n K (D_at DX11_ring_1_q1 7 rfl) rfl rfl ?_
    obtain ⟨p217, e217, hf⟩ := jbind hf
    refine jr_getR K (D_at DX11_ring_1_q1 8 rfl) fg_X11_19_9 e217 ?_
    refine jr_iload_n K (D_at DX11_ring_1_q1 9 rfl) rfl rfl ?_
    obtain ⟨v221, e221, hf⟩ := jbind hf
    refine jr_callS K (C_X6_hangsBy (d + 5) e221) (D_at DX11_ring_1_q1 10 rfl) cs_X11_166_X6_hangsBy (As := [.ref p217, .int x1]) rfl rfl (by exact Nat.le_of_ble_eq_true rfl) (kc2 := 1) (ks2 := 6) rfl rfl (fun k9 h9 w9 => by cases w9.1) (fun r9 h9 w9 => ?_)
    obtain ⟨w1, w2⟩ := w9
    subst h9
    cases w1
    show jJ G X _ 1 6 _ _ (.int v221 :: _)
    cases hf
    exact jr_iret K E (D_at DX11_ring_1_q1 11 rfl) rfl ⟨rfl, rfl⟩
  replace hf := (if_neg c6_12).symm.trans hf
  by_cases c6_13 : x2 = (13 : Int32)
  · replace hf := (if_pos c6_13).symm.trans hf
    refine jr_tableIn K (D_at DX11_ring_q1 0 rfl) (off := 219) (tgt := 225) (by rw [c6_13]; decide) (by rw [c6_13]; decide) (by rw [c6_13]; decide) (by decide) ?_
    refine jr_aload_n K (D_at DX11_ring_1_q2 0 rfl) rfl rfl ?_
    obtain ⟨p226, e226, hf⟩ := jbind hf
    refine jr_getR K (D_at DX11_ring_1_q2 1 rfl) fg_X11_19_9 e226 ?_
    refine jr_iload_n K (D_at DX11_ring_1_q2 2 rfl) rfl rfl ?_
    obtain ⟨v230, e230, hf⟩ := jbind hf
    refine jr_callS K (C_X6_share (d + 5) e230) (D_at DX11_ring_1_q2 3 rfl) cs_X11_172_X6_share (As := [.ref p226, .int x1]) rfl rfl (by exact Nat.le_of_ble_eq_true rfl) (kc2 := 1) (ks2 := 6) rfl rfl (fun k9 h9 w9 => by cases w9.1) (fun r9 h9 w9 => ?_)
    obtain ⟨w1, w2⟩ := w9
    subst h9
    cases w1
    show jJ G X _ 1 6 _ _ (.int v230 :: _)
    cases hf
    exact jr_iret K E (D_at DX11_ring_1_q2 4 rfl) rfl ⟨rfl, rfl⟩
  replace hf := (if_neg c6_13).symm.trans hf
  have w6_0 := lv_neT c6_0 (a := 0) (by decide)
  have w6_1 := lv_neT c6_1 (a := 1) (by decide)
  have w6_2 := lv_neT c6_2 (a := 2) (by decide)
  have w6_3 := lv_neT c6_3 (a := 3) (by decide)
  have w6_4 := lv_neT c6_4 (a := 4) (by decide)
  have w6_5 := lv_neT c6_5 (a := 5) (by decide)
  have w6_6 := lv_neT c6_6 (a := 6) (by decide)
  have w6_7 := lv_neT c6_7 (a := 7) (by decide)
  have w6_8 := lv_neT c6_8 (a := 8) (by decide)
  have w6_9 := lv_neT c6_9 (a := 9) (by decide)
  have w6_10 := lv_neT c6_10 (a := 10) (by decide)
  have w6_11 := lv_neT c6_11 (a := 11) (by decide)
  have w6_12 := lv_neT c6_12 (a := 12) (by decide)
  have w6_13 := lv_neT c6_13 (a := 13) (by decide)
  refine jr_tableOut K (D_at DX11_ring_q1 0 rfl) (tgt := 234) (by omega) (by decide) ?_
  cases hf
  exact jr_throwN (dep := d + 1) hst K E (D_at DX11_ring_1_q2 5 rfl) (D_at DX11_ring_1_q2 6 rfl) (D_at DX11_ring_1_q2 7 rfl) (D_at DX11_ring_1_q2 8 rfl) (D_at DX11_ring_1_q2 9 rfl) th_X11_4 (i := 4) rfl rfl (k := 4) rfl (by exact Nat.le_of_ble_eq_true rfl) (by decide) (by decide) ⟨rfl, rfl⟩
theorem C_X11_ring {G : jG} {l : Launch} (hst : l.stackTraces = false) (d : Nat) {n : Nat} {a0 : Nat} {x1 : Int32} {x2 : Int32} {h : jH} {res : (jR × jH)} (hf : F_X11_ring n a0 x1 x2 h = some res) : jC G l mX11_ring (d + 7) 2 12 [.ref a0, .int x1, .int x2] h (jPX res) :=
  jC.of pn_X11 (jcats rfl) (Nat.le_of_ble_eq_true rfl) (fun X K E => J_X11_ring hst K n E a0 x1 x2 h hf)
set_option maxHeartbeats 400000 in
set_option maxRecDepth 100000 in
theorem J_X11_requireNumber {G : jG} {l : Launch} (hst : l.stackTraces = false) {d : Nat} {X : jX} {res : (jR × jH)} (K : jOK G l mX11_requireNumber (d + 6) X) (n : Nat) (E : jEnd G mX11_requireNumber (jPX res) X) (a0 : Nat) (x1 : Int32) (x2 : Int32) (x3 : Int32) (h : jH) (hf : F_X11_requireNumber n a0 x1 x2 x3 h = some res) : jJ G X h 1 6 0 [some (.ref a0), some (.int x1), some (.int x2), some (.int x3)] [] := by
  unfold F_X11_requireNumber at hf
  refine jr_iload_n K (D_at DX11_requireNumber_q0 0 rfl) rfl rfl ?_
  refine jr_iload_n K (D_at DX11_requireNumber_q0 1 rfl) rfl rfl ?_
  refine jr_icmp_lt K (D_at DX11_requireNumber_q0 2 rfl) (tgt := 10) (by decide) (fun c2 => ?_) (fun c2 => ?_)
  · replace hf := (if_pos c2).symm.trans hf
    cases hf
    exact jr_throwW (dep := d + 0) hst K E (D_at DX11_requireNumber_q0 6 rfl) (D_at DX11_requireNumber_q0 7 rfl) (D_at DX11_requireNumber_q0 8 rfl) (D_at DX11_requireNumber_q0 9 rfl) (D_at DX11_requireNumber_q0 10 rfl) th_X11_0 (i := 5) rfl rfl (k := 0) rfl (by exact Nat.le_of_ble_eq_true rfl) (by decide) (by decide) ⟨rfl, rfl⟩
  · replace hf := (if_neg c2).symm.trans hf
    refine jr_iload_n K (D_at DX11_requireNumber_q0 3 rfl) rfl rfl ?_
    refine jr_iload_n K (D_at DX11_requireNumber_q0 4 rfl) rfl rfl ?_
    refine jr_icmp_le K (D_at DX11_requireNumber_q0 5 rfl) (tgt := 21) (by decide) (fun c7 => ?_) (fun c7 => ?_)
    · replace hf := (if_pos c7).symm.trans hf
      cases hf
      exact jr_vret K E (D_at DX11_requireNumber_q0 11 rfl) rfl ⟨rfl, rfl⟩
    · replace hf := (if_neg c7).symm.trans hf
      cases hf
      exact jr_throwW (dep := d + 0) hst K E (D_at DX11_requireNumber_q0 6 rfl) (D_at DX11_requireNumber_q0 7 rfl) (D_at DX11_requireNumber_q0 8 rfl) (D_at DX11_requireNumber_q0 9 rfl) (D_at DX11_requireNumber_q0 10 rfl) th_X11_0 (i := 5) rfl rfl (k := 0) rfl (by exact Nat.le_of_ble_eq_true rfl) (by decide) (by decide) ⟨rfl, rfl⟩
theorem C_X11_requireNumber {G : jG} {l : Launch} (hst : l.stackTraces = false) (d : Nat) {n : Nat} {a0 : Nat} {x1 : Int32} {x2 : Int32} {x3 : Int32} {h : jH} {res : (jR × jH)} (hf : F_X11_requireNumber n a0 x1 x2 x3 h = some res) : jC G l mX11_requireNumber (d + 6) 1 6 [.ref a0, .int x1, .int x2, .int x3] h (jPX res) :=
  jC.of pn_X11 (jcats rfl) (Nat.le_of_ble_eq_true rfl) (fun X K E => J_X11_requireNumber hst K n E a0 x1 x2 x3 h hf)
set_option maxHeartbeats 400000 in
set_option maxRecDepth 100000 in
theorem J_X11_pull {G : jG} {l : Launch} (hst : l.stackTraces = false) {d : Nat} {X : jX} {res : (jR × jH)} (K : jOK G l mX11_pull (d + 7) X) (n : Nat) (E : jEnd G mX11_pull (jPX res) X) (a0 : Nat) (x1 : Int32) (x2 : Int32) (x3 : Int32) (h : jH) (hf : F_X11_pull n a0 x1 x2 x3 h = some res) : jJ G X h 9 125 0 [some (.ref a0), some (.int x1), some (.int x2), some (.int x3), none] [] := by
  unfold F_X11_pull at hf
  refine jr_aload_n K (D_at DX11_pull_q0 0 rfl) rfl rfl ?_
  refine jr_iload_n K (D_at DX11_pull_q0 1 rfl) rfl rfl ?_
  obtain ⟨q2, e2, hf⟩ := jbind hf
  obtain ⟨rc_2, e2⟩ := jcv_o e2
  refine jr_callVx K (C_X11_requireRing hst (d) e2) (D_at DX11_pull_q0 2 rfl) cv_X11_128_X11_requireRing (As := [.int x1])  (ci := 9) rfl rc_2 rfl rfl (by exact Nat.le_of_ble_eq_true rfl) (kc2 := 8) (ks2 := 119) rfl rfl (fun k9 z9 h9 w9 hz9 => ?_) (fun r9 h9 w9 => ?_)
  · obtain ⟨w1, rfl⟩ := w9
    have hf := (jthen_r w1.symm).symm.trans hf
    cases hf
    exact jr_out K E rfl hz9 ⟨rfl, rfl⟩
  obtain ⟨w1, rfl⟩ := w9
  obtain ⟨r2, w2⟩ : ∃ z, z = r9 := ⟨_, rfl⟩
  subst w2
  replace hf := (jthen_l w1.symm).symm.trans hf
  obtain ⟨h2, w3⟩ : ∃ z, z = q2.2 := ⟨_, rfl⟩
  rw [← w3] at hf ⊢
  show jJ G X h2 8 119 _ _ []
  refine jr_aload_n K (D_at DX11_pull_q0 3 rfl) rfl rfl ?_
  refine jr_iload_n K (D_at DX11_pull_q0 4 rfl) rfl rfl ?_
  refine jr_iconst K (D_at DX11_pull_q0 5 rfl) (v := (1 : Int32)) (by decide) ?_
  refine jr_bipush K (D_at DX11_pull_q0 6 rfl) (v := (31 : Int32)) (by decide) ?_
  obtain ⟨q10, e10, hf⟩ := jbind hf
  obtain ⟨rc_10, e10⟩ := jcv_o e10
  refine jr_callVx K (C_X11_requireNumber hst (d) e10) (D_at DX11_pull_q0 7 rfl) cv_X11_180_X11_requireNumber (As := [.int x3, .int (1 : Int32), .int (31 : Int32)])  (ci := 9) rfl rc_10 rfl rfl (by exact Nat.le_of_ble_eq_true rfl) (kc2 := 7) (ks2 := 113) rfl rfl (fun k9 z9 h9 w9 hz9 => ?_) (fun r9 h9 w9 => ?_)
  · obtain ⟨w1, rfl⟩ := w9
    have hf := (jthen_r w1.symm).symm.trans hf
    cases hf
    exact jr_out K E rfl hz9 ⟨rfl, rfl⟩
  obtain ⟨w1, rfl⟩ := w9
  obtain ⟨r10, w2⟩ : ∃ z, z = r9 := ⟨_, rfl⟩
  subst w2
  replace hf := (jthen_l w1.symm).symm.trans hf
  obtain ⟨h10, w3⟩ : ∃ z, z = q10.2 := ⟨_, rfl⟩
  rw [← w3] at hf ⊢
  show jJ G X h10 7 113 _ _ []
  refine jr_aload_n K (D_at DX11_pull_q0 8 rfl) rfl rfl ?_
  obtain ⟨p14, e14, hf⟩ := jbind hf
  refine jr_getR K (D_at DX11_pull_q0 9 rfl) fg_X11_33_9 e14 ?_
  refine jr_aload_n K (D_at DX11_pull_q0 10 rfl) rfl rfl ?_
  obtain ⟨p18, e18, hf⟩ := jbind hf
  refine jr_getR K (D_at DX11_pull_q0 11 rfl) fg_X11_19_9 e18 ?_
  obtain ⟨h21, e21, hf⟩ := jbind hf
  obtain ⟨rc_21, e21⟩ := jcv_o e21
  refine jr_callV K (C_X0_remember (d + 3) e21) (D_at DX11_pull_q1 0 rfl) cv_X11_184_X0_remember (As := [.ref p18]) (ci := 0) rfl rc_21 rfl rfl (by exact Nat.le_of_ble_eq_true rfl) (kc2 := 0) (ks2 := 0) rfl rfl (fun k9 h9 w9 => by cases w9.1) (fun r9 h9 w9 => ?_)
  obtain ⟨w1, w2⟩ := w9
  subst h9
  cases w1
  show jJ G X _ 0 0 _ _ []
  refine jr_aload_n K (D_at DX11_pull_q1 1 rfl) rfl rfl ?_
  obtain ⟨p25, e25, hf⟩ := jbind hf
  refine jr_getR K (D_at DX11_pull_q1 2 rfl) fg_X11_19_9 e25 ?_
  refine jr_iload_n K (D_at DX11_pull_q1 3 rfl) rfl rfl ?_
  refine jr_iload_n K (D_at DX11_pull_q1 4 rfl) rfl rfl ?_
  refine jr_iload_n K (D_at DX11_pull_q1 5 rfl) rfl rfl ?_
  obtain ⟨q31, e31, hf⟩ := jbind hf
  obtain ⟨rc_31, e31⟩ := jcv_o e31
  refine jr_callV K (C_X8_move (d + 4) e31) (D_at DX11_pull_q1 6 rfl) cv_X11_187_X8_move (As := [.int x1, .int x2, .int x3]) (ci := 6) rfl rc_31 rfl rfl (by exact Nat.le_of_ble_eq_true rfl) (kc2 := 0) (ks2 := 0) rfl rfl (fun k9 h9 w9 => by cases w9.1) (fun r9 h9 w9 => ?_)
  obtain ⟨w1, w2⟩ := w9
  subst h9
  cases w1
  show jJ G X _ 0 0 _ _ (.int q31.1 :: _)
  refine jr_istore K (D_at DX11_pull_q1 7 rfl) (i := 4) (by decide) (L2 := [_, _, _, _, _]) rfl ?_
  refine jr_aload_n K (D_at DX11_pull_q1 8 rfl) rfl rfl ?_
  obtain ⟨p37, e37, hf⟩ := jbind hf
  refine jr_getR K (D_at DX11_pull_q1 9 rfl) fg_X11_19_9 e37 ?_
  obtain ⟨p40, e40, hf⟩ := jbind hf
  refine jr_getR K (D_at DX11_pull_q1 10 rfl) fg_X11_191_6 e40 ?_
  refine jr_aload_n K (D_at DX11_pull_q1 11 rfl) rfl rfl ?_
  obtain ⟨p44, e44, hf⟩ := jbind hf
  refine jr_getR K (D_at DX11_pull_q2 0 rfl) fg_X11_19_9 e44 ?_
  refine jr_iload_n K (D_at DX11_pull_q2 1 rfl) rfl rfl ?_
  refine jr_iconst K (D_at DX11_pull_q2 2 rfl) (v := (0 : Int32)) (by decide) ?_
  refine jr_iload K (D_at DX11_pull_q2 3 rfl) rfl ?_
  obtain ⟨h51, e51, hf⟩ := jbind hf
  obtain ⟨rc_51, e51⟩ := jcv_o e51
  refine jr_callV K (C_X5_add (d + 5) e51) (D_at DX11_pull_q2 4 rfl) cv_X11_195_X5_add (As := [.ref p44, .int x1, .int (0 : Int32), .int q31.1]) (ci := 4) rfl rc_51 rfl rfl (by exact Nat.le_of_ble_eq_true rfl) (kc2 := 0) (ks2 := 0) rfl rfl (fun k9 h9 w9 => by cases w9.1) (fun r9 h9 w9 => ?_)
  obtain ⟨w1, w2⟩ := w9
  subst h9
  cases w1
  show jJ G X _ 0 0 _ _ []
  refine jr_iload K (D_at DX11_pull_q2 5 rfl) rfl ?_
  cases hf
  exact jr_iret K E (D_at DX11_pull_q2 6 rfl) rfl ⟨rfl, rfl⟩
theorem C_X11_pull {G : jG} {l : Launch} (hst : l.stackTraces = false) (d : Nat) {n : Nat} {a0 : Nat} {x1 : Int32} {x2 : Int32} {x3 : Int32} {h : jH} {res : (jR × jH)} (hf : F_X11_pull n a0 x1 x2 x3 h = some res) : jC G l mX11_pull (d + 7) 9 125 [.ref a0, .int x1, .int x2, .int x3] h (jPX res) :=
  jC.of pn_X11 (jcats rfl) (Nat.le_of_ble_eq_true rfl) (fun X K E => J_X11_pull hst K n E a0 x1 x2 x3 h hf)
set_option maxHeartbeats 400000 in
set_option maxRecDepth 100000 in
theorem J_X11_free {G : jG} {l : Launch} (hst : l.stackTraces = false) {d : Nat} {X : jX} {res : (jR × jH)} (K : jOK G l mX11_free (d + 7) X) (n : Nat) (E : jEnd G mX11_free (jPX res) X) (a0 : Nat) (x1 : Int32) (h : jH) (hf : F_X11_free n a0 x1 h = some res) : jJ G X h 8 119 0 [some (.ref a0), some (.int x1)] [] := by
  unfold F_X11_free at hf
  refine jr_aload_n K (D_at DX11_free_q0 0 rfl) rfl rfl ?_
  refine jr_iload_n K (D_at DX11_free_q0 1 rfl) rfl rfl ?_
  obtain ⟨q2, e2, hf⟩ := jbind hf
  obtain ⟨rc_2, e2⟩ := jcv_o e2
  refine jr_callVx K (C_X11_requireRing hst (d) e2) (D_at DX11_free_q0 2 rfl) cv_X11_128_X11_requireRing (As := [.int x1])  (ci := 9) rfl rc_2 rfl rfl (by exact Nat.le_of_ble_eq_true rfl) (kc2 := 7) (ks2 := 113) rfl rfl (fun k9 z9 h9 w9 hz9 => ?_) (fun r9 h9 w9 => ?_)
  · obtain ⟨w1, rfl⟩ := w9
    have hf := (jthen_r w1.symm).symm.trans hf
    cases hf
    exact jr_out K E rfl hz9 ⟨rfl, rfl⟩
  obtain ⟨w1, rfl⟩ := w9
  obtain ⟨r2, w2⟩ : ∃ z, z = r9 := ⟨_, rfl⟩
  subst w2
  replace hf := (jthen_l w1.symm).symm.trans hf
  obtain ⟨h2, w3⟩ : ∃ z, z = q2.2 := ⟨_, rfl⟩
  rw [← w3] at hf ⊢
  show jJ G X h2 7 113 _ _ []
  refine jr_aload_n K (D_at DX11_free_q0 3 rfl) rfl rfl ?_
  obtain ⟨p6, e6, hf⟩ := jbind hf
  refine jr_getR K (D_at DX11_free_q0 4 rfl) fg_X11_19_9 e6 ?_
  obtain ⟨v9, e9, hf⟩ := jbind hf
  refine jr_getI K (D_at DX11_free_q0 5 rfl) fg_X11_156_6 e9 ?_
  refine jr_iload_n K (D_at DX11_free_q0 6 rfl) rfl rfl ?_
  obtain ⟨v13, e13, hf⟩ := jbind hf
  refine jr_callS K (C_X11_bit (d + 6) e13) (D_at DX11_free_q0 7 rfl) cs_X11_141_X11_bit (As := [.int v9, .int x1]) rfl rfl (by exact Nat.le_of_ble_eq_true rfl) (kc2 := 7) (ks2 := 113) rfl rfl (fun k9 h9 w9 => by cases w9.1) (fun r9 h9 w9 => ?_)
  obtain ⟨w1, w2⟩ := w9
  subst h9
  cases w1
  show jJ G X _ 7 113 _ _ (.int v13 :: _)
  refine jr_if_ne K (D_at DX11_free_q0 8 rfl) (tgt := 29) (by decide) (fun c16 => ?_) (fun c16 => ?_)
  · replace hf := (if_neg c16).symm.trans hf
    refine jr_aload_n K (D_at DX11_free_q1 2 rfl) rfl rfl ?_
    obtain ⟨p30, e30, hf⟩ := jbind hf
    refine jr_getR K (D_at DX11_free_q1 3 rfl) fg_X11_33_9 e30 ?_
    refine jr_aload_n K (D_at DX11_free_q1 4 rfl) rfl rfl ?_
    obtain ⟨p34, e34, hf⟩ := jbind hf
    refine jr_getR K (D_at DX11_free_q1 5 rfl) fg_X11_19_9 e34 ?_
    obtain ⟨h37, e37, hf⟩ := jbind hf
    obtain ⟨rc_37, e37⟩ := jcv_o e37
    refine jr_callV K (C_X0_remember (d + 3) e37) (D_at DX11_free_q1 6 rfl) cv_X11_184_X0_remember (As := [.ref p34]) (ci := 0) rfl rc_37 rfl rfl (by exact Nat.le_of_ble_eq_true rfl) (kc2 := 0) (ks2 := 0) rfl rfl (fun k9 h9 w9 => by cases w9.1) (fun r9 h9 w9 => ?_)
    obtain ⟨w1, w2⟩ := w9
    subst h9
    cases w1
    show jJ G X _ 0 0 _ _ []
    refine jr_aload_n K (D_at DX11_free_q1 7 rfl) rfl rfl ?_
    obtain ⟨p41, e41, hf⟩ := jbind hf
    refine jr_getR K (D_at DX11_free_q1 8 rfl) fg_X11_19_9 e41 ?_
    refine jr_aload_n K (D_at DX11_free_q1 9 rfl) rfl rfl ?_
    obtain ⟨p45, e45, hf⟩ := jbind hf
    refine jr_getR K (D_at DX11_free_q1 10 rfl) fg_X11_19_9 e45 ?_
    obtain ⟨v48, e48, hf⟩ := jbind hf
    refine jr_getI K (D_at DX11_free_q1 11 rfl) fg_X11_156_6 e48 ?_
    refine jr_iload_n K (D_at DX11_free_q2 0 rfl) rfl rfl ?_
    refine jr_iconst K (D_at DX11_free_q2 1 rfl) (v := (0 : Int32)) (by decide) ?_
    obtain ⟨v53, e53, hf⟩ := jbind hf
    refine jr_callS K (C_X11_withBit (d + 6) e53) (D_at DX11_free_q2 2 rfl) cs_X11_206_X11_withBit (As := [.int v48, .int x1, .int (0 : Int32)]) rfl rfl (by exact Nat.le_of_ble_eq_true rfl) (kc2 := 0) (ks2 := 0) rfl rfl (fun k9 h9 w9 => by cases w9.1) (fun r9 h9 w9 => ?_)
    obtain ⟨w1, w2⟩ := w9
    subst h9
    cases w1
    show jJ G X _ 0 0 _ _ (.int v53 :: _)
    obtain ⟨h56, e56, hf⟩ := jbind hf
    refine jr_putI K (D_at DX11_free_q2 3 rfl) fp_X11_156_6 (Or.inl rfl) e56 ?_
    refine jr_aload_n K (D_at DX11_free_q2 4 rfl) rfl rfl ?_
    obtain ⟨p60, e60, hf⟩ := jbind hf
    refine jr_getR K (D_at DX11_free_q2 5 rfl) fg_X11_19_9 e60 ?_
    refine jr_iload_n K (D_at DX11_free_q2 6 rfl) rfl rfl ?_
    refine jr_iconst K (D_at DX11_free_q2 7 rfl) (v := (-1 : Int32)) (by decide) ?_
    obtain ⟨v65, e65, hf⟩ := jbind hf
    obtain ⟨rc_65, e65⟩ := jcv_o e65
    refine jr_callV K (C_X8_gap (d + 6) e65) (D_at DX11_free_q2 8 rfl) cv_X11_159_X8_gap (As := [.int x1, .int (-1 : Int32)]) (ci := 6) rfl rc_65 rfl rfl (by exact Nat.le_of_ble_eq_true rfl) (kc2 := 0) (ks2 := 0) rfl rfl (fun k9 h9 w9 => by cases w9.1) (fun r9 h9 w9 => ?_)
    obtain ⟨w1, w2⟩ := w9
    subst h9
    cases w1
    show jJ G X _ 0 0 _ _ (.int v65 :: _)
    cases hf
    exact jr_iret K E (D_at DX11_free_q2 9 rfl) rfl ⟨rfl, rfl⟩
  · replace hf := (if_pos c16).symm.trans hf
    cases hf
    exact jr_throw (dep := d + 1) hst K E (D_at DX11_free_q0 9 rfl) (D_at DX11_free_q0 10 rfl) (D_at DX11_free_q0 11 rfl) (D_at DX11_free_q1 0 rfl) (D_at DX11_free_q1 1 rfl) th_X11_1 (i := 6) rfl rfl (k := 1) rfl (by exact Nat.le_of_ble_eq_true rfl) (by decide) (by decide) ⟨rfl, rfl⟩
theorem C_X11_free {G : jG} {l : Launch} (hst : l.stackTraces = false) (d : Nat) {n : Nat} {a0 : Nat} {x1 : Int32} {h : jH} {res : (jR × jH)} (hf : F_X11_free n a0 x1 h = some res) : jC G l mX11_free (d + 7) 8 119 [.ref a0, .int x1] h (jPX res) :=
  jC.of pn_X11 (jcats rfl) (Nat.le_of_ble_eq_true rfl) (fun X K E => J_X11_free hst K n E a0 x1 h hf)
set_option maxHeartbeats 400000 in
set_option maxRecDepth 100000 in
theorem J_X11_snag {G : jG} {l : Launch} (hst : l.stackTraces = false) {d : Nat} {X : jX} {res : (jR × jH)} (K : jOK G l mX11_snag (d + 7) X) (n : Nat) (E : jEnd G mX11_snag (jPX res) X) (a0 : Nat) (x1 : Int32) (h : jH) (hf : F_X11_snag n a0 x1 h = some res) : jJ G X h 8 119 0 [some (.ref a0), some (.int x1)] [] := by
  unfold F_X11_snag at hf
  refine jr_aload_n K (D_at DX11_snag_q0 0 rfl) rfl rfl ?_
  refine jr_iload_n K (D_at DX11_snag_q0 1 rfl) rfl rfl ?_
  obtain ⟨q2, e2, hf⟩ := jbind hf
  obtain ⟨rc_2, e2⟩ := jcv_o e2
  refine jr_callVx K (C_X11_requireRing hst (d) e2) (D_at DX11_snag_q0 2 rfl) cv_X11_128_X11_requireRing (As := [.int x1])  (ci := 9) rfl rc_2 rfl rfl (by exact Nat.le_of_ble_eq_true rfl) (kc2 := 7) (ks2 := 113) rfl rfl (fun k9 z9 h9 w9 hz9 => ?_) (fun r9 h9 w9 => ?_)
  · obtain ⟨w1, rfl⟩ := w9
    have hf := (jthen_r w1.symm).symm.trans hf
    cases hf
    exact jr_out K E rfl hz9 ⟨rfl, rfl⟩
  obtain ⟨w1, rfl⟩ := w9
  obtain ⟨r2, w2⟩ : ∃ z, z = r9 := ⟨_, rfl⟩
  subst w2
  replace hf := (jthen_l w1.symm).symm.trans hf
  obtain ⟨h2, w3⟩ : ∃ z, z = q2.2 := ⟨_, rfl⟩
  rw [← w3] at hf ⊢
  show jJ G X h2 7 113 _ _ []
  refine jr_iload_n K (D_at DX11_snag_q0 3 rfl) rfl rfl ?_
  refine jr_aload_n K (D_at DX11_snag_q0 4 rfl) rfl rfl ?_
  obtain ⟨p7, e7, hf⟩ := jbind hf
  refine jr_getR K (D_at DX11_snag_q0 5 rfl) fg_X11_19_9 e7 ?_
  obtain ⟨v10, e10, hf⟩ := jbind hf
  refine jr_getI K (D_at DX11_snag_q0 6 rfl) fg_X11_210_6 e10 ?_
  refine jr_iconst K (D_at DX11_snag_q0 7 rfl) (v := (1 : Int32)) (by decide) ?_
  refine jr_isub K (D_at DX11_snag_q0 8 rfl) ?_
  refine jr_icmp_eq K (D_at DX11_snag_q0 9 rfl) (tgt := 33) (by decide) (fun c15 => ?_) (fun c15 => ?_)
  · replace hf := (if_pos c15).symm.trans hf
    cases hf
    exact jr_throw (dep := d + 1) hst K E (D_at DX11_snag_q1 5 rfl) (D_at DX11_snag_q1 6 rfl) (D_at DX11_snag_q1 7 rfl) (D_at DX11_snag_q1 8 rfl) (D_at DX11_snag_q1 9 rfl) th_X11_1 (i := 7) rfl rfl (k := 1) rfl (by exact Nat.le_of_ble_eq_true rfl) (by decide) (by decide) ⟨rfl, rfl⟩
  · replace hf := (if_neg c15).symm.trans hf
    refine jr_aload_n K (D_at DX11_snag_q0 10 rfl) rfl rfl ?_
    obtain ⟨p19, e19, hf⟩ := jbind hf
    refine jr_getR K (D_at DX11_snag_q0 11 rfl) fg_X11_19_9 e19 ?_
    obtain ⟨v22, e22, hf⟩ := jbind hf
    refine jr_getI K (D_at DX11_snag_q1 0 rfl) fg_X11_156_6 e22 ?_
    refine jr_iload_n K (D_at DX11_snag_q1 1 rfl) rfl rfl ?_
    obtain ⟨v26, e26, hf⟩ := jbind hf
    refine jr_callS K (C_X11_bit (d + 6) e26) (D_at DX11_snag_q1 2 rfl) cs_X11_141_X11_bit (As := [.int v22, .int x1]) rfl rfl (by exact Nat.le_of_ble_eq_true rfl) (kc2 := 7) (ks2 := 113) rfl rfl (fun k9 h9 w9 => by cases w9.1) (fun r9 h9 w9 => ?_)
    obtain ⟨w1, w2⟩ := w9
    subst h9
    cases w1
    show jJ G X _ 7 113 _ _ (.int v26 :: _)
    refine jr_iconst K (D_at DX11_snag_q1 3 rfl) (v := (1 : Int32)) (by decide) ?_
    refine jr_icmp_ne K (D_at DX11_snag_q1 4 rfl) (tgt := 43) (by decide) (fun c30 => ?_) (fun c30 => ?_)
    · replace hf := (if_neg c30).symm.trans hf
      refine jr_aload_n K (D_at DX11_snag_q1 10 rfl) rfl rfl ?_
      obtain ⟨p44, e44, hf⟩ := jbind hf
      refine jr_getR K (D_at DX11_snag_q1 11 rfl) fg_X11_33_9 e44 ?_
      refine jr_aload_n K (D_at DX11_snag_q2 0 rfl) rfl rfl ?_
      obtain ⟨p48, e48, hf⟩ := jbind hf
      refine jr_getR K (D_at DX11_snag_q2 1 rfl) fg_X11_19_9 e48 ?_
      obtain ⟨h51, e51, hf⟩ := jbind hf
      obtain ⟨rc_51, e51⟩ := jcv_o e51
      refine jr_callV K (C_X0_remember (d + 3) e51) (D_at DX11_snag_q2 2 rfl) cv_X11_184_X0_remember (As := [.ref p48]) (ci := 0) rfl rc_51 rfl rfl (by exact Nat.le_of_ble_eq_true rfl) (kc2 := 0) (ks2 := 0) rfl rfl (fun k9 h9 w9 => by cases w9.1) (fun r9 h9 w9 => ?_)
      obtain ⟨w1, w2⟩ := w9
      subst h9
      cases w1
      show jJ G X _ 0 0 _ _ []
      refine jr_aload_n K (D_at DX11_snag_q2 3 rfl) rfl rfl ?_
      obtain ⟨p55, e55, hf⟩ := jbind hf
      refine jr_getR K (D_at DX11_snag_q2 4 rfl) fg_X11_19_9 e55 ?_
      refine jr_aload_n K (D_at DX11_snag_q2 5 rfl) rfl rfl ?_
      obtain ⟨p59, e59, hf⟩ := jbind hf
      refine jr_getR K (D_at DX11_snag_q2 6 rfl) fg_X11_19_9 e59 ?_
      obtain ⟨v62, e62, hf⟩ := jbind hf
      refine jr_getI K (D_at DX11_snag_q2 7 rfl) fg_X11_156_6 e62 ?_
      refine jr_iload_n K (D_at DX11_snag_q2 8 rfl) rfl rfl ?_
      refine jr_iconst K (D_at DX11_snag_q2 9 rfl) (v := (1 : Int32)) (by decide) ?_
      obtain ⟨v67, e67, hf⟩ := jbind hf
      refine jr_callS K (C_X11_withBit (d + 6) e67) (D_at DX11_snag_q2 10 rfl) cs_X11_206_X11_withBit (As := [.int v62, .int x1, .int (1 : Int32)]) rfl rfl (by exact Nat.le_of_ble_eq_true rfl) (kc2 := 0) (ks2 := 0) rfl rfl (fun k9 h9 w9 => by cases w9.1) (fun r9 h9 w9 => ?_)
      obtain ⟨w1, w2⟩ := w9
      subst h9
      cases w1
      show jJ G X _ 0 0 _ _ (.int v67 :: _)
      obtain ⟨h70, e70, hf⟩ := jbind hf
      refine jr_putI K (D_at DX11_snag_q2 11 rfl) fp_X11_156_6 (Or.inl rfl) e70 ?_
      refine jr_aload_n K (D_at DX11_snag_q3 0 rfl) rfl rfl ?_
      obtain ⟨p74, e74, hf⟩ := jbind hf
      refine jr_getR K (D_at DX11_snag_q3 1 rfl) fg_X11_19_9 e74 ?_
      refine jr_iload_n K (D_at DX11_snag_q3 2 rfl) rfl rfl ?_
      refine jr_iconst K (D_at DX11_snag_q3 3 rfl) (v := (-1 : Int32)) (by decide) ?_
      obtain ⟨v79, e79, hf⟩ := jbind hf
      obtain ⟨rc_79, e79⟩ := jcv_o e79
      refine jr_callV K (C_X8_gap (d + 6) e79) (D_at DX11_snag_q3 4 rfl) cv_X11_159_X8_gap (As := [.int x1, .int (-1 : Int32)]) (ci := 6) rfl rc_79 rfl rfl (by exact Nat.le_of_ble_eq_true rfl) (kc2 := 0) (ks2 := 0) rfl rfl (fun k9 h9 w9 => by cases w9.1) (fun r9 h9 w9 => ?_)
      obtain ⟨w1, w2⟩ := w9
      subst h9
      cases w1
      show jJ G X _ 0 0 _ _ (.int v79 :: _)
      cases hf
      exact jr_iret K E (D_at DX11_snag_q3 5 rfl) rfl ⟨rfl, rfl⟩
    · replace hf := (if_pos c30).symm.trans hf
      cases hf
      exact jr_throw (dep := d + 1) hst K E (D_at DX11_snag_q1 5 rfl) (D_at DX11_snag_q1 6 rfl) (D_at DX11_snag_q1 7 rfl) (D_at DX11_snag_q1 8 rfl) (D_at DX11_snag_q1 9 rfl) th_X11_1 (i := 7) rfl rfl (k := 1) rfl (by exact Nat.le_of_ble_eq_true rfl) (by decide) (by decide) ⟨rfl, rfl⟩
theorem C_X11_snag {G : jG} {l : Launch} (hst : l.stackTraces = false) (d : Nat) {n : Nat} {a0 : Nat} {x1 : Int32} {h : jH} {res : (jR × jH)} (hf : F_X11_snag n a0 x1 h = some res) : jC G l mX11_snag (d + 7) 8 119 [.ref a0, .int x1] h (jPX res) :=
  jC.of pn_X11 (jcats rfl) (Nat.le_of_ble_eq_true rfl) (fun X K E => J_X11_snag hst K n E a0 x1 h hf)
set_option maxHeartbeats 400000 in
set_option maxRecDepth 100000 in
theorem J_X11_hook {G : jG} {l : Launch} (hst : l.stackTraces = false) {d : Nat} {X : jX} {res : (jR × jH)} (K : jOK G l mX11_hook (d + 7) X) (n : Nat) (E : jEnd G mX11_hook (jPX res) X) (a0 : Nat) (x1 : Int32) (x2 : Int32) (h : jH) (hf : F_X11_hook n a0 x1 x2 h = some res) : jJ G X h 8 119 0 [some (.ref a0), some (.int x1), some (.int x2), none] [] := by
  unfold F_X11_hook at hf
  refine jr_aload_n K (D_at DX11_hook_q0 0 rfl) rfl rfl ?_
  refine jr_iload_n K (D_at DX11_hook_q0 1 rfl) rfl rfl ?_
  obtain ⟨q2, e2, hf⟩ := jbind hf
  obtain ⟨rc_2, e2⟩ := jcv_o e2
  refine jr_callVx K (C_X11_requireRing hst (d) e2) (D_at DX11_hook_q0 2 rfl) cv_X11_128_X11_requireRing (As := [.int x1])  (ci := 9) rfl rc_2 rfl rfl (by exact Nat.le_of_ble_eq_true rfl) (kc2 := 7) (ks2 := 113) rfl rfl (fun k9 z9 h9 w9 hz9 => ?_) (fun r9 h9 w9 => ?_)
  · obtain ⟨w1, rfl⟩ := w9
    have hf := (jthen_r w1.symm).symm.trans hf
    cases hf
    exact jr_out K E rfl hz9 ⟨rfl, rfl⟩
  obtain ⟨w1, rfl⟩ := w9
  obtain ⟨r2, w2⟩ : ∃ z, z = r9 := ⟨_, rfl⟩
  subst w2
  replace hf := (jthen_l w1.symm).symm.trans hf
  obtain ⟨h2, w3⟩ : ∃ z, z = q2.2 := ⟨_, rfl⟩
  rw [← w3] at hf ⊢
  show jJ G X h2 7 113 _ _ []
  refine jr_aload_n K (D_at DX11_hook_q0 3 rfl) rfl rfl ?_
  obtain ⟨p6, e6, hf⟩ := jbind hf
  refine jr_getR K (D_at DX11_hook_q0 4 rfl) fg_X11_33_9 e6 ?_
  refine jr_aload_n K (D_at DX11_hook_q0 5 rfl) rfl rfl ?_
  obtain ⟨p10, e10, hf⟩ := jbind hf
  refine jr_getR K (D_at DX11_hook_q0 6 rfl) fg_X11_19_9 e10 ?_
  obtain ⟨h13, e13, hf⟩ := jbind hf
  obtain ⟨rc_13, e13⟩ := jcv_o e13
  refine jr_callV K (C_X0_remember (d + 3) e13) (D_at DX11_hook_q0 7 rfl) cv_X11_184_X0_remember (As := [.ref p10]) (ci := 0) rfl rc_13 rfl rfl (by exact Nat.le_of_ble_eq_true rfl) (kc2 := 0) (ks2 := 0) rfl rfl (fun k9 h9 w9 => by cases w9.1) (fun r9 h9 w9 => ?_)
  obtain ⟨w1, w2⟩ := w9
  subst h9
  cases w1
  show jJ G X _ 0 0 _ _ []
  refine jr_aload_n K (D_at DX11_hook_q0 8 rfl) rfl rfl ?_
  obtain ⟨p17, e17, hf⟩ := jbind hf
  refine jr_getR K (D_at DX11_hook_q0 9 rfl) fg_X11_19_9 e17 ?_
  obtain ⟨v20, e20, hf⟩ := jbind hf
  refine jr_getI K (D_at DX11_hook_q0 10 rfl) fg_X11_153_6 e20 ?_
  refine jr_istore_n K (D_at DX11_hook_q0 11 rfl) (i := 3) rfl (by decide) (L2 := [_, _, _, _]) rfl ?_
  refine jr_aload_n K (D_at DX11_hook_q1 0 rfl) rfl rfl ?_
  obtain ⟨p25, e25, hf⟩ := jbind hf
  refine jr_getR K (D_at DX11_hook_q1 1 rfl) fg_X11_19_9 e25 ?_
  refine jr_iload_n K (D_at DX11_hook_q1 2 rfl) rfl rfl ?_
  refine jr_iload_n K (D_at DX11_hook_q1 3 rfl) rfl rfl ?_
  refine jr_iload_n K (D_at DX11_hook_q1 4 rfl) rfl rfl ?_
  obtain ⟨v31, e31, hf⟩ := jbind hf
  refine jr_callS K (C_X11_withBit (d + 6) e31) (D_at DX11_hook_q1 5 rfl) cs_X11_206_X11_withBit (As := [.int v20, .int x1, .int x2]) rfl rfl (by exact Nat.le_of_ble_eq_true rfl) (kc2 := 0) (ks2 := 0) rfl rfl (fun k9 h9 w9 => by cases w9.1) (fun r9 h9 w9 => ?_)
  obtain ⟨w1, w2⟩ := w9
  subst h9
  cases w1
  show jJ G X _ 0 0 _ _ (.int v31 :: _)
  obtain ⟨h34, e34, hf⟩ := jbind hf
  refine jr_putI K (D_at DX11_hook_q1 6 rfl) fp_X11_153_6 (Or.inl rfl) e34 ?_
  refine jr_aload_n K (D_at DX11_hook_q1 7 rfl) rfl rfl ?_
  obtain ⟨p38, e38, hf⟩ := jbind hf
  refine jr_getR K (D_at DX11_hook_q1 8 rfl) fg_X11_19_9 e38 ?_
  obtain ⟨v41, e41, hf⟩ := jbind hf
  refine jr_getI K (D_at DX11_hook_q1 9 rfl) fg_X11_153_6 e41 ?_
  refine jr_iload_n K (D_at DX11_hook_q1 10 rfl) rfl rfl ?_
  refine jr_icmp_eq K (D_at DX11_hook_q1 11 rfl) (tgt := 52) (by decide) (fun c45 => ?_) (fun c45 => ?_)
  · replace hf := (if_pos c45).symm.trans hf
    refine jr_iconst K (D_at DX11_hook_q2 2 rfl) (v := (0 : Int32)) (by decide) ?_
    cases hf
    exact jr_zret K E (D_at DX11_hook_q2 3 rfl) rfl (Or.inl rfl) ⟨rfl, rfl⟩
  · replace hf := (if_neg c45).symm.trans hf
    refine jr_iconst K (D_at DX11_hook_q2 0 rfl) (v := (1 : Int32)) (by decide) ?_
    refine jr_goto K (D_at DX11_hook_q2 1 rfl) (tgt := 53) (by decide) ?_
    cases hf
    exact jr_zret K E (D_at DX11_hook_q2 3 rfl) rfl (Or.inr rfl) ⟨rfl, rfl⟩
theorem C_X11_hook {G : jG} {l : Launch} (hst : l.stackTraces = false) (d : Nat) {n : Nat} {a0 : Nat} {x1 : Int32} {x2 : Int32} {h : jH} {res : (jR × jH)} (hf : F_X11_hook n a0 x1 x2 h = some res) : jC G l mX11_hook (d + 7) 8 119 [.ref a0, .int x1, .int x2] h (jPX res) :=
  jC.of pn_X11 (jcats rfl) (Nat.le_of_ble_eq_true rfl) (fun X K E => J_X11_hook hst K n E a0 x1 x2 h hf)
set_option maxHeartbeats 400000 in
set_option maxRecDepth 100000 in
theorem J_X11_requirePlace {G : jG} {l : Launch} (hst : l.stackTraces = false) {d : Nat} {X : jX} {res : (jR × jH)} (K : jOK G l mX11_requirePlace (d + 6) X) (n : Nat) (E : jEnd G mX11_requirePlace (jPX res) X) (a0 : Nat) (x1 : Int32) (h : jH) (hf : F_X11_requirePlace n a0 x1 h = some res) : jJ G X h 1 6 0 [some (.ref a0), some (.int x1)] [] := by
  unfold F_X11_requirePlace at hf
  refine jr_iload_n K (D_at DX11_requirePlace_q0 0 rfl) rfl rfl ?_
  refine jr_if_lt K (D_at DX11_requirePlace_q0 1 rfl) (tgt := 10) (by decide) (fun c1 => ?_) (fun c1 => ?_)
  · replace hf := (if_pos c1).symm.trans hf
    cases hf
    exact jr_throwW (dep := d + 0) hst K E (D_at DX11_requirePlace_q0 5 rfl) (D_at DX11_requirePlace_q0 6 rfl) (D_at DX11_requirePlace_q0 7 rfl) (D_at DX11_requirePlace_q0 8 rfl) (D_at DX11_requirePlace_q0 9 rfl) th_X11_2 (i := 8) rfl rfl (k := 2) rfl (by exact Nat.le_of_ble_eq_true rfl) (by decide) (by decide) ⟨rfl, rfl⟩
  · replace hf := (if_neg c1).symm.trans hf
    refine jr_iload_n K (D_at DX11_requirePlace_q0 2 rfl) rfl rfl ?_
    refine jr_bipush K (D_at DX11_requirePlace_q0 3 rfl) (v := (31 : Int32)) (by decide) ?_
    refine jr_icmp_le K (D_at DX11_requirePlace_q0 4 rfl) (tgt := 21) (by decide) (fun c7 => ?_) (fun c7 => ?_)
    · replace hf := (if_pos c7).symm.trans hf
      cases hf
      exact jr_vret K E (D_at DX11_requirePlace_q0 10 rfl) rfl ⟨rfl, rfl⟩
    · replace hf := (if_neg c7).symm.trans hf
      cases hf
      exact jr_throwW (dep := d + 0) hst K E (D_at DX11_requirePlace_q0 5 rfl) (D_at DX11_requirePlace_q0 6 rfl) (D_at DX11_requirePlace_q0 7 rfl) (D_at DX11_requirePlace_q0 8 rfl) (D_at DX11_requirePlace_q0 9 rfl) th_X11_2 (i := 8) rfl rfl (k := 2) rfl (by exact Nat.le_of_ble_eq_true rfl) (by decide) (by decide) ⟨rfl, rfl⟩
theorem C_X11_requirePlace {G : jG} {l : Launch} (hst : l.stackTraces = false) (d : Nat) {n : Nat} {a0 : Nat} {x1 : Int32} {h : jH} {res : (jR × jH)} (hf : F_X11_requirePlace n a0 x1 h = some res) : jC G l mX11_requirePlace (d + 6) 1 6 [.ref a0, .int x1] h (jPX res) :=
  jC.of pn_X11 (jcats rfl) (Nat.le_of_ble_eq_true rfl) (fun X K E => J_X11_requirePlace hst K n E a0 x1 h hf)
set_option maxHeartbeats 400000 in
set_option maxRecDepth 100000 in
theorem J_X11_sew {G : jG} {l : Launch} (hst : l.stackTraces = false) {d : Nat} {X : jX} {res : (jR × jH)} (K : jOK G l mX11_sew (d + 7) X) (n : Nat) (E : jEnd G mX11_sew (jPX res) X) (a0 : Nat) (x1 : Int32) (x2 : Int32) (h : jH) (hf : F_X11_sew n a0 x1 x2 h = some res) : jJ G X h 9 125 0 [some (.ref a0), some (.int x1), some (.int x2)] [] := by
  unfold F_X11_sew at hf
  refine jr_aload_n K (D_at DX11_sew_q0 0 rfl) rfl rfl ?_
  refine jr_iload_n K (D_at DX11_sew_q0 1 rfl) rfl rfl ?_
  obtain ⟨q2, e2, hf⟩ := jbind hf
  obtain ⟨rc_2, e2⟩ := jcv_o e2
  refine jr_callVx K (C_X11_requirePlace hst (d) e2) (D_at DX11_sew_q0 2 rfl) cv_X11_215_X11_requirePlace (As := [.int x1])  (ci := 9) rfl rc_2 rfl rfl (by exact Nat.le_of_ble_eq_true rfl) (kc2 := 8) (ks2 := 119) rfl rfl (fun k9 z9 h9 w9 hz9 => ?_) (fun r9 h9 w9 => ?_)
  · obtain ⟨w1, rfl⟩ := w9
    have hf := (jthen_r w1.symm).symm.trans hf
    cases hf
    exact jr_out K E rfl hz9 ⟨rfl, rfl⟩
  obtain ⟨w1, rfl⟩ := w9
  obtain ⟨r2, w2⟩ : ∃ z, z = r9 := ⟨_, rfl⟩
  subst w2
  replace hf := (jthen_l w1.symm).symm.trans hf
  obtain ⟨h2, w3⟩ : ∃ z, z = q2.2 := ⟨_, rfl⟩
  rw [← w3] at hf ⊢
  show jJ G X h2 8 119 _ _ []
  refine jr_aload_n K (D_at DX11_sew_q0 3 rfl) rfl rfl ?_
  refine jr_iload_n K (D_at DX11_sew_q0 4 rfl) rfl rfl ?_
  refine jr_iconst K (D_at DX11_sew_q0 5 rfl) (v := (1 : Int32)) (by decide) ?_
  refine jr_bipush K (D_at DX11_sew_q0 6 rfl) (v := (9 : Int32)) (by decide) ?_
  obtain ⟨q10, e10, hf⟩ := jbind hf
  obtain ⟨rc_10, e10⟩ := jcv_o e10
  refine jr_callVx K (C_X11_requireNumber hst (d) e10) (D_at DX11_sew_q0 7 rfl) cv_X11_180_X11_requireNumber (As := [.int x2, .int (1 : Int32), .int (9 : Int32)])  (ci := 9) rfl rc_10 rfl rfl (by exact Nat.le_of_ble_eq_true rfl) (kc2 := 7) (ks2 := 113) rfl rfl (fun k9 z9 h9 w9 hz9 => ?_) (fun r9 h9 w9 => ?_)
  · obtain ⟨w1, rfl⟩ := w9
    have hf := (jthen_r w1.symm).symm.trans hf
    cases hf
    exact jr_out K E rfl hz9 ⟨rfl, rfl⟩
  obtain ⟨w1, rfl⟩ := w9
  obtain ⟨r10, w2⟩ : ∃ z, z = r9 := ⟨_, rfl⟩
  subst w2
  replace hf := (jthen_l w1.symm).symm.trans hf
  obtain ⟨h10, w3⟩ : ∃ z, z = q10.2 := ⟨_, rfl⟩
  rw [← w3] at hf ⊢
  show jJ G X h10 7 113 _ _ []
  refine jr_aload_n K (D_at DX11_sew_q0 8 rfl) rfl rfl ?_
  obtain ⟨p14, e14, hf⟩ := jbind hf
  refine jr_getR K (D_at DX11_sew_q0 9 rfl) fg_X11_19_9 e14 ?_
  obtain ⟨v17, e17, hf⟩ := jbind hf
  refine jr_getI K (D_at DX11_sew_q0 10 rfl) fg_X11_210_6 e17 ?_
  refine jr_bipush K (D_at DX11_sew_q0 11 rfl) (v := (8 : Int32)) (by decide) ?_
  refine jr_icmp_ge K (D_at DX11_sew_q1 0 rfl) (tgt := 47) (by decide) (fun c22 => ?_) (fun c22 => ?_)
  · replace hf := (if_pos c22).symm.trans hf
    cases hf
    exact jr_throw (dep := d + 1) hst K E (D_at DX11_sew_q1 11 rfl) (D_at DX11_sew_q2 0 rfl) (D_at DX11_sew_q2 1 rfl) (D_at DX11_sew_q2 2 rfl) (D_at DX11_sew_q2 3 rfl) th_X11_1 (i := 9) rfl rfl (k := 1) rfl (by exact Nat.le_of_ble_eq_true rfl) (by decide) (by decide) ⟨rfl, rfl⟩
  · replace hf := (if_neg c22).symm.trans hf
    refine jr_iload_n K (D_at DX11_sew_q1 1 rfl) rfl rfl ?_
    refine jr_aload_n K (D_at DX11_sew_q1 2 rfl) rfl rfl ?_
    obtain ⟨p27, e27, hf⟩ := jbind hf
    refine jr_getR K (D_at DX11_sew_q1 3 rfl) fg_X11_19_9 e27 ?_
    obtain ⟨v30, e30, hf⟩ := jbind hf
    obtain ⟨rc_30, e30⟩ := jcv_o e30
    refine jr_callV K (C_X8_nearestNew (d + 6) e30) (D_at DX11_sew_q1 4 rfl) cv_X11_218_X8_nearestNew (As := []) (ci := 6) rfl rc_30 rfl rfl (by exact Nat.le_of_ble_eq_true rfl) (kc2 := 7) (ks2 := 113) rfl rfl (fun k9 h9 w9 => by cases w9.1) (fun r9 h9 w9 => ?_)
    obtain ⟨w1, w2⟩ := w9
    subst h9
    cases w1
    show jJ G X _ 7 113 _ _ (.int v30 :: _)
    refine jr_icmp_lt K (D_at DX11_sew_q1 5 rfl) (tgt := 47) (by decide) (fun c33 => ?_) (fun c33 => ?_)
    · replace hf := (if_pos c33).symm.trans hf
      cases hf
      exact jr_throw (dep := d + 1) hst K E (D_at DX11_sew_q1 11 rfl) (D_at DX11_sew_q2 0 rfl) (D_at DX11_sew_q2 1 rfl) (D_at DX11_sew_q2 2 rfl) (D_at DX11_sew_q2 3 rfl) th_X11_1 (i := 9) rfl rfl (k := 1) rfl (by exact Nat.le_of_ble_eq_true rfl) (by decide) (by decide) ⟨rfl, rfl⟩
    · replace hf := (if_neg c33).symm.trans hf
      refine jr_iload_n K (D_at DX11_sew_q1 6 rfl) rfl rfl ?_
      refine jr_aload_n K (D_at DX11_sew_q1 7 rfl) rfl rfl ?_
      obtain ⟨p38, e38, hf⟩ := jbind hf
      refine jr_getR K (D_at DX11_sew_q1 8 rfl) fg_X11_19_9 e38 ?_
      obtain ⟨v41, e41, hf⟩ := jbind hf
      obtain ⟨rc_41, e41⟩ := jcv_o e41
      refine jr_callV K (C_X8_farthestNew (d + 5) e41) (D_at DX11_sew_q1 9 rfl) cv_X11_221_X8_farthestNew (As := []) (ci := 6) rfl rc_41 rfl rfl (by exact Nat.le_of_ble_eq_true rfl) (kc2 := 7) (ks2 := 113) rfl rfl (fun k9 h9 w9 => by cases w9.1) (fun r9 h9 w9 => ?_)
      obtain ⟨w1, w2⟩ := w9
      subst h9
      cases w1
      show jJ G X _ 7 113 _ _ (.int v41 :: _)
      refine jr_icmp_le K (D_at DX11_sew_q1 10 rfl) (tgt := 57) (by decide) (fun c44 => ?_) (fun c44 => ?_)
      · replace hf := (if_pos c44).symm.trans hf
        refine jr_aload_n K (D_at DX11_sew_q2 4 rfl) rfl rfl ?_
        obtain ⟨p58, e58, hf⟩ := jbind hf
        refine jr_getR K (D_at DX11_sew_q2 5 rfl) fg_X11_33_9 e58 ?_
        refine jr_aload_n K (D_at DX11_sew_q2 6 rfl) rfl rfl ?_
        obtain ⟨p62, e62, hf⟩ := jbind hf
        refine jr_getR K (D_at DX11_sew_q2 7 rfl) fg_X11_19_9 e62 ?_
        obtain ⟨h65, e65, hf⟩ := jbind hf
        obtain ⟨rc_65, e65⟩ := jcv_o e65
        refine jr_callV K (C_X0_remember (d + 3) e65) (D_at DX11_sew_q2 8 rfl) cv_X11_184_X0_remember (As := [.ref p62]) (ci := 0) rfl rc_65 rfl rfl (by exact Nat.le_of_ble_eq_true rfl) (kc2 := 0) (ks2 := 0) rfl rfl (fun k9 h9 w9 => by cases w9.1) (fun r9 h9 w9 => ?_)
        obtain ⟨w1, w2⟩ := w9
        subst h9
        cases w1
        show jJ G X _ 0 0 _ _ []
        refine jr_aload_n K (D_at DX11_sew_q2 9 rfl) rfl rfl ?_
        obtain ⟨p69, e69, hf⟩ := jbind hf
        refine jr_getR K (D_at DX11_sew_q2 10 rfl) fg_X11_19_9 e69 ?_
        refine jr_iload_n K (D_at DX11_sew_q2 11 rfl) rfl rfl ?_
        refine jr_iload_n K (D_at DX11_sew_q3 0 rfl) rfl rfl ?_
        obtain ⟨h74, e74, hf⟩ := jbind hf
        obtain ⟨rc_74, e74⟩ := jcv_o e74
        refine jr_callV K (C_X8_add (d + 5) e74) (D_at DX11_sew_q3 1 rfl) cv_X11_226_X8_add (As := [.int x1, .int x2]) (ci := 6) rfl rc_74 rfl rfl (by exact Nat.le_of_ble_eq_true rfl) (kc2 := 0) (ks2 := 0) rfl rfl (fun k9 h9 w9 => by cases w9.1) (fun r9 h9 w9 => ?_)
        obtain ⟨w1, w2⟩ := w9
        subst h9
        cases w1
        show jJ G X _ 0 0 _ _ []
        refine jr_aload_n K (D_at DX11_sew_q3 2 rfl) rfl rfl ?_
        obtain ⟨p78, e78, hf⟩ := jbind hf
        refine jr_getR K (D_at DX11_sew_q3 3 rfl) fg_X11_19_9 e78 ?_
        obtain ⟨v81, e81, hf⟩ := jbind hf
        refine jr_getI K (D_at DX11_sew_q3 4 rfl) fg_X11_210_6 e81 ?_
        refine jr_iconst K (D_at DX11_sew_q3 5 rfl) (v := (1 : Int32)) (by decide) ?_
        refine jr_isub K (D_at DX11_sew_q3 6 rfl) ?_
        cases hf
        exact jr_iret K E (D_at DX11_sew_q3 7 rfl) rfl ⟨rfl, rfl⟩
      · replace hf := (if_neg c44).symm.trans hf
        cases hf
        exact jr_throw (dep := d + 1) hst K E (D_at DX11_sew_q1 11 rfl) (D_at DX11_sew_q2 0 rfl) (D_at DX11_sew_q2 1 rfl) (D_at DX11_sew_q2 2 rfl) (D_at DX11_sew_q2 3 rfl) th_X11_1 (i := 9) rfl rfl (k := 1) rfl (by exact Nat.le_of_ble_eq_true rfl) (by decide) (by decide) ⟨rfl, rfl⟩
theorem C_X11_sew {G : jG} {l : Launch} (hst : l.stackTraces = false) (d : Nat) {n : Nat} {a0 : Nat} {x1 : Int32} {x2 : Int32} {h : jH} {res : (jR × jH)} (hf : F_X11_sew n a0 x1 x2 h = some res) : jC G l mX11_sew (d + 7) 9 125 [.ref a0, .int x1, .int x2] h (jPX res) :=
  jC.of pn_X11 (jcats rfl) (Nat.le_of_ble_eq_true rfl) (fun X K E => J_X11_sew hst K n E a0 x1 x2 h hf)
set_option maxHeartbeats 400000 in
set_option maxRecDepth 100000 in
theorem J_X11_let {G : jG} {l : Launch} (hst : l.stackTraces = false) {d : Nat} {X : jX} {res : (jR × jH)} (K : jOK G l mX11_let (d + 7) X) (n : Nat) (E : jEnd G mX11_let (jPX res) X) (a0 : Nat) (x1 : Int32) (x2 : Int32) (h : jH) (hf : F_X11_let n a0 x1 x2 h = some res) : jJ G X h 9 125 0 [some (.ref a0), some (.int x1), some (.int x2), none] [] := by
  unfold F_X11_let at hf
  refine jr_aload_n K (D_at DX11_let_q0 0 rfl) rfl rfl ?_
  refine jr_iload_n K (D_at DX11_let_q0 1 rfl) rfl rfl ?_
  obtain ⟨q2, e2, hf⟩ := jbind hf
  obtain ⟨rc_2, e2⟩ := jcv_o e2
  refine jr_callVx K (C_X11_requireRing hst (d) e2) (D_at DX11_let_q0 2 rfl) cv_X11_128_X11_requireRing (As := [.int x1])  (ci := 9) rfl rc_2 rfl rfl (by exact Nat.le_of_ble_eq_true rfl) (kc2 := 8) (ks2 := 119) rfl rfl (fun k9 z9 h9 w9 hz9 => ?_) (fun r9 h9 w9 => ?_)
  · obtain ⟨w1, rfl⟩ := w9
    have hf := (jthen_r w1.symm).symm.trans hf
    cases hf
    exact jr_out K E rfl hz9 ⟨rfl, rfl⟩
  obtain ⟨w1, rfl⟩ := w9
  obtain ⟨r2, w2⟩ : ∃ z, z = r9 := ⟨_, rfl⟩
  subst w2
  replace hf := (jthen_l w1.symm).symm.trans hf
  obtain ⟨h2, w3⟩ : ∃ z, z = q2.2 := ⟨_, rfl⟩
  rw [← w3] at hf ⊢
  show jJ G X h2 8 119 _ _ []
  refine jr_aload_n K (D_at DX11_let_q0 3 rfl) rfl rfl ?_
  refine jr_iload_n K (D_at DX11_let_q0 4 rfl) rfl rfl ?_
  refine jr_iconst K (D_at DX11_let_q0 5 rfl) (v := (0 : Int32)) (by decide) ?_
  refine jr_bipush K (D_at DX11_let_q0 6 rfl) (v := (9 : Int32)) (by decide) ?_
  obtain ⟨q10, e10, hf⟩ := jbind hf
  obtain ⟨rc_10, e10⟩ := jcv_o e10
  refine jr_callVx K (C_X11_requireNumber hst (d) e10) (D_at DX11_let_q0 7 rfl) cv_X11_180_X11_requireNumber (As := [.int x2, .int (0 : Int32), .int (9 : Int32)])  (ci := 9) rfl rc_10 rfl rfl (by exact Nat.le_of_ble_eq_true rfl) (kc2 := 7) (ks2 := 113) rfl rfl (fun k9 z9 h9 w9 hz9 => ?_) (fun r9 h9 w9 => ?_)
  · obtain ⟨w1, rfl⟩ := w9
    have hf := (jthen_r w1.symm).symm.trans hf
    cases hf
    exact jr_out K E rfl hz9 ⟨rfl, rfl⟩
  obtain ⟨w1, rfl⟩ := w9
  obtain ⟨r10, w2⟩ : ∃ z, z = r9 := ⟨_, rfl⟩
  subst w2
  replace hf := (jthen_l w1.symm).symm.trans hf
  obtain ⟨h10, w3⟩ : ∃ z, z = q10.2 := ⟨_, rfl⟩
  rw [← w3] at hf ⊢
  show jJ G X h10 7 113 _ _ []
  refine jr_aload_n K (D_at DX11_let_q0 8 rfl) rfl rfl ?_
  obtain ⟨p14, e14, hf⟩ := jbind hf
  refine jr_getR K (D_at DX11_let_q0 9 rfl) fg_X11_33_9 e14 ?_
  refine jr_aload_n K (D_at DX11_let_q0 10 rfl) rfl rfl ?_
  obtain ⟨p18, e18, hf⟩ := jbind hf
  refine jr_getR K (D_at DX11_let_q0 11 rfl) fg_X11_19_9 e18 ?_
  obtain ⟨h21, e21, hf⟩ := jbind hf
  obtain ⟨rc_21, e21⟩ := jcv_o e21
  refine jr_callV K (C_X0_remember (d + 3) e21) (D_at DX11_let_q1 0 rfl) cv_X11_184_X0_remember (As := [.ref p18]) (ci := 0) rfl rc_21 rfl rfl (by exact Nat.le_of_ble_eq_true rfl) (kc2 := 0) (ks2 := 0) rfl rfl (fun k9 h9 w9 => by cases w9.1) (fun r9 h9 w9 => ?_)
  obtain ⟨w1, w2⟩ := w9
  subst h9
  cases w1
  show jJ G X _ 0 0 _ _ []
  refine jr_aload_n K (D_at DX11_let_q1 1 rfl) rfl rfl ?_
  obtain ⟨p25, e25, hf⟩ := jbind hf
  refine jr_getR K (D_at DX11_let_q1 2 rfl) fg_X11_19_9 e25 ?_
  obtain ⟨p28, e28, hf⟩ := jbind hf
  refine jr_getR K (D_at DX11_let_q1 3 rfl) fg_X11_151_6 e28 ?_
  refine jr_iload_n K (D_at DX11_let_q1 4 rfl) rfl rfl ?_
  obtain ⟨v32, e32, hf⟩ := jbind hf
  refine jr_iald K (D_at DX11_let_q1 5 rfl) e32 ?_
  refine jr_istore_n K (D_at DX11_let_q1 6 rfl) (i := 3) rfl (by decide) (L2 := [_, _, _, _]) rfl ?_
  refine jr_aload_n K (D_at DX11_let_q1 7 rfl) rfl rfl ?_
  obtain ⟨p35, e35, hf⟩ := jbind hf
  refine jr_getR K (D_at DX11_let_q1 8 rfl) fg_X11_19_9 e35 ?_
  obtain ⟨p38, e38, hf⟩ := jbind hf
  refine jr_getR K (D_at DX11_let_q1 9 rfl) fg_X11_151_6 e38 ?_
  refine jr_iload_n K (D_at DX11_let_q1 10 rfl) rfl rfl ?_
  refine jr_iload_n K (D_at DX11_let_q1 11 rfl) rfl rfl ?_
  obtain ⟨h43, e43, hf⟩ := jbind hf
  refine jr_iast K (D_at DX11_let_q2 0 rfl) e43 ?_
  refine jr_iload_n K (D_at DX11_let_q2 1 rfl) rfl rfl ?_
  cases hf
  exact jr_iret K E (D_at DX11_let_q2 2 rfl) rfl ⟨rfl, rfl⟩
theorem C_X11_let {G : jG} {l : Launch} (hst : l.stackTraces = false) (d : Nat) {n : Nat} {a0 : Nat} {x1 : Int32} {x2 : Int32} {h : jH} {res : (jR × jH)} (hf : F_X11_let n a0 x1 x2 h = some res) : jC G l mX11_let (d + 7) 9 125 [.ref a0, .int x1, .int x2] h (jPX res) :=
  jC.of pn_X11 (jcats rfl) (Nat.le_of_ble_eq_true rfl) (fun X K E => J_X11_let hst K n E a0 x1 x2 h hf)
set_option maxHeartbeats 400000 in
set_option maxRecDepth 100000 in
theorem J_X11_chair {G : jG} {l : Launch} (hst : l.stackTraces = false) {d : Nat} {X : jX} {res : (jR × jH)} (K : jOK G l mX11_chair (d + 7) X) (n : Nat) (E : jEnd G mX11_chair (jPX res) X) (a0 : Nat) (x1 : Int32) (x2 : Int32) (h : jH) (hf : F_X11_chair n a0 x1 x2 h = some res) : jJ G X h 8 119 0 [some (.ref a0), some (.int x1), some (.int x2), none] [] := by
  unfold F_X11_chair at hf
  refine jr_aload_n K (D_at DX11_chair_q0 0 rfl) rfl rfl ?_
  refine jr_iload_n K (D_at DX11_chair_q0 1 rfl) rfl rfl ?_
  obtain ⟨q2, e2, hf⟩ := jbind hf
  obtain ⟨rc_2, e2⟩ := jcv_o e2
  refine jr_callVx K (C_X11_requirePlace hst (d) e2) (D_at DX11_chair_q0 2 rfl) cv_X11_215_X11_requirePlace (As := [.int x1])  (ci := 9) rfl rc_2 rfl rfl (by exact Nat.le_of_ble_eq_true rfl) (kc2 := 7) (ks2 := 113) rfl rfl (fun k9 z9 h9 w9 hz9 => ?_) (fun r9 h9 w9 => ?_)
  · obtain ⟨w1, rfl⟩ := w9
    have hf := (jthen_r w1.symm).symm.trans hf
    cases hf
    exact jr_out K E rfl hz9 ⟨rfl, rfl⟩
  obtain ⟨w1, rfl⟩ := w9
  obtain ⟨r2, w2⟩ : ∃ z, z = r9 := ⟨_, rfl⟩
  subst w2
  replace hf := (jthen_l w1.symm).symm.trans hf
  obtain ⟨h2, w3⟩ : ∃ z, z = q2.2 := ⟨_, rfl⟩
  rw [← w3] at hf ⊢
  show jJ G X h2 7 113 _ _ []
  refine jr_aload_n K (D_at DX11_chair_q0 3 rfl) rfl rfl ?_
  obtain ⟨p6, e6, hf⟩ := jbind hf
  refine jr_getR K (D_at DX11_chair_q0 4 rfl) fg_X11_33_9 e6 ?_
  refine jr_aload_n K (D_at DX11_chair_q0 5 rfl) rfl rfl ?_
  obtain ⟨p10, e10, hf⟩ := jbind hf
  refine jr_getR K (D_at DX11_chair_q0 6 rfl) fg_X11_19_9 e10 ?_
  obtain ⟨h13, e13, hf⟩ := jbind hf
  obtain ⟨rc_13, e13⟩ := jcv_o e13
  refine jr_callV K (C_X0_remember (d + 3) e13) (D_at DX11_chair_q0 7 rfl) cv_X11_184_X0_remember (As := [.ref p10]) (ci := 0) rfl rc_13 rfl rfl (by exact Nat.le_of_ble_eq_true rfl) (kc2 := 0) (ks2 := 0) rfl rfl (fun k9 h9 w9 => by cases w9.1) (fun r9 h9 w9 => ?_)
  obtain ⟨w1, w2⟩ := w9
  subst h9
  cases w1
  show jJ G X _ 0 0 _ _ []
  refine jr_aload_n K (D_at DX11_chair_q0 8 rfl) rfl rfl ?_
  obtain ⟨p17, e17, hf⟩ := jbind hf
  refine jr_getR K (D_at DX11_chair_q0 9 rfl) fg_X11_19_9 e17 ?_
  obtain ⟨v20, e20, hf⟩ := jbind hf
  refine jr_getI K (D_at DX11_chair_q0 10 rfl) fg_X11_229_6 e20 ?_
  refine jr_istore_n K (D_at DX11_chair_q0 11 rfl) (i := 3) rfl (by decide) (L2 := [_, _, _, _]) rfl ?_
  refine jr_aload_n K (D_at DX11_chair_q1 0 rfl) rfl rfl ?_
  obtain ⟨p25, e25, hf⟩ := jbind hf
  refine jr_getR K (D_at DX11_chair_q1 1 rfl) fg_X11_19_9 e25 ?_
  refine jr_iload_n K (D_at DX11_chair_q1 2 rfl) rfl rfl ?_
  refine jr_iload_n K (D_at DX11_chair_q1 3 rfl) rfl rfl ?_
  refine jr_iload_n K (D_at DX11_chair_q1 4 rfl) rfl rfl ?_
  obtain ⟨v31, e31, hf⟩ := jbind hf
  refine jr_callS K (C_X11_withBit (d + 6) e31) (D_at DX11_chair_q1 5 rfl) cs_X11_206_X11_withBit (As := [.int v20, .int x1, .int x2]) rfl rfl (by exact Nat.le_of_ble_eq_true rfl) (kc2 := 0) (ks2 := 0) rfl rfl (fun k9 h9 w9 => by cases w9.1) (fun r9 h9 w9 => ?_)
  obtain ⟨w1, w2⟩ := w9
  subst h9
  cases w1
  show jJ G X _ 0 0 _ _ (.int v31 :: _)
  obtain ⟨h34, e34, hf⟩ := jbind hf
  refine jr_putI K (D_at DX11_chair_q1 6 rfl) fp_X11_229_6 (Or.inl rfl) e34 ?_
  refine jr_aload_n K (D_at DX11_chair_q1 7 rfl) rfl rfl ?_
  obtain ⟨p38, e38, hf⟩ := jbind hf
  refine jr_getR K (D_at DX11_chair_q1 8 rfl) fg_X11_19_9 e38 ?_
  obtain ⟨v41, e41, hf⟩ := jbind hf
  refine jr_getI K (D_at DX11_chair_q1 9 rfl) fg_X11_229_6 e41 ?_
  refine jr_iload_n K (D_at DX11_chair_q1 10 rfl) rfl rfl ?_
  refine jr_icmp_eq K (D_at DX11_chair_q1 11 rfl) (tgt := 52) (by decide) (fun c45 => ?_) (fun c45 => ?_)
  · replace hf := (if_pos c45).symm.trans hf
    refine jr_iconst K (D_at DX11_chair_q2 2 rfl) (v := (0 : Int32)) (by decide) ?_
    cases hf
    exact jr_zret K E (D_at DX11_chair_q2 3 rfl) rfl (Or.inl rfl) ⟨rfl, rfl⟩
  · replace hf := (if_neg c45).symm.trans hf
    refine jr_iconst K (D_at DX11_chair_q2 0 rfl) (v := (1 : Int32)) (by decide) ?_
    refine jr_goto K (D_at DX11_chair_q2 1 rfl) (tgt := 53) (by decide) ?_
    cases hf
    exact jr_zret K E (D_at DX11_chair_q2 3 rfl) rfl (Or.inr rfl) ⟨rfl, rfl⟩
theorem C_X11_chair {G : jG} {l : Launch} (hst : l.stackTraces = false) (d : Nat) {n : Nat} {a0 : Nat} {x1 : Int32} {x2 : Int32} {h : jH} {res : (jR × jH)} (hf : F_X11_chair n a0 x1 x2 h = some res) : jC G l mX11_chair (d + 7) 8 119 [.ref a0, .int x1, .int x2] h (jPX res) :=
  jC.of pn_X11 (jcats rfl) (Nat.le_of_ble_eq_true rfl) (fun X K E => J_X11_chair hst K n E a0 x1 x2 h hf)
set_option maxHeartbeats 400000 in
set_option maxRecDepth 100000 in
theorem J_X11_hours {G : jG} {l : Launch} (hst : l.stackTraces = false) {d : Nat} {X : jX} {res : (jR × jH)} (K : jOK G l mX11_hours (d + 7) X) (n : Nat) (E : jEnd G mX11_hours (jPX res) X) (a0 : Nat) (x1 : Int32) (h : jH) (hf : F_X11_hours n a0 x1 h = some res) : jJ G X h 8 119 0 [some (.ref a0), some (.int x1)] [] := by
  unfold F_X11_hours at hf
  refine jr_aload_n K (D_at DX11_hours_q0 0 rfl) rfl rfl ?_
  refine jr_iload_n K (D_at DX11_hours_q0 1 rfl) rfl rfl ?_
  refine jr_iconst K (D_at DX11_hours_q0 2 rfl) (v := (1 : Int32)) (by decide) ?_
  refine jr_bipush K (D_at DX11_hours_q0 3 rfl) (v := (80 : Int32)) (by decide) ?_
  obtain ⟨q5, e5, hf⟩ := jbind hf
  obtain ⟨rc_5, e5⟩ := jcv_o e5
  refine jr_callVx K (C_X11_requireNumber hst (d) e5) (D_at DX11_hours_q0 4 rfl) cv_X11_180_X11_requireNumber (As := [.int x1, .int (1 : Int32), .int (80 : Int32)])  (ci := 9) rfl rc_5 rfl rfl (by exact Nat.le_of_ble_eq_true rfl) (kc2 := 7) (ks2 := 113) rfl rfl (fun k9 z9 h9 w9 hz9 => ?_) (fun r9 h9 w9 => ?_)
  · obtain ⟨w1, rfl⟩ := w9
    have hf := (jthen_r w1.symm).symm.trans hf
    cases hf
    exact jr_out K E rfl hz9 ⟨rfl, rfl⟩
  obtain ⟨w1, rfl⟩ := w9
  obtain ⟨r5, w2⟩ : ∃ z, z = r9 := ⟨_, rfl⟩
  subst w2
  replace hf := (jthen_l w1.symm).symm.trans hf
  obtain ⟨h5, w3⟩ : ∃ z, z = q5.2 := ⟨_, rfl⟩
  rw [← w3] at hf ⊢
  show jJ G X h5 7 113 _ _ []
  refine jr_aload_n K (D_at DX11_hours_q0 5 rfl) rfl rfl ?_
  obtain ⟨p9, e9, hf⟩ := jbind hf
  refine jr_getR K (D_at DX11_hours_q0 6 rfl) fg_X11_33_9 e9 ?_
  refine jr_aload_n K (D_at DX11_hours_q0 7 rfl) rfl rfl ?_
  obtain ⟨p13, e13, hf⟩ := jbind hf
  refine jr_getR K (D_at DX11_hours_q0 8 rfl) fg_X11_19_9 e13 ?_
  obtain ⟨h16, e16, hf⟩ := jbind hf
  obtain ⟨rc_16, e16⟩ := jcv_o e16
  refine jr_callV K (C_X0_remember (d + 3) e16) (D_at DX11_hours_q0 9 rfl) cv_X11_184_X0_remember (As := [.ref p13]) (ci := 0) rfl rc_16 rfl rfl (by exact Nat.le_of_ble_eq_true rfl) (kc2 := 0) (ks2 := 0) rfl rfl (fun k9 h9 w9 => by cases w9.1) (fun r9 h9 w9 => ?_)
  obtain ⟨w1, w2⟩ := w9
  subst h9
  cases w1
  show jJ G X _ 0 0 _ _ []
  refine jr_aload_n K (D_at DX11_hours_q0 10 rfl) rfl rfl ?_
  obtain ⟨p20, e20, hf⟩ := jbind hf
  refine jr_getR K (D_at DX11_hours_q0 11 rfl) fg_X11_66_9 e20 ?_
  refine jr_aload_n K (D_at DX11_hours_q1 0 rfl) rfl rfl ?_
  obtain ⟨p24, e24, hf⟩ := jbind hf
  refine jr_getR K (D_at DX11_hours_q1 1 rfl) fg_X11_19_9 e24 ?_
  refine jr_iload_n K (D_at DX11_hours_q1 2 rfl) rfl rfl ?_
  obtain ⟨q28, e28, hf⟩ := jbind hf
  obtain ⟨rc_28, e28⟩ := jcv_o e28
  refine jr_callV K (C_X1_run (d + 1) e28) (D_at DX11_hours_q1 3 rfl) cv_X11_232_X1_run (As := [.ref p24, .int x1]) (ci := 1) rfl rc_28 rfl rfl (by exact Nat.le_of_ble_eq_true rfl) (kc2 := 0) (ks2 := 0) rfl rfl (fun k9 h9 w9 => by cases w9.1) (fun r9 h9 w9 => ?_)
  obtain ⟨w1, w2⟩ := w9
  subst h9
  cases w1
  show jJ G X _ 0 0 _ _ (.int q28.1 :: _)
  cases hf
  exact jr_iret K E (D_at DX11_hours_q1 4 rfl) rfl ⟨rfl, rfl⟩
theorem C_X11_hours {G : jG} {l : Launch} (hst : l.stackTraces = false) (d : Nat) {n : Nat} {a0 : Nat} {x1 : Int32} {h : jH} {res : (jR × jH)} (hf : F_X11_hours n a0 x1 h = some res) : jC G l mX11_hours (d + 7) 8 119 [.ref a0, .int x1] h (jPX res) :=
  jC.of pn_X11 (jcats rfl) (Nat.le_of_ble_eq_true rfl) (fun X K E => J_X11_hours hst K n E a0 x1 h hf)
set_option maxHeartbeats 400000 in
set_option maxRecDepth 100000 in
theorem J_X11_shade {G : jG} {l : Launch} {d : Nat} {X : jX} {res : Int32} (K : jOK G l mX11_shade (d + 2) X) (n : Nat) (h : jH) (E : jEnd G mX11_shade (jPR h res) X) (a0 : Nat) (hf : F_X11_shade n a0 h = some res) : jJ G X h 0 0 0 [some (.ref a0)] [] := by
  unfold F_X11_shade at hf
  refine jr_aload_n K (D_at DX11_shade_q0 0 rfl) rfl rfl ?_
  obtain ⟨p1, e1, hf⟩ := jbind hf
  refine jr_getR K (D_at DX11_shade_q0 1 rfl) fg_X11_19_9 e1 ?_
  obtain ⟨v4, e4, hf⟩ := jbind hf
  obtain ⟨rc_4, e4⟩ := jcv_o e4
  refine jr_callV K (C_X8_shadow (d) e4) (D_at DX11_shade_q0 2 rfl) cv_X11_235_X8_shadow (As := []) (ci := 6) rfl rc_4 rfl rfl (by exact Nat.le_of_ble_eq_true rfl) (kc2 := 0) (ks2 := 0) rfl rfl (fun k9 h9 w9 => by cases w9.1) (fun r9 h9 w9 => ?_)
  obtain ⟨w1, w2⟩ := w9
  subst h9
  cases w1
  show jJ G X _ 0 0 _ _ (.int v4 :: _)
  cases hf
  exact jr_iret K E (D_at DX11_shade_q0 3 rfl) rfl ⟨rfl, rfl⟩
theorem C_X11_shade {G : jG} {l : Launch} (d : Nat) {n : Nat} {a0 : Nat} {h : jH} {res : Int32} (hf : F_X11_shade n a0 h = some res) : jC G l mX11_shade (d + 2) 0 0 [.ref a0] h (jPR h res) :=
  jC.of pn_X11 (jcats rfl) (Nat.le_of_ble_eq_true rfl) (fun X K E => J_X11_shade K n h E a0 hf)
set_option maxHeartbeats 400000 in
set_option maxRecDepth 100000 in
theorem J_X11_dark {G : jG} {l : Launch} {d : Nat} {X : jX} {res : Int32} (K : jOK G l mX11_dark (d + 3) X) (n : Nat) (h : jH) (E : jEnd G mX11_dark (jPR h res) X) (a0 : Nat) (hf : F_X11_dark n a0 h = some res) : jJ G X h 0 0 0 [some (.ref a0)] [] := by
  unfold F_X11_dark at hf
  refine jr_aload_n K (D_at DX11_dark_q0 0 rfl) rfl rfl ?_
  obtain ⟨p1, e1, hf⟩ := jbind hf
  refine jr_getR K (D_at DX11_dark_q0 1 rfl) fg_X11_19_9 e1 ?_
  obtain ⟨v4, e4, hf⟩ := jbind hf
  obtain ⟨rc_4, e4⟩ := jcv_o e4
  refine jr_callV K (C_X8_shadedChairs (d) e4) (D_at DX11_dark_q0 2 rfl) cv_X11_238_X8_shadedChairs (As := []) (ci := 6) rfl rc_4 rfl rfl (by exact Nat.le_of_ble_eq_true rfl) (kc2 := 0) (ks2 := 0) rfl rfl (fun k9 h9 w9 => by cases w9.1) (fun r9 h9 w9 => ?_)
  obtain ⟨w1, w2⟩ := w9
  subst h9
  cases w1
  show jJ G X _ 0 0 _ _ (.int v4 :: _)
  cases hf
  exact jr_iret K E (D_at DX11_dark_q0 3 rfl) rfl ⟨rfl, rfl⟩
theorem C_X11_dark {G : jG} {l : Launch} (d : Nat) {n : Nat} {a0 : Nat} {h : jH} {res : Int32} (hf : F_X11_dark n a0 h = some res) : jC G l mX11_dark (d + 3) 0 0 [.ref a0] h (jPR h res) :=
  jC.of pn_X11 (jcats rfl) (Nat.le_of_ble_eq_true rfl) (fun X K E => J_X11_dark K n h E a0 hf)
set_option maxHeartbeats 400000 in
set_option maxRecDepth 100000 in
theorem J_X11_bare {G : jG} {l : Launch} {d : Nat} {X : jX} {res : Int32} (K : jOK G l mX11_bare (d + 2) X) (n : Nat) (h : jH) (E : jEnd G mX11_bare (jPR h res) X) (a0 : Nat) (hf : F_X11_bare n a0 h = some res) : jJ G X h 0 0 0 [some (.ref a0)] [] := by
  unfold F_X11_bare at hf
  refine jr_aload_n K (D_at DX11_bare_q0 0 rfl) rfl rfl ?_
  obtain ⟨p1, e1, hf⟩ := jbind hf
  refine jr_getR K (D_at DX11_bare_q0 1 rfl) fg_X11_19_9 e1 ?_
  obtain ⟨v4, e4, hf⟩ := jbind hf
  refine jr_getI K (D_at DX11_bare_q0 2 rfl) fg_X11_229_6 e4 ?_
  refine jr_aload_n K (D_at DX11_bare_q0 3 rfl) rfl rfl ?_
  obtain ⟨p8, e8, hf⟩ := jbind hf
  refine jr_getR K (D_at DX11_bare_q0 4 rfl) fg_X11_19_9 e8 ?_
  obtain ⟨v11, e11, hf⟩ := jbind hf
  obtain ⟨rc_11, e11⟩ := jcv_o e11
  refine jr_callV K (C_X8_shadow (d) e11) (D_at DX11_bare_q0 5 rfl) cv_X11_235_X8_shadow (As := []) (ci := 6) rfl rc_11 rfl rfl (by exact Nat.le_of_ble_eq_true rfl) (kc2 := 0) (ks2 := 0) rfl rfl (fun k9 h9 w9 => by cases w9.1) (fun r9 h9 w9 => ?_)
  obtain ⟨w1, w2⟩ := w9
  subst h9
  cases w1
  show jJ G X _ 0 0 _ _ (.int v11 :: _)
  refine jr_iconst K (D_at DX11_bare_q0 6 rfl) (v := (-1 : Int32)) (by decide) ?_
  refine jr_ixor K (D_at DX11_bare_q0 7 rfl) ?_
  refine jr_iand K (D_at DX11_bare_q0 8 rfl) ?_
  cases hf
  exact jr_iret K E (D_at DX11_bare_q0 9 rfl) rfl ⟨rfl, rfl⟩
theorem C_X11_bare {G : jG} {l : Launch} (d : Nat) {n : Nat} {a0 : Nat} {h : jH} {res : Int32} (hf : F_X11_bare n a0 h = some res) : jC G l mX11_bare (d + 2) 0 0 [.ref a0] h (jPR h res) :=
  jC.of pn_X11 (jcats rfl) (Nat.le_of_ble_eq_true rfl) (fun X K E => J_X11_bare K n h E a0 hf)
set_option maxHeartbeats 400000 in
set_option maxRecDepth 100000 in
theorem J_X11_goes {G : jG} {l : Launch} (hst : l.stackTraces = false) {d : Nat} {X : jX} {res : (jR × jH)} (K : jOK G l mX11_goes (d + 7) X) (n : Nat) (E : jEnd G mX11_goes (jPX res) X) (a0 : Nat) (x1 : Int32) (x2 : Int32) (h : jH) (hf : F_X11_goes n a0 x1 x2 h = some res) : jJ G X h 1 6 0 [some (.ref a0), some (.int x1), some (.int x2)] [] := by
  unfold F_X11_goes at hf
  refine jr_aload_n K (D_at DX11_goes_q0 0 rfl) rfl rfl ?_
  refine jr_iload_n K (D_at DX11_goes_q0 1 rfl) rfl rfl ?_
  obtain ⟨q2, e2, hf⟩ := jbind hf
  obtain ⟨rc_2, e2⟩ := jcv_o e2
  refine jr_callVx K (C_X11_requireRing hst (d) e2) (D_at DX11_goes_q0 2 rfl) cv_X11_128_X11_requireRing (As := [.int x1])  (ci := 9) rfl rc_2 rfl rfl (by exact Nat.le_of_ble_eq_true rfl) (kc2 := 0) (ks2 := 0) rfl rfl (fun k9 z9 h9 w9 hz9 => ?_) (fun r9 h9 w9 => ?_)
  · obtain ⟨w1, rfl⟩ := w9
    have hf := (jthen_r w1.symm).symm.trans hf
    cases hf
    exact jr_out K E rfl hz9 ⟨rfl, rfl⟩
  obtain ⟨w1, rfl⟩ := w9
  obtain ⟨r2, w2⟩ : ∃ z, z = r9 := ⟨_, rfl⟩
  subst w2
  replace hf := (jthen_l w1.symm).symm.trans hf
  obtain ⟨h2, w3⟩ : ∃ z, z = q2.2 := ⟨_, rfl⟩
  rw [← w3] at hf ⊢
  show jJ G X h2 0 0 _ _ []
  refine jr_aload_n K (D_at DX11_goes_q0 3 rfl) rfl rfl ?_
  obtain ⟨p6, e6, hf⟩ := jbind hf
  refine jr_getR K (D_at DX11_goes_q0 4 rfl) fg_X11_37_9 e6 ?_
  refine jr_aload_n K (D_at DX11_goes_q0 5 rfl) rfl rfl ?_
  obtain ⟨p10, e10, hf⟩ := jbind hf
  refine jr_getR K (D_at DX11_goes_q0 6 rfl) fg_X11_19_9 e10 ?_
  obtain ⟨h13, e13, hf⟩ := jbind hf
  obtain ⟨rc_13, e13⟩ := jcv_o e13
  refine jr_callV K (C_X8_copyFrom (d + 4) e13) (D_at DX11_goes_q0 7 rfl) cv_X11_92_X8_copyFrom (As := [.ref p10]) (ci := 6) rfl rc_13 rfl rfl (by exact Nat.le_of_ble_eq_true rfl) (kc2 := 0) (ks2 := 0) rfl rfl (fun k9 h9 w9 => by cases w9.1) (fun r9 h9 w9 => ?_)
  obtain ⟨w1, w2⟩ := w9
  subst h9
  cases w1
  show jJ G X _ 0 0 _ _ []
  refine jr_aload_n K (D_at DX11_goes_q0 8 rfl) rfl rfl ?_
  obtain ⟨p17, e17, hf⟩ := jbind hf
  refine jr_getR K (D_at DX11_goes_q0 9 rfl) fg_X11_37_9 e17 ?_
  refine jr_iload_n K (D_at DX11_goes_q0 10 rfl) rfl rfl ?_
  refine jr_iload_n K (D_at DX11_goes_q0 11 rfl) rfl rfl ?_
  refine jr_bipush K (D_at DX11_goes_q1 0 rfl) (v := (31 : Int32)) (by decide) ?_
  obtain ⟨q24, e24, hf⟩ := jbind hf
  obtain ⟨rc_24, e24⟩ := jcv_o e24
  refine jr_callV K (C_X8_move (d + 4) e24) (D_at DX11_goes_q1 1 rfl) cv_X11_187_X8_move (As := [.int x1, .int x2, .int (31 : Int32)]) (ci := 6) rfl rc_24 rfl rfl (by exact Nat.le_of_ble_eq_true rfl) (kc2 := 0) (ks2 := 0) rfl rfl (fun k9 h9 w9 => by cases w9.1) (fun r9 h9 w9 => ?_)
  obtain ⟨w1, w2⟩ := w9
  subst h9
  cases w1
  show jJ G X _ 0 0 _ _ (.int q24.1 :: _)
  cases hf
  exact jr_iret K E (D_at DX11_goes_q1 2 rfl) rfl ⟨rfl, rfl⟩
theorem C_X11_goes {G : jG} {l : Launch} (hst : l.stackTraces = false) (d : Nat) {n : Nat} {a0 : Nat} {x1 : Int32} {x2 : Int32} {h : jH} {res : (jR × jH)} (hf : F_X11_goes n a0 x1 x2 h = some res) : jC G l mX11_goes (d + 7) 1 6 [.ref a0, .int x1, .int x2] h (jPX res) :=
  jC.of pn_X11 (jcats rfl) (Nat.le_of_ble_eq_true rfl) (fun X K E => J_X11_goes hst K n E a0 x1 x2 h hf)
set_option maxHeartbeats 400000 in
set_option maxRecDepth 100000 in
theorem J_X11_with {G : jG} {l : Launch} (hst : l.stackTraces = false) {d : Nat} {X : jX} {res : (jR × jH)} (K : jOK G l mX11_with (d + 7) X) (n : Nat) (E : jEnd G mX11_with (jPX res) X) (a0 : Nat) (x1 : Int32) (x2 : Int32) (h : jH) (hf : F_X11_with n a0 x1 x2 h = some res) : jJ G X h 1 6 0 [some (.ref a0), some (.int x1), some (.int x2)] [] := by
  unfold F_X11_with at hf
  refine jr_aload_n K (D_at DX11_with_q0 0 rfl) rfl rfl ?_
  refine jr_iload_n K (D_at DX11_with_q0 1 rfl) rfl rfl ?_
  obtain ⟨q2, e2, hf⟩ := jbind hf
  obtain ⟨rc_2, e2⟩ := jcv_o e2
  refine jr_callVx K (C_X11_requireRing hst (d) e2) (D_at DX11_with_q0 2 rfl) cv_X11_128_X11_requireRing (As := [.int x1])  (ci := 9) rfl rc_2 rfl rfl (by exact Nat.le_of_ble_eq_true rfl) (kc2 := 0) (ks2 := 0) rfl rfl (fun k9 z9 h9 w9 hz9 => ?_) (fun r9 h9 w9 => ?_)
  · obtain ⟨w1, rfl⟩ := w9
    have hf := (jthen_r w1.symm).symm.trans hf
    cases hf
    exact jr_out K E rfl hz9 ⟨rfl, rfl⟩
  obtain ⟨w1, rfl⟩ := w9
  obtain ⟨r2, w2⟩ : ∃ z, z = r9 := ⟨_, rfl⟩
  subst w2
  replace hf := (jthen_l w1.symm).symm.trans hf
  obtain ⟨h2, w3⟩ : ∃ z, z = q2.2 := ⟨_, rfl⟩
  rw [← w3] at hf ⊢
  show jJ G X h2 0 0 _ _ []
  refine jr_aload_n K (D_at DX11_with_q0 3 rfl) rfl rfl ?_
  obtain ⟨p6, e6, hf⟩ := jbind hf
  refine jr_getR K (D_at DX11_with_q0 4 rfl) fg_X11_19_9 e6 ?_
  refine jr_iload_n K (D_at DX11_with_q0 5 rfl) rfl rfl ?_
  refine jr_iload_n K (D_at DX11_with_q0 6 rfl) rfl rfl ?_
  obtain ⟨v11, e11, hf⟩ := jbind hf
  obtain ⟨rc_11, e11⟩ := jcv_o e11
  refine jr_callV K (C_X8_goers (d + 5) e11) (D_at DX11_with_q0 7 rfl) cv_X11_241_X8_goers (As := [.int x1, .int x2]) (ci := 6) rfl rc_11 rfl rfl (by exact Nat.le_of_ble_eq_true rfl) (kc2 := 0) (ks2 := 0) rfl rfl (fun k9 h9 w9 => by cases w9.1) (fun r9 h9 w9 => ?_)
  obtain ⟨w1, w2⟩ := w9
  subst h9
  cases w1
  show jJ G X _ 0 0 _ _ (.int v11 :: _)
  cases hf
  exact jr_iret K E (D_at DX11_with_q0 8 rfl) rfl ⟨rfl, rfl⟩
theorem C_X11_with {G : jG} {l : Launch} (hst : l.stackTraces = false) (d : Nat) {n : Nat} {a0 : Nat} {x1 : Int32} {x2 : Int32} {h : jH} {res : (jR × jH)} (hf : F_X11_with n a0 x1 x2 h = some res) : jC G l mX11_with (d + 7) 1 6 [.ref a0, .int x1, .int x2] h (jPX res) :=
  jC.of pn_X11 (jcats rfl) (Nat.le_of_ble_eq_true rfl) (fun X K E => J_X11_with hst K n E a0 x1 x2 h hf)
set_option maxHeartbeats 400000 in
set_option maxRecDepth 100000 in
theorem J_X11_would {G : jG} {l : Launch} (hst : l.stackTraces = false) {d : Nat} {X : jX} {res : (jR × jH)} (K : jOK G l mX11_would (d + 7) X) (n : Nat) (E : jEnd G mX11_would (jPX res) X) (a0 : Nat) (x1 : Int32) (x2 : Int32) (x3 : Int32) (x4 : Int32) (h : jH) (hf : F_X11_would n a0 x1 x2 x3 x4 h = some res) : jJ G X h 2 12 0 [some (.ref a0), some (.int x1), some (.int x2), some (.int x3), some (.int x4)] [] := by
  unfold F_X11_would at hf
  refine jr_aload_n K (D_at DX11_would_q0 0 rfl) rfl rfl ?_
  refine jr_iload_n K (D_at DX11_would_q0 1 rfl) rfl rfl ?_
  obtain ⟨q2, e2, hf⟩ := jbind hf
  obtain ⟨rc_2, e2⟩ := jcv_o e2
  refine jr_callVx K (C_X11_requireRing hst (d) e2) (D_at DX11_would_q0 2 rfl) cv_X11_128_X11_requireRing (As := [.int x1])  (ci := 9) rfl rc_2 rfl rfl (by exact Nat.le_of_ble_eq_true rfl) (kc2 := 1) (ks2 := 6) rfl rfl (fun k9 z9 h9 w9 hz9 => ?_) (fun r9 h9 w9 => ?_)
  · obtain ⟨w1, rfl⟩ := w9
    have hf := (jthen_r w1.symm).symm.trans hf
    cases hf
    exact jr_out K E rfl hz9 ⟨rfl, rfl⟩
  obtain ⟨w1, rfl⟩ := w9
  obtain ⟨r2, w2⟩ : ∃ z, z = r9 := ⟨_, rfl⟩
  subst w2
  replace hf := (jthen_l w1.symm).symm.trans hf
  obtain ⟨h2, w3⟩ : ∃ z, z = q2.2 := ⟨_, rfl⟩
  rw [← w3] at hf ⊢
  show jJ G X h2 1 6 _ _ []
  refine jr_aload_n K (D_at DX11_would_q0 3 rfl) rfl rfl ?_
  refine jr_iload_n K (D_at DX11_would_q0 4 rfl) rfl rfl ?_
  refine jr_iconst K (D_at DX11_would_q0 5 rfl) (v := (1 : Int32)) (by decide) ?_
  refine jr_bipush K (D_at DX11_would_q0 6 rfl) (v := (31 : Int32)) (by decide) ?_
  obtain ⟨q10, e10, hf⟩ := jbind hf
  obtain ⟨rc_10, e10⟩ := jcv_o e10
  refine jr_callVx K (C_X11_requireNumber hst (d) e10) (D_at DX11_would_q0 7 rfl) cv_X11_180_X11_requireNumber (As := [.int x3, .int (1 : Int32), .int (31 : Int32)])  (ci := 9) rfl rc_10 rfl rfl (by exact Nat.le_of_ble_eq_true rfl) (kc2 := 0) (ks2 := 0) rfl rfl (fun k9 z9 h9 w9 hz9 => ?_) (fun r9 h9 w9 => ?_)
  · obtain ⟨w1, rfl⟩ := w9
    have hf := (jthen_r w1.symm).symm.trans hf
    cases hf
    exact jr_out K E rfl hz9 ⟨rfl, rfl⟩
  obtain ⟨w1, rfl⟩ := w9
  obtain ⟨r10, w2⟩ : ∃ z, z = r9 := ⟨_, rfl⟩
  subst w2
  replace hf := (jthen_l w1.symm).symm.trans hf
  obtain ⟨h10, w3⟩ : ∃ z, z = q10.2 := ⟨_, rfl⟩
  rw [← w3] at hf ⊢
  show jJ G X h10 0 0 _ _ []
  refine jr_aload_n K (D_at DX11_would_q0 8 rfl) rfl rfl ?_
  obtain ⟨p14, e14, hf⟩ := jbind hf
  refine jr_getR K (D_at DX11_would_q0 9 rfl) fg_X11_37_9 e14 ?_
  refine jr_aload_n K (D_at DX11_would_q0 10 rfl) rfl rfl ?_
  obtain ⟨p18, e18, hf⟩ := jbind hf
  refine jr_getR K (D_at DX11_would_q0 11 rfl) fg_X11_19_9 e18 ?_
  obtain ⟨h21, e21, hf⟩ := jbind hf
  obtain ⟨rc_21, e21⟩ := jcv_o e21
  refine jr_callV K (C_X8_copyFrom (d + 4) e21) (D_at DX11_would_q1 0 rfl) cv_X11_92_X8_copyFrom (As := [.ref p18]) (ci := 6) rfl rc_21 rfl rfl (by exact Nat.le_of_ble_eq_true rfl) (kc2 := 0) (ks2 := 0) rfl rfl (fun k9 h9 w9 => by cases w9.1) (fun r9 h9 w9 => ?_)
  obtain ⟨w1, w2⟩ := w9
  subst h9
  cases w1
  show jJ G X _ 0 0 _ _ []
  refine jr_aload_n K (D_at DX11_would_q1 1 rfl) rfl rfl ?_
  obtain ⟨p25, e25, hf⟩ := jbind hf
  refine jr_getR K (D_at DX11_would_q1 2 rfl) fg_X11_37_9 e25 ?_
  refine jr_iload_n K (D_at DX11_would_q1 3 rfl) rfl rfl ?_
  refine jr_iload_n K (D_at DX11_would_q1 4 rfl) rfl rfl ?_
  refine jr_iload_n K (D_at DX11_would_q1 5 rfl) rfl rfl ?_
  obtain ⟨q31, e31, hf⟩ := jbind hf
  obtain ⟨rc_31, e31⟩ := jcv_o e31
  refine jr_callV K (C_X8_move (d + 4) e31) (D_at DX11_would_q1 6 rfl) cv_X11_187_X8_move (As := [.int x1, .int x2, .int x3]) (ci := 6) rfl rc_31 rfl rfl (by exact Nat.le_of_ble_eq_true rfl) (kc2 := 0) (ks2 := 0) rfl rfl (fun k9 h9 w9 => by cases w9.1) (fun r9 h9 w9 => ?_)
  obtain ⟨w1, w2⟩ := w9
  subst h9
  cases w1
  show jJ G X _ 0 0 _ _ (.int q31.1 :: _)
  refine jr_pop K (D_at DX11_would_q1 7 rfl) rfl ?_
  refine jr_iload K (D_at DX11_would_q1 8 rfl) rfl ?_
  refine jr_if_eq K (D_at DX11_would_q1 9 rfl) (tgt := 58) (by decide) (fun c37 => ?_) (fun c37 => ?_)
  · replace hf := (if_pos c37).symm.trans hf
    refine jr_aload_n K (D_at DX11_would_q2 6 rfl) rfl rfl ?_
    obtain ⟨p59, e59, hf⟩ := jbind hf
    refine jr_getR K (D_at DX11_would_q2 7 rfl) fg_X11_37_9 e59 ?_
    obtain ⟨v62, e62, hf⟩ := jbind hf
    obtain ⟨rc_62, e62⟩ := jcv_o e62
    refine jr_callV K (C_X8_shadedChairs (d + 4) e62) (D_at DX11_would_q2 8 rfl) cv_X11_238_X8_shadedChairs (As := []) (ci := 6) rfl rc_62 rfl rfl (by exact Nat.le_of_ble_eq_true rfl) (kc2 := 0) (ks2 := 0) rfl rfl (fun k9 h9 w9 => by cases w9.1) (fun r9 h9 w9 => ?_)
    obtain ⟨w1, w2⟩ := w9
    subst h9
    cases w1
    show jJ G X _ 0 0 _ _ (.int v62 :: _)
    cases hf
    exact jr_iret K E (D_at DX11_would_q2 9 rfl) rfl ⟨rfl, rfl⟩
  · replace hf := (if_neg c37).symm.trans hf
    refine jr_aload_n K (D_at DX11_would_q1 10 rfl) rfl rfl ?_
    obtain ⟨p41, e41, hf⟩ := jbind hf
    refine jr_getR K (D_at DX11_would_q1 11 rfl) fg_X11_37_9 e41 ?_
    obtain ⟨v44, e44, hf⟩ := jbind hf
    refine jr_getI K (D_at DX11_would_q2 0 rfl) fg_X11_245_6 e44 ?_
    refine jr_aload_n K (D_at DX11_would_q2 1 rfl) rfl rfl ?_
    obtain ⟨p48, e48, hf⟩ := jbind hf
    refine jr_getR K (D_at DX11_would_q2 2 rfl) fg_X11_19_9 e48 ?_
    obtain ⟨v51, e51, hf⟩ := jbind hf
    refine jr_getI K (D_at DX11_would_q2 3 rfl) fg_X11_245_6 e51 ?_
    refine jr_isub K (D_at DX11_would_q2 4 rfl) ?_
    refine jr_goto K (D_at DX11_would_q2 5 rfl) (tgt := 65) (by decide) ?_
    cases hf
    exact jr_iret K E (D_at DX11_would_q2 9 rfl) rfl ⟨rfl, rfl⟩
theorem C_X11_would {G : jG} {l : Launch} (hst : l.stackTraces = false) (d : Nat) {n : Nat} {a0 : Nat} {x1 : Int32} {x2 : Int32} {x3 : Int32} {x4 : Int32} {h : jH} {res : (jR × jH)} (hf : F_X11_would n a0 x1 x2 x3 x4 h = some res) : jC G l mX11_would (d + 7) 2 12 [.ref a0, .int x1, .int x2, .int x3, .int x4] h (jPX res) :=
  jC.of pn_X11 (jcats rfl) (Nat.le_of_ble_eq_true rfl) (fun X K E => J_X11_would hst K n E a0 x1 x2 x3 x4 h hf)
set_option maxHeartbeats 400000 in
set_option maxRecDepth 100000 in
theorem J_X11_best {G : jG} {l : Launch} {d : Nat} {X : jX} {res : (Int32 × jH)} (K : jOK G l mX11_best (d + 4) X) (n : Nat) (E : jEnd G mX11_best (jPW res) X) (a0 : Nat) (h : jH) (hf : F_X11_best n a0 h = some res) : jJ G X h 0 0 0 [some (.ref a0)] [] := by
  unfold F_X11_best at hf
  refine jr_aload_n K (D_at DX11_best_q0 0 rfl) rfl rfl ?_
  obtain ⟨p1, e1, hf⟩ := jbind hf
  refine jr_getR K (D_at DX11_best_q0 1 rfl) fg_X11_73_9 e1 ?_
  refine jr_aload_n K (D_at DX11_best_q0 2 rfl) rfl rfl ?_
  obtain ⟨p5, e5, hf⟩ := jbind hf
  refine jr_getR K (D_at DX11_best_q0 3 rfl) fg_X11_19_9 e5 ?_
  obtain ⟨q8, e8, hf⟩ := jbind hf
  obtain ⟨rc_8, e8⟩ := jcv_o e8
  refine jr_callV K (C_X7_shadiest (d) e8) (D_at DX11_best_q0 4 rfl) cv_X11_248_X7_shadiest (As := [.ref p5]) (ci := 5) rfl rc_8 rfl rfl (by exact Nat.le_of_ble_eq_true rfl) (kc2 := 0) (ks2 := 0) rfl rfl (fun k9 h9 w9 => by cases w9.1) (fun r9 h9 w9 => ?_)
  obtain ⟨w1, w2⟩ := w9
  subst h9
  cases w1
  show jJ G X _ 0 0 _ _ (.int q8.1 :: _)
  cases hf
  exact jr_iret K E (D_at DX11_best_q0 5 rfl) rfl ⟨rfl, rfl⟩
theorem C_X11_best {G : jG} {l : Launch} (d : Nat) {n : Nat} {a0 : Nat} {h : jH} {res : (Int32 × jH)} (hf : F_X11_best n a0 h = some res) : jC G l mX11_best (d + 4) 0 0 [.ref a0] h (jPW res) :=
  jC.of pn_X11 (jcats rfl) (Nat.le_of_ble_eq_true rfl) (fun X K E => J_X11_best K n E a0 h hf)
set_option maxHeartbeats 400000 in
set_option maxRecDepth 100000 in
theorem J_X11_fewest {G : jG} {l : Launch} {d : Nat} {X : jX} {res : (Int32 × jH)} (K : jOK G l mX11_fewest (d + 5) X) (n : Nat) (E : jEnd G mX11_fewest (jPW res) X) (a0 : Nat) (x1 : Int32) (h : jH) (hf : F_X11_fewest n a0 x1 h = some res) : jJ G X h 0 0 0 [some (.ref a0), some (.int x1)] [] := by
  unfold F_X11_fewest at hf
  refine jr_aload_n K (D_at DX11_fewest_q0 0 rfl) rfl rfl ?_
  obtain ⟨p1, e1, hf⟩ := jbind hf
  refine jr_getR K (D_at DX11_fewest_q0 1 rfl) fg_X11_73_9 e1 ?_
  refine jr_aload_n K (D_at DX11_fewest_q0 2 rfl) rfl rfl ?_
  obtain ⟨p5, e5, hf⟩ := jbind hf
  refine jr_getR K (D_at DX11_fewest_q0 3 rfl) fg_X11_19_9 e5 ?_
  refine jr_iload_n K (D_at DX11_fewest_q0 4 rfl) rfl rfl ?_
  obtain ⟨h9, e9, hf⟩ := jbind hf
  obtain ⟨rc_9, e9⟩ := jcv_o e9
  refine jr_callV K (C_X7_seekShade (d) e9) (D_at DX11_fewest_q0 5 rfl) cv_X11_252_X7_seekShade (As := [.ref p5, .int x1]) (ci := 5) rfl rc_9 rfl rfl (by exact Nat.le_of_ble_eq_true rfl) (kc2 := 0) (ks2 := 0) rfl rfl (fun k9 h9 w9 => by cases w9.1) (fun r9 h9 w9 => ?_)
  obtain ⟨w1, w2⟩ := w9
  subst h9
  cases w1
  show jJ G X _ 0 0 _ _ []
  refine jr_aload_n K (D_at DX11_fewest_q0 6 rfl) rfl rfl ?_
  obtain ⟨p13, e13, hf⟩ := jbind hf
  refine jr_getR K (D_at DX11_fewest_q0 7 rfl) fg_X11_73_9 e13 ?_
  obtain ⟨v16, e16, hf⟩ := jbind hf
  refine jr_getI K (D_at DX11_fewest_q0 8 rfl) fg_X11_256_5 e16 ?_
  cases hf
  exact jr_iret K E (D_at DX11_fewest_q0 9 rfl) rfl ⟨rfl, rfl⟩
theorem C_X11_fewest {G : jG} {l : Launch} (d : Nat) {n : Nat} {a0 : Nat} {x1 : Int32} {h : jH} {res : (Int32 × jH)} (hf : F_X11_fewest n a0 x1 h = some res) : jC G l mX11_fewest (d + 5) 0 0 [.ref a0, .int x1] h (jPW res) :=
  jC.of pn_X11 (jcats rfl) (Nat.le_of_ble_eq_true rfl) (fun X K E => J_X11_fewest K n E a0 x1 h hf)
set_option maxHeartbeats 400000 in
set_option maxRecDepth 100000 in
theorem J_X11_first {G : jG} {l : Launch} {d : Nat} {X : jX} {res : (Int32 × jH)} (K : jOK G l mX11_first (d + 5) X) (n : Nat) (E : jEnd G mX11_first (jPW res) X) (a0 : Nat) (x1 : Int32) (h : jH) (hf : F_X11_first n a0 x1 h = some res) : jJ G X h 0 0 0 [some (.ref a0), some (.int x1)] [] := by
  unfold F_X11_first at hf
  refine jr_aload_n K (D_at DX11_first_q0 0 rfl) rfl rfl ?_
  obtain ⟨p1, e1, hf⟩ := jbind hf
  refine jr_getR K (D_at DX11_first_q0 1 rfl) fg_X11_73_9 e1 ?_
  refine jr_aload_n K (D_at DX11_first_q0 2 rfl) rfl rfl ?_
  obtain ⟨p5, e5, hf⟩ := jbind hf
  refine jr_getR K (D_at DX11_first_q0 3 rfl) fg_X11_19_9 e5 ?_
  refine jr_iload_n K (D_at DX11_first_q0 4 rfl) rfl rfl ?_
  obtain ⟨h9, e9, hf⟩ := jbind hf
  obtain ⟨rc_9, e9⟩ := jcv_o e9
  refine jr_callV K (C_X7_seekShade (d) e9) (D_at DX11_first_q0 5 rfl) cv_X11_252_X7_seekShade (As := [.ref p5, .int x1]) (ci := 5) rfl rc_9 rfl rfl (by exact Nat.le_of_ble_eq_true rfl) (kc2 := 0) (ks2 := 0) rfl rfl (fun k9 h9 w9 => by cases w9.1) (fun r9 h9 w9 => ?_)
  obtain ⟨w1, w2⟩ := w9
  subst h9
  cases w1
  show jJ G X _ 0 0 _ _ []
  refine jr_aload_n K (D_at DX11_first_q0 6 rfl) rfl rfl ?_
  obtain ⟨p13, e13, hf⟩ := jbind hf
  refine jr_getR K (D_at DX11_first_q0 7 rfl) fg_X11_73_9 e13 ?_
  obtain ⟨v16, e16, hf⟩ := jbind hf
  refine jr_getI K (D_at DX11_first_q0 8 rfl) fg_X11_259_5 e16 ?_
  cases hf
  exact jr_iret K E (D_at DX11_first_q0 9 rfl) rfl ⟨rfl, rfl⟩
theorem C_X11_first {G : jG} {l : Launch} (d : Nat) {n : Nat} {a0 : Nat} {x1 : Int32} {h : jH} {res : (Int32 × jH)} (hf : F_X11_first n a0 x1 h = some res) : jC G l mX11_first (d + 5) 0 0 [.ref a0, .int x1] h (jPW res) :=
  jC.of pn_X11 (jcats rfl) (Nat.le_of_ble_eq_true rfl) (fun X K E => J_X11_first K n E a0 x1 h hf)
set_option maxHeartbeats 400000 in
set_option maxRecDepth 100000 in
theorem J_X11_readSnags {G : jG} {l : Launch} (hst : l.stackTraces = false) {d : Nat} {X : jX} {res : (jR × jH)} (K : jOK G l mX11_readSnags (d + 6) X) (n : Nat) (E : jEnd G mX11_readSnags (jPX res) X) (a0 : Nat) (h : jH) (hf : F_X11_readSnags n a0 h = some res) : jJ G X h 1 6 0 [some (.ref a0), none] [] := by
  unfold F_X11_readSnags at hf
  refine jr_aload_n K (D_at DX11_readSnags_q0 0 rfl) rfl rfl ?_
  obtain ⟨p1, e1, hf⟩ := jbind hf
  refine jr_getR K (D_at DX11_readSnags_q0 1 rfl) fg_X11_73_9 e1 ?_
  refine jr_aload_n K (D_at DX11_readSnags_q0 2 rfl) rfl rfl ?_
  obtain ⟨p5, e5, hf⟩ := jbind hf
  refine jr_getR K (D_at DX11_readSnags_q0 3 rfl) fg_X11_19_9 e5 ?_
  obtain ⟨v8, e8, hf⟩ := jbind hf
  refine jr_getI K (D_at DX11_readSnags_q0 4 rfl) fg_X11_210_6 e8 ?_
  obtain ⟨v11, e11, hf⟩ := jbind hf
  obtain ⟨rc_11, e11⟩ := jcv_o e11
  refine jr_callV K (C_X7_areRows (d + 4) e11) (D_at DX11_readSnags_q0 5 rfl) cv_X11_394_X7_areRows (As := [.int v8]) (ci := 5) rfl rc_11 rfl rfl (by exact Nat.le_of_ble_eq_true rfl) (kc2 := 1) (ks2 := 6) rfl rfl (fun k9 h9 w9 => by cases w9.1) (fun r9 h9 w9 => ?_)
  obtain ⟨w1, w2⟩ := w9
  subst h9
  cases w1
  show jJ G X _ 1 6 _ _ (.int v11 :: _)
  refine jr_istore_n K (D_at DX11_readSnags_q0 6 rfl) (i := 1) rfl (by decide) (L2 := [_, _]) rfl ?_
  refine jr_iload_n K (D_at DX11_readSnags_q0 7 rfl) rfl rfl ?_
  refine jr_if_eq K (D_at DX11_readSnags_q0 8 rfl) (tgt := 30) (by decide) (fun c16 => ?_) (fun c16 => ?_)
  · replace hf := (if_pos c16).symm.trans hf
    refine jr_aload_n K (D_at DX11_readSnags_q1 2 rfl) rfl rfl ?_
    obtain ⟨p31, e31, hf⟩ := jbind hf
    refine jr_getR K (D_at DX11_readSnags_q1 3 rfl) fg_X11_10_9 e31 ?_
    refine jr_iconst K (D_at DX11_readSnags_q1 4 rfl) (v := (0 : Int32)) (by decide) ?_
    obtain ⟨h35, e35, hf⟩ := jbind hf
    refine jr_putI K (D_at DX11_readSnags_q1 5 rfl) fp_X11_89_8 (Or.inl rfl) e35 ?_
    refine jr_iload_n K (D_at DX11_readSnags_q1 6 rfl) rfl rfl ?_
    refine jr_if_ne K (D_at DX11_readSnags_q1 7 rfl) (tgt := 53) (by decide) (fun c39 => ?_) (fun c39 => ?_)
    · replace hf := (if_neg c39).symm.trans hf
      cases hf
      exact jr_vret K E (D_at DX11_readSnags_q2 1 rfl) rfl ⟨rfl, rfl⟩
    · replace hf := (if_pos c39).symm.trans hf
      cases hf
      exact jr_throwW (dep := d + 0) hst K E (D_at DX11_readSnags_q1 8 rfl) (D_at DX11_readSnags_q1 9 rfl) (D_at DX11_readSnags_q1 10 rfl) (D_at DX11_readSnags_q1 11 rfl) (D_at DX11_readSnags_q2 0 rfl) th_X11_0 (i := 10) rfl rfl (k := 0) rfl (by exact Nat.le_of_ble_eq_true rfl) (by decide) (by decide) ⟨rfl, rfl⟩
  · replace hf := (if_neg c16).symm.trans hf
    refine jr_aload_n K (D_at DX11_readSnags_q0 9 rfl) rfl rfl ?_
    obtain ⟨p20, e20, hf⟩ := jbind hf
    refine jr_getR K (D_at DX11_readSnags_q0 10 rfl) fg_X11_73_9 e20 ?_
    refine jr_aload_n K (D_at DX11_readSnags_q0 11 rfl) rfl rfl ?_
    obtain ⟨p24, e24, hf⟩ := jbind hf
    refine jr_getR K (D_at DX11_readSnags_q1 0 rfl) fg_X11_19_9 e24 ?_
    obtain ⟨h27, e27, hf⟩ := jbind hf
    obtain ⟨rc_27, e27⟩ := jcv_o e27
    refine jr_callV K (C_X7_seekSnags (d) e27) (D_at DX11_readSnags_q1 1 rfl) cv_X11_398_X7_seekSnags (As := [.ref p24]) (ci := 5) rfl rc_27 rfl rfl (by exact Nat.le_of_ble_eq_true rfl) (kc2 := 1) (ks2 := 6) rfl rfl (fun k9 h9 w9 => by cases w9.1) (fun r9 h9 w9 => ?_)
    obtain ⟨w1, w2⟩ := w9
    subst h9
    cases w1
    show jJ G X _ 1 6 _ _ []
    refine jr_aload_n K (D_at DX11_readSnags_q1 2 rfl) rfl rfl ?_
    obtain ⟨p31, e31, hf⟩ := jbind hf
    refine jr_getR K (D_at DX11_readSnags_q1 3 rfl) fg_X11_10_9 e31 ?_
    refine jr_iconst K (D_at DX11_readSnags_q1 4 rfl) (v := (0 : Int32)) (by decide) ?_
    obtain ⟨h35, e35, hf⟩ := jbind hf
    refine jr_putI K (D_at DX11_readSnags_q1 5 rfl) fp_X11_89_8 (Or.inl rfl) e35 ?_
    refine jr_iload_n K (D_at DX11_readSnags_q1 6 rfl) rfl rfl ?_
    refine jr_if_ne K (D_at DX11_readSnags_q1 7 rfl) (tgt := 53) (by decide) (fun c39 => ?_) (fun c39 => ?_)
    · replace hf := (if_neg c39).symm.trans hf
      cases hf
      exact jr_vret K E (D_at DX11_readSnags_q2 1 rfl) rfl ⟨rfl, rfl⟩
    · replace hf := (if_pos c39).symm.trans hf
      cases hf
      exact jr_throwW (dep := d + 0) hst K E (D_at DX11_readSnags_q1 8 rfl) (D_at DX11_readSnags_q1 9 rfl) (D_at DX11_readSnags_q1 10 rfl) (D_at DX11_readSnags_q1 11 rfl) (D_at DX11_readSnags_q2 0 rfl) th_X11_0 (i := 10) rfl rfl (k := 0) rfl (by exact Nat.le_of_ble_eq_true rfl) (by decide) (by decide) ⟨rfl, rfl⟩
theorem C_X11_readSnags {G : jG} {l : Launch} (hst : l.stackTraces = false) (d : Nat) {n : Nat} {a0 : Nat} {h : jH} {res : (jR × jH)} (hf : F_X11_readSnags n a0 h = some res) : jC G l mX11_readSnags (d + 6) 1 6 [.ref a0] h (jPX res) :=
  jC.of pn_X11 (jcats rfl) (Nat.le_of_ble_eq_true rfl) (fun X K E => J_X11_readSnags hst K n E a0 h hf)
set_option maxHeartbeats 400000 in
set_option maxRecDepth 100000 in
theorem J_X11_snags {G : jG} {l : Launch} (hst : l.stackTraces = false) {d : Nat} {X : jX} {res : (jR × jH)} (K : jOK G l mX11_snags (d + 7) X) (n : Nat) (E : jEnd G mX11_snags (jPX res) X) (a0 : Nat) (x1 : Int32) (h : jH) (hf : F_X11_snags n a0 x1 h = some res) : jJ G X h 1 6 0 [some (.ref a0), some (.int x1)] [] := by
  unfold F_X11_snags at hf
  refine jr_aload_n K (D_at DX11_snags_q0 0 rfl) rfl rfl ?_
  obtain ⟨q1, e1, hf⟩ := jbind hf
  obtain ⟨rc_1, e1⟩ := jcv_o e1
  refine jr_callVx K (C_X11_readSnags hst (d) e1) (D_at DX11_snags_q0 1 rfl) cv_X11_262_X11_readSnags (As := [])  (ci := 9) rfl rc_1 rfl rfl (by exact Nat.le_of_ble_eq_true rfl) (kc2 := 0) (ks2 := 0) rfl rfl (fun k9 z9 h9 w9 hz9 => ?_) (fun r9 h9 w9 => ?_)
  · obtain ⟨w1, rfl⟩ := w9
    have hf := (jthen_r w1.symm).symm.trans hf
    cases hf
    exact jr_out K E rfl hz9 ⟨rfl, rfl⟩
  obtain ⟨w1, rfl⟩ := w9
  obtain ⟨r1, w2⟩ : ∃ z, z = r9 := ⟨_, rfl⟩
  subst w2
  replace hf := (jthen_l w1.symm).symm.trans hf
  obtain ⟨h1, w3⟩ : ∃ z, z = q1.2 := ⟨_, rfl⟩
  rw [← w3] at hf ⊢
  show jJ G X h1 0 0 _ _ []
  refine jr_iload_n K (D_at DX11_snags_q0 2 rfl) rfl rfl ?_
  refine jr_if_eq K (D_at DX11_snags_q0 3 rfl) (tgt := 18) (by decide) (fun c5 => ?_) (fun c5 => ?_)
  · replace hf := (if_pos c5).symm.trans hf
    refine jr_aload_n K (D_at DX11_snags_q0 8 rfl) rfl rfl ?_
    obtain ⟨p19, e19, hf⟩ := jbind hf
    refine jr_getR K (D_at DX11_snags_q0 9 rfl) fg_X11_73_9 e19 ?_
    obtain ⟨v22, e22, hf⟩ := jbind hf
    refine jr_getI K (D_at DX11_snags_q0 10 rfl) fg_X11_268_5 e22 ?_
    cases hf
    exact jr_iret K E (D_at DX11_snags_q0 11 rfl) rfl ⟨rfl, rfl⟩
  · replace hf := (if_neg c5).symm.trans hf
    refine jr_aload_n K (D_at DX11_snags_q0 4 rfl) rfl rfl ?_
    obtain ⟨p9, e9, hf⟩ := jbind hf
    refine jr_getR K (D_at DX11_snags_q0 5 rfl) fg_X11_73_9 e9 ?_
    obtain ⟨v12, e12, hf⟩ := jbind hf
    obtain ⟨rc_12, e12⟩ := jcv_o e12
    refine jr_callV K (C_X7_inAllFitting (d + 6) e12) (D_at DX11_snags_q0 6 rfl) cv_X11_265_X7_inAllFitting (As := []) (ci := 5) rfl rc_12 rfl rfl (by exact Nat.le_of_ble_eq_true rfl) (kc2 := 0) (ks2 := 0) rfl rfl (fun k9 h9 w9 => by cases w9.1) (fun r9 h9 w9 => ?_)
    obtain ⟨w1, w2⟩ := w9
    subst h9
    cases w1
    show jJ G X _ 0 0 _ _ (.int v12 :: _)
    refine jr_goto K (D_at DX11_snags_q0 7 rfl) (tgt := 25) (by decide) ?_
    cases hf
    exact jr_iret K E (D_at DX11_snags_q0 11 rfl) rfl ⟨rfl, rfl⟩
theorem C_X11_snags {G : jG} {l : Launch} (hst : l.stackTraces = false) (d : Nat) {n : Nat} {a0 : Nat} {x1 : Int32} {h : jH} {res : (jR × jH)} (hf : F_X11_snags n a0 x1 h = some res) : jC G l mX11_snags (d + 7) 1 6 [.ref a0, .int x1] h (jPX res) :=
  jC.of pn_X11 (jcats rfl) (Nat.le_of_ble_eq_true rfl) (fun X K E => J_X11_snags hst K n E a0 x1 h hf)
set_option maxHeartbeats 400000 in
set_option maxRecDepth 100000 in
theorem J_X11_tries {G : jG} {l : Launch} (hst : l.stackTraces = false) {d : Nat} {X : jX} {res : (jR × jH)} (K : jOK G l mX11_tries (d + 7) X) (n : Nat) (E : jEnd G mX11_tries (jPX res) X) (a0 : Nat) (h : jH) (hf : F_X11_tries n a0 h = some res) : jJ G X h 1 6 0 [some (.ref a0)] [] := by
  unfold F_X11_tries at hf
  refine jr_aload_n K (D_at DX11_tries_q0 0 rfl) rfl rfl ?_
  obtain ⟨q1, e1, hf⟩ := jbind hf
  obtain ⟨rc_1, e1⟩ := jcv_o e1
  refine jr_callVx K (C_X11_readSnags hst (d) e1) (D_at DX11_tries_q0 1 rfl) cv_X11_262_X11_readSnags (As := [])  (ci := 9) rfl rc_1 rfl rfl (by exact Nat.le_of_ble_eq_true rfl) (kc2 := 0) (ks2 := 0) rfl rfl (fun k9 z9 h9 w9 hz9 => ?_) (fun r9 h9 w9 => ?_)
  · obtain ⟨w1, rfl⟩ := w9
    have hf := (jthen_r w1.symm).symm.trans hf
    cases hf
    exact jr_out K E rfl hz9 ⟨rfl, rfl⟩
  obtain ⟨w1, rfl⟩ := w9
  obtain ⟨r1, w2⟩ : ∃ z, z = r9 := ⟨_, rfl⟩
  subst w2
  replace hf := (jthen_l w1.symm).symm.trans hf
  obtain ⟨h1, w3⟩ : ∃ z, z = q1.2 := ⟨_, rfl⟩
  rw [← w3] at hf ⊢
  show jJ G X h1 0 0 _ _ []
  refine jr_aload_n K (D_at DX11_tries_q0 2 rfl) rfl rfl ?_
  obtain ⟨p5, e5, hf⟩ := jbind hf
  refine jr_getR K (D_at DX11_tries_q0 3 rfl) fg_X11_73_9 e5 ?_
  refine jr_aload_n K (D_at DX11_tries_q0 4 rfl) rfl rfl ?_
  obtain ⟨p9, e9, hf⟩ := jbind hf
  refine jr_getR K (D_at DX11_tries_q0 5 rfl) fg_X11_19_9 e9 ?_
  obtain ⟨q12, e12, hf⟩ := jbind hf
  obtain ⟨rc_12, e12⟩ := jcv_o e12
  refine jr_callV K (C_X7_partingPull (d + 1) e12) (D_at DX11_tries_q0 6 rfl) cv_X11_271_X7_partingPull (As := [.ref p9]) (ci := 5) rfl rc_12 rfl rfl (by exact Nat.le_of_ble_eq_true rfl) (kc2 := 0) (ks2 := 0) rfl rfl (fun k9 h9 w9 => by cases w9.1) (fun r9 h9 w9 => ?_)
  obtain ⟨w1, w2⟩ := w9
  subst h9
  cases w1
  show jJ G X _ 0 0 _ _ (.int q12.1 :: _)
  cases hf
  exact jr_iret K E (D_at DX11_tries_q0 7 rfl) rfl ⟨rfl, rfl⟩
theorem C_X11_tries {G : jG} {l : Launch} (hst : l.stackTraces = false) (d : Nat) {n : Nat} {a0 : Nat} {h : jH} {res : (jR × jH)} (hf : F_X11_tries n a0 h = some res) : jC G l mX11_tries (d + 7) 1 6 [.ref a0] h (jPX res) :=
  jC.of pn_X11 (jcats rfl) (Nat.le_of_ble_eq_true rfl) (fun X K E => J_X11_tries hst K n E a0 h hf)
set_option maxHeartbeats 400000 in
set_option maxRecDepth 100000 in
theorem J_X11_loosen {G : jG} {l : Launch} (hst : l.stackTraces = false) {d : Nat} {X : jX} {res : (jR × jH)} (K : jOK G l mX11_loosen (d + 7) X) (n : Nat) (E : jEnd G mX11_loosen (jPX res) X) (a0 : Nat) (x1 : Int32) (x2 : Int32) (x3 : Int32) (h : jH) (hf : F_X11_loosen n a0 x1 x2 x3 h = some res) : jJ G X h 2 12 0 [some (.ref a0), some (.int x1), some (.int x2), some (.int x3)] [] := by
  unfold F_X11_loosen at hf
  refine jr_aload_n K (D_at DX11_loosen_q0 0 rfl) rfl rfl ?_
  refine jr_iload_n K (D_at DX11_loosen_q0 1 rfl) rfl rfl ?_
  obtain ⟨q2, e2, hf⟩ := jbind hf
  obtain ⟨rc_2, e2⟩ := jcv_o e2
  refine jr_callVx K (C_X11_requireRing hst (d) e2) (D_at DX11_loosen_q0 2 rfl) cv_X11_128_X11_requireRing (As := [.int x1])  (ci := 9) rfl rc_2 rfl rfl (by exact Nat.le_of_ble_eq_true rfl) (kc2 := 1) (ks2 := 6) rfl rfl (fun k9 z9 h9 w9 hz9 => ?_) (fun r9 h9 w9 => ?_)
  · obtain ⟨w1, rfl⟩ := w9
    have hf := (jthen_r w1.symm).symm.trans hf
    cases hf
    exact jr_out K E rfl hz9 ⟨rfl, rfl⟩
  obtain ⟨w1, rfl⟩ := w9
  obtain ⟨r2, w2⟩ : ∃ z, z = r9 := ⟨_, rfl⟩
  subst w2
  replace hf := (jthen_l w1.symm).symm.trans hf
  obtain ⟨h2, w3⟩ : ∃ z, z = q2.2 := ⟨_, rfl⟩
  rw [← w3] at hf ⊢
  show jJ G X h2 1 6 _ _ []
  refine jr_aload_n K (D_at DX11_loosen_q0 3 rfl) rfl rfl ?_
  refine jr_iload_n K (D_at DX11_loosen_q0 4 rfl) rfl rfl ?_
  refine jr_iconst K (D_at DX11_loosen_q0 5 rfl) (v := (1 : Int32)) (by decide) ?_
  refine jr_bipush K (D_at DX11_loosen_q0 6 rfl) (v := (31 : Int32)) (by decide) ?_
  obtain ⟨q10, e10, hf⟩ := jbind hf
  obtain ⟨rc_10, e10⟩ := jcv_o e10
  refine jr_callVx K (C_X11_requireNumber hst (d) e10) (D_at DX11_loosen_q0 7 rfl) cv_X11_180_X11_requireNumber (As := [.int x3, .int (1 : Int32), .int (31 : Int32)])  (ci := 9) rfl rc_10 rfl rfl (by exact Nat.le_of_ble_eq_true rfl) (kc2 := 0) (ks2 := 0) rfl rfl (fun k9 z9 h9 w9 hz9 => ?_) (fun r9 h9 w9 => ?_)
  · obtain ⟨w1, rfl⟩ := w9
    have hf := (jthen_r w1.symm).symm.trans hf
    cases hf
    exact jr_out K E rfl hz9 ⟨rfl, rfl⟩
  obtain ⟨w1, rfl⟩ := w9
  obtain ⟨r10, w2⟩ : ∃ z, z = r9 := ⟨_, rfl⟩
  subst w2
  replace hf := (jthen_l w1.symm).symm.trans hf
  obtain ⟨h10, w3⟩ : ∃ z, z = q10.2 := ⟨_, rfl⟩
  rw [← w3] at hf ⊢
  show jJ G X h10 0 0 _ _ []
  refine jr_aload_n K (D_at DX11_loosen_q0 8 rfl) rfl rfl ?_
  obtain ⟨p14, e14, hf⟩ := jbind hf
  refine jr_getR K (D_at DX11_loosen_q0 9 rfl) fg_X11_73_9 e14 ?_
  refine jr_aload_n K (D_at DX11_loosen_q0 10 rfl) rfl rfl ?_
  obtain ⟨p18, e18, hf⟩ := jbind hf
  refine jr_getR K (D_at DX11_loosen_q0 11 rfl) fg_X11_19_9 e18 ?_
  refine jr_iload_n K (D_at DX11_loosen_q1 0 rfl) rfl rfl ?_
  refine jr_iload_n K (D_at DX11_loosen_q1 1 rfl) rfl rfl ?_
  refine jr_iload_n K (D_at DX11_loosen_q1 2 rfl) rfl rfl ?_
  obtain ⟨q24, e24, hf⟩ := jbind hf
  obtain ⟨rc_24, e24⟩ := jcv_o e24
  refine jr_callV K (C_X7_fewestFreed (d + 2) e24) (D_at DX11_loosen_q1 3 rfl) cv_X11_274_X7_fewestFreed (As := [.ref p18, .int x1, .int x2, .int x3]) (ci := 5) rfl rc_24 rfl rfl (by exact Nat.le_of_ble_eq_true rfl) (kc2 := 0) (ks2 := 0) rfl rfl (fun k9 h9 w9 => by cases w9.1) (fun r9 h9 w9 => ?_)
  obtain ⟨w1, w2⟩ := w9
  subst h9
  cases w1
  show jJ G X _ 0 0 _ _ (.int q24.1 :: _)
  cases hf
  exact jr_iret K E (D_at DX11_loosen_q1 4 rfl) rfl ⟨rfl, rfl⟩
theorem C_X11_loosen {G : jG} {l : Launch} (hst : l.stackTraces = false) (d : Nat) {n : Nat} {a0 : Nat} {x1 : Int32} {x2 : Int32} {x3 : Int32} {h : jH} {res : (jR × jH)} (hf : F_X11_loosen n a0 x1 x2 x3 h = some res) : jC G l mX11_loosen (d + 7) 2 12 [.ref a0, .int x1, .int x2, .int x3] h (jPX res) :=
  jC.of pn_X11 (jcats rfl) (Nat.le_of_ble_eq_true rfl) (fun X K E => J_X11_loosen hst K n E a0 x1 x2 x3 h hf)
set_option maxHeartbeats 400000 in
set_option maxRecDepth 100000 in
theorem J_X11_order {G : jG} {l : Launch} {d : Nat} {X : jX} {res : Int32} (K : jOK G l mX11_order (d + 3) X) (n : Nat) (h : jH) (E : jEnd G mX11_order (jPR h res) X) (a0 : Nat) (hf : F_X11_order n a0 h = some res) : jJ G X h 0 0 0 [some (.ref a0)] [] := by
  unfold F_X11_order at hf
  refine jr_aload_n K (D_at DX11_order_q0 0 rfl) rfl rfl ?_
  obtain ⟨p1, e1, hf⟩ := jbind hf
  refine jr_getR K (D_at DX11_order_q0 1 rfl) fg_X11_19_9 e1 ?_
  obtain ⟨v4, e4, hf⟩ := jbind hf
  refine jr_callS K (C_X6_outOfOrder (d) e4) (D_at DX11_order_q0 2 rfl) cs_X11_278_X6_outOfOrder (As := [.ref p1]) rfl rfl (by exact Nat.le_of_ble_eq_true rfl) (kc2 := 0) (ks2 := 0) rfl rfl (fun k9 h9 w9 => by cases w9.1) (fun r9 h9 w9 => ?_)
  obtain ⟨w1, w2⟩ := w9
  subst h9
  cases w1
  show jJ G X _ 0 0 _ _ (.int v4 :: _)
  cases hf
  exact jr_iret K E (D_at DX11_order_q0 3 rfl) rfl ⟨rfl, rfl⟩
theorem C_X11_order {G : jG} {l : Launch} (d : Nat) {n : Nat} {a0 : Nat} {h : jH} {res : Int32} (hf : F_X11_order n a0 h = some res) : jC G l mX11_order (d + 3) 0 0 [.ref a0] h (jPR h res) :=
  jC.of pn_X11 (jcats rfl) (Nat.le_of_ble_eq_true rfl) (fun X K E => J_X11_order K n h E a0 hf)
set_option maxHeartbeats 400000 in
set_option maxRecDepth 100000 in
theorem J_X11_tight {G : jG} {l : Launch} (hst : l.stackTraces = false) {d : Nat} {X : jX} {res : (jR × jH)} (K : jOK G l mX11_tight (d + 7) X) (n : Nat) (E : jEnd G mX11_tight (jPX res) X) (a0 : Nat) (x1 : Int32) (h : jH) (hf : F_X11_tight n a0 x1 h = some res) : jJ G X h 1 6 0 [some (.ref a0), some (.int x1)] [] := by
  unfold F_X11_tight at hf
  refine jr_aload_n K (D_at DX11_tight_q0 0 rfl) rfl rfl ?_
  refine jr_iload_n K (D_at DX11_tight_q0 1 rfl) rfl rfl ?_
  refine jr_iconst K (D_at DX11_tight_q0 2 rfl) (v := (2 : Int32)) (by decide) ?_
  refine jr_bipush K (D_at DX11_tight_q0 3 rfl) (v := (8 : Int32)) (by decide) ?_
  obtain ⟨q5, e5, hf⟩ := jbind hf
  obtain ⟨rc_5, e5⟩ := jcv_o e5
  refine jr_callVx K (C_X11_requireNumber hst (d) e5) (D_at DX11_tight_q0 4 rfl) cv_X11_180_X11_requireNumber (As := [.int x1, .int (2 : Int32), .int (8 : Int32)])  (ci := 9) rfl rc_5 rfl rfl (by exact Nat.le_of_ble_eq_true rfl) (kc2 := 0) (ks2 := 0) rfl rfl (fun k9 z9 h9 w9 hz9 => ?_) (fun r9 h9 w9 => ?_)
  · obtain ⟨w1, rfl⟩ := w9
    have hf := (jthen_r w1.symm).symm.trans hf
    cases hf
    exact jr_out K E rfl hz9 ⟨rfl, rfl⟩
  obtain ⟨w1, rfl⟩ := w9
  obtain ⟨r5, w2⟩ : ∃ z, z = r9 := ⟨_, rfl⟩
  subst w2
  replace hf := (jthen_l w1.symm).symm.trans hf
  obtain ⟨h5, w3⟩ : ∃ z, z = q5.2 := ⟨_, rfl⟩
  rw [← w3] at hf ⊢
  show jJ G X h5 0 0 _ _ []
  refine jr_aload_n K (D_at DX11_tight_q0 5 rfl) rfl rfl ?_
  obtain ⟨p9, e9, hf⟩ := jbind hf
  refine jr_getR K (D_at DX11_tight_q0 6 rfl) fg_X11_19_9 e9 ?_
  refine jr_iload_n K (D_at DX11_tight_q0 7 rfl) rfl rfl ?_
  obtain ⟨v13, e13, hf⟩ := jbind hf
  refine jr_callS K (C_X6_tightest (d + 6) e13) (D_at DX11_tight_q0 8 rfl) cs_X11_281_X6_tightest (As := [.ref p9, .int x1]) rfl rfl (by exact Nat.le_of_ble_eq_true rfl) (kc2 := 0) (ks2 := 0) rfl rfl (fun k9 h9 w9 => by cases w9.1) (fun r9 h9 w9 => ?_)
  obtain ⟨w1, w2⟩ := w9
  subst h9
  cases w1
  show jJ G X _ 0 0 _ _ (.int v13 :: _)
  cases hf
  exact jr_iret K E (D_at DX11_tight_q0 9 rfl) rfl ⟨rfl, rfl⟩
theorem C_X11_tight {G : jG} {l : Launch} (hst : l.stackTraces = false) (d : Nat) {n : Nat} {a0 : Nat} {x1 : Int32} {h : jH} {res : (jR × jH)} (hf : F_X11_tight n a0 x1 h = some res) : jC G l mX11_tight (d + 7) 1 6 [.ref a0, .int x1] h (jPX res) :=
  jC.of pn_X11 (jcats rfl) (Nat.le_of_ble_eq_true rfl) (fun X K E => J_X11_tight hst K n E a0 x1 h hf)
set_option maxHeartbeats 400000 in
set_option maxRecDepth 100000 in
theorem J_X11_slack {G : jG} {l : Launch} {d : Nat} {X : jX} {res : Int32} (K : jOK G l mX11_slack (d + 2) X) (n : Nat) (h : jH) (E : jEnd G mX11_slack (jPR h res) X) (a0 : Nat) (hf : F_X11_slack n a0 h = some res) : jJ G X h 0 0 0 [some (.ref a0)] [] := by
  unfold F_X11_slack at hf
  refine jr_aload_n K (D_at DX11_slack_q0 0 rfl) rfl rfl ?_
  obtain ⟨p1, e1, hf⟩ := jbind hf
  refine jr_getR K (D_at DX11_slack_q0 1 rfl) fg_X11_19_9 e1 ?_
  obtain ⟨v4, e4, hf⟩ := jbind hf
  refine jr_callS K (C_X6_spareCloth (d) e4) (D_at DX11_slack_q0 2 rfl) cs_X11_284_X6_spareCloth (As := [.ref p1]) rfl rfl (by exact Nat.le_of_ble_eq_true rfl) (kc2 := 0) (ks2 := 0) rfl rfl (fun k9 h9 w9 => by cases w9.1) (fun r9 h9 w9 => ?_)
  obtain ⟨w1, w2⟩ := w9
  subst h9
  cases w1
  show jJ G X _ 0 0 _ _ (.int v4 :: _)
  cases hf
  exact jr_iret K E (D_at DX11_slack_q0 3 rfl) rfl ⟨rfl, rfl⟩
theorem C_X11_slack {G : jG} {l : Launch} (d : Nat) {n : Nat} {a0 : Nat} {h : jH} {res : Int32} (hf : F_X11_slack n a0 h = some res) : jC G l mX11_slack (d + 2) 0 0 [.ref a0] h (jPR h res) :=
  jC.of pn_X11 (jcats rfl) (Nat.le_of_ble_eq_true rfl) (fun X K E => J_X11_slack K n h E a0 hf)
set_option maxHeartbeats 400000 in
set_option maxRecDepth 100000 in
theorem J_X11_taut {G : jG} {l : Launch} {d : Nat} {X : jX} {res : Int32} (K : jOK G l mX11_taut (d + 2) X) (n : Nat) (h : jH) (E : jEnd G mX11_taut (jPR h res) X) (a0 : Nat) (hf : F_X11_taut n a0 h = some res) : jJ G X h 0 0 0 [some (.ref a0)] [] := by
  unfold F_X11_taut at hf
  refine jr_aload_n K (D_at DX11_taut_q0 0 rfl) rfl rfl ?_
  obtain ⟨p1, e1, hf⟩ := jbind hf
  refine jr_getR K (D_at DX11_taut_q0 1 rfl) fg_X11_19_9 e1 ?_
  obtain ⟨v4, e4, hf⟩ := jbind hf
  refine jr_callS K (C_X6_tautRings (d) e4) (D_at DX11_taut_q0 2 rfl) cs_X11_287_X6_tautRings (As := [.ref p1]) rfl rfl (by exact Nat.le_of_ble_eq_true rfl) (kc2 := 0) (ks2 := 0) rfl rfl (fun k9 h9 w9 => by cases w9.1) (fun r9 h9 w9 => ?_)
  obtain ⟨w1, w2⟩ := w9
  subst h9
  cases w1
  show jJ G X _ 0 0 _ _ (.int v4 :: _)
  cases hf
  exact jr_iret K E (D_at DX11_taut_q0 3 rfl) rfl ⟨rfl, rfl⟩
theorem C_X11_taut {G : jG} {l : Launch} (d : Nat) {n : Nat} {a0 : Nat} {h : jH} {res : Int32} (hf : F_X11_taut n a0 h = some res) : jC G l mX11_taut (d + 2) 0 0 [.ref a0] h (jPR h res) :=
  jC.of pn_X11 (jcats rfl) (Nat.le_of_ble_eq_true rfl) (fun X K E => J_X11_taut K n h E a0 hf)
end
