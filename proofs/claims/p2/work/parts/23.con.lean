set_option maxHeartbeats 400000 in
set_option maxRecDepth 100000 in
theorem J_X8_move_28_b {G : jG} {l : Launch} {d : Nat} {X : jX} {res : (Int32 × jH)} (K : jOK G l mX8_move (d + 2) X) (n : Nat) (rc3 : Nat → Int32 → Int32 → Int32 → Int32 → jH → Option (Int32 × jH)) (hr3 : ∀ (a0 : Nat) (x1 : Int32) (x2 : Int32) (x3 : Int32) (x4 : Int32) (h : jH), rc3 a0 x1 x2 x3 x4 h = some res → jJ G X h 0 0 3 [some (.ref a0), some (.int x1), some (.int x2), some (.int x3), some (.int x4), none, none] []) (rc28 : Nat → Int32 → Int32 → Int32 → Int32 → Int32 → Int32 → jH → Option (Int32 × jH)) (hr28 : ∀ (a0 : Nat) (x1 : Int32) (x2 : Int32) (x3 : Int32) (x4 : Int32) (x5 : Int32) (x6 : Int32) (h : jH), rc28 a0 x1 x2 x3 x4 x5 x6 h = some res → jJ G X h 0 0 28 [some (.ref a0), some (.int x1), some (.int x2), some (.int x3), some (.int x4), some (.int x5), some (.int x6)] []) (E : jEnd G mX8_move (jPW res) X) (a0 : Nat) (x1 : Int32) (x2 : Int32) (x3 : Int32) (x4 : Int32) (x5 : Int32) (x6 : Int32) (h : jH) (hf : F_X8_move_28_b n rc3 rc28 a0 x1 x2 x3 x4 x5 x6 h = some res) : jJ G X h 0 0 28 [some (.ref a0), some (.int x1), some (.int x2), some (.int x3), some (.int x4), some (.int x5), some (.int x6)] [] := by
  unfold F_X8_move_28_b at hf
  refine jr_iload K (D_at DX8_move 16 rfl) rfl ?_
  refine jr_aload_n K (D_at DX8_move 17 rfl) rfl rfl ?_
  obtain ⟨v31, e31, hf⟩ := jbind hf
  refine jr_getI K (D_at DX8_move 18 rfl) fg_X8_51_6 e31 ?_
  refine jr_icmp_ge K (D_at DX8_move 19 rfl) (tgt := 73) (by decide) (fun c34 => ?_) (fun c34 => ?_)
  · replace hf := (if_pos c34).symm.trans hf
    refine jr_aload_n K (D_at DX8_move 39 rfl) rfl rfl ?_
    refine jr_sipush K (D_at DX8_move 40 rfl) (v := (9999 : Int32)) (by decide) ?_
    refine jr_aload_n K (D_at DX8_move 41 rfl) rfl rfl ?_
    obtain ⟨v78, e78, hf⟩ := jbind hf
    refine jr_getI K (D_at DX8_move 42 rfl) fg_X8_79_6 e78 ?_
    refine jr_iload K (D_at DX8_move 43 rfl) rfl ?_
    refine jr_aload_n K (D_at DX8_move 44 rfl) rfl rfl ?_
    obtain ⟨v84, e84, hf⟩ := jbind hf
    refine jr_getI K (D_at DX8_move 45 rfl) fg_X8_57_6 e84 ?_
    refine jr_iconst K (D_at DX8_move 46 rfl) (v := (-1 : Int32)) (by decide) ?_
    refine jr_ixor K (D_at DX8_move 47 rfl) ?_
    refine jr_iand K (D_at DX8_move 48 rfl) ?_
    obtain ⟨v90, e90, hf⟩ := jbind hf
    refine jr_callS K (C_J6_bitCount_0f7a4 (d + 1) e90) (D_at DX8_move 49 rfl) cs_X8_102_J6_bitCount_0f7a4 (As := [.int (x5 &&& (v84 ^^^ (-1 : Int32)))]) rfl rfl (by exact Nat.le_of_ble_eq_true rfl) (kc2 := 0) (ks2 := 0) rfl rfl (fun k9 h9 w9 => by cases w9.1) (fun r9 h9 w9 => ?_)
    obtain ⟨w1, w2⟩ := w9
    subst h9
    cases w1
    show jJ G X _ 0 0 _ _ (.int v90 :: _)
    refine jr_iadd K (D_at DX8_move 50 rfl) ?_
    refine jr_min K (D_at DX8_move 51 rfl) mm_X8_85 (by exact Nat.le_of_ble_eq_true rfl) ?_
    obtain ⟨h97, e97, hf⟩ := jbind hf
    refine jr_putI K (D_at DX8_move 52 rfl) fp_X8_79_6 (Or.inl rfl) e97 ?_
    refine jr_iinc K (D_at DX8_move 53 rfl) (i := 4) rfl (v := x4 + (1 : Int32)) (jinc (by decide)) (by decide) (L2 := [_, _, _, _, _, _, _]) rfl ?_
    refine jr_goto K (D_at DX8_move 54 rfl) (tgt := 3) (by decide) ?_
    refine jr_keep [true, true, true, true, true, false, false] ?_
    exact hr3 a0 x1 x2 x3 (x4 + (1 : Int32)) h97 hf
  · replace hf := (if_neg c34).symm.trans hf
    refine jr_iload K (D_at DX8_move 20 rfl) rfl ?_
    refine jr_iload K (D_at DX8_move 21 rfl) rfl ?_
    obtain ⟨v41, e41, hf⟩ := jbind hf
    refine jr_callSN K (C_X11_bit (d + 1) e41) (D_at DX8_move 22 rfl) csn_X8_95_X11_bit (As := [.int x5, .int x6]) rfl rfl (by exact Nat.le_of_ble_eq_true rfl) (kc2 := 0) (ks2 := 0) rfl rfl (fun k9 h9 w9 => by cases w9.1) (fun r9 h9 w9 => ?_)
    obtain ⟨w1, w2⟩ := w9
    subst h9
    cases w1
    show jJ G X _ 0 0 _ _ (.int v41 :: _)
    refine jr_iconst K (D_at DX8_move 23 rfl) (v := (1 : Int32)) (by decide) ?_
    refine jr_icmp_ne K (D_at DX8_move 24 rfl) (tgt := 67) (by decide) (fun c45 => ?_) (fun c45 => ?_)
    · replace hf := (if_neg c45).symm.trans hf
      refine jr_iinc K (D_at DX8_move 37 rfl) (i := 6) rfl (v := x6 + (1 : Int32)) (jinc (by decide)) (by decide) (L2 := [_, _, _, _, _, _, _]) rfl ?_
      refine jr_goto K (D_at DX8_move 38 rfl) (tgt := 28) (by decide) ?_
      refine jr_keep [true, true, true, true, true, true, true] ?_
      exact hr28 a0 x1 x2 x3 x4 x5 (x6 + (1 : Int32)) h hf
    · replace hf := (if_pos c45).symm.trans hf
      refine jr_aload_n K (D_at DX8_move 25 rfl) rfl rfl ?_
      obtain ⟨p49, e49, hf⟩ := jbind hf
      refine jr_getR K (D_at DX8_move 26 rfl) fg_X8_9_6 e49 ?_
      refine jr_iload K (D_at DX8_move 27 rfl) rfl ?_
      refine jr_dup2 K (D_at DX8_move 28 rfl) rfl rfl ?_
      obtain ⟨v55, e55, hf⟩ := jbind hf
      refine jr_iald K (D_at DX8_move 29 rfl) e55 ?_
      refine jr_iload_n K (D_at DX8_move 30 rfl) rfl rfl ?_
      refine jr_if_eq K (D_at DX8_move 31 rfl) (tgt := 64) (by decide) (fun c57 => ?_) (fun c57 => ?_)
      · replace hf := (if_pos c57).symm.trans hf
        refine jr_iconst K (D_at DX8_move 34 rfl) (v := (-1 : Int32)) (by decide) ?_
        refine jr_iadd K (D_at DX8_move 35 rfl) ?_
        obtain ⟨h66, e66, hf⟩ := jbind hf
        refine jr_iast K (D_at DX8_move 36 rfl) e66 ?_
        refine jr_iinc K (D_at DX8_move 37 rfl) (i := 6) rfl (v := x6 + (1 : Int32)) (jinc (by decide)) (by decide) (L2 := [_, _, _, _, _, _, _]) rfl ?_
        refine jr_goto K (D_at DX8_move 38 rfl) (tgt := 28) (by decide) ?_
        refine jr_keep [true, true, true, true, true, true, true] ?_
        exact hr28 a0 x1 x2 x3 x4 x5 (x6 + (1 : Int32)) h66 hf
      · replace hf := (if_neg c57).symm.trans hf
        refine jr_iconst K (D_at DX8_move 32 rfl) (v := (1 : Int32)) (by decide) ?_
        refine jr_goto K (D_at DX8_move 33 rfl) (tgt := 65) (by decide) ?_
        refine jr_iadd K (D_at DX8_move 35 rfl) ?_
        obtain ⟨h66, e66, hf⟩ := jbind hf
        refine jr_iast K (D_at DX8_move 36 rfl) e66 ?_
        refine jr_iinc K (D_at DX8_move 37 rfl) (i := 6) rfl (v := x6 + (1 : Int32)) (jinc (by decide)) (by decide) (L2 := [_, _, _, _, _, _, _]) rfl ?_
        refine jr_goto K (D_at DX8_move 38 rfl) (tgt := 28) (by decide) ?_
        refine jr_keep [true, true, true, true, true, true, true] ?_
        exact hr28 a0 x1 x2 x3 x4 x5 (x6 + (1 : Int32)) h66 hf
theorem J_X8_move_28 {G : jG} {l : Launch} {d : Nat} {X : jX} {res : (Int32 × jH)} (K : jOK G l mX8_move (d + 2) X) (n : Nat) (rc3 : Nat → Int32 → Int32 → Int32 → Int32 → jH → Option (Int32 × jH)) (hr3 : ∀ (a0 : Nat) (x1 : Int32) (x2 : Int32) (x3 : Int32) (x4 : Int32) (h : jH), rc3 a0 x1 x2 x3 x4 h = some res → jJ G X h 0 0 3 [some (.ref a0), some (.int x1), some (.int x2), some (.int x3), some (.int x4), none, none] []) (E : jEnd G mX8_move (jPW res) X) (k : Nat) : ∀ (a0 : Nat) (x1 : Int32) (x2 : Int32) (x3 : Int32) (x4 : Int32) (x5 : Int32) (x6 : Int32) (h : jH), F_X8_move_28 n rc3 k a0 x1 x2 x3 x4 x5 x6 h = some res → jJ G X h 0 0 28 [some (.ref a0), some (.int x1), some (.int x2), some (.int x3), some (.int x4), some (.int x5), some (.int x6)] [] := by
  induction k with
  | zero =>
    intro a0 x1 x2 x3 x4 x5 x6 h hf
    exact jno (show (none : Option (Int32 × jH)) = some res from hf)
  | succ k ih =>
    intro a0 x1 x2 x3 x4 x5 x6 h hf
    exact J_X8_move_28_b K n rc3 hr3 (F_X8_move_28 n rc3 k) ih E a0 x1 x2 x3 x4 x5 x6 h hf
set_option maxHeartbeats 400000 in
set_option maxRecDepth 100000 in
theorem J_X8_move_3_b {G : jG} {l : Launch} {d : Nat} {X : jX} {res : (Int32 × jH)} (K : jOK G l mX8_move (d + 2) X) (n : Nat) (rc3 : Nat → Int32 → Int32 → Int32 → Int32 → jH → Option (Int32 × jH)) (hr3 : ∀ (a0 : Nat) (x1 : Int32) (x2 : Int32) (x3 : Int32) (x4 : Int32) (h : jH), rc3 a0 x1 x2 x3 x4 h = some res → jJ G X h 0 0 3 [some (.ref a0), some (.int x1), some (.int x2), some (.int x3), some (.int x4), none, none] []) (E : jEnd G mX8_move (jPW res) X) (a0 : Nat) (x1 : Int32) (x2 : Int32) (x3 : Int32) (x4 : Int32) (h : jH) (hf : F_X8_move_3_b n rc3 a0 x1 x2 x3 x4 h = some res) : jJ G X h 0 0 3 [some (.ref a0), some (.int x1), some (.int x2), some (.int x3), some (.int x4), none, none] [] := by
  unfold F_X8_move_3_b at hf
  refine jr_iload K (D_at DX8_move 2 rfl) rfl ?_
  refine jr_iload_n K (D_at DX8_move 3 rfl) rfl rfl ?_
  refine jr_icmp_ge K (D_at DX8_move 4 rfl) (tgt := 106) (by decide) (fun c6 => ?_) (fun c6 => ?_)
  · replace hf := (if_pos c6).symm.trans hf
    refine jr_iload_n K (D_at DX8_move 55 rfl) rfl rfl ?_
    cases hf
    exact jr_iret K E (D_at DX8_move 56 rfl) rfl ⟨rfl, rfl⟩
  · replace hf := (if_neg c6).symm.trans hf
    refine jr_aload_n K (D_at DX8_move 5 rfl) rfl rfl ?_
    refine jr_iload_n K (D_at DX8_move 6 rfl) rfl rfl ?_
    refine jr_iload_n K (D_at DX8_move 7 rfl) rfl rfl ?_
    obtain ⟨v12, e12, hf⟩ := jbind hf
    obtain ⟨rc_12, e12⟩ := jcv_o e12
    refine jr_callV K (C_X8_goers (d) e12) (D_at DX8_move 8 rfl) cv_X8_115_X8_goers (As := [.int x1, .int x2]) (ci := 6) rfl rc_12 rfl rfl (by exact Nat.le_of_ble_eq_true rfl) (kc2 := 0) (ks2 := 0) rfl rfl (fun k9 h9 w9 => by cases w9.1) (fun r9 h9 w9 => ?_)
    obtain ⟨w1, w2⟩ := w9
    subst h9
    cases w1
    show jJ G X _ 0 0 _ _ (.int v12 :: _)
    refine jr_istore K (D_at DX8_move 9 rfl) (i := 5) (by decide) (L2 := [_, _, _, _, _, _, _]) rfl ?_
    refine jr_iload K (D_at DX8_move 10 rfl) rfl ?_
    refine jr_if_ne K (D_at DX8_move 11 rfl) (tgt := 25) (by decide) (fun c19 => ?_) (fun c19 => ?_)
    · replace hf := (if_neg c19).symm.trans hf
      refine jr_iconst K (D_at DX8_move 14 rfl) (v := (0 : Int32)) (by decide) ?_
      refine jr_istore K (D_at DX8_move 15 rfl) (i := 6) (by decide) (L2 := [_, _, _, _, _, _, _]) rfl ?_
      refine jr_keep [true, true, true, true, true, true, true] ?_
      exact J_X8_move_28 K n rc3 hr3 E n a0 x1 x2 x3 x4 v12 (0 : Int32) h hf
    · replace hf := (if_pos c19).symm.trans hf
      refine jr_iload K (D_at DX8_move 12 rfl) rfl ?_
      cases hf
      exact jr_iret K E (D_at DX8_move 13 rfl) rfl ⟨rfl, rfl⟩
theorem J_X8_move_3 {G : jG} {l : Launch} {d : Nat} {X : jX} {res : (Int32 × jH)} (K : jOK G l mX8_move (d + 2) X) (n : Nat) (E : jEnd G mX8_move (jPW res) X) (k : Nat) : ∀ (a0 : Nat) (x1 : Int32) (x2 : Int32) (x3 : Int32) (x4 : Int32) (h : jH), F_X8_move_3 n k a0 x1 x2 x3 x4 h = some res → jJ G X h 0 0 3 [some (.ref a0), some (.int x1), some (.int x2), some (.int x3), some (.int x4), none, none] [] := by
  induction k with
  | zero =>
    intro a0 x1 x2 x3 x4 h hf
    exact jno (show (none : Option (Int32 × jH)) = some res from hf)
  | succ k ih =>
    intro a0 x1 x2 x3 x4 h hf
    exact J_X8_move_3_b K n (F_X8_move_3 n k) ih E a0 x1 x2 x3 x4 h hf
set_option maxHeartbeats 400000 in
set_option maxRecDepth 100000 in
theorem J_X8_move {G : jG} {l : Launch} {d : Nat} {X : jX} {res : (Int32 × jH)} (K : jOK G l mX8_move (d + 2) X) (n : Nat) (E : jEnd G mX8_move (jPW res) X) (a0 : Nat) (x1 : Int32) (x2 : Int32) (x3 : Int32) (h : jH) (hf : F_X8_move n a0 x1 x2 x3 h = some res) : jJ G X h 0 0 0 [some (.ref a0), some (.int x1), some (.int x2), some (.int x3), none, none, none] [] := by
  unfold F_X8_move at hf
  refine jr_iconst K (D_at DX8_move 0 rfl) (v := (0 : Int32)) (by decide) ?_
  refine jr_istore K (D_at DX8_move 1 rfl) (i := 4) (by decide) (L2 := [_, _, _, _, _, _, _]) rfl ?_
  refine jr_keep [true, true, true, true, true, false, false] ?_
  exact J_X8_move_3 K n E n a0 x1 x2 x3 (0 : Int32) h hf
theorem C_X8_move {G : jG} {l : Launch} (d : Nat) {n : Nat} {a0 : Nat} {x1 : Int32} {x2 : Int32} {x3 : Int32} {h : jH} {res : (Int32 × jH)} (hf : F_X8_move n a0 x1 x2 x3 h = some res) : jC G l mX8_move (d + 2) 0 0 [.ref a0, .int x1, .int x2, .int x3] h (jPW res) :=
  jC.of (by decide +kernel) (jcats rfl) (Nat.le_of_ble_eq_true rfl) (fun X K E => J_X8_move K n E a0 x1 x2 x3 h hf)
set_option maxHeartbeats 400000 in
set_option maxRecDepth 100000 in
theorem J_X10_init {G : jG} {l : Launch} {d : Nat} {X : jX} {res : jH} (K : jOK G l mX10_init (d + 1) X) (n : Nat) (E : jEnd G mX10_init (jPV res) X) (a0 : Nat) (h : jH) (hf : F_X10_init n a0 h = some res) : jJ G X h 4 1600 0 [some (.ref a0)] [] := by
  unfold F_X10_init at hf
  refine jr_aload_n K (D_at DX10_init 0 rfl) rfl rfl ?_
  refine jr_objInit K (D_at DX10_init 1 rfl) oi_X10_3 (by exact Nat.le_of_ble_eq_true rfl) ?_
  refine jr_aload_n K (D_at DX10_init 2 rfl) rfl rfl ?_
  refine jr_sipush K (D_at DX10_init 3 rfl) (v := (400 : Int32)) (by decide) ?_
  obtain ⟨h8, e8, hf⟩ := jbind hf
  refine jr_newBE (N := 400) K (D_at DX10_init 4 rfl) ac_byte (by decide) (by decide) (by decide) (kc := 3) (ks := 1200) e8 ?_
  obtain ⟨h10, e10, hf⟩ := jbind hf
  refine jr_putA K (D_at DX10_init 5 rfl) fp_X10_9_8 (Or.inr rfl) e10 ?_
  refine jr_aload_n K (D_at DX10_init 6 rfl) rfl rfl ?_
  refine jr_sipush K (D_at DX10_init 7 rfl) (v := (400 : Int32)) (by decide) ?_
  obtain ⟨h17, e17, hf⟩ := jbind hf
  refine jr_newIE (N := 400) K (D_at DX10_init 8 rfl) ac_int (by decide) (by decide) (by decide) (kc := 2) (ks := 800) e17 ?_
  obtain ⟨h19, e19, hf⟩ := jbind hf
  refine jr_putA K (D_at DX10_init 9 rfl) fp_X10_15_8 (Or.inr rfl) e19 ?_
  refine jr_aload_n K (D_at DX10_init 10 rfl) rfl rfl ?_
  refine jr_sipush K (D_at DX10_init 11 rfl) (v := (400 : Int32)) (by decide) ?_
  obtain ⟨h26, e26, hf⟩ := jbind hf
  refine jr_newIE (N := 400) K (D_at DX10_init 12 rfl) ac_int (by decide) (by decide) (by decide) (kc := 1) (ks := 400) e26 ?_
  obtain ⟨h28, e28, hf⟩ := jbind hf
  refine jr_putA K (D_at DX10_init 13 rfl) fp_X10_19_8 (Or.inr rfl) e28 ?_
  refine jr_aload_n K (D_at DX10_init 14 rfl) rfl rfl ?_
  refine jr_sipush K (D_at DX10_init 15 rfl) (v := (400 : Int32)) (by decide) ?_
  obtain ⟨h35, e35, hf⟩ := jbind hf
  refine jr_newIE (N := 400) K (D_at DX10_init 16 rfl) ac_int (by decide) (by decide) (by decide) (kc := 0) (ks := 0) e35 ?_
  obtain ⟨h37, e37, hf⟩ := jbind hf
  refine jr_putA K (D_at DX10_init 17 rfl) fp_X10_22_8 (Or.inr rfl) e37 ?_
  cases hf
  exact jr_vret K E (D_at DX10_init 18 rfl) rfl ⟨rfl, rfl⟩
theorem C_X10_init {G : jG} {l : Launch} (d : Nat) {n : Nat} {a0 : Nat} {h : jH} {res : jH} (hf : F_X10_init n a0 h = some res) : jC G l mX10_init (d + 1) 4 1600 [.ref a0] h (jPV res) :=
  jC.of (by decide +kernel) (jcats rfl) (Nat.le_of_ble_eq_true rfl) (fun X K E => J_X10_init K n E a0 h hf)
set_option maxHeartbeats 400000 in
set_option maxRecDepth 100000 in
theorem J_X10_hasRoom {G : jG} {l : Launch} {d : Nat} {X : jX} {res : Int32} (K : jOK G l mX10_hasRoom (d) X) (n : Nat) (h : jH) (E : jEnd G mX10_hasRoom (jPR h res) X) (a0 : Nat) (hf : F_X10_hasRoom n a0 h = some res) : jJ G X h 0 0 0 [some (.ref a0)] [] := by
  unfold F_X10_hasRoom at hf
  refine jr_aload_n K (D_at DX10_hasRoom 0 rfl) rfl rfl ?_
  obtain ⟨v1, e1, hf⟩ := jbind hf
  refine jr_getI K (D_at DX10_hasRoom 1 rfl) fg_X10_25_8 e1 ?_
  refine jr_bipush K (D_at DX10_hasRoom 2 rfl) (v := (20 : Int32)) (by decide) ?_
  refine jr_iadd K (D_at DX10_hasRoom 3 rfl) ?_
  refine jr_sipush K (D_at DX10_hasRoom 4 rfl) (v := (400 : Int32)) (by decide) ?_
  refine jr_icmp_gt K (D_at DX10_hasRoom 5 rfl) (tgt := 17) (by decide) (fun c10 => ?_) (fun c10 => ?_)
  · replace hf := (if_pos c10).symm.trans hf
    refine jr_iconst K (D_at DX10_hasRoom 8 rfl) (v := (0 : Int32)) (by decide) ?_
    cases hf
    exact jr_zret K E (D_at DX10_hasRoom 9 rfl) rfl (Or.inl rfl) ⟨rfl, rfl⟩
  · replace hf := (if_neg c10).symm.trans hf
    refine jr_iconst K (D_at DX10_hasRoom 6 rfl) (v := (1 : Int32)) (by decide) ?_
    refine jr_goto K (D_at DX10_hasRoom 7 rfl) (tgt := 18) (by decide) ?_
    cases hf
    exact jr_zret K E (D_at DX10_hasRoom 9 rfl) rfl (Or.inr rfl) ⟨rfl, rfl⟩
theorem C_X10_hasRoom {G : jG} {l : Launch} (d : Nat) {n : Nat} {a0 : Nat} {h : jH} {res : Int32} (hf : F_X10_hasRoom n a0 h = some res) : jC G l mX10_hasRoom (d) 0 0 [.ref a0] h (jPR h res) :=
  jC.of (by decide +kernel) (jcats rfl) (Nat.le_of_ble_eq_true rfl) (fun X K E => J_X10_hasRoom K n h E a0 hf)
set_option maxHeartbeats 400000 in
set_option maxRecDepth 100000 in
theorem J_X10_put_3_b {G : jG} {l : Launch} {d : Nat} {X : jX} {res : jH} (K : jOK G l mX10_put (d) X) (n : Nat) (rc3 : Nat → Int32 → Int32 → jH → Option jH) (hr3 : ∀ (a0 : Nat) (x1 : Int32) (x2 : Int32) (h : jH), rc3 a0 x1 x2 h = some res → jJ G X h 0 0 3 [some (.ref a0), some (.int x1), some (.int x2)] []) (E : jEnd G mX10_put (jPV res) X) (a0 : Nat) (x1 : Int32) (x2 : Int32) (h : jH) (hf : F_X10_put_3_b n rc3 a0 x1 x2 h = some res) : jJ G X h 0 0 3 [some (.ref a0), some (.int x1), some (.int x2)] [] := by
  unfold F_X10_put_3_b at hf
  refine jr_iload_n K (D_at DX10_put 2 rfl) rfl rfl ?_
  refine jr_if_lt K (D_at DX10_put 3 rfl) (tgt := 46) (by decide) (fun c4 => ?_) (fun c4 => ?_)
  · replace hf := (if_pos c4).symm.trans hf
    cases hf
    exact jr_vret K E (D_at DX10_put 25 rfl) rfl ⟨rfl, rfl⟩
  · replace hf := (if_neg c4).symm.trans hf
    refine jr_aload_n K (D_at DX10_put 4 rfl) rfl rfl ?_
    obtain ⟨v8, e8, hf⟩ := jbind hf
    refine jr_getI K (D_at DX10_put 5 rfl) fg_X10_25_8 e8 ?_
    refine jr_sipush K (D_at DX10_put 6 rfl) (v := (400 : Int32)) (by decide) ?_
    refine jr_icmp_ge K (D_at DX10_put 7 rfl) (tgt := 46) (by decide) (fun c14 => ?_) (fun c14 => ?_)
    · replace hf := (if_pos c14).symm.trans hf
      cases hf
      exact jr_vret K E (D_at DX10_put 25 rfl) rfl ⟨rfl, rfl⟩
    · replace hf := (if_neg c14).symm.trans hf
      refine jr_aload_n K (D_at DX10_put 8 rfl) rfl rfl ?_
      obtain ⟨p18, e18, hf⟩ := jbind hf
      refine jr_getR K (D_at DX10_put 9 rfl) fg_X10_9_8 e18 ?_
      refine jr_aload_n K (D_at DX10_put 10 rfl) rfl rfl ?_
      obtain ⟨v22, e22, hf⟩ := jbind hf
      refine jr_getI K (D_at DX10_put 11 rfl) fg_X10_25_8 e22 ?_
      refine jr_iload_n K (D_at DX10_put 12 rfl) rfl rfl ?_
      refine jr_iload_n K (D_at DX10_put 13 rfl) rfl rfl ?_
      refine jr_iushr K (D_at DX10_put 14 rfl) (v := jushr x1 x2) rfl ?_
      refine jr_i2b K (D_at DX10_put 15 rfl) (v := (jushr x1 x2).toInt8.toInt32) rfl ?_
      obtain ⟨h29, e29, hf⟩ := jbind hf
      refine jr_bast K (D_at DX10_put 16 rfl) e29 ?_
      refine jr_aload_n K (D_at DX10_put 17 rfl) rfl rfl ?_
      refine jr_dup K (D_at DX10_put 18 rfl) rfl ?_
      obtain ⟨v32, e32, hf⟩ := jbind hf
      refine jr_getI K (D_at DX10_put 19 rfl) fg_X10_25_8 e32 ?_
      refine jr_iconst K (D_at DX10_put 20 rfl) (v := (1 : Int32)) (by decide) ?_
      refine jr_iadd K (D_at DX10_put 21 rfl) ?_
      obtain ⟨h37, e37, hf⟩ := jbind hf
      refine jr_putI K (D_at DX10_put 22 rfl) fp_X10_25_8 (Or.inl rfl) e37 ?_
      refine jr_iinc K (D_at DX10_put 23 rfl) (i := 2) rfl (v := x2 + (-8 : Int32)) (jinc (by decide)) (by decide) (L2 := [_, _, _]) rfl ?_
      refine jr_goto K (D_at DX10_put 24 rfl) (tgt := 3) (by decide) ?_
      refine jr_keep [true, true, true] ?_
      exact hr3 a0 x1 (x2 + (-8 : Int32)) h37 hf
theorem J_X10_put_3 {G : jG} {l : Launch} {d : Nat} {X : jX} {res : jH} (K : jOK G l mX10_put (d) X) (n : Nat) (E : jEnd G mX10_put (jPV res) X) (k : Nat) : ∀ (a0 : Nat) (x1 : Int32) (x2 : Int32) (h : jH), F_X10_put_3 n k a0 x1 x2 h = some res → jJ G X h 0 0 3 [some (.ref a0), some (.int x1), some (.int x2)] [] := by
  induction k with
  | zero =>
    intro a0 x1 x2 h hf
    exact jno (show (none : Option jH) = some res from hf)
  | succ k ih =>
    intro a0 x1 x2 h hf
    exact J_X10_put_3_b K n (F_X10_put_3 n k) ih E a0 x1 x2 h hf
set_option maxHeartbeats 400000 in
set_option maxRecDepth 100000 in
theorem J_X10_put {G : jG} {l : Launch} {d : Nat} {X : jX} {res : jH} (K : jOK G l mX10_put (d) X) (n : Nat) (E : jEnd G mX10_put (jPV res) X) (a0 : Nat) (x1 : Int32) (h : jH) (hf : F_X10_put n a0 x1 h = some res) : jJ G X h 0 0 0 [some (.ref a0), some (.int x1), none] [] := by
  unfold F_X10_put at hf
  refine jr_bipush K (D_at DX10_put 0 rfl) (v := (24 : Int32)) (by decide) ?_
  refine jr_istore_n K (D_at DX10_put 1 rfl) (i := 2) rfl (by decide) (L2 := [_, _, _]) rfl ?_
  refine jr_keep [true, true, true] ?_
  exact J_X10_put_3 K n E n a0 x1 (24 : Int32) h hf
theorem C_X10_put {G : jG} {l : Launch} (d : Nat) {n : Nat} {a0 : Nat} {x1 : Int32} {h : jH} {res : jH} (hf : F_X10_put n a0 x1 h = some res) : jC G l mX10_put (d) 0 0 [.ref a0, .int x1] h (jPV res) :=
  jC.of (by decide +kernel) (jcats rfl) (Nat.le_of_ble_eq_true rfl) (fun X K E => J_X10_put K n E a0 x1 h hf)
set_option maxHeartbeats 400000 in
set_option maxRecDepth 100000 in
theorem J_X10_at {G : jG} {l : Launch} {d : Nat} {X : jX} {res : Int32} (K : jOK G l mX10_at (d) X) (n : Nat) (h : jH) (E : jEnd G mX10_at (jPR h res) X) (a0 : Nat) (x1 : Int32) (hf : F_X10_at n a0 x1 h = some res) : jJ G X h 0 0 0 [some (.ref a0), some (.int x1)] [] := by
  unfold F_X10_at at hf
  refine jr_iload_n K (D_at DX10_at 0 rfl) rfl rfl ?_
  refine jr_if_lt K (D_at DX10_at 1 rfl) (tgt := 19) (by decide) (fun c1 => ?_) (fun c1 => ?_)
  · replace hf := (if_pos c1).symm.trans hf
    refine jr_iconst K (D_at DX10_at 9 rfl) (v := (-1 : Int32)) (by decide) ?_
    refine jr_goto K (D_at DX10_at 10 rfl) (tgt := 33) (by decide) ?_
    cases hf
    exact jr_iret K E (D_at DX10_at 17 rfl) rfl ⟨rfl, rfl⟩
  · replace hf := (if_neg c1).symm.trans hf
    refine jr_iload_n K (D_at DX10_at 2 rfl) rfl rfl ?_
    refine jr_aload_n K (D_at DX10_at 3 rfl) rfl rfl ?_
    obtain ⟨v6, e6, hf⟩ := jbind hf
    refine jr_getI K (D_at DX10_at 4 rfl) fg_X10_25_8 e6 ?_
    refine jr_icmp_ge K (D_at DX10_at 5 rfl) (tgt := 19) (by decide) (fun c9 => ?_) (fun c9 => ?_)
    · replace hf := (if_pos c9).symm.trans hf
      refine jr_iconst K (D_at DX10_at 9 rfl) (v := (-1 : Int32)) (by decide) ?_
      refine jr_goto K (D_at DX10_at 10 rfl) (tgt := 33) (by decide) ?_
      cases hf
      exact jr_iret K E (D_at DX10_at 17 rfl) rfl ⟨rfl, rfl⟩
    · replace hf := (if_neg c9).symm.trans hf
      refine jr_iload_n K (D_at DX10_at 6 rfl) rfl rfl ?_
      refine jr_sipush K (D_at DX10_at 7 rfl) (v := (400 : Int32)) (by decide) ?_
      refine jr_icmp_lt K (D_at DX10_at 8 rfl) (tgt := 23) (by decide) (fun c16 => ?_) (fun c16 => ?_)
      · replace hf := (if_pos c16).symm.trans hf
        refine jr_aload_n K (D_at DX10_at 11 rfl) rfl rfl ?_
        obtain ⟨p24, e24, hf⟩ := jbind hf
        refine jr_getR K (D_at DX10_at 12 rfl) fg_X10_9_8 e24 ?_
        refine jr_iload_n K (D_at DX10_at 13 rfl) rfl rfl ?_
        obtain ⟨v28, e28, hf⟩ := jbind hf
        refine jr_bald K (D_at DX10_at 14 rfl) e28 ?_
        refine jr_sipush K (D_at DX10_at 15 rfl) (v := (255 : Int32)) (by decide) ?_
        refine jr_iand K (D_at DX10_at 16 rfl) ?_
        cases hf
        exact jr_iret K E (D_at DX10_at 17 rfl) rfl ⟨rfl, rfl⟩
      · replace hf := (if_neg c16).symm.trans hf
        refine jr_iconst K (D_at DX10_at 9 rfl) (v := (-1 : Int32)) (by decide) ?_
        refine jr_goto K (D_at DX10_at 10 rfl) (tgt := 33) (by decide) ?_
        cases hf
        exact jr_iret K E (D_at DX10_at 17 rfl) rfl ⟨rfl, rfl⟩
theorem C_X10_at {G : jG} {l : Launch} (d : Nat) {n : Nat} {a0 : Nat} {x1 : Int32} {h : jH} {res : Int32} (hf : F_X10_at n a0 x1 h = some res) : jC G l mX10_at (d) 0 0 [.ref a0, .int x1] h (jPR h res) :=
  jC.of (by decide +kernel) (jcats rfl) (Nat.le_of_ble_eq_true rfl) (fun X K E => J_X10_at K n h E a0 x1 hf)
set_option maxHeartbeats 400000 in
set_option maxRecDepth 100000 in
theorem J_X10_endOfRow_3_b {G : jG} {l : Launch} {d : Nat} {X : jX} {res : Int32} (K : jOK G l mX10_endOfRow (d + 1) X) (n : Nat) (h : jH) (rc3 : Nat → Int32 → Int32 → Int32 → jH → Option Int32) (hr3 : ∀ (a0 : Nat) (x2 : Int32) (x3 : Int32) (x4 : Int32), rc3 a0 x2 x3 x4 h = some res → jJ G X h 0 0 3 [some (.ref a0), none, some (.int x2), some (.int x3), some (.int x4)] []) (E : jEnd G mX10_endOfRow (jPR h res) X) (a0 : Nat) (x2 : Int32) (x3 : Int32) (x4 : Int32) (hf : F_X10_endOfRow_3_b n rc3 a0 x2 x3 x4 h = some res) : jJ G X h 0 0 3 [some (.ref a0), none, some (.int x2), some (.int x3), some (.int x4)] [] := by
  unfold F_X10_endOfRow_3_b at hf
  refine jr_iload K (D_at DX10_endOfRow 2 rfl) rfl ?_
  refine jr_aload_n K (D_at DX10_endOfRow 3 rfl) rfl rfl ?_
  obtain ⟨v6, e6, hf⟩ := jbind hf
  refine jr_getI K (D_at DX10_endOfRow 4 rfl) fg_X10_25_8 e6 ?_
  refine jr_icmp_ge K (D_at DX10_endOfRow 5 rfl) (tgt := 38) (by decide) (fun c9 => ?_) (fun c9 => ?_)
  · replace hf := (if_pos c9).symm.trans hf
    refine jr_iload K (D_at DX10_endOfRow 18 rfl) rfl ?_
    cases hf
    exact jr_iret K E (D_at DX10_endOfRow 19 rfl) rfl ⟨rfl, rfl⟩
  · replace hf := (if_neg c9).symm.trans hf
    refine jr_aload_n K (D_at DX10_endOfRow 6 rfl) rfl rfl ?_
    refine jr_iload K (D_at DX10_endOfRow 7 rfl) rfl ?_
    obtain ⟨v15, e15, hf⟩ := jbind hf
    obtain ⟨rc_15, e15⟩ := jcv_o e15
    refine jr_callV K (C_X10_at (d) e15) (D_at DX10_endOfRow 8 rfl) cv_X10_35_X10_at (As := [.int x4]) (ci := 8) rfl rc_15 rfl rfl (by exact Nat.le_of_ble_eq_true rfl) (kc2 := 0) (ks2 := 0) rfl rfl (fun k9 h9 w9 => by cases w9.1) (fun r9 h9 w9 => ?_)
    obtain ⟨w1, w2⟩ := w9
    subst h9
    cases w1
    show jJ G X _ 0 0 _ _ (.int v15 :: _)
    refine jr_iload_n K (D_at DX10_endOfRow 9 rfl) rfl rfl ?_
    refine jr_icmp_lt K (D_at DX10_endOfRow 10 rfl) (tgt := 38) (by decide) (fun c19 => ?_) (fun c19 => ?_)
    · replace hf := (if_pos c19).symm.trans hf
      refine jr_iload K (D_at DX10_endOfRow 18 rfl) rfl ?_
      cases hf
      exact jr_iret K E (D_at DX10_endOfRow 19 rfl) rfl ⟨rfl, rfl⟩
    · replace hf := (if_neg c19).symm.trans hf
      refine jr_aload_n K (D_at DX10_endOfRow 11 rfl) rfl rfl ?_
      refine jr_iload K (D_at DX10_endOfRow 12 rfl) rfl ?_
      obtain ⟨v25, e25, hf⟩ := jbind hf
      obtain ⟨rc_25, e25⟩ := jcv_o e25
      refine jr_callV K (C_X10_at (d) e25) (D_at DX10_endOfRow 13 rfl) cv_X10_35_X10_at (As := [.int x4]) (ci := 8) rfl rc_25 rfl rfl (by exact Nat.le_of_ble_eq_true rfl) (kc2 := 0) (ks2 := 0) rfl rfl (fun k9 h9 w9 => by cases w9.1) (fun r9 h9 w9 => ?_)
      obtain ⟨w1, w2⟩ := w9
      subst h9
      cases w1
      show jJ G X _ 0 0 _ _ (.int v25 :: _)
      refine jr_iload_n K (D_at DX10_endOfRow 14 rfl) rfl rfl ?_
      refine jr_icmp_gt K (D_at DX10_endOfRow 15 rfl) (tgt := 38) (by decide) (fun c29 => ?_) (fun c29 => ?_)
      · replace hf := (if_pos c29).symm.trans hf
        refine jr_iload K (D_at DX10_endOfRow 18 rfl) rfl ?_
        cases hf
        exact jr_iret K E (D_at DX10_endOfRow 19 rfl) rfl ⟨rfl, rfl⟩
      · replace hf := (if_neg c29).symm.trans hf
        refine jr_iinc K (D_at DX10_endOfRow 16 rfl) (i := 4) rfl (v := x4 + (1 : Int32)) (jinc (by decide)) (by decide) (L2 := [_, _, _, _, _]) rfl ?_
        refine jr_goto K (D_at DX10_endOfRow 17 rfl) (tgt := 3) (by decide) ?_
        refine jr_keep [true, false, true, true, true] ?_
        exact hr3 a0 x2 x3 (x4 + (1 : Int32)) hf
theorem J_X10_endOfRow_3 {G : jG} {l : Launch} {d : Nat} {X : jX} {res : Int32} (K : jOK G l mX10_endOfRow (d + 1) X) (n : Nat) (h : jH) (E : jEnd G mX10_endOfRow (jPR h res) X) (k : Nat) : ∀ (a0 : Nat) (x2 : Int32) (x3 : Int32) (x4 : Int32), F_X10_endOfRow_3 n k a0 x2 x3 x4 h = some res → jJ G X h 0 0 3 [some (.ref a0), none, some (.int x2), some (.int x3), some (.int x4)] [] := by
  induction k with
  | zero =>
    intro a0 x2 x3 x4 hf
    exact jno (show (none : Option Int32) = some res from hf)
  | succ k ih =>
    intro a0 x2 x3 x4 hf
    exact J_X10_endOfRow_3_b K n h (F_X10_endOfRow_3 n k) ih E a0 x2 x3 x4 hf
set_option maxHeartbeats 400000 in
set_option maxRecDepth 100000 in
theorem J_X10_endOfRow {G : jG} {l : Launch} {d : Nat} {X : jX} {res : Int32} (K : jOK G l mX10_endOfRow (d + 1) X) (n : Nat) (h : jH) (E : jEnd G mX10_endOfRow (jPR h res) X) (a0 : Nat) (x1 : Int32) (x2 : Int32) (x3 : Int32) (hf : F_X10_endOfRow n a0 x1 x2 x3 h = some res) : jJ G X h 0 0 0 [some (.ref a0), some (.int x1), some (.int x2), some (.int x3), none] [] := by
  unfold F_X10_endOfRow at hf
  refine jr_iload_n K (D_at DX10_endOfRow 0 rfl) rfl rfl ?_
  refine jr_istore K (D_at DX10_endOfRow 1 rfl) (i := 4) (by decide) (L2 := [_, _, _, _, _]) rfl ?_
  refine jr_keep [true, false, true, true, true] ?_
  exact J_X10_endOfRow_3 K n h E n a0 x2 x3 x1 hf
theorem C_X10_endOfRow {G : jG} {l : Launch} (d : Nat) {n : Nat} {a0 : Nat} {x1 : Int32} {x2 : Int32} {x3 : Int32} {h : jH} {res : Int32} (hf : F_X10_endOfRow n a0 x1 x2 x3 h = some res) : jC G l mX10_endOfRow (d + 1) 0 0 [.ref a0, .int x1, .int x2, .int x3] h (jPR h res) :=
  jC.of (by decide +kernel) (jcats rfl) (Nat.le_of_ble_eq_true rfl) (fun X K E => J_X10_endOfRow K n h E a0 x1 x2 x3 hf)
set_option maxHeartbeats 400000 in
set_option maxRecDepth 100000 in
theorem J_X10_standsAt_3_b {G : jG} {l : Launch} {d : Nat} {X : jX} {res : Int32} (K : jOK G l mX10_standsAt (d + 6) X) (n : Nat) (h : jH) (rc3 : Nat → Int32 → Int32 → Int32 → Int32 → jH → Option Int32) (hr3 : ∀ (a0 : Nat) (x1 : Int32) (x2 : Int32) (x3 : Int32) (x4 : Int32), rc3 a0 x1 x2 x3 x4 h = some res → jJ G X h 0 0 3 [some (.ref a0), some (.int x1), some (.int x2), some (.int x3), some (.int x4)] []) (E : jEnd G mX10_standsAt (jPR h res) X) (a0 : Nat) (x1 : Int32) (x2 : Int32) (x3 : Int32) (x4 : Int32) (hf : F_X10_standsAt_3_b n rc3 a0 x1 x2 x3 x4 h = some res) : jJ G X h 0 0 3 [some (.ref a0), some (.int x1), some (.int x2), some (.int x3), some (.int x4)] [] := by
  unfold F_X10_standsAt_3_b at hf
  refine jr_iload K (D_at DX10_standsAt 2 rfl) rfl ?_
  refine jr_iload_n K (D_at DX10_standsAt 3 rfl) rfl rfl ?_
  refine jr_icmp_ge K (D_at DX10_standsAt 4 rfl) (tgt := 37) (by decide) (fun c6 => ?_) (fun c6 => ?_)
  · replace hf := (if_pos c6).symm.trans hf
    refine jr_iconst K (D_at DX10_standsAt 20 rfl) (v := (1 : Int32)) (by decide) ?_
    cases hf
    exact jr_zret K E (D_at DX10_standsAt 21 rfl) rfl (Or.inr rfl) ⟨rfl, rfl⟩
  · replace hf := (if_neg c6).symm.trans hf
    refine jr_aload_n K (D_at DX10_standsAt 5 rfl) rfl rfl ?_
    refine jr_iload_n K (D_at DX10_standsAt 6 rfl) rfl rfl ?_
    refine jr_iload K (D_at DX10_standsAt 7 rfl) rfl ?_
    refine jr_iadd K (D_at DX10_standsAt 8 rfl) ?_
    refine jr_iload_n K (D_at DX10_standsAt 9 rfl) rfl rfl ?_
    refine jr_isub K (D_at DX10_standsAt 10 rfl) ?_
    obtain ⟨v16, e16, hf⟩ := jbind hf
    obtain ⟨rc_16, e16⟩ := jcv_o e16
    refine jr_callV K (C_X10_at (d + 5) e16) (D_at DX10_standsAt 11 rfl) cv_X10_35_X10_at (As := [.int ((x1 + x4) - x2)]) (ci := 8) rfl rc_16 rfl rfl (by exact Nat.le_of_ble_eq_true rfl) (kc2 := 0) (ks2 := 0) rfl rfl (fun k9 h9 w9 => by cases w9.1) (fun r9 h9 w9 => ?_)
    obtain ⟨w1, w2⟩ := w9
    subst h9
    cases w1
    show jJ G X _ 0 0 _ _ (.int v16 :: _)
    refine jr_ldcS K (D_at DX10_standsAt 12 rfl) (i := 0) rfl ?_
    refine jr_iload K (D_at DX10_standsAt 13 rfl) rfl ?_
    obtain ⟨v23, e23, hf⟩ := jbind hf
    refine jr_schar K (D_at DX10_standsAt 14 rfl) ss_X10_60 (by exact Nat.le_of_ble_eq_true rfl) e23 ?_
    refine jr_icmp_eq K (D_at DX10_standsAt 15 rfl) (tgt := 31) (by decide) (fun c26 => ?_) (fun c26 => ?_)
    · replace hf := (if_pos c26).symm.trans hf
      refine jr_iinc K (D_at DX10_standsAt 18 rfl) (i := 4) rfl (v := x4 + (1 : Int32)) (jinc (by decide)) (by decide) (L2 := [_, _, _, _, _]) rfl ?_
      refine jr_goto K (D_at DX10_standsAt 19 rfl) (tgt := 3) (by decide) ?_
      refine jr_keep [true, true, true, true, true] ?_
      exact hr3 a0 x1 x2 x3 (x4 + (1 : Int32)) hf
    · replace hf := (if_neg c26).symm.trans hf
      refine jr_iconst K (D_at DX10_standsAt 16 rfl) (v := (0 : Int32)) (by decide) ?_
      cases hf
      exact jr_zret K E (D_at DX10_standsAt 17 rfl) rfl (Or.inl rfl) ⟨rfl, rfl⟩
theorem J_X10_standsAt_3 {G : jG} {l : Launch} {d : Nat} {X : jX} {res : Int32} (K : jOK G l mX10_standsAt (d + 6) X) (n : Nat) (h : jH) (E : jEnd G mX10_standsAt (jPR h res) X) (k : Nat) : ∀ (a0 : Nat) (x1 : Int32) (x2 : Int32) (x3 : Int32) (x4 : Int32), F_X10_standsAt_3 n k a0 x1 x2 x3 x4 h = some res → jJ G X h 0 0 3 [some (.ref a0), some (.int x1), some (.int x2), some (.int x3), some (.int x4)] [] := by
  induction k with
  | zero =>
    intro a0 x1 x2 x3 x4 hf
    exact jno (show (none : Option Int32) = some res from hf)
  | succ k ih =>
    intro a0 x1 x2 x3 x4 hf
    exact J_X10_standsAt_3_b K n h (F_X10_standsAt_3 n k) ih E a0 x1 x2 x3 x4 hf
set_option maxHeartbeats 400000 in
set_option maxRecDepth 100000 in
theorem J_X10_standsAt {G : jG} {l : Launch} {d : Nat} {X : jX} {res : Int32} (K : jOK G l mX10_standsAt (d + 6) X) (n : Nat) (h : jH) (E : jEnd G mX10_standsAt (jPR h res) X) (a0 : Nat) (x1 : Int32) (x2 : Int32) (x3 : Int32) (hf : F_X10_standsAt n a0 x1 x2 x3 h = some res) : jJ G X h 0 0 0 [some (.ref a0), some (.int x1), some (.int x2), some (.int x3), none] [] := by
  unfold F_X10_standsAt at hf
  refine jr_iload_n K (D_at DX10_standsAt 0 rfl) rfl rfl ?_
  refine jr_istore K (D_at DX10_standsAt 1 rfl) (i := 4) (by decide) (L2 := [_, _, _, _, _]) rfl ?_
  refine jr_keep [true, true, true, true, true] ?_
  exact J_X10_standsAt_3 K n h E n a0 x1 x2 x3 x2 hf
theorem C_X10_standsAt {G : jG} {l : Launch} (d : Nat) {n : Nat} {a0 : Nat} {x1 : Int32} {x2 : Int32} {x3 : Int32} {h : jH} {res : Int32} (hf : F_X10_standsAt n a0 x1 x2 x3 h = some res) : jC G l mX10_standsAt (d + 6) 0 0 [.ref a0, .int x1, .int x2, .int x3] h (jPR h res) :=
  jC.of (by decide +kernel) (jcats rfl) (Nat.le_of_ble_eq_true rfl) (fun X K E => J_X10_standsAt K n h E a0 x1 x2 x3 hf)
set_option maxHeartbeats 400000 in
set_option maxRecDepth 100000 in
theorem J_X10_wordBetween_8_b {G : jG} {l : Launch} {d : Nat} {X : jX} {res : Int32} (K : jOK G l mX10_wordBetween (d + 7) X) (n : Nat) (h : jH) (rc8 : Nat → Int32 → Int32 → Int32 → Int32 → Int32 → jH → Option Int32) (hr8 : ∀ (a0 : Nat) (x1 : Int32) (x2 : Int32) (x3 : Int32) (x4 : Int32) (x5 : Int32), rc8 a0 x1 x2 x3 x4 x5 h = some res → jJ G X h 0 0 8 [some (.ref a0), some (.int x1), some (.int x2), some (.int x3), some (.int x4), some (.int x5)] []) (E : jEnd G mX10_wordBetween (jPR h res) X) (a0 : Nat) (x1 : Int32) (x2 : Int32) (x3 : Int32) (x4 : Int32) (x5 : Int32) (hf : F_X10_wordBetween_8_b n rc8 a0 x1 x2 x3 x4 x5 h = some res) : jJ G X h 0 0 8 [some (.ref a0), some (.int x1), some (.int x2), some (.int x3), some (.int x4), some (.int x5)] [] := by
  unfold F_X10_wordBetween_8_b at hf
  refine jr_iload K (D_at DX10_wordBetween 6 rfl) rfl ?_
  refine jr_ldcS K (D_at DX10_wordBetween 7 rfl) (i := 0) rfl ?_
  obtain ⟨v12, e12, hf⟩ := jbind hf
  refine jr_slen K (D_at DX10_wordBetween 8 rfl) ss_X10_55 (by exact Nat.le_of_ble_eq_true rfl) e12 ?_
  refine jr_icmp_ge K (D_at DX10_wordBetween 9 rfl) (tgt := 70) (by decide) (fun c15 => ?_) (fun c15 => ?_)
  · replace hf := (if_pos c15).symm.trans hf
    refine jr_bipush K (D_at DX10_wordBetween 37 rfl) (v := (-2 : Int32)) (by decide) ?_
    cases hf
    exact jr_iret K E (D_at DX10_wordBetween 38 rfl) rfl ⟨rfl, rfl⟩
  · replace hf := (if_neg c15).symm.trans hf
    refine jr_ldcS K (D_at DX10_wordBetween 10 rfl) (i := 0) rfl ?_
    refine jr_iload K (D_at DX10_wordBetween 11 rfl) rfl ?_
    obtain ⟨v22, e22, hf⟩ := jbind hf
    refine jr_schar K (D_at DX10_wordBetween 12 rfl) ss_X10_60 (by exact Nat.le_of_ble_eq_true rfl) e22 ?_
    refine jr_bipush K (D_at DX10_wordBetween 13 rfl) (v := (32 : Int32)) (by decide) ?_
    refine jr_icmp_ne K (D_at DX10_wordBetween 14 rfl) (tgt := 64) (by decide) (fun c27 => ?_) (fun c27 => ?_)
    · replace hf := (if_neg c27).symm.trans hf
      refine jr_iinc K (D_at DX10_wordBetween 35 rfl) (i := 5) rfl (v := x5 + (1 : Int32)) (jinc (by decide)) (by decide) (L2 := [_, _, _, _, _, _]) rfl ?_
      refine jr_goto K (D_at DX10_wordBetween 36 rfl) (tgt := 8) (by decide) ?_
      refine jr_keep [true, true, true, true, true, true] ?_
      exact hr8 a0 x1 x2 x3 x4 (x5 + (1 : Int32)) hf
    · replace hf := (if_pos c27).symm.trans hf
      refine jr_iload K (D_at DX10_wordBetween 15 rfl) rfl ?_
      refine jr_iload K (D_at DX10_wordBetween 16 rfl) rfl ?_
      refine jr_isub K (D_at DX10_wordBetween 17 rfl) ?_
      refine jr_iload_n K (D_at DX10_wordBetween 18 rfl) rfl rfl ?_
      refine jr_iload_n K (D_at DX10_wordBetween 19 rfl) rfl rfl ?_
      refine jr_isub K (D_at DX10_wordBetween 20 rfl) ?_
      refine jr_icmp_ne K (D_at DX10_wordBetween 21 rfl) (tgt := 55) (by decide) (fun c38 => ?_) (fun c38 => ?_)
      · replace hf := (if_neg c38).symm.trans hf
        refine jr_iinc K (D_at DX10_wordBetween 30 rfl) (i := 3) rfl (v := x3 + (1 : Int32)) (jinc (by decide)) (by decide) (L2 := [_, _, _, _, _, _]) rfl ?_
        refine jr_iload K (D_at DX10_wordBetween 31 rfl) rfl ?_
        refine jr_iconst K (D_at DX10_wordBetween 32 rfl) (v := (1 : Int32)) (by decide) ?_
        refine jr_iadd K (D_at DX10_wordBetween 33 rfl) ?_
        refine jr_istore K (D_at DX10_wordBetween 34 rfl) (i := 4) (by decide) (L2 := [_, _, _, _, _, _]) rfl ?_
        refine jr_iinc K (D_at DX10_wordBetween 35 rfl) (i := 5) rfl (v := x5 + (1 : Int32)) (jinc (by decide)) (by decide) (L2 := [_, _, _, _, _, _]) rfl ?_
        refine jr_goto K (D_at DX10_wordBetween 36 rfl) (tgt := 8) (by decide) ?_
        refine jr_keep [true, true, true, true, true, true] ?_
        exact hr8 a0 x1 x2 (x3 + (1 : Int32)) (x5 + (1 : Int32)) (x5 + (1 : Int32)) hf
      · replace hf := (if_pos c38).symm.trans hf
        refine jr_aload_n K (D_at DX10_wordBetween 22 rfl) rfl rfl ?_
        refine jr_iload_n K (D_at DX10_wordBetween 23 rfl) rfl rfl ?_
        refine jr_iload K (D_at DX10_wordBetween 24 rfl) rfl ?_
        refine jr_iload K (D_at DX10_wordBetween 25 rfl) rfl ?_
        obtain ⟨v47, e47, hf⟩ := jbind hf
        obtain ⟨rc_47, e47⟩ := jcv_o e47
        refine jr_callV K (C_X10_standsAt (d) e47) (D_at DX10_wordBetween 26 rfl) cv_X10_64_X10_standsAt (As := [.int x1, .int x4, .int x5]) (ci := 8) rfl rc_47 rfl rfl (by exact Nat.le_of_ble_eq_true rfl) (kc2 := 0) (ks2 := 0) rfl rfl (fun k9 h9 w9 => by cases w9.1) (fun r9 h9 w9 => ?_)
        obtain ⟨w1, w2⟩ := w9
        subst h9
        cases w1
        show jJ G X _ 0 0 _ _ (.int v47 :: _)
        refine jr_if_eq K (D_at DX10_wordBetween 27 rfl) (tgt := 55) (by decide) (fun c50 => ?_) (fun c50 => ?_)
        · replace hf := (if_pos c50).symm.trans hf
          refine jr_iinc K (D_at DX10_wordBetween 30 rfl) (i := 3) rfl (v := x3 + (1 : Int32)) (jinc (by decide)) (by decide) (L2 := [_, _, _, _, _, _]) rfl ?_
          refine jr_iload K (D_at DX10_wordBetween 31 rfl) rfl ?_
          refine jr_iconst K (D_at DX10_wordBetween 32 rfl) (v := (1 : Int32)) (by decide) ?_
          refine jr_iadd K (D_at DX10_wordBetween 33 rfl) ?_
          refine jr_istore K (D_at DX10_wordBetween 34 rfl) (i := 4) (by decide) (L2 := [_, _, _, _, _, _]) rfl ?_
          refine jr_iinc K (D_at DX10_wordBetween 35 rfl) (i := 5) rfl (v := x5 + (1 : Int32)) (jinc (by decide)) (by decide) (L2 := [_, _, _, _, _, _]) rfl ?_
          refine jr_goto K (D_at DX10_wordBetween 36 rfl) (tgt := 8) (by decide) ?_
          refine jr_keep [true, true, true, true, true, true] ?_
          exact hr8 a0 x1 x2 (x3 + (1 : Int32)) (x5 + (1 : Int32)) (x5 + (1 : Int32)) hf
        · replace hf := (if_neg c50).symm.trans hf
          refine jr_iload_n K (D_at DX10_wordBetween 28 rfl) rfl rfl ?_
          cases hf
          exact jr_iret K E (D_at DX10_wordBetween 29 rfl) rfl ⟨rfl, rfl⟩
theorem J_X10_wordBetween_8 {G : jG} {l : Launch} {d : Nat} {X : jX} {res : Int32} (K : jOK G l mX10_wordBetween (d + 7) X) (n : Nat) (h : jH) (E : jEnd G mX10_wordBetween (jPR h res) X) (k : Nat) : ∀ (a0 : Nat) (x1 : Int32) (x2 : Int32) (x3 : Int32) (x4 : Int32) (x5 : Int32), F_X10_wordBetween_8 n k a0 x1 x2 x3 x4 x5 h = some res → jJ G X h 0 0 8 [some (.ref a0), some (.int x1), some (.int x2), some (.int x3), some (.int x4), some (.int x5)] [] := by
  induction k with
  | zero =>
    intro a0 x1 x2 x3 x4 x5 hf
    exact jno (show (none : Option Int32) = some res from hf)
  | succ k ih =>
    intro a0 x1 x2 x3 x4 x5 hf
    exact J_X10_wordBetween_8_b K n h (F_X10_wordBetween_8 n k) ih E a0 x1 x2 x3 x4 x5 hf
set_option maxHeartbeats 400000 in
set_option maxRecDepth 100000 in
theorem J_X10_wordBetween {G : jG} {l : Launch} {d : Nat} {X : jX} {res : Int32} (K : jOK G l mX10_wordBetween (d + 7) X) (n : Nat) (h : jH) (E : jEnd G mX10_wordBetween (jPR h res) X) (a0 : Nat) (x1 : Int32) (x2 : Int32) (hf : F_X10_wordBetween n a0 x1 x2 h = some res) : jJ G X h 0 0 0 [some (.ref a0), some (.int x1), some (.int x2), none, none, none] [] := by
  unfold F_X10_wordBetween at hf
  refine jr_iconst K (D_at DX10_wordBetween 0 rfl) (v := (0 : Int32)) (by decide) ?_
  refine jr_istore_n K (D_at DX10_wordBetween 1 rfl) (i := 3) rfl (by decide) (L2 := [_, _, _, _, _, _]) rfl ?_
  refine jr_iconst K (D_at DX10_wordBetween 2 rfl) (v := (0 : Int32)) (by decide) ?_
  refine jr_istore K (D_at DX10_wordBetween 3 rfl) (i := 4) (by decide) (L2 := [_, _, _, _, _, _]) rfl ?_
  refine jr_iconst K (D_at DX10_wordBetween 4 rfl) (v := (0 : Int32)) (by decide) ?_
  refine jr_istore K (D_at DX10_wordBetween 5 rfl) (i := 5) (by decide) (L2 := [_, _, _, _, _, _]) rfl ?_
  refine jr_keep [true, true, true, true, true, true] ?_
  exact J_X10_wordBetween_8 K n h E n a0 x1 x2 (0 : Int32) (0 : Int32) (0 : Int32) hf
theorem C_X10_wordBetween {G : jG} {l : Launch} (d : Nat) {n : Nat} {a0 : Nat} {x1 : Int32} {x2 : Int32} {h : jH} {res : Int32} (hf : F_X10_wordBetween n a0 x1 x2 h = some res) : jC G l mX10_wordBetween (d + 7) 0 0 [.ref a0, .int x1, .int x2] h (jPR h res) :=
  jC.of (by decide +kernel) (jcats rfl) (Nat.le_of_ble_eq_true rfl) (fun X K E => J_X10_wordBetween K n h E a0 x1 x2 hf)
set_option maxHeartbeats 400000 in
set_option maxRecDepth 100000 in
theorem J_X10_numberBetween_16_b {G : jG} {l : Launch} {d : Nat} {X : jX} {res : Int32} (K : jOK G l mX10_numberBetween (d + 1) X) (n : Nat) (h : jH) (rc16 : Nat → Int32 → Int32 → Int32 → jH → Option Int32) (hr16 : ∀ (a0 : Nat) (x2 : Int32) (x3 : Int32) (x4 : Int32), rc16 a0 x2 x3 x4 h = some res → jJ G X h 0 0 16 [some (.ref a0), none, some (.int x2), some (.int x3), some (.int x4)] []) (E : jEnd G mX10_numberBetween (jPR h res) X) (a0 : Nat) (x2 : Int32) (x3 : Int32) (x4 : Int32) (hf : F_X10_numberBetween_16_b n rc16 a0 x2 x3 x4 h = some res) : jJ G X h 0 0 16 [some (.ref a0), none, some (.int x2), some (.int x3), some (.int x4)] [] := by
  unfold F_X10_numberBetween_16_b at hf
  refine jr_iload K (D_at DX10_numberBetween 11 rfl) rfl ?_
  refine jr_iload_n K (D_at DX10_numberBetween 12 rfl) rfl rfl ?_
  refine jr_icmp_ge K (D_at DX10_numberBetween 13 rfl) (tgt := 43) (by decide) (fun c19 => ?_) (fun c19 => ?_)
  · replace hf := (if_pos c19).symm.trans hf
    refine jr_iload_n K (D_at DX10_numberBetween 26 rfl) rfl rfl ?_
    cases hf
    exact jr_iret K E (D_at DX10_numberBetween 27 rfl) rfl ⟨rfl, rfl⟩
  · replace hf := (if_neg c19).symm.trans hf
    refine jr_bipush K (D_at DX10_numberBetween 14 rfl) (v := (10 : Int32)) (by decide) ?_
    refine jr_iload_n K (D_at DX10_numberBetween 15 rfl) rfl rfl ?_
    refine jr_imul K (D_at DX10_numberBetween 16 rfl) ?_
    refine jr_aload_n K (D_at DX10_numberBetween 17 rfl) rfl rfl ?_
    refine jr_iload K (D_at DX10_numberBetween 18 rfl) rfl ?_
    obtain ⟨v29, e29, hf⟩ := jbind hf
    obtain ⟨rc_29, e29⟩ := jcv_o e29
    refine jr_callV K (C_X10_at (d) e29) (D_at DX10_numberBetween 19 rfl) cv_X10_35_X10_at (As := [.int x4]) (ci := 8) rfl rc_29 rfl rfl (by exact Nat.le_of_ble_eq_true rfl) (kc2 := 0) (ks2 := 0) rfl rfl (fun k9 h9 w9 => by cases w9.1) (fun r9 h9 w9 => ?_)
    obtain ⟨w1, w2⟩ := w9
    subst h9
    cases w1
    show jJ G X _ 0 0 _ _ (.int v29 :: _)
    refine jr_iadd K (D_at DX10_numberBetween 20 rfl) ?_
    refine jr_bipush K (D_at DX10_numberBetween 21 rfl) (v := (48 : Int32)) (by decide) ?_
    refine jr_isub K (D_at DX10_numberBetween 22 rfl) ?_
    refine jr_istore_n K (D_at DX10_numberBetween 23 rfl) (i := 3) rfl (by decide) (L2 := [_, _, _, _, _]) rfl ?_
    refine jr_iinc K (D_at DX10_numberBetween 24 rfl) (i := 4) rfl (v := x4 + (1 : Int32)) (jinc (by decide)) (by decide) (L2 := [_, _, _, _, _]) rfl ?_
    refine jr_goto K (D_at DX10_numberBetween 25 rfl) (tgt := 16) (by decide) ?_
    refine jr_keep [true, false, true, true, true] ?_
    exact hr16 a0 x2 ((((10 : Int32) * x3) + v29) - (48 : Int32)) (x4 + (1 : Int32)) hf
theorem J_X10_numberBetween_16 {G : jG} {l : Launch} {d : Nat} {X : jX} {res : Int32} (K : jOK G l mX10_numberBetween (d + 1) X) (n : Nat) (h : jH) (E : jEnd G mX10_numberBetween (jPR h res) X) (k : Nat) : ∀ (a0 : Nat) (x2 : Int32) (x3 : Int32) (x4 : Int32), F_X10_numberBetween_16 n k a0 x2 x3 x4 h = some res → jJ G X h 0 0 16 [some (.ref a0), none, some (.int x2), some (.int x3), some (.int x4)] [] := by
  induction k with
  | zero =>
    intro a0 x2 x3 x4 hf
    exact jno (show (none : Option Int32) = some res from hf)
  | succ k ih =>
    intro a0 x2 x3 x4 hf
    exact J_X10_numberBetween_16_b K n h (F_X10_numberBetween_16 n k) ih E a0 x2 x3 x4 hf
set_option maxHeartbeats 400000 in
set_option maxRecDepth 100000 in
theorem J_X10_numberBetween {G : jG} {l : Launch} {d : Nat} {X : jX} {res : Int32} (K : jOK G l mX10_numberBetween (d + 1) X) (n : Nat) (h : jH) (E : jEnd G mX10_numberBetween (jPR h res) X) (a0 : Nat) (x1 : Int32) (x2 : Int32) (hf : F_X10_numberBetween n a0 x1 x2 h = some res) : jJ G X h 0 0 0 [some (.ref a0), some (.int x1), some (.int x2), none, none] [] := by
  unfold F_X10_numberBetween at hf
  refine jr_iload_n K (D_at DX10_numberBetween 0 rfl) rfl rfl ?_
  refine jr_iload_n K (D_at DX10_numberBetween 1 rfl) rfl rfl ?_
  refine jr_isub K (D_at DX10_numberBetween 2 rfl) ?_
  refine jr_iconst K (D_at DX10_numberBetween 3 rfl) (v := (3 : Int32)) (by decide) ?_
  refine jr_icmp_le K (D_at DX10_numberBetween 4 rfl) (tgt := 11) (by decide) (fun c4 => ?_) (fun c4 => ?_)
  · replace hf := (if_pos c4).symm.trans hf
    refine jr_iconst K (D_at DX10_numberBetween 7 rfl) (v := (0 : Int32)) (by decide) ?_
    refine jr_istore_n K (D_at DX10_numberBetween 8 rfl) (i := 3) rfl (by decide) (L2 := [_, _, _, _, _]) rfl ?_
    refine jr_iload_n K (D_at DX10_numberBetween 9 rfl) rfl rfl ?_
    refine jr_istore K (D_at DX10_numberBetween 10 rfl) (i := 4) (by decide) (L2 := [_, _, _, _, _]) rfl ?_
    refine jr_keep [true, false, true, true, true] ?_
    exact J_X10_numberBetween_16 K n h E n a0 x2 (0 : Int32) x1 hf
  · replace hf := (if_neg c4).symm.trans hf
    refine jr_sipush K (D_at DX10_numberBetween 5 rfl) (v := (1000 : Int32)) (by decide) ?_
    cases hf
    exact jr_iret K E (D_at DX10_numberBetween 6 rfl) rfl ⟨rfl, rfl⟩
theorem C_X10_numberBetween {G : jG} {l : Launch} (d : Nat) {n : Nat} {a0 : Nat} {x1 : Int32} {x2 : Int32} {h : jH} {res : Int32} (hf : F_X10_numberBetween n a0 x1 x2 h = some res) : jC G l mX10_numberBetween (d + 1) 0 0 [.ref a0, .int x1, .int x2] h (jPR h res) :=
  jC.of (by decide +kernel) (jcats rfl) (Nat.le_of_ble_eq_true rfl) (fun X K E => J_X10_numberBetween K n h E a0 x1 x2 hf)
set_option maxHeartbeats 400000 in
set_option maxRecDepth 100000 in
theorem J_X10_scanThing {G : jG} {l : Launch} {d : Nat} {X : jX} {res : (Int32 × jH)} (K : jOK G l mX10_scanThing (d + 8) X) (n : Nat) (E : jEnd G mX10_scanThing (jPW res) X) (a0 : Nat) (x1 : Int32) (h : jH) (hf : F_X10_scanThing n a0 x1 h = some res) : jJ G X h 0 0 0 [some (.ref a0), some (.int x1), none, none] [] := by
  unfold F_X10_scanThing at hf
  refine jr_aload_n K (D_at DX10_scanThing 0 rfl) rfl rfl ?_
  refine jr_iload_n K (D_at DX10_scanThing 1 rfl) rfl rfl ?_
  refine jr_bipush K (D_at DX10_scanThing 2 rfl) (v := (97 : Int32)) (by decide) ?_
  refine jr_bipush K (D_at DX10_scanThing 3 rfl) (v := (122 : Int32)) (by decide) ?_
  obtain ⟨v6, e6, hf⟩ := jbind hf
  obtain ⟨rc_6, e6⟩ := jcv_o e6
  refine jr_callV K (C_X10_endOfRow (d + 6) e6) (D_at DX10_scanThing 4 rfl) cv_X10_42_X10_endOfRow (As := [.int x1, .int (97 : Int32), .int (122 : Int32)]) (ci := 8) rfl rc_6 rfl rfl (by exact Nat.le_of_ble_eq_true rfl) (kc2 := 0) (ks2 := 0) rfl rfl (fun k9 h9 w9 => by cases w9.1) (fun r9 h9 w9 => ?_)
  obtain ⟨w1, w2⟩ := w9
  subst h9
  cases w1
  show jJ G X _ 0 0 _ _ (.int v6 :: _)
  refine jr_istore_n K (D_at DX10_scanThing 5 rfl) (i := 2) rfl (by decide) (L2 := [_, _, _, _]) rfl ?_
  refine jr_iload_n K (D_at DX10_scanThing 6 rfl) rfl rfl ?_
  refine jr_iload_n K (D_at DX10_scanThing 7 rfl) rfl rfl ?_
  refine jr_icmp_le K (D_at DX10_scanThing 8 rfl) (tgt := 32) (by decide) (fun c12 => ?_) (fun c12 => ?_)
  · replace hf := (if_pos c12).symm.trans hf
    refine jr_aload_n K (D_at DX10_scanThing 20 rfl) rfl rfl ?_
    refine jr_iload_n K (D_at DX10_scanThing 21 rfl) rfl rfl ?_
    refine jr_bipush K (D_at DX10_scanThing 22 rfl) (v := (48 : Int32)) (by decide) ?_
    refine jr_bipush K (D_at DX10_scanThing 23 rfl) (v := (57 : Int32)) (by decide) ?_
    obtain ⟨v38, e38, hf⟩ := jbind hf
    obtain ⟨rc_38, e38⟩ := jcv_o e38
    refine jr_callV K (C_X10_endOfRow (d + 6) e38) (D_at DX10_scanThing 24 rfl) cv_X10_42_X10_endOfRow (As := [.int x1, .int (48 : Int32), .int (57 : Int32)]) (ci := 8) rfl rc_38 rfl rfl (by exact Nat.le_of_ble_eq_true rfl) (kc2 := 0) (ks2 := 0) rfl rfl (fun k9 h9 w9 => by cases w9.1) (fun r9 h9 w9 => ?_)
    obtain ⟨w1, w2⟩ := w9
    subst h9
    cases w1
    show jJ G X _ 0 0 _ _ (.int v38 :: _)
    refine jr_istore_n K (D_at DX10_scanThing 25 rfl) (i := 2) rfl (by decide) (L2 := [_, _, _, _]) rfl ?_
    refine jr_iload_n K (D_at DX10_scanThing 26 rfl) rfl rfl ?_
    refine jr_iload_n K (D_at DX10_scanThing 27 rfl) rfl rfl ?_
    refine jr_icmp_le K (D_at DX10_scanThing 28 rfl) (tgt := 75) (by decide) (fun c44 => ?_) (fun c44 => ?_)
    · replace hf := (if_pos c44).symm.trans hf
      refine jr_aload_n K (D_at DX10_scanThing 46 rfl) rfl rfl ?_
      refine jr_iload_n K (D_at DX10_scanThing 47 rfl) rfl rfl ?_
      obtain ⟨v77, e77, hf⟩ := jbind hf
      obtain ⟨rc_77, e77⟩ := jcv_o e77
      refine jr_callV K (C_X10_at (d + 7) e77) (D_at DX10_scanThing 48 rfl) cv_X10_35_X10_at (As := [.int x1]) (ci := 8) rfl rc_77 rfl rfl (by exact Nat.le_of_ble_eq_true rfl) (kc2 := 0) (ks2 := 0) rfl rfl (fun k9 h9 w9 => by cases w9.1) (fun r9 h9 w9 => ?_)
      obtain ⟨w1, w2⟩ := w9
      subst h9
      cases w1
      show jJ G X _ 0 0 _ _ (.int v77 :: _)
      refine jr_istore_n K (D_at DX10_scanThing 49 rfl) (i := 3) rfl (by decide) (L2 := [_, _, _, _]) rfl ?_
      refine jr_aload_n K (D_at DX10_scanThing 50 rfl) rfl rfl ?_
      obtain ⟨p82, e82, hf⟩ := jbind hf
      refine jr_getR K (D_at DX10_scanThing 51 rfl) fg_X10_15_8 e82 ?_
      refine jr_aload_n K (D_at DX10_scanThing 52 rfl) rfl rfl ?_
      obtain ⟨v86, e86, hf⟩ := jbind hf
      refine jr_getI K (D_at DX10_scanThing 53 rfl) fg_X10_29_8 e86 ?_
      refine jr_iload_n K (D_at DX10_scanThing 54 rfl) rfl rfl ?_
      refine jr_bipush K (D_at DX10_scanThing 55 rfl) (v := (32 : Int32)) (by decide) ?_
      refine jr_icmp_ge K (D_at DX10_scanThing 56 rfl) (tgt := 100) (by decide) (fun c92 => ?_) (fun c92 => ?_)
      · replace hf := (if_pos c92).symm.trans hf
        refine jr_iload_n K (D_at DX10_scanThing 59 rfl) rfl rfl ?_
        obtain ⟨h101, e101, hf⟩ := jbind hf
        refine jr_iast K (D_at DX10_scanThing 60 rfl) e101 ?_
        refine jr_iload_n K (D_at DX10_scanThing 61 rfl) rfl rfl ?_
        refine jr_iconst K (D_at DX10_scanThing 62 rfl) (v := (1 : Int32)) (by decide) ?_
        refine jr_iadd K (D_at DX10_scanThing 63 rfl) ?_
        cases hf
        exact jr_iret K E (D_at DX10_scanThing_1 0 rfl) rfl ⟨rfl, rfl⟩
      · replace hf := (if_neg c92).symm.trans hf
        refine jr_bipush K (D_at DX10_scanThing 57 rfl) (v := (-2 : Int32)) (by decide) ?_
        refine jr_goto K (D_at DX10_scanThing 58 rfl) (tgt := 101) (by decide) ?_
        obtain ⟨h101, e101, hf⟩ := jbind hf
        refine jr_iast K (D_at DX10_scanThing 60 rfl) e101 ?_
        refine jr_iload_n K (D_at DX10_scanThing 61 rfl) rfl rfl ?_
        refine jr_iconst K (D_at DX10_scanThing 62 rfl) (v := (1 : Int32)) (by decide) ?_
        refine jr_iadd K (D_at DX10_scanThing 63 rfl) ?_
        cases hf
        exact jr_iret K E (D_at DX10_scanThing_1 0 rfl) rfl ⟨rfl, rfl⟩
    · replace hf := (if_neg c44).symm.trans hf
      refine jr_aload_n K (D_at DX10_scanThing 29 rfl) rfl rfl ?_
      obtain ⟨p48, e48, hf⟩ := jbind hf
      refine jr_getR K (D_at DX10_scanThing 30 rfl) fg_X10_15_8 e48 ?_
      refine jr_aload_n K (D_at DX10_scanThing 31 rfl) rfl rfl ?_
      obtain ⟨v52, e52, hf⟩ := jbind hf
      refine jr_getI K (D_at DX10_scanThing 32 rfl) fg_X10_29_8 e52 ?_
      refine jr_bipush K (D_at DX10_scanThing 33 rfl) (v := (-3 : Int32)) (by decide) ?_
      obtain ⟨h57, e57, hf⟩ := jbind hf
      refine jr_iast K (D_at DX10_scanThing 34 rfl) e57 ?_
      refine jr_aload_n K (D_at DX10_scanThing 35 rfl) rfl rfl ?_
      obtain ⟨p59, e59, hf⟩ := jbind hf
      refine jr_getR K (D_at DX10_scanThing 36 rfl) fg_X10_22_8 e59 ?_
      refine jr_aload_n K (D_at DX10_scanThing 37 rfl) rfl rfl ?_
      obtain ⟨v63, e63, hf⟩ := jbind hf
      refine jr_getI K (D_at DX10_scanThing 38 rfl) fg_X10_29_8 e63 ?_
      refine jr_aload_n K (D_at DX10_scanThing 39 rfl) rfl rfl ?_
      refine jr_iload_n K (D_at DX10_scanThing 40 rfl) rfl rfl ?_
      refine jr_iload_n K (D_at DX10_scanThing 41 rfl) rfl rfl ?_
      obtain ⟨v69, e69, hf⟩ := jbind hf
      obtain ⟨rc_69, e69⟩ := jcv_o e69
      refine jr_callV K (C_X10_numberBetween (d + 6) e69) (D_at DX10_scanThing 42 rfl) cv_X10_50_X10_numberBetween (As := [.int x1, .int v38]) (ci := 8) rfl rc_69 rfl rfl (by exact Nat.le_of_ble_eq_true rfl) (kc2 := 0) (ks2 := 0) rfl rfl (fun k9 h9 w9 => by cases w9.1) (fun r9 h9 w9 => ?_)
      obtain ⟨w1, w2⟩ := w9
      subst h9
      cases w1
      show jJ G X _ 0 0 _ _ (.int v69 :: _)
      obtain ⟨h72, e72, hf⟩ := jbind hf
      refine jr_iast K (D_at DX10_scanThing 43 rfl) e72 ?_
      refine jr_iload_n K (D_at DX10_scanThing 44 rfl) rfl rfl ?_
      cases hf
      exact jr_iret K E (D_at DX10_scanThing 45 rfl) rfl ⟨rfl, rfl⟩
  · replace hf := (if_neg c12).symm.trans hf
    refine jr_aload_n K (D_at DX10_scanThing 9 rfl) rfl rfl ?_
    obtain ⟨p16, e16, hf⟩ := jbind hf
    refine jr_getR K (D_at DX10_scanThing 10 rfl) fg_X10_15_8 e16 ?_
    refine jr_aload_n K (D_at DX10_scanThing 11 rfl) rfl rfl ?_
    obtain ⟨v20, e20, hf⟩ := jbind hf
    refine jr_getI K (D_at DX10_scanThing 12 rfl) fg_X10_29_8 e20 ?_
    refine jr_aload_n K (D_at DX10_scanThing 13 rfl) rfl rfl ?_
    refine jr_iload_n K (D_at DX10_scanThing 14 rfl) rfl rfl ?_
    refine jr_iload_n K (D_at DX10_scanThing 15 rfl) rfl rfl ?_
    obtain ⟨v26, e26, hf⟩ := jbind hf
    obtain ⟨rc_26, e26⟩ := jcv_o e26
    refine jr_callV K (C_X10_wordBetween (d) e26) (D_at DX10_scanThing 16 rfl) cv_X10_46_X10_wordBetween (As := [.int x1, .int v6]) (ci := 8) rfl rc_26 rfl rfl (by exact Nat.le_of_ble_eq_true rfl) (kc2 := 0) (ks2 := 0) rfl rfl (fun k9 h9 w9 => by cases w9.1) (fun r9 h9 w9 => ?_)
    obtain ⟨w1, w2⟩ := w9
    subst h9
    cases w1
    show jJ G X _ 0 0 _ _ (.int v26 :: _)
    obtain ⟨h29, e29, hf⟩ := jbind hf
    refine jr_iast K (D_at DX10_scanThing 17 rfl) e29 ?_
    refine jr_iload_n K (D_at DX10_scanThing 18 rfl) rfl rfl ?_
    cases hf
    exact jr_iret K E (D_at DX10_scanThing 19 rfl) rfl ⟨rfl, rfl⟩
theorem C_X10_scanThing {G : jG} {l : Launch} (d : Nat) {n : Nat} {a0 : Nat} {x1 : Int32} {h : jH} {res : (Int32 × jH)} (hf : F_X10_scanThing n a0 x1 h = some res) : jC G l mX10_scanThing (d + 8) 0 0 [.ref a0, .int x1] h (jPW res) :=
  jC.of (by decide +kernel) (jcats rfl) (Nat.le_of_ble_eq_true rfl) (fun X K E => J_X10_scanThing K n E a0 x1 h hf)
set_option maxHeartbeats 400000 in
set_option maxRecDepth 100000 in
theorem J_X10_scan_12_b {G : jG} {l : Launch} {d : Nat} {X : jX} {res : jH} (K : jOK G l mX10_scan (d + 9) X) (n : Nat) (rc12 : Nat → Int32 → jH → Option jH) (hr12 : ∀ (a0 : Nat) (x1 : Int32) (h : jH), rc12 a0 x1 h = some res → jJ G X h 0 0 12 [some (.ref a0), some (.int x1), none] []) (E : jEnd G mX10_scan (jPV res) X) (a0 : Nat) (x1 : Int32) (h : jH) (hf : F_X10_scan_12_b n rc12 a0 x1 h = some res) : jJ G X h 0 0 12 [some (.ref a0), some (.int x1), none] [] := by
  unfold F_X10_scan_12_b at hf
  refine jr_iload_n K (D_at DX10_scan 8 rfl) rfl rfl ?_
  refine jr_aload_n K (D_at DX10_scan 9 rfl) rfl rfl ?_
  obtain ⟨v14, e14, hf⟩ := jbind hf
  refine jr_getI K (D_at DX10_scan 10 rfl) fg_X10_25_8 e14 ?_
  refine jr_icmp_ge K (D_at DX10_scan 11 rfl) (tgt := 75) (by decide) (fun c17 => ?_) (fun c17 => ?_)
  · replace hf := (if_pos c17).symm.trans hf
    cases hf
    exact jr_vret K E (D_at DX10_scan 44 rfl) rfl ⟨rfl, rfl⟩
  · replace hf := (if_neg c17).symm.trans hf
    refine jr_aload_n K (D_at DX10_scan 12 rfl) rfl rfl ?_
    obtain ⟨v21, e21, hf⟩ := jbind hf
    refine jr_getI K (D_at DX10_scan 13 rfl) fg_X10_29_8 e21 ?_
    refine jr_sipush K (D_at DX10_scan 14 rfl) (v := (400 : Int32)) (by decide) ?_
    refine jr_icmp_ge K (D_at DX10_scan 15 rfl) (tgt := 75) (by decide) (fun c27 => ?_) (fun c27 => ?_)
    · replace hf := (if_pos c27).symm.trans hf
      cases hf
      exact jr_vret K E (D_at DX10_scan 44 rfl) rfl ⟨rfl, rfl⟩
    · replace hf := (if_neg c27).symm.trans hf
      refine jr_iload_n K (D_at DX10_scan 16 rfl) rfl rfl ?_
      refine jr_iconst K (D_at DX10_scan 17 rfl) (v := (1 : Int32)) (by decide) ?_
      refine jr_iadd K (D_at DX10_scan 18 rfl) ?_
      refine jr_istore_n K (D_at DX10_scan 19 rfl) (i := 2) rfl (by decide) (L2 := [_, _, _]) rfl ?_
      refine jr_aload_n K (D_at DX10_scan 20 rfl) rfl rfl ?_
      refine jr_iload_n K (D_at DX10_scan 21 rfl) rfl rfl ?_
      obtain ⟨v36, e36, hf⟩ := jbind hf
      obtain ⟨rc_36, e36⟩ := jcv_o e36
      refine jr_callV K (C_X10_at (d + 8) e36) (D_at DX10_scan 22 rfl) cv_X10_35_X10_at (As := [.int x1]) (ci := 8) rfl rc_36 rfl rfl (by exact Nat.le_of_ble_eq_true rfl) (kc2 := 0) (ks2 := 0) rfl rfl (fun k9 h9 w9 => by cases w9.1) (fun r9 h9 w9 => ?_)
      obtain ⟨w1, w2⟩ := w9
      subst h9
      cases w1
      show jJ G X _ 0 0 _ _ (.int v36 :: _)
      refine jr_bipush K (D_at DX10_scan 23 rfl) (v := (32 : Int32)) (by decide) ?_
      refine jr_icmp_eq K (D_at DX10_scan 24 rfl) (tgt := 70) (by decide) (fun c41 => ?_) (fun c41 => ?_)
      · replace hf := (if_pos c41).symm.trans hf
        refine jr_iload_n K (D_at DX10_scan 41 rfl) rfl rfl ?_
        refine jr_istore_n K (D_at DX10_scan 42 rfl) (i := 1) rfl (by decide) (L2 := [_, _, _]) rfl ?_
        refine jr_goto K (D_at DX10_scan 43 rfl) (tgt := 12) (by decide) ?_
        refine jr_keep [true, true, false] ?_
        exact hr12 a0 (x1 + (1 : Int32)) h hf
      · replace hf := (if_neg c41).symm.trans hf
        refine jr_aload_n K (D_at DX10_scan 25 rfl) rfl rfl ?_
        refine jr_iload_n K (D_at DX10_scan 26 rfl) rfl rfl ?_
        obtain ⟨q46, e46, hf⟩ := jbind hf
        obtain ⟨rc_46, e46⟩ := jcv_o e46
        refine jr_callV K (C_X10_scanThing (d) e46) (D_at DX10_scan 27 rfl) cv_X10_39_X10_scanThing (As := [.int x1]) (ci := 8) rfl rc_46 rfl rfl (by exact Nat.le_of_ble_eq_true rfl) (kc2 := 0) (ks2 := 0) rfl rfl (fun k9 h9 w9 => by cases w9.1) (fun r9 h9 w9 => ?_)
        obtain ⟨w1, w2⟩ := w9
        subst h9
        cases w1
        show jJ G X _ 0 0 _ _ (.int q46.1 :: _)
        refine jr_istore_n K (D_at DX10_scan 28 rfl) (i := 2) rfl (by decide) (L2 := [_, _, _]) rfl ?_
        refine jr_aload_n K (D_at DX10_scan 29 rfl) rfl rfl ?_
        obtain ⟨p51, e51, hf⟩ := jbind hf
        refine jr_getR K (D_at DX10_scan 30 rfl) fg_X10_19_8 e51 ?_
        refine jr_aload_n K (D_at DX10_scan 31 rfl) rfl rfl ?_
        obtain ⟨v55, e55, hf⟩ := jbind hf
        refine jr_getI K (D_at DX10_scan 32 rfl) fg_X10_29_8 e55 ?_
        refine jr_iload_n K (D_at DX10_scan 33 rfl) rfl rfl ?_
        obtain ⟨h59, e59, hf⟩ := jbind hf
        refine jr_iast K (D_at DX10_scan 34 rfl) e59 ?_
        refine jr_aload_n K (D_at DX10_scan 35 rfl) rfl rfl ?_
        refine jr_dup K (D_at DX10_scan 36 rfl) rfl ?_
        obtain ⟨v62, e62, hf⟩ := jbind hf
        refine jr_getI K (D_at DX10_scan 37 rfl) fg_X10_29_8 e62 ?_
        refine jr_iconst K (D_at DX10_scan 38 rfl) (v := (1 : Int32)) (by decide) ?_
        refine jr_iadd K (D_at DX10_scan 39 rfl) ?_
        obtain ⟨h67, e67, hf⟩ := jbind hf
        refine jr_putI K (D_at DX10_scan 40 rfl) fp_X10_29_8 (Or.inl rfl) e67 ?_
        refine jr_iload_n K (D_at DX10_scan 41 rfl) rfl rfl ?_
        refine jr_istore_n K (D_at DX10_scan 42 rfl) (i := 1) rfl (by decide) (L2 := [_, _, _]) rfl ?_
        refine jr_goto K (D_at DX10_scan 43 rfl) (tgt := 12) (by decide) ?_
        refine jr_keep [true, true, false] ?_
        exact hr12 a0 q46.1 h67 hf
theorem J_X10_scan_12 {G : jG} {l : Launch} {d : Nat} {X : jX} {res : jH} (K : jOK G l mX10_scan (d + 9) X) (n : Nat) (E : jEnd G mX10_scan (jPV res) X) (k : Nat) : ∀ (a0 : Nat) (x1 : Int32) (h : jH), F_X10_scan_12 n k a0 x1 h = some res → jJ G X h 0 0 12 [some (.ref a0), some (.int x1), none] [] := by
  induction k with
  | zero =>
    intro a0 x1 h hf
    exact jno (show (none : Option jH) = some res from hf)
  | succ k ih =>
    intro a0 x1 h hf
    exact J_X10_scan_12_b K n (F_X10_scan_12 n k) ih E a0 x1 h hf
set_option maxHeartbeats 400000 in
set_option maxRecDepth 100000 in
theorem J_X10_scan {G : jG} {l : Launch} {d : Nat} {X : jX} {res : jH} (K : jOK G l mX10_scan (d + 9) X) (n : Nat) (E : jEnd G mX10_scan (jPV res) X) (a0 : Nat) (h : jH) (hf : F_X10_scan n a0 h = some res) : jJ G X h 0 0 0 [some (.ref a0), none, none] [] := by
  unfold F_X10_scan at hf
  refine jr_aload_n K (D_at DX10_scan 0 rfl) rfl rfl ?_
  refine jr_iconst K (D_at DX10_scan 1 rfl) (v := (0 : Int32)) (by decide) ?_
  obtain ⟨h2, e2, hf⟩ := jbind hf
  refine jr_putI K (D_at DX10_scan 2 rfl) fp_X10_29_8 (Or.inl rfl) e2 ?_
  refine jr_aload_n K (D_at DX10_scan 3 rfl) rfl rfl ?_
  refine jr_iconst K (D_at DX10_scan 4 rfl) (v := (0 : Int32)) (by decide) ?_
  obtain ⟨h7, e7, hf⟩ := jbind hf
  refine jr_putI K (D_at DX10_scan 5 rfl) fp_X10_32_8 (Or.inl rfl) e7 ?_
  refine jr_iconst K (D_at DX10_scan 6 rfl) (v := (0 : Int32)) (by decide) ?_
  refine jr_istore_n K (D_at DX10_scan 7 rfl) (i := 1) rfl (by decide) (L2 := [_, _, _]) rfl ?_
  refine jr_keep [true, true, false] ?_
  exact J_X10_scan_12 K n E n a0 (0 : Int32) h7 hf
theorem C_X10_scan {G : jG} {l : Launch} (d : Nat) {n : Nat} {a0 : Nat} {h : jH} {res : jH} (hf : F_X10_scan n a0 h = some res) : jC G l mX10_scan (d + 9) 0 0 [.ref a0] h (jPV res) :=
  jC.of (by decide +kernel) (jcats rfl) (Nat.le_of_ble_eq_true rfl) (fun X K E => J_X10_scan K n E a0 h hf)
set_option maxHeartbeats 400000 in
set_option maxRecDepth 100000 in
theorem J_X10_kind {G : jG} {l : Launch} {d : Nat} {X : jX} {res : Int32} (K : jOK G l mX10_kind (d) X) (n : Nat) (h : jH) (E : jEnd G mX10_kind (jPR h res) X) (a0 : Nat) (hf : F_X10_kind n a0 h = some res) : jJ G X h 0 0 0 [some (.ref a0)] [] := by
  unfold F_X10_kind at hf
  refine jr_aload_n K (D_at DX10_kind 0 rfl) rfl rfl ?_
  obtain ⟨v1, e1, hf⟩ := jbind hf
  refine jr_getI K (D_at DX10_kind 1 rfl) fg_X10_32_8 e1 ?_
  refine jr_aload_n K (D_at DX10_kind 2 rfl) rfl rfl ?_
  obtain ⟨v5, e5, hf⟩ := jbind hf
  refine jr_getI K (D_at DX10_kind 3 rfl) fg_X10_29_8 e5 ?_
  refine jr_icmp_ge K (D_at DX10_kind 4 rfl) (tgt := 23) (by decide) (fun c8 => ?_) (fun c8 => ?_)
  · replace hf := (if_pos c8).symm.trans hf
    refine jr_iconst K (D_at DX10_kind 11 rfl) (v := (-1 : Int32)) (by decide) ?_
    cases hf
    exact jr_iret K E (D_at DX10_kind 12 rfl) rfl ⟨rfl, rfl⟩
  · replace hf := (if_neg c8).symm.trans hf
    refine jr_aload_n K (D_at DX10_kind 5 rfl) rfl rfl ?_
    obtain ⟨p12, e12, hf⟩ := jbind hf
    refine jr_getR K (D_at DX10_kind 6 rfl) fg_X10_15_8 e12 ?_
    refine jr_aload_n K (D_at DX10_kind 7 rfl) rfl rfl ?_
    obtain ⟨v16, e16, hf⟩ := jbind hf
    refine jr_getI K (D_at DX10_kind 8 rfl) fg_X10_32_8 e16 ?_
    obtain ⟨v19, e19, hf⟩ := jbind hf
    refine jr_iald K (D_at DX10_kind 9 rfl) e19 ?_
    refine jr_goto K (D_at DX10_kind 10 rfl) (tgt := 24) (by decide) ?_
    cases hf
    exact jr_iret K E (D_at DX10_kind 12 rfl) rfl ⟨rfl, rfl⟩
theorem C_X10_kind {G : jG} {l : Launch} (d : Nat) {n : Nat} {a0 : Nat} {h : jH} {res : Int32} (hf : F_X10_kind n a0 h = some res) : jC G l mX10_kind (d) 0 0 [.ref a0] h (jPR h res) :=
  jC.of (by decide +kernel) (jcats rfl) (Nat.le_of_ble_eq_true rfl) (fun X K E => J_X10_kind K n h E a0 hf)
set_option maxHeartbeats 400000 in
set_option maxRecDepth 100000 in
theorem J_X10_start {G : jG} {l : Launch} {d : Nat} {X : jX} {res : Int32} (K : jOK G l mX10_start (d) X) (n : Nat) (h : jH) (E : jEnd G mX10_start (jPR h res) X) (a0 : Nat) (hf : F_X10_start n a0 h = some res) : jJ G X h 0 0 0 [some (.ref a0)] [] := by
  unfold F_X10_start at hf
  refine jr_aload_n K (D_at DX10_start 0 rfl) rfl rfl ?_
  obtain ⟨v1, e1, hf⟩ := jbind hf
  refine jr_getI K (D_at DX10_start 1 rfl) fg_X10_32_8 e1 ?_
  refine jr_aload_n K (D_at DX10_start 2 rfl) rfl rfl ?_
  obtain ⟨v5, e5, hf⟩ := jbind hf
  refine jr_getI K (D_at DX10_start 3 rfl) fg_X10_29_8 e5 ?_
  refine jr_icmp_ge K (D_at DX10_start 4 rfl) (tgt := 23) (by decide) (fun c8 => ?_) (fun c8 => ?_)
  · replace hf := (if_pos c8).symm.trans hf
    refine jr_aload_n K (D_at DX10_start 11 rfl) rfl rfl ?_
    obtain ⟨v24, e24, hf⟩ := jbind hf
    refine jr_getI K (D_at DX10_start 12 rfl) fg_X10_25_8 e24 ?_
    cases hf
    exact jr_iret K E (D_at DX10_start 13 rfl) rfl ⟨rfl, rfl⟩
  · replace hf := (if_neg c8).symm.trans hf
    refine jr_aload_n K (D_at DX10_start 5 rfl) rfl rfl ?_
    obtain ⟨p12, e12, hf⟩ := jbind hf
    refine jr_getR K (D_at DX10_start 6 rfl) fg_X10_19_8 e12 ?_
    refine jr_aload_n K (D_at DX10_start 7 rfl) rfl rfl ?_
    obtain ⟨v16, e16, hf⟩ := jbind hf
    refine jr_getI K (D_at DX10_start 8 rfl) fg_X10_32_8 e16 ?_
    obtain ⟨v19, e19, hf⟩ := jbind hf
    refine jr_iald K (D_at DX10_start 9 rfl) e19 ?_
    refine jr_goto K (D_at DX10_start 10 rfl) (tgt := 27) (by decide) ?_
    cases hf
    exact jr_iret K E (D_at DX10_start 13 rfl) rfl ⟨rfl, rfl⟩
theorem C_X10_start {G : jG} {l : Launch} (d : Nat) {n : Nat} {a0 : Nat} {h : jH} {res : Int32} (hf : F_X10_start n a0 h = some res) : jC G l mX10_start (d) 0 0 [.ref a0] h (jPR h res) :=
  jC.of (by decide +kernel) (jcats rfl) (Nat.le_of_ble_eq_true rfl) (fun X K E => J_X10_start K n h E a0 hf)
set_option maxHeartbeats 400000 in
set_option maxRecDepth 100000 in
theorem J_X10_skip {G : jG} {l : Launch} {d : Nat} {X : jX} {res : jH} (K : jOK G l mX10_skip (d) X) (n : Nat) (E : jEnd G mX10_skip (jPV res) X) (a0 : Nat) (h : jH) (hf : F_X10_skip n a0 h = some res) : jJ G X h 0 0 0 [some (.ref a0)] [] := by
  unfold F_X10_skip at hf
  refine jr_aload_n K (D_at DX10_skip 0 rfl) rfl rfl ?_
  obtain ⟨v1, e1, hf⟩ := jbind hf
  refine jr_getI K (D_at DX10_skip 1 rfl) fg_X10_32_8 e1 ?_
  refine jr_aload_n K (D_at DX10_skip 2 rfl) rfl rfl ?_
  obtain ⟨v5, e5, hf⟩ := jbind hf
  refine jr_getI K (D_at DX10_skip 3 rfl) fg_X10_29_8 e5 ?_
  refine jr_icmp_ge K (D_at DX10_skip 4 rfl) (tgt := 21) (by decide) (fun c8 => ?_) (fun c8 => ?_)
  · replace hf := (if_pos c8).symm.trans hf
    cases hf
    exact jr_vret K E (D_at DX10_skip 11 rfl) rfl ⟨rfl, rfl⟩
  · replace hf := (if_neg c8).symm.trans hf
    refine jr_aload_n K (D_at DX10_skip 5 rfl) rfl rfl ?_
    refine jr_dup K (D_at DX10_skip 6 rfl) rfl ?_
    obtain ⟨v13, e13, hf⟩ := jbind hf
    refine jr_getI K (D_at DX10_skip 7 rfl) fg_X10_32_8 e13 ?_
    refine jr_iconst K (D_at DX10_skip 8 rfl) (v := (1 : Int32)) (by decide) ?_
    refine jr_iadd K (D_at DX10_skip 9 rfl) ?_
    obtain ⟨h18, e18, hf⟩ := jbind hf
    refine jr_putI K (D_at DX10_skip 10 rfl) fp_X10_32_8 (Or.inl rfl) e18 ?_
    cases hf
    exact jr_vret K E (D_at DX10_skip 11 rfl) rfl ⟨rfl, rfl⟩
theorem C_X10_skip {G : jG} {l : Launch} (d : Nat) {n : Nat} {a0 : Nat} {h : jH} {res : jH} (hf : F_X10_skip n a0 h = some res) : jC G l mX10_skip (d) 0 0 [.ref a0] h (jPV res) :=
  jC.of (by decide +kernel) (jcats rfl) (Nat.le_of_ble_eq_true rfl) (fun X K E => J_X10_skip K n E a0 h hf)
set_option maxHeartbeats 400000 in
set_option maxRecDepth 100000 in
theorem J_X10_take {G : jG} {l : Launch} {d : Nat} {X : jX} {res : (Int32 × jH)} (K : jOK G l mX10_take (d) X) (n : Nat) (E : jEnd G mX10_take (jPW res) X) (a0 : Nat) (x1 : Int32) (h : jH) (hf : F_X10_take n a0 x1 h = some res) : jJ G X h 0 0 0 [some (.ref a0), some (.int x1)] [] := by
  unfold F_X10_take at hf
  refine jr_aload_n K (D_at DX10_take 0 rfl) rfl rfl ?_
  obtain ⟨v1, e1, hf⟩ := jbind hf
  refine jr_getI K (D_at DX10_take 1 rfl) fg_X10_32_8 e1 ?_
  refine jr_aload_n K (D_at DX10_take 2 rfl) rfl rfl ?_
  obtain ⟨v5, e5, hf⟩ := jbind hf
  refine jr_getI K (D_at DX10_take 3 rfl) fg_X10_29_8 e5 ?_
  refine jr_icmp_ge K (D_at DX10_take 4 rfl) (tgt := 24) (by decide) (fun c8 => ?_) (fun c8 => ?_)
  · replace hf := (if_pos c8).symm.trans hf
    refine jr_iconst K (D_at DX10_take 12 rfl) (v := (0 : Int32)) (by decide) ?_
    cases hf
    exact jr_zret K E (D_at DX10_take 13 rfl) rfl (Or.inl rfl) ⟨rfl, rfl⟩
  · replace hf := (if_neg c8).symm.trans hf
    refine jr_aload_n K (D_at DX10_take 5 rfl) rfl rfl ?_
    obtain ⟨p12, e12, hf⟩ := jbind hf
    refine jr_getR K (D_at DX10_take 6 rfl) fg_X10_15_8 e12 ?_
    refine jr_aload_n K (D_at DX10_take 7 rfl) rfl rfl ?_
    obtain ⟨v16, e16, hf⟩ := jbind hf
    refine jr_getI K (D_at DX10_take 8 rfl) fg_X10_32_8 e16 ?_
    obtain ⟨v19, e19, hf⟩ := jbind hf
    refine jr_iald K (D_at DX10_take 9 rfl) e19 ?_
    refine jr_iload_n K (D_at DX10_take 10 rfl) rfl rfl ?_
    refine jr_icmp_eq K (D_at DX10_take 11 rfl) (tgt := 26) (by decide) (fun c21 => ?_) (fun c21 => ?_)
    · replace hf := (if_pos c21).symm.trans hf
      refine jr_aload_n K (D_at DX10_take 14 rfl) rfl rfl ?_
      refine jr_dup K (D_at DX10_take 15 rfl) rfl ?_
      obtain ⟨v28, e28, hf⟩ := jbind hf
      refine jr_getI K (D_at DX10_take 16 rfl) fg_X10_32_8 e28 ?_
      refine jr_iconst K (D_at DX10_take 17 rfl) (v := (1 : Int32)) (by decide) ?_
      refine jr_iadd K (D_at DX10_take 18 rfl) ?_
      obtain ⟨h33, e33, hf⟩ := jbind hf
      refine jr_putI K (D_at DX10_take 19 rfl) fp_X10_32_8 (Or.inl rfl) e33 ?_
      refine jr_iconst K (D_at DX10_take 20 rfl) (v := (1 : Int32)) (by decide) ?_
      cases hf
      exact jr_zret K E (D_at DX10_take 21 rfl) rfl (Or.inr rfl) ⟨rfl, rfl⟩
    · replace hf := (if_neg c21).symm.trans hf
      refine jr_iconst K (D_at DX10_take 12 rfl) (v := (0 : Int32)) (by decide) ?_
      cases hf
      exact jr_zret K E (D_at DX10_take 13 rfl) rfl (Or.inl rfl) ⟨rfl, rfl⟩
theorem C_X10_take {G : jG} {l : Launch} (d : Nat) {n : Nat} {a0 : Nat} {x1 : Int32} {h : jH} {res : (Int32 × jH)} (hf : F_X10_take n a0 x1 h = some res) : jC G l mX10_take (d) 0 0 [.ref a0, .int x1] h (jPW res) :=
  jC.of (by decide +kernel) (jcats rfl) (Nat.le_of_ble_eq_true rfl) (fun X K E => J_X10_take K n E a0 x1 h hf)
set_option maxHeartbeats 400000 in
set_option maxRecDepth 100000 in
theorem J_X10_takeNumber {G : jG} {l : Launch} {d : Nat} {X : jX} {res : (Int32 × jH)} (K : jOK G l mX10_takeNumber (d) X) (n : Nat) (E : jEnd G mX10_takeNumber (jPW res) X) (a0 : Nat) (x1 : Int32) (x2 : Int32) (h : jH) (hf : F_X10_takeNumber n a0 x1 x2 h = some res) : jJ G X h 0 0 0 [some (.ref a0), some (.int x1), some (.int x2)] [] := by
  unfold F_X10_takeNumber at hf
  refine jr_aload_n K (D_at DX10_takeNumber 0 rfl) rfl rfl ?_
  obtain ⟨v1, e1, hf⟩ := jbind hf
  refine jr_getI K (D_at DX10_takeNumber 1 rfl) fg_X10_32_8 e1 ?_
  refine jr_aload_n K (D_at DX10_takeNumber 2 rfl) rfl rfl ?_
  obtain ⟨v5, e5, hf⟩ := jbind hf
  refine jr_getI K (D_at DX10_takeNumber 3 rfl) fg_X10_29_8 e5 ?_
  refine jr_icmp_ge K (D_at DX10_takeNumber 4 rfl) (tgt := 51) (by decide) (fun c8 => ?_) (fun c8 => ?_)
  · replace hf := (if_pos c8).symm.trans hf
    refine jr_iconst K (D_at DX10_takeNumber 26 rfl) (v := (-1 : Int32)) (by decide) ?_
    cases hf
    exact jr_iret K E (D_at DX10_takeNumber 27 rfl) rfl ⟨rfl, rfl⟩
  · replace hf := (if_neg c8).symm.trans hf
    refine jr_aload_n K (D_at DX10_takeNumber 5 rfl) rfl rfl ?_
    obtain ⟨p12, e12, hf⟩ := jbind hf
    refine jr_getR K (D_at DX10_takeNumber 6 rfl) fg_X10_15_8 e12 ?_
    refine jr_aload_n K (D_at DX10_takeNumber 7 rfl) rfl rfl ?_
    obtain ⟨v16, e16, hf⟩ := jbind hf
    refine jr_getI K (D_at DX10_takeNumber 8 rfl) fg_X10_32_8 e16 ?_
    obtain ⟨v19, e19, hf⟩ := jbind hf
    refine jr_iald K (D_at DX10_takeNumber 9 rfl) e19 ?_
    refine jr_bipush K (D_at DX10_takeNumber 10 rfl) (v := (-3 : Int32)) (by decide) ?_
    refine jr_icmp_ne K (D_at DX10_takeNumber 11 rfl) (tgt := 51) (by decide) (fun c22 => ?_) (fun c22 => ?_)
    · replace hf := (if_neg c22).symm.trans hf
      refine jr_iconst K (D_at DX10_takeNumber 26 rfl) (v := (-1 : Int32)) (by decide) ?_
      cases hf
      exact jr_iret K E (D_at DX10_takeNumber 27 rfl) rfl ⟨rfl, rfl⟩
    · replace hf := (if_pos c22).symm.trans hf
      refine jr_aload_n K (D_at DX10_takeNumber 12 rfl) rfl rfl ?_
      obtain ⟨p26, e26, hf⟩ := jbind hf
      refine jr_getR K (D_at DX10_takeNumber 13 rfl) fg_X10_22_8 e26 ?_
      refine jr_aload_n K (D_at DX10_takeNumber 14 rfl) rfl rfl ?_
      obtain ⟨v30, e30, hf⟩ := jbind hf
      refine jr_getI K (D_at DX10_takeNumber 15 rfl) fg_X10_32_8 e30 ?_
      obtain ⟨v33, e33, hf⟩ := jbind hf
      refine jr_iald K (D_at DX10_takeNumber 16 rfl) e33 ?_
      refine jr_iload_n K (D_at DX10_takeNumber 17 rfl) rfl rfl ?_
      refine jr_icmp_lt K (D_at DX10_takeNumber 18 rfl) (tgt := 51) (by decide) (fun c35 => ?_) (fun c35 => ?_)
      · replace hf := (if_pos c35).symm.trans hf
        refine jr_iconst K (D_at DX10_takeNumber 26 rfl) (v := (-1 : Int32)) (by decide) ?_
        cases hf
        exact jr_iret K E (D_at DX10_takeNumber 27 rfl) rfl ⟨rfl, rfl⟩
      · replace hf := (if_neg c35).symm.trans hf
        refine jr_aload_n K (D_at DX10_takeNumber 19 rfl) rfl rfl ?_
        obtain ⟨p39, e39, hf⟩ := jbind hf
        refine jr_getR K (D_at DX10_takeNumber 20 rfl) fg_X10_22_8 e39 ?_
        refine jr_aload_n K (D_at DX10_takeNumber 21 rfl) rfl rfl ?_
        obtain ⟨v43, e43, hf⟩ := jbind hf
        refine jr_getI K (D_at DX10_takeNumber 22 rfl) fg_X10_32_8 e43 ?_
        obtain ⟨v46, e46, hf⟩ := jbind hf
        refine jr_iald K (D_at DX10_takeNumber 23 rfl) e46 ?_
        refine jr_iload_n K (D_at DX10_takeNumber 24 rfl) rfl rfl ?_
        refine jr_icmp_le K (D_at DX10_takeNumber 25 rfl) (tgt := 53) (by decide) (fun c48 => ?_) (fun c48 => ?_)
        · replace hf := (if_pos c48).symm.trans hf
          refine jr_aload_n K (D_at DX10_takeNumber 28 rfl) rfl rfl ?_
          refine jr_dup K (D_at DX10_takeNumber 29 rfl) rfl ?_
          obtain ⟨v55, e55, hf⟩ := jbind hf
          refine jr_getI K (D_at DX10_takeNumber 30 rfl) fg_X10_32_8 e55 ?_
          refine jr_iconst K (D_at DX10_takeNumber 31 rfl) (v := (1 : Int32)) (by decide) ?_
          refine jr_iadd K (D_at DX10_takeNumber 32 rfl) ?_
          obtain ⟨h60, e60, hf⟩ := jbind hf
          refine jr_putI K (D_at DX10_takeNumber 33 rfl) fp_X10_32_8 (Or.inl rfl) e60 ?_
          refine jr_aload_n K (D_at DX10_takeNumber 34 rfl) rfl rfl ?_
          obtain ⟨p64, e64, hf⟩ := jbind hf
          refine jr_getR K (D_at DX10_takeNumber 35 rfl) fg_X10_22_8 e64 ?_
          refine jr_aload_n K (D_at DX10_takeNumber 36 rfl) rfl rfl ?_
          obtain ⟨v68, e68, hf⟩ := jbind hf
          refine jr_getI K (D_at DX10_takeNumber 37 rfl) fg_X10_32_8 e68 ?_
          refine jr_iconst K (D_at DX10_takeNumber 38 rfl) (v := (1 : Int32)) (by decide) ?_
          refine jr_isub K (D_at DX10_takeNumber 39 rfl) ?_
          obtain ⟨v73, e73, hf⟩ := jbind hf
          refine jr_iald K (D_at DX10_takeNumber 40 rfl) e73 ?_
          cases hf
          exact jr_iret K E (D_at DX10_takeNumber 41 rfl) rfl ⟨rfl, rfl⟩
        · replace hf := (if_neg c48).symm.trans hf
          refine jr_iconst K (D_at DX10_takeNumber 26 rfl) (v := (-1 : Int32)) (by decide) ?_
          cases hf
          exact jr_iret K E (D_at DX10_takeNumber 27 rfl) rfl ⟨rfl, rfl⟩
theorem C_X10_takeNumber {G : jG} {l : Launch} (d : Nat) {n : Nat} {a0 : Nat} {x1 : Int32} {x2 : Int32} {h : jH} {res : (Int32 × jH)} (hf : F_X10_takeNumber n a0 x1 x2 h = some res) : jC G l mX10_takeNumber (d) 0 0 [.ref a0, .int x1, .int x2] h (jPW res) :=
  jC.of (by decide +kernel) (jcats rfl) (Nat.le_of_ble_eq_true rfl) (fun X K E => J_X10_takeNumber K n E a0 x1 x2 h hf)
