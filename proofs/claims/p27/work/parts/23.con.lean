section
set_option maxHeartbeats 400000 in
set_option maxRecDepth 100000 in
theorem J_X8_allFades_4_b {G : jG} {l : Launch} {d : Nat} {X : jX} {res : Int32} (K : jOK G l mX8_allFades (d) X) (n : Nat) (h : jH) (rc4 : Nat → Int32 → Int32 → jH → Option Int32) (hr4 : ∀ (a0 : Nat) (x1 : Int32) (x2 : Int32), rc4 a0 x1 x2 h = some res → jJ G X h 0 0 4 [some (.ref a0), some (.int x1), some (.int x2)] []) (E : jEnd G mX8_allFades (jPR h res) X) (a0 : Nat) (x1 : Int32) (x2 : Int32) (hf : F_X8_allFades_4_b n rc4 a0 x1 x2 h = some res) : jJ G X h 0 0 4 [some (.ref a0), some (.int x1), some (.int x2)] [] := by
  unfold F_X8_allFades_4_b at hf
  refine jr_iload_n K (D_at DX8_allFades_q0 4 rfl) rfl rfl ?_
  refine jr_aload_n K (D_at DX8_allFades_q0 5 rfl) rfl rfl ?_
  obtain ⟨v6, e6, hf⟩ := jbind hf
  refine jr_getI K (D_at DX8_allFades_q0 6 rfl) fg_X8_51_6 e6 ?_
  refine jr_icmp_ge K (D_at DX8_allFades_q0 7 rfl) (tgt := 27) (by decide) (fun c9 => ?_) (fun c9 => ?_)
  · replace hf := (if_pos c9).symm.trans hf
    refine jr_iload_n K (D_at DX8_allFades_q1 5 rfl) rfl rfl ?_
    cases hf
    exact jr_iret K E (D_at DX8_allFades_q1 6 rfl) rfl ⟨rfl, rfl⟩
  · replace hf := (if_neg c9).symm.trans hf
    refine jr_iload_n K (D_at DX8_allFades_q0 8 rfl) rfl rfl ?_
    refine jr_aload_n K (D_at DX8_allFades_q0 9 rfl) rfl rfl ?_
    obtain ⟨p14, e14, hf⟩ := jbind hf
    refine jr_getR K (D_at DX8_allFades_q0 10 rfl) fg_X8_18_6 e14 ?_
    refine jr_iload_n K (D_at DX8_allFades_q0 11 rfl) rfl rfl ?_
    obtain ⟨v18, e18, hf⟩ := jbind hf
    refine jr_iald K (D_at DX8_allFades_q1 0 rfl) e18 ?_
    refine jr_iadd K (D_at DX8_allFades_q1 1 rfl) ?_
    refine jr_istore_n K (D_at DX8_allFades_q1 2 rfl) (i := 1) rfl (by decide) (L2 := [_, _, _]) rfl ?_
    refine jr_iinc K (D_at DX8_allFades_q1 3 rfl) (i := 2) rfl (v := x2 + (1 : Int32)) (jinc (by decide)) (by decide) (L2 := [_, _, _]) rfl ?_
    refine jr_goto K (D_at DX8_allFades_q1 4 rfl) (tgt := 4) (by decide) ?_
    refine jr_keep [true, true, true] ?_
    exact hr4 a0 (x1 + v18) (x2 + (1 : Int32)) hf
theorem J_X8_allFades_4 {G : jG} {l : Launch} {d : Nat} {X : jX} {res : Int32} (K : jOK G l mX8_allFades (d) X) (n : Nat) (h : jH) (E : jEnd G mX8_allFades (jPR h res) X) (k : Nat) : ∀ (a0 : Nat) (x1 : Int32) (x2 : Int32), F_X8_allFades_4 n k a0 x1 x2 h = some res → jJ G X h 0 0 4 [some (.ref a0), some (.int x1), some (.int x2)] [] := by
  induction k with
  | zero =>
    intro a0 x1 x2 hf
    exact jno (show (none : Option Int32) = some res from hf)
  | succ k ih =>
    intro a0 x1 x2 hf
    exact J_X8_allFades_4_b K n h (F_X8_allFades_4 n k) ih E a0 x1 x2 hf
set_option maxHeartbeats 400000 in
set_option maxRecDepth 100000 in
theorem J_X8_allFades {G : jG} {l : Launch} {d : Nat} {X : jX} {res : Int32} (K : jOK G l mX8_allFades (d) X) (n : Nat) (h : jH) (E : jEnd G mX8_allFades (jPR h res) X) (a0 : Nat) (hf : F_X8_allFades n a0 h = some res) : jJ G X h 0 0 0 [some (.ref a0), none, none] [] := by
  unfold F_X8_allFades at hf
  refine jr_iconst K (D_at DX8_allFades_q0 0 rfl) (v := (0 : Int32)) (by decide) ?_
  refine jr_istore_n K (D_at DX8_allFades_q0 1 rfl) (i := 1) rfl (by decide) (L2 := [_, _, _]) rfl ?_
  refine jr_iconst K (D_at DX8_allFades_q0 2 rfl) (v := (0 : Int32)) (by decide) ?_
  refine jr_istore_n K (D_at DX8_allFades_q0 3 rfl) (i := 2) rfl (by decide) (L2 := [_, _, _]) rfl ?_
  refine jr_keep [true, true, true] ?_
  exact J_X8_allFades_4 K n h E n a0 (0 : Int32) (0 : Int32) hf
theorem C_X8_allFades {G : jG} {l : Launch} (d : Nat) {n : Nat} {a0 : Nat} {h : jH} {res : Int32} (hf : F_X8_allFades n a0 h = some res) : jC G l mX8_allFades (d) 0 0 [.ref a0] h (jPR h res) :=
  jC.of pn_X8 (jcats rfl) (Nat.le_of_ble_eq_true rfl) (fun X K E => J_X8_allFades K n h E a0 hf)
set_option maxHeartbeats 400000 in
set_option maxRecDepth 100000 in
theorem J_X6_share {G : jG} {l : Launch} {d : Nat} {X : jX} {res : Int32} (K : jOK G l mX6_share (d + 1) X) (n : Nat) (h : jH) (E : jEnd G mX6_share (jPR h res) X) (a0 : Nat) (x1 : Int32) (hf : F_X6_share n a0 x1 h = some res) : jJ G X h 0 0 0 [some (.ref a0), some (.int x1), none] [] := by
  unfold F_X6_share at hf
  refine jr_aload_n K (D_at DX6_share_q0 0 rfl) rfl rfl ?_
  obtain ⟨v1, e1, hf⟩ := jbind hf
  obtain ⟨rc_1, e1⟩ := jcv_o e1
  refine jr_callV K (C_X8_allFades (d) e1) (D_at DX6_share_q0 1 rfl) cv_X6_32_X8_allFades (As := []) (ci := 6) rfl rc_1 rfl rfl (by exact Nat.le_of_ble_eq_true rfl) (kc2 := 0) (ks2 := 0) rfl rfl (fun k9 h9 w9 => by cases w9.1) (fun r9 h9 w9 => ?_)
  obtain ⟨w1, w2⟩ := w9
  subst h9
  cases w1
  show jJ G X _ 0 0 _ _ (.int v1 :: _)
  refine jr_istore_n K (D_at DX6_share_q0 2 rfl) (i := 2) rfl (by decide) (L2 := [_, _, _]) rfl ?_
  refine jr_iload_n K (D_at DX6_share_q0 3 rfl) rfl rfl ?_
  refine jr_if_ne K (D_at DX6_share_q0 4 rfl) (tgt := 13) (by decide) (fun c6 => ?_) (fun c6 => ?_)
  · replace hf := (if_neg c6).symm.trans hf
    refine jr_bipush K (D_at DX6_share_q0 7 rfl) (v := (100 : Int32)) (by decide) ?_
    refine jr_aload_n K (D_at DX6_share_q0 8 rfl) rfl rfl ?_
    obtain ⟨p16, e16, hf⟩ := jbind hf
    refine jr_getR K (D_at DX6_share_q0 9 rfl) fg_X6_36_6 e16 ?_
    refine jr_iload_n K (D_at DX6_share_q0 10 rfl) rfl rfl ?_
    obtain ⟨v20, e20, hf⟩ := jbind hf
    refine jr_iald K (D_at DX6_share_q0 11 rfl) e20 ?_
    refine jr_imul K (D_at DX6_share_q1 0 rfl) ?_
    refine jr_iload_n K (D_at DX6_share_q1 1 rfl) rfl rfl ?_
    by_cases c23 : v1 = 0
    · exact jno (show (none : Option Int32) = some res from (if_pos c23).symm.trans hf)
    replace hf := (if_neg c23).symm.trans hf
    refine jr_idiv K (D_at DX6_share_q1 2 rfl) c23 ?_
    cases hf
    exact jr_iret K E (D_at DX6_share_q1 3 rfl) rfl ⟨rfl, rfl⟩
  · replace hf := (if_pos c6).symm.trans hf
    refine jr_iconst K (D_at DX6_share_q0 5 rfl) (v := (0 : Int32)) (by decide) ?_
    refine jr_goto K (D_at DX6_share_q0 6 rfl) (tgt := 24) (by decide) ?_
    cases hf
    exact jr_iret K E (D_at DX6_share_q1 3 rfl) rfl ⟨rfl, rfl⟩
theorem C_X6_share {G : jG} {l : Launch} (d : Nat) {n : Nat} {a0 : Nat} {x1 : Int32} {h : jH} {res : Int32} (hf : F_X6_share n a0 x1 h = some res) : jC G l mX6_share (d + 1) 0 0 [.ref a0, .int x1] h (jPR h res) :=
  jC.of pn_X6 (jcats rfl) (Nat.le_of_ble_eq_true rfl) (fun X K E => J_X6_share K n h E a0 x1 hf)
set_option maxHeartbeats 400000 in
set_option maxRecDepth 100000 in
theorem J_X6_isInOrder_4_b {G : jG} {l : Launch} {d : Nat} {X : jX} {res : Int32} (K : jOK G l mX6_isInOrder (d + 1) X) (n : Nat) (h : jH) (rc4 : Nat → Int32 → Int32 → Int32 → jH → Option Int32) (hr4 : ∀ (a0 : Nat) (x1 : Int32) (x2 : Int32) (x3 : Int32), rc4 a0 x1 x2 x3 h = some res → jJ G X h 0 0 4 [some (.ref a0), some (.int x1), some (.int x2), some (.int x3)] []) (E : jEnd G mX6_isInOrder (jPR h res) X) (a0 : Nat) (x1 : Int32) (x2 : Int32) (x3 : Int32) (hf : F_X6_isInOrder_4_b n rc4 a0 x1 x2 x3 h = some res) : jJ G X h 0 0 4 [some (.ref a0), some (.int x1), some (.int x2), some (.int x3)] [] := by
  unfold F_X6_isInOrder_4_b at hf
  refine jr_iload_n K (D_at DX6_isInOrder_q0 4 rfl) rfl rfl ?_
  refine jr_aload_n K (D_at DX6_isInOrder_q0 5 rfl) rfl rfl ?_
  obtain ⟨v6, e6, hf⟩ := jbind hf
  refine jr_getI K (D_at DX6_isInOrder_q0 6 rfl) fg_X6_19_6 e6 ?_
  refine jr_icmp_ge K (D_at DX6_isInOrder_q0 7 rfl) (tgt := 46) (by decide) (fun c9 => ?_) (fun c9 => ?_)
  · replace hf := (if_pos c9).symm.trans hf
    refine jr_iconst K (D_at DX6_isInOrder_q2 4 rfl) (v := (1 : Int32)) (by decide) ?_
    cases hf
    exact jr_zret K E (D_at DX6_isInOrder_q2 5 rfl) rfl (Or.inr rfl) ⟨rfl, rfl⟩
  · replace hf := (if_neg c9).symm.trans hf
    refine jr_iload_n K (D_at DX6_isInOrder_q0 8 rfl) rfl rfl ?_
    refine jr_iload_n K (D_at DX6_isInOrder_q0 9 rfl) rfl rfl ?_
    obtain ⟨v14, e14, hf⟩ := jbind hf
    refine jr_callSN K (C_X11_bit (d) e14) (D_at DX6_isInOrder_q0 10 rfl) csn_X6_15_X11_bit (As := [.int x1, .int x3]) rfl rfl (by exact Nat.le_of_ble_eq_true rfl) (kc2 := 0) (ks2 := 0) rfl rfl (fun k9 h9 w9 => by cases w9.1) (fun r9 h9 w9 => ?_)
    obtain ⟨w1, w2⟩ := w9
    subst h9
    cases w1
    show jJ G X _ 0 0 _ _ (.int v14 :: _)
    refine jr_iconst K (D_at DX6_isInOrder_q0 11 rfl) (v := (1 : Int32)) (by decide) ?_
    refine jr_icmp_ne K (D_at DX6_isInOrder_q1 0 rfl) (tgt := 40) (by decide) (fun c18 => ?_) (fun c18 => ?_)
    · replace hf := (if_neg c18).symm.trans hf
      refine jr_iinc K (D_at DX6_isInOrder_q2 2 rfl) (i := 3) rfl (v := x3 + (1 : Int32)) (jinc (by decide)) (by decide) (L2 := [_, _, _, _]) rfl ?_
      refine jr_goto K (D_at DX6_isInOrder_q2 3 rfl) (tgt := 4) (by decide) ?_
      refine jr_keep [true, true, true, true] ?_
      exact hr4 a0 x1 x2 (x3 + (1 : Int32)) hf
    · replace hf := (if_pos c18).symm.trans hf
      refine jr_aload_n K (D_at DX6_isInOrder_q1 1 rfl) rfl rfl ?_
      obtain ⟨p22, e22, hf⟩ := jbind hf
      refine jr_getR K (D_at DX6_isInOrder_q1 2 rfl) fg_X6_36_6 e22 ?_
      refine jr_iload_n K (D_at DX6_isInOrder_q1 3 rfl) rfl rfl ?_
      obtain ⟨v26, e26, hf⟩ := jbind hf
      refine jr_iald K (D_at DX6_isInOrder_q1 4 rfl) e26 ?_
      refine jr_iload_n K (D_at DX6_isInOrder_q1 5 rfl) rfl rfl ?_
      refine jr_icmp_ge K (D_at DX6_isInOrder_q1 6 rfl) (tgt := 33) (by decide) (fun c28 => ?_) (fun c28 => ?_)
      · replace hf := (if_pos c28).symm.trans hf
        refine jr_aload_n K (D_at DX6_isInOrder_q1 9 rfl) rfl rfl ?_
        obtain ⟨p34, e34, hf⟩ := jbind hf
        refine jr_getR K (D_at DX6_isInOrder_q1 10 rfl) fg_X6_36_6 e34 ?_
        refine jr_iload_n K (D_at DX6_isInOrder_q1 11 rfl) rfl rfl ?_
        obtain ⟨v38, e38, hf⟩ := jbind hf
        refine jr_iald K (D_at DX6_isInOrder_q2 0 rfl) e38 ?_
        refine jr_istore_n K (D_at DX6_isInOrder_q2 1 rfl) (i := 2) rfl (by decide) (L2 := [_, _, _, _]) rfl ?_
        refine jr_iinc K (D_at DX6_isInOrder_q2 2 rfl) (i := 3) rfl (v := x3 + (1 : Int32)) (jinc (by decide)) (by decide) (L2 := [_, _, _, _]) rfl ?_
        refine jr_goto K (D_at DX6_isInOrder_q2 3 rfl) (tgt := 4) (by decide) ?_
        refine jr_keep [true, true, true, true] ?_
        exact hr4 a0 x1 v38 (x3 + (1 : Int32)) hf
      · replace hf := (if_neg c28).symm.trans hf
        refine jr_iconst K (D_at DX6_isInOrder_q1 7 rfl) (v := (0 : Int32)) (by decide) ?_
        cases hf
        exact jr_zret K E (D_at DX6_isInOrder_q1 8 rfl) rfl (Or.inl rfl) ⟨rfl, rfl⟩
theorem J_X6_isInOrder_4 {G : jG} {l : Launch} {d : Nat} {X : jX} {res : Int32} (K : jOK G l mX6_isInOrder (d + 1) X) (n : Nat) (h : jH) (E : jEnd G mX6_isInOrder (jPR h res) X) (k : Nat) : ∀ (a0 : Nat) (x1 : Int32) (x2 : Int32) (x3 : Int32), F_X6_isInOrder_4 n k a0 x1 x2 x3 h = some res → jJ G X h 0 0 4 [some (.ref a0), some (.int x1), some (.int x2), some (.int x3)] [] := by
  induction k with
  | zero =>
    intro a0 x1 x2 x3 hf
    exact jno (show (none : Option Int32) = some res from hf)
  | succ k ih =>
    intro a0 x1 x2 x3 hf
    exact J_X6_isInOrder_4_b K n h (F_X6_isInOrder_4 n k) ih E a0 x1 x2 x3 hf
set_option maxHeartbeats 400000 in
set_option maxRecDepth 100000 in
theorem J_X6_isInOrder {G : jG} {l : Launch} {d : Nat} {X : jX} {res : Int32} (K : jOK G l mX6_isInOrder (d + 1) X) (n : Nat) (h : jH) (E : jEnd G mX6_isInOrder (jPR h res) X) (a0 : Nat) (x1 : Int32) (hf : F_X6_isInOrder n a0 x1 h = some res) : jJ G X h 0 0 0 [some (.ref a0), some (.int x1), none, none] [] := by
  unfold F_X6_isInOrder at hf
  refine jr_iconst K (D_at DX6_isInOrder_q0 0 rfl) (v := (0 : Int32)) (by decide) ?_
  refine jr_istore_n K (D_at DX6_isInOrder_q0 1 rfl) (i := 2) rfl (by decide) (L2 := [_, _, _, _]) rfl ?_
  refine jr_iconst K (D_at DX6_isInOrder_q0 2 rfl) (v := (0 : Int32)) (by decide) ?_
  refine jr_istore_n K (D_at DX6_isInOrder_q0 3 rfl) (i := 3) rfl (by decide) (L2 := [_, _, _, _]) rfl ?_
  refine jr_keep [true, true, true, true] ?_
  exact J_X6_isInOrder_4 K n h E n a0 x1 (0 : Int32) (0 : Int32) hf
theorem C_X6_isInOrder {G : jG} {l : Launch} (d : Nat) {n : Nat} {a0 : Nat} {x1 : Int32} {h : jH} {res : Int32} (hf : F_X6_isInOrder n a0 x1 h = some res) : jC G l mX6_isInOrder (d + 1) 0 0 [.ref a0, .int x1] h (jPR h res) :=
  jC.of pn_X6 (jcats rfl) (Nat.le_of_ble_eq_true rfl) (fun X K E => J_X6_isInOrder K n h E a0 x1 hf)
set_option maxHeartbeats 400000 in
set_option maxRecDepth 100000 in
theorem J_J6_bitCount_0f7a4 {G : jG} {l : Launch} {d : Nat} {X : jX} {res : Int32} (K : jOK G l mJ6_bitCount_0f7a4 (d) X) (n : Nat) (h : jH) (E : jEnd G mJ6_bitCount_0f7a4 (jPR h res) X) (x0 : Int32) (hf : F_J6_bitCount_0f7a4 n x0 h = some res) : jJ G X h 0 0 0 [some (.int x0)] [] := by
  unfold F_J6_bitCount_0f7a4 at hf
  refine jr_iload_n K (D_at DJ6_bitCount_0f7a4_q0 0 rfl) rfl rfl ?_
  refine jr_iload_n K (D_at DJ6_bitCount_0f7a4_q0 1 rfl) rfl rfl ?_
  refine jr_iconst K (D_at DJ6_bitCount_0f7a4_q0 2 rfl) (v := (1 : Int32)) (by decide) ?_
  refine jr_iushr K (D_at DJ6_bitCount_0f7a4_q0 3 rfl) (v := jushr x0 (1 : Int32)) rfl ?_
  refine jr_ldcw K (D_at DJ6_bitCount_0f7a4_q0 4 rfl) (v := (1431655765 : Int32)) kc_J6_265 ?_
  refine jr_iand K (D_at DJ6_bitCount_0f7a4_q0 5 rfl) ?_
  refine jr_isub K (D_at DJ6_bitCount_0f7a4_q0 6 rfl) ?_
  refine jr_istore_n K (D_at DJ6_bitCount_0f7a4_q0 7 rfl) (i := 0) rfl (by decide) (L2 := [_]) rfl ?_
  refine jr_iload_n K (D_at DJ6_bitCount_0f7a4_q0 8 rfl) rfl rfl ?_
  refine jr_ldcw K (D_at DJ6_bitCount_0f7a4_q0 9 rfl) (v := (858993459 : Int32)) kc_J6_266 ?_
  refine jr_iand K (D_at DJ6_bitCount_0f7a4_q0 10 rfl) ?_
  refine jr_iload_n K (D_at DJ6_bitCount_0f7a4_q0 11 rfl) rfl rfl ?_
  refine jr_iconst K (D_at DJ6_bitCount_0f7a4_q1 0 rfl) (v := (2 : Int32)) (by decide) ?_
  refine jr_iushr K (D_at DJ6_bitCount_0f7a4_q1 1 rfl) (v := jushr (x0 - ((jushr x0 (1 : Int32)) &&& (1431655765 : Int32))) (2 : Int32)) rfl ?_
  refine jr_ldcw K (D_at DJ6_bitCount_0f7a4_q1 2 rfl) (v := (858993459 : Int32)) kc_J6_266 ?_
  refine jr_iand K (D_at DJ6_bitCount_0f7a4_q1 3 rfl) ?_
  refine jr_iadd K (D_at DJ6_bitCount_0f7a4_q1 4 rfl) ?_
  refine jr_istore_n K (D_at DJ6_bitCount_0f7a4_q1 5 rfl) (i := 0) rfl (by decide) (L2 := [_]) rfl ?_
  refine jr_iload_n K (D_at DJ6_bitCount_0f7a4_q1 6 rfl) rfl rfl ?_
  refine jr_iload_n K (D_at DJ6_bitCount_0f7a4_q1 7 rfl) rfl rfl ?_
  refine jr_iconst K (D_at DJ6_bitCount_0f7a4_q1 8 rfl) (v := (4 : Int32)) (by decide) ?_
  refine jr_iushr K (D_at DJ6_bitCount_0f7a4_q1 9 rfl) (v := jushr (((x0 - ((jushr x0 (1 : Int32)) &&& (1431655765 : Int32))) &&& (858993459 : Int32)) + ((jushr (x0 - ((jushr x0 (1 : Int32)) &&& (1431655765 : Int32))) (2 : Int32)) &&& (858993459 : Int32))) (4 : Int32)) rfl ?_
  refine jr_iadd K (D_at DJ6_bitCount_0f7a4_q1 10 rfl) ?_
  refine jr_ldcw K (D_at DJ6_bitCount_0f7a4_q1 11 rfl) (v := (252645135 : Int32)) kc_J6_267 ?_
  refine jr_iand K (D_at DJ6_bitCount_0f7a4_q2 0 rfl) ?_
  refine jr_istore_n K (D_at DJ6_bitCount_0f7a4_q2 1 rfl) (i := 0) rfl (by decide) (L2 := [_]) rfl ?_
  refine jr_iload_n K (D_at DJ6_bitCount_0f7a4_q2 2 rfl) rfl rfl ?_
  refine jr_iload_n K (D_at DJ6_bitCount_0f7a4_q2 3 rfl) rfl rfl ?_
  refine jr_bipush K (D_at DJ6_bitCount_0f7a4_q2 4 rfl) (v := (8 : Int32)) (by decide) ?_
  refine jr_iushr K (D_at DJ6_bitCount_0f7a4_q2 5 rfl) (v := jushr (((((x0 - ((jushr x0 (1 : Int32)) &&& (1431655765 : Int32))) &&& (858993459 : Int32)) + ((jushr (x0 - ((jushr x0 (1 : Int32)) &&& (1431655765 : Int32))) (2 : Int32)) &&& (858993459 : Int32))) + (jushr (((x0 - ((jushr x0 (1 : Int32)) &&& (1431655765 : Int32))) &&& (858993459 : Int32)) + ((jushr (x0 - ((jushr x0 (1 : Int32)) &&& (1431655765 : Int32))) (2 : Int32)) &&& (858993459 : Int32))) (4 : Int32))) &&& (252645135 : Int32)) (8 : Int32)) rfl ?_
  refine jr_iadd K (D_at DJ6_bitCount_0f7a4_q2 6 rfl) ?_
  refine jr_istore_n K (D_at DJ6_bitCount_0f7a4_q2 7 rfl) (i := 0) rfl (by decide) (L2 := [_]) rfl ?_
  refine jr_iload_n K (D_at DJ6_bitCount_0f7a4_q2 8 rfl) rfl rfl ?_
  refine jr_iload_n K (D_at DJ6_bitCount_0f7a4_q2 9 rfl) rfl rfl ?_
  refine jr_bipush K (D_at DJ6_bitCount_0f7a4_q2 10 rfl) (v := (16 : Int32)) (by decide) ?_
  refine jr_iushr K (D_at DJ6_bitCount_0f7a4_q2 11 rfl) (v := jushr ((((((x0 - ((jushr x0 (1 : Int32)) &&& (1431655765 : Int32))) &&& (858993459 : Int32)) + ((jushr (x0 - ((jushr x0 (1 : Int32)) &&& (1431655765 : Int32))) (2 : Int32)) &&& (858993459 : Int32))) + (jushr (((x0 - ((jushr x0 (1 : Int32)) &&& (1431655765 : Int32))) &&& (858993459 : Int32)) + ((jushr (x0 - ((jushr x0 (1 : Int32)) &&& (1431655765 : Int32))) (2 : Int32)) &&& (858993459 : Int32))) (4 : Int32))) &&& (252645135 : Int32)) + (jushr (((((x0 - ((jushr x0 (1 : Int32)) &&& (1431655765 : Int32))) &&& (858993459 : Int32)) + ((jushr (x0 - ((jushr x0 (1 : Int32)) &&& (1431655765 : Int32))) (2 : Int32)) &&& (858993459 : Int32))) + (jushr (((x0 - ((jushr x0 (1 : Int32)) &&& (1431655765 : Int32))) &&& (858993459 : Int32)) + ((jushr (x0 - ((jushr x0 (1 : Int32)) &&& (1431655765 : Int32))) (2 : Int32)) &&& (858993459 : Int32))) (4 : Int32))) &&& (252645135 : Int32)) (8 : Int32))) (16 : Int32)) rfl ?_
  refine jr_iadd K (D_at DJ6_bitCount_0f7a4_q3 0 rfl) ?_
  refine jr_istore_n K (D_at DJ6_bitCount_0f7a4_q3 1 rfl) (i := 0) rfl (by decide) (L2 := [_]) rfl ?_
  refine jr_iload_n K (D_at DJ6_bitCount_0f7a4_q3 2 rfl) rfl rfl ?_
  refine jr_bipush K (D_at DJ6_bitCount_0f7a4_q3 3 rfl) (v := (63 : Int32)) (by decide) ?_
  refine jr_iand K (D_at DJ6_bitCount_0f7a4_q3 4 rfl) ?_
  cases hf
  exact jr_iret K E (D_at DJ6_bitCount_0f7a4_q3 5 rfl) rfl ⟨rfl, rfl⟩
theorem C_J6_bitCount_0f7a4 {G : jG} {l : Launch} (d : Nat) {n : Nat} {x0 : Int32} {h : jH} {res : Int32} (hf : F_J6_bitCount_0f7a4 n x0 h = some res) : jC G l mJ6_bitCount_0f7a4 (d) 0 0 [.int x0] h (jPR h res) :=
  jC.ofF (by decide +kernel) (jcats rfl) (Nat.le_of_ble_eq_true rfl) (fun X K E => J_J6_bitCount_0f7a4 K n h E x0 hf)
set_option maxHeartbeats 400000 in
set_option maxRecDepth 100000 in
theorem J_X6_outOfOrder_4_b {G : jG} {l : Launch} {d : Nat} {X : jX} {res : Int32} (K : jOK G l mX6_outOfOrder (d + 2) X) (n : Nat) (h : jH) (rc4 : Nat → Int32 → Int32 → jH → Option Int32) (hr4 : ∀ (a0 : Nat) (x1 : Int32) (x2 : Int32), rc4 a0 x1 x2 h = some res → jJ G X h 0 0 4 [some (.ref a0), some (.int x1), some (.int x2)] []) (E : jEnd G mX6_outOfOrder (jPR h res) X) (a0 : Nat) (x1 : Int32) (x2 : Int32) (hf : F_X6_outOfOrder_4_b n rc4 a0 x1 x2 h = some res) : jJ G X h 0 0 4 [some (.ref a0), some (.int x1), some (.int x2)] [] := by
  unfold F_X6_outOfOrder_4_b at hf
  refine jr_iload_n K (D_at DX6_outOfOrder_q0 4 rfl) rfl rfl ?_
  refine jr_iconst K (D_at DX6_outOfOrder_q0 5 rfl) (v := (1 : Int32)) (by decide) ?_
  refine jr_aload_n K (D_at DX6_outOfOrder_q0 6 rfl) rfl rfl ?_
  obtain ⟨v7, e7, hf⟩ := jbind hf
  refine jr_getI K (D_at DX6_outOfOrder_q0 7 rfl) fg_X6_19_6 e7 ?_
  refine jr_ishl K (D_at DX6_outOfOrder_q0 8 rfl) ?_
  refine jr_icmp_ge K (D_at DX6_outOfOrder_q0 9 rfl) (tgt := 37) (by decide) (fun c11 => ?_) (fun c11 => ?_)
  · replace hf := (if_pos c11).symm.trans hf
    refine jr_aload_n K (D_at DX6_outOfOrder_q1 9 rfl) rfl rfl ?_
    obtain ⟨v38, e38, hf⟩ := jbind hf
    refine jr_getI K (D_at DX6_outOfOrder_q1 10 rfl) fg_X6_19_6 e38 ?_
    refine jr_iload_n K (D_at DX6_outOfOrder_q1 11 rfl) rfl rfl ?_
    refine jr_isub K (D_at DX6_outOfOrder_q2 0 rfl) ?_
    cases hf
    exact jr_iret K E (D_at DX6_outOfOrder_q2 1 rfl) rfl ⟨rfl, rfl⟩
  · replace hf := (if_neg c11).symm.trans hf
    refine jr_aload_n K (D_at DX6_outOfOrder_q0 10 rfl) rfl rfl ?_
    refine jr_iload_n K (D_at DX6_outOfOrder_q0 11 rfl) rfl rfl ?_
    obtain ⟨v16, e16, hf⟩ := jbind hf
    refine jr_callS K (C_X6_isInOrder (d) e16) (D_at DX6_outOfOrder_q1 0 rfl) cs_X6_39_X6_isInOrder (As := [.ref a0, .int x2]) rfl rfl (by exact Nat.le_of_ble_eq_true rfl) (kc2 := 0) (ks2 := 0) rfl rfl (fun k9 h9 w9 => by cases w9.1) (fun r9 h9 w9 => ?_)
    obtain ⟨w1, w2⟩ := w9
    subst h9
    cases w1
    show jJ G X _ 0 0 _ _ (.int v16 :: _)
    refine jr_if_eq K (D_at DX6_outOfOrder_q1 1 rfl) (tgt := 31) (by decide) (fun c19 => ?_) (fun c19 => ?_)
    · replace hf := (if_pos c19).symm.trans hf
      refine jr_iinc K (D_at DX6_outOfOrder_q1 7 rfl) (i := 2) rfl (v := x2 + (1 : Int32)) (jinc (by decide)) (by decide) (L2 := [_, _, _]) rfl ?_
      refine jr_goto K (D_at DX6_outOfOrder_q1 8 rfl) (tgt := 4) (by decide) ?_
      refine jr_keep [true, true, true] ?_
      exact hr4 a0 x1 (x2 + (1 : Int32)) hf
    · replace hf := (if_neg c19).symm.trans hf
      refine jr_iload_n K (D_at DX6_outOfOrder_q1 2 rfl) rfl rfl ?_
      refine jr_iload_n K (D_at DX6_outOfOrder_q1 3 rfl) rfl rfl ?_
      obtain ⟨v24, e24, hf⟩ := jbind hf
      refine jr_callS K (C_J6_bitCount_0f7a4 (d + 1) e24) (D_at DX6_outOfOrder_q1 4 rfl) cs_X6_45_J6_bitCount_0f7a4 (As := [.int x2]) rfl rfl (by exact Nat.le_of_ble_eq_true rfl) (kc2 := 0) (ks2 := 0) rfl rfl (fun k9 h9 w9 => by cases w9.1) (fun r9 h9 w9 => ?_)
      obtain ⟨w1, w2⟩ := w9
      subst h9
      cases w1
      show jJ G X _ 0 0 _ _ (.int v24 :: _)
      refine jr_max K (D_at DX6_outOfOrder_q1 5 rfl) mm_X6_50 (by exact Nat.le_of_ble_eq_true rfl) ?_
      refine jr_istore_n K (D_at DX6_outOfOrder_q1 6 rfl) (i := 1) rfl (by decide) (L2 := [_, _, _]) rfl ?_
      refine jr_iinc K (D_at DX6_outOfOrder_q1 7 rfl) (i := 2) rfl (v := x2 + (1 : Int32)) (jinc (by decide)) (by decide) (L2 := [_, _, _]) rfl ?_
      refine jr_goto K (D_at DX6_outOfOrder_q1 8 rfl) (tgt := 4) (by decide) ?_
      refine jr_keep [true, true, true] ?_
      exact hr4 a0 (if x1 < v24 then v24 else x1) (x2 + (1 : Int32)) hf
theorem J_X6_outOfOrder_4 {G : jG} {l : Launch} {d : Nat} {X : jX} {res : Int32} (K : jOK G l mX6_outOfOrder (d + 2) X) (n : Nat) (h : jH) (E : jEnd G mX6_outOfOrder (jPR h res) X) (k : Nat) : ∀ (a0 : Nat) (x1 : Int32) (x2 : Int32), F_X6_outOfOrder_4 n k a0 x1 x2 h = some res → jJ G X h 0 0 4 [some (.ref a0), some (.int x1), some (.int x2)] [] := by
  induction k with
  | zero =>
    intro a0 x1 x2 hf
    exact jno (show (none : Option Int32) = some res from hf)
  | succ k ih =>
    intro a0 x1 x2 hf
    exact J_X6_outOfOrder_4_b K n h (F_X6_outOfOrder_4 n k) ih E a0 x1 x2 hf
set_option maxHeartbeats 400000 in
set_option maxRecDepth 100000 in
theorem J_X6_outOfOrder {G : jG} {l : Launch} {d : Nat} {X : jX} {res : Int32} (K : jOK G l mX6_outOfOrder (d + 2) X) (n : Nat) (h : jH) (E : jEnd G mX6_outOfOrder (jPR h res) X) (a0 : Nat) (hf : F_X6_outOfOrder n a0 h = some res) : jJ G X h 0 0 0 [some (.ref a0), none, none] [] := by
  unfold F_X6_outOfOrder at hf
  refine jr_iconst K (D_at DX6_outOfOrder_q0 0 rfl) (v := (0 : Int32)) (by decide) ?_
  refine jr_istore_n K (D_at DX6_outOfOrder_q0 1 rfl) (i := 1) rfl (by decide) (L2 := [_, _, _]) rfl ?_
  refine jr_iconst K (D_at DX6_outOfOrder_q0 2 rfl) (v := (0 : Int32)) (by decide) ?_
  refine jr_istore_n K (D_at DX6_outOfOrder_q0 3 rfl) (i := 2) rfl (by decide) (L2 := [_, _, _]) rfl ?_
  refine jr_keep [true, true, true] ?_
  exact J_X6_outOfOrder_4 K n h E n a0 (0 : Int32) (0 : Int32) hf
theorem C_X6_outOfOrder {G : jG} {l : Launch} (d : Nat) {n : Nat} {a0 : Nat} {h : jH} {res : Int32} (hf : F_X6_outOfOrder n a0 h = some res) : jC G l mX6_outOfOrder (d + 2) 0 0 [.ref a0] h (jPR h res) :=
  jC.of pn_X6 (jcats rfl) (Nat.le_of_ble_eq_true rfl) (fun X K E => J_X6_outOfOrder K n h E a0 hf)
set_option maxHeartbeats 400000 in
set_option maxRecDepth 100000 in
theorem J_X6_tightest_8_b {G : jG} {l : Launch} {d : Nat} {X : jX} {res : Int32} (K : jOK G l mX6_tightest (d) X) (n : Nat) (h : jH) (rc8 : Nat → Int32 → Int32 → Int32 → Int32 → jH → Option Int32) (hr8 : ∀ (a0 : Nat) (x1 : Int32) (x2 : Int32) (x3 : Int32) (x4 : Int32), rc8 a0 x1 x2 x3 x4 h = some res → jJ G X h 0 0 8 [some (.ref a0), some (.int x1), some (.int x2), some (.int x3), some (.int x4), none] []) (E : jEnd G mX6_tightest (jPR h res) X) (a0 : Nat) (x1 : Int32) (x2 : Int32) (x3 : Int32) (x4 : Int32) (hf : F_X6_tightest_8_b n rc8 a0 x1 x2 x3 x4 h = some res) : jJ G X h 0 0 8 [some (.ref a0), some (.int x1), some (.int x2), some (.int x3), some (.int x4), none] [] := by
  unfold F_X6_tightest_8_b at hf
  refine jr_iload K (D_at DX6_tightest_q0 6 rfl) rfl ?_
  refine jr_iload_n K (D_at DX6_tightest_q0 7 rfl) rfl rfl ?_
  refine jr_iadd K (D_at DX6_tightest_q0 8 rfl) ?_
  refine jr_aload_n K (D_at DX6_tightest_q0 9 rfl) rfl rfl ?_
  obtain ⟨v13, e13, hf⟩ := jbind hf
  refine jr_getI K (D_at DX6_tightest_q0 10 rfl) fg_X6_19_6 e13 ?_
  refine jr_icmp_gt K (D_at DX6_tightest_q0 11 rfl) (tgt := 58) (by decide) (fun c16 => ?_) (fun c16 => ?_)
  · replace hf := (if_pos c16).symm.trans hf
    refine jr_iload_n K (D_at DX6_tightest_q2 11 rfl) rfl rfl ?_
    cases hf
    exact jr_iret K E (D_at DX6_tightest_q3 0 rfl) rfl ⟨rfl, rfl⟩
  · replace hf := (if_neg c16).symm.trans hf
    refine jr_aload_n K (D_at DX6_tightest_q1 0 rfl) rfl rfl ?_
    obtain ⟨p20, e20, hf⟩ := jbind hf
    refine jr_getR K (D_at DX6_tightest_q1 1 rfl) fg_X6_22_6 e20 ?_
    refine jr_iload K (D_at DX6_tightest_q1 2 rfl) rfl ?_
    refine jr_iload_n K (D_at DX6_tightest_q1 3 rfl) rfl rfl ?_
    refine jr_iadd K (D_at DX6_tightest_q1 4 rfl) ?_
    refine jr_iconst K (D_at DX6_tightest_q1 5 rfl) (v := (1 : Int32)) (by decide) ?_
    refine jr_isub K (D_at DX6_tightest_q1 6 rfl) ?_
    obtain ⟨v29, e29, hf⟩ := jbind hf
    refine jr_iald K (D_at DX6_tightest_q1 7 rfl) e29 ?_
    refine jr_aload_n K (D_at DX6_tightest_q1 8 rfl) rfl rfl ?_
    obtain ⟨p31, e31, hf⟩ := jbind hf
    refine jr_getR K (D_at DX6_tightest_q1 9 rfl) fg_X6_22_6 e31 ?_
    refine jr_iload K (D_at DX6_tightest_q1 10 rfl) rfl ?_
    obtain ⟨v36, e36, hf⟩ := jbind hf
    refine jr_iald K (D_at DX6_tightest_q1 11 rfl) e36 ?_
    refine jr_isub K (D_at DX6_tightest_q2 0 rfl) ?_
    refine jr_istore K (D_at DX6_tightest_q2 1 rfl) (i := 5) (by decide) (L2 := [_, _, _, _, _, _]) rfl ?_
    refine jr_iload K (D_at DX6_tightest_q2 2 rfl) rfl ?_
    refine jr_iload_n K (D_at DX6_tightest_q2 3 rfl) rfl rfl ?_
    refine jr_icmp_ge K (D_at DX6_tightest_q2 4 rfl) (tgt := 52) (by decide) (fun c43 => ?_) (fun c43 => ?_)
    · replace hf := (if_pos c43).symm.trans hf
      refine jr_iinc K (D_at DX6_tightest_q2 9 rfl) (i := 4) rfl (v := x4 + (1 : Int32)) (jinc (by decide)) (by decide) (L2 := [_, _, _, _, _, _]) rfl ?_
      refine jr_goto K (D_at DX6_tightest_q2 10 rfl) (tgt := 8) (by decide) ?_
      refine jr_keep [true, true, true, true, true, false] ?_
      exact hr8 a0 x1 x2 x3 (x4 + (1 : Int32)) hf
    · replace hf := (if_neg c43).symm.trans hf
      refine jr_iload K (D_at DX6_tightest_q2 5 rfl) rfl ?_
      refine jr_istore_n K (D_at DX6_tightest_q2 6 rfl) (i := 3) rfl (by decide) (L2 := [_, _, _, _, _, _]) rfl ?_
      refine jr_iload K (D_at DX6_tightest_q2 7 rfl) rfl ?_
      refine jr_istore_n K (D_at DX6_tightest_q2 8 rfl) (i := 2) rfl (by decide) (L2 := [_, _, _, _, _, _]) rfl ?_
      refine jr_iinc K (D_at DX6_tightest_q2 9 rfl) (i := 4) rfl (v := x4 + (1 : Int32)) (jinc (by decide)) (by decide) (L2 := [_, _, _, _, _, _]) rfl ?_
      refine jr_goto K (D_at DX6_tightest_q2 10 rfl) (tgt := 8) (by decide) ?_
      refine jr_keep [true, true, true, true, true, false] ?_
      exact hr8 a0 x1 x4 (v29 - v36) (x4 + (1 : Int32)) hf
theorem J_X6_tightest_8 {G : jG} {l : Launch} {d : Nat} {X : jX} {res : Int32} (K : jOK G l mX6_tightest (d) X) (n : Nat) (h : jH) (E : jEnd G mX6_tightest (jPR h res) X) (k : Nat) : ∀ (a0 : Nat) (x1 : Int32) (x2 : Int32) (x3 : Int32) (x4 : Int32), F_X6_tightest_8 n k a0 x1 x2 x3 x4 h = some res → jJ G X h 0 0 8 [some (.ref a0), some (.int x1), some (.int x2), some (.int x3), some (.int x4), none] [] := by
  induction k with
  | zero =>
    intro a0 x1 x2 x3 x4 hf
    exact jno (show (none : Option Int32) = some res from hf)
  | succ k ih =>
    intro a0 x1 x2 x3 x4 hf
    exact J_X6_tightest_8_b K n h (F_X6_tightest_8 n k) ih E a0 x1 x2 x3 x4 hf
set_option maxHeartbeats 400000 in
set_option maxRecDepth 100000 in
theorem J_X6_tightest {G : jG} {l : Launch} {d : Nat} {X : jX} {res : Int32} (K : jOK G l mX6_tightest (d) X) (n : Nat) (h : jH) (E : jEnd G mX6_tightest (jPR h res) X) (a0 : Nat) (x1 : Int32) (hf : F_X6_tightest n a0 x1 h = some res) : jJ G X h 0 0 0 [some (.ref a0), some (.int x1), none, none, none, none] [] := by
  unfold F_X6_tightest at hf
  refine jr_iconst K (D_at DX6_tightest_q0 0 rfl) (v := (-1 : Int32)) (by decide) ?_
  refine jr_istore_n K (D_at DX6_tightest_q0 1 rfl) (i := 2) rfl (by decide) (L2 := [_, _, _, _, _, _]) rfl ?_
  refine jr_bipush K (D_at DX6_tightest_q0 2 rfl) (v := (32 : Int32)) (by decide) ?_
  refine jr_istore_n K (D_at DX6_tightest_q0 3 rfl) (i := 3) rfl (by decide) (L2 := [_, _, _, _, _, _]) rfl ?_
  refine jr_iconst K (D_at DX6_tightest_q0 4 rfl) (v := (0 : Int32)) (by decide) ?_
  refine jr_istore K (D_at DX6_tightest_q0 5 rfl) (i := 4) (by decide) (L2 := [_, _, _, _, _, _]) rfl ?_
  refine jr_keep [true, true, true, true, true, false] ?_
  exact J_X6_tightest_8 K n h E n a0 x1 (-1 : Int32) (32 : Int32) (0 : Int32) hf
theorem C_X6_tightest {G : jG} {l : Launch} (d : Nat) {n : Nat} {a0 : Nat} {x1 : Int32} {h : jH} {res : Int32} (hf : F_X6_tightest n a0 x1 h = some res) : jC G l mX6_tightest (d) 0 0 [.ref a0, .int x1] h (jPR h res) :=
  jC.of pn_X6 (jcats rfl) (Nat.le_of_ble_eq_true rfl) (fun X K E => J_X6_tightest K n h E a0 x1 hf)
set_option maxHeartbeats 400000 in
set_option maxRecDepth 100000 in
theorem J_X6_spareCloth_4_b {G : jG} {l : Launch} {d : Nat} {X : jX} {res : Int32} (K : jOK G l mX6_spareCloth (d + 1) X) (n : Nat) (h : jH) (rc4 : Nat → Int32 → Int32 → jH → Option Int32) (hr4 : ∀ (a0 : Nat) (x1 : Int32) (x2 : Int32), rc4 a0 x1 x2 h = some res → jJ G X h 0 0 4 [some (.ref a0), some (.int x1), some (.int x2)] []) (E : jEnd G mX6_spareCloth (jPR h res) X) (a0 : Nat) (x1 : Int32) (x2 : Int32) (hf : F_X6_spareCloth_4_b n rc4 a0 x1 x2 h = some res) : jJ G X h 0 0 4 [some (.ref a0), some (.int x1), some (.int x2)] [] := by
  unfold F_X6_spareCloth_4_b at hf
  refine jr_iload_n K (D_at DX6_spareCloth_q0 4 rfl) rfl rfl ?_
  refine jr_iconst K (D_at DX6_spareCloth_q0 5 rfl) (v := (1 : Int32)) (by decide) ?_
  refine jr_iadd K (D_at DX6_spareCloth_q0 6 rfl) ?_
  refine jr_aload_n K (D_at DX6_spareCloth_q0 7 rfl) rfl rfl ?_
  obtain ⟨v8, e8, hf⟩ := jbind hf
  refine jr_getI K (D_at DX6_spareCloth_q0 8 rfl) fg_X6_19_6 e8 ?_
  refine jr_icmp_ge K (D_at DX6_spareCloth_q0 9 rfl) (tgt := 36) (by decide) (fun c11 => ?_) (fun c11 => ?_)
  · replace hf := (if_pos c11).symm.trans hf
    refine jr_iload_n K (D_at DX6_spareCloth_q2 0 rfl) rfl rfl ?_
    cases hf
    exact jr_iret K E (D_at DX6_spareCloth_q2 1 rfl) rfl ⟨rfl, rfl⟩
  · replace hf := (if_neg c11).symm.trans hf
    refine jr_iload_n K (D_at DX6_spareCloth_q0 10 rfl) rfl rfl ?_
    refine jr_aload_n K (D_at DX6_spareCloth_q0 11 rfl) rfl rfl ?_
    obtain ⟨p16, e16, hf⟩ := jbind hf
    refine jr_getR K (D_at DX6_spareCloth_q1 0 rfl) fg_X6_53_6 e16 ?_
    refine jr_iload_n K (D_at DX6_spareCloth_q1 1 rfl) rfl rfl ?_
    obtain ⟨v20, e20, hf⟩ := jbind hf
    refine jr_iald K (D_at DX6_spareCloth_q1 2 rfl) e20 ?_
    refine jr_aload_n K (D_at DX6_spareCloth_q1 3 rfl) rfl rfl ?_
    refine jr_iload_n K (D_at DX6_spareCloth_q1 4 rfl) rfl rfl ?_
    refine jr_iconst K (D_at DX6_spareCloth_q1 5 rfl) (v := (0 : Int32)) (by decide) ?_
    obtain ⟨v24, e24, hf⟩ := jbind hf
    obtain ⟨rc_24, e24⟩ := jcv_o e24
    refine jr_callV K (C_X8_gap (d) e24) (D_at DX6_spareCloth_q1 6 rfl) cv_X6_56_X8_gap (As := [.int x2, .int (0 : Int32)]) (ci := 6) rfl rc_24 rfl rfl (by exact Nat.le_of_ble_eq_true rfl) (kc2 := 0) (ks2 := 0) rfl rfl (fun k9 h9 w9 => by cases w9.1) (fun r9 h9 w9 => ?_)
    obtain ⟨w1, w2⟩ := w9
    subst h9
    cases w1
    show jJ G X _ 0 0 _ _ (.int v24 :: _)
    refine jr_isub K (D_at DX6_spareCloth_q1 7 rfl) ?_
    refine jr_iadd K (D_at DX6_spareCloth_q1 8 rfl) ?_
    refine jr_istore_n K (D_at DX6_spareCloth_q1 9 rfl) (i := 1) rfl (by decide) (L2 := [_, _, _]) rfl ?_
    refine jr_iinc K (D_at DX6_spareCloth_q1 10 rfl) (i := 2) rfl (v := x2 + (1 : Int32)) (jinc (by decide)) (by decide) (L2 := [_, _, _]) rfl ?_
    refine jr_goto K (D_at DX6_spareCloth_q1 11 rfl) (tgt := 4) (by decide) ?_
    refine jr_keep [true, true, true] ?_
    exact hr4 a0 (x1 + (v20 - v24)) (x2 + (1 : Int32)) hf
theorem J_X6_spareCloth_4 {G : jG} {l : Launch} {d : Nat} {X : jX} {res : Int32} (K : jOK G l mX6_spareCloth (d + 1) X) (n : Nat) (h : jH) (E : jEnd G mX6_spareCloth (jPR h res) X) (k : Nat) : ∀ (a0 : Nat) (x1 : Int32) (x2 : Int32), F_X6_spareCloth_4 n k a0 x1 x2 h = some res → jJ G X h 0 0 4 [some (.ref a0), some (.int x1), some (.int x2)] [] := by
  induction k with
  | zero =>
    intro a0 x1 x2 hf
    exact jno (show (none : Option Int32) = some res from hf)
  | succ k ih =>
    intro a0 x1 x2 hf
    exact J_X6_spareCloth_4_b K n h (F_X6_spareCloth_4 n k) ih E a0 x1 x2 hf
set_option maxHeartbeats 400000 in
set_option maxRecDepth 100000 in
theorem J_X6_spareCloth {G : jG} {l : Launch} {d : Nat} {X : jX} {res : Int32} (K : jOK G l mX6_spareCloth (d + 1) X) (n : Nat) (h : jH) (E : jEnd G mX6_spareCloth (jPR h res) X) (a0 : Nat) (hf : F_X6_spareCloth n a0 h = some res) : jJ G X h 0 0 0 [some (.ref a0), none, none] [] := by
  unfold F_X6_spareCloth at hf
  refine jr_iconst K (D_at DX6_spareCloth_q0 0 rfl) (v := (0 : Int32)) (by decide) ?_
  refine jr_istore_n K (D_at DX6_spareCloth_q0 1 rfl) (i := 1) rfl (by decide) (L2 := [_, _, _]) rfl ?_
  refine jr_iconst K (D_at DX6_spareCloth_q0 2 rfl) (v := (0 : Int32)) (by decide) ?_
  refine jr_istore_n K (D_at DX6_spareCloth_q0 3 rfl) (i := 2) rfl (by decide) (L2 := [_, _, _]) rfl ?_
  refine jr_keep [true, true, true] ?_
  exact J_X6_spareCloth_4 K n h E n a0 (0 : Int32) (0 : Int32) hf
theorem C_X6_spareCloth {G : jG} {l : Launch} (d : Nat) {n : Nat} {a0 : Nat} {h : jH} {res : Int32} (hf : F_X6_spareCloth n a0 h = some res) : jC G l mX6_spareCloth (d + 1) 0 0 [.ref a0] h (jPR h res) :=
  jC.of pn_X6 (jcats rfl) (Nat.le_of_ble_eq_true rfl) (fun X K E => J_X6_spareCloth K n h E a0 hf)
set_option maxHeartbeats 400000 in
set_option maxRecDepth 100000 in
theorem J_X6_tautRings_36 {G : jG} {l : Launch} {d : Nat} {X : jX} {res : Int32} (K : jOK G l mX6_tautRings (d + 1) X) (n : Nat) (h : jH) (rc4 : Nat → Int32 → Int32 → jH → Option Int32) (hr4 : ∀ (a0 : Nat) (x1 : Int32) (x2 : Int32), rc4 a0 x1 x2 h = some res → jJ G X h 0 0 4 [some (.ref a0), some (.int x1), some (.int x2)] []) (E : jEnd G mX6_tautRings (jPR h res) X) (a0 : Nat) (x2 : Int32) (s0 : Int32) (s1 : Int32) (s2 : Int32) (hf : F_X6_tautRings_36 n rc4 a0 x2 s0 s1 s2 h = some res) : jJ G X h 0 0 36 [some (.ref a0), none, some (.int x2)] [.int s2, .int s1, .int s0] := by
  unfold F_X6_tautRings_36 at hf
  obtain ⟨v36, e36, hf⟩ := jbind hf
  refine jr_callSN K (C_X11_withBit (d) e36) (D_at DX6_tautRings_q2 0 rfl) csn_X6_59_X11_withBit (As := [.int s0, .int s1, .int s2]) rfl rfl (by exact Nat.le_of_ble_eq_true rfl) (kc2 := 0) (ks2 := 0) rfl rfl (fun k9 h9 w9 => by cases w9.1) (fun r9 h9 w9 => ?_)
  obtain ⟨w1, w2⟩ := w9
  subst h9
  cases w1
  show jJ G X _ 0 0 _ _ (.int v36 :: _)
  refine jr_istore_n K (D_at DX6_tautRings_q2 1 rfl) (i := 1) rfl (by decide) (L2 := [_, _, _]) rfl ?_
  refine jr_iinc K (D_at DX6_tautRings_q2 2 rfl) (i := 2) rfl (v := x2 + (1 : Int32)) (jinc (by decide)) (by decide) (L2 := [_, _, _]) rfl ?_
  refine jr_goto K (D_at DX6_tautRings_q2 3 rfl) (tgt := 4) (by decide) ?_
  refine jr_keep [true, true, true] ?_
  exact hr4 a0 v36 (x2 + (1 : Int32)) hf
set_option maxHeartbeats 400000 in
set_option maxRecDepth 100000 in
theorem J_X6_tautRings_4_b {G : jG} {l : Launch} {d : Nat} {X : jX} {res : Int32} (K : jOK G l mX6_tautRings (d + 1) X) (n : Nat) (h : jH) (rc4 : Nat → Int32 → Int32 → jH → Option Int32) (hr4 : ∀ (a0 : Nat) (x1 : Int32) (x2 : Int32), rc4 a0 x1 x2 h = some res → jJ G X h 0 0 4 [some (.ref a0), some (.int x1), some (.int x2)] []) (E : jEnd G mX6_tautRings (jPR h res) X) (a0 : Nat) (x1 : Int32) (x2 : Int32) (hf : F_X6_tautRings_4_b n rc4 a0 x1 x2 h = some res) : jJ G X h 0 0 4 [some (.ref a0), some (.int x1), some (.int x2)] [] := by
  unfold F_X6_tautRings_4_b at hf
  refine jr_iload_n K (D_at DX6_tautRings_q0 4 rfl) rfl rfl ?_
  refine jr_iconst K (D_at DX6_tautRings_q0 5 rfl) (v := (1 : Int32)) (by decide) ?_
  refine jr_iadd K (D_at DX6_tautRings_q0 6 rfl) ?_
  refine jr_aload_n K (D_at DX6_tautRings_q0 7 rfl) rfl rfl ?_
  obtain ⟨v8, e8, hf⟩ := jbind hf
  refine jr_getI K (D_at DX6_tautRings_q0 8 rfl) fg_X6_19_6 e8 ?_
  refine jr_icmp_ge K (D_at DX6_tautRings_q0 9 rfl) (tgt := 46) (by decide) (fun c11 => ?_) (fun c11 => ?_)
  · replace hf := (if_pos c11).symm.trans hf
    refine jr_iload_n K (D_at DX6_tautRings_q2 4 rfl) rfl rfl ?_
    cases hf
    exact jr_iret K E (D_at DX6_tautRings_q2 5 rfl) rfl ⟨rfl, rfl⟩
  · replace hf := (if_neg c11).symm.trans hf
    refine jr_iload_n K (D_at DX6_tautRings_q0 10 rfl) rfl rfl ?_
    refine jr_iload_n K (D_at DX6_tautRings_q0 11 rfl) rfl rfl ?_
    refine jr_aload_n K (D_at DX6_tautRings_q1 0 rfl) rfl rfl ?_
    refine jr_iload_n K (D_at DX6_tautRings_q1 1 rfl) rfl rfl ?_
    refine jr_iconst K (D_at DX6_tautRings_q1 2 rfl) (v := (0 : Int32)) (by decide) ?_
    obtain ⟨v19, e19, hf⟩ := jbind hf
    obtain ⟨rc_19, e19⟩ := jcv_o e19
    refine jr_callV K (C_X8_gap (d) e19) (D_at DX6_tautRings_q1 3 rfl) cv_X6_56_X8_gap (As := [.int x2, .int (0 : Int32)]) (ci := 6) rfl rc_19 rfl rfl (by exact Nat.le_of_ble_eq_true rfl) (kc2 := 0) (ks2 := 0) rfl rfl (fun k9 h9 w9 => by cases w9.1) (fun r9 h9 w9 => ?_)
    obtain ⟨w1, w2⟩ := w9
    subst h9
    cases w1
    show jJ G X _ 0 0 _ _ (.int v19 :: _)
    refine jr_aload_n K (D_at DX6_tautRings_q1 4 rfl) rfl rfl ?_
    obtain ⟨p23, e23, hf⟩ := jbind hf
    refine jr_getR K (D_at DX6_tautRings_q1 5 rfl) fg_X6_53_6 e23 ?_
    refine jr_iload_n K (D_at DX6_tautRings_q1 6 rfl) rfl rfl ?_
    obtain ⟨v27, e27, hf⟩ := jbind hf
    refine jr_iald K (D_at DX6_tautRings_q1 7 rfl) e27 ?_
    refine jr_icmp_ne K (D_at DX6_tautRings_q1 8 rfl) (tgt := 35) (by decide) (fun c28 => ?_) (fun c28 => ?_)
    · replace hf := (if_neg c28).symm.trans hf
      refine jr_iconst K (D_at DX6_tautRings_q1 11 rfl) (v := (0 : Int32)) (by decide) ?_
      refine jr_keep [true, false, true] ?_
      exact J_X6_tautRings_36 K n h rc4 hr4 E a0 x2 x1 x2 (0 : Int32) hf
    · replace hf := (if_pos c28).symm.trans hf
      refine jr_iconst K (D_at DX6_tautRings_q1 9 rfl) (v := (1 : Int32)) (by decide) ?_
      refine jr_goto K (D_at DX6_tautRings_q1 10 rfl) (tgt := 36) (by decide) ?_
      refine jr_keep [true, false, true] ?_
      exact J_X6_tautRings_36 K n h rc4 hr4 E a0 x2 x1 x2 (1 : Int32) hf
theorem J_X6_tautRings_4 {G : jG} {l : Launch} {d : Nat} {X : jX} {res : Int32} (K : jOK G l mX6_tautRings (d + 1) X) (n : Nat) (h : jH) (E : jEnd G mX6_tautRings (jPR h res) X) (k : Nat) : ∀ (a0 : Nat) (x1 : Int32) (x2 : Int32), F_X6_tautRings_4 n k a0 x1 x2 h = some res → jJ G X h 0 0 4 [some (.ref a0), some (.int x1), some (.int x2)] [] := by
  induction k with
  | zero =>
    intro a0 x1 x2 hf
    exact jno (show (none : Option Int32) = some res from hf)
  | succ k ih =>
    intro a0 x1 x2 hf
    exact J_X6_tautRings_4_b K n h (F_X6_tautRings_4 n k) ih E a0 x1 x2 hf
set_option maxHeartbeats 400000 in
set_option maxRecDepth 100000 in
theorem J_X6_tautRings {G : jG} {l : Launch} {d : Nat} {X : jX} {res : Int32} (K : jOK G l mX6_tautRings (d + 1) X) (n : Nat) (h : jH) (E : jEnd G mX6_tautRings (jPR h res) X) (a0 : Nat) (hf : F_X6_tautRings n a0 h = some res) : jJ G X h 0 0 0 [some (.ref a0), none, none] [] := by
  unfold F_X6_tautRings at hf
  refine jr_iconst K (D_at DX6_tautRings_q0 0 rfl) (v := (0 : Int32)) (by decide) ?_
  refine jr_istore_n K (D_at DX6_tautRings_q0 1 rfl) (i := 1) rfl (by decide) (L2 := [_, _, _]) rfl ?_
  refine jr_iconst K (D_at DX6_tautRings_q0 2 rfl) (v := (0 : Int32)) (by decide) ?_
  refine jr_istore_n K (D_at DX6_tautRings_q0 3 rfl) (i := 2) rfl (by decide) (L2 := [_, _, _]) rfl ?_
  refine jr_keep [true, true, true] ?_
  exact J_X6_tautRings_4 K n h E n a0 (0 : Int32) (0 : Int32) hf
theorem C_X6_tautRings {G : jG} {l : Launch} (d : Nat) {n : Nat} {a0 : Nat} {h : jH} {res : Int32} (hf : F_X6_tautRings n a0 h = some res) : jC G l mX6_tautRings (d + 1) 0 0 [.ref a0] h (jPR h res) :=
  jC.of pn_X6 (jcats rfl) (Nat.le_of_ble_eq_true rfl) (fun X K E => J_X6_tautRings K n h E a0 hf)
set_option maxHeartbeats 400000 in
set_option maxRecDepth 100000 in
theorem J_X6_litRings_4_b {G : jG} {l : Launch} {d : Nat} {X : jX} {res : Int32} (K : jOK G l mX6_litRings (d + 1) X) (n : Nat) (h : jH) (rc4 : Nat → Int32 → Int32 → Int32 → jH → Option Int32) (hr4 : ∀ (a0 : Nat) (x1 : Int32) (x2 : Int32) (x3 : Int32), rc4 a0 x1 x2 x3 h = some res → jJ G X h 0 0 4 [some (.ref a0), some (.int x1), some (.int x2), some (.int x3)] []) (E : jEnd G mX6_litRings (jPR h res) X) (a0 : Nat) (x1 : Int32) (x2 : Int32) (x3 : Int32) (hf : F_X6_litRings_4_b n rc4 a0 x1 x2 x3 h = some res) : jJ G X h 0 0 4 [some (.ref a0), some (.int x1), some (.int x2), some (.int x3)] [] := by
  unfold F_X6_litRings_4_b at hf
  refine jr_iload_n K (D_at DX6_litRings_q0 4 rfl) rfl rfl ?_
  refine jr_aload_n K (D_at DX6_litRings_q0 5 rfl) rfl rfl ?_
  obtain ⟨v6, e6, hf⟩ := jbind hf
  refine jr_getI K (D_at DX6_litRings_q0 6 rfl) fg_X6_19_6 e6 ?_
  refine jr_icmp_ge K (D_at DX6_litRings_q0 7 rfl) (tgt := 30) (by decide) (fun c9 => ?_) (fun c9 => ?_)
  · replace hf := (if_pos c9).symm.trans hf
    refine jr_iload_n K (D_at DX6_litRings_q1 6 rfl) rfl rfl ?_
    cases hf
    exact jr_iret K E (D_at DX6_litRings_q1 7 rfl) rfl ⟨rfl, rfl⟩
  · replace hf := (if_neg c9).symm.trans hf
    refine jr_iload_n K (D_at DX6_litRings_q0 8 rfl) rfl rfl ?_
    refine jr_iload_n K (D_at DX6_litRings_q0 9 rfl) rfl rfl ?_
    refine jr_aload_n K (D_at DX6_litRings_q0 10 rfl) rfl rfl ?_
    refine jr_iload_n K (D_at DX6_litRings_q0 11 rfl) rfl rfl ?_
    refine jr_iload_n K (D_at DX6_litRings_q1 0 rfl) rfl rfl ?_
    obtain ⟨v17, e17, hf⟩ := jbind hf
    obtain ⟨rc_17, e17⟩ := jcv_o e17
    refine jr_callV K (C_X8_isLit (d) e17) (D_at DX6_litRings_q1 1 rfl) cv_X6_63_X8_isLit (As := [.int x3, .int x1]) (ci := 6) rfl rc_17 rfl rfl (by exact Nat.le_of_ble_eq_true rfl) (kc2 := 0) (ks2 := 0) rfl rfl (fun k9 h9 w9 => by cases w9.1) (fun r9 h9 w9 => ?_)
    obtain ⟨w1, w2⟩ := w9
    subst h9
    cases w1
    show jJ G X _ 0 0 _ _ (.int v17 :: _)
    obtain ⟨v20, e20, hf⟩ := jbind hf
    refine jr_callSN K (C_X11_withBit (d) e20) (D_at DX6_litRings_q1 2 rfl) csn_X6_59_X11_withBit (As := [.int x2, .int x3, .int v17]) rfl rfl (by exact Nat.le_of_ble_eq_true rfl) (kc2 := 0) (ks2 := 0) rfl rfl (fun k9 h9 w9 => by cases w9.1) (fun r9 h9 w9 => ?_)
    obtain ⟨w1, w2⟩ := w9
    subst h9
    cases w1
    show jJ G X _ 0 0 _ _ (.int v20 :: _)
    refine jr_istore_n K (D_at DX6_litRings_q1 3 rfl) (i := 2) rfl (by decide) (L2 := [_, _, _, _]) rfl ?_
    refine jr_iinc K (D_at DX6_litRings_q1 4 rfl) (i := 3) rfl (v := x3 + (1 : Int32)) (jinc (by decide)) (by decide) (L2 := [_, _, _, _]) rfl ?_
    refine jr_goto K (D_at DX6_litRings_q1 5 rfl) (tgt := 4) (by decide) ?_
    refine jr_keep [true, true, true, true] ?_
    exact hr4 a0 x1 v20 (x3 + (1 : Int32)) hf
theorem J_X6_litRings_4 {G : jG} {l : Launch} {d : Nat} {X : jX} {res : Int32} (K : jOK G l mX6_litRings (d + 1) X) (n : Nat) (h : jH) (E : jEnd G mX6_litRings (jPR h res) X) (k : Nat) : ∀ (a0 : Nat) (x1 : Int32) (x2 : Int32) (x3 : Int32), F_X6_litRings_4 n k a0 x1 x2 x3 h = some res → jJ G X h 0 0 4 [some (.ref a0), some (.int x1), some (.int x2), some (.int x3)] [] := by
  induction k with
  | zero =>
    intro a0 x1 x2 x3 hf
    exact jno (show (none : Option Int32) = some res from hf)
  | succ k ih =>
    intro a0 x1 x2 x3 hf
    exact J_X6_litRings_4_b K n h (F_X6_litRings_4 n k) ih E a0 x1 x2 x3 hf
set_option maxHeartbeats 400000 in
set_option maxRecDepth 100000 in
theorem J_X6_litRings {G : jG} {l : Launch} {d : Nat} {X : jX} {res : Int32} (K : jOK G l mX6_litRings (d + 1) X) (n : Nat) (h : jH) (E : jEnd G mX6_litRings (jPR h res) X) (a0 : Nat) (x1 : Int32) (hf : F_X6_litRings n a0 x1 h = some res) : jJ G X h 0 0 0 [some (.ref a0), some (.int x1), none, none] [] := by
  unfold F_X6_litRings at hf
  refine jr_iconst K (D_at DX6_litRings_q0 0 rfl) (v := (0 : Int32)) (by decide) ?_
  refine jr_istore_n K (D_at DX6_litRings_q0 1 rfl) (i := 2) rfl (by decide) (L2 := [_, _, _, _]) rfl ?_
  refine jr_iconst K (D_at DX6_litRings_q0 2 rfl) (v := (0 : Int32)) (by decide) ?_
  refine jr_istore_n K (D_at DX6_litRings_q0 3 rfl) (i := 3) rfl (by decide) (L2 := [_, _, _, _]) rfl ?_
  refine jr_keep [true, true, true, true] ?_
  exact J_X6_litRings_4 K n h E n a0 x1 (0 : Int32) (0 : Int32) hf
theorem C_X6_litRings {G : jG} {l : Launch} (d : Nat) {n : Nat} {a0 : Nat} {x1 : Int32} {h : jH} {res : Int32} (hf : F_X6_litRings n a0 x1 h = some res) : jC G l mX6_litRings (d + 1) 0 0 [.ref a0, .int x1] h (jPR h res) :=
  jC.of pn_X6 (jcats rfl) (Nat.le_of_ble_eq_true rfl) (fun X K E => J_X6_litRings K n h E a0 x1 hf)
set_option maxHeartbeats 400000 in
set_option maxRecDepth 100000 in
theorem J_X6_litHours_4_b {G : jG} {l : Launch} {d : Nat} {X : jX} {res : Int32} (K : jOK G l mX6_litHours (d + 1) X) (n : Nat) (h : jH) (rc4 : Nat → Int32 → Int32 → Int32 → jH → Option Int32) (hr4 : ∀ (a0 : Nat) (x1 : Int32) (x2 : Int32) (x3 : Int32), rc4 a0 x1 x2 x3 h = some res → jJ G X h 0 0 4 [some (.ref a0), some (.int x1), some (.int x2), some (.int x3)] []) (E : jEnd G mX6_litHours (jPR h res) X) (a0 : Nat) (x1 : Int32) (x2 : Int32) (x3 : Int32) (hf : F_X6_litHours_4_b n rc4 a0 x1 x2 x3 h = some res) : jJ G X h 0 0 4 [some (.ref a0), some (.int x1), some (.int x2), some (.int x3)] [] := by
  unfold F_X6_litHours_4_b at hf
  refine jr_iload_n K (D_at DX6_litHours_q0 4 rfl) rfl rfl ?_
  refine jr_bipush K (D_at DX6_litHours_q0 5 rfl) (v := (8 : Int32)) (by decide) ?_
  refine jr_icmp_ge K (D_at DX6_litHours_q0 6 rfl) (tgt := 28) (by decide) (fun c7 => ?_) (fun c7 => ?_)
  · replace hf := (if_pos c7).symm.trans hf
    refine jr_iload_n K (D_at DX6_litHours_q1 3 rfl) rfl rfl ?_
    cases hf
    exact jr_iret K E (D_at DX6_litHours_q1 4 rfl) rfl ⟨rfl, rfl⟩
  · replace hf := (if_neg c7).symm.trans hf
    refine jr_aload_n K (D_at DX6_litHours_q0 7 rfl) rfl rfl ?_
    refine jr_iload_n K (D_at DX6_litHours_q0 8 rfl) rfl rfl ?_
    refine jr_iload_n K (D_at DX6_litHours_q0 9 rfl) rfl rfl ?_
    obtain ⟨v13, e13, hf⟩ := jbind hf
    obtain ⟨rc_13, e13⟩ := jcv_o e13
    refine jr_callV K (C_X8_isLit (d) e13) (D_at DX6_litHours_q0 10 rfl) cv_X6_63_X8_isLit (As := [.int x1, .int x3]) (ci := 6) rfl rc_13 rfl rfl (by exact Nat.le_of_ble_eq_true rfl) (kc2 := 0) (ks2 := 0) rfl rfl (fun k9 h9 w9 => by cases w9.1) (fun r9 h9 w9 => ?_)
    obtain ⟨w1, w2⟩ := w9
    subst h9
    cases w1
    show jJ G X _ 0 0 _ _ (.int v13 :: _)
    refine jr_if_eq K (D_at DX6_litHours_q0 11 rfl) (tgt := 22) (by decide) (fun c16 => ?_) (fun c16 => ?_)
    · replace hf := (if_pos c16).symm.trans hf
      refine jr_iinc K (D_at DX6_litHours_q1 1 rfl) (i := 3) rfl (v := x3 + (1 : Int32)) (jinc (by decide)) (by decide) (L2 := [_, _, _, _]) rfl ?_
      refine jr_goto K (D_at DX6_litHours_q1 2 rfl) (tgt := 4) (by decide) ?_
      refine jr_keep [true, true, true, true] ?_
      exact hr4 a0 x1 x2 (x3 + (1 : Int32)) hf
    · replace hf := (if_neg c16).symm.trans hf
      refine jr_iinc K (D_at DX6_litHours_q1 0 rfl) (i := 2) rfl (v := x2 + (1 : Int32)) (jinc (by decide)) (by decide) (L2 := [_, _, _, _]) rfl ?_
      refine jr_iinc K (D_at DX6_litHours_q1 1 rfl) (i := 3) rfl (v := x3 + (1 : Int32)) (jinc (by decide)) (by decide) (L2 := [_, _, _, _]) rfl ?_
      refine jr_goto K (D_at DX6_litHours_q1 2 rfl) (tgt := 4) (by decide) ?_
      refine jr_keep [true, true, true, true] ?_
      exact hr4 a0 x1 (x2 + (1 : Int32)) (x3 + (1 : Int32)) hf
theorem J_X6_litHours_4 {G : jG} {l : Launch} {d : Nat} {X : jX} {res : Int32} (K : jOK G l mX6_litHours (d + 1) X) (n : Nat) (h : jH) (E : jEnd G mX6_litHours (jPR h res) X) (k : Nat) : ∀ (a0 : Nat) (x1 : Int32) (x2 : Int32) (x3 : Int32), F_X6_litHours_4 n k a0 x1 x2 x3 h = some res → jJ G X h 0 0 4 [some (.ref a0), some (.int x1), some (.int x2), some (.int x3)] [] := by
  induction k with
  | zero =>
    intro a0 x1 x2 x3 hf
    exact jno (show (none : Option Int32) = some res from hf)
  | succ k ih =>
    intro a0 x1 x2 x3 hf
    exact J_X6_litHours_4_b K n h (F_X6_litHours_4 n k) ih E a0 x1 x2 x3 hf
set_option maxHeartbeats 400000 in
set_option maxRecDepth 100000 in
theorem J_X6_litHours {G : jG} {l : Launch} {d : Nat} {X : jX} {res : Int32} (K : jOK G l mX6_litHours (d + 1) X) (n : Nat) (h : jH) (E : jEnd G mX6_litHours (jPR h res) X) (a0 : Nat) (x1 : Int32) (hf : F_X6_litHours n a0 x1 h = some res) : jJ G X h 0 0 0 [some (.ref a0), some (.int x1), none, none] [] := by
  unfold F_X6_litHours at hf
  refine jr_iconst K (D_at DX6_litHours_q0 0 rfl) (v := (0 : Int32)) (by decide) ?_
  refine jr_istore_n K (D_at DX6_litHours_q0 1 rfl) (i := 2) rfl (by decide) (L2 := [_, _, _, _]) rfl ?_
  refine jr_iconst K (D_at DX6_litHours_q0 2 rfl) (v := (0 : Int32)) (by decide) ?_
  refine jr_istore_n K (D_at DX6_litHours_q0 3 rfl) (i := 3) rfl (by decide) (L2 := [_, _, _, _]) rfl ?_
  refine jr_keep [true, true, true, true] ?_
  exact J_X6_litHours_4 K n h E n a0 x1 (0 : Int32) (0 : Int32) hf
theorem C_X6_litHours {G : jG} {l : Launch} (d : Nat) {n : Nat} {a0 : Nat} {x1 : Int32} {h : jH} {res : Int32} (hf : F_X6_litHours n a0 x1 h = some res) : jC G l mX6_litHours (d + 1) 0 0 [.ref a0, .int x1] h (jPR h res) :=
  jC.of pn_X6 (jcats rfl) (Nat.le_of_ble_eq_true rfl) (fun X K E => J_X6_litHours K n h E a0 x1 hf)
set_option maxHeartbeats 400000 in
set_option maxRecDepth 100000 in
theorem J_X6_sunniest_6_b {G : jG} {l : Launch} {d : Nat} {X : jX} {res : Int32} (K : jOK G l mX6_sunniest (d + 2) X) (n : Nat) (h : jH) (rc6 : Nat → Int32 → Int32 → Int32 → jH → Option Int32) (hr6 : ∀ (a0 : Nat) (x1 : Int32) (x2 : Int32) (x3 : Int32), rc6 a0 x1 x2 x3 h = some res → jJ G X h 0 0 6 [some (.ref a0), some (.int x1), some (.int x2), some (.int x3), none] []) (E : jEnd G mX6_sunniest (jPR h res) X) (a0 : Nat) (x1 : Int32) (x2 : Int32) (x3 : Int32) (hf : F_X6_sunniest_6_b n rc6 a0 x1 x2 x3 h = some res) : jJ G X h 0 0 6 [some (.ref a0), some (.int x1), some (.int x2), some (.int x3), none] [] := by
  unfold F_X6_sunniest_6_b at hf
  refine jr_iload_n K (D_at DX6_sunniest_q0 6 rfl) rfl rfl ?_
  refine jr_aload_n K (D_at DX6_sunniest_q0 7 rfl) rfl rfl ?_
  obtain ⟨v8, e8, hf⟩ := jbind hf
  refine jr_getI K (D_at DX6_sunniest_q0 8 rfl) fg_X6_19_6 e8 ?_
  refine jr_icmp_ge K (D_at DX6_sunniest_q0 9 rfl) (tgt := 38) (by decide) (fun c11 => ?_) (fun c11 => ?_)
  · replace hf := (if_pos c11).symm.trans hf
    refine jr_iload_n K (D_at DX6_sunniest_q1 11 rfl) rfl rfl ?_
    cases hf
    exact jr_iret K E (D_at DX6_sunniest_q2 0 rfl) rfl ⟨rfl, rfl⟩
  · replace hf := (if_neg c11).symm.trans hf
    refine jr_aload_n K (D_at DX6_sunniest_q0 10 rfl) rfl rfl ?_
    refine jr_iload_n K (D_at DX6_sunniest_q0 11 rfl) rfl rfl ?_
    obtain ⟨v16, e16, hf⟩ := jbind hf
    refine jr_callS K (C_X6_litHours (d) e16) (D_at DX6_sunniest_q1 0 rfl) cs_X6_67_X6_litHours (As := [.ref a0, .int x3]) rfl rfl (by exact Nat.le_of_ble_eq_true rfl) (kc2 := 0) (ks2 := 0) rfl rfl (fun k9 h9 w9 => by cases w9.1) (fun r9 h9 w9 => ?_)
    obtain ⟨w1, w2⟩ := w9
    subst h9
    cases w1
    show jJ G X _ 0 0 _ _ (.int v16 :: _)
    refine jr_istore K (D_at DX6_sunniest_q1 1 rfl) (i := 4) (by decide) (L2 := [_, _, _, _, _]) rfl ?_
    refine jr_iload K (D_at DX6_sunniest_q1 2 rfl) rfl ?_
    refine jr_iload_n K (D_at DX6_sunniest_q1 3 rfl) rfl rfl ?_
    refine jr_icmp_le K (D_at DX6_sunniest_q1 4 rfl) (tgt := 32) (by decide) (fun c24 => ?_) (fun c24 => ?_)
    · replace hf := (if_pos c24).symm.trans hf
      refine jr_iinc K (D_at DX6_sunniest_q1 9 rfl) (i := 3) rfl (v := x3 + (1 : Int32)) (jinc (by decide)) (by decide) (L2 := [_, _, _, _, _]) rfl ?_
      refine jr_goto K (D_at DX6_sunniest_q1 10 rfl) (tgt := 6) (by decide) ?_
      refine jr_keep [true, true, true, true, false] ?_
      exact hr6 a0 x1 x2 (x3 + (1 : Int32)) hf
    · replace hf := (if_neg c24).symm.trans hf
      refine jr_iload K (D_at DX6_sunniest_q1 5 rfl) rfl ?_
      refine jr_istore_n K (D_at DX6_sunniest_q1 6 rfl) (i := 2) rfl (by decide) (L2 := [_, _, _, _, _]) rfl ?_
      refine jr_iload_n K (D_at DX6_sunniest_q1 7 rfl) rfl rfl ?_
      refine jr_istore_n K (D_at DX6_sunniest_q1 8 rfl) (i := 1) rfl (by decide) (L2 := [_, _, _, _, _]) rfl ?_
      refine jr_iinc K (D_at DX6_sunniest_q1 9 rfl) (i := 3) rfl (v := x3 + (1 : Int32)) (jinc (by decide)) (by decide) (L2 := [_, _, _, _, _]) rfl ?_
      refine jr_goto K (D_at DX6_sunniest_q1 10 rfl) (tgt := 6) (by decide) ?_
      refine jr_keep [true, true, true, true, false] ?_
      exact hr6 a0 x3 v16 (x3 + (1 : Int32)) hf
theorem J_X6_sunniest_6 {G : jG} {l : Launch} {d : Nat} {X : jX} {res : Int32} (K : jOK G l mX6_sunniest (d + 2) X) (n : Nat) (h : jH) (E : jEnd G mX6_sunniest (jPR h res) X) (k : Nat) : ∀ (a0 : Nat) (x1 : Int32) (x2 : Int32) (x3 : Int32), F_X6_sunniest_6 n k a0 x1 x2 x3 h = some res → jJ G X h 0 0 6 [some (.ref a0), some (.int x1), some (.int x2), some (.int x3), none] [] := by
  induction k with
  | zero =>
    intro a0 x1 x2 x3 hf
    exact jno (show (none : Option Int32) = some res from hf)
  | succ k ih =>
    intro a0 x1 x2 x3 hf
    exact J_X6_sunniest_6_b K n h (F_X6_sunniest_6 n k) ih E a0 x1 x2 x3 hf
set_option maxHeartbeats 400000 in
set_option maxRecDepth 100000 in
theorem J_X6_sunniest {G : jG} {l : Launch} {d : Nat} {X : jX} {res : Int32} (K : jOK G l mX6_sunniest (d + 2) X) (n : Nat) (h : jH) (E : jEnd G mX6_sunniest (jPR h res) X) (a0 : Nat) (hf : F_X6_sunniest n a0 h = some res) : jJ G X h 0 0 0 [some (.ref a0), none, none, none, none] [] := by
  unfold F_X6_sunniest at hf
  refine jr_iconst K (D_at DX6_sunniest_q0 0 rfl) (v := (-1 : Int32)) (by decide) ?_
  refine jr_istore_n K (D_at DX6_sunniest_q0 1 rfl) (i := 1) rfl (by decide) (L2 := [_, _, _, _, _]) rfl ?_
  refine jr_iconst K (D_at DX6_sunniest_q0 2 rfl) (v := (-1 : Int32)) (by decide) ?_
  refine jr_istore_n K (D_at DX6_sunniest_q0 3 rfl) (i := 2) rfl (by decide) (L2 := [_, _, _, _, _]) rfl ?_
  refine jr_iconst K (D_at DX6_sunniest_q0 4 rfl) (v := (0 : Int32)) (by decide) ?_
  refine jr_istore_n K (D_at DX6_sunniest_q0 5 rfl) (i := 3) rfl (by decide) (L2 := [_, _, _, _, _]) rfl ?_
  refine jr_keep [true, true, true, true, false] ?_
  exact J_X6_sunniest_6 K n h E n a0 (-1 : Int32) (-1 : Int32) (0 : Int32) hf
theorem C_X6_sunniest {G : jG} {l : Launch} (d : Nat) {n : Nat} {a0 : Nat} {h : jH} {res : Int32} (hf : F_X6_sunniest n a0 h = some res) : jC G l mX6_sunniest (d + 2) 0 0 [.ref a0] h (jPR h res) :=
  jC.of pn_X6 (jcats rfl) (Nat.le_of_ble_eq_true rfl) (fun X K E => J_X6_sunniest K n h E a0 hf)
set_option maxHeartbeats 400000 in
set_option maxRecDepth 100000 in
theorem J_X6_evenLength_67 {G : jG} {l : Launch} {d : Nat} {X : jX} {res : Int32} (K : jOK G l mX6_evenLength (d) X) (n : Nat) (h : jH) (E : jEnd G mX6_evenLength (jPR h res) X) (x1 : Int32) (x2 : Int32) (x4 : Int32) (x5 : Int32) (s0 : Int32) (s1 : Int32) (hf : F_X6_evenLength_67 n x1 x2 x4 x5 s0 s1 h = some res) : jJ G X h 0 0 67 [none, some (.int x1), some (.int x2), none, some (.int x4), some (.int x5)] [.int s1, .int s0] := by
  unfold F_X6_evenLength_67 at hf
  refine jr_iadd K (D_at DX6_evenLength_q3 2 rfl) ?_
  refine jr_iload_n K (D_at DX6_evenLength_q3 3 rfl) rfl rfl ?_
  refine jr_icmp_le K (D_at DX6_evenLength_q3 4 rfl) (tgt := 74) (by decide) (fun c69 => ?_) (fun c69 => ?_)
  · replace hf := (if_pos c69).symm.trans hf
    refine jr_iload_n K (D_at DX6_evenLength_q3 7 rfl) rfl rfl ?_
    refine jr_iload K (D_at DX6_evenLength_q3 8 rfl) rfl ?_
    refine jr_icmp_ge K (D_at DX6_evenLength_q3 9 rfl) (tgt := 87) (by decide) (fun c77 => ?_) (fun c77 => ?_)
    · replace hf := (if_pos c77).symm.trans hf
      refine jr_iload K (D_at DX6_evenLength_q4 2 rfl) rfl ?_
      cases hf
      exact jr_iret K E (D_at DX6_evenLength_q4 3 rfl) rfl ⟨rfl, rfl⟩
    · replace hf := (if_neg c77).symm.trans hf
      refine jr_iload K (D_at DX6_evenLength_q3 10 rfl) rfl ?_
      refine jr_iconst K (D_at DX6_evenLength_q3 11 rfl) (v := (1 : Int32)) (by decide) ?_
      refine jr_iadd K (D_at DX6_evenLength_q4 0 rfl) ?_
      refine jr_goto K (D_at DX6_evenLength_q4 1 rfl) (tgt := 89) (by decide) ?_
      cases hf
      exact jr_iret K E (D_at DX6_evenLength_q4 3 rfl) rfl ⟨rfl, rfl⟩
  · replace hf := (if_neg c69).symm.trans hf
    refine jr_iconst K (D_at DX6_evenLength_q3 5 rfl) (v := (-1 : Int32)) (by decide) ?_
    cases hf
    exact jr_iret K E (D_at DX6_evenLength_q3 6 rfl) rfl ⟨rfl, rfl⟩
set_option maxHeartbeats 400000 in
set_option maxRecDepth 100000 in
theorem J_X6_evenLength_14_b {G : jG} {l : Launch} {d : Nat} {X : jX} {res : Int32} (K : jOK G l mX6_evenLength (d) X) (n : Nat) (h : jH) (rc14 : Nat → Int32 → Int32 → Int32 → Int32 → jH → Option Int32) (hr14 : ∀ (a0 : Nat) (x1 : Int32) (x2 : Int32) (x3 : Int32) (x4 : Int32), rc14 a0 x1 x2 x3 x4 h = some res → jJ G X h 0 0 14 [some (.ref a0), some (.int x1), some (.int x2), some (.int x3), some (.int x4), none] []) (E : jEnd G mX6_evenLength (jPR h res) X) (a0 : Nat) (x1 : Int32) (x2 : Int32) (x3 : Int32) (x4 : Int32) (hf : F_X6_evenLength_14_b n rc14 a0 x1 x2 x3 x4 h = some res) : jJ G X h 0 0 14 [some (.ref a0), some (.int x1), some (.int x2), some (.int x3), some (.int x4), none] [] := by
  unfold F_X6_evenLength_14_b at hf
  refine jr_iload K (D_at DX6_evenLength_q0 9 rfl) rfl ?_
  refine jr_aload_n K (D_at DX6_evenLength_q0 10 rfl) rfl rfl ?_
  obtain ⟨v17, e17, hf⟩ := jbind hf
  refine jr_getI K (D_at DX6_evenLength_q0 11 rfl) fg_X6_19_6 e17 ?_
  refine jr_icmp_ge K (D_at DX6_evenLength_q1 0 rfl) (tgt := 39) (by decide) (fun c20 => ?_) (fun c20 => ?_)
  · replace hf := (if_pos c20).symm.trans hf
    refine jr_iload_n K (D_at DX6_evenLength_q1 10 rfl) rfl rfl ?_
    refine jr_aload_n K (D_at DX6_evenLength_q1 11 rfl) rfl rfl ?_
    obtain ⟨v41, e41, hf⟩ := jbind hf
    refine jr_getI K (D_at DX6_evenLength_q2 0 rfl) fg_X6_19_6 e41 ?_
    by_cases c44 : v41 = 0
    · exact jno (show (none : Option Int32) = some res from (if_pos c44).symm.trans hf)
    replace hf := (if_neg c44).symm.trans hf
    refine jr_idiv K (D_at DX6_evenLength_q2 1 rfl) c44 ?_
    refine jr_istore K (D_at DX6_evenLength_q2 2 rfl) (i := 4) (by decide) (L2 := [_, _, _, _, _, _]) rfl ?_
    refine jr_iload_n K (D_at DX6_evenLength_q2 3 rfl) rfl rfl ?_
    refine jr_aload_n K (D_at DX6_evenLength_q2 4 rfl) rfl rfl ?_
    obtain ⟨v49, e49, hf⟩ := jbind hf
    refine jr_getI K (D_at DX6_evenLength_q2 5 rfl) fg_X6_19_6 e49 ?_
    by_cases c52 : v49 = 0
    · exact jno (show (none : Option Int32) = some res from (if_pos c52).symm.trans hf)
    replace hf := (if_neg c52).symm.trans hf
    refine jr_irem K (D_at DX6_evenLength_q2 6 rfl) c52 ?_
    refine jr_istore K (D_at DX6_evenLength_q2 7 rfl) (i := 5) (by decide) (L2 := [_, _, _, _, _, _]) rfl ?_
    refine jr_iload K (D_at DX6_evenLength_q2 8 rfl) rfl ?_
    refine jr_iload K (D_at DX6_evenLength_q2 9 rfl) rfl ?_
    refine jr_if_le K (D_at DX6_evenLength_q2 10 rfl) (tgt := 66) (by decide) (fun c59 => ?_) (fun c59 => ?_)
    · replace hf := (if_pos c59).symm.trans hf
      refine jr_iconst K (D_at DX6_evenLength_q3 1 rfl) (v := (0 : Int32)) (by decide) ?_
      refine jr_keep [false, true, true, false, true, true] ?_
      exact J_X6_evenLength_67 K n h E x1 x2 (x3 / v41) (x3 - x3 / v49 * v49) (x3 / v41) (0 : Int32) hf
    · replace hf := (if_neg c59).symm.trans hf
      refine jr_iconst K (D_at DX6_evenLength_q2 11 rfl) (v := (1 : Int32)) (by decide) ?_
      refine jr_goto K (D_at DX6_evenLength_q3 0 rfl) (tgt := 67) (by decide) ?_
      refine jr_keep [false, true, true, false, true, true] ?_
      exact J_X6_evenLength_67 K n h E x1 x2 (x3 / v41) (x3 - x3 / v49 * v49) (x3 / v41) (1 : Int32) hf
  · replace hf := (if_neg c20).symm.trans hf
    refine jr_iload_n K (D_at DX6_evenLength_q1 1 rfl) rfl rfl ?_
    refine jr_aload_n K (D_at DX6_evenLength_q1 2 rfl) rfl rfl ?_
    obtain ⟨p25, e25, hf⟩ := jbind hf
    refine jr_getR K (D_at DX6_evenLength_q1 3 rfl) fg_X6_71_6 e25 ?_
    refine jr_iload K (D_at DX6_evenLength_q1 4 rfl) rfl ?_
    obtain ⟨v30, e30, hf⟩ := jbind hf
    refine jr_iald K (D_at DX6_evenLength_q1 5 rfl) e30 ?_
    refine jr_iadd K (D_at DX6_evenLength_q1 6 rfl) ?_
    refine jr_istore_n K (D_at DX6_evenLength_q1 7 rfl) (i := 3) rfl (by decide) (L2 := [_, _, _, _, _, _]) rfl ?_
    refine jr_iinc K (D_at DX6_evenLength_q1 8 rfl) (i := 4) rfl (v := x4 + (1 : Int32)) (jinc (by decide)) (by decide) (L2 := [_, _, _, _, _, _]) rfl ?_
    refine jr_goto K (D_at DX6_evenLength_q1 9 rfl) (tgt := 14) (by decide) ?_
    refine jr_keep [true, true, true, true, true, false] ?_
    exact hr14 a0 x1 x2 (x3 + v30) (x4 + (1 : Int32)) hf
theorem J_X6_evenLength_14 {G : jG} {l : Launch} {d : Nat} {X : jX} {res : Int32} (K : jOK G l mX6_evenLength (d) X) (n : Nat) (h : jH) (E : jEnd G mX6_evenLength (jPR h res) X) (k : Nat) : ∀ (a0 : Nat) (x1 : Int32) (x2 : Int32) (x3 : Int32) (x4 : Int32), F_X6_evenLength_14 n k a0 x1 x2 x3 x4 h = some res → jJ G X h 0 0 14 [some (.ref a0), some (.int x1), some (.int x2), some (.int x3), some (.int x4), none] [] := by
  induction k with
  | zero =>
    intro a0 x1 x2 x3 x4 hf
    exact jno (show (none : Option Int32) = some res from hf)
  | succ k ih =>
    intro a0 x1 x2 x3 x4 hf
    exact J_X6_evenLength_14_b K n h (F_X6_evenLength_14 n k) ih E a0 x1 x2 x3 x4 hf
set_option maxHeartbeats 400000 in
set_option maxRecDepth 100000 in
theorem J_X6_evenLength {G : jG} {l : Launch} {d : Nat} {X : jX} {res : Int32} (K : jOK G l mX6_evenLength (d) X) (n : Nat) (h : jH) (E : jEnd G mX6_evenLength (jPR h res) X) (a0 : Nat) (x1 : Int32) (x2 : Int32) (hf : F_X6_evenLength n a0 x1 x2 h = some res) : jJ G X h 0 0 0 [some (.ref a0), some (.int x1), some (.int x2), none, none, none] [] := by
  unfold F_X6_evenLength at hf
  refine jr_aload_n K (D_at DX6_evenLength_q0 0 rfl) rfl rfl ?_
  obtain ⟨v1, e1, hf⟩ := jbind hf
  refine jr_getI K (D_at DX6_evenLength_q0 1 rfl) fg_X6_19_6 e1 ?_
  refine jr_if_ne K (D_at DX6_evenLength_q0 2 rfl) (tgt := 9) (by decide) (fun c4 => ?_) (fun c4 => ?_)
  · replace hf := (if_neg c4).symm.trans hf
    refine jr_iconst K (D_at DX6_evenLength_q0 5 rfl) (v := (0 : Int32)) (by decide) ?_
    refine jr_istore_n K (D_at DX6_evenLength_q0 6 rfl) (i := 3) rfl (by decide) (L2 := [_, _, _, _, _, _]) rfl ?_
    refine jr_iconst K (D_at DX6_evenLength_q0 7 rfl) (v := (0 : Int32)) (by decide) ?_
    refine jr_istore K (D_at DX6_evenLength_q0 8 rfl) (i := 4) (by decide) (L2 := [_, _, _, _, _, _]) rfl ?_
    refine jr_keep [true, true, true, true, true, false] ?_
    exact J_X6_evenLength_14 K n h E n a0 x1 x2 (0 : Int32) (0 : Int32) hf
  · replace hf := (if_pos c4).symm.trans hf
    refine jr_iconst K (D_at DX6_evenLength_q0 3 rfl) (v := (-1 : Int32)) (by decide) ?_
    cases hf
    exact jr_iret K E (D_at DX6_evenLength_q0 4 rfl) rfl ⟨rfl, rfl⟩
theorem C_X6_evenLength {G : jG} {l : Launch} (d : Nat) {n : Nat} {a0 : Nat} {x1 : Int32} {x2 : Int32} {h : jH} {res : Int32} (hf : F_X6_evenLength n a0 x1 x2 h = some res) : jC G l mX6_evenLength (d) 0 0 [.ref a0, .int x1, .int x2] h (jPR h res) :=
  jC.of pn_X6 (jcats rfl) (Nat.le_of_ble_eq_true rfl) (fun X K E => J_X6_evenLength K n h E a0 x1 x2 hf)
set_option maxHeartbeats 400000 in
set_option maxRecDepth 100000 in
theorem J_X6_enviousPairs_4_b {G : jG} {l : Launch} {d : Nat} {X : jX} {res : Int32} (K : jOK G l mX6_enviousPairs (d + 1) X) (n : Nat) (h : jH) (rc4 : Nat → Int32 → Int32 → jH → Option Int32) (hr4 : ∀ (a0 : Nat) (x1 : Int32) (x2 : Int32), rc4 a0 x1 x2 h = some res → jJ G X h 0 0 4 [some (.ref a0), some (.int x1), some (.int x2)] []) (E : jEnd G mX6_enviousPairs (jPR h res) X) (a0 : Nat) (x1 : Int32) (x2 : Int32) (hf : F_X6_enviousPairs_4_b n rc4 a0 x1 x2 h = some res) : jJ G X h 0 0 4 [some (.ref a0), some (.int x1), some (.int x2)] [] := by
  unfold F_X6_enviousPairs_4_b at hf
  refine jr_iload_n K (D_at DX6_enviousPairs_q0 4 rfl) rfl rfl ?_
  refine jr_iconst K (D_at DX6_enviousPairs_q0 5 rfl) (v := (1 : Int32)) (by decide) ?_
  refine jr_iadd K (D_at DX6_enviousPairs_q0 6 rfl) ?_
  refine jr_aload_n K (D_at DX6_enviousPairs_q0 7 rfl) rfl rfl ?_
  obtain ⟨v8, e8, hf⟩ := jbind hf
  refine jr_getI K (D_at DX6_enviousPairs_q0 8 rfl) fg_X6_19_6 e8 ?_
  refine jr_icmp_ge K (D_at DX6_enviousPairs_q0 9 rfl) (tgt := 45) (by decide) (fun c11 => ?_) (fun c11 => ?_)
  · replace hf := (if_pos c11).symm.trans hf
    refine jr_iload_n K (D_at DX6_enviousPairs_q2 3 rfl) rfl rfl ?_
    cases hf
    exact jr_iret K E (D_at DX6_enviousPairs_q2 4 rfl) rfl ⟨rfl, rfl⟩
  · replace hf := (if_neg c11).symm.trans hf
    refine jr_aload_n K (D_at DX6_enviousPairs_q0 10 rfl) rfl rfl ?_
    obtain ⟨p15, e15, hf⟩ := jbind hf
    refine jr_getR K (D_at DX6_enviousPairs_q0 11 rfl) fg_X6_71_6 e15 ?_
    refine jr_iload_n K (D_at DX6_enviousPairs_q1 0 rfl) rfl rfl ?_
    obtain ⟨v19, e19, hf⟩ := jbind hf
    refine jr_iald K (D_at DX6_enviousPairs_q1 1 rfl) e19 ?_
    refine jr_aload_n K (D_at DX6_enviousPairs_q1 2 rfl) rfl rfl ?_
    obtain ⟨p21, e21, hf⟩ := jbind hf
    refine jr_getR K (D_at DX6_enviousPairs_q1 3 rfl) fg_X6_71_6 e21 ?_
    refine jr_iload_n K (D_at DX6_enviousPairs_q1 4 rfl) rfl rfl ?_
    refine jr_iconst K (D_at DX6_enviousPairs_q1 5 rfl) (v := (1 : Int32)) (by decide) ?_
    refine jr_iadd K (D_at DX6_enviousPairs_q1 6 rfl) ?_
    obtain ⟨v27, e27, hf⟩ := jbind hf
    refine jr_iald K (D_at DX6_enviousPairs_q1 7 rfl) e27 ?_
    refine jr_isub K (D_at DX6_enviousPairs_q1 8 rfl) ?_
    refine jr_abs K (D_at DX6_enviousPairs_q1 9 rfl) mm_X6_26 (by exact Nat.le_of_ble_eq_true rfl) ?_
    refine jr_iconst K (D_at DX6_enviousPairs_q1 10 rfl) (v := (2 : Int32)) (by decide) ?_
    refine jr_icmp_lt K (D_at DX6_enviousPairs_q1 11 rfl) (tgt := 39) (by decide) (fun c33 => ?_) (fun c33 => ?_)
    · replace hf := (if_pos c33).symm.trans hf
      refine jr_iinc K (D_at DX6_enviousPairs_q2 1 rfl) (i := 2) rfl (v := x2 + (1 : Int32)) (jinc (by decide)) (by decide) (L2 := [_, _, _]) rfl ?_
      refine jr_goto K (D_at DX6_enviousPairs_q2 2 rfl) (tgt := 4) (by decide) ?_
      refine jr_keep [true, true, true] ?_
      exact hr4 a0 x1 (x2 + (1 : Int32)) hf
    · replace hf := (if_neg c33).symm.trans hf
      refine jr_iinc K (D_at DX6_enviousPairs_q2 0 rfl) (i := 1) rfl (v := x1 + (1 : Int32)) (jinc (by decide)) (by decide) (L2 := [_, _, _]) rfl ?_
      refine jr_iinc K (D_at DX6_enviousPairs_q2 1 rfl) (i := 2) rfl (v := x2 + (1 : Int32)) (jinc (by decide)) (by decide) (L2 := [_, _, _]) rfl ?_
      refine jr_goto K (D_at DX6_enviousPairs_q2 2 rfl) (tgt := 4) (by decide) ?_
      refine jr_keep [true, true, true] ?_
      exact hr4 a0 (x1 + (1 : Int32)) (x2 + (1 : Int32)) hf
theorem J_X6_enviousPairs_4 {G : jG} {l : Launch} {d : Nat} {X : jX} {res : Int32} (K : jOK G l mX6_enviousPairs (d + 1) X) (n : Nat) (h : jH) (E : jEnd G mX6_enviousPairs (jPR h res) X) (k : Nat) : ∀ (a0 : Nat) (x1 : Int32) (x2 : Int32), F_X6_enviousPairs_4 n k a0 x1 x2 h = some res → jJ G X h 0 0 4 [some (.ref a0), some (.int x1), some (.int x2)] [] := by
  induction k with
  | zero =>
    intro a0 x1 x2 hf
    exact jno (show (none : Option Int32) = some res from hf)
  | succ k ih =>
    intro a0 x1 x2 hf
    exact J_X6_enviousPairs_4_b K n h (F_X6_enviousPairs_4 n k) ih E a0 x1 x2 hf
set_option maxHeartbeats 400000 in
set_option maxRecDepth 100000 in
theorem J_X6_enviousPairs {G : jG} {l : Launch} {d : Nat} {X : jX} {res : Int32} (K : jOK G l mX6_enviousPairs (d + 1) X) (n : Nat) (h : jH) (E : jEnd G mX6_enviousPairs (jPR h res) X) (a0 : Nat) (hf : F_X6_enviousPairs n a0 h = some res) : jJ G X h 0 0 0 [some (.ref a0), none, none] [] := by
  unfold F_X6_enviousPairs at hf
  refine jr_iconst K (D_at DX6_enviousPairs_q0 0 rfl) (v := (0 : Int32)) (by decide) ?_
  refine jr_istore_n K (D_at DX6_enviousPairs_q0 1 rfl) (i := 1) rfl (by decide) (L2 := [_, _, _]) rfl ?_
  refine jr_iconst K (D_at DX6_enviousPairs_q0 2 rfl) (v := (0 : Int32)) (by decide) ?_
  refine jr_istore_n K (D_at DX6_enviousPairs_q0 3 rfl) (i := 2) rfl (by decide) (L2 := [_, _, _]) rfl ?_
  refine jr_keep [true, true, true] ?_
  exact J_X6_enviousPairs_4 K n h E n a0 (0 : Int32) (0 : Int32) hf
theorem C_X6_enviousPairs {G : jG} {l : Launch} (d : Nat) {n : Nat} {a0 : Nat} {h : jH} {res : Int32} (hf : F_X6_enviousPairs n a0 h = some res) : jC G l mX6_enviousPairs (d + 1) 0 0 [.ref a0] h (jPR h res) :=
  jC.of pn_X6 (jcats rfl) (Nat.le_of_ble_eq_true rfl) (fun X K E => J_X6_enviousPairs K n h E a0 hf)
set_option maxHeartbeats 400000 in
set_option maxRecDepth 100000 in
theorem J_X6_gain {G : jG} {l : Launch} {d : Nat} {X : jX} {res : Int32} (K : jOK G l mX6_gain (d + 1) X) (n : Nat) (h : jH) (E : jEnd G mX6_gain (jPR h res) X) (a0 : Nat) (x1 : Int32) (x2 : Int32) (hf : F_X6_gain n a0 x1 x2 h = some res) : jJ G X h 0 0 0 [some (.ref a0), some (.int x1), some (.int x2)] [] := by
  unfold F_X6_gain at hf
  refine jr_iload_n K (D_at DX6_gain_q0 0 rfl) rfl rfl ?_
  by_cases c1_0 : x2 = (1 : Int32)
  · replace hf := (if_pos c1_0).symm.trans hf
    refine jr_lookup K (D_at DX6_gain_q1 0 rfl) (off := 27) (tgt := 28) (by decide) (by rw [c1_0]; decide) (by decide) ?_
    refine jr_aload_n K (D_at DX6_gain_q2 0 rfl) rfl rfl ?_
    obtain ⟨v29, e29, hf⟩ := jbind hf
    refine jr_getI K (D_at DX6_gain_q2 1 rfl) fg_X6_78_6 e29 ?_
    refine jr_iload_n K (D_at DX6_gain_q2 2 rfl) rfl rfl ?_
    obtain ⟨v33, e33, hf⟩ := jbind hf
    refine jr_callSN K (C_X11_bit (d) e33) (D_at DX6_gain_q2 3 rfl) csn_X6_15_X11_bit (As := [.int v29, .int x1]) rfl rfl (by exact Nat.le_of_ble_eq_true rfl) (kc2 := 0) (ks2 := 0) rfl rfl (fun k9 h9 w9 => by cases w9.1) (fun r9 h9 w9 => ?_)
    obtain ⟨w1, w2⟩ := w9
    subst h9
    cases w1
    show jJ G X _ 0 0 _ _ (.int v33 :: _)
    refine jr_iconst K (D_at DX6_gain_q2 4 rfl) (v := (1 : Int32)) (by decide) ?_
    refine jr_icmp_ne K (D_at DX6_gain_q2 5 rfl) (tgt := 45) (by decide) (fun c37 => ?_) (fun c37 => ?_)
    · replace hf := (if_neg c37).symm.trans hf
      refine jr_iconst K (D_at DX6_gain_q2 8 rfl) (v := (1 : Int32)) (by decide) ?_
      cases hf
      exact jr_iret K E (D_at DX6_gain_q2 9 rfl) rfl ⟨rfl, rfl⟩
    · replace hf := (if_pos c37).symm.trans hf
      refine jr_bipush K (D_at DX6_gain_q2 6 rfl) (v := (-2 : Int32)) (by decide) ?_
      refine jr_goto K (D_at DX6_gain_q2 7 rfl) (tgt := 46) (by decide) ?_
      cases hf
      exact jr_iret K E (D_at DX6_gain_q2 9 rfl) rfl ⟨rfl, rfl⟩
  replace hf := (if_neg c1_0).symm.trans hf
  by_cases c1_1 : x2 = (2 : Int32)
  · replace hf := (if_pos c1_1).symm.trans hf
    refine jr_lookup K (D_at DX6_gain_q1 0 rfl) (off := 46) (tgt := 47) (by decide) (by rw [c1_1]; decide) (by decide) ?_
    refine jr_aload_n K (D_at DX6_gain_q2 10 rfl) rfl rfl ?_
    refine jr_iload_n K (D_at DX6_gain_q2 11 rfl) rfl rfl ?_
    refine jr_iconst K (D_at DX6_gain_q3 0 rfl) (v := (0 : Int32)) (by decide) ?_
    obtain ⟨v50, e50, hf⟩ := jbind hf
    obtain ⟨rc_50, e50⟩ := jcv_o e50
    refine jr_callV K (C_X8_gap (d) e50) (D_at DX6_gain_q3 1 rfl) cv_X6_56_X8_gap (As := [.int x1, .int (0 : Int32)]) (ci := 6) rfl rc_50 rfl rfl (by exact Nat.le_of_ble_eq_true rfl) (kc2 := 0) (ks2 := 0) rfl rfl (fun k9 h9 w9 => by cases w9.1) (fun r9 h9 w9 => ?_)
    obtain ⟨w1, w2⟩ := w9
    subst h9
    cases w1
    show jJ G X _ 0 0 _ _ (.int v50 :: _)
    refine jr_iconst K (D_at DX6_gain_q3 2 rfl) (v := (1 : Int32)) (by decide) ?_
    refine jr_isub K (D_at DX6_gain_q3 3 rfl) ?_
    cases hf
    exact jr_iret K E (D_at DX6_gain_q3 4 rfl) rfl ⟨rfl, rfl⟩
  replace hf := (if_neg c1_1).symm.trans hf
  refine jr_lookup K (D_at DX6_gain_q1 0 rfl) (off := 55) (tgt := 56) (by decide) (by show Op.lookupswitch.offset [(1, 27), (2, 46)] 55 _ = _; rw [lv_osw c1_0 (a := 1) (by decide), lv_osw c1_1 (a := 2) (by decide)]; rfl) (by decide) ?_
  refine jr_iconst K (D_at DX6_gain_q3 5 rfl) (v := (2 : Int32)) (by decide) ?_
  cases hf
  exact jr_iret K E (D_at DX6_gain_q3 6 rfl) rfl ⟨rfl, rfl⟩
theorem C_X6_gain {G : jG} {l : Launch} (d : Nat) {n : Nat} {a0 : Nat} {x1 : Int32} {x2 : Int32} {h : jH} {res : Int32} (hf : F_X6_gain n a0 x1 x2 h = some res) : jC G l mX6_gain (d + 1) 0 0 [.ref a0, .int x1, .int x2] h (jPR h res) :=
  jC.of pn_X6 (jcats rfl) (Nat.le_of_ble_eq_true rfl) (fun X K E => J_X6_gain K n h E a0 x1 x2 hf)
set_option maxHeartbeats 400000 in
set_option maxRecDepth 100000 in
theorem J_X6_restingChoices_62 {G : jG} {l : Launch} {d : Nat} {X : jX} {res : Int32} (K : jOK G l mX6_restingChoices (d + 2) X) (n : Nat) (h : jH) (rc16 : Nat → Int32 → Int32 → Int32 → jH → Option Int32) (hr16 : ∀ (a0 : Nat) (x1 : Int32) (x2 : Int32) (x3 : Int32), rc16 a0 x1 x2 x3 h = some res → jJ G X h 0 0 16 [some (.ref a0), some (.int x1), some (.int x2), some (.int x3), none] []) (E : jEnd G mX6_restingChoices (jPR h res) X) (a0 : Nat) (x1 : Int32) (x3 : Int32) (s0 : Int32) (s1 : Int32) (s2 : Int32) (hf : F_X6_restingChoices_62 n rc16 a0 x1 x3 s0 s1 s2 h = some res) : jJ G X h 0 0 62 [some (.ref a0), some (.int x1), none, some (.int x3), none] [.int s2, .int s1, .int s0] := by
  unfold F_X6_restingChoices_62 at hf
  obtain ⟨v62, e62, hf⟩ := jbind hf
  refine jr_callSN K (C_X11_withBit (d + 1) e62) (D_at DX6_restingChoices_q3 5 rfl) csn_X6_59_X11_withBit (As := [.int s0, .int s1, .int s2]) rfl rfl (by exact Nat.le_of_ble_eq_true rfl) (kc2 := 0) (ks2 := 0) rfl rfl (fun k9 h9 w9 => by cases w9.1) (fun r9 h9 w9 => ?_)
  obtain ⟨w1, w2⟩ := w9
  subst h9
  cases w1
  show jJ G X _ 0 0 _ _ (.int v62 :: _)
  refine jr_istore_n K (D_at DX6_restingChoices_q3 6 rfl) (i := 2) rfl (by decide) (L2 := [_, _, _, _, _]) rfl ?_
  refine jr_iinc K (D_at DX6_restingChoices_q3 7 rfl) (i := 3) rfl (v := x3 + (1 : Int32)) (jinc (by decide)) (by decide) (L2 := [_, _, _, _, _]) rfl ?_
  refine jr_goto K (D_at DX6_restingChoices_q3 8 rfl) (tgt := 16) (by decide) ?_
  refine jr_keep [true, true, true, true, false] ?_
  exact hr16 a0 x1 v62 (x3 + (1 : Int32)) hf
set_option maxHeartbeats 400000 in
set_option maxRecDepth 100000 in
theorem J_X6_restingChoices_16_b {G : jG} {l : Launch} {d : Nat} {X : jX} {res : Int32} (K : jOK G l mX6_restingChoices (d + 2) X) (n : Nat) (h : jH) (rc16 : Nat → Int32 → Int32 → Int32 → jH → Option Int32) (hr16 : ∀ (a0 : Nat) (x1 : Int32) (x2 : Int32) (x3 : Int32), rc16 a0 x1 x2 x3 h = some res → jJ G X h 0 0 16 [some (.ref a0), some (.int x1), some (.int x2), some (.int x3), none] []) (E : jEnd G mX6_restingChoices (jPR h res) X) (a0 : Nat) (x1 : Int32) (x2 : Int32) (x3 : Int32) (hf : F_X6_restingChoices_16_b n rc16 a0 x1 x2 x3 h = some res) : jJ G X h 0 0 16 [some (.ref a0), some (.int x1), some (.int x2), some (.int x3), none] [] := by
  unfold F_X6_restingChoices_16_b at hf
  refine jr_iload_n K (D_at DX6_restingChoices_q1 0 rfl) rfl rfl ?_
  refine jr_iconst K (D_at DX6_restingChoices_q1 1 rfl) (v := (4 : Int32)) (by decide) ?_
  refine jr_icmp_ge K (D_at DX6_restingChoices_q1 2 rfl) (tgt := 72) (by decide) (fun c18 => ?_) (fun c18 => ?_)
  · replace hf := (if_pos c18).symm.trans hf
    refine jr_iload_n K (D_at DX6_restingChoices_q3 9 rfl) rfl rfl ?_
    cases hf
    exact jr_iret K E (D_at DX6_restingChoices_q3 10 rfl) rfl ⟨rfl, rfl⟩
  · replace hf := (if_neg c18).symm.trans hf
    refine jr_aload_n K (D_at DX6_restingChoices_q1 3 rfl) rfl rfl ?_
    refine jr_iload_n K (D_at DX6_restingChoices_q1 4 rfl) rfl rfl ?_
    refine jr_iload_n K (D_at DX6_restingChoices_q1 5 rfl) rfl rfl ?_
    obtain ⟨v24, e24, hf⟩ := jbind hf
    refine jr_callS K (C_X6_gain (d) e24) (D_at DX6_restingChoices_q1 6 rfl) cs_X6_74_X6_gain (As := [.ref a0, .int x1, .int x3]) rfl rfl (by exact Nat.le_of_ble_eq_true rfl) (kc2 := 0) (ks2 := 0) rfl rfl (fun k9 h9 w9 => by cases w9.1) (fun r9 h9 w9 => ?_)
    obtain ⟨w1, w2⟩ := w9
    subst h9
    cases w1
    show jJ G X _ 0 0 _ _ (.int v24 :: _)
    refine jr_istore K (D_at DX6_restingChoices_q1 7 rfl) (i := 4) (by decide) (L2 := [_, _, _, _, _]) rfl ?_
    refine jr_iload_n K (D_at DX6_restingChoices_q1 8 rfl) rfl rfl ?_
    refine jr_iload_n K (D_at DX6_restingChoices_q1 9 rfl) rfl rfl ?_
    refine jr_iload K (D_at DX6_restingChoices_q1 10 rfl) rfl ?_
    refine jr_aload_n K (D_at DX6_restingChoices_q1 11 rfl) rfl rfl ?_
    refine jr_iload_n K (D_at DX6_restingChoices_q2 0 rfl) rfl rfl ?_
    refine jr_iload_n K (D_at DX6_restingChoices_q2 1 rfl) rfl rfl ?_
    refine jr_iconst K (D_at DX6_restingChoices_q2 2 rfl) (v := (2 : Int32)) (by decide) ?_
    refine jr_ixor K (D_at DX6_restingChoices_q2 3 rfl) ?_
    obtain ⟨v38, e38, hf⟩ := jbind hf
    refine jr_callS K (C_X6_gain (d) e38) (D_at DX6_restingChoices_q2 4 rfl) cs_X6_74_X6_gain (As := [.ref a0, .int x1, .int (x3 ^^^ (2 : Int32))]) rfl rfl (by exact Nat.le_of_ble_eq_true rfl) (kc2 := 0) (ks2 := 0) rfl rfl (fun k9 h9 w9 => by cases w9.1) (fun r9 h9 w9 => ?_)
    obtain ⟨w1, w2⟩ := w9
    subst h9
    cases w1
    show jJ G X _ 0 0 _ _ (.int v38 :: _)
    refine jr_icmp_lt K (D_at DX6_restingChoices_q2 5 rfl) (tgt := 61) (by decide) (fun c41 => ?_) (fun c41 => ?_)
    · replace hf := (if_pos c41).symm.trans hf
      refine jr_iconst K (D_at DX6_restingChoices_q3 4 rfl) (v := (0 : Int32)) (by decide) ?_
      refine jr_keep [true, true, false, true, false] ?_
      exact J_X6_restingChoices_62 K n h rc16 hr16 E a0 x1 x3 x2 x3 (0 : Int32) hf
    · replace hf := (if_neg c41).symm.trans hf
      refine jr_iload K (D_at DX6_restingChoices_q2 6 rfl) rfl ?_
      refine jr_aload_n K (D_at DX6_restingChoices_q2 7 rfl) rfl rfl ?_
      refine jr_iload_n K (D_at DX6_restingChoices_q2 8 rfl) rfl rfl ?_
      refine jr_iload_n K (D_at DX6_restingChoices_q2 9 rfl) rfl rfl ?_
      refine jr_iconst K (D_at DX6_restingChoices_q2 10 rfl) (v := (1 : Int32)) (by decide) ?_
      refine jr_ixor K (D_at DX6_restingChoices_q2 11 rfl) ?_
      obtain ⟨v51, e51, hf⟩ := jbind hf
      refine jr_callS K (C_X6_gain (d) e51) (D_at DX6_restingChoices_q3 0 rfl) cs_X6_74_X6_gain (As := [.ref a0, .int x1, .int (x3 ^^^ (1 : Int32))]) rfl rfl (by exact Nat.le_of_ble_eq_true rfl) (kc2 := 0) (ks2 := 0) rfl rfl (fun k9 h9 w9 => by cases w9.1) (fun r9 h9 w9 => ?_)
      obtain ⟨w1, w2⟩ := w9
      subst h9
      cases w1
      show jJ G X _ 0 0 _ _ (.int v51 :: _)
      refine jr_icmp_lt K (D_at DX6_restingChoices_q3 1 rfl) (tgt := 61) (by decide) (fun c54 => ?_) (fun c54 => ?_)
      · replace hf := (if_pos c54).symm.trans hf
        refine jr_iconst K (D_at DX6_restingChoices_q3 4 rfl) (v := (0 : Int32)) (by decide) ?_
        refine jr_keep [true, true, false, true, false] ?_
        exact J_X6_restingChoices_62 K n h rc16 hr16 E a0 x1 x3 x2 x3 (0 : Int32) hf
      · replace hf := (if_neg c54).symm.trans hf
        refine jr_iconst K (D_at DX6_restingChoices_q3 2 rfl) (v := (1 : Int32)) (by decide) ?_
        refine jr_goto K (D_at DX6_restingChoices_q3 3 rfl) (tgt := 62) (by decide) ?_
        refine jr_keep [true, true, false, true, false] ?_
        exact J_X6_restingChoices_62 K n h rc16 hr16 E a0 x1 x3 x2 x3 (1 : Int32) hf
theorem J_X6_restingChoices_16 {G : jG} {l : Launch} {d : Nat} {X : jX} {res : Int32} (K : jOK G l mX6_restingChoices (d + 2) X) (n : Nat) (h : jH) (E : jEnd G mX6_restingChoices (jPR h res) X) (k : Nat) : ∀ (a0 : Nat) (x1 : Int32) (x2 : Int32) (x3 : Int32), F_X6_restingChoices_16 n k a0 x1 x2 x3 h = some res → jJ G X h 0 0 16 [some (.ref a0), some (.int x1), some (.int x2), some (.int x3), none] [] := by
  induction k with
  | zero =>
    intro a0 x1 x2 x3 hf
    exact jno (show (none : Option Int32) = some res from hf)
  | succ k ih =>
    intro a0 x1 x2 x3 hf
    exact J_X6_restingChoices_16_b K n h (F_X6_restingChoices_16 n k) ih E a0 x1 x2 x3 hf
set_option maxHeartbeats 400000 in
set_option maxRecDepth 100000 in
theorem J_X6_restingChoices {G : jG} {l : Launch} {d : Nat} {X : jX} {res : Int32} (K : jOK G l mX6_restingChoices (d + 2) X) (n : Nat) (h : jH) (E : jEnd G mX6_restingChoices (jPR h res) X) (a0 : Nat) (x1 : Int32) (hf : F_X6_restingChoices n a0 x1 h = some res) : jJ G X h 0 0 0 [some (.ref a0), some (.int x1), none, none, none] [] := by
  unfold F_X6_restingChoices at hf
  refine jr_iload_n K (D_at DX6_restingChoices_q0 0 rfl) rfl rfl ?_
  refine jr_aload_n K (D_at DX6_restingChoices_q0 1 rfl) rfl rfl ?_
  obtain ⟨v2, e2, hf⟩ := jbind hf
  refine jr_getI K (D_at DX6_restingChoices_q0 2 rfl) fg_X6_19_6 e2 ?_
  refine jr_iconst K (D_at DX6_restingChoices_q0 3 rfl) (v := (1 : Int32)) (by decide) ?_
  refine jr_isub K (D_at DX6_restingChoices_q0 4 rfl) ?_
  refine jr_icmp_lt K (D_at DX6_restingChoices_q0 5 rfl) (tgt := 12) (by decide) (fun c7 => ?_) (fun c7 => ?_)
  · replace hf := (if_pos c7).symm.trans hf
    refine jr_iconst K (D_at DX6_restingChoices_q0 8 rfl) (v := (0 : Int32)) (by decide) ?_
    refine jr_istore_n K (D_at DX6_restingChoices_q0 9 rfl) (i := 2) rfl (by decide) (L2 := [_, _, _, _, _]) rfl ?_
    refine jr_iconst K (D_at DX6_restingChoices_q0 10 rfl) (v := (0 : Int32)) (by decide) ?_
    refine jr_istore_n K (D_at DX6_restingChoices_q0 11 rfl) (i := 3) rfl (by decide) (L2 := [_, _, _, _, _]) rfl ?_
    refine jr_keep [true, true, true, true, false] ?_
    exact J_X6_restingChoices_16 K n h E n a0 x1 (0 : Int32) (0 : Int32) hf
  · replace hf := (if_neg c7).symm.trans hf
    refine jr_iconst K (D_at DX6_restingChoices_q0 6 rfl) (v := (-1 : Int32)) (by decide) ?_
    cases hf
    exact jr_iret K E (D_at DX6_restingChoices_q0 7 rfl) rfl ⟨rfl, rfl⟩
theorem C_X6_restingChoices {G : jG} {l : Launch} (d : Nat) {n : Nat} {a0 : Nat} {x1 : Int32} {h : jH} {res : Int32} (hf : F_X6_restingChoices n a0 x1 h = some res) : jC G l mX6_restingChoices (d + 2) 0 0 [.ref a0, .int x1] h (jPR h res) :=
  jC.of pn_X6 (jcats rfl) (Nat.le_of_ble_eq_true rfl) (fun X K E => J_X6_restingChoices K n h E a0 x1 hf)
set_option maxHeartbeats 400000 in
set_option maxRecDepth 100000 in
theorem J_X6_largestBunch_33 {G : jG} {l : Launch} {d : Nat} {X : jX} {res : Int32} (K : jOK G l mX6_largestBunch (d + 1) X) (n : Nat) (h : jH) (rc6 : Nat → Int32 → Int32 → Int32 → jH → Option Int32) (hr6 : ∀ (a0 : Nat) (x1 : Int32) (x2 : Int32) (x3 : Int32), rc6 a0 x1 x2 x3 h = some res → jJ G X h 0 0 6 [some (.ref a0), some (.int x1), some (.int x2), some (.int x3)] []) (E : jEnd G mX6_largestBunch (jPR h res) X) (a0 : Nat) (x1 : Int32) (x3 : Int32) (s0 : Int32) (hf : F_X6_largestBunch_33 n rc6 a0 x1 x3 s0 h = some res) : jJ G X h 0 0 33 [some (.ref a0), some (.int x1), none, some (.int x3)] [.int s0] := by
  unfold F_X6_largestBunch_33 at hf
  refine jr_istore_n K (D_at DX6_largestBunch_q1 11 rfl) (i := 2) rfl (by decide) (L2 := [_, _, _, _]) rfl ?_
  refine jr_iload_n K (D_at DX6_largestBunch_q2 0 rfl) rfl rfl ?_
  refine jr_iload_n K (D_at DX6_largestBunch_q2 1 rfl) rfl rfl ?_
  refine jr_max K (D_at DX6_largestBunch_q2 2 rfl) mm_X6_50 (by exact Nat.le_of_ble_eq_true rfl) ?_
  refine jr_istore_n K (D_at DX6_largestBunch_q2 3 rfl) (i := 1) rfl (by decide) (L2 := [_, _, _, _]) rfl ?_
  refine jr_iinc K (D_at DX6_largestBunch_q2 4 rfl) (i := 3) rfl (v := x3 + (1 : Int32)) (jinc (by decide)) (by decide) (L2 := [_, _, _, _]) rfl ?_
  refine jr_goto K (D_at DX6_largestBunch_q2 5 rfl) (tgt := 6) (by decide) ?_
  refine jr_keep [true, true, true, true] ?_
  exact hr6 a0 (if x1 < s0 then s0 else x1) s0 (x3 + (1 : Int32)) hf
set_option maxHeartbeats 400000 in
set_option maxRecDepth 100000 in
theorem J_X6_largestBunch_6_b {G : jG} {l : Launch} {d : Nat} {X : jX} {res : Int32} (K : jOK G l mX6_largestBunch (d + 1) X) (n : Nat) (h : jH) (rc6 : Nat → Int32 → Int32 → Int32 → jH → Option Int32) (hr6 : ∀ (a0 : Nat) (x1 : Int32) (x2 : Int32) (x3 : Int32), rc6 a0 x1 x2 x3 h = some res → jJ G X h 0 0 6 [some (.ref a0), some (.int x1), some (.int x2), some (.int x3)] []) (E : jEnd G mX6_largestBunch (jPR h res) X) (a0 : Nat) (x1 : Int32) (x2 : Int32) (x3 : Int32) (hf : F_X6_largestBunch_6_b n rc6 a0 x1 x2 x3 h = some res) : jJ G X h 0 0 6 [some (.ref a0), some (.int x1), some (.int x2), some (.int x3)] [] := by
  unfold F_X6_largestBunch_6_b at hf
  refine jr_iload_n K (D_at DX6_largestBunch_q0 6 rfl) rfl rfl ?_
  refine jr_aload_n K (D_at DX6_largestBunch_q0 7 rfl) rfl rfl ?_
  obtain ⟨v8, e8, hf⟩ := jbind hf
  refine jr_getI K (D_at DX6_largestBunch_q0 8 rfl) fg_X6_19_6 e8 ?_
  refine jr_icmp_ge K (D_at DX6_largestBunch_q0 9 rfl) (tgt := 46) (by decide) (fun c11 => ?_) (fun c11 => ?_)
  · replace hf := (if_pos c11).symm.trans hf
    refine jr_iload_n K (D_at DX6_largestBunch_q2 6 rfl) rfl rfl ?_
    cases hf
    exact jr_iret K E (D_at DX6_largestBunch_q2 7 rfl) rfl ⟨rfl, rfl⟩
  · replace hf := (if_neg c11).symm.trans hf
    refine jr_aload_n K (D_at DX6_largestBunch_q0 10 rfl) rfl rfl ?_
    refine jr_iload_n K (D_at DX6_largestBunch_q0 11 rfl) rfl rfl ?_
    refine jr_iconst K (D_at DX6_largestBunch_q1 0 rfl) (v := (1 : Int32)) (by decide) ?_
    refine jr_isub K (D_at DX6_largestBunch_q1 1 rfl) ?_
    refine jr_iconst K (D_at DX6_largestBunch_q1 2 rfl) (v := (-1 : Int32)) (by decide) ?_
    obtain ⟨v19, e19, hf⟩ := jbind hf
    obtain ⟨rc_19, e19⟩ := jcv_o e19
    refine jr_callV K (C_X8_gap (d) e19) (D_at DX6_largestBunch_q1 3 rfl) cv_X6_56_X8_gap (As := [.int (x3 - (1 : Int32)), .int (-1 : Int32)]) (ci := 6) rfl rc_19 rfl rfl (by exact Nat.le_of_ble_eq_true rfl) (kc2 := 0) (ks2 := 0) rfl rfl (fun k9 h9 w9 => by cases w9.1) (fun r9 h9 w9 => ?_)
    obtain ⟨w1, w2⟩ := w9
    subst h9
    cases w1
    show jJ G X _ 0 0 _ _ (.int v19 :: _)
    refine jr_iconst K (D_at DX6_largestBunch_q1 4 rfl) (v := (1 : Int32)) (by decide) ?_
    refine jr_icmp_ne K (D_at DX6_largestBunch_q1 5 rfl) (tgt := 32) (by decide) (fun c23 => ?_) (fun c23 => ?_)
    · replace hf := (if_neg c23).symm.trans hf
      refine jr_iconst K (D_at DX6_largestBunch_q1 10 rfl) (v := (1 : Int32)) (by decide) ?_
      refine jr_keep [true, true, false, true] ?_
      exact J_X6_largestBunch_33 K n h rc6 hr6 E a0 x1 x3 (1 : Int32) hf
    · replace hf := (if_pos c23).symm.trans hf
      refine jr_iload_n K (D_at DX6_largestBunch_q1 6 rfl) rfl rfl ?_
      refine jr_iconst K (D_at DX6_largestBunch_q1 7 rfl) (v := (1 : Int32)) (by decide) ?_
      refine jr_iadd K (D_at DX6_largestBunch_q1 8 rfl) ?_
      refine jr_goto K (D_at DX6_largestBunch_q1 9 rfl) (tgt := 33) (by decide) ?_
      refine jr_keep [true, true, false, true] ?_
      exact J_X6_largestBunch_33 K n h rc6 hr6 E a0 x1 x3 (x2 + (1 : Int32)) hf
theorem J_X6_largestBunch_6 {G : jG} {l : Launch} {d : Nat} {X : jX} {res : Int32} (K : jOK G l mX6_largestBunch (d + 1) X) (n : Nat) (h : jH) (E : jEnd G mX6_largestBunch (jPR h res) X) (k : Nat) : ∀ (a0 : Nat) (x1 : Int32) (x2 : Int32) (x3 : Int32), F_X6_largestBunch_6 n k a0 x1 x2 x3 h = some res → jJ G X h 0 0 6 [some (.ref a0), some (.int x1), some (.int x2), some (.int x3)] [] := by
  induction k with
  | zero =>
    intro a0 x1 x2 x3 hf
    exact jno (show (none : Option Int32) = some res from hf)
  | succ k ih =>
    intro a0 x1 x2 x3 hf
    exact J_X6_largestBunch_6_b K n h (F_X6_largestBunch_6 n k) ih E a0 x1 x2 x3 hf
set_option maxHeartbeats 400000 in
set_option maxRecDepth 100000 in
theorem J_X6_largestBunch {G : jG} {l : Launch} {d : Nat} {X : jX} {res : Int32} (K : jOK G l mX6_largestBunch (d + 1) X) (n : Nat) (h : jH) (E : jEnd G mX6_largestBunch (jPR h res) X) (a0 : Nat) (hf : F_X6_largestBunch n a0 h = some res) : jJ G X h 0 0 0 [some (.ref a0), none, none, none] [] := by
  unfold F_X6_largestBunch at hf
  refine jr_iconst K (D_at DX6_largestBunch_q0 0 rfl) (v := (0 : Int32)) (by decide) ?_
  refine jr_istore_n K (D_at DX6_largestBunch_q0 1 rfl) (i := 1) rfl (by decide) (L2 := [_, _, _, _]) rfl ?_
  refine jr_iconst K (D_at DX6_largestBunch_q0 2 rfl) (v := (0 : Int32)) (by decide) ?_
  refine jr_istore_n K (D_at DX6_largestBunch_q0 3 rfl) (i := 2) rfl (by decide) (L2 := [_, _, _, _]) rfl ?_
  refine jr_iconst K (D_at DX6_largestBunch_q0 4 rfl) (v := (0 : Int32)) (by decide) ?_
  refine jr_istore_n K (D_at DX6_largestBunch_q0 5 rfl) (i := 3) rfl (by decide) (L2 := [_, _, _, _]) rfl ?_
  refine jr_keep [true, true, true, true] ?_
  exact J_X6_largestBunch_6 K n h E n a0 (0 : Int32) (0 : Int32) (0 : Int32) hf
theorem C_X6_largestBunch {G : jG} {l : Launch} (d : Nat) {n : Nat} {a0 : Nat} {h : jH} {res : Int32} (hf : F_X6_largestBunch n a0 h = some res) : jC G l mX6_largestBunch (d + 1) 0 0 [.ref a0] h (jPR h res) :=
  jC.of pn_X6 (jcats rfl) (Nat.le_of_ble_eq_true rfl) (fun X K E => J_X6_largestBunch K n h E a0 hf)
set_option maxHeartbeats 400000 in
set_option maxRecDepth 100000 in
theorem J_X6_thickBeyondJoin_44 {G : jG} {l : Launch} {d : Nat} {X : jX} {res : Int32} (K : jOK G l mX6_thickBeyondJoin (d + 1) X) (n : Nat) (h : jH) (rc4 : Nat → Int32 → Int32 → jH → Option Int32) (hr4 : ∀ (a0 : Nat) (x1 : Int32) (x2 : Int32), rc4 a0 x1 x2 h = some res → jJ G X h 0 0 4 [some (.ref a0), some (.int x1), some (.int x2)] []) (E : jEnd G mX6_thickBeyondJoin (jPR h res) X) (a0 : Nat) (x2 : Int32) (s0 : Int32) (s1 : Int32) (s2 : Int32) (hf : F_X6_thickBeyondJoin_44 n rc4 a0 x2 s0 s1 s2 h = some res) : jJ G X h 0 0 44 [some (.ref a0), none, some (.int x2)] [.int s2, .int s1, .int s0] := by
  unfold F_X6_thickBeyondJoin_44 at hf
  obtain ⟨v44, e44, hf⟩ := jbind hf
  refine jr_callSN K (C_X11_withBit (d) e44) (D_at DX6_thickBeyondJoin_q2 2 rfl) csn_X6_59_X11_withBit (As := [.int s0, .int s1, .int s2]) rfl rfl (by exact Nat.le_of_ble_eq_true rfl) (kc2 := 0) (ks2 := 0) rfl rfl (fun k9 h9 w9 => by cases w9.1) (fun r9 h9 w9 => ?_)
  obtain ⟨w1, w2⟩ := w9
  subst h9
  cases w1
  show jJ G X _ 0 0 _ _ (.int v44 :: _)
  refine jr_istore_n K (D_at DX6_thickBeyondJoin_q2 3 rfl) (i := 1) rfl (by decide) (L2 := [_, _, _]) rfl ?_
  refine jr_iinc K (D_at DX6_thickBeyondJoin_q2 4 rfl) (i := 2) rfl (v := x2 + (1 : Int32)) (jinc (by decide)) (by decide) (L2 := [_, _, _]) rfl ?_
  refine jr_goto K (D_at DX6_thickBeyondJoin_q2 5 rfl) (tgt := 4) (by decide) ?_
  refine jr_keep [true, true, true] ?_
  exact hr4 a0 v44 (x2 + (1 : Int32)) hf
set_option maxHeartbeats 400000 in
set_option maxRecDepth 100000 in
theorem J_X6_thickBeyondJoin_4_b {G : jG} {l : Launch} {d : Nat} {X : jX} {res : Int32} (K : jOK G l mX6_thickBeyondJoin (d + 1) X) (n : Nat) (h : jH) (rc4 : Nat → Int32 → Int32 → jH → Option Int32) (hr4 : ∀ (a0 : Nat) (x1 : Int32) (x2 : Int32), rc4 a0 x1 x2 h = some res → jJ G X h 0 0 4 [some (.ref a0), some (.int x1), some (.int x2)] []) (E : jEnd G mX6_thickBeyondJoin (jPR h res) X) (a0 : Nat) (x1 : Int32) (x2 : Int32) (hf : F_X6_thickBeyondJoin_4_b n rc4 a0 x1 x2 h = some res) : jJ G X h 0 0 4 [some (.ref a0), some (.int x1), some (.int x2)] [] := by
  unfold F_X6_thickBeyondJoin_4_b at hf
  refine jr_iload_n K (D_at DX6_thickBeyondJoin_q0 4 rfl) rfl rfl ?_
  refine jr_aload_n K (D_at DX6_thickBeyondJoin_q0 5 rfl) rfl rfl ?_
  obtain ⟨v6, e6, hf⟩ := jbind hf
  refine jr_getI K (D_at DX6_thickBeyondJoin_q0 6 rfl) fg_X6_19_6 e6 ?_
  refine jr_icmp_ge K (D_at DX6_thickBeyondJoin_q0 7 rfl) (tgt := 54) (by decide) (fun c9 => ?_) (fun c9 => ?_)
  · replace hf := (if_pos c9).symm.trans hf
    refine jr_iload_n K (D_at DX6_thickBeyondJoin_q2 6 rfl) rfl rfl ?_
    cases hf
    exact jr_iret K E (D_at DX6_thickBeyondJoin_q2 7 rfl) rfl ⟨rfl, rfl⟩
  · replace hf := (if_neg c9).symm.trans hf
    refine jr_iload_n K (D_at DX6_thickBeyondJoin_q0 8 rfl) rfl rfl ?_
    refine jr_iload_n K (D_at DX6_thickBeyondJoin_q0 9 rfl) rfl rfl ?_
    refine jr_aload_n K (D_at DX6_thickBeyondJoin_q0 10 rfl) rfl rfl ?_
    obtain ⟨v15, e15, hf⟩ := jbind hf
    refine jr_getI K (D_at DX6_thickBeyondJoin_q0 11 rfl) fg_X6_81_6 e15 ?_
    refine jr_iload_n K (D_at DX6_thickBeyondJoin_q1 0 rfl) rfl rfl ?_
    obtain ⟨v19, e19, hf⟩ := jbind hf
    refine jr_callSN K (C_X11_bit (d) e19) (D_at DX6_thickBeyondJoin_q1 1 rfl) csn_X6_15_X11_bit (As := [.int v15, .int x2]) rfl rfl (by exact Nat.le_of_ble_eq_true rfl) (kc2 := 0) (ks2 := 0) rfl rfl (fun k9 h9 w9 => by cases w9.1) (fun r9 h9 w9 => ?_)
    obtain ⟨w1, w2⟩ := w9
    subst h9
    cases w1
    show jJ G X _ 0 0 _ _ (.int v19 :: _)
    refine jr_iconst K (D_at DX6_thickBeyondJoin_q1 2 rfl) (v := (1 : Int32)) (by decide) ?_
    refine jr_icmp_ne K (D_at DX6_thickBeyondJoin_q1 3 rfl) (tgt := 43) (by decide) (fun c23 => ?_) (fun c23 => ?_)
    · replace hf := (if_neg c23).symm.trans hf
      refine jr_iconst K (D_at DX6_thickBeyondJoin_q2 1 rfl) (v := (0 : Int32)) (by decide) ?_
      refine jr_keep [true, false, true] ?_
      exact J_X6_thickBeyondJoin_44 K n h rc4 hr4 E a0 x2 x1 x2 (0 : Int32) hf
    · replace hf := (if_pos c23).symm.trans hf
      refine jr_aload_n K (D_at DX6_thickBeyondJoin_q1 4 rfl) rfl rfl ?_
      obtain ⟨p27, e27, hf⟩ := jbind hf
      refine jr_getR K (D_at DX6_thickBeyondJoin_q1 5 rfl) fg_X6_22_6 e27 ?_
      refine jr_iload_n K (D_at DX6_thickBeyondJoin_q1 6 rfl) rfl rfl ?_
      obtain ⟨v31, e31, hf⟩ := jbind hf
      refine jr_iald K (D_at DX6_thickBeyondJoin_q1 7 rfl) e31 ?_
      refine jr_aload_n K (D_at DX6_thickBeyondJoin_q1 8 rfl) rfl rfl ?_
      obtain ⟨v33, e33, hf⟩ := jbind hf
      refine jr_getI K (D_at DX6_thickBeyondJoin_q1 9 rfl) fg_X6_84_6 e33 ?_
      refine jr_icmp_lt K (D_at DX6_thickBeyondJoin_q1 10 rfl) (tgt := 43) (by decide) (fun c36 => ?_) (fun c36 => ?_)
      · replace hf := (if_pos c36).symm.trans hf
        refine jr_iconst K (D_at DX6_thickBeyondJoin_q2 1 rfl) (v := (0 : Int32)) (by decide) ?_
        refine jr_keep [true, false, true] ?_
        exact J_X6_thickBeyondJoin_44 K n h rc4 hr4 E a0 x2 x1 x2 (0 : Int32) hf
      · replace hf := (if_neg c36).symm.trans hf
        refine jr_iconst K (D_at DX6_thickBeyondJoin_q1 11 rfl) (v := (1 : Int32)) (by decide) ?_
        refine jr_goto K (D_at DX6_thickBeyondJoin_q2 0 rfl) (tgt := 44) (by decide) ?_
        refine jr_keep [true, false, true] ?_
        exact J_X6_thickBeyondJoin_44 K n h rc4 hr4 E a0 x2 x1 x2 (1 : Int32) hf
theorem J_X6_thickBeyondJoin_4 {G : jG} {l : Launch} {d : Nat} {X : jX} {res : Int32} (K : jOK G l mX6_thickBeyondJoin (d + 1) X) (n : Nat) (h : jH) (E : jEnd G mX6_thickBeyondJoin (jPR h res) X) (k : Nat) : ∀ (a0 : Nat) (x1 : Int32) (x2 : Int32), F_X6_thickBeyondJoin_4 n k a0 x1 x2 h = some res → jJ G X h 0 0 4 [some (.ref a0), some (.int x1), some (.int x2)] [] := by
  induction k with
  | zero =>
    intro a0 x1 x2 hf
    exact jno (show (none : Option Int32) = some res from hf)
  | succ k ih =>
    intro a0 x1 x2 hf
    exact J_X6_thickBeyondJoin_4_b K n h (F_X6_thickBeyondJoin_4 n k) ih E a0 x1 x2 hf
set_option maxHeartbeats 400000 in
set_option maxRecDepth 100000 in
theorem J_X6_thickBeyondJoin {G : jG} {l : Launch} {d : Nat} {X : jX} {res : Int32} (K : jOK G l mX6_thickBeyondJoin (d + 1) X) (n : Nat) (h : jH) (E : jEnd G mX6_thickBeyondJoin (jPR h res) X) (a0 : Nat) (hf : F_X6_thickBeyondJoin n a0 h = some res) : jJ G X h 0 0 0 [some (.ref a0), none, none] [] := by
  unfold F_X6_thickBeyondJoin at hf
  refine jr_iconst K (D_at DX6_thickBeyondJoin_q0 0 rfl) (v := (0 : Int32)) (by decide) ?_
  refine jr_istore_n K (D_at DX6_thickBeyondJoin_q0 1 rfl) (i := 1) rfl (by decide) (L2 := [_, _, _]) rfl ?_
  refine jr_iconst K (D_at DX6_thickBeyondJoin_q0 2 rfl) (v := (0 : Int32)) (by decide) ?_
  refine jr_istore_n K (D_at DX6_thickBeyondJoin_q0 3 rfl) (i := 2) rfl (by decide) (L2 := [_, _, _]) rfl ?_
  refine jr_keep [true, true, true] ?_
  exact J_X6_thickBeyondJoin_4 K n h E n a0 (0 : Int32) (0 : Int32) hf
theorem C_X6_thickBeyondJoin {G : jG} {l : Launch} (d : Nat) {n : Nat} {a0 : Nat} {h : jH} {res : Int32} (hf : F_X6_thickBeyondJoin n a0 h = some res) : jC G l mX6_thickBeyondJoin (d + 1) 0 0 [.ref a0] h (jPR h res) :=
  jC.of pn_X6 (jcats rfl) (Nat.le_of_ble_eq_true rfl) (fun X K E => J_X6_thickBeyondJoin K n h E a0 hf)
set_option maxHeartbeats 400000 in
set_option maxRecDepth 100000 in
theorem J_X6_likePairs_16_b {G : jG} {l : Launch} {d : Nat} {X : jX} {res : Int32} (K : jOK G l mX6_likePairs (d) X) (n : Nat) (h : jH) (rc4 : Nat → Int32 → Int32 → jH → Option Int32) (hr4 : ∀ (a0 : Nat) (x1 : Int32) (x2 : Int32), rc4 a0 x1 x2 h = some res → jJ G X h 0 0 4 [some (.ref a0), some (.int x1), some (.int x2), none] []) (rc16 : Nat → Int32 → Int32 → Int32 → jH → Option Int32) (hr16 : ∀ (a0 : Nat) (x1 : Int32) (x2 : Int32) (x3 : Int32), rc16 a0 x1 x2 x3 h = some res → jJ G X h 0 0 16 [some (.ref a0), some (.int x1), some (.int x2), some (.int x3)] []) (E : jEnd G mX6_likePairs (jPR h res) X) (a0 : Nat) (x1 : Int32) (x2 : Int32) (x3 : Int32) (hf : F_X6_likePairs_16_b n rc4 rc16 a0 x1 x2 x3 h = some res) : jJ G X h 0 0 16 [some (.ref a0), some (.int x1), some (.int x2), some (.int x3)] [] := by
  unfold F_X6_likePairs_16_b at hf
  refine jr_iload_n K (D_at DX6_likePairs_q1 0 rfl) rfl rfl ?_
  refine jr_aload_n K (D_at DX6_likePairs_q1 1 rfl) rfl rfl ?_
  obtain ⟨v18, e18, hf⟩ := jbind hf
  refine jr_getI K (D_at DX6_likePairs_q1 2 rfl) fg_X6_19_6 e18 ?_
  refine jr_icmp_ge K (D_at DX6_likePairs_q1 3 rfl) (tgt := 78) (by decide) (fun c21 => ?_) (fun c21 => ?_)
  · replace hf := (if_pos c21).symm.trans hf
    refine jr_iinc K (D_at DX6_likePairs_q3 10 rfl) (i := 2) rfl (v := x2 + (1 : Int32)) (jinc (by decide)) (by decide) (L2 := [_, _, _, _]) rfl ?_
    refine jr_goto K (D_at DX6_likePairs_q3 11 rfl) (tgt := 4) (by decide) ?_
    refine jr_keep [true, true, true, false] ?_
    exact hr4 a0 x1 (x2 + (1 : Int32)) hf
  · replace hf := (if_neg c21).symm.trans hf
    refine jr_aload_n K (D_at DX6_likePairs_q1 4 rfl) rfl rfl ?_
    obtain ⟨p25, e25, hf⟩ := jbind hf
    refine jr_getR K (D_at DX6_likePairs_q1 5 rfl) fg_X6_53_6 e25 ?_
    refine jr_iload_n K (D_at DX6_likePairs_q1 6 rfl) rfl rfl ?_
    obtain ⟨v29, e29, hf⟩ := jbind hf
    refine jr_iald K (D_at DX6_likePairs_q1 7 rfl) e29 ?_
    refine jr_aload_n K (D_at DX6_likePairs_q1 8 rfl) rfl rfl ?_
    obtain ⟨p31, e31, hf⟩ := jbind hf
    refine jr_getR K (D_at DX6_likePairs_q1 9 rfl) fg_X6_53_6 e31 ?_
    refine jr_iload_n K (D_at DX6_likePairs_q1 10 rfl) rfl rfl ?_
    obtain ⟨v35, e35, hf⟩ := jbind hf
    refine jr_iald K (D_at DX6_likePairs_q1 11 rfl) e35 ?_
    refine jr_icmp_ne K (D_at DX6_likePairs_q2 0 rfl) (tgt := 72) (by decide) (fun c36 => ?_) (fun c36 => ?_)
    · replace hf := (if_neg c36).symm.trans hf
      refine jr_iinc K (D_at DX6_likePairs_q3 8 rfl) (i := 3) rfl (v := x3 + (1 : Int32)) (jinc (by decide)) (by decide) (L2 := [_, _, _, _]) rfl ?_
      refine jr_goto K (D_at DX6_likePairs_q3 9 rfl) (tgt := 16) (by decide) ?_
      refine jr_keep [true, true, true, true] ?_
      exact hr16 a0 x1 x2 (x3 + (1 : Int32)) hf
    · replace hf := (if_pos c36).symm.trans hf
      refine jr_aload_n K (D_at DX6_likePairs_q2 1 rfl) rfl rfl ?_
      obtain ⟨p40, e40, hf⟩ := jbind hf
      refine jr_getR K (D_at DX6_likePairs_q2 2 rfl) fg_X6_71_6 e40 ?_
      refine jr_iload_n K (D_at DX6_likePairs_q2 3 rfl) rfl rfl ?_
      obtain ⟨v44, e44, hf⟩ := jbind hf
      refine jr_iald K (D_at DX6_likePairs_q2 4 rfl) e44 ?_
      refine jr_aload_n K (D_at DX6_likePairs_q2 5 rfl) rfl rfl ?_
      obtain ⟨p46, e46, hf⟩ := jbind hf
      refine jr_getR K (D_at DX6_likePairs_q2 6 rfl) fg_X6_71_6 e46 ?_
      refine jr_iload_n K (D_at DX6_likePairs_q2 7 rfl) rfl rfl ?_
      obtain ⟨v50, e50, hf⟩ := jbind hf
      refine jr_iald K (D_at DX6_likePairs_q2 8 rfl) e50 ?_
      refine jr_icmp_ne K (D_at DX6_likePairs_q2 9 rfl) (tgt := 72) (by decide) (fun c51 => ?_) (fun c51 => ?_)
      · replace hf := (if_neg c51).symm.trans hf
        refine jr_iinc K (D_at DX6_likePairs_q3 8 rfl) (i := 3) rfl (v := x3 + (1 : Int32)) (jinc (by decide)) (by decide) (L2 := [_, _, _, _]) rfl ?_
        refine jr_goto K (D_at DX6_likePairs_q3 9 rfl) (tgt := 16) (by decide) ?_
        refine jr_keep [true, true, true, true] ?_
        exact hr16 a0 x1 x2 (x3 + (1 : Int32)) hf
      · replace hf := (if_pos c51).symm.trans hf
        refine jr_aload_n K (D_at DX6_likePairs_q2 10 rfl) rfl rfl ?_
        obtain ⟨p55, e55, hf⟩ := jbind hf
        refine jr_getR K (D_at DX6_likePairs_q2 11 rfl) fg_X6_36_6 e55 ?_
        refine jr_iload_n K (D_at DX6_likePairs_q3 0 rfl) rfl rfl ?_
        obtain ⟨v59, e59, hf⟩ := jbind hf
        refine jr_iald K (D_at DX6_likePairs_q3 1 rfl) e59 ?_
        refine jr_aload_n K (D_at DX6_likePairs_q3 2 rfl) rfl rfl ?_
        obtain ⟨p61, e61, hf⟩ := jbind hf
        refine jr_getR K (D_at DX6_likePairs_q3 3 rfl) fg_X6_36_6 e61 ?_
        refine jr_iload_n K (D_at DX6_likePairs_q3 4 rfl) rfl rfl ?_
        obtain ⟨v65, e65, hf⟩ := jbind hf
        refine jr_iald K (D_at DX6_likePairs_q3 5 rfl) e65 ?_
        refine jr_icmp_ne K (D_at DX6_likePairs_q3 6 rfl) (tgt := 72) (by decide) (fun c66 => ?_) (fun c66 => ?_)
        · replace hf := (if_neg c66).symm.trans hf
          refine jr_iinc K (D_at DX6_likePairs_q3 8 rfl) (i := 3) rfl (v := x3 + (1 : Int32)) (jinc (by decide)) (by decide) (L2 := [_, _, _, _]) rfl ?_
          refine jr_goto K (D_at DX6_likePairs_q3 9 rfl) (tgt := 16) (by decide) ?_
          refine jr_keep [true, true, true, true] ?_
          exact hr16 a0 x1 x2 (x3 + (1 : Int32)) hf
        · replace hf := (if_pos c66).symm.trans hf
          refine jr_iinc K (D_at DX6_likePairs_q3 7 rfl) (i := 1) rfl (v := x1 + (1 : Int32)) (jinc (by decide)) (by decide) (L2 := [_, _, _, _]) rfl ?_
          refine jr_iinc K (D_at DX6_likePairs_q3 8 rfl) (i := 3) rfl (v := x3 + (1 : Int32)) (jinc (by decide)) (by decide) (L2 := [_, _, _, _]) rfl ?_
          refine jr_goto K (D_at DX6_likePairs_q3 9 rfl) (tgt := 16) (by decide) ?_
          refine jr_keep [true, true, true, true] ?_
          exact hr16 a0 (x1 + (1 : Int32)) x2 (x3 + (1 : Int32)) hf
theorem J_X6_likePairs_16 {G : jG} {l : Launch} {d : Nat} {X : jX} {res : Int32} (K : jOK G l mX6_likePairs (d) X) (n : Nat) (h : jH) (rc4 : Nat → Int32 → Int32 → jH → Option Int32) (hr4 : ∀ (a0 : Nat) (x1 : Int32) (x2 : Int32), rc4 a0 x1 x2 h = some res → jJ G X h 0 0 4 [some (.ref a0), some (.int x1), some (.int x2), none] []) (E : jEnd G mX6_likePairs (jPR h res) X) (k : Nat) : ∀ (a0 : Nat) (x1 : Int32) (x2 : Int32) (x3 : Int32), F_X6_likePairs_16 n rc4 k a0 x1 x2 x3 h = some res → jJ G X h 0 0 16 [some (.ref a0), some (.int x1), some (.int x2), some (.int x3)] [] := by
  induction k with
  | zero =>
    intro a0 x1 x2 x3 hf
    exact jno (show (none : Option Int32) = some res from hf)
  | succ k ih =>
    intro a0 x1 x2 x3 hf
    exact J_X6_likePairs_16_b K n h rc4 hr4 (F_X6_likePairs_16 n rc4 k) ih E a0 x1 x2 x3 hf
set_option maxHeartbeats 400000 in
set_option maxRecDepth 100000 in
theorem J_X6_likePairs_4_b {G : jG} {l : Launch} {d : Nat} {X : jX} {res : Int32} (K : jOK G l mX6_likePairs (d) X) (n : Nat) (h : jH) (rc4 : Nat → Int32 → Int32 → jH → Option Int32) (hr4 : ∀ (a0 : Nat) (x1 : Int32) (x2 : Int32), rc4 a0 x1 x2 h = some res → jJ G X h 0 0 4 [some (.ref a0), some (.int x1), some (.int x2), none] []) (E : jEnd G mX6_likePairs (jPR h res) X) (a0 : Nat) (x1 : Int32) (x2 : Int32) (hf : F_X6_likePairs_4_b n rc4 a0 x1 x2 h = some res) : jJ G X h 0 0 4 [some (.ref a0), some (.int x1), some (.int x2), none] [] := by
  unfold F_X6_likePairs_4_b at hf
  refine jr_iload_n K (D_at DX6_likePairs_q0 4 rfl) rfl rfl ?_
  refine jr_aload_n K (D_at DX6_likePairs_q0 5 rfl) rfl rfl ?_
  obtain ⟨v6, e6, hf⟩ := jbind hf
  refine jr_getI K (D_at DX6_likePairs_q0 6 rfl) fg_X6_19_6 e6 ?_
  refine jr_icmp_ge K (D_at DX6_likePairs_q0 7 rfl) (tgt := 84) (by decide) (fun c9 => ?_) (fun c9 => ?_)
  · replace hf := (if_pos c9).symm.trans hf
    refine jr_iload_n K (D_at DX6_likePairs_q4 0 rfl) rfl rfl ?_
    cases hf
    exact jr_iret K E (D_at DX6_likePairs_q4 1 rfl) rfl ⟨rfl, rfl⟩
  · replace hf := (if_neg c9).symm.trans hf
    refine jr_iload_n K (D_at DX6_likePairs_q0 8 rfl) rfl rfl ?_
    refine jr_iconst K (D_at DX6_likePairs_q0 9 rfl) (v := (1 : Int32)) (by decide) ?_
    refine jr_iadd K (D_at DX6_likePairs_q0 10 rfl) ?_
    refine jr_istore_n K (D_at DX6_likePairs_q0 11 rfl) (i := 3) rfl (by decide) (L2 := [_, _, _, _]) rfl ?_
    refine jr_keep [true, true, true, true] ?_
    exact J_X6_likePairs_16 K n h rc4 hr4 E n a0 x1 x2 (x2 + (1 : Int32)) hf
theorem J_X6_likePairs_4 {G : jG} {l : Launch} {d : Nat} {X : jX} {res : Int32} (K : jOK G l mX6_likePairs (d) X) (n : Nat) (h : jH) (E : jEnd G mX6_likePairs (jPR h res) X) (k : Nat) : ∀ (a0 : Nat) (x1 : Int32) (x2 : Int32), F_X6_likePairs_4 n k a0 x1 x2 h = some res → jJ G X h 0 0 4 [some (.ref a0), some (.int x1), some (.int x2), none] [] := by
  induction k with
  | zero =>
    intro a0 x1 x2 hf
    exact jno (show (none : Option Int32) = some res from hf)
  | succ k ih =>
    intro a0 x1 x2 hf
    exact J_X6_likePairs_4_b K n h (F_X6_likePairs_4 n k) ih E a0 x1 x2 hf
set_option maxHeartbeats 400000 in
set_option maxRecDepth 100000 in
theorem J_X6_likePairs {G : jG} {l : Launch} {d : Nat} {X : jX} {res : Int32} (K : jOK G l mX6_likePairs (d) X) (n : Nat) (h : jH) (E : jEnd G mX6_likePairs (jPR h res) X) (a0 : Nat) (hf : F_X6_likePairs n a0 h = some res) : jJ G X h 0 0 0 [some (.ref a0), none, none, none] [] := by
  unfold F_X6_likePairs at hf
  refine jr_iconst K (D_at DX6_likePairs_q0 0 rfl) (v := (0 : Int32)) (by decide) ?_
  refine jr_istore_n K (D_at DX6_likePairs_q0 1 rfl) (i := 1) rfl (by decide) (L2 := [_, _, _, _]) rfl ?_
  refine jr_iconst K (D_at DX6_likePairs_q0 2 rfl) (v := (0 : Int32)) (by decide) ?_
  refine jr_istore_n K (D_at DX6_likePairs_q0 3 rfl) (i := 2) rfl (by decide) (L2 := [_, _, _, _]) rfl ?_
  refine jr_keep [true, true, true, false] ?_
  exact J_X6_likePairs_4 K n h E n a0 (0 : Int32) (0 : Int32) hf
theorem C_X6_likePairs {G : jG} {l : Launch} (d : Nat) {n : Nat} {a0 : Nat} {h : jH} {res : Int32} (hf : F_X6_likePairs n a0 h = some res) : jC G l mX6_likePairs (d) 0 0 [.ref a0] h (jPR h res) :=
  jC.of pn_X6 (jcats rfl) (Nat.le_of_ble_eq_true rfl) (fun X K E => J_X6_likePairs K n h E a0 hf)
set_option maxHeartbeats 400000 in
set_option maxRecDepth 100000 in
theorem J_X7_init {G : jG} {l : Launch} {d : Nat} {X : jX} {res : jH} (K : jOK G l mX7_init (d + 1) X) (n : Nat) (E : jEnd G mX7_init (jPV res) X) (a0 : Nat) (a1 : Nat) (a2 : Nat) (h : jH) (hf : F_X7_init n a0 a1 a2 h = some res) : jJ G X h 2 160 0 [some (.ref a0), some (.ref a1), some (.ref a2)] [] := by
  unfold F_X7_init at hf
  refine jr_aload_n K (D_at DX7_init_q0 0 rfl) rfl rfl ?_
  refine jr_objInit K (D_at DX7_init_q0 1 rfl) oi_X7_3 (by exact Nat.le_of_ble_eq_true rfl) ?_
  refine jr_aload_n K (D_at DX7_init_q0 2 rfl) rfl rfl ?_
  refine jr_sipush K (D_at DX7_init_q0 3 rfl) (v := (128 : Int32)) (by decide) ?_
  obtain ⟨h8, e8, hf⟩ := jbind hf
  refine jr_newIE (N := 128) K (D_at DX7_init_q0 4 rfl) ac_int (by decide) (by decide) (by decide) (kc := 1) (ks := 32) e8 ?_
  obtain ⟨h10, e10, hf⟩ := jbind hf
  refine jr_putA K (D_at DX7_init_q0 5 rfl) fp_X7_11_5 (Or.inr rfl) e10 ?_
  refine jr_aload_n K (D_at DX7_init_q0 6 rfl) rfl rfl ?_
  refine jr_bipush K (D_at DX7_init_q0 7 rfl) (v := (32 : Int32)) (by decide) ?_
  obtain ⟨h16, e16, hf⟩ := jbind hf
  refine jr_newIE (N := 32) K (D_at DX7_init_q0 8 rfl) ac_int (by decide) (by decide) (by decide) (kc := 0) (ks := 0) e16 ?_
  obtain ⟨h18, e18, hf⟩ := jbind hf
  refine jr_putA K (D_at DX7_init_q0 9 rfl) fp_X7_15_5 (Or.inr rfl) e18 ?_
  refine jr_aload_n K (D_at DX7_init_q0 10 rfl) rfl rfl ?_
  refine jr_aload_n K (D_at DX7_init_q0 11 rfl) rfl rfl ?_
  obtain ⟨h23, e23, hf⟩ := jbind hf
  refine jr_putR K (D_at DX7_init_q1 0 rfl) fp_X7_18_5 (Or.inr rfl) e23 ?_
  refine jr_aload_n K (D_at DX7_init_q1 1 rfl) rfl rfl ?_
  refine jr_aload_n K (D_at DX7_init_q1 2 rfl) rfl rfl ?_
  obtain ⟨h28, e28, hf⟩ := jbind hf
  refine jr_putR K (D_at DX7_init_q1 3 rfl) fp_X7_22_5 (Or.inr rfl) e28 ?_
  cases hf
  exact jr_vret K E (D_at DX7_init_q1 4 rfl) rfl ⟨rfl, rfl⟩
theorem C_X7_init {G : jG} {l : Launch} (d : Nat) {n : Nat} {a0 : Nat} {a1 : Nat} {a2 : Nat} {h : jH} {res : jH} (hf : F_X7_init n a0 a1 a2 h = some res) : jC G l mX7_init (d + 1) 2 160 [.ref a0, .ref a1, .ref a2] h (jPV res) :=
  jC.of pn_X7 (jcats rfl) (Nat.le_of_ble_eq_true rfl) (fun X K E => J_X7_init K n E a0 a1 a2 h hf)
set_option maxHeartbeats 400000 in
set_option maxRecDepth 100000 in
theorem J_X8_shadow_4_b {G : jG} {l : Launch} {d : Nat} {X : jX} {res : Int32} (K : jOK G l mX8_shadow (d + 1) X) (n : Nat) (h : jH) (rc4 : Nat → Int32 → Int32 → jH → Option Int32) (hr4 : ∀ (a0 : Nat) (x1 : Int32) (x2 : Int32), rc4 a0 x1 x2 h = some res → jJ G X h 0 0 4 [some (.ref a0), some (.int x1), some (.int x2)] []) (E : jEnd G mX8_shadow (jPR h res) X) (a0 : Nat) (x1 : Int32) (x2 : Int32) (hf : F_X8_shadow_4_b n rc4 a0 x1 x2 h = some res) : jJ G X h 0 0 4 [some (.ref a0), some (.int x1), some (.int x2)] [] := by
  unfold F_X8_shadow_4_b at hf
  refine jr_iload_n K (D_at DX8_shadow_q0 4 rfl) rfl rfl ?_
  refine jr_iconst K (D_at DX8_shadow_q0 5 rfl) (v := (1 : Int32)) (by decide) ?_
  refine jr_iadd K (D_at DX8_shadow_q0 6 rfl) ?_
  refine jr_aload_n K (D_at DX8_shadow_q0 7 rfl) rfl rfl ?_
  obtain ⟨v8, e8, hf⟩ := jbind hf
  refine jr_getI K (D_at DX8_shadow_q0 8 rfl) fg_X8_51_6 e8 ?_
  refine jr_icmp_ge K (D_at DX8_shadow_q0 9 rfl) (tgt := 71) (by decide) (fun c11 => ?_) (fun c11 => ?_)
  · replace hf := (if_pos c11).symm.trans hf
    refine jr_iload_n K (D_at DX8_shadow_q3 10 rfl) rfl rfl ?_
    cases hf
    exact jr_iret K E (D_at DX8_shadow_q3 11 rfl) rfl ⟨rfl, rfl⟩
  · replace hf := (if_neg c11).symm.trans hf
    refine jr_aload_n K (D_at DX8_shadow_q0 10 rfl) rfl rfl ?_
    obtain ⟨v15, e15, hf⟩ := jbind hf
    refine jr_getI K (D_at DX8_shadow_q0 11 rfl) fg_X8_60_6 e15 ?_
    refine jr_iload_n K (D_at DX8_shadow_q1 0 rfl) rfl rfl ?_
    obtain ⟨v19, e19, hf⟩ := jbind hf
    refine jr_callSN K (C_X11_bit (d) e19) (D_at DX8_shadow_q1 1 rfl) csn_X8_95_X11_bit (As := [.int v15, .int x2]) rfl rfl (by exact Nat.le_of_ble_eq_true rfl) (kc2 := 0) (ks2 := 0) rfl rfl (fun k9 h9 w9 => by cases w9.1) (fun r9 h9 w9 => ?_)
    obtain ⟨w1, w2⟩ := w9
    subst h9
    cases w1
    show jJ G X _ 0 0 _ _ (.int v19 :: _)
    refine jr_iconst K (D_at DX8_shadow_q1 2 rfl) (v := (1 : Int32)) (by decide) ?_
    refine jr_icmp_ne K (D_at DX8_shadow_q1 3 rfl) (tgt := 65) (by decide) (fun c23 => ?_) (fun c23 => ?_)
    · replace hf := (if_neg c23).symm.trans hf
      refine jr_iinc K (D_at DX8_shadow_q3 8 rfl) (i := 2) rfl (v := x2 + (1 : Int32)) (jinc (by decide)) (by decide) (L2 := [_, _, _]) rfl ?_
      refine jr_goto K (D_at DX8_shadow_q3 9 rfl) (tgt := 4) (by decide) ?_
      refine jr_keep [true, true, true] ?_
      exact hr4 a0 x1 (x2 + (1 : Int32)) hf
    · replace hf := (if_pos c23).symm.trans hf
      refine jr_aload_n K (D_at DX8_shadow_q1 4 rfl) rfl rfl ?_
      obtain ⟨v27, e27, hf⟩ := jbind hf
      refine jr_getI K (D_at DX8_shadow_q1 5 rfl) fg_X8_60_6 e27 ?_
      refine jr_iload_n K (D_at DX8_shadow_q1 6 rfl) rfl rfl ?_
      refine jr_iconst K (D_at DX8_shadow_q1 7 rfl) (v := (1 : Int32)) (by decide) ?_
      refine jr_iadd K (D_at DX8_shadow_q1 8 rfl) ?_
      obtain ⟨v33, e33, hf⟩ := jbind hf
      refine jr_callSN K (C_X11_bit (d) e33) (D_at DX8_shadow_q1 9 rfl) csn_X8_95_X11_bit (As := [.int v27, .int (x2 + (1 : Int32))]) rfl rfl (by exact Nat.le_of_ble_eq_true rfl) (kc2 := 0) (ks2 := 0) rfl rfl (fun k9 h9 w9 => by cases w9.1) (fun r9 h9 w9 => ?_)
      obtain ⟨w1, w2⟩ := w9
      subst h9
      cases w1
      show jJ G X _ 0 0 _ _ (.int v33 :: _)
      refine jr_iconst K (D_at DX8_shadow_q1 10 rfl) (v := (1 : Int32)) (by decide) ?_
      refine jr_icmp_ne K (D_at DX8_shadow_q1 11 rfl) (tgt := 65) (by decide) (fun c37 => ?_) (fun c37 => ?_)
      · replace hf := (if_neg c37).symm.trans hf
        refine jr_iinc K (D_at DX8_shadow_q3 8 rfl) (i := 2) rfl (v := x2 + (1 : Int32)) (jinc (by decide)) (by decide) (L2 := [_, _, _]) rfl ?_
        refine jr_goto K (D_at DX8_shadow_q3 9 rfl) (tgt := 4) (by decide) ?_
        refine jr_keep [true, true, true] ?_
        exact hr4 a0 x1 (x2 + (1 : Int32)) hf
      · replace hf := (if_pos c37).symm.trans hf
        refine jr_iload_n K (D_at DX8_shadow_q2 0 rfl) rfl rfl ?_
        refine jr_iconst K (D_at DX8_shadow_q2 1 rfl) (v := (-1 : Int32)) (by decide) ?_
        refine jr_aload_n K (D_at DX8_shadow_q2 2 rfl) rfl rfl ?_
        obtain ⟨p43, e43, hf⟩ := jbind hf
        refine jr_getR K (D_at DX8_shadow_q2 3 rfl) fg_X8_9_6 e43 ?_
        refine jr_iload_n K (D_at DX8_shadow_q2 4 rfl) rfl rfl ?_
        obtain ⟨v47, e47, hf⟩ := jbind hf
        refine jr_iald K (D_at DX8_shadow_q2 5 rfl) e47 ?_
        refine jr_ishl K (D_at DX8_shadow_q2 6 rfl) ?_
        refine jr_iconst K (D_at DX8_shadow_q2 7 rfl) (v := (-1 : Int32)) (by decide) ?_
        refine jr_bipush K (D_at DX8_shadow_q2 8 rfl) (v := (31 : Int32)) (by decide) ?_
        refine jr_aload_n K (D_at DX8_shadow_q2 9 rfl) rfl rfl ?_
        obtain ⟨p53, e53, hf⟩ := jbind hf
        refine jr_getR K (D_at DX8_shadow_q2 10 rfl) fg_X8_9_6 e53 ?_
        refine jr_iload_n K (D_at DX8_shadow_q2 11 rfl) rfl rfl ?_
        refine jr_iconst K (D_at DX8_shadow_q3 0 rfl) (v := (1 : Int32)) (by decide) ?_
        refine jr_iadd K (D_at DX8_shadow_q3 1 rfl) ?_
        obtain ⟨v59, e59, hf⟩ := jbind hf
        refine jr_iald K (D_at DX8_shadow_q3 2 rfl) e59 ?_
        refine jr_isub K (D_at DX8_shadow_q3 3 rfl) ?_
        refine jr_iushr K (D_at DX8_shadow_q3 4 rfl) (v := jushr (-1 : Int32) ((31 : Int32) - v59)) rfl ?_
        refine jr_iand K (D_at DX8_shadow_q3 5 rfl) ?_
        refine jr_ior K (D_at DX8_shadow_q3 6 rfl) ?_
        refine jr_istore_n K (D_at DX8_shadow_q3 7 rfl) (i := 1) rfl (by decide) (L2 := [_, _, _]) rfl ?_
        refine jr_iinc K (D_at DX8_shadow_q3 8 rfl) (i := 2) rfl (v := x2 + (1 : Int32)) (jinc (by decide)) (by decide) (L2 := [_, _, _]) rfl ?_
        refine jr_goto K (D_at DX8_shadow_q3 9 rfl) (tgt := 4) (by decide) ?_
        refine jr_keep [true, true, true] ?_
        exact hr4 a0 (x1 ||| (((-1 : Int32) <<< (v47 &&& 31)) &&& (jushr (-1 : Int32) ((31 : Int32) - v59)))) (x2 + (1 : Int32)) hf
theorem J_X8_shadow_4 {G : jG} {l : Launch} {d : Nat} {X : jX} {res : Int32} (K : jOK G l mX8_shadow (d + 1) X) (n : Nat) (h : jH) (E : jEnd G mX8_shadow (jPR h res) X) (k : Nat) : ∀ (a0 : Nat) (x1 : Int32) (x2 : Int32), F_X8_shadow_4 n k a0 x1 x2 h = some res → jJ G X h 0 0 4 [some (.ref a0), some (.int x1), some (.int x2)] [] := by
  induction k with
  | zero =>
    intro a0 x1 x2 hf
    exact jno (show (none : Option Int32) = some res from hf)
  | succ k ih =>
    intro a0 x1 x2 hf
    exact J_X8_shadow_4_b K n h (F_X8_shadow_4 n k) ih E a0 x1 x2 hf
set_option maxHeartbeats 400000 in
set_option maxRecDepth 100000 in
theorem J_X8_shadow {G : jG} {l : Launch} {d : Nat} {X : jX} {res : Int32} (K : jOK G l mX8_shadow (d + 1) X) (n : Nat) (h : jH) (E : jEnd G mX8_shadow (jPR h res) X) (a0 : Nat) (hf : F_X8_shadow n a0 h = some res) : jJ G X h 0 0 0 [some (.ref a0), none, none] [] := by
  unfold F_X8_shadow at hf
  refine jr_iconst K (D_at DX8_shadow_q0 0 rfl) (v := (0 : Int32)) (by decide) ?_
  refine jr_istore_n K (D_at DX8_shadow_q0 1 rfl) (i := 1) rfl (by decide) (L2 := [_, _, _]) rfl ?_
  refine jr_iconst K (D_at DX8_shadow_q0 2 rfl) (v := (0 : Int32)) (by decide) ?_
  refine jr_istore_n K (D_at DX8_shadow_q0 3 rfl) (i := 2) rfl (by decide) (L2 := [_, _, _]) rfl ?_
  refine jr_keep [true, true, true] ?_
  exact J_X8_shadow_4 K n h E n a0 (0 : Int32) (0 : Int32) hf
theorem C_X8_shadow {G : jG} {l : Launch} (d : Nat) {n : Nat} {a0 : Nat} {h : jH} {res : Int32} (hf : F_X8_shadow n a0 h = some res) : jC G l mX8_shadow (d + 1) 0 0 [.ref a0] h (jPR h res) :=
  jC.of pn_X8 (jcats rfl) (Nat.le_of_ble_eq_true rfl) (fun X K E => J_X8_shadow K n h E a0 hf)
set_option maxHeartbeats 400000 in
set_option maxRecDepth 100000 in
theorem J_X8_shadedChairs {G : jG} {l : Launch} {d : Nat} {X : jX} {res : Int32} (K : jOK G l mX8_shadedChairs (d + 2) X) (n : Nat) (h : jH) (E : jEnd G mX8_shadedChairs (jPR h res) X) (a0 : Nat) (hf : F_X8_shadedChairs n a0 h = some res) : jJ G X h 0 0 0 [some (.ref a0)] [] := by
  unfold F_X8_shadedChairs at hf
  refine jr_aload_n K (D_at DX8_shadedChairs_q0 0 rfl) rfl rfl ?_
  obtain ⟨v1, e1, hf⟩ := jbind hf
  refine jr_getI K (D_at DX8_shadedChairs_q0 1 rfl) fg_X8_63_6 e1 ?_
  refine jr_aload_n K (D_at DX8_shadedChairs_q0 2 rfl) rfl rfl ?_
  obtain ⟨v5, e5, hf⟩ := jbind hf
  obtain ⟨rc_5, e5⟩ := jcv_o e5
  refine jr_callV K (C_X8_shadow (d) e5) (D_at DX8_shadedChairs_q0 3 rfl) cv_X8_98_X8_shadow (As := []) (ci := 6) rfl rc_5 rfl rfl (by exact Nat.le_of_ble_eq_true rfl) (kc2 := 0) (ks2 := 0) rfl rfl (fun k9 h9 w9 => by cases w9.1) (fun r9 h9 w9 => ?_)
  obtain ⟨w1, w2⟩ := w9
  subst h9
  cases w1
  show jJ G X _ 0 0 _ _ (.int v5 :: _)
  refine jr_iand K (D_at DX8_shadedChairs_q0 4 rfl) ?_
  obtain ⟨v9, e9, hf⟩ := jbind hf
  refine jr_callS K (C_J6_bitCount_0f7a4 (d + 1) e9) (D_at DX8_shadedChairs_q0 5 rfl) cs_X8_102_J6_bitCount_0f7a4 (As := [.int (v1 &&& v5)]) rfl rfl (by exact Nat.le_of_ble_eq_true rfl) (kc2 := 0) (ks2 := 0) rfl rfl (fun k9 h9 w9 => by cases w9.1) (fun r9 h9 w9 => ?_)
  obtain ⟨w1, w2⟩ := w9
  subst h9
  cases w1
  show jJ G X _ 0 0 _ _ (.int v9 :: _)
  cases hf
  exact jr_iret K E (D_at DX8_shadedChairs_q0 6 rfl) rfl ⟨rfl, rfl⟩
theorem C_X8_shadedChairs {G : jG} {l : Launch} (d : Nat) {n : Nat} {a0 : Nat} {h : jH} {res : Int32} (hf : F_X8_shadedChairs n a0 h = some res) : jC G l mX8_shadedChairs (d + 2) 0 0 [.ref a0] h (jPR h res) :=
  jC.of pn_X8 (jcats rfl) (Nat.le_of_ble_eq_true rfl) (fun X K E => J_X8_shadedChairs K n h E a0 hf)
set_option maxHeartbeats 400000 in
set_option maxRecDepth 100000 in
theorem J_X8_goTogether {G : jG} {l : Launch} {d : Nat} {X : jX} {res : Int32} (K : jOK G l mX8_goTogether (d) X) (n : Nat) (h : jH) (E : jEnd G mX8_goTogether (jPR h res) X) (a0 : Nat) (x1 : Int32) (x2 : Int32) (hf : F_X8_goTogether n a0 x1 x2 h = some res) : jJ G X h 0 0 0 [some (.ref a0), some (.int x1), some (.int x2), none] [] := by
  unfold F_X8_goTogether at hf
  refine jr_aload_n K (D_at DX8_goTogether_q0 0 rfl) rfl rfl ?_
  obtain ⟨p1, e1, hf⟩ := jbind hf
  refine jr_getR K (D_at DX8_goTogether_q0 1 rfl) fg_X8_9_6 e1 ?_
  refine jr_iload_n K (D_at DX8_goTogether_q0 2 rfl) rfl rfl ?_
  refine jr_iconst K (D_at DX8_goTogether_q0 3 rfl) (v := (1 : Int32)) (by decide) ?_
  refine jr_iadd K (D_at DX8_goTogether_q0 4 rfl) ?_
  obtain ⟨v7, e7, hf⟩ := jbind hf
  refine jr_iald K (D_at DX8_goTogether_q0 5 rfl) e7 ?_
  refine jr_aload_n K (D_at DX8_goTogether_q0 6 rfl) rfl rfl ?_
  obtain ⟨p9, e9, hf⟩ := jbind hf
  refine jr_getR K (D_at DX8_goTogether_q0 7 rfl) fg_X8_9_6 e9 ?_
  refine jr_iload_n K (D_at DX8_goTogether_q0 8 rfl) rfl rfl ?_
  obtain ⟨v13, e13, hf⟩ := jbind hf
  refine jr_iald K (D_at DX8_goTogether_q0 9 rfl) e13 ?_
  refine jr_isub K (D_at DX8_goTogether_q0 10 rfl) ?_
  refine jr_istore_n K (D_at DX8_goTogether_q0 11 rfl) (i := 3) rfl (by decide) (L2 := [_, _, _, _]) rfl ?_
  refine jr_aload_n K (D_at DX8_goTogether_q1 0 rfl) rfl rfl ?_
  obtain ⟨v17, e17, hf⟩ := jbind hf
  refine jr_getI K (D_at DX8_goTogether_q1 1 rfl) fg_X8_82_6 e17 ?_
  refine jr_iload_n K (D_at DX8_goTogether_q1 2 rfl) rfl rfl ?_
  refine jr_iushr K (D_at DX8_goTogether_q1 3 rfl) (v := jushr v17 x1) rfl ?_
  refine jr_iconst K (D_at DX8_goTogether_q1 4 rfl) (v := (1 : Int32)) (by decide) ?_
  refine jr_iand K (D_at DX8_goTogether_q1 5 rfl) ?_
  refine jr_iconst K (D_at DX8_goTogether_q1 6 rfl) (v := (1 : Int32)) (by decide) ?_
  refine jr_icmp_eq K (D_at DX8_goTogether_q1 7 rfl) (tgt := 52) (by decide) (fun c25 => ?_) (fun c25 => ?_)
  · replace hf := (if_pos c25).symm.trans hf
    refine jr_iconst K (D_at DX8_goTogether_q2 10 rfl) (v := (1 : Int32)) (by decide) ?_
    refine jr_goto K (D_at DX8_goTogether_q2 11 rfl) (tgt := 57) (by decide) ?_
    cases hf
    exact jr_zret K E (D_at DX8_goTogether_q3 1 rfl) rfl (Or.inr rfl) ⟨rfl, rfl⟩
  · replace hf := (if_neg c25).symm.trans hf
    refine jr_iload_n K (D_at DX8_goTogether_q1 8 rfl) rfl rfl ?_
    refine jr_if_eq K (D_at DX8_goTogether_q1 9 rfl) (tgt := 40) (by decide) (fun c29 => ?_) (fun c29 => ?_)
    · replace hf := (if_pos c29).symm.trans hf
      refine jr_iload_n K (D_at DX8_goTogether_q2 2 rfl) rfl rfl ?_
      refine jr_iconst K (D_at DX8_goTogether_q2 3 rfl) (v := (1 : Int32)) (by decide) ?_
      refine jr_iadd K (D_at DX8_goTogether_q2 4 rfl) ?_
      refine jr_aload_n K (D_at DX8_goTogether_q2 5 rfl) rfl rfl ?_
      obtain ⟨p44, e44, hf⟩ := jbind hf
      refine jr_getR K (D_at DX8_goTogether_q2 6 rfl) fg_X8_15_6 e44 ?_
      refine jr_iload_n K (D_at DX8_goTogether_q2 7 rfl) rfl rfl ?_
      obtain ⟨v48, e48, hf⟩ := jbind hf
      refine jr_iald K (D_at DX8_goTogether_q2 8 rfl) e48 ?_
      refine jr_icmp_le K (D_at DX8_goTogether_q2 9 rfl) (tgt := 56) (by decide) (fun c49 => ?_) (fun c49 => ?_)
      · replace hf := (if_pos c49).symm.trans hf
        refine jr_iconst K (D_at DX8_goTogether_q3 0 rfl) (v := (0 : Int32)) (by decide) ?_
        cases hf
        exact jr_zret K E (D_at DX8_goTogether_q3 1 rfl) rfl (Or.inl rfl) ⟨rfl, rfl⟩
      · replace hf := (if_neg c49).symm.trans hf
        refine jr_iconst K (D_at DX8_goTogether_q2 10 rfl) (v := (1 : Int32)) (by decide) ?_
        refine jr_goto K (D_at DX8_goTogether_q2 11 rfl) (tgt := 57) (by decide) ?_
        cases hf
        exact jr_zret K E (D_at DX8_goTogether_q3 1 rfl) rfl (Or.inr rfl) ⟨rfl, rfl⟩
    · replace hf := (if_neg c29).symm.trans hf
      refine jr_iload_n K (D_at DX8_goTogether_q1 10 rfl) rfl rfl ?_
      refine jr_iconst K (D_at DX8_goTogether_q1 11 rfl) (v := (1 : Int32)) (by decide) ?_
      refine jr_icmp_ne K (D_at DX8_goTogether_q2 0 rfl) (tgt := 56) (by decide) (fun c34 => ?_) (fun c34 => ?_)
      · replace hf := (if_neg c34).symm.trans hf
        refine jr_iconst K (D_at DX8_goTogether_q3 0 rfl) (v := (0 : Int32)) (by decide) ?_
        cases hf
        exact jr_zret K E (D_at DX8_goTogether_q3 1 rfl) rfl (Or.inl rfl) ⟨rfl, rfl⟩
      · replace hf := (if_pos c34).symm.trans hf
        refine jr_goto K (D_at DX8_goTogether_q2 1 rfl) (tgt := 52) (by decide) ?_
        refine jr_iconst K (D_at DX8_goTogether_q2 10 rfl) (v := (1 : Int32)) (by decide) ?_
        refine jr_goto K (D_at DX8_goTogether_q2 11 rfl) (tgt := 57) (by decide) ?_
        cases hf
        exact jr_zret K E (D_at DX8_goTogether_q3 1 rfl) rfl (Or.inr rfl) ⟨rfl, rfl⟩
theorem C_X8_goTogether {G : jG} {l : Launch} (d : Nat) {n : Nat} {a0 : Nat} {x1 : Int32} {x2 : Int32} {h : jH} {res : Int32} (hf : F_X8_goTogether n a0 x1 x2 h = some res) : jC G l mX8_goTogether (d) 0 0 [.ref a0, .int x1, .int x2] h (jPR h res) :=
  jC.of pn_X8 (jcats rfl) (Nat.le_of_ble_eq_true rfl) (fun X K E => J_X8_goTogether K n h E a0 x1 x2 hf)
set_option maxHeartbeats 400000 in
set_option maxRecDepth 100000 in
theorem J_X8_isStopped_16 {G : jG} {l : Launch} {d : Nat} {X : jX} {res : Int32} (K : jOK G l mX8_isStopped (d) X) (n : Nat) (h : jH) (E : jEnd G mX8_isStopped (jPR h res) X) (a0 : Nat) (x1 : Int32) (x2 : Int32) (s0 : Int32) (s1 : Int32) (hf : F_X8_isStopped_16 n a0 x1 x2 s0 s1 h = some res) : jJ G X h 0 0 16 [some (.ref a0), some (.int x1), some (.int x2)] [.int s1, .int s0] := by
  unfold F_X8_isStopped_16 at hf
  refine jr_icmp_ne K (D_at DX8_isStopped_q0 9 rfl) (tgt := 21) (by decide) (fun c16 => ?_) (fun c16 => ?_)
  · replace hf := (if_neg c16).symm.trans hf
    refine jr_aload_n K (D_at DX8_isStopped_q1 0 rfl) rfl rfl ?_
    obtain ⟨v22, e22, hf⟩ := jbind hf
    refine jr_getI K (D_at DX8_isStopped_q1 1 rfl) fg_X8_54_6 e22 ?_
    refine jr_iload_n K (D_at DX8_isStopped_q1 2 rfl) rfl rfl ?_
    refine jr_iushr K (D_at DX8_isStopped_q1 3 rfl) (v := jushr v22 x1) rfl ?_
    refine jr_iconst K (D_at DX8_isStopped_q1 4 rfl) (v := (1 : Int32)) (by decide) ?_
    refine jr_iand K (D_at DX8_isStopped_q1 5 rfl) ?_
    refine jr_iconst K (D_at DX8_isStopped_q1 6 rfl) (v := (1 : Int32)) (by decide) ?_
    refine jr_icmp_ne K (D_at DX8_isStopped_q1 7 rfl) (tgt := 63) (by decide) (fun c30 => ?_) (fun c30 => ?_)
    · replace hf := (if_neg c30).symm.trans hf
      refine jr_iconst K (D_at DX8_isStopped_q3 0 rfl) (v := (0 : Int32)) (by decide) ?_
      cases hf
      exact jr_zret K E (D_at DX8_isStopped_q3 1 rfl) rfl (Or.inl rfl) ⟨rfl, rfl⟩
    · replace hf := (if_pos c30).symm.trans hf
      refine jr_aload_n K (D_at DX8_isStopped_q1 8 rfl) rfl rfl ?_
      obtain ⟨p34, e34, hf⟩ := jbind hf
      refine jr_getR K (D_at DX8_isStopped_q1 9 rfl) fg_X8_9_6 e34 ?_
      refine jr_iload_n K (D_at DX8_isStopped_q1 10 rfl) rfl rfl ?_
      obtain ⟨v38, e38, hf⟩ := jbind hf
      refine jr_iald K (D_at DX8_isStopped_q1 11 rfl) e38 ?_
      refine jr_iload_n K (D_at DX8_isStopped_q2 0 rfl) rfl rfl ?_
      refine jr_if_eq K (D_at DX8_isStopped_q2 1 rfl) (tgt := 52) (by decide) (fun c40 => ?_) (fun c40 => ?_)
      · replace hf := (if_pos c40).symm.trans hf
        refine jr_aload_n K (D_at DX8_isStopped_q2 7 rfl) rfl rfl ?_
        obtain ⟨v53, e53, hf⟩ := jbind hf
        refine jr_getI K (D_at DX8_isStopped_q2 8 rfl) fg_X8_31_6 e53 ?_
        refine jr_icmp_ne K (D_at DX8_isStopped_q2 9 rfl) (tgt := 63) (by decide) (fun c56 => ?_) (fun c56 => ?_)
        · replace hf := (if_neg c56).symm.trans hf
          refine jr_iconst K (D_at DX8_isStopped_q3 0 rfl) (v := (0 : Int32)) (by decide) ?_
          cases hf
          exact jr_zret K E (D_at DX8_isStopped_q3 1 rfl) rfl (Or.inl rfl) ⟨rfl, rfl⟩
        · replace hf := (if_pos c56).symm.trans hf
          refine jr_iconst K (D_at DX8_isStopped_q2 10 rfl) (v := (1 : Int32)) (by decide) ?_
          refine jr_goto K (D_at DX8_isStopped_q2 11 rfl) (tgt := 64) (by decide) ?_
          cases hf
          exact jr_zret K E (D_at DX8_isStopped_q3 1 rfl) rfl (Or.inr rfl) ⟨rfl, rfl⟩
      · replace hf := (if_neg c40).symm.trans hf
        refine jr_aload_n K (D_at DX8_isStopped_q2 2 rfl) rfl rfl ?_
        obtain ⟨v44, e44, hf⟩ := jbind hf
        refine jr_getI K (D_at DX8_isStopped_q2 3 rfl) fg_X8_31_6 e44 ?_
        refine jr_iconst K (D_at DX8_isStopped_q2 4 rfl) (v := (1 : Int32)) (by decide) ?_
        refine jr_isub K (D_at DX8_isStopped_q2 5 rfl) ?_
        refine jr_goto K (D_at DX8_isStopped_q2 6 rfl) (tgt := 56) (by decide) ?_
        refine jr_icmp_ne K (D_at DX8_isStopped_q2 9 rfl) (tgt := 63) (by decide) (fun c56 => ?_) (fun c56 => ?_)
        · replace hf := (if_neg c56).symm.trans hf
          refine jr_iconst K (D_at DX8_isStopped_q3 0 rfl) (v := (0 : Int32)) (by decide) ?_
          cases hf
          exact jr_zret K E (D_at DX8_isStopped_q3 1 rfl) rfl (Or.inl rfl) ⟨rfl, rfl⟩
        · replace hf := (if_pos c56).symm.trans hf
          refine jr_iconst K (D_at DX8_isStopped_q2 10 rfl) (v := (1 : Int32)) (by decide) ?_
          refine jr_goto K (D_at DX8_isStopped_q2 11 rfl) (tgt := 64) (by decide) ?_
          cases hf
          exact jr_zret K E (D_at DX8_isStopped_q3 1 rfl) rfl (Or.inr rfl) ⟨rfl, rfl⟩
  · replace hf := (if_pos c16).symm.trans hf
    refine jr_iconst K (D_at DX8_isStopped_q0 10 rfl) (v := (1 : Int32)) (by decide) ?_
    cases hf
    exact jr_zret K E (D_at DX8_isStopped_q0 11 rfl) rfl (Or.inr rfl) ⟨rfl, rfl⟩
set_option maxHeartbeats 400000 in
set_option maxRecDepth 100000 in
theorem J_X8_isStopped {G : jG} {l : Launch} {d : Nat} {X : jX} {res : Int32} (K : jOK G l mX8_isStopped (d) X) (n : Nat) (h : jH) (E : jEnd G mX8_isStopped (jPR h res) X) (a0 : Nat) (x1 : Int32) (x2 : Int32) (hf : F_X8_isStopped n a0 x1 x2 h = some res) : jJ G X h 0 0 0 [some (.ref a0), some (.int x1), some (.int x2)] [] := by
  unfold F_X8_isStopped at hf
  refine jr_aload_n K (D_at DX8_isStopped_q0 0 rfl) rfl rfl ?_
  obtain ⟨p1, e1, hf⟩ := jbind hf
  refine jr_getR K (D_at DX8_isStopped_q0 1 rfl) fg_X8_9_6 e1 ?_
  refine jr_iload_n K (D_at DX8_isStopped_q0 2 rfl) rfl rfl ?_
  obtain ⟨v5, e5, hf⟩ := jbind hf
  refine jr_iald K (D_at DX8_isStopped_q0 3 rfl) e5 ?_
  refine jr_iload_n K (D_at DX8_isStopped_q0 4 rfl) rfl rfl ?_
  refine jr_if_eq K (D_at DX8_isStopped_q0 5 rfl) (tgt := 15) (by decide) (fun c7 => ?_) (fun c7 => ?_)
  · replace hf := (if_pos c7).symm.trans hf
    refine jr_iconst K (D_at DX8_isStopped_q0 8 rfl) (v := (0 : Int32)) (by decide) ?_
    refine jr_keep [true, true, true] ?_
    exact J_X8_isStopped_16 K n h E a0 x1 x2 v5 (0 : Int32) hf
  · replace hf := (if_neg c7).symm.trans hf
    refine jr_bipush K (D_at DX8_isStopped_q0 6 rfl) (v := (31 : Int32)) (by decide) ?_
    refine jr_goto K (D_at DX8_isStopped_q0 7 rfl) (tgt := 16) (by decide) ?_
    refine jr_keep [true, true, true] ?_
    exact J_X8_isStopped_16 K n h E a0 x1 x2 v5 (31 : Int32) hf
theorem C_X8_isStopped {G : jG} {l : Launch} (d : Nat) {n : Nat} {a0 : Nat} {x1 : Int32} {x2 : Int32} {h : jH} {res : Int32} (hf : F_X8_isStopped n a0 x1 x2 h = some res) : jC G l mX8_isStopped (d) 0 0 [.ref a0, .int x1, .int x2] h (jPR h res) :=
  jC.of pn_X8 (jcats rfl) (Nat.le_of_ble_eq_true rfl) (fun X K E => J_X8_isStopped K n h E a0 x1 x2 hf)
set_option maxHeartbeats 400000 in
set_option maxRecDepth 100000 in
theorem J_X8_goers_64_b {G : jG} {l : Launch} {d : Nat} {X : jX} {res : Int32} (K : jOK G l mX8_goers (d + 1) X) (n : Nat) (h : jH) (rc64 : Nat → Int32 → Int32 → Int32 → Int32 → jH → Option Int32) (hr64 : ∀ (a0 : Nat) (x2 : Int32) (x3 : Int32) (x4 : Int32) (x5 : Int32), rc64 a0 x2 x3 x4 x5 h = some res → jJ G X h 0 0 64 [some (.ref a0), none, some (.int x2), some (.int x3), some (.int x4), some (.int x5)] []) (E : jEnd G mX8_goers (jPR h res) X) (a0 : Nat) (x2 : Int32) (x3 : Int32) (x4 : Int32) (x5 : Int32) (hf : F_X8_goers_64_b n rc64 a0 x2 x3 x4 x5 h = some res) : jJ G X h 0 0 64 [some (.ref a0), none, some (.int x2), some (.int x3), some (.int x4), some (.int x5)] [] := by
  unfold F_X8_goers_64_b at hf
  refine jr_iload K (D_at DX8_goers_q2 10 rfl) rfl ?_
  refine jr_iload K (D_at DX8_goers_q2 11 rfl) rfl ?_
  refine jr_icmp_gt K (D_at DX8_goers_q3 0 rfl) (tgt := 89) (by decide) (fun c68 => ?_) (fun c68 => ?_)
  · replace hf := (if_pos c68).symm.trans hf
    refine jr_iconst K (D_at DX8_goers_q3 10 rfl) (v := (1 : Int32)) (by decide) ?_
    refine jr_iload K (D_at DX8_goers_q3 11 rfl) rfl ?_
    refine jr_iconst K (D_at DX8_goers_q4 0 rfl) (v := (1 : Int32)) (by decide) ?_
    refine jr_iadd K (D_at DX8_goers_q4 1 rfl) ?_
    refine jr_ishl K (D_at DX8_goers_q4 2 rfl) ?_
    refine jr_iconst K (D_at DX8_goers_q4 3 rfl) (v := (1 : Int32)) (by decide) ?_
    refine jr_iload_n K (D_at DX8_goers_q4 4 rfl) rfl rfl ?_
    refine jr_ishl K (D_at DX8_goers_q4 5 rfl) ?_
    refine jr_isub K (D_at DX8_goers_q4 6 rfl) ?_
    cases hf
    exact jr_iret K E (D_at DX8_goers_q4 7 rfl) rfl ⟨rfl, rfl⟩
  · replace hf := (if_neg c68).symm.trans hf
    refine jr_aload_n K (D_at DX8_goers_q3 1 rfl) rfl rfl ?_
    refine jr_iload K (D_at DX8_goers_q3 2 rfl) rfl ?_
    refine jr_iload_n K (D_at DX8_goers_q3 3 rfl) rfl rfl ?_
    obtain ⟨v75, e75, hf⟩ := jbind hf
    obtain ⟨rc_75, e75⟩ := jcv_o e75
    refine jr_callV K (C_X8_isStopped (d) e75) (D_at DX8_goers_q3 4 rfl) cv_X8_112_X8_isStopped (As := [.int x5, .int x2]) (ci := 6) rfl rc_75 rfl rfl (by exact Nat.le_of_ble_eq_true rfl) (kc2 := 0) (ks2 := 0) rfl rfl (fun k9 h9 w9 => by cases w9.1) (fun r9 h9 w9 => ?_)
    obtain ⟨w1, w2⟩ := w9
    subst h9
    cases w1
    show jJ G X _ 0 0 _ _ (.int v75 :: _)
    refine jr_if_eq K (D_at DX8_goers_q3 5 rfl) (tgt := 83) (by decide) (fun c78 => ?_) (fun c78 => ?_)
    · replace hf := (if_pos c78).symm.trans hf
      refine jr_iinc K (D_at DX8_goers_q3 8 rfl) (i := 5) rfl (v := x5 + (1 : Int32)) (jinc (by decide)) (by decide) (L2 := [_, _, _, _, _, _]) rfl ?_
      refine jr_goto K (D_at DX8_goers_q3 9 rfl) (tgt := 64) (by decide) ?_
      refine jr_keep [true, false, true, true, true, true] ?_
      exact hr64 a0 x2 x3 x4 (x5 + (1 : Int32)) hf
    · replace hf := (if_neg c78).symm.trans hf
      refine jr_iconst K (D_at DX8_goers_q3 6 rfl) (v := (0 : Int32)) (by decide) ?_
      cases hf
      exact jr_iret K E (D_at DX8_goers_q3 7 rfl) rfl ⟨rfl, rfl⟩
theorem J_X8_goers_64 {G : jG} {l : Launch} {d : Nat} {X : jX} {res : Int32} (K : jOK G l mX8_goers (d + 1) X) (n : Nat) (h : jH) (E : jEnd G mX8_goers (jPR h res) X) (k : Nat) : ∀ (a0 : Nat) (x2 : Int32) (x3 : Int32) (x4 : Int32) (x5 : Int32), F_X8_goers_64 n k a0 x2 x3 x4 x5 h = some res → jJ G X h 0 0 64 [some (.ref a0), none, some (.int x2), some (.int x3), some (.int x4), some (.int x5)] [] := by
  induction k with
  | zero =>
    intro a0 x2 x3 x4 x5 hf
    exact jno (show (none : Option Int32) = some res from hf)
  | succ k ih =>
    intro a0 x2 x3 x4 x5 hf
    exact J_X8_goers_64_b K n h (F_X8_goers_64 n k) ih E a0 x2 x3 x4 x5 hf
set_option maxHeartbeats 400000 in
set_option maxRecDepth 100000 in
theorem J_X8_goers_49 {G : jG} {l : Launch} {d : Nat} {X : jX} {res : Int32} (K : jOK G l mX8_goers (d + 1) X) (n : Nat) (h : jH) (rc32 : Nat → Int32 → Int32 → Int32 → jH → Option Int32) (hr32 : ∀ (a0 : Nat) (x2 : Int32) (x3 : Int32) (x4 : Int32), rc32 a0 x2 x3 x4 h = some res → jJ G X h 0 0 32 [some (.ref a0), none, some (.int x2), some (.int x3), some (.int x4), none] []) (E : jEnd G mX8_goers (jPR h res) X) (a0 : Nat) (x2 : Int32) (x3 : Int32) (x4 : Int32) (sa0 : Nat) (s1 : Int32) (s2 : Int32) (hf : F_X8_goers_49 n rc32 a0 x2 x3 x4 sa0 s1 s2 h = some res) : jJ G X h 0 0 49 [some (.ref a0), none, some (.int x2), some (.int x3), some (.int x4), none] [.int s2, .int s1, .ref sa0] := by
  unfold F_X8_goers_49 at hf
  obtain ⟨v49, e49, hf⟩ := jbind hf
  obtain ⟨rc_49, e49⟩ := jcv_o e49
  refine jr_callV K (C_X8_goTogether (d) e49) (D_at DX8_goers_q2 4 rfl) cv_X8_108_X8_goTogether (As := [.int s1, .int s2]) (ci := 6) rfl rc_49 rfl rfl (by exact Nat.le_of_ble_eq_true rfl) (kc2 := 0) (ks2 := 0) rfl rfl (fun k9 h9 w9 => by cases w9.1) (fun r9 h9 w9 => ?_)
  obtain ⟨w1, w2⟩ := w9
  subst h9
  cases w1
  show jJ G X _ 0 0 _ _ (.int v49 :: _)
  refine jr_if_eq K (D_at DX8_goers_q2 5 rfl) (tgt := 61) (by decide) (fun c52 => ?_) (fun c52 => ?_)
  · replace hf := (if_pos c52).symm.trans hf
    refine jr_iload_n K (D_at DX8_goers_q2 8 rfl) rfl rfl ?_
    refine jr_istore K (D_at DX8_goers_q2 9 rfl) (i := 5) (by decide) (L2 := [_, _, _, _, _, _]) rfl ?_
    refine jr_keep [true, false, true, true, true, true] ?_
    exact J_X8_goers_64 K n h E n a0 x2 x3 x4 x3 hf
  · replace hf := (if_neg c52).symm.trans hf
    refine jr_iinc K (D_at DX8_goers_q2 6 rfl) (i := 3) rfl (v := x3 + (-1 : Int32)) (jinc (by decide)) (by decide) (L2 := [_, _, _, _, _, _]) rfl ?_
    refine jr_goto K (D_at DX8_goers_q2 7 rfl) (tgt := 32) (by decide) ?_
    refine jr_keep [true, false, true, true, true, false] ?_
    exact hr32 a0 x2 (x3 + (-1 : Int32)) x4 hf
set_option maxHeartbeats 400000 in
set_option maxRecDepth 100000 in
theorem J_X8_goers_32_b {G : jG} {l : Launch} {d : Nat} {X : jX} {res : Int32} (K : jOK G l mX8_goers (d + 1) X) (n : Nat) (h : jH) (rc32 : Nat → Int32 → Int32 → Int32 → jH → Option Int32) (hr32 : ∀ (a0 : Nat) (x2 : Int32) (x3 : Int32) (x4 : Int32), rc32 a0 x2 x3 x4 h = some res → jJ G X h 0 0 32 [some (.ref a0), none, some (.int x2), some (.int x3), some (.int x4), none] []) (E : jEnd G mX8_goers (jPR h res) X) (a0 : Nat) (x2 : Int32) (x3 : Int32) (x4 : Int32) (hf : F_X8_goers_32_b n rc32 a0 x2 x3 x4 h = some res) : jJ G X h 0 0 32 [some (.ref a0), none, some (.int x2), some (.int x3), some (.int x4), none] [] := by
  unfold F_X8_goers_32_b at hf
  refine jr_iload_n K (D_at DX8_goers_q1 5 rfl) rfl rfl ?_
  refine jr_if_le K (D_at DX8_goers_q1 6 rfl) (tgt := 61) (by decide) (fun c33 => ?_) (fun c33 => ?_)
  · replace hf := (if_pos c33).symm.trans hf
    refine jr_iload_n K (D_at DX8_goers_q2 8 rfl) rfl rfl ?_
    refine jr_istore K (D_at DX8_goers_q2 9 rfl) (i := 5) (by decide) (L2 := [_, _, _, _, _, _]) rfl ?_
    refine jr_keep [true, false, true, true, true, true] ?_
    exact J_X8_goers_64 K n h E n a0 x2 x3 x4 x3 hf
  · replace hf := (if_neg c33).symm.trans hf
    refine jr_aload_n K (D_at DX8_goers_q1 7 rfl) rfl rfl ?_
    refine jr_iload_n K (D_at DX8_goers_q1 8 rfl) rfl rfl ?_
    refine jr_iconst K (D_at DX8_goers_q1 9 rfl) (v := (1 : Int32)) (by decide) ?_
    refine jr_isub K (D_at DX8_goers_q1 10 rfl) ?_
    refine jr_iload_n K (D_at DX8_goers_q1 11 rfl) rfl rfl ?_
    refine jr_if_ne K (D_at DX8_goers_q2 0 rfl) (tgt := 48) (by decide) (fun c41 => ?_) (fun c41 => ?_)
    · replace hf := (if_neg c41).symm.trans hf
      refine jr_iconst K (D_at DX8_goers_q2 3 rfl) (v := (0 : Int32)) (by decide) ?_
      refine jr_keep [true, false, true, true, true, false] ?_
      exact J_X8_goers_49 K n h rc32 hr32 E a0 x2 x3 x4 a0 (x3 - (1 : Int32)) (0 : Int32) hf
    · replace hf := (if_pos c41).symm.trans hf
      refine jr_iconst K (D_at DX8_goers_q2 1 rfl) (v := (1 : Int32)) (by decide) ?_
      refine jr_goto K (D_at DX8_goers_q2 2 rfl) (tgt := 49) (by decide) ?_
      refine jr_keep [true, false, true, true, true, false] ?_
      exact J_X8_goers_49 K n h rc32 hr32 E a0 x2 x3 x4 a0 (x3 - (1 : Int32)) (1 : Int32) hf
theorem J_X8_goers_32 {G : jG} {l : Launch} {d : Nat} {X : jX} {res : Int32} (K : jOK G l mX8_goers (d + 1) X) (n : Nat) (h : jH) (E : jEnd G mX8_goers (jPR h res) X) (k : Nat) : ∀ (a0 : Nat) (x2 : Int32) (x3 : Int32) (x4 : Int32), F_X8_goers_32 n k a0 x2 x3 x4 h = some res → jJ G X h 0 0 32 [some (.ref a0), none, some (.int x2), some (.int x3), some (.int x4), none] [] := by
  induction k with
  | zero =>
    intro a0 x2 x3 x4 hf
    exact jno (show (none : Option Int32) = some res from hf)
  | succ k ih =>
    intro a0 x2 x3 x4 hf
    exact J_X8_goers_32_b K n h (F_X8_goers_32 n k) ih E a0 x2 x3 x4 hf
set_option maxHeartbeats 400000 in
set_option maxRecDepth 100000 in
theorem J_X8_goers_5_b {G : jG} {l : Launch} {d : Nat} {X : jX} {res : Int32} (K : jOK G l mX8_goers (d + 1) X) (n : Nat) (h : jH) (rc5 : Nat → Int32 → Int32 → Int32 → jH → Option Int32) (hr5 : ∀ (a0 : Nat) (x2 : Int32) (x3 : Int32) (x4 : Int32), rc5 a0 x2 x3 x4 h = some res → jJ G X h 0 0 5 [some (.ref a0), none, some (.int x2), some (.int x3), some (.int x4), none] []) (E : jEnd G mX8_goers (jPR h res) X) (a0 : Nat) (x2 : Int32) (x3 : Int32) (x4 : Int32) (hf : F_X8_goers_5_b n rc5 a0 x2 x3 x4 h = some res) : jJ G X h 0 0 5 [some (.ref a0), none, some (.int x2), some (.int x3), some (.int x4), none] [] := by
  unfold F_X8_goers_5_b at hf
  refine jr_iload K (D_at DX8_goers_q0 4 rfl) rfl ?_
  refine jr_iconst K (D_at DX8_goers_q0 5 rfl) (v := (1 : Int32)) (by decide) ?_
  refine jr_iadd K (D_at DX8_goers_q0 6 rfl) ?_
  refine jr_aload_n K (D_at DX8_goers_q0 7 rfl) rfl rfl ?_
  obtain ⟨v10, e10, hf⟩ := jbind hf
  refine jr_getI K (D_at DX8_goers_q0 8 rfl) fg_X8_51_6 e10 ?_
  refine jr_icmp_ge K (D_at DX8_goers_q0 9 rfl) (tgt := 32) (by decide) (fun c13 => ?_) (fun c13 => ?_)
  · replace hf := (if_pos c13).symm.trans hf
    refine jr_keep [true, false, true, true, true, false] ?_
    exact J_X8_goers_32 K n h E n a0 x2 x3 x4 hf
  · replace hf := (if_neg c13).symm.trans hf
    refine jr_aload_n K (D_at DX8_goers_q0 10 rfl) rfl rfl ?_
    refine jr_iload K (D_at DX8_goers_q0 11 rfl) rfl ?_
    refine jr_iload_n K (D_at DX8_goers_q1 0 rfl) rfl rfl ?_
    obtain ⟨v20, e20, hf⟩ := jbind hf
    obtain ⟨rc_20, e20⟩ := jcv_o e20
    refine jr_callV K (C_X8_goTogether (d) e20) (D_at DX8_goers_q1 1 rfl) cv_X8_108_X8_goTogether (As := [.int x4, .int x2]) (ci := 6) rfl rc_20 rfl rfl (by exact Nat.le_of_ble_eq_true rfl) (kc2 := 0) (ks2 := 0) rfl rfl (fun k9 h9 w9 => by cases w9.1) (fun r9 h9 w9 => ?_)
    obtain ⟨w1, w2⟩ := w9
    subst h9
    cases w1
    show jJ G X _ 0 0 _ _ (.int v20 :: _)
    refine jr_if_eq K (D_at DX8_goers_q1 2 rfl) (tgt := 32) (by decide) (fun c23 => ?_) (fun c23 => ?_)
    · replace hf := (if_pos c23).symm.trans hf
      refine jr_keep [true, false, true, true, true, false] ?_
      exact J_X8_goers_32 K n h E n a0 x2 x3 x4 hf
    · replace hf := (if_neg c23).symm.trans hf
      refine jr_iinc K (D_at DX8_goers_q1 3 rfl) (i := 4) rfl (v := x4 + (1 : Int32)) (jinc (by decide)) (by decide) (L2 := [_, _, _, _, _, _]) rfl ?_
      refine jr_goto K (D_at DX8_goers_q1 4 rfl) (tgt := 5) (by decide) ?_
      refine jr_keep [true, false, true, true, true, false] ?_
      exact hr5 a0 x2 x3 (x4 + (1 : Int32)) hf
theorem J_X8_goers_5 {G : jG} {l : Launch} {d : Nat} {X : jX} {res : Int32} (K : jOK G l mX8_goers (d + 1) X) (n : Nat) (h : jH) (E : jEnd G mX8_goers (jPR h res) X) (k : Nat) : ∀ (a0 : Nat) (x2 : Int32) (x3 : Int32) (x4 : Int32), F_X8_goers_5 n k a0 x2 x3 x4 h = some res → jJ G X h 0 0 5 [some (.ref a0), none, some (.int x2), some (.int x3), some (.int x4), none] [] := by
  induction k with
  | zero =>
    intro a0 x2 x3 x4 hf
    exact jno (show (none : Option Int32) = some res from hf)
  | succ k ih =>
    intro a0 x2 x3 x4 hf
    exact J_X8_goers_5_b K n h (F_X8_goers_5 n k) ih E a0 x2 x3 x4 hf
set_option maxHeartbeats 400000 in
set_option maxRecDepth 100000 in
theorem J_X8_goers {G : jG} {l : Launch} {d : Nat} {X : jX} {res : Int32} (K : jOK G l mX8_goers (d + 1) X) (n : Nat) (h : jH) (E : jEnd G mX8_goers (jPR h res) X) (a0 : Nat) (x1 : Int32) (x2 : Int32) (hf : F_X8_goers n a0 x1 x2 h = some res) : jJ G X h 0 0 0 [some (.ref a0), some (.int x1), some (.int x2), none, none, none] [] := by
  unfold F_X8_goers at hf
  refine jr_iload_n K (D_at DX8_goers_q0 0 rfl) rfl rfl ?_
  refine jr_istore_n K (D_at DX8_goers_q0 1 rfl) (i := 3) rfl (by decide) (L2 := [_, _, _, _, _, _]) rfl ?_
  refine jr_iload_n K (D_at DX8_goers_q0 2 rfl) rfl rfl ?_
  refine jr_istore K (D_at DX8_goers_q0 3 rfl) (i := 4) (by decide) (L2 := [_, _, _, _, _, _]) rfl ?_
  refine jr_keep [true, false, true, true, true, false] ?_
  exact J_X8_goers_5 K n h E n a0 x2 x1 x1 hf
theorem C_X8_goers {G : jG} {l : Launch} (d : Nat) {n : Nat} {a0 : Nat} {x1 : Int32} {x2 : Int32} {h : jH} {res : Int32} (hf : F_X8_goers n a0 x1 x2 h = some res) : jC G l mX8_goers (d + 1) 0 0 [.ref a0, .int x1, .int x2] h (jPR h res) :=
  jC.of pn_X8 (jcats rfl) (Nat.le_of_ble_eq_true rfl) (fun X K E => J_X8_goers K n h E a0 x1 x2 hf)
set_option maxHeartbeats 400000 in
set_option maxRecDepth 100000 in
theorem J_X8_move_28_b {G : jG} {l : Launch} {d : Nat} {X : jX} {res : (Int32 × jH)} (K : jOK G l mX8_move (d + 2) X) (n : Nat) (rc3 : Nat → Int32 → Int32 → Int32 → Int32 → jH → Option (Int32 × jH)) (hr3 : ∀ (a0 : Nat) (x1 : Int32) (x2 : Int32) (x3 : Int32) (x4 : Int32) (h : jH), rc3 a0 x1 x2 x3 x4 h = some res → jJ G X h 0 0 3 [some (.ref a0), some (.int x1), some (.int x2), some (.int x3), some (.int x4), none, none] []) (rc28 : Nat → Int32 → Int32 → Int32 → Int32 → Int32 → Int32 → jH → Option (Int32 × jH)) (hr28 : ∀ (a0 : Nat) (x1 : Int32) (x2 : Int32) (x3 : Int32) (x4 : Int32) (x5 : Int32) (x6 : Int32) (h : jH), rc28 a0 x1 x2 x3 x4 x5 x6 h = some res → jJ G X h 0 0 28 [some (.ref a0), some (.int x1), some (.int x2), some (.int x3), some (.int x4), some (.int x5), some (.int x6)] []) (E : jEnd G mX8_move (jPW res) X) (a0 : Nat) (x1 : Int32) (x2 : Int32) (x3 : Int32) (x4 : Int32) (x5 : Int32) (x6 : Int32) (h : jH) (hf : F_X8_move_28_b n rc3 rc28 a0 x1 x2 x3 x4 x5 x6 h = some res) : jJ G X h 0 0 28 [some (.ref a0), some (.int x1), some (.int x2), some (.int x3), some (.int x4), some (.int x5), some (.int x6)] [] := by
  unfold F_X8_move_28_b at hf
  refine jr_iload K (D_at DX8_move_q1 4 rfl) rfl ?_
  refine jr_aload_n K (D_at DX8_move_q1 5 rfl) rfl rfl ?_
  obtain ⟨v31, e31, hf⟩ := jbind hf
  refine jr_getI K (D_at DX8_move_q1 6 rfl) fg_X8_51_6 e31 ?_
  refine jr_icmp_ge K (D_at DX8_move_q1 7 rfl) (tgt := 73) (by decide) (fun c34 => ?_) (fun c34 => ?_)
  · replace hf := (if_pos c34).symm.trans hf
    refine jr_aload_n K (D_at DX8_move_q3 3 rfl) rfl rfl ?_
    refine jr_sipush K (D_at DX8_move_q3 4 rfl) (v := (9999 : Int32)) (by decide) ?_
    refine jr_aload_n K (D_at DX8_move_q3 5 rfl) rfl rfl ?_
    obtain ⟨v78, e78, hf⟩ := jbind hf
    refine jr_getI K (D_at DX8_move_q3 6 rfl) fg_X8_79_6 e78 ?_
    refine jr_iload K (D_at DX8_move_q3 7 rfl) rfl ?_
    refine jr_aload_n K (D_at DX8_move_q3 8 rfl) rfl rfl ?_
    obtain ⟨v84, e84, hf⟩ := jbind hf
    refine jr_getI K (D_at DX8_move_q3 9 rfl) fg_X8_57_6 e84 ?_
    refine jr_iconst K (D_at DX8_move_q3 10 rfl) (v := (-1 : Int32)) (by decide) ?_
    refine jr_ixor K (D_at DX8_move_q3 11 rfl) ?_
    refine jr_iand K (D_at DX8_move_q4 0 rfl) ?_
    obtain ⟨v90, e90, hf⟩ := jbind hf
    refine jr_callS K (C_J6_bitCount_0f7a4 (d + 1) e90) (D_at DX8_move_q4 1 rfl) cs_X8_102_J6_bitCount_0f7a4 (As := [.int (x5 &&& (v84 ^^^ (-1 : Int32)))]) rfl rfl (by exact Nat.le_of_ble_eq_true rfl) (kc2 := 0) (ks2 := 0) rfl rfl (fun k9 h9 w9 => by cases w9.1) (fun r9 h9 w9 => ?_)
    obtain ⟨w1, w2⟩ := w9
    subst h9
    cases w1
    show jJ G X _ 0 0 _ _ (.int v90 :: _)
    refine jr_iadd K (D_at DX8_move_q4 2 rfl) ?_
    refine jr_min K (D_at DX8_move_q4 3 rfl) mm_X8_85 (by exact Nat.le_of_ble_eq_true rfl) ?_
    obtain ⟨h97, e97, hf⟩ := jbind hf
    refine jr_putI K (D_at DX8_move_q4 4 rfl) fp_X8_79_6 (Or.inl rfl) e97 ?_
    refine jr_iinc K (D_at DX8_move_q4 5 rfl) (i := 4) rfl (v := x4 + (1 : Int32)) (jinc (by decide)) (by decide) (L2 := [_, _, _, _, _, _, _]) rfl ?_
    refine jr_goto K (D_at DX8_move_q4 6 rfl) (tgt := 3) (by decide) ?_
    refine jr_keep [true, true, true, true, true, false, false] ?_
    exact hr3 a0 x1 x2 x3 (x4 + (1 : Int32)) h97 hf
  · replace hf := (if_neg c34).symm.trans hf
    refine jr_iload K (D_at DX8_move_q1 8 rfl) rfl ?_
    refine jr_iload K (D_at DX8_move_q1 9 rfl) rfl ?_
    obtain ⟨v41, e41, hf⟩ := jbind hf
    refine jr_callSN K (C_X11_bit (d + 1) e41) (D_at DX8_move_q1 10 rfl) csn_X8_95_X11_bit (As := [.int x5, .int x6]) rfl rfl (by exact Nat.le_of_ble_eq_true rfl) (kc2 := 0) (ks2 := 0) rfl rfl (fun k9 h9 w9 => by cases w9.1) (fun r9 h9 w9 => ?_)
    obtain ⟨w1, w2⟩ := w9
    subst h9
    cases w1
    show jJ G X _ 0 0 _ _ (.int v41 :: _)
    refine jr_iconst K (D_at DX8_move_q1 11 rfl) (v := (1 : Int32)) (by decide) ?_
    refine jr_icmp_ne K (D_at DX8_move_q2 0 rfl) (tgt := 67) (by decide) (fun c45 => ?_) (fun c45 => ?_)
    · replace hf := (if_neg c45).symm.trans hf
      refine jr_iinc K (D_at DX8_move_q3 1 rfl) (i := 6) rfl (v := x6 + (1 : Int32)) (jinc (by decide)) (by decide) (L2 := [_, _, _, _, _, _, _]) rfl ?_
      refine jr_goto K (D_at DX8_move_q3 2 rfl) (tgt := 28) (by decide) ?_
      refine jr_keep [true, true, true, true, true, true, true] ?_
      exact hr28 a0 x1 x2 x3 x4 x5 (x6 + (1 : Int32)) h hf
    · replace hf := (if_pos c45).symm.trans hf
      refine jr_aload_n K (D_at DX8_move_q2 1 rfl) rfl rfl ?_
      obtain ⟨p49, e49, hf⟩ := jbind hf
      refine jr_getR K (D_at DX8_move_q2 2 rfl) fg_X8_9_6 e49 ?_
      refine jr_iload K (D_at DX8_move_q2 3 rfl) rfl ?_
      refine jr_dup2 K (D_at DX8_move_q2 4 rfl) rfl rfl ?_
      obtain ⟨v55, e55, hf⟩ := jbind hf
      refine jr_iald K (D_at DX8_move_q2 5 rfl) e55 ?_
      refine jr_iload_n K (D_at DX8_move_q2 6 rfl) rfl rfl ?_
      refine jr_if_eq K (D_at DX8_move_q2 7 rfl) (tgt := 64) (by decide) (fun c57 => ?_) (fun c57 => ?_)
      · replace hf := (if_pos c57).symm.trans hf
        refine jr_iconst K (D_at DX8_move_q2 10 rfl) (v := (-1 : Int32)) (by decide) ?_
        refine jr_iadd K (D_at DX8_move_q2 11 rfl) ?_
        obtain ⟨h66, e66, hf⟩ := jbind hf
        refine jr_iast K (D_at DX8_move_q3 0 rfl) e66 ?_
        refine jr_iinc K (D_at DX8_move_q3 1 rfl) (i := 6) rfl (v := x6 + (1 : Int32)) (jinc (by decide)) (by decide) (L2 := [_, _, _, _, _, _, _]) rfl ?_
        refine jr_goto K (D_at DX8_move_q3 2 rfl) (tgt := 28) (by decide) ?_
        refine jr_keep [true, true, true, true, true, true, true] ?_
        exact hr28 a0 x1 x2 x3 x4 x5 (x6 + (1 : Int32)) h66 hf
      · replace hf := (if_neg c57).symm.trans hf
        refine jr_iconst K (D_at DX8_move_q2 8 rfl) (v := (1 : Int32)) (by decide) ?_
        refine jr_goto K (D_at DX8_move_q2 9 rfl) (tgt := 65) (by decide) ?_
        refine jr_iadd K (D_at DX8_move_q2 11 rfl) ?_
        obtain ⟨h66, e66, hf⟩ := jbind hf
        refine jr_iast K (D_at DX8_move_q3 0 rfl) e66 ?_
        refine jr_iinc K (D_at DX8_move_q3 1 rfl) (i := 6) rfl (v := x6 + (1 : Int32)) (jinc (by decide)) (by decide) (L2 := [_, _, _, _, _, _, _]) rfl ?_
        refine jr_goto K (D_at DX8_move_q3 2 rfl) (tgt := 28) (by decide) ?_
        refine jr_keep [true, true, true, true, true, true, true] ?_
        exact hr28 a0 x1 x2 x3 x4 x5 (x6 + (1 : Int32)) h66 hf
theorem J_X8_move_28 {G : jG} {l : Launch} {d : Nat} {X : jX} {res : (Int32 × jH)} (K : jOK G l mX8_move (d + 2) X) (n : Nat) (rc3 : Nat → Int32 → Int32 → Int32 → Int32 → jH → Option (Int32 × jH)) (hr3 : ∀ (a0 : Nat) (x1 : Int32) (x2 : Int32) (x3 : Int32) (x4 : Int32) (h : jH), rc3 a0 x1 x2 x3 x4 h = some res → jJ G X h 0 0 3 [some (.ref a0), some (.int x1), some (.int x2), some (.int x3), some (.int x4), none, none] []) (E : jEnd G mX8_move (jPW res) X) (k : Nat) : ∀ (a0 : Nat) (x1 : Int32) (x2 : Int32) (x3 : Int32) (x4 : Int32) (x5 : Int32) (x6 : Int32) (h : jH), F_X8_move_28 n rc3 k a0 x1 x2 x3 x4 x5 x6 h = some res → jJ G X h 0 0 28 [some (.ref a0), some (.int x1), some (.int x2), some (.int x3), some (.int x4), some (.int x5), some (.int x6)] [] := by
  induction k with
  | zero =>
    intro a0 x1 x2 x3 x4 x5 x6 h hf
    exact jno (show (none : Option (Int32 × jH)) = some res from hf)
  | succ k ih =>
    intro a0 x1 x2 x3 x4 x5 x6 h hf
    exact J_X8_move_28_b K n rc3 hr3 (F_X8_move_28 n rc3 k) ih E a0 x1 x2 x3 x4 x5 x6 h hf
set_option maxHeartbeats 400000 in
set_option maxRecDepth 100000 in
theorem J_X8_move_3_b {G : jG} {l : Launch} {d : Nat} {X : jX} {res : (Int32 × jH)} (K : jOK G l mX8_move (d + 2) X) (n : Nat) (rc3 : Nat → Int32 → Int32 → Int32 → Int32 → jH → Option (Int32 × jH)) (hr3 : ∀ (a0 : Nat) (x1 : Int32) (x2 : Int32) (x3 : Int32) (x4 : Int32) (h : jH), rc3 a0 x1 x2 x3 x4 h = some res → jJ G X h 0 0 3 [some (.ref a0), some (.int x1), some (.int x2), some (.int x3), some (.int x4), none, none] []) (E : jEnd G mX8_move (jPW res) X) (a0 : Nat) (x1 : Int32) (x2 : Int32) (x3 : Int32) (x4 : Int32) (h : jH) (hf : F_X8_move_3_b n rc3 a0 x1 x2 x3 x4 h = some res) : jJ G X h 0 0 3 [some (.ref a0), some (.int x1), some (.int x2), some (.int x3), some (.int x4), none, none] [] := by
  unfold F_X8_move_3_b at hf
  refine jr_iload K (D_at DX8_move_q0 2 rfl) rfl ?_
  refine jr_iload_n K (D_at DX8_move_q0 3 rfl) rfl rfl ?_
  refine jr_icmp_ge K (D_at DX8_move_q0 4 rfl) (tgt := 106) (by decide) (fun c6 => ?_) (fun c6 => ?_)
  · replace hf := (if_pos c6).symm.trans hf
    refine jr_iload_n K (D_at DX8_move_q4 7 rfl) rfl rfl ?_
    cases hf
    exact jr_iret K E (D_at DX8_move_q4 8 rfl) rfl ⟨rfl, rfl⟩
  · replace hf := (if_neg c6).symm.trans hf
    refine jr_aload_n K (D_at DX8_move_q0 5 rfl) rfl rfl ?_
    refine jr_iload_n K (D_at DX8_move_q0 6 rfl) rfl rfl ?_
    refine jr_iload_n K (D_at DX8_move_q0 7 rfl) rfl rfl ?_
    obtain ⟨v12, e12, hf⟩ := jbind hf
    obtain ⟨rc_12, e12⟩ := jcv_o e12
    refine jr_callV K (C_X8_goers (d) e12) (D_at DX8_move_q0 8 rfl) cv_X8_115_X8_goers (As := [.int x1, .int x2]) (ci := 6) rfl rc_12 rfl rfl (by exact Nat.le_of_ble_eq_true rfl) (kc2 := 0) (ks2 := 0) rfl rfl (fun k9 h9 w9 => by cases w9.1) (fun r9 h9 w9 => ?_)
    obtain ⟨w1, w2⟩ := w9
    subst h9
    cases w1
    show jJ G X _ 0 0 _ _ (.int v12 :: _)
    refine jr_istore K (D_at DX8_move_q0 9 rfl) (i := 5) (by decide) (L2 := [_, _, _, _, _, _, _]) rfl ?_
    refine jr_iload K (D_at DX8_move_q0 10 rfl) rfl ?_
    refine jr_if_ne K (D_at DX8_move_q0 11 rfl) (tgt := 25) (by decide) (fun c19 => ?_) (fun c19 => ?_)
    · replace hf := (if_neg c19).symm.trans hf
      refine jr_iconst K (D_at DX8_move_q1 2 rfl) (v := (0 : Int32)) (by decide) ?_
      refine jr_istore K (D_at DX8_move_q1 3 rfl) (i := 6) (by decide) (L2 := [_, _, _, _, _, _, _]) rfl ?_
      refine jr_keep [true, true, true, true, true, true, true] ?_
      exact J_X8_move_28 K n rc3 hr3 E n a0 x1 x2 x3 x4 v12 (0 : Int32) h hf
    · replace hf := (if_pos c19).symm.trans hf
      refine jr_iload K (D_at DX8_move_q1 0 rfl) rfl ?_
      cases hf
      exact jr_iret K E (D_at DX8_move_q1 1 rfl) rfl ⟨rfl, rfl⟩
theorem J_X8_move_3 {G : jG} {l : Launch} {d : Nat} {X : jX} {res : (Int32 × jH)} (K : jOK G l mX8_move (d + 2) X) (n : Nat) (E : jEnd G mX8_move (jPW res) X) (k : Nat) : ∀ (a0 : Nat) (x1 : Int32) (x2 : Int32) (x3 : Int32) (x4 : Int32) (h : jH), F_X8_move_3 n k a0 x1 x2 x3 x4 h = some res → jJ G X h 0 0 3 [some (.ref a0), some (.int x1), some (.int x2), some (.int x3), some (.int x4), none, none] [] := by
  induction k with
  | zero =>
    intro a0 x1 x2 x3 x4 h hf
    exact jno (show (none : Option (Int32 × jH)) = some res from hf)
  | succ k ih =>
    intro a0 x1 x2 x3 x4 h hf
    exact J_X8_move_3_b K n (F_X8_move_3 n k) ih E a0 x1 x2 x3 x4 h hf
set_option maxHeartbeats 400000 in
set_option maxRecDepth 100000 in
theorem J_X8_move {G : jG} {l : Launch} {d : Nat} {X : jX} {res : (Int32 × jH)} (K : jOK G l mX8_move (d + 2) X) (n : Nat) (E : jEnd G mX8_move (jPW res) X) (a0 : Nat) (x1 : Int32) (x2 : Int32) (x3 : Int32) (h : jH) (hf : F_X8_move n a0 x1 x2 x3 h = some res) : jJ G X h 0 0 0 [some (.ref a0), some (.int x1), some (.int x2), some (.int x3), none, none, none] [] := by
  unfold F_X8_move at hf
  refine jr_iconst K (D_at DX8_move_q0 0 rfl) (v := (0 : Int32)) (by decide) ?_
  refine jr_istore K (D_at DX8_move_q0 1 rfl) (i := 4) (by decide) (L2 := [_, _, _, _, _, _, _]) rfl ?_
  refine jr_keep [true, true, true, true, true, false, false] ?_
  exact J_X8_move_3 K n E n a0 x1 x2 x3 (0 : Int32) h hf
theorem C_X8_move {G : jG} {l : Launch} (d : Nat) {n : Nat} {a0 : Nat} {x1 : Int32} {x2 : Int32} {x3 : Int32} {h : jH} {res : (Int32 × jH)} (hf : F_X8_move n a0 x1 x2 x3 h = some res) : jC G l mX8_move (d + 2) 0 0 [.ref a0, .int x1, .int x2, .int x3] h (jPW res) :=
  jC.of pn_X8 (jcats rfl) (Nat.le_of_ble_eq_true rfl) (fun X K E => J_X8_move K n E a0 x1 x2 x3 h hf)
set_option maxHeartbeats 400000 in
set_option maxRecDepth 100000 in
theorem J_X7_shadiest_68 {G : jG} {l : Launch} {d : Nat} {X : jX} {res : (Int32 × jH)} (K : jOK G l mX7_shadiest (d + 3) X) (n : Nat) (rc18 : Nat → Nat → Int32 → Int32 → Int32 → jH → Option (Int32 × jH)) (hr18 : ∀ (a0 : Nat) (a1 : Nat) (x2 : Int32) (x3 : Int32) (x4 : Int32) (h : jH), rc18 a0 a1 x2 x3 x4 h = some res → jJ G X h 0 0 18 [some (.ref a0), some (.ref a1), some (.int x2), some (.int x3), some (.int x4), none, none] []) (rc40 : Nat → Nat → Int32 → Int32 → Int32 → Int32 → jH → Option (Int32 × jH)) (hr40 : ∀ (a0 : Nat) (a1 : Nat) (x2 : Int32) (x3 : Int32) (x4 : Int32) (x5 : Int32) (h : jH), rc40 a0 a1 x2 x3 x4 x5 h = some res → jJ G X h 0 0 40 [some (.ref a0), some (.ref a1), some (.int x2), some (.int x3), some (.int x4), some (.int x5), none] []) (E : jEnd G mX7_shadiest (jPW res) X) (a0 : Nat) (a1 : Nat) (x2 : Int32) (x3 : Int32) (x4 : Int32) (x5 : Int32) (sa0 : Nat) (s1 : Int32) (s2 : Int32) (h : jH) (hf : F_X7_shadiest_68 n rc18 rc40 a0 a1 x2 x3 x4 x5 sa0 s1 s2 h = some res) : jJ G X h 0 0 68 [some (.ref a0), some (.ref a1), some (.int x2), some (.int x3), some (.int x4), some (.int x5), none] [.int s2, .int s1, .ref sa0] := by
  unfold F_X7_shadiest_68 at hf
  refine jr_iconst K (D_at DX7_shadiest_q3 3 rfl) (v := (1 : Int32)) (by decide) ?_
  obtain ⟨q69, e69, hf⟩ := jbind hf
  obtain ⟨rc_69, e69⟩ := jcv_o e69
  refine jr_callV K (C_X8_move (d) e69) (D_at DX7_shadiest_q3 4 rfl) cv_X7_43_X8_move (As := [.int s1, .int s2, .int (1 : Int32)]) (ci := 6) rfl rc_69 rfl rfl (by exact Nat.le_of_ble_eq_true rfl) (kc2 := 0) (ks2 := 0) rfl rfl (fun k9 h9 w9 => by cases w9.1) (fun r9 h9 w9 => ?_)
  obtain ⟨w1, w2⟩ := w9
  subst h9
  cases w1
  show jJ G X _ 0 0 _ _ (.int q69.1 :: _)
  refine jr_iconst K (D_at DX7_shadiest_q3 5 rfl) (v := (1 : Int32)) (by decide) ?_
  refine jr_icmp_ne K (D_at DX7_shadiest_q3 6 rfl) (tgt := 109) (by decide) (fun c73 => ?_) (fun c73 => ?_)
  · replace hf := (if_neg c73).symm.trans hf
    refine jr_iinc K (D_at DX7_shadiest_q5 0 rfl) (i := 4) rfl (v := x4 + (1 : Int32)) (jinc (by decide)) (by decide) (L2 := [_, _, _, _, _, _, _]) rfl ?_
    refine jr_goto K (D_at DX7_shadiest_q5 1 rfl) (tgt := 18) (by decide) ?_
    refine jr_keep [true, true, true, true, true, false, false] ?_
    exact hr18 a0 a1 x2 x3 (x4 + (1 : Int32)) q69.2 hf
  · replace hf := (if_pos c73).symm.trans hf
    refine jr_aload_n K (D_at DX7_shadiest_q3 7 rfl) rfl rfl ?_
    obtain ⟨p77, e77, hf⟩ := jbind hf
    refine jr_getR K (D_at DX7_shadiest_q3 8 rfl) fg_X7_22_5 e77 ?_
    obtain ⟨v80, e80, hf⟩ := jbind hf
    obtain ⟨rc_80, e80⟩ := jcv_o e80
    refine jr_callV K (C_X8_shadedChairs (d) e80) (D_at DX7_shadiest_q3 9 rfl) cv_X7_32_X8_shadedChairs (As := []) (ci := 6) rfl rc_80 rfl rfl (by exact Nat.le_of_ble_eq_true rfl) (kc2 := 0) (ks2 := 0) rfl rfl (fun k9 h9 w9 => by cases w9.1) (fun r9 h9 w9 => ?_)
    obtain ⟨w1, w2⟩ := w9
    subst h9
    cases w1
    show jJ G X _ 0 0 _ _ (.int v80 :: _)
    refine jr_istore K (D_at DX7_shadiest_q3 10 rfl) (i := 6) (by decide) (L2 := [_, _, _, _, _, _, _]) rfl ?_
    refine jr_iload K (D_at DX7_shadiest_q3 11 rfl) rfl ?_
    refine jr_iload_n K (D_at DX7_shadiest_q4 0 rfl) rfl rfl ?_
    refine jr_icmp_le K (D_at DX7_shadiest_q4 1 rfl) (tgt := 103) (by decide) (fun c88 => ?_) (fun c88 => ?_)
    · replace hf := (if_pos c88).symm.trans hf
      refine jr_iinc K (D_at DX7_shadiest_q4 10 rfl) (i := 5) rfl (v := x5 + (1 : Int32)) (jinc (by decide)) (by decide) (L2 := [_, _, _, _, _, _, _]) rfl ?_
      refine jr_goto K (D_at DX7_shadiest_q4 11 rfl) (tgt := 40) (by decide) ?_
      refine jr_keep [true, true, true, true, true, true, false] ?_
      exact hr40 a0 a1 x2 x3 x4 (x5 + (1 : Int32)) q69.2 hf
    · replace hf := (if_neg c88).symm.trans hf
      refine jr_iload K (D_at DX7_shadiest_q4 2 rfl) rfl ?_
      refine jr_istore_n K (D_at DX7_shadiest_q4 3 rfl) (i := 2) rfl (by decide) (L2 := [_, _, _, _, _, _, _]) rfl ?_
      refine jr_bipush K (D_at DX7_shadiest_q4 4 rfl) (v := (32 : Int32)) (by decide) ?_
      refine jr_iload K (D_at DX7_shadiest_q4 5 rfl) rfl ?_
      refine jr_imul K (D_at DX7_shadiest_q4 6 rfl) ?_
      refine jr_iload K (D_at DX7_shadiest_q4 7 rfl) rfl ?_
      refine jr_iadd K (D_at DX7_shadiest_q4 8 rfl) ?_
      refine jr_istore_n K (D_at DX7_shadiest_q4 9 rfl) (i := 3) rfl (by decide) (L2 := [_, _, _, _, _, _, _]) rfl ?_
      refine jr_iinc K (D_at DX7_shadiest_q4 10 rfl) (i := 5) rfl (v := x5 + (1 : Int32)) (jinc (by decide)) (by decide) (L2 := [_, _, _, _, _, _, _]) rfl ?_
      refine jr_goto K (D_at DX7_shadiest_q4 11 rfl) (tgt := 40) (by decide) ?_
      refine jr_keep [true, true, true, true, true, true, false] ?_
      exact hr40 a0 a1 v80 (((32 : Int32) * x4) + x5) x4 (x5 + (1 : Int32)) q69.2 hf
set_option maxHeartbeats 400000 in
set_option maxRecDepth 100000 in
theorem J_X7_shadiest_40_b {G : jG} {l : Launch} {d : Nat} {X : jX} {res : (Int32 × jH)} (K : jOK G l mX7_shadiest (d + 3) X) (n : Nat) (rc18 : Nat → Nat → Int32 → Int32 → Int32 → jH → Option (Int32 × jH)) (hr18 : ∀ (a0 : Nat) (a1 : Nat) (x2 : Int32) (x3 : Int32) (x4 : Int32) (h : jH), rc18 a0 a1 x2 x3 x4 h = some res → jJ G X h 0 0 18 [some (.ref a0), some (.ref a1), some (.int x2), some (.int x3), some (.int x4), none, none] []) (rc40 : Nat → Nat → Int32 → Int32 → Int32 → Int32 → jH → Option (Int32 × jH)) (hr40 : ∀ (a0 : Nat) (a1 : Nat) (x2 : Int32) (x3 : Int32) (x4 : Int32) (x5 : Int32) (h : jH), rc40 a0 a1 x2 x3 x4 x5 h = some res → jJ G X h 0 0 40 [some (.ref a0), some (.ref a1), some (.int x2), some (.int x3), some (.int x4), some (.int x5), none] []) (E : jEnd G mX7_shadiest (jPW res) X) (a0 : Nat) (a1 : Nat) (x2 : Int32) (x3 : Int32) (x4 : Int32) (x5 : Int32) (h : jH) (hf : F_X7_shadiest_40_b n rc18 rc40 a0 a1 x2 x3 x4 x5 h = some res) : jJ G X h 0 0 40 [some (.ref a0), some (.ref a1), some (.int x2), some (.int x3), some (.int x4), some (.int x5), none] [] := by
  unfold F_X7_shadiest_40_b at hf
  refine jr_iload K (D_at DX7_shadiest_q1 11 rfl) rfl ?_
  refine jr_bipush K (D_at DX7_shadiest_q2 0 rfl) (v := (31 : Int32)) (by decide) ?_
  refine jr_icmp_gt K (D_at DX7_shadiest_q2 1 rfl) (tgt := 109) (by decide) (fun c44 => ?_) (fun c44 => ?_)
  · replace hf := (if_pos c44).symm.trans hf
    refine jr_iinc K (D_at DX7_shadiest_q5 0 rfl) (i := 4) rfl (v := x4 + (1 : Int32)) (jinc (by decide)) (by decide) (L2 := [_, _, _, _, _, _, _]) rfl ?_
    refine jr_goto K (D_at DX7_shadiest_q5 1 rfl) (tgt := 18) (by decide) ?_
    refine jr_keep [true, true, true, true, true, false, false] ?_
    exact hr18 a0 a1 x2 x3 (x4 + (1 : Int32)) h hf
  · replace hf := (if_neg c44).symm.trans hf
    refine jr_aload_n K (D_at DX7_shadiest_q2 2 rfl) rfl rfl ?_
    obtain ⟨p48, e48, hf⟩ := jbind hf
    refine jr_getR K (D_at DX7_shadiest_q2 3 rfl) fg_X7_22_5 e48 ?_
    refine jr_iload K (D_at DX7_shadiest_q2 4 rfl) rfl ?_
    refine jr_iconst K (D_at DX7_shadiest_q2 5 rfl) (v := (2 : Int32)) (by decide) ?_
    refine jr_idiv K (D_at DX7_shadiest_q2 6 rfl) (by decide) ?_
    refine jr_iload K (D_at DX7_shadiest_q2 7 rfl) rfl ?_
    refine jr_iconst K (D_at DX7_shadiest_q2 8 rfl) (v := (2 : Int32)) (by decide) ?_
    refine jr_irem K (D_at DX7_shadiest_q2 9 rfl) (by decide) ?_
    refine jr_iconst K (D_at DX7_shadiest_q2 10 rfl) (v := (1 : Int32)) (by decide) ?_
    refine jr_icmp_ne K (D_at DX7_shadiest_q2 11 rfl) (tgt := 67) (by decide) (fun c60 => ?_) (fun c60 => ?_)
    · replace hf := (if_neg c60).symm.trans hf
      refine jr_iconst K (D_at DX7_shadiest_q3 2 rfl) (v := (0 : Int32)) (by decide) ?_
      refine jr_keep [true, true, true, true, true, true, false] ?_
      exact J_X7_shadiest_68 K n rc18 hr18 rc40 hr40 E a0 a1 x2 x3 x4 x5 p48 (x4 / (2 : Int32)) (0 : Int32) h hf
    · replace hf := (if_pos c60).symm.trans hf
      refine jr_iconst K (D_at DX7_shadiest_q3 0 rfl) (v := (1 : Int32)) (by decide) ?_
      refine jr_goto K (D_at DX7_shadiest_q3 1 rfl) (tgt := 68) (by decide) ?_
      refine jr_keep [true, true, true, true, true, true, false] ?_
      exact J_X7_shadiest_68 K n rc18 hr18 rc40 hr40 E a0 a1 x2 x3 x4 x5 p48 (x4 / (2 : Int32)) (1 : Int32) h hf
theorem J_X7_shadiest_40 {G : jG} {l : Launch} {d : Nat} {X : jX} {res : (Int32 × jH)} (K : jOK G l mX7_shadiest (d + 3) X) (n : Nat) (rc18 : Nat → Nat → Int32 → Int32 → Int32 → jH → Option (Int32 × jH)) (hr18 : ∀ (a0 : Nat) (a1 : Nat) (x2 : Int32) (x3 : Int32) (x4 : Int32) (h : jH), rc18 a0 a1 x2 x3 x4 h = some res → jJ G X h 0 0 18 [some (.ref a0), some (.ref a1), some (.int x2), some (.int x3), some (.int x4), none, none] []) (E : jEnd G mX7_shadiest (jPW res) X) (k : Nat) : ∀ (a0 : Nat) (a1 : Nat) (x2 : Int32) (x3 : Int32) (x4 : Int32) (x5 : Int32) (h : jH), F_X7_shadiest_40 n rc18 k a0 a1 x2 x3 x4 x5 h = some res → jJ G X h 0 0 40 [some (.ref a0), some (.ref a1), some (.int x2), some (.int x3), some (.int x4), some (.int x5), none] [] := by
  induction k with
  | zero =>
    intro a0 a1 x2 x3 x4 x5 h hf
    exact jno (show (none : Option (Int32 × jH)) = some res from hf)
  | succ k ih =>
    intro a0 a1 x2 x3 x4 x5 h hf
    exact J_X7_shadiest_40_b K n rc18 hr18 (F_X7_shadiest_40 n rc18 k) ih E a0 a1 x2 x3 x4 x5 h hf
set_option maxHeartbeats 400000 in
set_option maxRecDepth 100000 in
theorem J_X7_shadiest_18_b {G : jG} {l : Launch} {d : Nat} {X : jX} {res : (Int32 × jH)} (K : jOK G l mX7_shadiest (d + 3) X) (n : Nat) (rc18 : Nat → Nat → Int32 → Int32 → Int32 → jH → Option (Int32 × jH)) (hr18 : ∀ (a0 : Nat) (a1 : Nat) (x2 : Int32) (x3 : Int32) (x4 : Int32) (h : jH), rc18 a0 a1 x2 x3 x4 h = some res → jJ G X h 0 0 18 [some (.ref a0), some (.ref a1), some (.int x2), some (.int x3), some (.int x4), none, none] []) (E : jEnd G mX7_shadiest (jPW res) X) (a0 : Nat) (a1 : Nat) (x2 : Int32) (x3 : Int32) (x4 : Int32) (h : jH) (hf : F_X7_shadiest_18_b n rc18 a0 a1 x2 x3 x4 h = some res) : jJ G X h 0 0 18 [some (.ref a0), some (.ref a1), some (.int x2), some (.int x3), some (.int x4), none, none] [] := by
  unfold F_X7_shadiest_18_b at hf
  refine jr_iload K (D_at DX7_shadiest_q0 11 rfl) rfl ?_
  refine jr_iconst K (D_at DX7_shadiest_q1 0 rfl) (v := (2 : Int32)) (by decide) ?_
  refine jr_aload_n K (D_at DX7_shadiest_q1 1 rfl) rfl rfl ?_
  obtain ⟨v22, e22, hf⟩ := jbind hf
  refine jr_getI K (D_at DX7_shadiest_q1 2 rfl) fg_X7_36_6 e22 ?_
  refine jr_imul K (D_at DX7_shadiest_q1 3 rfl) ?_
  refine jr_icmp_ge K (D_at DX7_shadiest_q1 4 rfl) (tgt := 115) (by decide) (fun c26 => ?_) (fun c26 => ?_)
  · replace hf := (if_pos c26).symm.trans hf
    refine jr_iload_n K (D_at DX7_shadiest_q5 2 rfl) rfl rfl ?_
    cases hf
    exact jr_iret K E (D_at DX7_shadiest_q5 3 rfl) rfl ⟨rfl, rfl⟩
  · replace hf := (if_neg c26).symm.trans hf
    refine jr_aload_n K (D_at DX7_shadiest_q1 5 rfl) rfl rfl ?_
    obtain ⟨p30, e30, hf⟩ := jbind hf
    refine jr_getR K (D_at DX7_shadiest_q1 6 rfl) fg_X7_22_5 e30 ?_
    refine jr_aload_n K (D_at DX7_shadiest_q1 7 rfl) rfl rfl ?_
    obtain ⟨h34, e34, hf⟩ := jbind hf
    obtain ⟨rc_34, e34⟩ := jcv_o e34
    refine jr_callV K (C_X8_hangAs (d + 1) e34) (D_at DX7_shadiest_q1 8 rfl) cv_X7_40_X8_hangAs (As := [.ref a1]) (ci := 6) rfl rc_34 rfl rfl (by exact Nat.le_of_ble_eq_true rfl) (kc2 := 0) (ks2 := 0) rfl rfl (fun k9 h9 w9 => by cases w9.1) (fun r9 h9 w9 => ?_)
    obtain ⟨w1, w2⟩ := w9
    subst h9
    cases w1
    show jJ G X _ 0 0 _ _ []
    refine jr_iconst K (D_at DX7_shadiest_q1 9 rfl) (v := (1 : Int32)) (by decide) ?_
    refine jr_istore K (D_at DX7_shadiest_q1 10 rfl) (i := 5) (by decide) (L2 := [_, _, _, _, _, _, _]) rfl ?_
    refine jr_keep [true, true, true, true, true, true, false] ?_
    exact J_X7_shadiest_40 K n rc18 hr18 E n a0 a1 x2 x3 x4 (1 : Int32) h34 hf
theorem J_X7_shadiest_18 {G : jG} {l : Launch} {d : Nat} {X : jX} {res : (Int32 × jH)} (K : jOK G l mX7_shadiest (d + 3) X) (n : Nat) (E : jEnd G mX7_shadiest (jPW res) X) (k : Nat) : ∀ (a0 : Nat) (a1 : Nat) (x2 : Int32) (x3 : Int32) (x4 : Int32) (h : jH), F_X7_shadiest_18 n k a0 a1 x2 x3 x4 h = some res → jJ G X h 0 0 18 [some (.ref a0), some (.ref a1), some (.int x2), some (.int x3), some (.int x4), none, none] [] := by
  induction k with
  | zero =>
    intro a0 a1 x2 x3 x4 h hf
    exact jno (show (none : Option (Int32 × jH)) = some res from hf)
  | succ k ih =>
    intro a0 a1 x2 x3 x4 h hf
    exact J_X7_shadiest_18_b K n (F_X7_shadiest_18 n k) ih E a0 a1 x2 x3 x4 h hf
set_option maxHeartbeats 400000 in
set_option maxRecDepth 100000 in
theorem J_X7_shadiest {G : jG} {l : Launch} {d : Nat} {X : jX} {res : (Int32 × jH)} (K : jOK G l mX7_shadiest (d + 3) X) (n : Nat) (E : jEnd G mX7_shadiest (jPW res) X) (a0 : Nat) (a1 : Nat) (h : jH) (hf : F_X7_shadiest n a0 a1 h = some res) : jJ G X h 0 0 0 [some (.ref a0), some (.ref a1), none, none, none, none, none] [] := by
  unfold F_X7_shadiest at hf
  refine jr_aload_n K (D_at DX7_shadiest_q0 0 rfl) rfl rfl ?_
  obtain ⟨p1, e1, hf⟩ := jbind hf
  refine jr_getR K (D_at DX7_shadiest_q0 1 rfl) fg_X7_22_5 e1 ?_
  refine jr_aload_n K (D_at DX7_shadiest_q0 2 rfl) rfl rfl ?_
  obtain ⟨h5, e5, hf⟩ := jbind hf
  obtain ⟨rc_5, e5⟩ := jcv_o e5
  refine jr_callV K (C_X8_copyFrom (d) e5) (D_at DX7_shadiest_q0 3 rfl) cv_X7_26_X8_copyFrom (As := [.ref a1]) (ci := 6) rfl rc_5 rfl rfl (by exact Nat.le_of_ble_eq_true rfl) (kc2 := 0) (ks2 := 0) rfl rfl (fun k9 h9 w9 => by cases w9.1) (fun r9 h9 w9 => ?_)
  obtain ⟨w1, w2⟩ := w9
  subst h9
  cases w1
  show jJ G X _ 0 0 _ _ []
  refine jr_aload_n K (D_at DX7_shadiest_q0 4 rfl) rfl rfl ?_
  obtain ⟨v9, e9, hf⟩ := jbind hf
  obtain ⟨rc_9, e9⟩ := jcv_o e9
  refine jr_callV K (C_X8_shadedChairs (d) e9) (D_at DX7_shadiest_q0 5 rfl) cv_X7_32_X8_shadedChairs (As := []) (ci := 6) rfl rc_9 rfl rfl (by exact Nat.le_of_ble_eq_true rfl) (kc2 := 0) (ks2 := 0) rfl rfl (fun k9 h9 w9 => by cases w9.1) (fun r9 h9 w9 => ?_)
  obtain ⟨w1, w2⟩ := w9
  subst h9
  cases w1
  show jJ G X _ 0 0 _ _ (.int v9 :: _)
  refine jr_istore_n K (D_at DX7_shadiest_q0 6 rfl) (i := 2) rfl (by decide) (L2 := [_, _, _, _, _, _, _]) rfl ?_
  refine jr_iconst K (D_at DX7_shadiest_q0 7 rfl) (v := (-1 : Int32)) (by decide) ?_
  refine jr_istore_n K (D_at DX7_shadiest_q0 8 rfl) (i := 3) rfl (by decide) (L2 := [_, _, _, _, _, _, _]) rfl ?_
  refine jr_iconst K (D_at DX7_shadiest_q0 9 rfl) (v := (0 : Int32)) (by decide) ?_
  refine jr_istore K (D_at DX7_shadiest_q0 10 rfl) (i := 4) (by decide) (L2 := [_, _, _, _, _, _, _]) rfl ?_
  refine jr_keep [true, true, true, true, true, false, false] ?_
  exact J_X7_shadiest_18 K n E n a0 a1 v9 (-1 : Int32) (0 : Int32) h5 hf
theorem C_X7_shadiest {G : jG} {l : Launch} (d : Nat) {n : Nat} {a0 : Nat} {a1 : Nat} {h : jH} {res : (Int32 × jH)} (hf : F_X7_shadiest n a0 a1 h = some res) : jC G l mX7_shadiest (d + 3) 0 0 [.ref a0, .ref a1] h (jPW res) :=
  jC.of pn_X7 (jcats rfl) (Nat.le_of_ble_eq_true rfl) (fun X K E => J_X7_shadiest K n E a0 a1 h hf)
set_option maxHeartbeats 400000 in
set_option maxRecDepth 100000 in
theorem J_X7_stepsToShade_37 {G : jG} {l : Launch} {d : Nat} {X : jX} {res : (Int32 × jH)} (K : jOK G l mX7_stepsToShade (d + 3) X) (n : Nat) (rc11 : Nat → Int32 → Int32 → Int32 → jH → Option (Int32 × jH)) (hr11 : ∀ (a0 : Nat) (x2 : Int32) (x3 : Int32) (x4 : Int32) (h : jH), rc11 a0 x2 x3 x4 h = some res → jJ G X h 0 0 11 [some (.ref a0), none, some (.int x2), some (.int x3), some (.int x4)] []) (E : jEnd G mX7_stepsToShade (jPW res) X) (a0 : Nat) (x2 : Int32) (x3 : Int32) (x4 : Int32) (sa0 : Nat) (s1 : Int32) (s2 : Int32) (h : jH) (hf : F_X7_stepsToShade_37 n rc11 a0 x2 x3 x4 sa0 s1 s2 h = some res) : jJ G X h 0 0 37 [some (.ref a0), none, some (.int x2), some (.int x3), some (.int x4)] [.int s2, .int s1, .ref sa0] := by
  unfold F_X7_stepsToShade_37 at hf
  refine jr_iconst K (D_at DX7_stepsToShade_q1 10 rfl) (v := (1 : Int32)) (by decide) ?_
  obtain ⟨q38, e38, hf⟩ := jbind hf
  obtain ⟨rc_38, e38⟩ := jcv_o e38
  refine jr_callV K (C_X8_move (d) e38) (D_at DX7_stepsToShade_q1 11 rfl) cv_X7_43_X8_move (As := [.int s1, .int s2, .int (1 : Int32)]) (ci := 6) rfl rc_38 rfl rfl (by exact Nat.le_of_ble_eq_true rfl) (kc2 := 0) (ks2 := 0) rfl rfl (fun k9 h9 w9 => by cases w9.1) (fun r9 h9 w9 => ?_)
  obtain ⟨w1, w2⟩ := w9
  subst h9
  cases w1
  show jJ G X _ 0 0 _ _ (.int q38.1 :: _)
  refine jr_iconst K (D_at DX7_stepsToShade_q2 0 rfl) (v := (1 : Int32)) (by decide) ?_
  refine jr_icmp_ne K (D_at DX7_stepsToShade_q2 1 rfl) (tgt := 67) (by decide) (fun c42 => ?_) (fun c42 => ?_)
  · replace hf := (if_neg c42).symm.trans hf
    refine jr_iconst K (D_at DX7_stepsToShade_q3 1 rfl) (v := (-1 : Int32)) (by decide) ?_
    cases hf
    exact jr_iret K E (D_at DX7_stepsToShade_q3 2 rfl) rfl ⟨rfl, rfl⟩
  · replace hf := (if_pos c42).symm.trans hf
    refine jr_aload_n K (D_at DX7_stepsToShade_q2 2 rfl) rfl rfl ?_
    obtain ⟨p46, e46, hf⟩ := jbind hf
    refine jr_getR K (D_at DX7_stepsToShade_q2 3 rfl) fg_X7_22_5 e46 ?_
    obtain ⟨v49, e49, hf⟩ := jbind hf
    obtain ⟨rc_49, e49⟩ := jcv_o e49
    refine jr_callV K (C_X8_shadow (d + 1) e49) (D_at DX7_stepsToShade_q2 4 rfl) cv_X7_50_X8_shadow (As := []) (ci := 6) rfl rc_49 rfl rfl (by exact Nat.le_of_ble_eq_true rfl) (kc2 := 0) (ks2 := 0) rfl rfl (fun k9 h9 w9 => by cases w9.1) (fun r9 h9 w9 => ?_)
    obtain ⟨w1, w2⟩ := w9
    subst h9
    cases w1
    show jJ G X _ 0 0 _ _ (.int v49 :: _)
    refine jr_iload_n K (D_at DX7_stepsToShade_q2 5 rfl) rfl rfl ?_
    refine jr_iand K (D_at DX7_stepsToShade_q2 6 rfl) ?_
    refine jr_iload_n K (D_at DX7_stepsToShade_q2 7 rfl) rfl rfl ?_
    refine jr_icmp_ne K (D_at DX7_stepsToShade_q2 8 rfl) (tgt := 61) (by decide) (fun c55 => ?_) (fun c55 => ?_)
    · replace hf := (if_neg c55).symm.trans hf
      refine jr_iinc K (D_at DX7_stepsToShade_q2 11 rfl) (i := 4) rfl (v := x4 + (1 : Int32)) (jinc (by decide)) (by decide) (L2 := [_, _, _, _, _]) rfl ?_
      refine jr_goto K (D_at DX7_stepsToShade_q3 0 rfl) (tgt := 11) (by decide) ?_
      refine jr_keep [true, false, true, true, true] ?_
      exact hr11 a0 x2 x3 (x4 + (1 : Int32)) q38.2 hf
    · replace hf := (if_pos c55).symm.trans hf
      refine jr_iload K (D_at DX7_stepsToShade_q2 9 rfl) rfl ?_
      cases hf
      exact jr_iret K E (D_at DX7_stepsToShade_q2 10 rfl) rfl ⟨rfl, rfl⟩
set_option maxHeartbeats 400000 in
set_option maxRecDepth 100000 in
theorem J_X7_stepsToShade_11_b {G : jG} {l : Launch} {d : Nat} {X : jX} {res : (Int32 × jH)} (K : jOK G l mX7_stepsToShade (d + 3) X) (n : Nat) (rc11 : Nat → Int32 → Int32 → Int32 → jH → Option (Int32 × jH)) (hr11 : ∀ (a0 : Nat) (x2 : Int32) (x3 : Int32) (x4 : Int32) (h : jH), rc11 a0 x2 x3 x4 h = some res → jJ G X h 0 0 11 [some (.ref a0), none, some (.int x2), some (.int x3), some (.int x4)] []) (E : jEnd G mX7_stepsToShade (jPW res) X) (a0 : Nat) (x2 : Int32) (x3 : Int32) (x4 : Int32) (h : jH) (hf : F_X7_stepsToShade_11_b n rc11 a0 x2 x3 x4 h = some res) : jJ G X h 0 0 11 [some (.ref a0), none, some (.int x2), some (.int x3), some (.int x4)] [] := by
  unfold F_X7_stepsToShade_11_b at hf
  refine jr_iload K (D_at DX7_stepsToShade_q0 6 rfl) rfl ?_
  refine jr_bipush K (D_at DX7_stepsToShade_q0 7 rfl) (v := (31 : Int32)) (by decide) ?_
  refine jr_icmp_gt K (D_at DX7_stepsToShade_q0 8 rfl) (tgt := 67) (by decide) (fun c15 => ?_) (fun c15 => ?_)
  · replace hf := (if_pos c15).symm.trans hf
    refine jr_iconst K (D_at DX7_stepsToShade_q3 1 rfl) (v := (-1 : Int32)) (by decide) ?_
    cases hf
    exact jr_iret K E (D_at DX7_stepsToShade_q3 2 rfl) rfl ⟨rfl, rfl⟩
  · replace hf := (if_neg c15).symm.trans hf
    refine jr_aload_n K (D_at DX7_stepsToShade_q0 9 rfl) rfl rfl ?_
    obtain ⟨p19, e19, hf⟩ := jbind hf
    refine jr_getR K (D_at DX7_stepsToShade_q0 10 rfl) fg_X7_22_5 e19 ?_
    refine jr_iload_n K (D_at DX7_stepsToShade_q0 11 rfl) rfl rfl ?_
    refine jr_iconst K (D_at DX7_stepsToShade_q1 0 rfl) (v := (2 : Int32)) (by decide) ?_
    refine jr_idiv K (D_at DX7_stepsToShade_q1 1 rfl) (by decide) ?_
    refine jr_iload_n K (D_at DX7_stepsToShade_q1 2 rfl) rfl rfl ?_
    refine jr_iconst K (D_at DX7_stepsToShade_q1 3 rfl) (v := (2 : Int32)) (by decide) ?_
    refine jr_irem K (D_at DX7_stepsToShade_q1 4 rfl) (by decide) ?_
    refine jr_iconst K (D_at DX7_stepsToShade_q1 5 rfl) (v := (1 : Int32)) (by decide) ?_
    refine jr_icmp_ne K (D_at DX7_stepsToShade_q1 6 rfl) (tgt := 36) (by decide) (fun c29 => ?_) (fun c29 => ?_)
    · replace hf := (if_neg c29).symm.trans hf
      refine jr_iconst K (D_at DX7_stepsToShade_q1 9 rfl) (v := (0 : Int32)) (by decide) ?_
      refine jr_keep [true, false, true, true, true] ?_
      exact J_X7_stepsToShade_37 K n rc11 hr11 E a0 x2 x3 x4 p19 (x3 / (2 : Int32)) (0 : Int32) h hf
    · replace hf := (if_pos c29).symm.trans hf
      refine jr_iconst K (D_at DX7_stepsToShade_q1 7 rfl) (v := (1 : Int32)) (by decide) ?_
      refine jr_goto K (D_at DX7_stepsToShade_q1 8 rfl) (tgt := 37) (by decide) ?_
      refine jr_keep [true, false, true, true, true] ?_
      exact J_X7_stepsToShade_37 K n rc11 hr11 E a0 x2 x3 x4 p19 (x3 / (2 : Int32)) (1 : Int32) h hf
theorem J_X7_stepsToShade_11 {G : jG} {l : Launch} {d : Nat} {X : jX} {res : (Int32 × jH)} (K : jOK G l mX7_stepsToShade (d + 3) X) (n : Nat) (E : jEnd G mX7_stepsToShade (jPW res) X) (k : Nat) : ∀ (a0 : Nat) (x2 : Int32) (x3 : Int32) (x4 : Int32) (h : jH), F_X7_stepsToShade_11 n k a0 x2 x3 x4 h = some res → jJ G X h 0 0 11 [some (.ref a0), none, some (.int x2), some (.int x3), some (.int x4)] [] := by
  induction k with
  | zero =>
    intro a0 x2 x3 x4 h hf
    exact jno (show (none : Option (Int32 × jH)) = some res from hf)
  | succ k ih =>
    intro a0 x2 x3 x4 h hf
    exact J_X7_stepsToShade_11_b K n (F_X7_stepsToShade_11 n k) ih E a0 x2 x3 x4 h hf
set_option maxHeartbeats 400000 in
set_option maxRecDepth 100000 in
theorem J_X7_stepsToShade {G : jG} {l : Launch} {d : Nat} {X : jX} {res : (Int32 × jH)} (K : jOK G l mX7_stepsToShade (d + 3) X) (n : Nat) (E : jEnd G mX7_stepsToShade (jPW res) X) (a0 : Nat) (a1 : Nat) (x2 : Int32) (x3 : Int32) (h : jH) (hf : F_X7_stepsToShade n a0 a1 x2 x3 h = some res) : jJ G X h 0 0 0 [some (.ref a0), some (.ref a1), some (.int x2), some (.int x3), none] [] := by
  unfold F_X7_stepsToShade at hf
  refine jr_aload_n K (D_at DX7_stepsToShade_q0 0 rfl) rfl rfl ?_
  obtain ⟨p1, e1, hf⟩ := jbind hf
  refine jr_getR K (D_at DX7_stepsToShade_q0 1 rfl) fg_X7_22_5 e1 ?_
  refine jr_aload_n K (D_at DX7_stepsToShade_q0 2 rfl) rfl rfl ?_
  obtain ⟨h5, e5, hf⟩ := jbind hf
  obtain ⟨rc_5, e5⟩ := jcv_o e5
  refine jr_callV K (C_X8_hangAs (d + 1) e5) (D_at DX7_stepsToShade_q0 3 rfl) cv_X7_40_X8_hangAs (As := [.ref a1]) (ci := 6) rfl rc_5 rfl rfl (by exact Nat.le_of_ble_eq_true rfl) (kc2 := 0) (ks2 := 0) rfl rfl (fun k9 h9 w9 => by cases w9.1) (fun r9 h9 w9 => ?_)
  obtain ⟨w1, w2⟩ := w9
  subst h9
  cases w1
  show jJ G X _ 0 0 _ _ []
  refine jr_iconst K (D_at DX7_stepsToShade_q0 4 rfl) (v := (1 : Int32)) (by decide) ?_
  refine jr_istore K (D_at DX7_stepsToShade_q0 5 rfl) (i := 4) (by decide) (L2 := [_, _, _, _, _]) rfl ?_
  refine jr_keep [true, false, true, true, true] ?_
  exact J_X7_stepsToShade_11 K n E n a0 x2 x3 (1 : Int32) h5 hf
theorem C_X7_stepsToShade {G : jG} {l : Launch} (d : Nat) {n : Nat} {a0 : Nat} {a1 : Nat} {x2 : Int32} {x3 : Int32} {h : jH} {res : (Int32 × jH)} (hf : F_X7_stepsToShade n a0 a1 x2 x3 h = some res) : jC G l mX7_stepsToShade (d + 3) 0 0 [.ref a0, .ref a1, .int x2, .int x3] h (jPW res) :=
  jC.of pn_X7 (jcats rfl) (Nat.le_of_ble_eq_true rfl) (fun X K E => J_X7_stepsToShade K n E a0 a1 x2 x3 h hf)
set_option maxHeartbeats 400000 in
set_option maxRecDepth 100000 in
theorem J_X7_seekShade_42_b {G : jG} {l : Launch} {d : Nat} {X : jX} {res : jH} (K : jOK G l mX7_seekShade (d + 4) X) (n : Nat) (rc42 : Nat → Nat → Int32 → Int32 → jH → Option jH) (hr42 : ∀ (a0 : Nat) (a1 : Nat) (x2 : Int32) (x3 : Int32) (h : jH), rc42 a0 a1 x2 x3 h = some res → jJ G X h 0 0 42 [some (.ref a0), some (.ref a1), some (.int x2), some (.int x3), none] []) (E : jEnd G mX7_seekShade (jPV res) X) (a0 : Nat) (a1 : Nat) (x2 : Int32) (x3 : Int32) (h : jH) (hf : F_X7_seekShade_42_b n rc42 a0 a1 x2 x3 h = some res) : jJ G X h 0 0 42 [some (.ref a0), some (.ref a1), some (.int x2), some (.int x3), none] [] := by
  unfold F_X7_seekShade_42_b at hf
  refine jr_iload_n K (D_at DX7_seekShade_q2 0 rfl) rfl rfl ?_
  refine jr_iconst K (D_at DX7_seekShade_q2 1 rfl) (v := (2 : Int32)) (by decide) ?_
  refine jr_aload_n K (D_at DX7_seekShade_q2 2 rfl) rfl rfl ?_
  obtain ⟨v45, e45, hf⟩ := jbind hf
  refine jr_getI K (D_at DX7_seekShade_q2 3 rfl) fg_X7_36_6 e45 ?_
  refine jr_imul K (D_at DX7_seekShade_q2 4 rfl) ?_
  refine jr_icmp_ge K (D_at DX7_seekShade_q2 5 rfl) (tgt := 101) (by decide) (fun c49 => ?_) (fun c49 => ?_)
  · replace hf := (if_pos c49).symm.trans hf
    cases hf
    exact jr_vret K E (D_at DX7_seekShade_q4 7 rfl) rfl ⟨rfl, rfl⟩
  · replace hf := (if_neg c49).symm.trans hf
    refine jr_aload_n K (D_at DX7_seekShade_q2 6 rfl) rfl rfl ?_
    refine jr_aload_n K (D_at DX7_seekShade_q2 7 rfl) rfl rfl ?_
    refine jr_iload_n K (D_at DX7_seekShade_q2 8 rfl) rfl rfl ?_
    refine jr_iload_n K (D_at DX7_seekShade_q2 9 rfl) rfl rfl ?_
    obtain ⟨q56, e56, hf⟩ := jbind hf
    obtain ⟨rc_56, e56⟩ := jcv_o e56
    refine jr_callV K (C_X7_stepsToShade (d) e56) (D_at DX7_seekShade_q2 10 rfl) cv_X7_56_X7_stepsToShade (As := [.ref a1, .int x2, .int x3]) (ci := 5) rfl rc_56 rfl rfl (by exact Nat.le_of_ble_eq_true rfl) (kc2 := 0) (ks2 := 0) rfl rfl (fun k9 h9 w9 => by cases w9.1) (fun r9 h9 w9 => ?_)
    obtain ⟨w1, w2⟩ := w9
    subst h9
    cases w1
    show jJ G X _ 0 0 _ _ (.int q56.1 :: _)
    refine jr_istore K (D_at DX7_seekShade_q2 11 rfl) (i := 4) (by decide) (L2 := [_, _, _, _, _]) rfl ?_
    refine jr_iload K (D_at DX7_seekShade_q3 0 rfl) rfl ?_
    refine jr_iconst K (D_at DX7_seekShade_q3 1 rfl) (v := (-1 : Int32)) (by decide) ?_
    refine jr_icmp_eq K (D_at DX7_seekShade_q3 2 rfl) (tgt := 95) (by decide) (fun c64 => ?_) (fun c64 => ?_)
    · replace hf := (if_pos c64).symm.trans hf
      refine jr_iinc K (D_at DX7_seekShade_q4 5 rfl) (i := 3) rfl (v := x3 + (1 : Int32)) (jinc (by decide)) (by decide) (L2 := [_, _, _, _, _]) rfl ?_
      refine jr_goto K (D_at DX7_seekShade_q4 6 rfl) (tgt := 42) (by decide) ?_
      refine jr_keep [true, true, true, true, false] ?_
      exact hr42 a0 a1 x2 (x3 + (1 : Int32)) q56.2 hf
    · replace hf := (if_neg c64).symm.trans hf
      refine jr_aload_n K (D_at DX7_seekShade_q3 3 rfl) rfl rfl ?_
      obtain ⟨v68, e68, hf⟩ := jbind hf
      refine jr_getI K (D_at DX7_seekShade_q3 4 rfl) fg_X7_53_5 e68 ?_
      refine jr_iconst K (D_at DX7_seekShade_q3 5 rfl) (v := (-1 : Int32)) (by decide) ?_
      refine jr_icmp_eq K (D_at DX7_seekShade_q3 6 rfl) (tgt := 84) (by decide) (fun c72 => ?_) (fun c72 => ?_)
      · replace hf := (if_pos c72).symm.trans hf
        refine jr_aload_n K (D_at DX7_seekShade_q3 11 rfl) rfl rfl ?_
        refine jr_iload K (D_at DX7_seekShade_q4 0 rfl) rfl ?_
        obtain ⟨h87, e87, hf⟩ := jbind hf
        refine jr_putI K (D_at DX7_seekShade_q4 1 rfl) fp_X7_53_5 (Or.inl rfl) e87 ?_
        refine jr_aload_n K (D_at DX7_seekShade_q4 2 rfl) rfl rfl ?_
        refine jr_iload_n K (D_at DX7_seekShade_q4 3 rfl) rfl rfl ?_
        obtain ⟨h92, e92, hf⟩ := jbind hf
        refine jr_putI K (D_at DX7_seekShade_q4 4 rfl) fp_X7_47_5 (Or.inl rfl) e92 ?_
        refine jr_iinc K (D_at DX7_seekShade_q4 5 rfl) (i := 3) rfl (v := x3 + (1 : Int32)) (jinc (by decide)) (by decide) (L2 := [_, _, _, _, _]) rfl ?_
        refine jr_goto K (D_at DX7_seekShade_q4 6 rfl) (tgt := 42) (by decide) ?_
        refine jr_keep [true, true, true, true, false] ?_
        exact hr42 a0 a1 x2 (x3 + (1 : Int32)) h92 hf
      · replace hf := (if_neg c72).symm.trans hf
        refine jr_iload K (D_at DX7_seekShade_q3 7 rfl) rfl ?_
        refine jr_aload_n K (D_at DX7_seekShade_q3 8 rfl) rfl rfl ?_
        obtain ⟨v78, e78, hf⟩ := jbind hf
        refine jr_getI K (D_at DX7_seekShade_q3 9 rfl) fg_X7_53_5 e78 ?_
        refine jr_icmp_ge K (D_at DX7_seekShade_q3 10 rfl) (tgt := 95) (by decide) (fun c81 => ?_) (fun c81 => ?_)
        · replace hf := (if_pos c81).symm.trans hf
          refine jr_iinc K (D_at DX7_seekShade_q4 5 rfl) (i := 3) rfl (v := x3 + (1 : Int32)) (jinc (by decide)) (by decide) (L2 := [_, _, _, _, _]) rfl ?_
          refine jr_goto K (D_at DX7_seekShade_q4 6 rfl) (tgt := 42) (by decide) ?_
          refine jr_keep [true, true, true, true, false] ?_
          exact hr42 a0 a1 x2 (x3 + (1 : Int32)) q56.2 hf
        · replace hf := (if_neg c81).symm.trans hf
          refine jr_aload_n K (D_at DX7_seekShade_q3 11 rfl) rfl rfl ?_
          refine jr_iload K (D_at DX7_seekShade_q4 0 rfl) rfl ?_
          obtain ⟨h87, e87, hf⟩ := jbind hf
          refine jr_putI K (D_at DX7_seekShade_q4 1 rfl) fp_X7_53_5 (Or.inl rfl) e87 ?_
          refine jr_aload_n K (D_at DX7_seekShade_q4 2 rfl) rfl rfl ?_
          refine jr_iload_n K (D_at DX7_seekShade_q4 3 rfl) rfl rfl ?_
          obtain ⟨h92, e92, hf⟩ := jbind hf
          refine jr_putI K (D_at DX7_seekShade_q4 4 rfl) fp_X7_47_5 (Or.inl rfl) e92 ?_
          refine jr_iinc K (D_at DX7_seekShade_q4 5 rfl) (i := 3) rfl (v := x3 + (1 : Int32)) (jinc (by decide)) (by decide) (L2 := [_, _, _, _, _]) rfl ?_
          refine jr_goto K (D_at DX7_seekShade_q4 6 rfl) (tgt := 42) (by decide) ?_
          refine jr_keep [true, true, true, true, false] ?_
          exact hr42 a0 a1 x2 (x3 + (1 : Int32)) h92 hf
theorem J_X7_seekShade_42 {G : jG} {l : Launch} {d : Nat} {X : jX} {res : jH} (K : jOK G l mX7_seekShade (d + 4) X) (n : Nat) (E : jEnd G mX7_seekShade (jPV res) X) (k : Nat) : ∀ (a0 : Nat) (a1 : Nat) (x2 : Int32) (x3 : Int32) (h : jH), F_X7_seekShade_42 n k a0 a1 x2 x3 h = some res → jJ G X h 0 0 42 [some (.ref a0), some (.ref a1), some (.int x2), some (.int x3), none] [] := by
  induction k with
  | zero =>
    intro a0 a1 x2 x3 h hf
    exact jno (show (none : Option jH) = some res from hf)
  | succ k ih =>
    intro a0 a1 x2 x3 h hf
    exact J_X7_seekShade_42_b K n (F_X7_seekShade_42 n k) ih E a0 a1 x2 x3 h hf
set_option maxHeartbeats 400000 in
set_option maxRecDepth 100000 in
theorem J_X7_seekShade_21 {G : jG} {l : Launch} {d : Nat} {X : jX} {res : jH} (K : jOK G l mX7_seekShade (d + 4) X) (n : Nat) (E : jEnd G mX7_seekShade (jPV res) X) (a0 : Nat) (a1 : Nat) (x2 : Int32) (sa0 : Nat) (s1 : Int32) (h : jH) (hf : F_X7_seekShade_21 n a0 a1 x2 sa0 s1 h = some res) : jJ G X h 0 0 21 [some (.ref a0), some (.ref a1), some (.int x2), none, none] [.int s1, .ref sa0] := by
  unfold F_X7_seekShade_21 at hf
  obtain ⟨h21, e21, hf⟩ := jbind hf
  refine jr_putI K (D_at DX7_seekShade_q1 1 rfl) fp_X7_53_5 (Or.inl rfl) e21 ?_
  refine jr_aload_n K (D_at DX7_seekShade_q1 2 rfl) rfl rfl ?_
  obtain ⟨v25, e25, hf⟩ := jbind hf
  refine jr_getI K (D_at DX7_seekShade_q1 3 rfl) fg_X7_53_5 e25 ?_
  refine jr_if_ne K (D_at DX7_seekShade_q1 4 rfl) (tgt := 32) (by decide) (fun c28 => ?_) (fun c28 => ?_)
  · replace hf := (if_neg c28).symm.trans hf
    refine jr_aload_n K (D_at DX7_seekShade_q1 6 rfl) rfl rfl ?_
    obtain ⟨p33, e33, hf⟩ := jbind hf
    refine jr_getR K (D_at DX7_seekShade_q1 7 rfl) fg_X7_22_5 e33 ?_
    refine jr_aload_n K (D_at DX7_seekShade_q1 8 rfl) rfl rfl ?_
    obtain ⟨h37, e37, hf⟩ := jbind hf
    obtain ⟨rc_37, e37⟩ := jcv_o e37
    refine jr_callV K (C_X8_copyFrom (d + 1) e37) (D_at DX7_seekShade_q1 9 rfl) cv_X7_26_X8_copyFrom (As := [.ref a1]) (ci := 6) rfl rc_37 rfl rfl (by exact Nat.le_of_ble_eq_true rfl) (kc2 := 0) (ks2 := 0) rfl rfl (fun k9 h9 w9 => by cases w9.1) (fun r9 h9 w9 => ?_)
    obtain ⟨w1, w2⟩ := w9
    subst h9
    cases w1
    show jJ G X _ 0 0 _ _ []
    refine jr_iconst K (D_at DX7_seekShade_q1 10 rfl) (v := (0 : Int32)) (by decide) ?_
    refine jr_istore_n K (D_at DX7_seekShade_q1 11 rfl) (i := 3) rfl (by decide) (L2 := [_, _, _, _, _]) rfl ?_
    refine jr_keep [true, true, true, true, false] ?_
    exact J_X7_seekShade_42 K n E n a0 a1 x2 (0 : Int32) h37 hf
  · replace hf := (if_pos c28).symm.trans hf
    cases hf
    exact jr_vret K E (D_at DX7_seekShade_q1 5 rfl) rfl ⟨rfl, rfl⟩
set_option maxHeartbeats 400000 in
set_option maxRecDepth 100000 in
theorem J_X7_seekShade {G : jG} {l : Launch} {d : Nat} {X : jX} {res : jH} (K : jOK G l mX7_seekShade (d + 4) X) (n : Nat) (E : jEnd G mX7_seekShade (jPV res) X) (a0 : Nat) (a1 : Nat) (x2 : Int32) (h : jH) (hf : F_X7_seekShade n a0 a1 x2 h = some res) : jJ G X h 0 0 0 [some (.ref a0), some (.ref a1), some (.int x2), none, none] [] := by
  unfold F_X7_seekShade at hf
  refine jr_aload_n K (D_at DX7_seekShade_q0 0 rfl) rfl rfl ?_
  refine jr_iconst K (D_at DX7_seekShade_q0 1 rfl) (v := (-1 : Int32)) (by decide) ?_
  obtain ⟨h2, e2, hf⟩ := jbind hf
  refine jr_putI K (D_at DX7_seekShade_q0 2 rfl) fp_X7_47_5 (Or.inl rfl) e2 ?_
  refine jr_aload_n K (D_at DX7_seekShade_q0 3 rfl) rfl rfl ?_
  refine jr_aload_n K (D_at DX7_seekShade_q0 4 rfl) rfl rfl ?_
  obtain ⟨v7, e7, hf⟩ := jbind hf
  obtain ⟨rc_7, e7⟩ := jcv_o e7
  refine jr_callV K (C_X8_shadow (d + 2) e7) (D_at DX7_seekShade_q0 5 rfl) cv_X7_50_X8_shadow (As := []) (ci := 6) rfl rc_7 rfl rfl (by exact Nat.le_of_ble_eq_true rfl) (kc2 := 0) (ks2 := 0) rfl rfl (fun k9 h9 w9 => by cases w9.1) (fun r9 h9 w9 => ?_)
  obtain ⟨w1, w2⟩ := w9
  subst h9
  cases w1
  show jJ G X _ 0 0 _ _ (.int v7 :: _)
  refine jr_iload_n K (D_at DX7_seekShade_q0 6 rfl) rfl rfl ?_
  refine jr_iand K (D_at DX7_seekShade_q0 7 rfl) ?_
  refine jr_iload_n K (D_at DX7_seekShade_q0 8 rfl) rfl rfl ?_
  refine jr_icmp_ne K (D_at DX7_seekShade_q0 9 rfl) (tgt := 20) (by decide) (fun c13 => ?_) (fun c13 => ?_)
  · replace hf := (if_neg c13).symm.trans hf
    refine jr_iconst K (D_at DX7_seekShade_q1 0 rfl) (v := (-1 : Int32)) (by decide) ?_
    refine jr_keep [true, true, true, false, false] ?_
    exact J_X7_seekShade_21 K n E a0 a1 x2 a0 (-1 : Int32) h2 hf
  · replace hf := (if_pos c13).symm.trans hf
    refine jr_iconst K (D_at DX7_seekShade_q0 10 rfl) (v := (0 : Int32)) (by decide) ?_
    refine jr_goto K (D_at DX7_seekShade_q0 11 rfl) (tgt := 21) (by decide) ?_
    refine jr_keep [true, true, true, false, false] ?_
    exact J_X7_seekShade_21 K n E a0 a1 x2 a0 (0 : Int32) h2 hf
theorem C_X7_seekShade {G : jG} {l : Launch} (d : Nat) {n : Nat} {a0 : Nat} {a1 : Nat} {x2 : Int32} {h : jH} {res : jH} (hf : F_X7_seekShade n a0 a1 x2 h = some res) : jC G l mX7_seekShade (d + 4) 0 0 [.ref a0, .ref a1, .int x2] h (jPV res) :=
  jC.of pn_X7 (jcats rfl) (Nat.le_of_ble_eq_true rfl) (fun X K E => J_X7_seekShade K n E a0 a1 x2 h hf)
set_option maxHeartbeats 400000 in
set_option maxRecDepth 100000 in
theorem J_X7_farWith {G : jG} {l : Launch} {d : Nat} {X : jX} {res : (Int32 × jH)} (K : jOK G l mX7_farWith (d + 3) X) (n : Nat) (E : jEnd G mX7_farWith (jPW res) X) (a0 : Nat) (a1 : Nat) (x2 : Int32) (x3 : Int32) (x4 : Int32) (x5 : Int32) (h : jH) (hf : F_X7_farWith n a0 a1 x2 x3 x4 x5 h = some res) : jJ G X h 0 0 0 [some (.ref a0), some (.ref a1), some (.int x2), some (.int x3), some (.int x4), some (.int x5)] [] := by
  unfold F_X7_farWith at hf
  refine jr_aload_n K (D_at DX7_farWith_q0 0 rfl) rfl rfl ?_
  obtain ⟨p1, e1, hf⟩ := jbind hf
  refine jr_getR K (D_at DX7_farWith_q0 1 rfl) fg_X7_22_5 e1 ?_
  refine jr_aload_n K (D_at DX7_farWith_q0 2 rfl) rfl rfl ?_
  obtain ⟨h5, e5, hf⟩ := jbind hf
  obtain ⟨rc_5, e5⟩ := jcv_o e5
  refine jr_callV K (C_X8_hangAs (d + 1) e5) (D_at DX7_farWith_q0 3 rfl) cv_X7_40_X8_hangAs (As := [.ref a1]) (ci := 6) rfl rc_5 rfl rfl (by exact Nat.le_of_ble_eq_true rfl) (kc2 := 0) (ks2 := 0) rfl rfl (fun k9 h9 w9 => by cases w9.1) (fun r9 h9 w9 => ?_)
  obtain ⟨w1, w2⟩ := w9
  subst h9
  cases w1
  show jJ G X _ 0 0 _ _ []
  refine jr_aload_n K (D_at DX7_farWith_q0 4 rfl) rfl rfl ?_
  obtain ⟨p9, e9, hf⟩ := jbind hf
  refine jr_getR K (D_at DX7_farWith_q0 5 rfl) fg_X7_22_5 e9 ?_
  refine jr_iload_n K (D_at DX7_farWith_q0 6 rfl) rfl rfl ?_
  obtain ⟨h13, e13, hf⟩ := jbind hf
  refine jr_putI K (D_at DX7_farWith_q0 7 rfl) fp_X7_66_6 (Or.inl rfl) e13 ?_
  refine jr_aload_n K (D_at DX7_farWith_q0 8 rfl) rfl rfl ?_
  obtain ⟨p17, e17, hf⟩ := jbind hf
  refine jr_getR K (D_at DX7_farWith_q0 9 rfl) fg_X7_22_5 e17 ?_
  refine jr_iload_n K (D_at DX7_farWith_q0 10 rfl) rfl rfl ?_
  refine jr_iload K (D_at DX7_farWith_q0 11 rfl) rfl ?_
  refine jr_iload K (D_at DX7_farWith_q1 0 rfl) rfl ?_
  obtain ⟨q25, e25, hf⟩ := jbind hf
  obtain ⟨rc_25, e25⟩ := jcv_o e25
  refine jr_callV K (C_X8_move (d) e25) (D_at DX7_farWith_q1 1 rfl) cv_X7_43_X8_move (As := [.int x3, .int x4, .int x5]) (ci := 6) rfl rc_25 rfl rfl (by exact Nat.le_of_ble_eq_true rfl) (kc2 := 0) (ks2 := 0) rfl rfl (fun k9 h9 w9 => by cases w9.1) (fun r9 h9 w9 => ?_)
  obtain ⟨w1, w2⟩ := w9
  subst h9
  cases w1
  show jJ G X _ 0 0 _ _ (.int q25.1 :: _)
  cases hf
  exact jr_iret K E (D_at DX7_farWith_q1 2 rfl) rfl ⟨rfl, rfl⟩
theorem C_X7_farWith {G : jG} {l : Launch} (d : Nat) {n : Nat} {a0 : Nat} {a1 : Nat} {x2 : Int32} {x3 : Int32} {x4 : Int32} {x5 : Int32} {h : jH} {res : (Int32 × jH)} (hf : F_X7_farWith n a0 a1 x2 x3 x4 x5 h = some res) : jC G l mX7_farWith (d + 3) 0 0 [.ref a0, .ref a1, .int x2, .int x3, .int x4, .int x5] h (jPW res) :=
  jC.of pn_X7 (jcats rfl) (Nat.le_of_ble_eq_true rfl) (fun X K E => J_X7_farWith K n E a0 a1 x2 x3 x4 x5 h hf)
set_option maxHeartbeats 400000 in
set_option maxRecDepth 100000 in
theorem J_X7_fewestFreed_46 {G : jG} {l : Launch} {d : Nat} {X : jX} {res : (Int32 × jH)} (K : jOK G l mX7_fewestFreed (d + 4) X) (n : Nat) (rc14 : Nat → Nat → Int32 → Int32 → Int32 → Int32 → Int32 → jH → Option (Int32 × jH)) (hr14 : ∀ (a0 : Nat) (a1 : Nat) (x2 : Int32) (x3 : Int32) (x4 : Int32) (x5 : Int32) (x6 : Int32) (h : jH), rc14 a0 a1 x2 x3 x4 x5 x6 h = some res → jJ G X h 0 0 14 [some (.ref a0), some (.ref a1), some (.int x2), some (.int x3), some (.int x4), some (.int x5), some (.int x6), none] []) (E : jEnd G mX7_fewestFreed (jPW res) X) (a0 : Nat) (a1 : Nat) (x2 : Int32) (x3 : Int32) (x4 : Int32) (x5 : Int32) (x6 : Int32) (s0 : Int32) (h : jH) (hf : F_X7_fewestFreed_46 n rc14 a0 a1 x2 x3 x4 x5 x6 s0 h = some res) : jJ G X h 0 0 46 [some (.ref a0), some (.ref a1), some (.int x2), some (.int x3), some (.int x4), some (.int x5), some (.int x6), none] [.int s0] := by
  unfold F_X7_fewestFreed_46 at hf
  refine jr_istore K (D_at DX7_fewestFreed_q1 10 rfl) (i := 7) (by decide) (L2 := [_, _, _, _, _, _, _, _]) rfl ?_
  refine jr_iload K (D_at DX7_fewestFreed_q1 11 rfl) rfl ?_
  refine jr_aload_n K (D_at DX7_fewestFreed_q2 0 rfl) rfl rfl ?_
  obtain ⟨v51, e51, hf⟩ := jbind hf
  refine jr_getI K (D_at DX7_fewestFreed_q2 1 rfl) fg_X7_66_6 e51 ?_
  refine jr_iconst K (D_at DX7_fewestFreed_q2 2 rfl) (v := (-1 : Int32)) (by decide) ?_
  refine jr_ixor K (D_at DX7_fewestFreed_q2 3 rfl) ?_
  refine jr_iand K (D_at DX7_fewestFreed_q2 4 rfl) ?_
  refine jr_if_ne K (D_at DX7_fewestFreed_q2 5 rfl) (tgt := 92) (by decide) (fun c57 => ?_) (fun c57 => ?_)
  · replace hf := (if_neg c57).symm.trans hf
    refine jr_iinc K (D_at DX7_fewestFreed_q4 0 rfl) (i := 6) rfl (v := x6 + (1 : Int32)) (jinc (by decide)) (by decide) (L2 := [_, _, _, _, _, _, _, _]) rfl ?_
    refine jr_goto K (D_at DX7_fewestFreed_q4 1 rfl) (tgt := 14) (by decide) ?_
    refine jr_keep [true, true, true, true, true, true, true, false] ?_
    exact hr14 a0 a1 x2 x3 x4 x5 (x6 + (1 : Int32)) h hf
  · replace hf := (if_pos c57).symm.trans hf
    refine jr_iload K (D_at DX7_fewestFreed_q2 6 rfl) rfl ?_
    refine jr_if_eq K (D_at DX7_fewestFreed_q2 7 rfl) (tgt := 92) (by decide) (fun c62 => ?_) (fun c62 => ?_)
    · replace hf := (if_pos c62).symm.trans hf
      refine jr_iinc K (D_at DX7_fewestFreed_q4 0 rfl) (i := 6) rfl (v := x6 + (1 : Int32)) (jinc (by decide)) (by decide) (L2 := [_, _, _, _, _, _, _, _]) rfl ?_
      refine jr_goto K (D_at DX7_fewestFreed_q4 1 rfl) (tgt := 14) (by decide) ?_
      refine jr_keep [true, true, true, true, true, true, true, false] ?_
      exact hr14 a0 a1 x2 x3 x4 x5 (x6 + (1 : Int32)) h hf
    · replace hf := (if_neg c62).symm.trans hf
      refine jr_aload_n K (D_at DX7_fewestFreed_q2 8 rfl) rfl rfl ?_
      refine jr_aload_n K (D_at DX7_fewestFreed_q2 9 rfl) rfl rfl ?_
      refine jr_aload_n K (D_at DX7_fewestFreed_q2 10 rfl) rfl rfl ?_
      obtain ⟨v68, e68, hf⟩ := jbind hf
      refine jr_getI K (D_at DX7_fewestFreed_q2 11 rfl) fg_X7_66_6 e68 ?_
      refine jr_iload K (D_at DX7_fewestFreed_q3 0 rfl) rfl ?_
      refine jr_iconst K (D_at DX7_fewestFreed_q3 1 rfl) (v := (-1 : Int32)) (by decide) ?_
      refine jr_ixor K (D_at DX7_fewestFreed_q3 2 rfl) ?_
      refine jr_iand K (D_at DX7_fewestFreed_q3 3 rfl) ?_
      refine jr_iload_n K (D_at DX7_fewestFreed_q3 4 rfl) rfl rfl ?_
      refine jr_iload_n K (D_at DX7_fewestFreed_q3 5 rfl) rfl rfl ?_
      refine jr_iload K (D_at DX7_fewestFreed_q3 6 rfl) rfl ?_
      obtain ⟨q80, e80, hf⟩ := jbind hf
      obtain ⟨rc_80, e80⟩ := jcv_o e80
      refine jr_callV K (C_X7_farWith (d) e80) (D_at DX7_fewestFreed_q3 7 rfl) cv_X7_69_X7_farWith (As := [.ref a1, .int (v68 &&& (x6 ^^^ (-1 : Int32))), .int x2, .int x3, .int x4]) (ci := 5) rfl rc_80 rfl rfl (by exact Nat.le_of_ble_eq_true rfl) (kc2 := 0) (ks2 := 0) rfl rfl (fun k9 h9 w9 => by cases w9.1) (fun r9 h9 w9 => ?_)
      obtain ⟨w1, w2⟩ := w9
      subst h9
      cases w1
      show jJ G X _ 0 0 _ _ (.int q80.1 :: _)
      refine jr_iload K (D_at DX7_fewestFreed_q3 8 rfl) rfl ?_
      refine jr_icmp_ne K (D_at DX7_fewestFreed_q3 9 rfl) (tgt := 92) (by decide) (fun c85 => ?_) (fun c85 => ?_)
      · replace hf := (if_neg c85).symm.trans hf
        refine jr_iinc K (D_at DX7_fewestFreed_q4 0 rfl) (i := 6) rfl (v := x6 + (1 : Int32)) (jinc (by decide)) (by decide) (L2 := [_, _, _, _, _, _, _, _]) rfl ?_
        refine jr_goto K (D_at DX7_fewestFreed_q4 1 rfl) (tgt := 14) (by decide) ?_
        refine jr_keep [true, true, true, true, true, true, true, false] ?_
        exact hr14 a0 a1 x2 x3 x4 x5 (x6 + (1 : Int32)) q80.2 hf
      · replace hf := (if_pos c85).symm.trans hf
        refine jr_iload K (D_at DX7_fewestFreed_q3 10 rfl) rfl ?_
        refine jr_istore K (D_at DX7_fewestFreed_q3 11 rfl) (i := 5) (by decide) (L2 := [_, _, _, _, _, _, _, _]) rfl ?_
        refine jr_iinc K (D_at DX7_fewestFreed_q4 0 rfl) (i := 6) rfl (v := x6 + (1 : Int32)) (jinc (by decide)) (by decide) (L2 := [_, _, _, _, _, _, _, _]) rfl ?_
        refine jr_goto K (D_at DX7_fewestFreed_q4 1 rfl) (tgt := 14) (by decide) ?_
        refine jr_keep [true, true, true, true, true, true, true, false] ?_
        exact hr14 a0 a1 x2 x3 x4 x6 (x6 + (1 : Int32)) q80.2 hf
set_option maxHeartbeats 400000 in
set_option maxRecDepth 100000 in
theorem J_X7_fewestFreed_14_b {G : jG} {l : Launch} {d : Nat} {X : jX} {res : (Int32 × jH)} (K : jOK G l mX7_fewestFreed (d + 4) X) (n : Nat) (rc14 : Nat → Nat → Int32 → Int32 → Int32 → Int32 → Int32 → jH → Option (Int32 × jH)) (hr14 : ∀ (a0 : Nat) (a1 : Nat) (x2 : Int32) (x3 : Int32) (x4 : Int32) (x5 : Int32) (x6 : Int32) (h : jH), rc14 a0 a1 x2 x3 x4 x5 x6 h = some res → jJ G X h 0 0 14 [some (.ref a0), some (.ref a1), some (.int x2), some (.int x3), some (.int x4), some (.int x5), some (.int x6), none] []) (E : jEnd G mX7_fewestFreed (jPW res) X) (a0 : Nat) (a1 : Nat) (x2 : Int32) (x3 : Int32) (x4 : Int32) (x5 : Int32) (x6 : Int32) (h : jH) (hf : F_X7_fewestFreed_14_b n rc14 a0 a1 x2 x3 x4 x5 x6 h = some res) : jJ G X h 0 0 14 [some (.ref a0), some (.ref a1), some (.int x2), some (.int x3), some (.int x4), some (.int x5), some (.int x6), none] [] := by
  unfold F_X7_fewestFreed_14_b at hf
  refine jr_iload K (D_at DX7_fewestFreed_q0 8 rfl) rfl ?_
  refine jr_sipush K (D_at DX7_fewestFreed_q0 9 rfl) (v := (128 : Int32)) (by decide) ?_
  refine jr_icmp_ge K (D_at DX7_fewestFreed_q0 10 rfl) (tgt := 98) (by decide) (fun c19 => ?_) (fun c19 => ?_)
  · replace hf := (if_pos c19).symm.trans hf
    refine jr_iload K (D_at DX7_fewestFreed_q4 2 rfl) rfl ?_
    cases hf
    exact jr_iret K E (D_at DX7_fewestFreed_q4 3 rfl) rfl ⟨rfl, rfl⟩
  · replace hf := (if_neg c19).symm.trans hf
    refine jr_iload K (D_at DX7_fewestFreed_q0 11 rfl) rfl ?_
    refine jr_iconst K (D_at DX7_fewestFreed_q1 0 rfl) (v := (-1 : Int32)) (by decide) ?_
    refine jr_icmp_eq K (D_at DX7_fewestFreed_q1 1 rfl) (tgt := 41) (by decide) (fun c25 => ?_) (fun c25 => ?_)
    · replace hf := (if_pos c25).symm.trans hf
      refine jr_iconst K (D_at DX7_fewestFreed_q1 7 rfl) (v := (1 : Int32)) (by decide) ?_
      refine jr_goto K (D_at DX7_fewestFreed_q1 8 rfl) (tgt := 46) (by decide) ?_
      refine jr_keep [true, true, true, true, true, true, true, false] ?_
      exact J_X7_fewestFreed_46 K n rc14 hr14 E a0 a1 x2 x3 x4 x5 x6 (1 : Int32) h hf
    · replace hf := (if_neg c25).symm.trans hf
      refine jr_iload K (D_at DX7_fewestFreed_q1 2 rfl) rfl ?_
      obtain ⟨v30, e30, hf⟩ := jbind hf
      refine jr_callS K (C_J6_bitCount_0f7a4 (d + 3) e30) (D_at DX7_fewestFreed_q1 3 rfl) cs_X7_60_J6_bitCount_0f7a4 (As := [.int x6]) rfl rfl (by exact Nat.le_of_ble_eq_true rfl) (kc2 := 0) (ks2 := 0) rfl rfl (fun k9 h9 w9 => by cases w9.1) (fun r9 h9 w9 => ?_)
      obtain ⟨w1, w2⟩ := w9
      subst h9
      cases w1
      show jJ G X _ 0 0 _ _ (.int v30 :: _)
      refine jr_iload K (D_at DX7_fewestFreed_q1 4 rfl) rfl ?_
      obtain ⟨v35, e35, hf⟩ := jbind hf
      refine jr_callS K (C_J6_bitCount_0f7a4 (d + 3) e35) (D_at DX7_fewestFreed_q1 5 rfl) cs_X7_60_J6_bitCount_0f7a4 (As := [.int x5]) rfl rfl (by exact Nat.le_of_ble_eq_true rfl) (kc2 := 0) (ks2 := 0) rfl rfl (fun k9 h9 w9 => by cases w9.1) (fun r9 h9 w9 => ?_)
      obtain ⟨w1, w2⟩ := w9
      subst h9
      cases w1
      show jJ G X _ 0 0 _ _ (.int v35 :: _)
      refine jr_icmp_ge K (D_at DX7_fewestFreed_q1 6 rfl) (tgt := 45) (by decide) (fun c38 => ?_) (fun c38 => ?_)
      · replace hf := (if_pos c38).symm.trans hf
        refine jr_iconst K (D_at DX7_fewestFreed_q1 9 rfl) (v := (0 : Int32)) (by decide) ?_
        refine jr_keep [true, true, true, true, true, true, true, false] ?_
        exact J_X7_fewestFreed_46 K n rc14 hr14 E a0 a1 x2 x3 x4 x5 x6 (0 : Int32) h hf
      · replace hf := (if_neg c38).symm.trans hf
        refine jr_iconst K (D_at DX7_fewestFreed_q1 7 rfl) (v := (1 : Int32)) (by decide) ?_
        refine jr_goto K (D_at DX7_fewestFreed_q1 8 rfl) (tgt := 46) (by decide) ?_
        refine jr_keep [true, true, true, true, true, true, true, false] ?_
        exact J_X7_fewestFreed_46 K n rc14 hr14 E a0 a1 x2 x3 x4 x5 x6 (1 : Int32) h hf
theorem J_X7_fewestFreed_14 {G : jG} {l : Launch} {d : Nat} {X : jX} {res : (Int32 × jH)} (K : jOK G l mX7_fewestFreed (d + 4) X) (n : Nat) (E : jEnd G mX7_fewestFreed (jPW res) X) (k : Nat) : ∀ (a0 : Nat) (a1 : Nat) (x2 : Int32) (x3 : Int32) (x4 : Int32) (x5 : Int32) (x6 : Int32) (h : jH), F_X7_fewestFreed_14 n k a0 a1 x2 x3 x4 x5 x6 h = some res → jJ G X h 0 0 14 [some (.ref a0), some (.ref a1), some (.int x2), some (.int x3), some (.int x4), some (.int x5), some (.int x6), none] [] := by
  induction k with
  | zero =>
    intro a0 a1 x2 x3 x4 x5 x6 h hf
    exact jno (show (none : Option (Int32 × jH)) = some res from hf)
  | succ k ih =>
    intro a0 a1 x2 x3 x4 x5 x6 h hf
    exact J_X7_fewestFreed_14_b K n (F_X7_fewestFreed_14 n k) ih E a0 a1 x2 x3 x4 x5 x6 h hf
set_option maxHeartbeats 400000 in
set_option maxRecDepth 100000 in
theorem J_X7_fewestFreed {G : jG} {l : Launch} {d : Nat} {X : jX} {res : (Int32 × jH)} (K : jOK G l mX7_fewestFreed (d + 4) X) (n : Nat) (E : jEnd G mX7_fewestFreed (jPW res) X) (a0 : Nat) (a1 : Nat) (x2 : Int32) (x3 : Int32) (x4 : Int32) (h : jH) (hf : F_X7_fewestFreed n a0 a1 x2 x3 x4 h = some res) : jJ G X h 0 0 0 [some (.ref a0), some (.ref a1), some (.int x2), some (.int x3), some (.int x4), none, none, none] [] := by
  unfold F_X7_fewestFreed at hf
  refine jr_aload_n K (D_at DX7_fewestFreed_q0 0 rfl) rfl rfl ?_
  obtain ⟨p1, e1, hf⟩ := jbind hf
  refine jr_getR K (D_at DX7_fewestFreed_q0 1 rfl) fg_X7_22_5 e1 ?_
  refine jr_aload_n K (D_at DX7_fewestFreed_q0 2 rfl) rfl rfl ?_
  obtain ⟨h5, e5, hf⟩ := jbind hf
  obtain ⟨rc_5, e5⟩ := jcv_o e5
  refine jr_callV K (C_X8_copyFrom (d + 1) e5) (D_at DX7_fewestFreed_q0 3 rfl) cv_X7_26_X8_copyFrom (As := [.ref a1]) (ci := 6) rfl rc_5 rfl rfl (by exact Nat.le_of_ble_eq_true rfl) (kc2 := 0) (ks2 := 0) rfl rfl (fun k9 h9 w9 => by cases w9.1) (fun r9 h9 w9 => ?_)
  obtain ⟨w1, w2⟩ := w9
  subst h9
  cases w1
  show jJ G X _ 0 0 _ _ []
  refine jr_iconst K (D_at DX7_fewestFreed_q0 4 rfl) (v := (-1 : Int32)) (by decide) ?_
  refine jr_istore K (D_at DX7_fewestFreed_q0 5 rfl) (i := 5) (by decide) (L2 := [_, _, _, _, _, _, _, _]) rfl ?_
  refine jr_iconst K (D_at DX7_fewestFreed_q0 6 rfl) (v := (0 : Int32)) (by decide) ?_
  refine jr_istore K (D_at DX7_fewestFreed_q0 7 rfl) (i := 6) (by decide) (L2 := [_, _, _, _, _, _, _, _]) rfl ?_
  refine jr_keep [true, true, true, true, true, true, true, false] ?_
  exact J_X7_fewestFreed_14 K n E n a0 a1 x2 x3 x4 (-1 : Int32) (0 : Int32) h5 hf
theorem C_X7_fewestFreed {G : jG} {l : Launch} (d : Nat) {n : Nat} {a0 : Nat} {a1 : Nat} {x2 : Int32} {x3 : Int32} {x4 : Int32} {h : jH} {res : (Int32 × jH)} (hf : F_X7_fewestFreed n a0 a1 x2 x3 x4 h = some res) : jC G l mX7_fewestFreed (d + 4) 0 0 [.ref a0, .ref a1, .int x2, .int x3, .int x4] h (jPW res) :=
  jC.of pn_X7 (jcats rfl) (Nat.le_of_ble_eq_true rfl) (fun X K E => J_X7_fewestFreed K n E a0 a1 x2 x3 x4 h hf)
set_option maxHeartbeats 400000 in
set_option maxRecDepth 100000 in
theorem J_X10_at {G : jG} {l : Launch} {d : Nat} {X : jX} {res : Int32} (K : jOK G l mX10_at (d) X) (n : Nat) (h : jH) (E : jEnd G mX10_at (jPR h res) X) (a0 : Nat) (x1 : Int32) (hf : F_X10_at n a0 x1 h = some res) : jJ G X h 0 0 0 [some (.ref a0), some (.int x1)] [] := by
  unfold F_X10_at at hf
  refine jr_iload_n K (D_at DX10_at_q0 0 rfl) rfl rfl ?_
  refine jr_if_lt K (D_at DX10_at_q0 1 rfl) (tgt := 19) (by decide) (fun c1 => ?_) (fun c1 => ?_)
  · replace hf := (if_pos c1).symm.trans hf
    refine jr_iconst K (D_at DX10_at_q0 9 rfl) (v := (-1 : Int32)) (by decide) ?_
    refine jr_goto K (D_at DX10_at_q0 10 rfl) (tgt := 33) (by decide) ?_
    cases hf
    exact jr_iret K E (D_at DX10_at_q1 5 rfl) rfl ⟨rfl, rfl⟩
  · replace hf := (if_neg c1).symm.trans hf
    refine jr_iload_n K (D_at DX10_at_q0 2 rfl) rfl rfl ?_
    refine jr_aload_n K (D_at DX10_at_q0 3 rfl) rfl rfl ?_
    obtain ⟨v6, e6, hf⟩ := jbind hf
    refine jr_getI K (D_at DX10_at_q0 4 rfl) fg_X10_25_8 e6 ?_
    refine jr_icmp_ge K (D_at DX10_at_q0 5 rfl) (tgt := 19) (by decide) (fun c9 => ?_) (fun c9 => ?_)
    · replace hf := (if_pos c9).symm.trans hf
      refine jr_iconst K (D_at DX10_at_q0 9 rfl) (v := (-1 : Int32)) (by decide) ?_
      refine jr_goto K (D_at DX10_at_q0 10 rfl) (tgt := 33) (by decide) ?_
      cases hf
      exact jr_iret K E (D_at DX10_at_q1 5 rfl) rfl ⟨rfl, rfl⟩
    · replace hf := (if_neg c9).symm.trans hf
      refine jr_iload_n K (D_at DX10_at_q0 6 rfl) rfl rfl ?_
      refine jr_sipush K (D_at DX10_at_q0 7 rfl) (v := (400 : Int32)) (by decide) ?_
      refine jr_icmp_lt K (D_at DX10_at_q0 8 rfl) (tgt := 23) (by decide) (fun c16 => ?_) (fun c16 => ?_)
      · replace hf := (if_pos c16).symm.trans hf
        refine jr_aload_n K (D_at DX10_at_q0 11 rfl) rfl rfl ?_
        obtain ⟨p24, e24, hf⟩ := jbind hf
        refine jr_getR K (D_at DX10_at_q1 0 rfl) fg_X10_9_8 e24 ?_
        refine jr_iload_n K (D_at DX10_at_q1 1 rfl) rfl rfl ?_
        obtain ⟨v28, e28, hf⟩ := jbind hf
        refine jr_bald K (D_at DX10_at_q1 2 rfl) e28 ?_
        refine jr_sipush K (D_at DX10_at_q1 3 rfl) (v := (255 : Int32)) (by decide) ?_
        refine jr_iand K (D_at DX10_at_q1 4 rfl) ?_
        cases hf
        exact jr_iret K E (D_at DX10_at_q1 5 rfl) rfl ⟨rfl, rfl⟩
      · replace hf := (if_neg c16).symm.trans hf
        refine jr_iconst K (D_at DX10_at_q0 9 rfl) (v := (-1 : Int32)) (by decide) ?_
        refine jr_goto K (D_at DX10_at_q0 10 rfl) (tgt := 33) (by decide) ?_
        cases hf
        exact jr_iret K E (D_at DX10_at_q1 5 rfl) rfl ⟨rfl, rfl⟩
theorem C_X10_at {G : jG} {l : Launch} (d : Nat) {n : Nat} {a0 : Nat} {x1 : Int32} {h : jH} {res : Int32} (hf : F_X10_at n a0 x1 h = some res) : jC G l mX10_at (d) 0 0 [.ref a0, .int x1] h (jPR h res) :=
  jC.of pn_X10 (jcats rfl) (Nat.le_of_ble_eq_true rfl) (fun X K E => J_X10_at K n h E a0 x1 hf)
set_option maxHeartbeats 400000 in
set_option maxRecDepth 100000 in
theorem J_X7_areRows_29_b {G : jG} {l : Launch} {d : Nat} {X : jX} {res : Int32} (K : jOK G l mX7_areRows (d + 1) X) (n : Nat) (h : jH) (rc29 : Nat → Int32 → Int32 → jH → Option Int32) (hr29 : ∀ (a0 : Nat) (x1 : Int32) (x2 : Int32), rc29 a0 x1 x2 h = some res → jJ G X h 0 0 29 [some (.ref a0), some (.int x1), some (.int x2)] []) (E : jEnd G mX7_areRows (jPR h res) X) (a0 : Nat) (x1 : Int32) (x2 : Int32) (hf : F_X7_areRows_29_b n rc29 a0 x1 x2 h = some res) : jJ G X h 0 0 29 [some (.ref a0), some (.int x1), some (.int x2)] [] := by
  unfold F_X7_areRows_29_b at hf
  refine jr_iload_n K (D_at DX7_areRows_q1 3 rfl) rfl rfl ?_
  refine jr_aload_n K (D_at DX7_areRows_q1 4 rfl) rfl rfl ?_
  obtain ⟨p31, e31, hf⟩ := jbind hf
  refine jr_getR K (D_at DX7_areRows_q1 5 rfl) fg_X7_18_5 e31 ?_
  obtain ⟨v34, e34, hf⟩ := jbind hf
  refine jr_getI K (D_at DX7_areRows_q1 6 rfl) fg_X7_73_8 e34 ?_
  refine jr_icmp_ge K (D_at DX7_areRows_q1 7 rfl) (tgt := 118) (by decide) (fun c37 => ?_) (fun c37 => ?_)
  · replace hf := (if_pos c37).symm.trans hf
    refine jr_iconst K (D_at DX7_areRows_q5 2 rfl) (v := (1 : Int32)) (by decide) ?_
    cases hf
    exact jr_zret K E (D_at DX7_areRows_q5 3 rfl) rfl (Or.inr rfl) ⟨rfl, rfl⟩
  · replace hf := (if_neg c37).symm.trans hf
    refine jr_aload_n K (D_at DX7_areRows_q1 8 rfl) rfl rfl ?_
    obtain ⟨p41, e41, hf⟩ := jbind hf
    refine jr_getR K (D_at DX7_areRows_q1 9 rfl) fg_X7_18_5 e41 ?_
    refine jr_iload_n K (D_at DX7_areRows_q1 10 rfl) rfl rfl ?_
    obtain ⟨v45, e45, hf⟩ := jbind hf
    obtain ⟨rc_45, e45⟩ := jcv_o e45
    refine jr_callV K (C_X10_at (d) e45) (D_at DX7_areRows_q1 11 rfl) cv_X7_78_X10_at (As := [.int x2]) (ci := 8) rfl rc_45 rfl rfl (by exact Nat.le_of_ble_eq_true rfl) (kc2 := 0) (ks2 := 0) rfl rfl (fun k9 h9 w9 => by cases w9.1) (fun r9 h9 w9 => ?_)
    obtain ⟨w1, w2⟩ := w9
    subst h9
    cases w1
    show jJ G X _ 0 0 _ _ (.int v45 :: _)
    refine jr_iload_n K (D_at DX7_areRows_q2 0 rfl) rfl rfl ?_
    refine jr_icmp_ge K (D_at DX7_areRows_q2 1 rfl) (tgt := 110) (by decide) (fun c49 => ?_) (fun c49 => ?_)
    · replace hf := (if_pos c49).symm.trans hf
      refine jr_iconst K (D_at DX7_areRows_q4 10 rfl) (v := (0 : Int32)) (by decide) ?_
      cases hf
      exact jr_zret K E (D_at DX7_areRows_q4 11 rfl) rfl (Or.inl rfl) ⟨rfl, rfl⟩
    · replace hf := (if_neg c49).symm.trans hf
      refine jr_aload_n K (D_at DX7_areRows_q2 2 rfl) rfl rfl ?_
      obtain ⟨p53, e53, hf⟩ := jbind hf
      refine jr_getR K (D_at DX7_areRows_q2 3 rfl) fg_X7_18_5 e53 ?_
      refine jr_iload_n K (D_at DX7_areRows_q2 4 rfl) rfl rfl ?_
      refine jr_iconst K (D_at DX7_areRows_q2 5 rfl) (v := (1 : Int32)) (by decide) ?_
      refine jr_iadd K (D_at DX7_areRows_q2 6 rfl) ?_
      obtain ⟨v59, e59, hf⟩ := jbind hf
      obtain ⟨rc_59, e59⟩ := jcv_o e59
      refine jr_callV K (C_X10_at (d) e59) (D_at DX7_areRows_q2 7 rfl) cv_X7_78_X10_at (As := [.int (x2 + (1 : Int32))]) (ci := 8) rfl rc_59 rfl rfl (by exact Nat.le_of_ble_eq_true rfl) (kc2 := 0) (ks2 := 0) rfl rfl (fun k9 h9 w9 => by cases w9.1) (fun r9 h9 w9 => ?_)
      obtain ⟨w1, w2⟩ := w9
      subst h9
      cases w1
      show jJ G X _ 0 0 _ _ (.int v59 :: _)
      refine jr_iconst K (D_at DX7_areRows_q2 8 rfl) (v := (1 : Int32)) (by decide) ?_
      refine jr_icmp_gt K (D_at DX7_areRows_q2 9 rfl) (tgt := 110) (by decide) (fun c63 => ?_) (fun c63 => ?_)
      · replace hf := (if_pos c63).symm.trans hf
        refine jr_iconst K (D_at DX7_areRows_q4 10 rfl) (v := (0 : Int32)) (by decide) ?_
        cases hf
        exact jr_zret K E (D_at DX7_areRows_q4 11 rfl) rfl (Or.inl rfl) ⟨rfl, rfl⟩
      · replace hf := (if_neg c63).symm.trans hf
        refine jr_aload_n K (D_at DX7_areRows_q2 10 rfl) rfl rfl ?_
        obtain ⟨p67, e67, hf⟩ := jbind hf
        refine jr_getR K (D_at DX7_areRows_q2 11 rfl) fg_X7_18_5 e67 ?_
        refine jr_iload_n K (D_at DX7_areRows_q3 0 rfl) rfl rfl ?_
        refine jr_iconst K (D_at DX7_areRows_q3 1 rfl) (v := (2 : Int32)) (by decide) ?_
        refine jr_iadd K (D_at DX7_areRows_q3 2 rfl) ?_
        obtain ⟨v73, e73, hf⟩ := jbind hf
        obtain ⟨rc_73, e73⟩ := jcv_o e73
        refine jr_callV K (C_X10_at (d) e73) (D_at DX7_areRows_q3 3 rfl) cv_X7_78_X10_at (As := [.int (x2 + (2 : Int32))]) (ci := 8) rfl rc_73 rfl rfl (by exact Nat.le_of_ble_eq_true rfl) (kc2 := 0) (ks2 := 0) rfl rfl (fun k9 h9 w9 => by cases w9.1) (fun r9 h9 w9 => ?_)
        obtain ⟨w1, w2⟩ := w9
        subst h9
        cases w1
        show jJ G X _ 0 0 _ _ (.int v73 :: _)
        refine jr_iconst K (D_at DX7_areRows_q3 4 rfl) (v := (1 : Int32)) (by decide) ?_
        refine jr_icmp_lt K (D_at DX7_areRows_q3 5 rfl) (tgt := 110) (by decide) (fun c77 => ?_) (fun c77 => ?_)
        · replace hf := (if_pos c77).symm.trans hf
          refine jr_iconst K (D_at DX7_areRows_q4 10 rfl) (v := (0 : Int32)) (by decide) ?_
          cases hf
          exact jr_zret K E (D_at DX7_areRows_q4 11 rfl) rfl (Or.inl rfl) ⟨rfl, rfl⟩
        · replace hf := (if_neg c77).symm.trans hf
          refine jr_aload_n K (D_at DX7_areRows_q3 6 rfl) rfl rfl ?_
          obtain ⟨p81, e81, hf⟩ := jbind hf
          refine jr_getR K (D_at DX7_areRows_q3 7 rfl) fg_X7_18_5 e81 ?_
          refine jr_iload_n K (D_at DX7_areRows_q3 8 rfl) rfl rfl ?_
          refine jr_iconst K (D_at DX7_areRows_q3 9 rfl) (v := (2 : Int32)) (by decide) ?_
          refine jr_iadd K (D_at DX7_areRows_q3 10 rfl) ?_
          obtain ⟨v87, e87, hf⟩ := jbind hf
          obtain ⟨rc_87, e87⟩ := jcv_o e87
          refine jr_callV K (C_X10_at (d) e87) (D_at DX7_areRows_q3 11 rfl) cv_X7_78_X10_at (As := [.int (x2 + (2 : Int32))]) (ci := 8) rfl rc_87 rfl rfl (by exact Nat.le_of_ble_eq_true rfl) (kc2 := 0) (ks2 := 0) rfl rfl (fun k9 h9 w9 => by cases w9.1) (fun r9 h9 w9 => ?_)
          obtain ⟨w1, w2⟩ := w9
          subst h9
          cases w1
          show jJ G X _ 0 0 _ _ (.int v87 :: _)
          refine jr_bipush K (D_at DX7_areRows_q4 0 rfl) (v := (31 : Int32)) (by decide) ?_
          refine jr_icmp_gt K (D_at DX7_areRows_q4 1 rfl) (tgt := 110) (by decide) (fun c92 => ?_) (fun c92 => ?_)
          · replace hf := (if_pos c92).symm.trans hf
            refine jr_iconst K (D_at DX7_areRows_q4 10 rfl) (v := (0 : Int32)) (by decide) ?_
            cases hf
            exact jr_zret K E (D_at DX7_areRows_q4 11 rfl) rfl (Or.inl rfl) ⟨rfl, rfl⟩
          · replace hf := (if_neg c92).symm.trans hf
            refine jr_aload_n K (D_at DX7_areRows_q4 2 rfl) rfl rfl ?_
            obtain ⟨p96, e96, hf⟩ := jbind hf
            refine jr_getR K (D_at DX7_areRows_q4 3 rfl) fg_X7_18_5 e96 ?_
            refine jr_iload_n K (D_at DX7_areRows_q4 4 rfl) rfl rfl ?_
            refine jr_iconst K (D_at DX7_areRows_q4 5 rfl) (v := (3 : Int32)) (by decide) ?_
            refine jr_iadd K (D_at DX7_areRows_q4 6 rfl) ?_
            obtain ⟨v102, e102, hf⟩ := jbind hf
            obtain ⟨rc_102, e102⟩ := jcv_o e102
            refine jr_callV K (C_X10_at (d) e102) (D_at DX7_areRows_q4 7 rfl) cv_X7_78_X10_at (As := [.int (x2 + (3 : Int32))]) (ci := 8) rfl rc_102 rfl rfl (by exact Nat.le_of_ble_eq_true rfl) (kc2 := 0) (ks2 := 0) rfl rfl (fun k9 h9 w9 => by cases w9.1) (fun r9 h9 w9 => ?_)
            obtain ⟨w1, w2⟩ := w9
            subst h9
            cases w1
            show jJ G X _ 0 0 _ _ (.int v102 :: _)
            refine jr_bipush K (D_at DX7_areRows_q4 8 rfl) (v := (31 : Int32)) (by decide) ?_
            refine jr_icmp_le K (D_at DX7_areRows_q4 9 rfl) (tgt := 112) (by decide) (fun c107 => ?_) (fun c107 => ?_)
            · replace hf := (if_pos c107).symm.trans hf
              refine jr_iinc K (D_at DX7_areRows_q5 0 rfl) (i := 2) rfl (v := x2 + (4 : Int32)) (jinc (by decide)) (by decide) (L2 := [_, _, _]) rfl ?_
              refine jr_goto K (D_at DX7_areRows_q5 1 rfl) (tgt := 29) (by decide) ?_
              refine jr_keep [true, true, true] ?_
              exact hr29 a0 x1 (x2 + (4 : Int32)) hf
            · replace hf := (if_neg c107).symm.trans hf
              refine jr_iconst K (D_at DX7_areRows_q4 10 rfl) (v := (0 : Int32)) (by decide) ?_
              cases hf
              exact jr_zret K E (D_at DX7_areRows_q4 11 rfl) rfl (Or.inl rfl) ⟨rfl, rfl⟩
theorem J_X7_areRows_29 {G : jG} {l : Launch} {d : Nat} {X : jX} {res : Int32} (K : jOK G l mX7_areRows (d + 1) X) (n : Nat) (h : jH) (E : jEnd G mX7_areRows (jPR h res) X) (k : Nat) : ∀ (a0 : Nat) (x1 : Int32) (x2 : Int32), F_X7_areRows_29 n k a0 x1 x2 h = some res → jJ G X h 0 0 29 [some (.ref a0), some (.int x1), some (.int x2)] [] := by
  induction k with
  | zero =>
    intro a0 x1 x2 hf
    exact jno (show (none : Option Int32) = some res from hf)
  | succ k ih =>
    intro a0 x1 x2 hf
    exact J_X7_areRows_29_b K n h (F_X7_areRows_29 n k) ih E a0 x1 x2 hf
set_option maxHeartbeats 400000 in
set_option maxRecDepth 100000 in
theorem J_X7_areRows {G : jG} {l : Launch} {d : Nat} {X : jX} {res : Int32} (K : jOK G l mX7_areRows (d + 1) X) (n : Nat) (h : jH) (E : jEnd G mX7_areRows (jPR h res) X) (a0 : Nat) (x1 : Int32) (hf : F_X7_areRows n a0 x1 h = some res) : jJ G X h 0 0 0 [some (.ref a0), some (.int x1), none] [] := by
  unfold F_X7_areRows at hf
  refine jr_aload_n K (D_at DX7_areRows_q0 0 rfl) rfl rfl ?_
  obtain ⟨p1, e1, hf⟩ := jbind hf
  refine jr_getR K (D_at DX7_areRows_q0 1 rfl) fg_X7_18_5 e1 ?_
  obtain ⟨v4, e4, hf⟩ := jbind hf
  refine jr_getI K (D_at DX7_areRows_q0 2 rfl) fg_X7_73_8 e4 ?_
  refine jr_iconst K (D_at DX7_areRows_q0 3 rfl) (v := (4 : Int32)) (by decide) ?_
  refine jr_irem K (D_at DX7_areRows_q0 4 rfl) (by decide) ?_
  refine jr_if_ne K (D_at DX7_areRows_q0 5 rfl) (tgt := 25) (by decide) (fun c9 => ?_) (fun c9 => ?_)
  · replace hf := (if_neg c9).symm.trans hf
    refine jr_iconst K (D_at DX7_areRows_q0 11 rfl) (v := (0 : Int32)) (by decide) ?_
    cases hf
    exact jr_zret K E (D_at DX7_areRows_q1 0 rfl) rfl (Or.inl rfl) ⟨rfl, rfl⟩
  · replace hf := (if_pos c9).symm.trans hf
    refine jr_aload_n K (D_at DX7_areRows_q0 6 rfl) rfl rfl ?_
    obtain ⟨p13, e13, hf⟩ := jbind hf
    refine jr_getR K (D_at DX7_areRows_q0 7 rfl) fg_X7_18_5 e13 ?_
    obtain ⟨v16, e16, hf⟩ := jbind hf
    refine jr_getI K (D_at DX7_areRows_q0 8 rfl) fg_X7_73_8 e16 ?_
    refine jr_sipush K (D_at DX7_areRows_q0 9 rfl) (v := (160 : Int32)) (by decide) ?_
    refine jr_icmp_le K (D_at DX7_areRows_q0 10 rfl) (tgt := 27) (by decide) (fun c22 => ?_) (fun c22 => ?_)
    · replace hf := (if_pos c22).symm.trans hf
      refine jr_iconst K (D_at DX7_areRows_q1 1 rfl) (v := (0 : Int32)) (by decide) ?_
      refine jr_istore_n K (D_at DX7_areRows_q1 2 rfl) (i := 2) rfl (by decide) (L2 := [_, _, _]) rfl ?_
      refine jr_keep [true, true, true] ?_
      exact J_X7_areRows_29 K n h E n a0 x1 (0 : Int32) hf
    · replace hf := (if_neg c22).symm.trans hf
      refine jr_iconst K (D_at DX7_areRows_q0 11 rfl) (v := (0 : Int32)) (by decide) ?_
      cases hf
      exact jr_zret K E (D_at DX7_areRows_q1 0 rfl) rfl (Or.inl rfl) ⟨rfl, rfl⟩
theorem C_X7_areRows {G : jG} {l : Launch} (d : Nat) {n : Nat} {a0 : Nat} {x1 : Int32} {h : jH} {res : Int32} (hf : F_X7_areRows n a0 x1 h = some res) : jC G l mX7_areRows (d + 1) 0 0 [.ref a0, .int x1] h (jPR h res) :=
  jC.of pn_X7 (jcats rfl) (Nat.le_of_ble_eq_true rfl) (fun X K E => J_X7_areRows K n h E a0 x1 hf)
set_option maxHeartbeats 400000 in
set_option maxRecDepth 100000 in
theorem J_X7_isFitting_43 {G : jG} {l : Launch} {d : Nat} {X : jX} {res : (Int32 × jH)} (K : jOK G l mX7_isFitting (d + 4) X) (n : Nat) (rc2 : Nat → Nat → Int32 → Int32 → jH → Option (Int32 × jH)) (hr2 : ∀ (a0 : Nat) (a1 : Nat) (x2 : Int32) (x3 : Int32) (h : jH), rc2 a0 a1 x2 x3 h = some res → jJ G X h 0 0 2 [some (.ref a0), some (.ref a1), some (.int x2), some (.int x3), none] []) (E : jEnd G mX7_isFitting (jPW res) X) (a0 : Nat) (a1 : Nat) (x2 : Int32) (x3 : Int32) (sa0 : Nat) (sa1 : Nat) (s2 : Int32) (s3 : Int32) (s4 : Int32) (h : jH) (hf : F_X7_isFitting_43 n rc2 a0 a1 x2 x3 sa0 sa1 s2 s3 s4 h = some res) : jJ G X h 0 0 43 [some (.ref a0), some (.ref a1), some (.int x2), some (.int x3), none] [.int s4, .int s3, .int s2, .ref sa1, .ref sa0] := by
  unfold F_X7_isFitting_43 at hf
  refine jr_aload_n K (D_at DX7_isFitting_q2 1 rfl) rfl rfl ?_
  obtain ⟨p44, e44, hf⟩ := jbind hf
  refine jr_getR K (D_at DX7_isFitting_q2 2 rfl) fg_X7_18_5 e44 ?_
  refine jr_iload_n K (D_at DX7_isFitting_q2 3 rfl) rfl rfl ?_
  refine jr_iconst K (D_at DX7_isFitting_q2 4 rfl) (v := (2 : Int32)) (by decide) ?_
  refine jr_iadd K (D_at DX7_isFitting_q2 5 rfl) ?_
  obtain ⟨v50, e50, hf⟩ := jbind hf
  obtain ⟨rc_50, e50⟩ := jcv_o e50
  refine jr_callV K (C_X10_at (d + 3) e50) (D_at DX7_isFitting_q2 6 rfl) cv_X7_78_X10_at (As := [.int (x3 + (2 : Int32))]) (ci := 8) rfl rc_50 rfl rfl (by exact Nat.le_of_ble_eq_true rfl) (kc2 := 0) (ks2 := 0) rfl rfl (fun k9 h9 w9 => by cases w9.1) (fun r9 h9 w9 => ?_)
  obtain ⟨w1, w2⟩ := w9
  subst h9
  cases w1
  show jJ G X _ 0 0 _ _ (.int v50 :: _)
  obtain ⟨q53, e53, hf⟩ := jbind hf
  obtain ⟨rc_53, e53⟩ := jcv_o e53
  refine jr_callV K (C_X7_farWith (d) e53) (D_at DX7_isFitting_q2 7 rfl) cv_X7_69_X7_farWith (As := [.ref sa1, .int s2, .int s3, .int s4, .int v50]) (ci := 5) rfl rc_53 rfl rfl (by exact Nat.le_of_ble_eq_true rfl) (kc2 := 0) (ks2 := 0) rfl rfl (fun k9 h9 w9 => by cases w9.1) (fun r9 h9 w9 => ?_)
  obtain ⟨w1, w2⟩ := w9
  subst h9
  cases w1
  show jJ G X _ 0 0 _ _ (.int q53.1 :: _)
  refine jr_istore K (D_at DX7_isFitting_q2 8 rfl) (i := 4) (by decide) (L2 := [_, _, _, _, _]) rfl ?_
  refine jr_iload K (D_at DX7_isFitting_q2 9 rfl) rfl ?_
  refine jr_aload_n K (D_at DX7_isFitting_q2 10 rfl) rfl rfl ?_
  obtain ⟨p61, e61, hf⟩ := jbind hf
  refine jr_getR K (D_at DX7_isFitting_q2 11 rfl) fg_X7_18_5 e61 ?_
  refine jr_iload_n K (D_at DX7_isFitting_q3 0 rfl) rfl rfl ?_
  refine jr_iconst K (D_at DX7_isFitting_q3 1 rfl) (v := (3 : Int32)) (by decide) ?_
  refine jr_iadd K (D_at DX7_isFitting_q3 2 rfl) ?_
  obtain ⟨v67, e67, hf⟩ := jbind hf
  obtain ⟨rc_67, e67⟩ := jcv_o e67
  refine jr_callV K (C_X10_at (d + 3) e67) (D_at DX7_isFitting_q3 3 rfl) cv_X7_78_X10_at (As := [.int (x3 + (3 : Int32))]) (ci := 8) rfl rc_67 rfl rfl (by exact Nat.le_of_ble_eq_true rfl) (kc2 := 0) (ks2 := 0) rfl rfl (fun k9 h9 w9 => by cases w9.1) (fun r9 h9 w9 => ?_)
  obtain ⟨w1, w2⟩ := w9
  subst h9
  cases w1
  show jJ G X _ 0 0 _ _ (.int v67 :: _)
  refine jr_icmp_eq K (D_at DX7_isFitting_q3 4 rfl) (tgt := 75) (by decide) (fun c70 => ?_) (fun c70 => ?_)
  · replace hf := (if_pos c70).symm.trans hf
    refine jr_iinc K (D_at DX7_isFitting_q3 7 rfl) (i := 3) rfl (v := x3 + (4 : Int32)) (jinc (by decide)) (by decide) (L2 := [_, _, _, _, _]) rfl ?_
    refine jr_goto K (D_at DX7_isFitting_q3 8 rfl) (tgt := 2) (by decide) ?_
    refine jr_keep [true, true, true, true, false] ?_
    exact hr2 a0 a1 x2 (x3 + (4 : Int32)) q53.2 hf
  · replace hf := (if_neg c70).symm.trans hf
    refine jr_iconst K (D_at DX7_isFitting_q3 5 rfl) (v := (0 : Int32)) (by decide) ?_
    cases hf
    exact jr_zret K E (D_at DX7_isFitting_q3 6 rfl) rfl (Or.inl rfl) ⟨rfl, rfl⟩
set_option maxHeartbeats 400000 in
set_option maxRecDepth 100000 in
theorem J_X7_isFitting_2_b {G : jG} {l : Launch} {d : Nat} {X : jX} {res : (Int32 × jH)} (K : jOK G l mX7_isFitting (d + 4) X) (n : Nat) (rc2 : Nat → Nat → Int32 → Int32 → jH → Option (Int32 × jH)) (hr2 : ∀ (a0 : Nat) (a1 : Nat) (x2 : Int32) (x3 : Int32) (h : jH), rc2 a0 a1 x2 x3 h = some res → jJ G X h 0 0 2 [some (.ref a0), some (.ref a1), some (.int x2), some (.int x3), none] []) (E : jEnd G mX7_isFitting (jPW res) X) (a0 : Nat) (a1 : Nat) (x2 : Int32) (x3 : Int32) (h : jH) (hf : F_X7_isFitting_2_b n rc2 a0 a1 x2 x3 h = some res) : jJ G X h 0 0 2 [some (.ref a0), some (.ref a1), some (.int x2), some (.int x3), none] [] := by
  unfold F_X7_isFitting_2_b at hf
  refine jr_iload_n K (D_at DX7_isFitting_q0 2 rfl) rfl rfl ?_
  refine jr_aload_n K (D_at DX7_isFitting_q0 3 rfl) rfl rfl ?_
  obtain ⟨p4, e4, hf⟩ := jbind hf
  refine jr_getR K (D_at DX7_isFitting_q0 4 rfl) fg_X7_18_5 e4 ?_
  obtain ⟨v7, e7, hf⟩ := jbind hf
  refine jr_getI K (D_at DX7_isFitting_q0 5 rfl) fg_X7_73_8 e7 ?_
  refine jr_icmp_ge K (D_at DX7_isFitting_q0 6 rfl) (tgt := 81) (by decide) (fun c10 => ?_) (fun c10 => ?_)
  · replace hf := (if_pos c10).symm.trans hf
    refine jr_iconst K (D_at DX7_isFitting_q3 9 rfl) (v := (1 : Int32)) (by decide) ?_
    cases hf
    exact jr_zret K E (D_at DX7_isFitting_q3 10 rfl) rfl (Or.inr rfl) ⟨rfl, rfl⟩
  · replace hf := (if_neg c10).symm.trans hf
    refine jr_aload_n K (D_at DX7_isFitting_q0 7 rfl) rfl rfl ?_
    refine jr_aload_n K (D_at DX7_isFitting_q0 8 rfl) rfl rfl ?_
    refine jr_iload_n K (D_at DX7_isFitting_q0 9 rfl) rfl rfl ?_
    refine jr_aload_n K (D_at DX7_isFitting_q0 10 rfl) rfl rfl ?_
    obtain ⟨p17, e17, hf⟩ := jbind hf
    refine jr_getR K (D_at DX7_isFitting_q0 11 rfl) fg_X7_18_5 e17 ?_
    refine jr_iload_n K (D_at DX7_isFitting_q1 0 rfl) rfl rfl ?_
    obtain ⟨v21, e21, hf⟩ := jbind hf
    obtain ⟨rc_21, e21⟩ := jcv_o e21
    refine jr_callV K (C_X10_at (d + 3) e21) (D_at DX7_isFitting_q1 1 rfl) cv_X7_78_X10_at (As := [.int x3]) (ci := 8) rfl rc_21 rfl rfl (by exact Nat.le_of_ble_eq_true rfl) (kc2 := 0) (ks2 := 0) rfl rfl (fun k9 h9 w9 => by cases w9.1) (fun r9 h9 w9 => ?_)
    obtain ⟨w1, w2⟩ := w9
    subst h9
    cases w1
    show jJ G X _ 0 0 _ _ (.int v21 :: _)
    refine jr_aload_n K (D_at DX7_isFitting_q1 2 rfl) rfl rfl ?_
    obtain ⟨p25, e25, hf⟩ := jbind hf
    refine jr_getR K (D_at DX7_isFitting_q1 3 rfl) fg_X7_18_5 e25 ?_
    refine jr_iload_n K (D_at DX7_isFitting_q1 4 rfl) rfl rfl ?_
    refine jr_iconst K (D_at DX7_isFitting_q1 5 rfl) (v := (1 : Int32)) (by decide) ?_
    refine jr_iadd K (D_at DX7_isFitting_q1 6 rfl) ?_
    obtain ⟨v31, e31, hf⟩ := jbind hf
    obtain ⟨rc_31, e31⟩ := jcv_o e31
    refine jr_callV K (C_X10_at (d + 3) e31) (D_at DX7_isFitting_q1 7 rfl) cv_X7_78_X10_at (As := [.int (x3 + (1 : Int32))]) (ci := 8) rfl rc_31 rfl rfl (by exact Nat.le_of_ble_eq_true rfl) (kc2 := 0) (ks2 := 0) rfl rfl (fun k9 h9 w9 => by cases w9.1) (fun r9 h9 w9 => ?_)
    obtain ⟨w1, w2⟩ := w9
    subst h9
    cases w1
    show jJ G X _ 0 0 _ _ (.int v31 :: _)
    refine jr_iconst K (D_at DX7_isFitting_q1 8 rfl) (v := (1 : Int32)) (by decide) ?_
    refine jr_icmp_ne K (D_at DX7_isFitting_q1 9 rfl) (tgt := 42) (by decide) (fun c35 => ?_) (fun c35 => ?_)
    · replace hf := (if_neg c35).symm.trans hf
      refine jr_iconst K (D_at DX7_isFitting_q2 0 rfl) (v := (0 : Int32)) (by decide) ?_
      refine jr_keep [true, true, true, true, false] ?_
      exact J_X7_isFitting_43 K n rc2 hr2 E a0 a1 x2 x3 a0 a1 x2 v21 (0 : Int32) h hf
    · replace hf := (if_pos c35).symm.trans hf
      refine jr_iconst K (D_at DX7_isFitting_q1 10 rfl) (v := (1 : Int32)) (by decide) ?_
      refine jr_goto K (D_at DX7_isFitting_q1 11 rfl) (tgt := 43) (by decide) ?_
      refine jr_keep [true, true, true, true, false] ?_
      exact J_X7_isFitting_43 K n rc2 hr2 E a0 a1 x2 x3 a0 a1 x2 v21 (1 : Int32) h hf
theorem J_X7_isFitting_2 {G : jG} {l : Launch} {d : Nat} {X : jX} {res : (Int32 × jH)} (K : jOK G l mX7_isFitting (d + 4) X) (n : Nat) (E : jEnd G mX7_isFitting (jPW res) X) (k : Nat) : ∀ (a0 : Nat) (a1 : Nat) (x2 : Int32) (x3 : Int32) (h : jH), F_X7_isFitting_2 n k a0 a1 x2 x3 h = some res → jJ G X h 0 0 2 [some (.ref a0), some (.ref a1), some (.int x2), some (.int x3), none] [] := by
  induction k with
  | zero =>
    intro a0 a1 x2 x3 h hf
    exact jno (show (none : Option (Int32 × jH)) = some res from hf)
  | succ k ih =>
    intro a0 a1 x2 x3 h hf
    exact J_X7_isFitting_2_b K n (F_X7_isFitting_2 n k) ih E a0 a1 x2 x3 h hf
set_option maxHeartbeats 400000 in
set_option maxRecDepth 100000 in
theorem J_X7_isFitting {G : jG} {l : Launch} {d : Nat} {X : jX} {res : (Int32 × jH)} (K : jOK G l mX7_isFitting (d + 4) X) (n : Nat) (E : jEnd G mX7_isFitting (jPW res) X) (a0 : Nat) (a1 : Nat) (x2 : Int32) (h : jH) (hf : F_X7_isFitting n a0 a1 x2 h = some res) : jJ G X h 0 0 0 [some (.ref a0), some (.ref a1), some (.int x2), none, none] [] := by
  unfold F_X7_isFitting at hf
  refine jr_iconst K (D_at DX7_isFitting_q0 0 rfl) (v := (0 : Int32)) (by decide) ?_
  refine jr_istore_n K (D_at DX7_isFitting_q0 1 rfl) (i := 3) rfl (by decide) (L2 := [_, _, _, _, _]) rfl ?_
  refine jr_keep [true, true, true, true, false] ?_
  exact J_X7_isFitting_2 K n E n a0 a1 x2 (0 : Int32) h hf
theorem C_X7_isFitting {G : jG} {l : Launch} (d : Nat) {n : Nat} {a0 : Nat} {a1 : Nat} {x2 : Int32} {h : jH} {res : (Int32 × jH)} (hf : F_X7_isFitting n a0 a1 x2 h = some res) : jC G l mX7_isFitting (d + 4) 0 0 [.ref a0, .ref a1, .int x2] h (jPW res) :=
  jC.of pn_X7 (jcats rfl) (Nat.le_of_ble_eq_true rfl) (fun X K E => J_X7_isFitting K n E a0 a1 x2 h hf)
set_option maxHeartbeats 400000 in
set_option maxRecDepth 100000 in
theorem J_X7_seekSnags_35_b {G : jG} {l : Launch} {d : Nat} {X : jX} {res : jH} (K : jOK G l mX7_seekSnags (d + 5) X) (n : Nat) (rc35 : Nat → Nat → Int32 → Int32 → jH → Option jH) (hr35 : ∀ (a0 : Nat) (a1 : Nat) (x2 : Int32) (x3 : Int32) (h : jH), rc35 a0 a1 x2 x3 h = some res → jJ G X h 0 0 35 [some (.ref a0), some (.ref a1), some (.int x2), some (.int x3)] []) (E : jEnd G mX7_seekSnags (jPV res) X) (a0 : Nat) (a1 : Nat) (x2 : Int32) (x3 : Int32) (h : jH) (hf : F_X7_seekSnags_35_b n rc35 a0 a1 x2 x3 h = some res) : jJ G X h 0 0 35 [some (.ref a0), some (.ref a1), some (.int x2), some (.int x3)] [] := by
  unfold F_X7_seekSnags_35_b at hf
  refine jr_iload_n K (D_at DX7_seekSnags_q1 9 rfl) rfl rfl ?_
  refine jr_iload_n K (D_at DX7_seekSnags_q1 10 rfl) rfl rfl ?_
  refine jr_icmp_ge K (D_at DX7_seekSnags_q1 11 rfl) (tgt := 85) (by decide) (fun c37 => ?_) (fun c37 => ?_)
  · replace hf := (if_pos c37).symm.trans hf
    cases hf
    exact jr_vret K E (D_at DX7_seekSnags_q3 11 rfl) rfl ⟨rfl, rfl⟩
  · replace hf := (if_neg c37).symm.trans hf
    refine jr_aload_n K (D_at DX7_seekSnags_q2 0 rfl) rfl rfl ?_
    obtain ⟨v41, e41, hf⟩ := jbind hf
    refine jr_getI K (D_at DX7_seekSnags_q2 1 rfl) fg_X7_81_5 e41 ?_
    refine jr_sipush K (D_at DX7_seekSnags_q2 2 rfl) (v := (128 : Int32)) (by decide) ?_
    refine jr_icmp_ge K (D_at DX7_seekSnags_q2 3 rfl) (tgt := 85) (by decide) (fun c47 => ?_) (fun c47 => ?_)
    · replace hf := (if_pos c47).symm.trans hf
      cases hf
      exact jr_vret K E (D_at DX7_seekSnags_q3 11 rfl) rfl ⟨rfl, rfl⟩
    · replace hf := (if_neg c47).symm.trans hf
      refine jr_aload_n K (D_at DX7_seekSnags_q2 4 rfl) rfl rfl ?_
      refine jr_aload_n K (D_at DX7_seekSnags_q2 5 rfl) rfl rfl ?_
      refine jr_iload_n K (D_at DX7_seekSnags_q2 6 rfl) rfl rfl ?_
      obtain ⟨q53, e53, hf⟩ := jbind hf
      obtain ⟨rc_53, e53⟩ := jcv_o e53
      refine jr_callV K (C_X7_isFitting (d) e53) (D_at DX7_seekSnags_q2 7 rfl) cv_X7_84_X7_isFitting (As := [.ref a1, .int x3]) (ci := 5) rfl rc_53 rfl rfl (by exact Nat.le_of_ble_eq_true rfl) (kc2 := 0) (ks2 := 0) rfl rfl (fun k9 h9 w9 => by cases w9.1) (fun r9 h9 w9 => ?_)
      obtain ⟨w1, w2⟩ := w9
      subst h9
      cases w1
      show jJ G X _ 0 0 _ _ (.int q53.1 :: _)
      refine jr_if_eq K (D_at DX7_seekSnags_q2 8 rfl) (tgt := 79) (by decide) (fun c56 => ?_) (fun c56 => ?_)
      · replace hf := (if_pos c56).symm.trans hf
        refine jr_iinc K (D_at DX7_seekSnags_q3 9 rfl) (i := 3) rfl (v := x3 + (1 : Int32)) (jinc (by decide)) (by decide) (L2 := [_, _, _, _]) rfl ?_
        refine jr_goto K (D_at DX7_seekSnags_q3 10 rfl) (tgt := 35) (by decide) ?_
        refine jr_keep [true, true, true, true] ?_
        exact hr35 a0 a1 x2 (x3 + (1 : Int32)) q53.2 hf
      · replace hf := (if_neg c56).symm.trans hf
        refine jr_aload_n K (D_at DX7_seekSnags_q2 9 rfl) rfl rfl ?_
        obtain ⟨p60, e60, hf⟩ := jbind hf
        refine jr_getR K (D_at DX7_seekSnags_q2 10 rfl) fg_X7_11_5 e60 ?_
        refine jr_aload_n K (D_at DX7_seekSnags_q2 11 rfl) rfl rfl ?_
        obtain ⟨v64, e64, hf⟩ := jbind hf
        refine jr_getI K (D_at DX7_seekSnags_q3 0 rfl) fg_X7_81_5 e64 ?_
        refine jr_iload_n K (D_at DX7_seekSnags_q3 1 rfl) rfl rfl ?_
        obtain ⟨h68, e68, hf⟩ := jbind hf
        refine jr_iast K (D_at DX7_seekSnags_q3 2 rfl) e68 ?_
        refine jr_aload_n K (D_at DX7_seekSnags_q3 3 rfl) rfl rfl ?_
        refine jr_dup K (D_at DX7_seekSnags_q3 4 rfl) rfl ?_
        obtain ⟨v71, e71, hf⟩ := jbind hf
        refine jr_getI K (D_at DX7_seekSnags_q3 5 rfl) fg_X7_81_5 e71 ?_
        refine jr_iconst K (D_at DX7_seekSnags_q3 6 rfl) (v := (1 : Int32)) (by decide) ?_
        refine jr_iadd K (D_at DX7_seekSnags_q3 7 rfl) ?_
        obtain ⟨h76, e76, hf⟩ := jbind hf
        refine jr_putI K (D_at DX7_seekSnags_q3 8 rfl) fp_X7_81_5 (Or.inl rfl) e76 ?_
        refine jr_iinc K (D_at DX7_seekSnags_q3 9 rfl) (i := 3) rfl (v := x3 + (1 : Int32)) (jinc (by decide)) (by decide) (L2 := [_, _, _, _]) rfl ?_
        refine jr_goto K (D_at DX7_seekSnags_q3 10 rfl) (tgt := 35) (by decide) ?_
        refine jr_keep [true, true, true, true] ?_
        exact hr35 a0 a1 x2 (x3 + (1 : Int32)) h76 hf
theorem J_X7_seekSnags_35 {G : jG} {l : Launch} {d : Nat} {X : jX} {res : jH} (K : jOK G l mX7_seekSnags (d + 5) X) (n : Nat) (E : jEnd G mX7_seekSnags (jPV res) X) (k : Nat) : ∀ (a0 : Nat) (a1 : Nat) (x2 : Int32) (x3 : Int32) (h : jH), F_X7_seekSnags_35 n k a0 a1 x2 x3 h = some res → jJ G X h 0 0 35 [some (.ref a0), some (.ref a1), some (.int x2), some (.int x3)] [] := by
  induction k with
  | zero =>
    intro a0 a1 x2 x3 h hf
    exact jno (show (none : Option jH) = some res from hf)
  | succ k ih =>
    intro a0 a1 x2 x3 h hf
    exact J_X7_seekSnags_35_b K n (F_X7_seekSnags_35 n k) ih E a0 a1 x2 x3 h hf
set_option maxHeartbeats 400000 in
set_option maxRecDepth 100000 in
theorem J_X7_seekSnags {G : jG} {l : Launch} {d : Nat} {X : jX} {res : jH} (K : jOK G l mX7_seekSnags (d + 5) X) (n : Nat) (E : jEnd G mX7_seekSnags (jPV res) X) (a0 : Nat) (a1 : Nat) (h : jH) (hf : F_X7_seekSnags n a0 a1 h = some res) : jJ G X h 0 0 0 [some (.ref a0), some (.ref a1), none, none] [] := by
  unfold F_X7_seekSnags at hf
  refine jr_aload_n K (D_at DX7_seekSnags_q0 0 rfl) rfl rfl ?_
  obtain ⟨p1, e1, hf⟩ := jbind hf
  refine jr_getR K (D_at DX7_seekSnags_q0 1 rfl) fg_X7_22_5 e1 ?_
  refine jr_aload_n K (D_at DX7_seekSnags_q0 2 rfl) rfl rfl ?_
  obtain ⟨h5, e5, hf⟩ := jbind hf
  obtain ⟨rc_5, e5⟩ := jcv_o e5
  refine jr_callV K (C_X8_copyFrom (d + 2) e5) (D_at DX7_seekSnags_q0 3 rfl) cv_X7_26_X8_copyFrom (As := [.ref a1]) (ci := 6) rfl rc_5 rfl rfl (by exact Nat.le_of_ble_eq_true rfl) (kc2 := 0) (ks2 := 0) rfl rfl (fun k9 h9 w9 => by cases w9.1) (fun r9 h9 w9 => ?_)
  obtain ⟨w1, w2⟩ := w9
  subst h9
  cases w1
  show jJ G X _ 0 0 _ _ []
  refine jr_aload_n K (D_at DX7_seekSnags_q0 4 rfl) rfl rfl ?_
  refine jr_iconst K (D_at DX7_seekSnags_q0 5 rfl) (v := (0 : Int32)) (by decide) ?_
  obtain ⟨h10, e10, hf⟩ := jbind hf
  refine jr_putI K (D_at DX7_seekSnags_q0 6 rfl) fp_X7_81_5 (Or.inl rfl) e10 ?_
  refine jr_aload_n K (D_at DX7_seekSnags_q0 7 rfl) rfl rfl ?_
  obtain ⟨v14, e14, hf⟩ := jbind hf
  refine jr_getI K (D_at DX7_seekSnags_q0 8 rfl) fg_X7_36_6 e14 ?_
  refine jr_if_ne K (D_at DX7_seekSnags_q0 9 rfl) (tgt := 24) (by decide) (fun c17 => ?_) (fun c17 => ?_)
  · replace hf := (if_neg c17).symm.trans hf
    refine jr_iconst K (D_at DX7_seekSnags_q1 0 rfl) (v := (1 : Int32)) (by decide) ?_
    refine jr_aload_n K (D_at DX7_seekSnags_q1 1 rfl) rfl rfl ?_
    obtain ⟨v26, e26, hf⟩ := jbind hf
    refine jr_getI K (D_at DX7_seekSnags_q1 2 rfl) fg_X7_36_6 e26 ?_
    refine jr_iconst K (D_at DX7_seekSnags_q1 3 rfl) (v := (1 : Int32)) (by decide) ?_
    refine jr_isub K (D_at DX7_seekSnags_q1 4 rfl) ?_
    refine jr_ishl K (D_at DX7_seekSnags_q1 5 rfl) ?_
    refine jr_istore_n K (D_at DX7_seekSnags_q1 6 rfl) (i := 2) rfl (by decide) (L2 := [_, _, _, _]) rfl ?_
    refine jr_iconst K (D_at DX7_seekSnags_q1 7 rfl) (v := (0 : Int32)) (by decide) ?_
    refine jr_istore_n K (D_at DX7_seekSnags_q1 8 rfl) (i := 3) rfl (by decide) (L2 := [_, _, _, _]) rfl ?_
    refine jr_keep [true, true, true, true] ?_
    exact J_X7_seekSnags_35 K n E n a0 a1 ((1 : Int32) <<< ((v26 - (1 : Int32)) &&& 31)) (0 : Int32) h10 hf
  · replace hf := (if_pos c17).symm.trans hf
    refine jr_iconst K (D_at DX7_seekSnags_q0 10 rfl) (v := (1 : Int32)) (by decide) ?_
    refine jr_goto K (D_at DX7_seekSnags_q0 11 rfl) (tgt := 32) (by decide) ?_
    refine jr_istore_n K (D_at DX7_seekSnags_q1 6 rfl) (i := 2) rfl (by decide) (L2 := [_, _, _, _]) rfl ?_
    refine jr_iconst K (D_at DX7_seekSnags_q1 7 rfl) (v := (0 : Int32)) (by decide) ?_
    refine jr_istore_n K (D_at DX7_seekSnags_q1 8 rfl) (i := 3) rfl (by decide) (L2 := [_, _, _, _]) rfl ?_
    refine jr_keep [true, true, true, true] ?_
    exact J_X7_seekSnags_35 K n E n a0 a1 (1 : Int32) (0 : Int32) h10 hf
theorem C_X7_seekSnags {G : jG} {l : Launch} (d : Nat) {n : Nat} {a0 : Nat} {a1 : Nat} {h : jH} {res : jH} (hf : F_X7_seekSnags n a0 a1 h = some res) : jC G l mX7_seekSnags (d + 5) 0 0 [.ref a0, .ref a1] h (jPV res) :=
  jC.of pn_X7 (jcats rfl) (Nat.le_of_ble_eq_true rfl) (fun X K E => J_X7_seekSnags K n E a0 a1 h hf)
set_option maxHeartbeats 400000 in
set_option maxRecDepth 100000 in
theorem J_X7_inAllFitting_20_b {G : jG} {l : Launch} {d : Nat} {X : jX} {res : Int32} (K : jOK G l mX7_inAllFitting (d) X) (n : Nat) (h : jH) (rc20 : Nat → Int32 → Int32 → jH → Option Int32) (hr20 : ∀ (a0 : Nat) (x1 : Int32) (x2 : Int32), rc20 a0 x1 x2 h = some res → jJ G X h 0 0 20 [some (.ref a0), some (.int x1), some (.int x2)] []) (E : jEnd G mX7_inAllFitting (jPR h res) X) (a0 : Nat) (x1 : Int32) (x2 : Int32) (hf : F_X7_inAllFitting_20_b n rc20 a0 x1 x2 h = some res) : jJ G X h 0 0 20 [some (.ref a0), some (.int x1), some (.int x2)] [] := by
  unfold F_X7_inAllFitting_20_b at hf
  refine jr_iload_n K (D_at DX7_inAllFitting_q1 0 rfl) rfl rfl ?_
  refine jr_aload_n K (D_at DX7_inAllFitting_q1 1 rfl) rfl rfl ?_
  obtain ⟨v22, e22, hf⟩ := jbind hf
  refine jr_getI K (D_at DX7_inAllFitting_q1 2 rfl) fg_X7_81_5 e22 ?_
  refine jr_icmp_ge K (D_at DX7_inAllFitting_q1 3 rfl) (tgt := 43) (by decide) (fun c25 => ?_) (fun c25 => ?_)
  · replace hf := (if_pos c25).symm.trans hf
    refine jr_iload_n K (D_at DX7_inAllFitting_q2 1 rfl) rfl rfl ?_
    cases hf
    exact jr_iret K E (D_at DX7_inAllFitting_q2 2 rfl) rfl ⟨rfl, rfl⟩
  · replace hf := (if_neg c25).symm.trans hf
    refine jr_iload_n K (D_at DX7_inAllFitting_q1 4 rfl) rfl rfl ?_
    refine jr_aload_n K (D_at DX7_inAllFitting_q1 5 rfl) rfl rfl ?_
    obtain ⟨p30, e30, hf⟩ := jbind hf
    refine jr_getR K (D_at DX7_inAllFitting_q1 6 rfl) fg_X7_11_5 e30 ?_
    refine jr_iload_n K (D_at DX7_inAllFitting_q1 7 rfl) rfl rfl ?_
    obtain ⟨v34, e34, hf⟩ := jbind hf
    refine jr_iald K (D_at DX7_inAllFitting_q1 8 rfl) e34 ?_
    refine jr_iand K (D_at DX7_inAllFitting_q1 9 rfl) ?_
    refine jr_istore_n K (D_at DX7_inAllFitting_q1 10 rfl) (i := 1) rfl (by decide) (L2 := [_, _, _]) rfl ?_
    refine jr_iinc K (D_at DX7_inAllFitting_q1 11 rfl) (i := 2) rfl (v := x2 + (1 : Int32)) (jinc (by decide)) (by decide) (L2 := [_, _, _]) rfl ?_
    refine jr_goto K (D_at DX7_inAllFitting_q2 0 rfl) (tgt := 20) (by decide) ?_
    refine jr_keep [true, true, true] ?_
    exact hr20 a0 (x1 &&& v34) (x2 + (1 : Int32)) hf
theorem J_X7_inAllFitting_20 {G : jG} {l : Launch} {d : Nat} {X : jX} {res : Int32} (K : jOK G l mX7_inAllFitting (d) X) (n : Nat) (h : jH) (E : jEnd G mX7_inAllFitting (jPR h res) X) (k : Nat) : ∀ (a0 : Nat) (x1 : Int32) (x2 : Int32), F_X7_inAllFitting_20 n k a0 x1 x2 h = some res → jJ G X h 0 0 20 [some (.ref a0), some (.int x1), some (.int x2)] [] := by
  induction k with
  | zero =>
    intro a0 x1 x2 hf
    exact jno (show (none : Option Int32) = some res from hf)
  | succ k ih =>
    intro a0 x1 x2 hf
    exact J_X7_inAllFitting_20_b K n h (F_X7_inAllFitting_20 n k) ih E a0 x1 x2 hf
set_option maxHeartbeats 400000 in
set_option maxRecDepth 100000 in
theorem J_X7_inAllFitting {G : jG} {l : Launch} {d : Nat} {X : jX} {res : Int32} (K : jOK G l mX7_inAllFitting (d) X) (n : Nat) (h : jH) (E : jEnd G mX7_inAllFitting (jPR h res) X) (a0 : Nat) (hf : F_X7_inAllFitting n a0 h = some res) : jJ G X h 0 0 0 [some (.ref a0), none, none] [] := by
  unfold F_X7_inAllFitting at hf
  refine jr_aload_n K (D_at DX7_inAllFitting_q0 0 rfl) rfl rfl ?_
  obtain ⟨v1, e1, hf⟩ := jbind hf
  refine jr_getI K (D_at DX7_inAllFitting_q0 1 rfl) fg_X7_81_5 e1 ?_
  refine jr_if_ne K (D_at DX7_inAllFitting_q0 2 rfl) (tgt := 11) (by decide) (fun c4 => ?_) (fun c4 => ?_)
  · replace hf := (if_neg c4).symm.trans hf
    refine jr_aload_n K (D_at DX7_inAllFitting_q0 5 rfl) rfl rfl ?_
    obtain ⟨p12, e12, hf⟩ := jbind hf
    refine jr_getR K (D_at DX7_inAllFitting_q0 6 rfl) fg_X7_11_5 e12 ?_
    refine jr_iconst K (D_at DX7_inAllFitting_q0 7 rfl) (v := (0 : Int32)) (by decide) ?_
    obtain ⟨v16, e16, hf⟩ := jbind hf
    refine jr_iald K (D_at DX7_inAllFitting_q0 8 rfl) e16 ?_
    refine jr_istore_n K (D_at DX7_inAllFitting_q0 9 rfl) (i := 1) rfl (by decide) (L2 := [_, _, _]) rfl ?_
    refine jr_iconst K (D_at DX7_inAllFitting_q0 10 rfl) (v := (1 : Int32)) (by decide) ?_
    refine jr_istore_n K (D_at DX7_inAllFitting_q0 11 rfl) (i := 2) rfl (by decide) (L2 := [_, _, _]) rfl ?_
    refine jr_keep [true, true, true] ?_
    exact J_X7_inAllFitting_20 K n h E n a0 v16 (1 : Int32) hf
  · replace hf := (if_pos c4).symm.trans hf
    refine jr_iconst K (D_at DX7_inAllFitting_q0 3 rfl) (v := (0 : Int32)) (by decide) ?_
    refine jr_goto K (D_at DX7_inAllFitting_q0 4 rfl) (tgt := 17) (by decide) ?_
    refine jr_istore_n K (D_at DX7_inAllFitting_q0 9 rfl) (i := 1) rfl (by decide) (L2 := [_, _, _]) rfl ?_
    refine jr_iconst K (D_at DX7_inAllFitting_q0 10 rfl) (v := (1 : Int32)) (by decide) ?_
    refine jr_istore_n K (D_at DX7_inAllFitting_q0 11 rfl) (i := 2) rfl (by decide) (L2 := [_, _, _]) rfl ?_
    refine jr_keep [true, true, true] ?_
    exact J_X7_inAllFitting_20 K n h E n a0 (0 : Int32) (1 : Int32) hf
theorem C_X7_inAllFitting {G : jG} {l : Launch} (d : Nat) {n : Nat} {a0 : Nat} {h : jH} {res : Int32} (hf : F_X7_inAllFitting n a0 h = some res) : jC G l mX7_inAllFitting (d) 0 0 [.ref a0] h (jPR h res) :=
  jC.of pn_X7 (jcats rfl) (Nat.le_of_ble_eq_true rfl) (fun X K E => J_X7_inAllFitting K n h E a0 hf)
set_option maxHeartbeats 400000 in
set_option maxRecDepth 100000 in
theorem J_X7_greatestPart_62 {G : jG} {l : Launch} {d : Nat} {X : jX} {res : (Int32 × jH)} (K : jOK G l mX7_greatestPart (d + 4) X) (n : Nat) (rc29 : Nat → Nat → Int32 → Int32 → Int32 → jH → Option (Int32 × jH)) (hr29 : ∀ (a0 : Nat) (a1 : Nat) (x2 : Int32) (x3 : Int32) (x4 : Int32) (h : jH), rc29 a0 a1 x2 x3 x4 h = some res → jJ G X h 0 0 29 [some (.ref a0), some (.ref a1), some (.int x2), some (.int x3), some (.int x4), none] []) (E : jEnd G mX7_greatestPart (jPW res) X) (a0 : Nat) (a1 : Nat) (x2 : Int32) (x3 : Int32) (x4 : Int32) (sa0 : Nat) (sa1 : Nat) (s2 : Int32) (s3 : Int32) (s4 : Int32) (h : jH) (hf : F_X7_greatestPart_62 n rc29 a0 a1 x2 x3 x4 sa0 sa1 s2 s3 s4 h = some res) : jJ G X h 0 0 62 [some (.ref a0), some (.ref a1), some (.int x2), some (.int x3), some (.int x4), none] [.int s4, .int s3, .int s2, .ref sa1, .ref sa0] := by
  unfold F_X7_greatestPart_62 at hf
  refine jr_bipush K (D_at DX7_greatestPart_q3 3 rfl) (v := (31 : Int32)) (by decide) ?_
  obtain ⟨q64, e64, hf⟩ := jbind hf
  obtain ⟨rc_64, e64⟩ := jcv_o e64
  refine jr_callV K (C_X7_farWith (d) e64) (D_at DX7_greatestPart_q3 4 rfl) cv_X7_69_X7_farWith (As := [.ref sa1, .int s2, .int s3, .int s4, .int (31 : Int32)]) (ci := 5) rfl rc_64 rfl rfl (by exact Nat.le_of_ble_eq_true rfl) (kc2 := 0) (ks2 := 0) rfl rfl (fun k9 h9 w9 => by cases w9.1) (fun r9 h9 w9 => ?_)
  obtain ⟨w1, w2⟩ := w9
  subst h9
  cases w1
  show jJ G X _ 0 0 _ _ (.int q64.1 :: _)
  refine jr_istore K (D_at DX7_greatestPart_q3 5 rfl) (i := 5) (by decide) (L2 := [_, _, _, _, _, _]) rfl ?_
  refine jr_aload_n K (D_at DX7_greatestPart_q3 6 rfl) rfl rfl ?_
  obtain ⟨p70, e70, hf⟩ := jbind hf
  refine jr_getR K (D_at DX7_greatestPart_q3 7 rfl) fg_X7_15_5 e70 ?_
  refine jr_iload K (D_at DX7_greatestPart_q3 8 rfl) rfl ?_
  refine jr_dup2 K (D_at DX7_greatestPart_q3 9 rfl) rfl rfl ?_
  obtain ⟨v76, e76, hf⟩ := jbind hf
  refine jr_iald K (D_at DX7_greatestPart_q3 10 rfl) e76 ?_
  refine jr_iconst K (D_at DX7_greatestPart_q3 11 rfl) (v := (1 : Int32)) (by decide) ?_
  refine jr_iadd K (D_at DX7_greatestPart_q4 0 rfl) ?_
  obtain ⟨h79, e79, hf⟩ := jbind hf
  refine jr_iast K (D_at DX7_greatestPart_q4 1 rfl) e79 ?_
  refine jr_iload_n K (D_at DX7_greatestPart_q4 2 rfl) rfl rfl ?_
  refine jr_aload_n K (D_at DX7_greatestPart_q4 3 rfl) rfl rfl ?_
  obtain ⟨p82, e82, hf⟩ := jbind hf
  refine jr_getR K (D_at DX7_greatestPart_q4 4 rfl) fg_X7_15_5 e82 ?_
  refine jr_iload K (D_at DX7_greatestPart_q4 5 rfl) rfl ?_
  obtain ⟨v87, e87, hf⟩ := jbind hf
  refine jr_iald K (D_at DX7_greatestPart_q4 6 rfl) e87 ?_
  refine jr_max K (D_at DX7_greatestPart_q4 7 rfl) mm_X7_92 (by exact Nat.le_of_ble_eq_true rfl) ?_
  refine jr_istore_n K (D_at DX7_greatestPart_q4 8 rfl) (i := 3) rfl (by decide) (L2 := [_, _, _, _, _, _]) rfl ?_
  refine jr_iinc K (D_at DX7_greatestPart_q4 9 rfl) (i := 4) rfl (v := x4 + (1 : Int32)) (jinc (by decide)) (by decide) (L2 := [_, _, _, _, _, _]) rfl ?_
  refine jr_goto K (D_at DX7_greatestPart_q4 10 rfl) (tgt := 29) (by decide) ?_
  refine jr_keep [true, true, true, true, true, false] ?_
  exact hr29 a0 a1 x2 (if x3 < v87 then v87 else x3) (x4 + (1 : Int32)) h79 hf
set_option maxHeartbeats 400000 in
set_option maxRecDepth 100000 in
theorem J_X7_greatestPart_29_b {G : jG} {l : Launch} {d : Nat} {X : jX} {res : (Int32 × jH)} (K : jOK G l mX7_greatestPart (d + 4) X) (n : Nat) (rc29 : Nat → Nat → Int32 → Int32 → Int32 → jH → Option (Int32 × jH)) (hr29 : ∀ (a0 : Nat) (a1 : Nat) (x2 : Int32) (x3 : Int32) (x4 : Int32) (h : jH), rc29 a0 a1 x2 x3 x4 h = some res → jJ G X h 0 0 29 [some (.ref a0), some (.ref a1), some (.int x2), some (.int x3), some (.int x4), none] []) (E : jEnd G mX7_greatestPart (jPW res) X) (a0 : Nat) (a1 : Nat) (x2 : Int32) (x3 : Int32) (x4 : Int32) (h : jH) (hf : F_X7_greatestPart_29_b n rc29 a0 a1 x2 x3 x4 h = some res) : jJ G X h 0 0 29 [some (.ref a0), some (.ref a1), some (.int x2), some (.int x3), some (.int x4), none] [] := by
  unfold F_X7_greatestPart_29_b at hf
  refine jr_iload K (D_at DX7_greatestPart_q1 6 rfl) rfl ?_
  refine jr_aload_n K (D_at DX7_greatestPart_q1 7 rfl) rfl rfl ?_
  obtain ⟨v32, e32, hf⟩ := jbind hf
  refine jr_getI K (D_at DX7_greatestPart_q1 8 rfl) fg_X7_81_5 e32 ?_
  refine jr_icmp_ge K (D_at DX7_greatestPart_q1 9 rfl) (tgt := 98) (by decide) (fun c35 => ?_) (fun c35 => ?_)
  · replace hf := (if_pos c35).symm.trans hf
    refine jr_iload_n K (D_at DX7_greatestPart_q4 11 rfl) rfl rfl ?_
    cases hf
    exact jr_iret K E (D_at DX7_greatestPart_q5 0 rfl) rfl ⟨rfl, rfl⟩
  · replace hf := (if_neg c35).symm.trans hf
    refine jr_aload_n K (D_at DX7_greatestPart_q1 10 rfl) rfl rfl ?_
    refine jr_aload_n K (D_at DX7_greatestPart_q1 11 rfl) rfl rfl ?_
    refine jr_aload_n K (D_at DX7_greatestPart_q2 0 rfl) rfl rfl ?_
    obtain ⟨p41, e41, hf⟩ := jbind hf
    refine jr_getR K (D_at DX7_greatestPart_q2 1 rfl) fg_X7_11_5 e41 ?_
    refine jr_iload K (D_at DX7_greatestPart_q2 2 rfl) rfl ?_
    obtain ⟨v46, e46, hf⟩ := jbind hf
    refine jr_iald K (D_at DX7_greatestPart_q2 3 rfl) e46 ?_
    refine jr_iload_n K (D_at DX7_greatestPart_q2 4 rfl) rfl rfl ?_
    refine jr_iconst K (D_at DX7_greatestPart_q2 5 rfl) (v := (2 : Int32)) (by decide) ?_
    refine jr_idiv K (D_at DX7_greatestPart_q2 6 rfl) (by decide) ?_
    refine jr_iload_n K (D_at DX7_greatestPart_q2 7 rfl) rfl rfl ?_
    refine jr_iconst K (D_at DX7_greatestPart_q2 8 rfl) (v := (2 : Int32)) (by decide) ?_
    refine jr_irem K (D_at DX7_greatestPart_q2 9 rfl) (by decide) ?_
    refine jr_iconst K (D_at DX7_greatestPart_q2 10 rfl) (v := (1 : Int32)) (by decide) ?_
    refine jr_icmp_ne K (D_at DX7_greatestPart_q2 11 rfl) (tgt := 61) (by decide) (fun c54 => ?_) (fun c54 => ?_)
    · replace hf := (if_neg c54).symm.trans hf
      refine jr_iconst K (D_at DX7_greatestPart_q3 2 rfl) (v := (0 : Int32)) (by decide) ?_
      refine jr_keep [true, true, true, true, true, false] ?_
      exact J_X7_greatestPart_62 K n rc29 hr29 E a0 a1 x2 x3 x4 a0 a1 v46 (x2 / (2 : Int32)) (0 : Int32) h hf
    · replace hf := (if_pos c54).symm.trans hf
      refine jr_iconst K (D_at DX7_greatestPart_q3 0 rfl) (v := (1 : Int32)) (by decide) ?_
      refine jr_goto K (D_at DX7_greatestPart_q3 1 rfl) (tgt := 62) (by decide) ?_
      refine jr_keep [true, true, true, true, true, false] ?_
      exact J_X7_greatestPart_62 K n rc29 hr29 E a0 a1 x2 x3 x4 a0 a1 v46 (x2 / (2 : Int32)) (1 : Int32) h hf
theorem J_X7_greatestPart_29 {G : jG} {l : Launch} {d : Nat} {X : jX} {res : (Int32 × jH)} (K : jOK G l mX7_greatestPart (d + 4) X) (n : Nat) (E : jEnd G mX7_greatestPart (jPW res) X) (k : Nat) : ∀ (a0 : Nat) (a1 : Nat) (x2 : Int32) (x3 : Int32) (x4 : Int32) (h : jH), F_X7_greatestPart_29 n k a0 a1 x2 x3 x4 h = some res → jJ G X h 0 0 29 [some (.ref a0), some (.ref a1), some (.int x2), some (.int x3), some (.int x4), none] [] := by
  induction k with
  | zero =>
    intro a0 a1 x2 x3 x4 h hf
    exact jno (show (none : Option (Int32 × jH)) = some res from hf)
  | succ k ih =>
    intro a0 a1 x2 x3 x4 h hf
    exact J_X7_greatestPart_29_b K n (F_X7_greatestPart_29 n k) ih E a0 a1 x2 x3 x4 h hf
set_option maxHeartbeats 400000 in
set_option maxRecDepth 100000 in
theorem J_X7_greatestPart_2_b {G : jG} {l : Launch} {d : Nat} {X : jX} {res : (Int32 × jH)} (K : jOK G l mX7_greatestPart (d + 4) X) (n : Nat) (rc2 : Nat → Nat → Int32 → Int32 → jH → Option (Int32 × jH)) (hr2 : ∀ (a0 : Nat) (a1 : Nat) (x2 : Int32) (x3 : Int32) (h : jH), rc2 a0 a1 x2 x3 h = some res → jJ G X h 0 0 2 [some (.ref a0), some (.ref a1), some (.int x2), some (.int x3), none, none] []) (E : jEnd G mX7_greatestPart (jPW res) X) (a0 : Nat) (a1 : Nat) (x2 : Int32) (x3 : Int32) (h : jH) (hf : F_X7_greatestPart_2_b n rc2 a0 a1 x2 x3 h = some res) : jJ G X h 0 0 2 [some (.ref a0), some (.ref a1), some (.int x2), some (.int x3), none, none] [] := by
  unfold F_X7_greatestPart_2_b at hf
  refine jr_iload_n K (D_at DX7_greatestPart_q0 2 rfl) rfl rfl ?_
  refine jr_aload_n K (D_at DX7_greatestPart_q0 3 rfl) rfl rfl ?_
  obtain ⟨p4, e4, hf⟩ := jbind hf
  refine jr_getR K (D_at DX7_greatestPart_q0 4 rfl) fg_X7_15_5 e4 ?_
  obtain ⟨v7, e7, hf⟩ := jbind hf
  refine jr_alen K (D_at DX7_greatestPart_q0 5 rfl) e7 ?_
  refine jr_icmp_ge K (D_at DX7_greatestPart_q0 6 rfl) (tgt := 24) (by decide) (fun c8 => ?_) (fun c8 => ?_)
  · replace hf := (if_pos c8).symm.trans hf
    refine jr_iconst K (D_at DX7_greatestPart_q1 2 rfl) (v := (0 : Int32)) (by decide) ?_
    refine jr_istore_n K (D_at DX7_greatestPart_q1 3 rfl) (i := 3) rfl (by decide) (L2 := [_, _, _, _, _, _]) rfl ?_
    refine jr_iconst K (D_at DX7_greatestPart_q1 4 rfl) (v := (0 : Int32)) (by decide) ?_
    refine jr_istore K (D_at DX7_greatestPart_q1 5 rfl) (i := 4) (by decide) (L2 := [_, _, _, _, _, _]) rfl ?_
    refine jr_keep [true, true, true, true, true, false] ?_
    exact J_X7_greatestPart_29 K n E n a0 a1 x2 (0 : Int32) (0 : Int32) h hf
  · replace hf := (if_neg c8).symm.trans hf
    refine jr_aload_n K (D_at DX7_greatestPart_q0 7 rfl) rfl rfl ?_
    obtain ⟨p12, e12, hf⟩ := jbind hf
    refine jr_getR K (D_at DX7_greatestPart_q0 8 rfl) fg_X7_15_5 e12 ?_
    refine jr_iload_n K (D_at DX7_greatestPart_q0 9 rfl) rfl rfl ?_
    refine jr_iconst K (D_at DX7_greatestPart_q0 10 rfl) (v := (0 : Int32)) (by decide) ?_
    obtain ⟨h17, e17, hf⟩ := jbind hf
    refine jr_iast K (D_at DX7_greatestPart_q0 11 rfl) e17 ?_
    refine jr_iinc K (D_at DX7_greatestPart_q1 0 rfl) (i := 3) rfl (v := x3 + (1 : Int32)) (jinc (by decide)) (by decide) (L2 := [_, _, _, _, _, _]) rfl ?_
    refine jr_goto K (D_at DX7_greatestPart_q1 1 rfl) (tgt := 2) (by decide) ?_
    refine jr_keep [true, true, true, true, false, false] ?_
    exact hr2 a0 a1 x2 (x3 + (1 : Int32)) h17 hf
theorem J_X7_greatestPart_2 {G : jG} {l : Launch} {d : Nat} {X : jX} {res : (Int32 × jH)} (K : jOK G l mX7_greatestPart (d + 4) X) (n : Nat) (E : jEnd G mX7_greatestPart (jPW res) X) (k : Nat) : ∀ (a0 : Nat) (a1 : Nat) (x2 : Int32) (x3 : Int32) (h : jH), F_X7_greatestPart_2 n k a0 a1 x2 x3 h = some res → jJ G X h 0 0 2 [some (.ref a0), some (.ref a1), some (.int x2), some (.int x3), none, none] [] := by
  induction k with
  | zero =>
    intro a0 a1 x2 x3 h hf
    exact jno (show (none : Option (Int32 × jH)) = some res from hf)
  | succ k ih =>
    intro a0 a1 x2 x3 h hf
    exact J_X7_greatestPart_2_b K n (F_X7_greatestPart_2 n k) ih E a0 a1 x2 x3 h hf
set_option maxHeartbeats 400000 in
set_option maxRecDepth 100000 in
theorem J_X7_greatestPart {G : jG} {l : Launch} {d : Nat} {X : jX} {res : (Int32 × jH)} (K : jOK G l mX7_greatestPart (d + 4) X) (n : Nat) (E : jEnd G mX7_greatestPart (jPW res) X) (a0 : Nat) (a1 : Nat) (x2 : Int32) (h : jH) (hf : F_X7_greatestPart n a0 a1 x2 h = some res) : jJ G X h 0 0 0 [some (.ref a0), some (.ref a1), some (.int x2), none, none, none] [] := by
  unfold F_X7_greatestPart at hf
  refine jr_iconst K (D_at DX7_greatestPart_q0 0 rfl) (v := (0 : Int32)) (by decide) ?_
  refine jr_istore_n K (D_at DX7_greatestPart_q0 1 rfl) (i := 3) rfl (by decide) (L2 := [_, _, _, _, _, _]) rfl ?_
  refine jr_keep [true, true, true, true, false, false] ?_
  exact J_X7_greatestPart_2 K n E n a0 a1 x2 (0 : Int32) h hf
theorem C_X7_greatestPart {G : jG} {l : Launch} (d : Nat) {n : Nat} {a0 : Nat} {a1 : Nat} {x2 : Int32} {h : jH} {res : (Int32 × jH)} (hf : F_X7_greatestPart n a0 a1 x2 h = some res) : jC G l mX7_greatestPart (d + 4) 0 0 [.ref a0, .ref a1, .int x2] h (jPW res) :=
  jC.of pn_X7 (jcats rfl) (Nat.le_of_ble_eq_true rfl) (fun X K E => J_X7_greatestPart K n E a0 a1 x2 h hf)
set_option maxHeartbeats 400000 in
set_option maxRecDepth 100000 in
theorem J_X7_partingPull_19_b {G : jG} {l : Launch} {d : Nat} {X : jX} {res : (Int32 × jH)} (K : jOK G l mX7_partingPull (d + 5) X) (n : Nat) (rc19 : Nat → Nat → Int32 → Int32 → Int32 → jH → Option (Int32 × jH)) (hr19 : ∀ (a0 : Nat) (a1 : Nat) (x2 : Int32) (x3 : Int32) (x4 : Int32) (h : jH), rc19 a0 a1 x2 x3 x4 h = some res → jJ G X h 0 0 19 [some (.ref a0), some (.ref a1), some (.int x2), some (.int x3), some (.int x4), none] []) (E : jEnd G mX7_partingPull (jPW res) X) (a0 : Nat) (a1 : Nat) (x2 : Int32) (x3 : Int32) (x4 : Int32) (h : jH) (hf : F_X7_partingPull_19_b n rc19 a0 a1 x2 x3 x4 h = some res) : jJ G X h 0 0 19 [some (.ref a0), some (.ref a1), some (.int x2), some (.int x3), some (.int x4), none] [] := by
  unfold F_X7_partingPull_19_b at hf
  refine jr_iload K (D_at DX7_partingPull_q1 0 rfl) rfl ?_
  refine jr_iconst K (D_at DX7_partingPull_q1 1 rfl) (v := (2 : Int32)) (by decide) ?_
  refine jr_aload_n K (D_at DX7_partingPull_q1 2 rfl) rfl rfl ?_
  obtain ⟨v23, e23, hf⟩ := jbind hf
  refine jr_getI K (D_at DX7_partingPull_q1 3 rfl) fg_X7_36_6 e23 ?_
  refine jr_imul K (D_at DX7_partingPull_q1 4 rfl) ?_
  refine jr_icmp_ge K (D_at DX7_partingPull_q1 5 rfl) (tgt := 57) (by decide) (fun c27 => ?_) (fun c27 => ?_)
  · replace hf := (if_pos c27).symm.trans hf
    refine jr_iload_n K (D_at DX7_partingPull_q2 8 rfl) rfl rfl ?_
    cases hf
    exact jr_iret K E (D_at DX7_partingPull_q2 9 rfl) rfl ⟨rfl, rfl⟩
  · replace hf := (if_neg c27).symm.trans hf
    refine jr_aload_n K (D_at DX7_partingPull_q1 6 rfl) rfl rfl ?_
    refine jr_aload_n K (D_at DX7_partingPull_q1 7 rfl) rfl rfl ?_
    refine jr_iload K (D_at DX7_partingPull_q1 8 rfl) rfl ?_
    obtain ⟨q34, e34, hf⟩ := jbind hf
    obtain ⟨rc_34, e34⟩ := jcv_o e34
    refine jr_callV K (C_X7_greatestPart (d) e34) (D_at DX7_partingPull_q1 9 rfl) cv_X7_88_X7_greatestPart (As := [.ref a1, .int x4]) (ci := 5) rfl rc_34 rfl rfl (by exact Nat.le_of_ble_eq_true rfl) (kc2 := 0) (ks2 := 0) rfl rfl (fun k9 h9 w9 => by cases w9.1) (fun r9 h9 w9 => ?_)
    obtain ⟨w1, w2⟩ := w9
    subst h9
    cases w1
    show jJ G X _ 0 0 _ _ (.int q34.1 :: _)
    refine jr_istore K (D_at DX7_partingPull_q1 10 rfl) (i := 5) (by decide) (L2 := [_, _, _, _, _, _]) rfl ?_
    refine jr_iload K (D_at DX7_partingPull_q1 11 rfl) rfl ?_
    refine jr_iload_n K (D_at DX7_partingPull_q2 0 rfl) rfl rfl ?_
    refine jr_icmp_ge K (D_at DX7_partingPull_q2 1 rfl) (tgt := 51) (by decide) (fun c42 => ?_) (fun c42 => ?_)
    · replace hf := (if_pos c42).symm.trans hf
      refine jr_iinc K (D_at DX7_partingPull_q2 6 rfl) (i := 4) rfl (v := x4 + (1 : Int32)) (jinc (by decide)) (by decide) (L2 := [_, _, _, _, _, _]) rfl ?_
      refine jr_goto K (D_at DX7_partingPull_q2 7 rfl) (tgt := 19) (by decide) ?_
      refine jr_keep [true, true, true, true, true, false] ?_
      exact hr19 a0 a1 x2 x3 (x4 + (1 : Int32)) q34.2 hf
    · replace hf := (if_neg c42).symm.trans hf
      refine jr_iload K (D_at DX7_partingPull_q2 2 rfl) rfl ?_
      refine jr_istore_n K (D_at DX7_partingPull_q2 3 rfl) (i := 3) rfl (by decide) (L2 := [_, _, _, _, _, _]) rfl ?_
      refine jr_iload K (D_at DX7_partingPull_q2 4 rfl) rfl ?_
      refine jr_istore_n K (D_at DX7_partingPull_q2 5 rfl) (i := 2) rfl (by decide) (L2 := [_, _, _, _, _, _]) rfl ?_
      refine jr_iinc K (D_at DX7_partingPull_q2 6 rfl) (i := 4) rfl (v := x4 + (1 : Int32)) (jinc (by decide)) (by decide) (L2 := [_, _, _, _, _, _]) rfl ?_
      refine jr_goto K (D_at DX7_partingPull_q2 7 rfl) (tgt := 19) (by decide) ?_
      refine jr_keep [true, true, true, true, true, false] ?_
      exact hr19 a0 a1 x4 q34.1 (x4 + (1 : Int32)) q34.2 hf
theorem J_X7_partingPull_19 {G : jG} {l : Launch} {d : Nat} {X : jX} {res : (Int32 × jH)} (K : jOK G l mX7_partingPull (d + 5) X) (n : Nat) (E : jEnd G mX7_partingPull (jPW res) X) (k : Nat) : ∀ (a0 : Nat) (a1 : Nat) (x2 : Int32) (x3 : Int32) (x4 : Int32) (h : jH), F_X7_partingPull_19 n k a0 a1 x2 x3 x4 h = some res → jJ G X h 0 0 19 [some (.ref a0), some (.ref a1), some (.int x2), some (.int x3), some (.int x4), none] [] := by
  induction k with
  | zero =>
    intro a0 a1 x2 x3 x4 h hf
    exact jno (show (none : Option (Int32 × jH)) = some res from hf)
  | succ k ih =>
    intro a0 a1 x2 x3 x4 h hf
    exact J_X7_partingPull_19_b K n (F_X7_partingPull_19 n k) ih E a0 a1 x2 x3 x4 h hf
set_option maxHeartbeats 400000 in
set_option maxRecDepth 100000 in
theorem J_X7_partingPull {G : jG} {l : Launch} {d : Nat} {X : jX} {res : (Int32 × jH)} (K : jOK G l mX7_partingPull (d + 5) X) (n : Nat) (E : jEnd G mX7_partingPull (jPW res) X) (a0 : Nat) (a1 : Nat) (h : jH) (hf : F_X7_partingPull n a0 a1 h = some res) : jJ G X h 0 0 0 [some (.ref a0), some (.ref a1), none, none, none, none] [] := by
  unfold F_X7_partingPull at hf
  refine jr_aload_n K (D_at DX7_partingPull_q0 0 rfl) rfl rfl ?_
  obtain ⟨v1, e1, hf⟩ := jbind hf
  refine jr_getI K (D_at DX7_partingPull_q0 1 rfl) fg_X7_81_5 e1 ?_
  refine jr_iconst K (D_at DX7_partingPull_q0 2 rfl) (v := (2 : Int32)) (by decide) ?_
  refine jr_icmp_ge K (D_at DX7_partingPull_q0 3 rfl) (tgt := 10) (by decide) (fun c5 => ?_) (fun c5 => ?_)
  · replace hf := (if_pos c5).symm.trans hf
    refine jr_iconst K (D_at DX7_partingPull_q0 6 rfl) (v := (-1 : Int32)) (by decide) ?_
    refine jr_istore_n K (D_at DX7_partingPull_q0 7 rfl) (i := 2) rfl (by decide) (L2 := [_, _, _, _, _, _]) rfl ?_
    refine jr_sipush K (D_at DX7_partingPull_q0 8 rfl) (v := (129 : Int32)) (by decide) ?_
    refine jr_istore_n K (D_at DX7_partingPull_q0 9 rfl) (i := 3) rfl (by decide) (L2 := [_, _, _, _, _, _]) rfl ?_
    refine jr_iconst K (D_at DX7_partingPull_q0 10 rfl) (v := (0 : Int32)) (by decide) ?_
    refine jr_istore K (D_at DX7_partingPull_q0 11 rfl) (i := 4) (by decide) (L2 := [_, _, _, _, _, _]) rfl ?_
    refine jr_keep [true, true, true, true, true, false] ?_
    exact J_X7_partingPull_19 K n E n a0 a1 (-1 : Int32) (129 : Int32) (0 : Int32) h hf
  · replace hf := (if_neg c5).symm.trans hf
    refine jr_iconst K (D_at DX7_partingPull_q0 4 rfl) (v := (-1 : Int32)) (by decide) ?_
    cases hf
    exact jr_iret K E (D_at DX7_partingPull_q0 5 rfl) rfl ⟨rfl, rfl⟩
theorem C_X7_partingPull {G : jG} {l : Launch} (d : Nat) {n : Nat} {a0 : Nat} {a1 : Nat} {h : jH} {res : (Int32 × jH)} (hf : F_X7_partingPull n a0 a1 h = some res) : jC G l mX7_partingPull (d + 5) 0 0 [.ref a0, .ref a1] h (jPW res) :=
  jC.of pn_X7 (jcats rfl) (Nat.le_of_ble_eq_true rfl) (fun X K E => J_X7_partingPull K n E a0 a1 h hf)
set_option maxHeartbeats 400000 in
set_option maxRecDepth 100000 in
theorem J_X8_nearestNew {G : jG} {l : Launch} {d : Nat} {X : jX} {res : Int32} (K : jOK G l mX8_nearestNew (d) X) (n : Nat) (h : jH) (E : jEnd G mX8_nearestNew (jPR h res) X) (a0 : Nat) (hf : F_X8_nearestNew n a0 h = some res) : jJ G X h 0 0 0 [some (.ref a0)] [] := by
  unfold F_X8_nearestNew at hf
  refine jr_aload_n K (D_at DX8_nearestNew_q0 0 rfl) rfl rfl ?_
  obtain ⟨v1, e1, hf⟩ := jbind hf
  refine jr_getI K (D_at DX8_nearestNew_q0 1 rfl) fg_X8_51_6 e1 ?_
  refine jr_if_ne K (D_at DX8_nearestNew_q0 2 rfl) (tgt := 11) (by decide) (fun c4 => ?_) (fun c4 => ?_)
  · replace hf := (if_neg c4).symm.trans hf
    refine jr_aload_n K (D_at DX8_nearestNew_q0 5 rfl) rfl rfl ?_
    obtain ⟨p12, e12, hf⟩ := jbind hf
    refine jr_getR K (D_at DX8_nearestNew_q0 6 rfl) fg_X8_9_6 e12 ?_
    refine jr_aload_n K (D_at DX8_nearestNew_q0 7 rfl) rfl rfl ?_
    obtain ⟨v16, e16, hf⟩ := jbind hf
    refine jr_getI K (D_at DX8_nearestNew_q0 8 rfl) fg_X8_51_6 e16 ?_
    refine jr_iconst K (D_at DX8_nearestNew_q0 9 rfl) (v := (1 : Int32)) (by decide) ?_
    refine jr_isub K (D_at DX8_nearestNew_q0 10 rfl) ?_
    obtain ⟨v21, e21, hf⟩ := jbind hf
    refine jr_iald K (D_at DX8_nearestNew_q0 11 rfl) e21 ?_
    refine jr_iconst K (D_at DX8_nearestNew_q1 0 rfl) (v := (1 : Int32)) (by decide) ?_
    refine jr_iadd K (D_at DX8_nearestNew_q1 1 rfl) ?_
    cases hf
    exact jr_iret K E (D_at DX8_nearestNew_q1 2 rfl) rfl ⟨rfl, rfl⟩
  · replace hf := (if_pos c4).symm.trans hf
    refine jr_iconst K (D_at DX8_nearestNew_q0 3 rfl) (v := (0 : Int32)) (by decide) ?_
    refine jr_goto K (D_at DX8_nearestNew_q0 4 rfl) (tgt := 24) (by decide) ?_
    cases hf
    exact jr_iret K E (D_at DX8_nearestNew_q1 2 rfl) rfl ⟨rfl, rfl⟩
theorem C_X8_nearestNew {G : jG} {l : Launch} (d : Nat) {n : Nat} {a0 : Nat} {h : jH} {res : Int32} (hf : F_X8_nearestNew n a0 h = some res) : jC G l mX8_nearestNew (d) 0 0 [.ref a0] h (jPR h res) :=
  jC.of pn_X8 (jcats rfl) (Nat.le_of_ble_eq_true rfl) (fun X K E => J_X8_nearestNew K n h E a0 hf)
set_option maxHeartbeats 400000 in
set_option maxRecDepth 100000 in
theorem J_X8_farthestNew {G : jG} {l : Launch} {d : Nat} {X : jX} {res : Int32} (K : jOK G l mX8_farthestNew (d + 1) X) (n : Nat) (h : jH) (E : jEnd G mX8_farthestNew (jPR h res) X) (a0 : Nat) (hf : F_X8_farthestNew n a0 h = some res) : jJ G X h 0 0 0 [some (.ref a0)] [] := by
  unfold F_X8_farthestNew at hf
  refine jr_aload_n K (D_at DX8_farthestNew_q0 0 rfl) rfl rfl ?_
  obtain ⟨v1, e1, hf⟩ := jbind hf
  refine jr_getI K (D_at DX8_farthestNew_q0 1 rfl) fg_X8_51_6 e1 ?_
  refine jr_if_ne K (D_at DX8_farthestNew_q0 2 rfl) (tgt := 12) (by decide) (fun c4 => ?_) (fun c4 => ?_)
  · replace hf := (if_neg c4).symm.trans hf
    refine jr_bipush K (D_at DX8_farthestNew_q0 5 rfl) (v := (31 : Int32)) (by decide) ?_
    refine jr_aload_n K (D_at DX8_farthestNew_q0 6 rfl) rfl rfl ?_
    obtain ⟨p15, e15, hf⟩ := jbind hf
    refine jr_getR K (D_at DX8_farthestNew_q0 7 rfl) fg_X8_9_6 e15 ?_
    refine jr_aload_n K (D_at DX8_farthestNew_q0 8 rfl) rfl rfl ?_
    obtain ⟨v19, e19, hf⟩ := jbind hf
    refine jr_getI K (D_at DX8_farthestNew_q0 9 rfl) fg_X8_51_6 e19 ?_
    refine jr_iconst K (D_at DX8_farthestNew_q0 10 rfl) (v := (1 : Int32)) (by decide) ?_
    refine jr_isub K (D_at DX8_farthestNew_q0 11 rfl) ?_
    obtain ⟨v24, e24, hf⟩ := jbind hf
    refine jr_iald K (D_at DX8_farthestNew_q1 0 rfl) e24 ?_
    refine jr_aload_n K (D_at DX8_farthestNew_q1 1 rfl) rfl rfl ?_
    obtain ⟨p26, e26, hf⟩ := jbind hf
    refine jr_getR K (D_at DX8_farthestNew_q1 2 rfl) fg_X8_15_6 e26 ?_
    refine jr_aload_n K (D_at DX8_farthestNew_q1 3 rfl) rfl rfl ?_
    obtain ⟨v30, e30, hf⟩ := jbind hf
    refine jr_getI K (D_at DX8_farthestNew_q1 4 rfl) fg_X8_51_6 e30 ?_
    refine jr_iconst K (D_at DX8_farthestNew_q1 5 rfl) (v := (1 : Int32)) (by decide) ?_
    refine jr_isub K (D_at DX8_farthestNew_q1 6 rfl) ?_
    obtain ⟨v35, e35, hf⟩ := jbind hf
    refine jr_iald K (D_at DX8_farthestNew_q1 7 rfl) e35 ?_
    refine jr_iadd K (D_at DX8_farthestNew_q1 8 rfl) ?_
    refine jr_min K (D_at DX8_farthestNew_q1 9 rfl) mm_X8_85 (by exact Nat.le_of_ble_eq_true rfl) ?_
    cases hf
    exact jr_iret K E (D_at DX8_farthestNew_q1 10 rfl) rfl ⟨rfl, rfl⟩
  · replace hf := (if_pos c4).symm.trans hf
    refine jr_bipush K (D_at DX8_farthestNew_q0 3 rfl) (v := (31 : Int32)) (by decide) ?_
    refine jr_goto K (D_at DX8_farthestNew_q0 4 rfl) (tgt := 40) (by decide) ?_
    cases hf
    exact jr_iret K E (D_at DX8_farthestNew_q1 10 rfl) rfl ⟨rfl, rfl⟩
theorem C_X8_farthestNew {G : jG} {l : Launch} (d : Nat) {n : Nat} {a0 : Nat} {h : jH} {res : Int32} (hf : F_X8_farthestNew n a0 h = some res) : jC G l mX8_farthestNew (d + 1) 0 0 [.ref a0] h (jPR h res) :=
  jC.of pn_X8 (jcats rfl) (Nat.le_of_ble_eq_true rfl) (fun X K E => J_X8_farthestNew K n h E a0 hf)
end
