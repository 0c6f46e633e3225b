section
set_option maxHeartbeats 400000 in
set_option maxRecDepth 100000 in
theorem J_X12_order_26_b {G : jG} {l : Launch} {d : Nat} {X : jX} {res : (Int32 × jH)} (K : jOK G l mX12_order (d + 2) X) (n : Nat) (rc9 : Nat → Int32 → Int32 → jH → Option (Int32 × jH)) (hr9 : ∀ (a0 : Nat) (x1 : Int32) (x2 : Int32) (h : jH), rc9 a0 x1 x2 h = some res → jJ G X h 0 0 9 [some (.ref a0), some (.int x1), some (.int x2), none] []) (rc26 : Nat → Int32 → Int32 → Int32 → jH → Option (Int32 × jH)) (hr26 : ∀ (a0 : Nat) (x1 : Int32) (x2 : Int32) (x3 : Int32) (h : jH), rc26 a0 x1 x2 x3 h = some res → jJ G X h 0 0 26 [some (.ref a0), some (.int x1), some (.int x2), some (.int x3)] []) (E : jEnd G mX12_order (jPW res) X) (a0 : Nat) (x1 : Int32) (x2 : Int32) (x3 : Int32) (h : jH) (hf : F_X12_order_26_b n rc9 rc26 a0 x1 x2 x3 h = some res) : jJ G X h 0 0 26 [some (.ref a0), some (.int x1), some (.int x2), some (.int x3)] [] := by
  unfold F_X12_order_26_b at hf
  refine jr_iload_n K (D_at DX12_order_q1 6 rfl) rfl rfl ?_
  refine jr_iload_n K (D_at DX12_order_q1 7 rfl) rfl rfl ?_
  refine jr_icmp_ge K (D_at DX12_order_q1 8 rfl) (tgt := 84) (by decide) (fun c28 => ?_) (fun c28 => ?_)
  · replace hf := (if_pos c28).symm.trans hf
    refine jr_iload_n K (D_at DX12_order_q4 4 rfl) rfl rfl ?_
    refine jr_aload_n K (D_at DX12_order_q4 5 rfl) rfl rfl ?_
    obtain ⟨p86, e86, hf⟩ := jbind hf
    refine jr_getR K (D_at DX12_order_q4 6 rfl) fg_X12_49_10 e86 ?_
    refine jr_iload_n K (D_at DX12_order_q4 7 rfl) rfl rfl ?_
    obtain ⟨v90, e90, hf⟩ := jbind hf
    refine jr_iald K (D_at DX12_order_q4 8 rfl) e90 ?_
    refine jr_max K (D_at DX12_order_q4 9 rfl) mm_X12_368 (by exact Nat.le_of_ble_eq_true rfl) ?_
    refine jr_istore_n K (D_at DX12_order_q4 10 rfl) (i := 1) rfl (by decide) (L2 := [_, _, _, _]) rfl ?_
    refine jr_iinc K (D_at DX12_order_q4 11 rfl) (i := 2) rfl (v := x2 + (1 : Int32)) (jinc (by decide)) (by decide) (L2 := [_, _, _, _]) rfl ?_
    refine jr_goto K (D_at DX12_order_q5 0 rfl) (tgt := 9) (by decide) ?_
    refine jr_keep [true, true, true, false] ?_
    exact hr9 a0 (if x1 < v90 then v90 else x1) (x2 + (1 : Int32)) h hf
  · replace hf := (if_neg c28).symm.trans hf
    refine jr_aload_n K (D_at DX12_order_q1 9 rfl) rfl rfl ?_
    obtain ⟨p32, e32, hf⟩ := jbind hf
    refine jr_getR K (D_at DX12_order_q1 10 rfl) fg_X12_49_10 e32 ?_
    refine jr_iload_n K (D_at DX12_order_q1 11 rfl) rfl rfl ?_
    refine jr_aload_n K (D_at DX12_order_q2 0 rfl) rfl rfl ?_
    refine jr_iload_n K (D_at DX12_order_q2 1 rfl) rfl rfl ?_
    refine jr_iconst K (D_at DX12_order_q2 2 rfl) (v := (4 : Int32)) (by decide) ?_
    obtain ⟨v39, e39, hf⟩ := jbind hf
    obtain ⟨rc_39, e39⟩ := jcv_o e39
    refine jr_callV K (C_X12_of (d) e39) (D_at DX12_order_q2 3 rfl) cv_X12_67_X12_of (As := [.int x3, .int (4 : Int32)]) (ci := 10) rfl rc_39 rfl rfl (by exact Nat.le_of_ble_eq_true rfl) (kc2 := 0) (ks2 := 0) rfl rfl (fun k9 h9 w9 => by cases w9.1) (fun r9 h9 w9 => ?_)
    obtain ⟨w1, w2⟩ := w9
    subst h9
    cases w1
    show jJ G X _ 0 0 _ _ (.int v39 :: _)
    refine jr_aload_n K (D_at DX12_order_q2 4 rfl) rfl rfl ?_
    refine jr_iload_n K (D_at DX12_order_q2 5 rfl) rfl rfl ?_
    refine jr_iconst K (D_at DX12_order_q2 6 rfl) (v := (4 : Int32)) (by decide) ?_
    obtain ⟨v45, e45, hf⟩ := jbind hf
    obtain ⟨rc_45, e45⟩ := jcv_o e45
    refine jr_callV K (C_X12_of (d) e45) (D_at DX12_order_q2 7 rfl) cv_X12_67_X12_of (As := [.int x2, .int (4 : Int32)]) (ci := 10) rfl rc_45 rfl rfl (by exact Nat.le_of_ble_eq_true rfl) (kc2 := 0) (ks2 := 0) rfl rfl (fun k9 h9 w9 => by cases w9.1) (fun r9 h9 w9 => ?_)
    obtain ⟨w1, w2⟩ := w9
    subst h9
    cases w1
    show jJ G X _ 0 0 _ _ (.int v45 :: _)
    refine jr_icmp_gt K (D_at DX12_order_q2 8 rfl) (tgt := 71) (by decide) (fun c48 => ?_) (fun c48 => ?_)
    · replace hf := (if_pos c48).symm.trans hf
      refine jr_aload_n K (D_at DX12_order_q3 9 rfl) rfl rfl ?_
      obtain ⟨p72, e72, hf⟩ := jbind hf
      refine jr_getR K (D_at DX12_order_q3 10 rfl) fg_X12_49_10 e72 ?_
      refine jr_iload_n K (D_at DX12_order_q3 11 rfl) rfl rfl ?_
      obtain ⟨v76, e76, hf⟩ := jbind hf
      refine jr_iald K (D_at DX12_order_q4 0 rfl) e76 ?_
      obtain ⟨h77, e77, hf⟩ := jbind hf
      refine jr_iast K (D_at DX12_order_q4 1 rfl) e77 ?_
      refine jr_iinc K (D_at DX12_order_q4 2 rfl) (i := 3) rfl (v := x3 + (1 : Int32)) (jinc (by decide)) (by decide) (L2 := [_, _, _, _]) rfl ?_
      refine jr_goto K (D_at DX12_order_q4 3 rfl) (tgt := 26) (by decide) ?_
      refine jr_keep [true, true, true, true] ?_
      exact hr26 a0 x1 x2 (x3 + (1 : Int32)) h77 hf
    · replace hf := (if_neg c48).symm.trans hf
      refine jr_aload_n K (D_at DX12_order_q2 9 rfl) rfl rfl ?_
      obtain ⟨p52, e52, hf⟩ := jbind hf
      refine jr_getR K (D_at DX12_order_q2 10 rfl) fg_X12_49_10 e52 ?_
      refine jr_iload_n K (D_at DX12_order_q2 11 rfl) rfl rfl ?_
      obtain ⟨v56, e56, hf⟩ := jbind hf
      refine jr_iald K (D_at DX12_order_q3 0 rfl) e56 ?_
      refine jr_aload_n K (D_at DX12_order_q3 1 rfl) rfl rfl ?_
      obtain ⟨p58, e58, hf⟩ := jbind hf
      refine jr_getR K (D_at DX12_order_q3 2 rfl) fg_X12_49_10 e58 ?_
      refine jr_iload_n K (D_at DX12_order_q3 3 rfl) rfl rfl ?_
      obtain ⟨v62, e62, hf⟩ := jbind hf
      refine jr_iald K (D_at DX12_order_q3 4 rfl) e62 ?_
      refine jr_iconst K (D_at DX12_order_q3 5 rfl) (v := (1 : Int32)) (by decide) ?_
      refine jr_iadd K (D_at DX12_order_q3 6 rfl) ?_
      refine jr_max K (D_at DX12_order_q3 7 rfl) mm_X12_368 (by exact Nat.le_of_ble_eq_true rfl) ?_
      refine jr_goto K (D_at DX12_order_q3 8 rfl) (tgt := 77) (by decide) ?_
      obtain ⟨h77, e77, hf⟩ := jbind hf
      refine jr_iast K (D_at DX12_order_q4 1 rfl) e77 ?_
      refine jr_iinc K (D_at DX12_order_q4 2 rfl) (i := 3) rfl (v := x3 + (1 : Int32)) (jinc (by decide)) (by decide) (L2 := [_, _, _, _]) rfl ?_
      refine jr_goto K (D_at DX12_order_q4 3 rfl) (tgt := 26) (by decide) ?_
      refine jr_keep [true, true, true, true] ?_
      exact hr26 a0 x1 x2 (x3 + (1 : Int32)) h77 hf
theorem J_X12_order_26 {G : jG} {l : Launch} {d : Nat} {X : jX} {res : (Int32 × jH)} (K : jOK G l mX12_order (d + 2) X) (n : Nat) (rc9 : Nat → Int32 → Int32 → jH → Option (Int32 × jH)) (hr9 : ∀ (a0 : Nat) (x1 : Int32) (x2 : Int32) (h : jH), rc9 a0 x1 x2 h = some res → jJ G X h 0 0 9 [some (.ref a0), some (.int x1), some (.int x2), none] []) (E : jEnd G mX12_order (jPW res) X) (k : Nat) : ∀ (a0 : Nat) (x1 : Int32) (x2 : Int32) (x3 : Int32) (h : jH), F_X12_order_26 n rc9 k a0 x1 x2 x3 h = some res → jJ G X h 0 0 26 [some (.ref a0), some (.int x1), some (.int x2), some (.int x3)] [] := by
  induction k with
  | zero =>
    intro a0 x1 x2 x3 h hf
    exact jno (show (none : Option (Int32 × jH)) = some res from hf)
  | succ k ih =>
    intro a0 x1 x2 x3 h hf
    exact J_X12_order_26_b K n rc9 hr9 (F_X12_order_26 n rc9 k) ih E a0 x1 x2 x3 h hf
set_option maxHeartbeats 400000 in
set_option maxRecDepth 100000 in
theorem J_X12_order_9_b {G : jG} {l : Launch} {d : Nat} {X : jX} {res : (Int32 × jH)} (K : jOK G l mX12_order (d + 2) X) (n : Nat) (rc9 : Nat → Int32 → Int32 → jH → Option (Int32 × jH)) (hr9 : ∀ (a0 : Nat) (x1 : Int32) (x2 : Int32) (h : jH), rc9 a0 x1 x2 h = some res → jJ G X h 0 0 9 [some (.ref a0), some (.int x1), some (.int x2), none] []) (E : jEnd G mX12_order (jPW res) X) (a0 : Nat) (x1 : Int32) (x2 : Int32) (h : jH) (hf : F_X12_order_9_b n rc9 a0 x1 x2 h = some res) : jJ G X h 0 0 9 [some (.ref a0), some (.int x1), some (.int x2), none] [] := by
  unfold F_X12_order_9_b at hf
  refine jr_iload_n K (D_at DX12_order_q0 7 rfl) rfl rfl ?_
  refine jr_aload_n K (D_at DX12_order_q0 8 rfl) rfl rfl ?_
  obtain ⟨v11, e11, hf⟩ := jbind hf
  obtain ⟨rc_11, e11⟩ := jcv_o e11
  refine jr_callV K (C_X12_rings (d + 1) e11) (D_at DX12_order_q0 9 rfl) cv_X12_59_X12_rings (As := []) (ci := 10) rfl rc_11 rfl rfl (by exact Nat.le_of_ble_eq_true rfl) (kc2 := 0) (ks2 := 0) rfl rfl (fun k9 h9 w9 => by cases w9.1) (fun r9 h9 w9 => ?_)
  obtain ⟨w1, w2⟩ := w9
  subst h9
  cases w1
  show jJ G X _ 0 0 _ _ (.int v11 :: _)
  refine jr_icmp_ge K (D_at DX12_order_q0 10 rfl) (tgt := 101) (by decide) (fun c14 => ?_) (fun c14 => ?_)
  · replace hf := (if_pos c14).symm.trans hf
    refine jr_aload_n K (D_at DX12_order_q5 1 rfl) rfl rfl ?_
    obtain ⟨v102, e102, hf⟩ := jbind hf
    obtain ⟨rc_102, e102⟩ := jcv_o e102
    refine jr_callV K (C_X12_rings (d + 1) e102) (D_at DX12_order_q5 2 rfl) cv_X12_59_X12_rings (As := []) (ci := 10) rfl rc_102 rfl rfl (by exact Nat.le_of_ble_eq_true rfl) (kc2 := 0) (ks2 := 0) rfl rfl (fun k9 h9 w9 => by cases w9.1) (fun r9 h9 w9 => ?_)
    obtain ⟨w1, w2⟩ := w9
    subst h9
    cases w1
    show jJ G X _ 0 0 _ _ (.int v102 :: _)
    refine jr_iload_n K (D_at DX12_order_q5 3 rfl) rfl rfl ?_
    refine jr_isub K (D_at DX12_order_1_q0 0 rfl) ?_
    cases hf
    exact jr_iret K E (D_at DX12_order_1_q0 1 rfl) rfl ⟨rfl, rfl⟩
  · replace hf := (if_neg c14).symm.trans hf
    refine jr_aload_n K (D_at DX12_order_q0 11 rfl) rfl rfl ?_
    obtain ⟨p18, e18, hf⟩ := jbind hf
    refine jr_getR K (D_at DX12_order_q1 0 rfl) fg_X12_49_10 e18 ?_
    refine jr_iload_n K (D_at DX12_order_q1 1 rfl) rfl rfl ?_
    refine jr_iconst K (D_at DX12_order_q1 2 rfl) (v := (1 : Int32)) (by decide) ?_
    obtain ⟨h23, e23, hf⟩ := jbind hf
    refine jr_iast K (D_at DX12_order_q1 3 rfl) e23 ?_
    refine jr_iconst K (D_at DX12_order_q1 4 rfl) (v := (0 : Int32)) (by decide) ?_
    refine jr_istore_n K (D_at DX12_order_q1 5 rfl) (i := 3) rfl (by decide) (L2 := [_, _, _, _]) rfl ?_
    refine jr_keep [true, true, true, true] ?_
    exact J_X12_order_26 K n rc9 hr9 E n a0 x1 x2 (0 : Int32) h23 hf
theorem J_X12_order_9 {G : jG} {l : Launch} {d : Nat} {X : jX} {res : (Int32 × jH)} (K : jOK G l mX12_order (d + 2) X) (n : Nat) (E : jEnd G mX12_order (jPW res) X) (k : Nat) : ∀ (a0 : Nat) (x1 : Int32) (x2 : Int32) (h : jH), F_X12_order_9 n k a0 x1 x2 h = some res → jJ G X h 0 0 9 [some (.ref a0), some (.int x1), some (.int x2), none] [] := by
  induction k with
  | zero =>
    intro a0 x1 x2 h hf
    exact jno (show (none : Option (Int32 × jH)) = some res from hf)
  | succ k ih =>
    intro a0 x1 x2 h hf
    exact J_X12_order_9_b K n (F_X12_order_9 n k) ih E a0 x1 x2 h hf
set_option maxHeartbeats 400000 in
set_option maxRecDepth 100000 in
theorem J_X12_order {G : jG} {l : Launch} {d : Nat} {X : jX} {res : (Int32 × jH)} (K : jOK G l mX12_order (d + 2) X) (n : Nat) (E : jEnd G mX12_order (jPW res) X) (a0 : Nat) (h : jH) (hf : F_X12_order n a0 h = some res) : jJ G X h 0 0 0 [some (.ref a0), none, none, none] [] := by
  unfold F_X12_order at hf
  refine jr_aload_n K (D_at DX12_order_q0 0 rfl) rfl rfl ?_
  refine jr_iconst K (D_at DX12_order_q0 1 rfl) (v := (0 : Int32)) (by decide) ?_
  obtain ⟨h2, e2, hf⟩ := jbind hf
  refine jr_putI K (D_at DX12_order_q0 2 rfl) fp_X12_3_10 (Or.inl rfl) e2 ?_
  refine jr_iconst K (D_at DX12_order_q0 3 rfl) (v := (0 : Int32)) (by decide) ?_
  refine jr_istore_n K (D_at DX12_order_q0 4 rfl) (i := 1) rfl (by decide) (L2 := [_, _, _, _]) rfl ?_
  refine jr_iconst K (D_at DX12_order_q0 5 rfl) (v := (0 : Int32)) (by decide) ?_
  refine jr_istore_n K (D_at DX12_order_q0 6 rfl) (i := 2) rfl (by decide) (L2 := [_, _, _, _]) rfl ?_
  refine jr_keep [true, true, true, false] ?_
  exact J_X12_order_9 K n E n a0 (0 : Int32) (0 : Int32) h2 hf
theorem C_X12_order {G : jG} {l : Launch} (d : Nat) {n : Nat} {a0 : Nat} {h : jH} {res : (Int32 × jH)} (hf : F_X12_order n a0 h = some res) : jC G l mX12_order (d + 2) 0 0 [.ref a0] h (jPW res) :=
  jC.of pn_X12 (jcats rfl) (Nat.le_of_ble_eq_true rfl) (fun X K E => J_X12_order K n E a0 h hf)
set_option maxHeartbeats 400000 in
set_option maxRecDepth 100000 in
theorem J_X12_tight_83 {G : jG} {l : Launch} {d : Nat} {X : jX} {res : (Int32 × jH)} (K : jOK G l mX12_tight (d + 2) X) (n : Nat) (rc39 : Nat → Int32 → Int32 → Int32 → Int32 → jH → Option (Int32 × jH)) (hr39 : ∀ (a0 : Nat) (x1 : Int32) (x2 : Int32) (x3 : Int32) (x4 : Int32) (h : jH), rc39 a0 x1 x2 x3 x4 h = some res → jJ G X h 0 0 39 [some (.ref a0), some (.int x1), some (.int x2), some (.int x3), some (.int x4), none] []) (E : jEnd G mX12_tight (jPW res) X) (a0 : Nat) (x1 : Int32) (x3 : Int32) (x4 : Int32) (x5 : Int32) (s0 : Int32) (h : jH) (hf : F_X12_tight_83 n rc39 a0 x1 x3 x4 x5 s0 h = some res) : jJ G X h 0 0 83 [some (.ref a0), some (.int x1), none, some (.int x3), some (.int x4), some (.int x5)] [.int s0] := by
  unfold F_X12_tight_83 at hf
  refine jr_istore_n K (D_at DX12_tight_q4 1 rfl) (i := 2) rfl (by decide) (L2 := [_, _, _, _, _, _]) rfl ?_
  refine jr_iload_n K (D_at DX12_tight_q4 2 rfl) rfl rfl ?_
  refine jr_iload K (D_at DX12_tight_q4 3 rfl) rfl ?_
  refine jr_min K (D_at DX12_tight_q4 4 rfl) mm_X12_119 (by exact Nat.le_of_ble_eq_true rfl) ?_
  refine jr_istore_n K (D_at DX12_tight_q4 5 rfl) (i := 3) rfl (by decide) (L2 := [_, _, _, _, _, _]) rfl ?_
  refine jr_iinc K (D_at DX12_tight_q4 6 rfl) (i := 4) rfl (v := x4 + (1 : Int32)) (jinc (by decide)) (by decide) (L2 := [_, _, _, _, _, _]) rfl ?_
  refine jr_goto K (D_at DX12_tight_q4 7 rfl) (tgt := 39) (by decide) ?_
  refine jr_keep [true, true, true, true, true, false] ?_
  exact hr39 a0 x1 s0 (if x5 < x3 then x5 else x3) (x4 + (1 : Int32)) h hf
set_option maxHeartbeats 400000 in
set_option maxRecDepth 100000 in
theorem J_X12_tight_39_b {G : jG} {l : Launch} {d : Nat} {X : jX} {res : (Int32 × jH)} (K : jOK G l mX12_tight (d + 2) X) (n : Nat) (rc39 : Nat → Int32 → Int32 → Int32 → Int32 → jH → Option (Int32 × jH)) (hr39 : ∀ (a0 : Nat) (x1 : Int32) (x2 : Int32) (x3 : Int32) (x4 : Int32) (h : jH), rc39 a0 x1 x2 x3 x4 h = some res → jJ G X h 0 0 39 [some (.ref a0), some (.int x1), some (.int x2), some (.int x3), some (.int x4), none] []) (E : jEnd G mX12_tight (jPW res) X) (a0 : Nat) (x1 : Int32) (x2 : Int32) (x3 : Int32) (x4 : Int32) (h : jH) (hf : F_X12_tight_39_b n rc39 a0 x1 x2 x3 x4 h = some res) : jJ G X h 0 0 39 [some (.ref a0), some (.int x1), some (.int x2), some (.int x3), some (.int x4), none] [] := by
  unfold F_X12_tight_39_b at hf
  refine jr_iload K (D_at DX12_tight_q1 11 rfl) rfl ?_
  refine jr_iload_n K (D_at DX12_tight_q2 0 rfl) rfl rfl ?_
  refine jr_iadd K (D_at DX12_tight_q2 1 rfl) ?_
  refine jr_aload_n K (D_at DX12_tight_q2 2 rfl) rfl rfl ?_
  obtain ⟨v44, e44, hf⟩ := jbind hf
  obtain ⟨rc_44, e44⟩ := jcv_o e44
  refine jr_callV K (C_X12_rings (d + 1) e44) (D_at DX12_tight_q2 3 rfl) cv_X12_59_X12_rings (As := []) (ci := 10) rfl rc_44 rfl rfl (by exact Nat.le_of_ble_eq_true rfl) (kc2 := 0) (ks2 := 0) rfl rfl (fun k9 h9 w9 => by cases w9.1) (fun r9 h9 w9 => ?_)
  obtain ⟨w1, w2⟩ := w9
  subst h9
  cases w1
  show jJ G X _ 0 0 _ _ (.int v44 :: _)
  refine jr_icmp_gt K (D_at DX12_tight_q2 4 rfl) (tgt := 97) (by decide) (fun c47 => ?_) (fun c47 => ?_)
  · replace hf := (if_pos c47).symm.trans hf
    refine jr_iload_n K (D_at DX12_tight_q4 8 rfl) rfl rfl ?_
    cases hf
    exact jr_iret K E (D_at DX12_tight_q4 9 rfl) rfl ⟨rfl, rfl⟩
  · replace hf := (if_neg c47).symm.trans hf
    refine jr_aload_n K (D_at DX12_tight_q2 5 rfl) rfl rfl ?_
    refine jr_iload K (D_at DX12_tight_q2 6 rfl) rfl ?_
    refine jr_iload_n K (D_at DX12_tight_q2 7 rfl) rfl rfl ?_
    refine jr_iadd K (D_at DX12_tight_q2 8 rfl) ?_
    refine jr_iconst K (D_at DX12_tight_q2 9 rfl) (v := (1 : Int32)) (by decide) ?_
    refine jr_isub K (D_at DX12_tight_q2 10 rfl) ?_
    refine jr_iconst K (D_at DX12_tight_q2 11 rfl) (v := (0 : Int32)) (by decide) ?_
    obtain ⟨v58, e58, hf⟩ := jbind hf
    obtain ⟨rc_58, e58⟩ := jcv_o e58
    refine jr_callV K (C_X12_of (d) e58) (D_at DX12_tight_q3 0 rfl) cv_X12_67_X12_of (As := [.int ((x4 + x1) - (1 : Int32)), .int (0 : Int32)]) (ci := 10) rfl rc_58 rfl rfl (by exact Nat.le_of_ble_eq_true rfl) (kc2 := 0) (ks2 := 0) rfl rfl (fun k9 h9 w9 => by cases w9.1) (fun r9 h9 w9 => ?_)
    obtain ⟨w1, w2⟩ := w9
    subst h9
    cases w1
    show jJ G X _ 0 0 _ _ (.int v58 :: _)
    refine jr_aload_n K (D_at DX12_tight_q3 1 rfl) rfl rfl ?_
    refine jr_iload K (D_at DX12_tight_q3 2 rfl) rfl ?_
    refine jr_iconst K (D_at DX12_tight_q3 3 rfl) (v := (0 : Int32)) (by decide) ?_
    obtain ⟨v65, e65, hf⟩ := jbind hf
    obtain ⟨rc_65, e65⟩ := jcv_o e65
    refine jr_callV K (C_X12_of (d) e65) (D_at DX12_tight_q3 4 rfl) cv_X12_67_X12_of (As := [.int x4, .int (0 : Int32)]) (ci := 10) rfl rc_65 rfl rfl (by exact Nat.le_of_ble_eq_true rfl) (kc2 := 0) (ks2 := 0) rfl rfl (fun k9 h9 w9 => by cases w9.1) (fun r9 h9 w9 => ?_)
    obtain ⟨w1, w2⟩ := w9
    subst h9
    cases w1
    show jJ G X _ 0 0 _ _ (.int v65 :: _)
    refine jr_isub K (D_at DX12_tight_q3 5 rfl) ?_
    refine jr_istore K (D_at DX12_tight_q3 6 rfl) (i := 5) (by decide) (L2 := [_, _, _, _, _, _]) rfl ?_
    refine jr_iload K (D_at DX12_tight_q3 7 rfl) rfl ?_
    refine jr_iload_n K (D_at DX12_tight_q3 8 rfl) rfl rfl ?_
    refine jr_icmp_ge K (D_at DX12_tight_q3 9 rfl) (tgt := 82) (by decide) (fun c74 => ?_) (fun c74 => ?_)
    · replace hf := (if_pos c74).symm.trans hf
      refine jr_iload_n K (D_at DX12_tight_q4 0 rfl) rfl rfl ?_
      refine jr_keep [true, true, false, true, true, true] ?_
      exact J_X12_tight_83 K n rc39 hr39 E a0 x1 x3 x4 (v58 - v65) x2 h hf
    · replace hf := (if_neg c74).symm.trans hf
      refine jr_iload K (D_at DX12_tight_q3 10 rfl) rfl ?_
      refine jr_goto K (D_at DX12_tight_q3 11 rfl) (tgt := 83) (by decide) ?_
      refine jr_keep [true, true, false, true, true, true] ?_
      exact J_X12_tight_83 K n rc39 hr39 E a0 x1 x3 x4 (v58 - v65) x4 h hf
theorem J_X12_tight_39 {G : jG} {l : Launch} {d : Nat} {X : jX} {res : (Int32 × jH)} (K : jOK G l mX12_tight (d + 2) X) (n : Nat) (E : jEnd G mX12_tight (jPW res) X) (k : Nat) : ∀ (a0 : Nat) (x1 : Int32) (x2 : Int32) (x3 : Int32) (x4 : Int32) (h : jH), F_X12_tight_39 n k a0 x1 x2 x3 x4 h = some res → jJ G X h 0 0 39 [some (.ref a0), some (.int x1), some (.int x2), some (.int x3), some (.int x4), none] [] := by
  induction k with
  | zero =>
    intro a0 x1 x2 x3 x4 h hf
    exact jno (show (none : Option (Int32 × jH)) = some res from hf)
  | succ k ih =>
    intro a0 x1 x2 x3 x4 h hf
    exact J_X12_tight_39_b K n (F_X12_tight_39 n k) ih E a0 x1 x2 x3 x4 h hf
set_option maxHeartbeats 400000 in
set_option maxRecDepth 100000 in
theorem J_X12_tight_21 {G : jG} {l : Launch} {d : Nat} {X : jX} {res : (Int32 × jH)} (K : jOK G l mX12_tight (d + 2) X) (n : Nat) (E : jEnd G mX12_tight (jPW res) X) (a0 : Nat) (x1 : Int32) (sa0 : Nat) (s1 : Int32) (h : jH) (hf : F_X12_tight_21 n a0 x1 sa0 s1 h = some res) : jJ G X h 0 0 21 [some (.ref a0), some (.int x1), none, none, none, none] [.int s1, .ref sa0] := by
  unfold F_X12_tight_21 at hf
  refine jr_iconst K (D_at DX12_tight_q1 0 rfl) (v := (1 : Int32)) (by decide) ?_
  obtain ⟨q22, e22, hf⟩ := jbind hf
  obtain ⟨rc_22, e22⟩ := jcv_o e22
  refine jr_callV K (C_X12_throwsIf (d + 1) e22) (D_at DX12_tight_q1 1 rfl) cv_X12_250_X12_throwsIf (As := [.int s1, .int (1 : Int32)]) (ci := 10) rfl rc_22 rfl rfl (by exact Nat.le_of_ble_eq_true rfl) (kc2 := 0) (ks2 := 0) rfl rfl (fun k9 h9 w9 => by cases w9.1) (fun r9 h9 w9 => ?_)
  obtain ⟨w1, w2⟩ := w9
  subst h9
  cases w1
  show jJ G X _ 0 0 _ _ (.int q22.1 :: _)
  refine jr_if_eq K (D_at DX12_tight_q1 2 rfl) (tgt := 30) (by decide) (fun c25 => ?_) (fun c25 => ?_)
  · replace hf := (if_pos c25).symm.trans hf
    refine jr_iconst K (D_at DX12_tight_q1 5 rfl) (v := (-1 : Int32)) (by decide) ?_
    refine jr_istore_n K (D_at DX12_tight_q1 6 rfl) (i := 2) rfl (by decide) (L2 := [_, _, _, _, _, _]) rfl ?_
    refine jr_ldcw K (D_at DX12_tight_q1 7 rfl) (v := (1000000 : Int32)) kc_X12_273 ?_
    refine jr_istore_n K (D_at DX12_tight_q1 8 rfl) (i := 3) rfl (by decide) (L2 := [_, _, _, _, _, _]) rfl ?_
    refine jr_iconst K (D_at DX12_tight_q1 9 rfl) (v := (0 : Int32)) (by decide) ?_
    refine jr_istore K (D_at DX12_tight_q1 10 rfl) (i := 4) (by decide) (L2 := [_, _, _, _, _, _]) rfl ?_
    refine jr_keep [true, true, true, true, true, false] ?_
    exact J_X12_tight_39 K n E n a0 x1 (-1 : Int32) (1000000 : Int32) (0 : Int32) q22.2 hf
  · replace hf := (if_neg c25).symm.trans hf
    refine jr_iconst K (D_at DX12_tight_q1 3 rfl) (v := (0 : Int32)) (by decide) ?_
    cases hf
    exact jr_iret K E (D_at DX12_tight_q1 4 rfl) rfl ⟨rfl, rfl⟩
set_option maxHeartbeats 400000 in
set_option maxRecDepth 100000 in
theorem J_X12_tight {G : jG} {l : Launch} {d : Nat} {X : jX} {res : (Int32 × jH)} (K : jOK G l mX12_tight (d + 2) X) (n : Nat) (E : jEnd G mX12_tight (jPW res) X) (a0 : Nat) (x1 : Int32) (h : jH) (hf : F_X12_tight n a0 x1 h = some res) : jJ G X h 0 0 0 [some (.ref a0), some (.int x1), none, none, none, none] [] := by
  unfold F_X12_tight at hf
  refine jr_aload_n K (D_at DX12_tight_q0 0 rfl) rfl rfl ?_
  refine jr_iconst K (D_at DX12_tight_q0 1 rfl) (v := (0 : Int32)) (by decide) ?_
  obtain ⟨h2, e2, hf⟩ := jbind hf
  refine jr_putI K (D_at DX12_tight_q0 2 rfl) fp_X12_3_10 (Or.inl rfl) e2 ?_
  refine jr_aload_n K (D_at DX12_tight_q0 3 rfl) rfl rfl ?_
  refine jr_iload_n K (D_at DX12_tight_q0 4 rfl) rfl rfl ?_
  refine jr_iconst K (D_at DX12_tight_q0 5 rfl) (v := (2 : Int32)) (by decide) ?_
  refine jr_bipush K (D_at DX12_tight_q0 6 rfl) (v := (8 : Int32)) (by decide) ?_
  obtain ⟨v10, e10, hf⟩ := jbind hf
  refine jr_callS K (C_X12_in (d + 1) e10) (D_at DX12_tight_q0 7 rfl) cs_X12_77_X12_in (As := [.int x1, .int (2 : Int32), .int (8 : Int32)]) rfl rfl (by exact Nat.le_of_ble_eq_true rfl) (kc2 := 0) (ks2 := 0) rfl rfl (fun k9 h9 w9 => by cases w9.1) (fun r9 h9 w9 => ?_)
  obtain ⟨w1, w2⟩ := w9
  subst h9
  cases w1
  show jJ G X _ 0 0 _ _ (.int v10 :: _)
  refine jr_if_ne K (D_at DX12_tight_q0 8 rfl) (tgt := 20) (by decide) (fun c13 => ?_) (fun c13 => ?_)
  · replace hf := (if_neg c13).symm.trans hf
    refine jr_iconst K (D_at DX12_tight_q0 11 rfl) (v := (0 : Int32)) (by decide) ?_
    refine jr_keep [true, true, false, false, false, false] ?_
    exact J_X12_tight_21 K n E a0 x1 a0 (0 : Int32) h2 hf
  · replace hf := (if_pos c13).symm.trans hf
    refine jr_iconst K (D_at DX12_tight_q0 9 rfl) (v := (1 : Int32)) (by decide) ?_
    refine jr_goto K (D_at DX12_tight_q0 10 rfl) (tgt := 21) (by decide) ?_
    refine jr_keep [true, true, false, false, false, false] ?_
    exact J_X12_tight_21 K n E a0 x1 a0 (1 : Int32) h2 hf
theorem C_X12_tight {G : jG} {l : Launch} (d : Nat) {n : Nat} {a0 : Nat} {x1 : Int32} {h : jH} {res : (Int32 × jH)} (hf : F_X12_tight n a0 x1 h = some res) : jC G l mX12_tight (d + 2) 0 0 [.ref a0, .int x1] h (jPW res) :=
  jC.of pn_X12 (jcats rfl) (Nat.le_of_ble_eq_true rfl) (fun X K E => J_X12_tight K n E a0 x1 h hf)
set_option maxHeartbeats 400000 in
set_option maxRecDepth 100000 in
theorem J_X12_slack_9_b {G : jG} {l : Launch} {d : Nat} {X : jX} {res : (Int32 × jH)} (K : jOK G l mX12_slack (d + 3) X) (n : Nat) (rc9 : Nat → Int32 → Int32 → jH → Option (Int32 × jH)) (hr9 : ∀ (a0 : Nat) (x1 : Int32) (x2 : Int32) (h : jH), rc9 a0 x1 x2 h = some res → jJ G X h 0 0 9 [some (.ref a0), some (.int x1), some (.int x2)] []) (E : jEnd G mX12_slack (jPW res) X) (a0 : Nat) (x1 : Int32) (x2 : Int32) (h : jH) (hf : F_X12_slack_9_b n rc9 a0 x1 x2 h = some res) : jJ G X h 0 0 9 [some (.ref a0), some (.int x1), some (.int x2)] [] := by
  unfold F_X12_slack_9_b at hf
  refine jr_iload_n K (D_at DX12_slack_q0 7 rfl) rfl rfl ?_
  refine jr_aload_n K (D_at DX12_slack_q0 8 rfl) rfl rfl ?_
  obtain ⟨v11, e11, hf⟩ := jbind hf
  obtain ⟨rc_11, e11⟩ := jcv_o e11
  refine jr_callV K (C_X12_lastRing (d + 1) e11) (D_at DX12_slack_q0 9 rfl) cv_X12_70_X12_lastRing (As := []) (ci := 10) rfl rc_11 rfl rfl (by exact Nat.le_of_ble_eq_true rfl) (kc2 := 0) (ks2 := 0) rfl rfl (fun k9 h9 w9 => by cases w9.1) (fun r9 h9 w9 => ?_)
  obtain ⟨w1, w2⟩ := w9
  subst h9
  cases w1
  show jJ G X _ 0 0 _ _ (.int v11 :: _)
  refine jr_icmp_ge K (D_at DX12_slack_q0 10 rfl) (tgt := 38) (by decide) (fun c14 => ?_) (fun c14 => ?_)
  · replace hf := (if_pos c14).symm.trans hf
    refine jr_iload_n K (D_at DX12_slack_q2 0 rfl) rfl rfl ?_
    cases hf
    exact jr_iret K E (D_at DX12_slack_q2 1 rfl) rfl ⟨rfl, rfl⟩
  · replace hf := (if_neg c14).symm.trans hf
    refine jr_iload_n K (D_at DX12_slack_q0 11 rfl) rfl rfl ?_
    refine jr_aload_n K (D_at DX12_slack_q1 0 rfl) rfl rfl ?_
    refine jr_iload_n K (D_at DX12_slack_q1 1 rfl) rfl rfl ?_
    refine jr_iconst K (D_at DX12_slack_q1 2 rfl) (v := (1 : Int32)) (by decide) ?_
    obtain ⟨v21, e21, hf⟩ := jbind hf
    obtain ⟨rc_21, e21⟩ := jcv_o e21
    refine jr_callV K (C_X12_of (d + 1) e21) (D_at DX12_slack_q1 3 rfl) cv_X12_67_X12_of (As := [.int x2, .int (1 : Int32)]) (ci := 10) rfl rc_21 rfl rfl (by exact Nat.le_of_ble_eq_true rfl) (kc2 := 0) (ks2 := 0) rfl rfl (fun k9 h9 w9 => by cases w9.1) (fun r9 h9 w9 => ?_)
    obtain ⟨w1, w2⟩ := w9
    subst h9
    cases w1
    show jJ G X _ 0 0 _ _ (.int v21 :: _)
    refine jr_aload_n K (D_at DX12_slack_q1 4 rfl) rfl rfl ?_
    refine jr_iload_n K (D_at DX12_slack_q1 5 rfl) rfl rfl ?_
    obtain ⟨v26, e26, hf⟩ := jbind hf
    obtain ⟨rc_26, e26⟩ := jcv_o e26
    refine jr_callV K (C_X12_gapOf (d) e26) (D_at DX12_slack_q1 6 rfl) cv_X12_253_X12_gapOf (As := [.int x2]) (ci := 10) rfl rc_26 rfl rfl (by exact Nat.le_of_ble_eq_true rfl) (kc2 := 0) (ks2 := 0) rfl rfl (fun k9 h9 w9 => by cases w9.1) (fun r9 h9 w9 => ?_)
    obtain ⟨w1, w2⟩ := w9
    subst h9
    cases w1
    show jJ G X _ 0 0 _ _ (.int v26 :: _)
    refine jr_isub K (D_at DX12_slack_q1 7 rfl) ?_
    refine jr_iadd K (D_at DX12_slack_q1 8 rfl) ?_
    refine jr_istore_n K (D_at DX12_slack_q1 9 rfl) (i := 1) rfl (by decide) (L2 := [_, _, _]) rfl ?_
    refine jr_iinc K (D_at DX12_slack_q1 10 rfl) (i := 2) rfl (v := x2 + (1 : Int32)) (jinc (by decide)) (by decide) (L2 := [_, _, _]) rfl ?_
    refine jr_goto K (D_at DX12_slack_q1 11 rfl) (tgt := 9) (by decide) ?_
    refine jr_keep [true, true, true] ?_
    exact hr9 a0 (x1 + (v21 - v26)) (x2 + (1 : Int32)) h hf
theorem J_X12_slack_9 {G : jG} {l : Launch} {d : Nat} {X : jX} {res : (Int32 × jH)} (K : jOK G l mX12_slack (d + 3) X) (n : Nat) (E : jEnd G mX12_slack (jPW res) X) (k : Nat) : ∀ (a0 : Nat) (x1 : Int32) (x2 : Int32) (h : jH), F_X12_slack_9 n k a0 x1 x2 h = some res → jJ G X h 0 0 9 [some (.ref a0), some (.int x1), some (.int x2)] [] := by
  induction k with
  | zero =>
    intro a0 x1 x2 h hf
    exact jno (show (none : Option (Int32 × jH)) = some res from hf)
  | succ k ih =>
    intro a0 x1 x2 h hf
    exact J_X12_slack_9_b K n (F_X12_slack_9 n k) ih E a0 x1 x2 h hf
set_option maxHeartbeats 400000 in
set_option maxRecDepth 100000 in
theorem J_X12_slack {G : jG} {l : Launch} {d : Nat} {X : jX} {res : (Int32 × jH)} (K : jOK G l mX12_slack (d + 3) X) (n : Nat) (E : jEnd G mX12_slack (jPW res) X) (a0 : Nat) (h : jH) (hf : F_X12_slack n a0 h = some res) : jJ G X h 0 0 0 [some (.ref a0), none, none] [] := by
  unfold F_X12_slack at hf
  refine jr_aload_n K (D_at DX12_slack_q0 0 rfl) rfl rfl ?_
  refine jr_iconst K (D_at DX12_slack_q0 1 rfl) (v := (0 : Int32)) (by decide) ?_
  obtain ⟨h2, e2, hf⟩ := jbind hf
  refine jr_putI K (D_at DX12_slack_q0 2 rfl) fp_X12_3_10 (Or.inl rfl) e2 ?_
  refine jr_iconst K (D_at DX12_slack_q0 3 rfl) (v := (0 : Int32)) (by decide) ?_
  refine jr_istore_n K (D_at DX12_slack_q0 4 rfl) (i := 1) rfl (by decide) (L2 := [_, _, _]) rfl ?_
  refine jr_iconst K (D_at DX12_slack_q0 5 rfl) (v := (0 : Int32)) (by decide) ?_
  refine jr_istore_n K (D_at DX12_slack_q0 6 rfl) (i := 2) rfl (by decide) (L2 := [_, _, _]) rfl ?_
  refine jr_keep [true, true, true] ?_
  exact J_X12_slack_9 K n E n a0 (0 : Int32) (0 : Int32) h2 hf
theorem C_X12_slack {G : jG} {l : Launch} (d : Nat) {n : Nat} {a0 : Nat} {h : jH} {res : (Int32 × jH)} (hf : F_X12_slack n a0 h = some res) : jC G l mX12_slack (d + 3) 0 0 [.ref a0] h (jPW res) :=
  jC.of pn_X12 (jcats rfl) (Nat.le_of_ble_eq_true rfl) (fun X K E => J_X12_slack K n E a0 h hf)
set_option maxHeartbeats 400000 in
set_option maxRecDepth 100000 in
theorem J_X12_taut_9_b {G : jG} {l : Launch} {d : Nat} {X : jX} {res : (Int32 × jH)} (K : jOK G l mX12_taut (d + 3) X) (n : Nat) (rc9 : Nat → Int32 → Int32 → jH → Option (Int32 × jH)) (hr9 : ∀ (a0 : Nat) (x1 : Int32) (x2 : Int32) (h : jH), rc9 a0 x1 x2 h = some res → jJ G X h 0 0 9 [some (.ref a0), some (.int x1), some (.int x2)] []) (E : jEnd G mX12_taut (jPW res) X) (a0 : Nat) (x1 : Int32) (x2 : Int32) (h : jH) (hf : F_X12_taut_9_b n rc9 a0 x1 x2 h = some res) : jJ G X h 0 0 9 [some (.ref a0), some (.int x1), some (.int x2)] [] := by
  unfold F_X12_taut_9_b at hf
  refine jr_iload_n K (D_at DX12_taut_q0 7 rfl) rfl rfl ?_
  refine jr_aload_n K (D_at DX12_taut_q0 8 rfl) rfl rfl ?_
  obtain ⟨v11, e11, hf⟩ := jbind hf
  obtain ⟨rc_11, e11⟩ := jcv_o e11
  refine jr_callV K (C_X12_lastRing (d + 1) e11) (D_at DX12_taut_q0 9 rfl) cv_X12_70_X12_lastRing (As := []) (ci := 10) rfl rc_11 rfl rfl (by exact Nat.le_of_ble_eq_true rfl) (kc2 := 0) (ks2 := 0) rfl rfl (fun k9 h9 w9 => by cases w9.1) (fun r9 h9 w9 => ?_)
  obtain ⟨w1, w2⟩ := w9
  subst h9
  cases w1
  show jJ G X _ 0 0 _ _ (.int v11 :: _)
  refine jr_icmp_ge K (D_at DX12_taut_q0 10 rfl) (tgt := 47) (by decide) (fun c14 => ?_) (fun c14 => ?_)
  · replace hf := (if_pos c14).symm.trans hf
    refine jr_iload_n K (D_at DX12_taut_q2 5 rfl) rfl rfl ?_
    cases hf
    exact jr_iret K E (D_at DX12_taut_q2 6 rfl) rfl ⟨rfl, rfl⟩
  · replace hf := (if_neg c14).symm.trans hf
    refine jr_iload_n K (D_at DX12_taut_q0 11 rfl) rfl rfl ?_
    refine jr_aload_n K (D_at DX12_taut_q1 0 rfl) rfl rfl ?_
    refine jr_iload_n K (D_at DX12_taut_q1 1 rfl) rfl rfl ?_
    obtain ⟨v20, e20, hf⟩ := jbind hf
    obtain ⟨rc_20, e20⟩ := jcv_o e20
    refine jr_callV K (C_X12_gapOf (d) e20) (D_at DX12_taut_q1 2 rfl) cv_X12_253_X12_gapOf (As := [.int x2]) (ci := 10) rfl rc_20 rfl rfl (by exact Nat.le_of_ble_eq_true rfl) (kc2 := 0) (ks2 := 0) rfl rfl (fun k9 h9 w9 => by cases w9.1) (fun r9 h9 w9 => ?_)
    obtain ⟨w1, w2⟩ := w9
    subst h9
    cases w1
    show jJ G X _ 0 0 _ _ (.int v20 :: _)
    refine jr_aload_n K (D_at DX12_taut_q1 3 rfl) rfl rfl ?_
    refine jr_iload_n K (D_at DX12_taut_q1 4 rfl) rfl rfl ?_
    refine jr_iconst K (D_at DX12_taut_q1 5 rfl) (v := (1 : Int32)) (by decide) ?_
    obtain ⟨v26, e26, hf⟩ := jbind hf
    obtain ⟨rc_26, e26⟩ := jcv_o e26
    refine jr_callV K (C_X12_of (d + 1) e26) (D_at DX12_taut_q1 6 rfl) cv_X12_67_X12_of (As := [.int x2, .int (1 : Int32)]) (ci := 10) rfl rc_26 rfl rfl (by exact Nat.le_of_ble_eq_true rfl) (kc2 := 0) (ks2 := 0) rfl rfl (fun k9 h9 w9 => by cases w9.1) (fun r9 h9 w9 => ?_)
    obtain ⟨w1, w2⟩ := w9
    subst h9
    cases w1
    show jJ G X _ 0 0 _ _ (.int v26 :: _)
    refine jr_icmp_ne K (D_at DX12_taut_q1 7 rfl) (tgt := 38) (by decide) (fun c29 => ?_) (fun c29 => ?_)
    · replace hf := (if_neg c29).symm.trans hf
      refine jr_iconst K (D_at DX12_taut_q2 0 rfl) (v := (0 : Int32)) (by decide) ?_
      refine jr_ior K (D_at DX12_taut_q2 1 rfl) ?_
      refine jr_istore_n K (D_at DX12_taut_q2 2 rfl) (i := 1) rfl (by decide) (L2 := [_, _, _]) rfl ?_
      refine jr_iinc K (D_at DX12_taut_q2 3 rfl) (i := 2) rfl (v := x2 + (1 : Int32)) (jinc (by decide)) (by decide) (L2 := [_, _, _]) rfl ?_
      refine jr_goto K (D_at DX12_taut_q2 4 rfl) (tgt := 9) (by decide) ?_
      refine jr_keep [true, true, true] ?_
      exact hr9 a0 (x1 ||| (0 : Int32)) (x2 + (1 : Int32)) h hf
    · replace hf := (if_pos c29).symm.trans hf
      refine jr_iconst K (D_at DX12_taut_q1 8 rfl) (v := (1 : Int32)) (by decide) ?_
      refine jr_iload_n K (D_at DX12_taut_q1 9 rfl) rfl rfl ?_
      refine jr_ishl K (D_at DX12_taut_q1 10 rfl) ?_
      refine jr_goto K (D_at DX12_taut_q1 11 rfl) (tgt := 39) (by decide) ?_
      refine jr_ior K (D_at DX12_taut_q2 1 rfl) ?_
      refine jr_istore_n K (D_at DX12_taut_q2 2 rfl) (i := 1) rfl (by decide) (L2 := [_, _, _]) rfl ?_
      refine jr_iinc K (D_at DX12_taut_q2 3 rfl) (i := 2) rfl (v := x2 + (1 : Int32)) (jinc (by decide)) (by decide) (L2 := [_, _, _]) rfl ?_
      refine jr_goto K (D_at DX12_taut_q2 4 rfl) (tgt := 9) (by decide) ?_
      refine jr_keep [true, true, true] ?_
      exact hr9 a0 (x1 ||| ((1 : Int32) <<< (x2 &&& 31))) (x2 + (1 : Int32)) h hf
theorem J_X12_taut_9 {G : jG} {l : Launch} {d : Nat} {X : jX} {res : (Int32 × jH)} (K : jOK G l mX12_taut (d + 3) X) (n : Nat) (E : jEnd G mX12_taut (jPW res) X) (k : Nat) : ∀ (a0 : Nat) (x1 : Int32) (x2 : Int32) (h : jH), F_X12_taut_9 n k a0 x1 x2 h = some res → jJ G X h 0 0 9 [some (.ref a0), some (.int x1), some (.int x2)] [] := by
  induction k with
  | zero =>
    intro a0 x1 x2 h hf
    exact jno (show (none : Option (Int32 × jH)) = some res from hf)
  | succ k ih =>
    intro a0 x1 x2 h hf
    exact J_X12_taut_9_b K n (F_X12_taut_9 n k) ih E a0 x1 x2 h hf
set_option maxHeartbeats 400000 in
set_option maxRecDepth 100000 in
theorem J_X12_taut {G : jG} {l : Launch} {d : Nat} {X : jX} {res : (Int32 × jH)} (K : jOK G l mX12_taut (d + 3) X) (n : Nat) (E : jEnd G mX12_taut (jPW res) X) (a0 : Nat) (h : jH) (hf : F_X12_taut n a0 h = some res) : jJ G X h 0 0 0 [some (.ref a0), none, none] [] := by
  unfold F_X12_taut at hf
  refine jr_aload_n K (D_at DX12_taut_q0 0 rfl) rfl rfl ?_
  refine jr_iconst K (D_at DX12_taut_q0 1 rfl) (v := (0 : Int32)) (by decide) ?_
  obtain ⟨h2, e2, hf⟩ := jbind hf
  refine jr_putI K (D_at DX12_taut_q0 2 rfl) fp_X12_3_10 (Or.inl rfl) e2 ?_
  refine jr_iconst K (D_at DX12_taut_q0 3 rfl) (v := (0 : Int32)) (by decide) ?_
  refine jr_istore_n K (D_at DX12_taut_q0 4 rfl) (i := 1) rfl (by decide) (L2 := [_, _, _]) rfl ?_
  refine jr_iconst K (D_at DX12_taut_q0 5 rfl) (v := (0 : Int32)) (by decide) ?_
  refine jr_istore_n K (D_at DX12_taut_q0 6 rfl) (i := 2) rfl (by decide) (L2 := [_, _, _]) rfl ?_
  refine jr_keep [true, true, true] ?_
  exact J_X12_taut_9 K n E n a0 (0 : Int32) (0 : Int32) h2 hf
theorem C_X12_taut {G : jG} {l : Launch} (d : Nat) {n : Nat} {a0 : Nat} {h : jH} {res : (Int32 × jH)} (hf : F_X12_taut n a0 h = some res) : jC G l mX12_taut (d + 3) 0 0 [.ref a0] h (jPW res) :=
  jC.of pn_X12 (jcats rfl) (Nat.le_of_ble_eq_true rfl) (fun X K E => J_X12_taut K n E a0 h hf)
set_option maxHeartbeats 400000 in
set_option maxRecDepth 100000 in
theorem J_X12_bunch_41 {G : jG} {l : Launch} {d : Nat} {X : jX} {res : (Int32 × jH)} (K : jOK G l mX12_bunch (d + 3) X) (n : Nat) (rc11 : Nat → Int32 → Int32 → Int32 → jH → Option (Int32 × jH)) (hr11 : ∀ (a0 : Nat) (x1 : Int32) (x2 : Int32) (x3 : Int32) (h : jH), rc11 a0 x1 x2 x3 h = some res → jJ G X h 0 0 11 [some (.ref a0), some (.int x1), some (.int x2), some (.int x3)] []) (E : jEnd G mX12_bunch (jPW res) X) (a0 : Nat) (x1 : Int32) (x3 : Int32) (s0 : Int32) (h : jH) (hf : F_X12_bunch_41 n rc11 a0 x1 x3 s0 h = some res) : jJ G X h 0 0 41 [some (.ref a0), some (.int x1), none, some (.int x3)] [.int s0] := by
  unfold F_X12_bunch_41 at hf
  refine jr_istore_n K (D_at DX12_bunch_q2 3 rfl) (i := 2) rfl (by decide) (L2 := [_, _, _, _]) rfl ?_
  refine jr_iload_n K (D_at DX12_bunch_q2 4 rfl) rfl rfl ?_
  refine jr_iload_n K (D_at DX12_bunch_q2 5 rfl) rfl rfl ?_
  refine jr_max K (D_at DX12_bunch_q2 6 rfl) mm_X12_368 (by exact Nat.le_of_ble_eq_true rfl) ?_
  refine jr_istore_n K (D_at DX12_bunch_q2 7 rfl) (i := 1) rfl (by decide) (L2 := [_, _, _, _]) rfl ?_
  refine jr_iinc K (D_at DX12_bunch_q2 8 rfl) (i := 3) rfl (v := x3 + (1 : Int32)) (jinc (by decide)) (by decide) (L2 := [_, _, _, _]) rfl ?_
  refine jr_goto K (D_at DX12_bunch_q2 9 rfl) (tgt := 11) (by decide) ?_
  refine jr_keep [true, true, true, true] ?_
  exact hr11 a0 (if x1 < s0 then s0 else x1) s0 (x3 + (1 : Int32)) h hf
set_option maxHeartbeats 400000 in
set_option maxRecDepth 100000 in
theorem J_X12_bunch_11_b {G : jG} {l : Launch} {d : Nat} {X : jX} {res : (Int32 × jH)} (K : jOK G l mX12_bunch (d + 3) X) (n : Nat) (rc11 : Nat → Int32 → Int32 → Int32 → jH → Option (Int32 × jH)) (hr11 : ∀ (a0 : Nat) (x1 : Int32) (x2 : Int32) (x3 : Int32) (h : jH), rc11 a0 x1 x2 x3 h = some res → jJ G X h 0 0 11 [some (.ref a0), some (.int x1), some (.int x2), some (.int x3)] []) (E : jEnd G mX12_bunch (jPW res) X) (a0 : Nat) (x1 : Int32) (x2 : Int32) (x3 : Int32) (h : jH) (hf : F_X12_bunch_11_b n rc11 a0 x1 x2 x3 h = some res) : jJ G X h 0 0 11 [some (.ref a0), some (.int x1), some (.int x2), some (.int x3)] [] := by
  unfold F_X12_bunch_11_b at hf
  refine jr_iload_n K (D_at DX12_bunch_q0 9 rfl) rfl rfl ?_
  refine jr_aload_n K (D_at DX12_bunch_q0 10 rfl) rfl rfl ?_
  obtain ⟨v13, e13, hf⟩ := jbind hf
  obtain ⟨rc_13, e13⟩ := jcv_o e13
  refine jr_callV K (C_X12_rings (d + 2) e13) (D_at DX12_bunch_q0 11 rfl) cv_X12_59_X12_rings (As := []) (ci := 10) rfl rc_13 rfl rfl (by exact Nat.le_of_ble_eq_true rfl) (kc2 := 0) (ks2 := 0) rfl rfl (fun k9 h9 w9 => by cases w9.1) (fun r9 h9 w9 => ?_)
  obtain ⟨w1, w2⟩ := w9
  subst h9
  cases w1
  show jJ G X _ 0 0 _ _ (.int v13 :: _)
  refine jr_icmp_ge K (D_at DX12_bunch_q1 0 rfl) (tgt := 54) (by decide) (fun c16 => ?_) (fun c16 => ?_)
  · replace hf := (if_pos c16).symm.trans hf
    refine jr_iload_n K (D_at DX12_bunch_q2 10 rfl) rfl rfl ?_
    cases hf
    exact jr_iret K E (D_at DX12_bunch_q2 11 rfl) rfl ⟨rfl, rfl⟩
  · replace hf := (if_neg c16).symm.trans hf
    refine jr_iload_n K (D_at DX12_bunch_q1 1 rfl) rfl rfl ?_
    refine jr_if_le K (D_at DX12_bunch_q1 2 rfl) (tgt := 40) (by decide) (fun c20 => ?_) (fun c20 => ?_)
    · replace hf := (if_pos c20).symm.trans hf
      refine jr_iconst K (D_at DX12_bunch_q2 2 rfl) (v := (1 : Int32)) (by decide) ?_
      refine jr_keep [true, true, false, true] ?_
      exact J_X12_bunch_41 K n rc11 hr11 E a0 x1 x3 (1 : Int32) h hf
    · replace hf := (if_neg c20).symm.trans hf
      refine jr_aload_n K (D_at DX12_bunch_q1 3 rfl) rfl rfl ?_
      refine jr_iload_n K (D_at DX12_bunch_q1 4 rfl) rfl rfl ?_
      refine jr_iconst K (D_at DX12_bunch_q1 5 rfl) (v := (1 : Int32)) (by decide) ?_
      refine jr_isub K (D_at DX12_bunch_q1 6 rfl) ?_
      obtain ⟨v27, e27, hf⟩ := jbind hf
      obtain ⟨rc_27, e27⟩ := jcv_o e27
      refine jr_callV K (C_X12_gapOf (d) e27) (D_at DX12_bunch_q1 7 rfl) cv_X12_253_X12_gapOf (As := [.int (x3 - (1 : Int32))]) (ci := 10) rfl rc_27 rfl rfl (by exact Nat.le_of_ble_eq_true rfl) (kc2 := 0) (ks2 := 0) rfl rfl (fun k9 h9 w9 => by cases w9.1) (fun r9 h9 w9 => ?_)
      obtain ⟨w1, w2⟩ := w9
      subst h9
      cases w1
      show jJ G X _ 0 0 _ _ (.int v27 :: _)
      refine jr_iconst K (D_at DX12_bunch_q1 8 rfl) (v := (1 : Int32)) (by decide) ?_
      refine jr_icmp_ne K (D_at DX12_bunch_q1 9 rfl) (tgt := 40) (by decide) (fun c31 => ?_) (fun c31 => ?_)
      · replace hf := (if_neg c31).symm.trans hf
        refine jr_iconst K (D_at DX12_bunch_q2 2 rfl) (v := (1 : Int32)) (by decide) ?_
        refine jr_keep [true, true, false, true] ?_
        exact J_X12_bunch_41 K n rc11 hr11 E a0 x1 x3 (1 : Int32) h hf
      · replace hf := (if_pos c31).symm.trans hf
        refine jr_iload_n K (D_at DX12_bunch_q1 10 rfl) rfl rfl ?_
        refine jr_iconst K (D_at DX12_bunch_q1 11 rfl) (v := (1 : Int32)) (by decide) ?_
        refine jr_iadd K (D_at DX12_bunch_q2 0 rfl) ?_
        refine jr_goto K (D_at DX12_bunch_q2 1 rfl) (tgt := 41) (by decide) ?_
        refine jr_keep [true, true, false, true] ?_
        exact J_X12_bunch_41 K n rc11 hr11 E a0 x1 x3 (x2 + (1 : Int32)) h hf
theorem J_X12_bunch_11 {G : jG} {l : Launch} {d : Nat} {X : jX} {res : (Int32 × jH)} (K : jOK G l mX12_bunch (d + 3) X) (n : Nat) (E : jEnd G mX12_bunch (jPW res) X) (k : Nat) : ∀ (a0 : Nat) (x1 : Int32) (x2 : Int32) (x3 : Int32) (h : jH), F_X12_bunch_11 n k a0 x1 x2 x3 h = some res → jJ G X h 0 0 11 [some (.ref a0), some (.int x1), some (.int x2), some (.int x3)] [] := by
  induction k with
  | zero =>
    intro a0 x1 x2 x3 h hf
    exact jno (show (none : Option (Int32 × jH)) = some res from hf)
  | succ k ih =>
    intro a0 x1 x2 x3 h hf
    exact J_X12_bunch_11_b K n (F_X12_bunch_11 n k) ih E a0 x1 x2 x3 h hf
set_option maxHeartbeats 400000 in
set_option maxRecDepth 100000 in
theorem J_X12_bunch {G : jG} {l : Launch} {d : Nat} {X : jX} {res : (Int32 × jH)} (K : jOK G l mX12_bunch (d + 3) X) (n : Nat) (E : jEnd G mX12_bunch (jPW res) X) (a0 : Nat) (h : jH) (hf : F_X12_bunch n a0 h = some res) : jJ G X h 0 0 0 [some (.ref a0), none, none, none] [] := by
  unfold F_X12_bunch at hf
  refine jr_aload_n K (D_at DX12_bunch_q0 0 rfl) rfl rfl ?_
  refine jr_iconst K (D_at DX12_bunch_q0 1 rfl) (v := (0 : Int32)) (by decide) ?_
  obtain ⟨h2, e2, hf⟩ := jbind hf
  refine jr_putI K (D_at DX12_bunch_q0 2 rfl) fp_X12_3_10 (Or.inl rfl) e2 ?_
  refine jr_iconst K (D_at DX12_bunch_q0 3 rfl) (v := (0 : Int32)) (by decide) ?_
  refine jr_istore_n K (D_at DX12_bunch_q0 4 rfl) (i := 1) rfl (by decide) (L2 := [_, _, _, _]) rfl ?_
  refine jr_iconst K (D_at DX12_bunch_q0 5 rfl) (v := (0 : Int32)) (by decide) ?_
  refine jr_istore_n K (D_at DX12_bunch_q0 6 rfl) (i := 2) rfl (by decide) (L2 := [_, _, _, _]) rfl ?_
  refine jr_iconst K (D_at DX12_bunch_q0 7 rfl) (v := (0 : Int32)) (by decide) ?_
  refine jr_istore_n K (D_at DX12_bunch_q0 8 rfl) (i := 3) rfl (by decide) (L2 := [_, _, _, _]) rfl ?_
  refine jr_keep [true, true, true, true] ?_
  exact J_X12_bunch_11 K n E n a0 (0 : Int32) (0 : Int32) (0 : Int32) h2 hf
theorem C_X12_bunch {G : jG} {l : Launch} (d : Nat) {n : Nat} {a0 : Nat} {h : jH} {res : (Int32 × jH)} (hf : F_X12_bunch n a0 h = some res) : jC G l mX12_bunch (d + 3) 0 0 [.ref a0] h (jPW res) :=
  jC.of pn_X12 (jcats rfl) (Nat.le_of_ble_eq_true rfl) (fun X K E => J_X12_bunch K n E a0 h hf)
set_option maxHeartbeats 400000 in
set_option maxRecDepth 100000 in
theorem J_X12_litIn_4_b {G : jG} {l : Launch} {d : Nat} {X : jX} {res : Int32} (K : jOK G l mX12_litIn (d + 3) X) (n : Nat) (h : jH) (rc4 : Nat → Int32 → Int32 → Int32 → jH → Option Int32) (hr4 : ∀ (a0 : Nat) (x1 : Int32) (x2 : Int32) (x3 : Int32), rc4 a0 x1 x2 x3 h = some res → jJ G X h 0 0 4 [some (.ref a0), some (.int x1), some (.int x2), some (.int x3)] []) (E : jEnd G mX12_litIn (jPR h res) X) (a0 : Nat) (x1 : Int32) (x2 : Int32) (x3 : Int32) (hf : F_X12_litIn_4_b n rc4 a0 x1 x2 x3 h = some res) : jJ G X h 0 0 4 [some (.ref a0), some (.int x1), some (.int x2), some (.int x3)] [] := by
  unfold F_X12_litIn_4_b at hf
  refine jr_iload_n K (D_at DX12_litIn_q0 4 rfl) rfl rfl ?_
  refine jr_aload_n K (D_at DX12_litIn_q0 5 rfl) rfl rfl ?_
  obtain ⟨v6, e6, hf⟩ := jbind hf
  obtain ⟨rc_6, e6⟩ := jcv_o e6
  refine jr_callV K (C_X12_rings (d + 2) e6) (D_at DX12_litIn_q0 6 rfl) cv_X12_59_X12_rings (As := []) (ci := 10) rfl rc_6 rfl rfl (by exact Nat.le_of_ble_eq_true rfl) (kc2 := 0) (ks2 := 0) rfl rfl (fun k9 h9 w9 => by cases w9.1) (fun r9 h9 w9 => ?_)
  obtain ⟨w1, w2⟩ := w9
  subst h9
  cases w1
  show jJ G X _ 0 0 _ _ (.int v6 :: _)
  refine jr_icmp_ge K (D_at DX12_litIn_q0 7 rfl) (tgt := 37) (by decide) (fun c9 => ?_) (fun c9 => ?_)
  · replace hf := (if_pos c9).symm.trans hf
    refine jr_iload_n K (D_at DX12_litIn_q1 11 rfl) rfl rfl ?_
    cases hf
    exact jr_iret K E (D_at DX12_litIn_q2 0 rfl) rfl ⟨rfl, rfl⟩
  · replace hf := (if_neg c9).symm.trans hf
    refine jr_iload_n K (D_at DX12_litIn_q0 8 rfl) rfl rfl ?_
    refine jr_aload_n K (D_at DX12_litIn_q0 9 rfl) rfl rfl ?_
    refine jr_iload_n K (D_at DX12_litIn_q0 10 rfl) rfl rfl ?_
    refine jr_iload_n K (D_at DX12_litIn_q0 11 rfl) rfl rfl ?_
    obtain ⟨v16, e16, hf⟩ := jbind hf
    obtain ⟨rc_16, e16⟩ := jcv_o e16
    refine jr_callV K (C_X12_isLit (d) e16) (D_at DX12_litIn_q1 0 rfl) cv_X12_257_X12_isLit (As := [.int x3, .int x1]) (ci := 10) rfl rc_16 rfl rfl (by exact Nat.le_of_ble_eq_true rfl) (kc2 := 0) (ks2 := 0) rfl rfl (fun k9 h9 w9 => by cases w9.1) (fun r9 h9 w9 => ?_)
    obtain ⟨w1, w2⟩ := w9
    subst h9
    cases w1
    show jJ G X _ 0 0 _ _ (.int v16 :: _)
    refine jr_if_eq K (D_at DX12_litIn_q1 1 rfl) (tgt := 28) (by decide) (fun c19 => ?_) (fun c19 => ?_)
    · replace hf := (if_pos c19).symm.trans hf
      refine jr_iconst K (D_at DX12_litIn_q1 6 rfl) (v := (0 : Int32)) (by decide) ?_
      refine jr_ior K (D_at DX12_litIn_q1 7 rfl) ?_
      refine jr_istore_n K (D_at DX12_litIn_q1 8 rfl) (i := 2) rfl (by decide) (L2 := [_, _, _, _]) rfl ?_
      refine jr_iinc K (D_at DX12_litIn_q1 9 rfl) (i := 3) rfl (v := x3 + (1 : Int32)) (jinc (by decide)) (by decide) (L2 := [_, _, _, _]) rfl ?_
      refine jr_goto K (D_at DX12_litIn_q1 10 rfl) (tgt := 4) (by decide) ?_
      refine jr_keep [true, true, true, true] ?_
      exact hr4 a0 x1 (x2 ||| (0 : Int32)) (x3 + (1 : Int32)) hf
    · replace hf := (if_neg c19).symm.trans hf
      refine jr_iconst K (D_at DX12_litIn_q1 2 rfl) (v := (1 : Int32)) (by decide) ?_
      refine jr_iload_n K (D_at DX12_litIn_q1 3 rfl) rfl rfl ?_
      refine jr_ishl K (D_at DX12_litIn_q1 4 rfl) ?_
      refine jr_goto K (D_at DX12_litIn_q1 5 rfl) (tgt := 29) (by decide) ?_
      refine jr_ior K (D_at DX12_litIn_q1 7 rfl) ?_
      refine jr_istore_n K (D_at DX12_litIn_q1 8 rfl) (i := 2) rfl (by decide) (L2 := [_, _, _, _]) rfl ?_
      refine jr_iinc K (D_at DX12_litIn_q1 9 rfl) (i := 3) rfl (v := x3 + (1 : Int32)) (jinc (by decide)) (by decide) (L2 := [_, _, _, _]) rfl ?_
      refine jr_goto K (D_at DX12_litIn_q1 10 rfl) (tgt := 4) (by decide) ?_
      refine jr_keep [true, true, true, true] ?_
      exact hr4 a0 x1 (x2 ||| ((1 : Int32) <<< (x3 &&& 31))) (x3 + (1 : Int32)) hf
theorem J_X12_litIn_4 {G : jG} {l : Launch} {d : Nat} {X : jX} {res : Int32} (K : jOK G l mX12_litIn (d + 3) X) (n : Nat) (h : jH) (E : jEnd G mX12_litIn (jPR h res) X) (k : Nat) : ∀ (a0 : Nat) (x1 : Int32) (x2 : Int32) (x3 : Int32), F_X12_litIn_4 n k a0 x1 x2 x3 h = some res → jJ G X h 0 0 4 [some (.ref a0), some (.int x1), some (.int x2), some (.int x3)] [] := by
  induction k with
  | zero =>
    intro a0 x1 x2 x3 hf
    exact jno (show (none : Option Int32) = some res from hf)
  | succ k ih =>
    intro a0 x1 x2 x3 hf
    exact J_X12_litIn_4_b K n h (F_X12_litIn_4 n k) ih E a0 x1 x2 x3 hf
set_option maxHeartbeats 400000 in
set_option maxRecDepth 100000 in
theorem J_X12_litIn {G : jG} {l : Launch} {d : Nat} {X : jX} {res : Int32} (K : jOK G l mX12_litIn (d + 3) X) (n : Nat) (h : jH) (E : jEnd G mX12_litIn (jPR h res) X) (a0 : Nat) (x1 : Int32) (hf : F_X12_litIn n a0 x1 h = some res) : jJ G X h 0 0 0 [some (.ref a0), some (.int x1), none, none] [] := by
  unfold F_X12_litIn at hf
  refine jr_iconst K (D_at DX12_litIn_q0 0 rfl) (v := (0 : Int32)) (by decide) ?_
  refine jr_istore_n K (D_at DX12_litIn_q0 1 rfl) (i := 2) rfl (by decide) (L2 := [_, _, _, _]) rfl ?_
  refine jr_iconst K (D_at DX12_litIn_q0 2 rfl) (v := (0 : Int32)) (by decide) ?_
  refine jr_istore_n K (D_at DX12_litIn_q0 3 rfl) (i := 3) rfl (by decide) (L2 := [_, _, _, _]) rfl ?_
  refine jr_keep [true, true, true, true] ?_
  exact J_X12_litIn_4 K n h E n a0 x1 (0 : Int32) (0 : Int32) hf
theorem C_X12_litIn {G : jG} {l : Launch} (d : Nat) {n : Nat} {a0 : Nat} {x1 : Int32} {h : jH} {res : Int32} (hf : F_X12_litIn n a0 x1 h = some res) : jC G l mX12_litIn (d + 3) 0 0 [.ref a0, .int x1] h (jPR h res) :=
  jC.of pn_X12 (jcats rfl) (Nat.le_of_ble_eq_true rfl) (fun X K E => J_X12_litIn K n h E a0 x1 hf)
set_option maxHeartbeats 400000 in
set_option maxRecDepth 100000 in
theorem J_X12_lit_21 {G : jG} {l : Launch} {d : Nat} {X : jX} {res : (Int32 × jH)} (K : jOK G l mX12_lit (d + 4) X) (n : Nat) (E : jEnd G mX12_lit (jPW res) X) (a0 : Nat) (x1 : Int32) (sa0 : Nat) (s1 : Int32) (h : jH) (hf : F_X12_lit_21 n a0 x1 sa0 s1 h = some res) : jJ G X h 0 0 21 [some (.ref a0), some (.int x1)] [.int s1, .ref sa0] := by
  unfold F_X12_lit_21 at hf
  refine jr_iconst K (D_at DX12_lit_q1 0 rfl) (v := (1 : Int32)) (by decide) ?_
  obtain ⟨q22, e22, hf⟩ := jbind hf
  obtain ⟨rc_22, e22⟩ := jcv_o e22
  refine jr_callV K (C_X12_throwsIf (d + 3) e22) (D_at DX12_lit_q1 1 rfl) cv_X12_250_X12_throwsIf (As := [.int s1, .int (1 : Int32)]) (ci := 10) rfl rc_22 rfl rfl (by exact Nat.le_of_ble_eq_true rfl) (kc2 := 0) (ks2 := 0) rfl rfl (fun k9 h9 w9 => by cases w9.1) (fun r9 h9 w9 => ?_)
  obtain ⟨w1, w2⟩ := w9
  subst h9
  cases w1
  show jJ G X _ 0 0 _ _ (.int q22.1 :: _)
  refine jr_if_eq K (D_at DX12_lit_q1 2 rfl) (tgt := 32) (by decide) (fun c25 => ?_) (fun c25 => ?_)
  · replace hf := (if_pos c25).symm.trans hf
    refine jr_aload_n K (D_at DX12_lit_q1 5 rfl) rfl rfl ?_
    refine jr_iload_n K (D_at DX12_lit_q1 6 rfl) rfl rfl ?_
    obtain ⟨v34, e34, hf⟩ := jbind hf
    obtain ⟨rc_34, e34⟩ := jcv_o e34
    refine jr_callV K (C_X12_litIn (d) e34) (D_at DX12_lit_q1 7 rfl) cv_X12_404_X12_litIn (As := [.int x1]) (ci := 10) rfl rc_34 rfl rfl (by exact Nat.le_of_ble_eq_true rfl) (kc2 := 0) (ks2 := 0) rfl rfl (fun k9 h9 w9 => by cases w9.1) (fun r9 h9 w9 => ?_)
    obtain ⟨w1, w2⟩ := w9
    subst h9
    cases w1
    show jJ G X _ 0 0 _ _ (.int v34 :: _)
    cases hf
    exact jr_iret K E (D_at DX12_lit_q1 8 rfl) rfl ⟨rfl, rfl⟩
  · replace hf := (if_neg c25).symm.trans hf
    refine jr_iconst K (D_at DX12_lit_q1 3 rfl) (v := (0 : Int32)) (by decide) ?_
    refine jr_goto K (D_at DX12_lit_q1 4 rfl) (tgt := 37) (by decide) ?_
    cases hf
    exact jr_iret K E (D_at DX12_lit_q1 8 rfl) rfl ⟨rfl, rfl⟩
set_option maxHeartbeats 400000 in
set_option maxRecDepth 100000 in
theorem J_X12_lit {G : jG} {l : Launch} {d : Nat} {X : jX} {res : (Int32 × jH)} (K : jOK G l mX12_lit (d + 4) X) (n : Nat) (E : jEnd G mX12_lit (jPW res) X) (a0 : Nat) (x1 : Int32) (h : jH) (hf : F_X12_lit n a0 x1 h = some res) : jJ G X h 0 0 0 [some (.ref a0), some (.int x1)] [] := by
  unfold F_X12_lit at hf
  refine jr_aload_n K (D_at DX12_lit_q0 0 rfl) rfl rfl ?_
  refine jr_iconst K (D_at DX12_lit_q0 1 rfl) (v := (0 : Int32)) (by decide) ?_
  obtain ⟨h2, e2, hf⟩ := jbind hf
  refine jr_putI K (D_at DX12_lit_q0 2 rfl) fp_X12_3_10 (Or.inl rfl) e2 ?_
  refine jr_aload_n K (D_at DX12_lit_q0 3 rfl) rfl rfl ?_
  refine jr_iload_n K (D_at DX12_lit_q0 4 rfl) rfl rfl ?_
  refine jr_iconst K (D_at DX12_lit_q0 5 rfl) (v := (0 : Int32)) (by decide) ?_
  refine jr_bipush K (D_at DX12_lit_q0 6 rfl) (v := (7 : Int32)) (by decide) ?_
  obtain ⟨v10, e10, hf⟩ := jbind hf
  refine jr_callS K (C_X12_in (d + 3) e10) (D_at DX12_lit_q0 7 rfl) cs_X12_77_X12_in (As := [.int x1, .int (0 : Int32), .int (7 : Int32)]) rfl rfl (by exact Nat.le_of_ble_eq_true rfl) (kc2 := 0) (ks2 := 0) rfl rfl (fun k9 h9 w9 => by cases w9.1) (fun r9 h9 w9 => ?_)
  obtain ⟨w1, w2⟩ := w9
  subst h9
  cases w1
  show jJ G X _ 0 0 _ _ (.int v10 :: _)
  refine jr_if_ne K (D_at DX12_lit_q0 8 rfl) (tgt := 20) (by decide) (fun c13 => ?_) (fun c13 => ?_)
  · replace hf := (if_neg c13).symm.trans hf
    refine jr_iconst K (D_at DX12_lit_q0 11 rfl) (v := (0 : Int32)) (by decide) ?_
    refine jr_keep [true, true] ?_
    exact J_X12_lit_21 K n E a0 x1 a0 (0 : Int32) h2 hf
  · replace hf := (if_pos c13).symm.trans hf
    refine jr_iconst K (D_at DX12_lit_q0 9 rfl) (v := (1 : Int32)) (by decide) ?_
    refine jr_goto K (D_at DX12_lit_q0 10 rfl) (tgt := 21) (by decide) ?_
    refine jr_keep [true, true] ?_
    exact J_X12_lit_21 K n E a0 x1 a0 (1 : Int32) h2 hf
theorem C_X12_lit {G : jG} {l : Launch} (d : Nat) {n : Nat} {a0 : Nat} {x1 : Int32} {h : jH} {res : (Int32 × jH)} (hf : F_X12_lit n a0 x1 h = some res) : jC G l mX12_lit (d + 4) 0 0 [.ref a0, .int x1] h (jPW res) :=
  jC.of pn_X12 (jcats rfl) (Nat.le_of_ble_eq_true rfl) (fun X K E => J_X12_lit K n E a0 x1 h hf)
set_option maxHeartbeats 400000 in
set_option maxRecDepth 100000 in
theorem J_X12_sunny_69 {G : jG} {l : Launch} {d : Nat} {X : jX} {res : (Int32 × jH)} (K : jOK G l mX12_sunny (d + 3) X) (n : Nat) (rc11 : Nat → Int32 → Int32 → Int32 → jH → Option (Int32 × jH)) (hr11 : ∀ (a0 : Nat) (x1 : Int32) (x2 : Int32) (x3 : Int32) (h : jH), rc11 a0 x1 x2 x3 h = some res → jJ G X h 0 0 11 [some (.ref a0), some (.int x1), some (.int x2), some (.int x3), none, none] []) (E : jEnd G mX12_sunny (jPW res) X) (a0 : Nat) (x2 : Int32) (x3 : Int32) (x4 : Int32) (s0 : Int32) (h : jH) (hf : F_X12_sunny_69 n rc11 a0 x2 x3 x4 s0 h = some res) : jJ G X h 0 0 69 [some (.ref a0), none, some (.int x2), some (.int x3), some (.int x4), none] [.int s0] := by
  unfold F_X12_sunny_69 at hf
  refine jr_istore_n K (D_at DX12_sunny_q3 3 rfl) (i := 1) rfl (by decide) (L2 := [_, _, _, _, _, _]) rfl ?_
  refine jr_iload_n K (D_at DX12_sunny_q3 4 rfl) rfl rfl ?_
  refine jr_iload K (D_at DX12_sunny_q3 5 rfl) rfl ?_
  refine jr_max K (D_at DX12_sunny_q3 6 rfl) mm_X12_368 (by exact Nat.le_of_ble_eq_true rfl) ?_
  refine jr_istore_n K (D_at DX12_sunny_q3 7 rfl) (i := 2) rfl (by decide) (L2 := [_, _, _, _, _, _]) rfl ?_
  refine jr_iinc K (D_at DX12_sunny_q3 8 rfl) (i := 3) rfl (v := x3 + (1 : Int32)) (jinc (by decide)) (by decide) (L2 := [_, _, _, _, _, _]) rfl ?_
  refine jr_goto K (D_at DX12_sunny_q3 9 rfl) (tgt := 11) (by decide) ?_
  refine jr_keep [true, true, true, true, false, false] ?_
  exact hr11 a0 s0 (if x2 < x4 then x4 else x2) (x3 + (1 : Int32)) h hf
set_option maxHeartbeats 400000 in
set_option maxRecDepth 100000 in
theorem J_X12_sunny_25_b {G : jG} {l : Launch} {d : Nat} {X : jX} {res : (Int32 × jH)} (K : jOK G l mX12_sunny (d + 3) X) (n : Nat) (rc11 : Nat → Int32 → Int32 → Int32 → jH → Option (Int32 × jH)) (hr11 : ∀ (a0 : Nat) (x1 : Int32) (x2 : Int32) (x3 : Int32) (h : jH), rc11 a0 x1 x2 x3 h = some res → jJ G X h 0 0 11 [some (.ref a0), some (.int x1), some (.int x2), some (.int x3), none, none] []) (rc25 : Nat → Int32 → Int32 → Int32 → Int32 → Int32 → jH → Option (Int32 × jH)) (hr25 : ∀ (a0 : Nat) (x1 : Int32) (x2 : Int32) (x3 : Int32) (x4 : Int32) (x5 : Int32) (h : jH), rc25 a0 x1 x2 x3 x4 x5 h = some res → jJ G X h 0 0 25 [some (.ref a0), some (.int x1), some (.int x2), some (.int x3), some (.int x4), some (.int x5)] []) (E : jEnd G mX12_sunny (jPW res) X) (a0 : Nat) (x1 : Int32) (x2 : Int32) (x3 : Int32) (x4 : Int32) (x5 : Int32) (h : jH) (hf : F_X12_sunny_25_b n rc11 rc25 a0 x1 x2 x3 x4 x5 h = some res) : jJ G X h 0 0 25 [some (.ref a0), some (.int x1), some (.int x2), some (.int x3), some (.int x4), some (.int x5)] [] := by
  unfold F_X12_sunny_25_b at hf
  refine jr_iload K (D_at DX12_sunny_q1 5 rfl) rfl ?_
  refine jr_bipush K (D_at DX12_sunny_q1 6 rfl) (v := (8 : Int32)) (by decide) ?_
  refine jr_icmp_ge K (D_at DX12_sunny_q1 7 rfl) (tgt := 58) (by decide) (fun c29 => ?_) (fun c29 => ?_)
  · replace hf := (if_pos c29).symm.trans hf
    refine jr_iload K (D_at DX12_sunny_q2 9 rfl) rfl ?_
    refine jr_iload_n K (D_at DX12_sunny_q2 10 rfl) rfl rfl ?_
    refine jr_icmp_le K (D_at DX12_sunny_q2 11 rfl) (tgt := 68) (by decide) (fun c61 => ?_) (fun c61 => ?_)
    · replace hf := (if_pos c61).symm.trans hf
      refine jr_iload_n K (D_at DX12_sunny_q3 2 rfl) rfl rfl ?_
      refine jr_keep [true, false, true, true, true, false] ?_
      exact J_X12_sunny_69 K n rc11 hr11 E a0 x2 x3 x4 x1 h hf
    · replace hf := (if_neg c61).symm.trans hf
      refine jr_iload_n K (D_at DX12_sunny_q3 0 rfl) rfl rfl ?_
      refine jr_goto K (D_at DX12_sunny_q3 1 rfl) (tgt := 69) (by decide) ?_
      refine jr_keep [true, false, true, true, true, false] ?_
      exact J_X12_sunny_69 K n rc11 hr11 E a0 x2 x3 x4 x3 h hf
  · replace hf := (if_neg c29).symm.trans hf
    refine jr_iload K (D_at DX12_sunny_q1 8 rfl) rfl ?_
    refine jr_aload_n K (D_at DX12_sunny_q1 9 rfl) rfl rfl ?_
    refine jr_iload_n K (D_at DX12_sunny_q1 10 rfl) rfl rfl ?_
    refine jr_iload K (D_at DX12_sunny_q1 11 rfl) rfl ?_
    obtain ⟨v38, e38, hf⟩ := jbind hf
    obtain ⟨rc_38, e38⟩ := jcv_o e38
    refine jr_callV K (C_X12_isLit (d) e38) (D_at DX12_sunny_q2 0 rfl) cv_X12_257_X12_isLit (As := [.int x3, .int x5]) (ci := 10) rfl rc_38 rfl rfl (by exact Nat.le_of_ble_eq_true rfl) (kc2 := 0) (ks2 := 0) rfl rfl (fun k9 h9 w9 => by cases w9.1) (fun r9 h9 w9 => ?_)
    obtain ⟨w1, w2⟩ := w9
    subst h9
    cases w1
    show jJ G X _ 0 0 _ _ (.int v38 :: _)
    refine jr_if_eq K (D_at DX12_sunny_q2 1 rfl) (tgt := 48) (by decide) (fun c41 => ?_) (fun c41 => ?_)
    · replace hf := (if_pos c41).symm.trans hf
      refine jr_iconst K (D_at DX12_sunny_q2 4 rfl) (v := (0 : Int32)) (by decide) ?_
      refine jr_iadd K (D_at DX12_sunny_q2 5 rfl) ?_
      refine jr_istore K (D_at DX12_sunny_q2 6 rfl) (i := 4) (by decide) (L2 := [_, _, _, _, _, _]) rfl ?_
      refine jr_iinc K (D_at DX12_sunny_q2 7 rfl) (i := 5) rfl (v := x5 + (1 : Int32)) (jinc (by decide)) (by decide) (L2 := [_, _, _, _, _, _]) rfl ?_
      refine jr_goto K (D_at DX12_sunny_q2 8 rfl) (tgt := 25) (by decide) ?_
      refine jr_keep [true, true, true, true, true, true] ?_
      exact hr25 a0 x1 x2 x3 (x4 + (0 : Int32)) (x5 + (1 : Int32)) h hf
    · replace hf := (if_neg c41).symm.trans hf
      refine jr_iconst K (D_at DX12_sunny_q2 2 rfl) (v := (1 : Int32)) (by decide) ?_
      refine jr_goto K (D_at DX12_sunny_q2 3 rfl) (tgt := 49) (by decide) ?_
      refine jr_iadd K (D_at DX12_sunny_q2 5 rfl) ?_
      refine jr_istore K (D_at DX12_sunny_q2 6 rfl) (i := 4) (by decide) (L2 := [_, _, _, _, _, _]) rfl ?_
      refine jr_iinc K (D_at DX12_sunny_q2 7 rfl) (i := 5) rfl (v := x5 + (1 : Int32)) (jinc (by decide)) (by decide) (L2 := [_, _, _, _, _, _]) rfl ?_
      refine jr_goto K (D_at DX12_sunny_q2 8 rfl) (tgt := 25) (by decide) ?_
      refine jr_keep [true, true, true, true, true, true] ?_
      exact hr25 a0 x1 x2 x3 (x4 + (1 : Int32)) (x5 + (1 : Int32)) h hf
theorem J_X12_sunny_25 {G : jG} {l : Launch} {d : Nat} {X : jX} {res : (Int32 × jH)} (K : jOK G l mX12_sunny (d + 3) X) (n : Nat) (rc11 : Nat → Int32 → Int32 → Int32 → jH → Option (Int32 × jH)) (hr11 : ∀ (a0 : Nat) (x1 : Int32) (x2 : Int32) (x3 : Int32) (h : jH), rc11 a0 x1 x2 x3 h = some res → jJ G X h 0 0 11 [some (.ref a0), some (.int x1), some (.int x2), some (.int x3), none, none] []) (E : jEnd G mX12_sunny (jPW res) X) (k : Nat) : ∀ (a0 : Nat) (x1 : Int32) (x2 : Int32) (x3 : Int32) (x4 : Int32) (x5 : Int32) (h : jH), F_X12_sunny_25 n rc11 k a0 x1 x2 x3 x4 x5 h = some res → jJ G X h 0 0 25 [some (.ref a0), some (.int x1), some (.int x2), some (.int x3), some (.int x4), some (.int x5)] [] := by
  induction k with
  | zero =>
    intro a0 x1 x2 x3 x4 x5 h hf
    exact jno (show (none : Option (Int32 × jH)) = some res from hf)
  | succ k ih =>
    intro a0 x1 x2 x3 x4 x5 h hf
    exact J_X12_sunny_25_b K n rc11 hr11 (F_X12_sunny_25 n rc11 k) ih E a0 x1 x2 x3 x4 x5 h hf
set_option maxHeartbeats 400000 in
set_option maxRecDepth 100000 in
theorem J_X12_sunny_11_b {G : jG} {l : Launch} {d : Nat} {X : jX} {res : (Int32 × jH)} (K : jOK G l mX12_sunny (d + 3) X) (n : Nat) (rc11 : Nat → Int32 → Int32 → Int32 → jH → Option (Int32 × jH)) (hr11 : ∀ (a0 : Nat) (x1 : Int32) (x2 : Int32) (x3 : Int32) (h : jH), rc11 a0 x1 x2 x3 h = some res → jJ G X h 0 0 11 [some (.ref a0), some (.int x1), some (.int x2), some (.int x3), none, none] []) (E : jEnd G mX12_sunny (jPW res) X) (a0 : Nat) (x1 : Int32) (x2 : Int32) (x3 : Int32) (h : jH) (hf : F_X12_sunny_11_b n rc11 a0 x1 x2 x3 h = some res) : jJ G X h 0 0 11 [some (.ref a0), some (.int x1), some (.int x2), some (.int x3), none, none] [] := by
  unfold F_X12_sunny_11_b at hf
  refine jr_iload_n K (D_at DX12_sunny_q0 9 rfl) rfl rfl ?_
  refine jr_aload_n K (D_at DX12_sunny_q0 10 rfl) rfl rfl ?_
  obtain ⟨v13, e13, hf⟩ := jbind hf
  obtain ⟨rc_13, e13⟩ := jcv_o e13
  refine jr_callV K (C_X12_rings (d + 2) e13) (D_at DX12_sunny_q0 11 rfl) cv_X12_59_X12_rings (As := []) (ci := 10) rfl rc_13 rfl rfl (by exact Nat.le_of_ble_eq_true rfl) (kc2 := 0) (ks2 := 0) rfl rfl (fun k9 h9 w9 => by cases w9.1) (fun r9 h9 w9 => ?_)
  obtain ⟨w1, w2⟩ := w9
  subst h9
  cases w1
  show jJ G X _ 0 0 _ _ (.int v13 :: _)
  refine jr_icmp_ge K (D_at DX12_sunny_q1 0 rfl) (tgt := 83) (by decide) (fun c16 => ?_) (fun c16 => ?_)
  · replace hf := (if_pos c16).symm.trans hf
    refine jr_iload_n K (D_at DX12_sunny_q3 10 rfl) rfl rfl ?_
    cases hf
    exact jr_iret K E (D_at DX12_sunny_q3 11 rfl) rfl ⟨rfl, rfl⟩
  · replace hf := (if_neg c16).symm.trans hf
    refine jr_iconst K (D_at DX12_sunny_q1 1 rfl) (v := (0 : Int32)) (by decide) ?_
    refine jr_istore K (D_at DX12_sunny_q1 2 rfl) (i := 4) (by decide) (L2 := [_, _, _, _, _, _]) rfl ?_
    refine jr_iconst K (D_at DX12_sunny_q1 3 rfl) (v := (0 : Int32)) (by decide) ?_
    refine jr_istore K (D_at DX12_sunny_q1 4 rfl) (i := 5) (by decide) (L2 := [_, _, _, _, _, _]) rfl ?_
    refine jr_keep [true, true, true, true, true, true] ?_
    exact J_X12_sunny_25 K n rc11 hr11 E n a0 x1 x2 x3 (0 : Int32) (0 : Int32) h hf
theorem J_X12_sunny_11 {G : jG} {l : Launch} {d : Nat} {X : jX} {res : (Int32 × jH)} (K : jOK G l mX12_sunny (d + 3) X) (n : Nat) (E : jEnd G mX12_sunny (jPW res) X) (k : Nat) : ∀ (a0 : Nat) (x1 : Int32) (x2 : Int32) (x3 : Int32) (h : jH), F_X12_sunny_11 n k a0 x1 x2 x3 h = some res → jJ G X h 0 0 11 [some (.ref a0), some (.int x1), some (.int x2), some (.int x3), none, none] [] := by
  induction k with
  | zero =>
    intro a0 x1 x2 x3 h hf
    exact jno (show (none : Option (Int32 × jH)) = some res from hf)
  | succ k ih =>
    intro a0 x1 x2 x3 h hf
    exact J_X12_sunny_11_b K n (F_X12_sunny_11 n k) ih E a0 x1 x2 x3 h hf
set_option maxHeartbeats 400000 in
set_option maxRecDepth 100000 in
theorem J_X12_sunny {G : jG} {l : Launch} {d : Nat} {X : jX} {res : (Int32 × jH)} (K : jOK G l mX12_sunny (d + 3) X) (n : Nat) (E : jEnd G mX12_sunny (jPW res) X) (a0 : Nat) (h : jH) (hf : F_X12_sunny n a0 h = some res) : jJ G X h 0 0 0 [some (.ref a0), none, none, none, none, none] [] := by
  unfold F_X12_sunny at hf
  refine jr_aload_n K (D_at DX12_sunny_q0 0 rfl) rfl rfl ?_
  refine jr_iconst K (D_at DX12_sunny_q0 1 rfl) (v := (0 : Int32)) (by decide) ?_
  obtain ⟨h2, e2, hf⟩ := jbind hf
  refine jr_putI K (D_at DX12_sunny_q0 2 rfl) fp_X12_3_10 (Or.inl rfl) e2 ?_
  refine jr_iconst K (D_at DX12_sunny_q0 3 rfl) (v := (-1 : Int32)) (by decide) ?_
  refine jr_istore_n K (D_at DX12_sunny_q0 4 rfl) (i := 1) rfl (by decide) (L2 := [_, _, _, _, _, _]) rfl ?_
  refine jr_iconst K (D_at DX12_sunny_q0 5 rfl) (v := (-1 : Int32)) (by decide) ?_
  refine jr_istore_n K (D_at DX12_sunny_q0 6 rfl) (i := 2) rfl (by decide) (L2 := [_, _, _, _, _, _]) rfl ?_
  refine jr_iconst K (D_at DX12_sunny_q0 7 rfl) (v := (0 : Int32)) (by decide) ?_
  refine jr_istore_n K (D_at DX12_sunny_q0 8 rfl) (i := 3) rfl (by decide) (L2 := [_, _, _, _, _, _]) rfl ?_
  refine jr_keep [true, true, true, true, false, false] ?_
  exact J_X12_sunny_11 K n E n a0 (-1 : Int32) (-1 : Int32) (0 : Int32) h2 hf
theorem C_X12_sunny {G : jG} {l : Launch} (d : Nat) {n : Nat} {a0 : Nat} {h : jH} {res : (Int32 × jH)} (hf : F_X12_sunny n a0 h = some res) : jC G l mX12_sunny (d + 3) 0 0 [.ref a0] h (jPW res) :=
  jC.of pn_X12 (jcats rfl) (Nat.le_of_ble_eq_true rfl) (fun X K E => J_X12_sunny K n E a0 h hf)
set_option maxHeartbeats 400000 in
set_option maxRecDepth 100000 in
theorem J_X12_lets_103 {G : jG} {l : Launch} {d : Nat} {X : jX} {res : (Int32 × jH)} (K : jOK G l mX12_lets (d + 3) X) (n : Nat) (E : jEnd G mX12_lets (jPW res) X) (x1 : Int32) (x2 : Int32) (x4 : Int32) (x5 : Int32) (s0 : Int32) (h : jH) (hf : F_X12_lets_103 n x1 x2 x4 x5 s0 h = some res) : jJ G X h 0 0 103 [none, some (.int x1), some (.int x2), none, some (.int x4), some (.int x5), none] [.int s0] := by
  unfold F_X12_lets_103 at hf
  refine jr_istore K (D_at DX12_lets_q4 10 rfl) (i := 6) (by decide) (L2 := [_, _, _, _, _, _, _]) rfl ?_
  refine jr_iload K (D_at DX12_lets_q4 11 rfl) rfl ?_
  refine jr_iload_n K (D_at DX12_lets_q5 0 rfl) rfl rfl ?_
  refine jr_icmp_le K (D_at DX12_lets_q5 1 rfl) (tgt := 115) (by decide) (fun c108 => ?_) (fun c108 => ?_)
  · replace hf := (if_pos c108).symm.trans hf
    refine jr_iload_n K (D_at DX12_lets_1_q0 0 rfl) rfl rfl ?_
    refine jr_iload K (D_at DX12_lets_1_q0 1 rfl) rfl ?_
    refine jr_icmp_ge K (D_at DX12_lets_1_q0 2 rfl) (tgt := 128) (by decide) (fun c118 => ?_) (fun c118 => ?_)
    · replace hf := (if_pos c118).symm.trans hf
      refine jr_iload K (D_at DX12_lets_1_q0 7 rfl) rfl ?_
      cases hf
      exact jr_iret K E (D_at DX12_lets_1_q0 8 rfl) rfl ⟨rfl, rfl⟩
    · replace hf := (if_neg c118).symm.trans hf
      refine jr_iload K (D_at DX12_lets_1_q0 3 rfl) rfl ?_
      refine jr_iconst K (D_at DX12_lets_1_q0 4 rfl) (v := (1 : Int32)) (by decide) ?_
      refine jr_iadd K (D_at DX12_lets_1_q0 5 rfl) ?_
      refine jr_goto K (D_at DX12_lets_1_q0 6 rfl) (tgt := 130) (by decide) ?_
      cases hf
      exact jr_iret K E (D_at DX12_lets_1_q0 8 rfl) rfl ⟨rfl, rfl⟩
  · replace hf := (if_neg c108).symm.trans hf
    refine jr_iconst K (D_at DX12_lets_q5 2 rfl) (v := (-1 : Int32)) (by decide) ?_
    refine jr_goto K (D_at DX12_lets_q5 3 rfl) (tgt := 130) (by decide) ?_
    cases hf
    exact jr_iret K E (D_at DX12_lets_1_q0 8 rfl) rfl ⟨rfl, rfl⟩
set_option maxHeartbeats 400000 in
set_option maxRecDepth 100000 in
theorem J_X12_lets_48_b {G : jG} {l : Launch} {d : Nat} {X : jX} {res : (Int32 × jH)} (K : jOK G l mX12_lets (d + 3) X) (n : Nat) (rc48 : Nat → Int32 → Int32 → Int32 → Int32 → jH → Option (Int32 × jH)) (hr48 : ∀ (a0 : Nat) (x1 : Int32) (x2 : Int32) (x3 : Int32) (x4 : Int32) (h : jH), rc48 a0 x1 x2 x3 x4 h = some res → jJ G X h 0 0 48 [some (.ref a0), some (.int x1), some (.int x2), some (.int x3), some (.int x4), none, none] []) (E : jEnd G mX12_lets (jPW res) X) (a0 : Nat) (x1 : Int32) (x2 : Int32) (x3 : Int32) (x4 : Int32) (h : jH) (hf : F_X12_lets_48_b n rc48 a0 x1 x2 x3 x4 h = some res) : jJ G X h 0 0 48 [some (.ref a0), some (.int x1), some (.int x2), some (.int x3), some (.int x4), none, none] [] := by
  unfold F_X12_lets_48_b at hf
  refine jr_iload K (D_at DX12_lets_q2 4 rfl) rfl ?_
  refine jr_aload_n K (D_at DX12_lets_q2 5 rfl) rfl rfl ?_
  obtain ⟨v51, e51, hf⟩ := jbind hf
  obtain ⟨rc_51, e51⟩ := jcv_o e51
  refine jr_callV K (C_X12_rings (d + 2) e51) (D_at DX12_lets_q2 6 rfl) cv_X12_59_X12_rings (As := []) (ci := 10) rfl rc_51 rfl rfl (by exact Nat.le_of_ble_eq_true rfl) (kc2 := 0) (ks2 := 0) rfl rfl (fun k9 h9 w9 => by cases w9.1) (fun r9 h9 w9 => ?_)
  obtain ⟨w1, w2⟩ := w9
  subst h9
  cases w1
  show jJ G X _ 0 0 _ _ (.int v51 :: _)
  refine jr_icmp_ge K (D_at DX12_lets_q2 7 rfl) (tgt := 73) (by decide) (fun c54 => ?_) (fun c54 => ?_)
  · replace hf := (if_pos c54).symm.trans hf
    refine jr_iload_n K (D_at DX12_lets_q3 5 rfl) rfl rfl ?_
    refine jr_aload_n K (D_at DX12_lets_q3 6 rfl) rfl rfl ?_
    obtain ⟨v75, e75, hf⟩ := jbind hf
    obtain ⟨rc_75, e75⟩ := jcv_o e75
    refine jr_callV K (C_X12_rings (d + 2) e75) (D_at DX12_lets_q3 7 rfl) cv_X12_59_X12_rings (As := []) (ci := 10) rfl rc_75 rfl rfl (by exact Nat.le_of_ble_eq_true rfl) (kc2 := 0) (ks2 := 0) rfl rfl (fun k9 h9 w9 => by cases w9.1) (fun r9 h9 w9 => ?_)
    obtain ⟨w1, w2⟩ := w9
    subst h9
    cases w1
    show jJ G X _ 0 0 _ _ (.int v75 :: _)
    by_cases c78 : v75 = 0
    · exact jno (show (none : Option (Int32 × jH)) = some res from (if_pos c78).symm.trans hf)
    replace hf := (if_neg c78).symm.trans hf
    refine jr_idiv K (D_at DX12_lets_q3 8 rfl) c78 ?_
    refine jr_istore K (D_at DX12_lets_q3 9 rfl) (i := 4) (by decide) (L2 := [_, _, _, _, _, _, _]) rfl ?_
    refine jr_iload_n K (D_at DX12_lets_q3 10 rfl) rfl rfl ?_
    refine jr_aload_n K (D_at DX12_lets_q3 11 rfl) rfl rfl ?_
    obtain ⟨v83, e83, hf⟩ := jbind hf
    obtain ⟨rc_83, e83⟩ := jcv_o e83
    refine jr_callV K (C_X12_rings (d + 2) e83) (D_at DX12_lets_q4 0 rfl) cv_X12_59_X12_rings (As := []) (ci := 10) rfl rc_83 rfl rfl (by exact Nat.le_of_ble_eq_true rfl) (kc2 := 0) (ks2 := 0) rfl rfl (fun k9 h9 w9 => by cases w9.1) (fun r9 h9 w9 => ?_)
    obtain ⟨w1, w2⟩ := w9
    subst h9
    cases w1
    show jJ G X _ 0 0 _ _ (.int v83 :: _)
    by_cases c86 : v83 = 0
    · exact jno (show (none : Option (Int32 × jH)) = some res from (if_pos c86).symm.trans hf)
    replace hf := (if_neg c86).symm.trans hf
    refine jr_irem K (D_at DX12_lets_q4 1 rfl) c86 ?_
    refine jr_istore K (D_at DX12_lets_q4 2 rfl) (i := 5) (by decide) (L2 := [_, _, _, _, _, _, _]) rfl ?_
    refine jr_iload K (D_at DX12_lets_q4 3 rfl) rfl ?_
    refine jr_if_le K (D_at DX12_lets_q4 4 rfl) (tgt := 101) (by decide) (fun c91 => ?_) (fun c91 => ?_)
    · replace hf := (if_pos c91).symm.trans hf
      refine jr_iload K (D_at DX12_lets_q4 9 rfl) rfl ?_
      refine jr_keep [false, true, true, false, true, true, false] ?_
      exact J_X12_lets_103 K n E x1 x2 (x3 / v75) (x3 - x3 / v83 * v83) (x3 / v75) h hf
    · replace hf := (if_neg c91).symm.trans hf
      refine jr_iload K (D_at DX12_lets_q4 5 rfl) rfl ?_
      refine jr_iconst K (D_at DX12_lets_q4 6 rfl) (v := (1 : Int32)) (by decide) ?_
      refine jr_iadd K (D_at DX12_lets_q4 7 rfl) ?_
      refine jr_goto K (D_at DX12_lets_q4 8 rfl) (tgt := 103) (by decide) ?_
      refine jr_keep [false, true, true, false, true, true, false] ?_
      exact J_X12_lets_103 K n E x1 x2 (x3 / v75) (x3 - x3 / v83 * v83) ((x3 / v75) + (1 : Int32)) h hf
  · replace hf := (if_neg c54).symm.trans hf
    refine jr_iload_n K (D_at DX12_lets_q2 8 rfl) rfl rfl ?_
    refine jr_aload_n K (D_at DX12_lets_q2 9 rfl) rfl rfl ?_
    refine jr_iload K (D_at DX12_lets_q2 10 rfl) rfl ?_
    refine jr_iconst K (D_at DX12_lets_q2 11 rfl) (v := (5 : Int32)) (by decide) ?_
    obtain ⟨v62, e62, hf⟩ := jbind hf
    obtain ⟨rc_62, e62⟩ := jcv_o e62
    refine jr_callV K (C_X12_of (d + 1) e62) (D_at DX12_lets_q3 0 rfl) cv_X12_67_X12_of (As := [.int x4, .int (5 : Int32)]) (ci := 10) rfl rc_62 rfl rfl (by exact Nat.le_of_ble_eq_true rfl) (kc2 := 0) (ks2 := 0) rfl rfl (fun k9 h9 w9 => by cases w9.1) (fun r9 h9 w9 => ?_)
    obtain ⟨w1, w2⟩ := w9
    subst h9
    cases w1
    show jJ G X _ 0 0 _ _ (.int v62 :: _)
    refine jr_iadd K (D_at DX12_lets_q3 1 rfl) ?_
    refine jr_istore_n K (D_at DX12_lets_q3 2 rfl) (i := 3) rfl (by decide) (L2 := [_, _, _, _, _, _, _]) rfl ?_
    refine jr_iinc K (D_at DX12_lets_q3 3 rfl) (i := 4) rfl (v := x4 + (1 : Int32)) (jinc (by decide)) (by decide) (L2 := [_, _, _, _, _, _, _]) rfl ?_
    refine jr_goto K (D_at DX12_lets_q3 4 rfl) (tgt := 48) (by decide) ?_
    refine jr_keep [true, true, true, true, true, false, false] ?_
    exact hr48 a0 x1 x2 (x3 + v62) (x4 + (1 : Int32)) h hf
theorem J_X12_lets_48 {G : jG} {l : Launch} {d : Nat} {X : jX} {res : (Int32 × jH)} (K : jOK G l mX12_lets (d + 3) X) (n : Nat) (E : jEnd G mX12_lets (jPW res) X) (k : Nat) : ∀ (a0 : Nat) (x1 : Int32) (x2 : Int32) (x3 : Int32) (x4 : Int32) (h : jH), F_X12_lets_48 n k a0 x1 x2 x3 x4 h = some res → jJ G X h 0 0 48 [some (.ref a0), some (.int x1), some (.int x2), some (.int x3), some (.int x4), none, none] [] := by
  induction k with
  | zero =>
    intro a0 x1 x2 x3 x4 h hf
    exact jno (show (none : Option (Int32 × jH)) = some res from hf)
  | succ k ih =>
    intro a0 x1 x2 x3 x4 h hf
    exact J_X12_lets_48_b K n (F_X12_lets_48 n k) ih E a0 x1 x2 x3 x4 h hf
set_option maxHeartbeats 400000 in
set_option maxRecDepth 100000 in
theorem J_X12_lets_34 {G : jG} {l : Launch} {d : Nat} {X : jX} {res : (Int32 × jH)} (K : jOK G l mX12_lets (d + 3) X) (n : Nat) (E : jEnd G mX12_lets (jPW res) X) (a0 : Nat) (x1 : Int32) (x2 : Int32) (sa0 : Nat) (s1 : Int32) (h : jH) (hf : F_X12_lets_34 n a0 x1 x2 sa0 s1 h = some res) : jJ G X h 0 0 34 [some (.ref a0), some (.int x1), some (.int x2), none, none, none, none] [.int s1, .ref sa0] := by
  unfold F_X12_lets_34 at hf
  refine jr_iconst K (D_at DX12_lets_q1 7 rfl) (v := (2 : Int32)) (by decide) ?_
  obtain ⟨q35, e35, hf⟩ := jbind hf
  obtain ⟨rc_35, e35⟩ := jcv_o e35
  refine jr_callV K (C_X12_throwsIf (d + 2) e35) (D_at DX12_lets_q1 8 rfl) cv_X12_250_X12_throwsIf (As := [.int s1, .int (2 : Int32)]) (ci := 10) rfl rc_35 rfl rfl (by exact Nat.le_of_ble_eq_true rfl) (kc2 := 0) (ks2 := 0) rfl rfl (fun k9 h9 w9 => by cases w9.1) (fun r9 h9 w9 => ?_)
  obtain ⟨w1, w2⟩ := w9
  subst h9
  cases w1
  show jJ G X _ 0 0 _ _ (.int q35.1 :: _)
  refine jr_if_eq K (D_at DX12_lets_q1 9 rfl) (tgt := 43) (by decide) (fun c38 => ?_) (fun c38 => ?_)
  · replace hf := (if_pos c38).symm.trans hf
    refine jr_iconst K (D_at DX12_lets_q2 0 rfl) (v := (0 : Int32)) (by decide) ?_
    refine jr_istore_n K (D_at DX12_lets_q2 1 rfl) (i := 3) rfl (by decide) (L2 := [_, _, _, _, _, _, _]) rfl ?_
    refine jr_iconst K (D_at DX12_lets_q2 2 rfl) (v := (0 : Int32)) (by decide) ?_
    refine jr_istore K (D_at DX12_lets_q2 3 rfl) (i := 4) (by decide) (L2 := [_, _, _, _, _, _, _]) rfl ?_
    refine jr_keep [true, true, true, true, true, false, false] ?_
    exact J_X12_lets_48 K n E n a0 x1 x2 (0 : Int32) (0 : Int32) q35.2 hf
  · replace hf := (if_neg c38).symm.trans hf
    refine jr_iconst K (D_at DX12_lets_q1 10 rfl) (v := (0 : Int32)) (by decide) ?_
    cases hf
    exact jr_iret K E (D_at DX12_lets_q1 11 rfl) rfl ⟨rfl, rfl⟩
set_option maxHeartbeats 400000 in
set_option maxRecDepth 100000 in
theorem J_X12_lets {G : jG} {l : Launch} {d : Nat} {X : jX} {res : (Int32 × jH)} (K : jOK G l mX12_lets (d + 3) X) (n : Nat) (E : jEnd G mX12_lets (jPW res) X) (a0 : Nat) (x1 : Int32) (x2 : Int32) (h : jH) (hf : F_X12_lets n a0 x1 x2 h = some res) : jJ G X h 0 0 0 [some (.ref a0), some (.int x1), some (.int x2), none, none, none, none] [] := by
  unfold F_X12_lets at hf
  refine jr_aload_n K (D_at DX12_lets_q0 0 rfl) rfl rfl ?_
  refine jr_iconst K (D_at DX12_lets_q0 1 rfl) (v := (0 : Int32)) (by decide) ?_
  obtain ⟨h2, e2, hf⟩ := jbind hf
  refine jr_putI K (D_at DX12_lets_q0 2 rfl) fp_X12_3_10 (Or.inl rfl) e2 ?_
  refine jr_aload_n K (D_at DX12_lets_q0 3 rfl) rfl rfl ?_
  refine jr_aload_n K (D_at DX12_lets_q0 4 rfl) rfl rfl ?_
  refine jr_iload_n K (D_at DX12_lets_q0 5 rfl) rfl rfl ?_
  obtain ⟨v8, e8, hf⟩ := jbind hf
  obtain ⟨rc_8, e8⟩ := jcv_o e8
  refine jr_callV K (C_X12_noRing (d) e8) (D_at DX12_lets_q0 6 rfl) cv_X12_277_X12_noRing (As := [.int x1]) (ci := 10) rfl rc_8 rfl rfl (by exact Nat.le_of_ble_eq_true rfl) (kc2 := 0) (ks2 := 0) rfl rfl (fun k9 h9 w9 => by cases w9.1) (fun r9 h9 w9 => ?_)
  obtain ⟨w1, w2⟩ := w9
  subst h9
  cases w1
  show jJ G X _ 0 0 _ _ (.int v8 :: _)
  refine jr_iconst K (D_at DX12_lets_q0 7 rfl) (v := (1 : Int32)) (by decide) ?_
  obtain ⟨q12, e12, hf⟩ := jbind hf
  obtain ⟨rc_12, e12⟩ := jcv_o e12
  refine jr_callV K (C_X12_throwsIf (d + 2) e12) (D_at DX12_lets_q0 8 rfl) cv_X12_250_X12_throwsIf (As := [.int v8, .int (1 : Int32)]) (ci := 10) rfl rc_12 rfl rfl (by exact Nat.le_of_ble_eq_true rfl) (kc2 := 0) (ks2 := 0) rfl rfl (fun k9 h9 w9 => by cases w9.1) (fun r9 h9 w9 => ?_)
  obtain ⟨w1, w2⟩ := w9
  subst h9
  cases w1
  show jJ G X _ 0 0 _ _ (.int q12.1 :: _)
  refine jr_if_ne K (D_at DX12_lets_q0 9 rfl) (tgt := 41) (by decide) (fun c15 => ?_) (fun c15 => ?_)
  · replace hf := (if_neg c15).symm.trans hf
    refine jr_iconst K (D_at DX12_lets_q1 10 rfl) (v := (0 : Int32)) (by decide) ?_
    cases hf
    exact jr_iret K E (D_at DX12_lets_q1 11 rfl) rfl ⟨rfl, rfl⟩
  · replace hf := (if_pos c15).symm.trans hf
    refine jr_aload_n K (D_at DX12_lets_q0 10 rfl) rfl rfl ?_
    refine jr_iload_n K (D_at DX12_lets_q0 11 rfl) rfl rfl ?_
    refine jr_iconst K (D_at DX12_lets_q1 0 rfl) (v := (0 : Int32)) (by decide) ?_
    refine jr_bipush K (D_at DX12_lets_q1 1 rfl) (v := (9 : Int32)) (by decide) ?_
    obtain ⟨v23, e23, hf⟩ := jbind hf
    refine jr_callS K (C_X12_in (d + 2) e23) (D_at DX12_lets_q1 2 rfl) cs_X12_77_X12_in (As := [.int x2, .int (0 : Int32), .int (9 : Int32)]) rfl rfl (by exact Nat.le_of_ble_eq_true rfl) (kc2 := 0) (ks2 := 0) rfl rfl (fun k9 h9 w9 => by cases w9.1) (fun r9 h9 w9 => ?_)
    obtain ⟨w1, w2⟩ := w9
    subst h9
    cases w1
    show jJ G X _ 0 0 _ _ (.int v23 :: _)
    refine jr_if_ne K (D_at DX12_lets_q1 3 rfl) (tgt := 33) (by decide) (fun c26 => ?_) (fun c26 => ?_)
    · replace hf := (if_neg c26).symm.trans hf
      refine jr_iconst K (D_at DX12_lets_q1 6 rfl) (v := (0 : Int32)) (by decide) ?_
      refine jr_keep [true, true, true, false, false, false, false] ?_
      exact J_X12_lets_34 K n E a0 x1 x2 a0 (0 : Int32) q12.2 hf
    · replace hf := (if_pos c26).symm.trans hf
      refine jr_iconst K (D_at DX12_lets_q1 4 rfl) (v := (1 : Int32)) (by decide) ?_
      refine jr_goto K (D_at DX12_lets_q1 5 rfl) (tgt := 34) (by decide) ?_
      refine jr_keep [true, true, true, false, false, false, false] ?_
      exact J_X12_lets_34 K n E a0 x1 x2 a0 (1 : Int32) q12.2 hf
theorem C_X12_lets {G : jG} {l : Launch} (d : Nat) {n : Nat} {a0 : Nat} {x1 : Int32} {x2 : Int32} {h : jH} {res : (Int32 × jH)} (hf : F_X12_lets n a0 x1 x2 h = some res) : jC G l mX12_lets (d + 3) 0 0 [.ref a0, .int x1, .int x2] h (jPW res) :=
  jC.of pn_X12 (jcats rfl) (Nat.le_of_ble_eq_true rfl) (fun X K E => J_X12_lets K n E a0 x1 x2 h hf)
set_option maxHeartbeats 400000 in
set_option maxRecDepth 100000 in
theorem J_X12_envy_9_b {G : jG} {l : Launch} {d : Nat} {X : jX} {res : (Int32 × jH)} (K : jOK G l mX12_envy (d + 2) X) (n : Nat) (rc9 : Nat → Int32 → Int32 → jH → Option (Int32 × jH)) (hr9 : ∀ (a0 : Nat) (x1 : Int32) (x2 : Int32) (h : jH), rc9 a0 x1 x2 h = some res → jJ G X h 0 0 9 [some (.ref a0), some (.int x1), some (.int x2)] []) (E : jEnd G mX12_envy (jPW res) X) (a0 : Nat) (x1 : Int32) (x2 : Int32) (h : jH) (hf : F_X12_envy_9_b n rc9 a0 x1 x2 h = some res) : jJ G X h 0 0 9 [some (.ref a0), some (.int x1), some (.int x2)] [] := by
  unfold F_X12_envy_9_b at hf
  refine jr_iload_n K (D_at DX12_envy_q0 7 rfl) rfl rfl ?_
  refine jr_aload_n K (D_at DX12_envy_q0 8 rfl) rfl rfl ?_
  obtain ⟨v11, e11, hf⟩ := jbind hf
  obtain ⟨rc_11, e11⟩ := jcv_o e11
  refine jr_callV K (C_X12_lastRing (d) e11) (D_at DX12_envy_q0 9 rfl) cv_X12_70_X12_lastRing (As := []) (ci := 10) rfl rc_11 rfl rfl (by exact Nat.le_of_ble_eq_true rfl) (kc2 := 0) (ks2 := 0) rfl rfl (fun k9 h9 w9 => by cases w9.1) (fun r9 h9 w9 => ?_)
  obtain ⟨w1, w2⟩ := w9
  subst h9
  cases w1
  show jJ G X _ 0 0 _ _ (.int v11 :: _)
  refine jr_icmp_ge K (D_at DX12_envy_q0 10 rfl) (tgt := 53) (by decide) (fun c14 => ?_) (fun c14 => ?_)
  · replace hf := (if_pos c14).symm.trans hf
    refine jr_iload_n K (D_at DX12_envy_q2 9 rfl) rfl rfl ?_
    cases hf
    exact jr_iret K E (D_at DX12_envy_q2 10 rfl) rfl ⟨rfl, rfl⟩
  · replace hf := (if_neg c14).symm.trans hf
    refine jr_iload_n K (D_at DX12_envy_q0 11 rfl) rfl rfl ?_
    refine jr_aload_n K (D_at DX12_envy_q1 0 rfl) rfl rfl ?_
    refine jr_iload_n K (D_at DX12_envy_q1 1 rfl) rfl rfl ?_
    refine jr_iconst K (D_at DX12_envy_q1 2 rfl) (v := (5 : Int32)) (by decide) ?_
    obtain ⟨v21, e21, hf⟩ := jbind hf
    obtain ⟨rc_21, e21⟩ := jcv_o e21
    refine jr_callV K (C_X12_of (d) e21) (D_at DX12_envy_q1 3 rfl) cv_X12_67_X12_of (As := [.int x2, .int (5 : Int32)]) (ci := 10) rfl rc_21 rfl rfl (by exact Nat.le_of_ble_eq_true rfl) (kc2 := 0) (ks2 := 0) rfl rfl (fun k9 h9 w9 => by cases w9.1) (fun r9 h9 w9 => ?_)
    obtain ⟨w1, w2⟩ := w9
    subst h9
    cases w1
    show jJ G X _ 0 0 _ _ (.int v21 :: _)
    refine jr_aload_n K (D_at DX12_envy_q1 4 rfl) rfl rfl ?_
    refine jr_iload_n K (D_at DX12_envy_q1 5 rfl) rfl rfl ?_
    refine jr_iconst K (D_at DX12_envy_q1 6 rfl) (v := (1 : Int32)) (by decide) ?_
    refine jr_iadd K (D_at DX12_envy_q1 7 rfl) ?_
    refine jr_iconst K (D_at DX12_envy_q1 8 rfl) (v := (5 : Int32)) (by decide) ?_
    obtain ⟨v29, e29, hf⟩ := jbind hf
    obtain ⟨rc_29, e29⟩ := jcv_o e29
    refine jr_callV K (C_X12_of (d) e29) (D_at DX12_envy_q1 9 rfl) cv_X12_67_X12_of (As := [.int (x2 + (1 : Int32)), .int (5 : Int32)]) (ci := 10) rfl rc_29 rfl rfl (by exact Nat.le_of_ble_eq_true rfl) (kc2 := 0) (ks2 := 0) rfl rfl (fun k9 h9 w9 => by cases w9.1) (fun r9 h9 w9 => ?_)
    obtain ⟨w1, w2⟩ := w9
    subst h9
    cases w1
    show jJ G X _ 0 0 _ _ (.int v29 :: _)
    refine jr_isub K (D_at DX12_envy_q1 10 rfl) ?_
    refine jr_abs K (D_at DX12_envy_q1 11 rfl) mm_X12_274 (by exact Nat.le_of_ble_eq_true rfl) ?_
    refine jr_iconst K (D_at DX12_envy_q2 0 rfl) (v := (1 : Int32)) (by decide) ?_
    refine jr_icmp_le K (D_at DX12_envy_q2 1 rfl) (tgt := 44) (by decide) (fun c37 => ?_) (fun c37 => ?_)
    · replace hf := (if_pos c37).symm.trans hf
      refine jr_iconst K (D_at DX12_envy_q2 4 rfl) (v := (0 : Int32)) (by decide) ?_
      refine jr_iadd K (D_at DX12_envy_q2 5 rfl) ?_
      refine jr_istore_n K (D_at DX12_envy_q2 6 rfl) (i := 1) rfl (by decide) (L2 := [_, _, _]) rfl ?_
      refine jr_iinc K (D_at DX12_envy_q2 7 rfl) (i := 2) rfl (v := x2 + (1 : Int32)) (jinc (by decide)) (by decide) (L2 := [_, _, _]) rfl ?_
      refine jr_goto K (D_at DX12_envy_q2 8 rfl) (tgt := 9) (by decide) ?_
      refine jr_keep [true, true, true] ?_
      exact hr9 a0 (x1 + (0 : Int32)) (x2 + (1 : Int32)) h hf
    · replace hf := (if_neg c37).symm.trans hf
      refine jr_iconst K (D_at DX12_envy_q2 2 rfl) (v := (1 : Int32)) (by decide) ?_
      refine jr_goto K (D_at DX12_envy_q2 3 rfl) (tgt := 45) (by decide) ?_
      refine jr_iadd K (D_at DX12_envy_q2 5 rfl) ?_
      refine jr_istore_n K (D_at DX12_envy_q2 6 rfl) (i := 1) rfl (by decide) (L2 := [_, _, _]) rfl ?_
      refine jr_iinc K (D_at DX12_envy_q2 7 rfl) (i := 2) rfl (v := x2 + (1 : Int32)) (jinc (by decide)) (by decide) (L2 := [_, _, _]) rfl ?_
      refine jr_goto K (D_at DX12_envy_q2 8 rfl) (tgt := 9) (by decide) ?_
      refine jr_keep [true, true, true] ?_
      exact hr9 a0 (x1 + (1 : Int32)) (x2 + (1 : Int32)) h hf
theorem J_X12_envy_9 {G : jG} {l : Launch} {d : Nat} {X : jX} {res : (Int32 × jH)} (K : jOK G l mX12_envy (d + 2) X) (n : Nat) (E : jEnd G mX12_envy (jPW res) X) (k : Nat) : ∀ (a0 : Nat) (x1 : Int32) (x2 : Int32) (h : jH), F_X12_envy_9 n k a0 x1 x2 h = some res → jJ G X h 0 0 9 [some (.ref a0), some (.int x1), some (.int x2)] [] := by
  induction k with
  | zero =>
    intro a0 x1 x2 h hf
    exact jno (show (none : Option (Int32 × jH)) = some res from hf)
  | succ k ih =>
    intro a0 x1 x2 h hf
    exact J_X12_envy_9_b K n (F_X12_envy_9 n k) ih E a0 x1 x2 h hf
set_option maxHeartbeats 400000 in
set_option maxRecDepth 100000 in
theorem J_X12_envy {G : jG} {l : Launch} {d : Nat} {X : jX} {res : (Int32 × jH)} (K : jOK G l mX12_envy (d + 2) X) (n : Nat) (E : jEnd G mX12_envy (jPW res) X) (a0 : Nat) (h : jH) (hf : F_X12_envy n a0 h = some res) : jJ G X h 0 0 0 [some (.ref a0), none, none] [] := by
  unfold F_X12_envy at hf
  refine jr_aload_n K (D_at DX12_envy_q0 0 rfl) rfl rfl ?_
  refine jr_iconst K (D_at DX12_envy_q0 1 rfl) (v := (0 : Int32)) (by decide) ?_
  obtain ⟨h2, e2, hf⟩ := jbind hf
  refine jr_putI K (D_at DX12_envy_q0 2 rfl) fp_X12_3_10 (Or.inl rfl) e2 ?_
  refine jr_iconst K (D_at DX12_envy_q0 3 rfl) (v := (0 : Int32)) (by decide) ?_
  refine jr_istore_n K (D_at DX12_envy_q0 4 rfl) (i := 1) rfl (by decide) (L2 := [_, _, _]) rfl ?_
  refine jr_iconst K (D_at DX12_envy_q0 5 rfl) (v := (0 : Int32)) (by decide) ?_
  refine jr_istore_n K (D_at DX12_envy_q0 6 rfl) (i := 2) rfl (by decide) (L2 := [_, _, _]) rfl ?_
  refine jr_keep [true, true, true] ?_
  exact J_X12_envy_9 K n E n a0 (0 : Int32) (0 : Int32) h2 hf
theorem C_X12_envy {G : jG} {l : Launch} (d : Nat) {n : Nat} {a0 : Nat} {h : jH} {res : (Int32 × jH)} (hf : F_X12_envy n a0 h = some res) : jC G l mX12_envy (d + 2) 0 0 [.ref a0] h (jPW res) :=
  jC.of pn_X12 (jcats rfl) (Nat.le_of_ble_eq_true rfl) (fun X K E => J_X12_envy K n E a0 h hf)
set_option maxHeartbeats 400000 in
set_option maxRecDepth 100000 in
theorem J_X12_eachHas {G : jG} {l : Launch} {d : Nat} {X : jX} {res : Int32} (K : jOK G l mX12_eachHas (d + 3) X) (n : Nat) (h : jH) (E : jEnd G mX12_eachHas (jPR h res) X) (a0 : Nat) (x1 : Int32) (x2 : Int32) (x3 : Int32) (hf : F_X12_eachHas n a0 x1 x2 x3 h = some res) : jJ G X h 0 0 0 [some (.ref a0), some (.int x1), some (.int x2), some (.int x3)] [] := by
  unfold F_X12_eachHas at hf
  refine jr_iload_n K (D_at DX12_eachHas_q0 0 rfl) rfl rfl ?_
  refine jr_iload_n K (D_at DX12_eachHas_q0 1 rfl) rfl rfl ?_
  refine jr_icmp_ne K (D_at DX12_eachHas_q0 2 rfl) (tgt := 7) (by decide) (fun c2 => ?_) (fun c2 => ?_)
  · replace hf := (if_neg c2).symm.trans hf
    refine jr_iload_n K (D_at DX12_eachHas_q0 5 rfl) rfl rfl ?_
    refine jr_iconst K (D_at DX12_eachHas_q0 6 rfl) (v := (1 : Int32)) (by decide) ?_
    refine jr_icmp_ne K (D_at DX12_eachHas_q0 7 rfl) (tgt := 22) (by decide) (fun c9 => ?_) (fun c9 => ?_)
    · replace hf := (if_neg c9).symm.trans hf
      refine jr_aload_n K (D_at DX12_eachHas_q1 2 rfl) rfl rfl ?_
      refine jr_iload_n K (D_at DX12_eachHas_q1 3 rfl) rfl rfl ?_
      refine jr_bipush K (D_at DX12_eachHas_q1 4 rfl) (v := (7 : Int32)) (by decide) ?_
      obtain ⟨v26, e26, hf⟩ := jbind hf
      obtain ⟨rc_26, e26⟩ := jcv_o e26
      refine jr_callV K (C_X12_is (d) e26) (D_at DX12_eachHas_q1 5 rfl) cv_X12_73_X12_is (As := [.int x1, .int (7 : Int32)]) (ci := 10) rfl rc_26 rfl rfl (by exact Nat.le_of_ble_eq_true rfl) (kc2 := 0) (ks2 := 0) rfl rfl (fun k9 h9 w9 => by cases w9.1) (fun r9 h9 w9 => ?_)
      obtain ⟨w1, w2⟩ := w9
      subst h9
      cases w1
      show jJ G X _ 0 0 _ _ (.int v26 :: _)
      refine jr_if_eq K (D_at DX12_eachHas_q1 6 rfl) (tgt := 37) (by decide) (fun c29 => ?_) (fun c29 => ?_)
      · replace hf := (if_pos c29).symm.trans hf
        refine jr_iconst K (D_at DX12_eachHas_q1 9 rfl) (v := (1 : Int32)) (by decide) ?_
        cases hf
        exact jr_iret K E (D_at DX12_eachHas_q1 10 rfl) rfl ⟨rfl, rfl⟩
      · replace hf := (if_neg c29).symm.trans hf
        refine jr_bipush K (D_at DX12_eachHas_q1 7 rfl) (v := (-2 : Int32)) (by decide) ?_
        refine jr_goto K (D_at DX12_eachHas_q1 8 rfl) (tgt := 38) (by decide) ?_
        cases hf
        exact jr_iret K E (D_at DX12_eachHas_q1 10 rfl) rfl ⟨rfl, rfl⟩
    · replace hf := (if_pos c9).symm.trans hf
      refine jr_aload_n K (D_at DX12_eachHas_q0 8 rfl) rfl rfl ?_
      refine jr_iload_n K (D_at DX12_eachHas_q0 9 rfl) rfl rfl ?_
      obtain ⟨v14, e14, hf⟩ := jbind hf
      obtain ⟨rc_14, e14⟩ := jcv_o e14
      refine jr_callV K (C_X12_gapOf (d) e14) (D_at DX12_eachHas_q0 10 rfl) cv_X12_253_X12_gapOf (As := [.int x1]) (ci := 10) rfl rc_14 rfl rfl (by exact Nat.le_of_ble_eq_true rfl) (kc2 := 0) (ks2 := 0) rfl rfl (fun k9 h9 w9 => by cases w9.1) (fun r9 h9 w9 => ?_)
      obtain ⟨w1, w2⟩ := w9
      subst h9
      cases w1
      show jJ G X _ 0 0 _ _ (.int v14 :: _)
      refine jr_iconst K (D_at DX12_eachHas_q0 11 rfl) (v := (1 : Int32)) (by decide) ?_
      refine jr_isub K (D_at DX12_eachHas_q1 0 rfl) ?_
      refine jr_goto K (D_at DX12_eachHas_q1 1 rfl) (tgt := 38) (by decide) ?_
      cases hf
      exact jr_iret K E (D_at DX12_eachHas_q1 10 rfl) rfl ⟨rfl, rfl⟩
  · replace hf := (if_pos c2).symm.trans hf
    refine jr_iconst K (D_at DX12_eachHas_q0 3 rfl) (v := (2 : Int32)) (by decide) ?_
    cases hf
    exact jr_iret K E (D_at DX12_eachHas_q0 4 rfl) rfl ⟨rfl, rfl⟩
theorem C_X12_eachHas {G : jG} {l : Launch} (d : Nat) {n : Nat} {a0 : Nat} {x1 : Int32} {x2 : Int32} {x3 : Int32} {h : jH} {res : Int32} (hf : F_X12_eachHas n a0 x1 x2 x3 h = some res) : jC G l mX12_eachHas (d + 3) 0 0 [.ref a0, .int x1, .int x2, .int x3] h (jPR h res) :=
  jC.of pn_X12 (jcats rfl) (Nat.le_of_ble_eq_true rfl) (fun X K E => J_X12_eachHas K n h E a0 x1 x2 x3 hf)
set_option maxHeartbeats 400000 in
set_option maxRecDepth 100000 in
theorem J_X12_rests_42_b {G : jG} {l : Launch} {d : Nat} {X : jX} {res : (Int32 × jH)} (K : jOK G l mX12_rests (d + 4) X) (n : Nat) (rc34 : Nat → Int32 → Int32 → Int32 → jH → Option (Int32 × jH)) (hr34 : ∀ (a0 : Nat) (x1 : Int32) (x2 : Int32) (x3 : Int32) (h : jH), rc34 a0 x1 x2 x3 h = some res → jJ G X h 0 0 34 [some (.ref a0), some (.int x1), some (.int x2), some (.int x3), none] []) (rc42 : Nat → Int32 → Int32 → Int32 → Int32 → jH → Option (Int32 × jH)) (hr42 : ∀ (a0 : Nat) (x1 : Int32) (x2 : Int32) (x3 : Int32) (x4 : Int32) (h : jH), rc42 a0 x1 x2 x3 x4 h = some res → jJ G X h 0 0 42 [some (.ref a0), some (.int x1), some (.int x2), some (.int x3), some (.int x4)] []) (E : jEnd G mX12_rests (jPW res) X) (a0 : Nat) (x1 : Int32) (x2 : Int32) (x3 : Int32) (x4 : Int32) (h : jH) (hf : F_X12_rests_42_b n rc34 rc42 a0 x1 x2 x3 x4 h = some res) : jJ G X h 0 0 42 [some (.ref a0), some (.int x1), some (.int x2), some (.int x3), some (.int x4)] [] := by
  unfold F_X12_rests_42_b at hf
  refine jr_iload K (D_at DX12_rests_q2 3 rfl) rfl ?_
  refine jr_iconst K (D_at DX12_rests_q2 4 rfl) (v := (2 : Int32)) (by decide) ?_
  refine jr_icmp_ge K (D_at DX12_rests_q2 5 rfl) (tgt := 111) (by decide) (fun c45 => ?_) (fun c45 => ?_)
  · replace hf := (if_pos c45).symm.trans hf
    refine jr_iinc K (D_at DX12_rests_1_q0 6 rfl) (i := 3) rfl (v := x3 + (1 : Int32)) (jinc (by decide)) (by decide) (L2 := [_, _, _, _, _]) rfl ?_
    refine jr_goto K (D_at DX12_rests_1_q0 7 rfl) (tgt := 34) (by decide) ?_
    refine jr_keep [true, true, true, true, false] ?_
    exact hr34 a0 x1 x2 (x3 + (1 : Int32)) h hf
  · replace hf := (if_neg c45).symm.trans hf
    refine jr_iload_n K (D_at DX12_rests_q2 6 rfl) rfl rfl ?_
    refine jr_aload_n K (D_at DX12_rests_q2 7 rfl) rfl rfl ?_
    refine jr_iload_n K (D_at DX12_rests_q2 8 rfl) rfl rfl ?_
    refine jr_iload_n K (D_at DX12_rests_q2 9 rfl) rfl rfl ?_
    refine jr_iload K (D_at DX12_rests_q2 10 rfl) rfl ?_
    obtain ⟨v54, e54, hf⟩ := jbind hf
    obtain ⟨rc_54, e54⟩ := jcv_o e54
    refine jr_callV K (C_X12_eachHas (d) e54) (D_at DX12_rests_q2 11 rfl) cv_X12_407_X12_eachHas (As := [.int x1, .int x3, .int x4]) (ci := 10) rfl rc_54 rfl rfl (by exact Nat.le_of_ble_eq_true rfl) (kc2 := 0) (ks2 := 0) rfl rfl (fun k9 h9 w9 => by cases w9.1) (fun r9 h9 w9 => ?_)
    obtain ⟨w1, w2⟩ := w9
    subst h9
    cases w1
    show jJ G X _ 0 0 _ _ (.int v54 :: _)
    refine jr_aload_n K (D_at DX12_rests_q3 0 rfl) rfl rfl ?_
    refine jr_iload_n K (D_at DX12_rests_q3 1 rfl) rfl rfl ?_
    refine jr_iconst K (D_at DX12_rests_q3 2 rfl) (v := (1 : Int32)) (by decide) ?_
    refine jr_iload_n K (D_at DX12_rests_q3 3 rfl) rfl rfl ?_
    refine jr_isub K (D_at DX12_rests_q3 4 rfl) ?_
    refine jr_iload K (D_at DX12_rests_q3 5 rfl) rfl ?_
    obtain ⟨v64, e64, hf⟩ := jbind hf
    obtain ⟨rc_64, e64⟩ := jcv_o e64
    refine jr_callV K (C_X12_eachHas (d) e64) (D_at DX12_rests_q3 6 rfl) cv_X12_407_X12_eachHas (As := [.int x1, .int ((1 : Int32) - x3), .int x4]) (ci := 10) rfl rc_64 rfl rfl (by exact Nat.le_of_ble_eq_true rfl) (kc2 := 0) (ks2 := 0) rfl rfl (fun k9 h9 w9 => by cases w9.1) (fun r9 h9 w9 => ?_)
    obtain ⟨w1, w2⟩ := w9
    subst h9
    cases w1
    show jJ G X _ 0 0 _ _ (.int v64 :: _)
    refine jr_icmp_lt K (D_at DX12_rests_q3 7 rfl) (tgt := 102) (by decide) (fun c67 => ?_) (fun c67 => ?_)
    · replace hf := (if_pos c67).symm.trans hf
      refine jr_iconst K (D_at DX12_rests_1_q0 1 rfl) (v := (0 : Int32)) (by decide) ?_
      refine jr_ior K (D_at DX12_rests_1_q0 2 rfl) ?_
      refine jr_istore_n K (D_at DX12_rests_1_q0 3 rfl) (i := 2) rfl (by decide) (L2 := [_, _, _, _, _]) rfl ?_
      refine jr_iinc K (D_at DX12_rests_1_q0 4 rfl) (i := 4) rfl (v := x4 + (1 : Int32)) (jinc (by decide)) (by decide) (L2 := [_, _, _, _, _]) rfl ?_
      refine jr_goto K (D_at DX12_rests_1_q0 5 rfl) (tgt := 42) (by decide) ?_
      refine jr_keep [true, true, true, true, true] ?_
      exact hr42 a0 x1 (x2 ||| (0 : Int32)) x3 (x4 + (1 : Int32)) h hf
    · replace hf := (if_neg c67).symm.trans hf
      refine jr_aload_n K (D_at DX12_rests_q3 8 rfl) rfl rfl ?_
      refine jr_iload_n K (D_at DX12_rests_q3 9 rfl) rfl rfl ?_
      refine jr_iload_n K (D_at DX12_rests_q3 10 rfl) rfl rfl ?_
      refine jr_iload K (D_at DX12_rests_q3 11 rfl) rfl ?_
      obtain ⟨v75, e75, hf⟩ := jbind hf
      obtain ⟨rc_75, e75⟩ := jcv_o e75
      refine jr_callV K (C_X12_eachHas (d) e75) (D_at DX12_rests_q4 0 rfl) cv_X12_407_X12_eachHas (As := [.int x1, .int x3, .int x4]) (ci := 10) rfl rc_75 rfl rfl (by exact Nat.le_of_ble_eq_true rfl) (kc2 := 0) (ks2 := 0) rfl rfl (fun k9 h9 w9 => by cases w9.1) (fun r9 h9 w9 => ?_)
      obtain ⟨w1, w2⟩ := w9
      subst h9
      cases w1
      show jJ G X _ 0 0 _ _ (.int v75 :: _)
      refine jr_aload_n K (D_at DX12_rests_q4 1 rfl) rfl rfl ?_
      refine jr_iload_n K (D_at DX12_rests_q4 2 rfl) rfl rfl ?_
      refine jr_iload_n K (D_at DX12_rests_q4 3 rfl) rfl rfl ?_
      refine jr_iconst K (D_at DX12_rests_q4 4 rfl) (v := (1 : Int32)) (by decide) ?_
      refine jr_iload K (D_at DX12_rests_q4 5 rfl) rfl ?_
      refine jr_isub K (D_at DX12_rests_q4 6 rfl) ?_
      obtain ⟨v85, e85, hf⟩ := jbind hf
      obtain ⟨rc_85, e85⟩ := jcv_o e85
      refine jr_callV K (C_X12_eachHas (d) e85) (D_at DX12_rests_q4 7 rfl) cv_X12_407_X12_eachHas (As := [.int x1, .int x3, .int ((1 : Int32) - x4)]) (ci := 10) rfl rc_85 rfl rfl (by exact Nat.le_of_ble_eq_true rfl) (kc2 := 0) (ks2 := 0) rfl rfl (fun k9 h9 w9 => by cases w9.1) (fun r9 h9 w9 => ?_)
      obtain ⟨w1, w2⟩ := w9
      subst h9
      cases w1
      show jJ G X _ 0 0 _ _ (.int v85 :: _)
      refine jr_icmp_lt K (D_at DX12_rests_q4 8 rfl) (tgt := 102) (by decide) (fun c88 => ?_) (fun c88 => ?_)
      · replace hf := (if_pos c88).symm.trans hf
        refine jr_iconst K (D_at DX12_rests_1_q0 1 rfl) (v := (0 : Int32)) (by decide) ?_
        refine jr_ior K (D_at DX12_rests_1_q0 2 rfl) ?_
        refine jr_istore_n K (D_at DX12_rests_1_q0 3 rfl) (i := 2) rfl (by decide) (L2 := [_, _, _, _, _]) rfl ?_
        refine jr_iinc K (D_at DX12_rests_1_q0 4 rfl) (i := 4) rfl (v := x4 + (1 : Int32)) (jinc (by decide)) (by decide) (L2 := [_, _, _, _, _]) rfl ?_
        refine jr_goto K (D_at DX12_rests_1_q0 5 rfl) (tgt := 42) (by decide) ?_
        refine jr_keep [true, true, true, true, true] ?_
        exact hr42 a0 x1 (x2 ||| (0 : Int32)) x3 (x4 + (1 : Int32)) h hf
      · replace hf := (if_neg c88).symm.trans hf
        refine jr_iconst K (D_at DX12_rests_q4 9 rfl) (v := (1 : Int32)) (by decide) ?_
        refine jr_iconst K (D_at DX12_rests_q4 10 rfl) (v := (2 : Int32)) (by decide) ?_
        refine jr_iload_n K (D_at DX12_rests_q4 11 rfl) rfl rfl ?_
        refine jr_imul K (D_at DX12_rests_q5 0 rfl) ?_
        refine jr_iload K (D_at DX12_rests_q5 1 rfl) rfl ?_
        refine jr_iadd K (D_at DX12_rests_q5 2 rfl) ?_
        refine jr_ishl K (D_at DX12_rests_q5 3 rfl) ?_
        refine jr_goto K (D_at DX12_rests_1_q0 0 rfl) (tgt := 103) (by decide) ?_
        refine jr_ior K (D_at DX12_rests_1_q0 2 rfl) ?_
        refine jr_istore_n K (D_at DX12_rests_1_q0 3 rfl) (i := 2) rfl (by decide) (L2 := [_, _, _, _, _]) rfl ?_
        refine jr_iinc K (D_at DX12_rests_1_q0 4 rfl) (i := 4) rfl (v := x4 + (1 : Int32)) (jinc (by decide)) (by decide) (L2 := [_, _, _, _, _]) rfl ?_
        refine jr_goto K (D_at DX12_rests_1_q0 5 rfl) (tgt := 42) (by decide) ?_
        refine jr_keep [true, true, true, true, true] ?_
        exact hr42 a0 x1 (x2 ||| ((1 : Int32) <<< ((((2 : Int32) * x3) + x4) &&& 31))) x3 (x4 + (1 : Int32)) h hf
theorem J_X12_rests_42 {G : jG} {l : Launch} {d : Nat} {X : jX} {res : (Int32 × jH)} (K : jOK G l mX12_rests (d + 4) X) (n : Nat) (rc34 : Nat → Int32 → Int32 → Int32 → jH → Option (Int32 × jH)) (hr34 : ∀ (a0 : Nat) (x1 : Int32) (x2 : Int32) (x3 : Int32) (h : jH), rc34 a0 x1 x2 x3 h = some res → jJ G X h 0 0 34 [some (.ref a0), some (.int x1), some (.int x2), some (.int x3), none] []) (E : jEnd G mX12_rests (jPW res) X) (k : Nat) : ∀ (a0 : Nat) (x1 : Int32) (x2 : Int32) (x3 : Int32) (x4 : Int32) (h : jH), F_X12_rests_42 n rc34 k a0 x1 x2 x3 x4 h = some res → jJ G X h 0 0 42 [some (.ref a0), some (.int x1), some (.int x2), some (.int x3), some (.int x4)] [] := by
  induction k with
  | zero =>
    intro a0 x1 x2 x3 x4 h hf
    exact jno (show (none : Option (Int32 × jH)) = some res from hf)
  | succ k ih =>
    intro a0 x1 x2 x3 x4 h hf
    exact J_X12_rests_42_b K n rc34 hr34 (F_X12_rests_42 n rc34 k) ih E a0 x1 x2 x3 x4 h hf
set_option maxHeartbeats 400000 in
set_option maxRecDepth 100000 in
theorem J_X12_rests_34_b {G : jG} {l : Launch} {d : Nat} {X : jX} {res : (Int32 × jH)} (K : jOK G l mX12_rests (d + 4) X) (n : Nat) (rc34 : Nat → Int32 → Int32 → Int32 → jH → Option (Int32 × jH)) (hr34 : ∀ (a0 : Nat) (x1 : Int32) (x2 : Int32) (x3 : Int32) (h : jH), rc34 a0 x1 x2 x3 h = some res → jJ G X h 0 0 34 [some (.ref a0), some (.int x1), some (.int x2), some (.int x3), none] []) (E : jEnd G mX12_rests (jPW res) X) (a0 : Nat) (x1 : Int32) (x2 : Int32) (x3 : Int32) (h : jH) (hf : F_X12_rests_34_b n rc34 a0 x1 x2 x3 h = some res) : jJ G X h 0 0 34 [some (.ref a0), some (.int x1), some (.int x2), some (.int x3), none] [] := by
  unfold F_X12_rests_34_b at hf
  refine jr_iload_n K (D_at DX12_rests_q1 10 rfl) rfl rfl ?_
  refine jr_iconst K (D_at DX12_rests_q1 11 rfl) (v := (2 : Int32)) (by decide) ?_
  refine jr_icmp_ge K (D_at DX12_rests_q2 0 rfl) (tgt := 117) (by decide) (fun c36 => ?_) (fun c36 => ?_)
  · replace hf := (if_pos c36).symm.trans hf
    refine jr_iload_n K (D_at DX12_rests_1_q0 8 rfl) rfl rfl ?_
    cases hf
    exact jr_iret K E (D_at DX12_rests_1_q0 9 rfl) rfl ⟨rfl, rfl⟩
  · replace hf := (if_neg c36).symm.trans hf
    refine jr_iconst K (D_at DX12_rests_q2 1 rfl) (v := (0 : Int32)) (by decide) ?_
    refine jr_istore K (D_at DX12_rests_q2 2 rfl) (i := 4) (by decide) (L2 := [_, _, _, _, _]) rfl ?_
    refine jr_keep [true, true, true, true, true] ?_
    exact J_X12_rests_42 K n rc34 hr34 E n a0 x1 x2 x3 (0 : Int32) h hf
theorem J_X12_rests_34 {G : jG} {l : Launch} {d : Nat} {X : jX} {res : (Int32 × jH)} (K : jOK G l mX12_rests (d + 4) X) (n : Nat) (E : jEnd G mX12_rests (jPW res) X) (k : Nat) : ∀ (a0 : Nat) (x1 : Int32) (x2 : Int32) (x3 : Int32) (h : jH), F_X12_rests_34 n k a0 x1 x2 x3 h = some res → jJ G X h 0 0 34 [some (.ref a0), some (.int x1), some (.int x2), some (.int x3), none] [] := by
  induction k with
  | zero =>
    intro a0 x1 x2 x3 h hf
    exact jno (show (none : Option (Int32 × jH)) = some res from hf)
  | succ k ih =>
    intro a0 x1 x2 x3 h hf
    exact J_X12_rests_34_b K n (F_X12_rests_34 n k) ih E a0 x1 x2 x3 h hf
set_option maxHeartbeats 400000 in
set_option maxRecDepth 100000 in
theorem J_X12_rests {G : jG} {l : Launch} {d : Nat} {X : jX} {res : (Int32 × jH)} (K : jOK G l mX12_rests (d + 4) X) (n : Nat) (E : jEnd G mX12_rests (jPW res) X) (a0 : Nat) (x1 : Int32) (h : jH) (hf : F_X12_rests n a0 x1 h = some res) : jJ G X h 0 0 0 [some (.ref a0), some (.int x1), none, none, none] [] := by
  unfold F_X12_rests at hf
  refine jr_aload_n K (D_at DX12_rests_q0 0 rfl) rfl rfl ?_
  refine jr_iconst K (D_at DX12_rests_q0 1 rfl) (v := (0 : Int32)) (by decide) ?_
  obtain ⟨h2, e2, hf⟩ := jbind hf
  refine jr_putI K (D_at DX12_rests_q0 2 rfl) fp_X12_3_10 (Or.inl rfl) e2 ?_
  refine jr_aload_n K (D_at DX12_rests_q0 3 rfl) rfl rfl ?_
  refine jr_aload_n K (D_at DX12_rests_q0 4 rfl) rfl rfl ?_
  refine jr_iload_n K (D_at DX12_rests_q0 5 rfl) rfl rfl ?_
  obtain ⟨v8, e8, hf⟩ := jbind hf
  obtain ⟨rc_8, e8⟩ := jcv_o e8
  refine jr_callV K (C_X12_noRing (d + 1) e8) (D_at DX12_rests_q0 6 rfl) cv_X12_277_X12_noRing (As := [.int x1]) (ci := 10) rfl rc_8 rfl rfl (by exact Nat.le_of_ble_eq_true rfl) (kc2 := 0) (ks2 := 0) rfl rfl (fun k9 h9 w9 => by cases w9.1) (fun r9 h9 w9 => ?_)
  obtain ⟨w1, w2⟩ := w9
  subst h9
  cases w1
  show jJ G X _ 0 0 _ _ (.int v8 :: _)
  refine jr_iconst K (D_at DX12_rests_q0 7 rfl) (v := (1 : Int32)) (by decide) ?_
  obtain ⟨q12, e12, hf⟩ := jbind hf
  obtain ⟨rc_12, e12⟩ := jcv_o e12
  refine jr_callV K (C_X12_throwsIf (d + 3) e12) (D_at DX12_rests_q0 8 rfl) cv_X12_250_X12_throwsIf (As := [.int v8, .int (1 : Int32)]) (ci := 10) rfl rc_12 rfl rfl (by exact Nat.le_of_ble_eq_true rfl) (kc2 := 0) (ks2 := 0) rfl rfl (fun k9 h9 w9 => by cases w9.1) (fun r9 h9 w9 => ?_)
  obtain ⟨w1, w2⟩ := w9
  subst h9
  cases w1
  show jJ G X _ 0 0 _ _ (.int q12.1 :: _)
  refine jr_if_eq K (D_at DX12_rests_q0 9 rfl) (tgt := 20) (by decide) (fun c15 => ?_) (fun c15 => ?_)
  · replace hf := (if_pos c15).symm.trans hf
    refine jr_iload_n K (D_at DX12_rests_q1 0 rfl) rfl rfl ?_
    refine jr_aload_n K (D_at DX12_rests_q1 1 rfl) rfl rfl ?_
    obtain ⟨v22, e22, hf⟩ := jbind hf
    obtain ⟨rc_22, e22⟩ := jcv_o e22
    refine jr_callV K (C_X12_lastRing (d + 2) e22) (D_at DX12_rests_q1 2 rfl) cv_X12_70_X12_lastRing (As := []) (ci := 10) rfl rc_22 rfl rfl (by exact Nat.le_of_ble_eq_true rfl) (kc2 := 0) (ks2 := 0) rfl rfl (fun k9 h9 w9 => by cases w9.1) (fun r9 h9 w9 => ?_)
    obtain ⟨w1, w2⟩ := w9
    subst h9
    cases w1
    show jJ G X _ 0 0 _ _ (.int v22 :: _)
    refine jr_icmp_ne K (D_at DX12_rests_q1 3 rfl) (tgt := 30) (by decide) (fun c25 => ?_) (fun c25 => ?_)
    · replace hf := (if_neg c25).symm.trans hf
      refine jr_iconst K (D_at DX12_rests_q1 6 rfl) (v := (0 : Int32)) (by decide) ?_
      refine jr_istore_n K (D_at DX12_rests_q1 7 rfl) (i := 2) rfl (by decide) (L2 := [_, _, _, _, _]) rfl ?_
      refine jr_iconst K (D_at DX12_rests_q1 8 rfl) (v := (0 : Int32)) (by decide) ?_
      refine jr_istore_n K (D_at DX12_rests_q1 9 rfl) (i := 3) rfl (by decide) (L2 := [_, _, _, _, _]) rfl ?_
      refine jr_keep [true, true, true, true, false] ?_
      exact J_X12_rests_34 K n E n a0 x1 (0 : Int32) (0 : Int32) q12.2 hf
    · replace hf := (if_pos c25).symm.trans hf
      refine jr_iconst K (D_at DX12_rests_q1 4 rfl) (v := (-1 : Int32)) (by decide) ?_
      cases hf
      exact jr_iret K E (D_at DX12_rests_q1 5 rfl) rfl ⟨rfl, rfl⟩
  · replace hf := (if_neg c15).symm.trans hf
    refine jr_iconst K (D_at DX12_rests_q0 10 rfl) (v := (0 : Int32)) (by decide) ?_
    cases hf
    exact jr_iret K E (D_at DX12_rests_q0 11 rfl) rfl ⟨rfl, rfl⟩
theorem C_X12_rests {G : jG} {l : Launch} (d : Nat) {n : Nat} {a0 : Nat} {x1 : Int32} {h : jH} {res : (Int32 × jH)} (hf : F_X12_rests n a0 x1 h = some res) : jC G l mX12_rests (d + 4) 0 0 [.ref a0, .int x1] h (jPW res) :=
  jC.of pn_X12 (jcats rfl) (Nat.le_of_ble_eq_true rfl) (fun X K E => J_X12_rests K n E a0 x1 h hf)
set_option maxHeartbeats 400000 in
set_option maxRecDepth 100000 in
theorem J_X12_wooden {G : jG} {l : Launch} {d : Nat} {X : jX} {res : (Int32 × jH)} (K : jOK G l mX12_wooden (d + 4) X) (n : Nat) (E : jEnd G mX12_wooden (jPW res) X) (a0 : Nat) (h : jH) (hf : F_X12_wooden n a0 h = some res) : jJ G X h 0 0 0 [some (.ref a0)] [] := by
  unfold F_X12_wooden at hf
  refine jr_aload_n K (D_at DX12_wooden_q0 0 rfl) rfl rfl ?_
  refine jr_iconst K (D_at DX12_wooden_q0 1 rfl) (v := (0 : Int32)) (by decide) ?_
  obtain ⟨h2, e2, hf⟩ := jbind hf
  refine jr_putI K (D_at DX12_wooden_q0 2 rfl) fp_X12_3_10 (Or.inl rfl) e2 ?_
  refine jr_aload_n K (D_at DX12_wooden_q0 3 rfl) rfl rfl ?_
  refine jr_iconst K (D_at DX12_wooden_q0 4 rfl) (v := (3 : Int32)) (by decide) ?_
  obtain ⟨v7, e7, hf⟩ := jbind hf
  obtain ⟨rc_7, e7⟩ := jcv_o e7
  refine jr_callV K (C_X12_ringsThat (d) e7) (D_at DX12_wooden_q0 5 rfl) cv_X12_401_X12_ringsThat (As := [.int (3 : Int32)]) (ci := 10) rfl rc_7 rfl rfl (by exact Nat.le_of_ble_eq_true rfl) (kc2 := 0) (ks2 := 0) rfl rfl (fun k9 h9 w9 => by cases w9.1) (fun r9 h9 w9 => ?_)
  obtain ⟨w1, w2⟩ := w9
  subst h9
  cases w1
  show jJ G X _ 0 0 _ _ (.int v7 :: _)
  cases hf
  exact jr_iret K E (D_at DX12_wooden_q0 6 rfl) rfl ⟨rfl, rfl⟩
theorem C_X12_wooden {G : jG} {l : Launch} (d : Nat) {n : Nat} {a0 : Nat} {h : jH} {res : (Int32 × jH)} (hf : F_X12_wooden n a0 h = some res) : jC G l mX12_wooden (d + 4) 0 0 [.ref a0] h (jPW res) :=
  jC.of pn_X12 (jcats rfl) (Nat.le_of_ble_eq_true rfl) (fun X K E => J_X12_wooden K n E a0 h hf)
set_option maxHeartbeats 400000 in
set_option maxRecDepth 100000 in
theorem J_X12_caught {G : jG} {l : Launch} {d : Nat} {X : jX} {res : (Int32 × jH)} (K : jOK G l mX12_caught (d + 4) X) (n : Nat) (E : jEnd G mX12_caught (jPW res) X) (a0 : Nat) (h : jH) (hf : F_X12_caught n a0 h = some res) : jJ G X h 0 0 0 [some (.ref a0)] [] := by
  unfold F_X12_caught at hf
  refine jr_aload_n K (D_at DX12_caught_q0 0 rfl) rfl rfl ?_
  refine jr_iconst K (D_at DX12_caught_q0 1 rfl) (v := (0 : Int32)) (by decide) ?_
  obtain ⟨h2, e2, hf⟩ := jbind hf
  refine jr_putI K (D_at DX12_caught_q0 2 rfl) fp_X12_3_10 (Or.inl rfl) e2 ?_
  refine jr_aload_n K (D_at DX12_caught_q0 3 rfl) rfl rfl ?_
  refine jr_bipush K (D_at DX12_caught_q0 4 rfl) (v := (7 : Int32)) (by decide) ?_
  obtain ⟨v8, e8, hf⟩ := jbind hf
  obtain ⟨rc_8, e8⟩ := jcv_o e8
  refine jr_callV K (C_X12_ringsThat (d) e8) (D_at DX12_caught_q0 5 rfl) cv_X12_401_X12_ringsThat (As := [.int (7 : Int32)]) (ci := 10) rfl rc_8 rfl rfl (by exact Nat.le_of_ble_eq_true rfl) (kc2 := 0) (ks2 := 0) rfl rfl (fun k9 h9 w9 => by cases w9.1) (fun r9 h9 w9 => ?_)
  obtain ⟨w1, w2⟩ := w9
  subst h9
  cases w1
  show jJ G X _ 0 0 _ _ (.int v8 :: _)
  cases hf
  exact jr_iret K E (D_at DX12_caught_q0 6 rfl) rfl ⟨rfl, rfl⟩
theorem C_X12_caught {G : jG} {l : Launch} (d : Nat) {n : Nat} {a0 : Nat} {h : jH} {res : (Int32 × jH)} (hf : F_X12_caught n a0 h = some res) : jC G l mX12_caught (d + 4) 0 0 [.ref a0] h (jPW res) :=
  jC.of pn_X12 (jcats rfl) (Nat.le_of_ble_eq_true rfl) (fun X K E => J_X12_caught K n E a0 h hf)
set_option maxHeartbeats 400000 in
set_option maxRecDepth 100000 in
theorem J_X12_looseOnes {G : jG} {l : Launch} {d : Nat} {X : jX} {res : Int32} (K : jOK G l mX12_looseOnes (d + 4) X) (n : Nat) (h : jH) (E : jEnd G mX12_looseOnes (jPR h res) X) (a0 : Nat) (hf : F_X12_looseOnes n a0 h = some res) : jJ G X h 0 0 0 [some (.ref a0)] [] := by
  unfold F_X12_looseOnes at hf
  refine jr_iconst K (D_at DX12_looseOnes_q0 0 rfl) (v := (1 : Int32)) (by decide) ?_
  refine jr_aload_n K (D_at DX12_looseOnes_q0 1 rfl) rfl rfl ?_
  obtain ⟨v2, e2, hf⟩ := jbind hf
  obtain ⟨rc_2, e2⟩ := jcv_o e2
  refine jr_callV K (C_X12_rings (d + 3) e2) (D_at DX12_looseOnes_q0 2 rfl) cv_X12_59_X12_rings (As := []) (ci := 10) rfl rc_2 rfl rfl (by exact Nat.le_of_ble_eq_true rfl) (kc2 := 0) (ks2 := 0) rfl rfl (fun k9 h9 w9 => by cases w9.1) (fun r9 h9 w9 => ?_)
  obtain ⟨w1, w2⟩ := w9
  subst h9
  cases w1
  show jJ G X _ 0 0 _ _ (.int v2 :: _)
  refine jr_ishl K (D_at DX12_looseOnes_q0 3 rfl) ?_
  refine jr_iconst K (D_at DX12_looseOnes_q0 4 rfl) (v := (1 : Int32)) (by decide) ?_
  refine jr_isub K (D_at DX12_looseOnes_q0 5 rfl) ?_
  refine jr_aload_n K (D_at DX12_looseOnes_q0 6 rfl) rfl rfl ?_
  refine jr_bipush K (D_at DX12_looseOnes_q0 7 rfl) (v := (6 : Int32)) (by decide) ?_
  obtain ⟨v11, e11, hf⟩ := jbind hf
  obtain ⟨rc_11, e11⟩ := jcv_o e11
  refine jr_callV K (C_X12_ringsThat (d) e11) (D_at DX12_looseOnes_q0 8 rfl) cv_X12_401_X12_ringsThat (As := [.int (6 : Int32)]) (ci := 10) rfl rc_11 rfl rfl (by exact Nat.le_of_ble_eq_true rfl) (kc2 := 0) (ks2 := 0) rfl rfl (fun k9 h9 w9 => by cases w9.1) (fun r9 h9 w9 => ?_)
  obtain ⟨w1, w2⟩ := w9
  subst h9
  cases w1
  show jJ G X _ 0 0 _ _ (.int v11 :: _)
  refine jr_iconst K (D_at DX12_looseOnes_q0 9 rfl) (v := (-1 : Int32)) (by decide) ?_
  refine jr_ixor K (D_at DX12_looseOnes_q0 10 rfl) ?_
  refine jr_iand K (D_at DX12_looseOnes_q0 11 rfl) ?_
  cases hf
  exact jr_iret K E (D_at DX12_looseOnes_q1 0 rfl) rfl ⟨rfl, rfl⟩
theorem C_X12_looseOnes {G : jG} {l : Launch} (d : Nat) {n : Nat} {a0 : Nat} {h : jH} {res : Int32} (hf : F_X12_looseOnes n a0 h = some res) : jC G l mX12_looseOnes (d + 4) 0 0 [.ref a0] h (jPR h res) :=
  jC.of pn_X12 (jcats rfl) (Nat.le_of_ble_eq_true rfl) (fun X K E => J_X12_looseOnes K n h E a0 hf)
set_option maxHeartbeats 400000 in
set_option maxRecDepth 100000 in
theorem J_X12_loose {G : jG} {l : Launch} {d : Nat} {X : jX} {res : (Int32 × jH)} (K : jOK G l mX12_loose (d + 5) X) (n : Nat) (E : jEnd G mX12_loose (jPW res) X) (a0 : Nat) (h : jH) (hf : F_X12_loose n a0 h = some res) : jJ G X h 0 0 0 [some (.ref a0)] [] := by
  unfold F_X12_loose at hf
  refine jr_aload_n K (D_at DX12_loose_q0 0 rfl) rfl rfl ?_
  refine jr_iconst K (D_at DX12_loose_q0 1 rfl) (v := (0 : Int32)) (by decide) ?_
  obtain ⟨h2, e2, hf⟩ := jbind hf
  refine jr_putI K (D_at DX12_loose_q0 2 rfl) fp_X12_3_10 (Or.inl rfl) e2 ?_
  refine jr_aload_n K (D_at DX12_loose_q0 3 rfl) rfl rfl ?_
  obtain ⟨v6, e6, hf⟩ := jbind hf
  obtain ⟨rc_6, e6⟩ := jcv_o e6
  refine jr_callV K (C_X12_looseOnes (d) e6) (D_at DX12_loose_q0 4 rfl) cv_X12_410_X12_looseOnes (As := []) (ci := 10) rfl rc_6 rfl rfl (by exact Nat.le_of_ble_eq_true rfl) (kc2 := 0) (ks2 := 0) rfl rfl (fun k9 h9 w9 => by cases w9.1) (fun r9 h9 w9 => ?_)
  obtain ⟨w1, w2⟩ := w9
  subst h9
  cases w1
  show jJ G X _ 0 0 _ _ (.int v6 :: _)
  cases hf
  exact jr_iret K E (D_at DX12_loose_q0 5 rfl) rfl ⟨rfl, rfl⟩
theorem C_X12_loose {G : jG} {l : Launch} (d : Nat) {n : Nat} {a0 : Nat} {h : jH} {res : (Int32 × jH)} (hf : F_X12_loose n a0 h = some res) : jC G l mX12_loose (d + 5) 0 0 [.ref a0] h (jPW res) :=
  jC.of pn_X12 (jcats rfl) (Nat.le_of_ble_eq_true rfl) (fun X K E => J_X12_loose K n E a0 h hf)
set_option maxHeartbeats 400000 in
set_option maxRecDepth 100000 in
theorem J_X12_beyond_9_b {G : jG} {l : Launch} {d : Nat} {X : jX} {res : (Int32 × jH)} (K : jOK G l mX12_beyond (d + 3) X) (n : Nat) (rc9 : Nat → Int32 → Int32 → jH → Option (Int32 × jH)) (hr9 : ∀ (a0 : Nat) (x1 : Int32) (x2 : Int32) (h : jH), rc9 a0 x1 x2 h = some res → jJ G X h 0 0 9 [some (.ref a0), some (.int x1), some (.int x2)] []) (E : jEnd G mX12_beyond (jPW res) X) (a0 : Nat) (x1 : Int32) (x2 : Int32) (h : jH) (hf : F_X12_beyond_9_b n rc9 a0 x1 x2 h = some res) : jJ G X h 0 0 9 [some (.ref a0), some (.int x1), some (.int x2)] [] := by
  unfold F_X12_beyond_9_b at hf
  refine jr_iload_n K (D_at DX12_beyond_q0 7 rfl) rfl rfl ?_
  refine jr_aload_n K (D_at DX12_beyond_q0 8 rfl) rfl rfl ?_
  obtain ⟨v11, e11, hf⟩ := jbind hf
  obtain ⟨rc_11, e11⟩ := jcv_o e11
  refine jr_callV K (C_X12_rings (d + 2) e11) (D_at DX12_beyond_q0 9 rfl) cv_X12_59_X12_rings (As := []) (ci := 10) rfl rc_11 rfl rfl (by exact Nat.le_of_ble_eq_true rfl) (kc2 := 0) (ks2 := 0) rfl rfl (fun k9 h9 w9 => by cases w9.1) (fun r9 h9 w9 => ?_)
  obtain ⟨w1, w2⟩ := w9
  subst h9
  cases w1
  show jJ G X _ 0 0 _ _ (.int v11 :: _)
  refine jr_icmp_ge K (D_at DX12_beyond_q0 10 rfl) (tgt := 57) (by decide) (fun c14 => ?_) (fun c14 => ?_)
  · replace hf := (if_pos c14).symm.trans hf
    refine jr_iload_n K (D_at DX12_beyond_q2 11 rfl) rfl rfl ?_
    cases hf
    exact jr_iret K E (D_at DX12_beyond_q3 0 rfl) rfl ⟨rfl, rfl⟩
  · replace hf := (if_neg c14).symm.trans hf
    refine jr_iload_n K (D_at DX12_beyond_q0 11 rfl) rfl rfl ?_
    refine jr_aload_n K (D_at DX12_beyond_q1 0 rfl) rfl rfl ?_
    refine jr_iload_n K (D_at DX12_beyond_q1 1 rfl) rfl rfl ?_
    refine jr_iconst K (D_at DX12_beyond_q1 2 rfl) (v := (2 : Int32)) (by decide) ?_
    obtain ⟨v21, e21, hf⟩ := jbind hf
    obtain ⟨rc_21, e21⟩ := jcv_o e21
    refine jr_callV K (C_X12_is (d) e21) (D_at DX12_beyond_q1 3 rfl) cv_X12_73_X12_is (As := [.int x2, .int (2 : Int32)]) (ci := 10) rfl rc_21 rfl rfl (by exact Nat.le_of_ble_eq_true rfl) (kc2 := 0) (ks2 := 0) rfl rfl (fun k9 h9 w9 => by cases w9.1) (fun r9 h9 w9 => ?_)
    obtain ⟨w1, w2⟩ := w9
    subst h9
    cases w1
    show jJ G X _ 0 0 _ _ (.int v21 :: _)
    refine jr_if_eq K (D_at DX12_beyond_q1 4 rfl) (tgt := 48) (by decide) (fun c24 => ?_) (fun c24 => ?_)
    · replace hf := (if_pos c24).symm.trans hf
      refine jr_iconst K (D_at DX12_beyond_q2 6 rfl) (v := (0 : Int32)) (by decide) ?_
      refine jr_ior K (D_at DX12_beyond_q2 7 rfl) ?_
      refine jr_istore_n K (D_at DX12_beyond_q2 8 rfl) (i := 1) rfl (by decide) (L2 := [_, _, _]) rfl ?_
      refine jr_iinc K (D_at DX12_beyond_q2 9 rfl) (i := 2) rfl (v := x2 + (1 : Int32)) (jinc (by decide)) (by decide) (L2 := [_, _, _]) rfl ?_
      refine jr_goto K (D_at DX12_beyond_q2 10 rfl) (tgt := 9) (by decide) ?_
      refine jr_keep [true, true, true] ?_
      exact hr9 a0 (x1 ||| (0 : Int32)) (x2 + (1 : Int32)) h hf
    · replace hf := (if_neg c24).symm.trans hf
      refine jr_aload_n K (D_at DX12_beyond_q1 5 rfl) rfl rfl ?_
      refine jr_iload_n K (D_at DX12_beyond_q1 6 rfl) rfl rfl ?_
      refine jr_iconst K (D_at DX12_beyond_q1 7 rfl) (v := (0 : Int32)) (by decide) ?_
      obtain ⟨v30, e30, hf⟩ := jbind hf
      obtain ⟨rc_30, e30⟩ := jcv_o e30
      refine jr_callV K (C_X12_of (d + 1) e30) (D_at DX12_beyond_q1 8 rfl) cv_X12_67_X12_of (As := [.int x2, .int (0 : Int32)]) (ci := 10) rfl rc_30 rfl rfl (by exact Nat.le_of_ble_eq_true rfl) (kc2 := 0) (ks2 := 0) rfl rfl (fun k9 h9 w9 => by cases w9.1) (fun r9 h9 w9 => ?_)
      obtain ⟨w1, w2⟩ := w9
      subst h9
      cases w1
      show jJ G X _ 0 0 _ _ (.int v30 :: _)
      refine jr_aload_n K (D_at DX12_beyond_q1 9 rfl) rfl rfl ?_
      obtain ⟨p34, e34, hf⟩ := jbind hf
      refine jr_getR K (D_at DX12_beyond_q1 10 rfl) fg_X12_13_10 e34 ?_
      refine jr_iconst K (D_at DX12_beyond_q1 11 rfl) (v := (5 : Int32)) (by decide) ?_
      obtain ⟨v38, e38, hf⟩ := jbind hf
      refine jr_iald K (D_at DX12_beyond_q2 0 rfl) e38 ?_
      refine jr_icmp_lt K (D_at DX12_beyond_q2 1 rfl) (tgt := 48) (by decide) (fun c39 => ?_) (fun c39 => ?_)
      · replace hf := (if_pos c39).symm.trans hf
        refine jr_iconst K (D_at DX12_beyond_q2 6 rfl) (v := (0 : Int32)) (by decide) ?_
        refine jr_ior K (D_at DX12_beyond_q2 7 rfl) ?_
        refine jr_istore_n K (D_at DX12_beyond_q2 8 rfl) (i := 1) rfl (by decide) (L2 := [_, _, _]) rfl ?_
        refine jr_iinc K (D_at DX12_beyond_q2 9 rfl) (i := 2) rfl (v := x2 + (1 : Int32)) (jinc (by decide)) (by decide) (L2 := [_, _, _]) rfl ?_
        refine jr_goto K (D_at DX12_beyond_q2 10 rfl) (tgt := 9) (by decide) ?_
        refine jr_keep [true, true, true] ?_
        exact hr9 a0 (x1 ||| (0 : Int32)) (x2 + (1 : Int32)) h hf
      · replace hf := (if_neg c39).symm.trans hf
        refine jr_iconst K (D_at DX12_beyond_q2 2 rfl) (v := (1 : Int32)) (by decide) ?_
        refine jr_iload_n K (D_at DX12_beyond_q2 3 rfl) rfl rfl ?_
        refine jr_ishl K (D_at DX12_beyond_q2 4 rfl) ?_
        refine jr_goto K (D_at DX12_beyond_q2 5 rfl) (tgt := 49) (by decide) ?_
        refine jr_ior K (D_at DX12_beyond_q2 7 rfl) ?_
        refine jr_istore_n K (D_at DX12_beyond_q2 8 rfl) (i := 1) rfl (by decide) (L2 := [_, _, _]) rfl ?_
        refine jr_iinc K (D_at DX12_beyond_q2 9 rfl) (i := 2) rfl (v := x2 + (1 : Int32)) (jinc (by decide)) (by decide) (L2 := [_, _, _]) rfl ?_
        refine jr_goto K (D_at DX12_beyond_q2 10 rfl) (tgt := 9) (by decide) ?_
        refine jr_keep [true, true, true] ?_
        exact hr9 a0 (x1 ||| ((1 : Int32) <<< (x2 &&& 31))) (x2 + (1 : Int32)) h hf
theorem J_X12_beyond_9 {G : jG} {l : Launch} {d : Nat} {X : jX} {res : (Int32 × jH)} (K : jOK G l mX12_beyond (d + 3) X) (n : Nat) (E : jEnd G mX12_beyond (jPW res) X) (k : Nat) : ∀ (a0 : Nat) (x1 : Int32) (x2 : Int32) (h : jH), F_X12_beyond_9 n k a0 x1 x2 h = some res → jJ G X h 0 0 9 [some (.ref a0), some (.int x1), some (.int x2)] [] := by
  induction k with
  | zero =>
    intro a0 x1 x2 h hf
    exact jno (show (none : Option (Int32 × jH)) = some res from hf)
  | succ k ih =>
    intro a0 x1 x2 h hf
    exact J_X12_beyond_9_b K n (F_X12_beyond_9 n k) ih E a0 x1 x2 h hf
set_option maxHeartbeats 400000 in
set_option maxRecDepth 100000 in
theorem J_X12_beyond {G : jG} {l : Launch} {d : Nat} {X : jX} {res : (Int32 × jH)} (K : jOK G l mX12_beyond (d + 3) X) (n : Nat) (E : jEnd G mX12_beyond (jPW res) X) (a0 : Nat) (h : jH) (hf : F_X12_beyond n a0 h = some res) : jJ G X h 0 0 0 [some (.ref a0), none, none] [] := by
  unfold F_X12_beyond at hf
  refine jr_aload_n K (D_at DX12_beyond_q0 0 rfl) rfl rfl ?_
  refine jr_iconst K (D_at DX12_beyond_q0 1 rfl) (v := (0 : Int32)) (by decide) ?_
  obtain ⟨h2, e2, hf⟩ := jbind hf
  refine jr_putI K (D_at DX12_beyond_q0 2 rfl) fp_X12_3_10 (Or.inl rfl) e2 ?_
  refine jr_iconst K (D_at DX12_beyond_q0 3 rfl) (v := (0 : Int32)) (by decide) ?_
  refine jr_istore_n K (D_at DX12_beyond_q0 4 rfl) (i := 1) rfl (by decide) (L2 := [_, _, _]) rfl ?_
  refine jr_iconst K (D_at DX12_beyond_q0 5 rfl) (v := (0 : Int32)) (by decide) ?_
  refine jr_istore_n K (D_at DX12_beyond_q0 6 rfl) (i := 2) rfl (by decide) (L2 := [_, _, _]) rfl ?_
  refine jr_keep [true, true, true] ?_
  exact J_X12_beyond_9 K n E n a0 (0 : Int32) (0 : Int32) h2 hf
theorem C_X12_beyond {G : jG} {l : Launch} (d : Nat) {n : Nat} {a0 : Nat} {h : jH} {res : (Int32 × jH)} (hf : F_X12_beyond n a0 h = some res) : jC G l mX12_beyond (d + 3) 0 0 [.ref a0] h (jPW res) :=
  jC.of pn_X12 (jcats rfl) (Nat.le_of_ble_eq_true rfl) (fun X K E => J_X12_beyond K n E a0 h hf)
set_option maxHeartbeats 400000 in
set_option maxRecDepth 100000 in
theorem J_X12_odds_65_b {G : jG} {l : Launch} {d : Nat} {X : jX} {res : (Int32 × jH)} (K : jOK G l mX12_odds (d + 7) X) (n : Nat) (rc65 : Int32 → Int32 → Int32 → Int32 → jH → Option (Int32 × jH)) (hr65 : ∀ (x2 : Int32) (x3 : Int32) (x4 : Int32) (x5 : Int32) (h : jH), rc65 x2 x3 x4 x5 h = some res → jJ G X h 0 0 65 [none, none, some (.int x2), some (.int x3), some (.int x4), some (.int x5)] []) (E : jEnd G mX12_odds (jPW res) X) (x2 : Int32) (x3 : Int32) (x4 : Int32) (x5 : Int32) (h : jH) (hf : F_X12_odds_65_b n rc65 x2 x3 x4 x5 h = some res) : jJ G X h 0 0 65 [none, none, some (.int x2), some (.int x3), some (.int x4), some (.int x5)] [] := by
  unfold F_X12_odds_65_b at hf
  refine jr_iload K (D_at DX12_odds_q3 1 rfl) rfl ?_
  refine jr_iload_n K (D_at DX12_odds_q3 2 rfl) rfl rfl ?_
  refine jr_icmp_ge K (D_at DX12_odds_q3 3 rfl) (tgt := 86) (by decide) (fun c68 => ?_) (fun c68 => ?_)
  · replace hf := (if_pos c68).symm.trans hf
    refine jr_iload K (D_at DX12_odds_q4 0 rfl) rfl ?_
    cases hf
    exact jr_iret K E (D_at DX12_odds_q4 1 rfl) rfl ⟨rfl, rfl⟩
  · replace hf := (if_neg c68).symm.trans hf
    refine jr_iload K (D_at DX12_odds_q3 4 rfl) rfl ?_
    refine jr_iload_n K (D_at DX12_odds_q3 5 rfl) rfl rfl ?_
    refine jr_imul K (D_at DX12_odds_q3 6 rfl) ?_
    refine jr_bipush K (D_at DX12_odds_q3 7 rfl) (v := (100 : Int32)) (by decide) ?_
    refine jr_idiv K (D_at DX12_odds_q3 8 rfl) (by decide) ?_
    refine jr_istore K (D_at DX12_odds_q3 9 rfl) (i := 4) (by decide) (L2 := [_, _, _, _, _, _]) rfl ?_
    refine jr_iinc K (D_at DX12_odds_q3 10 rfl) (i := 5) rfl (v := x5 + (1 : Int32)) (jinc (by decide)) (by decide) (L2 := [_, _, _, _, _, _]) rfl ?_
    refine jr_goto K (D_at DX12_odds_q3 11 rfl) (tgt := 65) (by decide) ?_
    refine jr_keep [false, false, true, true, true, true] ?_
    exact hr65 x2 x3 ((x4 * x3) / (100 : Int32)) (x5 + (1 : Int32)) h hf
theorem J_X12_odds_65 {G : jG} {l : Launch} {d : Nat} {X : jX} {res : (Int32 × jH)} (K : jOK G l mX12_odds (d + 7) X) (n : Nat) (E : jEnd G mX12_odds (jPW res) X) (k : Nat) : ∀ (x2 : Int32) (x3 : Int32) (x4 : Int32) (x5 : Int32) (h : jH), F_X12_odds_65 n k x2 x3 x4 x5 h = some res → jJ G X h 0 0 65 [none, none, some (.int x2), some (.int x3), some (.int x4), some (.int x5)] [] := by
  induction k with
  | zero =>
    intro x2 x3 x4 x5 h hf
    exact jno (show (none : Option (Int32 × jH)) = some res from hf)
  | succ k ih =>
    intro x2 x3 x4 x5 h hf
    exact J_X12_odds_65_b K n (F_X12_odds_65 n k) ih E x2 x3 x4 x5 h hf
set_option maxHeartbeats 400000 in
set_option maxRecDepth 100000 in
theorem J_X12_odds_33 {G : jG} {l : Launch} {d : Nat} {X : jX} {res : (Int32 × jH)} (K : jOK G l mX12_odds (d + 7) X) (n : Nat) (E : jEnd G mX12_odds (jPW res) X) (a0 : Nat) (x1 : Int32) (x2 : Int32) (sa0 : Nat) (s1 : Int32) (h : jH) (hf : F_X12_odds_33 n a0 x1 x2 sa0 s1 h = some res) : jJ G X h 0 0 33 [some (.ref a0), some (.int x1), some (.int x2), none, none, none] [.int s1, .ref sa0] := by
  unfold F_X12_odds_33 at hf
  refine jr_iconst K (D_at DX12_odds_q1 7 rfl) (v := (2 : Int32)) (by decide) ?_
  obtain ⟨q34, e34, hf⟩ := jbind hf
  obtain ⟨rc_34, e34⟩ := jcv_o e34
  refine jr_callV K (C_X12_throwsIf (d + 6) e34) (D_at DX12_odds_q1 8 rfl) cv_X12_250_X12_throwsIf (As := [.int s1, .int (2 : Int32)]) (ci := 10) rfl rc_34 rfl rfl (by exact Nat.le_of_ble_eq_true rfl) (kc2 := 0) (ks2 := 0) rfl rfl (fun k9 h9 w9 => by cases w9.1) (fun r9 h9 w9 => ?_)
  obtain ⟨w1, w2⟩ := w9
  subst h9
  cases w1
  show jJ G X _ 0 0 _ _ (.int q34.1 :: _)
  refine jr_if_eq K (D_at DX12_odds_q1 9 rfl) (tgt := 42) (by decide) (fun c37 => ?_) (fun c37 => ?_)
  · replace hf := (if_pos c37).symm.trans hf
    refine jr_bipush K (D_at DX12_odds_q2 0 rfl) (v := (100 : Int32)) (by decide) ?_
    refine jr_bipush K (D_at DX12_odds_q2 1 rfl) (v := (100 : Int32)) (by decide) ?_
    refine jr_aload_n K (D_at DX12_odds_q2 2 rfl) rfl rfl ?_
    refine jr_iconst K (D_at DX12_odds_q2 3 rfl) (v := (2 : Int32)) (by decide) ?_
    refine jr_iload_n K (D_at DX12_odds_q2 4 rfl) rfl rfl ?_
    obtain ⟨q49, e49, hf⟩ := jbind hf
    obtain ⟨rc_49, e49⟩ := jcv_o e49
    refine jr_callV K (C_X12_byLaw (d) e49) (D_at DX12_odds_q2 5 rfl) cv_X12_280_X12_byLaw (As := [.int (2 : Int32), .int x1]) (ci := 10) rfl rc_49 rfl rfl (by exact Nat.le_of_ble_eq_true rfl) (kc2 := 0) (ks2 := 0) rfl rfl (fun k9 h9 w9 => by cases w9.1) (fun r9 h9 w9 => ?_)
    obtain ⟨w1, w2⟩ := w9
    subst h9
    cases w1
    show jJ G X _ 0 0 _ _ (.int q49.1 :: _)
    refine jr_min K (D_at DX12_odds_q2 6 rfl) mm_X12_119 (by exact Nat.le_of_ble_eq_true rfl) ?_
    refine jr_isub K (D_at DX12_odds_q2 7 rfl) ?_
    refine jr_istore_n K (D_at DX12_odds_q2 8 rfl) (i := 3) rfl (by decide) (L2 := [_, _, _, _, _, _]) rfl ?_
    refine jr_sipush K (D_at DX12_odds_q2 9 rfl) (v := (10000 : Int32)) (by decide) ?_
    refine jr_istore K (D_at DX12_odds_q2 10 rfl) (i := 4) (by decide) (L2 := [_, _, _, _, _, _]) rfl ?_
    refine jr_iconst K (D_at DX12_odds_q2 11 rfl) (v := (0 : Int32)) (by decide) ?_
    refine jr_istore K (D_at DX12_odds_q3 0 rfl) (i := 5) (by decide) (L2 := [_, _, _, _, _, _]) rfl ?_
    refine jr_keep [false, false, true, true, true, true] ?_
    exact J_X12_odds_65 K n E n x2 ((100 : Int32) - (if q49.1 < (100 : Int32) then q49.1 else (100 : Int32))) (10000 : Int32) (0 : Int32) q49.2 hf
  · replace hf := (if_neg c37).symm.trans hf
    refine jr_iconst K (D_at DX12_odds_q1 10 rfl) (v := (0 : Int32)) (by decide) ?_
    cases hf
    exact jr_iret K E (D_at DX12_odds_q1 11 rfl) rfl ⟨rfl, rfl⟩
set_option maxHeartbeats 400000 in
set_option maxRecDepth 100000 in
theorem J_X12_odds {G : jG} {l : Launch} {d : Nat} {X : jX} {res : (Int32 × jH)} (K : jOK G l mX12_odds (d + 7) X) (n : Nat) (E : jEnd G mX12_odds (jPW res) X) (a0 : Nat) (x1 : Int32) (x2 : Int32) (h : jH) (hf : F_X12_odds n a0 x1 x2 h = some res) : jJ G X h 0 0 0 [some (.ref a0), some (.int x1), some (.int x2), none, none, none] [] := by
  unfold F_X12_odds at hf
  refine jr_aload_n K (D_at DX12_odds_q0 0 rfl) rfl rfl ?_
  refine jr_iconst K (D_at DX12_odds_q0 1 rfl) (v := (0 : Int32)) (by decide) ?_
  obtain ⟨h2, e2, hf⟩ := jbind hf
  refine jr_putI K (D_at DX12_odds_q0 2 rfl) fp_X12_3_10 (Or.inl rfl) e2 ?_
  refine jr_aload_n K (D_at DX12_odds_q0 3 rfl) rfl rfl ?_
  refine jr_aload_n K (D_at DX12_odds_q0 4 rfl) rfl rfl ?_
  refine jr_iload_n K (D_at DX12_odds_q0 5 rfl) rfl rfl ?_
  obtain ⟨v8, e8, hf⟩ := jbind hf
  obtain ⟨rc_8, e8⟩ := jcv_o e8
  refine jr_callV K (C_X12_noRing (d + 4) e8) (D_at DX12_odds_q0 6 rfl) cv_X12_277_X12_noRing (As := [.int x1]) (ci := 10) rfl rc_8 rfl rfl (by exact Nat.le_of_ble_eq_true rfl) (kc2 := 0) (ks2 := 0) rfl rfl (fun k9 h9 w9 => by cases w9.1) (fun r9 h9 w9 => ?_)
  obtain ⟨w1, w2⟩ := w9
  subst h9
  cases w1
  show jJ G X _ 0 0 _ _ (.int v8 :: _)
  refine jr_iconst K (D_at DX12_odds_q0 7 rfl) (v := (1 : Int32)) (by decide) ?_
  obtain ⟨q12, e12, hf⟩ := jbind hf
  obtain ⟨rc_12, e12⟩ := jcv_o e12
  refine jr_callV K (C_X12_throwsIf (d + 6) e12) (D_at DX12_odds_q0 8 rfl) cv_X12_250_X12_throwsIf (As := [.int v8, .int (1 : Int32)]) (ci := 10) rfl rc_12 rfl rfl (by exact Nat.le_of_ble_eq_true rfl) (kc2 := 0) (ks2 := 0) rfl rfl (fun k9 h9 w9 => by cases w9.1) (fun r9 h9 w9 => ?_)
  obtain ⟨w1, w2⟩ := w9
  subst h9
  cases w1
  show jJ G X _ 0 0 _ _ (.int q12.1 :: _)
  refine jr_if_ne K (D_at DX12_odds_q0 9 rfl) (tgt := 40) (by decide) (fun c15 => ?_) (fun c15 => ?_)
  · replace hf := (if_neg c15).symm.trans hf
    refine jr_iconst K (D_at DX12_odds_q1 10 rfl) (v := (0 : Int32)) (by decide) ?_
    cases hf
    exact jr_iret K E (D_at DX12_odds_q1 11 rfl) rfl ⟨rfl, rfl⟩
  · replace hf := (if_pos c15).symm.trans hf
    refine jr_aload_n K (D_at DX12_odds_q0 10 rfl) rfl rfl ?_
    refine jr_iload_n K (D_at DX12_odds_q0 11 rfl) rfl rfl ?_
    refine jr_iconst K (D_at DX12_odds_q1 0 rfl) (v := (0 : Int32)) (by decide) ?_
    refine jr_iconst K (D_at DX12_odds_q1 1 rfl) (v := (4 : Int32)) (by decide) ?_
    obtain ⟨v22, e22, hf⟩ := jbind hf
    refine jr_callS K (C_X12_in (d + 6) e22) (D_at DX12_odds_q1 2 rfl) cs_X12_77_X12_in (As := [.int x2, .int (0 : Int32), .int (4 : Int32)]) rfl rfl (by exact Nat.le_of_ble_eq_true rfl) (kc2 := 0) (ks2 := 0) rfl rfl (fun k9 h9 w9 => by cases w9.1) (fun r9 h9 w9 => ?_)
    obtain ⟨w1, w2⟩ := w9
    subst h9
    cases w1
    show jJ G X _ 0 0 _ _ (.int v22 :: _)
    refine jr_if_ne K (D_at DX12_odds_q1 3 rfl) (tgt := 32) (by decide) (fun c25 => ?_) (fun c25 => ?_)
    · replace hf := (if_neg c25).symm.trans hf
      refine jr_iconst K (D_at DX12_odds_q1 6 rfl) (v := (0 : Int32)) (by decide) ?_
      refine jr_keep [true, true, true, false, false, false] ?_
      exact J_X12_odds_33 K n E a0 x1 x2 a0 (0 : Int32) q12.2 hf
    · replace hf := (if_pos c25).symm.trans hf
      refine jr_iconst K (D_at DX12_odds_q1 4 rfl) (v := (1 : Int32)) (by decide) ?_
      refine jr_goto K (D_at DX12_odds_q1 5 rfl) (tgt := 33) (by decide) ?_
      refine jr_keep [true, true, true, false, false, false] ?_
      exact J_X12_odds_33 K n E a0 x1 x2 a0 (1 : Int32) q12.2 hf
theorem C_X12_odds {G : jG} {l : Launch} (d : Nat) {n : Nat} {a0 : Nat} {x1 : Int32} {x2 : Int32} {h : jH} {res : (Int32 × jH)} (hf : F_X12_odds n a0 x1 x2 h = some res) : jC G l mX12_odds (d + 7) 0 0 [.ref a0, .int x1, .int x2] h (jPW res) :=
  jC.of pn_X12 (jcats rfl) (Nat.le_of_ble_eq_true rfl) (fun X K E => J_X12_odds K n E a0 x1 x2 h hf)
set_option maxHeartbeats 400000 in
set_option maxRecDepth 100000 in
theorem J_X12_likens {G : jG} {l : Launch} {d : Nat} {X : jX} {res : Int32} (K : jOK G l mX12_likens (d + 2) X) (n : Nat) (h : jH) (E : jEnd G mX12_likens (jPR h res) X) (a0 : Nat) (x1 : Int32) (x2 : Int32) (hf : F_X12_likens n a0 x1 x2 h = some res) : jJ G X h 0 0 0 [some (.ref a0), some (.int x1), some (.int x2)] [] := by
  unfold F_X12_likens at hf
  refine jr_aload_n K (D_at DX12_likens_q0 0 rfl) rfl rfl ?_
  refine jr_iload_n K (D_at DX12_likens_q0 1 rfl) rfl rfl ?_
  refine jr_iconst K (D_at DX12_likens_q0 2 rfl) (v := (1 : Int32)) (by decide) ?_
  obtain ⟨v3, e3, hf⟩ := jbind hf
  obtain ⟨rc_3, e3⟩ := jcv_o e3
  refine jr_callV K (C_X12_of (d) e3) (D_at DX12_likens_q0 3 rfl) cv_X12_67_X12_of (As := [.int x1, .int (1 : Int32)]) (ci := 10) rfl rc_3 rfl rfl (by exact Nat.le_of_ble_eq_true rfl) (kc2 := 0) (ks2 := 0) rfl rfl (fun k9 h9 w9 => by cases w9.1) (fun r9 h9 w9 => ?_)
  obtain ⟨w1, w2⟩ := w9
  subst h9
  cases w1
  show jJ G X _ 0 0 _ _ (.int v3 :: _)
  refine jr_aload_n K (D_at DX12_likens_q0 4 rfl) rfl rfl ?_
  refine jr_iload_n K (D_at DX12_likens_q0 5 rfl) rfl rfl ?_
  refine jr_iconst K (D_at DX12_likens_q0 6 rfl) (v := (1 : Int32)) (by decide) ?_
  obtain ⟨v9, e9, hf⟩ := jbind hf
  obtain ⟨rc_9, e9⟩ := jcv_o e9
  refine jr_callV K (C_X12_of (d) e9) (D_at DX12_likens_q0 7 rfl) cv_X12_67_X12_of (As := [.int x2, .int (1 : Int32)]) (ci := 10) rfl rc_9 rfl rfl (by exact Nat.le_of_ble_eq_true rfl) (kc2 := 0) (ks2 := 0) rfl rfl (fun k9 h9 w9 => by cases w9.1) (fun r9 h9 w9 => ?_)
  obtain ⟨w1, w2⟩ := w9
  subst h9
  cases w1
  show jJ G X _ 0 0 _ _ (.int v9 :: _)
  refine jr_icmp_ne K (D_at DX12_likens_q0 8 rfl) (tgt := 49) (by decide) (fun c12 => ?_) (fun c12 => ?_)
  · replace hf := (if_neg c12).symm.trans hf
    refine jr_iconst K (D_at DX12_likens_q2 5 rfl) (v := (0 : Int32)) (by decide) ?_
    cases hf
    exact jr_zret K E (D_at DX12_likens_q2 6 rfl) rfl (Or.inl rfl) ⟨rfl, rfl⟩
  · replace hf := (if_pos c12).symm.trans hf
    refine jr_aload_n K (D_at DX12_likens_q0 9 rfl) rfl rfl ?_
    refine jr_iload_n K (D_at DX12_likens_q0 10 rfl) rfl rfl ?_
    refine jr_iconst K (D_at DX12_likens_q0 11 rfl) (v := (5 : Int32)) (by decide) ?_
    obtain ⟨v18, e18, hf⟩ := jbind hf
    obtain ⟨rc_18, e18⟩ := jcv_o e18
    refine jr_callV K (C_X12_of (d) e18) (D_at DX12_likens_q1 0 rfl) cv_X12_67_X12_of (As := [.int x1, .int (5 : Int32)]) (ci := 10) rfl rc_18 rfl rfl (by exact Nat.le_of_ble_eq_true rfl) (kc2 := 0) (ks2 := 0) rfl rfl (fun k9 h9 w9 => by cases w9.1) (fun r9 h9 w9 => ?_)
    obtain ⟨w1, w2⟩ := w9
    subst h9
    cases w1
    show jJ G X _ 0 0 _ _ (.int v18 :: _)
    refine jr_aload_n K (D_at DX12_likens_q1 1 rfl) rfl rfl ?_
    refine jr_iload_n K (D_at DX12_likens_q1 2 rfl) rfl rfl ?_
    refine jr_iconst K (D_at DX12_likens_q1 3 rfl) (v := (5 : Int32)) (by decide) ?_
    obtain ⟨v24, e24, hf⟩ := jbind hf
    obtain ⟨rc_24, e24⟩ := jcv_o e24
    refine jr_callV K (C_X12_of (d) e24) (D_at DX12_likens_q1 4 rfl) cv_X12_67_X12_of (As := [.int x2, .int (5 : Int32)]) (ci := 10) rfl rc_24 rfl rfl (by exact Nat.le_of_ble_eq_true rfl) (kc2 := 0) (ks2 := 0) rfl rfl (fun k9 h9 w9 => by cases w9.1) (fun r9 h9 w9 => ?_)
    obtain ⟨w1, w2⟩ := w9
    subst h9
    cases w1
    show jJ G X _ 0 0 _ _ (.int v24 :: _)
    refine jr_icmp_ne K (D_at DX12_likens_q1 5 rfl) (tgt := 49) (by decide) (fun c27 => ?_) (fun c27 => ?_)
    · replace hf := (if_neg c27).symm.trans hf
      refine jr_iconst K (D_at DX12_likens_q2 5 rfl) (v := (0 : Int32)) (by decide) ?_
      cases hf
      exact jr_zret K E (D_at DX12_likens_q2 6 rfl) rfl (Or.inl rfl) ⟨rfl, rfl⟩
    · replace hf := (if_pos c27).symm.trans hf
      refine jr_aload_n K (D_at DX12_likens_q1 6 rfl) rfl rfl ?_
      refine jr_iload_n K (D_at DX12_likens_q1 7 rfl) rfl rfl ?_
      refine jr_iconst K (D_at DX12_likens_q1 8 rfl) (v := (4 : Int32)) (by decide) ?_
      obtain ⟨v33, e33, hf⟩ := jbind hf
      obtain ⟨rc_33, e33⟩ := jcv_o e33
      refine jr_callV K (C_X12_of (d) e33) (D_at DX12_likens_q1 9 rfl) cv_X12_67_X12_of (As := [.int x1, .int (4 : Int32)]) (ci := 10) rfl rc_33 rfl rfl (by exact Nat.le_of_ble_eq_true rfl) (kc2 := 0) (ks2 := 0) rfl rfl (fun k9 h9 w9 => by cases w9.1) (fun r9 h9 w9 => ?_)
      obtain ⟨w1, w2⟩ := w9
      subst h9
      cases w1
      show jJ G X _ 0 0 _ _ (.int v33 :: _)
      refine jr_aload_n K (D_at DX12_likens_q1 10 rfl) rfl rfl ?_
      refine jr_iload_n K (D_at DX12_likens_q1 11 rfl) rfl rfl ?_
      refine jr_iconst K (D_at DX12_likens_q2 0 rfl) (v := (4 : Int32)) (by decide) ?_
      obtain ⟨v39, e39, hf⟩ := jbind hf
      obtain ⟨rc_39, e39⟩ := jcv_o e39
      refine jr_callV K (C_X12_of (d) e39) (D_at DX12_likens_q2 1 rfl) cv_X12_67_X12_of (As := [.int x2, .int (4 : Int32)]) (ci := 10) rfl rc_39 rfl rfl (by exact Nat.le_of_ble_eq_true rfl) (kc2 := 0) (ks2 := 0) rfl rfl (fun k9 h9 w9 => by cases w9.1) (fun r9 h9 w9 => ?_)
      obtain ⟨w1, w2⟩ := w9
      subst h9
      cases w1
      show jJ G X _ 0 0 _ _ (.int v39 :: _)
      refine jr_icmp_ne K (D_at DX12_likens_q2 2 rfl) (tgt := 49) (by decide) (fun c42 => ?_) (fun c42 => ?_)
      · replace hf := (if_neg c42).symm.trans hf
        refine jr_iconst K (D_at DX12_likens_q2 5 rfl) (v := (0 : Int32)) (by decide) ?_
        cases hf
        exact jr_zret K E (D_at DX12_likens_q2 6 rfl) rfl (Or.inl rfl) ⟨rfl, rfl⟩
      · replace hf := (if_pos c42).symm.trans hf
        refine jr_iconst K (D_at DX12_likens_q2 3 rfl) (v := (1 : Int32)) (by decide) ?_
        refine jr_goto K (D_at DX12_likens_q2 4 rfl) (tgt := 50) (by decide) ?_
        cases hf
        exact jr_zret K E (D_at DX12_likens_q2 6 rfl) rfl (Or.inr rfl) ⟨rfl, rfl⟩
theorem C_X12_likens {G : jG} {l : Launch} (d : Nat) {n : Nat} {a0 : Nat} {x1 : Int32} {x2 : Int32} {h : jH} {res : Int32} (hf : F_X12_likens n a0 x1 x2 h = some res) : jC G l mX12_likens (d + 2) 0 0 [.ref a0, .int x1, .int x2] h (jPR h res) :=
  jC.of pn_X12 (jcats rfl) (Nat.le_of_ble_eq_true rfl) (fun X K E => J_X12_likens K n h E a0 x1 x2 hf)
set_option maxHeartbeats 400000 in
set_option maxRecDepth 100000 in
theorem J_X12_twins_19_b {G : jG} {l : Launch} {d : Nat} {X : jX} {res : (Int32 × jH)} (K : jOK G l mX12_twins (d + 3) X) (n : Nat) (rc9 : Nat → Int32 → Int32 → jH → Option (Int32 × jH)) (hr9 : ∀ (a0 : Nat) (x1 : Int32) (x2 : Int32) (h : jH), rc9 a0 x1 x2 h = some res → jJ G X h 0 0 9 [some (.ref a0), some (.int x1), some (.int x2), none] []) (rc19 : Nat → Int32 → Int32 → Int32 → jH → Option (Int32 × jH)) (hr19 : ∀ (a0 : Nat) (x1 : Int32) (x2 : Int32) (x3 : Int32) (h : jH), rc19 a0 x1 x2 x3 h = some res → jJ G X h 0 0 19 [some (.ref a0), some (.int x1), some (.int x2), some (.int x3)] []) (E : jEnd G mX12_twins (jPW res) X) (a0 : Nat) (x1 : Int32) (x2 : Int32) (x3 : Int32) (h : jH) (hf : F_X12_twins_19_b n rc9 rc19 a0 x1 x2 x3 h = some res) : jJ G X h 0 0 19 [some (.ref a0), some (.int x1), some (.int x2), some (.int x3)] [] := by
  unfold F_X12_twins_19_b at hf
  refine jr_iload_n K (D_at DX12_twins_q1 1 rfl) rfl rfl ?_
  refine jr_iload_n K (D_at DX12_twins_q1 2 rfl) rfl rfl ?_
  refine jr_icmp_ge K (D_at DX12_twins_q1 3 rfl) (tgt := 47) (by decide) (fun c21 => ?_) (fun c21 => ?_)
  · replace hf := (if_pos c21).symm.trans hf
    refine jr_iinc K (D_at DX12_twins_q2 5 rfl) (i := 2) rfl (v := x2 + (1 : Int32)) (jinc (by decide)) (by decide) (L2 := [_, _, _, _]) rfl ?_
    refine jr_goto K (D_at DX12_twins_q2 6 rfl) (tgt := 9) (by decide) ?_
    refine jr_keep [true, true, true, false] ?_
    exact hr9 a0 x1 (x2 + (1 : Int32)) h hf
  · replace hf := (if_neg c21).symm.trans hf
    refine jr_iload_n K (D_at DX12_twins_q1 4 rfl) rfl rfl ?_
    refine jr_aload_n K (D_at DX12_twins_q1 5 rfl) rfl rfl ?_
    refine jr_iload_n K (D_at DX12_twins_q1 6 rfl) rfl rfl ?_
    refine jr_iload_n K (D_at DX12_twins_q1 7 rfl) rfl rfl ?_
    obtain ⟨v28, e28, hf⟩ := jbind hf
    obtain ⟨rc_28, e28⟩ := jcv_o e28
    refine jr_callV K (C_X12_likens (d) e28) (D_at DX12_twins_q1 8 rfl) cv_X12_413_X12_likens (As := [.int x2, .int x3]) (ci := 10) rfl rc_28 rfl rfl (by exact Nat.le_of_ble_eq_true rfl) (kc2 := 0) (ks2 := 0) rfl rfl (fun k9 h9 w9 => by cases w9.1) (fun r9 h9 w9 => ?_)
    obtain ⟨w1, w2⟩ := w9
    subst h9
    cases w1
    show jJ G X _ 0 0 _ _ (.int v28 :: _)
    refine jr_if_eq K (D_at DX12_twins_q1 9 rfl) (tgt := 38) (by decide) (fun c31 => ?_) (fun c31 => ?_)
    · replace hf := (if_pos c31).symm.trans hf
      refine jr_iconst K (D_at DX12_twins_q2 0 rfl) (v := (0 : Int32)) (by decide) ?_
      refine jr_iadd K (D_at DX12_twins_q2 1 rfl) ?_
      refine jr_istore_n K (D_at DX12_twins_q2 2 rfl) (i := 1) rfl (by decide) (L2 := [_, _, _, _]) rfl ?_
      refine jr_iinc K (D_at DX12_twins_q2 3 rfl) (i := 3) rfl (v := x3 + (1 : Int32)) (jinc (by decide)) (by decide) (L2 := [_, _, _, _]) rfl ?_
      refine jr_goto K (D_at DX12_twins_q2 4 rfl) (tgt := 19) (by decide) ?_
      refine jr_keep [true, true, true, true] ?_
      exact hr19 a0 (x1 + (0 : Int32)) x2 (x3 + (1 : Int32)) h hf
    · replace hf := (if_neg c31).symm.trans hf
      refine jr_iconst K (D_at DX12_twins_q1 10 rfl) (v := (1 : Int32)) (by decide) ?_
      refine jr_goto K (D_at DX12_twins_q1 11 rfl) (tgt := 39) (by decide) ?_
      refine jr_iadd K (D_at DX12_twins_q2 1 rfl) ?_
      refine jr_istore_n K (D_at DX12_twins_q2 2 rfl) (i := 1) rfl (by decide) (L2 := [_, _, _, _]) rfl ?_
      refine jr_iinc K (D_at DX12_twins_q2 3 rfl) (i := 3) rfl (v := x3 + (1 : Int32)) (jinc (by decide)) (by decide) (L2 := [_, _, _, _]) rfl ?_
      refine jr_goto K (D_at DX12_twins_q2 4 rfl) (tgt := 19) (by decide) ?_
      refine jr_keep [true, true, true, true] ?_
      exact hr19 a0 (x1 + (1 : Int32)) x2 (x3 + (1 : Int32)) h hf
theorem J_X12_twins_19 {G : jG} {l : Launch} {d : Nat} {X : jX} {res : (Int32 × jH)} (K : jOK G l mX12_twins (d + 3) X) (n : Nat) (rc9 : Nat → Int32 → Int32 → jH → Option (Int32 × jH)) (hr9 : ∀ (a0 : Nat) (x1 : Int32) (x2 : Int32) (h : jH), rc9 a0 x1 x2 h = some res → jJ G X h 0 0 9 [some (.ref a0), some (.int x1), some (.int x2), none] []) (E : jEnd G mX12_twins (jPW res) X) (k : Nat) : ∀ (a0 : Nat) (x1 : Int32) (x2 : Int32) (x3 : Int32) (h : jH), F_X12_twins_19 n rc9 k a0 x1 x2 x3 h = some res → jJ G X h 0 0 19 [some (.ref a0), some (.int x1), some (.int x2), some (.int x3)] [] := by
  induction k with
  | zero =>
    intro a0 x1 x2 x3 h hf
    exact jno (show (none : Option (Int32 × jH)) = some res from hf)
  | succ k ih =>
    intro a0 x1 x2 x3 h hf
    exact J_X12_twins_19_b K n rc9 hr9 (F_X12_twins_19 n rc9 k) ih E a0 x1 x2 x3 h hf
set_option maxHeartbeats 400000 in
set_option maxRecDepth 100000 in
theorem J_X12_twins_9_b {G : jG} {l : Launch} {d : Nat} {X : jX} {res : (Int32 × jH)} (K : jOK G l mX12_twins (d + 3) X) (n : Nat) (rc9 : Nat → Int32 → Int32 → jH → Option (Int32 × jH)) (hr9 : ∀ (a0 : Nat) (x1 : Int32) (x2 : Int32) (h : jH), rc9 a0 x1 x2 h = some res → jJ G X h 0 0 9 [some (.ref a0), some (.int x1), some (.int x2), none] []) (E : jEnd G mX12_twins (jPW res) X) (a0 : Nat) (x1 : Int32) (x2 : Int32) (h : jH) (hf : F_X12_twins_9_b n rc9 a0 x1 x2 h = some res) : jJ G X h 0 0 9 [some (.ref a0), some (.int x1), some (.int x2), none] [] := by
  unfold F_X12_twins_9_b at hf
  refine jr_iload_n K (D_at DX12_twins_q0 7 rfl) rfl rfl ?_
  refine jr_aload_n K (D_at DX12_twins_q0 8 rfl) rfl rfl ?_
  obtain ⟨v11, e11, hf⟩ := jbind hf
  obtain ⟨rc_11, e11⟩ := jcv_o e11
  refine jr_callV K (C_X12_rings (d + 2) e11) (D_at DX12_twins_q0 9 rfl) cv_X12_59_X12_rings (As := []) (ci := 10) rfl rc_11 rfl rfl (by exact Nat.le_of_ble_eq_true rfl) (kc2 := 0) (ks2 := 0) rfl rfl (fun k9 h9 w9 => by cases w9.1) (fun r9 h9 w9 => ?_)
  obtain ⟨w1, w2⟩ := w9
  subst h9
  cases w1
  show jJ G X _ 0 0 _ _ (.int v11 :: _)
  refine jr_icmp_ge K (D_at DX12_twins_q0 10 rfl) (tgt := 53) (by decide) (fun c14 => ?_) (fun c14 => ?_)
  · replace hf := (if_pos c14).symm.trans hf
    refine jr_iload_n K (D_at DX12_twins_q2 7 rfl) rfl rfl ?_
    cases hf
    exact jr_iret K E (D_at DX12_twins_q2 8 rfl) rfl ⟨rfl, rfl⟩
  · replace hf := (if_neg c14).symm.trans hf
    refine jr_iconst K (D_at DX12_twins_q0 11 rfl) (v := (0 : Int32)) (by decide) ?_
    refine jr_istore_n K (D_at DX12_twins_q1 0 rfl) (i := 3) rfl (by decide) (L2 := [_, _, _, _]) rfl ?_
    refine jr_keep [true, true, true, true] ?_
    exact J_X12_twins_19 K n rc9 hr9 E n a0 x1 x2 (0 : Int32) h hf
theorem J_X12_twins_9 {G : jG} {l : Launch} {d : Nat} {X : jX} {res : (Int32 × jH)} (K : jOK G l mX12_twins (d + 3) X) (n : Nat) (E : jEnd G mX12_twins (jPW res) X) (k : Nat) : ∀ (a0 : Nat) (x1 : Int32) (x2 : Int32) (h : jH), F_X12_twins_9 n k a0 x1 x2 h = some res → jJ G X h 0 0 9 [some (.ref a0), some (.int x1), some (.int x2), none] [] := by
  induction k with
  | zero =>
    intro a0 x1 x2 h hf
    exact jno (show (none : Option (Int32 × jH)) = some res from hf)
  | succ k ih =>
    intro a0 x1 x2 h hf
    exact J_X12_twins_9_b K n (F_X12_twins_9 n k) ih E a0 x1 x2 h hf
set_option maxHeartbeats 400000 in
set_option maxRecDepth 100000 in
theorem J_X12_twins {G : jG} {l : Launch} {d : Nat} {X : jX} {res : (Int32 × jH)} (K : jOK G l mX12_twins (d + 3) X) (n : Nat) (E : jEnd G mX12_twins (jPW res) X) (a0 : Nat) (h : jH) (hf : F_X12_twins n a0 h = some res) : jJ G X h 0 0 0 [some (.ref a0), none, none, none] [] := by
  unfold F_X12_twins at hf
  refine jr_aload_n K (D_at DX12_twins_q0 0 rfl) rfl rfl ?_
  refine jr_iconst K (D_at DX12_twins_q0 1 rfl) (v := (0 : Int32)) (by decide) ?_
  obtain ⟨h2, e2, hf⟩ := jbind hf
  refine jr_putI K (D_at DX12_twins_q0 2 rfl) fp_X12_3_10 (Or.inl rfl) e2 ?_
  refine jr_iconst K (D_at DX12_twins_q0 3 rfl) (v := (0 : Int32)) (by decide) ?_
  refine jr_istore_n K (D_at DX12_twins_q0 4 rfl) (i := 1) rfl (by decide) (L2 := [_, _, _, _]) rfl ?_
  refine jr_iconst K (D_at DX12_twins_q0 5 rfl) (v := (0 : Int32)) (by decide) ?_
  refine jr_istore_n K (D_at DX12_twins_q0 6 rfl) (i := 2) rfl (by decide) (L2 := [_, _, _, _]) rfl ?_
  refine jr_keep [true, true, true, false] ?_
  exact J_X12_twins_9 K n E n a0 (0 : Int32) (0 : Int32) h2 hf
theorem C_X12_twins {G : jG} {l : Launch} (d : Nat) {n : Nat} {a0 : Nat} {h : jH} {res : (Int32 × jH)} (hf : F_X12_twins n a0 h = some res) : jC G l mX12_twins (d + 3) 0 0 [.ref a0] h (jPW res) :=
  jC.of pn_X12 (jcats rfl) (Nat.le_of_ble_eq_true rfl) (fun X K E => J_X12_twins K n E a0 h hf)
set_option maxHeartbeats 400000 in
set_option maxRecDepth 100000 in
theorem J_X12_trial_47 {G : jG} {l : Launch} {d : Nat} {X : jX} {res : (Int32 × jH)} (K : jOK G l mX12_trial (d + 10) X) (n : Nat) (E : jEnd G mX12_trial (jPW res) X) (a0 : Nat) (s0 : Int32) (h : jH) (hf : F_X12_trial_47 n a0 s0 h = some res) : jJ G X h 0 0 47 [some (.ref a0), none, none, none] [.int s0] := by
  unfold F_X12_trial_47 at hf
  refine jr_istore_n K (D_at DX12_trial_q2 2 rfl) (i := 3) rfl (by decide) (L2 := [_, _, _, _]) rfl ?_
  refine jr_aload_n K (D_at DX12_trial_q2 3 rfl) rfl rfl ?_
  obtain ⟨h49, e49, hf⟩ := jbind hf
  obtain ⟨rc_49, e49⟩ := jcv_o e49
  refine jr_callV K (C_X12_bringsBack (d + 9) e49) (D_at DX12_trial_q2 4 rfl) cv_X12_351_X12_bringsBack (As := []) (ci := 10) rfl rc_49 rfl rfl (by exact Nat.le_of_ble_eq_true rfl) (kc2 := 0) (ks2 := 0) rfl rfl (fun k9 h9 w9 => by cases w9.1) (fun r9 h9 w9 => ?_)
  obtain ⟨w1, w2⟩ := w9
  subst h9
  cases w1
  show jJ G X _ 0 0 _ _ []
  refine jr_iload_n K (D_at DX12_trial_q2 5 rfl) rfl rfl ?_
  cases hf
  exact jr_iret K E (D_at DX12_trial_q2 6 rfl) rfl ⟨rfl, rfl⟩
set_option maxHeartbeats 400000 in
set_option maxRecDepth 100000 in
theorem J_X12_trial {G : jG} {l : Launch} {d : Nat} {X : jX} {res : (Int32 × jH)} (K : jOK G l mX12_trial (d + 10) X) (n : Nat) (E : jEnd G mX12_trial (jPW res) X) (a0 : Nat) (x1 : Int32) (x2 : Int32) (h : jH) (hf : F_X12_trial n a0 x1 x2 h = some res) : jJ G X h 0 0 0 [some (.ref a0), some (.int x1), some (.int x2), none] [] := by
  unfold F_X12_trial at hf
  refine jr_aload_n K (D_at DX12_trial_q0 0 rfl) rfl rfl ?_
  refine jr_iconst K (D_at DX12_trial_q0 1 rfl) (v := (0 : Int32)) (by decide) ?_
  obtain ⟨h2, e2, hf⟩ := jbind hf
  refine jr_putI K (D_at DX12_trial_q0 2 rfl) fp_X12_3_10 (Or.inl rfl) e2 ?_
  refine jr_aload_n K (D_at DX12_trial_q0 3 rfl) rfl rfl ?_
  refine jr_iload_n K (D_at DX12_trial_q0 4 rfl) rfl rfl ?_
  obtain ⟨v7, e7, hf⟩ := jbind hf
  refine jr_callS K (C_X12_noAhead (d + 8) e7) (D_at DX12_trial_q0 5 rfl) cs_X12_345_X12_noAhead (As := [.int x1]) rfl rfl (by exact Nat.le_of_ble_eq_true rfl) (kc2 := 0) (ks2 := 0) rfl rfl (fun k9 h9 w9 => by cases w9.1) (fun r9 h9 w9 => ?_)
  obtain ⟨w1, w2⟩ := w9
  subst h9
  cases w1
  show jJ G X _ 0 0 _ _ (.int v7 :: _)
  refine jr_iconst K (D_at DX12_trial_q0 6 rfl) (v := (1 : Int32)) (by decide) ?_
  obtain ⟨q11, e11, hf⟩ := jbind hf
  obtain ⟨rc_11, e11⟩ := jcv_o e11
  refine jr_callV K (C_X12_throwsIf (d + 9) e11) (D_at DX12_trial_q0 7 rfl) cv_X12_250_X12_throwsIf (As := [.int v7, .int (1 : Int32)]) (ci := 10) rfl rc_11 rfl rfl (by exact Nat.le_of_ble_eq_true rfl) (kc2 := 0) (ks2 := 0) rfl rfl (fun k9 h9 w9 => by cases w9.1) (fun r9 h9 w9 => ?_)
  obtain ⟨w1, w2⟩ := w9
  subst h9
  cases w1
  show jJ G X _ 0 0 _ _ (.int q11.1 :: _)
  refine jr_if_eq K (D_at DX12_trial_q0 8 rfl) (tgt := 19) (by decide) (fun c14 => ?_) (fun c14 => ?_)
  · replace hf := (if_pos c14).symm.trans hf
    refine jr_aload_n K (D_at DX12_trial_q0 11 rfl) rfl rfl ?_
    obtain ⟨h20, e20, hf⟩ := jbind hf
    obtain ⟨rc_20, e20⟩ := jcv_o e20
    refine jr_callV K (C_X12_keepsAll (d + 9) e20) (D_at DX12_trial_q1 0 rfl) cv_X12_348_X12_keepsAll (As := []) (ci := 10) rfl rc_20 rfl rfl (by exact Nat.le_of_ble_eq_true rfl) (kc2 := 0) (ks2 := 0) rfl rfl (fun k9 h9 w9 => by cases w9.1) (fun r9 h9 w9 => ?_)
    obtain ⟨w1, w2⟩ := w9
    subst h9
    cases w1
    show jJ G X _ 0 0 _ _ []
    refine jr_aload_n K (D_at DX12_trial_q1 1 rfl) rfl rfl ?_
    refine jr_iload_n K (D_at DX12_trial_q1 2 rfl) rfl rfl ?_
    refine jr_iconst K (D_at DX12_trial_q1 3 rfl) (v := (0 : Int32)) (by decide) ?_
    obtain ⟨q26, e26, hf⟩ := jbind hf
    obtain ⟨rc_26, e26⟩ := jcv_o e26
    refine jr_callV K (C_X12_goesOn (d) e26) (D_at DX12_trial_q1 4 rfl) cv_X12_342_X12_goesOn (As := [.int x1, .int (0 : Int32)]) (ci := 10) rfl rc_26 rfl rfl (by exact Nat.le_of_ble_eq_true rfl) (kc2 := 0) (ks2 := 0) rfl rfl (fun k9 h9 w9 => by cases w9.1) (fun r9 h9 w9 => ?_)
    obtain ⟨w1, w2⟩ := w9
    subst h9
    cases w1
    show jJ G X _ 0 0 _ _ (.int q26.1 :: _)
    refine jr_pop K (D_at DX12_trial_q1 5 rfl) rfl ?_
    refine jr_iload_n K (D_at DX12_trial_q1 6 rfl) rfl rfl ?_
    refine jr_if_eq K (D_at DX12_trial_q1 7 rfl) (tgt := 41) (by decide) (fun c31 => ?_) (fun c31 => ?_)
    · replace hf := (if_pos c31).symm.trans hf
      refine jr_aload_n K (D_at DX12_trial_q1 11 rfl) rfl rfl ?_
      refine jr_bipush K (D_at DX12_trial_q2 0 rfl) (v := (7 : Int32)) (by decide) ?_
      obtain ⟨v44, e44, hf⟩ := jbind hf
      obtain ⟨rc_44, e44⟩ := jcv_o e44
      refine jr_callV K (C_X12_ringsThat (d + 6) e44) (D_at DX12_trial_q2 1 rfl) cv_X12_401_X12_ringsThat (As := [.int (7 : Int32)]) (ci := 10) rfl rc_44 rfl rfl (by exact Nat.le_of_ble_eq_true rfl) (kc2 := 0) (ks2 := 0) rfl rfl (fun k9 h9 w9 => by cases w9.1) (fun r9 h9 w9 => ?_)
      obtain ⟨w1, w2⟩ := w9
      subst h9
      cases w1
      show jJ G X _ 0 0 _ _ (.int v44 :: _)
      refine jr_keep [true, false, false, false] ?_
      exact J_X12_trial_47 K n E a0 v44 q26.2 hf
    · replace hf := (if_neg c31).symm.trans hf
      refine jr_aload_n K (D_at DX12_trial_q1 8 rfl) rfl rfl ?_
      obtain ⟨v35, e35, hf⟩ := jbind hf
      obtain ⟨rc_35, e35⟩ := jcv_o e35
      refine jr_callV K (C_X12_looseOnes (d + 5) e35) (D_at DX12_trial_q1 9 rfl) cv_X12_410_X12_looseOnes (As := []) (ci := 10) rfl rc_35 rfl rfl (by exact Nat.le_of_ble_eq_true rfl) (kc2 := 0) (ks2 := 0) rfl rfl (fun k9 h9 w9 => by cases w9.1) (fun r9 h9 w9 => ?_)
      obtain ⟨w1, w2⟩ := w9
      subst h9
      cases w1
      show jJ G X _ 0 0 _ _ (.int v35 :: _)
      refine jr_goto K (D_at DX12_trial_q1 10 rfl) (tgt := 47) (by decide) ?_
      refine jr_keep [true, false, false, false] ?_
      exact J_X12_trial_47 K n E a0 v35 q26.2 hf
  · replace hf := (if_neg c14).symm.trans hf
    refine jr_iconst K (D_at DX12_trial_q0 9 rfl) (v := (0 : Int32)) (by decide) ?_
    cases hf
    exact jr_iret K E (D_at DX12_trial_q0 10 rfl) rfl ⟨rfl, rfl⟩
theorem C_X12_trial {G : jG} {l : Launch} (d : Nat) {n : Nat} {a0 : Nat} {x1 : Int32} {x2 : Int32} {h : jH} {res : (Int32 × jH)} (hf : F_X12_trial n a0 x1 x2 h = some res) : jC G l mX12_trial (d + 10) 0 0 [.ref a0, .int x1, .int x2] h (jPW res) :=
  jC.of pn_X12 (jcats rfl) (Nat.le_of_ble_eq_true rfl) (fun X K E => J_X12_trial K n E a0 x1 x2 h hf)
set_option maxHeartbeats 400000 in
set_option maxRecDepth 100000 in
theorem J_X12_span_28_b {G : jG} {l : Launch} {d : Nat} {X : jX} {res : (Int32 × jH)} (K : jOK G l mX12_span (d + 10) X) (n : Nat) (rc28 : Nat → Int32 → Int32 → Int32 → Int32 → jH → Option (Int32 × jH)) (hr28 : ∀ (a0 : Nat) (x1 : Int32) (x2 : Int32) (x3 : Int32) (x4 : Int32) (h : jH), rc28 a0 x1 x2 x3 x4 h = some res → jJ G X h 0 0 28 [some (.ref a0), some (.int x1), some (.int x2), some (.int x3), some (.int x4), none] []) (E : jEnd G mX12_span (jPW res) X) (a0 : Nat) (x1 : Int32) (x2 : Int32) (x3 : Int32) (x4 : Int32) (h : jH) (hf : F_X12_span_28_b n rc28 a0 x1 x2 x3 x4 h = some res) : jJ G X h 0 0 28 [some (.ref a0), some (.int x1), some (.int x2), some (.int x3), some (.int x4), none] [] := by
  unfold F_X12_span_28_b at hf
  refine jr_iload K (D_at DX12_span_q1 5 rfl) rfl ?_
  refine jr_bipush K (D_at DX12_span_q1 6 rfl) (v := (6 : Int32)) (by decide) ?_
  refine jr_icmp_gt K (D_at DX12_span_q1 7 rfl) (tgt := 109) (by decide) (fun c32 => ?_) (fun c32 => ?_)
  · replace hf := (if_pos c32).symm.trans hf
    refine jr_iload_n K (D_at DX12_span_q4 9 rfl) rfl rfl ?_
    cases hf
    exact jr_iret K E (D_at DX12_span_q4 10 rfl) rfl ⟨rfl, rfl⟩
  · replace hf := (if_neg c32).symm.trans hf
    refine jr_aload_n K (D_at DX12_span_q1 8 rfl) rfl rfl ?_
    obtain ⟨p36, e36, hf⟩ := jbind hf
    refine jr_getR K (D_at DX12_span_q1 9 rfl) fg_X12_13_10 e36 ?_
    refine jr_bipush K (D_at DX12_span_q1 10 rfl) (v := (10 : Int32)) (by decide) ?_
    refine jr_iload K (D_at DX12_span_q1 11 rfl) rfl ?_
    obtain ⟨h43, e43, hf⟩ := jbind hf
    refine jr_iast K (D_at DX12_span_q2 0 rfl) e43 ?_
    refine jr_aload_n K (D_at DX12_span_q2 1 rfl) rfl rfl ?_
    refine jr_iload_n K (D_at DX12_span_q2 2 rfl) rfl rfl ?_
    refine jr_iconst K (D_at DX12_span_q2 3 rfl) (v := (0 : Int32)) (by decide) ?_
    obtain ⟨q47, e47, hf⟩ := jbind hf
    obtain ⟨rc_47, e47⟩ := jcv_o e47
    refine jr_callV K (C_X12_goesOn (d) e47) (D_at DX12_span_q2 4 rfl) cv_X12_342_X12_goesOn (As := [.int x1, .int (0 : Int32)]) (ci := 10) rfl rc_47 rfl rfl (by exact Nat.le_of_ble_eq_true rfl) (kc2 := 0) (ks2 := 0) rfl rfl (fun k9 h9 w9 => by cases w9.1) (fun r9 h9 w9 => ?_)
    obtain ⟨w1, w2⟩ := w9
    subst h9
    cases w1
    show jJ G X _ 0 0 _ _ (.int q47.1 :: _)
    refine jr_pop K (D_at DX12_span_q2 5 rfl) rfl ?_
    refine jr_aload_n K (D_at DX12_span_q2 6 rfl) rfl rfl ?_
    refine jr_bipush K (D_at DX12_span_q2 7 rfl) (v := (7 : Int32)) (by decide) ?_
    obtain ⟨v54, e54, hf⟩ := jbind hf
    obtain ⟨rc_54, e54⟩ := jcv_o e54
    refine jr_callV K (C_X12_ringsThat (d + 6) e54) (D_at DX12_span_q2 8 rfl) cv_X12_401_X12_ringsThat (As := [.int (7 : Int32)]) (ci := 10) rfl rc_54 rfl rfl (by exact Nat.le_of_ble_eq_true rfl) (kc2 := 0) (ks2 := 0) rfl rfl (fun k9 h9 w9 => by cases w9.1) (fun r9 h9 w9 => ?_)
    obtain ⟨w1, w2⟩ := w9
    subst h9
    cases w1
    show jJ G X _ 0 0 _ _ (.int v54 :: _)
    obtain ⟨v57, e57, hf⟩ := jbind hf
    refine jr_callS K (C_J6_bitCount_0f7a4 (d + 9) e57) (D_at DX12_span_q2 9 rfl) cs_X12_360_J6_bitCount_0f7a4 (As := [.int v54]) rfl rfl (by exact Nat.le_of_ble_eq_true rfl) (kc2 := 0) (ks2 := 0) rfl rfl (fun k9 h9 w9 => by cases w9.1) (fun r9 h9 w9 => ?_)
    obtain ⟨w1, w2⟩ := w9
    subst h9
    cases w1
    show jJ G X _ 0 0 _ _ (.int v57 :: _)
    refine jr_aload_n K (D_at DX12_span_q2 10 rfl) rfl rfl ?_
    obtain ⟨v61, e61, hf⟩ := jbind hf
    obtain ⟨rc_61, e61⟩ := jcv_o e61
    refine jr_callV K (C_X12_looseOnes (d + 5) e61) (D_at DX12_span_q2 11 rfl) cv_X12_410_X12_looseOnes (As := []) (ci := 10) rfl rc_61 rfl rfl (by exact Nat.le_of_ble_eq_true rfl) (kc2 := 0) (ks2 := 0) rfl rfl (fun k9 h9 w9 => by cases w9.1) (fun r9 h9 w9 => ?_)
    obtain ⟨w1, w2⟩ := w9
    subst h9
    cases w1
    show jJ G X _ 0 0 _ _ (.int v61 :: _)
    obtain ⟨v64, e64, hf⟩ := jbind hf
    refine jr_callS K (C_J6_bitCount_0f7a4 (d + 9) e64) (D_at DX12_span_q3 0 rfl) cs_X12_360_J6_bitCount_0f7a4 (As := [.int v61]) rfl rfl (by exact Nat.le_of_ble_eq_true rfl) (kc2 := 0) (ks2 := 0) rfl rfl (fun k9 h9 w9 => by cases w9.1) (fun r9 h9 w9 => ?_)
    obtain ⟨w1, w2⟩ := w9
    subst h9
    cases w1
    show jJ G X _ 0 0 _ _ (.int v64 :: _)
    refine jr_iadd K (D_at DX12_span_q3 1 rfl) ?_
    refine jr_istore K (D_at DX12_span_q3 2 rfl) (i := 5) (by decide) (L2 := [_, _, _, _, _, _]) rfl ?_
    refine jr_aload_n K (D_at DX12_span_q3 3 rfl) rfl rfl ?_
    obtain ⟨h71, e71, hf⟩ := jbind hf
    obtain ⟨rc_71, e71⟩ := jcv_o e71
    refine jr_callV K (C_X12_bringsBack (d + 9) e71) (D_at DX12_span_q3 4 rfl) cv_X12_351_X12_bringsBack (As := []) (ci := 10) rfl rc_71 rfl rfl (by exact Nat.le_of_ble_eq_true rfl) (kc2 := 0) (ks2 := 0) rfl rfl (fun k9 h9 w9 => by cases w9.1) (fun r9 h9 w9 => ?_)
    obtain ⟨w1, w2⟩ := w9
    subst h9
    cases w1
    show jJ G X _ 0 0 _ _ []
    refine jr_iload_n K (D_at DX12_span_q3 5 rfl) rfl rfl ?_
    refine jr_if_ge K (D_at DX12_span_q3 6 rfl) (tgt := 83) (by decide) (fun c75 => ?_) (fun c75 => ?_)
    · replace hf := (if_pos c75).symm.trans hf
      refine jr_iload_n K (D_at DX12_span_q3 9 rfl) rfl rfl ?_
      refine jr_if_eq K (D_at DX12_span_q3 10 rfl) (tgt := 96) (by decide) (fun c84 => ?_) (fun c84 => ?_)
      · replace hf := (if_pos c84).symm.trans hf
        refine jr_iload_n K (D_at DX12_span_q4 3 rfl) rfl rfl ?_
        refine jr_iload K (D_at DX12_span_q4 4 rfl) rfl ?_
        refine jr_min K (D_at DX12_span_q4 5 rfl) mm_X12_119 (by exact Nat.le_of_ble_eq_true rfl) ?_
        refine jr_istore_n K (D_at DX12_span_q4 6 rfl) (i := 3) rfl (by decide) (L2 := [_, _, _, _, _, _]) rfl ?_
        refine jr_iinc K (D_at DX12_span_q4 7 rfl) (i := 4) rfl (v := x4 + (1 : Int32)) (jinc (by decide)) (by decide) (L2 := [_, _, _, _, _, _]) rfl ?_
        refine jr_goto K (D_at DX12_span_q4 8 rfl) (tgt := 28) (by decide) ?_
        refine jr_keep [true, true, true, true, true, false] ?_
        exact hr28 a0 x1 x2 (if (v57 + v64) < x3 then v57 + v64 else x3) (x4 + (1 : Int32)) h71 hf
      · replace hf := (if_neg c84).symm.trans hf
        refine jr_iload_n K (D_at DX12_span_q3 11 rfl) rfl rfl ?_
        refine jr_iload K (D_at DX12_span_q4 0 rfl) rfl ?_
        refine jr_max K (D_at DX12_span_q4 1 rfl) mm_X12_368 (by exact Nat.le_of_ble_eq_true rfl) ?_
        refine jr_goto K (D_at DX12_span_q4 2 rfl) (tgt := 102) (by decide) ?_
        refine jr_istore_n K (D_at DX12_span_q4 6 rfl) (i := 3) rfl (by decide) (L2 := [_, _, _, _, _, _]) rfl ?_
        refine jr_iinc K (D_at DX12_span_q4 7 rfl) (i := 4) rfl (v := x4 + (1 : Int32)) (jinc (by decide)) (by decide) (L2 := [_, _, _, _, _, _]) rfl ?_
        refine jr_goto K (D_at DX12_span_q4 8 rfl) (tgt := 28) (by decide) ?_
        refine jr_keep [true, true, true, true, true, false] ?_
        exact hr28 a0 x1 x2 (if x3 < (v57 + v64) then v57 + v64 else x3) (x4 + (1 : Int32)) h71 hf
    · replace hf := (if_neg c75).symm.trans hf
      refine jr_iload K (D_at DX12_span_q3 7 rfl) rfl ?_
      refine jr_goto K (D_at DX12_span_q3 8 rfl) (tgt := 102) (by decide) ?_
      refine jr_istore_n K (D_at DX12_span_q4 6 rfl) (i := 3) rfl (by decide) (L2 := [_, _, _, _, _, _]) rfl ?_
      refine jr_iinc K (D_at DX12_span_q4 7 rfl) (i := 4) rfl (v := x4 + (1 : Int32)) (jinc (by decide)) (by decide) (L2 := [_, _, _, _, _, _]) rfl ?_
      refine jr_goto K (D_at DX12_span_q4 8 rfl) (tgt := 28) (by decide) ?_
      refine jr_keep [true, true, true, true, true, false] ?_
      exact hr28 a0 x1 x2 (v57 + v64) (x4 + (1 : Int32)) h71 hf
theorem J_X12_span_28 {G : jG} {l : Launch} {d : Nat} {X : jX} {res : (Int32 × jH)} (K : jOK G l mX12_span (d + 10) X) (n : Nat) (E : jEnd G mX12_span (jPW res) X) (k : Nat) : ∀ (a0 : Nat) (x1 : Int32) (x2 : Int32) (x3 : Int32) (x4 : Int32) (h : jH), F_X12_span_28 n k a0 x1 x2 x3 x4 h = some res → jJ G X h 0 0 28 [some (.ref a0), some (.int x1), some (.int x2), some (.int x3), some (.int x4), none] [] := by
  induction k with
  | zero =>
    intro a0 x1 x2 x3 x4 h hf
    exact jno (show (none : Option (Int32 × jH)) = some res from hf)
  | succ k ih =>
    intro a0 x1 x2 x3 x4 h hf
    exact J_X12_span_28_b K n (F_X12_span_28 n k) ih E a0 x1 x2 x3 x4 h hf
set_option maxHeartbeats 400000 in
set_option maxRecDepth 100000 in
theorem J_X12_span {G : jG} {l : Launch} {d : Nat} {X : jX} {res : (Int32 × jH)} (K : jOK G l mX12_span (d + 10) X) (n : Nat) (E : jEnd G mX12_span (jPW res) X) (a0 : Nat) (x1 : Int32) (x2 : Int32) (h : jH) (hf : F_X12_span n a0 x1 x2 h = some res) : jJ G X h 0 0 0 [some (.ref a0), some (.int x1), some (.int x2), none, none, none] [] := by
  unfold F_X12_span at hf
  refine jr_aload_n K (D_at DX12_span_q0 0 rfl) rfl rfl ?_
  refine jr_iconst K (D_at DX12_span_q0 1 rfl) (v := (0 : Int32)) (by decide) ?_
  obtain ⟨h2, e2, hf⟩ := jbind hf
  refine jr_putI K (D_at DX12_span_q0 2 rfl) fp_X12_3_10 (Or.inl rfl) e2 ?_
  refine jr_aload_n K (D_at DX12_span_q0 3 rfl) rfl rfl ?_
  refine jr_iload_n K (D_at DX12_span_q0 4 rfl) rfl rfl ?_
  obtain ⟨v7, e7, hf⟩ := jbind hf
  refine jr_callS K (C_X12_noAhead (d + 8) e7) (D_at DX12_span_q0 5 rfl) cs_X12_345_X12_noAhead (As := [.int x1]) rfl rfl (by exact Nat.le_of_ble_eq_true rfl) (kc2 := 0) (ks2 := 0) rfl rfl (fun k9 h9 w9 => by cases w9.1) (fun r9 h9 w9 => ?_)
  obtain ⟨w1, w2⟩ := w9
  subst h9
  cases w1
  show jJ G X _ 0 0 _ _ (.int v7 :: _)
  refine jr_iconst K (D_at DX12_span_q0 6 rfl) (v := (1 : Int32)) (by decide) ?_
  obtain ⟨q11, e11, hf⟩ := jbind hf
  obtain ⟨rc_11, e11⟩ := jcv_o e11
  refine jr_callV K (C_X12_throwsIf (d + 9) e11) (D_at DX12_span_q0 7 rfl) cv_X12_250_X12_throwsIf (As := [.int v7, .int (1 : Int32)]) (ci := 10) rfl rc_11 rfl rfl (by exact Nat.le_of_ble_eq_true rfl) (kc2 := 0) (ks2 := 0) rfl rfl (fun k9 h9 w9 => by cases w9.1) (fun r9 h9 w9 => ?_)
  obtain ⟨w1, w2⟩ := w9
  subst h9
  cases w1
  show jJ G X _ 0 0 _ _ (.int q11.1 :: _)
  refine jr_if_eq K (D_at DX12_span_q0 8 rfl) (tgt := 19) (by decide) (fun c14 => ?_) (fun c14 => ?_)
  · replace hf := (if_pos c14).symm.trans hf
    refine jr_aload_n K (D_at DX12_span_q0 11 rfl) rfl rfl ?_
    obtain ⟨h20, e20, hf⟩ := jbind hf
    obtain ⟨rc_20, e20⟩ := jcv_o e20
    refine jr_callV K (C_X12_keepsAll (d + 9) e20) (D_at DX12_span_q1 0 rfl) cv_X12_348_X12_keepsAll (As := []) (ci := 10) rfl rc_20 rfl rfl (by exact Nat.le_of_ble_eq_true rfl) (kc2 := 0) (ks2 := 0) rfl rfl (fun k9 h9 w9 => by cases w9.1) (fun r9 h9 w9 => ?_)
    obtain ⟨w1, w2⟩ := w9
    subst h9
    cases w1
    show jJ G X _ 0 0 _ _ []
    refine jr_iconst K (D_at DX12_span_q1 1 rfl) (v := (-1 : Int32)) (by decide) ?_
    refine jr_istore_n K (D_at DX12_span_q1 2 rfl) (i := 3) rfl (by decide) (L2 := [_, _, _, _, _, _]) rfl ?_
    refine jr_iconst K (D_at DX12_span_q1 3 rfl) (v := (1 : Int32)) (by decide) ?_
    refine jr_istore K (D_at DX12_span_q1 4 rfl) (i := 4) (by decide) (L2 := [_, _, _, _, _, _]) rfl ?_
    refine jr_keep [true, true, true, true, true, false] ?_
    exact J_X12_span_28 K n E n a0 x1 x2 (-1 : Int32) (1 : Int32) h20 hf
  · replace hf := (if_neg c14).symm.trans hf
    refine jr_iconst K (D_at DX12_span_q0 9 rfl) (v := (0 : Int32)) (by decide) ?_
    cases hf
    exact jr_iret K E (D_at DX12_span_q0 10 rfl) rfl ⟨rfl, rfl⟩
theorem C_X12_span {G : jG} {l : Launch} (d : Nat) {n : Nat} {a0 : Nat} {x1 : Int32} {x2 : Int32} {h : jH} {res : (Int32 × jH)} (hf : F_X12_span n a0 x1 x2 h = some res) : jC G l mX12_span (d + 10) 0 0 [.ref a0, .int x1, .int x2] h (jPW res) :=
  jC.of pn_X12 (jcats rfl) (Nat.le_of_ble_eq_true rfl) (fun X K E => J_X12_span K n E a0 x1 x2 h hf)
set_option maxHeartbeats 400000 in
set_option maxRecDepth 100000 in
theorem J_X12_ofLog {G : jG} {l : Launch} {d : Nat} {X : jX} {res : Int32} (K : jOK G l mX12_ofLog (d) X) (n : Nat) (h : jH) (E : jEnd G mX12_ofLog (jPR h res) X) (a0 : Nat) (x1 : Int32) (x2 : Int32) (hf : F_X12_ofLog n a0 x1 x2 h = some res) : jJ G X h 0 0 0 [some (.ref a0), some (.int x1), some (.int x2)] [] := by
  unfold F_X12_ofLog at hf
  refine jr_aload_n K (D_at DX12_ofLog_q0 0 rfl) rfl rfl ?_
  obtain ⟨p1, e1, hf⟩ := jbind hf
  refine jr_getR K (D_at DX12_ofLog_q0 1 rfl) fg_X12_13_10 e1 ?_
  refine jr_bipush K (D_at DX12_ofLog_q0 2 rfl) (v := (75 : Int32)) (by decide) ?_
  refine jr_bipush K (D_at DX12_ofLog_q0 3 rfl) (v := (6 : Int32)) (by decide) ?_
  refine jr_iload_n K (D_at DX12_ofLog_q0 4 rfl) rfl rfl ?_
  refine jr_imul K (D_at DX12_ofLog_q0 5 rfl) ?_
  refine jr_iadd K (D_at DX12_ofLog_q0 6 rfl) ?_
  refine jr_iload_n K (D_at DX12_ofLog_q0 7 rfl) rfl rfl ?_
  refine jr_iadd K (D_at DX12_ofLog_q0 8 rfl) ?_
  obtain ⟨v13, e13, hf⟩ := jbind hf
  refine jr_iald K (D_at DX12_ofLog_q0 9 rfl) e13 ?_
  cases hf
  exact jr_iret K E (D_at DX12_ofLog_q0 10 rfl) rfl ⟨rfl, rfl⟩
theorem C_X12_ofLog {G : jG} {l : Launch} (d : Nat) {n : Nat} {a0 : Nat} {x1 : Int32} {x2 : Int32} {h : jH} {res : Int32} (hf : F_X12_ofLog n a0 x1 x2 h = some res) : jC G l mX12_ofLog (d) 0 0 [.ref a0, .int x1, .int x2] h (jPR h res) :=
  jC.of pn_X12 (jcats rfl) (Nat.le_of_ble_eq_true rfl) (fun X K E => J_X12_ofLog K n h E a0 x1 x2 hf)
set_option maxHeartbeats 400000 in
set_option maxRecDepth 100000 in
theorem J_X12_led_36_b {G : jG} {l : Launch} {d : Nat} {X : jX} {res : (Int32 × jH)} (K : jOK G l mX12_led (d + 3) X) (n : Nat) (rc36 : Nat → Int32 → Int32 → Int32 → Int32 → Int32 → jH → Option (Int32 × jH)) (hr36 : ∀ (a0 : Nat) (x1 : Int32) (x2 : Int32) (x3 : Int32) (x4 : Int32) (x5 : Int32) (h : jH), rc36 a0 x1 x2 x3 x4 x5 h = some res → jJ G X h 0 0 36 [some (.ref a0), some (.int x1), some (.int x2), some (.int x3), some (.int x4), some (.int x5)] []) (E : jEnd G mX12_led (jPW res) X) (a0 : Nat) (x1 : Int32) (x2 : Int32) (x3 : Int32) (x4 : Int32) (x5 : Int32) (h : jH) (hf : F_X12_led_36_b n rc36 a0 x1 x2 x3 x4 x5 h = some res) : jJ G X h 0 0 36 [some (.ref a0), some (.int x1), some (.int x2), some (.int x3), some (.int x4), some (.int x5)] [] := by
  unfold F_X12_led_36_b at hf
  refine jr_iload K (D_at DX12_led_q1 11 rfl) rfl ?_
  refine jr_if_lt K (D_at DX12_led_q2 0 rfl) (tgt := 73) (by decide) (fun c38 => ?_) (fun c38 => ?_)
  · replace hf := (if_pos c38).symm.trans hf
    refine jr_iload_n K (D_at DX12_led_q3 4 rfl) rfl rfl ?_
    refine jr_if_eq K (D_at DX12_led_q3 5 rfl) (tgt := 82) (by decide) (fun c74 => ?_) (fun c74 => ?_)
    · replace hf := (if_pos c74).symm.trans hf
      refine jr_iload_n K (D_at DX12_led_q3 8 rfl) rfl rfl ?_
      cases hf
      exact jr_iret K E (D_at DX12_led_q3 9 rfl) rfl ⟨rfl, rfl⟩
    · replace hf := (if_neg c74).symm.trans hf
      refine jr_iload K (D_at DX12_led_q3 6 rfl) rfl ?_
      refine jr_goto K (D_at DX12_led_q3 7 rfl) (tgt := 83) (by decide) ?_
      cases hf
      exact jr_iret K E (D_at DX12_led_q3 9 rfl) rfl ⟨rfl, rfl⟩
  · replace hf := (if_neg c38).symm.trans hf
    refine jr_aload_n K (D_at DX12_led_q2 1 rfl) rfl rfl ?_
    refine jr_iload K (D_at DX12_led_q2 2 rfl) rfl ?_
    refine jr_iconst K (D_at DX12_led_q2 3 rfl) (v := (2 : Int32)) (by decide) ?_
    obtain ⟨v45, e45, hf⟩ := jbind hf
    obtain ⟨rc_45, e45⟩ := jcv_o e45
    refine jr_callV K (C_X12_ofLog (d + 2) e45) (D_at DX12_led_q2 4 rfl) cv_X12_416_X12_ofLog (As := [.int x5, .int (2 : Int32)]) (ci := 10) rfl rc_45 rfl rfl (by exact Nat.le_of_ble_eq_true rfl) (kc2 := 0) (ks2 := 0) rfl rfl (fun k9 h9 w9 => by cases w9.1) (fun r9 h9 w9 => ?_)
    obtain ⟨w1, w2⟩ := w9
    subst h9
    cases w1
    show jJ G X _ 0 0 _ _ (.int v45 :: _)
    refine jr_iload_n K (D_at DX12_led_q2 5 rfl) rfl rfl ?_
    refine jr_icmp_eq K (D_at DX12_led_q2 6 rfl) (tgt := 55) (by decide) (fun c49 => ?_) (fun c49 => ?_)
    · replace hf := (if_pos c49).symm.trans hf
      refine jr_iinc K (D_at DX12_led_q2 8 rfl) (i := 3) rfl (v := x3 + (1 : Int32)) (jinc (by decide)) (by decide) (L2 := [_, _, _, _, _, _]) rfl ?_
      refine jr_aload_n K (D_at DX12_led_q2 9 rfl) rfl rfl ?_
      refine jr_iload K (D_at DX12_led_q2 10 rfl) rfl ?_
      refine jr_iconst K (D_at DX12_led_q2 11 rfl) (v := (5 : Int32)) (by decide) ?_
      obtain ⟨v62, e62, hf⟩ := jbind hf
      obtain ⟨rc_62, e62⟩ := jcv_o e62
      refine jr_callV K (C_X12_ofLog (d + 2) e62) (D_at DX12_led_q3 0 rfl) cv_X12_416_X12_ofLog (As := [.int x5, .int (5 : Int32)]) (ci := 10) rfl rc_62 rfl rfl (by exact Nat.le_of_ble_eq_true rfl) (kc2 := 0) (ks2 := 0) rfl rfl (fun k9 h9 w9 => by cases w9.1) (fun r9 h9 w9 => ?_)
      obtain ⟨w1, w2⟩ := w9
      subst h9
      cases w1
      show jJ G X _ 0 0 _ _ (.int v62 :: _)
      refine jr_istore K (D_at DX12_led_q3 1 rfl) (i := 4) (by decide) (L2 := [_, _, _, _, _, _]) rfl ?_
      refine jr_iinc K (D_at DX12_led_q3 2 rfl) (i := 5) rfl (v := x5 + (-1 : Int32)) (jinc (by decide)) (by decide) (L2 := [_, _, _, _, _, _]) rfl ?_
      refine jr_goto K (D_at DX12_led_q3 3 rfl) (tgt := 36) (by decide) ?_
      refine jr_keep [true, true, true, true, true, true] ?_
      exact hr36 a0 x1 x2 (x3 + (1 : Int32)) v62 (x5 + (-1 : Int32)) h hf
    · replace hf := (if_neg c49).symm.trans hf
      refine jr_goto K (D_at DX12_led_q2 7 rfl) (tgt := 67) (by decide) ?_
      refine jr_iinc K (D_at DX12_led_q3 2 rfl) (i := 5) rfl (v := x5 + (-1 : Int32)) (jinc (by decide)) (by decide) (L2 := [_, _, _, _, _, _]) rfl ?_
      refine jr_goto K (D_at DX12_led_q3 3 rfl) (tgt := 36) (by decide) ?_
      refine jr_keep [true, true, true, true, true, true] ?_
      exact hr36 a0 x1 x2 x3 x4 (x5 + (-1 : Int32)) h hf
theorem J_X12_led_36 {G : jG} {l : Launch} {d : Nat} {X : jX} {res : (Int32 × jH)} (K : jOK G l mX12_led (d + 3) X) (n : Nat) (E : jEnd G mX12_led (jPW res) X) (k : Nat) : ∀ (a0 : Nat) (x1 : Int32) (x2 : Int32) (x3 : Int32) (x4 : Int32) (x5 : Int32) (h : jH), F_X12_led_36 n k a0 x1 x2 x3 x4 x5 h = some res → jJ G X h 0 0 36 [some (.ref a0), some (.int x1), some (.int x2), some (.int x3), some (.int x4), some (.int x5)] [] := by
  induction k with
  | zero =>
    intro a0 x1 x2 x3 x4 x5 h hf
    exact jno (show (none : Option (Int32 × jH)) = some res from hf)
  | succ k ih =>
    intro a0 x1 x2 x3 x4 x5 h hf
    exact J_X12_led_36_b K n (F_X12_led_36 n k) ih E a0 x1 x2 x3 x4 x5 h hf
set_option maxHeartbeats 400000 in
set_option maxRecDepth 100000 in
theorem J_X12_led {G : jG} {l : Launch} {d : Nat} {X : jX} {res : (Int32 × jH)} (K : jOK G l mX12_led (d + 3) X) (n : Nat) (E : jEnd G mX12_led (jPW res) X) (a0 : Nat) (x1 : Int32) (x2 : Int32) (h : jH) (hf : F_X12_led n a0 x1 x2 h = some res) : jJ G X h 0 0 0 [some (.ref a0), some (.int x1), some (.int x2), none, none, none] [] := by
  unfold F_X12_led at hf
  refine jr_aload_n K (D_at DX12_led_q0 0 rfl) rfl rfl ?_
  refine jr_iconst K (D_at DX12_led_q0 1 rfl) (v := (0 : Int32)) (by decide) ?_
  obtain ⟨h2, e2, hf⟩ := jbind hf
  refine jr_putI K (D_at DX12_led_q0 2 rfl) fp_X12_3_10 (Or.inl rfl) e2 ?_
  refine jr_aload_n K (D_at DX12_led_q0 3 rfl) rfl rfl ?_
  refine jr_aload_n K (D_at DX12_led_q0 4 rfl) rfl rfl ?_
  refine jr_iload_n K (D_at DX12_led_q0 5 rfl) rfl rfl ?_
  obtain ⟨v8, e8, hf⟩ := jbind hf
  obtain ⟨rc_8, e8⟩ := jcv_o e8
  refine jr_callV K (C_X12_noRing (d) e8) (D_at DX12_led_q0 6 rfl) cv_X12_277_X12_noRing (As := [.int x1]) (ci := 10) rfl rc_8 rfl rfl (by exact Nat.le_of_ble_eq_true rfl) (kc2 := 0) (ks2 := 0) rfl rfl (fun k9 h9 w9 => by cases w9.1) (fun r9 h9 w9 => ?_)
  obtain ⟨w1, w2⟩ := w9
  subst h9
  cases w1
  show jJ G X _ 0 0 _ _ (.int v8 :: _)
  refine jr_iconst K (D_at DX12_led_q0 7 rfl) (v := (1 : Int32)) (by decide) ?_
  obtain ⟨q12, e12, hf⟩ := jbind hf
  obtain ⟨rc_12, e12⟩ := jcv_o e12
  refine jr_callV K (C_X12_throwsIf (d + 2) e12) (D_at DX12_led_q0 8 rfl) cv_X12_250_X12_throwsIf (As := [.int v8, .int (1 : Int32)]) (ci := 10) rfl rc_12 rfl rfl (by exact Nat.le_of_ble_eq_true rfl) (kc2 := 0) (ks2 := 0) rfl rfl (fun k9 h9 w9 => by cases w9.1) (fun r9 h9 w9 => ?_)
  obtain ⟨w1, w2⟩ := w9
  subst h9
  cases w1
  show jJ G X _ 0 0 _ _ (.int q12.1 :: _)
  refine jr_if_eq K (D_at DX12_led_q0 9 rfl) (tgt := 20) (by decide) (fun c15 => ?_) (fun c15 => ?_)
  · replace hf := (if_pos c15).symm.trans hf
    refine jr_iconst K (D_at DX12_led_q1 0 rfl) (v := (0 : Int32)) (by decide) ?_
    refine jr_istore_n K (D_at DX12_led_q1 1 rfl) (i := 3) rfl (by decide) (L2 := [_, _, _, _, _, _]) rfl ?_
    refine jr_iconst K (D_at DX12_led_q1 2 rfl) (v := (-1 : Int32)) (by decide) ?_
    refine jr_istore K (D_at DX12_led_q1 3 rfl) (i := 4) (by decide) (L2 := [_, _, _, _, _, _]) rfl ?_
    refine jr_aload_n K (D_at DX12_led_q1 4 rfl) rfl rfl ?_
    obtain ⟨p26, e26, hf⟩ := jbind hf
    refine jr_getR K (D_at DX12_led_q1 5 rfl) fg_X12_13_10 e26 ?_
    refine jr_bipush K (D_at DX12_led_q1 6 rfl) (v := (9 : Int32)) (by decide) ?_
    obtain ⟨v31, e31, hf⟩ := jbind hf
    refine jr_iald K (D_at DX12_led_q1 7 rfl) e31 ?_
    refine jr_iconst K (D_at DX12_led_q1 8 rfl) (v := (1 : Int32)) (by decide) ?_
    refine jr_isub K (D_at DX12_led_q1 9 rfl) ?_
    refine jr_istore K (D_at DX12_led_q1 10 rfl) (i := 5) (by decide) (L2 := [_, _, _, _, _, _]) rfl ?_
    refine jr_keep [true, true, true, true, true, true] ?_
    exact J_X12_led_36 K n E n a0 x1 x2 (0 : Int32) (-1 : Int32) (v31 - (1 : Int32)) q12.2 hf
  · replace hf := (if_neg c15).symm.trans hf
    refine jr_iconst K (D_at DX12_led_q0 10 rfl) (v := (0 : Int32)) (by decide) ?_
    cases hf
    exact jr_iret K E (D_at DX12_led_q0 11 rfl) rfl ⟨rfl, rfl⟩
theorem C_X12_led {G : jG} {l : Launch} (d : Nat) {n : Nat} {a0 : Nat} {x1 : Int32} {x2 : Int32} {h : jH} {res : (Int32 × jH)} (hf : F_X12_led n a0 x1 x2 h = some res) : jC G l mX12_led (d + 3) 0 0 [.ref a0, .int x1, .int x2] h (jPW res) :=
  jC.of pn_X12 (jcats rfl) (Nat.le_of_ble_eq_true rfl) (fun X K E => J_X12_led K n E a0 x1 x2 h hf)
set_option maxHeartbeats 400000 in
set_option maxRecDepth 100000 in
theorem J_X12_log_20 {G : jG} {l : Launch} {d : Nat} {X : jX} {res : (Int32 × jH)} (K : jOK G l mX12_log (d + 1) X) (n : Nat) (E : jEnd G mX12_log (jPW res) X) (a0 : Nat) (x1 : Int32) (x2 : Int32) (sa0 : Nat) (s1 : Int32) (h : jH) (hf : F_X12_log_20 n a0 x1 x2 sa0 s1 h = some res) : jJ G X h 0 0 20 [some (.ref a0), some (.int x1), some (.int x2)] [.int s1, .ref sa0] := by
  unfold F_X12_log_20 at hf
  refine jr_iconst K (D_at DX12_log_q1 0 rfl) (v := (1 : Int32)) (by decide) ?_
  obtain ⟨q21, e21, hf⟩ := jbind hf
  obtain ⟨rc_21, e21⟩ := jcv_o e21
  refine jr_callV K (C_X12_throwsIf (d) e21) (D_at DX12_log_q1 1 rfl) cv_X12_250_X12_throwsIf (As := [.int s1, .int (1 : Int32)]) (ci := 10) rfl rc_21 rfl rfl (by exact Nat.le_of_ble_eq_true rfl) (kc2 := 0) (ks2 := 0) rfl rfl (fun k9 h9 w9 => by cases w9.1) (fun r9 h9 w9 => ?_)
  obtain ⟨w1, w2⟩ := w9
  subst h9
  cases w1
  show jJ G X _ 0 0 _ _ (.int q21.1 :: _)
  refine jr_if_eq K (D_at DX12_log_q1 2 rfl) (tgt := 29) (by decide) (fun c24 => ?_) (fun c24 => ?_)
  · replace hf := (if_pos c24).symm.trans hf
    refine jr_iload_n K (D_at DX12_log_q1 5 rfl) rfl rfl ?_
    refine jr_iconst K (D_at DX12_log_q1 6 rfl) (v := (0 : Int32)) (by decide) ?_
    refine jr_aload_n K (D_at DX12_log_q1 7 rfl) rfl rfl ?_
    obtain ⟨p32, e32, hf⟩ := jbind hf
    refine jr_getR K (D_at DX12_log_q1 8 rfl) fg_X12_13_10 e32 ?_
    refine jr_bipush K (D_at DX12_log_q1 9 rfl) (v := (9 : Int32)) (by decide) ?_
    obtain ⟨v37, e37, hf⟩ := jbind hf
    refine jr_iald K (D_at DX12_log_q1 10 rfl) e37 ?_
    refine jr_iconst K (D_at DX12_log_q1 11 rfl) (v := (1 : Int32)) (by decide) ?_
    refine jr_isub K (D_at DX12_log_q2 0 rfl) ?_
    obtain ⟨v40, e40, hf⟩ := jbind hf
    refine jr_callS K (C_X12_in (d) e40) (D_at DX12_log_q2 1 rfl) cs_X12_77_X12_in (As := [.int x1, .int (0 : Int32), .int (v37 - (1 : Int32))]) rfl rfl (by exact Nat.le_of_ble_eq_true rfl) (kc2 := 0) (ks2 := 0) rfl rfl (fun k9 h9 w9 => by cases w9.1) (fun r9 h9 w9 => ?_)
    obtain ⟨w1, w2⟩ := w9
    subst h9
    cases w1
    show jJ G X _ 0 0 _ _ (.int v40 :: _)
    refine jr_if_eq K (D_at DX12_log_q2 2 rfl) (tgt := 55) (by decide) (fun c43 => ?_) (fun c43 => ?_)
    · replace hf := (if_pos c43).symm.trans hf
      refine jr_iconst K (D_at DX12_log_q2 8 rfl) (v := (-1 : Int32)) (by decide) ?_
      cases hf
      exact jr_iret K E (D_at DX12_log_q2 9 rfl) rfl ⟨rfl, rfl⟩
    · replace hf := (if_neg c43).symm.trans hf
      refine jr_aload_n K (D_at DX12_log_q2 3 rfl) rfl rfl ?_
      refine jr_iload_n K (D_at DX12_log_q2 4 rfl) rfl rfl ?_
      refine jr_iload_n K (D_at DX12_log_q2 5 rfl) rfl rfl ?_
      obtain ⟨v49, e49, hf⟩ := jbind hf
      obtain ⟨rc_49, e49⟩ := jcv_o e49
      refine jr_callV K (C_X12_ofLog (d) e49) (D_at DX12_log_q2 6 rfl) cv_X12_416_X12_ofLog (As := [.int x1, .int x2]) (ci := 10) rfl rc_49 rfl rfl (by exact Nat.le_of_ble_eq_true rfl) (kc2 := 0) (ks2 := 0) rfl rfl (fun k9 h9 w9 => by cases w9.1) (fun r9 h9 w9 => ?_)
      obtain ⟨w1, w2⟩ := w9
      subst h9
      cases w1
      show jJ G X _ 0 0 _ _ (.int v49 :: _)
      refine jr_goto K (D_at DX12_log_q2 7 rfl) (tgt := 56) (by decide) ?_
      cases hf
      exact jr_iret K E (D_at DX12_log_q2 9 rfl) rfl ⟨rfl, rfl⟩
  · replace hf := (if_neg c24).symm.trans hf
    refine jr_iconst K (D_at DX12_log_q1 3 rfl) (v := (0 : Int32)) (by decide) ?_
    cases hf
    exact jr_iret K E (D_at DX12_log_q1 4 rfl) rfl ⟨rfl, rfl⟩
set_option maxHeartbeats 400000 in
set_option maxRecDepth 100000 in
theorem J_X12_log {G : jG} {l : Launch} {d : Nat} {X : jX} {res : (Int32 × jH)} (K : jOK G l mX12_log (d + 1) X) (n : Nat) (E : jEnd G mX12_log (jPW res) X) (a0 : Nat) (x1 : Int32) (x2 : Int32) (h : jH) (hf : F_X12_log n a0 x1 x2 h = some res) : jJ G X h 0 0 0 [some (.ref a0), some (.int x1), some (.int x2)] [] := by
  unfold F_X12_log at hf
  refine jr_aload_n K (D_at DX12_log_q0 0 rfl) rfl rfl ?_
  refine jr_iconst K (D_at DX12_log_q0 1 rfl) (v := (0 : Int32)) (by decide) ?_
  obtain ⟨h2, e2, hf⟩ := jbind hf
  refine jr_putI K (D_at DX12_log_q0 2 rfl) fp_X12_3_10 (Or.inl rfl) e2 ?_
  refine jr_aload_n K (D_at DX12_log_q0 3 rfl) rfl rfl ?_
  refine jr_iload_n K (D_at DX12_log_q0 4 rfl) rfl rfl ?_
  refine jr_iconst K (D_at DX12_log_q0 5 rfl) (v := (0 : Int32)) (by decide) ?_
  refine jr_iconst K (D_at DX12_log_q0 6 rfl) (v := (5 : Int32)) (by decide) ?_
  obtain ⟨v9, e9, hf⟩ := jbind hf
  refine jr_callS K (C_X12_in (d) e9) (D_at DX12_log_q0 7 rfl) cs_X12_77_X12_in (As := [.int x2, .int (0 : Int32), .int (5 : Int32)]) rfl rfl (by exact Nat.le_of_ble_eq_true rfl) (kc2 := 0) (ks2 := 0) rfl rfl (fun k9 h9 w9 => by cases w9.1) (fun r9 h9 w9 => ?_)
  obtain ⟨w1, w2⟩ := w9
  subst h9
  cases w1
  show jJ G X _ 0 0 _ _ (.int v9 :: _)
  refine jr_if_ne K (D_at DX12_log_q0 8 rfl) (tgt := 19) (by decide) (fun c12 => ?_) (fun c12 => ?_)
  · replace hf := (if_neg c12).symm.trans hf
    refine jr_iconst K (D_at DX12_log_q0 11 rfl) (v := (0 : Int32)) (by decide) ?_
    refine jr_keep [true, true, true] ?_
    exact J_X12_log_20 K n E a0 x1 x2 a0 (0 : Int32) h2 hf
  · replace hf := (if_pos c12).symm.trans hf
    refine jr_iconst K (D_at DX12_log_q0 9 rfl) (v := (1 : Int32)) (by decide) ?_
    refine jr_goto K (D_at DX12_log_q0 10 rfl) (tgt := 20) (by decide) ?_
    refine jr_keep [true, true, true] ?_
    exact J_X12_log_20 K n E a0 x1 x2 a0 (1 : Int32) h2 hf
theorem C_X12_log {G : jG} {l : Launch} (d : Nat) {n : Nat} {a0 : Nat} {x1 : Int32} {x2 : Int32} {h : jH} {res : (Int32 × jH)} (hf : F_X12_log n a0 x1 x2 h = some res) : jC G l mX12_log (d + 1) 0 0 [.ref a0, .int x1, .int x2] h (jPW res) :=
  jC.of pn_X12 (jcats rfl) (Nat.le_of_ble_eq_true rfl) (fun X K E => J_X12_log K n E a0 x1 x2 h hf)
set_option maxHeartbeats 400000 in
set_option maxRecDepth 100000 in
theorem J_X12_seed {G : jG} {l : Launch} {d : Nat} {X : jX} {res : (Int32 × jH)} (K : jOK G l mX12_seed (d) X) (n : Nat) (E : jEnd G mX12_seed (jPW res) X) (a0 : Nat) (x1 : Int32) (h : jH) (hf : F_X12_seed n a0 x1 h = some res) : jJ G X h 0 0 0 [some (.ref a0), some (.int x1), none] [] := by
  unfold F_X12_seed at hf
  refine jr_aload_n K (D_at DX12_seed_q0 0 rfl) rfl rfl ?_
  refine jr_iconst K (D_at DX12_seed_q0 1 rfl) (v := (0 : Int32)) (by decide) ?_
  obtain ⟨h2, e2, hf⟩ := jbind hf
  refine jr_putI K (D_at DX12_seed_q0 2 rfl) fp_X12_3_10 (Or.inl rfl) e2 ?_
  refine jr_aload_n K (D_at DX12_seed_q0 3 rfl) rfl rfl ?_
  obtain ⟨p6, e6, hf⟩ := jbind hf
  refine jr_getR K (D_at DX12_seed_q0 4 rfl) fg_X12_13_10 e6 ?_
  refine jr_bipush K (D_at DX12_seed_q0 5 rfl) (v := (10 : Int32)) (by decide) ?_
  obtain ⟨v11, e11, hf⟩ := jbind hf
  refine jr_iald K (D_at DX12_seed_q0 6 rfl) e11 ?_
  refine jr_istore_n K (D_at DX12_seed_q0 7 rfl) (i := 2) rfl (by decide) (L2 := [_, _, _]) rfl ?_
  refine jr_aload_n K (D_at DX12_seed_q0 8 rfl) rfl rfl ?_
  obtain ⟨p14, e14, hf⟩ := jbind hf
  refine jr_getR K (D_at DX12_seed_q0 9 rfl) fg_X12_13_10 e14 ?_
  refine jr_bipush K (D_at DX12_seed_q0 10 rfl) (v := (10 : Int32)) (by decide) ?_
  refine jr_iload_n K (D_at DX12_seed_q0 11 rfl) rfl rfl ?_
  obtain ⟨h20, e20, hf⟩ := jbind hf
  refine jr_iast K (D_at DX12_seed_q1 0 rfl) e20 ?_
  refine jr_iload_n K (D_at DX12_seed_q1 1 rfl) rfl rfl ?_
  cases hf
  exact jr_iret K E (D_at DX12_seed_q1 2 rfl) rfl ⟨rfl, rfl⟩
theorem C_X12_seed {G : jG} {l : Launch} (d : Nat) {n : Nat} {a0 : Nat} {x1 : Int32} {h : jH} {res : (Int32 × jH)} (hf : F_X12_seed n a0 x1 h = some res) : jC G l mX12_seed (d) 0 0 [.ref a0, .int x1] h (jPW res) :=
  jC.of pn_X12 (jcats rfl) (Nat.le_of_ble_eq_true rfl) (fun X K E => J_X12_seed K n E a0 x1 h hf)
set_option maxHeartbeats 400000 in
set_option maxRecDepth 100000 in
theorem J_X12_count {G : jG} {l : Launch} {d : Nat} {X : jX} {res : (Int32 × jH)} (K : jOK G l mX12_count (d + 1) X) (n : Nat) (E : jEnd G mX12_count (jPW res) X) (a0 : Nat) (x1 : Int32) (h : jH) (hf : F_X12_count n a0 x1 h = some res) : jJ G X h 0 0 0 [some (.ref a0), some (.int x1)] [] := by
  unfold F_X12_count at hf
  refine jr_aload_n K (D_at DX12_count_q0 0 rfl) rfl rfl ?_
  refine jr_iconst K (D_at DX12_count_q0 1 rfl) (v := (0 : Int32)) (by decide) ?_
  obtain ⟨h2, e2, hf⟩ := jbind hf
  refine jr_putI K (D_at DX12_count_q0 2 rfl) fp_X12_3_10 (Or.inl rfl) e2 ?_
  refine jr_iload_n K (D_at DX12_count_q0 3 rfl) rfl rfl ?_
  by_cases c6_0 : x1 = (2 : Int32)
  · replace hf := (if_pos c6_0).symm.trans hf
    refine jr_lookup K (D_at DX12_count_q1 0 rfl) (off := 34) (tgt := 40) (by decide) (by rw [c6_0]; decide) (by decide) ?_
    refine jr_aload_n K (D_at DX12_count_q2 0 rfl) rfl rfl ?_
    obtain ⟨p41, e41, hf⟩ := jbind hf
    refine jr_getR K (D_at DX12_count_q2 1 rfl) fg_X12_13_10 e41 ?_
    refine jr_iconst K (D_at DX12_count_q2 2 rfl) (v := (2 : Int32)) (by decide) ?_
    obtain ⟨v45, e45, hf⟩ := jbind hf
    refine jr_iald K (D_at DX12_count_q2 3 rfl) e45 ?_
    refine jr_iconst K (D_at DX12_count_q2 4 rfl) (v := (1 : Int32)) (by decide) ?_
    refine jr_icmp_ne K (D_at DX12_count_q2 5 rfl) (tgt := 61) (by decide) (fun c47 => ?_) (fun c47 => ?_)
    · replace hf := (if_neg c47).symm.trans hf
      refine jr_iconst K (D_at DX12_count_q2 11 rfl) (v := (-1 : Int32)) (by decide) ?_
      cases hf
      exact jr_iret K E (D_at DX12_count_q3 0 rfl) rfl ⟨rfl, rfl⟩
    · replace hf := (if_pos c47).symm.trans hf
      refine jr_aload_n K (D_at DX12_count_q2 6 rfl) rfl rfl ?_
      obtain ⟨p51, e51, hf⟩ := jbind hf
      refine jr_getR K (D_at DX12_count_q2 7 rfl) fg_X12_13_10 e51 ?_
      refine jr_sipush K (D_at DX12_count_q2 8 rfl) (v := (435 : Int32)) (by decide) ?_
      obtain ⟨v57, e57, hf⟩ := jbind hf
      refine jr_iald K (D_at DX12_count_q2 9 rfl) e57 ?_
      refine jr_goto K (D_at DX12_count_q2 10 rfl) (tgt := 62) (by decide) ?_
      cases hf
      exact jr_iret K E (D_at DX12_count_q3 0 rfl) rfl ⟨rfl, rfl⟩
  replace hf := (if_neg c6_0).symm.trans hf
  by_cases c6_1 : x1 = (9 : Int32)
  · replace hf := (if_pos c6_1).symm.trans hf
    refine jr_lookup K (D_at DX12_count_q1 0 rfl) (off := 57) (tgt := 63) (by decide) (by rw [c6_1]; decide) (by decide) ?_
    refine jr_aload_n K (D_at DX12_count_q3 1 rfl) rfl rfl ?_
    obtain ⟨p64, e64, hf⟩ := jbind hf
    refine jr_getR K (D_at DX12_count_q3 2 rfl) fg_X12_13_10 e64 ?_
    refine jr_bipush K (D_at DX12_count_q3 3 rfl) (v := (9 : Int32)) (by decide) ?_
    obtain ⟨v69, e69, hf⟩ := jbind hf
    refine jr_iald K (D_at DX12_count_q3 4 rfl) e69 ?_
    cases hf
    exact jr_iret K E (D_at DX12_count_q3 5 rfl) rfl ⟨rfl, rfl⟩
  replace hf := (if_neg c6_1).symm.trans hf
  by_cases c6_2 : x1 = (10 : Int32)
  · replace hf := (if_pos c6_2).symm.trans hf
    refine jr_lookup K (D_at DX12_count_q1 0 rfl) (off := 65) (tgt := 71) (by decide) (by rw [c6_2]; decide) (by decide) ?_
    refine jr_aload_n K (D_at DX12_count_q3 6 rfl) rfl rfl ?_
    obtain ⟨v72, e72, hf⟩ := jbind hf
    refine jr_getI K (D_at DX12_count_q3 7 rfl) fg_X12_56_10 e72 ?_
    cases hf
    exact jr_iret K E (D_at DX12_count_q3 8 rfl) rfl ⟨rfl, rfl⟩
  replace hf := (if_neg c6_2).symm.trans hf
  refine jr_lookup K (D_at DX12_count_q1 0 rfl) (off := 70) (tgt := 76) (by decide) (by show Op.lookupswitch.offset [(2, 34), (9, 57), (10, 65)] 70 _ = _; rw [lv_osw c6_0 (a := 2) (by decide), lv_osw c6_1 (a := 9) (by decide), lv_osw c6_2 (a := 10) (by decide)]; rfl) (by decide) ?_
  refine jr_iload_n K (D_at DX12_count_q3 9 rfl) rfl rfl ?_
  refine jr_iconst K (D_at DX12_count_q3 10 rfl) (v := (0 : Int32)) (by decide) ?_
  refine jr_bipush K (D_at DX12_count_q3 11 rfl) (v := (8 : Int32)) (by decide) ?_
  obtain ⟨v80, e80, hf⟩ := jbind hf
  refine jr_callS K (C_X12_in (d) e80) (D_at DX12_count_q4 0 rfl) cs_X12_77_X12_in (As := [.int x1, .int (0 : Int32), .int (8 : Int32)]) rfl rfl (by exact Nat.le_of_ble_eq_true rfl) (kc2 := 0) (ks2 := 0) rfl rfl (fun k9 h9 w9 => by cases w9.1) (fun r9 h9 w9 => ?_)
  obtain ⟨w1, w2⟩ := w9
  subst h9
  cases w1
  show jJ G X _ 0 0 _ _ (.int v80 :: _)
  refine jr_if_eq K (D_at DX12_count_q4 1 rfl) (tgt := 95) (by decide) (fun c83 => ?_) (fun c83 => ?_)
  · replace hf := (if_pos c83).symm.trans hf
    refine jr_iconst K (D_at DX12_count_q4 7 rfl) (v := (-1 : Int32)) (by decide) ?_
    cases hf
    exact jr_iret K E (D_at DX12_count_q4 8 rfl) rfl ⟨rfl, rfl⟩
  · replace hf := (if_neg c83).symm.trans hf
    refine jr_aload_n K (D_at DX12_count_q4 2 rfl) rfl rfl ?_
    obtain ⟨p87, e87, hf⟩ := jbind hf
    refine jr_getR K (D_at DX12_count_q4 3 rfl) fg_X12_13_10 e87 ?_
    refine jr_iload_n K (D_at DX12_count_q4 4 rfl) rfl rfl ?_
    obtain ⟨v91, e91, hf⟩ := jbind hf
    refine jr_iald K (D_at DX12_count_q4 5 rfl) e91 ?_
    refine jr_goto K (D_at DX12_count_q4 6 rfl) (tgt := 96) (by decide) ?_
    cases hf
    exact jr_iret K E (D_at DX12_count_q4 8 rfl) rfl ⟨rfl, rfl⟩
theorem C_X12_count {G : jG} {l : Launch} (d : Nat) {n : Nat} {a0 : Nat} {x1 : Int32} {h : jH} {res : (Int32 × jH)} (hf : F_X12_count n a0 x1 h = some res) : jC G l mX12_count (d + 1) 0 0 [.ref a0, .int x1] h (jPW res) :=
  jC.of pn_X12 (jcats rfl) (Nat.le_of_ble_eq_true rfl) (fun X K E => J_X12_count K n E a0 x1 h hf)
end
