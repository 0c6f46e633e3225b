section
set_option maxHeartbeats 400000 in
set_option maxRecDepth 100000 in
theorem J_X12_order_26_b {G : jG} {l : Launch} {d : Nat} {X : jX} {res : (Int32 × jH)} (K : jOK G l mX12_order (d + 2) X) (n : Nat) (rc9 : Nat → Int32 → Int32 → jH → Option (Int32 × jH)) (hr9 : ∀ (a0 : Nat) (x1 : Int32) (x2 : Int32) (h : jH), rc9 a0 x1 x2 h = some res → jJ G X h 0 0 9 [some (.ref a0), some (.int x1), some (.int x2), none] []) (rc26 : Nat → Int32 → Int32 → Int32 → jH → Option (Int32 × jH)) (hr26 : ∀ (a0 : Nat) (x1 : Int32) (x2 : Int32) (x3 : Int32) (h : jH), rc26 a0 x1 x2 x3 h = some res → jJ G X h 0 0 26 [some (.ref a0), some (.int x1), some (.int x2), some (.int x3)] []) (E : jEnd G mX12_order (jPW res) X) (a0 : Nat) (x1 : Int32) (x2 : Int32) (x3 : Int32) (h : jH) (hf : F_X12_order_26_b n rc9 rc26 a0 x1 x2 x3 h = some res) : jJ G X h 0 0 26 [some (.ref a0), some (.int x1), some (.int x2), some (.int x3)] [] := by
  unfold F_X12_order_26_b at hf
  refine jr_iload_n K (D_at DX12_order 18 rfl) rfl rfl ?_
  refine jr_iload_n K (D_at DX12_order 19 rfl) rfl rfl ?_
  refine jr_icmp_ge K (D_at DX12_order 20 rfl) (tgt := 84) (by decide) (fun c28 => ?_) (fun c28 => ?_)
  · replace hf := (if_pos c28).symm.trans hf
    refine jr_iload_n K (D_at DX12_order 52 rfl) rfl rfl ?_
    refine jr_aload_n K (D_at DX12_order 53 rfl) rfl rfl ?_
    obtain ⟨p86, e86, hf⟩ := jbind hf
    refine jr_getR K (D_at DX12_order 54 rfl) fg_X12_49_10 e86 ?_
    refine jr_iload_n K (D_at DX12_order 55 rfl) rfl rfl ?_
    obtain ⟨v90, e90, hf⟩ := jbind hf
    refine jr_iald K (D_at DX12_order 56 rfl) e90 ?_
    refine jr_max K (D_at DX12_order 57 rfl) mm_X12_368 (by exact Nat.le_of_ble_eq_true rfl) ?_
    refine jr_istore_n K (D_at DX12_order 58 rfl) (i := 1) rfl (by decide) (L2 := [_, _, _, _]) rfl ?_
    refine jr_iinc K (D_at DX12_order 59 rfl) (i := 2) rfl (v := x2 + (1 : Int32)) (jinc (by decide)) (by decide) (L2 := [_, _, _, _]) rfl ?_
    refine jr_goto K (D_at DX12_order 60 rfl) (tgt := 9) (by decide) ?_
    refine jr_keep [true, true, true, false] ?_
    exact hr9 a0 (if x1 < v90 then v90 else x1) (x2 + (1 : Int32)) h hf
  · replace hf := (if_neg c28).symm.trans hf
    refine jr_aload_n K (D_at DX12_order 21 rfl) rfl rfl ?_
    obtain ⟨p32, e32, hf⟩ := jbind hf
    refine jr_getR K (D_at DX12_order 22 rfl) fg_X12_49_10 e32 ?_
    refine jr_iload_n K (D_at DX12_order 23 rfl) rfl rfl ?_
    refine jr_aload_n K (D_at DX12_order 24 rfl) rfl rfl ?_
    refine jr_iload_n K (D_at DX12_order 25 rfl) rfl rfl ?_
    refine jr_iconst K (D_at DX12_order 26 rfl) (v := (4 : Int32)) (by decide) ?_
    obtain ⟨v39, e39, hf⟩ := jbind hf
    obtain ⟨rc_39, e39⟩ := jcv_o e39
    refine jr_callV K (C_X12_of (d) e39) (D_at DX12_order 27 rfl) cv_X12_67_X12_of (As := [.int x3, .int (4 : Int32)]) (ci := 10) rfl rc_39 rfl rfl (by exact Nat.le_of_ble_eq_true rfl) (kc2 := 0) (ks2 := 0) rfl rfl (fun k9 h9 w9 => by cases w9.1) (fun r9 h9 w9 => ?_)
    obtain ⟨w1, w2⟩ := w9
    subst h9
    cases w1
    show jJ G X _ 0 0 _ _ (.int v39 :: _)
    refine jr_aload_n K (D_at DX12_order 28 rfl) rfl rfl ?_
    refine jr_iload_n K (D_at DX12_order 29 rfl) rfl rfl ?_
    refine jr_iconst K (D_at DX12_order 30 rfl) (v := (4 : Int32)) (by decide) ?_
    obtain ⟨v45, e45, hf⟩ := jbind hf
    obtain ⟨rc_45, e45⟩ := jcv_o e45
    refine jr_callV K (C_X12_of (d) e45) (D_at DX12_order 31 rfl) cv_X12_67_X12_of (As := [.int x2, .int (4 : Int32)]) (ci := 10) rfl rc_45 rfl rfl (by exact Nat.le_of_ble_eq_true rfl) (kc2 := 0) (ks2 := 0) rfl rfl (fun k9 h9 w9 => by cases w9.1) (fun r9 h9 w9 => ?_)
    obtain ⟨w1, w2⟩ := w9
    subst h9
    cases w1
    show jJ G X _ 0 0 _ _ (.int v45 :: _)
    refine jr_icmp_gt K (D_at DX12_order 32 rfl) (tgt := 71) (by decide) (fun c48 => ?_) (fun c48 => ?_)
    · replace hf := (if_pos c48).symm.trans hf
      refine jr_aload_n K (D_at DX12_order 45 rfl) rfl rfl ?_
      obtain ⟨p72, e72, hf⟩ := jbind hf
      refine jr_getR K (D_at DX12_order 46 rfl) fg_X12_49_10 e72 ?_
      refine jr_iload_n K (D_at DX12_order 47 rfl) rfl rfl ?_
      obtain ⟨v76, e76, hf⟩ := jbind hf
      refine jr_iald K (D_at DX12_order 48 rfl) e76 ?_
      obtain ⟨h77, e77, hf⟩ := jbind hf
      refine jr_iast K (D_at DX12_order 49 rfl) e77 ?_
      refine jr_iinc K (D_at DX12_order 50 rfl) (i := 3) rfl (v := x3 + (1 : Int32)) (jinc (by decide)) (by decide) (L2 := [_, _, _, _]) rfl ?_
      refine jr_goto K (D_at DX12_order 51 rfl) (tgt := 26) (by decide) ?_
      refine jr_keep [true, true, true, true] ?_
      exact hr26 a0 x1 x2 (x3 + (1 : Int32)) h77 hf
    · replace hf := (if_neg c48).symm.trans hf
      refine jr_aload_n K (D_at DX12_order 33 rfl) rfl rfl ?_
      obtain ⟨p52, e52, hf⟩ := jbind hf
      refine jr_getR K (D_at DX12_order 34 rfl) fg_X12_49_10 e52 ?_
      refine jr_iload_n K (D_at DX12_order 35 rfl) rfl rfl ?_
      obtain ⟨v56, e56, hf⟩ := jbind hf
      refine jr_iald K (D_at DX12_order 36 rfl) e56 ?_
      refine jr_aload_n K (D_at DX12_order 37 rfl) rfl rfl ?_
      obtain ⟨p58, e58, hf⟩ := jbind hf
      refine jr_getR K (D_at DX12_order 38 rfl) fg_X12_49_10 e58 ?_
      refine jr_iload_n K (D_at DX12_order 39 rfl) rfl rfl ?_
      obtain ⟨v62, e62, hf⟩ := jbind hf
      refine jr_iald K (D_at DX12_order 40 rfl) e62 ?_
      refine jr_iconst K (D_at DX12_order 41 rfl) (v := (1 : Int32)) (by decide) ?_
      refine jr_iadd K (D_at DX12_order 42 rfl) ?_
      refine jr_max K (D_at DX12_order 43 rfl) mm_X12_368 (by exact Nat.le_of_ble_eq_true rfl) ?_
      refine jr_goto K (D_at DX12_order 44 rfl) (tgt := 77) (by decide) ?_
      obtain ⟨h77, e77, hf⟩ := jbind hf
      refine jr_iast K (D_at DX12_order 49 rfl) e77 ?_
      refine jr_iinc K (D_at DX12_order 50 rfl) (i := 3) rfl (v := x3 + (1 : Int32)) (jinc (by decide)) (by decide) (L2 := [_, _, _, _]) rfl ?_
      refine jr_goto K (D_at DX12_order 51 rfl) (tgt := 26) (by decide) ?_
      refine jr_keep [true, true, true, true] ?_
      exact hr26 a0 x1 x2 (x3 + (1 : Int32)) h77 hf
theorem J_X12_order_26 {G : jG} {l : Launch} {d : Nat} {X : jX} {res : (Int32 × jH)} (K : jOK G l mX12_order (d + 2) X) (n : Nat) (rc9 : Nat → Int32 → Int32 → jH → Option (Int32 × jH)) (hr9 : ∀ (a0 : Nat) (x1 : Int32) (x2 : Int32) (h : jH), rc9 a0 x1 x2 h = some res → jJ G X h 0 0 9 [some (.ref a0), some (.int x1), some (.int x2), none] []) (E : jEnd G mX12_order (jPW res) X) (k : Nat) : ∀ (a0 : Nat) (x1 : Int32) (x2 : Int32) (x3 : Int32) (h : jH), F_X12_order_26 n rc9 k a0 x1 x2 x3 h = some res → jJ G X h 0 0 26 [some (.ref a0), some (.int x1), some (.int x2), some (.int x3)] [] := by
  induction k with
  | zero =>
    intro a0 x1 x2 x3 h hf
    exact jno (show (none : Option (Int32 × jH)) = some res from hf)
  | succ k ih =>
    intro a0 x1 x2 x3 h hf
    exact J_X12_order_26_b K n rc9 hr9 (F_X12_order_26 n rc9 k) ih E a0 x1 x2 x3 h hf
set_option maxHeartbeats 400000 in
set_option maxRecDepth 100000 in
theorem J_X12_order_9_b {G : jG} {l : Launch} {d : Nat} {X : jX} {res : (Int32 × jH)} (K : jOK G l mX12_order (d + 2) X) (n : Nat) (rc9 : Nat → Int32 → Int32 → jH → Option (Int32 × jH)) (hr9 : ∀ (a0 : Nat) (x1 : Int32) (x2 : Int32) (h : jH), rc9 a0 x1 x2 h = some res → jJ G X h 0 0 9 [some (.ref a0), some (.int x1), some (.int x2), none] []) (E : jEnd G mX12_order (jPW res) X) (a0 : Nat) (x1 : Int32) (x2 : Int32) (h : jH) (hf : F_X12_order_9_b n rc9 a0 x1 x2 h = some res) : jJ G X h 0 0 9 [some (.ref a0), some (.int x1), some (.int x2), none] [] := by
  unfold F_X12_order_9_b at hf
  refine jr_iload_n K (D_at DX12_order 7 rfl) rfl rfl ?_
  refine jr_aload_n K (D_at DX12_order 8 rfl) rfl rfl ?_
  obtain ⟨v11, e11, hf⟩ := jbind hf
  obtain ⟨rc_11, e11⟩ := jcv_o e11
  refine jr_callV K (C_X12_rings (d + 1) e11) (D_at DX12_order 9 rfl) cv_X12_59_X12_rings (As := []) (ci := 10) rfl rc_11 rfl rfl (by exact Nat.le_of_ble_eq_true rfl) (kc2 := 0) (ks2 := 0) rfl rfl (fun k9 h9 w9 => by cases w9.1) (fun r9 h9 w9 => ?_)
  obtain ⟨w1, w2⟩ := w9
  subst h9
  cases w1
  show jJ G X _ 0 0 _ _ (.int v11 :: _)
  refine jr_icmp_ge K (D_at DX12_order 10 rfl) (tgt := 101) (by decide) (fun c14 => ?_) (fun c14 => ?_)
  · replace hf := (if_pos c14).symm.trans hf
    refine jr_aload_n K (D_at DX12_order 61 rfl) rfl rfl ?_
    obtain ⟨v102, e102, hf⟩ := jbind hf
    obtain ⟨rc_102, e102⟩ := jcv_o e102
    refine jr_callV K (C_X12_rings (d + 1) e102) (D_at DX12_order 62 rfl) cv_X12_59_X12_rings (As := []) (ci := 10) rfl rc_102 rfl rfl (by exact Nat.le_of_ble_eq_true rfl) (kc2 := 0) (ks2 := 0) rfl rfl (fun k9 h9 w9 => by cases w9.1) (fun r9 h9 w9 => ?_)
    obtain ⟨w1, w2⟩ := w9
    subst h9
    cases w1
    show jJ G X _ 0 0 _ _ (.int v102 :: _)
    refine jr_iload_n K (D_at DX12_order 63 rfl) rfl rfl ?_
    refine jr_isub K (D_at DX12_order_1 0 rfl) ?_
    cases hf
    exact jr_iret K E (D_at DX12_order_1 1 rfl) rfl ⟨rfl, rfl⟩
  · replace hf := (if_neg c14).symm.trans hf
    refine jr_aload_n K (D_at DX12_order 11 rfl) rfl rfl ?_
    obtain ⟨p18, e18, hf⟩ := jbind hf
    refine jr_getR K (D_at DX12_order 12 rfl) fg_X12_49_10 e18 ?_
    refine jr_iload_n K (D_at DX12_order 13 rfl) rfl rfl ?_
    refine jr_iconst K (D_at DX12_order 14 rfl) (v := (1 : Int32)) (by decide) ?_
    obtain ⟨h23, e23, hf⟩ := jbind hf
    refine jr_iast K (D_at DX12_order 15 rfl) e23 ?_
    refine jr_iconst K (D_at DX12_order 16 rfl) (v := (0 : Int32)) (by decide) ?_
    refine jr_istore_n K (D_at DX12_order 17 rfl) (i := 3) rfl (by decide) (L2 := [_, _, _, _]) rfl ?_
    refine jr_keep [true, true, true, true] ?_
    exact J_X12_order_26 K n rc9 hr9 E n a0 x1 x2 (0 : Int32) h23 hf
theorem J_X12_order_9 {G : jG} {l : Launch} {d : Nat} {X : jX} {res : (Int32 × jH)} (K : jOK G l mX12_order (d + 2) X) (n : Nat) (E : jEnd G mX12_order (jPW res) X) (k : Nat) : ∀ (a0 : Nat) (x1 : Int32) (x2 : Int32) (h : jH), F_X12_order_9 n k a0 x1 x2 h = some res → jJ G X h 0 0 9 [some (.ref a0), some (.int x1), some (.int x2), none] [] := by
  induction k with
  | zero =>
    intro a0 x1 x2 h hf
    exact jno (show (none : Option (Int32 × jH)) = some res from hf)
  | succ k ih =>
    intro a0 x1 x2 h hf
    exact J_X12_order_9_b K n (F_X12_order_9 n k) ih E a0 x1 x2 h hf
set_option maxHeartbeats 400000 in
set_option maxRecDepth 100000 in
theorem J_X12_order {G : jG} {l : Launch} {d : Nat} {X : jX} {res : (Int32 × jH)} (K : jOK G l mX12_order (d + 2) X) (n : Nat) (E : jEnd G mX12_order (jPW res) X) (a0 : Nat) (h : jH) (hf : F_X12_order n a0 h = some res) : jJ G X h 0 0 0 [some (.ref a0), none, none, none] [] := by
  unfold F_X12_order at hf
  refine jr_aload_n K (D_at DX12_order 0 rfl) rfl rfl ?_
  refine jr_iconst K (D_at DX12_order 1 rfl) (v := (0 : Int32)) (by decide) ?_
  obtain ⟨h2, e2, hf⟩ := jbind hf
  refine jr_putI K (D_at DX12_order 2 rfl) fp_X12_3_10 (Or.inl rfl) e2 ?_
  refine jr_iconst K (D_at DX12_order 3 rfl) (v := (0 : Int32)) (by decide) ?_
  refine jr_istore_n K (D_at DX12_order 4 rfl) (i := 1) rfl (by decide) (L2 := [_, _, _, _]) rfl ?_
  refine jr_iconst K (D_at DX12_order 5 rfl) (v := (0 : Int32)) (by decide) ?_
  refine jr_istore_n K (D_at DX12_order 6 rfl) (i := 2) rfl (by decide) (L2 := [_, _, _, _]) rfl ?_
  refine jr_keep [true, true, true, false] ?_
  exact J_X12_order_9 K n E n a0 (0 : Int32) (0 : Int32) h2 hf
theorem C_X12_order {G : jG} {l : Launch} (d : Nat) {n : Nat} {a0 : Nat} {h : jH} {res : (Int32 × jH)} (hf : F_X12_order n a0 h = some res) : jC G l mX12_order (d + 2) 0 0 [.ref a0] h (jPW res) :=
  jC.of (by decide +kernel) (jcats rfl) (Nat.le_of_ble_eq_true rfl) (fun X K E => J_X12_order K n E a0 h hf)
set_option maxHeartbeats 400000 in
set_option maxRecDepth 100000 in
theorem J_X12_tight_83 {G : jG} {l : Launch} {d : Nat} {X : jX} {res : (Int32 × jH)} (K : jOK G l mX12_tight (d + 2) X) (n : Nat) (rc39 : Nat → Int32 → Int32 → Int32 → Int32 → jH → Option (Int32 × jH)) (hr39 : ∀ (a0 : Nat) (x1 : Int32) (x2 : Int32) (x3 : Int32) (x4 : Int32) (h : jH), rc39 a0 x1 x2 x3 x4 h = some res → jJ G X h 0 0 39 [some (.ref a0), some (.int x1), some (.int x2), some (.int x3), some (.int x4), none] []) (E : jEnd G mX12_tight (jPW res) X) (a0 : Nat) (x1 : Int32) (x3 : Int32) (x4 : Int32) (x5 : Int32) (s0 : Int32) (h : jH) (hf : F_X12_tight_83 n rc39 a0 x1 x3 x4 x5 s0 h = some res) : jJ G X h 0 0 83 [some (.ref a0), some (.int x1), none, some (.int x3), some (.int x4), some (.int x5)] [.int s0] := by
  unfold F_X12_tight_83 at hf
  refine jr_istore_n K (D_at DX12_tight 49 rfl) (i := 2) rfl (by decide) (L2 := [_, _, _, _, _, _]) rfl ?_
  refine jr_iload_n K (D_at DX12_tight 50 rfl) rfl rfl ?_
  refine jr_iload K (D_at DX12_tight 51 rfl) rfl ?_
  refine jr_min K (D_at DX12_tight 52 rfl) mm_X12_119 (by exact Nat.le_of_ble_eq_true rfl) ?_
  refine jr_istore_n K (D_at DX12_tight 53 rfl) (i := 3) rfl (by decide) (L2 := [_, _, _, _, _, _]) rfl ?_
  refine jr_iinc K (D_at DX12_tight 54 rfl) (i := 4) rfl (v := x4 + (1 : Int32)) (jinc (by decide)) (by decide) (L2 := [_, _, _, _, _, _]) rfl ?_
  refine jr_goto K (D_at DX12_tight 55 rfl) (tgt := 39) (by decide) ?_
  refine jr_keep [true, true, true, true, true, false] ?_
  exact hr39 a0 x1 s0 (if x5 < x3 then x5 else x3) (x4 + (1 : Int32)) h hf
set_option maxHeartbeats 400000 in
set_option maxRecDepth 100000 in
theorem J_X12_tight_39_b {G : jG} {l : Launch} {d : Nat} {X : jX} {res : (Int32 × jH)} (K : jOK G l mX12_tight (d + 2) X) (n : Nat) (rc39 : Nat → Int32 → Int32 → Int32 → Int32 → jH → Option (Int32 × jH)) (hr39 : ∀ (a0 : Nat) (x1 : Int32) (x2 : Int32) (x3 : Int32) (x4 : Int32) (h : jH), rc39 a0 x1 x2 x3 x4 h = some res → jJ G X h 0 0 39 [some (.ref a0), some (.int x1), some (.int x2), some (.int x3), some (.int x4), none] []) (E : jEnd G mX12_tight (jPW res) X) (a0 : Nat) (x1 : Int32) (x2 : Int32) (x3 : Int32) (x4 : Int32) (h : jH) (hf : F_X12_tight_39_b n rc39 a0 x1 x2 x3 x4 h = some res) : jJ G X h 0 0 39 [some (.ref a0), some (.int x1), some (.int x2), some (.int x3), some (.int x4), none] [] := by
  unfold F_X12_tight_39_b at hf
  refine jr_iload K (D_at DX12_tight 23 rfl) rfl ?_
  refine jr_iload_n K (D_at DX12_tight 24 rfl) rfl rfl ?_
  refine jr_iadd K (D_at DX12_tight 25 rfl) ?_
  refine jr_aload_n K (D_at DX12_tight 26 rfl) rfl rfl ?_
  obtain ⟨v44, e44, hf⟩ := jbind hf
  obtain ⟨rc_44, e44⟩ := jcv_o e44
  refine jr_callV K (C_X12_rings (d + 1) e44) (D_at DX12_tight 27 rfl) cv_X12_59_X12_rings (As := []) (ci := 10) rfl rc_44 rfl rfl (by exact Nat.le_of_ble_eq_true rfl) (kc2 := 0) (ks2 := 0) rfl rfl (fun k9 h9 w9 => by cases w9.1) (fun r9 h9 w9 => ?_)
  obtain ⟨w1, w2⟩ := w9
  subst h9
  cases w1
  show jJ G X _ 0 0 _ _ (.int v44 :: _)
  refine jr_icmp_gt K (D_at DX12_tight 28 rfl) (tgt := 97) (by decide) (fun c47 => ?_) (fun c47 => ?_)
  · replace hf := (if_pos c47).symm.trans hf
    refine jr_iload_n K (D_at DX12_tight 56 rfl) rfl rfl ?_
    cases hf
    exact jr_iret K E (D_at DX12_tight 57 rfl) rfl ⟨rfl, rfl⟩
  · replace hf := (if_neg c47).symm.trans hf
    refine jr_aload_n K (D_at DX12_tight 29 rfl) rfl rfl ?_
    refine jr_iload K (D_at DX12_tight 30 rfl) rfl ?_
    refine jr_iload_n K (D_at DX12_tight 31 rfl) rfl rfl ?_
    refine jr_iadd K (D_at DX12_tight 32 rfl) ?_
    refine jr_iconst K (D_at DX12_tight 33 rfl) (v := (1 : Int32)) (by decide) ?_
    refine jr_isub K (D_at DX12_tight 34 rfl) ?_
    refine jr_iconst K (D_at DX12_tight 35 rfl) (v := (0 : Int32)) (by decide) ?_
    obtain ⟨v58, e58, hf⟩ := jbind hf
    obtain ⟨rc_58, e58⟩ := jcv_o e58
    refine jr_callV K (C_X12_of (d) e58) (D_at DX12_tight 36 rfl) cv_X12_67_X12_of (As := [.int ((x4 + x1) - (1 : Int32)), .int (0 : Int32)]) (ci := 10) rfl rc_58 rfl rfl (by exact Nat.le_of_ble_eq_true rfl) (kc2 := 0) (ks2 := 0) rfl rfl (fun k9 h9 w9 => by cases w9.1) (fun r9 h9 w9 => ?_)
    obtain ⟨w1, w2⟩ := w9
    subst h9
    cases w1
    show jJ G X _ 0 0 _ _ (.int v58 :: _)
    refine jr_aload_n K (D_at DX12_tight 37 rfl) rfl rfl ?_
    refine jr_iload K (D_at DX12_tight 38 rfl) rfl ?_
    refine jr_iconst K (D_at DX12_tight 39 rfl) (v := (0 : Int32)) (by decide) ?_
    obtain ⟨v65, e65, hf⟩ := jbind hf
    obtain ⟨rc_65, e65⟩ := jcv_o e65
    refine jr_callV K (C_X12_of (d) e65) (D_at DX12_tight 40 rfl) cv_X12_67_X12_of (As := [.int x4, .int (0 : Int32)]) (ci := 10) rfl rc_65 rfl rfl (by exact Nat.le_of_ble_eq_true rfl) (kc2 := 0) (ks2 := 0) rfl rfl (fun k9 h9 w9 => by cases w9.1) (fun r9 h9 w9 => ?_)
    obtain ⟨w1, w2⟩ := w9
    subst h9
    cases w1
    show jJ G X _ 0 0 _ _ (.int v65 :: _)
    refine jr_isub K (D_at DX12_tight 41 rfl) ?_
    refine jr_istore K (D_at DX12_tight 42 rfl) (i := 5) (by decide) (L2 := [_, _, _, _, _, _]) rfl ?_
    refine jr_iload K (D_at DX12_tight 43 rfl) rfl ?_
    refine jr_iload_n K (D_at DX12_tight 44 rfl) rfl rfl ?_
    refine jr_icmp_ge K (D_at DX12_tight 45 rfl) (tgt := 82) (by decide) (fun c74 => ?_) (fun c74 => ?_)
    · replace hf := (if_pos c74).symm.trans hf
      refine jr_iload_n K (D_at DX12_tight 48 rfl) rfl rfl ?_
      refine jr_keep [true, true, false, true, true, true] ?_
      exact J_X12_tight_83 K n rc39 hr39 E a0 x1 x3 x4 (v58 - v65) x2 h hf
    · replace hf := (if_neg c74).symm.trans hf
      refine jr_iload K (D_at DX12_tight 46 rfl) rfl ?_
      refine jr_goto K (D_at DX12_tight 47 rfl) (tgt := 83) (by decide) ?_
      refine jr_keep [true, true, false, true, true, true] ?_
      exact J_X12_tight_83 K n rc39 hr39 E a0 x1 x3 x4 (v58 - v65) x4 h hf
theorem J_X12_tight_39 {G : jG} {l : Launch} {d : Nat} {X : jX} {res : (Int32 × jH)} (K : jOK G l mX12_tight (d + 2) X) (n : Nat) (E : jEnd G mX12_tight (jPW res) X) (k : Nat) : ∀ (a0 : Nat) (x1 : Int32) (x2 : Int32) (x3 : Int32) (x4 : Int32) (h : jH), F_X12_tight_39 n k a0 x1 x2 x3 x4 h = some res → jJ G X h 0 0 39 [some (.ref a0), some (.int x1), some (.int x2), some (.int x3), some (.int x4), none] [] := by
  induction k with
  | zero =>
    intro a0 x1 x2 x3 x4 h hf
    exact jno (show (none : Option (Int32 × jH)) = some res from hf)
  | succ k ih =>
    intro a0 x1 x2 x3 x4 h hf
    exact J_X12_tight_39_b K n (F_X12_tight_39 n k) ih E a0 x1 x2 x3 x4 h hf
set_option maxHeartbeats 400000 in
set_option maxRecDepth 100000 in
theorem J_X12_tight_21 {G : jG} {l : Launch} {d : Nat} {X : jX} {res : (Int32 × jH)} (K : jOK G l mX12_tight (d + 2) X) (n : Nat) (E : jEnd G mX12_tight (jPW res) X) (a0 : Nat) (x1 : Int32) (sa0 : Nat) (s1 : Int32) (h : jH) (hf : F_X12_tight_21 n a0 x1 sa0 s1 h = some res) : jJ G X h 0 0 21 [some (.ref a0), some (.int x1), none, none, none, none] [.int s1, .ref sa0] := by
  unfold F_X12_tight_21 at hf
  refine jr_iconst K (D_at DX12_tight 12 rfl) (v := (1 : Int32)) (by decide) ?_
  obtain ⟨q22, e22, hf⟩ := jbind hf
  obtain ⟨rc_22, e22⟩ := jcv_o e22
  refine jr_callV K (C_X12_throwsIf (d + 1) e22) (D_at DX12_tight 13 rfl) cv_X12_250_X12_throwsIf (As := [.int s1, .int (1 : Int32)]) (ci := 10) rfl rc_22 rfl rfl (by exact Nat.le_of_ble_eq_true rfl) (kc2 := 0) (ks2 := 0) rfl rfl (fun k9 h9 w9 => by cases w9.1) (fun r9 h9 w9 => ?_)
  obtain ⟨w1, w2⟩ := w9
  subst h9
  cases w1
  show jJ G X _ 0 0 _ _ (.int q22.1 :: _)
  refine jr_if_eq K (D_at DX12_tight 14 rfl) (tgt := 30) (by decide) (fun c25 => ?_) (fun c25 => ?_)
  · replace hf := (if_pos c25).symm.trans hf
    refine jr_iconst K (D_at DX12_tight 17 rfl) (v := (-1 : Int32)) (by decide) ?_
    refine jr_istore_n K (D_at DX12_tight 18 rfl) (i := 2) rfl (by decide) (L2 := [_, _, _, _, _, _]) rfl ?_
    refine jr_ldcw K (D_at DX12_tight 19 rfl) (v := (1000000 : Int32)) kc_X12_273 ?_
    refine jr_istore_n K (D_at DX12_tight 20 rfl) (i := 3) rfl (by decide) (L2 := [_, _, _, _, _, _]) rfl ?_
    refine jr_iconst K (D_at DX12_tight 21 rfl) (v := (0 : Int32)) (by decide) ?_
    refine jr_istore K (D_at DX12_tight 22 rfl) (i := 4) (by decide) (L2 := [_, _, _, _, _, _]) rfl ?_
    refine jr_keep [true, true, true, true, true, false] ?_
    exact J_X12_tight_39 K n E n a0 x1 (-1 : Int32) (1000000 : Int32) (0 : Int32) q22.2 hf
  · replace hf := (if_neg c25).symm.trans hf
    refine jr_iconst K (D_at DX12_tight 15 rfl) (v := (0 : Int32)) (by decide) ?_
    cases hf
    exact jr_iret K E (D_at DX12_tight 16 rfl) rfl ⟨rfl, rfl⟩
set_option maxHeartbeats 400000 in
set_option maxRecDepth 100000 in
theorem J_X12_tight {G : jG} {l : Launch} {d : Nat} {X : jX} {res : (Int32 × jH)} (K : jOK G l mX12_tight (d + 2) X) (n : Nat) (E : jEnd G mX12_tight (jPW res) X) (a0 : Nat) (x1 : Int32) (h : jH) (hf : F_X12_tight n a0 x1 h = some res) : jJ G X h 0 0 0 [some (.ref a0), some (.int x1), none, none, none, none] [] := by
  unfold F_X12_tight at hf
  refine jr_aload_n K (D_at DX12_tight 0 rfl) rfl rfl ?_
  refine jr_iconst K (D_at DX12_tight 1 rfl) (v := (0 : Int32)) (by decide) ?_
  obtain ⟨h2, e2, hf⟩ := jbind hf
  refine jr_putI K (D_at DX12_tight 2 rfl) fp_X12_3_10 (Or.inl rfl) e2 ?_
  refine jr_aload_n K (D_at DX12_tight 3 rfl) rfl rfl ?_
  refine jr_iload_n K (D_at DX12_tight 4 rfl) rfl rfl ?_
  refine jr_iconst K (D_at DX12_tight 5 rfl) (v := (2 : Int32)) (by decide) ?_
  refine jr_bipush K (D_at DX12_tight 6 rfl) (v := (8 : Int32)) (by decide) ?_
  obtain ⟨v10, e10, hf⟩ := jbind hf
  refine jr_callS K (C_X12_in (d + 1) e10) (D_at DX12_tight 7 rfl) cs_X12_77_X12_in (As := [.int x1, .int (2 : Int32), .int (8 : Int32)]) rfl rfl (by exact Nat.le_of_ble_eq_true rfl) (kc2 := 0) (ks2 := 0) rfl rfl (fun k9 h9 w9 => by cases w9.1) (fun r9 h9 w9 => ?_)
  obtain ⟨w1, w2⟩ := w9
  subst h9
  cases w1
  show jJ G X _ 0 0 _ _ (.int v10 :: _)
  refine jr_if_ne K (D_at DX12_tight 8 rfl) (tgt := 20) (by decide) (fun c13 => ?_) (fun c13 => ?_)
  · replace hf := (if_neg c13).symm.trans hf
    refine jr_iconst K (D_at DX12_tight 11 rfl) (v := (0 : Int32)) (by decide) ?_
    refine jr_keep [true, true, false, false, false, false] ?_
    exact J_X12_tight_21 K n E a0 x1 a0 (0 : Int32) h2 hf
  · replace hf := (if_pos c13).symm.trans hf
    refine jr_iconst K (D_at DX12_tight 9 rfl) (v := (1 : Int32)) (by decide) ?_
    refine jr_goto K (D_at DX12_tight 10 rfl) (tgt := 21) (by decide) ?_
    refine jr_keep [true, true, false, false, false, false] ?_
    exact J_X12_tight_21 K n E a0 x1 a0 (1 : Int32) h2 hf
theorem C_X12_tight {G : jG} {l : Launch} (d : Nat) {n : Nat} {a0 : Nat} {x1 : Int32} {h : jH} {res : (Int32 × jH)} (hf : F_X12_tight n a0 x1 h = some res) : jC G l mX12_tight (d + 2) 0 0 [.ref a0, .int x1] h (jPW res) :=
  jC.of (by decide +kernel) (jcats rfl) (Nat.le_of_ble_eq_true rfl) (fun X K E => J_X12_tight K n E a0 x1 h hf)
set_option maxHeartbeats 400000 in
set_option maxRecDepth 100000 in
theorem J_X12_slack_9_b {G : jG} {l : Launch} {d : Nat} {X : jX} {res : (Int32 × jH)} (K : jOK G l mX12_slack (d + 3) X) (n : Nat) (rc9 : Nat → Int32 → Int32 → jH → Option (Int32 × jH)) (hr9 : ∀ (a0 : Nat) (x1 : Int32) (x2 : Int32) (h : jH), rc9 a0 x1 x2 h = some res → jJ G X h 0 0 9 [some (.ref a0), some (.int x1), some (.int x2)] []) (E : jEnd G mX12_slack (jPW res) X) (a0 : Nat) (x1 : Int32) (x2 : Int32) (h : jH) (hf : F_X12_slack_9_b n rc9 a0 x1 x2 h = some res) : jJ G X h 0 0 9 [some (.ref a0), some (.int x1), some (.int x2)] [] := by
  unfold F_X12_slack_9_b at hf
  refine jr_iload_n K (D_at DX12_slack 7 rfl) rfl rfl ?_
  refine jr_aload_n K (D_at DX12_slack 8 rfl) rfl rfl ?_
  obtain ⟨v11, e11, hf⟩ := jbind hf
  obtain ⟨rc_11, e11⟩ := jcv_o e11
  refine jr_callV K (C_X12_lastRing (d + 1) e11) (D_at DX12_slack 9 rfl) cv_X12_70_X12_lastRing (As := []) (ci := 10) rfl rc_11 rfl rfl (by exact Nat.le_of_ble_eq_true rfl) (kc2 := 0) (ks2 := 0) rfl rfl (fun k9 h9 w9 => by cases w9.1) (fun r9 h9 w9 => ?_)
  obtain ⟨w1, w2⟩ := w9
  subst h9
  cases w1
  show jJ G X _ 0 0 _ _ (.int v11 :: _)
  refine jr_icmp_ge K (D_at DX12_slack 10 rfl) (tgt := 38) (by decide) (fun c14 => ?_) (fun c14 => ?_)
  · replace hf := (if_pos c14).symm.trans hf
    refine jr_iload_n K (D_at DX12_slack 24 rfl) rfl rfl ?_
    cases hf
    exact jr_iret K E (D_at DX12_slack 25 rfl) rfl ⟨rfl, rfl⟩
  · replace hf := (if_neg c14).symm.trans hf
    refine jr_iload_n K (D_at DX12_slack 11 rfl) rfl rfl ?_
    refine jr_aload_n K (D_at DX12_slack 12 rfl) rfl rfl ?_
    refine jr_iload_n K (D_at DX12_slack 13 rfl) rfl rfl ?_
    refine jr_iconst K (D_at DX12_slack 14 rfl) (v := (1 : Int32)) (by decide) ?_
    obtain ⟨v21, e21, hf⟩ := jbind hf
    obtain ⟨rc_21, e21⟩ := jcv_o e21
    refine jr_callV K (C_X12_of (d + 1) e21) (D_at DX12_slack 15 rfl) cv_X12_67_X12_of (As := [.int x2, .int (1 : Int32)]) (ci := 10) rfl rc_21 rfl rfl (by exact Nat.le_of_ble_eq_true rfl) (kc2 := 0) (ks2 := 0) rfl rfl (fun k9 h9 w9 => by cases w9.1) (fun r9 h9 w9 => ?_)
    obtain ⟨w1, w2⟩ := w9
    subst h9
    cases w1
    show jJ G X _ 0 0 _ _ (.int v21 :: _)
    refine jr_aload_n K (D_at DX12_slack 16 rfl) rfl rfl ?_
    refine jr_iload_n K (D_at DX12_slack 17 rfl) rfl rfl ?_
    obtain ⟨v26, e26, hf⟩ := jbind hf
    obtain ⟨rc_26, e26⟩ := jcv_o e26
    refine jr_callV K (C_X12_gapOf (d) e26) (D_at DX12_slack 18 rfl) cv_X12_253_X12_gapOf (As := [.int x2]) (ci := 10) rfl rc_26 rfl rfl (by exact Nat.le_of_ble_eq_true rfl) (kc2 := 0) (ks2 := 0) rfl rfl (fun k9 h9 w9 => by cases w9.1) (fun r9 h9 w9 => ?_)
    obtain ⟨w1, w2⟩ := w9
    subst h9
    cases w1
    show jJ G X _ 0 0 _ _ (.int v26 :: _)
    refine jr_isub K (D_at DX12_slack 19 rfl) ?_
    refine jr_iadd K (D_at DX12_slack 20 rfl) ?_
    refine jr_istore_n K (D_at DX12_slack 21 rfl) (i := 1) rfl (by decide) (L2 := [_, _, _]) rfl ?_
    refine jr_iinc K (D_at DX12_slack 22 rfl) (i := 2) rfl (v := x2 + (1 : Int32)) (jinc (by decide)) (by decide) (L2 := [_, _, _]) rfl ?_
    refine jr_goto K (D_at DX12_slack 23 rfl) (tgt := 9) (by decide) ?_
    refine jr_keep [true, true, true] ?_
    exact hr9 a0 (x1 + (v21 - v26)) (x2 + (1 : Int32)) h hf
theorem J_X12_slack_9 {G : jG} {l : Launch} {d : Nat} {X : jX} {res : (Int32 × jH)} (K : jOK G l mX12_slack (d + 3) X) (n : Nat) (E : jEnd G mX12_slack (jPW res) X) (k : Nat) : ∀ (a0 : Nat) (x1 : Int32) (x2 : Int32) (h : jH), F_X12_slack_9 n k a0 x1 x2 h = some res → jJ G X h 0 0 9 [some (.ref a0), some (.int x1), some (.int x2)] [] := by
  induction k with
  | zero =>
    intro a0 x1 x2 h hf
    exact jno (show (none : Option (Int32 × jH)) = some res from hf)
  | succ k ih =>
    intro a0 x1 x2 h hf
    exact J_X12_slack_9_b K n (F_X12_slack_9 n k) ih E a0 x1 x2 h hf
set_option maxHeartbeats 400000 in
set_option maxRecDepth 100000 in
theorem J_X12_slack {G : jG} {l : Launch} {d : Nat} {X : jX} {res : (Int32 × jH)} (K : jOK G l mX12_slack (d + 3) X) (n : Nat) (E : jEnd G mX12_slack (jPW res) X) (a0 : Nat) (h : jH) (hf : F_X12_slack n a0 h = some res) : jJ G X h 0 0 0 [some (.ref a0), none, none] [] := by
  unfold F_X12_slack at hf
  refine jr_aload_n K (D_at DX12_slack 0 rfl) rfl rfl ?_
  refine jr_iconst K (D_at DX12_slack 1 rfl) (v := (0 : Int32)) (by decide) ?_
  obtain ⟨h2, e2, hf⟩ := jbind hf
  refine jr_putI K (D_at DX12_slack 2 rfl) fp_X12_3_10 (Or.inl rfl) e2 ?_
  refine jr_iconst K (D_at DX12_slack 3 rfl) (v := (0 : Int32)) (by decide) ?_
  refine jr_istore_n K (D_at DX12_slack 4 rfl) (i := 1) rfl (by decide) (L2 := [_, _, _]) rfl ?_
  refine jr_iconst K (D_at DX12_slack 5 rfl) (v := (0 : Int32)) (by decide) ?_
  refine jr_istore_n K (D_at DX12_slack 6 rfl) (i := 2) rfl (by decide) (L2 := [_, _, _]) rfl ?_
  refine jr_keep [true, true, true] ?_
  exact J_X12_slack_9 K n E n a0 (0 : Int32) (0 : Int32) h2 hf
theorem C_X12_slack {G : jG} {l : Launch} (d : Nat) {n : Nat} {a0 : Nat} {h : jH} {res : (Int32 × jH)} (hf : F_X12_slack n a0 h = some res) : jC G l mX12_slack (d + 3) 0 0 [.ref a0] h (jPW res) :=
  jC.of (by decide +kernel) (jcats rfl) (Nat.le_of_ble_eq_true rfl) (fun X K E => J_X12_slack K n E a0 h hf)
set_option maxHeartbeats 400000 in
set_option maxRecDepth 100000 in
theorem J_X12_taut_9_b {G : jG} {l : Launch} {d : Nat} {X : jX} {res : (Int32 × jH)} (K : jOK G l mX12_taut (d + 3) X) (n : Nat) (rc9 : Nat → Int32 → Int32 → jH → Option (Int32 × jH)) (hr9 : ∀ (a0 : Nat) (x1 : Int32) (x2 : Int32) (h : jH), rc9 a0 x1 x2 h = some res → jJ G X h 0 0 9 [some (.ref a0), some (.int x1), some (.int x2)] []) (E : jEnd G mX12_taut (jPW res) X) (a0 : Nat) (x1 : Int32) (x2 : Int32) (h : jH) (hf : F_X12_taut_9_b n rc9 a0 x1 x2 h = some res) : jJ G X h 0 0 9 [some (.ref a0), some (.int x1), some (.int x2)] [] := by
  unfold F_X12_taut_9_b at hf
  refine jr_iload_n K (D_at DX12_taut 7 rfl) rfl rfl ?_
  refine jr_aload_n K (D_at DX12_taut 8 rfl) rfl rfl ?_
  obtain ⟨v11, e11, hf⟩ := jbind hf
  obtain ⟨rc_11, e11⟩ := jcv_o e11
  refine jr_callV K (C_X12_lastRing (d + 1) e11) (D_at DX12_taut 9 rfl) cv_X12_70_X12_lastRing (As := []) (ci := 10) rfl rc_11 rfl rfl (by exact Nat.le_of_ble_eq_true rfl) (kc2 := 0) (ks2 := 0) rfl rfl (fun k9 h9 w9 => by cases w9.1) (fun r9 h9 w9 => ?_)
  obtain ⟨w1, w2⟩ := w9
  subst h9
  cases w1
  show jJ G X _ 0 0 _ _ (.int v11 :: _)
  refine jr_icmp_ge K (D_at DX12_taut 10 rfl) (tgt := 47) (by decide) (fun c14 => ?_) (fun c14 => ?_)
  · replace hf := (if_pos c14).symm.trans hf
    refine jr_iload_n K (D_at DX12_taut 29 rfl) rfl rfl ?_
    cases hf
    exact jr_iret K E (D_at DX12_taut 30 rfl) rfl ⟨rfl, rfl⟩
  · replace hf := (if_neg c14).symm.trans hf
    refine jr_iload_n K (D_at DX12_taut 11 rfl) rfl rfl ?_
    refine jr_aload_n K (D_at DX12_taut 12 rfl) rfl rfl ?_
    refine jr_iload_n K (D_at DX12_taut 13 rfl) rfl rfl ?_
    obtain ⟨v20, e20, hf⟩ := jbind hf
    obtain ⟨rc_20, e20⟩ := jcv_o e20
    refine jr_callV K (C_X12_gapOf (d) e20) (D_at DX12_taut 14 rfl) cv_X12_253_X12_gapOf (As := [.int x2]) (ci := 10) rfl rc_20 rfl rfl (by exact Nat.le_of_ble_eq_true rfl) (kc2 := 0) (ks2 := 0) rfl rfl (fun k9 h9 w9 => by cases w9.1) (fun r9 h9 w9 => ?_)
    obtain ⟨w1, w2⟩ := w9
    subst h9
    cases w1
    show jJ G X _ 0 0 _ _ (.int v20 :: _)
    refine jr_aload_n K (D_at DX12_taut 15 rfl) rfl rfl ?_
    refine jr_iload_n K (D_at DX12_taut 16 rfl) rfl rfl ?_
    refine jr_iconst K (D_at DX12_taut 17 rfl) (v := (1 : Int32)) (by decide) ?_
    obtain ⟨v26, e26, hf⟩ := jbind hf
    obtain ⟨rc_26, e26⟩ := jcv_o e26
    refine jr_callV K (C_X12_of (d + 1) e26) (D_at DX12_taut 18 rfl) cv_X12_67_X12_of (As := [.int x2, .int (1 : Int32)]) (ci := 10) rfl rc_26 rfl rfl (by exact Nat.le_of_ble_eq_true rfl) (kc2 := 0) (ks2 := 0) rfl rfl (fun k9 h9 w9 => by cases w9.1) (fun r9 h9 w9 => ?_)
    obtain ⟨w1, w2⟩ := w9
    subst h9
    cases w1
    show jJ G X _ 0 0 _ _ (.int v26 :: _)
    refine jr_icmp_ne K (D_at DX12_taut 19 rfl) (tgt := 38) (by decide) (fun c29 => ?_) (fun c29 => ?_)
    · replace hf := (if_neg c29).symm.trans hf
      refine jr_iconst K (D_at DX12_taut 24 rfl) (v := (0 : Int32)) (by decide) ?_
      refine jr_ior K (D_at DX12_taut 25 rfl) ?_
      refine jr_istore_n K (D_at DX12_taut 26 rfl) (i := 1) rfl (by decide) (L2 := [_, _, _]) rfl ?_
      refine jr_iinc K (D_at DX12_taut 27 rfl) (i := 2) rfl (v := x2 + (1 : Int32)) (jinc (by decide)) (by decide) (L2 := [_, _, _]) rfl ?_
      refine jr_goto K (D_at DX12_taut 28 rfl) (tgt := 9) (by decide) ?_
      refine jr_keep [true, true, true] ?_
      exact hr9 a0 (x1 ||| (0 : Int32)) (x2 + (1 : Int32)) h hf
    · replace hf := (if_pos c29).symm.trans hf
      refine jr_iconst K (D_at DX12_taut 20 rfl) (v := (1 : Int32)) (by decide) ?_
      refine jr_iload_n K (D_at DX12_taut 21 rfl) rfl rfl ?_
      refine jr_ishl K (D_at DX12_taut 22 rfl) ?_
      refine jr_goto K (D_at DX12_taut 23 rfl) (tgt := 39) (by decide) ?_
      refine jr_ior K (D_at DX12_taut 25 rfl) ?_
      refine jr_istore_n K (D_at DX12_taut 26 rfl) (i := 1) rfl (by decide) (L2 := [_, _, _]) rfl ?_
      refine jr_iinc K (D_at DX12_taut 27 rfl) (i := 2) rfl (v := x2 + (1 : Int32)) (jinc (by decide)) (by decide) (L2 := [_, _, _]) rfl ?_
      refine jr_goto K (D_at DX12_taut 28 rfl) (tgt := 9) (by decide) ?_
      refine jr_keep [true, true, true] ?_
      exact hr9 a0 (x1 ||| ((1 : Int32) <<< (x2 &&& 31))) (x2 + (1 : Int32)) h hf
theorem J_X12_taut_9 {G : jG} {l : Launch} {d : Nat} {X : jX} {res : (Int32 × jH)} (K : jOK G l mX12_taut (d + 3) X) (n : Nat) (E : jEnd G mX12_taut (jPW res) X) (k : Nat) : ∀ (a0 : Nat) (x1 : Int32) (x2 : Int32) (h : jH), F_X12_taut_9 n k a0 x1 x2 h = some res → jJ G X h 0 0 9 [some (.ref a0), some (.int x1), some (.int x2)] [] := by
  induction k with
  | zero =>
    intro a0 x1 x2 h hf
    exact jno (show (none : Option (Int32 × jH)) = some res from hf)
  | succ k ih =>
    intro a0 x1 x2 h hf
    exact J_X12_taut_9_b K n (F_X12_taut_9 n k) ih E a0 x1 x2 h hf
set_option maxHeartbeats 400000 in
set_option maxRecDepth 100000 in
theorem J_X12_taut {G : jG} {l : Launch} {d : Nat} {X : jX} {res : (Int32 × jH)} (K : jOK G l mX12_taut (d + 3) X) (n : Nat) (E : jEnd G mX12_taut (jPW res) X) (a0 : Nat) (h : jH) (hf : F_X12_taut n a0 h = some res) : jJ G X h 0 0 0 [some (.ref a0), none, none] [] := by
  unfold F_X12_taut at hf
  refine jr_aload_n K (D_at DX12_taut 0 rfl) rfl rfl ?_
  refine jr_iconst K (D_at DX12_taut 1 rfl) (v := (0 : Int32)) (by decide) ?_
  obtain ⟨h2, e2, hf⟩ := jbind hf
  refine jr_putI K (D_at DX12_taut 2 rfl) fp_X12_3_10 (Or.inl rfl) e2 ?_
  refine jr_iconst K (D_at DX12_taut 3 rfl) (v := (0 : Int32)) (by decide) ?_
  refine jr_istore_n K (D_at DX12_taut 4 rfl) (i := 1) rfl (by decide) (L2 := [_, _, _]) rfl ?_
  refine jr_iconst K (D_at DX12_taut 5 rfl) (v := (0 : Int32)) (by decide) ?_
  refine jr_istore_n K (D_at DX12_taut 6 rfl) (i := 2) rfl (by decide) (L2 := [_, _, _]) rfl ?_
  refine jr_keep [true, true, true] ?_
  exact J_X12_taut_9 K n E n a0 (0 : Int32) (0 : Int32) h2 hf
theorem C_X12_taut {G : jG} {l : Launch} (d : Nat) {n : Nat} {a0 : Nat} {h : jH} {res : (Int32 × jH)} (hf : F_X12_taut n a0 h = some res) : jC G l mX12_taut (d + 3) 0 0 [.ref a0] h (jPW res) :=
  jC.of (by decide +kernel) (jcats rfl) (Nat.le_of_ble_eq_true rfl) (fun X K E => J_X12_taut K n E a0 h hf)
set_option maxHeartbeats 400000 in
set_option maxRecDepth 100000 in
theorem J_X12_bunch_41 {G : jG} {l : Launch} {d : Nat} {X : jX} {res : (Int32 × jH)} (K : jOK G l mX12_bunch (d + 3) X) (n : Nat) (rc11 : Nat → Int32 → Int32 → Int32 → jH → Option (Int32 × jH)) (hr11 : ∀ (a0 : Nat) (x1 : Int32) (x2 : Int32) (x3 : Int32) (h : jH), rc11 a0 x1 x2 x3 h = some res → jJ G X h 0 0 11 [some (.ref a0), some (.int x1), some (.int x2), some (.int x3)] []) (E : jEnd G mX12_bunch (jPW res) X) (a0 : Nat) (x1 : Int32) (x3 : Int32) (s0 : Int32) (h : jH) (hf : F_X12_bunch_41 n rc11 a0 x1 x3 s0 h = some res) : jJ G X h 0 0 41 [some (.ref a0), some (.int x1), none, some (.int x3)] [.int s0] := by
  unfold F_X12_bunch_41 at hf
  refine jr_istore_n K (D_at DX12_bunch 27 rfl) (i := 2) rfl (by decide) (L2 := [_, _, _, _]) rfl ?_
  refine jr_iload_n K (D_at DX12_bunch 28 rfl) rfl rfl ?_
  refine jr_iload_n K (D_at DX12_bunch 29 rfl) rfl rfl ?_
  refine jr_max K (D_at DX12_bunch 30 rfl) mm_X12_368 (by exact Nat.le_of_ble_eq_true rfl) ?_
  refine jr_istore_n K (D_at DX12_bunch 31 rfl) (i := 1) rfl (by decide) (L2 := [_, _, _, _]) rfl ?_
  refine jr_iinc K (D_at DX12_bunch 32 rfl) (i := 3) rfl (v := x3 + (1 : Int32)) (jinc (by decide)) (by decide) (L2 := [_, _, _, _]) rfl ?_
  refine jr_goto K (D_at DX12_bunch 33 rfl) (tgt := 11) (by decide) ?_
  refine jr_keep [true, true, true, true] ?_
  exact hr11 a0 (if x1 < s0 then s0 else x1) s0 (x3 + (1 : Int32)) h hf
set_option maxHeartbeats 400000 in
set_option maxRecDepth 100000 in
theorem J_X12_bunch_11_b {G : jG} {l : Launch} {d : Nat} {X : jX} {res : (Int32 × jH)} (K : jOK G l mX12_bunch (d + 3) X) (n : Nat) (rc11 : Nat → Int32 → Int32 → Int32 → jH → Option (Int32 × jH)) (hr11 : ∀ (a0 : Nat) (x1 : Int32) (x2 : Int32) (x3 : Int32) (h : jH), rc11 a0 x1 x2 x3 h = some res → jJ G X h 0 0 11 [some (.ref a0), some (.int x1), some (.int x2), some (.int x3)] []) (E : jEnd G mX12_bunch (jPW res) X) (a0 : Nat) (x1 : Int32) (x2 : Int32) (x3 : Int32) (h : jH) (hf : F_X12_bunch_11_b n rc11 a0 x1 x2 x3 h = some res) : jJ G X h 0 0 11 [some (.ref a0), some (.int x1), some (.int x2), some (.int x3)] [] := by
  unfold F_X12_bunch_11_b at hf
  refine jr_iload_n K (D_at DX12_bunch 9 rfl) rfl rfl ?_
  refine jr_aload_n K (D_at DX12_bunch 10 rfl) rfl rfl ?_
  obtain ⟨v13, e13, hf⟩ := jbind hf
  obtain ⟨rc_13, e13⟩ := jcv_o e13
  refine jr_callV K (C_X12_rings (d + 2) e13) (D_at DX12_bunch 11 rfl) cv_X12_59_X12_rings (As := []) (ci := 10) rfl rc_13 rfl rfl (by exact Nat.le_of_ble_eq_true rfl) (kc2 := 0) (ks2 := 0) rfl rfl (fun k9 h9 w9 => by cases w9.1) (fun r9 h9 w9 => ?_)
  obtain ⟨w1, w2⟩ := w9
  subst h9
  cases w1
  show jJ G X _ 0 0 _ _ (.int v13 :: _)
  refine jr_icmp_ge K (D_at DX12_bunch 12 rfl) (tgt := 54) (by decide) (fun c16 => ?_) (fun c16 => ?_)
  · replace hf := (if_pos c16).symm.trans hf
    refine jr_iload_n K (D_at DX12_bunch 34 rfl) rfl rfl ?_
    cases hf
    exact jr_iret K E (D_at DX12_bunch 35 rfl) rfl ⟨rfl, rfl⟩
  · replace hf := (if_neg c16).symm.trans hf
    refine jr_iload_n K (D_at DX12_bunch 13 rfl) rfl rfl ?_
    refine jr_if_le K (D_at DX12_bunch 14 rfl) (tgt := 40) (by decide) (fun c20 => ?_) (fun c20 => ?_)
    · replace hf := (if_pos c20).symm.trans hf
      refine jr_iconst K (D_at DX12_bunch 26 rfl) (v := (1 : Int32)) (by decide) ?_
      refine jr_keep [true, true, false, true] ?_
      exact J_X12_bunch_41 K n rc11 hr11 E a0 x1 x3 (1 : Int32) h hf
    · replace hf := (if_neg c20).symm.trans hf
      refine jr_aload_n K (D_at DX12_bunch 15 rfl) rfl rfl ?_
      refine jr_iload_n K (D_at DX12_bunch 16 rfl) rfl rfl ?_
      refine jr_iconst K (D_at DX12_bunch 17 rfl) (v := (1 : Int32)) (by decide) ?_
      refine jr_isub K (D_at DX12_bunch 18 rfl) ?_
      obtain ⟨v27, e27, hf⟩ := jbind hf
      obtain ⟨rc_27, e27⟩ := jcv_o e27
      refine jr_callV K (C_X12_gapOf (d) e27) (D_at DX12_bunch 19 rfl) cv_X12_253_X12_gapOf (As := [.int (x3 - (1 : Int32))]) (ci := 10) rfl rc_27 rfl rfl (by exact Nat.le_of_ble_eq_true rfl) (kc2 := 0) (ks2 := 0) rfl rfl (fun k9 h9 w9 => by cases w9.1) (fun r9 h9 w9 => ?_)
      obtain ⟨w1, w2⟩ := w9
      subst h9
      cases w1
      show jJ G X _ 0 0 _ _ (.int v27 :: _)
      refine jr_iconst K (D_at DX12_bunch 20 rfl) (v := (1 : Int32)) (by decide) ?_
      refine jr_icmp_ne K (D_at DX12_bunch 21 rfl) (tgt := 40) (by decide) (fun c31 => ?_) (fun c31 => ?_)
      · replace hf := (if_neg c31).symm.trans hf
        refine jr_iconst K (D_at DX12_bunch 26 rfl) (v := (1 : Int32)) (by decide) ?_
        refine jr_keep [true, true, false, true] ?_
        exact J_X12_bunch_41 K n rc11 hr11 E a0 x1 x3 (1 : Int32) h hf
      · replace hf := (if_pos c31).symm.trans hf
        refine jr_iload_n K (D_at DX12_bunch 22 rfl) rfl rfl ?_
        refine jr_iconst K (D_at DX12_bunch 23 rfl) (v := (1 : Int32)) (by decide) ?_
        refine jr_iadd K (D_at DX12_bunch 24 rfl) ?_
        refine jr_goto K (D_at DX12_bunch 25 rfl) (tgt := 41) (by decide) ?_
        refine jr_keep [true, true, false, true] ?_
        exact J_X12_bunch_41 K n rc11 hr11 E a0 x1 x3 (x2 + (1 : Int32)) h hf
theorem J_X12_bunch_11 {G : jG} {l : Launch} {d : Nat} {X : jX} {res : (Int32 × jH)} (K : jOK G l mX12_bunch (d + 3) X) (n : Nat) (E : jEnd G mX12_bunch (jPW res) X) (k : Nat) : ∀ (a0 : Nat) (x1 : Int32) (x2 : Int32) (x3 : Int32) (h : jH), F_X12_bunch_11 n k a0 x1 x2 x3 h = some res → jJ G X h 0 0 11 [some (.ref a0), some (.int x1), some (.int x2), some (.int x3)] [] := by
  induction k with
  | zero =>
    intro a0 x1 x2 x3 h hf
    exact jno (show (none : Option (Int32 × jH)) = some res from hf)
  | succ k ih =>
    intro a0 x1 x2 x3 h hf
    exact J_X12_bunch_11_b K n (F_X12_bunch_11 n k) ih E a0 x1 x2 x3 h hf
set_option maxHeartbeats 400000 in
set_option maxRecDepth 100000 in
theorem J_X12_bunch {G : jG} {l : Launch} {d : Nat} {X : jX} {res : (Int32 × jH)} (K : jOK G l mX12_bunch (d + 3) X) (n : Nat) (E : jEnd G mX12_bunch (jPW res) X) (a0 : Nat) (h : jH) (hf : F_X12_bunch n a0 h = some res) : jJ G X h 0 0 0 [some (.ref a0), none, none, none] [] := by
  unfold F_X12_bunch at hf
  refine jr_aload_n K (D_at DX12_bunch 0 rfl) rfl rfl ?_
  refine jr_iconst K (D_at DX12_bunch 1 rfl) (v := (0 : Int32)) (by decide) ?_
  obtain ⟨h2, e2, hf⟩ := jbind hf
  refine jr_putI K (D_at DX12_bunch 2 rfl) fp_X12_3_10 (Or.inl rfl) e2 ?_
  refine jr_iconst K (D_at DX12_bunch 3 rfl) (v := (0 : Int32)) (by decide) ?_
  refine jr_istore_n K (D_at DX12_bunch 4 rfl) (i := 1) rfl (by decide) (L2 := [_, _, _, _]) rfl ?_
  refine jr_iconst K (D_at DX12_bunch 5 rfl) (v := (0 : Int32)) (by decide) ?_
  refine jr_istore_n K (D_at DX12_bunch 6 rfl) (i := 2) rfl (by decide) (L2 := [_, _, _, _]) rfl ?_
  refine jr_iconst K (D_at DX12_bunch 7 rfl) (v := (0 : Int32)) (by decide) ?_
  refine jr_istore_n K (D_at DX12_bunch 8 rfl) (i := 3) rfl (by decide) (L2 := [_, _, _, _]) rfl ?_
  refine jr_keep [true, true, true, true] ?_
  exact J_X12_bunch_11 K n E n a0 (0 : Int32) (0 : Int32) (0 : Int32) h2 hf
theorem C_X12_bunch {G : jG} {l : Launch} (d : Nat) {n : Nat} {a0 : Nat} {h : jH} {res : (Int32 × jH)} (hf : F_X12_bunch n a0 h = some res) : jC G l mX12_bunch (d + 3) 0 0 [.ref a0] h (jPW res) :=
  jC.of (by decide +kernel) (jcats rfl) (Nat.le_of_ble_eq_true rfl) (fun X K E => J_X12_bunch K n E a0 h hf)
set_option maxHeartbeats 400000 in
set_option maxRecDepth 100000 in
theorem J_X12_litIn_4_b {G : jG} {l : Launch} {d : Nat} {X : jX} {res : Int32} (K : jOK G l mX12_litIn (d + 3) X) (n : Nat) (h : jH) (rc4 : Nat → Int32 → Int32 → Int32 → jH → Option Int32) (hr4 : ∀ (a0 : Nat) (x1 : Int32) (x2 : Int32) (x3 : Int32), rc4 a0 x1 x2 x3 h = some res → jJ G X h 0 0 4 [some (.ref a0), some (.int x1), some (.int x2), some (.int x3)] []) (E : jEnd G mX12_litIn (jPR h res) X) (a0 : Nat) (x1 : Int32) (x2 : Int32) (x3 : Int32) (hf : F_X12_litIn_4_b n rc4 a0 x1 x2 x3 h = some res) : jJ G X h 0 0 4 [some (.ref a0), some (.int x1), some (.int x2), some (.int x3)] [] := by
  unfold F_X12_litIn_4_b at hf
  refine jr_iload_n K (D_at DX12_litIn 4 rfl) rfl rfl ?_
  refine jr_aload_n K (D_at DX12_litIn 5 rfl) rfl rfl ?_
  obtain ⟨v6, e6, hf⟩ := jbind hf
  obtain ⟨rc_6, e6⟩ := jcv_o e6
  refine jr_callV K (C_X12_rings (d + 2) e6) (D_at DX12_litIn 6 rfl) cv_X12_59_X12_rings (As := []) (ci := 10) rfl rc_6 rfl rfl (by exact Nat.le_of_ble_eq_true rfl) (kc2 := 0) (ks2 := 0) rfl rfl (fun k9 h9 w9 => by cases w9.1) (fun r9 h9 w9 => ?_)
  obtain ⟨w1, w2⟩ := w9
  subst h9
  cases w1
  show jJ G X _ 0 0 _ _ (.int v6 :: _)
  refine jr_icmp_ge K (D_at DX12_litIn 7 rfl) (tgt := 37) (by decide) (fun c9 => ?_) (fun c9 => ?_)
  · replace hf := (if_pos c9).symm.trans hf
    refine jr_iload_n K (D_at DX12_litIn 23 rfl) rfl rfl ?_
    cases hf
    exact jr_iret K E (D_at DX12_litIn 24 rfl) rfl ⟨rfl, rfl⟩
  · replace hf := (if_neg c9).symm.trans hf
    refine jr_iload_n K (D_at DX12_litIn 8 rfl) rfl rfl ?_
    refine jr_aload_n K (D_at DX12_litIn 9 rfl) rfl rfl ?_
    refine jr_iload_n K (D_at DX12_litIn 10 rfl) rfl rfl ?_
    refine jr_iload_n K (D_at DX12_litIn 11 rfl) rfl rfl ?_
    obtain ⟨v16, e16, hf⟩ := jbind hf
    obtain ⟨rc_16, e16⟩ := jcv_o e16
    refine jr_callV K (C_X12_isLit (d) e16) (D_at DX12_litIn 12 rfl) cv_X12_257_X12_isLit (As := [.int x3, .int x1]) (ci := 10) rfl rc_16 rfl rfl (by exact Nat.le_of_ble_eq_true rfl) (kc2 := 0) (ks2 := 0) rfl rfl (fun k9 h9 w9 => by cases w9.1) (fun r9 h9 w9 => ?_)
    obtain ⟨w1, w2⟩ := w9
    subst h9
    cases w1
    show jJ G X _ 0 0 _ _ (.int v16 :: _)
    refine jr_if_eq K (D_at DX12_litIn 13 rfl) (tgt := 28) (by decide) (fun c19 => ?_) (fun c19 => ?_)
    · replace hf := (if_pos c19).symm.trans hf
      refine jr_iconst K (D_at DX12_litIn 18 rfl) (v := (0 : Int32)) (by decide) ?_
      refine jr_ior K (D_at DX12_litIn 19 rfl) ?_
      refine jr_istore_n K (D_at DX12_litIn 20 rfl) (i := 2) rfl (by decide) (L2 := [_, _, _, _]) rfl ?_
      refine jr_iinc K (D_at DX12_litIn 21 rfl) (i := 3) rfl (v := x3 + (1 : Int32)) (jinc (by decide)) (by decide) (L2 := [_, _, _, _]) rfl ?_
      refine jr_goto K (D_at DX12_litIn 22 rfl) (tgt := 4) (by decide) ?_
      refine jr_keep [true, true, true, true] ?_
      exact hr4 a0 x1 (x2 ||| (0 : Int32)) (x3 + (1 : Int32)) hf
    · replace hf := (if_neg c19).symm.trans hf
      refine jr_iconst K (D_at DX12_litIn 14 rfl) (v := (1 : Int32)) (by decide) ?_
      refine jr_iload_n K (D_at DX12_litIn 15 rfl) rfl rfl ?_
      refine jr_ishl K (D_at DX12_litIn 16 rfl) ?_
      refine jr_goto K (D_at DX12_litIn 17 rfl) (tgt := 29) (by decide) ?_
      refine jr_ior K (D_at DX12_litIn 19 rfl) ?_
      refine jr_istore_n K (D_at DX12_litIn 20 rfl) (i := 2) rfl (by decide) (L2 := [_, _, _, _]) rfl ?_
      refine jr_iinc K (D_at DX12_litIn 21 rfl) (i := 3) rfl (v := x3 + (1 : Int32)) (jinc (by decide)) (by decide) (L2 := [_, _, _, _]) rfl ?_
      refine jr_goto K (D_at DX12_litIn 22 rfl) (tgt := 4) (by decide) ?_
      refine jr_keep [true, true, true, true] ?_
      exact hr4 a0 x1 (x2 ||| ((1 : Int32) <<< (x3 &&& 31))) (x3 + (1 : Int32)) hf
theorem J_X12_litIn_4 {G : jG} {l : Launch} {d : Nat} {X : jX} {res : Int32} (K : jOK G l mX12_litIn (d + 3) X) (n : Nat) (h : jH) (E : jEnd G mX12_litIn (jPR h res) X) (k : Nat) : ∀ (a0 : Nat) (x1 : Int32) (x2 : Int32) (x3 : Int32), F_X12_litIn_4 n k a0 x1 x2 x3 h = some res → jJ G X h 0 0 4 [some (.ref a0), some (.int x1), some (.int x2), some (.int x3)] [] := by
  induction k with
  | zero =>
    intro a0 x1 x2 x3 hf
    exact jno (show (none : Option Int32) = some res from hf)
  | succ k ih =>
    intro a0 x1 x2 x3 hf
    exact J_X12_litIn_4_b K n h (F_X12_litIn_4 n k) ih E a0 x1 x2 x3 hf
set_option maxHeartbeats 400000 in
set_option maxRecDepth 100000 in
theorem J_X12_litIn {G : jG} {l : Launch} {d : Nat} {X : jX} {res : Int32} (K : jOK G l mX12_litIn (d + 3) X) (n : Nat) (h : jH) (E : jEnd G mX12_litIn (jPR h res) X) (a0 : Nat) (x1 : Int32) (hf : F_X12_litIn n a0 x1 h = some res) : jJ G X h 0 0 0 [some (.ref a0), some (.int x1), none, none] [] := by
  unfold F_X12_litIn at hf
  refine jr_iconst K (D_at DX12_litIn 0 rfl) (v := (0 : Int32)) (by decide) ?_
  refine jr_istore_n K (D_at DX12_litIn 1 rfl) (i := 2) rfl (by decide) (L2 := [_, _, _, _]) rfl ?_
  refine jr_iconst K (D_at DX12_litIn 2 rfl) (v := (0 : Int32)) (by decide) ?_
  refine jr_istore_n K (D_at DX12_litIn 3 rfl) (i := 3) rfl (by decide) (L2 := [_, _, _, _]) rfl ?_
  refine jr_keep [true, true, true, true] ?_
  exact J_X12_litIn_4 K n h E n a0 x1 (0 : Int32) (0 : Int32) hf
theorem C_X12_litIn {G : jG} {l : Launch} (d : Nat) {n : Nat} {a0 : Nat} {x1 : Int32} {h : jH} {res : Int32} (hf : F_X12_litIn n a0 x1 h = some res) : jC G l mX12_litIn (d + 3) 0 0 [.ref a0, .int x1] h (jPR h res) :=
  jC.of (by decide +kernel) (jcats rfl) (Nat.le_of_ble_eq_true rfl) (fun X K E => J_X12_litIn K n h E a0 x1 hf)
set_option maxHeartbeats 400000 in
set_option maxRecDepth 100000 in
theorem J_X12_lit_21 {G : jG} {l : Launch} {d : Nat} {X : jX} {res : (Int32 × jH)} (K : jOK G l mX12_lit (d + 4) X) (n : Nat) (E : jEnd G mX12_lit (jPW res) X) (a0 : Nat) (x1 : Int32) (sa0 : Nat) (s1 : Int32) (h : jH) (hf : F_X12_lit_21 n a0 x1 sa0 s1 h = some res) : jJ G X h 0 0 21 [some (.ref a0), some (.int x1)] [.int s1, .ref sa0] := by
  unfold F_X12_lit_21 at hf
  refine jr_iconst K (D_at DX12_lit 12 rfl) (v := (1 : Int32)) (by decide) ?_
  obtain ⟨q22, e22, hf⟩ := jbind hf
  obtain ⟨rc_22, e22⟩ := jcv_o e22
  refine jr_callV K (C_X12_throwsIf (d + 3) e22) (D_at DX12_lit 13 rfl) cv_X12_250_X12_throwsIf (As := [.int s1, .int (1 : Int32)]) (ci := 10) rfl rc_22 rfl rfl (by exact Nat.le_of_ble_eq_true rfl) (kc2 := 0) (ks2 := 0) rfl rfl (fun k9 h9 w9 => by cases w9.1) (fun r9 h9 w9 => ?_)
  obtain ⟨w1, w2⟩ := w9
  subst h9
  cases w1
  show jJ G X _ 0 0 _ _ (.int q22.1 :: _)
  refine jr_if_eq K (D_at DX12_lit 14 rfl) (tgt := 32) (by decide) (fun c25 => ?_) (fun c25 => ?_)
  · replace hf := (if_pos c25).symm.trans hf
    refine jr_aload_n K (D_at DX12_lit 17 rfl) rfl rfl ?_
    refine jr_iload_n K (D_at DX12_lit 18 rfl) rfl rfl ?_
    obtain ⟨v34, e34, hf⟩ := jbind hf
    obtain ⟨rc_34, e34⟩ := jcv_o e34
    refine jr_callV K (C_X12_litIn (d) e34) (D_at DX12_lit 19 rfl) cv_X12_404_X12_litIn (As := [.int x1]) (ci := 10) rfl rc_34 rfl rfl (by exact Nat.le_of_ble_eq_true rfl) (kc2 := 0) (ks2 := 0) rfl rfl (fun k9 h9 w9 => by cases w9.1) (fun r9 h9 w9 => ?_)
    obtain ⟨w1, w2⟩ := w9
    subst h9
    cases w1
    show jJ G X _ 0 0 _ _ (.int v34 :: _)
    cases hf
    exact jr_iret K E (D_at DX12_lit 20 rfl) rfl ⟨rfl, rfl⟩
  · replace hf := (if_neg c25).symm.trans hf
    refine jr_iconst K (D_at DX12_lit 15 rfl) (v := (0 : Int32)) (by decide) ?_
    refine jr_goto K (D_at DX12_lit 16 rfl) (tgt := 37) (by decide) ?_
    cases hf
    exact jr_iret K E (D_at DX12_lit 20 rfl) rfl ⟨rfl, rfl⟩
set_option maxHeartbeats 400000 in
set_option maxRecDepth 100000 in
theorem J_X12_lit {G : jG} {l : Launch} {d : Nat} {X : jX} {res : (Int32 × jH)} (K : jOK G l mX12_lit (d + 4) X) (n : Nat) (E : jEnd G mX12_lit (jPW res) X) (a0 : Nat) (x1 : Int32) (h : jH) (hf : F_X12_lit n a0 x1 h = some res) : jJ G X h 0 0 0 [some (.ref a0), some (.int x1)] [] := by
  unfold F_X12_lit at hf
  refine jr_aload_n K (D_at DX12_lit 0 rfl) rfl rfl ?_
  refine jr_iconst K (D_at DX12_lit 1 rfl) (v := (0 : Int32)) (by decide) ?_
  obtain ⟨h2, e2, hf⟩ := jbind hf
  refine jr_putI K (D_at DX12_lit 2 rfl) fp_X12_3_10 (Or.inl rfl) e2 ?_
  refine jr_aload_n K (D_at DX12_lit 3 rfl) rfl rfl ?_
  refine jr_iload_n K (D_at DX12_lit 4 rfl) rfl rfl ?_
  refine jr_iconst K (D_at DX12_lit 5 rfl) (v := (0 : Int32)) (by decide) ?_
  refine jr_bipush K (D_at DX12_lit 6 rfl) (v := (7 : Int32)) (by decide) ?_
  obtain ⟨v10, e10, hf⟩ := jbind hf
  refine jr_callS K (C_X12_in (d + 3) e10) (D_at DX12_lit 7 rfl) cs_X12_77_X12_in (As := [.int x1, .int (0 : Int32), .int (7 : Int32)]) rfl rfl (by exact Nat.le_of_ble_eq_true rfl) (kc2 := 0) (ks2 := 0) rfl rfl (fun k9 h9 w9 => by cases w9.1) (fun r9 h9 w9 => ?_)
  obtain ⟨w1, w2⟩ := w9
  subst h9
  cases w1
  show jJ G X _ 0 0 _ _ (.int v10 :: _)
  refine jr_if_ne K (D_at DX12_lit 8 rfl) (tgt := 20) (by decide) (fun c13 => ?_) (fun c13 => ?_)
  · replace hf := (if_neg c13).symm.trans hf
    refine jr_iconst K (D_at DX12_lit 11 rfl) (v := (0 : Int32)) (by decide) ?_
    refine jr_keep [true, true] ?_
    exact J_X12_lit_21 K n E a0 x1 a0 (0 : Int32) h2 hf
  · replace hf := (if_pos c13).symm.trans hf
    refine jr_iconst K (D_at DX12_lit 9 rfl) (v := (1 : Int32)) (by decide) ?_
    refine jr_goto K (D_at DX12_lit 10 rfl) (tgt := 21) (by decide) ?_
    refine jr_keep [true, true] ?_
    exact J_X12_lit_21 K n E a0 x1 a0 (1 : Int32) h2 hf
theorem C_X12_lit {G : jG} {l : Launch} (d : Nat) {n : Nat} {a0 : Nat} {x1 : Int32} {h : jH} {res : (Int32 × jH)} (hf : F_X12_lit n a0 x1 h = some res) : jC G l mX12_lit (d + 4) 0 0 [.ref a0, .int x1] h (jPW res) :=
  jC.of (by decide +kernel) (jcats rfl) (Nat.le_of_ble_eq_true rfl) (fun X K E => J_X12_lit K n E a0 x1 h hf)
set_option maxHeartbeats 400000 in
set_option maxRecDepth 100000 in
theorem J_X12_sunny_69 {G : jG} {l : Launch} {d : Nat} {X : jX} {res : (Int32 × jH)} (K : jOK G l mX12_sunny (d + 3) X) (n : Nat) (rc11 : Nat → Int32 → Int32 → Int32 → jH → Option (Int32 × jH)) (hr11 : ∀ (a0 : Nat) (x1 : Int32) (x2 : Int32) (x3 : Int32) (h : jH), rc11 a0 x1 x2 x3 h = some res → jJ G X h 0 0 11 [some (.ref a0), some (.int x1), some (.int x2), some (.int x3), none, none] []) (E : jEnd G mX12_sunny (jPW res) X) (a0 : Nat) (x2 : Int32) (x3 : Int32) (x4 : Int32) (s0 : Int32) (h : jH) (hf : F_X12_sunny_69 n rc11 a0 x2 x3 x4 s0 h = some res) : jJ G X h 0 0 69 [some (.ref a0), none, some (.int x2), some (.int x3), some (.int x4), none] [.int s0] := by
  unfold F_X12_sunny_69 at hf
  refine jr_istore_n K (D_at DX12_sunny 39 rfl) (i := 1) rfl (by decide) (L2 := [_, _, _, _, _, _]) rfl ?_
  refine jr_iload_n K (D_at DX12_sunny 40 rfl) rfl rfl ?_
  refine jr_iload K (D_at DX12_sunny 41 rfl) rfl ?_
  refine jr_max K (D_at DX12_sunny 42 rfl) mm_X12_368 (by exact Nat.le_of_ble_eq_true rfl) ?_
  refine jr_istore_n K (D_at DX12_sunny 43 rfl) (i := 2) rfl (by decide) (L2 := [_, _, _, _, _, _]) rfl ?_
  refine jr_iinc K (D_at DX12_sunny 44 rfl) (i := 3) rfl (v := x3 + (1 : Int32)) (jinc (by decide)) (by decide) (L2 := [_, _, _, _, _, _]) rfl ?_
  refine jr_goto K (D_at DX12_sunny 45 rfl) (tgt := 11) (by decide) ?_
  refine jr_keep [true, true, true, true, false, false] ?_
  exact hr11 a0 s0 (if x2 < x4 then x4 else x2) (x3 + (1 : Int32)) h hf
set_option maxHeartbeats 400000 in
set_option maxRecDepth 100000 in
theorem J_X12_sunny_25_b {G : jG} {l : Launch} {d : Nat} {X : jX} {res : (Int32 × jH)} (K : jOK G l mX12_sunny (d + 3) X) (n : Nat) (rc11 : Nat → Int32 → Int32 → Int32 → jH → Option (Int32 × jH)) (hr11 : ∀ (a0 : Nat) (x1 : Int32) (x2 : Int32) (x3 : Int32) (h : jH), rc11 a0 x1 x2 x3 h = some res → jJ G X h 0 0 11 [some (.ref a0), some (.int x1), some (.int x2), some (.int x3), none, none] []) (rc25 : Nat → Int32 → Int32 → Int32 → Int32 → Int32 → jH → Option (Int32 × jH)) (hr25 : ∀ (a0 : Nat) (x1 : Int32) (x2 : Int32) (x3 : Int32) (x4 : Int32) (x5 : Int32) (h : jH), rc25 a0 x1 x2 x3 x4 x5 h = some res → jJ G X h 0 0 25 [some (.ref a0), some (.int x1), some (.int x2), some (.int x3), some (.int x4), some (.int x5)] []) (E : jEnd G mX12_sunny (jPW res) X) (a0 : Nat) (x1 : Int32) (x2 : Int32) (x3 : Int32) (x4 : Int32) (x5 : Int32) (h : jH) (hf : F_X12_sunny_25_b n rc11 rc25 a0 x1 x2 x3 x4 x5 h = some res) : jJ G X h 0 0 25 [some (.ref a0), some (.int x1), some (.int x2), some (.int x3), some (.int x4), some (.int x5)] [] := by
  unfold F_X12_sunny_25_b at hf
  refine jr_iload K (D_at DX12_sunny 17 rfl) rfl ?_
  refine jr_bipush K (D_at DX12_sunny 18 rfl) (v := (8 : Int32)) (by decide) ?_
  refine jr_icmp_ge K (D_at DX12_sunny 19 rfl) (tgt := 58) (by decide) (fun c29 => ?_) (fun c29 => ?_)
  · replace hf := (if_pos c29).symm.trans hf
    refine jr_iload K (D_at DX12_sunny 33 rfl) rfl ?_
    refine jr_iload_n K (D_at DX12_sunny 34 rfl) rfl rfl ?_
    refine jr_icmp_le K (D_at DX12_sunny 35 rfl) (tgt := 68) (by decide) (fun c61 => ?_) (fun c61 => ?_)
    · replace hf := (if_pos c61).symm.trans hf
      refine jr_iload_n K (D_at DX12_sunny 38 rfl) rfl rfl ?_
      refine jr_keep [true, false, true, true, true, false] ?_
      exact J_X12_sunny_69 K n rc11 hr11 E a0 x2 x3 x4 x1 h hf
    · replace hf := (if_neg c61).symm.trans hf
      refine jr_iload_n K (D_at DX12_sunny 36 rfl) rfl rfl ?_
      refine jr_goto K (D_at DX12_sunny 37 rfl) (tgt := 69) (by decide) ?_
      refine jr_keep [true, false, true, true, true, false] ?_
      exact J_X12_sunny_69 K n rc11 hr11 E a0 x2 x3 x4 x3 h hf
  · replace hf := (if_neg c29).symm.trans hf
    refine jr_iload K (D_at DX12_sunny 20 rfl) rfl ?_
    refine jr_aload_n K (D_at DX12_sunny 21 rfl) rfl rfl ?_
    refine jr_iload_n K (D_at DX12_sunny 22 rfl) rfl rfl ?_
    refine jr_iload K (D_at DX12_sunny 23 rfl) rfl ?_
    obtain ⟨v38, e38, hf⟩ := jbind hf
    obtain ⟨rc_38, e38⟩ := jcv_o e38
    refine jr_callV K (C_X12_isLit (d) e38) (D_at DX12_sunny 24 rfl) cv_X12_257_X12_isLit (As := [.int x3, .int x5]) (ci := 10) rfl rc_38 rfl rfl (by exact Nat.le_of_ble_eq_true rfl) (kc2 := 0) (ks2 := 0) rfl rfl (fun k9 h9 w9 => by cases w9.1) (fun r9 h9 w9 => ?_)
    obtain ⟨w1, w2⟩ := w9
    subst h9
    cases w1
    show jJ G X _ 0 0 _ _ (.int v38 :: _)
    refine jr_if_eq K (D_at DX12_sunny 25 rfl) (tgt := 48) (by decide) (fun c41 => ?_) (fun c41 => ?_)
    · replace hf := (if_pos c41).symm.trans hf
      refine jr_iconst K (D_at DX12_sunny 28 rfl) (v := (0 : Int32)) (by decide) ?_
      refine jr_iadd K (D_at DX12_sunny 29 rfl) ?_
      refine jr_istore K (D_at DX12_sunny 30 rfl) (i := 4) (by decide) (L2 := [_, _, _, _, _, _]) rfl ?_
      refine jr_iinc K (D_at DX12_sunny 31 rfl) (i := 5) rfl (v := x5 + (1 : Int32)) (jinc (by decide)) (by decide) (L2 := [_, _, _, _, _, _]) rfl ?_
      refine jr_goto K (D_at DX12_sunny 32 rfl) (tgt := 25) (by decide) ?_
      refine jr_keep [true, true, true, true, true, true] ?_
      exact hr25 a0 x1 x2 x3 (x4 + (0 : Int32)) (x5 + (1 : Int32)) h hf
    · replace hf := (if_neg c41).symm.trans hf
      refine jr_iconst K (D_at DX12_sunny 26 rfl) (v := (1 : Int32)) (by decide) ?_
      refine jr_goto K (D_at DX12_sunny 27 rfl) (tgt := 49) (by decide) ?_
      refine jr_iadd K (D_at DX12_sunny 29 rfl) ?_
      refine jr_istore K (D_at DX12_sunny 30 rfl) (i := 4) (by decide) (L2 := [_, _, _, _, _, _]) rfl ?_
      refine jr_iinc K (D_at DX12_sunny 31 rfl) (i := 5) rfl (v := x5 + (1 : Int32)) (jinc (by decide)) (by decide) (L2 := [_, _, _, _, _, _]) rfl ?_
      refine jr_goto K (D_at DX12_sunny 32 rfl) (tgt := 25) (by decide) ?_
      refine jr_keep [true, true, true, true, true, true] ?_
      exact hr25 a0 x1 x2 x3 (x4 + (1 : Int32)) (x5 + (1 : Int32)) h hf
theorem J_X12_sunny_25 {G : jG} {l : Launch} {d : Nat} {X : jX} {res : (Int32 × jH)} (K : jOK G l mX12_sunny (d + 3) X) (n : Nat) (rc11 : Nat → Int32 → Int32 → Int32 → jH → Option (Int32 × jH)) (hr11 : ∀ (a0 : Nat) (x1 : Int32) (x2 : Int32) (x3 : Int32) (h : jH), rc11 a0 x1 x2 x3 h = some res → jJ G X h 0 0 11 [some (.ref a0), some (.int x1), some (.int x2), some (.int x3), none, none] []) (E : jEnd G mX12_sunny (jPW res) X) (k : Nat) : ∀ (a0 : Nat) (x1 : Int32) (x2 : Int32) (x3 : Int32) (x4 : Int32) (x5 : Int32) (h : jH), F_X12_sunny_25 n rc11 k a0 x1 x2 x3 x4 x5 h = some res → jJ G X h 0 0 25 [some (.ref a0), some (.int x1), some (.int x2), some (.int x3), some (.int x4), some (.int x5)] [] := by
  induction k with
  | zero =>
    intro a0 x1 x2 x3 x4 x5 h hf
    exact jno (show (none : Option (Int32 × jH)) = some res from hf)
  | succ k ih =>
    intro a0 x1 x2 x3 x4 x5 h hf
    exact J_X12_sunny_25_b K n rc11 hr11 (F_X12_sunny_25 n rc11 k) ih E a0 x1 x2 x3 x4 x5 h hf
set_option maxHeartbeats 400000 in
set_option maxRecDepth 100000 in
theorem J_X12_sunny_11_b {G : jG} {l : Launch} {d : Nat} {X : jX} {res : (Int32 × jH)} (K : jOK G l mX12_sunny (d + 3) X) (n : Nat) (rc11 : Nat → Int32 → Int32 → Int32 → jH → Option (Int32 × jH)) (hr11 : ∀ (a0 : Nat) (x1 : Int32) (x2 : Int32) (x3 : Int32) (h : jH), rc11 a0 x1 x2 x3 h = some res → jJ G X h 0 0 11 [some (.ref a0), some (.int x1), some (.int x2), some (.int x3), none, none] []) (E : jEnd G mX12_sunny (jPW res) X) (a0 : Nat) (x1 : Int32) (x2 : Int32) (x3 : Int32) (h : jH) (hf : F_X12_sunny_11_b n rc11 a0 x1 x2 x3 h = some res) : jJ G X h 0 0 11 [some (.ref a0), some (.int x1), some (.int x2), some (.int x3), none, none] [] := by
  unfold F_X12_sunny_11_b at hf
  refine jr_iload_n K (D_at DX12_sunny 9 rfl) rfl rfl ?_
  refine jr_aload_n K (D_at DX12_sunny 10 rfl) rfl rfl ?_
  obtain ⟨v13, e13, hf⟩ := jbind hf
  obtain ⟨rc_13, e13⟩ := jcv_o e13
  refine jr_callV K (C_X12_rings (d + 2) e13) (D_at DX12_sunny 11 rfl) cv_X12_59_X12_rings (As := []) (ci := 10) rfl rc_13 rfl rfl (by exact Nat.le_of_ble_eq_true rfl) (kc2 := 0) (ks2 := 0) rfl rfl (fun k9 h9 w9 => by cases w9.1) (fun r9 h9 w9 => ?_)
  obtain ⟨w1, w2⟩ := w9
  subst h9
  cases w1
  show jJ G X _ 0 0 _ _ (.int v13 :: _)
  refine jr_icmp_ge K (D_at DX12_sunny 12 rfl) (tgt := 83) (by decide) (fun c16 => ?_) (fun c16 => ?_)
  · replace hf := (if_pos c16).symm.trans hf
    refine jr_iload_n K (D_at DX12_sunny 46 rfl) rfl rfl ?_
    cases hf
    exact jr_iret K E (D_at DX12_sunny 47 rfl) rfl ⟨rfl, rfl⟩
  · replace hf := (if_neg c16).symm.trans hf
    refine jr_iconst K (D_at DX12_sunny 13 rfl) (v := (0 : Int32)) (by decide) ?_
    refine jr_istore K (D_at DX12_sunny 14 rfl) (i := 4) (by decide) (L2 := [_, _, _, _, _, _]) rfl ?_
    refine jr_iconst K (D_at DX12_sunny 15 rfl) (v := (0 : Int32)) (by decide) ?_
    refine jr_istore K (D_at DX12_sunny 16 rfl) (i := 5) (by decide) (L2 := [_, _, _, _, _, _]) rfl ?_
    refine jr_keep [true, true, true, true, true, true] ?_
    exact J_X12_sunny_25 K n rc11 hr11 E n a0 x1 x2 x3 (0 : Int32) (0 : Int32) h hf
theorem J_X12_sunny_11 {G : jG} {l : Launch} {d : Nat} {X : jX} {res : (Int32 × jH)} (K : jOK G l mX12_sunny (d + 3) X) (n : Nat) (E : jEnd G mX12_sunny (jPW res) X) (k : Nat) : ∀ (a0 : Nat) (x1 : Int32) (x2 : Int32) (x3 : Int32) (h : jH), F_X12_sunny_11 n k a0 x1 x2 x3 h = some res → jJ G X h 0 0 11 [some (.ref a0), some (.int x1), some (.int x2), some (.int x3), none, none] [] := by
  induction k with
  | zero =>
    intro a0 x1 x2 x3 h hf
    exact jno (show (none : Option (Int32 × jH)) = some res from hf)
  | succ k ih =>
    intro a0 x1 x2 x3 h hf
    exact J_X12_sunny_11_b K n (F_X12_sunny_11 n k) ih E a0 x1 x2 x3 h hf
set_option maxHeartbeats 400000 in
set_option maxRecDepth 100000 in
theorem J_X12_sunny {G : jG} {l : Launch} {d : Nat} {X : jX} {res : (Int32 × jH)} (K : jOK G l mX12_sunny (d + 3) X) (n : Nat) (E : jEnd G mX12_sunny (jPW res) X) (a0 : Nat) (h : jH) (hf : F_X12_sunny n a0 h = some res) : jJ G X h 0 0 0 [some (.ref a0), none, none, none, none, none] [] := by
  unfold F_X12_sunny at hf
  refine jr_aload_n K (D_at DX12_sunny 0 rfl) rfl rfl ?_
  refine jr_iconst K (D_at DX12_sunny 1 rfl) (v := (0 : Int32)) (by decide) ?_
  obtain ⟨h2, e2, hf⟩ := jbind hf
  refine jr_putI K (D_at DX12_sunny 2 rfl) fp_X12_3_10 (Or.inl rfl) e2 ?_
  refine jr_iconst K (D_at DX12_sunny 3 rfl) (v := (-1 : Int32)) (by decide) ?_
  refine jr_istore_n K (D_at DX12_sunny 4 rfl) (i := 1) rfl (by decide) (L2 := [_, _, _, _, _, _]) rfl ?_
  refine jr_iconst K (D_at DX12_sunny 5 rfl) (v := (-1 : Int32)) (by decide) ?_
  refine jr_istore_n K (D_at DX12_sunny 6 rfl) (i := 2) rfl (by decide) (L2 := [_, _, _, _, _, _]) rfl ?_
  refine jr_iconst K (D_at DX12_sunny 7 rfl) (v := (0 : Int32)) (by decide) ?_
  refine jr_istore_n K (D_at DX12_sunny 8 rfl) (i := 3) rfl (by decide) (L2 := [_, _, _, _, _, _]) rfl ?_
  refine jr_keep [true, true, true, true, false, false] ?_
  exact J_X12_sunny_11 K n E n a0 (-1 : Int32) (-1 : Int32) (0 : Int32) h2 hf
theorem C_X12_sunny {G : jG} {l : Launch} (d : Nat) {n : Nat} {a0 : Nat} {h : jH} {res : (Int32 × jH)} (hf : F_X12_sunny n a0 h = some res) : jC G l mX12_sunny (d + 3) 0 0 [.ref a0] h (jPW res) :=
  jC.of (by decide +kernel) (jcats rfl) (Nat.le_of_ble_eq_true rfl) (fun X K E => J_X12_sunny K n E a0 h hf)
set_option maxHeartbeats 400000 in
set_option maxRecDepth 100000 in
theorem J_X12_lets_103 {G : jG} {l : Launch} {d : Nat} {X : jX} {res : (Int32 × jH)} (K : jOK G l mX12_lets (d + 3) X) (n : Nat) (E : jEnd G mX12_lets (jPW res) X) (x1 : Int32) (x2 : Int32) (x4 : Int32) (x5 : Int32) (s0 : Int32) (h : jH) (hf : F_X12_lets_103 n x1 x2 x4 x5 s0 h = some res) : jJ G X h 0 0 103 [none, some (.int x1), some (.int x2), none, some (.int x4), some (.int x5), none] [.int s0] := by
  unfold F_X12_lets_103 at hf
  refine jr_istore K (D_at DX12_lets 58 rfl) (i := 6) (by decide) (L2 := [_, _, _, _, _, _, _]) rfl ?_
  refine jr_iload K (D_at DX12_lets 59 rfl) rfl ?_
  refine jr_iload_n K (D_at DX12_lets 60 rfl) rfl rfl ?_
  refine jr_icmp_le K (D_at DX12_lets 61 rfl) (tgt := 115) (by decide) (fun c108 => ?_) (fun c108 => ?_)
  · replace hf := (if_pos c108).symm.trans hf
    refine jr_iload_n K (D_at DX12_lets_1 0 rfl) rfl rfl ?_
    refine jr_iload K (D_at DX12_lets_1 1 rfl) rfl ?_
    refine jr_icmp_ge K (D_at DX12_lets_1 2 rfl) (tgt := 128) (by decide) (fun c118 => ?_) (fun c118 => ?_)
    · replace hf := (if_pos c118).symm.trans hf
      refine jr_iload K (D_at DX12_lets_1 7 rfl) rfl ?_
      cases hf
      exact jr_iret K E (D_at DX12_lets_1 8 rfl) rfl ⟨rfl, rfl⟩
    · replace hf := (if_neg c118).symm.trans hf
      refine jr_iload K (D_at DX12_lets_1 3 rfl) rfl ?_
      refine jr_iconst K (D_at DX12_lets_1 4 rfl) (v := (1 : Int32)) (by decide) ?_
      refine jr_iadd K (D_at DX12_lets_1 5 rfl) ?_
      refine jr_goto K (D_at DX12_lets_1 6 rfl) (tgt := 130) (by decide) ?_
      cases hf
      exact jr_iret K E (D_at DX12_lets_1 8 rfl) rfl ⟨rfl, rfl⟩
  · replace hf := (if_neg c108).symm.trans hf
    refine jr_iconst K (D_at DX12_lets 62 rfl) (v := (-1 : Int32)) (by decide) ?_
    refine jr_goto K (D_at DX12_lets 63 rfl) (tgt := 130) (by decide) ?_
    cases hf
    exact jr_iret K E (D_at DX12_lets_1 8 rfl) rfl ⟨rfl, rfl⟩
set_option maxHeartbeats 400000 in
set_option maxRecDepth 100000 in
theorem J_X12_lets_48_b {G : jG} {l : Launch} {d : Nat} {X : jX} {res : (Int32 × jH)} (K : jOK G l mX12_lets (d + 3) X) (n : Nat) (rc48 : Nat → Int32 → Int32 → Int32 → Int32 → jH → Option (Int32 × jH)) (hr48 : ∀ (a0 : Nat) (x1 : Int32) (x2 : Int32) (x3 : Int32) (x4 : Int32) (h : jH), rc48 a0 x1 x2 x3 x4 h = some res → jJ G X h 0 0 48 [some (.ref a0), some (.int x1), some (.int x2), some (.int x3), some (.int x4), none, none] []) (E : jEnd G mX12_lets (jPW res) X) (a0 : Nat) (x1 : Int32) (x2 : Int32) (x3 : Int32) (x4 : Int32) (h : jH) (hf : F_X12_lets_48_b n rc48 a0 x1 x2 x3 x4 h = some res) : jJ G X h 0 0 48 [some (.ref a0), some (.int x1), some (.int x2), some (.int x3), some (.int x4), none, none] [] := by
  unfold F_X12_lets_48_b at hf
  refine jr_iload K (D_at DX12_lets 28 rfl) rfl ?_
  refine jr_aload_n K (D_at DX12_lets 29 rfl) rfl rfl ?_
  obtain ⟨v51, e51, hf⟩ := jbind hf
  obtain ⟨rc_51, e51⟩ := jcv_o e51
  refine jr_callV K (C_X12_rings (d + 2) e51) (D_at DX12_lets 30 rfl) cv_X12_59_X12_rings (As := []) (ci := 10) rfl rc_51 rfl rfl (by exact Nat.le_of_ble_eq_true rfl) (kc2 := 0) (ks2 := 0) rfl rfl (fun k9 h9 w9 => by cases w9.1) (fun r9 h9 w9 => ?_)
  obtain ⟨w1, w2⟩ := w9
  subst h9
  cases w1
  show jJ G X _ 0 0 _ _ (.int v51 :: _)
  refine jr_icmp_ge K (D_at DX12_lets 31 rfl) (tgt := 73) (by decide) (fun c54 => ?_) (fun c54 => ?_)
  · replace hf := (if_pos c54).symm.trans hf
    refine jr_iload_n K (D_at DX12_lets 41 rfl) rfl rfl ?_
    refine jr_aload_n K (D_at DX12_lets 42 rfl) rfl rfl ?_
    obtain ⟨v75, e75, hf⟩ := jbind hf
    obtain ⟨rc_75, e75⟩ := jcv_o e75
    refine jr_callV K (C_X12_rings (d + 2) e75) (D_at DX12_lets 43 rfl) cv_X12_59_X12_rings (As := []) (ci := 10) rfl rc_75 rfl rfl (by exact Nat.le_of_ble_eq_true rfl) (kc2 := 0) (ks2 := 0) rfl rfl (fun k9 h9 w9 => by cases w9.1) (fun r9 h9 w9 => ?_)
    obtain ⟨w1, w2⟩ := w9
    subst h9
    cases w1
    show jJ G X _ 0 0 _ _ (.int v75 :: _)
    by_cases c78 : v75 = 0
    · exact jno (show (none : Option (Int32 × jH)) = some res from (if_pos c78).symm.trans hf)
    replace hf := (if_neg c78).symm.trans hf
    refine jr_idiv K (D_at DX12_lets 44 rfl) c78 ?_
    refine jr_istore K (D_at DX12_lets 45 rfl) (i := 4) (by decide) (L2 := [_, _, _, _, _, _, _]) rfl ?_
    refine jr_iload_n K (D_at DX12_lets 46 rfl) rfl rfl ?_
    refine jr_aload_n K (D_at DX12_lets 47 rfl) rfl rfl ?_
    obtain ⟨v83, e83, hf⟩ := jbind hf
    obtain ⟨rc_83, e83⟩ := jcv_o e83
    refine jr_callV K (C_X12_rings (d + 2) e83) (D_at DX12_lets 48 rfl) cv_X12_59_X12_rings (As := []) (ci := 10) rfl rc_83 rfl rfl (by exact Nat.le_of_ble_eq_true rfl) (kc2 := 0) (ks2 := 0) rfl rfl (fun k9 h9 w9 => by cases w9.1) (fun r9 h9 w9 => ?_)
    obtain ⟨w1, w2⟩ := w9
    subst h9
    cases w1
    show jJ G X _ 0 0 _ _ (.int v83 :: _)
    by_cases c86 : v83 = 0
    · exact jno (show (none : Option (Int32 × jH)) = some res from (if_pos c86).symm.trans hf)
    replace hf := (if_neg c86).symm.trans hf
    refine jr_irem K (D_at DX12_lets 49 rfl) c86 ?_
    refine jr_istore K (D_at DX12_lets 50 rfl) (i := 5) (by decide) (L2 := [_, _, _, _, _, _, _]) rfl ?_
    refine jr_iload K (D_at DX12_lets 51 rfl) rfl ?_
    refine jr_if_le K (D_at DX12_lets 52 rfl) (tgt := 101) (by decide) (fun c91 => ?_) (fun c91 => ?_)
    · replace hf := (if_pos c91).symm.trans hf
      refine jr_iload K (D_at DX12_lets 57 rfl) rfl ?_
      refine jr_keep [false, true, true, false, true, true, false] ?_
      exact J_X12_lets_103 K n E x1 x2 (x3 / v75) (x3 - x3 / v83 * v83) (x3 / v75) h hf
    · replace hf := (if_neg c91).symm.trans hf
      refine jr_iload K (D_at DX12_lets 53 rfl) rfl ?_
      refine jr_iconst K (D_at DX12_lets 54 rfl) (v := (1 : Int32)) (by decide) ?_
      refine jr_iadd K (D_at DX12_lets 55 rfl) ?_
      refine jr_goto K (D_at DX12_lets 56 rfl) (tgt := 103) (by decide) ?_
      refine jr_keep [false, true, true, false, true, true, false] ?_
      exact J_X12_lets_103 K n E x1 x2 (x3 / v75) (x3 - x3 / v83 * v83) ((x3 / v75) + (1 : Int32)) h hf
  · replace hf := (if_neg c54).symm.trans hf
    refine jr_iload_n K (D_at DX12_lets 32 rfl) rfl rfl ?_
    refine jr_aload_n K (D_at DX12_lets 33 rfl) rfl rfl ?_
    refine jr_iload K (D_at DX12_lets 34 rfl) rfl ?_
    refine jr_iconst K (D_at DX12_lets 35 rfl) (v := (5 : Int32)) (by decide) ?_
    obtain ⟨v62, e62, hf⟩ := jbind hf
    obtain ⟨rc_62, e62⟩ := jcv_o e62
    refine jr_callV K (C_X12_of (d + 1) e62) (D_at DX12_lets 36 rfl) cv_X12_67_X12_of (As := [.int x4, .int (5 : Int32)]) (ci := 10) rfl rc_62 rfl rfl (by exact Nat.le_of_ble_eq_true rfl) (kc2 := 0) (ks2 := 0) rfl rfl (fun k9 h9 w9 => by cases w9.1) (fun r9 h9 w9 => ?_)
    obtain ⟨w1, w2⟩ := w9
    subst h9
    cases w1
    show jJ G X _ 0 0 _ _ (.int v62 :: _)
    refine jr_iadd K (D_at DX12_lets 37 rfl) ?_
    refine jr_istore_n K (D_at DX12_lets 38 rfl) (i := 3) rfl (by decide) (L2 := [_, _, _, _, _, _, _]) rfl ?_
    refine jr_iinc K (D_at DX12_lets 39 rfl) (i := 4) rfl (v := x4 + (1 : Int32)) (jinc (by decide)) (by decide) (L2 := [_, _, _, _, _, _, _]) rfl ?_
    refine jr_goto K (D_at DX12_lets 40 rfl) (tgt := 48) (by decide) ?_
    refine jr_keep [true, true, true, true, true, false, false] ?_
    exact hr48 a0 x1 x2 (x3 + v62) (x4 + (1 : Int32)) h hf
theorem J_X12_lets_48 {G : jG} {l : Launch} {d : Nat} {X : jX} {res : (Int32 × jH)} (K : jOK G l mX12_lets (d + 3) X) (n : Nat) (E : jEnd G mX12_lets (jPW res) X) (k : Nat) : ∀ (a0 : Nat) (x1 : Int32) (x2 : Int32) (x3 : Int32) (x4 : Int32) (h : jH), F_X12_lets_48 n k a0 x1 x2 x3 x4 h = some res → jJ G X h 0 0 48 [some (.ref a0), some (.int x1), some (.int x2), some (.int x3), some (.int x4), none, none] [] := by
  induction k with
  | zero =>
    intro a0 x1 x2 x3 x4 h hf
    exact jno (show (none : Option (Int32 × jH)) = some res from hf)
  | succ k ih =>
    intro a0 x1 x2 x3 x4 h hf
    exact J_X12_lets_48_b K n (F_X12_lets_48 n k) ih E a0 x1 x2 x3 x4 h hf
set_option maxHeartbeats 400000 in
set_option maxRecDepth 100000 in
theorem J_X12_lets_34 {G : jG} {l : Launch} {d : Nat} {X : jX} {res : (Int32 × jH)} (K : jOK G l mX12_lets (d + 3) X) (n : Nat) (E : jEnd G mX12_lets (jPW res) X) (a0 : Nat) (x1 : Int32) (x2 : Int32) (sa0 : Nat) (s1 : Int32) (h : jH) (hf : F_X12_lets_34 n a0 x1 x2 sa0 s1 h = some res) : jJ G X h 0 0 34 [some (.ref a0), some (.int x1), some (.int x2), none, none, none, none] [.int s1, .ref sa0] := by
  unfold F_X12_lets_34 at hf
  refine jr_iconst K (D_at DX12_lets 19 rfl) (v := (2 : Int32)) (by decide) ?_
  obtain ⟨q35, e35, hf⟩ := jbind hf
  obtain ⟨rc_35, e35⟩ := jcv_o e35
  refine jr_callV K (C_X12_throwsIf (d + 2) e35) (D_at DX12_lets 20 rfl) cv_X12_250_X12_throwsIf (As := [.int s1, .int (2 : Int32)]) (ci := 10) rfl rc_35 rfl rfl (by exact Nat.le_of_ble_eq_true rfl) (kc2 := 0) (ks2 := 0) rfl rfl (fun k9 h9 w9 => by cases w9.1) (fun r9 h9 w9 => ?_)
  obtain ⟨w1, w2⟩ := w9
  subst h9
  cases w1
  show jJ G X _ 0 0 _ _ (.int q35.1 :: _)
  refine jr_if_eq K (D_at DX12_lets 21 rfl) (tgt := 43) (by decide) (fun c38 => ?_) (fun c38 => ?_)
  · replace hf := (if_pos c38).symm.trans hf
    refine jr_iconst K (D_at DX12_lets 24 rfl) (v := (0 : Int32)) (by decide) ?_
    refine jr_istore_n K (D_at DX12_lets 25 rfl) (i := 3) rfl (by decide) (L2 := [_, _, _, _, _, _, _]) rfl ?_
    refine jr_iconst K (D_at DX12_lets 26 rfl) (v := (0 : Int32)) (by decide) ?_
    refine jr_istore K (D_at DX12_lets 27 rfl) (i := 4) (by decide) (L2 := [_, _, _, _, _, _, _]) rfl ?_
    refine jr_keep [true, true, true, true, true, false, false] ?_
    exact J_X12_lets_48 K n E n a0 x1 x2 (0 : Int32) (0 : Int32) q35.2 hf
  · replace hf := (if_neg c38).symm.trans hf
    refine jr_iconst K (D_at DX12_lets 22 rfl) (v := (0 : Int32)) (by decide) ?_
    cases hf
    exact jr_iret K E (D_at DX12_lets 23 rfl) rfl ⟨rfl, rfl⟩
set_option maxHeartbeats 400000 in
set_option maxRecDepth 100000 in
theorem J_X12_lets {G : jG} {l : Launch} {d : Nat} {X : jX} {res : (Int32 × jH)} (K : jOK G l mX12_lets (d + 3) X) (n : Nat) (E : jEnd G mX12_lets (jPW res) X) (a0 : Nat) (x1 : Int32) (x2 : Int32) (h : jH) (hf : F_X12_lets n a0 x1 x2 h = some res) : jJ G X h 0 0 0 [some (.ref a0), some (.int x1), some (.int x2), none, none, none, none] [] := by
  unfold F_X12_lets at hf
  refine jr_aload_n K (D_at DX12_lets 0 rfl) rfl rfl ?_
  refine jr_iconst K (D_at DX12_lets 1 rfl) (v := (0 : Int32)) (by decide) ?_
  obtain ⟨h2, e2, hf⟩ := jbind hf
  refine jr_putI K (D_at DX12_lets 2 rfl) fp_X12_3_10 (Or.inl rfl) e2 ?_
  refine jr_aload_n K (D_at DX12_lets 3 rfl) rfl rfl ?_
  refine jr_aload_n K (D_at DX12_lets 4 rfl) rfl rfl ?_
  refine jr_iload_n K (D_at DX12_lets 5 rfl) rfl rfl ?_
  obtain ⟨v8, e8, hf⟩ := jbind hf
  obtain ⟨rc_8, e8⟩ := jcv_o e8
  refine jr_callV K (C_X12_noRing (d) e8) (D_at DX12_lets 6 rfl) cv_X12_277_X12_noRing (As := [.int x1]) (ci := 10) rfl rc_8 rfl rfl (by exact Nat.le_of_ble_eq_true rfl) (kc2 := 0) (ks2 := 0) rfl rfl (fun k9 h9 w9 => by cases w9.1) (fun r9 h9 w9 => ?_)
  obtain ⟨w1, w2⟩ := w9
  subst h9
  cases w1
  show jJ G X _ 0 0 _ _ (.int v8 :: _)
  refine jr_iconst K (D_at DX12_lets 7 rfl) (v := (1 : Int32)) (by decide) ?_
  obtain ⟨q12, e12, hf⟩ := jbind hf
  obtain ⟨rc_12, e12⟩ := jcv_o e12
  refine jr_callV K (C_X12_throwsIf (d + 2) e12) (D_at DX12_lets 8 rfl) cv_X12_250_X12_throwsIf (As := [.int v8, .int (1 : Int32)]) (ci := 10) rfl rc_12 rfl rfl (by exact Nat.le_of_ble_eq_true rfl) (kc2 := 0) (ks2 := 0) rfl rfl (fun k9 h9 w9 => by cases w9.1) (fun r9 h9 w9 => ?_)
  obtain ⟨w1, w2⟩ := w9
  subst h9
  cases w1
  show jJ G X _ 0 0 _ _ (.int q12.1 :: _)
  refine jr_if_ne K (D_at DX12_lets 9 rfl) (tgt := 41) (by decide) (fun c15 => ?_) (fun c15 => ?_)
  · replace hf := (if_neg c15).symm.trans hf
    refine jr_iconst K (D_at DX12_lets 22 rfl) (v := (0 : Int32)) (by decide) ?_
    cases hf
    exact jr_iret K E (D_at DX12_lets 23 rfl) rfl ⟨rfl, rfl⟩
  · replace hf := (if_pos c15).symm.trans hf
    refine jr_aload_n K (D_at DX12_lets 10 rfl) rfl rfl ?_
    refine jr_iload_n K (D_at DX12_lets 11 rfl) rfl rfl ?_
    refine jr_iconst K (D_at DX12_lets 12 rfl) (v := (0 : Int32)) (by decide) ?_
    refine jr_bipush K (D_at DX12_lets 13 rfl) (v := (9 : Int32)) (by decide) ?_
    obtain ⟨v23, e23, hf⟩ := jbind hf
    refine jr_callS K (C_X12_in (d + 2) e23) (D_at DX12_lets 14 rfl) cs_X12_77_X12_in (As := [.int x2, .int (0 : Int32), .int (9 : Int32)]) rfl rfl (by exact Nat.le_of_ble_eq_true rfl) (kc2 := 0) (ks2 := 0) rfl rfl (fun k9 h9 w9 => by cases w9.1) (fun r9 h9 w9 => ?_)
    obtain ⟨w1, w2⟩ := w9
    subst h9
    cases w1
    show jJ G X _ 0 0 _ _ (.int v23 :: _)
    refine jr_if_ne K (D_at DX12_lets 15 rfl) (tgt := 33) (by decide) (fun c26 => ?_) (fun c26 => ?_)
    · replace hf := (if_neg c26).symm.trans hf
      refine jr_iconst K (D_at DX12_lets 18 rfl) (v := (0 : Int32)) (by decide) ?_
      refine jr_keep [true, true, true, false, false, false, false] ?_
      exact J_X12_lets_34 K n E a0 x1 x2 a0 (0 : Int32) q12.2 hf
    · replace hf := (if_pos c26).symm.trans hf
      refine jr_iconst K (D_at DX12_lets 16 rfl) (v := (1 : Int32)) (by decide) ?_
      refine jr_goto K (D_at DX12_lets 17 rfl) (tgt := 34) (by decide) ?_
      refine jr_keep [true, true, true, false, false, false, false] ?_
      exact J_X12_lets_34 K n E a0 x1 x2 a0 (1 : Int32) q12.2 hf
theorem C_X12_lets {G : jG} {l : Launch} (d : Nat) {n : Nat} {a0 : Nat} {x1 : Int32} {x2 : Int32} {h : jH} {res : (Int32 × jH)} (hf : F_X12_lets n a0 x1 x2 h = some res) : jC G l mX12_lets (d + 3) 0 0 [.ref a0, .int x1, .int x2] h (jPW res) :=
  jC.of (by decide +kernel) (jcats rfl) (Nat.le_of_ble_eq_true rfl) (fun X K E => J_X12_lets K n E a0 x1 x2 h hf)
set_option maxHeartbeats 400000 in
set_option maxRecDepth 100000 in
theorem J_X12_envy_9_b {G : jG} {l : Launch} {d : Nat} {X : jX} {res : (Int32 × jH)} (K : jOK G l mX12_envy (d + 2) X) (n : Nat) (rc9 : Nat → Int32 → Int32 → jH → Option (Int32 × jH)) (hr9 : ∀ (a0 : Nat) (x1 : Int32) (x2 : Int32) (h : jH), rc9 a0 x1 x2 h = some res → jJ G X h 0 0 9 [some (.ref a0), some (.int x1), some (.int x2)] []) (E : jEnd G mX12_envy (jPW res) X) (a0 : Nat) (x1 : Int32) (x2 : Int32) (h : jH) (hf : F_X12_envy_9_b n rc9 a0 x1 x2 h = some res) : jJ G X h 0 0 9 [some (.ref a0), some (.int x1), some (.int x2)] [] := by
  unfold F_X12_envy_9_b at hf
  refine jr_iload_n K (D_at DX12_envy 7 rfl) rfl rfl ?_
  refine jr_aload_n K (D_at DX12_envy 8 rfl) rfl rfl ?_
  obtain ⟨v11, e11, hf⟩ := jbind hf
  obtain ⟨rc_11, e11⟩ := jcv_o e11
  refine jr_callV K (C_X12_lastRing (d) e11) (D_at DX12_envy 9 rfl) cv_X12_70_X12_lastRing (As := []) (ci := 10) rfl rc_11 rfl rfl (by exact Nat.le_of_ble_eq_true rfl) (kc2 := 0) (ks2 := 0) rfl rfl (fun k9 h9 w9 => by cases w9.1) (fun r9 h9 w9 => ?_)
  obtain ⟨w1, w2⟩ := w9
  subst h9
  cases w1
  show jJ G X _ 0 0 _ _ (.int v11 :: _)
  refine jr_icmp_ge K (D_at DX12_envy 10 rfl) (tgt := 53) (by decide) (fun c14 => ?_) (fun c14 => ?_)
  · replace hf := (if_pos c14).symm.trans hf
    refine jr_iload_n K (D_at DX12_envy 33 rfl) rfl rfl ?_
    cases hf
    exact jr_iret K E (D_at DX12_envy 34 rfl) rfl ⟨rfl, rfl⟩
  · replace hf := (if_neg c14).symm.trans hf
    refine jr_iload_n K (D_at DX12_envy 11 rfl) rfl rfl ?_
    refine jr_aload_n K (D_at DX12_envy 12 rfl) rfl rfl ?_
    refine jr_iload_n K (D_at DX12_envy 13 rfl) rfl rfl ?_
    refine jr_iconst K (D_at DX12_envy 14 rfl) (v := (5 : Int32)) (by decide) ?_
    obtain ⟨v21, e21, hf⟩ := jbind hf
    obtain ⟨rc_21, e21⟩ := jcv_o e21
    refine jr_callV K (C_X12_of (d) e21) (D_at DX12_envy 15 rfl) cv_X12_67_X12_of (As := [.int x2, .int (5 : Int32)]) (ci := 10) rfl rc_21 rfl rfl (by exact Nat.le_of_ble_eq_true rfl) (kc2 := 0) (ks2 := 0) rfl rfl (fun k9 h9 w9 => by cases w9.1) (fun r9 h9 w9 => ?_)
    obtain ⟨w1, w2⟩ := w9
    subst h9
    cases w1
    show jJ G X _ 0 0 _ _ (.int v21 :: _)
    refine jr_aload_n K (D_at DX12_envy 16 rfl) rfl rfl ?_
    refine jr_iload_n K (D_at DX12_envy 17 rfl) rfl rfl ?_
    refine jr_iconst K (D_at DX12_envy 18 rfl) (v := (1 : Int32)) (by decide) ?_
    refine jr_iadd K (D_at DX12_envy 19 rfl) ?_
    refine jr_iconst K (D_at DX12_envy 20 rfl) (v := (5 : Int32)) (by decide) ?_
    obtain ⟨v29, e29, hf⟩ := jbind hf
    obtain ⟨rc_29, e29⟩ := jcv_o e29
    refine jr_callV K (C_X12_of (d) e29) (D_at DX12_envy 21 rfl) cv_X12_67_X12_of (As := [.int (x2 + (1 : Int32)), .int (5 : Int32)]) (ci := 10) rfl rc_29 rfl rfl (by exact Nat.le_of_ble_eq_true rfl) (kc2 := 0) (ks2 := 0) rfl rfl (fun k9 h9 w9 => by cases w9.1) (fun r9 h9 w9 => ?_)
    obtain ⟨w1, w2⟩ := w9
    subst h9
    cases w1
    show jJ G X _ 0 0 _ _ (.int v29 :: _)
    refine jr_isub K (D_at DX12_envy 22 rfl) ?_
    refine jr_abs K (D_at DX12_envy 23 rfl) mm_X12_274 (by exact Nat.le_of_ble_eq_true rfl) ?_
    refine jr_iconst K (D_at DX12_envy 24 rfl) (v := (1 : Int32)) (by decide) ?_
    refine jr_icmp_le K (D_at DX12_envy 25 rfl) (tgt := 44) (by decide) (fun c37 => ?_) (fun c37 => ?_)
    · replace hf := (if_pos c37).symm.trans hf
      refine jr_iconst K (D_at DX12_envy 28 rfl) (v := (0 : Int32)) (by decide) ?_
      refine jr_iadd K (D_at DX12_envy 29 rfl) ?_
      refine jr_istore_n K (D_at DX12_envy 30 rfl) (i := 1) rfl (by decide) (L2 := [_, _, _]) rfl ?_
      refine jr_iinc K (D_at DX12_envy 31 rfl) (i := 2) rfl (v := x2 + (1 : Int32)) (jinc (by decide)) (by decide) (L2 := [_, _, _]) rfl ?_
      refine jr_goto K (D_at DX12_envy 32 rfl) (tgt := 9) (by decide) ?_
      refine jr_keep [true, true, true] ?_
      exact hr9 a0 (x1 + (0 : Int32)) (x2 + (1 : Int32)) h hf
    · replace hf := (if_neg c37).symm.trans hf
      refine jr_iconst K (D_at DX12_envy 26 rfl) (v := (1 : Int32)) (by decide) ?_
      refine jr_goto K (D_at DX12_envy 27 rfl) (tgt := 45) (by decide) ?_
      refine jr_iadd K (D_at DX12_envy 29 rfl) ?_
      refine jr_istore_n K (D_at DX12_envy 30 rfl) (i := 1) rfl (by decide) (L2 := [_, _, _]) rfl ?_
      refine jr_iinc K (D_at DX12_envy 31 rfl) (i := 2) rfl (v := x2 + (1 : Int32)) (jinc (by decide)) (by decide) (L2 := [_, _, _]) rfl ?_
      refine jr_goto K (D_at DX12_envy 32 rfl) (tgt := 9) (by decide) ?_
      refine jr_keep [true, true, true] ?_
      exact hr9 a0 (x1 + (1 : Int32)) (x2 + (1 : Int32)) h hf
theorem J_X12_envy_9 {G : jG} {l : Launch} {d : Nat} {X : jX} {res : (Int32 × jH)} (K : jOK G l mX12_envy (d + 2) X) (n : Nat) (E : jEnd G mX12_envy (jPW res) X) (k : Nat) : ∀ (a0 : Nat) (x1 : Int32) (x2 : Int32) (h : jH), F_X12_envy_9 n k a0 x1 x2 h = some res → jJ G X h 0 0 9 [some (.ref a0), some (.int x1), some (.int x2)] [] := by
  induction k with
  | zero =>
    intro a0 x1 x2 h hf
    exact jno (show (none : Option (Int32 × jH)) = some res from hf)
  | succ k ih =>
    intro a0 x1 x2 h hf
    exact J_X12_envy_9_b K n (F_X12_envy_9 n k) ih E a0 x1 x2 h hf
set_option maxHeartbeats 400000 in
set_option maxRecDepth 100000 in
theorem J_X12_envy {G : jG} {l : Launch} {d : Nat} {X : jX} {res : (Int32 × jH)} (K : jOK G l mX12_envy (d + 2) X) (n : Nat) (E : jEnd G mX12_envy (jPW res) X) (a0 : Nat) (h : jH) (hf : F_X12_envy n a0 h = some res) : jJ G X h 0 0 0 [some (.ref a0), none, none] [] := by
  unfold F_X12_envy at hf
  refine jr_aload_n K (D_at DX12_envy 0 rfl) rfl rfl ?_
  refine jr_iconst K (D_at DX12_envy 1 rfl) (v := (0 : Int32)) (by decide) ?_
  obtain ⟨h2, e2, hf⟩ := jbind hf
  refine jr_putI K (D_at DX12_envy 2 rfl) fp_X12_3_10 (Or.inl rfl) e2 ?_
  refine jr_iconst K (D_at DX12_envy 3 rfl) (v := (0 : Int32)) (by decide) ?_
  refine jr_istore_n K (D_at DX12_envy 4 rfl) (i := 1) rfl (by decide) (L2 := [_, _, _]) rfl ?_
  refine jr_iconst K (D_at DX12_envy 5 rfl) (v := (0 : Int32)) (by decide) ?_
  refine jr_istore_n K (D_at DX12_envy 6 rfl) (i := 2) rfl (by decide) (L2 := [_, _, _]) rfl ?_
  refine jr_keep [true, true, true] ?_
  exact J_X12_envy_9 K n E n a0 (0 : Int32) (0 : Int32) h2 hf
theorem C_X12_envy {G : jG} {l : Launch} (d : Nat) {n : Nat} {a0 : Nat} {h : jH} {res : (Int32 × jH)} (hf : F_X12_envy n a0 h = some res) : jC G l mX12_envy (d + 2) 0 0 [.ref a0] h (jPW res) :=
  jC.of (by decide +kernel) (jcats rfl) (Nat.le_of_ble_eq_true rfl) (fun X K E => J_X12_envy K n E a0 h hf)
set_option maxHeartbeats 400000 in
set_option maxRecDepth 100000 in
theorem J_X12_eachHas {G : jG} {l : Launch} {d : Nat} {X : jX} {res : Int32} (K : jOK G l mX12_eachHas (d + 3) X) (n : Nat) (h : jH) (E : jEnd G mX12_eachHas (jPR h res) X) (a0 : Nat) (x1 : Int32) (x2 : Int32) (x3 : Int32) (hf : F_X12_eachHas n a0 x1 x2 x3 h = some res) : jJ G X h 0 0 0 [some (.ref a0), some (.int x1), some (.int x2), some (.int x3)] [] := by
  unfold F_X12_eachHas at hf
  refine jr_iload_n K (D_at DX12_eachHas 0 rfl) rfl rfl ?_
  refine jr_iload_n K (D_at DX12_eachHas 1 rfl) rfl rfl ?_
  refine jr_icmp_ne K (D_at DX12_eachHas 2 rfl) (tgt := 7) (by decide) (fun c2 => ?_) (fun c2 => ?_)
  · replace hf := (if_neg c2).symm.trans hf
    refine jr_iload_n K (D_at DX12_eachHas 5 rfl) rfl rfl ?_
    refine jr_iconst K (D_at DX12_eachHas 6 rfl) (v := (1 : Int32)) (by decide) ?_
    refine jr_icmp_ne K (D_at DX12_eachHas 7 rfl) (tgt := 22) (by decide) (fun c9 => ?_) (fun c9 => ?_)
    · replace hf := (if_neg c9).symm.trans hf
      refine jr_aload_n K (D_at DX12_eachHas 14 rfl) rfl rfl ?_
      refine jr_iload_n K (D_at DX12_eachHas 15 rfl) rfl rfl ?_
      refine jr_bipush K (D_at DX12_eachHas 16 rfl) (v := (7 : Int32)) (by decide) ?_
      obtain ⟨v26, e26, hf⟩ := jbind hf
      obtain ⟨rc_26, e26⟩ := jcv_o e26
      refine jr_callV K (C_X12_is (d) e26) (D_at DX12_eachHas 17 rfl) cv_X12_73_X12_is (As := [.int x1, .int (7 : Int32)]) (ci := 10) rfl rc_26 rfl rfl (by exact Nat.le_of_ble_eq_true rfl) (kc2 := 0) (ks2 := 0) rfl rfl (fun k9 h9 w9 => by cases w9.1) (fun r9 h9 w9 => ?_)
      obtain ⟨w1, w2⟩ := w9
      subst h9
      cases w1
      show jJ G X _ 0 0 _ _ (.int v26 :: _)
      refine jr_if_eq K (D_at DX12_eachHas 18 rfl) (tgt := 37) (by decide) (fun c29 => ?_) (fun c29 => ?_)
      · replace hf := (if_pos c29).symm.trans hf
        refine jr_iconst K (D_at DX12_eachHas 21 rfl) (v := (1 : Int32)) (by decide) ?_
        cases hf
        exact jr_iret K E (D_at DX12_eachHas 22 rfl) rfl ⟨rfl, rfl⟩
      · replace hf := (if_neg c29).symm.trans hf
        refine jr_bipush K (D_at DX12_eachHas 19 rfl) (v := (-2 : Int32)) (by decide) ?_
        refine jr_goto K (D_at DX12_eachHas 20 rfl) (tgt := 38) (by decide) ?_
        cases hf
        exact jr_iret K E (D_at DX12_eachHas 22 rfl) rfl ⟨rfl, rfl⟩
    · replace hf := (if_pos c9).symm.trans hf
      refine jr_aload_n K (D_at DX12_eachHas 8 rfl) rfl rfl ?_
      refine jr_iload_n K (D_at DX12_eachHas 9 rfl) rfl rfl ?_
      obtain ⟨v14, e14, hf⟩ := jbind hf
      obtain ⟨rc_14, e14⟩ := jcv_o e14
      refine jr_callV K (C_X12_gapOf (d) e14) (D_at DX12_eachHas 10 rfl) cv_X12_253_X12_gapOf (As := [.int x1]) (ci := 10) rfl rc_14 rfl rfl (by exact Nat.le_of_ble_eq_true rfl) (kc2 := 0) (ks2 := 0) rfl rfl (fun k9 h9 w9 => by cases w9.1) (fun r9 h9 w9 => ?_)
      obtain ⟨w1, w2⟩ := w9
      subst h9
      cases w1
      show jJ G X _ 0 0 _ _ (.int v14 :: _)
      refine jr_iconst K (D_at DX12_eachHas 11 rfl) (v := (1 : Int32)) (by decide) ?_
      refine jr_isub K (D_at DX12_eachHas 12 rfl) ?_
      refine jr_goto K (D_at DX12_eachHas 13 rfl) (tgt := 38) (by decide) ?_
      cases hf
      exact jr_iret K E (D_at DX12_eachHas 22 rfl) rfl ⟨rfl, rfl⟩
  · replace hf := (if_pos c2).symm.trans hf
    refine jr_iconst K (D_at DX12_eachHas 3 rfl) (v := (2 : Int32)) (by decide) ?_
    cases hf
    exact jr_iret K E (D_at DX12_eachHas 4 rfl) rfl ⟨rfl, rfl⟩
theorem C_X12_eachHas {G : jG} {l : Launch} (d : Nat) {n : Nat} {a0 : Nat} {x1 : Int32} {x2 : Int32} {x3 : Int32} {h : jH} {res : Int32} (hf : F_X12_eachHas n a0 x1 x2 x3 h = some res) : jC G l mX12_eachHas (d + 3) 0 0 [.ref a0, .int x1, .int x2, .int x3] h (jPR h res) :=
  jC.of (by decide +kernel) (jcats rfl) (Nat.le_of_ble_eq_true rfl) (fun X K E => J_X12_eachHas K n h E a0 x1 x2 x3 hf)
set_option maxHeartbeats 400000 in
set_option maxRecDepth 100000 in
theorem J_X12_rests_42_b {G : jG} {l : Launch} {d : Nat} {X : jX} {res : (Int32 × jH)} (K : jOK G l mX12_rests (d + 4) X) (n : Nat) (rc34 : Nat → Int32 → Int32 → Int32 → jH → Option (Int32 × jH)) (hr34 : ∀ (a0 : Nat) (x1 : Int32) (x2 : Int32) (x3 : Int32) (h : jH), rc34 a0 x1 x2 x3 h = some res → jJ G X h 0 0 34 [some (.ref a0), some (.int x1), some (.int x2), some (.int x3), none] []) (rc42 : Nat → Int32 → Int32 → Int32 → Int32 → jH → Option (Int32 × jH)) (hr42 : ∀ (a0 : Nat) (x1 : Int32) (x2 : Int32) (x3 : Int32) (x4 : Int32) (h : jH), rc42 a0 x1 x2 x3 x4 h = some res → jJ G X h 0 0 42 [some (.ref a0), some (.int x1), some (.int x2), some (.int x3), some (.int x4)] []) (E : jEnd G mX12_rests (jPW res) X) (a0 : Nat) (x1 : Int32) (x2 : Int32) (x3 : Int32) (x4 : Int32) (h : jH) (hf : F_X12_rests_42_b n rc34 rc42 a0 x1 x2 x3 x4 h = some res) : jJ G X h 0 0 42 [some (.ref a0), some (.int x1), some (.int x2), some (.int x3), some (.int x4)] [] := by
  unfold F_X12_rests_42_b at hf
  refine jr_iload K (D_at DX12_rests 27 rfl) rfl ?_
  refine jr_iconst K (D_at DX12_rests 28 rfl) (v := (2 : Int32)) (by decide) ?_
  refine jr_icmp_ge K (D_at DX12_rests 29 rfl) (tgt := 111) (by decide) (fun c45 => ?_) (fun c45 => ?_)
  · replace hf := (if_pos c45).symm.trans hf
    refine jr_iinc K (D_at DX12_rests_1 6 rfl) (i := 3) rfl (v := x3 + (1 : Int32)) (jinc (by decide)) (by decide) (L2 := [_, _, _, _, _]) rfl ?_
    refine jr_goto K (D_at DX12_rests_1 7 rfl) (tgt := 34) (by decide) ?_
    refine jr_keep [true, true, true, true, false] ?_
    exact hr34 a0 x1 x2 (x3 + (1 : Int32)) h hf
  · replace hf := (if_neg c45).symm.trans hf
    refine jr_iload_n K (D_at DX12_rests 30 rfl) rfl rfl ?_
    refine jr_aload_n K (D_at DX12_rests 31 rfl) rfl rfl ?_
    refine jr_iload_n K (D_at DX12_rests 32 rfl) rfl rfl ?_
    refine jr_iload_n K (D_at DX12_rests 33 rfl) rfl rfl ?_
    refine jr_iload K (D_at DX12_rests 34 rfl) rfl ?_
    obtain ⟨v54, e54, hf⟩ := jbind hf
    obtain ⟨rc_54, e54⟩ := jcv_o e54
    refine jr_callV K (C_X12_eachHas (d) e54) (D_at DX12_rests 35 rfl) cv_X12_407_X12_eachHas (As := [.int x1, .int x3, .int x4]) (ci := 10) rfl rc_54 rfl rfl (by exact Nat.le_of_ble_eq_true rfl) (kc2 := 0) (ks2 := 0) rfl rfl (fun k9 h9 w9 => by cases w9.1) (fun r9 h9 w9 => ?_)
    obtain ⟨w1, w2⟩ := w9
    subst h9
    cases w1
    show jJ G X _ 0 0 _ _ (.int v54 :: _)
    refine jr_aload_n K (D_at DX12_rests 36 rfl) rfl rfl ?_
    refine jr_iload_n K (D_at DX12_rests 37 rfl) rfl rfl ?_
    refine jr_iconst K (D_at DX12_rests 38 rfl) (v := (1 : Int32)) (by decide) ?_
    refine jr_iload_n K (D_at DX12_rests 39 rfl) rfl rfl ?_
    refine jr_isub K (D_at DX12_rests 40 rfl) ?_
    refine jr_iload K (D_at DX12_rests 41 rfl) rfl ?_
    obtain ⟨v64, e64, hf⟩ := jbind hf
    obtain ⟨rc_64, e64⟩ := jcv_o e64
    refine jr_callV K (C_X12_eachHas (d) e64) (D_at DX12_rests 42 rfl) cv_X12_407_X12_eachHas (As := [.int x1, .int ((1 : Int32) - x3), .int x4]) (ci := 10) rfl rc_64 rfl rfl (by exact Nat.le_of_ble_eq_true rfl) (kc2 := 0) (ks2 := 0) rfl rfl (fun k9 h9 w9 => by cases w9.1) (fun r9 h9 w9 => ?_)
    obtain ⟨w1, w2⟩ := w9
    subst h9
    cases w1
    show jJ G X _ 0 0 _ _ (.int v64 :: _)
    refine jr_icmp_lt K (D_at DX12_rests 43 rfl) (tgt := 102) (by decide) (fun c67 => ?_) (fun c67 => ?_)
    · replace hf := (if_pos c67).symm.trans hf
      refine jr_iconst K (D_at DX12_rests_1 1 rfl) (v := (0 : Int32)) (by decide) ?_
      refine jr_ior K (D_at DX12_rests_1 2 rfl) ?_
      refine jr_istore_n K (D_at DX12_rests_1 3 rfl) (i := 2) rfl (by decide) (L2 := [_, _, _, _, _]) rfl ?_
      refine jr_iinc K (D_at DX12_rests_1 4 rfl) (i := 4) rfl (v := x4 + (1 : Int32)) (jinc (by decide)) (by decide) (L2 := [_, _, _, _, _]) rfl ?_
      refine jr_goto K (D_at DX12_rests_1 5 rfl) (tgt := 42) (by decide) ?_
      refine jr_keep [true, true, true, true, true] ?_
      exact hr42 a0 x1 (x2 ||| (0 : Int32)) x3 (x4 + (1 : Int32)) h hf
    · replace hf := (if_neg c67).symm.trans hf
      refine jr_aload_n K (D_at DX12_rests 44 rfl) rfl rfl ?_
      refine jr_iload_n K (D_at DX12_rests 45 rfl) rfl rfl ?_
      refine jr_iload_n K (D_at DX12_rests 46 rfl) rfl rfl ?_
      refine jr_iload K (D_at DX12_rests 47 rfl) rfl ?_
      obtain ⟨v75, e75, hf⟩ := jbind hf
      obtain ⟨rc_75, e75⟩ := jcv_o e75
      refine jr_callV K (C_X12_eachHas (d) e75) (D_at DX12_rests 48 rfl) cv_X12_407_X12_eachHas (As := [.int x1, .int x3, .int x4]) (ci := 10) rfl rc_75 rfl rfl (by exact Nat.le_of_ble_eq_true rfl) (kc2 := 0) (ks2 := 0) rfl rfl (fun k9 h9 w9 => by cases w9.1) (fun r9 h9 w9 => ?_)
      obtain ⟨w1, w2⟩ := w9
      subst h9
      cases w1
      show jJ G X _ 0 0 _ _ (.int v75 :: _)
      refine jr_aload_n K (D_at DX12_rests 49 rfl) rfl rfl ?_
      refine jr_iload_n K (D_at DX12_rests 50 rfl) rfl rfl ?_
      refine jr_iload_n K (D_at DX12_rests 51 rfl) rfl rfl ?_
      refine jr_iconst K (D_at DX12_rests 52 rfl) (v := (1 : Int32)) (by decide) ?_
      refine jr_iload K (D_at DX12_rests 53 rfl) rfl ?_
      refine jr_isub K (D_at DX12_rests 54 rfl) ?_
      obtain ⟨v85, e85, hf⟩ := jbind hf
      obtain ⟨rc_85, e85⟩ := jcv_o e85
      refine jr_callV K (C_X12_eachHas (d) e85) (D_at DX12_rests 55 rfl) cv_X12_407_X12_eachHas (As := [.int x1, .int x3, .int ((1 : Int32) - x4)]) (ci := 10) rfl rc_85 rfl rfl (by exact Nat.le_of_ble_eq_true rfl) (kc2 := 0) (ks2 := 0) rfl rfl (fun k9 h9 w9 => by cases w9.1) (fun r9 h9 w9 => ?_)
      obtain ⟨w1, w2⟩ := w9
      subst h9
      cases w1
      show jJ G X _ 0 0 _ _ (.int v85 :: _)
      refine jr_icmp_lt K (D_at DX12_rests 56 rfl) (tgt := 102) (by decide) (fun c88 => ?_) (fun c88 => ?_)
      · replace hf := (if_pos c88).symm.trans hf
        refine jr_iconst K (D_at DX12_rests_1 1 rfl) (v := (0 : Int32)) (by decide) ?_
        refine jr_ior K (D_at DX12_rests_1 2 rfl) ?_
        refine jr_istore_n K (D_at DX12_rests_1 3 rfl) (i := 2) rfl (by decide) (L2 := [_, _, _, _, _]) rfl ?_
        refine jr_iinc K (D_at DX12_rests_1 4 rfl) (i := 4) rfl (v := x4 + (1 : Int32)) (jinc (by decide)) (by decide) (L2 := [_, _, _, _, _]) rfl ?_
        refine jr_goto K (D_at DX12_rests_1 5 rfl) (tgt := 42) (by decide) ?_
        refine jr_keep [true, true, true, true, true] ?_
        exact hr42 a0 x1 (x2 ||| (0 : Int32)) x3 (x4 + (1 : Int32)) h hf
      · replace hf := (if_neg c88).symm.trans hf
        refine jr_iconst K (D_at DX12_rests 57 rfl) (v := (1 : Int32)) (by decide) ?_
        refine jr_iconst K (D_at DX12_rests 58 rfl) (v := (2 : Int32)) (by decide) ?_
        refine jr_iload_n K (D_at DX12_rests 59 rfl) rfl rfl ?_
        refine jr_imul K (D_at DX12_rests 60 rfl) ?_
        refine jr_iload K (D_at DX12_rests 61 rfl) rfl ?_
        refine jr_iadd K (D_at DX12_rests 62 rfl) ?_
        refine jr_ishl K (D_at DX12_rests 63 rfl) ?_
        refine jr_goto K (D_at DX12_rests_1 0 rfl) (tgt := 103) (by decide) ?_
        refine jr_ior K (D_at DX12_rests_1 2 rfl) ?_
        refine jr_istore_n K (D_at DX12_rests_1 3 rfl) (i := 2) rfl (by decide) (L2 := [_, _, _, _, _]) rfl ?_
        refine jr_iinc K (D_at DX12_rests_1 4 rfl) (i := 4) rfl (v := x4 + (1 : Int32)) (jinc (by decide)) (by decide) (L2 := [_, _, _, _, _]) rfl ?_
        refine jr_goto K (D_at DX12_rests_1 5 rfl) (tgt := 42) (by decide) ?_
        refine jr_keep [true, true, true, true, true] ?_
        exact hr42 a0 x1 (x2 ||| ((1 : Int32) <<< ((((2 : Int32) * x3) + x4) &&& 31))) x3 (x4 + (1 : Int32)) h hf
theorem J_X12_rests_42 {G : jG} {l : Launch} {d : Nat} {X : jX} {res : (Int32 × jH)} (K : jOK G l mX12_rests (d + 4) X) (n : Nat) (rc34 : Nat → Int32 → Int32 → Int32 → jH → Option (Int32 × jH)) (hr34 : ∀ (a0 : Nat) (x1 : Int32) (x2 : Int32) (x3 : Int32) (h : jH), rc34 a0 x1 x2 x3 h = some res → jJ G X h 0 0 34 [some (.ref a0), some (.int x1), some (.int x2), some (.int x3), none] []) (E : jEnd G mX12_rests (jPW res) X) (k : Nat) : ∀ (a0 : Nat) (x1 : Int32) (x2 : Int32) (x3 : Int32) (x4 : Int32) (h : jH), F_X12_rests_42 n rc34 k a0 x1 x2 x3 x4 h = some res → jJ G X h 0 0 42 [some (.ref a0), some (.int x1), some (.int x2), some (.int x3), some (.int x4)] [] := by
  induction k with
  | zero =>
    intro a0 x1 x2 x3 x4 h hf
    exact jno (show (none : Option (Int32 × jH)) = some res from hf)
  | succ k ih =>
    intro a0 x1 x2 x3 x4 h hf
    exact J_X12_rests_42_b K n rc34 hr34 (F_X12_rests_42 n rc34 k) ih E a0 x1 x2 x3 x4 h hf
set_option maxHeartbeats 400000 in
set_option maxRecDepth 100000 in
theorem J_X12_rests_34_b {G : jG} {l : Launch} {d : Nat} {X : jX} {res : (Int32 × jH)} (K : jOK G l mX12_rests (d + 4) X) (n : Nat) (rc34 : Nat → Int32 → Int32 → Int32 → jH → Option (Int32 × jH)) (hr34 : ∀ (a0 : Nat) (x1 : Int32) (x2 : Int32) (x3 : Int32) (h : jH), rc34 a0 x1 x2 x3 h = some res → jJ G X h 0 0 34 [some (.ref a0), some (.int x1), some (.int x2), some (.int x3), none] []) (E : jEnd G mX12_rests (jPW res) X) (a0 : Nat) (x1 : Int32) (x2 : Int32) (x3 : Int32) (h : jH) (hf : F_X12_rests_34_b n rc34 a0 x1 x2 x3 h = some res) : jJ G X h 0 0 34 [some (.ref a0), some (.int x1), some (.int x2), some (.int x3), none] [] := by
  unfold F_X12_rests_34_b at hf
  refine jr_iload_n K (D_at DX12_rests 22 rfl) rfl rfl ?_
  refine jr_iconst K (D_at DX12_rests 23 rfl) (v := (2 : Int32)) (by decide) ?_
  refine jr_icmp_ge K (D_at DX12_rests 24 rfl) (tgt := 117) (by decide) (fun c36 => ?_) (fun c36 => ?_)
  · replace hf := (if_pos c36).symm.trans hf
    refine jr_iload_n K (D_at DX12_rests_1 8 rfl) rfl rfl ?_
    cases hf
    exact jr_iret K E (D_at DX12_rests_1 9 rfl) rfl ⟨rfl, rfl⟩
  · replace hf := (if_neg c36).symm.trans hf
    refine jr_iconst K (D_at DX12_rests 25 rfl) (v := (0 : Int32)) (by decide) ?_
    refine jr_istore K (D_at DX12_rests 26 rfl) (i := 4) (by decide) (L2 := [_, _, _, _, _]) rfl ?_
    refine jr_keep [true, true, true, true, true] ?_
    exact J_X12_rests_42 K n rc34 hr34 E n a0 x1 x2 x3 (0 : Int32) h hf
theorem J_X12_rests_34 {G : jG} {l : Launch} {d : Nat} {X : jX} {res : (Int32 × jH)} (K : jOK G l mX12_rests (d + 4) X) (n : Nat) (E : jEnd G mX12_rests (jPW res) X) (k : Nat) : ∀ (a0 : Nat) (x1 : Int32) (x2 : Int32) (x3 : Int32) (h : jH), F_X12_rests_34 n k a0 x1 x2 x3 h = some res → jJ G X h 0 0 34 [some (.ref a0), some (.int x1), some (.int x2), some (.int x3), none] [] := by
  induction k with
  | zero =>
    intro a0 x1 x2 x3 h hf
    exact jno (show (none : Option (Int32 × jH)) = some res from hf)
  | succ k ih =>
    intro a0 x1 x2 x3 h hf
    exact J_X12_rests_34_b K n (F_X12_rests_34 n k) ih E a0 x1 x2 x3 h hf
set_option maxHeartbeats 400000 in
set_option maxRecDepth 100000 in
theorem J_X12_rests {G : jG} {l : Launch} {d : Nat} {X : jX} {res : (Int32 × jH)} (K : jOK G l mX12_rests (d + 4) X) (n : Nat) (E : jEnd G mX12_rests (jPW res) X) (a0 : Nat) (x1 : Int32) (h : jH) (hf : F_X12_rests n a0 x1 h = some res) : jJ G X h 0 0 0 [some (.ref a0), some (.int x1), none, none, none] [] := by
  unfold F_X12_rests at hf
  refine jr_aload_n K (D_at DX12_rests 0 rfl) rfl rfl ?_
  refine jr_iconst K (D_at DX12_rests 1 rfl) (v := (0 : Int32)) (by decide) ?_
  obtain ⟨h2, e2, hf⟩ := jbind hf
  refine jr_putI K (D_at DX12_rests 2 rfl) fp_X12_3_10 (Or.inl rfl) e2 ?_
  refine jr_aload_n K (D_at DX12_rests 3 rfl) rfl rfl ?_
  refine jr_aload_n K (D_at DX12_rests 4 rfl) rfl rfl ?_
  refine jr_iload_n K (D_at DX12_rests 5 rfl) rfl rfl ?_
  obtain ⟨v8, e8, hf⟩ := jbind hf
  obtain ⟨rc_8, e8⟩ := jcv_o e8
  refine jr_callV K (C_X12_noRing (d + 1) e8) (D_at DX12_rests 6 rfl) cv_X12_277_X12_noRing (As := [.int x1]) (ci := 10) rfl rc_8 rfl rfl (by exact Nat.le_of_ble_eq_true rfl) (kc2 := 0) (ks2 := 0) rfl rfl (fun k9 h9 w9 => by cases w9.1) (fun r9 h9 w9 => ?_)
  obtain ⟨w1, w2⟩ := w9
  subst h9
  cases w1
  show jJ G X _ 0 0 _ _ (.int v8 :: _)
  refine jr_iconst K (D_at DX12_rests 7 rfl) (v := (1 : Int32)) (by decide) ?_
  obtain ⟨q12, e12, hf⟩ := jbind hf
  obtain ⟨rc_12, e12⟩ := jcv_o e12
  refine jr_callV K (C_X12_throwsIf (d + 3) e12) (D_at DX12_rests 8 rfl) cv_X12_250_X12_throwsIf (As := [.int v8, .int (1 : Int32)]) (ci := 10) rfl rc_12 rfl rfl (by exact Nat.le_of_ble_eq_true rfl) (kc2 := 0) (ks2 := 0) rfl rfl (fun k9 h9 w9 => by cases w9.1) (fun r9 h9 w9 => ?_)
  obtain ⟨w1, w2⟩ := w9
  subst h9
  cases w1
  show jJ G X _ 0 0 _ _ (.int q12.1 :: _)
  refine jr_if_eq K (D_at DX12_rests 9 rfl) (tgt := 20) (by decide) (fun c15 => ?_) (fun c15 => ?_)
  · replace hf := (if_pos c15).symm.trans hf
    refine jr_iload_n K (D_at DX12_rests 12 rfl) rfl rfl ?_
    refine jr_aload_n K (D_at DX12_rests 13 rfl) rfl rfl ?_
    obtain ⟨v22, e22, hf⟩ := jbind hf
    obtain ⟨rc_22, e22⟩ := jcv_o e22
    refine jr_callV K (C_X12_lastRing (d + 2) e22) (D_at DX12_rests 14 rfl) cv_X12_70_X12_lastRing (As := []) (ci := 10) rfl rc_22 rfl rfl (by exact Nat.le_of_ble_eq_true rfl) (kc2 := 0) (ks2 := 0) rfl rfl (fun k9 h9 w9 => by cases w9.1) (fun r9 h9 w9 => ?_)
    obtain ⟨w1, w2⟩ := w9
    subst h9
    cases w1
    show jJ G X _ 0 0 _ _ (.int v22 :: _)
    refine jr_icmp_ne K (D_at DX12_rests 15 rfl) (tgt := 30) (by decide) (fun c25 => ?_) (fun c25 => ?_)
    · replace hf := (if_neg c25).symm.trans hf
      refine jr_iconst K (D_at DX12_rests 18 rfl) (v := (0 : Int32)) (by decide) ?_
      refine jr_istore_n K (D_at DX12_rests 19 rfl) (i := 2) rfl (by decide) (L2 := [_, _, _, _, _]) rfl ?_
      refine jr_iconst K (D_at DX12_rests 20 rfl) (v := (0 : Int32)) (by decide) ?_
      refine jr_istore_n K (D_at DX12_rests 21 rfl) (i := 3) rfl (by decide) (L2 := [_, _, _, _, _]) rfl ?_
      refine jr_keep [true, true, true, true, false] ?_
      exact J_X12_rests_34 K n E n a0 x1 (0 : Int32) (0 : Int32) q12.2 hf
    · replace hf := (if_pos c25).symm.trans hf
      refine jr_iconst K (D_at DX12_rests 16 rfl) (v := (-1 : Int32)) (by decide) ?_
      cases hf
      exact jr_iret K E (D_at DX12_rests 17 rfl) rfl ⟨rfl, rfl⟩
  · replace hf := (if_neg c15).symm.trans hf
    refine jr_iconst K (D_at DX12_rests 10 rfl) (v := (0 : Int32)) (by decide) ?_
    cases hf
    exact jr_iret K E (D_at DX12_rests 11 rfl) rfl ⟨rfl, rfl⟩
theorem C_X12_rests {G : jG} {l : Launch} (d : Nat) {n : Nat} {a0 : Nat} {x1 : Int32} {h : jH} {res : (Int32 × jH)} (hf : F_X12_rests n a0 x1 h = some res) : jC G l mX12_rests (d + 4) 0 0 [.ref a0, .int x1] h (jPW res) :=
  jC.of (by decide +kernel) (jcats rfl) (Nat.le_of_ble_eq_true rfl) (fun X K E => J_X12_rests K n E a0 x1 h hf)
set_option maxHeartbeats 400000 in
set_option maxRecDepth 100000 in
theorem J_X12_wooden {G : jG} {l : Launch} {d : Nat} {X : jX} {res : (Int32 × jH)} (K : jOK G l mX12_wooden (d + 4) X) (n : Nat) (E : jEnd G mX12_wooden (jPW res) X) (a0 : Nat) (h : jH) (hf : F_X12_wooden n a0 h = some res) : jJ G X h 0 0 0 [some (.ref a0)] [] := by
  unfold F_X12_wooden at hf
  refine jr_aload_n K (D_at DX12_wooden 0 rfl) rfl rfl ?_
  refine jr_iconst K (D_at DX12_wooden 1 rfl) (v := (0 : Int32)) (by decide) ?_
  obtain ⟨h2, e2, hf⟩ := jbind hf
  refine jr_putI K (D_at DX12_wooden 2 rfl) fp_X12_3_10 (Or.inl rfl) e2 ?_
  refine jr_aload_n K (D_at DX12_wooden 3 rfl) rfl rfl ?_
  refine jr_iconst K (D_at DX12_wooden 4 rfl) (v := (3 : Int32)) (by decide) ?_
  obtain ⟨v7, e7, hf⟩ := jbind hf
  obtain ⟨rc_7, e7⟩ := jcv_o e7
  refine jr_callV K (C_X12_ringsThat (d) e7) (D_at DX12_wooden 5 rfl) cv_X12_401_X12_ringsThat (As := [.int (3 : Int32)]) (ci := 10) rfl rc_7 rfl rfl (by exact Nat.le_of_ble_eq_true rfl) (kc2 := 0) (ks2 := 0) rfl rfl (fun k9 h9 w9 => by cases w9.1) (fun r9 h9 w9 => ?_)
  obtain ⟨w1, w2⟩ := w9
  subst h9
  cases w1
  show jJ G X _ 0 0 _ _ (.int v7 :: _)
  cases hf
  exact jr_iret K E (D_at DX12_wooden 6 rfl) rfl ⟨rfl, rfl⟩
theorem C_X12_wooden {G : jG} {l : Launch} (d : Nat) {n : Nat} {a0 : Nat} {h : jH} {res : (Int32 × jH)} (hf : F_X12_wooden n a0 h = some res) : jC G l mX12_wooden (d + 4) 0 0 [.ref a0] h (jPW res) :=
  jC.of (by decide +kernel) (jcats rfl) (Nat.le_of_ble_eq_true rfl) (fun X K E => J_X12_wooden K n E a0 h hf)
set_option maxHeartbeats 400000 in
set_option maxRecDepth 100000 in
theorem J_X12_caught {G : jG} {l : Launch} {d : Nat} {X : jX} {res : (Int32 × jH)} (K : jOK G l mX12_caught (d + 4) X) (n : Nat) (E : jEnd G mX12_caught (jPW res) X) (a0 : Nat) (h : jH) (hf : F_X12_caught n a0 h = some res) : jJ G X h 0 0 0 [some (.ref a0)] [] := by
  unfold F_X12_caught at hf
  refine jr_aload_n K (D_at DX12_caught 0 rfl) rfl rfl ?_
  refine jr_iconst K (D_at DX12_caught 1 rfl) (v := (0 : Int32)) (by decide) ?_
  obtain ⟨h2, e2, hf⟩ := jbind hf
  refine jr_putI K (D_at DX12_caught 2 rfl) fp_X12_3_10 (Or.inl rfl) e2 ?_
  refine jr_aload_n K (D_at DX12_caught 3 rfl) rfl rfl ?_
  refine jr_bipush K (D_at DX12_caught 4 rfl) (v := (7 : Int32)) (by decide) ?_
  obtain ⟨v8, e8, hf⟩ := jbind hf
  obtain ⟨rc_8, e8⟩ := jcv_o e8
  refine jr_callV K (C_X12_ringsThat (d) e8) (D_at DX12_caught 5 rfl) cv_X12_401_X12_ringsThat (As := [.int (7 : Int32)]) (ci := 10) rfl rc_8 rfl rfl (by exact Nat.le_of_ble_eq_true rfl) (kc2 := 0) (ks2 := 0) rfl rfl (fun k9 h9 w9 => by cases w9.1) (fun r9 h9 w9 => ?_)
  obtain ⟨w1, w2⟩ := w9
  subst h9
  cases w1
  show jJ G X _ 0 0 _ _ (.int v8 :: _)
  cases hf
  exact jr_iret K E (D_at DX12_caught 6 rfl) rfl ⟨rfl, rfl⟩
theorem C_X12_caught {G : jG} {l : Launch} (d : Nat) {n : Nat} {a0 : Nat} {h : jH} {res : (Int32 × jH)} (hf : F_X12_caught n a0 h = some res) : jC G l mX12_caught (d + 4) 0 0 [.ref a0] h (jPW res) :=
  jC.of (by decide +kernel) (jcats rfl) (Nat.le_of_ble_eq_true rfl) (fun X K E => J_X12_caught K n E a0 h hf)
set_option maxHeartbeats 400000 in
set_option maxRecDepth 100000 in
theorem J_X12_looseOnes {G : jG} {l : Launch} {d : Nat} {X : jX} {res : Int32} (K : jOK G l mX12_looseOnes (d + 4) X) (n : Nat) (h : jH) (E : jEnd G mX12_looseOnes (jPR h res) X) (a0 : Nat) (hf : F_X12_looseOnes n a0 h = some res) : jJ G X h 0 0 0 [some (.ref a0)] [] := by
  unfold F_X12_looseOnes at hf
  refine jr_iconst K (D_at DX12_looseOnes 0 rfl) (v := (1 : Int32)) (by decide) ?_
  refine jr_aload_n K (D_at DX12_looseOnes 1 rfl) rfl rfl ?_
  obtain ⟨v2, e2, hf⟩ := jbind hf
  obtain ⟨rc_2, e2⟩ := jcv_o e2
  refine jr_callV K (C_X12_rings (d + 3) e2) (D_at DX12_looseOnes 2 rfl) cv_X12_59_X12_rings (As := []) (ci := 10) rfl rc_2 rfl rfl (by exact Nat.le_of_ble_eq_true rfl) (kc2 := 0) (ks2 := 0) rfl rfl (fun k9 h9 w9 => by cases w9.1) (fun r9 h9 w9 => ?_)
  obtain ⟨w1, w2⟩ := w9
  subst h9
  cases w1
  show jJ G X _ 0 0 _ _ (.int v2 :: _)
  refine jr_ishl K (D_at DX12_looseOnes 3 rfl) ?_
  refine jr_iconst K (D_at DX12_looseOnes 4 rfl) (v := (1 : Int32)) (by decide) ?_
  refine jr_isub K (D_at DX12_looseOnes 5 rfl) ?_
  refine jr_aload_n K (D_at DX12_looseOnes 6 rfl) rfl rfl ?_
  refine jr_bipush K (D_at DX12_looseOnes 7 rfl) (v := (6 : Int32)) (by decide) ?_
  obtain ⟨v11, e11, hf⟩ := jbind hf
  obtain ⟨rc_11, e11⟩ := jcv_o e11
  refine jr_callV K (C_X12_ringsThat (d) e11) (D_at DX12_looseOnes 8 rfl) cv_X12_401_X12_ringsThat (As := [.int (6 : Int32)]) (ci := 10) rfl rc_11 rfl rfl (by exact Nat.le_of_ble_eq_true rfl) (kc2 := 0) (ks2 := 0) rfl rfl (fun k9 h9 w9 => by cases w9.1) (fun r9 h9 w9 => ?_)
  obtain ⟨w1, w2⟩ := w9
  subst h9
  cases w1
  show jJ G X _ 0 0 _ _ (.int v11 :: _)
  refine jr_iconst K (D_at DX12_looseOnes 9 rfl) (v := (-1 : Int32)) (by decide) ?_
  refine jr_ixor K (D_at DX12_looseOnes 10 rfl) ?_
  refine jr_iand K (D_at DX12_looseOnes 11 rfl) ?_
  cases hf
  exact jr_iret K E (D_at DX12_looseOnes 12 rfl) rfl ⟨rfl, rfl⟩
theorem C_X12_looseOnes {G : jG} {l : Launch} (d : Nat) {n : Nat} {a0 : Nat} {h : jH} {res : Int32} (hf : F_X12_looseOnes n a0 h = some res) : jC G l mX12_looseOnes (d + 4) 0 0 [.ref a0] h (jPR h res) :=
  jC.of (by decide +kernel) (jcats rfl) (Nat.le_of_ble_eq_true rfl) (fun X K E => J_X12_looseOnes K n h E a0 hf)
set_option maxHeartbeats 400000 in
set_option maxRecDepth 100000 in
theorem J_X12_loose {G : jG} {l : Launch} {d : Nat} {X : jX} {res : (Int32 × jH)} (K : jOK G l mX12_loose (d + 5) X) (n : Nat) (E : jEnd G mX12_loose (jPW res) X) (a0 : Nat) (h : jH) (hf : F_X12_loose n a0 h = some res) : jJ G X h 0 0 0 [some (.ref a0)] [] := by
  unfold F_X12_loose at hf
  refine jr_aload_n K (D_at DX12_loose 0 rfl) rfl rfl ?_
  refine jr_iconst K (D_at DX12_loose 1 rfl) (v := (0 : Int32)) (by decide) ?_
  obtain ⟨h2, e2, hf⟩ := jbind hf
  refine jr_putI K (D_at DX12_loose 2 rfl) fp_X12_3_10 (Or.inl rfl) e2 ?_
  refine jr_aload_n K (D_at DX12_loose 3 rfl) rfl rfl ?_
  obtain ⟨v6, e6, hf⟩ := jbind hf
  obtain ⟨rc_6, e6⟩ := jcv_o e6
  refine jr_callV K (C_X12_looseOnes (d) e6) (D_at DX12_loose 4 rfl) cv_X12_410_X12_looseOnes (As := []) (ci := 10) rfl rc_6 rfl rfl (by exact Nat.le_of_ble_eq_true rfl) (kc2 := 0) (ks2 := 0) rfl rfl (fun k9 h9 w9 => by cases w9.1) (fun r9 h9 w9 => ?_)
  obtain ⟨w1, w2⟩ := w9
  subst h9
  cases w1
  show jJ G X _ 0 0 _ _ (.int v6 :: _)
  cases hf
  exact jr_iret K E (D_at DX12_loose 5 rfl) rfl ⟨rfl, rfl⟩
theorem C_X12_loose {G : jG} {l : Launch} (d : Nat) {n : Nat} {a0 : Nat} {h : jH} {res : (Int32 × jH)} (hf : F_X12_loose n a0 h = some res) : jC G l mX12_loose (d + 5) 0 0 [.ref a0] h (jPW res) :=
  jC.of (by decide +kernel) (jcats rfl) (Nat.le_of_ble_eq_true rfl) (fun X K E => J_X12_loose K n E a0 h hf)
set_option maxHeartbeats 400000 in
set_option maxRecDepth 100000 in
theorem J_X12_beyond_9_b {G : jG} {l : Launch} {d : Nat} {X : jX} {res : (Int32 × jH)} (K : jOK G l mX12_beyond (d + 3) X) (n : Nat) (rc9 : Nat → Int32 → Int32 → jH → Option (Int32 × jH)) (hr9 : ∀ (a0 : Nat) (x1 : Int32) (x2 : Int32) (h : jH), rc9 a0 x1 x2 h = some res → jJ G X h 0 0 9 [some (.ref a0), some (.int x1), some (.int x2)] []) (E : jEnd G mX12_beyond (jPW res) X) (a0 : Nat) (x1 : Int32) (x2 : Int32) (h : jH) (hf : F_X12_beyond_9_b n rc9 a0 x1 x2 h = some res) : jJ G X h 0 0 9 [some (.ref a0), some (.int x1), some (.int x2)] [] := by
  unfold F_X12_beyond_9_b at hf
  refine jr_iload_n K (D_at DX12_beyond 7 rfl) rfl rfl ?_
  refine jr_aload_n K (D_at DX12_beyond 8 rfl) rfl rfl ?_
  obtain ⟨v11, e11, hf⟩ := jbind hf
  obtain ⟨rc_11, e11⟩ := jcv_o e11
  refine jr_callV K (C_X12_rings (d + 2) e11) (D_at DX12_beyond 9 rfl) cv_X12_59_X12_rings (As := []) (ci := 10) rfl rc_11 rfl rfl (by exact Nat.le_of_ble_eq_true rfl) (kc2 := 0) (ks2 := 0) rfl rfl (fun k9 h9 w9 => by cases w9.1) (fun r9 h9 w9 => ?_)
  obtain ⟨w1, w2⟩ := w9
  subst h9
  cases w1
  show jJ G X _ 0 0 _ _ (.int v11 :: _)
  refine jr_icmp_ge K (D_at DX12_beyond 10 rfl) (tgt := 57) (by decide) (fun c14 => ?_) (fun c14 => ?_)
  · replace hf := (if_pos c14).symm.trans hf
    refine jr_iload_n K (D_at DX12_beyond 35 rfl) rfl rfl ?_
    cases hf
    exact jr_iret K E (D_at DX12_beyond 36 rfl) rfl ⟨rfl, rfl⟩
  · replace hf := (if_neg c14).symm.trans hf
    refine jr_iload_n K (D_at DX12_beyond 11 rfl) rfl rfl ?_
    refine jr_aload_n K (D_at DX12_beyond 12 rfl) rfl rfl ?_
    refine jr_iload_n K (D_at DX12_beyond 13 rfl) rfl rfl ?_
    refine jr_iconst K (D_at DX12_beyond 14 rfl) (v := (2 : Int32)) (by decide) ?_
    obtain ⟨v21, e21, hf⟩ := jbind hf
    obtain ⟨rc_21, e21⟩ := jcv_o e21
    refine jr_callV K (C_X12_is (d) e21) (D_at DX12_beyond 15 rfl) cv_X12_73_X12_is (As := [.int x2, .int (2 : Int32)]) (ci := 10) rfl rc_21 rfl rfl (by exact Nat.le_of_ble_eq_true rfl) (kc2 := 0) (ks2 := 0) rfl rfl (fun k9 h9 w9 => by cases w9.1) (fun r9 h9 w9 => ?_)
    obtain ⟨w1, w2⟩ := w9
    subst h9
    cases w1
    show jJ G X _ 0 0 _ _ (.int v21 :: _)
    refine jr_if_eq K (D_at DX12_beyond 16 rfl) (tgt := 48) (by decide) (fun c24 => ?_) (fun c24 => ?_)
    · replace hf := (if_pos c24).symm.trans hf
      refine jr_iconst K (D_at DX12_beyond 30 rfl) (v := (0 : Int32)) (by decide) ?_
      refine jr_ior K (D_at DX12_beyond 31 rfl) ?_
      refine jr_istore_n K (D_at DX12_beyond 32 rfl) (i := 1) rfl (by decide) (L2 := [_, _, _]) rfl ?_
      refine jr_iinc K (D_at DX12_beyond 33 rfl) (i := 2) rfl (v := x2 + (1 : Int32)) (jinc (by decide)) (by decide) (L2 := [_, _, _]) rfl ?_
      refine jr_goto K (D_at DX12_beyond 34 rfl) (tgt := 9) (by decide) ?_
      refine jr_keep [true, true, true] ?_
      exact hr9 a0 (x1 ||| (0 : Int32)) (x2 + (1 : Int32)) h hf
    · replace hf := (if_neg c24).symm.trans hf
      refine jr_aload_n K (D_at DX12_beyond 17 rfl) rfl rfl ?_
      refine jr_iload_n K (D_at DX12_beyond 18 rfl) rfl rfl ?_
      refine jr_iconst K (D_at DX12_beyond 19 rfl) (v := (0 : Int32)) (by decide) ?_
      obtain ⟨v30, e30, hf⟩ := jbind hf
      obtain ⟨rc_30, e30⟩ := jcv_o e30
      refine jr_callV K (C_X12_of (d + 1) e30) (D_at DX12_beyond 20 rfl) cv_X12_67_X12_of (As := [.int x2, .int (0 : Int32)]) (ci := 10) rfl rc_30 rfl rfl (by exact Nat.le_of_ble_eq_true rfl) (kc2 := 0) (ks2 := 0) rfl rfl (fun k9 h9 w9 => by cases w9.1) (fun r9 h9 w9 => ?_)
      obtain ⟨w1, w2⟩ := w9
      subst h9
      cases w1
      show jJ G X _ 0 0 _ _ (.int v30 :: _)
      refine jr_aload_n K (D_at DX12_beyond 21 rfl) rfl rfl ?_
      obtain ⟨p34, e34, hf⟩ := jbind hf
      refine jr_getR K (D_at DX12_beyond 22 rfl) fg_X12_13_10 e34 ?_
      refine jr_iconst K (D_at DX12_beyond 23 rfl) (v := (5 : Int32)) (by decide) ?_
      obtain ⟨v38, e38, hf⟩ := jbind hf
      refine jr_iald K (D_at DX12_beyond 24 rfl) e38 ?_
      refine jr_icmp_lt K (D_at DX12_beyond 25 rfl) (tgt := 48) (by decide) (fun c39 => ?_) (fun c39 => ?_)
      · replace hf := (if_pos c39).symm.trans hf
        refine jr_iconst K (D_at DX12_beyond 30 rfl) (v := (0 : Int32)) (by decide) ?_
        refine jr_ior K (D_at DX12_beyond 31 rfl) ?_
        refine jr_istore_n K (D_at DX12_beyond 32 rfl) (i := 1) rfl (by decide) (L2 := [_, _, _]) rfl ?_
        refine jr_iinc K (D_at DX12_beyond 33 rfl) (i := 2) rfl (v := x2 + (1 : Int32)) (jinc (by decide)) (by decide) (L2 := [_, _, _]) rfl ?_
        refine jr_goto K (D_at DX12_beyond 34 rfl) (tgt := 9) (by decide) ?_
        refine jr_keep [true, true, true] ?_
        exact hr9 a0 (x1 ||| (0 : Int32)) (x2 + (1 : Int32)) h hf
      · replace hf := (if_neg c39).symm.trans hf
        refine jr_iconst K (D_at DX12_beyond 26 rfl) (v := (1 : Int32)) (by decide) ?_
        refine jr_iload_n K (D_at DX12_beyond 27 rfl) rfl rfl ?_
        refine jr_ishl K (D_at DX12_beyond 28 rfl) ?_
        refine jr_goto K (D_at DX12_beyond 29 rfl) (tgt := 49) (by decide) ?_
        refine jr_ior K (D_at DX12_beyond 31 rfl) ?_
        refine jr_istore_n K (D_at DX12_beyond 32 rfl) (i := 1) rfl (by decide) (L2 := [_, _, _]) rfl ?_
        refine jr_iinc K (D_at DX12_beyond 33 rfl) (i := 2) rfl (v := x2 + (1 : Int32)) (jinc (by decide)) (by decide) (L2 := [_, _, _]) rfl ?_
        refine jr_goto K (D_at DX12_beyond 34 rfl) (tgt := 9) (by decide) ?_
        refine jr_keep [true, true, true] ?_
        exact hr9 a0 (x1 ||| ((1 : Int32) <<< (x2 &&& 31))) (x2 + (1 : Int32)) h hf
theorem J_X12_beyond_9 {G : jG} {l : Launch} {d : Nat} {X : jX} {res : (Int32 × jH)} (K : jOK G l mX12_beyond (d + 3) X) (n : Nat) (E : jEnd G mX12_beyond (jPW res) X) (k : Nat) : ∀ (a0 : Nat) (x1 : Int32) (x2 : Int32) (h : jH), F_X12_beyond_9 n k a0 x1 x2 h = some res → jJ G X h 0 0 9 [some (.ref a0), some (.int x1), some (.int x2)] [] := by
  induction k with
  | zero =>
    intro a0 x1 x2 h hf
    exact jno (show (none : Option (Int32 × jH)) = some res from hf)
  | succ k ih =>
    intro a0 x1 x2 h hf
    exact J_X12_beyond_9_b K n (F_X12_beyond_9 n k) ih E a0 x1 x2 h hf
set_option maxHeartbeats 400000 in
set_option maxRecDepth 100000 in
theorem J_X12_beyond {G : jG} {l : Launch} {d : Nat} {X : jX} {res : (Int32 × jH)} (K : jOK G l mX12_beyond (d + 3) X) (n : Nat) (E : jEnd G mX12_beyond (jPW res) X) (a0 : Nat) (h : jH) (hf : F_X12_beyond n a0 h = some res) : jJ G X h 0 0 0 [some (.ref a0), none, none] [] := by
  unfold F_X12_beyond at hf
  refine jr_aload_n K (D_at DX12_beyond 0 rfl) rfl rfl ?_
  refine jr_iconst K (D_at DX12_beyond 1 rfl) (v := (0 : Int32)) (by decide) ?_
  obtain ⟨h2, e2, hf⟩ := jbind hf
  refine jr_putI K (D_at DX12_beyond 2 rfl) fp_X12_3_10 (Or.inl rfl) e2 ?_
  refine jr_iconst K (D_at DX12_beyond 3 rfl) (v := (0 : Int32)) (by decide) ?_
  refine jr_istore_n K (D_at DX12_beyond 4 rfl) (i := 1) rfl (by decide) (L2 := [_, _, _]) rfl ?_
  refine jr_iconst K (D_at DX12_beyond 5 rfl) (v := (0 : Int32)) (by decide) ?_
  refine jr_istore_n K (D_at DX12_beyond 6 rfl) (i := 2) rfl (by decide) (L2 := [_, _, _]) rfl ?_
  refine jr_keep [true, true, true] ?_
  exact J_X12_beyond_9 K n E n a0 (0 : Int32) (0 : Int32) h2 hf
theorem C_X12_beyond {G : jG} {l : Launch} (d : Nat) {n : Nat} {a0 : Nat} {h : jH} {res : (Int32 × jH)} (hf : F_X12_beyond n a0 h = some res) : jC G l mX12_beyond (d + 3) 0 0 [.ref a0] h (jPW res) :=
  jC.of (by decide +kernel) (jcats rfl) (Nat.le_of_ble_eq_true rfl) (fun X K E => J_X12_beyond K n E a0 h hf)
set_option maxHeartbeats 400000 in
set_option maxRecDepth 100000 in
theorem J_X12_odds_65_b {G : jG} {l : Launch} {d : Nat} {X : jX} {res : (Int32 × jH)} (K : jOK G l mX12_odds (d + 7) X) (n : Nat) (rc65 : Int32 → Int32 → Int32 → Int32 → jH → Option (Int32 × jH)) (hr65 : ∀ (x2 : Int32) (x3 : Int32) (x4 : Int32) (x5 : Int32) (h : jH), rc65 x2 x3 x4 x5 h = some res → jJ G X h 0 0 65 [none, none, some (.int x2), some (.int x3), some (.int x4), some (.int x5)] []) (E : jEnd G mX12_odds (jPW res) X) (x2 : Int32) (x3 : Int32) (x4 : Int32) (x5 : Int32) (h : jH) (hf : F_X12_odds_65_b n rc65 x2 x3 x4 x5 h = some res) : jJ G X h 0 0 65 [none, none, some (.int x2), some (.int x3), some (.int x4), some (.int x5)] [] := by
  unfold F_X12_odds_65_b at hf
  refine jr_iload K (D_at DX12_odds 37 rfl) rfl ?_
  refine jr_iload_n K (D_at DX12_odds 38 rfl) rfl rfl ?_
  refine jr_icmp_ge K (D_at DX12_odds 39 rfl) (tgt := 86) (by decide) (fun c68 => ?_) (fun c68 => ?_)
  · replace hf := (if_pos c68).symm.trans hf
    refine jr_iload K (D_at DX12_odds 48 rfl) rfl ?_
    cases hf
    exact jr_iret K E (D_at DX12_odds 49 rfl) rfl ⟨rfl, rfl⟩
  · replace hf := (if_neg c68).symm.trans hf
    refine jr_iload K (D_at DX12_odds 40 rfl) rfl ?_
    refine jr_iload_n K (D_at DX12_odds 41 rfl) rfl rfl ?_
    refine jr_imul K (D_at DX12_odds 42 rfl) ?_
    refine jr_bipush K (D_at DX12_odds 43 rfl) (v := (100 : Int32)) (by decide) ?_
    refine jr_idiv K (D_at DX12_odds 44 rfl) (by decide) ?_
    refine jr_istore K (D_at DX12_odds 45 rfl) (i := 4) (by decide) (L2 := [_, _, _, _, _, _]) rfl ?_
    refine jr_iinc K (D_at DX12_odds 46 rfl) (i := 5) rfl (v := x5 + (1 : Int32)) (jinc (by decide)) (by decide) (L2 := [_, _, _, _, _, _]) rfl ?_
    refine jr_goto K (D_at DX12_odds 47 rfl) (tgt := 65) (by decide) ?_
    refine jr_keep [false, false, true, true, true, true] ?_
    exact hr65 x2 x3 ((x4 * x3) / (100 : Int32)) (x5 + (1 : Int32)) h hf
theorem J_X12_odds_65 {G : jG} {l : Launch} {d : Nat} {X : jX} {res : (Int32 × jH)} (K : jOK G l mX12_odds (d + 7) X) (n : Nat) (E : jEnd G mX12_odds (jPW res) X) (k : Nat) : ∀ (x2 : Int32) (x3 : Int32) (x4 : Int32) (x5 : Int32) (h : jH), F_X12_odds_65 n k x2 x3 x4 x5 h = some res → jJ G X h 0 0 65 [none, none, some (.int x2), some (.int x3), some (.int x4), some (.int x5)] [] := by
  induction k with
  | zero =>
    intro x2 x3 x4 x5 h hf
    exact jno (show (none : Option (Int32 × jH)) = some res from hf)
  | succ k ih =>
    intro x2 x3 x4 x5 h hf
    exact J_X12_odds_65_b K n (F_X12_odds_65 n k) ih E x2 x3 x4 x5 h hf
set_option maxHeartbeats 400000 in
set_option maxRecDepth 100000 in
theorem J_X12_odds_33 {G : jG} {l : Launch} {d : Nat} {X : jX} {res : (Int32 × jH)} (K : jOK G l mX12_odds (d + 7) X) (n : Nat) (E : jEnd G mX12_odds (jPW res) X) (a0 : Nat) (x1 : Int32) (x2 : Int32) (sa0 : Nat) (s1 : Int32) (h : jH) (hf : F_X12_odds_33 n a0 x1 x2 sa0 s1 h = some res) : jJ G X h 0 0 33 [some (.ref a0), some (.int x1), some (.int x2), none, none, none] [.int s1, .ref sa0] := by
  unfold F_X12_odds_33 at hf
  refine jr_iconst K (D_at DX12_odds 19 rfl) (v := (2 : Int32)) (by decide) ?_
  obtain ⟨q34, e34, hf⟩ := jbind hf
  obtain ⟨rc_34, e34⟩ := jcv_o e34
  refine jr_callV K (C_X12_throwsIf (d + 6) e34) (D_at DX12_odds 20 rfl) cv_X12_250_X12_throwsIf (As := [.int s1, .int (2 : Int32)]) (ci := 10) rfl rc_34 rfl rfl (by exact Nat.le_of_ble_eq_true rfl) (kc2 := 0) (ks2 := 0) rfl rfl (fun k9 h9 w9 => by cases w9.1) (fun r9 h9 w9 => ?_)
  obtain ⟨w1, w2⟩ := w9
  subst h9
  cases w1
  show jJ G X _ 0 0 _ _ (.int q34.1 :: _)
  refine jr_if_eq K (D_at DX12_odds 21 rfl) (tgt := 42) (by decide) (fun c37 => ?_) (fun c37 => ?_)
  · replace hf := (if_pos c37).symm.trans hf
    refine jr_bipush K (D_at DX12_odds 24 rfl) (v := (100 : Int32)) (by decide) ?_
    refine jr_bipush K (D_at DX12_odds 25 rfl) (v := (100 : Int32)) (by decide) ?_
    refine jr_aload_n K (D_at DX12_odds 26 rfl) rfl rfl ?_
    refine jr_iconst K (D_at DX12_odds 27 rfl) (v := (2 : Int32)) (by decide) ?_
    refine jr_iload_n K (D_at DX12_odds 28 rfl) rfl rfl ?_
    obtain ⟨q49, e49, hf⟩ := jbind hf
    obtain ⟨rc_49, e49⟩ := jcv_o e49
    refine jr_callV K (C_X12_byLaw (d) e49) (D_at DX12_odds 29 rfl) cv_X12_280_X12_byLaw (As := [.int (2 : Int32), .int x1]) (ci := 10) rfl rc_49 rfl rfl (by exact Nat.le_of_ble_eq_true rfl) (kc2 := 0) (ks2 := 0) rfl rfl (fun k9 h9 w9 => by cases w9.1) (fun r9 h9 w9 => ?_)
    obtain ⟨w1, w2⟩ := w9
    subst h9
    cases w1
    show jJ G X _ 0 0 _ _ (.int q49.1 :: _)
    refine jr_min K (D_at DX12_odds 30 rfl) mm_X12_119 (by exact Nat.le_of_ble_eq_true rfl) ?_
    refine jr_isub K (D_at DX12_odds 31 rfl) ?_
    refine jr_istore_n K (D_at DX12_odds 32 rfl) (i := 3) rfl (by decide) (L2 := [_, _, _, _, _, _]) rfl ?_
    refine jr_sipush K (D_at DX12_odds 33 rfl) (v := (10000 : Int32)) (by decide) ?_
    refine jr_istore K (D_at DX12_odds 34 rfl) (i := 4) (by decide) (L2 := [_, _, _, _, _, _]) rfl ?_
    refine jr_iconst K (D_at DX12_odds 35 rfl) (v := (0 : Int32)) (by decide) ?_
    refine jr_istore K (D_at DX12_odds 36 rfl) (i := 5) (by decide) (L2 := [_, _, _, _, _, _]) rfl ?_
    refine jr_keep [false, false, true, true, true, true] ?_
    exact J_X12_odds_65 K n E n x2 ((100 : Int32) - (if q49.1 < (100 : Int32) then q49.1 else (100 : Int32))) (10000 : Int32) (0 : Int32) q49.2 hf
  · replace hf := (if_neg c37).symm.trans hf
    refine jr_iconst K (D_at DX12_odds 22 rfl) (v := (0 : Int32)) (by decide) ?_
    cases hf
    exact jr_iret K E (D_at DX12_odds 23 rfl) rfl ⟨rfl, rfl⟩
set_option maxHeartbeats 400000 in
set_option maxRecDepth 100000 in
theorem J_X12_odds {G : jG} {l : Launch} {d : Nat} {X : jX} {res : (Int32 × jH)} (K : jOK G l mX12_odds (d + 7) X) (n : Nat) (E : jEnd G mX12_odds (jPW res) X) (a0 : Nat) (x1 : Int32) (x2 : Int32) (h : jH) (hf : F_X12_odds n a0 x1 x2 h = some res) : jJ G X h 0 0 0 [some (.ref a0), some (.int x1), some (.int x2), none, none, none] [] := by
  unfold F_X12_odds at hf
  refine jr_aload_n K (D_at DX12_odds 0 rfl) rfl rfl ?_
  refine jr_iconst K (D_at DX12_odds 1 rfl) (v := (0 : Int32)) (by decide) ?_
  obtain ⟨h2, e2, hf⟩ := jbind hf
  refine jr_putI K (D_at DX12_odds 2 rfl) fp_X12_3_10 (Or.inl rfl) e2 ?_
  refine jr_aload_n K (D_at DX12_odds 3 rfl) rfl rfl ?_
  refine jr_aload_n K (D_at DX12_odds 4 rfl) rfl rfl ?_
  refine jr_iload_n K (D_at DX12_odds 5 rfl) rfl rfl ?_
  obtain ⟨v8, e8, hf⟩ := jbind hf
  obtain ⟨rc_8, e8⟩ := jcv_o e8
  refine jr_callV K (C_X12_noRing (d + 4) e8) (D_at DX12_odds 6 rfl) cv_X12_277_X12_noRing (As := [.int x1]) (ci := 10) rfl rc_8 rfl rfl (by exact Nat.le_of_ble_eq_true rfl) (kc2 := 0) (ks2 := 0) rfl rfl (fun k9 h9 w9 => by cases w9.1) (fun r9 h9 w9 => ?_)
  obtain ⟨w1, w2⟩ := w9
  subst h9
  cases w1
  show jJ G X _ 0 0 _ _ (.int v8 :: _)
  refine jr_iconst K (D_at DX12_odds 7 rfl) (v := (1 : Int32)) (by decide) ?_
  obtain ⟨q12, e12, hf⟩ := jbind hf
  obtain ⟨rc_12, e12⟩ := jcv_o e12
  refine jr_callV K (C_X12_throwsIf (d + 6) e12) (D_at DX12_odds 8 rfl) cv_X12_250_X12_throwsIf (As := [.int v8, .int (1 : Int32)]) (ci := 10) rfl rc_12 rfl rfl (by exact Nat.le_of_ble_eq_true rfl) (kc2 := 0) (ks2 := 0) rfl rfl (fun k9 h9 w9 => by cases w9.1) (fun r9 h9 w9 => ?_)
  obtain ⟨w1, w2⟩ := w9
  subst h9
  cases w1
  show jJ G X _ 0 0 _ _ (.int q12.1 :: _)
  refine jr_if_ne K (D_at DX12_odds 9 rfl) (tgt := 40) (by decide) (fun c15 => ?_) (fun c15 => ?_)
  · replace hf := (if_neg c15).symm.trans hf
    refine jr_iconst K (D_at DX12_odds 22 rfl) (v := (0 : Int32)) (by decide) ?_
    cases hf
    exact jr_iret K E (D_at DX12_odds 23 rfl) rfl ⟨rfl, rfl⟩
  · replace hf := (if_pos c15).symm.trans hf
    refine jr_aload_n K (D_at DX12_odds 10 rfl) rfl rfl ?_
    refine jr_iload_n K (D_at DX12_odds 11 rfl) rfl rfl ?_
    refine jr_iconst K (D_at DX12_odds 12 rfl) (v := (0 : Int32)) (by decide) ?_
    refine jr_iconst K (D_at DX12_odds 13 rfl) (v := (4 : Int32)) (by decide) ?_
    obtain ⟨v22, e22, hf⟩ := jbind hf
    refine jr_callS K (C_X12_in (d + 6) e22) (D_at DX12_odds 14 rfl) cs_X12_77_X12_in (As := [.int x2, .int (0 : Int32), .int (4 : Int32)]) rfl rfl (by exact Nat.le_of_ble_eq_true rfl) (kc2 := 0) (ks2 := 0) rfl rfl (fun k9 h9 w9 => by cases w9.1) (fun r9 h9 w9 => ?_)
    obtain ⟨w1, w2⟩ := w9
    subst h9
    cases w1
    show jJ G X _ 0 0 _ _ (.int v22 :: _)
    refine jr_if_ne K (D_at DX12_odds 15 rfl) (tgt := 32) (by decide) (fun c25 => ?_) (fun c25 => ?_)
    · replace hf := (if_neg c25).symm.trans hf
      refine jr_iconst K (D_at DX12_odds 18 rfl) (v := (0 : Int32)) (by decide) ?_
      refine jr_keep [true, true, true, false, false, false] ?_
      exact J_X12_odds_33 K n E a0 x1 x2 a0 (0 : Int32) q12.2 hf
    · replace hf := (if_pos c25).symm.trans hf
      refine jr_iconst K (D_at DX12_odds 16 rfl) (v := (1 : Int32)) (by decide) ?_
      refine jr_goto K (D_at DX12_odds 17 rfl) (tgt := 33) (by decide) ?_
      refine jr_keep [true, true, true, false, false, false] ?_
      exact J_X12_odds_33 K n E a0 x1 x2 a0 (1 : Int32) q12.2 hf
theorem C_X12_odds {G : jG} {l : Launch} (d : Nat) {n : Nat} {a0 : Nat} {x1 : Int32} {x2 : Int32} {h : jH} {res : (Int32 × jH)} (hf : F_X12_odds n a0 x1 x2 h = some res) : jC G l mX12_odds (d + 7) 0 0 [.ref a0, .int x1, .int x2] h (jPW res) :=
  jC.of (by decide +kernel) (jcats rfl) (Nat.le_of_ble_eq_true rfl) (fun X K E => J_X12_odds K n E a0 x1 x2 h hf)
set_option maxHeartbeats 400000 in
set_option maxRecDepth 100000 in
theorem J_X12_likens {G : jG} {l : Launch} {d : Nat} {X : jX} {res : Int32} (K : jOK G l mX12_likens (d + 2) X) (n : Nat) (h : jH) (E : jEnd G mX12_likens (jPR h res) X) (a0 : Nat) (x1 : Int32) (x2 : Int32) (hf : F_X12_likens n a0 x1 x2 h = some res) : jJ G X h 0 0 0 [some (.ref a0), some (.int x1), some (.int x2)] [] := by
  unfold F_X12_likens at hf
  refine jr_aload_n K (D_at DX12_likens 0 rfl) rfl rfl ?_
  refine jr_iload_n K (D_at DX12_likens 1 rfl) rfl rfl ?_
  refine jr_iconst K (D_at DX12_likens 2 rfl) (v := (1 : Int32)) (by decide) ?_
  obtain ⟨v3, e3, hf⟩ := jbind hf
  obtain ⟨rc_3, e3⟩ := jcv_o e3
  refine jr_callV K (C_X12_of (d) e3) (D_at DX12_likens 3 rfl) cv_X12_67_X12_of (As := [.int x1, .int (1 : Int32)]) (ci := 10) rfl rc_3 rfl rfl (by exact Nat.le_of_ble_eq_true rfl) (kc2 := 0) (ks2 := 0) rfl rfl (fun k9 h9 w9 => by cases w9.1) (fun r9 h9 w9 => ?_)
  obtain ⟨w1, w2⟩ := w9
  subst h9
  cases w1
  show jJ G X _ 0 0 _ _ (.int v3 :: _)
  refine jr_aload_n K (D_at DX12_likens 4 rfl) rfl rfl ?_
  refine jr_iload_n K (D_at DX12_likens 5 rfl) rfl rfl ?_
  refine jr_iconst K (D_at DX12_likens 6 rfl) (v := (1 : Int32)) (by decide) ?_
  obtain ⟨v9, e9, hf⟩ := jbind hf
  obtain ⟨rc_9, e9⟩ := jcv_o e9
  refine jr_callV K (C_X12_of (d) e9) (D_at DX12_likens 7 rfl) cv_X12_67_X12_of (As := [.int x2, .int (1 : Int32)]) (ci := 10) rfl rc_9 rfl rfl (by exact Nat.le_of_ble_eq_true rfl) (kc2 := 0) (ks2 := 0) rfl rfl (fun k9 h9 w9 => by cases w9.1) (fun r9 h9 w9 => ?_)
  obtain ⟨w1, w2⟩ := w9
  subst h9
  cases w1
  show jJ G X _ 0 0 _ _ (.int v9 :: _)
  refine jr_icmp_ne K (D_at DX12_likens 8 rfl) (tgt := 49) (by decide) (fun c12 => ?_) (fun c12 => ?_)
  · replace hf := (if_neg c12).symm.trans hf
    refine jr_iconst K (D_at DX12_likens 29 rfl) (v := (0 : Int32)) (by decide) ?_
    cases hf
    exact jr_zret K E (D_at DX12_likens 30 rfl) rfl (Or.inl rfl) ⟨rfl, rfl⟩
  · replace hf := (if_pos c12).symm.trans hf
    refine jr_aload_n K (D_at DX12_likens 9 rfl) rfl rfl ?_
    refine jr_iload_n K (D_at DX12_likens 10 rfl) rfl rfl ?_
    refine jr_iconst K (D_at DX12_likens 11 rfl) (v := (5 : Int32)) (by decide) ?_
    obtain ⟨v18, e18, hf⟩ := jbind hf
    obtain ⟨rc_18, e18⟩ := jcv_o e18
    refine jr_callV K (C_X12_of (d) e18) (D_at DX12_likens 12 rfl) cv_X12_67_X12_of (As := [.int x1, .int (5 : Int32)]) (ci := 10) rfl rc_18 rfl rfl (by exact Nat.le_of_ble_eq_true rfl) (kc2 := 0) (ks2 := 0) rfl rfl (fun k9 h9 w9 => by cases w9.1) (fun r9 h9 w9 => ?_)
    obtain ⟨w1, w2⟩ := w9
    subst h9
    cases w1
    show jJ G X _ 0 0 _ _ (.int v18 :: _)
    refine jr_aload_n K (D_at DX12_likens 13 rfl) rfl rfl ?_
    refine jr_iload_n K (D_at DX12_likens 14 rfl) rfl rfl ?_
    refine jr_iconst K (D_at DX12_likens 15 rfl) (v := (5 : Int32)) (by decide) ?_
    obtain ⟨v24, e24, hf⟩ := jbind hf
    obtain ⟨rc_24, e24⟩ := jcv_o e24
    refine jr_callV K (C_X12_of (d) e24) (D_at DX12_likens 16 rfl) cv_X12_67_X12_of (As := [.int x2, .int (5 : Int32)]) (ci := 10) rfl rc_24 rfl rfl (by exact Nat.le_of_ble_eq_true rfl) (kc2 := 0) (ks2 := 0) rfl rfl (fun k9 h9 w9 => by cases w9.1) (fun r9 h9 w9 => ?_)
    obtain ⟨w1, w2⟩ := w9
    subst h9
    cases w1
    show jJ G X _ 0 0 _ _ (.int v24 :: _)
    refine jr_icmp_ne K (D_at DX12_likens 17 rfl) (tgt := 49) (by decide) (fun c27 => ?_) (fun c27 => ?_)
    · replace hf := (if_neg c27).symm.trans hf
      refine jr_iconst K (D_at DX12_likens 29 rfl) (v := (0 : Int32)) (by decide) ?_
      cases hf
      exact jr_zret K E (D_at DX12_likens 30 rfl) rfl (Or.inl rfl) ⟨rfl, rfl⟩
    · replace hf := (if_pos c27).symm.trans hf
      refine jr_aload_n K (D_at DX12_likens 18 rfl) rfl rfl ?_
      refine jr_iload_n K (D_at DX12_likens 19 rfl) rfl rfl ?_
      refine jr_iconst K (D_at DX12_likens 20 rfl) (v := (4 : Int32)) (by decide) ?_
      obtain ⟨v33, e33, hf⟩ := jbind hf
      obtain ⟨rc_33, e33⟩ := jcv_o e33
      refine jr_callV K (C_X12_of (d) e33) (D_at DX12_likens 21 rfl) cv_X12_67_X12_of (As := [.int x1, .int (4 : Int32)]) (ci := 10) rfl rc_33 rfl rfl (by exact Nat.le_of_ble_eq_true rfl) (kc2 := 0) (ks2 := 0) rfl rfl (fun k9 h9 w9 => by cases w9.1) (fun r9 h9 w9 => ?_)
      obtain ⟨w1, w2⟩ := w9
      subst h9
      cases w1
      show jJ G X _ 0 0 _ _ (.int v33 :: _)
      refine jr_aload_n K (D_at DX12_likens 22 rfl) rfl rfl ?_
      refine jr_iload_n K (D_at DX12_likens 23 rfl) rfl rfl ?_
      refine jr_iconst K (D_at DX12_likens 24 rfl) (v := (4 : Int32)) (by decide) ?_
      obtain ⟨v39, e39, hf⟩ := jbind hf
      obtain ⟨rc_39, e39⟩ := jcv_o e39
      refine jr_callV K (C_X12_of (d) e39) (D_at DX12_likens 25 rfl) cv_X12_67_X12_of (As := [.int x2, .int (4 : Int32)]) (ci := 10) rfl rc_39 rfl rfl (by exact Nat.le_of_ble_eq_true rfl) (kc2 := 0) (ks2 := 0) rfl rfl (fun k9 h9 w9 => by cases w9.1) (fun r9 h9 w9 => ?_)
      obtain ⟨w1, w2⟩ := w9
      subst h9
      cases w1
      show jJ G X _ 0 0 _ _ (.int v39 :: _)
      refine jr_icmp_ne K (D_at DX12_likens 26 rfl) (tgt := 49) (by decide) (fun c42 => ?_) (fun c42 => ?_)
      · replace hf := (if_neg c42).symm.trans hf
        refine jr_iconst K (D_at DX12_likens 29 rfl) (v := (0 : Int32)) (by decide) ?_
        cases hf
        exact jr_zret K E (D_at DX12_likens 30 rfl) rfl (Or.inl rfl) ⟨rfl, rfl⟩
      · replace hf := (if_pos c42).symm.trans hf
        refine jr_iconst K (D_at DX12_likens 27 rfl) (v := (1 : Int32)) (by decide) ?_
        refine jr_goto K (D_at DX12_likens 28 rfl) (tgt := 50) (by decide) ?_
        cases hf
        exact jr_zret K E (D_at DX12_likens 30 rfl) rfl (Or.inr rfl) ⟨rfl, rfl⟩
theorem C_X12_likens {G : jG} {l : Launch} (d : Nat) {n : Nat} {a0 : Nat} {x1 : Int32} {x2 : Int32} {h : jH} {res : Int32} (hf : F_X12_likens n a0 x1 x2 h = some res) : jC G l mX12_likens (d + 2) 0 0 [.ref a0, .int x1, .int x2] h (jPR h res) :=
  jC.of (by decide +kernel) (jcats rfl) (Nat.le_of_ble_eq_true rfl) (fun X K E => J_X12_likens K n h E a0 x1 x2 hf)
set_option maxHeartbeats 400000 in
set_option maxRecDepth 100000 in
theorem J_X12_twins_19_b {G : jG} {l : Launch} {d : Nat} {X : jX} {res : (Int32 × jH)} (K : jOK G l mX12_twins (d + 3) X) (n : Nat) (rc9 : Nat → Int32 → Int32 → jH → Option (Int32 × jH)) (hr9 : ∀ (a0 : Nat) (x1 : Int32) (x2 : Int32) (h : jH), rc9 a0 x1 x2 h = some res → jJ G X h 0 0 9 [some (.ref a0), some (.int x1), some (.int x2), none] []) (rc19 : Nat → Int32 → Int32 → Int32 → jH → Option (Int32 × jH)) (hr19 : ∀ (a0 : Nat) (x1 : Int32) (x2 : Int32) (x3 : Int32) (h : jH), rc19 a0 x1 x2 x3 h = some res → jJ G X h 0 0 19 [some (.ref a0), some (.int x1), some (.int x2), some (.int x3)] []) (E : jEnd G mX12_twins (jPW res) X) (a0 : Nat) (x1 : Int32) (x2 : Int32) (x3 : Int32) (h : jH) (hf : F_X12_twins_19_b n rc9 rc19 a0 x1 x2 x3 h = some res) : jJ G X h 0 0 19 [some (.ref a0), some (.int x1), some (.int x2), some (.int x3)] [] := by
  unfold F_X12_twins_19_b at hf
  refine jr_iload_n K (D_at DX12_twins 13 rfl) rfl rfl ?_
  refine jr_iload_n K (D_at DX12_twins 14 rfl) rfl rfl ?_
  refine jr_icmp_ge K (D_at DX12_twins 15 rfl) (tgt := 47) (by decide) (fun c21 => ?_) (fun c21 => ?_)
  · replace hf := (if_pos c21).symm.trans hf
    refine jr_iinc K (D_at DX12_twins 29 rfl) (i := 2) rfl (v := x2 + (1 : Int32)) (jinc (by decide)) (by decide) (L2 := [_, _, _, _]) rfl ?_
    refine jr_goto K (D_at DX12_twins 30 rfl) (tgt := 9) (by decide) ?_
    refine jr_keep [true, true, true, false] ?_
    exact hr9 a0 x1 (x2 + (1 : Int32)) h hf
  · replace hf := (if_neg c21).symm.trans hf
    refine jr_iload_n K (D_at DX12_twins 16 rfl) rfl rfl ?_
    refine jr_aload_n K (D_at DX12_twins 17 rfl) rfl rfl ?_
    refine jr_iload_n K (D_at DX12_twins 18 rfl) rfl rfl ?_
    refine jr_iload_n K (D_at DX12_twins 19 rfl) rfl rfl ?_
    obtain ⟨v28, e28, hf⟩ := jbind hf
    obtain ⟨rc_28, e28⟩ := jcv_o e28
    refine jr_callV K (C_X12_likens (d) e28) (D_at DX12_twins 20 rfl) cv_X12_413_X12_likens (As := [.int x2, .int x3]) (ci := 10) rfl rc_28 rfl rfl (by exact Nat.le_of_ble_eq_true rfl) (kc2 := 0) (ks2 := 0) rfl rfl (fun k9 h9 w9 => by cases w9.1) (fun r9 h9 w9 => ?_)
    obtain ⟨w1, w2⟩ := w9
    subst h9
    cases w1
    show jJ G X _ 0 0 _ _ (.int v28 :: _)
    refine jr_if_eq K (D_at DX12_twins 21 rfl) (tgt := 38) (by decide) (fun c31 => ?_) (fun c31 => ?_)
    · replace hf := (if_pos c31).symm.trans hf
      refine jr_iconst K (D_at DX12_twins 24 rfl) (v := (0 : Int32)) (by decide) ?_
      refine jr_iadd K (D_at DX12_twins 25 rfl) ?_
      refine jr_istore_n K (D_at DX12_twins 26 rfl) (i := 1) rfl (by decide) (L2 := [_, _, _, _]) rfl ?_
      refine jr_iinc K (D_at DX12_twins 27 rfl) (i := 3) rfl (v := x3 + (1 : Int32)) (jinc (by decide)) (by decide) (L2 := [_, _, _, _]) rfl ?_
      refine jr_goto K (D_at DX12_twins 28 rfl) (tgt := 19) (by decide) ?_
      refine jr_keep [true, true, true, true] ?_
      exact hr19 a0 (x1 + (0 : Int32)) x2 (x3 + (1 : Int32)) h hf
    · replace hf := (if_neg c31).symm.trans hf
      refine jr_iconst K (D_at DX12_twins 22 rfl) (v := (1 : Int32)) (by decide) ?_
      refine jr_goto K (D_at DX12_twins 23 rfl) (tgt := 39) (by decide) ?_
      refine jr_iadd K (D_at DX12_twins 25 rfl) ?_
      refine jr_istore_n K (D_at DX12_twins 26 rfl) (i := 1) rfl (by decide) (L2 := [_, _, _, _]) rfl ?_
      refine jr_iinc K (D_at DX12_twins 27 rfl) (i := 3) rfl (v := x3 + (1 : Int32)) (jinc (by decide)) (by decide) (L2 := [_, _, _, _]) rfl ?_
      refine jr_goto K (D_at DX12_twins 28 rfl) (tgt := 19) (by decide) ?_
      refine jr_keep [true, true, true, true] ?_
      exact hr19 a0 (x1 + (1 : Int32)) x2 (x3 + (1 : Int32)) h hf
theorem J_X12_twins_19 {G : jG} {l : Launch} {d : Nat} {X : jX} {res : (Int32 × jH)} (K : jOK G l mX12_twins (d + 3) X) (n : Nat) (rc9 : Nat → Int32 → Int32 → jH → Option (Int32 × jH)) (hr9 : ∀ (a0 : Nat) (x1 : Int32) (x2 : Int32) (h : jH), rc9 a0 x1 x2 h = some res → jJ G X h 0 0 9 [some (.ref a0), some (.int x1), some (.int x2), none] []) (E : jEnd G mX12_twins (jPW res) X) (k : Nat) : ∀ (a0 : Nat) (x1 : Int32) (x2 : Int32) (x3 : Int32) (h : jH), F_X12_twins_19 n rc9 k a0 x1 x2 x3 h = some res → jJ G X h 0 0 19 [some (.ref a0), some (.int x1), some (.int x2), some (.int x3)] [] := by
  induction k with
  | zero =>
    intro a0 x1 x2 x3 h hf
    exact jno (show (none : Option (Int32 × jH)) = some res from hf)
  | succ k ih =>
    intro a0 x1 x2 x3 h hf
    exact J_X12_twins_19_b K n rc9 hr9 (F_X12_twins_19 n rc9 k) ih E a0 x1 x2 x3 h hf
set_option maxHeartbeats 400000 in
set_option maxRecDepth 100000 in
theorem J_X12_twins_9_b {G : jG} {l : Launch} {d : Nat} {X : jX} {res : (Int32 × jH)} (K : jOK G l mX12_twins (d + 3) X) (n : Nat) (rc9 : Nat → Int32 → Int32 → jH → Option (Int32 × jH)) (hr9 : ∀ (a0 : Nat) (x1 : Int32) (x2 : Int32) (h : jH), rc9 a0 x1 x2 h = some res → jJ G X h 0 0 9 [some (.ref a0), some (.int x1), some (.int x2), none] []) (E : jEnd G mX12_twins (jPW res) X) (a0 : Nat) (x1 : Int32) (x2 : Int32) (h : jH) (hf : F_X12_twins_9_b n rc9 a0 x1 x2 h = some res) : jJ G X h 0 0 9 [some (.ref a0), some (.int x1), some (.int x2), none] [] := by
  unfold F_X12_twins_9_b at hf
  refine jr_iload_n K (D_at DX12_twins 7 rfl) rfl rfl ?_
  refine jr_aload_n K (D_at DX12_twins 8 rfl) rfl rfl ?_
  obtain ⟨v11, e11, hf⟩ := jbind hf
  obtain ⟨rc_11, e11⟩ := jcv_o e11
  refine jr_callV K (C_X12_rings (d + 2) e11) (D_at DX12_twins 9 rfl) cv_X12_59_X12_rings (As := []) (ci := 10) rfl rc_11 rfl rfl (by exact Nat.le_of_ble_eq_true rfl) (kc2 := 0) (ks2 := 0) rfl rfl (fun k9 h9 w9 => by cases w9.1) (fun r9 h9 w9 => ?_)
  obtain ⟨w1, w2⟩ := w9
  subst h9
  cases w1
  show jJ G X _ 0 0 _ _ (.int v11 :: _)
  refine jr_icmp_ge K (D_at DX12_twins 10 rfl) (tgt := 53) (by decide) (fun c14 => ?_) (fun c14 => ?_)
  · replace hf := (if_pos c14).symm.trans hf
    refine jr_iload_n K (D_at DX12_twins 31 rfl) rfl rfl ?_
    cases hf
    exact jr_iret K E (D_at DX12_twins 32 rfl) rfl ⟨rfl, rfl⟩
  · replace hf := (if_neg c14).symm.trans hf
    refine jr_iconst K (D_at DX12_twins 11 rfl) (v := (0 : Int32)) (by decide) ?_
    refine jr_istore_n K (D_at DX12_twins 12 rfl) (i := 3) rfl (by decide) (L2 := [_, _, _, _]) rfl ?_
    refine jr_keep [true, true, true, true] ?_
    exact J_X12_twins_19 K n rc9 hr9 E n a0 x1 x2 (0 : Int32) h hf
theorem J_X12_twins_9 {G : jG} {l : Launch} {d : Nat} {X : jX} {res : (Int32 × jH)} (K : jOK G l mX12_twins (d + 3) X) (n : Nat) (E : jEnd G mX12_twins (jPW res) X) (k : Nat) : ∀ (a0 : Nat) (x1 : Int32) (x2 : Int32) (h : jH), F_X12_twins_9 n k a0 x1 x2 h = some res → jJ G X h 0 0 9 [some (.ref a0), some (.int x1), some (.int x2), none] [] := by
  induction k with
  | zero =>
    intro a0 x1 x2 h hf
    exact jno (show (none : Option (Int32 × jH)) = some res from hf)
  | succ k ih =>
    intro a0 x1 x2 h hf
    exact J_X12_twins_9_b K n (F_X12_twins_9 n k) ih E a0 x1 x2 h hf
set_option maxHeartbeats 400000 in
set_option maxRecDepth 100000 in
theorem J_X12_twins {G : jG} {l : Launch} {d : Nat} {X : jX} {res : (Int32 × jH)} (K : jOK G l mX12_twins (d + 3) X) (n : Nat) (E : jEnd G mX12_twins (jPW res) X) (a0 : Nat) (h : jH) (hf : F_X12_twins n a0 h = some res) : jJ G X h 0 0 0 [some (.ref a0), none, none, none] [] := by
  unfold F_X12_twins at hf
  refine jr_aload_n K (D_at DX12_twins 0 rfl) rfl rfl ?_
  refine jr_iconst K (D_at DX12_twins 1 rfl) (v := (0 : Int32)) (by decide) ?_
  obtain ⟨h2, e2, hf⟩ := jbind hf
  refine jr_putI K (D_at DX12_twins 2 rfl) fp_X12_3_10 (Or.inl rfl) e2 ?_
  refine jr_iconst K (D_at DX12_twins 3 rfl) (v := (0 : Int32)) (by decide) ?_
  refine jr_istore_n K (D_at DX12_twins 4 rfl) (i := 1) rfl (by decide) (L2 := [_, _, _, _]) rfl ?_
  refine jr_iconst K (D_at DX12_twins 5 rfl) (v := (0 : Int32)) (by decide) ?_
  refine jr_istore_n K (D_at DX12_twins 6 rfl) (i := 2) rfl (by decide) (L2 := [_, _, _, _]) rfl ?_
  refine jr_keep [true, true, true, false] ?_
  exact J_X12_twins_9 K n E n a0 (0 : Int32) (0 : Int32) h2 hf
theorem C_X12_twins {G : jG} {l : Launch} (d : Nat) {n : Nat} {a0 : Nat} {h : jH} {res : (Int32 × jH)} (hf : F_X12_twins n a0 h = some res) : jC G l mX12_twins (d + 3) 0 0 [.ref a0] h (jPW res) :=
  jC.of (by decide +kernel) (jcats rfl) (Nat.le_of_ble_eq_true rfl) (fun X K E => J_X12_twins K n E a0 h hf)
set_option maxHeartbeats 400000 in
set_option maxRecDepth 100000 in
theorem J_X12_trial_47 {G : jG} {l : Launch} {d : Nat} {X : jX} {res : (Int32 × jH)} (K : jOK G l mX12_trial (d + 10) X) (n : Nat) (E : jEnd G mX12_trial (jPW res) X) (a0 : Nat) (s0 : Int32) (h : jH) (hf : F_X12_trial_47 n a0 s0 h = some res) : jJ G X h 0 0 47 [some (.ref a0), none, none, none] [.int s0] := by
  unfold F_X12_trial_47 at hf
  refine jr_istore_n K (D_at DX12_trial 26 rfl) (i := 3) rfl (by decide) (L2 := [_, _, _, _]) rfl ?_
  refine jr_aload_n K (D_at DX12_trial 27 rfl) rfl rfl ?_
  obtain ⟨h49, e49, hf⟩ := jbind hf
  obtain ⟨rc_49, e49⟩ := jcv_o e49
  refine jr_callV K (C_X12_bringsBack (d + 9) e49) (D_at DX12_trial 28 rfl) cv_X12_351_X12_bringsBack (As := []) (ci := 10) rfl rc_49 rfl rfl (by exact Nat.le_of_ble_eq_true rfl) (kc2 := 0) (ks2 := 0) rfl rfl (fun k9 h9 w9 => by cases w9.1) (fun r9 h9 w9 => ?_)
  obtain ⟨w1, w2⟩ := w9
  subst h9
  cases w1
  show jJ G X _ 0 0 _ _ []
  refine jr_iload_n K (D_at DX12_trial 29 rfl) rfl rfl ?_
  cases hf
  exact jr_iret K E (D_at DX12_trial 30 rfl) rfl ⟨rfl, rfl⟩
set_option maxHeartbeats 400000 in
set_option maxRecDepth 100000 in
theorem J_X12_trial {G : jG} {l : Launch} {d : Nat} {X : jX} {res : (Int32 × jH)} (K : jOK G l mX12_trial (d + 10) X) (n : Nat) (E : jEnd G mX12_trial (jPW res) X) (a0 : Nat) (x1 : Int32) (x2 : Int32) (h : jH) (hf : F_X12_trial n a0 x1 x2 h = some res) : jJ G X h 0 0 0 [some (.ref a0), some (.int x1), some (.int x2), none] [] := by
  unfold F_X12_trial at hf
  refine jr_aload_n K (D_at DX12_trial 0 rfl) rfl rfl ?_
  refine jr_iconst K (D_at DX12_trial 1 rfl) (v := (0 : Int32)) (by decide) ?_
  obtain ⟨h2, e2, hf⟩ := jbind hf
  refine jr_putI K (D_at DX12_trial 2 rfl) fp_X12_3_10 (Or.inl rfl) e2 ?_
  refine jr_aload_n K (D_at DX12_trial 3 rfl) rfl rfl ?_
  refine jr_iload_n K (D_at DX12_trial 4 rfl) rfl rfl ?_
  obtain ⟨v7, e7, hf⟩ := jbind hf
  refine jr_callS K (C_X12_noAhead (d + 8) e7) (D_at DX12_trial 5 rfl) cs_X12_345_X12_noAhead (As := [.int x1]) rfl rfl (by exact Nat.le_of_ble_eq_true rfl) (kc2 := 0) (ks2 := 0) rfl rfl (fun k9 h9 w9 => by cases w9.1) (fun r9 h9 w9 => ?_)
  obtain ⟨w1, w2⟩ := w9
  subst h9
  cases w1
  show jJ G X _ 0 0 _ _ (.int v7 :: _)
  refine jr_iconst K (D_at DX12_trial 6 rfl) (v := (1 : Int32)) (by decide) ?_
  obtain ⟨q11, e11, hf⟩ := jbind hf
  obtain ⟨rc_11, e11⟩ := jcv_o e11
  refine jr_callV K (C_X12_throwsIf (d + 9) e11) (D_at DX12_trial 7 rfl) cv_X12_250_X12_throwsIf (As := [.int v7, .int (1 : Int32)]) (ci := 10) rfl rc_11 rfl rfl (by exact Nat.le_of_ble_eq_true rfl) (kc2 := 0) (ks2 := 0) rfl rfl (fun k9 h9 w9 => by cases w9.1) (fun r9 h9 w9 => ?_)
  obtain ⟨w1, w2⟩ := w9
  subst h9
  cases w1
  show jJ G X _ 0 0 _ _ (.int q11.1 :: _)
  refine jr_if_eq K (D_at DX12_trial 8 rfl) (tgt := 19) (by decide) (fun c14 => ?_) (fun c14 => ?_)
  · replace hf := (if_pos c14).symm.trans hf
    refine jr_aload_n K (D_at DX12_trial 11 rfl) rfl rfl ?_
    obtain ⟨h20, e20, hf⟩ := jbind hf
    obtain ⟨rc_20, e20⟩ := jcv_o e20
    refine jr_callV K (C_X12_keepsAll (d + 9) e20) (D_at DX12_trial 12 rfl) cv_X12_348_X12_keepsAll (As := []) (ci := 10) rfl rc_20 rfl rfl (by exact Nat.le_of_ble_eq_true rfl) (kc2 := 0) (ks2 := 0) rfl rfl (fun k9 h9 w9 => by cases w9.1) (fun r9 h9 w9 => ?_)
    obtain ⟨w1, w2⟩ := w9
    subst h9
    cases w1
    show jJ G X _ 0 0 _ _ []
    refine jr_aload_n K (D_at DX12_trial 13 rfl) rfl rfl ?_
    refine jr_iload_n K (D_at DX12_trial 14 rfl) rfl rfl ?_
    refine jr_iconst K (D_at DX12_trial 15 rfl) (v := (0 : Int32)) (by decide) ?_
    obtain ⟨q26, e26, hf⟩ := jbind hf
    obtain ⟨rc_26, e26⟩ := jcv_o e26
    refine jr_callV K (C_X12_goesOn (d) e26) (D_at DX12_trial 16 rfl) cv_X12_342_X12_goesOn (As := [.int x1, .int (0 : Int32)]) (ci := 10) rfl rc_26 rfl rfl (by exact Nat.le_of_ble_eq_true rfl) (kc2 := 0) (ks2 := 0) rfl rfl (fun k9 h9 w9 => by cases w9.1) (fun r9 h9 w9 => ?_)
    obtain ⟨w1, w2⟩ := w9
    subst h9
    cases w1
    show jJ G X _ 0 0 _ _ (.int q26.1 :: _)
    refine jr_pop K (D_at DX12_trial 17 rfl) rfl ?_
    refine jr_iload_n K (D_at DX12_trial 18 rfl) rfl rfl ?_
    refine jr_if_eq K (D_at DX12_trial 19 rfl) (tgt := 41) (by decide) (fun c31 => ?_) (fun c31 => ?_)
    · replace hf := (if_pos c31).symm.trans hf
      refine jr_aload_n K (D_at DX12_trial 23 rfl) rfl rfl ?_
      refine jr_bipush K (D_at DX12_trial 24 rfl) (v := (7 : Int32)) (by decide) ?_
      obtain ⟨v44, e44, hf⟩ := jbind hf
      obtain ⟨rc_44, e44⟩ := jcv_o e44
      refine jr_callV K (C_X12_ringsThat (d + 6) e44) (D_at DX12_trial 25 rfl) cv_X12_401_X12_ringsThat (As := [.int (7 : Int32)]) (ci := 10) rfl rc_44 rfl rfl (by exact Nat.le_of_ble_eq_true rfl) (kc2 := 0) (ks2 := 0) rfl rfl (fun k9 h9 w9 => by cases w9.1) (fun r9 h9 w9 => ?_)
      obtain ⟨w1, w2⟩ := w9
      subst h9
      cases w1
      show jJ G X _ 0 0 _ _ (.int v44 :: _)
      refine jr_keep [true, false, false, false] ?_
      exact J_X12_trial_47 K n E a0 v44 q26.2 hf
    · replace hf := (if_neg c31).symm.trans hf
      refine jr_aload_n K (D_at DX12_trial 20 rfl) rfl rfl ?_
      obtain ⟨v35, e35, hf⟩ := jbind hf
      obtain ⟨rc_35, e35⟩ := jcv_o e35
      refine jr_callV K (C_X12_looseOnes (d + 5) e35) (D_at DX12_trial 21 rfl) cv_X12_410_X12_looseOnes (As := []) (ci := 10) rfl rc_35 rfl rfl (by exact Nat.le_of_ble_eq_true rfl) (kc2 := 0) (ks2 := 0) rfl rfl (fun k9 h9 w9 => by cases w9.1) (fun r9 h9 w9 => ?_)
      obtain ⟨w1, w2⟩ := w9
      subst h9
      cases w1
      show jJ G X _ 0 0 _ _ (.int v35 :: _)
      refine jr_goto K (D_at DX12_trial 22 rfl) (tgt := 47) (by decide) ?_
      refine jr_keep [true, false, false, false] ?_
      exact J_X12_trial_47 K n E a0 v35 q26.2 hf
  · replace hf := (if_neg c14).symm.trans hf
    refine jr_iconst K (D_at DX12_trial 9 rfl) (v := (0 : Int32)) (by decide) ?_
    cases hf
    exact jr_iret K E (D_at DX12_trial 10 rfl) rfl ⟨rfl, rfl⟩
theorem C_X12_trial {G : jG} {l : Launch} (d : Nat) {n : Nat} {a0 : Nat} {x1 : Int32} {x2 : Int32} {h : jH} {res : (Int32 × jH)} (hf : F_X12_trial n a0 x1 x2 h = some res) : jC G l mX12_trial (d + 10) 0 0 [.ref a0, .int x1, .int x2] h (jPW res) :=
  jC.of (by decide +kernel) (jcats rfl) (Nat.le_of_ble_eq_true rfl) (fun X K E => J_X12_trial K n E a0 x1 x2 h hf)
set_option maxHeartbeats 400000 in
set_option maxRecDepth 100000 in
theorem J_X12_span_28_b {G : jG} {l : Launch} {d : Nat} {X : jX} {res : (Int32 × jH)} (K : jOK G l mX12_span (d + 10) X) (n : Nat) (rc28 : Nat → Int32 → Int32 → Int32 → Int32 → jH → Option (Int32 × jH)) (hr28 : ∀ (a0 : Nat) (x1 : Int32) (x2 : Int32) (x3 : Int32) (x4 : Int32) (h : jH), rc28 a0 x1 x2 x3 x4 h = some res → jJ G X h 0 0 28 [some (.ref a0), some (.int x1), some (.int x2), some (.int x3), some (.int x4), none] []) (E : jEnd G mX12_span (jPW res) X) (a0 : Nat) (x1 : Int32) (x2 : Int32) (x3 : Int32) (x4 : Int32) (h : jH) (hf : F_X12_span_28_b n rc28 a0 x1 x2 x3 x4 h = some res) : jJ G X h 0 0 28 [some (.ref a0), some (.int x1), some (.int x2), some (.int x3), some (.int x4), none] [] := by
  unfold F_X12_span_28_b at hf
  refine jr_iload K (D_at DX12_span 17 rfl) rfl ?_
  refine jr_bipush K (D_at DX12_span 18 rfl) (v := (6 : Int32)) (by decide) ?_
  refine jr_icmp_gt K (D_at DX12_span 19 rfl) (tgt := 109) (by decide) (fun c32 => ?_) (fun c32 => ?_)
  · replace hf := (if_pos c32).symm.trans hf
    refine jr_iload_n K (D_at DX12_span 57 rfl) rfl rfl ?_
    cases hf
    exact jr_iret K E (D_at DX12_span 58 rfl) rfl ⟨rfl, rfl⟩
  · replace hf := (if_neg c32).symm.trans hf
    refine jr_aload_n K (D_at DX12_span 20 rfl) rfl rfl ?_
    obtain ⟨p36, e36, hf⟩ := jbind hf
    refine jr_getR K (D_at DX12_span 21 rfl) fg_X12_13_10 e36 ?_
    refine jr_bipush K (D_at DX12_span 22 rfl) (v := (10 : Int32)) (by decide) ?_
    refine jr_iload K (D_at DX12_span 23 rfl) rfl ?_
    obtain ⟨h43, e43, hf⟩ := jbind hf
    refine jr_iast K (D_at DX12_span 24 rfl) e43 ?_
    refine jr_aload_n K (D_at DX12_span 25 rfl) rfl rfl ?_
    refine jr_iload_n K (D_at DX12_span 26 rfl) rfl rfl ?_
    refine jr_iconst K (D_at DX12_span 27 rfl) (v := (0 : Int32)) (by decide) ?_
    obtain ⟨q47, e47, hf⟩ := jbind hf
    obtain ⟨rc_47, e47⟩ := jcv_o e47
    refine jr_callV K (C_X12_goesOn (d) e47) (D_at DX12_span 28 rfl) cv_X12_342_X12_goesOn (As := [.int x1, .int (0 : Int32)]) (ci := 10) rfl rc_47 rfl rfl (by exact Nat.le_of_ble_eq_true rfl) (kc2 := 0) (ks2 := 0) rfl rfl (fun k9 h9 w9 => by cases w9.1) (fun r9 h9 w9 => ?_)
    obtain ⟨w1, w2⟩ := w9
    subst h9
    cases w1
    show jJ G X _ 0 0 _ _ (.int q47.1 :: _)
    refine jr_pop K (D_at DX12_span 29 rfl) rfl ?_
    refine jr_aload_n K (D_at DX12_span 30 rfl) rfl rfl ?_
    refine jr_bipush K (D_at DX12_span 31 rfl) (v := (7 : Int32)) (by decide) ?_
    obtain ⟨v54, e54, hf⟩ := jbind hf
    obtain ⟨rc_54, e54⟩ := jcv_o e54
    refine jr_callV K (C_X12_ringsThat (d + 6) e54) (D_at DX12_span 32 rfl) cv_X12_401_X12_ringsThat (As := [.int (7 : Int32)]) (ci := 10) rfl rc_54 rfl rfl (by exact Nat.le_of_ble_eq_true rfl) (kc2 := 0) (ks2 := 0) rfl rfl (fun k9 h9 w9 => by cases w9.1) (fun r9 h9 w9 => ?_)
    obtain ⟨w1, w2⟩ := w9
    subst h9
    cases w1
    show jJ G X _ 0 0 _ _ (.int v54 :: _)
    obtain ⟨v57, e57, hf⟩ := jbind hf
    refine jr_callS K (C_J6_bitCount_0f7a4 (d + 9) e57) (D_at DX12_span 33 rfl) cs_X12_360_J6_bitCount_0f7a4 (As := [.int v54]) rfl rfl (by exact Nat.le_of_ble_eq_true rfl) (kc2 := 0) (ks2 := 0) rfl rfl (fun k9 h9 w9 => by cases w9.1) (fun r9 h9 w9 => ?_)
    obtain ⟨w1, w2⟩ := w9
    subst h9
    cases w1
    show jJ G X _ 0 0 _ _ (.int v57 :: _)
    refine jr_aload_n K (D_at DX12_span 34 rfl) rfl rfl ?_
    obtain ⟨v61, e61, hf⟩ := jbind hf
    obtain ⟨rc_61, e61⟩ := jcv_o e61
    refine jr_callV K (C_X12_looseOnes (d + 5) e61) (D_at DX12_span 35 rfl) cv_X12_410_X12_looseOnes (As := []) (ci := 10) rfl rc_61 rfl rfl (by exact Nat.le_of_ble_eq_true rfl) (kc2 := 0) (ks2 := 0) rfl rfl (fun k9 h9 w9 => by cases w9.1) (fun r9 h9 w9 => ?_)
    obtain ⟨w1, w2⟩ := w9
    subst h9
    cases w1
    show jJ G X _ 0 0 _ _ (.int v61 :: _)
    obtain ⟨v64, e64, hf⟩ := jbind hf
    refine jr_callS K (C_J6_bitCount_0f7a4 (d + 9) e64) (D_at DX12_span 36 rfl) cs_X12_360_J6_bitCount_0f7a4 (As := [.int v61]) rfl rfl (by exact Nat.le_of_ble_eq_true rfl) (kc2 := 0) (ks2 := 0) rfl rfl (fun k9 h9 w9 => by cases w9.1) (fun r9 h9 w9 => ?_)
    obtain ⟨w1, w2⟩ := w9
    subst h9
    cases w1
    show jJ G X _ 0 0 _ _ (.int v64 :: _)
    refine jr_iadd K (D_at DX12_span 37 rfl) ?_
    refine jr_istore K (D_at DX12_span 38 rfl) (i := 5) (by decide) (L2 := [_, _, _, _, _, _]) rfl ?_
    refine jr_aload_n K (D_at DX12_span 39 rfl) rfl rfl ?_
    obtain ⟨h71, e71, hf⟩ := jbind hf
    obtain ⟨rc_71, e71⟩ := jcv_o e71
    refine jr_callV K (C_X12_bringsBack (d + 9) e71) (D_at DX12_span 40 rfl) cv_X12_351_X12_bringsBack (As := []) (ci := 10) rfl rc_71 rfl rfl (by exact Nat.le_of_ble_eq_true rfl) (kc2 := 0) (ks2 := 0) rfl rfl (fun k9 h9 w9 => by cases w9.1) (fun r9 h9 w9 => ?_)
    obtain ⟨w1, w2⟩ := w9
    subst h9
    cases w1
    show jJ G X _ 0 0 _ _ []
    refine jr_iload_n K (D_at DX12_span 41 rfl) rfl rfl ?_
    refine jr_if_ge K (D_at DX12_span 42 rfl) (tgt := 83) (by decide) (fun c75 => ?_) (fun c75 => ?_)
    · replace hf := (if_pos c75).symm.trans hf
      refine jr_iload_n K (D_at DX12_span 45 rfl) rfl rfl ?_
      refine jr_if_eq K (D_at DX12_span 46 rfl) (tgt := 96) (by decide) (fun c84 => ?_) (fun c84 => ?_)
      · replace hf := (if_pos c84).symm.trans hf
        refine jr_iload_n K (D_at DX12_span 51 rfl) rfl rfl ?_
        refine jr_iload K (D_at DX12_span 52 rfl) rfl ?_
        refine jr_min K (D_at DX12_span 53 rfl) mm_X12_119 (by exact Nat.le_of_ble_eq_true rfl) ?_
        refine jr_istore_n K (D_at DX12_span 54 rfl) (i := 3) rfl (by decide) (L2 := [_, _, _, _, _, _]) rfl ?_
        refine jr_iinc K (D_at DX12_span 55 rfl) (i := 4) rfl (v := x4 + (1 : Int32)) (jinc (by decide)) (by decide) (L2 := [_, _, _, _, _, _]) rfl ?_
        refine jr_goto K (D_at DX12_span 56 rfl) (tgt := 28) (by decide) ?_
        refine jr_keep [true, true, true, true, true, false] ?_
        exact hr28 a0 x1 x2 (if (v57 + v64) < x3 then v57 + v64 else x3) (x4 + (1 : Int32)) h71 hf
      · replace hf := (if_neg c84).symm.trans hf
        refine jr_iload_n K (D_at DX12_span 47 rfl) rfl rfl ?_
        refine jr_iload K (D_at DX12_span 48 rfl) rfl ?_
        refine jr_max K (D_at DX12_span 49 rfl) mm_X12_368 (by exact Nat.le_of_ble_eq_true rfl) ?_
        refine jr_goto K (D_at DX12_span 50 rfl) (tgt := 102) (by decide) ?_
        refine jr_istore_n K (D_at DX12_span 54 rfl) (i := 3) rfl (by decide) (L2 := [_, _, _, _, _, _]) rfl ?_
        refine jr_iinc K (D_at DX12_span 55 rfl) (i := 4) rfl (v := x4 + (1 : Int32)) (jinc (by decide)) (by decide) (L2 := [_, _, _, _, _, _]) rfl ?_
        refine jr_goto K (D_at DX12_span 56 rfl) (tgt := 28) (by decide) ?_
        refine jr_keep [true, true, true, true, true, false] ?_
        exact hr28 a0 x1 x2 (if x3 < (v57 + v64) then v57 + v64 else x3) (x4 + (1 : Int32)) h71 hf
    · replace hf := (if_neg c75).symm.trans hf
      refine jr_iload K (D_at DX12_span 43 rfl) rfl ?_
      refine jr_goto K (D_at DX12_span 44 rfl) (tgt := 102) (by decide) ?_
      refine jr_istore_n K (D_at DX12_span 54 rfl) (i := 3) rfl (by decide) (L2 := [_, _, _, _, _, _]) rfl ?_
      refine jr_iinc K (D_at DX12_span 55 rfl) (i := 4) rfl (v := x4 + (1 : Int32)) (jinc (by decide)) (by decide) (L2 := [_, _, _, _, _, _]) rfl ?_
      refine jr_goto K (D_at DX12_span 56 rfl) (tgt := 28) (by decide) ?_
      refine jr_keep [true, true, true, true, true, false] ?_
      exact hr28 a0 x1 x2 (v57 + v64) (x4 + (1 : Int32)) h71 hf
theorem J_X12_span_28 {G : jG} {l : Launch} {d : Nat} {X : jX} {res : (Int32 × jH)} (K : jOK G l mX12_span (d + 10) X) (n : Nat) (E : jEnd G mX12_span (jPW res) X) (k : Nat) : ∀ (a0 : Nat) (x1 : Int32) (x2 : Int32) (x3 : Int32) (x4 : Int32) (h : jH), F_X12_span_28 n k a0 x1 x2 x3 x4 h = some res → jJ G X h 0 0 28 [some (.ref a0), some (.int x1), some (.int x2), some (.int x3), some (.int x4), none] [] := by
  induction k with
  | zero =>
    intro a0 x1 x2 x3 x4 h hf
    exact jno (show (none : Option (Int32 × jH)) = some res from hf)
  | succ k ih =>
    intro a0 x1 x2 x3 x4 h hf
    exact J_X12_span_28_b K n (F_X12_span_28 n k) ih E a0 x1 x2 x3 x4 h hf
set_option maxHeartbeats 400000 in
set_option maxRecDepth 100000 in
theorem J_X12_span {G : jG} {l : Launch} {d : Nat} {X : jX} {res : (Int32 × jH)} (K : jOK G l mX12_span (d + 10) X) (n : Nat) (E : jEnd G mX12_span (jPW res) X) (a0 : Nat) (x1 : Int32) (x2 : Int32) (h : jH) (hf : F_X12_span n a0 x1 x2 h = some res) : jJ G X h 0 0 0 [some (.ref a0), some (.int x1), some (.int x2), none, none, none] [] := by
  unfold F_X12_span at hf
  refine jr_aload_n K (D_at DX12_span 0 rfl) rfl rfl ?_
  refine jr_iconst K (D_at DX12_span 1 rfl) (v := (0 : Int32)) (by decide) ?_
  obtain ⟨h2, e2, hf⟩ := jbind hf
  refine jr_putI K (D_at DX12_span 2 rfl) fp_X12_3_10 (Or.inl rfl) e2 ?_
  refine jr_aload_n K (D_at DX12_span 3 rfl) rfl rfl ?_
  refine jr_iload_n K (D_at DX12_span 4 rfl) rfl rfl ?_
  obtain ⟨v7, e7, hf⟩ := jbind hf
  refine jr_callS K (C_X12_noAhead (d + 8) e7) (D_at DX12_span 5 rfl) cs_X12_345_X12_noAhead (As := [.int x1]) rfl rfl (by exact Nat.le_of_ble_eq_true rfl) (kc2 := 0) (ks2 := 0) rfl rfl (fun k9 h9 w9 => by cases w9.1) (fun r9 h9 w9 => ?_)
  obtain ⟨w1, w2⟩ := w9
  subst h9
  cases w1
  show jJ G X _ 0 0 _ _ (.int v7 :: _)
  refine jr_iconst K (D_at DX12_span 6 rfl) (v := (1 : Int32)) (by decide) ?_
  obtain ⟨q11, e11, hf⟩ := jbind hf
  obtain ⟨rc_11, e11⟩ := jcv_o e11
  refine jr_callV K (C_X12_throwsIf (d + 9) e11) (D_at DX12_span 7 rfl) cv_X12_250_X12_throwsIf (As := [.int v7, .int (1 : Int32)]) (ci := 10) rfl rc_11 rfl rfl (by exact Nat.le_of_ble_eq_true rfl) (kc2 := 0) (ks2 := 0) rfl rfl (fun k9 h9 w9 => by cases w9.1) (fun r9 h9 w9 => ?_)
  obtain ⟨w1, w2⟩ := w9
  subst h9
  cases w1
  show jJ G X _ 0 0 _ _ (.int q11.1 :: _)
  refine jr_if_eq K (D_at DX12_span 8 rfl) (tgt := 19) (by decide) (fun c14 => ?_) (fun c14 => ?_)
  · replace hf := (if_pos c14).symm.trans hf
    refine jr_aload_n K (D_at DX12_span 11 rfl) rfl rfl ?_
    obtain ⟨h20, e20, hf⟩ := jbind hf
    obtain ⟨rc_20, e20⟩ := jcv_o e20
    refine jr_callV K (C_X12_keepsAll (d + 9) e20) (D_at DX12_span 12 rfl) cv_X12_348_X12_keepsAll (As := []) (ci := 10) rfl rc_20 rfl rfl (by exact Nat.le_of_ble_eq_true rfl) (kc2 := 0) (ks2 := 0) rfl rfl (fun k9 h9 w9 => by cases w9.1) (fun r9 h9 w9 => ?_)
    obtain ⟨w1, w2⟩ := w9
    subst h9
    cases w1
    show jJ G X _ 0 0 _ _ []
    refine jr_iconst K (D_at DX12_span 13 rfl) (v := (-1 : Int32)) (by decide) ?_
    refine jr_istore_n K (D_at DX12_span 14 rfl) (i := 3) rfl (by decide) (L2 := [_, _, _, _, _, _]) rfl ?_
    refine jr_iconst K (D_at DX12_span 15 rfl) (v := (1 : Int32)) (by decide) ?_
    refine jr_istore K (D_at DX12_span 16 rfl) (i := 4) (by decide) (L2 := [_, _, _, _, _, _]) rfl ?_
    refine jr_keep [true, true, true, true, true, false] ?_
    exact J_X12_span_28 K n E n a0 x1 x2 (-1 : Int32) (1 : Int32) h20 hf
  · replace hf := (if_neg c14).symm.trans hf
    refine jr_iconst K (D_at DX12_span 9 rfl) (v := (0 : Int32)) (by decide) ?_
    cases hf
    exact jr_iret K E (D_at DX12_span 10 rfl) rfl ⟨rfl, rfl⟩
theorem C_X12_span {G : jG} {l : Launch} (d : Nat) {n : Nat} {a0 : Nat} {x1 : Int32} {x2 : Int32} {h : jH} {res : (Int32 × jH)} (hf : F_X12_span n a0 x1 x2 h = some res) : jC G l mX12_span (d + 10) 0 0 [.ref a0, .int x1, .int x2] h (jPW res) :=
  jC.of (by decide +kernel) (jcats rfl) (Nat.le_of_ble_eq_true rfl) (fun X K E => J_X12_span K n E a0 x1 x2 h hf)
set_option maxHeartbeats 400000 in
set_option maxRecDepth 100000 in
theorem J_X12_ofLog {G : jG} {l : Launch} {d : Nat} {X : jX} {res : Int32} (K : jOK G l mX12_ofLog (d) X) (n : Nat) (h : jH) (E : jEnd G mX12_ofLog (jPR h res) X) (a0 : Nat) (x1 : Int32) (x2 : Int32) (hf : F_X12_ofLog n a0 x1 x2 h = some res) : jJ G X h 0 0 0 [some (.ref a0), some (.int x1), some (.int x2)] [] := by
  unfold F_X12_ofLog at hf
  refine jr_aload_n K (D_at DX12_ofLog 0 rfl) rfl rfl ?_
  obtain ⟨p1, e1, hf⟩ := jbind hf
  refine jr_getR K (D_at DX12_ofLog 1 rfl) fg_X12_13_10 e1 ?_
  refine jr_bipush K (D_at DX12_ofLog 2 rfl) (v := (75 : Int32)) (by decide) ?_
  refine jr_bipush K (D_at DX12_ofLog 3 rfl) (v := (6 : Int32)) (by decide) ?_
  refine jr_iload_n K (D_at DX12_ofLog 4 rfl) rfl rfl ?_
  refine jr_imul K (D_at DX12_ofLog 5 rfl) ?_
  refine jr_iadd K (D_at DX12_ofLog 6 rfl) ?_
  refine jr_iload_n K (D_at DX12_ofLog 7 rfl) rfl rfl ?_
  refine jr_iadd K (D_at DX12_ofLog 8 rfl) ?_
  obtain ⟨v13, e13, hf⟩ := jbind hf
  refine jr_iald K (D_at DX12_ofLog 9 rfl) e13 ?_
  cases hf
  exact jr_iret K E (D_at DX12_ofLog 10 rfl) rfl ⟨rfl, rfl⟩
theorem C_X12_ofLog {G : jG} {l : Launch} (d : Nat) {n : Nat} {a0 : Nat} {x1 : Int32} {x2 : Int32} {h : jH} {res : Int32} (hf : F_X12_ofLog n a0 x1 x2 h = some res) : jC G l mX12_ofLog (d) 0 0 [.ref a0, .int x1, .int x2] h (jPR h res) :=
  jC.of (by decide +kernel) (jcats rfl) (Nat.le_of_ble_eq_true rfl) (fun X K E => J_X12_ofLog K n h E a0 x1 x2 hf)
set_option maxHeartbeats 400000 in
set_option maxRecDepth 100000 in
theorem J_X12_led_36_b {G : jG} {l : Launch} {d : Nat} {X : jX} {res : (Int32 × jH)} (K : jOK G l mX12_led (d + 3) X) (n : Nat) (rc36 : Nat → Int32 → Int32 → Int32 → Int32 → Int32 → jH → Option (Int32 × jH)) (hr36 : ∀ (a0 : Nat) (x1 : Int32) (x2 : Int32) (x3 : Int32) (x4 : Int32) (x5 : Int32) (h : jH), rc36 a0 x1 x2 x3 x4 x5 h = some res → jJ G X h 0 0 36 [some (.ref a0), some (.int x1), some (.int x2), some (.int x3), some (.int x4), some (.int x5)] []) (E : jEnd G mX12_led (jPW res) X) (a0 : Nat) (x1 : Int32) (x2 : Int32) (x3 : Int32) (x4 : Int32) (x5 : Int32) (h : jH) (hf : F_X12_led_36_b n rc36 a0 x1 x2 x3 x4 x5 h = some res) : jJ G X h 0 0 36 [some (.ref a0), some (.int x1), some (.int x2), some (.int x3), some (.int x4), some (.int x5)] [] := by
  unfold F_X12_led_36_b at hf
  refine jr_iload K (D_at DX12_led 23 rfl) rfl ?_
  refine jr_if_lt K (D_at DX12_led 24 rfl) (tgt := 73) (by decide) (fun c38 => ?_) (fun c38 => ?_)
  · replace hf := (if_pos c38).symm.trans hf
    refine jr_iload_n K (D_at DX12_led 40 rfl) rfl rfl ?_
    refine jr_if_eq K (D_at DX12_led 41 rfl) (tgt := 82) (by decide) (fun c74 => ?_) (fun c74 => ?_)
    · replace hf := (if_pos c74).symm.trans hf
      refine jr_iload_n K (D_at DX12_led 44 rfl) rfl rfl ?_
      cases hf
      exact jr_iret K E (D_at DX12_led 45 rfl) rfl ⟨rfl, rfl⟩
    · replace hf := (if_neg c74).symm.trans hf
      refine jr_iload K (D_at DX12_led 42 rfl) rfl ?_
      refine jr_goto K (D_at DX12_led 43 rfl) (tgt := 83) (by decide) ?_
      cases hf
      exact jr_iret K E (D_at DX12_led 45 rfl) rfl ⟨rfl, rfl⟩
  · replace hf := (if_neg c38).symm.trans hf
    refine jr_aload_n K (D_at DX12_led 25 rfl) rfl rfl ?_
    refine jr_iload K (D_at DX12_led 26 rfl) rfl ?_
    refine jr_iconst K (D_at DX12_led 27 rfl) (v := (2 : Int32)) (by decide) ?_
    obtain ⟨v45, e45, hf⟩ := jbind hf
    obtain ⟨rc_45, e45⟩ := jcv_o e45
    refine jr_callV K (C_X12_ofLog (d + 2) e45) (D_at DX12_led 28 rfl) cv_X12_416_X12_ofLog (As := [.int x5, .int (2 : Int32)]) (ci := 10) rfl rc_45 rfl rfl (by exact Nat.le_of_ble_eq_true rfl) (kc2 := 0) (ks2 := 0) rfl rfl (fun k9 h9 w9 => by cases w9.1) (fun r9 h9 w9 => ?_)
    obtain ⟨w1, w2⟩ := w9
    subst h9
    cases w1
    show jJ G X _ 0 0 _ _ (.int v45 :: _)
    refine jr_iload_n K (D_at DX12_led 29 rfl) rfl rfl ?_
    refine jr_icmp_eq K (D_at DX12_led 30 rfl) (tgt := 55) (by decide) (fun c49 => ?_) (fun c49 => ?_)
    · replace hf := (if_pos c49).symm.trans hf
      refine jr_iinc K (D_at DX12_led 32 rfl) (i := 3) rfl (v := x3 + (1 : Int32)) (jinc (by decide)) (by decide) (L2 := [_, _, _, _, _, _]) rfl ?_
      refine jr_aload_n K (D_at DX12_led 33 rfl) rfl rfl ?_
      refine jr_iload K (D_at DX12_led 34 rfl) rfl ?_
      refine jr_iconst K (D_at DX12_led 35 rfl) (v := (5 : Int32)) (by decide) ?_
      obtain ⟨v62, e62, hf⟩ := jbind hf
      obtain ⟨rc_62, e62⟩ := jcv_o e62
      refine jr_callV K (C_X12_ofLog (d + 2) e62) (D_at DX12_led 36 rfl) cv_X12_416_X12_ofLog (As := [.int x5, .int (5 : Int32)]) (ci := 10) rfl rc_62 rfl rfl (by exact Nat.le_of_ble_eq_true rfl) (kc2 := 0) (ks2 := 0) rfl rfl (fun k9 h9 w9 => by cases w9.1) (fun r9 h9 w9 => ?_)
      obtain ⟨w1, w2⟩ := w9
      subst h9
      cases w1
      show jJ G X _ 0 0 _ _ (.int v62 :: _)
      refine jr_istore K (D_at DX12_led 37 rfl) (i := 4) (by decide) (L2 := [_, _, _, _, _, _]) rfl ?_
      refine jr_iinc K (D_at DX12_led 38 rfl) (i := 5) rfl (v := x5 + (-1 : Int32)) (jinc (by decide)) (by decide) (L2 := [_, _, _, _, _, _]) rfl ?_
      refine jr_goto K (D_at DX12_led 39 rfl) (tgt := 36) (by decide) ?_
      refine jr_keep [true, true, true, true, true, true] ?_
      exact hr36 a0 x1 x2 (x3 + (1 : Int32)) v62 (x5 + (-1 : Int32)) h hf
    · replace hf := (if_neg c49).symm.trans hf
      refine jr_goto K (D_at DX12_led 31 rfl) (tgt := 67) (by decide) ?_
      refine jr_iinc K (D_at DX12_led 38 rfl) (i := 5) rfl (v := x5 + (-1 : Int32)) (jinc (by decide)) (by decide) (L2 := [_, _, _, _, _, _]) rfl ?_
      refine jr_goto K (D_at DX12_led 39 rfl) (tgt := 36) (by decide) ?_
      refine jr_keep [true, true, true, true, true, true] ?_
      exact hr36 a0 x1 x2 x3 x4 (x5 + (-1 : Int32)) h hf
theorem J_X12_led_36 {G : jG} {l : Launch} {d : Nat} {X : jX} {res : (Int32 × jH)} (K : jOK G l mX12_led (d + 3) X) (n : Nat) (E : jEnd G mX12_led (jPW res) X) (k : Nat) : ∀ (a0 : Nat) (x1 : Int32) (x2 : Int32) (x3 : Int32) (x4 : Int32) (x5 : Int32) (h : jH), F_X12_led_36 n k a0 x1 x2 x3 x4 x5 h = some res → jJ G X h 0 0 36 [some (.ref a0), some (.int x1), some (.int x2), some (.int x3), some (.int x4), some (.int x5)] [] := by
  induction k with
  | zero =>
    intro a0 x1 x2 x3 x4 x5 h hf
    exact jno (show (none : Option (Int32 × jH)) = some res from hf)
  | succ k ih =>
    intro a0 x1 x2 x3 x4 x5 h hf
    exact J_X12_led_36_b K n (F_X12_led_36 n k) ih E a0 x1 x2 x3 x4 x5 h hf
set_option maxHeartbeats 400000 in
set_option maxRecDepth 100000 in
theorem J_X12_led {G : jG} {l : Launch} {d : Nat} {X : jX} {res : (Int32 × jH)} (K : jOK G l mX12_led (d + 3) X) (n : Nat) (E : jEnd G mX12_led (jPW res) X) (a0 : Nat) (x1 : Int32) (x2 : Int32) (h : jH) (hf : F_X12_led n a0 x1 x2 h = some res) : jJ G X h 0 0 0 [some (.ref a0), some (.int x1), some (.int x2), none, none, none] [] := by
  unfold F_X12_led at hf
  refine jr_aload_n K (D_at DX12_led 0 rfl) rfl rfl ?_
  refine jr_iconst K (D_at DX12_led 1 rfl) (v := (0 : Int32)) (by decide) ?_
  obtain ⟨h2, e2, hf⟩ := jbind hf
  refine jr_putI K (D_at DX12_led 2 rfl) fp_X12_3_10 (Or.inl rfl) e2 ?_
  refine jr_aload_n K (D_at DX12_led 3 rfl) rfl rfl ?_
  refine jr_aload_n K (D_at DX12_led 4 rfl) rfl rfl ?_
  refine jr_iload_n K (D_at DX12_led 5 rfl) rfl rfl ?_
  obtain ⟨v8, e8, hf⟩ := jbind hf
  obtain ⟨rc_8, e8⟩ := jcv_o e8
  refine jr_callV K (C_X12_noRing (d) e8) (D_at DX12_led 6 rfl) cv_X12_277_X12_noRing (As := [.int x1]) (ci := 10) rfl rc_8 rfl rfl (by exact Nat.le_of_ble_eq_true rfl) (kc2 := 0) (ks2 := 0) rfl rfl (fun k9 h9 w9 => by cases w9.1) (fun r9 h9 w9 => ?_)
  obtain ⟨w1, w2⟩ := w9
  subst h9
  cases w1
  show jJ G X _ 0 0 _ _ (.int v8 :: _)
  refine jr_iconst K (D_at DX12_led 7 rfl) (v := (1 : Int32)) (by decide) ?_
  obtain ⟨q12, e12, hf⟩ := jbind hf
  obtain ⟨rc_12, e12⟩ := jcv_o e12
  refine jr_callV K (C_X12_throwsIf (d + 2) e12) (D_at DX12_led 8 rfl) cv_X12_250_X12_throwsIf (As := [.int v8, .int (1 : Int32)]) (ci := 10) rfl rc_12 rfl rfl (by exact Nat.le_of_ble_eq_true rfl) (kc2 := 0) (ks2 := 0) rfl rfl (fun k9 h9 w9 => by cases w9.1) (fun r9 h9 w9 => ?_)
  obtain ⟨w1, w2⟩ := w9
  subst h9
  cases w1
  show jJ G X _ 0 0 _ _ (.int q12.1 :: _)
  refine jr_if_eq K (D_at DX12_led 9 rfl) (tgt := 20) (by decide) (fun c15 => ?_) (fun c15 => ?_)
  · replace hf := (if_pos c15).symm.trans hf
    refine jr_iconst K (D_at DX12_led 12 rfl) (v := (0 : Int32)) (by decide) ?_
    refine jr_istore_n K (D_at DX12_led 13 rfl) (i := 3) rfl (by decide) (L2 := [_, _, _, _, _, _]) rfl ?_
    refine jr_iconst K (D_at DX12_led 14 rfl) (v := (-1 : Int32)) (by decide) ?_
    refine jr_istore K (D_at DX12_led 15 rfl) (i := 4) (by decide) (L2 := [_, _, _, _, _, _]) rfl ?_
    refine jr_aload_n K (D_at DX12_led 16 rfl) rfl rfl ?_
    obtain ⟨p26, e26, hf⟩ := jbind hf
    refine jr_getR K (D_at DX12_led 17 rfl) fg_X12_13_10 e26 ?_
    refine jr_bipush K (D_at DX12_led 18 rfl) (v := (9 : Int32)) (by decide) ?_
    obtain ⟨v31, e31, hf⟩ := jbind hf
    refine jr_iald K (D_at DX12_led 19 rfl) e31 ?_
    refine jr_iconst K (D_at DX12_led 20 rfl) (v := (1 : Int32)) (by decide) ?_
    refine jr_isub K (D_at DX12_led 21 rfl) ?_
    refine jr_istore K (D_at DX12_led 22 rfl) (i := 5) (by decide) (L2 := [_, _, _, _, _, _]) rfl ?_
    refine jr_keep [true, true, true, true, true, true] ?_
    exact J_X12_led_36 K n E n a0 x1 x2 (0 : Int32) (-1 : Int32) (v31 - (1 : Int32)) q12.2 hf
  · replace hf := (if_neg c15).symm.trans hf
    refine jr_iconst K (D_at DX12_led 10 rfl) (v := (0 : Int32)) (by decide) ?_
    cases hf
    exact jr_iret K E (D_at DX12_led 11 rfl) rfl ⟨rfl, rfl⟩
theorem C_X12_led {G : jG} {l : Launch} (d : Nat) {n : Nat} {a0 : Nat} {x1 : Int32} {x2 : Int32} {h : jH} {res : (Int32 × jH)} (hf : F_X12_led n a0 x1 x2 h = some res) : jC G l mX12_led (d + 3) 0 0 [.ref a0, .int x1, .int x2] h (jPW res) :=
  jC.of (by decide +kernel) (jcats rfl) (Nat.le_of_ble_eq_true rfl) (fun X K E => J_X12_led K n E a0 x1 x2 h hf)
set_option maxHeartbeats 400000 in
set_option maxRecDepth 100000 in
theorem J_X12_log_20 {G : jG} {l : Launch} {d : Nat} {X : jX} {res : (Int32 × jH)} (K : jOK G l mX12_log (d + 1) X) (n : Nat) (E : jEnd G mX12_log (jPW res) X) (a0 : Nat) (x1 : Int32) (x2 : Int32) (sa0 : Nat) (s1 : Int32) (h : jH) (hf : F_X12_log_20 n a0 x1 x2 sa0 s1 h = some res) : jJ G X h 0 0 20 [some (.ref a0), some (.int x1), some (.int x2)] [.int s1, .ref sa0] := by
  unfold F_X12_log_20 at hf
  refine jr_iconst K (D_at DX12_log 12 rfl) (v := (1 : Int32)) (by decide) ?_
  obtain ⟨q21, e21, hf⟩ := jbind hf
  obtain ⟨rc_21, e21⟩ := jcv_o e21
  refine jr_callV K (C_X12_throwsIf (d) e21) (D_at DX12_log 13 rfl) cv_X12_250_X12_throwsIf (As := [.int s1, .int (1 : Int32)]) (ci := 10) rfl rc_21 rfl rfl (by exact Nat.le_of_ble_eq_true rfl) (kc2 := 0) (ks2 := 0) rfl rfl (fun k9 h9 w9 => by cases w9.1) (fun r9 h9 w9 => ?_)
  obtain ⟨w1, w2⟩ := w9
  subst h9
  cases w1
  show jJ G X _ 0 0 _ _ (.int q21.1 :: _)
  refine jr_if_eq K (D_at DX12_log 14 rfl) (tgt := 29) (by decide) (fun c24 => ?_) (fun c24 => ?_)
  · replace hf := (if_pos c24).symm.trans hf
    refine jr_iload_n K (D_at DX12_log 17 rfl) rfl rfl ?_
    refine jr_iconst K (D_at DX12_log 18 rfl) (v := (0 : Int32)) (by decide) ?_
    refine jr_aload_n K (D_at DX12_log 19 rfl) rfl rfl ?_
    obtain ⟨p32, e32, hf⟩ := jbind hf
    refine jr_getR K (D_at DX12_log 20 rfl) fg_X12_13_10 e32 ?_
    refine jr_bipush K (D_at DX12_log 21 rfl) (v := (9 : Int32)) (by decide) ?_
    obtain ⟨v37, e37, hf⟩ := jbind hf
    refine jr_iald K (D_at DX12_log 22 rfl) e37 ?_
    refine jr_iconst K (D_at DX12_log 23 rfl) (v := (1 : Int32)) (by decide) ?_
    refine jr_isub K (D_at DX12_log 24 rfl) ?_
    obtain ⟨v40, e40, hf⟩ := jbind hf
    refine jr_callS K (C_X12_in (d) e40) (D_at DX12_log 25 rfl) cs_X12_77_X12_in (As := [.int x1, .int (0 : Int32), .int (v37 - (1 : Int32))]) rfl rfl (by exact Nat.le_of_ble_eq_true rfl) (kc2 := 0) (ks2 := 0) rfl rfl (fun k9 h9 w9 => by cases w9.1) (fun r9 h9 w9 => ?_)
    obtain ⟨w1, w2⟩ := w9
    subst h9
    cases w1
    show jJ G X _ 0 0 _ _ (.int v40 :: _)
    refine jr_if_eq K (D_at DX12_log 26 rfl) (tgt := 55) (by decide) (fun c43 => ?_) (fun c43 => ?_)
    · replace hf := (if_pos c43).symm.trans hf
      refine jr_iconst K (D_at DX12_log 32 rfl) (v := (-1 : Int32)) (by decide) ?_
      cases hf
      exact jr_iret K E (D_at DX12_log 33 rfl) rfl ⟨rfl, rfl⟩
    · replace hf := (if_neg c43).symm.trans hf
      refine jr_aload_n K (D_at DX12_log 27 rfl) rfl rfl ?_
      refine jr_iload_n K (D_at DX12_log 28 rfl) rfl rfl ?_
      refine jr_iload_n K (D_at DX12_log 29 rfl) rfl rfl ?_
      obtain ⟨v49, e49, hf⟩ := jbind hf
      obtain ⟨rc_49, e49⟩ := jcv_o e49
      refine jr_callV K (C_X12_ofLog (d) e49) (D_at DX12_log 30 rfl) cv_X12_416_X12_ofLog (As := [.int x1, .int x2]) (ci := 10) rfl rc_49 rfl rfl (by exact Nat.le_of_ble_eq_true rfl) (kc2 := 0) (ks2 := 0) rfl rfl (fun k9 h9 w9 => by cases w9.1) (fun r9 h9 w9 => ?_)
      obtain ⟨w1, w2⟩ := w9
      subst h9
      cases w1
      show jJ G X _ 0 0 _ _ (.int v49 :: _)
      refine jr_goto K (D_at DX12_log 31 rfl) (tgt := 56) (by decide) ?_
      cases hf
      exact jr_iret K E (D_at DX12_log 33 rfl) rfl ⟨rfl, rfl⟩
  · replace hf := (if_neg c24).symm.trans hf
    refine jr_iconst K (D_at DX12_log 15 rfl) (v := (0 : Int32)) (by decide) ?_
    cases hf
    exact jr_iret K E (D_at DX12_log 16 rfl) rfl ⟨rfl, rfl⟩
set_option maxHeartbeats 400000 in
set_option maxRecDepth 100000 in
theorem J_X12_log {G : jG} {l : Launch} {d : Nat} {X : jX} {res : (Int32 × jH)} (K : jOK G l mX12_log (d + 1) X) (n : Nat) (E : jEnd G mX12_log (jPW res) X) (a0 : Nat) (x1 : Int32) (x2 : Int32) (h : jH) (hf : F_X12_log n a0 x1 x2 h = some res) : jJ G X h 0 0 0 [some (.ref a0), some (.int x1), some (.int x2)] [] := by
  unfold F_X12_log at hf
  refine jr_aload_n K (D_at DX12_log 0 rfl) rfl rfl ?_
  refine jr_iconst K (D_at DX12_log 1 rfl) (v := (0 : Int32)) (by decide) ?_
  obtain ⟨h2, e2, hf⟩ := jbind hf
  refine jr_putI K (D_at DX12_log 2 rfl) fp_X12_3_10 (Or.inl rfl) e2 ?_
  refine jr_aload_n K (D_at DX12_log 3 rfl) rfl rfl ?_
  refine jr_iload_n K (D_at DX12_log 4 rfl) rfl rfl ?_
  refine jr_iconst K (D_at DX12_log 5 rfl) (v := (0 : Int32)) (by decide) ?_
  refine jr_iconst K (D_at DX12_log 6 rfl) (v := (5 : Int32)) (by decide) ?_
  obtain ⟨v9, e9, hf⟩ := jbind hf
  refine jr_callS K (C_X12_in (d) e9) (D_at DX12_log 7 rfl) cs_X12_77_X12_in (As := [.int x2, .int (0 : Int32), .int (5 : Int32)]) rfl rfl (by exact Nat.le_of_ble_eq_true rfl) (kc2 := 0) (ks2 := 0) rfl rfl (fun k9 h9 w9 => by cases w9.1) (fun r9 h9 w9 => ?_)
  obtain ⟨w1, w2⟩ := w9
  subst h9
  cases w1
  show jJ G X _ 0 0 _ _ (.int v9 :: _)
  refine jr_if_ne K (D_at DX12_log 8 rfl) (tgt := 19) (by decide) (fun c12 => ?_) (fun c12 => ?_)
  · replace hf := (if_neg c12).symm.trans hf
    refine jr_iconst K (D_at DX12_log 11 rfl) (v := (0 : Int32)) (by decide) ?_
    refine jr_keep [true, true, true] ?_
    exact J_X12_log_20 K n E a0 x1 x2 a0 (0 : Int32) h2 hf
  · replace hf := (if_pos c12).symm.trans hf
    refine jr_iconst K (D_at DX12_log 9 rfl) (v := (1 : Int32)) (by decide) ?_
    refine jr_goto K (D_at DX12_log 10 rfl) (tgt := 20) (by decide) ?_
    refine jr_keep [true, true, true] ?_
    exact J_X12_log_20 K n E a0 x1 x2 a0 (1 : Int32) h2 hf
theorem C_X12_log {G : jG} {l : Launch} (d : Nat) {n : Nat} {a0 : Nat} {x1 : Int32} {x2 : Int32} {h : jH} {res : (Int32 × jH)} (hf : F_X12_log n a0 x1 x2 h = some res) : jC G l mX12_log (d + 1) 0 0 [.ref a0, .int x1, .int x2] h (jPW res) :=
  jC.of (by decide +kernel) (jcats rfl) (Nat.le_of_ble_eq_true rfl) (fun X K E => J_X12_log K n E a0 x1 x2 h hf)
set_option maxHeartbeats 400000 in
set_option maxRecDepth 100000 in
theorem J_X12_seed {G : jG} {l : Launch} {d : Nat} {X : jX} {res : (Int32 × jH)} (K : jOK G l mX12_seed (d) X) (n : Nat) (E : jEnd G mX12_seed (jPW res) X) (a0 : Nat) (x1 : Int32) (h : jH) (hf : F_X12_seed n a0 x1 h = some res) : jJ G X h 0 0 0 [some (.ref a0), some (.int x1), none] [] := by
  unfold F_X12_seed at hf
  refine jr_aload_n K (D_at DX12_seed 0 rfl) rfl rfl ?_
  refine jr_iconst K (D_at DX12_seed 1 rfl) (v := (0 : Int32)) (by decide) ?_
  obtain ⟨h2, e2, hf⟩ := jbind hf
  refine jr_putI K (D_at DX12_seed 2 rfl) fp_X12_3_10 (Or.inl rfl) e2 ?_
  refine jr_aload_n K (D_at DX12_seed 3 rfl) rfl rfl ?_
  obtain ⟨p6, e6, hf⟩ := jbind hf
  refine jr_getR K (D_at DX12_seed 4 rfl) fg_X12_13_10 e6 ?_
  refine jr_bipush K (D_at DX12_seed 5 rfl) (v := (10 : Int32)) (by decide) ?_
  obtain ⟨v11, e11, hf⟩ := jbind hf
  refine jr_iald K (D_at DX12_seed 6 rfl) e11 ?_
  refine jr_istore_n K (D_at DX12_seed 7 rfl) (i := 2) rfl (by decide) (L2 := [_, _, _]) rfl ?_
  refine jr_aload_n K (D_at DX12_seed 8 rfl) rfl rfl ?_
  obtain ⟨p14, e14, hf⟩ := jbind hf
  refine jr_getR K (D_at DX12_seed 9 rfl) fg_X12_13_10 e14 ?_
  refine jr_bipush K (D_at DX12_seed 10 rfl) (v := (10 : Int32)) (by decide) ?_
  refine jr_iload_n K (D_at DX12_seed 11 rfl) rfl rfl ?_
  obtain ⟨h20, e20, hf⟩ := jbind hf
  refine jr_iast K (D_at DX12_seed 12 rfl) e20 ?_
  refine jr_iload_n K (D_at DX12_seed 13 rfl) rfl rfl ?_
  cases hf
  exact jr_iret K E (D_at DX12_seed 14 rfl) rfl ⟨rfl, rfl⟩
theorem C_X12_seed {G : jG} {l : Launch} (d : Nat) {n : Nat} {a0 : Nat} {x1 : Int32} {h : jH} {res : (Int32 × jH)} (hf : F_X12_seed n a0 x1 h = some res) : jC G l mX12_seed (d) 0 0 [.ref a0, .int x1] h (jPW res) :=
  jC.of (by decide +kernel) (jcats rfl) (Nat.le_of_ble_eq_true rfl) (fun X K E => J_X12_seed K n E a0 x1 h hf)
set_option maxHeartbeats 400000 in
set_option maxRecDepth 100000 in
theorem J_X12_count {G : jG} {l : Launch} {d : Nat} {X : jX} {res : (Int32 × jH)} (K : jOK G l mX12_count (d + 1) X) (n : Nat) (E : jEnd G mX12_count (jPW res) X) (a0 : Nat) (x1 : Int32) (h : jH) (hf : F_X12_count n a0 x1 h = some res) : jJ G X h 0 0 0 [some (.ref a0), some (.int x1)] [] := by
  unfold F_X12_count at hf
  refine jr_aload_n K (D_at DX12_count 0 rfl) rfl rfl ?_
  refine jr_iconst K (D_at DX12_count 1 rfl) (v := (0 : Int32)) (by decide) ?_
  obtain ⟨h2, e2, hf⟩ := jbind hf
  refine jr_putI K (D_at DX12_count 2 rfl) fp_X12_3_10 (Or.inl rfl) e2 ?_
  refine jr_iload_n K (D_at DX12_count 3 rfl) rfl rfl ?_
  by_cases c6_0 : x1 = (2 : Int32)
  · replace hf := (if_pos c6_0).symm.trans hf
    refine jr_lookup K (D_at DX12_count 4 rfl) (off := 34) (tgt := 40) (by decide) (by rw [c6_0]; decide) (by decide) ?_
    refine jr_aload_n K (D_at DX12_count 5 rfl) rfl rfl ?_
    obtain ⟨p41, e41, hf⟩ := jbind hf
    refine jr_getR K (D_at DX12_count 6 rfl) fg_X12_13_10 e41 ?_
    refine jr_iconst K (D_at DX12_count 7 rfl) (v := (2 : Int32)) (by decide) ?_
    obtain ⟨v45, e45, hf⟩ := jbind hf
    refine jr_iald K (D_at DX12_count 8 rfl) e45 ?_
    refine jr_iconst K (D_at DX12_count 9 rfl) (v := (1 : Int32)) (by decide) ?_
    refine jr_icmp_ne K (D_at DX12_count 10 rfl) (tgt := 61) (by decide) (fun c47 => ?_) (fun c47 => ?_)
    · replace hf := (if_neg c47).symm.trans hf
      refine jr_iconst K (D_at DX12_count 16 rfl) (v := (-1 : Int32)) (by decide) ?_
      cases hf
      exact jr_iret K E (D_at DX12_count 17 rfl) rfl ⟨rfl, rfl⟩
    · replace hf := (if_pos c47).symm.trans hf
      refine jr_aload_n K (D_at DX12_count 11 rfl) rfl rfl ?_
      obtain ⟨p51, e51, hf⟩ := jbind hf
      refine jr_getR K (D_at DX12_count 12 rfl) fg_X12_13_10 e51 ?_
      refine jr_sipush K (D_at DX12_count 13 rfl) (v := (435 : Int32)) (by decide) ?_
      obtain ⟨v57, e57, hf⟩ := jbind hf
      refine jr_iald K (D_at DX12_count 14 rfl) e57 ?_
      refine jr_goto K (D_at DX12_count 15 rfl) (tgt := 62) (by decide) ?_
      cases hf
      exact jr_iret K E (D_at DX12_count 17 rfl) rfl ⟨rfl, rfl⟩
  replace hf := (if_neg c6_0).symm.trans hf
  by_cases c6_1 : x1 = (9 : Int32)
  · replace hf := (if_pos c6_1).symm.trans hf
    refine jr_lookup K (D_at DX12_count 4 rfl) (off := 57) (tgt := 63) (by decide) (by rw [c6_1]; decide) (by decide) ?_
    refine jr_aload_n K (D_at DX12_count 18 rfl) rfl rfl ?_
    obtain ⟨p64, e64, hf⟩ := jbind hf
    refine jr_getR K (D_at DX12_count 19 rfl) fg_X12_13_10 e64 ?_
    refine jr_bipush K (D_at DX12_count 20 rfl) (v := (9 : Int32)) (by decide) ?_
    obtain ⟨v69, e69, hf⟩ := jbind hf
    refine jr_iald K (D_at DX12_count 21 rfl) e69 ?_
    cases hf
    exact jr_iret K E (D_at DX12_count 22 rfl) rfl ⟨rfl, rfl⟩
  replace hf := (if_neg c6_1).symm.trans hf
  by_cases c6_2 : x1 = (10 : Int32)
  · replace hf := (if_pos c6_2).symm.trans hf
    refine jr_lookup K (D_at DX12_count 4 rfl) (off := 65) (tgt := 71) (by decide) (by rw [c6_2]; decide) (by decide) ?_
    refine jr_aload_n K (D_at DX12_count 23 rfl) rfl rfl ?_
    obtain ⟨v72, e72, hf⟩ := jbind hf
    refine jr_getI K (D_at DX12_count 24 rfl) fg_X12_56_10 e72 ?_
    cases hf
    exact jr_iret K E (D_at DX12_count 25 rfl) rfl ⟨rfl, rfl⟩
  replace hf := (if_neg c6_2).symm.trans hf
  refine jr_lookup K (D_at DX12_count 4 rfl) (off := 70) (tgt := 76) (by decide) (by show Op.lookupswitch.offset [(2, 34), (9, 57), (10, 65)] 70 _ = _; rw [lv_osw c6_0 (a := 2) (by decide), lv_osw c6_1 (a := 9) (by decide), lv_osw c6_2 (a := 10) (by decide)]; rfl) (by decide) ?_
  refine jr_iload_n K (D_at DX12_count 26 rfl) rfl rfl ?_
  refine jr_iconst K (D_at DX12_count 27 rfl) (v := (0 : Int32)) (by decide) ?_
  refine jr_bipush K (D_at DX12_count 28 rfl) (v := (8 : Int32)) (by decide) ?_
  obtain ⟨v80, e80, hf⟩ := jbind hf
  refine jr_callS K (C_X12_in (d) e80) (D_at DX12_count 29 rfl) cs_X12_77_X12_in (As := [.int x1, .int (0 : Int32), .int (8 : Int32)]) rfl rfl (by exact Nat.le_of_ble_eq_true rfl) (kc2 := 0) (ks2 := 0) rfl rfl (fun k9 h9 w9 => by cases w9.1) (fun r9 h9 w9 => ?_)
  obtain ⟨w1, w2⟩ := w9
  subst h9
  cases w1
  show jJ G X _ 0 0 _ _ (.int v80 :: _)
  refine jr_if_eq K (D_at DX12_count 30 rfl) (tgt := 95) (by decide) (fun c83 => ?_) (fun c83 => ?_)
  · replace hf := (if_pos c83).symm.trans hf
    refine jr_iconst K (D_at DX12_count 36 rfl) (v := (-1 : Int32)) (by decide) ?_
    cases hf
    exact jr_iret K E (D_at DX12_count 37 rfl) rfl ⟨rfl, rfl⟩
  · replace hf := (if_neg c83).symm.trans hf
    refine jr_aload_n K (D_at DX12_count 31 rfl) rfl rfl ?_
    obtain ⟨p87, e87, hf⟩ := jbind hf
    refine jr_getR K (D_at DX12_count 32 rfl) fg_X12_13_10 e87 ?_
    refine jr_iload_n K (D_at DX12_count 33 rfl) rfl rfl ?_
    obtain ⟨v91, e91, hf⟩ := jbind hf
    refine jr_iald K (D_at DX12_count 34 rfl) e91 ?_
    refine jr_goto K (D_at DX12_count 35 rfl) (tgt := 96) (by decide) ?_
    cases hf
    exact jr_iret K E (D_at DX12_count 37 rfl) rfl ⟨rfl, rfl⟩
theorem C_X12_count {G : jG} {l : Launch} (d : Nat) {n : Nat} {a0 : Nat} {x1 : Int32} {h : jH} {res : (Int32 × jH)} (hf : F_X12_count n a0 x1 h = some res) : jC G l mX12_count (d + 1) 0 0 [.ref a0, .int x1] h (jPW res) :=
  jC.of (by decide +kernel) (jcats rfl) (Nat.le_of_ble_eq_true rfl) (fun X K E => J_X12_count K n E a0 x1 h hf)
end
