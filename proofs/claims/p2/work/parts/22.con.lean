set_option maxHeartbeats 4000000 in
set_option maxRecDepth 100000 in
theorem J_X8_goTogether {G : jG} {l : Launch} {d : Nat} {X : jX} {res : Int32} (K : jOK G l mX8_goTogether (d) X) (n : Nat) (h : jH) (E : jEnd G mX8_goTogether (jPR h res) X) (a0 : Nat) (x1 : Int32) (x2 : Int32) (hf : F_X8_goTogether n a0 x1 x2 h = some res) : jJ G X h 0 0 0 [some (.ref a0), some (.int x1), some (.int x2), none] [] := by
  unfold F_X8_goTogether at hf
  refine jr_aload_n K (D_at DX8_goTogether 0 rfl) rfl rfl ?_
  obtain ⟨p1, e1, hf⟩ := jbind hf
  refine jr_getR K (D_at DX8_goTogether 1 rfl) fg_X8_9_6 e1 ?_
  refine jr_iload_n K (D_at DX8_goTogether 2 rfl) rfl rfl ?_
  refine jr_iconst K (D_at DX8_goTogether 3 rfl) (v := (1 : Int32)) (by decide) ?_
  refine jr_iadd K (D_at DX8_goTogether 4 rfl) ?_
  obtain ⟨v7, e7, hf⟩ := jbind hf
  refine jr_iald K (D_at DX8_goTogether 5 rfl) e7 ?_
  refine jr_aload_n K (D_at DX8_goTogether 6 rfl) rfl rfl ?_
  obtain ⟨p9, e9, hf⟩ := jbind hf
  refine jr_getR K (D_at DX8_goTogether 7 rfl) fg_X8_9_6 e9 ?_
  refine jr_iload_n K (D_at DX8_goTogether 8 rfl) rfl rfl ?_
  obtain ⟨v13, e13, hf⟩ := jbind hf
  refine jr_iald K (D_at DX8_goTogether 9 rfl) e13 ?_
  refine jr_isub K (D_at DX8_goTogether 10 rfl) ?_
  refine jr_istore_n K (D_at DX8_goTogether 11 rfl) (i := 3) rfl (by decide) (L2 := [_, _, _, _]) rfl ?_
  refine jr_aload_n K (D_at DX8_goTogether 12 rfl) rfl rfl ?_
  obtain ⟨v17, e17, hf⟩ := jbind hf
  refine jr_getI K (D_at DX8_goTogether 13 rfl) fg_X8_82_6 e17 ?_
  refine jr_iload_n K (D_at DX8_goTogether 14 rfl) rfl rfl ?_
  refine jr_iushr K (D_at DX8_goTogether 15 rfl) (v := jushr v17 x1) rfl ?_
  refine jr_iconst K (D_at DX8_goTogether 16 rfl) (v := (1 : Int32)) (by decide) ?_
  refine jr_iand K (D_at DX8_goTogether 17 rfl) ?_
  refine jr_iconst K (D_at DX8_goTogether 18 rfl) (v := (1 : Int32)) (by decide) ?_
  refine jr_icmp_eq K (D_at DX8_goTogether 19 rfl) (tgt := 52) (by decide) (fun c25 => ?_) (fun c25 => ?_)
  · replace hf := (if_pos c25).symm.trans hf
    refine jr_iconst K (D_at DX8_goTogether 34 rfl) (v := (1 : Int32)) (by decide) ?_
    refine jr_goto K (D_at DX8_goTogether 35 rfl) (tgt := 57) (by decide) ?_
    cases hf
    exact jr_zret K E (D_at DX8_goTogether 37 rfl) rfl (Or.inr rfl) ⟨rfl, rfl⟩
  · replace hf := (if_neg c25).symm.trans hf
    refine jr_iload_n K (D_at DX8_goTogether 20 rfl) rfl rfl ?_
    refine jr_if_eq K (D_at DX8_goTogether 21 rfl) (tgt := 40) (by decide) (fun c29 => ?_) (fun c29 => ?_)
    · replace hf := (if_pos c29).symm.trans hf
      refine jr_iload_n K (D_at DX8_goTogether 26 rfl) rfl rfl ?_
      refine jr_iconst K (D_at DX8_goTogether 27 rfl) (v := (1 : Int32)) (by decide) ?_
      refine jr_iadd K (D_at DX8_goTogether 28 rfl) ?_
      refine jr_aload_n K (D_at DX8_goTogether 29 rfl) rfl rfl ?_
      obtain ⟨p44, e44, hf⟩ := jbind hf
      refine jr_getR K (D_at DX8_goTogether 30 rfl) fg_X8_15_6 e44 ?_
      refine jr_iload_n K (D_at DX8_goTogether 31 rfl) rfl rfl ?_
      obtain ⟨v48, e48, hf⟩ := jbind hf
      refine jr_iald K (D_at DX8_goTogether 32 rfl) e48 ?_
      refine jr_icmp_le K (D_at DX8_goTogether 33 rfl) (tgt := 56) (by decide) (fun c49 => ?_) (fun c49 => ?_)
      · replace hf := (if_pos c49).symm.trans hf
        refine jr_iconst K (D_at DX8_goTogether 36 rfl) (v := (0 : Int32)) (by decide) ?_
        cases hf
        exact jr_zret K E (D_at DX8_goTogether 37 rfl) rfl (Or.inl rfl) ⟨rfl, rfl⟩
      · replace hf := (if_neg c49).symm.trans hf
        refine jr_iconst K (D_at DX8_goTogether 34 rfl) (v := (1 : Int32)) (by decide) ?_
        refine jr_goto K (D_at DX8_goTogether 35 rfl) (tgt := 57) (by decide) ?_
        cases hf
        exact jr_zret K E (D_at DX8_goTogether 37 rfl) rfl (Or.inr rfl) ⟨rfl, rfl⟩
    · replace hf := (if_neg c29).symm.trans hf
      refine jr_iload_n K (D_at DX8_goTogether 22 rfl) rfl rfl ?_
      refine jr_iconst K (D_at DX8_goTogether 23 rfl) (v := (1 : Int32)) (by decide) ?_
      refine jr_icmp_ne K (D_at DX8_goTogether 24 rfl) (tgt := 56) (by decide) (fun c34 => ?_) (fun c34 => ?_)
      · replace hf := (if_neg c34).symm.trans hf
        refine jr_iconst K (D_at DX8_goTogether 36 rfl) (v := (0 : Int32)) (by decide) ?_
        cases hf
        exact jr_zret K E (D_at DX8_goTogether 37 rfl) rfl (Or.inl rfl) ⟨rfl, rfl⟩
      · replace hf := (if_pos c34).symm.trans hf
        refine jr_goto K (D_at DX8_goTogether 25 rfl) (tgt := 52) (by decide) ?_
        refine jr_iconst K (D_at DX8_goTogether 34 rfl) (v := (1 : Int32)) (by decide) ?_
        refine jr_goto K (D_at DX8_goTogether 35 rfl) (tgt := 57) (by decide) ?_
        cases hf
        exact jr_zret K E (D_at DX8_goTogether 37 rfl) rfl (Or.inr rfl) ⟨rfl, rfl⟩
theorem C_X8_goTogether {G : jG} {l : Launch} (d : Nat) {n : Nat} {a0 : Nat} {x1 : Int32} {x2 : Int32} {h : jH} {res : Int32} (hf : F_X8_goTogether n a0 x1 x2 h = some res) : jC G l mX8_goTogether (d) 0 0 [.ref a0, .int x1, .int x2] h (jPR h res) :=
  jC.of (by decide +kernel) (jcats rfl) (Nat.le_of_ble_eq_true rfl) (fun X K E => J_X8_goTogether K n h E a0 x1 x2 hf)
set_option maxHeartbeats 4000000 in
set_option maxRecDepth 100000 in
theorem J_X8_isStopped_16 {G : jG} {l : Launch} {d : Nat} {X : jX} {res : Int32} (K : jOK G l mX8_isStopped (d) X) (n : Nat) (h : jH) (E : jEnd G mX8_isStopped (jPR h res) X) (a0 : Nat) (x1 : Int32) (x2 : Int32) (s0 : Int32) (s1 : Int32) (hf : F_X8_isStopped_16 n a0 x1 x2 s0 s1 h = some res) : jJ G X h 0 0 16 [some (.ref a0), some (.int x1), some (.int x2)] [.int s1, .int s0] := by
  unfold F_X8_isStopped_16 at hf
  refine jr_icmp_ne K (D_at DX8_isStopped 9 rfl) (tgt := 21) (by decide) (fun c16 => ?_) (fun c16 => ?_)
  · replace hf := (if_neg c16).symm.trans hf
    refine jr_aload_n K (D_at DX8_isStopped 12 rfl) rfl rfl ?_
    obtain ⟨v22, e22, hf⟩ := jbind hf
    refine jr_getI K (D_at DX8_isStopped 13 rfl) fg_X8_54_6 e22 ?_
    refine jr_iload_n K (D_at DX8_isStopped 14 rfl) rfl rfl ?_
    refine jr_iushr K (D_at DX8_isStopped 15 rfl) (v := jushr v22 x1) rfl ?_
    refine jr_iconst K (D_at DX8_isStopped 16 rfl) (v := (1 : Int32)) (by decide) ?_
    refine jr_iand K (D_at DX8_isStopped 17 rfl) ?_
    refine jr_iconst K (D_at DX8_isStopped 18 rfl) (v := (1 : Int32)) (by decide) ?_
    refine jr_icmp_ne K (D_at DX8_isStopped 19 rfl) (tgt := 63) (by decide) (fun c30 => ?_) (fun c30 => ?_)
    · replace hf := (if_neg c30).symm.trans hf
      refine jr_iconst K (D_at DX8_isStopped 36 rfl) (v := (0 : Int32)) (by decide) ?_
      cases hf
      exact jr_zret K E (D_at DX8_isStopped 37 rfl) rfl (Or.inl rfl) ⟨rfl, rfl⟩
    · replace hf := (if_pos c30).symm.trans hf
      refine jr_aload_n K (D_at DX8_isStopped 20 rfl) rfl rfl ?_
      obtain ⟨p34, e34, hf⟩ := jbind hf
      refine jr_getR K (D_at DX8_isStopped 21 rfl) fg_X8_9_6 e34 ?_
      refine jr_iload_n K (D_at DX8_isStopped 22 rfl) rfl rfl ?_
      obtain ⟨v38, e38, hf⟩ := jbind hf
      refine jr_iald K (D_at DX8_isStopped 23 rfl) e38 ?_
      refine jr_iload_n K (D_at DX8_isStopped 24 rfl) rfl rfl ?_
      refine jr_if_eq K (D_at DX8_isStopped 25 rfl) (tgt := 52) (by decide) (fun c40 => ?_) (fun c40 => ?_)
      · replace hf := (if_pos c40).symm.trans hf
        refine jr_aload_n K (D_at DX8_isStopped 31 rfl) rfl rfl ?_
        obtain ⟨v53, e53, hf⟩ := jbind hf
        refine jr_getI K (D_at DX8_isStopped 32 rfl) fg_X8_31_6 e53 ?_
        refine jr_icmp_ne K (D_at DX8_isStopped 33 rfl) (tgt := 63) (by decide) (fun c56 => ?_) (fun c56 => ?_)
        · replace hf := (if_neg c56).symm.trans hf
          refine jr_iconst K (D_at DX8_isStopped 36 rfl) (v := (0 : Int32)) (by decide) ?_
          cases hf
          exact jr_zret K E (D_at DX8_isStopped 37 rfl) rfl (Or.inl rfl) ⟨rfl, rfl⟩
        · replace hf := (if_pos c56).symm.trans hf
          refine jr_iconst K (D_at DX8_isStopped 34 rfl) (v := (1 : Int32)) (by decide) ?_
          refine jr_goto K (D_at DX8_isStopped 35 rfl) (tgt := 64) (by decide) ?_
          cases hf
          exact jr_zret K E (D_at DX8_isStopped 37 rfl) rfl (Or.inr rfl) ⟨rfl, rfl⟩
      · replace hf := (if_neg c40).symm.trans hf
        refine jr_aload_n K (D_at DX8_isStopped 26 rfl) rfl rfl ?_
        obtain ⟨v44, e44, hf⟩ := jbind hf
        refine jr_getI K (D_at DX8_isStopped 27 rfl) fg_X8_31_6 e44 ?_
        refine jr_iconst K (D_at DX8_isStopped 28 rfl) (v := (1 : Int32)) (by decide) ?_
        refine jr_isub K (D_at DX8_isStopped 29 rfl) ?_
        refine jr_goto K (D_at DX8_isStopped 30 rfl) (tgt := 56) (by decide) ?_
        refine jr_icmp_ne K (D_at DX8_isStopped 33 rfl) (tgt := 63) (by decide) (fun c56 => ?_) (fun c56 => ?_)
        · replace hf := (if_neg c56).symm.trans hf
          refine jr_iconst K (D_at DX8_isStopped 36 rfl) (v := (0 : Int32)) (by decide) ?_
          cases hf
          exact jr_zret K E (D_at DX8_isStopped 37 rfl) rfl (Or.inl rfl) ⟨rfl, rfl⟩
        · replace hf := (if_pos c56).symm.trans hf
          refine jr_iconst K (D_at DX8_isStopped 34 rfl) (v := (1 : Int32)) (by decide) ?_
          refine jr_goto K (D_at DX8_isStopped 35 rfl) (tgt := 64) (by decide) ?_
          cases hf
          exact jr_zret K E (D_at DX8_isStopped 37 rfl) rfl (Or.inr rfl) ⟨rfl, rfl⟩
  · replace hf := (if_pos c16).symm.trans hf
    refine jr_iconst K (D_at DX8_isStopped 10 rfl) (v := (1 : Int32)) (by decide) ?_
    cases hf
    exact jr_zret K E (D_at DX8_isStopped 11 rfl) rfl (Or.inr rfl) ⟨rfl, rfl⟩
set_option maxHeartbeats 4000000 in
set_option maxRecDepth 100000 in
theorem J_X8_isStopped {G : jG} {l : Launch} {d : Nat} {X : jX} {res : Int32} (K : jOK G l mX8_isStopped (d) X) (n : Nat) (h : jH) (E : jEnd G mX8_isStopped (jPR h res) X) (a0 : Nat) (x1 : Int32) (x2 : Int32) (hf : F_X8_isStopped n a0 x1 x2 h = some res) : jJ G X h 0 0 0 [some (.ref a0), some (.int x1), some (.int x2)] [] := by
  unfold F_X8_isStopped at hf
  refine jr_aload_n K (D_at DX8_isStopped 0 rfl) rfl rfl ?_
  obtain ⟨p1, e1, hf⟩ := jbind hf
  refine jr_getR K (D_at DX8_isStopped 1 rfl) fg_X8_9_6 e1 ?_
  refine jr_iload_n K (D_at DX8_isStopped 2 rfl) rfl rfl ?_
  obtain ⟨v5, e5, hf⟩ := jbind hf
  refine jr_iald K (D_at DX8_isStopped 3 rfl) e5 ?_
  refine jr_iload_n K (D_at DX8_isStopped 4 rfl) rfl rfl ?_
  refine jr_if_eq K (D_at DX8_isStopped 5 rfl) (tgt := 15) (by decide) (fun c7 => ?_) (fun c7 => ?_)
  · replace hf := (if_pos c7).symm.trans hf
    refine jr_iconst K (D_at DX8_isStopped 8 rfl) (v := (0 : Int32)) (by decide) ?_
    refine jr_keep [true, true, true] ?_
    exact J_X8_isStopped_16 K n h E a0 x1 x2 v5 (0 : Int32) hf
  · replace hf := (if_neg c7).symm.trans hf
    refine jr_bipush K (D_at DX8_isStopped 6 rfl) (v := (31 : Int32)) (by decide) ?_
    refine jr_goto K (D_at DX8_isStopped 7 rfl) (tgt := 16) (by decide) ?_
    refine jr_keep [true, true, true] ?_
    exact J_X8_isStopped_16 K n h E a0 x1 x2 v5 (31 : Int32) hf
theorem C_X8_isStopped {G : jG} {l : Launch} (d : Nat) {n : Nat} {a0 : Nat} {x1 : Int32} {x2 : Int32} {h : jH} {res : Int32} (hf : F_X8_isStopped n a0 x1 x2 h = some res) : jC G l mX8_isStopped (d) 0 0 [.ref a0, .int x1, .int x2] h (jPR h res) :=
  jC.of (by decide +kernel) (jcats rfl) (Nat.le_of_ble_eq_true rfl) (fun X K E => J_X8_isStopped K n h E a0 x1 x2 hf)
set_option maxHeartbeats 4000000 in
set_option maxRecDepth 100000 in
theorem J_X8_goers_64_b {G : jG} {l : Launch} {d : Nat} {X : jX} {res : Int32} (K : jOK G l mX8_goers (d + 1) X) (n : Nat) (h : jH) (rc64 : Nat → Int32 → Int32 → Int32 → Int32 → jH → Option Int32) (hr64 : ∀ (a0 : Nat) (x2 : Int32) (x3 : Int32) (x4 : Int32) (x5 : Int32), rc64 a0 x2 x3 x4 x5 h = some res → jJ G X h 0 0 64 [some (.ref a0), none, some (.int x2), some (.int x3), some (.int x4), some (.int x5)] []) (E : jEnd G mX8_goers (jPR h res) X) (a0 : Nat) (x2 : Int32) (x3 : Int32) (x4 : Int32) (x5 : Int32) (hf : F_X8_goers_64_b n rc64 a0 x2 x3 x4 x5 h = some res) : jJ G X h 0 0 64 [some (.ref a0), none, some (.int x2), some (.int x3), some (.int x4), some (.int x5)] [] := by
  unfold F_X8_goers_64_b at hf
  refine jr_iload K (D_at DX8_goers 34 rfl) rfl ?_
  refine jr_iload K (D_at DX8_goers 35 rfl) rfl ?_
  refine jr_icmp_gt K (D_at DX8_goers 36 rfl) (tgt := 89) (by decide) (fun c68 => ?_) (fun c68 => ?_)
  · replace hf := (if_pos c68).symm.trans hf
    refine jr_iconst K (D_at DX8_goers 46 rfl) (v := (1 : Int32)) (by decide) ?_
    refine jr_iload K (D_at DX8_goers 47 rfl) rfl ?_
    refine jr_iconst K (D_at DX8_goers 48 rfl) (v := (1 : Int32)) (by decide) ?_
    refine jr_iadd K (D_at DX8_goers 49 rfl) ?_
    refine jr_ishl K (D_at DX8_goers 50 rfl) ?_
    refine jr_iconst K (D_at DX8_goers 51 rfl) (v := (1 : Int32)) (by decide) ?_
    refine jr_iload_n K (D_at DX8_goers 52 rfl) rfl rfl ?_
    refine jr_ishl K (D_at DX8_goers 53 rfl) ?_
    refine jr_isub K (D_at DX8_goers 54 rfl) ?_
    cases hf
    exact jr_iret K E (D_at DX8_goers 55 rfl) rfl ⟨rfl, rfl⟩
  · replace hf := (if_neg c68).symm.trans hf
    refine jr_aload_n K (D_at DX8_goers 37 rfl) rfl rfl ?_
    refine jr_iload K (D_at DX8_goers 38 rfl) rfl ?_
    refine jr_iload_n K (D_at DX8_goers 39 rfl) rfl rfl ?_
    obtain ⟨v75, e75, hf⟩ := jbind hf
    obtain ⟨rc_75, e75⟩ := jcv_o e75
    refine jr_callV K (C_X8_isStopped (d) e75) (D_at DX8_goers 40 rfl) cv_X8_112_X8_isStopped (As := [.int x5, .int x2]) (ci := 6) rfl rc_75 rfl rfl (by exact Nat.le_of_ble_eq_true rfl) (kc2 := 0) (ks2 := 0) rfl rfl (fun k9 h9 w9 => by cases w9.1) (fun r9 h9 w9 => ?_)
    obtain ⟨w1, w2⟩ := w9
    subst h9
    cases w1
    show jJ G X _ 0 0 _ _ (.int v75 :: _)
    refine jr_if_eq K (D_at DX8_goers 41 rfl) (tgt := 83) (by decide) (fun c78 => ?_) (fun c78 => ?_)
    · replace hf := (if_pos c78).symm.trans hf
      refine jr_iinc K (D_at DX8_goers 44 rfl) (i := 5) rfl (v := x5 + (1 : Int32)) (jinc (by decide)) (by decide) (L2 := [_, _, _, _, _, _]) rfl ?_
      refine jr_goto K (D_at DX8_goers 45 rfl) (tgt := 64) (by decide) ?_
      refine jr_keep [true, false, true, true, true, true] ?_
      exact hr64 a0 x2 x3 x4 (x5 + (1 : Int32)) hf
    · replace hf := (if_neg c78).symm.trans hf
      refine jr_iconst K (D_at DX8_goers 42 rfl) (v := (0 : Int32)) (by decide) ?_
      cases hf
      exact jr_iret K E (D_at DX8_goers 43 rfl) rfl ⟨rfl, rfl⟩
theorem J_X8_goers_64 {G : jG} {l : Launch} {d : Nat} {X : jX} {res : Int32} (K : jOK G l mX8_goers (d + 1) X) (n : Nat) (h : jH) (E : jEnd G mX8_goers (jPR h res) X) (k : Nat) : ∀ (a0 : Nat) (x2 : Int32) (x3 : Int32) (x4 : Int32) (x5 : Int32), F_X8_goers_64 n k a0 x2 x3 x4 x5 h = some res → jJ G X h 0 0 64 [some (.ref a0), none, some (.int x2), some (.int x3), some (.int x4), some (.int x5)] [] := by
  induction k with
  | zero =>
    intro a0 x2 x3 x4 x5 hf
    exact jno (show (none : Option Int32) = some res from hf)
  | succ k ih =>
    intro a0 x2 x3 x4 x5 hf
    exact J_X8_goers_64_b K n h (F_X8_goers_64 n k) ih E a0 x2 x3 x4 x5 hf
set_option maxHeartbeats 4000000 in
set_option maxRecDepth 100000 in
theorem J_X8_goers_49 {G : jG} {l : Launch} {d : Nat} {X : jX} {res : Int32} (K : jOK G l mX8_goers (d + 1) X) (n : Nat) (h : jH) (rc32 : Nat → Int32 → Int32 → Int32 → jH → Option Int32) (hr32 : ∀ (a0 : Nat) (x2 : Int32) (x3 : Int32) (x4 : Int32), rc32 a0 x2 x3 x4 h = some res → jJ G X h 0 0 32 [some (.ref a0), none, some (.int x2), some (.int x3), some (.int x4), none] []) (E : jEnd G mX8_goers (jPR h res) X) (a0 : Nat) (x2 : Int32) (x3 : Int32) (x4 : Int32) (sa0 : Nat) (s1 : Int32) (s2 : Int32) (hf : F_X8_goers_49 n rc32 a0 x2 x3 x4 sa0 s1 s2 h = some res) : jJ G X h 0 0 49 [some (.ref a0), none, some (.int x2), some (.int x3), some (.int x4), none] [.int s2, .int s1, .ref sa0] := by
  unfold F_X8_goers_49 at hf
  obtain ⟨v49, e49, hf⟩ := jbind hf
  obtain ⟨rc_49, e49⟩ := jcv_o e49
  refine jr_callV K (C_X8_goTogether (d) e49) (D_at DX8_goers 28 rfl) cv_X8_108_X8_goTogether (As := [.int s1, .int s2]) (ci := 6) rfl rc_49 rfl rfl (by exact Nat.le_of_ble_eq_true rfl) (kc2 := 0) (ks2 := 0) rfl rfl (fun k9 h9 w9 => by cases w9.1) (fun r9 h9 w9 => ?_)
  obtain ⟨w1, w2⟩ := w9
  subst h9
  cases w1
  show jJ G X _ 0 0 _ _ (.int v49 :: _)
  refine jr_if_eq K (D_at DX8_goers 29 rfl) (tgt := 61) (by decide) (fun c52 => ?_) (fun c52 => ?_)
  · replace hf := (if_pos c52).symm.trans hf
    refine jr_iload_n K (D_at DX8_goers 32 rfl) rfl rfl ?_
    refine jr_istore K (D_at DX8_goers 33 rfl) (i := 5) (by decide) (L2 := [_, _, _, _, _, _]) rfl ?_
    refine jr_keep [true, false, true, true, true, true] ?_
    exact J_X8_goers_64 K n h E n a0 x2 x3 x4 x3 hf
  · replace hf := (if_neg c52).symm.trans hf
    refine jr_iinc K (D_at DX8_goers 30 rfl) (i := 3) rfl (v := x3 + (-1 : Int32)) (jinc (by decide)) (by decide) (L2 := [_, _, _, _, _, _]) rfl ?_
    refine jr_goto K (D_at DX8_goers 31 rfl) (tgt := 32) (by decide) ?_
    refine jr_keep [true, false, true, true, true, false] ?_
    exact hr32 a0 x2 (x3 + (-1 : Int32)) x4 hf
set_option maxHeartbeats 4000000 in
set_option maxRecDepth 100000 in
theorem J_X8_goers_32_b {G : jG} {l : Launch} {d : Nat} {X : jX} {res : Int32} (K : jOK G l mX8_goers (d + 1) X) (n : Nat) (h : jH) (rc32 : Nat → Int32 → Int32 → Int32 → jH → Option Int32) (hr32 : ∀ (a0 : Nat) (x2 : Int32) (x3 : Int32) (x4 : Int32), rc32 a0 x2 x3 x4 h = some res → jJ G X h 0 0 32 [some (.ref a0), none, some (.int x2), some (.int x3), some (.int x4), none] []) (E : jEnd G mX8_goers (jPR h res) X) (a0 : Nat) (x2 : Int32) (x3 : Int32) (x4 : Int32) (hf : F_X8_goers_32_b n rc32 a0 x2 x3 x4 h = some res) : jJ G X h 0 0 32 [some (.ref a0), none, some (.int x2), some (.int x3), some (.int x4), none] [] := by
  unfold F_X8_goers_32_b at hf
  refine jr_iload_n K (D_at DX8_goers 17 rfl) rfl rfl ?_
  refine jr_if_le K (D_at DX8_goers 18 rfl) (tgt := 61) (by decide) (fun c33 => ?_) (fun c33 => ?_)
  · replace hf := (if_pos c33).symm.trans hf
    refine jr_iload_n K (D_at DX8_goers 32 rfl) rfl rfl ?_
    refine jr_istore K (D_at DX8_goers 33 rfl) (i := 5) (by decide) (L2 := [_, _, _, _, _, _]) rfl ?_
    refine jr_keep [true, false, true, true, true, true] ?_
    exact J_X8_goers_64 K n h E n a0 x2 x3 x4 x3 hf
  · replace hf := (if_neg c33).symm.trans hf
    refine jr_aload_n K (D_at DX8_goers 19 rfl) rfl rfl ?_
    refine jr_iload_n K (D_at DX8_goers 20 rfl) rfl rfl ?_
    refine jr_iconst K (D_at DX8_goers 21 rfl) (v := (1 : Int32)) (by decide) ?_
    refine jr_isub K (D_at DX8_goers 22 rfl) ?_
    refine jr_iload_n K (D_at DX8_goers 23 rfl) rfl rfl ?_
    refine jr_if_ne K (D_at DX8_goers 24 rfl) (tgt := 48) (by decide) (fun c41 => ?_) (fun c41 => ?_)
    · replace hf := (if_neg c41).symm.trans hf
      refine jr_iconst K (D_at DX8_goers 27 rfl) (v := (0 : Int32)) (by decide) ?_
      refine jr_keep [true, false, true, true, true, false] ?_
      exact J_X8_goers_49 K n h rc32 hr32 E a0 x2 x3 x4 a0 (x3 - (1 : Int32)) (0 : Int32) hf
    · replace hf := (if_pos c41).symm.trans hf
      refine jr_iconst K (D_at DX8_goers 25 rfl) (v := (1 : Int32)) (by decide) ?_
      refine jr_goto K (D_at DX8_goers 26 rfl) (tgt := 49) (by decide) ?_
      refine jr_keep [true, false, true, true, true, false] ?_
      exact J_X8_goers_49 K n h rc32 hr32 E a0 x2 x3 x4 a0 (x3 - (1 : Int32)) (1 : Int32) hf
theorem J_X8_goers_32 {G : jG} {l : Launch} {d : Nat} {X : jX} {res : Int32} (K : jOK G l mX8_goers (d + 1) X) (n : Nat) (h : jH) (E : jEnd G mX8_goers (jPR h res) X) (k : Nat) : ∀ (a0 : Nat) (x2 : Int32) (x3 : Int32) (x4 : Int32), F_X8_goers_32 n k a0 x2 x3 x4 h = some res → jJ G X h 0 0 32 [some (.ref a0), none, some (.int x2), some (.int x3), some (.int x4), none] [] := by
  induction k with
  | zero =>
    intro a0 x2 x3 x4 hf
    exact jno (show (none : Option Int32) = some res from hf)
  | succ k ih =>
    intro a0 x2 x3 x4 hf
    exact J_X8_goers_32_b K n h (F_X8_goers_32 n k) ih E a0 x2 x3 x4 hf
set_option maxHeartbeats 4000000 in
set_option maxRecDepth 100000 in
theorem J_X8_goers_5_b {G : jG} {l : Launch} {d : Nat} {X : jX} {res : Int32} (K : jOK G l mX8_goers (d + 1) X) (n : Nat) (h : jH) (rc5 : Nat → Int32 → Int32 → Int32 → jH → Option Int32) (hr5 : ∀ (a0 : Nat) (x2 : Int32) (x3 : Int32) (x4 : Int32), rc5 a0 x2 x3 x4 h = some res → jJ G X h 0 0 5 [some (.ref a0), none, some (.int x2), some (.int x3), some (.int x4), none] []) (E : jEnd G mX8_goers (jPR h res) X) (a0 : Nat) (x2 : Int32) (x3 : Int32) (x4 : Int32) (hf : F_X8_goers_5_b n rc5 a0 x2 x3 x4 h = some res) : jJ G X h 0 0 5 [some (.ref a0), none, some (.int x2), some (.int x3), some (.int x4), none] [] := by
  unfold F_X8_goers_5_b at hf
  refine jr_iload K (D_at DX8_goers 4 rfl) rfl ?_
  refine jr_iconst K (D_at DX8_goers 5 rfl) (v := (1 : Int32)) (by decide) ?_
  refine jr_iadd K (D_at DX8_goers 6 rfl) ?_
  refine jr_aload_n K (D_at DX8_goers 7 rfl) rfl rfl ?_
  obtain ⟨v10, e10, hf⟩ := jbind hf
  refine jr_getI K (D_at DX8_goers 8 rfl) fg_X8_51_6 e10 ?_
  refine jr_icmp_ge K (D_at DX8_goers 9 rfl) (tgt := 32) (by decide) (fun c13 => ?_) (fun c13 => ?_)
  · replace hf := (if_pos c13).symm.trans hf
    refine jr_keep [true, false, true, true, true, false] ?_
    exact J_X8_goers_32 K n h E n a0 x2 x3 x4 hf
  · replace hf := (if_neg c13).symm.trans hf
    refine jr_aload_n K (D_at DX8_goers 10 rfl) rfl rfl ?_
    refine jr_iload K (D_at DX8_goers 11 rfl) rfl ?_
    refine jr_iload_n K (D_at DX8_goers 12 rfl) rfl rfl ?_
    obtain ⟨v20, e20, hf⟩ := jbind hf
    obtain ⟨rc_20, e20⟩ := jcv_o e20
    refine jr_callV K (C_X8_goTogether (d) e20) (D_at DX8_goers 13 rfl) cv_X8_108_X8_goTogether (As := [.int x4, .int x2]) (ci := 6) rfl rc_20 rfl rfl (by exact Nat.le_of_ble_eq_true rfl) (kc2 := 0) (ks2 := 0) rfl rfl (fun k9 h9 w9 => by cases w9.1) (fun r9 h9 w9 => ?_)
    obtain ⟨w1, w2⟩ := w9
    subst h9
    cases w1
    show jJ G X _ 0 0 _ _ (.int v20 :: _)
    refine jr_if_eq K (D_at DX8_goers 14 rfl) (tgt := 32) (by decide) (fun c23 => ?_) (fun c23 => ?_)
    · replace hf := (if_pos c23).symm.trans hf
      refine jr_keep [true, false, true, true, true, false] ?_
      exact J_X8_goers_32 K n h E n a0 x2 x3 x4 hf
    · replace hf := (if_neg c23).symm.trans hf
      refine jr_iinc K (D_at DX8_goers 15 rfl) (i := 4) rfl (v := x4 + (1 : Int32)) (jinc (by decide)) (by decide) (L2 := [_, _, _, _, _, _]) rfl ?_
      refine jr_goto K (D_at DX8_goers 16 rfl) (tgt := 5) (by decide) ?_
      refine jr_keep [true, false, true, true, true, false] ?_
      exact hr5 a0 x2 x3 (x4 + (1 : Int32)) hf
theorem J_X8_goers_5 {G : jG} {l : Launch} {d : Nat} {X : jX} {res : Int32} (K : jOK G l mX8_goers (d + 1) X) (n : Nat) (h : jH) (E : jEnd G mX8_goers (jPR h res) X) (k : Nat) : ∀ (a0 : Nat) (x2 : Int32) (x3 : Int32) (x4 : Int32), F_X8_goers_5 n k a0 x2 x3 x4 h = some res → jJ G X h 0 0 5 [some (.ref a0), none, some (.int x2), some (.int x3), some (.int x4), none] [] := by
  induction k with
  | zero =>
    intro a0 x2 x3 x4 hf
    exact jno (show (none : Option Int32) = some res from hf)
  | succ k ih =>
    intro a0 x2 x3 x4 hf
    exact J_X8_goers_5_b K n h (F_X8_goers_5 n k) ih E a0 x2 x3 x4 hf
set_option maxHeartbeats 4000000 in
set_option maxRecDepth 100000 in
theorem J_X8_goers {G : jG} {l : Launch} {d : Nat} {X : jX} {res : Int32} (K : jOK G l mX8_goers (d + 1) X) (n : Nat) (h : jH) (E : jEnd G mX8_goers (jPR h res) X) (a0 : Nat) (x1 : Int32) (x2 : Int32) (hf : F_X8_goers n a0 x1 x2 h = some res) : jJ G X h 0 0 0 [some (.ref a0), some (.int x1), some (.int x2), none, none, none] [] := by
  unfold F_X8_goers at hf
  refine jr_iload_n K (D_at DX8_goers 0 rfl) rfl rfl ?_
  refine jr_istore_n K (D_at DX8_goers 1 rfl) (i := 3) rfl (by decide) (L2 := [_, _, _, _, _, _]) rfl ?_
  refine jr_iload_n K (D_at DX8_goers 2 rfl) rfl rfl ?_
  refine jr_istore K (D_at DX8_goers 3 rfl) (i := 4) (by decide) (L2 := [_, _, _, _, _, _]) rfl ?_
  refine jr_keep [true, false, true, true, true, false] ?_
  exact J_X8_goers_5 K n h E n a0 x2 x1 x1 hf
theorem C_X8_goers {G : jG} {l : Launch} (d : Nat) {n : Nat} {a0 : Nat} {x1 : Int32} {x2 : Int32} {h : jH} {res : Int32} (hf : F_X8_goers n a0 x1 x2 h = some res) : jC G l mX8_goers (d + 1) 0 0 [.ref a0, .int x1, .int x2] h (jPR h res) :=
  jC.of (by decide +kernel) (jcats rfl) (Nat.le_of_ble_eq_true rfl) (fun X K E => J_X8_goers K n h E a0 x1 x2 hf)
