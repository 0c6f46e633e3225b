section
set_option maxHeartbeats 400000 in
set_option maxRecDepth 100000 in
theorem J_X12_readSum_9_b {G : jG} {l : Launch} {d : Nat} {X : jX} {res : (Int32 × jH)} (K : jOK G l mX12_readSum (d + 9) X) (n : Nat) (rc9 : Nat → jH → Option (Int32 × jH)) (hr9 : ∀ (a0 : Nat) (h : jH), rc9 a0 h = some res → jJ G X h 0 0 9 [some (.ref a0)] []) (E : jEnd G mX12_readSum (jPW res) X) (a0 : Nat) (h : jH) (hf : F_X12_readSum_9_b n rc9 a0 h = some res) : jJ G X h 0 0 9 [some (.ref a0)] [] := by
  unfold F_X12_readSum_9_b at hf
  refine jr_aload_n K (D_at DX12_readSum_q0 5 rfl) rfl rfl ?_
  refine jr_bipush K (D_at DX12_readSum_q0 6 rfl) (v := (43 : Int32)) (by decide) ?_
  obtain ⟨q12, e12, hf⟩ := jbind hf
  obtain ⟨rc_12, e12⟩ := jcv_o e12
  refine jr_callV K (C_X12_sign (d + 6) e12) (D_at DX12_readSum_q0 7 rfl) cv_X12_195_X12_sign (As := [.int (43 : Int32)]) (ci := 10) rfl rc_12 rfl rfl (by exact Nat.le_of_ble_eq_true rfl) (kc2 := 0) (ks2 := 0) rfl rfl (fun k9 h9 w9 => by cases w9.1) (fun r9 h9 w9 => ?_)
  obtain ⟨w1, w2⟩ := w9
  subst h9
  cases w1
  show jJ G X _ 0 0 _ _ (.int q12.1 :: _)
  refine jr_if_eq K (D_at DX12_readSum_q0 8 rfl) (tgt := 37) (by decide) (fun c15 => ?_) (fun c15 => ?_)
  · replace hf := (if_pos c15).symm.trans hf
    refine jr_iconst K (D_at DX12_readSum_q1 7 rfl) (v := (1 : Int32)) (by decide) ?_
    cases hf
    exact jr_zret K E (D_at DX12_readSum_q1 8 rfl) rfl (Or.inr rfl) ⟨rfl, rfl⟩
  · replace hf := (if_neg c15).symm.trans hf
    refine jr_aload_n K (D_at DX12_readSum_q0 9 rfl) rfl rfl ?_
    obtain ⟨q19, e19, hf⟩ := jbind hf
    obtain ⟨rc_19, e19⟩ := jcv_o e19
    refine jr_callV K (C_X12_readPart (d) e19) (D_at DX12_readSum_q0 10 rfl) cv_X12_192_X12_readPart (As := []) (ci := 10) rfl rc_19 rfl rfl (by exact Nat.le_of_ble_eq_true rfl) (kc2 := 0) (ks2 := 0) rfl rfl (fun k9 h9 w9 => by cases w9.1) (fun r9 h9 w9 => ?_)
    obtain ⟨w1, w2⟩ := w9
    subst h9
    cases w1
    show jJ G X _ 0 0 _ _ (.int q19.1 :: _)
    refine jr_if_ne K (D_at DX12_readSum_q0 11 rfl) (tgt := 27) (by decide) (fun c22 => ?_) (fun c22 => ?_)
    · replace hf := (if_neg c22).symm.trans hf
      refine jr_aload_n K (D_at DX12_readSum_q1 2 rfl) rfl rfl ?_
      refine jr_bipush K (D_at DX12_readSum_q1 3 rfl) (v := (12 : Int32)) (by decide) ?_
      refine jr_iconst K (D_at DX12_readSum_q1 4 rfl) (v := (0 : Int32)) (by decide) ?_
      obtain ⟨h31, e31, hf⟩ := jbind hf
      obtain ⟨rc_31, e31⟩ := jcv_o e31
      refine jr_callV K (C_X12_emits (d + 8) e31) (D_at DX12_readSum_q1 5 rfl) cv_X12_189_X12_emits (As := [.int (12 : Int32), .int (0 : Int32)]) (ci := 10) rfl rc_31 rfl rfl (by exact Nat.le_of_ble_eq_true rfl) (kc2 := 0) (ks2 := 0) rfl rfl (fun k9 h9 w9 => by cases w9.1) (fun r9 h9 w9 => ?_)
      obtain ⟨w1, w2⟩ := w9
      subst h9
      cases w1
      show jJ G X _ 0 0 _ _ []
      refine jr_goto K (D_at DX12_readSum_q1 6 rfl) (tgt := 9) (by decide) ?_
      refine jr_keep [true] ?_
      exact hr9 a0 h31 hf
    · replace hf := (if_pos c22).symm.trans hf
      refine jr_iconst K (D_at DX12_readSum_q1 0 rfl) (v := (0 : Int32)) (by decide) ?_
      cases hf
      exact jr_zret K E (D_at DX12_readSum_q1 1 rfl) rfl (Or.inl rfl) ⟨rfl, rfl⟩
theorem J_X12_readSum_9 {G : jG} {l : Launch} {d : Nat} {X : jX} {res : (Int32 × jH)} (K : jOK G l mX12_readSum (d + 9) X) (n : Nat) (E : jEnd G mX12_readSum (jPW res) X) (k : Nat) : ∀ (a0 : Nat) (h : jH), F_X12_readSum_9 n k a0 h = some res → jJ G X h 0 0 9 [some (.ref a0)] [] := by
  induction k with
  | zero =>
    intro a0 h hf
    exact jno (show (none : Option (Int32 × jH)) = some res from hf)
  | succ k ih =>
    intro a0 h hf
    exact J_X12_readSum_9_b K n (F_X12_readSum_9 n k) ih E a0 h hf
set_option maxHeartbeats 400000 in
set_option maxRecDepth 100000 in
theorem J_X12_readSum {G : jG} {l : Launch} {d : Nat} {X : jX} {res : (Int32 × jH)} (K : jOK G l mX12_readSum (d + 9) X) (n : Nat) (E : jEnd G mX12_readSum (jPW res) X) (a0 : Nat) (h : jH) (hf : F_X12_readSum n a0 h = some res) : jJ G X h 0 0 0 [some (.ref a0)] [] := by
  unfold F_X12_readSum at hf
  refine jr_aload_n K (D_at DX12_readSum_q0 0 rfl) rfl rfl ?_
  obtain ⟨q1, e1, hf⟩ := jbind hf
  obtain ⟨rc_1, e1⟩ := jcv_o e1
  refine jr_callV K (C_X12_readPart (d) e1) (D_at DX12_readSum_q0 1 rfl) cv_X12_192_X12_readPart (As := []) (ci := 10) rfl rc_1 rfl rfl (by exact Nat.le_of_ble_eq_true rfl) (kc2 := 0) (ks2 := 0) rfl rfl (fun k9 h9 w9 => by cases w9.1) (fun r9 h9 w9 => ?_)
  obtain ⟨w1, w2⟩ := w9
  subst h9
  cases w1
  show jJ G X _ 0 0 _ _ (.int q1.1 :: _)
  refine jr_if_ne K (D_at DX12_readSum_q0 2 rfl) (tgt := 9) (by decide) (fun c4 => ?_) (fun c4 => ?_)
  · replace hf := (if_neg c4).symm.trans hf
    refine jr_keep [true] ?_
    exact J_X12_readSum_9 K n E n a0 q1.2 hf
  · replace hf := (if_pos c4).symm.trans hf
    refine jr_iconst K (D_at DX12_readSum_q0 3 rfl) (v := (0 : Int32)) (by decide) ?_
    cases hf
    exact jr_zret K E (D_at DX12_readSum_q0 4 rfl) rfl (Or.inl rfl) ⟨rfl, rfl⟩
theorem C_X12_readSum {G : jG} {l : Launch} (d : Nat) {n : Nat} {a0 : Nat} {h : jH} {res : (Int32 × jH)} (hf : F_X12_readSum n a0 h = some res) : jC G l mX12_readSum (d + 9) 0 0 [.ref a0] h (jPW res) :=
  jC.of pn_X12 (jcats rfl) (Nat.le_of_ble_eq_true rfl) (fun X K E => J_X12_readSum K n E a0 h hf)
set_option maxHeartbeats 400000 in
set_option maxRecDepth 100000 in
theorem J_X12_readTag_61 {G : jG} {l : Launch} {d : Nat} {X : jX} {res : (Int32 × jH)} (K : jOK G l mX12_readTag (d + 7) X) (n : Nat) (E : jEnd G mX12_readTag (jPW res) X) (a0 : Nat) (s0 : Int32) (h : jH) (hf : F_X12_readTag_61 n a0 s0 h = some res) : jJ G X h 0 0 61 [some (.ref a0), none] [.int s0] := by
  unfold F_X12_readTag_61 at hf
  refine jr_istore_n K (D_at DX12_readTag_q2 3 rfl) (i := 1) rfl (by decide) (L2 := [_, _]) rfl ?_
  refine jr_iload_n K (D_at DX12_readTag_q2 4 rfl) rfl rfl ?_
  refine jr_if_lt K (D_at DX12_readTag_q2 5 rfl) (tgt := 75) (by decide) (fun c63 => ?_) (fun c63 => ?_)
  · replace hf := (if_pos c63).symm.trans hf
    refine jr_aload_n K (D_at DX12_readTag_q2 11 rfl) rfl rfl ?_
    refine jr_aload_n K (D_at DX12_readTag_q3 0 rfl) rfl rfl ?_
    obtain ⟨v77, e77, hf⟩ := jbind hf
    refine jr_getI K (D_at DX12_readTag_q3 1 rfl) fg_X12_94_10 e77 ?_
    obtain ⟨h80, e80, hf⟩ := jbind hf
    refine jr_putI K (D_at DX12_readTag_q3 2 rfl) fp_X12_85_10 (Or.inl rfl) e80 ?_
    refine jr_iload_n K (D_at DX12_readTag_q3 3 rfl) rfl rfl ?_
    refine jr_if_lt K (D_at DX12_readTag_q3 4 rfl) (tgt := 91) (by decide) (fun c84 => ?_) (fun c84 => ?_)
    · replace hf := (if_pos c84).symm.trans hf
      refine jr_iconst K (D_at DX12_readTag_q3 7 rfl) (v := (0 : Int32)) (by decide) ?_
      cases hf
      exact jr_zret K E (D_at DX12_readTag_q3 8 rfl) rfl (Or.inl rfl) ⟨rfl, rfl⟩
    · replace hf := (if_neg c84).symm.trans hf
      refine jr_iconst K (D_at DX12_readTag_q3 5 rfl) (v := (1 : Int32)) (by decide) ?_
      refine jr_goto K (D_at DX12_readTag_q3 6 rfl) (tgt := 92) (by decide) ?_
      cases hf
      exact jr_zret K E (D_at DX12_readTag_q3 8 rfl) rfl (Or.inr rfl) ⟨rfl, rfl⟩
  · replace hf := (if_neg c63).symm.trans hf
    refine jr_aload_n K (D_at DX12_readTag_q2 6 rfl) rfl rfl ?_
    refine jr_iload_n K (D_at DX12_readTag_q2 7 rfl) rfl rfl ?_
    refine jr_iconst K (D_at DX12_readTag_q2 8 rfl) (v := (0 : Int32)) (by decide) ?_
    obtain ⟨h69, e69, hf⟩ := jbind hf
    obtain ⟨rc_69, e69⟩ := jcv_o e69
    refine jr_callV K (C_X12_emits (d + 6) e69) (D_at DX12_readTag_q2 9 rfl) cv_X12_189_X12_emits (As := [.int s0, .int (0 : Int32)]) (ci := 10) rfl rc_69 rfl rfl (by exact Nat.le_of_ble_eq_true rfl) (kc2 := 0) (ks2 := 0) rfl rfl (fun k9 h9 w9 => by cases w9.1) (fun r9 h9 w9 => ?_)
    obtain ⟨w1, w2⟩ := w9
    subst h9
    cases w1
    show jJ G X _ 0 0 _ _ []
    refine jr_goto K (D_at DX12_readTag_q2 10 rfl) (tgt := 83) (by decide) ?_
    refine jr_iload_n K (D_at DX12_readTag_q3 3 rfl) rfl rfl ?_
    refine jr_if_lt K (D_at DX12_readTag_q3 4 rfl) (tgt := 91) (by decide) (fun c84 => ?_) (fun c84 => ?_)
    · replace hf := (if_pos c84).symm.trans hf
      refine jr_iconst K (D_at DX12_readTag_q3 7 rfl) (v := (0 : Int32)) (by decide) ?_
      cases hf
      exact jr_zret K E (D_at DX12_readTag_q3 8 rfl) rfl (Or.inl rfl) ⟨rfl, rfl⟩
    · replace hf := (if_neg c84).symm.trans hf
      refine jr_iconst K (D_at DX12_readTag_q3 5 rfl) (v := (1 : Int32)) (by decide) ?_
      refine jr_goto K (D_at DX12_readTag_q3 6 rfl) (tgt := 92) (by decide) ?_
      cases hf
      exact jr_zret K E (D_at DX12_readTag_q3 8 rfl) rfl (Or.inr rfl) ⟨rfl, rfl⟩
set_option maxHeartbeats 400000 in
set_option maxRecDepth 100000 in
theorem J_X12_readTag {G : jG} {l : Launch} {d : Nat} {X : jX} {res : (Int32 × jH)} (K : jOK G l mX12_readTag (d + 7) X) (n : Nat) (E : jEnd G mX12_readTag (jPW res) X) (a0 : Nat) (h : jH) (hf : F_X12_readTag n a0 h = some res) : jJ G X h 0 0 0 [some (.ref a0), none] [] := by
  unfold F_X12_readTag at hf
  refine jr_aload_n K (D_at DX12_readTag_q0 0 rfl) rfl rfl ?_
  obtain ⟨h1, e1, hf⟩ := jbind hf
  obtain ⟨rc_1, e1⟩ := jcv_o e1
  refine jr_callV K (C_X12_letters (d + 4) e1) (D_at DX12_readTag_q0 1 rfl) cv_X12_109_X12_letters (As := []) (ci := 10) rfl rc_1 rfl rfl (by exact Nat.le_of_ble_eq_true rfl) (kc2 := 0) (ks2 := 0) rfl rfl (fun k9 h9 w9 => by cases w9.1) (fun r9 h9 w9 => ?_)
  obtain ⟨w1, w2⟩ := w9
  subst h9
  cases w1
  show jJ G X _ 0 0 _ _ []
  refine jr_aload_n K (D_at DX12_readTag_q0 2 rfl) rfl rfl ?_
  refine jr_ldcS K (D_at DX12_readTag_q0 3 rfl) (i := 17) rfl ?_
  obtain ⟨v7, e7, hf⟩ := jbind hf
  obtain ⟨rc_7, e7⟩ := jcv_o e7
  refine jr_callV K (C_X12_isWord (d) e7) (D_at DX12_readTag_q0 4 rfl) cv_X12_112_X12_isWord (As := [.ref (G.2.2.2 (10 + 2 * 17))]) (ci := 10) rfl rc_7 rfl rfl (by exact Nat.le_of_ble_eq_true rfl) (kc2 := 0) (ks2 := 0) rfl rfl (fun k9 h9 w9 => by cases w9.1) (fun r9 h9 w9 => ?_)
  obtain ⟨w1, w2⟩ := w9
  subst h9
  cases w1
  show jJ G X _ 0 0 _ _ (.int v7 :: _)
  refine jr_if_eq K (D_at DX12_readTag_q0 5 rfl) (tgt := 18) (by decide) (fun c10 => ?_) (fun c10 => ?_)
  · replace hf := (if_pos c10).symm.trans hf
    refine jr_aload_n K (D_at DX12_readTag_q0 8 rfl) rfl rfl ?_
    refine jr_ldcS K (D_at DX12_readTag_q0 9 rfl) (i := 16) rfl ?_
    obtain ⟨v21, e21, hf⟩ := jbind hf
    obtain ⟨rc_21, e21⟩ := jcv_o e21
    refine jr_callV K (C_X12_isWord (d) e21) (D_at DX12_readTag_q0 10 rfl) cv_X12_112_X12_isWord (As := [.ref (G.2.2.2 (10 + 2 * 16))]) (ci := 10) rfl rc_21 rfl rfl (by exact Nat.le_of_ble_eq_true rfl) (kc2 := 0) (ks2 := 0) rfl rfl (fun k9 h9 w9 => by cases w9.1) (fun r9 h9 w9 => ?_)
    obtain ⟨w1, w2⟩ := w9
    subst h9
    cases w1
    show jJ G X _ 0 0 _ _ (.int v21 :: _)
    refine jr_if_eq K (D_at DX12_readTag_q0 11 rfl) (tgt := 32) (by decide) (fun c24 => ?_) (fun c24 => ?_)
    · replace hf := (if_pos c24).symm.trans hf
      refine jr_aload_n K (D_at DX12_readTag_q1 2 rfl) rfl rfl ?_
      refine jr_ldcS K (D_at DX12_readTag_q1 3 rfl) (i := 30) rfl ?_
      obtain ⟨v35, e35, hf⟩ := jbind hf
      obtain ⟨rc_35, e35⟩ := jcv_o e35
      refine jr_callV K (C_X12_isWord (d) e35) (D_at DX12_readTag_q1 4 rfl) cv_X12_112_X12_isWord (As := [.ref (G.2.2.2 (10 + 2 * 30))]) (ci := 10) rfl rc_35 rfl rfl (by exact Nat.le_of_ble_eq_true rfl) (kc2 := 0) (ks2 := 0) rfl rfl (fun k9 h9 w9 => by cases w9.1) (fun r9 h9 w9 => ?_)
      obtain ⟨w1, w2⟩ := w9
      subst h9
      cases w1
      show jJ G X _ 0 0 _ _ (.int v35 :: _)
      refine jr_if_eq K (D_at DX12_readTag_q1 5 rfl) (tgt := 46) (by decide) (fun c38 => ?_) (fun c38 => ?_)
      · replace hf := (if_pos c38).symm.trans hf
        refine jr_aload_n K (D_at DX12_readTag_q1 8 rfl) rfl rfl ?_
        refine jr_ldcS K (D_at DX12_readTag_q1 9 rfl) (i := 31) rfl ?_
        obtain ⟨v49, e49, hf⟩ := jbind hf
        obtain ⟨rc_49, e49⟩ := jcv_o e49
        refine jr_callV K (C_X12_isWord (d) e49) (D_at DX12_readTag_q1 10 rfl) cv_X12_112_X12_isWord (As := [.ref (G.2.2.2 (10 + 2 * 31))]) (ci := 10) rfl rc_49 rfl rfl (by exact Nat.le_of_ble_eq_true rfl) (kc2 := 0) (ks2 := 0) rfl rfl (fun k9 h9 w9 => by cases w9.1) (fun r9 h9 w9 => ?_)
        obtain ⟨w1, w2⟩ := w9
        subst h9
        cases w1
        show jJ G X _ 0 0 _ _ (.int v49 :: _)
        refine jr_if_eq K (D_at DX12_readTag_q1 11 rfl) (tgt := 60) (by decide) (fun c52 => ?_) (fun c52 => ?_)
        · replace hf := (if_pos c52).symm.trans hf
          refine jr_iconst K (D_at DX12_readTag_q2 2 rfl) (v := (-1 : Int32)) (by decide) ?_
          refine jr_keep [true, false] ?_
          exact J_X12_readTag_61 K n E a0 (-1 : Int32) h1 hf
        · replace hf := (if_neg c52).symm.trans hf
          refine jr_bipush K (D_at DX12_readTag_q2 0 rfl) (v := (10 : Int32)) (by decide) ?_
          refine jr_goto K (D_at DX12_readTag_q2 1 rfl) (tgt := 61) (by decide) ?_
          refine jr_keep [true, false] ?_
          exact J_X12_readTag_61 K n E a0 (10 : Int32) h1 hf
      · replace hf := (if_neg c38).symm.trans hf
        refine jr_bipush K (D_at DX12_readTag_q1 6 rfl) (v := (9 : Int32)) (by decide) ?_
        refine jr_goto K (D_at DX12_readTag_q1 7 rfl) (tgt := 61) (by decide) ?_
        refine jr_keep [true, false] ?_
        exact J_X12_readTag_61 K n E a0 (9 : Int32) h1 hf
    · replace hf := (if_neg c24).symm.trans hf
      refine jr_bipush K (D_at DX12_readTag_q1 0 rfl) (v := (8 : Int32)) (by decide) ?_
      refine jr_goto K (D_at DX12_readTag_q1 1 rfl) (tgt := 61) (by decide) ?_
      refine jr_keep [true, false] ?_
      exact J_X12_readTag_61 K n E a0 (8 : Int32) h1 hf
  · replace hf := (if_neg c10).symm.trans hf
    refine jr_bipush K (D_at DX12_readTag_q0 6 rfl) (v := (7 : Int32)) (by decide) ?_
    refine jr_goto K (D_at DX12_readTag_q0 7 rfl) (tgt := 61) (by decide) ?_
    refine jr_keep [true, false] ?_
    exact J_X12_readTag_61 K n E a0 (7 : Int32) h1 hf
theorem C_X12_readTag {G : jG} {l : Launch} (d : Nat) {n : Nat} {a0 : Nat} {h : jH} {res : (Int32 × jH)} (hf : F_X12_readTag n a0 h = some res) : jC G l mX12_readTag (d + 7) 0 0 [.ref a0] h (jPW res) :=
  jC.of pn_X12 (jcats rfl) (Nat.le_of_ble_eq_true rfl) (fun X K E => J_X12_readTag K n E a0 h hf)
set_option maxHeartbeats 400000 in
set_option maxRecDepth 100000 in
theorem J_X12_readCond_9_b {G : jG} {l : Launch} {D9 : Nat} (hD9 : 10 ≤ D9) {X : jX} {res : (Int32 × jH)} (K : jOK G l mX12_readCond (D9 + 1) X) (n : Nat) (g0 : Nat → jH → Option (Int32 × jH)) (hg0 : ∀ (b0 : Nat) (h : jH) (r : (Int32 × jH)), g0 b0 h = some r → jC G l mX12_readCond D9 0 0 [.ref b0] h (jPW r)) (g1 : Nat → jH → Option (Int32 × jH)) (hg1 : ∀ (b0 : Nat) (h : jH) (r : (Int32 × jH)), g1 b0 h = some r → jC G l mX12_readAtom D9 0 0 [.ref b0] h (jPW r)) (g2 : Nat → jH → Option (Int32 × jH)) (hg2 : ∀ (b0 : Nat) (h : jH) (r : (Int32 × jH)), g2 b0 h = some r → jC G l mX12_readAllOf D9 0 0 [.ref b0] h (jPW r)) (rc9 : Nat → jH → Option (Int32 × jH)) (hr9 : ∀ (a0 : Nat) (h : jH), rc9 a0 h = some res → jJ G X h 0 0 9 [some (.ref a0)] []) (E : jEnd G mX12_readCond (jPW res) X) (a0 : Nat) (h : jH) (hf : F_X12_readCond_9_b n g0 g1 g2 rc9 a0 h = some res) : jJ G X h 0 0 9 [some (.ref a0)] [] := by
  unfold F_X12_readCond_9_b at hf
  refine jr_aload_n K (D_at DX12_readCond_q0 5 rfl) rfl rfl ?_
  refine jr_ldcS K (D_at DX12_readCond_q0 6 rfl) (i := 35) rfl ?_
  obtain ⟨q12, e12, hf⟩ := jbind hf
  obtain ⟨rc_12, e12⟩ := jcv_o e12
  refine jr_callV K (jC_le (k := 7) (Nat.le_trans (by decide) hD9) (fun d => C_X12_passes d e12)) (D_at DX12_readCond_q0 7 rfl) cv_X12_139_X12_passes (As := [.ref (G.2.2.2 (10 + 2 * 35))]) (ci := 10) rfl rc_12 rfl rfl (by exact Nat.le_of_ble_eq_true rfl) (kc2 := 0) (ks2 := 0) rfl rfl (fun k9 h9 w9 => by cases w9.1) (fun r9 h9 w9 => ?_)
  obtain ⟨w1, w2⟩ := w9
  subst h9
  cases w1
  show jJ G X _ 0 0 _ _ (.int q12.1 :: _)
  refine jr_if_eq K (D_at DX12_readCond_q0 8 rfl) (tgt := 37) (by decide) (fun c15 => ?_) (fun c15 => ?_)
  · replace hf := (if_pos c15).symm.trans hf
    refine jr_iconst K (D_at DX12_readCond_q1 7 rfl) (v := (1 : Int32)) (by decide) ?_
    cases hf
    exact jr_zret K E (D_at DX12_readCond_q1 8 rfl) rfl (Or.inr rfl) ⟨rfl, rfl⟩
  · replace hf := (if_neg c15).symm.trans hf
    refine jr_aload_n K (D_at DX12_readCond_q0 9 rfl) rfl rfl ?_
    obtain ⟨q19, e19, hf⟩ := jbind hf
    obtain ⟨rc_19, e19⟩ := jcv_o e19
    refine jr_callV K (hg2 a0 q12.2 _ e19) (D_at DX12_readCond_q0 10 rfl) cv_X12_222_X12_readAllOf (As := []) (ci := 10) rfl rc_19 rfl rfl (by exact Nat.le_of_ble_eq_true rfl) (kc2 := 0) (ks2 := 0) rfl rfl (fun k9 h9 w9 => by cases w9.1) (fun r9 h9 w9 => ?_)
    obtain ⟨w1, w2⟩ := w9
    subst h9
    cases w1
    show jJ G X _ 0 0 _ _ (.int q19.1 :: _)
    refine jr_if_ne K (D_at DX12_readCond_q0 11 rfl) (tgt := 27) (by decide) (fun c22 => ?_) (fun c22 => ?_)
    · replace hf := (if_neg c22).symm.trans hf
      refine jr_aload_n K (D_at DX12_readCond_q1 2 rfl) rfl rfl ?_
      refine jr_bipush K (D_at DX12_readCond_q1 3 rfl) (v := (17 : Int32)) (by decide) ?_
      refine jr_iconst K (D_at DX12_readCond_q1 4 rfl) (v := (0 : Int32)) (by decide) ?_
      obtain ⟨h31, e31, hf⟩ := jbind hf
      obtain ⟨rc_31, e31⟩ := jcv_o e31
      refine jr_callV K (jC_le (k := 0) (Nat.le_trans (by decide) hD9) (fun d => C_X12_emits d e31)) (D_at DX12_readCond_q1 5 rfl) cv_X12_189_X12_emits (As := [.int (17 : Int32), .int (0 : Int32)]) (ci := 10) rfl rc_31 rfl rfl (by exact Nat.le_of_ble_eq_true rfl) (kc2 := 0) (ks2 := 0) rfl rfl (fun k9 h9 w9 => by cases w9.1) (fun r9 h9 w9 => ?_)
      obtain ⟨w1, w2⟩ := w9
      subst h9
      cases w1
      show jJ G X _ 0 0 _ _ []
      refine jr_goto K (D_at DX12_readCond_q1 6 rfl) (tgt := 9) (by decide) ?_
      refine jr_keep [true] ?_
      exact hr9 a0 h31 hf
    · replace hf := (if_pos c22).symm.trans hf
      refine jr_iconst K (D_at DX12_readCond_q1 0 rfl) (v := (0 : Int32)) (by decide) ?_
      cases hf
      exact jr_zret K E (D_at DX12_readCond_q1 1 rfl) rfl (Or.inl rfl) ⟨rfl, rfl⟩
theorem J_X12_readCond_9 {G : jG} {l : Launch} {D9 : Nat} (hD9 : 10 ≤ D9) {X : jX} {res : (Int32 × jH)} (K : jOK G l mX12_readCond (D9 + 1) X) (n : Nat) (g0 : Nat → jH → Option (Int32 × jH)) (hg0 : ∀ (b0 : Nat) (h : jH) (r : (Int32 × jH)), g0 b0 h = some r → jC G l mX12_readCond D9 0 0 [.ref b0] h (jPW r)) (g1 : Nat → jH → Option (Int32 × jH)) (hg1 : ∀ (b0 : Nat) (h : jH) (r : (Int32 × jH)), g1 b0 h = some r → jC G l mX12_readAtom D9 0 0 [.ref b0] h (jPW r)) (g2 : Nat → jH → Option (Int32 × jH)) (hg2 : ∀ (b0 : Nat) (h : jH) (r : (Int32 × jH)), g2 b0 h = some r → jC G l mX12_readAllOf D9 0 0 [.ref b0] h (jPW r)) (E : jEnd G mX12_readCond (jPW res) X) (k : Nat) : ∀ (a0 : Nat) (h : jH), F_X12_readCond_9 n g0 g1 g2 k a0 h = some res → jJ G X h 0 0 9 [some (.ref a0)] [] := by
  induction k with
  | zero =>
    intro a0 h hf
    exact jno (show (none : Option (Int32 × jH)) = some res from hf)
  | succ k ih =>
    intro a0 h hf
    exact J_X12_readCond_9_b hD9 K n g0 hg0 g1 hg1 g2 hg2 (F_X12_readCond_9 n g0 g1 g2 k) ih E a0 h hf
set_option maxHeartbeats 400000 in
set_option maxRecDepth 100000 in
theorem J_X12_readCond {G : jG} {l : Launch} {D9 : Nat} (hD9 : 10 ≤ D9) {X : jX} {res : (Int32 × jH)} (K : jOK G l mX12_readCond (D9 + 1) X) (n : Nat) (g0 : Nat → jH → Option (Int32 × jH)) (hg0 : ∀ (b0 : Nat) (h : jH) (r : (Int32 × jH)), g0 b0 h = some r → jC G l mX12_readCond D9 0 0 [.ref b0] h (jPW r)) (g1 : Nat → jH → Option (Int32 × jH)) (hg1 : ∀ (b0 : Nat) (h : jH) (r : (Int32 × jH)), g1 b0 h = some r → jC G l mX12_readAtom D9 0 0 [.ref b0] h (jPW r)) (g2 : Nat → jH → Option (Int32 × jH)) (hg2 : ∀ (b0 : Nat) (h : jH) (r : (Int32 × jH)), g2 b0 h = some r → jC G l mX12_readAllOf D9 0 0 [.ref b0] h (jPW r)) (E : jEnd G mX12_readCond (jPW res) X) (a0 : Nat) (h : jH) (hf : F_X12_readCond n g0 g1 g2 a0 h = some res) : jJ G X h 0 0 0 [some (.ref a0)] [] := by
  unfold F_X12_readCond at hf
  refine jr_aload_n K (D_at DX12_readCond_q0 0 rfl) rfl rfl ?_
  obtain ⟨q1, e1, hf⟩ := jbind hf
  obtain ⟨rc_1, e1⟩ := jcv_o e1
  refine jr_callV K (hg2 a0 h _ e1) (D_at DX12_readCond_q0 1 rfl) cv_X12_222_X12_readAllOf (As := []) (ci := 10) rfl rc_1 rfl rfl (by exact Nat.le_of_ble_eq_true rfl) (kc2 := 0) (ks2 := 0) rfl rfl (fun k9 h9 w9 => by cases w9.1) (fun r9 h9 w9 => ?_)
  obtain ⟨w1, w2⟩ := w9
  subst h9
  cases w1
  show jJ G X _ 0 0 _ _ (.int q1.1 :: _)
  refine jr_if_ne K (D_at DX12_readCond_q0 2 rfl) (tgt := 9) (by decide) (fun c4 => ?_) (fun c4 => ?_)
  · replace hf := (if_neg c4).symm.trans hf
    refine jr_keep [true] ?_
    exact J_X12_readCond_9 hD9 K n g0 hg0 g1 hg1 g2 hg2 E n a0 q1.2 hf
  · replace hf := (if_pos c4).symm.trans hf
    refine jr_iconst K (D_at DX12_readCond_q0 3 rfl) (v := (0 : Int32)) (by decide) ?_
    cases hf
    exact jr_zret K E (D_at DX12_readCond_q0 4 rfl) rfl (Or.inl rfl) ⟨rfl, rfl⟩
theorem C_X12_readCond {G : jG} {l : Launch} {D9 n : Nat} (hD9 : 10 ≤ D9) {g0 : Nat → jH → Option (Int32 × jH)} (hg0 : ∀ (b0 : Nat) (h : jH) (r : (Int32 × jH)), g0 b0 h = some r → jC G l mX12_readCond D9 0 0 [.ref b0] h (jPW r)) {g1 : Nat → jH → Option (Int32 × jH)} (hg1 : ∀ (b0 : Nat) (h : jH) (r : (Int32 × jH)), g1 b0 h = some r → jC G l mX12_readAtom D9 0 0 [.ref b0] h (jPW r)) {g2 : Nat → jH → Option (Int32 × jH)} (hg2 : ∀ (b0 : Nat) (h : jH) (r : (Int32 × jH)), g2 b0 h = some r → jC G l mX12_readAllOf D9 0 0 [.ref b0] h (jPW r)) {a0 : Nat} {h : jH} {res : (Int32 × jH)} (hf : F_X12_readCond n g0 g1 g2 a0 h = some res) : jC G l mX12_readCond (D9 + 1) 0 0 [.ref a0] h (jPW res) :=
  jC.of pn_X12 (jcats rfl) (Nat.le_of_ble_eq_true rfl) (fun X K E => J_X12_readCond hD9 K n g0 hg0 g1 hg1 g2 hg2 E a0 h hf)
set_option maxHeartbeats 400000 in
set_option maxRecDepth 100000 in
theorem J_X12_readAtom_173 {G : jG} {l : Launch} {D9 : Nat} (hD9 : 10 ≤ D9) {X : jX} {res : (Int32 × jH)} (K : jOK G l mX12_readAtom (D9 + 1) X) (n : Nat) (g0 : Nat → jH → Option (Int32 × jH)) (hg0 : ∀ (b0 : Nat) (h : jH) (r : (Int32 × jH)), g0 b0 h = some r → jC G l mX12_readCond D9 0 0 [.ref b0] h (jPW r)) (g1 : Nat → jH → Option (Int32 × jH)) (hg1 : ∀ (b0 : Nat) (h : jH) (r : (Int32 × jH)), g1 b0 h = some r → jC G l mX12_readAtom D9 0 0 [.ref b0] h (jPW r)) (g2 : Nat → jH → Option (Int32 × jH)) (hg2 : ∀ (b0 : Nat) (h : jH) (r : (Int32 × jH)), g2 b0 h = some r → jC G l mX12_readAllOf D9 0 0 [.ref b0] h (jPW r)) (E : jEnd G mX12_readAtom (jPW res) X) (sa0 : Nat) (s1 : Int32) (h : jH) (hf : F_X12_readAtom_173 n g0 g1 g2 sa0 s1 h = some res) : jJ G X h 0 0 173 [none, none] [.int s1, .ref sa0] := by
  unfold F_X12_readAtom_173 at hf
  refine jr_iconst K (D_at DX12_readAtom_1_q2 7 rfl) (v := (0 : Int32)) (by decide) ?_
  obtain ⟨h174, e174, hf⟩ := jbind hf
  obtain ⟨rc_174, e174⟩ := jcv_o e174
  refine jr_callV K (jC_le (k := 0) (Nat.le_trans (by decide) hD9) (fun d => C_X12_emits d e174)) (D_at DX12_readAtom_1_q2 8 rfl) cv_X12_189_X12_emits (As := [.int s1, .int (0 : Int32)]) (ci := 10) rfl rc_174 rfl rfl (by exact Nat.le_of_ble_eq_true rfl) (kc2 := 0) (ks2 := 0) rfl rfl (fun k9 h9 w9 => by cases w9.1) (fun r9 h9 w9 => ?_)
  obtain ⟨w1, w2⟩ := w9
  subst h9
  cases w1
  show jJ G X _ 0 0 _ _ []
  refine jr_iconst K (D_at DX12_readAtom_1_q2 9 rfl) (v := (1 : Int32)) (by decide) ?_
  cases hf
  exact jr_zret K E (D_at DX12_readAtom_1_q2 10 rfl) rfl (Or.inr rfl) ⟨rfl, rfl⟩
set_option maxHeartbeats 400000 in
set_option maxRecDepth 100000 in
theorem J_X12_readAtom_152 {G : jG} {l : Launch} {D9 : Nat} (hD9 : 10 ≤ D9) {X : jX} {res : (Int32 × jH)} (K : jOK G l mX12_readAtom (D9 + 1) X) (n : Nat) (g0 : Nat → jH → Option (Int32 × jH)) (hg0 : ∀ (b0 : Nat) (h : jH) (r : (Int32 × jH)), g0 b0 h = some r → jC G l mX12_readCond D9 0 0 [.ref b0] h (jPW r)) (g1 : Nat → jH → Option (Int32 × jH)) (hg1 : ∀ (b0 : Nat) (h : jH) (r : (Int32 × jH)), g1 b0 h = some r → jC G l mX12_readAtom D9 0 0 [.ref b0] h (jPW r)) (g2 : Nat → jH → Option (Int32 × jH)) (hg2 : ∀ (b0 : Nat) (h : jH) (r : (Int32 × jH)), g2 b0 h = some r → jC G l mX12_readAllOf D9 0 0 [.ref b0] h (jPW r)) (E : jEnd G mX12_readAtom (jPW res) X) (a0 : Nat) (x1 : Int32) (h : jH) (hf : F_X12_readAtom_152 n g0 g1 g2 a0 x1 h = some res) : jJ G X h 0 0 152 [some (.ref a0), some (.int x1)] [] := by
  unfold F_X12_readAtom_152 at hf
  refine jr_aload_n K (D_at DX12_readAtom_1_q1 8 rfl) rfl rfl ?_
  obtain ⟨q153, e153, hf⟩ := jbind hf
  obtain ⟨rc_153, e153⟩ := jcv_o e153
  refine jr_callV K (jC_le (k := 9) (Nat.le_trans (by decide) hD9) (fun d => C_X12_readSum d e153)) (D_at DX12_readAtom_1_q1 9 rfl) cv_X12_217_X12_readSum (As := []) (ci := 10) rfl rc_153 rfl rfl (by exact Nat.le_of_ble_eq_true rfl) (kc2 := 0) (ks2 := 0) rfl rfl (fun k9 h9 w9 => by cases w9.1) (fun r9 h9 w9 => ?_)
  obtain ⟨w1, w2⟩ := w9
  subst h9
  cases w1
  show jJ G X _ 0 0 _ _ (.int q153.1 :: _)
  refine jr_if_ne K (D_at DX12_readAtom_1_q1 10 rfl) (tgt := 161) (by decide) (fun c156 => ?_) (fun c156 => ?_)
  · replace hf := (if_neg c156).symm.trans hf
    refine jr_aload_n K (D_at DX12_readAtom_1_q2 1 rfl) rfl rfl ?_
    refine jr_iload_n K (D_at DX12_readAtom_1_q2 2 rfl) rfl rfl ?_
    refine jr_if_eq K (D_at DX12_readAtom_1_q2 3 rfl) (tgt := 171) (by decide) (fun c163 => ?_) (fun c163 => ?_)
    · replace hf := (if_pos c163).symm.trans hf
      refine jr_bipush K (D_at DX12_readAtom_1_q2 6 rfl) (v := (14 : Int32)) (by decide) ?_
      refine jr_keep [false, false] ?_
      exact J_X12_readAtom_173 hD9 K n g0 hg0 g1 hg1 g2 hg2 E a0 (14 : Int32) q153.2 hf
    · replace hf := (if_neg c163).symm.trans hf
      refine jr_bipush K (D_at DX12_readAtom_1_q2 4 rfl) (v := (13 : Int32)) (by decide) ?_
      refine jr_goto K (D_at DX12_readAtom_1_q2 5 rfl) (tgt := 173) (by decide) ?_
      refine jr_keep [false, false] ?_
      exact J_X12_readAtom_173 hD9 K n g0 hg0 g1 hg1 g2 hg2 E a0 (13 : Int32) q153.2 hf
  · replace hf := (if_pos c156).symm.trans hf
    refine jr_iconst K (D_at DX12_readAtom_1_q1 11 rfl) (v := (0 : Int32)) (by decide) ?_
    cases hf
    exact jr_zret K E (D_at DX12_readAtom_1_q2 0 rfl) rfl (Or.inl rfl) ⟨rfl, rfl⟩
set_option maxHeartbeats 400000 in
set_option maxRecDepth 100000 in
theorem J_X12_readAtom {G : jG} {l : Launch} {D9 : Nat} (hD9 : 10 ≤ D9) {X : jX} {res : (Int32 × jH)} (K : jOK G l mX12_readAtom (D9 + 1) X) (n : Nat) (g0 : Nat → jH → Option (Int32 × jH)) (hg0 : ∀ (b0 : Nat) (h : jH) (r : (Int32 × jH)), g0 b0 h = some r → jC G l mX12_readCond D9 0 0 [.ref b0] h (jPW r)) (g1 : Nat → jH → Option (Int32 × jH)) (hg1 : ∀ (b0 : Nat) (h : jH) (r : (Int32 × jH)), g1 b0 h = some r → jC G l mX12_readAtom D9 0 0 [.ref b0] h (jPW r)) (g2 : Nat → jH → Option (Int32 × jH)) (hg2 : ∀ (b0 : Nat) (h : jH) (r : (Int32 × jH)), g2 b0 h = some r → jC G l mX12_readAllOf D9 0 0 [.ref b0] h (jPW r)) (E : jEnd G mX12_readAtom (jPW res) X) (a0 : Nat) (h : jH) (hf : F_X12_readAtom n g0 g1 g2 a0 h = some res) : jJ G X h 0 0 0 [some (.ref a0), none] [] := by
  unfold F_X12_readAtom at hf
  refine jr_aload_n K (D_at DX12_readAtom_q0 0 rfl) rfl rfl ?_
  refine jr_bipush K (D_at DX12_readAtom_q0 1 rfl) (v := (40 : Int32)) (by decide) ?_
  obtain ⟨q3, e3, hf⟩ := jbind hf
  obtain ⟨rc_3, e3⟩ := jcv_o e3
  refine jr_callV K (jC_le (k := 2) (Nat.le_trans (by decide) hD9) (fun d => C_X12_sign d e3)) (D_at DX12_readAtom_q0 2 rfl) cv_X12_195_X12_sign (As := [.int (40 : Int32)]) (ci := 10) rfl rc_3 rfl rfl (by exact Nat.le_of_ble_eq_true rfl) (kc2 := 0) (ks2 := 0) rfl rfl (fun k9 h9 w9 => by cases w9.1) (fun r9 h9 w9 => ?_)
  obtain ⟨w1, w2⟩ := w9
  subst h9
  cases w1
  show jJ G X _ 0 0 _ _ (.int q3.1 :: _)
  refine jr_if_eq K (D_at DX12_readAtom_q0 3 rfl) (tgt := 56) (by decide) (fun c6 => ?_) (fun c6 => ?_)
  · replace hf := (if_pos c6).symm.trans hf
    refine jr_aload_n K (D_at DX12_readAtom_q2 7 rfl) rfl rfl ?_
    refine jr_ldcS K (D_at DX12_readAtom_q2 8 rfl) (i := 29) rfl ?_
    obtain ⟨q59, e59, hf⟩ := jbind hf
    obtain ⟨rc_59, e59⟩ := jcv_o e59
    refine jr_callV K (jC_le (k := 7) (Nat.le_trans (by decide) hD9) (fun d => C_X12_passes d e59)) (D_at DX12_readAtom_q2 9 rfl) cv_X12_139_X12_passes (As := [.ref (G.2.2.2 (10 + 2 * 29))]) (ci := 10) rfl rc_59 rfl rfl (by exact Nat.le_of_ble_eq_true rfl) (kc2 := 0) (ks2 := 0) rfl rfl (fun k9 h9 w9 => by cases w9.1) (fun r9 h9 w9 => ?_)
    obtain ⟨w1, w2⟩ := w9
    subst h9
    cases w1
    show jJ G X _ 0 0 _ _ (.int q59.1 :: _)
    refine jr_if_eq K (D_at DX12_readAtom_q2 10 rfl) (tgt := 114) (by decide) (fun c62 => ?_) (fun c62 => ?_)
    · replace hf := (if_pos c62).symm.trans hf
      refine jr_aload_n K (D_at DX12_readAtom_1_q0 0 rfl) rfl rfl ?_
      obtain ⟨q115, e115, hf⟩ := jbind hf
      obtain ⟨rc_115, e115⟩ := jcv_o e115
      refine jr_callV K (jC_le (k := 7) (Nat.le_trans (by decide) hD9) (fun d => C_X12_readTag d e115)) (D_at DX12_readAtom_1_q0 1 rfl) cv_X12_214_X12_readTag (As := []) (ci := 10) rfl rc_115 rfl rfl (by exact Nat.le_of_ble_eq_true rfl) (kc2 := 0) (ks2 := 0) rfl rfl (fun k9 h9 w9 => by cases w9.1) (fun r9 h9 w9 => ?_)
      obtain ⟨w1, w2⟩ := w9
      subst h9
      cases w1
      show jJ G X _ 0 0 _ _ (.int q115.1 :: _)
      refine jr_if_eq K (D_at DX12_readAtom_1_q0 2 rfl) (tgt := 123) (by decide) (fun c118 => ?_) (fun c118 => ?_)
      · replace hf := (if_pos c118).symm.trans hf
        refine jr_aload_n K (D_at DX12_readAtom_1_q0 5 rfl) rfl rfl ?_
        obtain ⟨q124, e124, hf⟩ := jbind hf
        obtain ⟨rc_124, e124⟩ := jcv_o e124
        refine jr_callV K (jC_le (k := 9) (Nat.le_trans (by decide) hD9) (fun d => C_X12_readSum d e124)) (D_at DX12_readAtom_1_q0 6 rfl) cv_X12_217_X12_readSum (As := []) (ci := 10) rfl rc_124 rfl rfl (by exact Nat.le_of_ble_eq_true rfl) (kc2 := 0) (ks2 := 0) rfl rfl (fun k9 h9 w9 => by cases w9.1) (fun r9 h9 w9 => ?_)
        obtain ⟨w1, w2⟩ := w9
        subst h9
        cases w1
        show jJ G X _ 0 0 _ _ (.int q124.1 :: _)
        refine jr_if_ne K (D_at DX12_readAtom_1_q0 7 rfl) (tgt := 132) (by decide) (fun c127 => ?_) (fun c127 => ?_)
        · replace hf := (if_neg c127).symm.trans hf
          refine jr_aload_n K (D_at DX12_readAtom_1_q0 10 rfl) rfl rfl ?_
          refine jr_bipush K (D_at DX12_readAtom_1_q0 11 rfl) (v := (60 : Int32)) (by decide) ?_
          obtain ⟨q135, e135, hf⟩ := jbind hf
          obtain ⟨rc_135, e135⟩ := jcv_o e135
          refine jr_callV K (jC_le (k := 2) (Nat.le_trans (by decide) hD9) (fun d => C_X12_sign d e135)) (D_at DX12_readAtom_1_q1 0 rfl) cv_X12_195_X12_sign (As := [.int (60 : Int32)]) (ci := 10) rfl rc_135 rfl rfl (by exact Nat.le_of_ble_eq_true rfl) (kc2 := 0) (ks2 := 0) rfl rfl (fun k9 h9 w9 => by cases w9.1) (fun r9 h9 w9 => ?_)
          obtain ⟨w1, w2⟩ := w9
          subst h9
          cases w1
          show jJ G X _ 0 0 _ _ (.int q135.1 :: _)
          refine jr_istore_n K (D_at DX12_readAtom_1_q1 1 rfl) (i := 1) rfl (by decide) (L2 := [_, _]) rfl ?_
          refine jr_iload_n K (D_at DX12_readAtom_1_q1 2 rfl) rfl rfl ?_
          refine jr_if_ne K (D_at DX12_readAtom_1_q1 3 rfl) (tgt := 152) (by decide) (fun c140 => ?_) (fun c140 => ?_)
          · replace hf := (if_neg c140).symm.trans hf
            refine jr_keep [true, true] ?_
            exact J_X12_readAtom_152 hD9 K n g0 hg0 g1 hg1 g2 hg2 E a0 q135.1 q135.2 hf
          · replace hf := (if_pos c140).symm.trans hf
            refine jr_aload_n K (D_at DX12_readAtom_1_q1 4 rfl) rfl rfl ?_
            refine jr_bipush K (D_at DX12_readAtom_1_q1 5 rfl) (v := (62 : Int32)) (by decide) ?_
            obtain ⟨q146, e146, hf⟩ := jbind hf
            obtain ⟨rc_146, e146⟩ := jcv_o e146
            refine jr_callV K (jC_le (k := 2) (Nat.le_trans (by decide) hD9) (fun d => C_X12_sign d e146)) (D_at DX12_readAtom_1_q1 6 rfl) cv_X12_195_X12_sign (As := [.int (62 : Int32)]) (ci := 10) rfl rc_146 rfl rfl (by exact Nat.le_of_ble_eq_true rfl) (kc2 := 0) (ks2 := 0) rfl rfl (fun k9 h9 w9 => by cases w9.1) (fun r9 h9 w9 => ?_)
            obtain ⟨w1, w2⟩ := w9
            subst h9
            cases w1
            show jJ G X _ 0 0 _ _ (.int q146.1 :: _)
            refine jr_if_eq K (D_at DX12_readAtom_1_q1 7 rfl) (tgt := 159) (by decide) (fun c149 => ?_) (fun c149 => ?_)
            · replace hf := (if_pos c149).symm.trans hf
              refine jr_iconst K (D_at DX12_readAtom_1_q1 11 rfl) (v := (0 : Int32)) (by decide) ?_
              cases hf
              exact jr_zret K E (D_at DX12_readAtom_1_q2 0 rfl) rfl (Or.inl rfl) ⟨rfl, rfl⟩
            · replace hf := (if_neg c149).symm.trans hf
              refine jr_keep [true, true] ?_
              exact J_X12_readAtom_152 hD9 K n g0 hg0 g1 hg1 g2 hg2 E a0 q135.1 q146.2 hf
        · replace hf := (if_pos c127).symm.trans hf
          refine jr_iconst K (D_at DX12_readAtom_1_q0 8 rfl) (v := (0 : Int32)) (by decide) ?_
          cases hf
          exact jr_zret K E (D_at DX12_readAtom_1_q0 9 rfl) rfl (Or.inl rfl) ⟨rfl, rfl⟩
      · replace hf := (if_neg c118).symm.trans hf
        refine jr_iconst K (D_at DX12_readAtom_1_q0 3 rfl) (v := (1 : Int32)) (by decide) ?_
        cases hf
        exact jr_zret K E (D_at DX12_readAtom_1_q0 4 rfl) rfl (Or.inr rfl) ⟨rfl, rfl⟩
    · replace hf := (if_neg c62).symm.trans hf
      refine jr_aload_n K (D_at DX12_readAtom_q2 11 rfl) rfl rfl ?_
      obtain ⟨v66, e66, hf⟩ := jbind hf
      refine jr_getI K (D_at DX12_readAtom_q3 0 rfl) fg_X12_203_10 e66 ?_
      refine jr_bipush K (D_at DX12_readAtom_q3 1 rfl) (v := (6 : Int32)) (by decide) ?_
      refine jr_icmp_ne K (D_at DX12_readAtom_q3 2 rfl) (tgt := 76) (by decide) (fun c71 => ?_) (fun c71 => ?_)
      · replace hf := (if_neg c71).symm.trans hf
        refine jr_aload_n K (D_at DX12_readAtom_q3 5 rfl) rfl rfl ?_
        refine jr_dup K (D_at DX12_readAtom_q3 6 rfl) rfl ?_
        obtain ⟨v78, e78, hf⟩ := jbind hf
        refine jr_getI K (D_at DX12_readAtom_q3 7 rfl) fg_X12_203_10 e78 ?_
        refine jr_iconst K (D_at DX12_readAtom_q3 8 rfl) (v := (1 : Int32)) (by decide) ?_
        refine jr_iadd K (D_at DX12_readAtom_q3 9 rfl) ?_
        obtain ⟨h83, e83, hf⟩ := jbind hf
        refine jr_putI K (D_at DX12_readAtom_q3 10 rfl) fp_X12_203_10 (Or.inl rfl) e83 ?_
        refine jr_aload_n K (D_at DX12_readAtom_q3 11 rfl) rfl rfl ?_
        obtain ⟨q87, e87, hf⟩ := jbind hf
        obtain ⟨rc_87, e87⟩ := jcv_o e87
        refine jr_callV K (hg1 a0 h83 _ e87) (D_at DX12_readAtom_q4 0 rfl) cv_X12_211_X12_readAtom (As := []) (ci := 10) rfl rc_87 rfl rfl (by exact Nat.le_of_ble_eq_true rfl) (kc2 := 0) (ks2 := 0) rfl rfl (fun k9 h9 w9 => by cases w9.1) (fun r9 h9 w9 => ?_)
        obtain ⟨w1, w2⟩ := w9
        subst h9
        cases w1
        show jJ G X _ 0 0 _ _ (.int q87.1 :: _)
        refine jr_if_ne K (D_at DX12_readAtom_q4 1 rfl) (tgt := 95) (by decide) (fun c90 => ?_) (fun c90 => ?_)
        · replace hf := (if_neg c90).symm.trans hf
          refine jr_aload_n K (D_at DX12_readAtom_q4 4 rfl) rfl rfl ?_
          refine jr_dup K (D_at DX12_readAtom_q4 5 rfl) rfl ?_
          obtain ⟨v97, e97, hf⟩ := jbind hf
          refine jr_getI K (D_at DX12_readAtom_q4 6 rfl) fg_X12_203_10 e97 ?_
          refine jr_iconst K (D_at DX12_readAtom_q4 7 rfl) (v := (1 : Int32)) (by decide) ?_
          refine jr_isub K (D_at DX12_readAtom_q4 8 rfl) ?_
          obtain ⟨h102, e102, hf⟩ := jbind hf
          refine jr_putI K (D_at DX12_readAtom_q4 9 rfl) fp_X12_203_10 (Or.inl rfl) e102 ?_
          refine jr_aload_n K (D_at DX12_readAtom_q4 10 rfl) rfl rfl ?_
          refine jr_bipush K (D_at DX12_readAtom_q4 11 rfl) (v := (15 : Int32)) (by decide) ?_
          refine jr_iconst K (D_at DX12_readAtom_q5 0 rfl) (v := (0 : Int32)) (by decide) ?_
          obtain ⟨h109, e109, hf⟩ := jbind hf
          obtain ⟨rc_109, e109⟩ := jcv_o e109
          refine jr_callV K (jC_le (k := 0) (Nat.le_trans (by decide) hD9) (fun d => C_X12_emits d e109)) (D_at DX12_readAtom_q5 1 rfl) cv_X12_189_X12_emits (As := [.int (15 : Int32), .int (0 : Int32)]) (ci := 10) rfl rc_109 rfl rfl (by exact Nat.le_of_ble_eq_true rfl) (kc2 := 0) (ks2 := 0) rfl rfl (fun k9 h9 w9 => by cases w9.1) (fun r9 h9 w9 => ?_)
          obtain ⟨w1, w2⟩ := w9
          subst h9
          cases w1
          show jJ G X _ 0 0 _ _ []
          refine jr_iconst K (D_at DX12_readAtom_q5 2 rfl) (v := (1 : Int32)) (by decide) ?_
          cases hf
          exact jr_zret K E (D_at DX12_readAtom_q5 3 rfl) rfl (Or.inr rfl) ⟨rfl, rfl⟩
        · replace hf := (if_pos c90).symm.trans hf
          refine jr_iconst K (D_at DX12_readAtom_q4 2 rfl) (v := (0 : Int32)) (by decide) ?_
          cases hf
          exact jr_zret K E (D_at DX12_readAtom_q4 3 rfl) rfl (Or.inl rfl) ⟨rfl, rfl⟩
      · replace hf := (if_pos c71).symm.trans hf
        refine jr_iconst K (D_at DX12_readAtom_q3 3 rfl) (v := (0 : Int32)) (by decide) ?_
        cases hf
        exact jr_zret K E (D_at DX12_readAtom_q3 4 rfl) rfl (Or.inl rfl) ⟨rfl, rfl⟩
  · replace hf := (if_neg c6).symm.trans hf
    refine jr_aload_n K (D_at DX12_readAtom_q0 4 rfl) rfl rfl ?_
    obtain ⟨v10, e10, hf⟩ := jbind hf
    refine jr_getI K (D_at DX12_readAtom_q0 5 rfl) fg_X12_203_10 e10 ?_
    refine jr_bipush K (D_at DX12_readAtom_q0 6 rfl) (v := (6 : Int32)) (by decide) ?_
    refine jr_icmp_ne K (D_at DX12_readAtom_q0 7 rfl) (tgt := 20) (by decide) (fun c15 => ?_) (fun c15 => ?_)
    · replace hf := (if_neg c15).symm.trans hf
      refine jr_aload_n K (D_at DX12_readAtom_q0 10 rfl) rfl rfl ?_
      refine jr_dup K (D_at DX12_readAtom_q0 11 rfl) rfl ?_
      obtain ⟨v22, e22, hf⟩ := jbind hf
      refine jr_getI K (D_at DX12_readAtom_q1 0 rfl) fg_X12_203_10 e22 ?_
      refine jr_iconst K (D_at DX12_readAtom_q1 1 rfl) (v := (1 : Int32)) (by decide) ?_
      refine jr_iadd K (D_at DX12_readAtom_q1 2 rfl) ?_
      obtain ⟨h27, e27, hf⟩ := jbind hf
      refine jr_putI K (D_at DX12_readAtom_q1 3 rfl) fp_X12_203_10 (Or.inl rfl) e27 ?_
      refine jr_aload_n K (D_at DX12_readAtom_q1 4 rfl) rfl rfl ?_
      obtain ⟨q31, e31, hf⟩ := jbind hf
      obtain ⟨rc_31, e31⟩ := jcv_o e31
      refine jr_callV K (hg0 a0 h27 _ e31) (D_at DX12_readAtom_q1 5 rfl) cv_X12_206_X12_readCond (As := []) (ci := 10) rfl rc_31 rfl rfl (by exact Nat.le_of_ble_eq_true rfl) (kc2 := 0) (ks2 := 0) rfl rfl (fun k9 h9 w9 => by cases w9.1) (fun r9 h9 w9 => ?_)
      obtain ⟨w1, w2⟩ := w9
      subst h9
      cases w1
      show jJ G X _ 0 0 _ _ (.int q31.1 :: _)
      refine jr_if_ne K (D_at DX12_readAtom_q1 6 rfl) (tgt := 39) (by decide) (fun c34 => ?_) (fun c34 => ?_)
      · replace hf := (if_neg c34).symm.trans hf
        refine jr_aload_n K (D_at DX12_readAtom_q1 9 rfl) rfl rfl ?_
        refine jr_dup K (D_at DX12_readAtom_q1 10 rfl) rfl ?_
        obtain ⟨v41, e41, hf⟩ := jbind hf
        refine jr_getI K (D_at DX12_readAtom_q1 11 rfl) fg_X12_203_10 e41 ?_
        refine jr_iconst K (D_at DX12_readAtom_q2 0 rfl) (v := (1 : Int32)) (by decide) ?_
        refine jr_isub K (D_at DX12_readAtom_q2 1 rfl) ?_
        obtain ⟨h46, e46, hf⟩ := jbind hf
        refine jr_putI K (D_at DX12_readAtom_q2 2 rfl) fp_X12_203_10 (Or.inl rfl) e46 ?_
        refine jr_aload_n K (D_at DX12_readAtom_q2 3 rfl) rfl rfl ?_
        refine jr_bipush K (D_at DX12_readAtom_q2 4 rfl) (v := (41 : Int32)) (by decide) ?_
        obtain ⟨q52, e52, hf⟩ := jbind hf
        obtain ⟨rc_52, e52⟩ := jcv_o e52
        refine jr_callV K (jC_le (k := 2) (Nat.le_trans (by decide) hD9) (fun d => C_X12_sign d e52)) (D_at DX12_readAtom_q2 5 rfl) cv_X12_195_X12_sign (As := [.int (41 : Int32)]) (ci := 10) rfl rc_52 rfl rfl (by exact Nat.le_of_ble_eq_true rfl) (kc2 := 0) (ks2 := 0) rfl rfl (fun k9 h9 w9 => by cases w9.1) (fun r9 h9 w9 => ?_)
        obtain ⟨w1, w2⟩ := w9
        subst h9
        cases w1
        show jJ G X _ 0 0 _ _ (.int q52.1 :: _)
        by_cases z9 : q52.1 = 0 ∨ q52.1 = 1
        · replace hf := (if_pos z9).symm.trans hf
          cases hf
          exact jr_zret K E (D_at DX12_readAtom_q2 6 rfl) rfl z9 ⟨rfl, rfl⟩
        · exact jno (show (none : Option (Int32 × jH)) = some res from (if_neg z9).symm.trans hf)
      · replace hf := (if_pos c34).symm.trans hf
        refine jr_iconst K (D_at DX12_readAtom_q1 7 rfl) (v := (0 : Int32)) (by decide) ?_
        cases hf
        exact jr_zret K E (D_at DX12_readAtom_q1 8 rfl) rfl (Or.inl rfl) ⟨rfl, rfl⟩
    · replace hf := (if_pos c15).symm.trans hf
      refine jr_iconst K (D_at DX12_readAtom_q0 8 rfl) (v := (0 : Int32)) (by decide) ?_
      cases hf
      exact jr_zret K E (D_at DX12_readAtom_q0 9 rfl) rfl (Or.inl rfl) ⟨rfl, rfl⟩
theorem C_X12_readAtom {G : jG} {l : Launch} {D9 n : Nat} (hD9 : 10 ≤ D9) {g0 : Nat → jH → Option (Int32 × jH)} (hg0 : ∀ (b0 : Nat) (h : jH) (r : (Int32 × jH)), g0 b0 h = some r → jC G l mX12_readCond D9 0 0 [.ref b0] h (jPW r)) {g1 : Nat → jH → Option (Int32 × jH)} (hg1 : ∀ (b0 : Nat) (h : jH) (r : (Int32 × jH)), g1 b0 h = some r → jC G l mX12_readAtom D9 0 0 [.ref b0] h (jPW r)) {g2 : Nat → jH → Option (Int32 × jH)} (hg2 : ∀ (b0 : Nat) (h : jH) (r : (Int32 × jH)), g2 b0 h = some r → jC G l mX12_readAllOf D9 0 0 [.ref b0] h (jPW r)) {a0 : Nat} {h : jH} {res : (Int32 × jH)} (hf : F_X12_readAtom n g0 g1 g2 a0 h = some res) : jC G l mX12_readAtom (D9 + 1) 0 0 [.ref a0] h (jPW res) :=
  jC.of pn_X12 (jcats rfl) (Nat.le_of_ble_eq_true rfl) (fun X K E => J_X12_readAtom hD9 K n g0 hg0 g1 hg1 g2 hg2 E a0 h hf)
set_option maxHeartbeats 400000 in
set_option maxRecDepth 100000 in
theorem J_X12_readAllOf_9_b {G : jG} {l : Launch} {D9 : Nat} (hD9 : 10 ≤ D9) {X : jX} {res : (Int32 × jH)} (K : jOK G l mX12_readAllOf (D9 + 1) X) (n : Nat) (g0 : Nat → jH → Option (Int32 × jH)) (hg0 : ∀ (b0 : Nat) (h : jH) (r : (Int32 × jH)), g0 b0 h = some r → jC G l mX12_readCond D9 0 0 [.ref b0] h (jPW r)) (g1 : Nat → jH → Option (Int32 × jH)) (hg1 : ∀ (b0 : Nat) (h : jH) (r : (Int32 × jH)), g1 b0 h = some r → jC G l mX12_readAtom D9 0 0 [.ref b0] h (jPW r)) (g2 : Nat → jH → Option (Int32 × jH)) (hg2 : ∀ (b0 : Nat) (h : jH) (r : (Int32 × jH)), g2 b0 h = some r → jC G l mX12_readAllOf D9 0 0 [.ref b0] h (jPW r)) (rc9 : Nat → jH → Option (Int32 × jH)) (hr9 : ∀ (a0 : Nat) (h : jH), rc9 a0 h = some res → jJ G X h 0 0 9 [some (.ref a0)] []) (E : jEnd G mX12_readAllOf (jPW res) X) (a0 : Nat) (h : jH) (hf : F_X12_readAllOf_9_b n g0 g1 g2 rc9 a0 h = some res) : jJ G X h 0 0 9 [some (.ref a0)] [] := by
  unfold F_X12_readAllOf_9_b at hf
  refine jr_aload_n K (D_at DX12_readAllOf_q0 5 rfl) rfl rfl ?_
  refine jr_ldcS K (D_at DX12_readAllOf_q0 6 rfl) (i := 34) rfl ?_
  obtain ⟨q12, e12, hf⟩ := jbind hf
  obtain ⟨rc_12, e12⟩ := jcv_o e12
  refine jr_callV K (jC_le (k := 7) (Nat.le_trans (by decide) hD9) (fun d => C_X12_passes d e12)) (D_at DX12_readAllOf_q0 7 rfl) cv_X12_139_X12_passes (As := [.ref (G.2.2.2 (10 + 2 * 34))]) (ci := 10) rfl rc_12 rfl rfl (by exact Nat.le_of_ble_eq_true rfl) (kc2 := 0) (ks2 := 0) rfl rfl (fun k9 h9 w9 => by cases w9.1) (fun r9 h9 w9 => ?_)
  obtain ⟨w1, w2⟩ := w9
  subst h9
  cases w1
  show jJ G X _ 0 0 _ _ (.int q12.1 :: _)
  refine jr_if_eq K (D_at DX12_readAllOf_q0 8 rfl) (tgt := 37) (by decide) (fun c15 => ?_) (fun c15 => ?_)
  · replace hf := (if_pos c15).symm.trans hf
    refine jr_iconst K (D_at DX12_readAllOf_q1 7 rfl) (v := (1 : Int32)) (by decide) ?_
    cases hf
    exact jr_zret K E (D_at DX12_readAllOf_q1 8 rfl) rfl (Or.inr rfl) ⟨rfl, rfl⟩
  · replace hf := (if_neg c15).symm.trans hf
    refine jr_aload_n K (D_at DX12_readAllOf_q0 9 rfl) rfl rfl ?_
    obtain ⟨q19, e19, hf⟩ := jbind hf
    obtain ⟨rc_19, e19⟩ := jcv_o e19
    refine jr_callV K (hg1 a0 q12.2 _ e19) (D_at DX12_readAllOf_q0 10 rfl) cv_X12_211_X12_readAtom (As := []) (ci := 10) rfl rc_19 rfl rfl (by exact Nat.le_of_ble_eq_true rfl) (kc2 := 0) (ks2 := 0) rfl rfl (fun k9 h9 w9 => by cases w9.1) (fun r9 h9 w9 => ?_)
    obtain ⟨w1, w2⟩ := w9
    subst h9
    cases w1
    show jJ G X _ 0 0 _ _ (.int q19.1 :: _)
    refine jr_if_ne K (D_at DX12_readAllOf_q0 11 rfl) (tgt := 27) (by decide) (fun c22 => ?_) (fun c22 => ?_)
    · replace hf := (if_neg c22).symm.trans hf
      refine jr_aload_n K (D_at DX12_readAllOf_q1 2 rfl) rfl rfl ?_
      refine jr_bipush K (D_at DX12_readAllOf_q1 3 rfl) (v := (16 : Int32)) (by decide) ?_
      refine jr_iconst K (D_at DX12_readAllOf_q1 4 rfl) (v := (0 : Int32)) (by decide) ?_
      obtain ⟨h31, e31, hf⟩ := jbind hf
      obtain ⟨rc_31, e31⟩ := jcv_o e31
      refine jr_callV K (jC_le (k := 0) (Nat.le_trans (by decide) hD9) (fun d => C_X12_emits d e31)) (D_at DX12_readAllOf_q1 5 rfl) cv_X12_189_X12_emits (As := [.int (16 : Int32), .int (0 : Int32)]) (ci := 10) rfl rc_31 rfl rfl (by exact Nat.le_of_ble_eq_true rfl) (kc2 := 0) (ks2 := 0) rfl rfl (fun k9 h9 w9 => by cases w9.1) (fun r9 h9 w9 => ?_)
      obtain ⟨w1, w2⟩ := w9
      subst h9
      cases w1
      show jJ G X _ 0 0 _ _ []
      refine jr_goto K (D_at DX12_readAllOf_q1 6 rfl) (tgt := 9) (by decide) ?_
      refine jr_keep [true] ?_
      exact hr9 a0 h31 hf
    · replace hf := (if_pos c22).symm.trans hf
      refine jr_iconst K (D_at DX12_readAllOf_q1 0 rfl) (v := (0 : Int32)) (by decide) ?_
      cases hf
      exact jr_zret K E (D_at DX12_readAllOf_q1 1 rfl) rfl (Or.inl rfl) ⟨rfl, rfl⟩
theorem J_X12_readAllOf_9 {G : jG} {l : Launch} {D9 : Nat} (hD9 : 10 ≤ D9) {X : jX} {res : (Int32 × jH)} (K : jOK G l mX12_readAllOf (D9 + 1) X) (n : Nat) (g0 : Nat → jH → Option (Int32 × jH)) (hg0 : ∀ (b0 : Nat) (h : jH) (r : (Int32 × jH)), g0 b0 h = some r → jC G l mX12_readCond D9 0 0 [.ref b0] h (jPW r)) (g1 : Nat → jH → Option (Int32 × jH)) (hg1 : ∀ (b0 : Nat) (h : jH) (r : (Int32 × jH)), g1 b0 h = some r → jC G l mX12_readAtom D9 0 0 [.ref b0] h (jPW r)) (g2 : Nat → jH → Option (Int32 × jH)) (hg2 : ∀ (b0 : Nat) (h : jH) (r : (Int32 × jH)), g2 b0 h = some r → jC G l mX12_readAllOf D9 0 0 [.ref b0] h (jPW r)) (E : jEnd G mX12_readAllOf (jPW res) X) (k : Nat) : ∀ (a0 : Nat) (h : jH), F_X12_readAllOf_9 n g0 g1 g2 k a0 h = some res → jJ G X h 0 0 9 [some (.ref a0)] [] := by
  induction k with
  | zero =>
    intro a0 h hf
    exact jno (show (none : Option (Int32 × jH)) = some res from hf)
  | succ k ih =>
    intro a0 h hf
    exact J_X12_readAllOf_9_b hD9 K n g0 hg0 g1 hg1 g2 hg2 (F_X12_readAllOf_9 n g0 g1 g2 k) ih E a0 h hf
set_option maxHeartbeats 400000 in
set_option maxRecDepth 100000 in
theorem J_X12_readAllOf {G : jG} {l : Launch} {D9 : Nat} (hD9 : 10 ≤ D9) {X : jX} {res : (Int32 × jH)} (K : jOK G l mX12_readAllOf (D9 + 1) X) (n : Nat) (g0 : Nat → jH → Option (Int32 × jH)) (hg0 : ∀ (b0 : Nat) (h : jH) (r : (Int32 × jH)), g0 b0 h = some r → jC G l mX12_readCond D9 0 0 [.ref b0] h (jPW r)) (g1 : Nat → jH → Option (Int32 × jH)) (hg1 : ∀ (b0 : Nat) (h : jH) (r : (Int32 × jH)), g1 b0 h = some r → jC G l mX12_readAtom D9 0 0 [.ref b0] h (jPW r)) (g2 : Nat → jH → Option (Int32 × jH)) (hg2 : ∀ (b0 : Nat) (h : jH) (r : (Int32 × jH)), g2 b0 h = some r → jC G l mX12_readAllOf D9 0 0 [.ref b0] h (jPW r)) (E : jEnd G mX12_readAllOf (jPW res) X) (a0 : Nat) (h : jH) (hf : F_X12_readAllOf n g0 g1 g2 a0 h = some res) : jJ G X h 0 0 0 [some (.ref a0)] [] := by
  unfold F_X12_readAllOf at hf
  refine jr_aload_n K (D_at DX12_readAllOf_q0 0 rfl) rfl rfl ?_
  obtain ⟨q1, e1, hf⟩ := jbind hf
  obtain ⟨rc_1, e1⟩ := jcv_o e1
  refine jr_callV K (hg1 a0 h _ e1) (D_at DX12_readAllOf_q0 1 rfl) cv_X12_211_X12_readAtom (As := []) (ci := 10) rfl rc_1 rfl rfl (by exact Nat.le_of_ble_eq_true rfl) (kc2 := 0) (ks2 := 0) rfl rfl (fun k9 h9 w9 => by cases w9.1) (fun r9 h9 w9 => ?_)
  obtain ⟨w1, w2⟩ := w9
  subst h9
  cases w1
  show jJ G X _ 0 0 _ _ (.int q1.1 :: _)
  refine jr_if_ne K (D_at DX12_readAllOf_q0 2 rfl) (tgt := 9) (by decide) (fun c4 => ?_) (fun c4 => ?_)
  · replace hf := (if_neg c4).symm.trans hf
    refine jr_keep [true] ?_
    exact J_X12_readAllOf_9 hD9 K n g0 hg0 g1 hg1 g2 hg2 E n a0 q1.2 hf
  · replace hf := (if_pos c4).symm.trans hf
    refine jr_iconst K (D_at DX12_readAllOf_q0 3 rfl) (v := (0 : Int32)) (by decide) ?_
    cases hf
    exact jr_zret K E (D_at DX12_readAllOf_q0 4 rfl) rfl (Or.inl rfl) ⟨rfl, rfl⟩
theorem C_X12_readAllOf {G : jG} {l : Launch} {D9 n : Nat} (hD9 : 10 ≤ D9) {g0 : Nat → jH → Option (Int32 × jH)} (hg0 : ∀ (b0 : Nat) (h : jH) (r : (Int32 × jH)), g0 b0 h = some r → jC G l mX12_readCond D9 0 0 [.ref b0] h (jPW r)) {g1 : Nat → jH → Option (Int32 × jH)} (hg1 : ∀ (b0 : Nat) (h : jH) (r : (Int32 × jH)), g1 b0 h = some r → jC G l mX12_readAtom D9 0 0 [.ref b0] h (jPW r)) {g2 : Nat → jH → Option (Int32 × jH)} (hg2 : ∀ (b0 : Nat) (h : jH) (r : (Int32 × jH)), g2 b0 h = some r → jC G l mX12_readAllOf D9 0 0 [.ref b0] h (jPW r)) {a0 : Nat} {h : jH} {res : (Int32 × jH)} (hf : F_X12_readAllOf n g0 g1 g2 a0 h = some res) : jC G l mX12_readAllOf (D9 + 1) 0 0 [.ref a0] h (jPW res) :=
  jC.of pn_X12 (jcats rfl) (Nat.le_of_ble_eq_true rfl) (fun X K E => J_X12_readAllOf hD9 K n g0 hg0 g1 hg1 g2 hg2 E a0 h hf)
theorem CG_MC {G : jG} {l : Launch} {n : Nat} {D : Nat} (hD : 10 ≤ D) (i : Nat) : (∀ (b0 : Nat) (h : jH) (r : (Int32 × jH)), FG_MC n i 0 b0 h = some r → jC G l mX12_readCond (D + i) 0 0 [.ref b0] h (jPW r)) ∧ (∀ (b0 : Nat) (h : jH) (r : (Int32 × jH)), FG_MC n i 1 b0 h = some r → jC G l mX12_readAtom (D + i) 0 0 [.ref b0] h (jPW r)) ∧ (∀ (b0 : Nat) (h : jH) (r : (Int32 × jH)), FG_MC n i 2 b0 h = some r → jC G l mX12_readAllOf (D + i) 0 0 [.ref b0] h (jPW r)) := by
  induction i with
  | zero =>
    refine ⟨?_, ?_, ?_⟩ <;> intro b0 h r hf <;> exact jno (show (none : Option (Int32 × jH)) = some r from hf)
  | succ i ih =>
    obtain ⟨ih0, ih1, ih2⟩ := ih
    refine ⟨?_, ?_, ?_⟩
    · intro b0 h r hf
      exact C_X12_readCond (D9 := D + i) (by omega) ih0 ih1 ih2 hf
    · intro b0 h r hf
      exact C_X12_readAtom (D9 := D + i) (by omega) ih0 ih1 ih2 hf
    · intro b0 h r hf
      exact C_X12_readAllOf (D9 := D + i) (by omega) ih0 ih1 ih2 hf
theorem CG_MC_0 {G : jG} {l : Launch} {n : Nat} (d i : Nat) {b0 : Nat} {h : jH} {r : (Int32 × jH)} (hf : FG_MC n i 0 b0 h = some r) : jC G l mX12_readCond (d + (10 + i)) 0 0 [.ref b0] h (jPW r) := by
  have := (CG_MC (G := G) (l := l) (n := n) (D := d + 10) (Nat.le_add_left _ _) i).1 b0 h r hf
  rwa [Nat.add_assoc] at this
theorem CG_MC_1 {G : jG} {l : Launch} {n : Nat} (d i : Nat) {b0 : Nat} {h : jH} {r : (Int32 × jH)} (hf : FG_MC n i 1 b0 h = some r) : jC G l mX12_readAtom (d + (10 + i)) 0 0 [.ref b0] h (jPW r) := by
  have := (CG_MC (G := G) (l := l) (n := n) (D := d + 10) (Nat.le_add_left _ _) i).2.1 b0 h r hf
  rwa [Nat.add_assoc] at this
theorem CG_MC_2 {G : jG} {l : Launch} {n : Nat} (d i : Nat) {b0 : Nat} {h : jH} {r : (Int32 × jH)} (hf : FG_MC n i 2 b0 h = some r) : jC G l mX12_readAllOf (d + (10 + i)) 0 0 [.ref b0] h (jPW r) := by
  have := (CG_MC (G := G) (l := l) (n := n) (D := d + 10) (Nat.le_add_left _ _) i).2.2 b0 h r hf
  rwa [Nat.add_assoc] at this
set_option maxHeartbeats 400000 in
set_option maxRecDepth 100000 in
theorem J_X12_readLawLine_53 {G : jG} {l : Launch} {d : Nat} {X : jX} {res : (Int32 × jH)} (K : jOK G l mX12_readLawLine (d + 41) X) (n : Nat) (E : jEnd G mX12_readLawLine (jPW res) X) (a0 : Nat) (x2 : Int32) (sa0 : Nat) (s1 : Int32) (s2 : Int32) (h : jH) (hf : F_X12_readLawLine_53 n a0 x2 sa0 s1 s2 h = some res) : jJ G X h 0 0 53 [some (.ref a0), none, some (.int x2)] [.int s2, .int s1, .ref sa0] := by
  unfold F_X12_readLawLine_53 at hf
  obtain ⟨h53, e53, hf⟩ := jbind hf
  refine jr_iast K (D_at DX12_readLawLine_q2 4 rfl) e53 ?_
  refine jr_aload_n K (D_at DX12_readLawLine_q2 5 rfl) rfl rfl ?_
  obtain ⟨p55, e55, hf⟩ := jbind hf
  refine jr_getR K (D_at DX12_readLawLine_q2 6 rfl) fg_X12_13_10 e55 ?_
  refine jr_iload_n K (D_at DX12_readLawLine_q2 7 rfl) rfl rfl ?_
  obtain ⟨v59, e59, hf⟩ := jbind hf
  refine jr_iald K (D_at DX12_readLawLine_q2 8 rfl) e59 ?_
  refine jr_if_ge K (D_at DX12_readLawLine_q2 9 rfl) (tgt := 65) (by decide) (fun c60 => ?_) (fun c60 => ?_)
  · replace hf := (if_pos c60).symm.trans hf
    refine jr_aload_n K (D_at DX12_readLawLine_q3 0 rfl) rfl rfl ?_
    obtain ⟨p66, e66, hf⟩ := jbind hf
    refine jr_getR K (D_at DX12_readLawLine_q3 1 rfl) fg_X12_13_10 e66 ?_
    refine jr_iload_n K (D_at DX12_readLawLine_q3 2 rfl) rfl rfl ?_
    refine jr_iconst K (D_at DX12_readLawLine_q3 3 rfl) (v := (1 : Int32)) (by decide) ?_
    refine jr_iadd K (D_at DX12_readLawLine_q3 4 rfl) ?_
    refine jr_aload_n K (D_at DX12_readLawLine_q3 5 rfl) rfl rfl ?_
    refine jr_iconst K (D_at DX12_readLawLine_q3 6 rfl) (v := (0 : Int32)) (by decide) ?_
    refine jr_bipush K (D_at DX12_readLawLine_q3 7 rfl) (v := (100 : Int32)) (by decide) ?_
    obtain ⟨q76, e76, hf⟩ := jbind hf
    obtain ⟨rc_76, e76⟩ := jcv_o e76
    refine jr_callV K (C_X12_number (d + 38) e76) (D_at DX12_readLawLine_q3 8 rfl) cv_X12_116_X12_number (As := [.int (0 : Int32), .int (100 : Int32)]) (ci := 10) rfl rc_76 rfl rfl (by exact Nat.le_of_ble_eq_true rfl) (kc2 := 0) (ks2 := 0) rfl rfl (fun k9 h9 w9 => by cases w9.1) (fun r9 h9 w9 => ?_)
    obtain ⟨w1, w2⟩ := w9
    subst h9
    cases w1
    show jJ G X _ 0 0 _ _ (.int q76.1 :: _)
    obtain ⟨h79, e79, hf⟩ := jbind hf
    refine jr_iast K (D_at DX12_readLawLine_q3 9 rfl) e79 ?_
    refine jr_aload_n K (D_at DX12_readLawLine_q3 10 rfl) rfl rfl ?_
    obtain ⟨p81, e81, hf⟩ := jbind hf
    refine jr_getR K (D_at DX12_readLawLine_q3 11 rfl) fg_X12_13_10 e81 ?_
    refine jr_iload_n K (D_at DX12_readLawLine_q4 0 rfl) rfl rfl ?_
    refine jr_iconst K (D_at DX12_readLawLine_q4 1 rfl) (v := (1 : Int32)) (by decide) ?_
    refine jr_iadd K (D_at DX12_readLawLine_q4 2 rfl) ?_
    obtain ⟨v87, e87, hf⟩ := jbind hf
    refine jr_iald K (D_at DX12_readLawLine_q4 3 rfl) e87 ?_
    refine jr_if_ge K (D_at DX12_readLawLine_q4 4 rfl) (tgt := 93) (by decide) (fun c88 => ?_) (fun c88 => ?_)
    · replace hf := (if_pos c88).symm.trans hf
      refine jr_aload_n K (D_at DX12_readLawLine_q4 7 rfl) rfl rfl ?_
      obtain ⟨p94, e94, hf⟩ := jbind hf
      refine jr_getR K (D_at DX12_readLawLine_q4 8 rfl) fg_X12_13_10 e94 ?_
      refine jr_iload_n K (D_at DX12_readLawLine_q4 9 rfl) rfl rfl ?_
      refine jr_iconst K (D_at DX12_readLawLine_q4 10 rfl) (v := (2 : Int32)) (by decide) ?_
      refine jr_iadd K (D_at DX12_readLawLine_q4 11 rfl) ?_
      refine jr_aload_n K (D_at DX12_readLawLine_q5 0 rfl) rfl rfl ?_
      obtain ⟨v101, e101, hf⟩ := jbind hf
      refine jr_getI K (D_at DX12_readLawLine_q5 1 rfl) fg_X12_179_10 e101 ?_
      obtain ⟨h104, e104, hf⟩ := jbind hf
      refine jr_iast K (D_at DX12_readLawLine_q5 2 rfl) e104 ?_
      refine jr_aload_n K (D_at DX12_readLawLine_q5 3 rfl) rfl rfl ?_
      refine jr_iconst K (D_at DX12_readLawLine_1_q0 0 rfl) (v := (0 : Int32)) (by decide) ?_
      obtain ⟨h107, e107, hf⟩ := jbind hf
      refine jr_putI K (D_at DX12_readLawLine_1_q0 1 rfl) fp_X12_203_10 (Or.inl rfl) e107 ?_
      refine jr_aload_n K (D_at DX12_readLawLine_1_q0 2 rfl) rfl rfl ?_
      refine jr_ldcS K (D_at DX12_readLawLine_1_q0 3 rfl) (i := 28) rfl ?_
      obtain ⟨q113, e113, hf⟩ := jbind hf
      obtain ⟨rc_113, e113⟩ := jcv_o e113
      refine jr_callV K (C_X12_passes (d + 33) e113) (D_at DX12_readLawLine_1_q0 4 rfl) cv_X12_139_X12_passes (As := [.ref (G.2.2.2 (10 + 2 * 28))]) (ci := 10) rfl rc_113 rfl rfl (by exact Nat.le_of_ble_eq_true rfl) (kc2 := 0) (ks2 := 0) rfl rfl (fun k9 h9 w9 => by cases w9.1) (fun r9 h9 w9 => ?_)
      obtain ⟨w1, w2⟩ := w9
      subst h9
      cases w1
      show jJ G X _ 0 0 _ _ (.int q113.1 :: _)
      refine jr_if_eq K (D_at DX12_readLawLine_1_q0 5 rfl) (tgt := 128) (by decide) (fun c116 => ?_) (fun c116 => ?_)
      · replace hf := (if_pos c116).symm.trans hf
        refine jr_aload_n K (D_at DX12_readLawLine_1_q0 11 rfl) rfl rfl ?_
        obtain ⟨p129, e129, hf⟩ := jbind hf
        refine jr_getR K (D_at DX12_readLawLine_1_q1 0 rfl) fg_X12_13_10 e129 ?_
        refine jr_iload_n K (D_at DX12_readLawLine_1_q1 1 rfl) rfl rfl ?_
        refine jr_iconst K (D_at DX12_readLawLine_1_q1 2 rfl) (v := (3 : Int32)) (by decide) ?_
        refine jr_iadd K (D_at DX12_readLawLine_1_q1 3 rfl) ?_
        refine jr_aload_n K (D_at DX12_readLawLine_1_q1 4 rfl) rfl rfl ?_
        obtain ⟨v136, e136, hf⟩ := jbind hf
        refine jr_getI K (D_at DX12_readLawLine_1_q1 5 rfl) fg_X12_179_10 e136 ?_
        obtain ⟨h139, e139, hf⟩ := jbind hf
        refine jr_iast K (D_at DX12_readLawLine_1_q1 6 rfl) e139 ?_
        refine jr_iconst K (D_at DX12_readLawLine_1_q1 7 rfl) (v := (1 : Int32)) (by decide) ?_
        cases hf
        exact jr_zret K E (D_at DX12_readLawLine_1_q1 8 rfl) rfl (Or.inr rfl) ⟨rfl, rfl⟩
      · replace hf := (if_neg c116).symm.trans hf
        refine jr_aload_n K (D_at DX12_readLawLine_1_q0 6 rfl) rfl rfl ?_
        obtain ⟨q120, e120, hf⟩ := jbind hf
        obtain ⟨rc_120, e120⟩ := jcv_o e120
        refine jr_callV K (CG_MC_0 (d + 0) 30 e120) (D_at DX12_readLawLine_1_q0 7 rfl) cv_X12_206_X12_readCond (As := []) (ci := 10) rfl rc_120 rfl rfl (by exact Nat.le_of_ble_eq_true rfl) (kc2 := 0) (ks2 := 0) rfl rfl (fun k9 h9 w9 => by cases w9.1) (fun r9 h9 w9 => ?_)
        obtain ⟨w1, w2⟩ := w9
        subst h9
        cases w1
        show jJ G X _ 0 0 _ _ (.int q120.1 :: _)
        refine jr_if_ne K (D_at DX12_readLawLine_1_q0 8 rfl) (tgt := 128) (by decide) (fun c123 => ?_) (fun c123 => ?_)
        · replace hf := (if_neg c123).symm.trans hf
          refine jr_aload_n K (D_at DX12_readLawLine_1_q0 11 rfl) rfl rfl ?_
          obtain ⟨p129, e129, hf⟩ := jbind hf
          refine jr_getR K (D_at DX12_readLawLine_1_q1 0 rfl) fg_X12_13_10 e129 ?_
          refine jr_iload_n K (D_at DX12_readLawLine_1_q1 1 rfl) rfl rfl ?_
          refine jr_iconst K (D_at DX12_readLawLine_1_q1 2 rfl) (v := (3 : Int32)) (by decide) ?_
          refine jr_iadd K (D_at DX12_readLawLine_1_q1 3 rfl) ?_
          refine jr_aload_n K (D_at DX12_readLawLine_1_q1 4 rfl) rfl rfl ?_
          obtain ⟨v136, e136, hf⟩ := jbind hf
          refine jr_getI K (D_at DX12_readLawLine_1_q1 5 rfl) fg_X12_179_10 e136 ?_
          obtain ⟨h139, e139, hf⟩ := jbind hf
          refine jr_iast K (D_at DX12_readLawLine_1_q1 6 rfl) e139 ?_
          refine jr_iconst K (D_at DX12_readLawLine_1_q1 7 rfl) (v := (1 : Int32)) (by decide) ?_
          cases hf
          exact jr_zret K E (D_at DX12_readLawLine_1_q1 8 rfl) rfl (Or.inr rfl) ⟨rfl, rfl⟩
        · replace hf := (if_pos c123).symm.trans hf
          refine jr_iconst K (D_at DX12_readLawLine_1_q0 9 rfl) (v := (0 : Int32)) (by decide) ?_
          cases hf
          exact jr_zret K E (D_at DX12_readLawLine_1_q0 10 rfl) rfl (Or.inl rfl) ⟨rfl, rfl⟩
    · replace hf := (if_neg c88).symm.trans hf
      refine jr_iconst K (D_at DX12_readLawLine_q4 5 rfl) (v := (0 : Int32)) (by decide) ?_
      cases hf
      exact jr_zret K E (D_at DX12_readLawLine_q4 6 rfl) rfl (Or.inl rfl) ⟨rfl, rfl⟩
  · replace hf := (if_neg c60).symm.trans hf
    refine jr_iconst K (D_at DX12_readLawLine_q2 10 rfl) (v := (0 : Int32)) (by decide) ?_
    cases hf
    exact jr_zret K E (D_at DX12_readLawLine_q2 11 rfl) rfl (Or.inl rfl) ⟨rfl, rfl⟩
set_option maxHeartbeats 400000 in
set_option maxRecDepth 100000 in
theorem J_X12_readLawLine {G : jG} {l : Launch} {d : Nat} {X : jX} {res : (Int32 × jH)} (K : jOK G l mX12_readLawLine (d + 41) X) (n : Nat) (E : jEnd G mX12_readLawLine (jPW res) X) (a0 : Nat) (x1 : Int32) (h : jH) (hf : F_X12_readLawLine n a0 x1 h = some res) : jJ G X h 0 0 0 [some (.ref a0), some (.int x1), none] [] := by
  unfold F_X12_readLawLine at hf
  refine jr_sipush K (D_at DX12_readLawLine_q0 0 rfl) (v := (1285 : Int32)) (by decide) ?_
  refine jr_iconst K (D_at DX12_readLawLine_q0 1 rfl) (v := (4 : Int32)) (by decide) ?_
  refine jr_iload_n K (D_at DX12_readLawLine_q0 2 rfl) rfl rfl ?_
  refine jr_imul K (D_at DX12_readLawLine_q0 3 rfl) ?_
  refine jr_iadd K (D_at DX12_readLawLine_q0 4 rfl) ?_
  refine jr_istore_n K (D_at DX12_readLawLine_q0 5 rfl) (i := 2) rfl (by decide) (L2 := [_, _, _]) rfl ?_
  refine jr_aload_n K (D_at DX12_readLawLine_q0 6 rfl) rfl rfl ?_
  obtain ⟨p9, e9, hf⟩ := jbind hf
  refine jr_getR K (D_at DX12_readLawLine_q0 7 rfl) fg_X12_13_10 e9 ?_
  refine jr_iload_n K (D_at DX12_readLawLine_q0 8 rfl) rfl rfl ?_
  refine jr_aload_n K (D_at DX12_readLawLine_q0 9 rfl) rfl rfl ?_
  refine jr_ldcS K (D_at DX12_readLawLine_q0 10 rfl) (i := 18) rfl ?_
  obtain ⟨v16, e16, hf⟩ := jbind hf
  obtain ⟨rc_16, e16⟩ := jcv_o e16
  refine jr_callV K (C_X12_isWord (d + 34) e16) (D_at DX12_readLawLine_q0 11 rfl) cv_X12_112_X12_isWord (As := [.ref (G.2.2.2 (10 + 2 * 18))]) (ci := 10) rfl rc_16 rfl rfl (by exact Nat.le_of_ble_eq_true rfl) (kc2 := 0) (ks2 := 0) rfl rfl (fun k9 h9 w9 => by cases w9.1) (fun r9 h9 w9 => ?_)
  obtain ⟨w1, w2⟩ := w9
  subst h9
  cases w1
  show jJ G X _ 0 0 _ _ (.int v16 :: _)
  refine jr_if_eq K (D_at DX12_readLawLine_q1 0 rfl) (tgt := 26) (by decide) (fun c19 => ?_) (fun c19 => ?_)
  · replace hf := (if_pos c19).symm.trans hf
    refine jr_aload_n K (D_at DX12_readLawLine_q1 3 rfl) rfl rfl ?_
    refine jr_ldcS K (D_at DX12_readLawLine_q1 4 rfl) (i := 26) rfl ?_
    obtain ⟨v29, e29, hf⟩ := jbind hf
    obtain ⟨rc_29, e29⟩ := jcv_o e29
    refine jr_callV K (C_X12_isWord (d + 34) e29) (D_at DX12_readLawLine_q1 5 rfl) cv_X12_112_X12_isWord (As := [.ref (G.2.2.2 (10 + 2 * 26))]) (ci := 10) rfl rc_29 rfl rfl (by exact Nat.le_of_ble_eq_true rfl) (kc2 := 0) (ks2 := 0) rfl rfl (fun k9 h9 w9 => by cases w9.1) (fun r9 h9 w9 => ?_)
    obtain ⟨w1, w2⟩ := w9
    subst h9
    cases w1
    show jJ G X _ 0 0 _ _ (.int v29 :: _)
    refine jr_if_eq K (D_at DX12_readLawLine_q1 6 rfl) (tgt := 39) (by decide) (fun c32 => ?_) (fun c32 => ?_)
    · replace hf := (if_pos c32).symm.trans hf
      refine jr_aload_n K (D_at DX12_readLawLine_q1 9 rfl) rfl rfl ?_
      refine jr_ldcS K (D_at DX12_readLawLine_q1 10 rfl) (i := 27) rfl ?_
      obtain ⟨v42, e42, hf⟩ := jbind hf
      obtain ⟨rc_42, e42⟩ := jcv_o e42
      refine jr_callV K (C_X12_isWord (d + 34) e42) (D_at DX12_readLawLine_q1 11 rfl) cv_X12_112_X12_isWord (As := [.ref (G.2.2.2 (10 + 2 * 27))]) (ci := 10) rfl rc_42 rfl rfl (by exact Nat.le_of_ble_eq_true rfl) (kc2 := 0) (ks2 := 0) rfl rfl (fun k9 h9 w9 => by cases w9.1) (fun r9 h9 w9 => ?_)
      obtain ⟨w1, w2⟩ := w9
      subst h9
      cases w1
      show jJ G X _ 0 0 _ _ (.int v42 :: _)
      refine jr_if_eq K (D_at DX12_readLawLine_q2 0 rfl) (tgt := 52) (by decide) (fun c45 => ?_) (fun c45 => ?_)
      · replace hf := (if_pos c45).symm.trans hf
        refine jr_iconst K (D_at DX12_readLawLine_q2 3 rfl) (v := (-1 : Int32)) (by decide) ?_
        refine jr_keep [true, false, true] ?_
        exact J_X12_readLawLine_53 K n E a0 ((1285 : Int32) + ((4 : Int32) * x1)) p9 ((1285 : Int32) + ((4 : Int32) * x1)) (-1 : Int32) h hf
      · replace hf := (if_neg c45).symm.trans hf
        refine jr_iconst K (D_at DX12_readLawLine_q2 1 rfl) (v := (2 : Int32)) (by decide) ?_
        refine jr_goto K (D_at DX12_readLawLine_q2 2 rfl) (tgt := 53) (by decide) ?_
        refine jr_keep [true, false, true] ?_
        exact J_X12_readLawLine_53 K n E a0 ((1285 : Int32) + ((4 : Int32) * x1)) p9 ((1285 : Int32) + ((4 : Int32) * x1)) (2 : Int32) h hf
    · replace hf := (if_neg c32).symm.trans hf
      refine jr_iconst K (D_at DX12_readLawLine_q1 7 rfl) (v := (1 : Int32)) (by decide) ?_
      refine jr_goto K (D_at DX12_readLawLine_q1 8 rfl) (tgt := 53) (by decide) ?_
      refine jr_keep [true, false, true] ?_
      exact J_X12_readLawLine_53 K n E a0 ((1285 : Int32) + ((4 : Int32) * x1)) p9 ((1285 : Int32) + ((4 : Int32) * x1)) (1 : Int32) h hf
  · replace hf := (if_neg c19).symm.trans hf
    refine jr_iconst K (D_at DX12_readLawLine_q1 1 rfl) (v := (0 : Int32)) (by decide) ?_
    refine jr_goto K (D_at DX12_readLawLine_q1 2 rfl) (tgt := 53) (by decide) ?_
    refine jr_keep [true, false, true] ?_
    exact J_X12_readLawLine_53 K n E a0 ((1285 : Int32) + ((4 : Int32) * x1)) p9 ((1285 : Int32) + ((4 : Int32) * x1)) (0 : Int32) h hf
theorem C_X12_readLawLine {G : jG} {l : Launch} (d : Nat) {n : Nat} {a0 : Nat} {x1 : Int32} {h : jH} {res : (Int32 × jH)} (hf : F_X12_readLawLine n a0 x1 h = some res) : jC G l mX12_readLawLine (d + 41) 0 0 [.ref a0, .int x1] h (jPW res) :=
  jC.of pn_X12 (jcats rfl) (Nat.le_of_ble_eq_true rfl) (fun X K E => J_X12_readLawLine K n E a0 x1 h hf)
set_option maxHeartbeats 400000 in
set_option maxRecDepth 100000 in
theorem J_X12_readLine_16 {G : jG} {l : Launch} {d : Nat} {X : jX} {res : (Int32 × jH)} (K : jOK G l mX12_readLine (d + 42) X) (n : Nat) (E : jEnd G mX12_readLine (jPW res) X) (a0 : Nat) (x1 : Int32) (x2 : Int32) (s0 : Int32) (s1 : Int32) (h : jH) (hf : F_X12_readLine_16 n a0 x1 x2 s0 s1 h = some res) : jJ G X h 0 0 16 [some (.ref a0), some (.int x1), some (.int x2)] [.int s1, .int s0] := by
  unfold F_X12_readLine_16 at hf
  refine jr_icmp_ge K (D_at DX12_readLine_q0 8 rfl) (tgt := 45) (by decide) (fun c16 => ?_) (fun c16 => ?_)
  · replace hf := (if_pos c16).symm.trans hf
    refine jr_iconst K (D_at DX12_readLine_q1 9 rfl) (v := (0 : Int32)) (by decide) ?_
    cases hf
    exact jr_zret K E (D_at DX12_readLine_q1 10 rfl) rfl (Or.inl rfl) ⟨rfl, rfl⟩
  · replace hf := (if_neg c16).symm.trans hf
    refine jr_iload_n K (D_at DX12_readLine_q0 9 rfl) rfl rfl ?_
    refine jr_if_eq K (D_at DX12_readLine_q0 10 rfl) (tgt := 33) (by decide) (fun c20 => ?_) (fun c20 => ?_)
    · replace hf := (if_pos c20).symm.trans hf
      refine jr_aload_n K (D_at DX12_readLine_q1 3 rfl) rfl rfl ?_
      refine jr_iload_n K (D_at DX12_readLine_q1 4 rfl) rfl rfl ?_
      obtain ⟨q35, e35, hf⟩ := jbind hf
      obtain ⟨rc_35, e35⟩ := jcv_o e35
      refine jr_callV K (C_X12_readLawLine (d) e35) (D_at DX12_readLine_q1 5 rfl) cv_X12_236_X12_readLawLine (As := [.int x2]) (ci := 10) rfl rc_35 rfl rfl (by exact Nat.le_of_ble_eq_true rfl) (kc2 := 0) (ks2 := 0) rfl rfl (fun k9 h9 w9 => by cases w9.1) (fun r9 h9 w9 => ?_)
      obtain ⟨w1, w2⟩ := w9
      subst h9
      cases w1
      show jJ G X _ 0 0 _ _ (.int q35.1 :: _)
      refine jr_if_eq K (D_at DX12_readLine_q1 6 rfl) (tgt := 45) (by decide) (fun c38 => ?_) (fun c38 => ?_)
      · replace hf := (if_pos c38).symm.trans hf
        refine jr_iconst K (D_at DX12_readLine_q1 9 rfl) (v := (0 : Int32)) (by decide) ?_
        cases hf
        exact jr_zret K E (D_at DX12_readLine_q1 10 rfl) rfl (Or.inl rfl) ⟨rfl, rfl⟩
      · replace hf := (if_neg c38).symm.trans hf
        refine jr_iconst K (D_at DX12_readLine_q1 7 rfl) (v := (1 : Int32)) (by decide) ?_
        refine jr_goto K (D_at DX12_readLine_q1 8 rfl) (tgt := 46) (by decide) ?_
        cases hf
        exact jr_zret K E (D_at DX12_readLine_q1 10 rfl) rfl (Or.inr rfl) ⟨rfl, rfl⟩
    · replace hf := (if_neg c20).symm.trans hf
      refine jr_aload_n K (D_at DX12_readLine_q0 11 rfl) rfl rfl ?_
      obtain ⟨q24, e24, hf⟩ := jbind hf
      obtain ⟨rc_24, e24⟩ := jcv_o e24
      refine jr_callV K (C_X12_readPoleLine (d + 32) e24) (D_at DX12_readLine_q1 0 rfl) cv_X12_233_X12_readPoleLine (As := []) (ci := 10) rfl rc_24 rfl rfl (by exact Nat.le_of_ble_eq_true rfl) (kc2 := 0) (ks2 := 0) rfl rfl (fun k9 h9 w9 => by cases w9.1) (fun r9 h9 w9 => ?_)
      obtain ⟨w1, w2⟩ := w9
      subst h9
      cases w1
      show jJ G X _ 0 0 _ _ (.int q24.1 :: _)
      refine jr_if_eq K (D_at DX12_readLine_q1 1 rfl) (tgt := 45) (by decide) (fun c27 => ?_) (fun c27 => ?_)
      · replace hf := (if_pos c27).symm.trans hf
        refine jr_iconst K (D_at DX12_readLine_q1 9 rfl) (v := (0 : Int32)) (by decide) ?_
        cases hf
        exact jr_zret K E (D_at DX12_readLine_q1 10 rfl) rfl (Or.inl rfl) ⟨rfl, rfl⟩
      · replace hf := (if_neg c27).symm.trans hf
        refine jr_goto K (D_at DX12_readLine_q1 2 rfl) (tgt := 41) (by decide) ?_
        refine jr_iconst K (D_at DX12_readLine_q1 7 rfl) (v := (1 : Int32)) (by decide) ?_
        refine jr_goto K (D_at DX12_readLine_q1 8 rfl) (tgt := 46) (by decide) ?_
        cases hf
        exact jr_zret K E (D_at DX12_readLine_q1 10 rfl) rfl (Or.inr rfl) ⟨rfl, rfl⟩
set_option maxHeartbeats 400000 in
set_option maxRecDepth 100000 in
theorem J_X12_readLine {G : jG} {l : Launch} {d : Nat} {X : jX} {res : (Int32 × jH)} (K : jOK G l mX12_readLine (d + 42) X) (n : Nat) (E : jEnd G mX12_readLine (jPW res) X) (a0 : Nat) (x1 : Int32) (x2 : Int32) (h : jH) (hf : F_X12_readLine n a0 x1 x2 h = some res) : jJ G X h 0 0 0 [some (.ref a0), some (.int x1), some (.int x2)] [] := by
  unfold F_X12_readLine at hf
  refine jr_aload_n K (D_at DX12_readLine_q0 0 rfl) rfl rfl ?_
  obtain ⟨h1, e1, hf⟩ := jbind hf
  obtain ⟨rc_1, e1⟩ := jcv_o e1
  refine jr_callV K (C_X12_letters (d + 39) e1) (D_at DX12_readLine_q0 1 rfl) cv_X12_109_X12_letters (As := []) (ci := 10) rfl rc_1 rfl rfl (by exact Nat.le_of_ble_eq_true rfl) (kc2 := 0) (ks2 := 0) rfl rfl (fun k9 h9 w9 => by cases w9.1) (fun r9 h9 w9 => ?_)
  obtain ⟨w1, w2⟩ := w9
  subst h9
  cases w1
  show jJ G X _ 0 0 _ _ []
  refine jr_iload_n K (D_at DX12_readLine_q0 2 rfl) rfl rfl ?_
  refine jr_iload_n K (D_at DX12_readLine_q0 3 rfl) rfl rfl ?_
  refine jr_if_eq K (D_at DX12_readLine_q0 4 rfl) (tgt := 14) (by decide) (fun c6 => ?_) (fun c6 => ?_)
  · replace hf := (if_pos c6).symm.trans hf
    refine jr_bipush K (D_at DX12_readLine_q0 7 rfl) (v := (12 : Int32)) (by decide) ?_
    refine jr_keep [true, true, true] ?_
    exact J_X12_readLine_16 K n E a0 x1 x2 x2 (12 : Int32) h1 hf
  · replace hf := (if_neg c6).symm.trans hf
    refine jr_bipush K (D_at DX12_readLine_q0 5 rfl) (v := (14 : Int32)) (by decide) ?_
    refine jr_goto K (D_at DX12_readLine_q0 6 rfl) (tgt := 16) (by decide) ?_
    refine jr_keep [true, true, true] ?_
    exact J_X12_readLine_16 K n E a0 x1 x2 x2 (14 : Int32) h1 hf
theorem C_X12_readLine {G : jG} {l : Launch} (d : Nat) {n : Nat} {a0 : Nat} {x1 : Int32} {x2 : Int32} {h : jH} {res : (Int32 × jH)} (hf : F_X12_readLine n a0 x1 x2 h = some res) : jC G l mX12_readLine (d + 42) 0 0 [.ref a0, .int x1, .int x2] h (jPW res) :=
  jC.of pn_X12 (jcats rfl) (Nat.le_of_ble_eq_true rfl) (fun X K E => J_X12_readLine K n E a0 x1 x2 h hf)
set_option maxHeartbeats 400000 in
set_option maxRecDepth 100000 in
theorem J_X12_readAll_28_b {G : jG} {l : Launch} {d : Nat} {X : jX} {res : (Int32 × jH)} (K : jOK G l mX12_readAll (d + 43) X) (n : Nat) (rc28 : Nat → Int32 → Int32 → jH → Option (Int32 × jH)) (hr28 : ∀ (a0 : Nat) (x1 : Int32) (x2 : Int32) (h : jH), rc28 a0 x1 x2 h = some res → jJ G X h 0 0 28 [some (.ref a0), some (.int x1), some (.int x2)] []) (E : jEnd G mX12_readAll (jPW res) X) (a0 : Nat) (x1 : Int32) (x2 : Int32) (h : jH) (hf : F_X12_readAll_28_b n rc28 a0 x1 x2 h = some res) : jJ G X h 0 0 28 [some (.ref a0), some (.int x1), some (.int x2)] [] := by
  unfold F_X12_readAll_28_b at hf
  refine jr_aload_n K (D_at DX12_readAll_q1 4 rfl) rfl rfl ?_
  refine jr_iload_n K (D_at DX12_readAll_q1 5 rfl) rfl rfl ?_
  refine jr_iload_n K (D_at DX12_readAll_q1 6 rfl) rfl rfl ?_
  obtain ⟨q31, e31, hf⟩ := jbind hf
  obtain ⟨rc_31, e31⟩ := jcv_o e31
  refine jr_callV K (C_X12_readLine (d) e31) (D_at DX12_readAll_q1 7 rfl) cv_X12_242_X12_readLine (As := [.int x1, .int x2]) (ci := 10) rfl rc_31 rfl rfl (by exact Nat.le_of_ble_eq_true rfl) (kc2 := 0) (ks2 := 0) rfl rfl (fun k9 h9 w9 => by cases w9.1) (fun r9 h9 w9 => ?_)
  obtain ⟨w1, w2⟩ := w9
  subst h9
  cases w1
  show jJ G X _ 0 0 _ _ (.int q31.1 :: _)
  refine jr_if_ne K (D_at DX12_readAll_q1 8 rfl) (tgt := 39) (by decide) (fun c34 => ?_) (fun c34 => ?_)
  · replace hf := (if_neg c34).symm.trans hf
    refine jr_aload_n K (D_at DX12_readAll_q1 11 rfl) rfl rfl ?_
    obtain ⟨h40, e40, hf⟩ := jbind hf
    obtain ⟨rc_40, e40⟩ := jcv_o e40
    refine jr_callV K (C_X12_blanks (d + 41) e40) (D_at DX12_readAll_q2 0 rfl) cv_X12_97_X12_blanks (As := []) (ci := 10) rfl rc_40 rfl rfl (by exact Nat.le_of_ble_eq_true rfl) (kc2 := 0) (ks2 := 0) rfl rfl (fun k9 h9 w9 => by cases w9.1) (fun r9 h9 w9 => ?_)
    obtain ⟨w1, w2⟩ := w9
    subst h9
    cases w1
    show jJ G X _ 0 0 _ _ []
    refine jr_aload_n K (D_at DX12_readAll_q2 1 rfl) rfl rfl ?_
    obtain ⟨v44, e44, hf⟩ := jbind hf
    refine jr_getI K (D_at DX12_readAll_q2 2 rfl) fg_X12_85_10 e44 ?_
    refine jr_aload_n K (D_at DX12_readAll_q2 3 rfl) rfl rfl ?_
    obtain ⟨v48, e48, hf⟩ := jbind hf
    refine jr_getI K (D_at DX12_readAll_q2 4 rfl) fg_X12_88_10 e48 ?_
    refine jr_icmp_ne K (D_at DX12_readAll_q2 5 rfl) (tgt := 58) (by decide) (fun c51 => ?_) (fun c51 => ?_)
    · replace hf := (if_neg c51).symm.trans hf
      refine jr_aload_n K (D_at DX12_readAll_q2 10 rfl) rfl rfl ?_
      refine jr_bipush K (D_at DX12_readAll_q2 11 rfl) (v := (59 : Int32)) (by decide) ?_
      refine jr_bipush K (D_at DX12_readAll_q3 0 rfl) (v := (59 : Int32)) (by decide) ?_
      obtain ⟨v63, e63, hf⟩ := jbind hf
      obtain ⟨rc_63, e63⟩ := jcv_o e63
      refine jr_callV K (C_X12_isAt (d + 42) e63) (D_at DX12_readAll_q3 1 rfl) cv_X12_91_X12_isAt (As := [.int (59 : Int32), .int (59 : Int32)]) (ci := 10) rfl rc_63 rfl rfl (by exact Nat.le_of_ble_eq_true rfl) (kc2 := 0) (ks2 := 0) rfl rfl (fun k9 h9 w9 => by cases w9.1) (fun r9 h9 w9 => ?_)
      obtain ⟨w1, w2⟩ := w9
      subst h9
      cases w1
      show jJ G X _ 0 0 _ _ (.int v63 :: _)
      refine jr_if_ne K (D_at DX12_readAll_q3 2 rfl) (tgt := 71) (by decide) (fun c66 => ?_) (fun c66 => ?_)
      · replace hf := (if_neg c66).symm.trans hf
        refine jr_aload_n K (D_at DX12_readAll_q3 5 rfl) rfl rfl ?_
        refine jr_dup K (D_at DX12_readAll_q3 6 rfl) rfl ?_
        obtain ⟨v73, e73, hf⟩ := jbind hf
        refine jr_getI K (D_at DX12_readAll_q3 7 rfl) fg_X12_85_10 e73 ?_
        refine jr_iconst K (D_at DX12_readAll_q3 8 rfl) (v := (1 : Int32)) (by decide) ?_
        refine jr_iadd K (D_at DX12_readAll_q3 9 rfl) ?_
        obtain ⟨h78, e78, hf⟩ := jbind hf
        refine jr_putI K (D_at DX12_readAll_q3 10 rfl) fp_X12_85_10 (Or.inl rfl) e78 ?_
        refine jr_iinc K (D_at DX12_readAll_q3 11 rfl) (i := 2) rfl (v := x2 + (1 : Int32)) (jinc (by decide)) (by decide) (L2 := [_, _, _]) rfl ?_
        refine jr_goto K (D_at DX12_readAll_q4 0 rfl) (tgt := 28) (by decide) ?_
        refine jr_keep [true, true, true] ?_
        exact hr28 a0 x1 (x2 + (1 : Int32)) h78 hf
      · replace hf := (if_pos c66).symm.trans hf
        refine jr_iconst K (D_at DX12_readAll_q3 3 rfl) (v := (-1 : Int32)) (by decide) ?_
        cases hf
        exact jr_iret K E (D_at DX12_readAll_q3 4 rfl) rfl ⟨rfl, rfl⟩
    · replace hf := (if_pos c51).symm.trans hf
      refine jr_iload_n K (D_at DX12_readAll_q2 6 rfl) rfl rfl ?_
      refine jr_iconst K (D_at DX12_readAll_q2 7 rfl) (v := (1 : Int32)) (by decide) ?_
      refine jr_iadd K (D_at DX12_readAll_q2 8 rfl) ?_
      cases hf
      exact jr_iret K E (D_at DX12_readAll_q2 9 rfl) rfl ⟨rfl, rfl⟩
  · replace hf := (if_pos c34).symm.trans hf
    refine jr_iconst K (D_at DX12_readAll_q1 9 rfl) (v := (-1 : Int32)) (by decide) ?_
    cases hf
    exact jr_iret K E (D_at DX12_readAll_q1 10 rfl) rfl ⟨rfl, rfl⟩
theorem J_X12_readAll_28 {G : jG} {l : Launch} {d : Nat} {X : jX} {res : (Int32 × jH)} (K : jOK G l mX12_readAll (d + 43) X) (n : Nat) (E : jEnd G mX12_readAll (jPW res) X) (k : Nat) : ∀ (a0 : Nat) (x1 : Int32) (x2 : Int32) (h : jH), F_X12_readAll_28 n k a0 x1 x2 h = some res → jJ G X h 0 0 28 [some (.ref a0), some (.int x1), some (.int x2)] [] := by
  induction k with
  | zero =>
    intro a0 x1 x2 h hf
    exact jno (show (none : Option (Int32 × jH)) = some res from hf)
  | succ k ih =>
    intro a0 x1 x2 h hf
    exact J_X12_readAll_28_b K n (F_X12_readAll_28 n k) ih E a0 x1 x2 h hf
set_option maxHeartbeats 400000 in
set_option maxRecDepth 100000 in
theorem J_X12_readAll {G : jG} {l : Launch} {d : Nat} {X : jX} {res : (Int32 × jH)} (K : jOK G l mX12_readAll (d + 43) X) (n : Nat) (E : jEnd G mX12_readAll (jPW res) X) (a0 : Nat) (x1 : Int32) (h : jH) (hf : F_X12_readAll n a0 x1 h = some res) : jJ G X h 0 0 0 [some (.ref a0), some (.int x1), none] [] := by
  unfold F_X12_readAll at hf
  refine jr_aload_n K (D_at DX12_readAll_q0 0 rfl) rfl rfl ?_
  obtain ⟨h1, e1, hf⟩ := jbind hf
  obtain ⟨rc_1, e1⟩ := jcv_o e1
  refine jr_callV K (C_X12_uses (d + 42) e1) (D_at DX12_readAll_q0 1 rfl) cv_X12_239_X12_uses (As := []) (ci := 10) rfl rc_1 rfl rfl (by exact Nat.le_of_ble_eq_true rfl) (kc2 := 0) (ks2 := 0) rfl rfl (fun k9 h9 w9 => by cases w9.1) (fun r9 h9 w9 => ?_)
  obtain ⟨w1, w2⟩ := w9
  subst h9
  cases w1
  show jJ G X _ 0 0 _ _ []
  refine jr_aload_n K (D_at DX12_readAll_q0 2 rfl) rfl rfl ?_
  refine jr_iconst K (D_at DX12_readAll_q0 3 rfl) (v := (0 : Int32)) (by decide) ?_
  obtain ⟨h6, e6, hf⟩ := jbind hf
  refine jr_putI K (D_at DX12_readAll_q0 4 rfl) fp_X12_179_10 (Or.inl rfl) e6 ?_
  refine jr_aload_n K (D_at DX12_readAll_q0 5 rfl) rfl rfl ?_
  obtain ⟨h10, e10, hf⟩ := jbind hf
  obtain ⟨rc_10, e10⟩ := jcv_o e10
  refine jr_callV K (C_X12_blanks (d + 41) e10) (D_at DX12_readAll_q0 6 rfl) cv_X12_97_X12_blanks (As := []) (ci := 10) rfl rc_10 rfl rfl (by exact Nat.le_of_ble_eq_true rfl) (kc2 := 0) (ks2 := 0) rfl rfl (fun k9 h9 w9 => by cases w9.1) (fun r9 h9 w9 => ?_)
  obtain ⟨w1, w2⟩ := w9
  subst h9
  cases w1
  show jJ G X _ 0 0 _ _ []
  refine jr_aload_n K (D_at DX12_readAll_q0 7 rfl) rfl rfl ?_
  obtain ⟨v14, e14, hf⟩ := jbind hf
  refine jr_getI K (D_at DX12_readAll_q0 8 rfl) fg_X12_85_10 e14 ?_
  refine jr_aload_n K (D_at DX12_readAll_q0 9 rfl) rfl rfl ?_
  obtain ⟨v18, e18, hf⟩ := jbind hf
  refine jr_getI K (D_at DX12_readAll_q0 10 rfl) fg_X12_88_10 e18 ?_
  refine jr_icmp_ne K (D_at DX12_readAll_q0 11 rfl) (tgt := 26) (by decide) (fun c21 => ?_) (fun c21 => ?_)
  · replace hf := (if_neg c21).symm.trans hf
    refine jr_iconst K (D_at DX12_readAll_q1 2 rfl) (v := (0 : Int32)) (by decide) ?_
    refine jr_istore_n K (D_at DX12_readAll_q1 3 rfl) (i := 2) rfl (by decide) (L2 := [_, _, _]) rfl ?_
    refine jr_keep [true, true, true] ?_
    exact J_X12_readAll_28 K n E n a0 x1 (0 : Int32) h10 hf
  · replace hf := (if_pos c21).symm.trans hf
    refine jr_iconst K (D_at DX12_readAll_q1 0 rfl) (v := (0 : Int32)) (by decide) ?_
    cases hf
    exact jr_iret K E (D_at DX12_readAll_q1 1 rfl) rfl ⟨rfl, rfl⟩
theorem C_X12_readAll {G : jG} {l : Launch} (d : Nat) {n : Nat} {a0 : Nat} {x1 : Int32} {h : jH} {res : (Int32 × jH)} (hf : F_X12_readAll n a0 x1 h = some res) : jC G l mX12_readAll (d + 43) 0 0 [.ref a0, .int x1] h (jPW res) :=
  jC.of pn_X12 (jcats rfl) (Nat.le_of_ble_eq_true rfl) (fun X K E => J_X12_readAll K n E a0 x1 h hf)
set_option maxHeartbeats 400000 in
set_option maxRecDepth 100000 in
theorem J_X12_pole_92_b {G : jG} {l : Launch} {d : Nat} {X : jX} {res : (Int32 × jH)} (K : jOK G l mX12_pole (d + 44) X) (n : Nat) (rc92 : Nat → Int32 → jH → Option (Int32 × jH)) (hr92 : ∀ (a0 : Nat) (x2 : Int32) (h : jH), rc92 a0 x2 h = some res → jJ G X h 0 0 92 [some (.ref a0), none, some (.int x2)] []) (E : jEnd G mX12_pole (jPW res) X) (a0 : Nat) (x2 : Int32) (h : jH) (hf : F_X12_pole_92_b n rc92 a0 x2 h = some res) : jJ G X h 0 0 92 [some (.ref a0), none, some (.int x2)] [] := by
  unfold F_X12_pole_92_b at hf
  refine jr_iload_n K (D_at DX12_pole_q4 3 rfl) rfl rfl ?_
  refine jr_sipush K (D_at DX12_pole_q4 4 rfl) (v := (1284 : Int32)) (by decide) ?_
  refine jr_icmp_ge K (D_at DX12_pole_q4 5 rfl) (tgt := 117) (by decide) (fun c96 => ?_) (fun c96 => ?_)
  · replace hf := (if_pos c96).symm.trans hf
    refine jr_iconst K (D_at DX12_pole_1_q0 0 rfl) (v := (0 : Int32)) (by decide) ?_
    cases hf
    exact jr_iret K E (D_at DX12_pole_1_q0 1 rfl) rfl ⟨rfl, rfl⟩
  · replace hf := (if_neg c96).symm.trans hf
    refine jr_aload_n K (D_at DX12_pole_q4 6 rfl) rfl rfl ?_
    obtain ⟨p100, e100, hf⟩ := jbind hf
    refine jr_getR K (D_at DX12_pole_q4 7 rfl) fg_X12_13_10 e100 ?_
    refine jr_iload_n K (D_at DX12_pole_q4 8 rfl) rfl rfl ?_
    refine jr_aload_n K (D_at DX12_pole_q4 9 rfl) rfl rfl ?_
    obtain ⟨p105, e105, hf⟩ := jbind hf
    refine jr_getR K (D_at DX12_pole_q4 10 rfl) fg_X12_20_10 e105 ?_
    refine jr_iload_n K (D_at DX12_pole_q4 11 rfl) rfl rfl ?_
    obtain ⟨v109, e109, hf⟩ := jbind hf
    refine jr_iald K (D_at DX12_pole_q5 0 rfl) e109 ?_
    obtain ⟨h110, e110, hf⟩ := jbind hf
    refine jr_iast K (D_at DX12_pole_q5 1 rfl) e110 ?_
    refine jr_iinc K (D_at DX12_pole_q5 2 rfl) (i := 2) rfl (v := x2 + (1 : Int32)) (jinc (by decide)) (by decide) (L2 := [_, _, _]) rfl ?_
    refine jr_goto K (D_at DX12_pole_q5 3 rfl) (tgt := 92) (by decide) ?_
    refine jr_keep [true, false, true] ?_
    exact hr92 a0 (x2 + (1 : Int32)) h110 hf
theorem J_X12_pole_92 {G : jG} {l : Launch} {d : Nat} {X : jX} {res : (Int32 × jH)} (K : jOK G l mX12_pole (d + 44) X) (n : Nat) (E : jEnd G mX12_pole (jPW res) X) (k : Nat) : ∀ (a0 : Nat) (x2 : Int32) (h : jH), F_X12_pole_92 n k a0 x2 h = some res → jJ G X h 0 0 92 [some (.ref a0), none, some (.int x2)] [] := by
  induction k with
  | zero =>
    intro a0 x2 h hf
    exact jno (show (none : Option (Int32 × jH)) = some res from hf)
  | succ k ih =>
    intro a0 x2 h hf
    exact J_X12_pole_92_b K n (F_X12_pole_92 n k) ih E a0 x2 h hf
set_option maxHeartbeats 400000 in
set_option maxRecDepth 100000 in
theorem J_X12_pole_83 {G : jG} {l : Launch} {d : Nat} {X : jX} {res : (Int32 × jH)} (K : jOK G l mX12_pole (d + 44) X) (n : Nat) (E : jEnd G mX12_pole (jPW res) X) (a0 : Nat) (sa0 : Nat) (s1 : Int32) (h : jH) (hf : F_X12_pole_83 n a0 sa0 s1 h = some res) : jJ G X h 0 0 83 [some (.ref a0), none, none] [.int s1, .ref sa0] := by
  unfold F_X12_pole_83 at hf
  refine jr_iconst K (D_at DX12_pole_q3 10 rfl) (v := (2 : Int32)) (by decide) ?_
  obtain ⟨q84, e84, hf⟩ := jbind hf
  obtain ⟨rc_84, e84⟩ := jcv_o e84
  refine jr_callV K (C_X12_throwsIf (d + 43) e84) (D_at DX12_pole_q3 11 rfl) cv_X12_250_X12_throwsIf (As := [.int s1, .int (2 : Int32)]) (ci := 10) rfl rc_84 rfl rfl (by exact Nat.le_of_ble_eq_true rfl) (kc2 := 0) (ks2 := 0) rfl rfl (fun k9 h9 w9 => by cases w9.1) (fun r9 h9 w9 => ?_)
  obtain ⟨w1, w2⟩ := w9
  subst h9
  cases w1
  show jJ G X _ 0 0 _ _ (.int q84.1 :: _)
  refine jr_if_eq K (D_at DX12_pole_q4 0 rfl) (tgt := 119) (by decide) (fun c87 => ?_) (fun c87 => ?_)
  · replace hf := (if_pos c87).symm.trans hf
    refine jr_aload_n K (D_at DX12_pole_1_q0 2 rfl) rfl rfl ?_
    obtain ⟨p120, e120, hf⟩ := jbind hf
    refine jr_getR K (D_at DX12_pole_1_q0 3 rfl) fg_X12_13_10 e120 ?_
    refine jr_iconst K (D_at DX12_pole_1_q0 4 rfl) (v := (1 : Int32)) (by decide) ?_
    refine jr_dup2 K (D_at DX12_pole_1_q0 5 rfl) rfl rfl ?_
    obtain ⟨v125, e125, hf⟩ := jbind hf
    refine jr_iald K (D_at DX12_pole_1_q0 6 rfl) e125 ?_
    refine jr_iconst K (D_at DX12_pole_1_q0 7 rfl) (v := (1 : Int32)) (by decide) ?_
    refine jr_iadd K (D_at DX12_pole_1_q0 8 rfl) ?_
    obtain ⟨h128, e128, hf⟩ := jbind hf
    refine jr_iast K (D_at DX12_pole_1_q0 9 rfl) e128 ?_
    refine jr_aload_n K (D_at DX12_pole_1_q0 10 rfl) rfl rfl ?_
    refine jr_iconst K (D_at DX12_pole_1_q0 11 rfl) (v := (0 : Int32)) (by decide) ?_
    obtain ⟨h131, e131, hf⟩ := jbind hf
    refine jr_putI K (D_at DX12_pole_1_q1 0 rfl) fp_X12_56_10 (Or.inl rfl) e131 ?_
    refine jr_aload_n K (D_at DX12_pole_1_q1 1 rfl) rfl rfl ?_
    obtain ⟨p135, e135, hf⟩ := jbind hf
    refine jr_getR K (D_at DX12_pole_1_q1 2 rfl) fg_X12_13_10 e135 ?_
    refine jr_iconst K (D_at DX12_pole_1_q1 3 rfl) (v := (1 : Int32)) (by decide) ?_
    obtain ⟨v139, e139, hf⟩ := jbind hf
    refine jr_iald K (D_at DX12_pole_1_q1 4 rfl) e139 ?_
    cases hf
    exact jr_iret K E (D_at DX12_pole_1_q1 5 rfl) rfl ⟨rfl, rfl⟩
  · replace hf := (if_neg c87).symm.trans hf
    refine jr_iconst K (D_at DX12_pole_q4 1 rfl) (v := (0 : Int32)) (by decide) ?_
    refine jr_istore_n K (D_at DX12_pole_q4 2 rfl) (i := 2) rfl (by decide) (L2 := [_, _, _]) rfl ?_
    refine jr_keep [true, false, true] ?_
    exact J_X12_pole_92 K n E n a0 (0 : Int32) q84.2 hf
set_option maxHeartbeats 400000 in
set_option maxRecDepth 100000 in
theorem J_X12_pole_59 {G : jG} {l : Launch} {d : Nat} {X : jX} {res : (Int32 × jH)} (K : jOK G l mX12_pole (d + 44) X) (n : Nat) (E : jEnd G mX12_pole (jPW res) X) (a0 : Nat) (sa0 : Nat) (s1 : Int32) (h : jH) (hf : F_X12_pole_59 n a0 sa0 s1 h = some res) : jJ G X h 0 0 59 [some (.ref a0), none, none] [.int s1, .ref sa0] := by
  unfold F_X12_pole_59 at hf
  refine jr_iconst K (D_at DX12_pole_q2 9 rfl) (v := (1 : Int32)) (by decide) ?_
  obtain ⟨q60, e60, hf⟩ := jbind hf
  obtain ⟨rc_60, e60⟩ := jcv_o e60
  refine jr_callV K (C_X12_throwsIf (d + 43) e60) (D_at DX12_pole_q2 10 rfl) cv_X12_250_X12_throwsIf (As := [.int s1, .int (1 : Int32)]) (ci := 10) rfl rc_60 rfl rfl (by exact Nat.le_of_ble_eq_true rfl) (kc2 := 0) (ks2 := 0) rfl rfl (fun k9 h9 w9 => by cases w9.1) (fun r9 h9 w9 => ?_)
  obtain ⟨w1, w2⟩ := w9
  subst h9
  cases w1
  show jJ G X _ 0 0 _ _ (.int q60.1 :: _)
  refine jr_if_ne K (D_at DX12_pole_q2 11 rfl) (tgt := 90) (by decide) (fun c63 => ?_) (fun c63 => ?_)
  · replace hf := (if_neg c63).symm.trans hf
    refine jr_iconst K (D_at DX12_pole_q4 1 rfl) (v := (0 : Int32)) (by decide) ?_
    refine jr_istore_n K (D_at DX12_pole_q4 2 rfl) (i := 2) rfl (by decide) (L2 := [_, _, _]) rfl ?_
    refine jr_keep [true, false, true] ?_
    exact J_X12_pole_92 K n E n a0 (0 : Int32) q60.2 hf
  · replace hf := (if_pos c63).symm.trans hf
    refine jr_aload_n K (D_at DX12_pole_q3 0 rfl) rfl rfl ?_
    refine jr_aload_n K (D_at DX12_pole_q3 1 rfl) rfl rfl ?_
    obtain ⟨p68, e68, hf⟩ := jbind hf
    refine jr_getR K (D_at DX12_pole_q3 2 rfl) fg_X12_13_10 e68 ?_
    refine jr_iconst K (D_at DX12_pole_q3 3 rfl) (v := (1 : Int32)) (by decide) ?_
    obtain ⟨v72, e72, hf⟩ := jbind hf
    refine jr_iald K (D_at DX12_pole_q3 4 rfl) e72 ?_
    refine jr_bipush K (D_at DX12_pole_q3 5 rfl) (v := (12 : Int32)) (by decide) ?_
    refine jr_icmp_ne K (D_at DX12_pole_q3 6 rfl) (tgt := 82) (by decide) (fun c75 => ?_) (fun c75 => ?_)
    · replace hf := (if_neg c75).symm.trans hf
      refine jr_iconst K (D_at DX12_pole_q3 9 rfl) (v := (0 : Int32)) (by decide) ?_
      refine jr_keep [true, false, false] ?_
      exact J_X12_pole_83 K n E a0 a0 (0 : Int32) q60.2 hf
    · replace hf := (if_pos c75).symm.trans hf
      refine jr_iconst K (D_at DX12_pole_q3 7 rfl) (v := (1 : Int32)) (by decide) ?_
      refine jr_goto K (D_at DX12_pole_q3 8 rfl) (tgt := 83) (by decide) ?_
      refine jr_keep [true, false, false] ?_
      exact J_X12_pole_83 K n E a0 a0 (1 : Int32) q60.2 hf
set_option maxHeartbeats 400000 in
set_option maxRecDepth 100000 in
theorem J_X12_pole_2_b {G : jG} {l : Launch} {d : Nat} {X : jX} {res : (Int32 × jH)} (K : jOK G l mX12_pole (d + 44) X) (n : Nat) (rc2 : Nat → Int32 → jH → Option (Int32 × jH)) (hr2 : ∀ (a0 : Nat) (x1 : Int32) (h : jH), rc2 a0 x1 h = some res → jJ G X h 0 0 2 [some (.ref a0), some (.int x1), none] []) (E : jEnd G mX12_pole (jPW res) X) (a0 : Nat) (x1 : Int32) (h : jH) (hf : F_X12_pole_2_b n rc2 a0 x1 h = some res) : jJ G X h 0 0 2 [some (.ref a0), some (.int x1), none] [] := by
  unfold F_X12_pole_2_b at hf
  refine jr_iload_n K (D_at DX12_pole_q0 2 rfl) rfl rfl ?_
  refine jr_sipush K (D_at DX12_pole_q0 3 rfl) (v := (1284 : Int32)) (by decide) ?_
  refine jr_icmp_ge K (D_at DX12_pole_q0 4 rfl) (tgt := 27) (by decide) (fun c6 => ?_) (fun c6 => ?_)
  · replace hf := (if_pos c6).symm.trans hf
    refine jr_aload_n K (D_at DX12_pole_q1 3 rfl) rfl rfl ?_
    refine jr_iconst K (D_at DX12_pole_q1 4 rfl) (v := (1 : Int32)) (by decide) ?_
    obtain ⟨q29, e29, hf⟩ := jbind hf
    obtain ⟨rc_29, e29⟩ := jcv_o e29
    refine jr_callV K (C_X12_readAll (d) e29) (D_at DX12_pole_q1 5 rfl) cv_X12_246_X12_readAll (As := [.int (1 : Int32)]) (ci := 10) rfl rc_29 rfl rfl (by exact Nat.le_of_ble_eq_true rfl) (kc2 := 0) (ks2 := 0) rfl rfl (fun k9 h9 w9 => by cases w9.1) (fun r9 h9 w9 => ?_)
    obtain ⟨w1, w2⟩ := w9
    subst h9
    cases w1
    show jJ G X _ 0 0 _ _ (.int q29.1 :: _)
    refine jr_istore_n K (D_at DX12_pole_q1 6 rfl) (i := 1) rfl (by decide) (L2 := [_, _, _]) rfl ?_
    refine jr_aload_n K (D_at DX12_pole_q1 7 rfl) rfl rfl ?_
    refine jr_iload_n K (D_at DX12_pole_q1 8 rfl) rfl rfl ?_
    refine jr_if_ge K (D_at DX12_pole_q1 9 rfl) (tgt := 45) (by decide) (fun c35 => ?_) (fun c35 => ?_)
    · replace hf := (if_pos c35).symm.trans hf
      refine jr_iconst K (D_at DX12_pole_q2 1 rfl) (v := (-1 : Int32)) (by decide) ?_
      obtain ⟨h46, e46, hf⟩ := jbind hf
      refine jr_putI K (D_at DX12_pole_q2 2 rfl) fp_X12_33_10 (Or.inl rfl) e46 ?_
      refine jr_aload_n K (D_at DX12_pole_q2 3 rfl) rfl rfl ?_
      refine jr_iload_n K (D_at DX12_pole_q2 4 rfl) rfl rfl ?_
      refine jr_if_ge K (D_at DX12_pole_q2 5 rfl) (tgt := 58) (by decide) (fun c51 => ?_) (fun c51 => ?_)
      · replace hf := (if_pos c51).symm.trans hf
        refine jr_iconst K (D_at DX12_pole_q2 8 rfl) (v := (0 : Int32)) (by decide) ?_
        refine jr_keep [true, false, false] ?_
        exact J_X12_pole_59 K n E a0 a0 (0 : Int32) h46 hf
      · replace hf := (if_neg c51).symm.trans hf
        refine jr_iconst K (D_at DX12_pole_q2 6 rfl) (v := (1 : Int32)) (by decide) ?_
        refine jr_goto K (D_at DX12_pole_q2 7 rfl) (tgt := 59) (by decide) ?_
        refine jr_keep [true, false, false] ?_
        exact J_X12_pole_59 K n E a0 a0 (1 : Int32) h46 hf
    · replace hf := (if_neg c35).symm.trans hf
      refine jr_aload_n K (D_at DX12_pole_q1 10 rfl) rfl rfl ?_
      obtain ⟨v39, e39, hf⟩ := jbind hf
      refine jr_getI K (D_at DX12_pole_q1 11 rfl) fg_X12_94_10 e39 ?_
      refine jr_goto K (D_at DX12_pole_q2 0 rfl) (tgt := 46) (by decide) ?_
      obtain ⟨h46, e46, hf⟩ := jbind hf
      refine jr_putI K (D_at DX12_pole_q2 2 rfl) fp_X12_33_10 (Or.inl rfl) e46 ?_
      refine jr_aload_n K (D_at DX12_pole_q2 3 rfl) rfl rfl ?_
      refine jr_iload_n K (D_at DX12_pole_q2 4 rfl) rfl rfl ?_
      refine jr_if_ge K (D_at DX12_pole_q2 5 rfl) (tgt := 58) (by decide) (fun c51 => ?_) (fun c51 => ?_)
      · replace hf := (if_pos c51).symm.trans hf
        refine jr_iconst K (D_at DX12_pole_q2 8 rfl) (v := (0 : Int32)) (by decide) ?_
        refine jr_keep [true, false, false] ?_
        exact J_X12_pole_59 K n E a0 a0 (0 : Int32) h46 hf
      · replace hf := (if_neg c51).symm.trans hf
        refine jr_iconst K (D_at DX12_pole_q2 6 rfl) (v := (1 : Int32)) (by decide) ?_
        refine jr_goto K (D_at DX12_pole_q2 7 rfl) (tgt := 59) (by decide) ?_
        refine jr_keep [true, false, false] ?_
        exact J_X12_pole_59 K n E a0 a0 (1 : Int32) h46 hf
  · replace hf := (if_neg c6).symm.trans hf
    refine jr_aload_n K (D_at DX12_pole_q0 5 rfl) rfl rfl ?_
    obtain ⟨p10, e10, hf⟩ := jbind hf
    refine jr_getR K (D_at DX12_pole_q0 6 rfl) fg_X12_20_10 e10 ?_
    refine jr_iload_n K (D_at DX12_pole_q0 7 rfl) rfl rfl ?_
    refine jr_aload_n K (D_at DX12_pole_q0 8 rfl) rfl rfl ?_
    obtain ⟨p15, e15, hf⟩ := jbind hf
    refine jr_getR K (D_at DX12_pole_q0 9 rfl) fg_X12_13_10 e15 ?_
    refine jr_iload_n K (D_at DX12_pole_q0 10 rfl) rfl rfl ?_
    obtain ⟨v19, e19, hf⟩ := jbind hf
    refine jr_iald K (D_at DX12_pole_q0 11 rfl) e19 ?_
    obtain ⟨h20, e20, hf⟩ := jbind hf
    refine jr_iast K (D_at DX12_pole_q1 0 rfl) e20 ?_
    refine jr_iinc K (D_at DX12_pole_q1 1 rfl) (i := 1) rfl (v := x1 + (1 : Int32)) (jinc (by decide)) (by decide) (L2 := [_, _, _]) rfl ?_
    refine jr_goto K (D_at DX12_pole_q1 2 rfl) (tgt := 2) (by decide) ?_
    refine jr_keep [true, true, false] ?_
    exact hr2 a0 (x1 + (1 : Int32)) h20 hf
theorem J_X12_pole_2 {G : jG} {l : Launch} {d : Nat} {X : jX} {res : (Int32 × jH)} (K : jOK G l mX12_pole (d + 44) X) (n : Nat) (E : jEnd G mX12_pole (jPW res) X) (k : Nat) : ∀ (a0 : Nat) (x1 : Int32) (h : jH), F_X12_pole_2 n k a0 x1 h = some res → jJ G X h 0 0 2 [some (.ref a0), some (.int x1), none] [] := by
  induction k with
  | zero =>
    intro a0 x1 h hf
    exact jno (show (none : Option (Int32 × jH)) = some res from hf)
  | succ k ih =>
    intro a0 x1 h hf
    exact J_X12_pole_2_b K n (F_X12_pole_2 n k) ih E a0 x1 h hf
set_option maxHeartbeats 400000 in
set_option maxRecDepth 100000 in
theorem J_X12_pole {G : jG} {l : Launch} {d : Nat} {X : jX} {res : (Int32 × jH)} (K : jOK G l mX12_pole (d + 44) X) (n : Nat) (E : jEnd G mX12_pole (jPW res) X) (a0 : Nat) (h : jH) (hf : F_X12_pole n a0 h = some res) : jJ G X h 0 0 0 [some (.ref a0), none, none] [] := by
  unfold F_X12_pole at hf
  refine jr_iconst K (D_at DX12_pole_q0 0 rfl) (v := (0 : Int32)) (by decide) ?_
  refine jr_istore_n K (D_at DX12_pole_q0 1 rfl) (i := 1) rfl (by decide) (L2 := [_, _, _]) rfl ?_
  refine jr_keep [true, true, false] ?_
  exact J_X12_pole_2 K n E n a0 (0 : Int32) h hf
theorem C_X12_pole {G : jG} {l : Launch} (d : Nat) {n : Nat} {a0 : Nat} {h : jH} {res : (Int32 × jH)} (hf : F_X12_pole n a0 h = some res) : jC G l mX12_pole (d + 44) 0 0 [.ref a0] h (jPW res) :=
  jC.of pn_X12 (jcats rfl) (Nat.le_of_ble_eq_true rfl) (fun X K E => J_X12_pole K n E a0 h hf)
set_option maxHeartbeats 400000 in
set_option maxRecDepth 100000 in
theorem J_X12_law_52_b {G : jG} {l : Launch} {d : Nat} {X : jX} {res : (Int32 × jH)} (K : jOK G l mX12_law (d + 44) X) (n : Nat) (rc52 : Nat → Int32 → Int32 → jH → Option (Int32 × jH)) (hr52 : ∀ (a0 : Nat) (x1 : Int32) (x2 : Int32) (h : jH), rc52 a0 x1 x2 h = some res → jJ G X h 0 0 52 [some (.ref a0), some (.int x1), some (.int x2)] []) (E : jEnd G mX12_law (jPW res) X) (a0 : Nat) (x1 : Int32) (x2 : Int32) (h : jH) (hf : F_X12_law_52_b n rc52 a0 x1 x2 h = some res) : jJ G X h 0 0 52 [some (.ref a0), some (.int x1), some (.int x2)] [] := by
  unfold F_X12_law_52_b at hf
  refine jr_iload_n K (D_at DX12_law_q2 6 rfl) rfl rfl ?_
  refine jr_sipush K (D_at DX12_law_q2 7 rfl) (v := (849 : Int32)) (by decide) ?_
  refine jr_icmp_ge K (D_at DX12_law_q2 8 rfl) (tgt := 85) (by decide) (fun c56 => ?_) (fun c56 => ?_)
  · replace hf := (if_pos c56).symm.trans hf
    refine jr_aload_n K (D_at DX12_law_q3 11 rfl) rfl rfl ?_
    obtain ⟨p86, e86, hf⟩ := jbind hf
    refine jr_getR K (D_at DX12_law_q4 0 rfl) fg_X12_13_10 e86 ?_
    refine jr_iconst K (D_at DX12_law_q4 1 rfl) (v := (2 : Int32)) (by decide) ?_
    refine jr_iconst K (D_at DX12_law_q4 2 rfl) (v := (1 : Int32)) (by decide) ?_
    obtain ⟨h91, e91, hf⟩ := jbind hf
    refine jr_iast K (D_at DX12_law_q4 3 rfl) e91 ?_
    refine jr_aload_n K (D_at DX12_law_q4 4 rfl) rfl rfl ?_
    refine jr_iconst K (D_at DX12_law_q4 5 rfl) (v := (0 : Int32)) (by decide) ?_
    obtain ⟨h94, e94, hf⟩ := jbind hf
    refine jr_putI K (D_at DX12_law_q4 6 rfl) fp_X12_56_10 (Or.inl rfl) e94 ?_
    refine jr_iload_n K (D_at DX12_law_q4 7 rfl) rfl rfl ?_
    cases hf
    exact jr_iret K E (D_at DX12_law_q4 8 rfl) rfl ⟨rfl, rfl⟩
  · replace hf := (if_neg c56).symm.trans hf
    refine jr_aload_n K (D_at DX12_law_q2 9 rfl) rfl rfl ?_
    obtain ⟨p60, e60, hf⟩ := jbind hf
    refine jr_getR K (D_at DX12_law_q2 10 rfl) fg_X12_13_10 e60 ?_
    refine jr_sipush K (D_at DX12_law_q2 11 rfl) (v := (435 : Int32)) (by decide) ?_
    refine jr_iload_n K (D_at DX12_law_q3 0 rfl) rfl rfl ?_
    refine jr_iadd K (D_at DX12_law_q3 1 rfl) ?_
    refine jr_aload_n K (D_at DX12_law_q3 2 rfl) rfl rfl ?_
    obtain ⟨p69, e69, hf⟩ := jbind hf
    refine jr_getR K (D_at DX12_law_q3 3 rfl) fg_X12_13_10 e69 ?_
    refine jr_sipush K (D_at DX12_law_q3 4 rfl) (v := (1284 : Int32)) (by decide) ?_
    refine jr_iload_n K (D_at DX12_law_q3 5 rfl) rfl rfl ?_
    refine jr_iadd K (D_at DX12_law_q3 6 rfl) ?_
    obtain ⟨v77, e77, hf⟩ := jbind hf
    refine jr_iald K (D_at DX12_law_q3 7 rfl) e77 ?_
    obtain ⟨h78, e78, hf⟩ := jbind hf
    refine jr_iast K (D_at DX12_law_q3 8 rfl) e78 ?_
    refine jr_iinc K (D_at DX12_law_q3 9 rfl) (i := 2) rfl (v := x2 + (1 : Int32)) (jinc (by decide)) (by decide) (L2 := [_, _, _]) rfl ?_
    refine jr_goto K (D_at DX12_law_q3 10 rfl) (tgt := 52) (by decide) ?_
    refine jr_keep [true, true, true] ?_
    exact hr52 a0 x1 (x2 + (1 : Int32)) h78 hf
theorem J_X12_law_52 {G : jG} {l : Launch} {d : Nat} {X : jX} {res : (Int32 × jH)} (K : jOK G l mX12_law (d + 44) X) (n : Nat) (E : jEnd G mX12_law (jPW res) X) (k : Nat) : ∀ (a0 : Nat) (x1 : Int32) (x2 : Int32) (h : jH), F_X12_law_52 n k a0 x1 x2 h = some res → jJ G X h 0 0 52 [some (.ref a0), some (.int x1), some (.int x2)] [] := by
  induction k with
  | zero =>
    intro a0 x1 x2 h hf
    exact jno (show (none : Option (Int32 × jH)) = some res from hf)
  | succ k ih =>
    intro a0 x1 x2 h hf
    exact J_X12_law_52_b K n (F_X12_law_52 n k) ih E a0 x1 x2 h hf
set_option maxHeartbeats 400000 in
set_option maxRecDepth 100000 in
theorem J_X12_law_32 {G : jG} {l : Launch} {d : Nat} {X : jX} {res : (Int32 × jH)} (K : jOK G l mX12_law (d + 44) X) (n : Nat) (E : jEnd G mX12_law (jPW res) X) (a0 : Nat) (x1 : Int32) (sa0 : Nat) (s1 : Int32) (h : jH) (hf : F_X12_law_32 n a0 x1 sa0 s1 h = some res) : jJ G X h 0 0 32 [some (.ref a0), some (.int x1), none] [.int s1, .ref sa0] := by
  unfold F_X12_law_32 at hf
  refine jr_iconst K (D_at DX12_law_q1 6 rfl) (v := (1 : Int32)) (by decide) ?_
  obtain ⟨q33, e33, hf⟩ := jbind hf
  obtain ⟨rc_33, e33⟩ := jcv_o e33
  refine jr_callV K (C_X12_throwsIf (d + 43) e33) (D_at DX12_law_q1 7 rfl) cv_X12_250_X12_throwsIf (As := [.int s1, .int (1 : Int32)]) (ci := 10) rfl rc_33 rfl rfl (by exact Nat.le_of_ble_eq_true rfl) (kc2 := 0) (ks2 := 0) rfl rfl (fun k9 h9 w9 => by cases w9.1) (fun r9 h9 w9 => ?_)
  obtain ⟨w1, w2⟩ := w9
  subst h9
  cases w1
  show jJ G X _ 0 0 _ _ (.int q33.1 :: _)
  refine jr_if_eq K (D_at DX12_law_q1 8 rfl) (tgt := 41) (by decide) (fun c36 => ?_) (fun c36 => ?_)
  · replace hf := (if_pos c36).symm.trans hf
    refine jr_aload_n K (D_at DX12_law_q1 11 rfl) rfl rfl ?_
    obtain ⟨p42, e42, hf⟩ := jbind hf
    refine jr_getR K (D_at DX12_law_q2 0 rfl) fg_X12_13_10 e42 ?_
    refine jr_sipush K (D_at DX12_law_q2 1 rfl) (v := (1284 : Int32)) (by decide) ?_
    refine jr_iload_n K (D_at DX12_law_q2 2 rfl) rfl rfl ?_
    obtain ⟨h49, e49, hf⟩ := jbind hf
    refine jr_iast K (D_at DX12_law_q2 3 rfl) e49 ?_
    refine jr_iconst K (D_at DX12_law_q2 4 rfl) (v := (0 : Int32)) (by decide) ?_
    refine jr_istore_n K (D_at DX12_law_q2 5 rfl) (i := 2) rfl (by decide) (L2 := [_, _, _]) rfl ?_
    refine jr_keep [true, true, true] ?_
    exact J_X12_law_52 K n E n a0 x1 (0 : Int32) h49 hf
  · replace hf := (if_neg c36).symm.trans hf
    refine jr_iconst K (D_at DX12_law_q1 9 rfl) (v := (0 : Int32)) (by decide) ?_
    cases hf
    exact jr_iret K E (D_at DX12_law_q1 10 rfl) rfl ⟨rfl, rfl⟩
set_option maxHeartbeats 400000 in
set_option maxRecDepth 100000 in
theorem J_X12_law {G : jG} {l : Launch} {d : Nat} {X : jX} {res : (Int32 × jH)} (K : jOK G l mX12_law (d + 44) X) (n : Nat) (E : jEnd G mX12_law (jPW res) X) (a0 : Nat) (h : jH) (hf : F_X12_law n a0 h = some res) : jJ G X h 0 0 0 [some (.ref a0), none, none] [] := by
  unfold F_X12_law at hf
  refine jr_aload_n K (D_at DX12_law_q0 0 rfl) rfl rfl ?_
  refine jr_iconst K (D_at DX12_law_q0 1 rfl) (v := (0 : Int32)) (by decide) ?_
  obtain ⟨q2, e2, hf⟩ := jbind hf
  obtain ⟨rc_2, e2⟩ := jcv_o e2
  refine jr_callV K (C_X12_readAll (d) e2) (D_at DX12_law_q0 2 rfl) cv_X12_246_X12_readAll (As := [.int (0 : Int32)]) (ci := 10) rfl rc_2 rfl rfl (by exact Nat.le_of_ble_eq_true rfl) (kc2 := 0) (ks2 := 0) rfl rfl (fun k9 h9 w9 => by cases w9.1) (fun r9 h9 w9 => ?_)
  obtain ⟨w1, w2⟩ := w9
  subst h9
  cases w1
  show jJ G X _ 0 0 _ _ (.int q2.1 :: _)
  refine jr_istore_n K (D_at DX12_law_q0 3 rfl) (i := 1) rfl (by decide) (L2 := [_, _, _]) rfl ?_
  refine jr_aload_n K (D_at DX12_law_q0 4 rfl) rfl rfl ?_
  refine jr_iload_n K (D_at DX12_law_q0 5 rfl) rfl rfl ?_
  refine jr_if_ge K (D_at DX12_law_q0 6 rfl) (tgt := 18) (by decide) (fun c8 => ?_) (fun c8 => ?_)
  · replace hf := (if_pos c8).symm.trans hf
    refine jr_iconst K (D_at DX12_law_q0 10 rfl) (v := (-1 : Int32)) (by decide) ?_
    obtain ⟨h19, e19, hf⟩ := jbind hf
    refine jr_putI K (D_at DX12_law_q0 11 rfl) fp_X12_33_10 (Or.inl rfl) e19 ?_
    refine jr_aload_n K (D_at DX12_law_q1 0 rfl) rfl rfl ?_
    refine jr_iload_n K (D_at DX12_law_q1 1 rfl) rfl rfl ?_
    refine jr_if_ge K (D_at DX12_law_q1 2 rfl) (tgt := 31) (by decide) (fun c24 => ?_) (fun c24 => ?_)
    · replace hf := (if_pos c24).symm.trans hf
      refine jr_iconst K (D_at DX12_law_q1 5 rfl) (v := (0 : Int32)) (by decide) ?_
      refine jr_keep [true, true, false] ?_
      exact J_X12_law_32 K n E a0 q2.1 a0 (0 : Int32) h19 hf
    · replace hf := (if_neg c24).symm.trans hf
      refine jr_iconst K (D_at DX12_law_q1 3 rfl) (v := (1 : Int32)) (by decide) ?_
      refine jr_goto K (D_at DX12_law_q1 4 rfl) (tgt := 32) (by decide) ?_
      refine jr_keep [true, true, false] ?_
      exact J_X12_law_32 K n E a0 q2.1 a0 (1 : Int32) h19 hf
  · replace hf := (if_neg c8).symm.trans hf
    refine jr_aload_n K (D_at DX12_law_q0 7 rfl) rfl rfl ?_
    obtain ⟨v12, e12, hf⟩ := jbind hf
    refine jr_getI K (D_at DX12_law_q0 8 rfl) fg_X12_94_10 e12 ?_
    refine jr_goto K (D_at DX12_law_q0 9 rfl) (tgt := 19) (by decide) ?_
    obtain ⟨h19, e19, hf⟩ := jbind hf
    refine jr_putI K (D_at DX12_law_q0 11 rfl) fp_X12_33_10 (Or.inl rfl) e19 ?_
    refine jr_aload_n K (D_at DX12_law_q1 0 rfl) rfl rfl ?_
    refine jr_iload_n K (D_at DX12_law_q1 1 rfl) rfl rfl ?_
    refine jr_if_ge K (D_at DX12_law_q1 2 rfl) (tgt := 31) (by decide) (fun c24 => ?_) (fun c24 => ?_)
    · replace hf := (if_pos c24).symm.trans hf
      refine jr_iconst K (D_at DX12_law_q1 5 rfl) (v := (0 : Int32)) (by decide) ?_
      refine jr_keep [true, true, false] ?_
      exact J_X12_law_32 K n E a0 q2.1 a0 (0 : Int32) h19 hf
    · replace hf := (if_neg c24).symm.trans hf
      refine jr_iconst K (D_at DX12_law_q1 3 rfl) (v := (1 : Int32)) (by decide) ?_
      refine jr_goto K (D_at DX12_law_q1 4 rfl) (tgt := 32) (by decide) ?_
      refine jr_keep [true, true, false] ?_
      exact J_X12_law_32 K n E a0 q2.1 a0 (1 : Int32) h19 hf
theorem C_X12_law {G : jG} {l : Launch} (d : Nat) {n : Nat} {a0 : Nat} {h : jH} {res : (Int32 × jH)} (hf : F_X12_law n a0 h = some res) : jC G l mX12_law (d + 44) 0 0 [.ref a0] h (jPW res) :=
  jC.of pn_X12 (jcats rfl) (Nat.le_of_ble_eq_true rfl) (fun X K E => J_X12_law K n E a0 h hf)
set_option maxHeartbeats 400000 in
set_option maxRecDepth 100000 in
theorem J_X12_isLit {G : jG} {l : Launch} {d : Nat} {X : jX} {res : Int32} (K : jOK G l mX12_isLit (d + 2) X) (n : Nat) (h : jH) (E : jEnd G mX12_isLit (jPR h res) X) (a0 : Nat) (x1 : Int32) (x2 : Int32) (hf : F_X12_isLit n a0 x1 x2 h = some res) : jJ G X h 0 0 0 [some (.ref a0), some (.int x1), some (.int x2)] [] := by
  unfold F_X12_isLit at hf
  refine jr_aload_n K (D_at DX12_isLit_q0 0 rfl) rfl rfl ?_
  refine jr_iload_n K (D_at DX12_isLit_q0 1 rfl) rfl rfl ?_
  refine jr_iconst K (D_at DX12_isLit_q0 2 rfl) (v := (0 : Int32)) (by decide) ?_
  obtain ⟨v3, e3, hf⟩ := jbind hf
  obtain ⟨rc_3, e3⟩ := jcv_o e3
  refine jr_callV K (C_X12_of (d) e3) (D_at DX12_isLit_q0 3 rfl) cv_X12_67_X12_of (As := [.int x1, .int (0 : Int32)]) (ci := 10) rfl rc_3 rfl rfl (by exact Nat.le_of_ble_eq_true rfl) (kc2 := 0) (ks2 := 0) rfl rfl (fun k9 h9 w9 => by cases w9.1) (fun r9 h9 w9 => ?_)
  obtain ⟨w1, w2⟩ := w9
  subst h9
  cases w1
  show jJ G X _ 0 0 _ _ (.int v3 :: _)
  refine jr_iconst K (D_at DX12_isLit_q0 4 rfl) (v := (4 : Int32)) (by decide) ?_
  refine jr_iload_n K (D_at DX12_isLit_q0 5 rfl) rfl rfl ?_
  refine jr_imul K (D_at DX12_isLit_q0 6 rfl) ?_
  refine jr_iconst K (D_at DX12_isLit_q0 7 rfl) (v := (4 : Int32)) (by decide) ?_
  refine jr_iload_n K (D_at DX12_isLit_q0 8 rfl) rfl rfl ?_
  refine jr_imul K (D_at DX12_isLit_q0 9 rfl) ?_
  refine jr_aload_n K (D_at DX12_isLit_q0 10 rfl) rfl rfl ?_
  obtain ⟨p13, e13, hf⟩ := jbind hf
  refine jr_getR K (D_at DX12_isLit_q0 11 rfl) fg_X12_13_10 e13 ?_
  refine jr_bipush K (D_at DX12_isLit_q1 0 rfl) (v := (6 : Int32)) (by decide) ?_
  obtain ⟨v18, e18, hf⟩ := jbind hf
  refine jr_iald K (D_at DX12_isLit_q1 1 rfl) e18 ?_
  refine jr_iadd K (D_at DX12_isLit_q1 2 rfl) ?_
  obtain ⟨v20, e20, hf⟩ := jbind hf
  refine jr_callS K (C_X12_in (d + 1) e20) (D_at DX12_isLit_q1 3 rfl) cs_X12_77_X12_in (As := [.int v3, .int ((4 : Int32) * x2), .int (((4 : Int32) * x2) + v18)]) rfl rfl (by exact Nat.le_of_ble_eq_true rfl) (kc2 := 0) (ks2 := 0) rfl rfl (fun k9 h9 w9 => by cases w9.1) (fun r9 h9 w9 => ?_)
  obtain ⟨w1, w2⟩ := w9
  subst h9
  cases w1
  show jJ G X _ 0 0 _ _ (.int v20 :: _)
  by_cases z9 : v20 = 0 ∨ v20 = 1
  · replace hf := (if_pos z9).symm.trans hf
    cases hf
    exact jr_zret K E (D_at DX12_isLit_q1 4 rfl) rfl z9 ⟨rfl, rfl⟩
  · exact jno (show (none : Option Int32) = some res from (if_neg z9).symm.trans hf)
theorem C_X12_isLit {G : jG} {l : Launch} (d : Nat) {n : Nat} {a0 : Nat} {x1 : Int32} {x2 : Int32} {h : jH} {res : Int32} (hf : F_X12_isLit n a0 x1 x2 h = some res) : jC G l mX12_isLit (d + 2) 0 0 [.ref a0, .int x1, .int x2] h (jPR h res) :=
  jC.of pn_X12 (jcats rfl) (Nat.le_of_ble_eq_true rfl) (fun X K E => J_X12_isLit K n h E a0 x1 x2 hf)
set_option maxHeartbeats 400000 in
set_option maxRecDepth 100000 in
theorem J_X12_factOf {G : jG} {l : Launch} {d : Nat} {X : jX} {res : Int32} (K : jOK G l mX12_factOf (d + 3) X) (n : Nat) (h : jH) (E : jEnd G mX12_factOf (jPR h res) X) (a0 : Nat) (x1 : Int32) (x2 : Int32) (x3 : Int32) (hf : F_X12_factOf n a0 x1 x2 x3 h = some res) : jJ G X h 0 0 0 [some (.ref a0), some (.int x1), some (.int x2), some (.int x3)] [] := by
  unfold F_X12_factOf at hf
  refine jr_iload_n K (D_at DX12_factOf_q0 0 rfl) rfl rfl ?_
  by_cases c1_0 : x1 = (0 : Int32)
  · replace hf := (if_pos c1_0).symm.trans hf
    refine jr_tableIn K (D_at DX12_factOf_q1 0 rfl) (off := 59) (tgt := 60) (by rw [c1_0]; decide) (by rw [c1_0]; decide) (by rw [c1_0]; decide) (by decide) ?_
    refine jr_iload_n K (D_at DX12_factOf_q2 0 rfl) rfl rfl ?_
    cases hf
    exact jr_iret K E (D_at DX12_factOf_q2 1 rfl) rfl ⟨rfl, rfl⟩
  replace hf := (if_neg c1_0).symm.trans hf
  by_cases c1_1 : x1 = (1 : Int32)
  · replace hf := (if_pos c1_1).symm.trans hf
    refine jr_tableIn K (D_at DX12_factOf_q1 0 rfl) (off := 61) (tgt := 62) (by rw [c1_1]; decide) (by rw [c1_1]; decide) (by rw [c1_1]; decide) (by decide) ?_
    refine jr_aload_n K (D_at DX12_factOf_q2 2 rfl) rfl rfl ?_
    refine jr_iload_n K (D_at DX12_factOf_q2 3 rfl) rfl rfl ?_
    refine jr_iconst K (D_at DX12_factOf_q2 4 rfl) (v := (0 : Int32)) (by decide) ?_
    obtain ⟨v65, e65, hf⟩ := jbind hf
    obtain ⟨rc_65, e65⟩ := jcv_o e65
    refine jr_callV K (C_X12_of (d + 1) e65) (D_at DX12_factOf_q2 5 rfl) cv_X12_67_X12_of (As := [.int x3, .int (0 : Int32)]) (ci := 10) rfl rc_65 rfl rfl (by exact Nat.le_of_ble_eq_true rfl) (kc2 := 0) (ks2 := 0) rfl rfl (fun k9 h9 w9 => by cases w9.1) (fun r9 h9 w9 => ?_)
    obtain ⟨w1, w2⟩ := w9
    subst h9
    cases w1
    show jJ G X _ 0 0 _ _ (.int v65 :: _)
    cases hf
    exact jr_iret K E (D_at DX12_factOf_q2 6 rfl) rfl ⟨rfl, rfl⟩
  replace hf := (if_neg c1_1).symm.trans hf
  by_cases c1_2 : x1 = (2 : Int32)
  · replace hf := (if_pos c1_2).symm.trans hf
    refine jr_tableIn K (D_at DX12_factOf_q1 0 rfl) (off := 68) (tgt := 69) (by rw [c1_2]; decide) (by rw [c1_2]; decide) (by rw [c1_2]; decide) (by decide) ?_
    refine jr_aload_n K (D_at DX12_factOf_q2 7 rfl) rfl rfl ?_
    refine jr_iload_n K (D_at DX12_factOf_q2 8 rfl) rfl rfl ?_
    obtain ⟨v71, e71, hf⟩ := jbind hf
    obtain ⟨rc_71, e71⟩ := jcv_o e71
    refine jr_callV K (C_X12_gapOf (d) e71) (D_at DX12_factOf_q2 9 rfl) cv_X12_253_X12_gapOf (As := [.int x3]) (ci := 10) rfl rc_71 rfl rfl (by exact Nat.le_of_ble_eq_true rfl) (kc2 := 0) (ks2 := 0) rfl rfl (fun k9 h9 w9 => by cases w9.1) (fun r9 h9 w9 => ?_)
    obtain ⟨w1, w2⟩ := w9
    subst h9
    cases w1
    show jJ G X _ 0 0 _ _ (.int v71 :: _)
    cases hf
    exact jr_iret K E (D_at DX12_factOf_q2 10 rfl) rfl ⟨rfl, rfl⟩
  replace hf := (if_neg c1_2).symm.trans hf
  by_cases c1_3 : x1 = (3 : Int32)
  · replace hf := (if_pos c1_3).symm.trans hf
    refine jr_tableIn K (D_at DX12_factOf_q1 0 rfl) (off := 74) (tgt := 75) (by rw [c1_3]; decide) (by rw [c1_3]; decide) (by rw [c1_3]; decide) (by decide) ?_
    refine jr_aload_n K (D_at DX12_factOf_q2 11 rfl) rfl rfl ?_
    refine jr_iload_n K (D_at DX12_factOf_q3 0 rfl) rfl rfl ?_
    refine jr_iconst K (D_at DX12_factOf_q3 1 rfl) (v := (4 : Int32)) (by decide) ?_
    obtain ⟨v78, e78, hf⟩ := jbind hf
    obtain ⟨rc_78, e78⟩ := jcv_o e78
    refine jr_callV K (C_X12_of (d + 1) e78) (D_at DX12_factOf_q3 2 rfl) cv_X12_67_X12_of (As := [.int x3, .int (4 : Int32)]) (ci := 10) rfl rc_78 rfl rfl (by exact Nat.le_of_ble_eq_true rfl) (kc2 := 0) (ks2 := 0) rfl rfl (fun k9 h9 w9 => by cases w9.1) (fun r9 h9 w9 => ?_)
    obtain ⟨w1, w2⟩ := w9
    subst h9
    cases w1
    show jJ G X _ 0 0 _ _ (.int v78 :: _)
    cases hf
    exact jr_iret K E (D_at DX12_factOf_q3 3 rfl) rfl ⟨rfl, rfl⟩
  replace hf := (if_neg c1_3).symm.trans hf
  by_cases c1_4 : x1 = (4 : Int32)
  · replace hf := (if_pos c1_4).symm.trans hf
    refine jr_tableIn K (D_at DX12_factOf_q1 0 rfl) (off := 81) (tgt := 82) (by rw [c1_4]; decide) (by rw [c1_4]; decide) (by rw [c1_4]; decide) (by decide) ?_
    refine jr_aload_n K (D_at DX12_factOf_q3 4 rfl) rfl rfl ?_
    refine jr_iload_n K (D_at DX12_factOf_q3 5 rfl) rfl rfl ?_
    refine jr_iconst K (D_at DX12_factOf_q3 6 rfl) (v := (5 : Int32)) (by decide) ?_
    obtain ⟨v85, e85, hf⟩ := jbind hf
    obtain ⟨rc_85, e85⟩ := jcv_o e85
    refine jr_callV K (C_X12_of (d + 1) e85) (D_at DX12_factOf_q3 7 rfl) cv_X12_67_X12_of (As := [.int x3, .int (5 : Int32)]) (ci := 10) rfl rc_85 rfl rfl (by exact Nat.le_of_ble_eq_true rfl) (kc2 := 0) (ks2 := 0) rfl rfl (fun k9 h9 w9 => by cases w9.1) (fun r9 h9 w9 => ?_)
    obtain ⟨w1, w2⟩ := w9
    subst h9
    cases w1
    show jJ G X _ 0 0 _ _ (.int v85 :: _)
    cases hf
    exact jr_iret K E (D_at DX12_factOf_q3 8 rfl) rfl ⟨rfl, rfl⟩
  replace hf := (if_neg c1_4).symm.trans hf
  by_cases c1_5 : x1 = (5 : Int32)
  · replace hf := (if_pos c1_5).symm.trans hf
    refine jr_tableIn K (D_at DX12_factOf_q1 0 rfl) (off := 88) (tgt := 89) (by rw [c1_5]; decide) (by rw [c1_5]; decide) (by rw [c1_5]; decide) (by decide) ?_
    refine jr_aload_n K (D_at DX12_factOf_q3 9 rfl) rfl rfl ?_
    obtain ⟨p90, e90, hf⟩ := jbind hf
    refine jr_getR K (D_at DX12_factOf_q3 10 rfl) fg_X12_13_10 e90 ?_
    refine jr_iconst K (D_at DX12_factOf_q3 11 rfl) (v := (3 : Int32)) (by decide) ?_
    obtain ⟨v94, e94, hf⟩ := jbind hf
    refine jr_iald K (D_at DX12_factOf_q4 0 rfl) e94 ?_
    cases hf
    exact jr_iret K E (D_at DX12_factOf_q4 1 rfl) rfl ⟨rfl, rfl⟩
  replace hf := (if_neg c1_5).symm.trans hf
  by_cases c1_6 : x1 = (6 : Int32)
  · replace hf := (if_pos c1_6).symm.trans hf
    refine jr_tableIn K (D_at DX12_factOf_q1 0 rfl) (off := 95) (tgt := 96) (by rw [c1_6]; decide) (by rw [c1_6]; decide) (by rw [c1_6]; decide) (by decide) ?_
    refine jr_aload_n K (D_at DX12_factOf_q4 2 rfl) rfl rfl ?_
    obtain ⟨p97, e97, hf⟩ := jbind hf
    refine jr_getR K (D_at DX12_factOf_q4 3 rfl) fg_X12_13_10 e97 ?_
    refine jr_iconst K (D_at DX12_factOf_q4 4 rfl) (v := (4 : Int32)) (by decide) ?_
    obtain ⟨v101, e101, hf⟩ := jbind hf
    refine jr_iald K (D_at DX12_factOf_q4 5 rfl) e101 ?_
    cases hf
    exact jr_iret K E (D_at DX12_factOf_q4 6 rfl) rfl ⟨rfl, rfl⟩
  replace hf := (if_neg c1_6).symm.trans hf
  by_cases c1_7 : x1 = (7 : Int32)
  · replace hf := (if_pos c1_7).symm.trans hf
    refine jr_tableIn K (D_at DX12_factOf_q1 0 rfl) (off := 102) (tgt := 103) (by rw [c1_7]; decide) (by rw [c1_7]; decide) (by rw [c1_7]; decide) (by decide) ?_
    refine jr_aload_n K (D_at DX12_factOf_q4 7 rfl) rfl rfl ?_
    refine jr_iload_n K (D_at DX12_factOf_q4 8 rfl) rfl rfl ?_
    refine jr_iconst K (D_at DX12_factOf_q4 9 rfl) (v := (3 : Int32)) (by decide) ?_
    obtain ⟨v106, e106, hf⟩ := jbind hf
    obtain ⟨rc_106, e106⟩ := jcv_o e106
    refine jr_callV K (C_X12_of (d + 1) e106) (D_at DX12_factOf_q4 10 rfl) cv_X12_67_X12_of (As := [.int x3, .int (3 : Int32)]) (ci := 10) rfl rc_106 rfl rfl (by exact Nat.le_of_ble_eq_true rfl) (kc2 := 0) (ks2 := 0) rfl rfl (fun k9 h9 w9 => by cases w9.1) (fun r9 h9 w9 => ?_)
    obtain ⟨w1, w2⟩ := w9
    subst h9
    cases w1
    show jJ G X _ 0 0 _ _ (.int v106 :: _)
    cases hf
    exact jr_iret K E (D_at DX12_factOf_q4 11 rfl) rfl ⟨rfl, rfl⟩
  replace hf := (if_neg c1_7).symm.trans hf
  by_cases c1_8 : x1 = (8 : Int32)
  · replace hf := (if_pos c1_8).symm.trans hf
    refine jr_tableIn K (D_at DX12_factOf_q1 0 rfl) (off := 109) (tgt := 110) (by rw [c1_8]; decide) (by rw [c1_8]; decide) (by rw [c1_8]; decide) (by decide) ?_
    refine jr_aload_n K (D_at DX12_factOf_q5 0 rfl) rfl rfl ?_
    refine jr_iload_n K (D_at DX12_factOf_q5 1 rfl) rfl rfl ?_
    refine jr_iconst K (D_at DX12_factOf_q5 2 rfl) (v := (2 : Int32)) (by decide) ?_
    obtain ⟨v113, e113, hf⟩ := jbind hf
    obtain ⟨rc_113, e113⟩ := jcv_o e113
    refine jr_callV K (C_X12_of (d + 1) e113) (D_at DX12_factOf_q5 3 rfl) cv_X12_67_X12_of (As := [.int x3, .int (2 : Int32)]) (ci := 10) rfl rc_113 rfl rfl (by exact Nat.le_of_ble_eq_true rfl) (kc2 := 0) (ks2 := 0) rfl rfl (fun k9 h9 w9 => by cases w9.1) (fun r9 h9 w9 => ?_)
    obtain ⟨w1, w2⟩ := w9
    subst h9
    cases w1
    show jJ G X _ 0 0 _ _ (.int v113 :: _)
    cases hf
    exact jr_iret K E (D_at DX12_factOf_q5 4 rfl) rfl ⟨rfl, rfl⟩
  replace hf := (if_neg c1_8).symm.trans hf
  by_cases c1_9 : x1 = (9 : Int32)
  · replace hf := (if_pos c1_9).symm.trans hf
    refine jr_tableIn K (D_at DX12_factOf_q1 0 rfl) (off := 116) (tgt := 117) (by rw [c1_9]; decide) (by rw [c1_9]; decide) (by rw [c1_9]; decide) (by decide) ?_
    refine jr_aload_n K (D_at DX12_factOf_q5 5 rfl) rfl rfl ?_
    refine jr_iload_n K (D_at DX12_factOf_q5 6 rfl) rfl rfl ?_
    refine jr_aload_n K (D_at DX12_factOf_q5 7 rfl) rfl rfl ?_
    obtain ⟨p120, e120, hf⟩ := jbind hf
    refine jr_getR K (D_at DX12_factOf_q5 8 rfl) fg_X12_13_10 e120 ?_
    refine jr_iconst K (D_at DX12_factOf_q5 9 rfl) (v := (3 : Int32)) (by decide) ?_
    obtain ⟨v124, e124, hf⟩ := jbind hf
    refine jr_iald K (D_at DX12_factOf_q5 10 rfl) e124 ?_
    obtain ⟨v125, e125, hf⟩ := jbind hf
    obtain ⟨rc_125, e125⟩ := jcv_o e125
    refine jr_callV K (C_X12_isLit (d) e125) (D_at DX12_factOf_q5 11 rfl) cv_X12_257_X12_isLit (As := [.int x3, .int v124]) (ci := 10) rfl rc_125 rfl rfl (by exact Nat.le_of_ble_eq_true rfl) (kc2 := 0) (ks2 := 0) rfl rfl (fun k9 h9 w9 => by cases w9.1) (fun r9 h9 w9 => ?_)
    obtain ⟨w1, w2⟩ := w9
    subst h9
    cases w1
    show jJ G X _ 0 0 _ _ (.int v125 :: _)
    refine jr_if_eq K (D_at DX12_factOf_q6 0 rfl) (tgt := 135) (by decide) (fun c128 => ?_) (fun c128 => ?_)
    · replace hf := (if_pos c128).symm.trans hf
      refine jr_iconst K (D_at DX12_factOf_q6 3 rfl) (v := (0 : Int32)) (by decide) ?_
      cases hf
      exact jr_iret K E (D_at DX12_factOf_q6 4 rfl) rfl ⟨rfl, rfl⟩
    · replace hf := (if_neg c128).symm.trans hf
      refine jr_iconst K (D_at DX12_factOf_q6 1 rfl) (v := (1 : Int32)) (by decide) ?_
      refine jr_goto K (D_at DX12_factOf_q6 2 rfl) (tgt := 136) (by decide) ?_
      cases hf
      exact jr_iret K E (D_at DX12_factOf_q6 4 rfl) rfl ⟨rfl, rfl⟩
  replace hf := (if_neg c1_9).symm.trans hf
  by_cases c1_10 : x1 = (10 : Int32)
  · replace hf := (if_pos c1_10).symm.trans hf
    refine jr_tableIn K (D_at DX12_factOf_q1 0 rfl) (off := 136) (tgt := 137) (by rw [c1_10]; decide) (by rw [c1_10]; decide) (by rw [c1_10]; decide) (by decide) ?_
    refine jr_aload_n K (D_at DX12_factOf_q6 5 rfl) rfl rfl ?_
    refine jr_iload_n K (D_at DX12_factOf_q6 6 rfl) rfl rfl ?_
    refine jr_bipush K (D_at DX12_factOf_q6 7 rfl) (v := (6 : Int32)) (by decide) ?_
    obtain ⟨v141, e141, hf⟩ := jbind hf
    obtain ⟨rc_141, e141⟩ := jcv_o e141
    refine jr_callV K (C_X12_of (d + 1) e141) (D_at DX12_factOf_q6 8 rfl) cv_X12_67_X12_of (As := [.int x3, .int (6 : Int32)]) (ci := 10) rfl rc_141 rfl rfl (by exact Nat.le_of_ble_eq_true rfl) (kc2 := 0) (ks2 := 0) rfl rfl (fun k9 h9 w9 => by cases w9.1) (fun r9 h9 w9 => ?_)
    obtain ⟨w1, w2⟩ := w9
    subst h9
    cases w1
    show jJ G X _ 0 0 _ _ (.int v141 :: _)
    cases hf
    exact jr_iret K E (D_at DX12_factOf_q6 9 rfl) rfl ⟨rfl, rfl⟩
  replace hf := (if_neg c1_10).symm.trans hf
  have w1_0 := lv_neT c1_0 (a := 0) (by decide)
  have w1_1 := lv_neT c1_1 (a := 1) (by decide)
  have w1_2 := lv_neT c1_2 (a := 2) (by decide)
  have w1_3 := lv_neT c1_3 (a := 3) (by decide)
  have w1_4 := lv_neT c1_4 (a := 4) (by decide)
  have w1_5 := lv_neT c1_5 (a := 5) (by decide)
  have w1_6 := lv_neT c1_6 (a := 6) (by decide)
  have w1_7 := lv_neT c1_7 (a := 7) (by decide)
  have w1_8 := lv_neT c1_8 (a := 8) (by decide)
  have w1_9 := lv_neT c1_9 (a := 9) (by decide)
  have w1_10 := lv_neT c1_10 (a := 10) (by decide)
  refine jr_tableOut K (D_at DX12_factOf_q1 0 rfl) (tgt := 145) (by omega) (by decide) ?_
  refine jr_iload_n K (D_at DX12_factOf_q6 10 rfl) rfl rfl ?_
  cases hf
  exact jr_iret K E (D_at DX12_factOf_q6 11 rfl) rfl ⟨rfl, rfl⟩
theorem C_X12_factOf {G : jG} {l : Launch} (d : Nat) {n : Nat} {a0 : Nat} {x1 : Int32} {x2 : Int32} {x3 : Int32} {h : jH} {res : Int32} (hf : F_X12_factOf n a0 x1 x2 x3 h = some res) : jC G l mX12_factOf (d + 3) 0 0 [.ref a0, .int x1, .int x2, .int x3] h (jPR h res) :=
  jC.of pn_X12 (jcats rfl) (Nat.le_of_ble_eq_true rfl) (fun X K E => J_X12_factOf K n h E a0 x1 x2 x3 hf)
set_option maxHeartbeats 400000 in
set_option maxRecDepth 100000 in
theorem J_X12_holdsLine_222 {G : jG} {l : Launch} {d : Nat} {X : jX} {res : (Int32 × jH)} (K : jOK G l mX12_holdsLine (d + 4) X) (n : Nat) (rc22 : Nat → Int32 → Int32 → Int32 → Int32 → jH → Option (Int32 × jH)) (hr22 : ∀ (a0 : Nat) (x2 : Int32) (x3 : Int32) (x4 : Int32) (x5 : Int32) (h : jH), rc22 a0 x2 x3 x4 x5 h = some res → jJ G X h 0 0 22 [some (.ref a0), none, some (.int x2), some (.int x3), some (.int x4), some (.int x5), none, none, none, none] []) (E : jEnd G mX12_holdsLine (jPW res) X) (a0 : Nat) (x2 : Int32) (x3 : Int32) (x4 : Int32) (x5 : Int32) (x6 : Int32) (x7 : Int32) (x8 : Int32) (s0 : Int32) (h : jH) (hf : F_X12_holdsLine_222 n rc22 a0 x2 x3 x4 x5 x6 x7 x8 s0 h = some res) : jJ G X h 0 0 222 [some (.ref a0), none, some (.int x2), some (.int x3), some (.int x4), some (.int x5), some (.int x6), some (.int x7), some (.int x8), none] [.int s0] := by
  unfold F_X12_holdsLine_222 at hf
  refine jr_istore K (D_at DX12_holdsLine_1_q5 1 rfl) (i := 9) (by decide) (L2 := [_, _, _, _, _, _, _, _, _, _]) rfl ?_
  refine jr_aload_n K (D_at DX12_holdsLine_1_q5 2 rfl) rfl rfl ?_
  obtain ⟨p225, e225, hf⟩ := jbind hf
  refine jr_getR K (D_at DX12_holdsLine_1_q5 3 rfl) fg_X12_39_10 e225 ?_
  refine jr_iload_n K (D_at DX12_holdsLine_2_q0 0 rfl) rfl rfl ?_
  refine jr_iconst K (D_at DX12_holdsLine_2_q0 1 rfl) (v := (1 : Int32)) (by decide) ?_
  refine jr_isub K (D_at DX12_holdsLine_2_q0 2 rfl) ?_
  refine jr_iload K (D_at DX12_holdsLine_2_q0 3 rfl) rfl ?_
  refine jr_bipush K (D_at DX12_holdsLine_2_q0 4 rfl) (v := (12 : Int32)) (by decide) ?_
  refine jr_icmp_ne K (D_at DX12_holdsLine_2_q0 5 rfl) (tgt := 246) (by decide) (fun c235 => ?_) (fun c235 => ?_)
  · replace hf := (if_neg c235).symm.trans hf
    refine jr_iload K (D_at DX12_holdsLine_2_q0 10 rfl) rfl ?_
    refine jr_if_eq K (D_at DX12_holdsLine_2_q0 11 rfl) (tgt := 255) (by decide) (fun c248 => ?_) (fun c248 => ?_)
    · replace hf := (if_pos c248).symm.trans hf
      refine jr_iconst K (D_at DX12_holdsLine_2_q1 2 rfl) (v := (0 : Int32)) (by decide) ?_
      obtain ⟨h256, e256, hf⟩ := jbind hf
      refine jr_iast K (D_at DX12_holdsLine_2_q1 3 rfl) e256 ?_
      refine jr_iinc K (D_at DX12_holdsLine_2_q1 4 rfl) (i := 5) rfl (v := x5 + (1 : Int32)) (jinc (by decide)) (by decide) (L2 := [_, _, _, _, _, _, _, _, _, _]) rfl ?_
      refine jr_goto K (D_at DX12_holdsLine_2_q1 5 rfl) (tgt := 22) (by decide) ?_
      refine jr_keep [true, false, true, true, true, true, false, false, false, false] ?_
      exact hr22 a0 x2 x3 x4 (x5 + (1 : Int32)) h256 hf
    · replace hf := (if_neg c248).symm.trans hf
      refine jr_iconst K (D_at DX12_holdsLine_2_q1 0 rfl) (v := (1 : Int32)) (by decide) ?_
      refine jr_goto K (D_at DX12_holdsLine_2_q1 1 rfl) (tgt := 256) (by decide) ?_
      obtain ⟨h256, e256, hf⟩ := jbind hf
      refine jr_iast K (D_at DX12_holdsLine_2_q1 3 rfl) e256 ?_
      refine jr_iinc K (D_at DX12_holdsLine_2_q1 4 rfl) (i := 5) rfl (v := x5 + (1 : Int32)) (jinc (by decide)) (by decide) (L2 := [_, _, _, _, _, _, _, _, _, _]) rfl ?_
      refine jr_goto K (D_at DX12_holdsLine_2_q1 5 rfl) (tgt := 22) (by decide) ?_
      refine jr_keep [true, false, true, true, true, true, false, false, false, false] ?_
      exact hr22 a0 x2 x3 x4 (x5 + (1 : Int32)) h256 hf
  · replace hf := (if_pos c235).symm.trans hf
    refine jr_iload K (D_at DX12_holdsLine_2_q0 6 rfl) rfl ?_
    refine jr_iload K (D_at DX12_holdsLine_2_q0 7 rfl) rfl ?_
    refine jr_iadd K (D_at DX12_holdsLine_2_q0 8 rfl) ?_
    refine jr_goto K (D_at DX12_holdsLine_2_q0 9 rfl) (tgt := 256) (by decide) ?_
    obtain ⟨h256, e256, hf⟩ := jbind hf
    refine jr_iast K (D_at DX12_holdsLine_2_q1 3 rfl) e256 ?_
    refine jr_iinc K (D_at DX12_holdsLine_2_q1 4 rfl) (i := 5) rfl (v := x5 + (1 : Int32)) (jinc (by decide)) (by decide) (L2 := [_, _, _, _, _, _, _, _, _, _]) rfl ?_
    refine jr_goto K (D_at DX12_holdsLine_2_q1 5 rfl) (tgt := 22) (by decide) ?_
    refine jr_keep [true, false, true, true, true, true, false, false, false, false] ?_
    exact hr22 a0 x2 x3 x4 (x5 + (1 : Int32)) h256 hf
set_option maxHeartbeats 400000 in
set_option maxRecDepth 100000 in
theorem J_X12_holdsLine_22_b {G : jG} {l : Launch} {d : Nat} {X : jX} {res : (Int32 × jH)} (K : jOK G l mX12_holdsLine (d + 4) X) (n : Nat) (rc22 : Nat → Int32 → Int32 → Int32 → Int32 → jH → Option (Int32 × jH)) (hr22 : ∀ (a0 : Nat) (x2 : Int32) (x3 : Int32) (x4 : Int32) (x5 : Int32) (h : jH), rc22 a0 x2 x3 x4 x5 h = some res → jJ G X h 0 0 22 [some (.ref a0), none, some (.int x2), some (.int x3), some (.int x4), some (.int x5), none, none, none, none] []) (E : jEnd G mX12_holdsLine (jPW res) X) (a0 : Nat) (x2 : Int32) (x3 : Int32) (x4 : Int32) (x5 : Int32) (h : jH) (hf : F_X12_holdsLine_22_b n rc22 a0 x2 x3 x4 x5 h = some res) : jJ G X h 0 0 22 [some (.ref a0), none, some (.int x2), some (.int x3), some (.int x4), some (.int x5), none, none, none, none] [] := by
  unfold F_X12_holdsLine_22_b at hf
  refine jr_iload K (D_at DX12_holdsLine_q1 3 rfl) rfl ?_
  refine jr_aload_n K (D_at DX12_holdsLine_q1 4 rfl) rfl rfl ?_
  obtain ⟨p25, e25, hf⟩ := jbind hf
  refine jr_getR K (D_at DX12_holdsLine_q1 5 rfl) fg_X12_13_10 e25 ?_
  refine jr_iload K (D_at DX12_holdsLine_q1 6 rfl) rfl ?_
  refine jr_iconst K (D_at DX12_holdsLine_q1 7 rfl) (v := (3 : Int32)) (by decide) ?_
  refine jr_iadd K (D_at DX12_holdsLine_q1 8 rfl) ?_
  obtain ⟨v32, e32, hf⟩ := jbind hf
  refine jr_iald K (D_at DX12_holdsLine_q1 9 rfl) e32 ?_
  refine jr_icmp_ge K (D_at DX12_holdsLine_q1 10 rfl) (tgt := 263) (by decide) (fun c33 => ?_) (fun c33 => ?_)
  · replace hf := (if_pos c33).symm.trans hf
    refine jr_iload_n K (D_at DX12_holdsLine_2_q1 6 rfl) rfl rfl ?_
    refine jr_if_eq K (D_at DX12_holdsLine_2_q1 7 rfl) (tgt := 277) (by decide) (fun c264 => ?_) (fun c264 => ?_)
    · replace hf := (if_pos c264).symm.trans hf
      refine jr_iconst K (D_at DX12_holdsLine_2_q2 2 rfl) (v := (1 : Int32)) (by decide) ?_
      refine jr_goto K (D_at DX12_holdsLine_2_q2 3 rfl) (tgt := 282) (by decide) ?_
      cases hf
      exact jr_zret K E (D_at DX12_holdsLine_2_q2 5 rfl) rfl (Or.inr rfl) ⟨rfl, rfl⟩
    · replace hf := (if_neg c264).symm.trans hf
      refine jr_aload_n K (D_at DX12_holdsLine_2_q1 8 rfl) rfl rfl ?_
      obtain ⟨p268, e268, hf⟩ := jbind hf
      refine jr_getR K (D_at DX12_holdsLine_2_q1 9 rfl) fg_X12_39_10 e268 ?_
      refine jr_iconst K (D_at DX12_holdsLine_2_q1 10 rfl) (v := (0 : Int32)) (by decide) ?_
      obtain ⟨v272, e272, hf⟩ := jbind hf
      refine jr_iald K (D_at DX12_holdsLine_2_q1 11 rfl) e272 ?_
      refine jr_iconst K (D_at DX12_holdsLine_2_q2 0 rfl) (v := (1 : Int32)) (by decide) ?_
      refine jr_icmp_ne K (D_at DX12_holdsLine_2_q2 1 rfl) (tgt := 281) (by decide) (fun c274 => ?_) (fun c274 => ?_)
      · replace hf := (if_neg c274).symm.trans hf
        refine jr_iconst K (D_at DX12_holdsLine_2_q2 4 rfl) (v := (0 : Int32)) (by decide) ?_
        cases hf
        exact jr_zret K E (D_at DX12_holdsLine_2_q2 5 rfl) rfl (Or.inl rfl) ⟨rfl, rfl⟩
      · replace hf := (if_pos c274).symm.trans hf
        refine jr_iconst K (D_at DX12_holdsLine_2_q2 2 rfl) (v := (1 : Int32)) (by decide) ?_
        refine jr_goto K (D_at DX12_holdsLine_2_q2 3 rfl) (tgt := 282) (by decide) ?_
        cases hf
        exact jr_zret K E (D_at DX12_holdsLine_2_q2 5 rfl) rfl (Or.inr rfl) ⟨rfl, rfl⟩
  · replace hf := (if_neg c33).symm.trans hf
    refine jr_aload_n K (D_at DX12_holdsLine_q1 11 rfl) rfl rfl ?_
    obtain ⟨p37, e37, hf⟩ := jbind hf
    refine jr_getR K (D_at DX12_holdsLine_q2 0 rfl) fg_X12_13_10 e37 ?_
    refine jr_sipush K (D_at DX12_holdsLine_q2 1 rfl) (v := (484 : Int32)) (by decide) ?_
    refine jr_iconst K (D_at DX12_holdsLine_q2 2 rfl) (v := (2 : Int32)) (by decide) ?_
    refine jr_iload K (D_at DX12_holdsLine_q2 3 rfl) rfl ?_
    refine jr_imul K (D_at DX12_holdsLine_q2 4 rfl) ?_
    refine jr_iadd K (D_at DX12_holdsLine_q2 5 rfl) ?_
    obtain ⟨v48, e48, hf⟩ := jbind hf
    refine jr_iald K (D_at DX12_holdsLine_q2 6 rfl) e48 ?_
    refine jr_istore K (D_at DX12_holdsLine_q2 7 rfl) (i := 6) (by decide) (L2 := [_, _, _, _, _, _, _, _, _, _]) rfl ?_
    refine jr_iload K (D_at DX12_holdsLine_q2 8 rfl) rfl ?_
    refine jr_bipush K (D_at DX12_holdsLine_q2 9 rfl) (v := (11 : Int32)) (by decide) ?_
    refine jr_icmp_gt K (D_at DX12_holdsLine_q2 10 rfl) (tgt := 92) (by decide) (fun c55 => ?_) (fun c55 => ?_)
    · replace hf := (if_pos c55).symm.trans hf
      refine jr_iload K (D_at DX12_holdsLine_q4 7 rfl) rfl ?_
      refine jr_bipush K (D_at DX12_holdsLine_q4 8 rfl) (v := (15 : Int32)) (by decide) ?_
      refine jr_icmp_ne K (D_at DX12_holdsLine_q4 9 rfl) (tgt := 120) (by decide) (fun c96 => ?_) (fun c96 => ?_)
      · replace hf := (if_neg c96).symm.trans hf
        refine jr_iinc K (D_at DX12_holdsLine_1_q0 9 rfl) (i := 3) rfl (v := x3 + (-1 : Int32)) (jinc (by decide)) (by decide) (L2 := [_, _, _, _, _, _, _, _, _, _]) rfl ?_
        refine jr_aload_n K (D_at DX12_holdsLine_1_q0 10 rfl) rfl rfl ?_
        obtain ⟨p124, e124, hf⟩ := jbind hf
        refine jr_getR K (D_at DX12_holdsLine_1_q0 11 rfl) fg_X12_39_10 e124 ?_
        refine jr_iload_n K (D_at DX12_holdsLine_1_q1 0 rfl) rfl rfl ?_
        refine jr_iconst K (D_at DX12_holdsLine_1_q1 1 rfl) (v := (1 : Int32)) (by decide) ?_
        refine jr_isub K (D_at DX12_holdsLine_1_q1 2 rfl) ?_
        obtain ⟨v130, e130, hf⟩ := jbind hf
        refine jr_iald K (D_at DX12_holdsLine_1_q1 3 rfl) e130 ?_
        refine jr_istore K (D_at DX12_holdsLine_1_q1 4 rfl) (i := 7) (by decide) (L2 := [_, _, _, _, _, _, _, _, _, _]) rfl ?_
        refine jr_aload_n K (D_at DX12_holdsLine_1_q1 5 rfl) rfl rfl ?_
        obtain ⟨p134, e134, hf⟩ := jbind hf
        refine jr_getR K (D_at DX12_holdsLine_1_q1 6 rfl) fg_X12_39_10 e134 ?_
        refine jr_iload_n K (D_at DX12_holdsLine_1_q1 7 rfl) rfl rfl ?_
        obtain ⟨v138, e138, hf⟩ := jbind hf
        refine jr_iald K (D_at DX12_holdsLine_1_q1 8 rfl) e138 ?_
        refine jr_istore K (D_at DX12_holdsLine_1_q1 9 rfl) (i := 8) (by decide) (L2 := [_, _, _, _, _, _, _, _, _, _]) rfl ?_
        refine jr_iload K (D_at DX12_holdsLine_1_q1 10 rfl) rfl ?_
        refine jr_bipush K (D_at DX12_holdsLine_1_q1 11 rfl) (v := (13 : Int32)) (by decide) ?_
        refine jr_icmp_ne K (D_at DX12_holdsLine_1_q2 0 rfl) (tgt := 163) (by decide) (fun c145 => ?_) (fun c145 => ?_)
        · replace hf := (if_neg c145).symm.trans hf
          refine jr_iload K (D_at DX12_holdsLine_1_q2 8 rfl) rfl ?_
          refine jr_bipush K (D_at DX12_holdsLine_1_q2 9 rfl) (v := (14 : Int32)) (by decide) ?_
          refine jr_icmp_ne K (D_at DX12_holdsLine_1_q2 10 rfl) (tgt := 185) (by decide) (fun c167 => ?_) (fun c167 => ?_)
          · replace hf := (if_neg c167).symm.trans hf
            refine jr_iload K (D_at DX12_holdsLine_1_q3 6 rfl) rfl ?_
            refine jr_bipush K (D_at DX12_holdsLine_1_q3 7 rfl) (v := (16 : Int32)) (by decide) ?_
            refine jr_icmp_ne K (D_at DX12_holdsLine_1_q3 8 rfl) (tgt := 209) (by decide) (fun c189 => ?_) (fun c189 => ?_)
            · replace hf := (if_neg c189).symm.trans hf
              refine jr_iload K (D_at DX12_holdsLine_1_q4 6 rfl) rfl ?_
              refine jr_iload K (D_at DX12_holdsLine_1_q4 7 rfl) rfl ?_
              refine jr_iadd K (D_at DX12_holdsLine_1_q4 8 rfl) ?_
              refine jr_if_le K (D_at DX12_holdsLine_1_q4 9 rfl) (tgt := 221) (by decide) (fun c214 => ?_) (fun c214 => ?_)
              · replace hf := (if_pos c214).symm.trans hf
                refine jr_iconst K (D_at DX12_holdsLine_1_q5 0 rfl) (v := (0 : Int32)) (by decide) ?_
                refine jr_keep [true, false, true, true, true, true, true, true, true, false] ?_
                exact J_X12_holdsLine_222 K n rc22 hr22 E a0 x2 (x3 + (-1 : Int32)) x4 x5 v48 v130 v138 (0 : Int32) h hf
              · replace hf := (if_neg c214).symm.trans hf
                refine jr_iconst K (D_at DX12_holdsLine_1_q4 10 rfl) (v := (1 : Int32)) (by decide) ?_
                refine jr_goto K (D_at DX12_holdsLine_1_q4 11 rfl) (tgt := 222) (by decide) ?_
                refine jr_keep [true, false, true, true, true, true, true, true, true, false] ?_
                exact J_X12_holdsLine_222 K n rc22 hr22 E a0 x2 (x3 + (-1 : Int32)) x4 x5 v48 v130 v138 (1 : Int32) h hf
            · replace hf := (if_pos c189).symm.trans hf
              refine jr_iload K (D_at DX12_holdsLine_1_q3 9 rfl) rfl ?_
              refine jr_iload K (D_at DX12_holdsLine_1_q3 10 rfl) rfl ?_
              refine jr_iadd K (D_at DX12_holdsLine_1_q3 11 rfl) ?_
              refine jr_iconst K (D_at DX12_holdsLine_1_q4 0 rfl) (v := (2 : Int32)) (by decide) ?_
              refine jr_icmp_ne K (D_at DX12_holdsLine_1_q4 1 rfl) (tgt := 205) (by decide) (fun c198 => ?_) (fun c198 => ?_)
              · replace hf := (if_neg c198).symm.trans hf
                refine jr_iconst K (D_at DX12_holdsLine_1_q4 4 rfl) (v := (0 : Int32)) (by decide) ?_
                refine jr_goto K (D_at DX12_holdsLine_1_q4 5 rfl) (tgt := 222) (by decide) ?_
                refine jr_keep [true, false, true, true, true, true, true, true, true, false] ?_
                exact J_X12_holdsLine_222 K n rc22 hr22 E a0 x2 (x3 + (-1 : Int32)) x4 x5 v48 v130 v138 (0 : Int32) h hf
              · replace hf := (if_pos c198).symm.trans hf
                refine jr_iconst K (D_at DX12_holdsLine_1_q4 2 rfl) (v := (1 : Int32)) (by decide) ?_
                refine jr_goto K (D_at DX12_holdsLine_1_q4 3 rfl) (tgt := 222) (by decide) ?_
                refine jr_keep [true, false, true, true, true, true, true, true, true, false] ?_
                exact J_X12_holdsLine_222 K n rc22 hr22 E a0 x2 (x3 + (-1 : Int32)) x4 x5 v48 v130 v138 (1 : Int32) h hf
          · replace hf := (if_pos c167).symm.trans hf
            refine jr_iload K (D_at DX12_holdsLine_1_q2 11 rfl) rfl ?_
            refine jr_iload K (D_at DX12_holdsLine_1_q3 0 rfl) rfl ?_
            refine jr_icmp_le K (D_at DX12_holdsLine_1_q3 1 rfl) (tgt := 181) (by decide) (fun c174 => ?_) (fun c174 => ?_)
            · replace hf := (if_pos c174).symm.trans hf
              refine jr_iconst K (D_at DX12_holdsLine_1_q3 4 rfl) (v := (0 : Int32)) (by decide) ?_
              refine jr_goto K (D_at DX12_holdsLine_1_q3 5 rfl) (tgt := 222) (by decide) ?_
              refine jr_keep [true, false, true, true, true, true, true, true, true, false] ?_
              exact J_X12_holdsLine_222 K n rc22 hr22 E a0 x2 (x3 + (-1 : Int32)) x4 x5 v48 v130 v138 (0 : Int32) h hf
            · replace hf := (if_neg c174).symm.trans hf
              refine jr_iconst K (D_at DX12_holdsLine_1_q3 2 rfl) (v := (1 : Int32)) (by decide) ?_
              refine jr_goto K (D_at DX12_holdsLine_1_q3 3 rfl) (tgt := 222) (by decide) ?_
              refine jr_keep [true, false, true, true, true, true, true, true, true, false] ?_
              exact J_X12_holdsLine_222 K n rc22 hr22 E a0 x2 (x3 + (-1 : Int32)) x4 x5 v48 v130 v138 (1 : Int32) h hf
        · replace hf := (if_pos c145).symm.trans hf
          refine jr_iload K (D_at DX12_holdsLine_1_q2 1 rfl) rfl ?_
          refine jr_iload K (D_at DX12_holdsLine_1_q2 2 rfl) rfl ?_
          refine jr_icmp_ge K (D_at DX12_holdsLine_1_q2 3 rfl) (tgt := 159) (by decide) (fun c152 => ?_) (fun c152 => ?_)
          · replace hf := (if_pos c152).symm.trans hf
            refine jr_iconst K (D_at DX12_holdsLine_1_q2 6 rfl) (v := (0 : Int32)) (by decide) ?_
            refine jr_goto K (D_at DX12_holdsLine_1_q2 7 rfl) (tgt := 222) (by decide) ?_
            refine jr_keep [true, false, true, true, true, true, true, true, true, false] ?_
            exact J_X12_holdsLine_222 K n rc22 hr22 E a0 x2 (x3 + (-1 : Int32)) x4 x5 v48 v130 v138 (0 : Int32) h hf
          · replace hf := (if_neg c152).symm.trans hf
            refine jr_iconst K (D_at DX12_holdsLine_1_q2 4 rfl) (v := (1 : Int32)) (by decide) ?_
            refine jr_goto K (D_at DX12_holdsLine_1_q2 5 rfl) (tgt := 222) (by decide) ?_
            refine jr_keep [true, false, true, true, true, true, true, true, true, false] ?_
            exact J_X12_holdsLine_222 K n rc22 hr22 E a0 x2 (x3 + (-1 : Int32)) x4 x5 v48 v130 v138 (1 : Int32) h hf
      · replace hf := (if_pos c96).symm.trans hf
        refine jr_aload_n K (D_at DX12_holdsLine_q4 10 rfl) rfl rfl ?_
        obtain ⟨p100, e100, hf⟩ := jbind hf
        refine jr_getR K (D_at DX12_holdsLine_q4 11 rfl) fg_X12_39_10 e100 ?_
        refine jr_iload_n K (D_at DX12_holdsLine_q5 0 rfl) rfl rfl ?_
        refine jr_iconst K (D_at DX12_holdsLine_q5 1 rfl) (v := (1 : Int32)) (by decide) ?_
        refine jr_isub K (D_at DX12_holdsLine_q5 2 rfl) ?_
        refine jr_iconst K (D_at DX12_holdsLine_q5 3 rfl) (v := (1 : Int32)) (by decide) ?_
        refine jr_aload_n K (D_at DX12_holdsLine_1_q0 0 rfl) rfl rfl ?_
        obtain ⟨p108, e108, hf⟩ := jbind hf
        refine jr_getR K (D_at DX12_holdsLine_1_q0 1 rfl) fg_X12_39_10 e108 ?_
        refine jr_iload_n K (D_at DX12_holdsLine_1_q0 2 rfl) rfl rfl ?_
        refine jr_iconst K (D_at DX12_holdsLine_1_q0 3 rfl) (v := (1 : Int32)) (by decide) ?_
        refine jr_isub K (D_at DX12_holdsLine_1_q0 4 rfl) ?_
        obtain ⟨v114, e114, hf⟩ := jbind hf
        refine jr_iald K (D_at DX12_holdsLine_1_q0 5 rfl) e114 ?_
        refine jr_isub K (D_at DX12_holdsLine_1_q0 6 rfl) ?_
        obtain ⟨h116, e116, hf⟩ := jbind hf
        refine jr_iast K (D_at DX12_holdsLine_1_q0 7 rfl) e116 ?_
        refine jr_goto K (D_at DX12_holdsLine_1_q0 8 rfl) (tgt := 257) (by decide) ?_
        refine jr_iinc K (D_at DX12_holdsLine_2_q1 4 rfl) (i := 5) rfl (v := x5 + (1 : Int32)) (jinc (by decide)) (by decide) (L2 := [_, _, _, _, _, _, _, _, _, _]) rfl ?_
        refine jr_goto K (D_at DX12_holdsLine_2_q1 5 rfl) (tgt := 22) (by decide) ?_
        refine jr_keep [true, false, true, true, true, true, false, false, false, false] ?_
        exact hr22 a0 x2 x3 x4 (x5 + (1 : Int32)) h116 hf
    · replace hf := (if_neg c55).symm.trans hf
      refine jr_aload_n K (D_at DX12_holdsLine_q2 11 rfl) rfl rfl ?_
      obtain ⟨p59, e59, hf⟩ := jbind hf
      refine jr_getR K (D_at DX12_holdsLine_q3 0 rfl) fg_X12_39_10 e59 ?_
      refine jr_iload_n K (D_at DX12_holdsLine_q3 1 rfl) rfl rfl ?_
      refine jr_aload_n K (D_at DX12_holdsLine_q3 2 rfl) rfl rfl ?_
      refine jr_iload K (D_at DX12_holdsLine_q3 3 rfl) rfl ?_
      refine jr_aload_n K (D_at DX12_holdsLine_q3 4 rfl) rfl rfl ?_
      obtain ⟨p67, e67, hf⟩ := jbind hf
      refine jr_getR K (D_at DX12_holdsLine_q3 5 rfl) fg_X12_13_10 e67 ?_
      refine jr_sipush K (D_at DX12_holdsLine_q3 6 rfl) (v := (484 : Int32)) (by decide) ?_
      refine jr_iconst K (D_at DX12_holdsLine_q3 7 rfl) (v := (2 : Int32)) (by decide) ?_
      refine jr_iload K (D_at DX12_holdsLine_q3 8 rfl) rfl ?_
      refine jr_imul K (D_at DX12_holdsLine_q3 9 rfl) ?_
      refine jr_iadd K (D_at DX12_holdsLine_q3 10 rfl) ?_
      refine jr_iconst K (D_at DX12_holdsLine_q3 11 rfl) (v := (1 : Int32)) (by decide) ?_
      refine jr_iadd K (D_at DX12_holdsLine_q4 0 rfl) ?_
      obtain ⟨v80, e80, hf⟩ := jbind hf
      refine jr_iald K (D_at DX12_holdsLine_q4 1 rfl) e80 ?_
      refine jr_iload_n K (D_at DX12_holdsLine_q4 2 rfl) rfl rfl ?_
      obtain ⟨v82, e82, hf⟩ := jbind hf
      obtain ⟨rc_82, e82⟩ := jcv_o e82
      refine jr_callV K (C_X12_factOf (d) e82) (D_at DX12_holdsLine_q4 3 rfl) cv_X12_260_X12_factOf (As := [.int v48, .int v80, .int x2]) (ci := 10) rfl rc_82 rfl rfl (by exact Nat.le_of_ble_eq_true rfl) (kc2 := 0) (ks2 := 0) rfl rfl (fun k9 h9 w9 => by cases w9.1) (fun r9 h9 w9 => ?_)
      obtain ⟨w1, w2⟩ := w9
      subst h9
      cases w1
      show jJ G X _ 0 0 _ _ (.int v82 :: _)
      obtain ⟨h85, e85, hf⟩ := jbind hf
      refine jr_iast K (D_at DX12_holdsLine_q4 4 rfl) e85 ?_
      refine jr_iinc K (D_at DX12_holdsLine_q4 5 rfl) (i := 3) rfl (v := x3 + (1 : Int32)) (jinc (by decide)) (by decide) (L2 := [_, _, _, _, _, _, _, _, _, _]) rfl ?_
      refine jr_goto K (D_at DX12_holdsLine_q4 6 rfl) (tgt := 257) (by decide) ?_
      refine jr_iinc K (D_at DX12_holdsLine_2_q1 4 rfl) (i := 5) rfl (v := x5 + (1 : Int32)) (jinc (by decide)) (by decide) (L2 := [_, _, _, _, _, _, _, _, _, _]) rfl ?_
      refine jr_goto K (D_at DX12_holdsLine_2_q1 5 rfl) (tgt := 22) (by decide) ?_
      refine jr_keep [true, false, true, true, true, true, false, false, false, false] ?_
      exact hr22 a0 x2 (x3 + (1 : Int32)) x4 (x5 + (1 : Int32)) h85 hf
theorem J_X12_holdsLine_22 {G : jG} {l : Launch} {d : Nat} {X : jX} {res : (Int32 × jH)} (K : jOK G l mX12_holdsLine (d + 4) X) (n : Nat) (E : jEnd G mX12_holdsLine (jPW res) X) (k : Nat) : ∀ (a0 : Nat) (x2 : Int32) (x3 : Int32) (x4 : Int32) (x5 : Int32) (h : jH), F_X12_holdsLine_22 n k a0 x2 x3 x4 x5 h = some res → jJ G X h 0 0 22 [some (.ref a0), none, some (.int x2), some (.int x3), some (.int x4), some (.int x5), none, none, none, none] [] := by
  induction k with
  | zero =>
    intro a0 x2 x3 x4 x5 h hf
    exact jno (show (none : Option (Int32 × jH)) = some res from hf)
  | succ k ih =>
    intro a0 x2 x3 x4 x5 h hf
    exact J_X12_holdsLine_22_b K n (F_X12_holdsLine_22 n k) ih E a0 x2 x3 x4 x5 h hf
set_option maxHeartbeats 400000 in
set_option maxRecDepth 100000 in
theorem J_X12_holdsLine {G : jG} {l : Launch} {d : Nat} {X : jX} {res : (Int32 × jH)} (K : jOK G l mX12_holdsLine (d + 4) X) (n : Nat) (E : jEnd G mX12_holdsLine (jPW res) X) (a0 : Nat) (x1 : Int32) (x2 : Int32) (h : jH) (hf : F_X12_holdsLine n a0 x1 x2 h = some res) : jJ G X h 0 0 0 [some (.ref a0), some (.int x1), some (.int x2), none, none, none, none, none, none, none] [] := by
  unfold F_X12_holdsLine at hf
  refine jr_iconst K (D_at DX12_holdsLine_q0 0 rfl) (v := (0 : Int32)) (by decide) ?_
  refine jr_istore_n K (D_at DX12_holdsLine_q0 1 rfl) (i := 3) rfl (by decide) (L2 := [_, _, _, _, _, _, _, _, _, _]) rfl ?_
  refine jr_sipush K (D_at DX12_holdsLine_q0 2 rfl) (v := (436 : Int32)) (by decide) ?_
  refine jr_iconst K (D_at DX12_holdsLine_q0 3 rfl) (v := (4 : Int32)) (by decide) ?_
  refine jr_iload_n K (D_at DX12_holdsLine_q0 4 rfl) rfl rfl ?_
  refine jr_imul K (D_at DX12_holdsLine_q0 5 rfl) ?_
  refine jr_iadd K (D_at DX12_holdsLine_q0 6 rfl) ?_
  refine jr_istore K (D_at DX12_holdsLine_q0 7 rfl) (i := 4) (by decide) (L2 := [_, _, _, _, _, _, _, _, _, _]) rfl ?_
  refine jr_aload_n K (D_at DX12_holdsLine_q0 8 rfl) rfl rfl ?_
  obtain ⟨p12, e12, hf⟩ := jbind hf
  refine jr_getR K (D_at DX12_holdsLine_q0 9 rfl) fg_X12_13_10 e12 ?_
  refine jr_iload K (D_at DX12_holdsLine_q0 10 rfl) rfl ?_
  refine jr_iconst K (D_at DX12_holdsLine_q0 11 rfl) (v := (2 : Int32)) (by decide) ?_
  refine jr_iadd K (D_at DX12_holdsLine_q1 0 rfl) ?_
  obtain ⟨v19, e19, hf⟩ := jbind hf
  refine jr_iald K (D_at DX12_holdsLine_q1 1 rfl) e19 ?_
  refine jr_istore K (D_at DX12_holdsLine_q1 2 rfl) (i := 5) (by decide) (L2 := [_, _, _, _, _, _, _, _, _, _]) rfl ?_
  refine jr_keep [true, false, true, true, true, true, false, false, false, false] ?_
  exact J_X12_holdsLine_22 K n E n a0 x2 (0 : Int32) ((436 : Int32) + ((4 : Int32) * x1)) v19 h hf
theorem C_X12_holdsLine {G : jG} {l : Launch} (d : Nat) {n : Nat} {a0 : Nat} {x1 : Int32} {x2 : Int32} {h : jH} {res : (Int32 × jH)} (hf : F_X12_holdsLine n a0 x1 x2 h = some res) : jC G l mX12_holdsLine (d + 4) 0 0 [.ref a0, .int x1, .int x2] h (jPW res) :=
  jC.of pn_X12 (jcats rfl) (Nat.le_of_ble_eq_true rfl) (fun X K E => J_X12_holdsLine K n E a0 x1 x2 h hf)
set_option maxHeartbeats 400000 in
set_option maxRecDepth 100000 in
theorem J_X12_sumOf_5_b {G : jG} {l : Launch} {d : Nat} {X : jX} {res : (Int32 × jH)} (K : jOK G l mX12_sumOf (d + 5) X) (n : Nat) (rc5 : Nat → Int32 → Int32 → Int32 → Int32 → jH → Option (Int32 × jH)) (hr5 : ∀ (a0 : Nat) (x1 : Int32) (x2 : Int32) (x3 : Int32) (x4 : Int32) (h : jH), rc5 a0 x1 x2 x3 x4 h = some res → jJ G X h 0 0 5 [some (.ref a0), some (.int x1), some (.int x2), some (.int x3), some (.int x4)] []) (E : jEnd G mX12_sumOf (jPW res) X) (a0 : Nat) (x1 : Int32) (x2 : Int32) (x3 : Int32) (x4 : Int32) (h : jH) (hf : F_X12_sumOf_5_b n rc5 a0 x1 x2 x3 x4 h = some res) : jJ G X h 0 0 5 [some (.ref a0), some (.int x1), some (.int x2), some (.int x3), some (.int x4)] [] := by
  unfold F_X12_sumOf_5_b at hf
  refine jr_iload K (D_at DX12_sumOf_q0 4 rfl) rfl ?_
  refine jr_aload_n K (D_at DX12_sumOf_q0 5 rfl) rfl rfl ?_
  obtain ⟨p8, e8, hf⟩ := jbind hf
  refine jr_getR K (D_at DX12_sumOf_q0 6 rfl) fg_X12_13_10 e8 ?_
  refine jr_sipush K (D_at DX12_sumOf_q0 7 rfl) (v := (435 : Int32)) (by decide) ?_
  obtain ⟨v14, e14, hf⟩ := jbind hf
  refine jr_iald K (D_at DX12_sumOf_q0 8 rfl) e14 ?_
  refine jr_icmp_ge K (D_at DX12_sumOf_q0 9 rfl) (tgt := 69) (by decide) (fun c15 => ?_) (fun c15 => ?_)
  · replace hf := (if_pos c15).symm.trans hf
    refine jr_iload_n K (D_at DX12_sumOf_q3 4 rfl) rfl rfl ?_
    cases hf
    exact jr_iret K E (D_at DX12_sumOf_q3 5 rfl) rfl ⟨rfl, rfl⟩
  · replace hf := (if_neg c15).symm.trans hf
    refine jr_aload_n K (D_at DX12_sumOf_q0 10 rfl) rfl rfl ?_
    obtain ⟨p19, e19, hf⟩ := jbind hf
    refine jr_getR K (D_at DX12_sumOf_q0 11 rfl) fg_X12_13_10 e19 ?_
    refine jr_sipush K (D_at DX12_sumOf_q1 0 rfl) (v := (436 : Int32)) (by decide) ?_
    refine jr_iconst K (D_at DX12_sumOf_q1 1 rfl) (v := (4 : Int32)) (by decide) ?_
    refine jr_iload K (D_at DX12_sumOf_q1 2 rfl) rfl ?_
    refine jr_imul K (D_at DX12_sumOf_q1 3 rfl) ?_
    refine jr_iadd K (D_at DX12_sumOf_q1 4 rfl) ?_
    obtain ⟨v30, e30, hf⟩ := jbind hf
    refine jr_iald K (D_at DX12_sumOf_q1 5 rfl) e30 ?_
    refine jr_iload_n K (D_at DX12_sumOf_q1 6 rfl) rfl rfl ?_
    refine jr_icmp_ne K (D_at DX12_sumOf_q1 7 rfl) (tgt := 63) (by decide) (fun c32 => ?_) (fun c32 => ?_)
    · replace hf := (if_neg c32).symm.trans hf
      refine jr_iinc K (D_at DX12_sumOf_q3 2 rfl) (i := 4) rfl (v := x4 + (1 : Int32)) (jinc (by decide)) (by decide) (L2 := [_, _, _, _, _]) rfl ?_
      refine jr_goto K (D_at DX12_sumOf_q3 3 rfl) (tgt := 5) (by decide) ?_
      refine jr_keep [true, true, true, true, true] ?_
      exact hr5 a0 x1 x2 x3 (x4 + (1 : Int32)) h hf
    · replace hf := (if_pos c32).symm.trans hf
      refine jr_aload_n K (D_at DX12_sumOf_q1 8 rfl) rfl rfl ?_
      refine jr_iload K (D_at DX12_sumOf_q1 9 rfl) rfl ?_
      refine jr_iload_n K (D_at DX12_sumOf_q1 10 rfl) rfl rfl ?_
      obtain ⟨q39, e39, hf⟩ := jbind hf
      obtain ⟨rc_39, e39⟩ := jcv_o e39
      refine jr_callV K (C_X12_holdsLine (d) e39) (D_at DX12_sumOf_q1 11 rfl) cv_X12_264_X12_holdsLine (As := [.int x4, .int x2]) (ci := 10) rfl rc_39 rfl rfl (by exact Nat.le_of_ble_eq_true rfl) (kc2 := 0) (ks2 := 0) rfl rfl (fun k9 h9 w9 => by cases w9.1) (fun r9 h9 w9 => ?_)
      obtain ⟨w1, w2⟩ := w9
      subst h9
      cases w1
      show jJ G X _ 0 0 _ _ (.int q39.1 :: _)
      refine jr_if_eq K (D_at DX12_sumOf_q2 0 rfl) (tgt := 63) (by decide) (fun c42 => ?_) (fun c42 => ?_)
      · replace hf := (if_pos c42).symm.trans hf
        refine jr_iinc K (D_at DX12_sumOf_q3 2 rfl) (i := 4) rfl (v := x4 + (1 : Int32)) (jinc (by decide)) (by decide) (L2 := [_, _, _, _, _]) rfl ?_
        refine jr_goto K (D_at DX12_sumOf_q3 3 rfl) (tgt := 5) (by decide) ?_
        refine jr_keep [true, true, true, true, true] ?_
        exact hr5 a0 x1 x2 x3 (x4 + (1 : Int32)) q39.2 hf
      · replace hf := (if_neg c42).symm.trans hf
        refine jr_iload_n K (D_at DX12_sumOf_q2 1 rfl) rfl rfl ?_
        refine jr_aload_n K (D_at DX12_sumOf_q2 2 rfl) rfl rfl ?_
        obtain ⟨p47, e47, hf⟩ := jbind hf
        refine jr_getR K (D_at DX12_sumOf_q2 3 rfl) fg_X12_13_10 e47 ?_
        refine jr_sipush K (D_at DX12_sumOf_q2 4 rfl) (v := (436 : Int32)) (by decide) ?_
        refine jr_iconst K (D_at DX12_sumOf_q2 5 rfl) (v := (4 : Int32)) (by decide) ?_
        refine jr_iload K (D_at DX12_sumOf_q2 6 rfl) rfl ?_
        refine jr_imul K (D_at DX12_sumOf_q2 7 rfl) ?_
        refine jr_iadd K (D_at DX12_sumOf_q2 8 rfl) ?_
        refine jr_iconst K (D_at DX12_sumOf_q2 9 rfl) (v := (1 : Int32)) (by decide) ?_
        refine jr_iadd K (D_at DX12_sumOf_q2 10 rfl) ?_
        obtain ⟨v60, e60, hf⟩ := jbind hf
        refine jr_iald K (D_at DX12_sumOf_q2 11 rfl) e60 ?_
        refine jr_iadd K (D_at DX12_sumOf_q3 0 rfl) ?_
        refine jr_istore_n K (D_at DX12_sumOf_q3 1 rfl) (i := 3) rfl (by decide) (L2 := [_, _, _, _, _]) rfl ?_
        refine jr_iinc K (D_at DX12_sumOf_q3 2 rfl) (i := 4) rfl (v := x4 + (1 : Int32)) (jinc (by decide)) (by decide) (L2 := [_, _, _, _, _]) rfl ?_
        refine jr_goto K (D_at DX12_sumOf_q3 3 rfl) (tgt := 5) (by decide) ?_
        refine jr_keep [true, true, true, true, true] ?_
        exact hr5 a0 x1 x2 (x3 + v60) (x4 + (1 : Int32)) q39.2 hf
theorem J_X12_sumOf_5 {G : jG} {l : Launch} {d : Nat} {X : jX} {res : (Int32 × jH)} (K : jOK G l mX12_sumOf (d + 5) X) (n : Nat) (E : jEnd G mX12_sumOf (jPW res) X) (k : Nat) : ∀ (a0 : Nat) (x1 : Int32) (x2 : Int32) (x3 : Int32) (x4 : Int32) (h : jH), F_X12_sumOf_5 n k a0 x1 x2 x3 x4 h = some res → jJ G X h 0 0 5 [some (.ref a0), some (.int x1), some (.int x2), some (.int x3), some (.int x4)] [] := by
  induction k with
  | zero =>
    intro a0 x1 x2 x3 x4 h hf
    exact jno (show (none : Option (Int32 × jH)) = some res from hf)
  | succ k ih =>
    intro a0 x1 x2 x3 x4 h hf
    exact J_X12_sumOf_5_b K n (F_X12_sumOf_5 n k) ih E a0 x1 x2 x3 x4 h hf
set_option maxHeartbeats 400000 in
set_option maxRecDepth 100000 in
theorem J_X12_sumOf {G : jG} {l : Launch} {d : Nat} {X : jX} {res : (Int32 × jH)} (K : jOK G l mX12_sumOf (d + 5) X) (n : Nat) (E : jEnd G mX12_sumOf (jPW res) X) (a0 : Nat) (x1 : Int32) (x2 : Int32) (h : jH) (hf : F_X12_sumOf n a0 x1 x2 h = some res) : jJ G X h 0 0 0 [some (.ref a0), some (.int x1), some (.int x2), none, none] [] := by
  unfold F_X12_sumOf at hf
  refine jr_iconst K (D_at DX12_sumOf_q0 0 rfl) (v := (0 : Int32)) (by decide) ?_
  refine jr_istore_n K (D_at DX12_sumOf_q0 1 rfl) (i := 3) rfl (by decide) (L2 := [_, _, _, _, _]) rfl ?_
  refine jr_iconst K (D_at DX12_sumOf_q0 2 rfl) (v := (0 : Int32)) (by decide) ?_
  refine jr_istore K (D_at DX12_sumOf_q0 3 rfl) (i := 4) (by decide) (L2 := [_, _, _, _, _]) rfl ?_
  refine jr_keep [true, true, true, true, true] ?_
  exact J_X12_sumOf_5 K n E n a0 x1 x2 (0 : Int32) (0 : Int32) h hf
theorem C_X12_sumOf {G : jG} {l : Launch} (d : Nat) {n : Nat} {a0 : Nat} {x1 : Int32} {x2 : Int32} {h : jH} {res : (Int32 × jH)} (hf : F_X12_sumOf n a0 x1 x2 h = some res) : jC G l mX12_sumOf (d + 5) 0 0 [.ref a0, .int x1, .int x2] h (jPW res) :=
  jC.of pn_X12 (jcats rfl) (Nat.le_of_ble_eq_true rfl) (fun X K E => J_X12_sumOf K n E a0 x1 x2 h hf)
set_option maxHeartbeats 400000 in
set_option maxRecDepth 100000 in
theorem J_X12_byLaw {G : jG} {l : Launch} {d : Nat} {X : jX} {res : (Int32 × jH)} (K : jOK G l mX12_byLaw (d + 6) X) (n : Nat) (E : jEnd G mX12_byLaw (jPW res) X) (a0 : Nat) (x1 : Int32) (x2 : Int32) (h : jH) (hf : F_X12_byLaw n a0 x1 x2 h = some res) : jJ G X h 0 0 0 [some (.ref a0), some (.int x1), some (.int x2)] [] := by
  unfold F_X12_byLaw at hf
  refine jr_aload_n K (D_at DX12_byLaw_q0 0 rfl) rfl rfl ?_
  obtain ⟨p1, e1, hf⟩ := jbind hf
  refine jr_getR K (D_at DX12_byLaw_q0 1 rfl) fg_X12_13_10 e1 ?_
  refine jr_iconst K (D_at DX12_byLaw_q0 2 rfl) (v := (2 : Int32)) (by decide) ?_
  obtain ⟨v5, e5, hf⟩ := jbind hf
  refine jr_iald K (D_at DX12_byLaw_q0 3 rfl) e5 ?_
  refine jr_iconst K (D_at DX12_byLaw_q0 4 rfl) (v := (1 : Int32)) (by decide) ?_
  refine jr_icmp_ne K (D_at DX12_byLaw_q0 5 rfl) (tgt := 17) (by decide) (fun c7 => ?_) (fun c7 => ?_)
  · replace hf := (if_neg c7).symm.trans hf
    refine jr_iload_n K (D_at DX12_byLaw_q0 11 rfl) rfl rfl ?_
    refine jr_if_ne K (D_at DX12_byLaw_q1 0 rfl) (tgt := 43) (by decide) (fun c18 => ?_) (fun c18 => ?_)
    · replace hf := (if_neg c18).symm.trans hf
      refine jr_iload_n K (D_at DX12_byLaw_q2 1 rfl) rfl rfl ?_
      refine jr_iconst K (D_at DX12_byLaw_q2 2 rfl) (v := (1 : Int32)) (by decide) ?_
      refine jr_icmp_ne K (D_at DX12_byLaw_q2 3 rfl) (tgt := 53) (by decide) (fun c45 => ?_) (fun c45 => ?_)
      · replace hf := (if_neg c45).symm.trans hf
        refine jr_iconst K (D_at DX12_byLaw_q2 6 rfl) (v := (0 : Int32)) (by decide) ?_
        cases hf
        exact jr_iret K E (D_at DX12_byLaw_q2 7 rfl) rfl ⟨rfl, rfl⟩
      · replace hf := (if_pos c45).symm.trans hf
        refine jr_bipush K (D_at DX12_byLaw_q2 4 rfl) (v := (10 : Int32)) (by decide) ?_
        refine jr_goto K (D_at DX12_byLaw_q2 5 rfl) (tgt := 54) (by decide) ?_
        cases hf
        exact jr_iret K E (D_at DX12_byLaw_q2 7 rfl) rfl ⟨rfl, rfl⟩
    · replace hf := (if_pos c18).symm.trans hf
      refine jr_aload_n K (D_at DX12_byLaw_q1 1 rfl) rfl rfl ?_
      refine jr_iload_n K (D_at DX12_byLaw_q1 2 rfl) rfl rfl ?_
      refine jr_aload_n K (D_at DX12_byLaw_q1 3 rfl) rfl rfl ?_
      obtain ⟨p24, e24, hf⟩ := jbind hf
      refine jr_getR K (D_at DX12_byLaw_q1 4 rfl) fg_X12_13_10 e24 ?_
      refine jr_iconst K (D_at DX12_byLaw_q1 5 rfl) (v := (3 : Int32)) (by decide) ?_
      obtain ⟨v28, e28, hf⟩ := jbind hf
      refine jr_iald K (D_at DX12_byLaw_q1 6 rfl) e28 ?_
      obtain ⟨v29, e29, hf⟩ := jbind hf
      obtain ⟨rc_29, e29⟩ := jcv_o e29
      refine jr_callV K (C_X12_isLit (d + 3) e29) (D_at DX12_byLaw_q1 7 rfl) cv_X12_257_X12_isLit (As := [.int x2, .int v28]) (ci := 10) rfl rc_29 rfl rfl (by exact Nat.le_of_ble_eq_true rfl) (kc2 := 0) (ks2 := 0) rfl rfl (fun k9 h9 w9 => by cases w9.1) (fun r9 h9 w9 => ?_)
      obtain ⟨w1, w2⟩ := w9
      subst h9
      cases w1
      show jJ G X _ 0 0 _ _ (.int v29 :: _)
      refine jr_if_eq K (D_at DX12_byLaw_q1 8 rfl) (tgt := 39) (by decide) (fun c32 => ?_) (fun c32 => ?_)
      · replace hf := (if_pos c32).symm.trans hf
        refine jr_iconst K (D_at DX12_byLaw_q1 11 rfl) (v := (0 : Int32)) (by decide) ?_
        refine jr_goto K (D_at DX12_byLaw_q2 0 rfl) (tgt := 54) (by decide) ?_
        cases hf
        exact jr_iret K E (D_at DX12_byLaw_q2 7 rfl) rfl ⟨rfl, rfl⟩
      · replace hf := (if_neg c32).symm.trans hf
        refine jr_iconst K (D_at DX12_byLaw_q1 9 rfl) (v := (1 : Int32)) (by decide) ?_
        refine jr_goto K (D_at DX12_byLaw_q1 10 rfl) (tgt := 54) (by decide) ?_
        cases hf
        exact jr_iret K E (D_at DX12_byLaw_q2 7 rfl) rfl ⟨rfl, rfl⟩
  · replace hf := (if_pos c7).symm.trans hf
    refine jr_aload_n K (D_at DX12_byLaw_q0 6 rfl) rfl rfl ?_
    refine jr_iload_n K (D_at DX12_byLaw_q0 7 rfl) rfl rfl ?_
    refine jr_iload_n K (D_at DX12_byLaw_q0 8 rfl) rfl rfl ?_
    obtain ⟨q13, e13, hf⟩ := jbind hf
    obtain ⟨rc_13, e13⟩ := jcv_o e13
    refine jr_callV K (C_X12_sumOf (d) e13) (D_at DX12_byLaw_q0 9 rfl) cv_X12_267_X12_sumOf (As := [.int x1, .int x2]) (ci := 10) rfl rc_13 rfl rfl (by exact Nat.le_of_ble_eq_true rfl) (kc2 := 0) (ks2 := 0) rfl rfl (fun k9 h9 w9 => by cases w9.1) (fun r9 h9 w9 => ?_)
    obtain ⟨w1, w2⟩ := w9
    subst h9
    cases w1
    show jJ G X _ 0 0 _ _ (.int q13.1 :: _)
    cases hf
    exact jr_iret K E (D_at DX12_byLaw_q0 10 rfl) rfl ⟨rfl, rfl⟩
theorem C_X12_byLaw {G : jG} {l : Launch} (d : Nat) {n : Nat} {a0 : Nat} {x1 : Int32} {x2 : Int32} {h : jH} {res : (Int32 × jH)} (hf : F_X12_byLaw n a0 x1 x2 h = some res) : jC G l mX12_byLaw (d + 6) 0 0 [.ref a0, .int x1, .int x2] h (jPW res) :=
  jC.of pn_X12 (jcats rfl) (Nat.le_of_ble_eq_true rfl) (fun X K E => J_X12_byLaw K n E a0 x1 x2 h hf)
set_option maxHeartbeats 400000 in
set_option maxRecDepth 100000 in
theorem J_X12_fadesOfAll_4_b {G : jG} {l : Launch} {d : Nat} {X : jX} {res : Int32} (K : jOK G l mX12_fadesOfAll (d + 2) X) (n : Nat) (h : jH) (rc4 : Nat → Int32 → Int32 → jH → Option Int32) (hr4 : ∀ (a0 : Nat) (x1 : Int32) (x2 : Int32), rc4 a0 x1 x2 h = some res → jJ G X h 0 0 4 [some (.ref a0), some (.int x1), some (.int x2)] []) (E : jEnd G mX12_fadesOfAll (jPR h res) X) (a0 : Nat) (x1 : Int32) (x2 : Int32) (hf : F_X12_fadesOfAll_4_b n rc4 a0 x1 x2 h = some res) : jJ G X h 0 0 4 [some (.ref a0), some (.int x1), some (.int x2)] [] := by
  unfold F_X12_fadesOfAll_4_b at hf
  refine jr_iload_n K (D_at DX12_fadesOfAll_q0 4 rfl) rfl rfl ?_
  refine jr_aload_n K (D_at DX12_fadesOfAll_q0 5 rfl) rfl rfl ?_
  obtain ⟨v6, e6, hf⟩ := jbind hf
  obtain ⟨rc_6, e6⟩ := jcv_o e6
  refine jr_callV K (C_X12_rings (d + 1) e6) (D_at DX12_fadesOfAll_q0 6 rfl) cv_X12_59_X12_rings (As := []) (ci := 10) rfl rc_6 rfl rfl (by exact Nat.le_of_ble_eq_true rfl) (kc2 := 0) (ks2 := 0) rfl rfl (fun k9 h9 w9 => by cases w9.1) (fun r9 h9 w9 => ?_)
  obtain ⟨w1, w2⟩ := w9
  subst h9
  cases w1
  show jJ G X _ 0 0 _ _ (.int v6 :: _)
  refine jr_icmp_ge K (D_at DX12_fadesOfAll_q0 7 rfl) (tgt := 27) (by decide) (fun c9 => ?_) (fun c9 => ?_)
  · replace hf := (if_pos c9).symm.trans hf
    refine jr_iload_n K (D_at DX12_fadesOfAll_q1 5 rfl) rfl rfl ?_
    cases hf
    exact jr_iret K E (D_at DX12_fadesOfAll_q1 6 rfl) rfl ⟨rfl, rfl⟩
  · replace hf := (if_neg c9).symm.trans hf
    refine jr_iload_n K (D_at DX12_fadesOfAll_q0 8 rfl) rfl rfl ?_
    refine jr_aload_n K (D_at DX12_fadesOfAll_q0 9 rfl) rfl rfl ?_
    refine jr_iload_n K (D_at DX12_fadesOfAll_q0 10 rfl) rfl rfl ?_
    refine jr_iconst K (D_at DX12_fadesOfAll_q0 11 rfl) (v := (4 : Int32)) (by decide) ?_
    obtain ⟨v16, e16, hf⟩ := jbind hf
    obtain ⟨rc_16, e16⟩ := jcv_o e16
    refine jr_callV K (C_X12_of (d) e16) (D_at DX12_fadesOfAll_q1 0 rfl) cv_X12_67_X12_of (As := [.int x2, .int (4 : Int32)]) (ci := 10) rfl rc_16 rfl rfl (by exact Nat.le_of_ble_eq_true rfl) (kc2 := 0) (ks2 := 0) rfl rfl (fun k9 h9 w9 => by cases w9.1) (fun r9 h9 w9 => ?_)
    obtain ⟨w1, w2⟩ := w9
    subst h9
    cases w1
    show jJ G X _ 0 0 _ _ (.int v16 :: _)
    refine jr_iadd K (D_at DX12_fadesOfAll_q1 1 rfl) ?_
    refine jr_istore_n K (D_at DX12_fadesOfAll_q1 2 rfl) (i := 1) rfl (by decide) (L2 := [_, _, _]) rfl ?_
    refine jr_iinc K (D_at DX12_fadesOfAll_q1 3 rfl) (i := 2) rfl (v := x2 + (1 : Int32)) (jinc (by decide)) (by decide) (L2 := [_, _, _]) rfl ?_
    refine jr_goto K (D_at DX12_fadesOfAll_q1 4 rfl) (tgt := 4) (by decide) ?_
    refine jr_keep [true, true, true] ?_
    exact hr4 a0 (x1 + v16) (x2 + (1 : Int32)) hf
theorem J_X12_fadesOfAll_4 {G : jG} {l : Launch} {d : Nat} {X : jX} {res : Int32} (K : jOK G l mX12_fadesOfAll (d + 2) X) (n : Nat) (h : jH) (E : jEnd G mX12_fadesOfAll (jPR h res) X) (k : Nat) : ∀ (a0 : Nat) (x1 : Int32) (x2 : Int32), F_X12_fadesOfAll_4 n k a0 x1 x2 h = some res → jJ G X h 0 0 4 [some (.ref a0), some (.int x1), some (.int x2)] [] := by
  induction k with
  | zero =>
    intro a0 x1 x2 hf
    exact jno (show (none : Option Int32) = some res from hf)
  | succ k ih =>
    intro a0 x1 x2 hf
    exact J_X12_fadesOfAll_4_b K n h (F_X12_fadesOfAll_4 n k) ih E a0 x1 x2 hf
set_option maxHeartbeats 400000 in
set_option maxRecDepth 100000 in
theorem J_X12_fadesOfAll {G : jG} {l : Launch} {d : Nat} {X : jX} {res : Int32} (K : jOK G l mX12_fadesOfAll (d + 2) X) (n : Nat) (h : jH) (E : jEnd G mX12_fadesOfAll (jPR h res) X) (a0 : Nat) (hf : F_X12_fadesOfAll n a0 h = some res) : jJ G X h 0 0 0 [some (.ref a0), none, none] [] := by
  unfold F_X12_fadesOfAll at hf
  refine jr_iconst K (D_at DX12_fadesOfAll_q0 0 rfl) (v := (0 : Int32)) (by decide) ?_
  refine jr_istore_n K (D_at DX12_fadesOfAll_q0 1 rfl) (i := 1) rfl (by decide) (L2 := [_, _, _]) rfl ?_
  refine jr_iconst K (D_at DX12_fadesOfAll_q0 2 rfl) (v := (0 : Int32)) (by decide) ?_
  refine jr_istore_n K (D_at DX12_fadesOfAll_q0 3 rfl) (i := 2) rfl (by decide) (L2 := [_, _, _]) rfl ?_
  refine jr_keep [true, true, true] ?_
  exact J_X12_fadesOfAll_4 K n h E n a0 (0 : Int32) (0 : Int32) hf
theorem C_X12_fadesOfAll {G : jG} {l : Launch} (d : Nat) {n : Nat} {a0 : Nat} {h : jH} {res : Int32} (hf : F_X12_fadesOfAll n a0 h = some res) : jC G l mX12_fadesOfAll (d + 2) 0 0 [.ref a0] h (jPR h res) :=
  jC.of pn_X12 (jcats rfl) (Nat.le_of_ble_eq_true rfl) (fun X K E => J_X12_fadesOfAll K n h E a0 hf)
set_option maxHeartbeats 400000 in
set_option maxRecDepth 100000 in
theorem J_X12_shareOf {G : jG} {l : Launch} {d : Nat} {X : jX} {res : Int32} (K : jOK G l mX12_shareOf (d + 3) X) (n : Nat) (h : jH) (E : jEnd G mX12_shareOf (jPR h res) X) (a0 : Nat) (x1 : Int32) (hf : F_X12_shareOf n a0 x1 h = some res) : jJ G X h 0 0 0 [some (.ref a0), some (.int x1), none] [] := by
  unfold F_X12_shareOf at hf
  refine jr_aload_n K (D_at DX12_shareOf_q0 0 rfl) rfl rfl ?_
  obtain ⟨v1, e1, hf⟩ := jbind hf
  obtain ⟨rc_1, e1⟩ := jcv_o e1
  refine jr_callV K (C_X12_fadesOfAll (d) e1) (D_at DX12_shareOf_q0 1 rfl) cv_X12_270_X12_fadesOfAll (As := []) (ci := 10) rfl rc_1 rfl rfl (by exact Nat.le_of_ble_eq_true rfl) (kc2 := 0) (ks2 := 0) rfl rfl (fun k9 h9 w9 => by cases w9.1) (fun r9 h9 w9 => ?_)
  obtain ⟨w1, w2⟩ := w9
  subst h9
  cases w1
  show jJ G X _ 0 0 _ _ (.int v1 :: _)
  refine jr_istore_n K (D_at DX12_shareOf_q0 2 rfl) (i := 2) rfl (by decide) (L2 := [_, _, _]) rfl ?_
  refine jr_iload_n K (D_at DX12_shareOf_q0 3 rfl) rfl rfl ?_
  refine jr_if_ne K (D_at DX12_shareOf_q0 4 rfl) (tgt := 13) (by decide) (fun c6 => ?_) (fun c6 => ?_)
  · replace hf := (if_neg c6).symm.trans hf
    refine jr_bipush K (D_at DX12_shareOf_q0 7 rfl) (v := (100 : Int32)) (by decide) ?_
    refine jr_aload_n K (D_at DX12_shareOf_q0 8 rfl) rfl rfl ?_
    refine jr_iload_n K (D_at DX12_shareOf_q0 9 rfl) rfl rfl ?_
    refine jr_iconst K (D_at DX12_shareOf_q0 10 rfl) (v := (4 : Int32)) (by decide) ?_
    obtain ⟨v18, e18, hf⟩ := jbind hf
    obtain ⟨rc_18, e18⟩ := jcv_o e18
    refine jr_callV K (C_X12_of (d + 1) e18) (D_at DX12_shareOf_q0 11 rfl) cv_X12_67_X12_of (As := [.int x1, .int (4 : Int32)]) (ci := 10) rfl rc_18 rfl rfl (by exact Nat.le_of_ble_eq_true rfl) (kc2 := 0) (ks2 := 0) rfl rfl (fun k9 h9 w9 => by cases w9.1) (fun r9 h9 w9 => ?_)
    obtain ⟨w1, w2⟩ := w9
    subst h9
    cases w1
    show jJ G X _ 0 0 _ _ (.int v18 :: _)
    refine jr_imul K (D_at DX12_shareOf_q1 0 rfl) ?_
    refine jr_iload_n K (D_at DX12_shareOf_q1 1 rfl) rfl rfl ?_
    by_cases c23 : v1 = 0
    · exact jno (show (none : Option Int32) = some res from (if_pos c23).symm.trans hf)
    replace hf := (if_neg c23).symm.trans hf
    refine jr_idiv K (D_at DX12_shareOf_q1 2 rfl) c23 ?_
    cases hf
    exact jr_iret K E (D_at DX12_shareOf_q1 3 rfl) rfl ⟨rfl, rfl⟩
  · replace hf := (if_pos c6).symm.trans hf
    refine jr_iconst K (D_at DX12_shareOf_q0 5 rfl) (v := (0 : Int32)) (by decide) ?_
    refine jr_goto K (D_at DX12_shareOf_q0 6 rfl) (tgt := 24) (by decide) ?_
    cases hf
    exact jr_iret K E (D_at DX12_shareOf_q1 3 rfl) rfl ⟨rfl, rfl⟩
theorem C_X12_shareOf {G : jG} {l : Launch} (d : Nat) {n : Nat} {a0 : Nat} {x1 : Int32} {h : jH} {res : Int32} (hf : F_X12_shareOf n a0 x1 h = some res) : jC G l mX12_shareOf (d + 3) 0 0 [.ref a0, .int x1] h (jPR h res) :=
  jC.of pn_X12 (jcats rfl) (Nat.le_of_ble_eq_true rfl) (fun X K E => J_X12_shareOf K n h E a0 x1 hf)
set_option maxHeartbeats 400000 in
set_option maxRecDepth 100000 in
theorem J_X12_hangsOn_78 {G : jG} {l : Launch} {d : Nat} {X : jX} {res : Int32} (K : jOK G l mX12_hangsOn (d + 3) X) (n : Nat) (h : jH) (rc21 : Nat → Int32 → Int32 → Int32 → Int32 → jH → Option Int32) (hr21 : ∀ (a0 : Nat) (x1 : Int32) (x2 : Int32) (x3 : Int32) (x4 : Int32), rc21 a0 x1 x2 x3 x4 h = some res → jJ G X h 0 0 21 [some (.ref a0), some (.int x1), some (.int x2), some (.int x3), some (.int x4), none] []) (E : jEnd G mX12_hangsOn (jPR h res) X) (a0 : Nat) (x1 : Int32) (x3 : Int32) (x4 : Int32) (x5 : Int32) (s0 : Int32) (hf : F_X12_hangsOn_78 n rc21 a0 x1 x3 x4 x5 s0 h = some res) : jJ G X h 0 0 78 [some (.ref a0), some (.int x1), none, some (.int x3), some (.int x4), some (.int x5)] [.int s0] := by
  unfold F_X12_hangsOn_78 at hf
  refine jr_istore_n K (D_at DX12_hangsOn_q3 5 rfl) (i := 2) rfl (by decide) (L2 := [_, _, _, _, _, _]) rfl ?_
  refine jr_iload_n K (D_at DX12_hangsOn_q3 6 rfl) rfl rfl ?_
  refine jr_iload K (D_at DX12_hangsOn_q3 7 rfl) rfl ?_
  refine jr_min K (D_at DX12_hangsOn_q3 8 rfl) mm_X12_119 (by exact Nat.le_of_ble_eq_true rfl) ?_
  refine jr_istore_n K (D_at DX12_hangsOn_q3 9 rfl) (i := 3) rfl (by decide) (L2 := [_, _, _, _, _, _]) rfl ?_
  refine jr_iinc K (D_at DX12_hangsOn_q3 10 rfl) (i := 4) rfl (v := x4 + (1 : Int32)) (jinc (by decide)) (by decide) (L2 := [_, _, _, _, _, _]) rfl ?_
  refine jr_goto K (D_at DX12_hangsOn_q3 11 rfl) (tgt := 21) (by decide) ?_
  refine jr_keep [true, true, true, true, true, false] ?_
  exact hr21 a0 x1 s0 (if x5 < x3 then x5 else x3) (x4 + (1 : Int32)) hf
set_option maxHeartbeats 400000 in
set_option maxRecDepth 100000 in
theorem J_X12_hangsOn_21_b {G : jG} {l : Launch} {d : Nat} {X : jX} {res : Int32} (K : jOK G l mX12_hangsOn (d + 3) X) (n : Nat) (h : jH) (rc21 : Nat → Int32 → Int32 → Int32 → Int32 → jH → Option Int32) (hr21 : ∀ (a0 : Nat) (x1 : Int32) (x2 : Int32) (x3 : Int32) (x4 : Int32), rc21 a0 x1 x2 x3 x4 h = some res → jJ G X h 0 0 21 [some (.ref a0), some (.int x1), some (.int x2), some (.int x3), some (.int x4), none] []) (E : jEnd G mX12_hangsOn (jPR h res) X) (a0 : Nat) (x1 : Int32) (x2 : Int32) (x3 : Int32) (x4 : Int32) (hf : F_X12_hangsOn_21_b n rc21 a0 x1 x2 x3 x4 h = some res) : jJ G X h 0 0 21 [some (.ref a0), some (.int x1), some (.int x2), some (.int x3), some (.int x4), none] [] := by
  unfold F_X12_hangsOn_21_b at hf
  refine jr_iload K (D_at DX12_hangsOn_q1 1 rfl) rfl ?_
  refine jr_aload_n K (D_at DX12_hangsOn_q1 2 rfl) rfl rfl ?_
  obtain ⟨v24, e24, hf⟩ := jbind hf
  obtain ⟨rc_24, e24⟩ := jcv_o e24
  refine jr_callV K (C_X12_rings (d + 2) e24) (D_at DX12_hangsOn_q1 3 rfl) cv_X12_59_X12_rings (As := []) (ci := 10) rfl rc_24 rfl rfl (by exact Nat.le_of_ble_eq_true rfl) (kc2 := 0) (ks2 := 0) rfl rfl (fun k9 h9 w9 => by cases w9.1) (fun r9 h9 w9 => ?_)
  obtain ⟨w1, w2⟩ := w9
  subst h9
  cases w1
  show jJ G X _ 0 0 _ _ (.int v24 :: _)
  refine jr_icmp_ge K (D_at DX12_hangsOn_q1 4 rfl) (tgt := 92) (by decide) (fun c27 => ?_) (fun c27 => ?_)
  · replace hf := (if_pos c27).symm.trans hf
    refine jr_iload_n K (D_at DX12_hangsOn_q4 0 rfl) rfl rfl ?_
    cases hf
    exact jr_iret K E (D_at DX12_hangsOn_q4 1 rfl) rfl ⟨rfl, rfl⟩
  · replace hf := (if_neg c27).symm.trans hf
    refine jr_aload_n K (D_at DX12_hangsOn_q1 5 rfl) rfl rfl ?_
    refine jr_iload K (D_at DX12_hangsOn_q1 6 rfl) rfl ?_
    refine jr_bipush K (D_at DX12_hangsOn_q1 7 rfl) (v := (6 : Int32)) (by decide) ?_
    obtain ⟨v35, e35, hf⟩ := jbind hf
    obtain ⟨rc_35, e35⟩ := jcv_o e35
    refine jr_callV K (C_X12_is (d) e35) (D_at DX12_hangsOn_q1 8 rfl) cv_X12_73_X12_is (As := [.int x4, .int (6 : Int32)]) (ci := 10) rfl rc_35 rfl rfl (by exact Nat.le_of_ble_eq_true rfl) (kc2 := 0) (ks2 := 0) rfl rfl (fun k9 h9 w9 => by cases w9.1) (fun r9 h9 w9 => ?_)
    obtain ⟨w1, w2⟩ := w9
    subst h9
    cases w1
    show jJ G X _ 0 0 _ _ (.int v35 :: _)
    refine jr_if_eq K (D_at DX12_hangsOn_q1 9 rfl) (tgt := 61) (by decide) (fun c38 => ?_) (fun c38 => ?_)
    · replace hf := (if_pos c38).symm.trans hf
      refine jr_ldcw K (D_at DX12_hangsOn_q2 9 rfl) (v := (1000000 : Int32)) kc_X12_273 ?_
      refine jr_istore K (D_at DX12_hangsOn_q2 10 rfl) (i := 5) (by decide) (L2 := [_, _, _, _, _, _]) rfl ?_
      refine jr_iload K (D_at DX12_hangsOn_q2 11 rfl) rfl ?_
      refine jr_iload_n K (D_at DX12_hangsOn_q3 0 rfl) rfl rfl ?_
      refine jr_icmp_ge K (D_at DX12_hangsOn_q3 1 rfl) (tgt := 77) (by decide) (fun c69 => ?_) (fun c69 => ?_)
      · replace hf := (if_pos c69).symm.trans hf
        refine jr_iload_n K (D_at DX12_hangsOn_q3 4 rfl) rfl rfl ?_
        refine jr_keep [true, true, false, true, true, true] ?_
        exact J_X12_hangsOn_78 K n h rc21 hr21 E a0 x1 x3 x4 (1000000 : Int32) x2 hf
      · replace hf := (if_neg c69).symm.trans hf
        refine jr_iload K (D_at DX12_hangsOn_q3 2 rfl) rfl ?_
        refine jr_goto K (D_at DX12_hangsOn_q3 3 rfl) (tgt := 78) (by decide) ?_
        refine jr_keep [true, true, false, true, true, true] ?_
        exact J_X12_hangsOn_78 K n h rc21 hr21 E a0 x1 x3 x4 (1000000 : Int32) x4 hf
    · replace hf := (if_neg c38).symm.trans hf
      refine jr_aload_n K (D_at DX12_hangsOn_q1 10 rfl) rfl rfl ?_
      refine jr_iload K (D_at DX12_hangsOn_q1 11 rfl) rfl ?_
      refine jr_iconst K (D_at DX12_hangsOn_q2 0 rfl) (v := (0 : Int32)) (by decide) ?_
      obtain ⟨v45, e45, hf⟩ := jbind hf
      obtain ⟨rc_45, e45⟩ := jcv_o e45
      refine jr_callV K (C_X12_of (d + 1) e45) (D_at DX12_hangsOn_q2 1 rfl) cv_X12_67_X12_of (As := [.int x4, .int (0 : Int32)]) (ci := 10) rfl rc_45 rfl rfl (by exact Nat.le_of_ble_eq_true rfl) (kc2 := 0) (ks2 := 0) rfl rfl (fun k9 h9 w9 => by cases w9.1) (fun r9 h9 w9 => ?_)
      obtain ⟨w1, w2⟩ := w9
      subst h9
      cases w1
      show jJ G X _ 0 0 _ _ (.int v45 :: _)
      refine jr_aload_n K (D_at DX12_hangsOn_q2 2 rfl) rfl rfl ?_
      refine jr_iload_n K (D_at DX12_hangsOn_q2 3 rfl) rfl rfl ?_
      refine jr_iconst K (D_at DX12_hangsOn_q2 4 rfl) (v := (0 : Int32)) (by decide) ?_
      obtain ⟨v51, e51, hf⟩ := jbind hf
      obtain ⟨rc_51, e51⟩ := jcv_o e51
      refine jr_callV K (C_X12_of (d + 1) e51) (D_at DX12_hangsOn_q2 5 rfl) cv_X12_67_X12_of (As := [.int x1, .int (0 : Int32)]) (ci := 10) rfl rc_51 rfl rfl (by exact Nat.le_of_ble_eq_true rfl) (kc2 := 0) (ks2 := 0) rfl rfl (fun k9 h9 w9 => by cases w9.1) (fun r9 h9 w9 => ?_)
      obtain ⟨w1, w2⟩ := w9
      subst h9
      cases w1
      show jJ G X _ 0 0 _ _ (.int v51 :: _)
      refine jr_isub K (D_at DX12_hangsOn_q2 6 rfl) ?_
      refine jr_abs K (D_at DX12_hangsOn_q2 7 rfl) mm_X12_274 (by exact Nat.le_of_ble_eq_true rfl) ?_
      refine jr_goto K (D_at DX12_hangsOn_q2 8 rfl) (tgt := 64) (by decide) ?_
      refine jr_istore K (D_at DX12_hangsOn_q2 10 rfl) (i := 5) (by decide) (L2 := [_, _, _, _, _, _]) rfl ?_
      refine jr_iload K (D_at DX12_hangsOn_q2 11 rfl) rfl ?_
      refine jr_iload_n K (D_at DX12_hangsOn_q3 0 rfl) rfl rfl ?_
      refine jr_icmp_ge K (D_at DX12_hangsOn_q3 1 rfl) (tgt := 77) (by decide) (fun c69 => ?_) (fun c69 => ?_)
      · replace hf := (if_pos c69).symm.trans hf
        refine jr_iload_n K (D_at DX12_hangsOn_q3 4 rfl) rfl rfl ?_
        refine jr_keep [true, true, false, true, true, true] ?_
        exact J_X12_hangsOn_78 K n h rc21 hr21 E a0 x1 x3 x4 (if 0 ≤ v45 - v51 then v45 - v51 else 0 - (v45 - v51)) x2 hf
      · replace hf := (if_neg c69).symm.trans hf
        refine jr_iload K (D_at DX12_hangsOn_q3 2 rfl) rfl ?_
        refine jr_goto K (D_at DX12_hangsOn_q3 3 rfl) (tgt := 78) (by decide) ?_
        refine jr_keep [true, true, false, true, true, true] ?_
        exact J_X12_hangsOn_78 K n h rc21 hr21 E a0 x1 x3 x4 (if 0 ≤ v45 - v51 then v45 - v51 else 0 - (v45 - v51)) x4 hf
theorem J_X12_hangsOn_21 {G : jG} {l : Launch} {d : Nat} {X : jX} {res : Int32} (K : jOK G l mX12_hangsOn (d + 3) X) (n : Nat) (h : jH) (E : jEnd G mX12_hangsOn (jPR h res) X) (k : Nat) : ∀ (a0 : Nat) (x1 : Int32) (x2 : Int32) (x3 : Int32) (x4 : Int32), F_X12_hangsOn_21 n k a0 x1 x2 x3 x4 h = some res → jJ G X h 0 0 21 [some (.ref a0), some (.int x1), some (.int x2), some (.int x3), some (.int x4), none] [] := by
  induction k with
  | zero =>
    intro a0 x1 x2 x3 x4 hf
    exact jno (show (none : Option Int32) = some res from hf)
  | succ k ih =>
    intro a0 x1 x2 x3 x4 hf
    exact J_X12_hangsOn_21_b K n h (F_X12_hangsOn_21 n k) ih E a0 x1 x2 x3 x4 hf
set_option maxHeartbeats 400000 in
set_option maxRecDepth 100000 in
theorem J_X12_hangsOn {G : jG} {l : Launch} {d : Nat} {X : jX} {res : Int32} (K : jOK G l mX12_hangsOn (d + 3) X) (n : Nat) (h : jH) (E : jEnd G mX12_hangsOn (jPR h res) X) (a0 : Nat) (x1 : Int32) (hf : F_X12_hangsOn n a0 x1 h = some res) : jJ G X h 0 0 0 [some (.ref a0), some (.int x1), none, none, none, none] [] := by
  unfold F_X12_hangsOn at hf
  refine jr_aload_n K (D_at DX12_hangsOn_q0 0 rfl) rfl rfl ?_
  refine jr_iload_n K (D_at DX12_hangsOn_q0 1 rfl) rfl rfl ?_
  refine jr_bipush K (D_at DX12_hangsOn_q0 2 rfl) (v := (6 : Int32)) (by decide) ?_
  obtain ⟨v4, e4, hf⟩ := jbind hf
  obtain ⟨rc_4, e4⟩ := jcv_o e4
  refine jr_callV K (C_X12_is (d) e4) (D_at DX12_hangsOn_q0 3 rfl) cv_X12_73_X12_is (As := [.int x1, .int (6 : Int32)]) (ci := 10) rfl rc_4 rfl rfl (by exact Nat.le_of_ble_eq_true rfl) (kc2 := 0) (ks2 := 0) rfl rfl (fun k9 h9 w9 => by cases w9.1) (fun r9 h9 w9 => ?_)
  obtain ⟨w1, w2⟩ := w9
  subst h9
  cases w1
  show jJ G X _ 0 0 _ _ (.int v4 :: _)
  refine jr_if_eq K (D_at DX12_hangsOn_q0 4 rfl) (tgt := 12) (by decide) (fun c7 => ?_) (fun c7 => ?_)
  · replace hf := (if_pos c7).symm.trans hf
    refine jr_iconst K (D_at DX12_hangsOn_q0 7 rfl) (v := (-1 : Int32)) (by decide) ?_
    refine jr_istore_n K (D_at DX12_hangsOn_q0 8 rfl) (i := 2) rfl (by decide) (L2 := [_, _, _, _, _, _]) rfl ?_
    refine jr_ldcw K (D_at DX12_hangsOn_q0 9 rfl) (v := (1000000 : Int32)) kc_X12_273 ?_
    refine jr_istore_n K (D_at DX12_hangsOn_q0 10 rfl) (i := 3) rfl (by decide) (L2 := [_, _, _, _, _, _]) rfl ?_
    refine jr_iconst K (D_at DX12_hangsOn_q0 11 rfl) (v := (0 : Int32)) (by decide) ?_
    refine jr_istore K (D_at DX12_hangsOn_q1 0 rfl) (i := 4) (by decide) (L2 := [_, _, _, _, _, _]) rfl ?_
    refine jr_keep [true, true, true, true, true, false] ?_
    exact J_X12_hangsOn_21 K n h E n a0 x1 (-1 : Int32) (1000000 : Int32) (0 : Int32) hf
  · replace hf := (if_neg c7).symm.trans hf
    refine jr_iload_n K (D_at DX12_hangsOn_q0 5 rfl) rfl rfl ?_
    cases hf
    exact jr_iret K E (D_at DX12_hangsOn_q0 6 rfl) rfl ⟨rfl, rfl⟩
theorem C_X12_hangsOn {G : jG} {l : Launch} (d : Nat) {n : Nat} {a0 : Nat} {x1 : Int32} {h : jH} {res : Int32} (hf : F_X12_hangsOn n a0 x1 h = some res) : jC G l mX12_hangsOn (d + 3) 0 0 [.ref a0, .int x1] h (jPR h res) :=
  jC.of pn_X12 (jcats rfl) (Nat.le_of_ble_eq_true rfl) (fun X K E => J_X12_hangsOn K n h E a0 x1 hf)
set_option maxHeartbeats 400000 in
set_option maxRecDepth 100000 in
theorem J_X12_ring_34 {G : jG} {l : Launch} {d : Nat} {X : jX} {res : (Int32 × jH)} (K : jOK G l mX12_ring (d + 7) X) (n : Nat) (E : jEnd G mX12_ring (jPW res) X) (a0 : Nat) (x1 : Int32) (x2 : Int32) (sa0 : Nat) (s1 : Int32) (h : jH) (hf : F_X12_ring_34 n a0 x1 x2 sa0 s1 h = some res) : jJ G X h 0 0 34 [some (.ref a0), some (.int x1), some (.int x2)] [.int s1, .ref sa0] := by
  unfold F_X12_ring_34 at hf
  refine jr_iconst K (D_at DX12_ring_q1 7 rfl) (v := (2 : Int32)) (by decide) ?_
  obtain ⟨q35, e35, hf⟩ := jbind hf
  obtain ⟨rc_35, e35⟩ := jcv_o e35
  refine jr_callV K (C_X12_throwsIf (d + 6) e35) (D_at DX12_ring_q1 8 rfl) cv_X12_250_X12_throwsIf (As := [.int s1, .int (2 : Int32)]) (ci := 10) rfl rc_35 rfl rfl (by exact Nat.le_of_ble_eq_true rfl) (kc2 := 0) (ks2 := 0) rfl rfl (fun k9 h9 w9 => by cases w9.1) (fun r9 h9 w9 => ?_)
  obtain ⟨w1, w2⟩ := w9
  subst h9
  cases w1
  show jJ G X _ 0 0 _ _ (.int q35.1 :: _)
  refine jr_if_eq K (D_at DX12_ring_q1 9 rfl) (tgt := 43) (by decide) (fun c38 => ?_) (fun c38 => ?_)
  · replace hf := (if_pos c38).symm.trans hf
    refine jr_iload_n K (D_at DX12_ring_q2 0 rfl) rfl rfl ?_
    by_cases c44_0 : x2 = (8 : Int32)
    · replace hf := (if_pos c44_0).symm.trans hf
      refine jr_tableIn K (D_at DX12_ring_q3 0 rfl) (off := 40) (tgt := 84) (by rw [c44_0]; decide) (by rw [c44_0]; decide) (by rw [c44_0]; decide) (by decide) ?_
      refine jr_iload_n K (D_at DX12_ring_q4 0 rfl) rfl rfl ?_
      refine jr_aload_n K (D_at DX12_ring_q4 1 rfl) rfl rfl ?_
      obtain ⟨v86, e86, hf⟩ := jbind hf
      obtain ⟨rc_86, e86⟩ := jcv_o e86
      refine jr_callV K (C_X12_lastRing (d + 5) e86) (D_at DX12_ring_q4 2 rfl) cv_X12_70_X12_lastRing (As := []) (ci := 10) rfl rc_86 rfl rfl (by exact Nat.le_of_ble_eq_true rfl) (kc2 := 0) (ks2 := 0) rfl rfl (fun k9 h9 w9 => by cases w9.1) (fun r9 h9 w9 => ?_)
      obtain ⟨w1, w2⟩ := w9
      subst h9
      cases w1
      show jJ G X _ 0 0 _ _ (.int v86 :: _)
      refine jr_icmp_ne K (D_at DX12_ring_q4 3 rfl) (tgt := 96) (by decide) (fun c89 => ?_) (fun c89 => ?_)
      · replace hf := (if_neg c89).symm.trans hf
        refine jr_aload_n K (D_at DX12_ring_q4 6 rfl) rfl rfl ?_
        refine jr_iload_n K (D_at DX12_ring_q4 7 rfl) rfl rfl ?_
        obtain ⟨v98, e98, hf⟩ := jbind hf
        obtain ⟨rc_98, e98⟩ := jcv_o e98
        refine jr_callV K (C_X12_gapOf (d + 4) e98) (D_at DX12_ring_q4 8 rfl) cv_X12_253_X12_gapOf (As := [.int x1]) (ci := 10) rfl rc_98 rfl rfl (by exact Nat.le_of_ble_eq_true rfl) (kc2 := 0) (ks2 := 0) rfl rfl (fun k9 h9 w9 => by cases w9.1) (fun r9 h9 w9 => ?_)
        obtain ⟨w1, w2⟩ := w9
        subst h9
        cases w1
        show jJ G X _ 0 0 _ _ (.int v98 :: _)
        cases hf
        exact jr_iret K E (D_at DX12_ring_q4 9 rfl) rfl ⟨rfl, rfl⟩
      · replace hf := (if_pos c89).symm.trans hf
        refine jr_iconst K (D_at DX12_ring_q4 4 rfl) (v := (-1 : Int32)) (by decide) ?_
        refine jr_goto K (D_at DX12_ring_q4 5 rfl) (tgt := 101) (by decide) ?_
        cases hf
        exact jr_iret K E (D_at DX12_ring_q4 9 rfl) rfl ⟨rfl, rfl⟩
    replace hf := (if_neg c44_0).symm.trans hf
    by_cases c44_1 : x2 = (9 : Int32)
    · replace hf := (if_pos c44_1).symm.trans hf
      refine jr_tableIn K (D_at DX12_ring_q3 0 rfl) (off := 58) (tgt := 102) (by rw [c44_1]; decide) (by rw [c44_1]; decide) (by rw [c44_1]; decide) (by decide) ?_
      refine jr_aload_n K (D_at DX12_ring_q4 10 rfl) rfl rfl ?_
      refine jr_iconst K (D_at DX12_ring_q4 11 rfl) (v := (0 : Int32)) (by decide) ?_
      refine jr_iload_n K (D_at DX12_ring_q5 0 rfl) rfl rfl ?_
      obtain ⟨q105, e105, hf⟩ := jbind hf
      obtain ⟨rc_105, e105⟩ := jcv_o e105
      refine jr_callV K (C_X12_byLaw (d) e105) (D_at DX12_ring_q5 1 rfl) cv_X12_280_X12_byLaw (As := [.int (0 : Int32), .int x1]) (ci := 10) rfl rc_105 rfl rfl (by exact Nat.le_of_ble_eq_true rfl) (kc2 := 0) (ks2 := 0) rfl rfl (fun k9 h9 w9 => by cases w9.1) (fun r9 h9 w9 => ?_)
      obtain ⟨w1, w2⟩ := w9
      subst h9
      cases w1
      show jJ G X _ 0 0 _ _ (.int q105.1 :: _)
      cases hf
      exact jr_iret K E (D_at DX12_ring_q5 2 rfl) rfl ⟨rfl, rfl⟩
    replace hf := (if_neg c44_1).symm.trans hf
    by_cases c44_2 : x2 = (10 : Int32)
    · replace hf := (if_pos c44_2).symm.trans hf
      refine jr_tableIn K (D_at DX12_ring_q3 0 rfl) (off := 65) (tgt := 109) (by rw [c44_2]; decide) (by rw [c44_2]; decide) (by rw [c44_2]; decide) (by decide) ?_
      refine jr_aload_n K (D_at DX12_ring_q5 3 rfl) rfl rfl ?_
      refine jr_iconst K (D_at DX12_ring_q5 4 rfl) (v := (1 : Int32)) (by decide) ?_
      refine jr_iload_n K (D_at DX12_ring_q5 5 rfl) rfl rfl ?_
      obtain ⟨q112, e112, hf⟩ := jbind hf
      obtain ⟨rc_112, e112⟩ := jcv_o e112
      refine jr_callV K (C_X12_byLaw (d) e112) (D_at DX12_ring_q5 6 rfl) cv_X12_280_X12_byLaw (As := [.int (1 : Int32), .int x1]) (ci := 10) rfl rc_112 rfl rfl (by exact Nat.le_of_ble_eq_true rfl) (kc2 := 0) (ks2 := 0) rfl rfl (fun k9 h9 w9 => by cases w9.1) (fun r9 h9 w9 => ?_)
      obtain ⟨w1, w2⟩ := w9
      subst h9
      cases w1
      show jJ G X _ 0 0 _ _ (.int q112.1 :: _)
      cases hf
      exact jr_iret K E (D_at DX12_ring_q5 7 rfl) rfl ⟨rfl, rfl⟩
    replace hf := (if_neg c44_2).symm.trans hf
    by_cases c44_3 : x2 = (11 : Int32)
    · replace hf := (if_pos c44_3).symm.trans hf
      refine jr_tableIn K (D_at DX12_ring_q3 0 rfl) (off := 72) (tgt := 116) (by rw [c44_3]; decide) (by rw [c44_3]; decide) (by rw [c44_3]; decide) (by decide) ?_
      refine jr_aload_n K (D_at DX12_ring_q5 8 rfl) rfl rfl ?_
      refine jr_iconst K (D_at DX12_ring_q5 9 rfl) (v := (2 : Int32)) (by decide) ?_
      refine jr_iload_n K (D_at DX12_ring_q5 10 rfl) rfl rfl ?_
      obtain ⟨q119, e119, hf⟩ := jbind hf
      obtain ⟨rc_119, e119⟩ := jcv_o e119
      refine jr_callV K (C_X12_byLaw (d) e119) (D_at DX12_ring_q5 11 rfl) cv_X12_280_X12_byLaw (As := [.int (2 : Int32), .int x1]) (ci := 10) rfl rc_119 rfl rfl (by exact Nat.le_of_ble_eq_true rfl) (kc2 := 0) (ks2 := 0) rfl rfl (fun k9 h9 w9 => by cases w9.1) (fun r9 h9 w9 => ?_)
      obtain ⟨w1, w2⟩ := w9
      subst h9
      cases w1
      show jJ G X _ 0 0 _ _ (.int q119.1 :: _)
      cases hf
      exact jr_iret K E (D_at DX12_ring_q6 0 rfl) rfl ⟨rfl, rfl⟩
    replace hf := (if_neg c44_3).symm.trans hf
    by_cases c44_4 : x2 = (12 : Int32)
    · replace hf := (if_pos c44_4).symm.trans hf
      refine jr_tableIn K (D_at DX12_ring_q3 0 rfl) (off := 79) (tgt := 123) (by rw [c44_4]; decide) (by rw [c44_4]; decide) (by rw [c44_4]; decide) (by decide) ?_
      refine jr_aload_n K (D_at DX12_ring_q6 1 rfl) rfl rfl ?_
      refine jr_iload_n K (D_at DX12_ring_q6 2 rfl) rfl rfl ?_
      obtain ⟨v125, e125, hf⟩ := jbind hf
      obtain ⟨rc_125, e125⟩ := jcv_o e125
      refine jr_callV K (C_X12_hangsOn (d + 3) e125) (D_at DX12_ring_q6 3 rfl) cv_X12_283_X12_hangsOn (As := [.int x1]) (ci := 10) rfl rc_125 rfl rfl (by exact Nat.le_of_ble_eq_true rfl) (kc2 := 0) (ks2 := 0) rfl rfl (fun k9 h9 w9 => by cases w9.1) (fun r9 h9 w9 => ?_)
      obtain ⟨w1, w2⟩ := w9
      subst h9
      cases w1
      show jJ G X _ 0 0 _ _ (.int v125 :: _)
      cases hf
      exact jr_iret K E (D_at DX12_ring_q6 4 rfl) rfl ⟨rfl, rfl⟩
    replace hf := (if_neg c44_4).symm.trans hf
    by_cases c44_5 : x2 = (13 : Int32)
    · replace hf := (if_pos c44_5).symm.trans hf
      refine jr_tableIn K (D_at DX12_ring_q3 0 rfl) (off := 85) (tgt := 129) (by rw [c44_5]; decide) (by rw [c44_5]; decide) (by rw [c44_5]; decide) (by decide) ?_
      refine jr_aload_n K (D_at DX12_ring_q6 5 rfl) rfl rfl ?_
      refine jr_iload_n K (D_at DX12_ring_q6 6 rfl) rfl rfl ?_
      obtain ⟨v131, e131, hf⟩ := jbind hf
      obtain ⟨rc_131, e131⟩ := jcv_o e131
      refine jr_callV K (C_X12_shareOf (d + 3) e131) (D_at DX12_ring_q6 7 rfl) cv_X12_286_X12_shareOf (As := [.int x1]) (ci := 10) rfl rc_131 rfl rfl (by exact Nat.le_of_ble_eq_true rfl) (kc2 := 0) (ks2 := 0) rfl rfl (fun k9 h9 w9 => by cases w9.1) (fun r9 h9 w9 => ?_)
      obtain ⟨w1, w2⟩ := w9
      subst h9
      cases w1
      show jJ G X _ 0 0 _ _ (.int v131 :: _)
      cases hf
      exact jr_iret K E (D_at DX12_ring_q6 8 rfl) rfl ⟨rfl, rfl⟩
    replace hf := (if_neg c44_5).symm.trans hf
    have w44_0 := lv_neT c44_0 (a := 8) (by decide)
    have w44_1 := lv_neT c44_1 (a := 9) (by decide)
    have w44_2 := lv_neT c44_2 (a := 10) (by decide)
    have w44_3 := lv_neT c44_3 (a := 11) (by decide)
    have w44_4 := lv_neT c44_4 (a := 12) (by decide)
    have w44_5 := lv_neT c44_5 (a := 13) (by decide)
    refine jr_tableOut K (D_at DX12_ring_q3 0 rfl) (tgt := 135) (by omega) (by decide) ?_
    refine jr_aload_n K (D_at DX12_ring_q6 9 rfl) rfl rfl ?_
    refine jr_iload_n K (D_at DX12_ring_q6 10 rfl) rfl rfl ?_
    refine jr_iload_n K (D_at DX12_ring_q6 11 rfl) rfl rfl ?_
    obtain ⟨v138, e138, hf⟩ := jbind hf
    obtain ⟨rc_138, e138⟩ := jcv_o e138
    refine jr_callV K (C_X12_of (d + 5) e138) (D_at DX12_ring_q7 0 rfl) cv_X12_67_X12_of (As := [.int x1, .int x2]) (ci := 10) rfl rc_138 rfl rfl (by exact Nat.le_of_ble_eq_true rfl) (kc2 := 0) (ks2 := 0) rfl rfl (fun k9 h9 w9 => by cases w9.1) (fun r9 h9 w9 => ?_)
    obtain ⟨w1, w2⟩ := w9
    subst h9
    cases w1
    show jJ G X _ 0 0 _ _ (.int v138 :: _)
    cases hf
    exact jr_iret K E (D_at DX12_ring_q7 1 rfl) rfl ⟨rfl, rfl⟩
  · replace hf := (if_neg c38).symm.trans hf
    refine jr_iconst K (D_at DX12_ring_q1 10 rfl) (v := (0 : Int32)) (by decide) ?_
    cases hf
    exact jr_iret K E (D_at DX12_ring_q1 11 rfl) rfl ⟨rfl, rfl⟩
set_option maxHeartbeats 400000 in
set_option maxRecDepth 100000 in
theorem J_X12_ring {G : jG} {l : Launch} {d : Nat} {X : jX} {res : (Int32 × jH)} (K : jOK G l mX12_ring (d + 7) X) (n : Nat) (E : jEnd G mX12_ring (jPW res) X) (a0 : Nat) (x1 : Int32) (x2 : Int32) (h : jH) (hf : F_X12_ring n a0 x1 x2 h = some res) : jJ G X h 0 0 0 [some (.ref a0), some (.int x1), some (.int x2)] [] := by
  unfold F_X12_ring at hf
  refine jr_aload_n K (D_at DX12_ring_q0 0 rfl) rfl rfl ?_
  refine jr_iconst K (D_at DX12_ring_q0 1 rfl) (v := (0 : Int32)) (by decide) ?_
  obtain ⟨h2, e2, hf⟩ := jbind hf
  refine jr_putI K (D_at DX12_ring_q0 2 rfl) fp_X12_3_10 (Or.inl rfl) e2 ?_
  refine jr_aload_n K (D_at DX12_ring_q0 3 rfl) rfl rfl ?_
  refine jr_aload_n K (D_at DX12_ring_q0 4 rfl) rfl rfl ?_
  refine jr_iload_n K (D_at DX12_ring_q0 5 rfl) rfl rfl ?_
  obtain ⟨v8, e8, hf⟩ := jbind hf
  obtain ⟨rc_8, e8⟩ := jcv_o e8
  refine jr_callV K (C_X12_noRing (d + 4) e8) (D_at DX12_ring_q0 6 rfl) cv_X12_277_X12_noRing (As := [.int x1]) (ci := 10) rfl rc_8 rfl rfl (by exact Nat.le_of_ble_eq_true rfl) (kc2 := 0) (ks2 := 0) rfl rfl (fun k9 h9 w9 => by cases w9.1) (fun r9 h9 w9 => ?_)
  obtain ⟨w1, w2⟩ := w9
  subst h9
  cases w1
  show jJ G X _ 0 0 _ _ (.int v8 :: _)
  refine jr_iconst K (D_at DX12_ring_q0 7 rfl) (v := (1 : Int32)) (by decide) ?_
  obtain ⟨q12, e12, hf⟩ := jbind hf
  obtain ⟨rc_12, e12⟩ := jcv_o e12
  refine jr_callV K (C_X12_throwsIf (d + 6) e12) (D_at DX12_ring_q0 8 rfl) cv_X12_250_X12_throwsIf (As := [.int v8, .int (1 : Int32)]) (ci := 10) rfl rc_12 rfl rfl (by exact Nat.le_of_ble_eq_true rfl) (kc2 := 0) (ks2 := 0) rfl rfl (fun k9 h9 w9 => by cases w9.1) (fun r9 h9 w9 => ?_)
  obtain ⟨w1, w2⟩ := w9
  subst h9
  cases w1
  show jJ G X _ 0 0 _ _ (.int q12.1 :: _)
  refine jr_if_ne K (D_at DX12_ring_q0 9 rfl) (tgt := 41) (by decide) (fun c15 => ?_) (fun c15 => ?_)
  · replace hf := (if_neg c15).symm.trans hf
    refine jr_iconst K (D_at DX12_ring_q1 10 rfl) (v := (0 : Int32)) (by decide) ?_
    cases hf
    exact jr_iret K E (D_at DX12_ring_q1 11 rfl) rfl ⟨rfl, rfl⟩
  · replace hf := (if_pos c15).symm.trans hf
    refine jr_aload_n K (D_at DX12_ring_q0 10 rfl) rfl rfl ?_
    refine jr_iload_n K (D_at DX12_ring_q0 11 rfl) rfl rfl ?_
    refine jr_iconst K (D_at DX12_ring_q1 0 rfl) (v := (0 : Int32)) (by decide) ?_
    refine jr_bipush K (D_at DX12_ring_q1 1 rfl) (v := (13 : Int32)) (by decide) ?_
    obtain ⟨v23, e23, hf⟩ := jbind hf
    refine jr_callS K (C_X12_in (d + 6) e23) (D_at DX12_ring_q1 2 rfl) cs_X12_77_X12_in (As := [.int x2, .int (0 : Int32), .int (13 : Int32)]) rfl rfl (by exact Nat.le_of_ble_eq_true rfl) (kc2 := 0) (ks2 := 0) rfl rfl (fun k9 h9 w9 => by cases w9.1) (fun r9 h9 w9 => ?_)
    obtain ⟨w1, w2⟩ := w9
    subst h9
    cases w1
    show jJ G X _ 0 0 _ _ (.int v23 :: _)
    refine jr_if_ne K (D_at DX12_ring_q1 3 rfl) (tgt := 33) (by decide) (fun c26 => ?_) (fun c26 => ?_)
    · replace hf := (if_neg c26).symm.trans hf
      refine jr_iconst K (D_at DX12_ring_q1 6 rfl) (v := (0 : Int32)) (by decide) ?_
      refine jr_keep [true, true, true] ?_
      exact J_X12_ring_34 K n E a0 x1 x2 a0 (0 : Int32) q12.2 hf
    · replace hf := (if_pos c26).symm.trans hf
      refine jr_iconst K (D_at DX12_ring_q1 4 rfl) (v := (1 : Int32)) (by decide) ?_
      refine jr_goto K (D_at DX12_ring_q1 5 rfl) (tgt := 34) (by decide) ?_
      refine jr_keep [true, true, true] ?_
      exact J_X12_ring_34 K n E a0 x1 x2 a0 (1 : Int32) q12.2 hf
theorem C_X12_ring {G : jG} {l : Launch} (d : Nat) {n : Nat} {a0 : Nat} {x1 : Int32} {x2 : Int32} {h : jH} {res : (Int32 × jH)} (hf : F_X12_ring n a0 x1 x2 h = some res) : jC G l mX12_ring (d + 7) 0 0 [.ref a0, .int x1, .int x2] h (jPW res) :=
  jC.of pn_X12 (jcats rfl) (Nat.le_of_ble_eq_true rfl) (fun X K E => J_X12_ring K n E a0 x1 x2 h hf)
set_option maxHeartbeats 400000 in
set_option maxRecDepth 100000 in
theorem J_X12_takesAlong_30 {G : jG} {l : Launch} {d : Nat} {X : jX} {res : Int32} (K : jOK G l mX12_takesAlong (d + 3) X) (n : Nat) (h : jH) (E : jEnd G mX12_takesAlong (jPR h res) X) (a0 : Nat) (x3 : Int32) (x4 : Int32) (s0 : Int32) (hf : F_X12_takesAlong_30 n a0 x3 x4 s0 h = some res) : jJ G X h 0 0 30 [some (.ref a0), none, none, some (.int x3), some (.int x4)] [.int s0] := by
  unfold F_X12_takesAlong_30 at hf
  refine jr_iload_n K (D_at DX12_takesAlong_q1 5 rfl) rfl rfl ?_
  refine jr_icmp_ne K (D_at DX12_takesAlong_q1 6 rfl) (tgt := 52) (by decide) (fun c31 => ?_) (fun c31 => ?_)
  · replace hf := (if_neg c31).symm.trans hf
    refine jr_aload_n K (D_at DX12_takesAlong_q2 4 rfl) rfl rfl ?_
    refine jr_iload K (D_at DX12_takesAlong_q2 5 rfl) rfl ?_
    obtain ⟨v55, e55, hf⟩ := jbind hf
    obtain ⟨rc_55, e55⟩ := jcv_o e55
    refine jr_callV K (C_X12_gapOf (d) e55) (D_at DX12_takesAlong_q2 6 rfl) cv_X12_253_X12_gapOf (As := [.int x4]) (ci := 10) rfl rc_55 rfl rfl (by exact Nat.le_of_ble_eq_true rfl) (kc2 := 0) (ks2 := 0) rfl rfl (fun k9 h9 w9 => by cases w9.1) (fun r9 h9 w9 => ?_)
    obtain ⟨w1, w2⟩ := w9
    subst h9
    cases w1
    show jJ G X _ 0 0 _ _ (.int v55 :: _)
    refine jr_aload_n K (D_at DX12_takesAlong_q2 7 rfl) rfl rfl ?_
    refine jr_iload K (D_at DX12_takesAlong_q2 8 rfl) rfl ?_
    refine jr_iconst K (D_at DX12_takesAlong_q2 9 rfl) (v := (1 : Int32)) (by decide) ?_
    obtain ⟨v62, e62, hf⟩ := jbind hf
    obtain ⟨rc_62, e62⟩ := jcv_o e62
    refine jr_callV K (C_X12_of (d + 1) e62) (D_at DX12_takesAlong_q2 10 rfl) cv_X12_67_X12_of (As := [.int x4, .int (1 : Int32)]) (ci := 10) rfl rc_62 rfl rfl (by exact Nat.le_of_ble_eq_true rfl) (kc2 := 0) (ks2 := 0) rfl rfl (fun k9 h9 w9 => by cases w9.1) (fun r9 h9 w9 => ?_)
    obtain ⟨w1, w2⟩ := w9
    subst h9
    cases w1
    show jJ G X _ 0 0 _ _ (.int v62 :: _)
    refine jr_icmp_lt K (D_at DX12_takesAlong_q2 11 rfl) (tgt := 72) (by decide) (fun c65 => ?_) (fun c65 => ?_)
    · replace hf := (if_pos c65).symm.trans hf
      refine jr_iconst K (D_at DX12_takesAlong_q3 2 rfl) (v := (0 : Int32)) (by decide) ?_
      cases hf
      exact jr_zret K E (D_at DX12_takesAlong_q3 3 rfl) rfl (Or.inl rfl) ⟨rfl, rfl⟩
    · replace hf := (if_neg c65).symm.trans hf
      refine jr_iconst K (D_at DX12_takesAlong_q3 0 rfl) (v := (1 : Int32)) (by decide) ?_
      refine jr_goto K (D_at DX12_takesAlong_q3 1 rfl) (tgt := 73) (by decide) ?_
      cases hf
      exact jr_zret K E (D_at DX12_takesAlong_q3 3 rfl) rfl (Or.inr rfl) ⟨rfl, rfl⟩
  · replace hf := (if_pos c31).symm.trans hf
    refine jr_aload_n K (D_at DX12_takesAlong_q1 7 rfl) rfl rfl ?_
    refine jr_iload K (D_at DX12_takesAlong_q1 8 rfl) rfl ?_
    obtain ⟨v37, e37, hf⟩ := jbind hf
    obtain ⟨rc_37, e37⟩ := jcv_o e37
    refine jr_callV K (C_X12_gapOf (d) e37) (D_at DX12_takesAlong_q1 9 rfl) cv_X12_253_X12_gapOf (As := [.int x4]) (ci := 10) rfl rc_37 rfl rfl (by exact Nat.le_of_ble_eq_true rfl) (kc2 := 0) (ks2 := 0) rfl rfl (fun k9 h9 w9 => by cases w9.1) (fun r9 h9 w9 => ?_)
    obtain ⟨w1, w2⟩ := w9
    subst h9
    cases w1
    show jJ G X _ 0 0 _ _ (.int v37 :: _)
    refine jr_iconst K (D_at DX12_takesAlong_q1 10 rfl) (v := (1 : Int32)) (by decide) ?_
    refine jr_icmp_ne K (D_at DX12_takesAlong_q1 11 rfl) (tgt := 48) (by decide) (fun c41 => ?_) (fun c41 => ?_)
    · replace hf := (if_neg c41).symm.trans hf
      refine jr_iconst K (D_at DX12_takesAlong_q2 2 rfl) (v := (0 : Int32)) (by decide) ?_
      refine jr_goto K (D_at DX12_takesAlong_q2 3 rfl) (tgt := 73) (by decide) ?_
      cases hf
      exact jr_zret K E (D_at DX12_takesAlong_q3 3 rfl) rfl (Or.inl rfl) ⟨rfl, rfl⟩
    · replace hf := (if_pos c41).symm.trans hf
      refine jr_iconst K (D_at DX12_takesAlong_q2 0 rfl) (v := (1 : Int32)) (by decide) ?_
      refine jr_goto K (D_at DX12_takesAlong_q2 1 rfl) (tgt := 73) (by decide) ?_
      cases hf
      exact jr_zret K E (D_at DX12_takesAlong_q3 3 rfl) rfl (Or.inr rfl) ⟨rfl, rfl⟩
set_option maxHeartbeats 400000 in
set_option maxRecDepth 100000 in
theorem J_X12_takesAlong {G : jG} {l : Launch} {d : Nat} {X : jX} {res : Int32} (K : jOK G l mX12_takesAlong (d + 3) X) (n : Nat) (h : jH) (E : jEnd G mX12_takesAlong (jPR h res) X) (a0 : Nat) (x1 : Int32) (x2 : Int32) (x3 : Int32) (hf : F_X12_takesAlong n a0 x1 x2 x3 h = some res) : jJ G X h 0 0 0 [some (.ref a0), some (.int x1), some (.int x2), some (.int x3), none] [] := by
  unfold F_X12_takesAlong at hf
  refine jr_iload_n K (D_at DX12_takesAlong_q0 0 rfl) rfl rfl ?_
  refine jr_iload_n K (D_at DX12_takesAlong_q0 1 rfl) rfl rfl ?_
  refine jr_min K (D_at DX12_takesAlong_q0 2 rfl) mm_X12_119 (by exact Nat.le_of_ble_eq_true rfl) ?_
  refine jr_istore K (D_at DX12_takesAlong_q0 3 rfl) (i := 4) (by decide) (L2 := [_, _, _, _, _]) rfl ?_
  refine jr_aload_n K (D_at DX12_takesAlong_q0 4 rfl) rfl rfl ?_
  refine jr_iload K (D_at DX12_takesAlong_q0 5 rfl) rfl ?_
  refine jr_bipush K (D_at DX12_takesAlong_q0 6 rfl) (v := (7 : Int32)) (by decide) ?_
  obtain ⟨v12, e12, hf⟩ := jbind hf
  obtain ⟨rc_12, e12⟩ := jcv_o e12
  refine jr_callV K (C_X12_is (d) e12) (D_at DX12_takesAlong_q0 7 rfl) cv_X12_73_X12_is (As := [.int (if x2 < x1 then x2 else x1), .int (7 : Int32)]) (ci := 10) rfl rc_12 rfl rfl (by exact Nat.le_of_ble_eq_true rfl) (kc2 := 0) (ks2 := 0) rfl rfl (fun k9 h9 w9 => by cases w9.1) (fun r9 h9 w9 => ?_)
  obtain ⟨w1, w2⟩ := w9
  subst h9
  cases w1
  show jJ G X _ 0 0 _ _ (.int v12 :: _)
  refine jr_if_eq K (D_at DX12_takesAlong_q0 8 rfl) (tgt := 20) (by decide) (fun c15 => ?_) (fun c15 => ?_)
  · replace hf := (if_pos c15).symm.trans hf
    refine jr_iload_n K (D_at DX12_takesAlong_q0 11 rfl) rfl rfl ?_
    refine jr_iload_n K (D_at DX12_takesAlong_q1 0 rfl) rfl rfl ?_
    refine jr_icmp_le K (D_at DX12_takesAlong_q1 1 rfl) (tgt := 29) (by decide) (fun c22 => ?_) (fun c22 => ?_)
    · replace hf := (if_pos c22).symm.trans hf
      refine jr_iconst K (D_at DX12_takesAlong_q1 4 rfl) (v := (0 : Int32)) (by decide) ?_
      refine jr_keep [true, false, false, true, true] ?_
      exact J_X12_takesAlong_30 K n h E a0 x3 (if x2 < x1 then x2 else x1) (0 : Int32) hf
    · replace hf := (if_neg c22).symm.trans hf
      refine jr_iconst K (D_at DX12_takesAlong_q1 2 rfl) (v := (1 : Int32)) (by decide) ?_
      refine jr_goto K (D_at DX12_takesAlong_q1 3 rfl) (tgt := 30) (by decide) ?_
      refine jr_keep [true, false, false, true, true] ?_
      exact J_X12_takesAlong_30 K n h E a0 x3 (if x2 < x1 then x2 else x1) (1 : Int32) hf
  · replace hf := (if_neg c15).symm.trans hf
    refine jr_iconst K (D_at DX12_takesAlong_q0 9 rfl) (v := (1 : Int32)) (by decide) ?_
    cases hf
    exact jr_zret K E (D_at DX12_takesAlong_q0 10 rfl) rfl (Or.inr rfl) ⟨rfl, rfl⟩
theorem C_X12_takesAlong {G : jG} {l : Launch} (d : Nat) {n : Nat} {a0 : Nat} {x1 : Int32} {x2 : Int32} {x3 : Int32} {h : jH} {res : Int32} (hf : F_X12_takesAlong n a0 x1 x2 x3 h = some res) : jC G l mX12_takesAlong (d + 3) 0 0 [.ref a0, .int x1, .int x2, .int x3] h (jPR h res) :=
  jC.of pn_X12 (jcats rfl) (Nat.le_of_ble_eq_true rfl) (fun X K E => J_X12_takesAlong K n h E a0 x1 x2 x3 hf)
set_option maxHeartbeats 400000 in
set_option maxRecDepth 100000 in
theorem J_X12_allWith_72 {G : jG} {l : Launch} {d : Nat} {X : jX} {res : Int32} (K : jOK G l mX12_allWith (d + 4) X) (n : Nat) (h : jH) (rc7 : Nat → Int32 → Int32 → Int32 → jH → Option Int32) (hr7 : ∀ (a0 : Nat) (x2 : Int32) (x3 : Int32) (x4 : Int32), rc7 a0 x2 x3 x4 h = some res → jJ G X h 0 0 7 [some (.ref a0), none, some (.int x2), some (.int x3), some (.int x4), none] []) (rc17 : Nat → Int32 → Int32 → Int32 → Int32 → jH → Option Int32) (hr17 : ∀ (a0 : Nat) (x2 : Int32) (x3 : Int32) (x4 : Int32) (x5 : Int32), rc17 a0 x2 x3 x4 x5 h = some res → jJ G X h 0 0 17 [some (.ref a0), none, some (.int x2), some (.int x3), some (.int x4), some (.int x5)] []) (E : jEnd G mX12_allWith (jPR h res) X) (a0 : Nat) (x2 : Int32) (x4 : Int32) (x5 : Int32) (s0 : Int32) (s1 : Int32) (hf : F_X12_allWith_72 n rc7 rc17 a0 x2 x4 x5 s0 s1 h = some res) : jJ G X h 0 0 72 [some (.ref a0), none, some (.int x2), none, some (.int x4), some (.int x5)] [.int s1, .int s0] := by
  unfold F_X12_allWith_72 at hf
  refine jr_ior K (D_at DX12_allWith_q3 4 rfl) ?_
  refine jr_istore_n K (D_at DX12_allWith_q3 5 rfl) (i := 3) rfl (by decide) (L2 := [_, _, _, _, _, _]) rfl ?_
  refine jr_iload_n K (D_at DX12_allWith_q3 6 rfl) rfl rfl ?_
  refine jr_iload K (D_at DX12_allWith_q3 7 rfl) rfl ?_
  refine jr_if_le K (D_at DX12_allWith_q3 8 rfl) (tgt := 103) (by decide) (fun c77 => ?_) (fun c77 => ?_)
  · replace hf := (if_pos c77).symm.trans hf
    refine jr_iconst K (D_at DX12_allWith_q4 11 rfl) (v := (0 : Int32)) (by decide) ?_
    refine jr_ior K (D_at DX12_allWith_q5 0 rfl) ?_
    refine jr_istore_n K (D_at DX12_allWith_q5 1 rfl) (i := 3) rfl (by decide) (L2 := [_, _, _, _, _, _]) rfl ?_
    refine jr_iinc K (D_at DX12_allWith_q5 2 rfl) (i := 5) rfl (v := x5 + (1 : Int32)) (jinc (by decide)) (by decide) (L2 := [_, _, _, _, _, _]) rfl ?_
    refine jr_goto K (D_at DX12_allWith_q5 3 rfl) (tgt := 17) (by decide) ?_
    refine jr_keep [true, false, true, true, true, true] ?_
    exact hr17 a0 x2 ((s0 ||| s1) ||| (0 : Int32)) x4 (x5 + (1 : Int32)) hf
  · replace hf := (if_neg c77).symm.trans hf
    refine jr_aload_n K (D_at DX12_allWith_q3 9 rfl) rfl rfl ?_
    refine jr_iload K (D_at DX12_allWith_q3 10 rfl) rfl ?_
    refine jr_iload K (D_at DX12_allWith_q3 11 rfl) rfl ?_
    refine jr_iconst K (D_at DX12_allWith_q4 0 rfl) (v := (1 : Int32)) (by decide) ?_
    refine jr_isub K (D_at DX12_allWith_q4 1 rfl) ?_
    refine jr_iload_n K (D_at DX12_allWith_q4 2 rfl) rfl rfl ?_
    obtain ⟨v88, e88, hf⟩ := jbind hf
    obtain ⟨rc_88, e88⟩ := jcv_o e88
    refine jr_callV K (C_X12_takesAlong (d) e88) (D_at DX12_allWith_q4 3 rfl) cv_X12_292_X12_takesAlong (As := [.int x5, .int (x5 - (1 : Int32)), .int x2]) (ci := 10) rfl rc_88 rfl rfl (by exact Nat.le_of_ble_eq_true rfl) (kc2 := 0) (ks2 := 0) rfl rfl (fun k9 h9 w9 => by cases w9.1) (fun r9 h9 w9 => ?_)
    obtain ⟨w1, w2⟩ := w9
    subst h9
    cases w1
    show jJ G X _ 0 0 _ _ (.int v88 :: _)
    refine jr_if_eq K (D_at DX12_allWith_q4 4 rfl) (tgt := 103) (by decide) (fun c91 => ?_) (fun c91 => ?_)
    · replace hf := (if_pos c91).symm.trans hf
      refine jr_iconst K (D_at DX12_allWith_q4 11 rfl) (v := (0 : Int32)) (by decide) ?_
      refine jr_ior K (D_at DX12_allWith_q5 0 rfl) ?_
      refine jr_istore_n K (D_at DX12_allWith_q5 1 rfl) (i := 3) rfl (by decide) (L2 := [_, _, _, _, _, _]) rfl ?_
      refine jr_iinc K (D_at DX12_allWith_q5 2 rfl) (i := 5) rfl (v := x5 + (1 : Int32)) (jinc (by decide)) (by decide) (L2 := [_, _, _, _, _, _]) rfl ?_
      refine jr_goto K (D_at DX12_allWith_q5 3 rfl) (tgt := 17) (by decide) ?_
      refine jr_keep [true, false, true, true, true, true] ?_
      exact hr17 a0 x2 ((s0 ||| s1) ||| (0 : Int32)) x4 (x5 + (1 : Int32)) hf
    · replace hf := (if_neg c91).symm.trans hf
      refine jr_iconst K (D_at DX12_allWith_q4 5 rfl) (v := (1 : Int32)) (by decide) ?_
      refine jr_iload K (D_at DX12_allWith_q4 6 rfl) rfl ?_
      refine jr_iconst K (D_at DX12_allWith_q4 7 rfl) (v := (1 : Int32)) (by decide) ?_
      refine jr_isub K (D_at DX12_allWith_q4 8 rfl) ?_
      refine jr_ishl K (D_at DX12_allWith_q4 9 rfl) ?_
      refine jr_goto K (D_at DX12_allWith_q4 10 rfl) (tgt := 104) (by decide) ?_
      refine jr_ior K (D_at DX12_allWith_q5 0 rfl) ?_
      refine jr_istore_n K (D_at DX12_allWith_q5 1 rfl) (i := 3) rfl (by decide) (L2 := [_, _, _, _, _, _]) rfl ?_
      refine jr_iinc K (D_at DX12_allWith_q5 2 rfl) (i := 5) rfl (v := x5 + (1 : Int32)) (jinc (by decide)) (by decide) (L2 := [_, _, _, _, _, _]) rfl ?_
      refine jr_goto K (D_at DX12_allWith_q5 3 rfl) (tgt := 17) (by decide) ?_
      refine jr_keep [true, false, true, true, true, true] ?_
      exact hr17 a0 x2 ((s0 ||| s1) ||| ((1 : Int32) <<< ((x5 - (1 : Int32)) &&& 31))) x4 (x5 + (1 : Int32)) hf
set_option maxHeartbeats 400000 in
set_option maxRecDepth 100000 in
theorem J_X12_allWith_17_b {G : jG} {l : Launch} {d : Nat} {X : jX} {res : Int32} (K : jOK G l mX12_allWith (d + 4) X) (n : Nat) (h : jH) (rc7 : Nat → Int32 → Int32 → Int32 → jH → Option Int32) (hr7 : ∀ (a0 : Nat) (x2 : Int32) (x3 : Int32) (x4 : Int32), rc7 a0 x2 x3 x4 h = some res → jJ G X h 0 0 7 [some (.ref a0), none, some (.int x2), some (.int x3), some (.int x4), none] []) (rc17 : Nat → Int32 → Int32 → Int32 → Int32 → jH → Option Int32) (hr17 : ∀ (a0 : Nat) (x2 : Int32) (x3 : Int32) (x4 : Int32) (x5 : Int32), rc17 a0 x2 x3 x4 x5 h = some res → jJ G X h 0 0 17 [some (.ref a0), none, some (.int x2), some (.int x3), some (.int x4), some (.int x5)] []) (E : jEnd G mX12_allWith (jPR h res) X) (a0 : Nat) (x2 : Int32) (x3 : Int32) (x4 : Int32) (x5 : Int32) (hf : F_X12_allWith_17_b n rc7 rc17 a0 x2 x3 x4 x5 h = some res) : jJ G X h 0 0 17 [some (.ref a0), none, some (.int x2), some (.int x3), some (.int x4), some (.int x5)] [] := by
  unfold F_X12_allWith_17_b at hf
  refine jr_iload K (D_at DX12_allWith_q0 11 rfl) rfl ?_
  refine jr_aload_n K (D_at DX12_allWith_q1 0 rfl) rfl rfl ?_
  obtain ⟨v20, e20, hf⟩ := jbind hf
  obtain ⟨rc_20, e20⟩ := jcv_o e20
  refine jr_callV K (C_X12_rings (d + 3) e20) (D_at DX12_allWith_q1 1 rfl) cv_X12_59_X12_rings (As := []) (ci := 10) rfl rc_20 rfl rfl (by exact Nat.le_of_ble_eq_true rfl) (kc2 := 0) (ks2 := 0) rfl rfl (fun k9 h9 w9 => by cases w9.1) (fun r9 h9 w9 => ?_)
  obtain ⟨w1, w2⟩ := w9
  subst h9
  cases w1
  show jJ G X _ 0 0 _ _ (.int v20 :: _)
  refine jr_icmp_ge K (D_at DX12_allWith_q1 2 rfl) (tgt := 112) (by decide) (fun c23 => ?_) (fun c23 => ?_)
  · replace hf := (if_pos c23).symm.trans hf
    refine jr_iinc K (D_at DX12_allWith_1_q0 0 rfl) (i := 4) rfl (v := x4 + (1 : Int32)) (jinc (by decide)) (by decide) (L2 := [_, _, _, _, _, _]) rfl ?_
    refine jr_goto K (D_at DX12_allWith_1_q0 1 rfl) (tgt := 7) (by decide) ?_
    refine jr_keep [true, false, true, true, true, false] ?_
    exact hr7 a0 x2 x3 (x4 + (1 : Int32)) hf
  · replace hf := (if_neg c23).symm.trans hf
    refine jr_iload_n K (D_at DX12_allWith_q1 3 rfl) rfl rfl ?_
    refine jr_iload K (D_at DX12_allWith_q1 4 rfl) rfl ?_
    obtain ⟨v29, e29, hf⟩ := jbind hf
    refine jr_callS K (C_X12_has (d + 3) e29) (D_at DX12_allWith_q1 5 rfl) cs_X12_289_X12_has (As := [.int x3, .int x5]) rfl rfl (by exact Nat.le_of_ble_eq_true rfl) (kc2 := 0) (ks2 := 0) rfl rfl (fun k9 h9 w9 => by cases w9.1) (fun r9 h9 w9 => ?_)
    obtain ⟨w1, w2⟩ := w9
    subst h9
    cases w1
    show jJ G X _ 0 0 _ _ (.int v29 :: _)
    refine jr_if_ne K (D_at DX12_allWith_q1 6 rfl) (tgt := 38) (by decide) (fun c32 => ?_) (fun c32 => ?_)
    · replace hf := (if_neg c32).symm.trans hf
      refine jr_iload_n K (D_at DX12_allWith_q1 8 rfl) rfl rfl ?_
      refine jr_iload K (D_at DX12_allWith_q1 9 rfl) rfl ?_
      refine jr_aload_n K (D_at DX12_allWith_q1 10 rfl) rfl rfl ?_
      obtain ⟨v42, e42, hf⟩ := jbind hf
      obtain ⟨rc_42, e42⟩ := jcv_o e42
      refine jr_callV K (C_X12_lastRing (d + 2) e42) (D_at DX12_allWith_q1 11 rfl) cv_X12_70_X12_lastRing (As := []) (ci := 10) rfl rc_42 rfl rfl (by exact Nat.le_of_ble_eq_true rfl) (kc2 := 0) (ks2 := 0) rfl rfl (fun k9 h9 w9 => by cases w9.1) (fun r9 h9 w9 => ?_)
      obtain ⟨w1, w2⟩ := w9
      subst h9
      cases w1
      show jJ G X _ 0 0 _ _ (.int v42 :: _)
      refine jr_icmp_ge K (D_at DX12_allWith_q2 0 rfl) (tgt := 71) (by decide) (fun c45 => ?_) (fun c45 => ?_)
      · replace hf := (if_pos c45).symm.trans hf
        refine jr_iconst K (D_at DX12_allWith_q3 3 rfl) (v := (0 : Int32)) (by decide) ?_
        refine jr_keep [true, false, true, false, true, true] ?_
        exact J_X12_allWith_72 K n h rc7 hr7 rc17 hr17 E a0 x2 x4 x5 x3 (0 : Int32) hf
      · replace hf := (if_neg c45).symm.trans hf
        refine jr_aload_n K (D_at DX12_allWith_q2 1 rfl) rfl rfl ?_
        refine jr_iload K (D_at DX12_allWith_q2 2 rfl) rfl ?_
        refine jr_iload K (D_at DX12_allWith_q2 3 rfl) rfl ?_
        refine jr_iconst K (D_at DX12_allWith_q2 4 rfl) (v := (1 : Int32)) (by decide) ?_
        refine jr_iadd K (D_at DX12_allWith_q2 5 rfl) ?_
        refine jr_iload_n K (D_at DX12_allWith_q2 6 rfl) rfl rfl ?_
        obtain ⟨v56, e56, hf⟩ := jbind hf
        obtain ⟨rc_56, e56⟩ := jcv_o e56
        refine jr_callV K (C_X12_takesAlong (d) e56) (D_at DX12_allWith_q2 7 rfl) cv_X12_292_X12_takesAlong (As := [.int x5, .int (x5 + (1 : Int32)), .int x2]) (ci := 10) rfl rc_56 rfl rfl (by exact Nat.le_of_ble_eq_true rfl) (kc2 := 0) (ks2 := 0) rfl rfl (fun k9 h9 w9 => by cases w9.1) (fun r9 h9 w9 => ?_)
        obtain ⟨w1, w2⟩ := w9
        subst h9
        cases w1
        show jJ G X _ 0 0 _ _ (.int v56 :: _)
        refine jr_if_eq K (D_at DX12_allWith_q2 8 rfl) (tgt := 71) (by decide) (fun c59 => ?_) (fun c59 => ?_)
        · replace hf := (if_pos c59).symm.trans hf
          refine jr_iconst K (D_at DX12_allWith_q3 3 rfl) (v := (0 : Int32)) (by decide) ?_
          refine jr_keep [true, false, true, false, true, true] ?_
          exact J_X12_allWith_72 K n h rc7 hr7 rc17 hr17 E a0 x2 x4 x5 x3 (0 : Int32) hf
        · replace hf := (if_neg c59).symm.trans hf
          refine jr_iconst K (D_at DX12_allWith_q2 9 rfl) (v := (1 : Int32)) (by decide) ?_
          refine jr_iload K (D_at DX12_allWith_q2 10 rfl) rfl ?_
          refine jr_iconst K (D_at DX12_allWith_q2 11 rfl) (v := (1 : Int32)) (by decide) ?_
          refine jr_iadd K (D_at DX12_allWith_q3 0 rfl) ?_
          refine jr_ishl K (D_at DX12_allWith_q3 1 rfl) ?_
          refine jr_goto K (D_at DX12_allWith_q3 2 rfl) (tgt := 72) (by decide) ?_
          refine jr_keep [true, false, true, false, true, true] ?_
          exact J_X12_allWith_72 K n h rc7 hr7 rc17 hr17 E a0 x2 x4 x5 x3 ((1 : Int32) <<< ((x5 + (1 : Int32)) &&& 31)) hf
    · replace hf := (if_pos c32).symm.trans hf
      refine jr_goto K (D_at DX12_allWith_q1 7 rfl) (tgt := 106) (by decide) ?_
      refine jr_iinc K (D_at DX12_allWith_q5 2 rfl) (i := 5) rfl (v := x5 + (1 : Int32)) (jinc (by decide)) (by decide) (L2 := [_, _, _, _, _, _]) rfl ?_
      refine jr_goto K (D_at DX12_allWith_q5 3 rfl) (tgt := 17) (by decide) ?_
      refine jr_keep [true, false, true, true, true, true] ?_
      exact hr17 a0 x2 x3 x4 (x5 + (1 : Int32)) hf
theorem J_X12_allWith_17 {G : jG} {l : Launch} {d : Nat} {X : jX} {res : Int32} (K : jOK G l mX12_allWith (d + 4) X) (n : Nat) (h : jH) (rc7 : Nat → Int32 → Int32 → Int32 → jH → Option Int32) (hr7 : ∀ (a0 : Nat) (x2 : Int32) (x3 : Int32) (x4 : Int32), rc7 a0 x2 x3 x4 h = some res → jJ G X h 0 0 7 [some (.ref a0), none, some (.int x2), some (.int x3), some (.int x4), none] []) (E : jEnd G mX12_allWith (jPR h res) X) (k : Nat) : ∀ (a0 : Nat) (x2 : Int32) (x3 : Int32) (x4 : Int32) (x5 : Int32), F_X12_allWith_17 n rc7 k a0 x2 x3 x4 x5 h = some res → jJ G X h 0 0 17 [some (.ref a0), none, some (.int x2), some (.int x3), some (.int x4), some (.int x5)] [] := by
  induction k with
  | zero =>
    intro a0 x2 x3 x4 x5 hf
    exact jno (show (none : Option Int32) = some res from hf)
  | succ k ih =>
    intro a0 x2 x3 x4 x5 hf
    exact J_X12_allWith_17_b K n h rc7 hr7 (F_X12_allWith_17 n rc7 k) ih E a0 x2 x3 x4 x5 hf
set_option maxHeartbeats 400000 in
set_option maxRecDepth 100000 in
theorem J_X12_allWith_7_b {G : jG} {l : Launch} {d : Nat} {X : jX} {res : Int32} (K : jOK G l mX12_allWith (d + 4) X) (n : Nat) (h : jH) (rc7 : Nat → Int32 → Int32 → Int32 → jH → Option Int32) (hr7 : ∀ (a0 : Nat) (x2 : Int32) (x3 : Int32) (x4 : Int32), rc7 a0 x2 x3 x4 h = some res → jJ G X h 0 0 7 [some (.ref a0), none, some (.int x2), some (.int x3), some (.int x4), none] []) (E : jEnd G mX12_allWith (jPR h res) X) (a0 : Nat) (x2 : Int32) (x3 : Int32) (x4 : Int32) (hf : F_X12_allWith_7_b n rc7 a0 x2 x3 x4 h = some res) : jJ G X h 0 0 7 [some (.ref a0), none, some (.int x2), some (.int x3), some (.int x4), none] [] := by
  unfold F_X12_allWith_7_b at hf
  refine jr_iload K (D_at DX12_allWith_q0 6 rfl) rfl ?_
  refine jr_bipush K (D_at DX12_allWith_q0 7 rfl) (v := (8 : Int32)) (by decide) ?_
  refine jr_icmp_ge K (D_at DX12_allWith_q0 8 rfl) (tgt := 118) (by decide) (fun c11 => ?_) (fun c11 => ?_)
  · replace hf := (if_pos c11).symm.trans hf
    refine jr_iload_n K (D_at DX12_allWith_1_q0 2 rfl) rfl rfl ?_
    cases hf
    exact jr_iret K E (D_at DX12_allWith_1_q0 3 rfl) rfl ⟨rfl, rfl⟩
  · replace hf := (if_neg c11).symm.trans hf
    refine jr_iconst K (D_at DX12_allWith_q0 9 rfl) (v := (0 : Int32)) (by decide) ?_
    refine jr_istore K (D_at DX12_allWith_q0 10 rfl) (i := 5) (by decide) (L2 := [_, _, _, _, _, _]) rfl ?_
    refine jr_keep [true, false, true, true, true, true] ?_
    exact J_X12_allWith_17 K n h rc7 hr7 E n a0 x2 x3 x4 (0 : Int32) hf
theorem J_X12_allWith_7 {G : jG} {l : Launch} {d : Nat} {X : jX} {res : Int32} (K : jOK G l mX12_allWith (d + 4) X) (n : Nat) (h : jH) (E : jEnd G mX12_allWith (jPR h res) X) (k : Nat) : ∀ (a0 : Nat) (x2 : Int32) (x3 : Int32) (x4 : Int32), F_X12_allWith_7 n k a0 x2 x3 x4 h = some res → jJ G X h 0 0 7 [some (.ref a0), none, some (.int x2), some (.int x3), some (.int x4), none] [] := by
  induction k with
  | zero =>
    intro a0 x2 x3 x4 hf
    exact jno (show (none : Option Int32) = some res from hf)
  | succ k ih =>
    intro a0 x2 x3 x4 hf
    exact J_X12_allWith_7_b K n h (F_X12_allWith_7 n k) ih E a0 x2 x3 x4 hf
set_option maxHeartbeats 400000 in
set_option maxRecDepth 100000 in
theorem J_X12_allWith {G : jG} {l : Launch} {d : Nat} {X : jX} {res : Int32} (K : jOK G l mX12_allWith (d + 4) X) (n : Nat) (h : jH) (E : jEnd G mX12_allWith (jPR h res) X) (a0 : Nat) (x1 : Int32) (x2 : Int32) (hf : F_X12_allWith n a0 x1 x2 h = some res) : jJ G X h 0 0 0 [some (.ref a0), some (.int x1), some (.int x2), none, none, none] [] := by
  unfold F_X12_allWith at hf
  refine jr_iconst K (D_at DX12_allWith_q0 0 rfl) (v := (1 : Int32)) (by decide) ?_
  refine jr_iload_n K (D_at DX12_allWith_q0 1 rfl) rfl rfl ?_
  refine jr_ishl K (D_at DX12_allWith_q0 2 rfl) ?_
  refine jr_istore_n K (D_at DX12_allWith_q0 3 rfl) (i := 3) rfl (by decide) (L2 := [_, _, _, _, _, _]) rfl ?_
  refine jr_iconst K (D_at DX12_allWith_q0 4 rfl) (v := (0 : Int32)) (by decide) ?_
  refine jr_istore K (D_at DX12_allWith_q0 5 rfl) (i := 4) (by decide) (L2 := [_, _, _, _, _, _]) rfl ?_
  refine jr_keep [true, false, true, true, true, false] ?_
  exact J_X12_allWith_7 K n h E n a0 x2 ((1 : Int32) <<< (x1 &&& 31)) (0 : Int32) hf
theorem C_X12_allWith {G : jG} {l : Launch} (d : Nat) {n : Nat} {a0 : Nat} {x1 : Int32} {x2 : Int32} {h : jH} {res : Int32} (hf : F_X12_allWith n a0 x1 x2 h = some res) : jC G l mX12_allWith (d + 4) 0 0 [.ref a0, .int x1, .int x2] h (jPR h res) :=
  jC.of pn_X12 (jcats rfl) (Nat.le_of_ble_eq_true rfl) (fun X K E => J_X12_allWith K n h E a0 x1 x2 hf)
set_option maxHeartbeats 400000 in
set_option maxRecDepth 100000 in
theorem J_X12_mayGo_20 {G : jG} {l : Launch} {d : Nat} {X : jX} {res : Int32} (K : jOK G l mX12_mayGo (d + 3) X) (n : Nat) (h : jH) (E : jEnd G mX12_mayGo (jPR h res) X) (a0 : Nat) (x1 : Int32) (x2 : Int32) (x3 : Int32) (s0 : Int32) (hf : F_X12_mayGo_20 n a0 x1 x2 x3 s0 h = some res) : jJ G X h 0 0 20 [some (.ref a0), some (.int x1), some (.int x2), some (.int x3)] [.int s0] := by
  unfold F_X12_mayGo_20 at hf
  obtain ⟨v20, e20, hf⟩ := jbind hf
  refine jr_callS K (C_X12_noPlace (d + 1) e20) (D_at DX12_mayGo_q1 2 rfl) cs_X12_296_X12_noPlace (As := [.int s0]) rfl rfl (by exact Nat.le_of_ble_eq_true rfl) (kc2 := 0) (ks2 := 0) rfl rfl (fun k9 h9 w9 => by cases w9.1) (fun r9 h9 w9 => ?_)
  obtain ⟨w1, w2⟩ := w9
  subst h9
  cases w1
  show jJ G X _ 0 0 _ _ (.int v20 :: _)
  refine jr_if_eq K (D_at DX12_mayGo_q1 3 rfl) (tgt := 28) (by decide) (fun c23 => ?_) (fun c23 => ?_)
  · replace hf := (if_pos c23).symm.trans hf
    refine jr_aload_n K (D_at DX12_mayGo_q1 6 rfl) rfl rfl ?_
    refine jr_iload_n K (D_at DX12_mayGo_q1 7 rfl) rfl rfl ?_
    refine jr_iconst K (D_at DX12_mayGo_q1 8 rfl) (v := (2 : Int32)) (by decide) ?_
    obtain ⟨v31, e31, hf⟩ := jbind hf
    obtain ⟨rc_31, e31⟩ := jcv_o e31
    refine jr_callV K (C_X12_is (d) e31) (D_at DX12_mayGo_q1 9 rfl) cv_X12_73_X12_is (As := [.int x1, .int (2 : Int32)]) (ci := 10) rfl rc_31 rfl rfl (by exact Nat.le_of_ble_eq_true rfl) (kc2 := 0) (ks2 := 0) rfl rfl (fun k9 h9 w9 => by cases w9.1) (fun r9 h9 w9 => ?_)
    obtain ⟨w1, w2⟩ := w9
    subst h9
    cases w1
    show jJ G X _ 0 0 _ _ (.int v31 :: _)
    refine jr_if_eq K (D_at DX12_mayGo_q1 10 rfl) (tgt := 57) (by decide) (fun c34 => ?_) (fun c34 => ?_)
    · replace hf := (if_pos c34).symm.trans hf
      refine jr_iconst K (D_at DX12_mayGo_q2 11 rfl) (v := (1 : Int32)) (by decide) ?_
      refine jr_goto K (D_at DX12_mayGo_q3 0 rfl) (tgt := 62) (by decide) ?_
      cases hf
      exact jr_zret K E (D_at DX12_mayGo_q3 2 rfl) rfl (Or.inr rfl) ⟨rfl, rfl⟩
    · replace hf := (if_neg c34).symm.trans hf
      refine jr_iload_n K (D_at DX12_mayGo_q1 11 rfl) rfl rfl ?_
      refine jr_if_eq K (D_at DX12_mayGo_q2 0 rfl) (tgt := 47) (by decide) (fun c38 => ?_) (fun c38 => ?_)
      · replace hf := (if_pos c38).symm.trans hf
        refine jr_iload_n K (D_at DX12_mayGo_q2 5 rfl) rfl rfl ?_
        refine jr_aload_n K (D_at DX12_mayGo_q2 6 rfl) rfl rfl ?_
        obtain ⟨p49, e49, hf⟩ := jbind hf
        refine jr_getR K (D_at DX12_mayGo_q2 7 rfl) fg_X12_13_10 e49 ?_
        refine jr_iconst K (D_at DX12_mayGo_q2 8 rfl) (v := (5 : Int32)) (by decide) ?_
        obtain ⟨v53, e53, hf⟩ := jbind hf
        refine jr_iald K (D_at DX12_mayGo_q2 9 rfl) e53 ?_
        refine jr_icmp_eq K (D_at DX12_mayGo_q2 10 rfl) (tgt := 61) (by decide) (fun c54 => ?_) (fun c54 => ?_)
        · replace hf := (if_pos c54).symm.trans hf
          refine jr_iconst K (D_at DX12_mayGo_q3 1 rfl) (v := (0 : Int32)) (by decide) ?_
          cases hf
          exact jr_zret K E (D_at DX12_mayGo_q3 2 rfl) rfl (Or.inl rfl) ⟨rfl, rfl⟩
        · replace hf := (if_neg c54).symm.trans hf
          refine jr_iconst K (D_at DX12_mayGo_q2 11 rfl) (v := (1 : Int32)) (by decide) ?_
          refine jr_goto K (D_at DX12_mayGo_q3 0 rfl) (tgt := 62) (by decide) ?_
          cases hf
          exact jr_zret K E (D_at DX12_mayGo_q3 2 rfl) rfl (Or.inr rfl) ⟨rfl, rfl⟩
      · replace hf := (if_neg c38).symm.trans hf
        refine jr_iload_n K (D_at DX12_mayGo_q2 1 rfl) rfl rfl ?_
        refine jr_iconst K (D_at DX12_mayGo_q2 2 rfl) (v := (1 : Int32)) (by decide) ?_
        refine jr_iadd K (D_at DX12_mayGo_q2 3 rfl) ?_
        refine jr_goto K (D_at DX12_mayGo_q2 4 rfl) (tgt := 48) (by decide) ?_
        refine jr_aload_n K (D_at DX12_mayGo_q2 6 rfl) rfl rfl ?_
        obtain ⟨p49, e49, hf⟩ := jbind hf
        refine jr_getR K (D_at DX12_mayGo_q2 7 rfl) fg_X12_13_10 e49 ?_
        refine jr_iconst K (D_at DX12_mayGo_q2 8 rfl) (v := (5 : Int32)) (by decide) ?_
        obtain ⟨v53, e53, hf⟩ := jbind hf
        refine jr_iald K (D_at DX12_mayGo_q2 9 rfl) e53 ?_
        refine jr_icmp_eq K (D_at DX12_mayGo_q2 10 rfl) (tgt := 61) (by decide) (fun c54 => ?_) (fun c54 => ?_)
        · replace hf := (if_pos c54).symm.trans hf
          refine jr_iconst K (D_at DX12_mayGo_q3 1 rfl) (v := (0 : Int32)) (by decide) ?_
          cases hf
          exact jr_zret K E (D_at DX12_mayGo_q3 2 rfl) rfl (Or.inl rfl) ⟨rfl, rfl⟩
        · replace hf := (if_neg c54).symm.trans hf
          refine jr_iconst K (D_at DX12_mayGo_q2 11 rfl) (v := (1 : Int32)) (by decide) ?_
          refine jr_goto K (D_at DX12_mayGo_q3 0 rfl) (tgt := 62) (by decide) ?_
          cases hf
          exact jr_zret K E (D_at DX12_mayGo_q3 2 rfl) rfl (Or.inr rfl) ⟨rfl, rfl⟩
  · replace hf := (if_neg c23).symm.trans hf
    refine jr_iconst K (D_at DX12_mayGo_q1 4 rfl) (v := (0 : Int32)) (by decide) ?_
    cases hf
    exact jr_zret K E (D_at DX12_mayGo_q1 5 rfl) rfl (Or.inl rfl) ⟨rfl, rfl⟩
set_option maxHeartbeats 400000 in
set_option maxRecDepth 100000 in
theorem J_X12_mayGo {G : jG} {l : Launch} {d : Nat} {X : jX} {res : Int32} (K : jOK G l mX12_mayGo (d + 3) X) (n : Nat) (h : jH) (E : jEnd G mX12_mayGo (jPR h res) X) (a0 : Nat) (x1 : Int32) (x2 : Int32) (hf : F_X12_mayGo n a0 x1 x2 h = some res) : jJ G X h 0 0 0 [some (.ref a0), some (.int x1), some (.int x2), none] [] := by
  unfold F_X12_mayGo at hf
  refine jr_aload_n K (D_at DX12_mayGo_q0 0 rfl) rfl rfl ?_
  refine jr_iload_n K (D_at DX12_mayGo_q0 1 rfl) rfl rfl ?_
  refine jr_iconst K (D_at DX12_mayGo_q0 2 rfl) (v := (0 : Int32)) (by decide) ?_
  obtain ⟨v3, e3, hf⟩ := jbind hf
  obtain ⟨rc_3, e3⟩ := jcv_o e3
  refine jr_callV K (C_X12_of (d + 1) e3) (D_at DX12_mayGo_q0 3 rfl) cv_X12_67_X12_of (As := [.int x1, .int (0 : Int32)]) (ci := 10) rfl rc_3 rfl rfl (by exact Nat.le_of_ble_eq_true rfl) (kc2 := 0) (ks2 := 0) rfl rfl (fun k9 h9 w9 => by cases w9.1) (fun r9 h9 w9 => ?_)
  obtain ⟨w1, w2⟩ := w9
  subst h9
  cases w1
  show jJ G X _ 0 0 _ _ (.int v3 :: _)
  refine jr_istore_n K (D_at DX12_mayGo_q0 4 rfl) (i := 3) rfl (by decide) (L2 := [_, _, _, _]) rfl ?_
  refine jr_iload_n K (D_at DX12_mayGo_q0 5 rfl) rfl rfl ?_
  refine jr_if_eq K (D_at DX12_mayGo_q0 6 rfl) (tgt := 17) (by decide) (fun c8 => ?_) (fun c8 => ?_)
  · replace hf := (if_pos c8).symm.trans hf
    refine jr_iload_n K (D_at DX12_mayGo_q0 11 rfl) rfl rfl ?_
    refine jr_iconst K (D_at DX12_mayGo_q1 0 rfl) (v := (1 : Int32)) (by decide) ?_
    refine jr_isub K (D_at DX12_mayGo_q1 1 rfl) ?_
    refine jr_keep [true, true, true, true] ?_
    exact J_X12_mayGo_20 K n h E a0 x1 x2 v3 (v3 - (1 : Int32)) hf
  · replace hf := (if_neg c8).symm.trans hf
    refine jr_iload_n K (D_at DX12_mayGo_q0 7 rfl) rfl rfl ?_
    refine jr_iconst K (D_at DX12_mayGo_q0 8 rfl) (v := (1 : Int32)) (by decide) ?_
    refine jr_iadd K (D_at DX12_mayGo_q0 9 rfl) ?_
    refine jr_goto K (D_at DX12_mayGo_q0 10 rfl) (tgt := 20) (by decide) ?_
    refine jr_keep [true, true, true, true] ?_
    exact J_X12_mayGo_20 K n h E a0 x1 x2 v3 (v3 + (1 : Int32)) hf
theorem C_X12_mayGo {G : jG} {l : Launch} (d : Nat) {n : Nat} {a0 : Nat} {x1 : Int32} {x2 : Int32} {h : jH} {res : Int32} (hf : F_X12_mayGo n a0 x1 x2 h = some res) : jC G l mX12_mayGo (d + 3) 0 0 [.ref a0, .int x1, .int x2] h (jPR h res) :=
  jC.of pn_X12 (jcats rfl) (Nat.le_of_ble_eq_true rfl) (fun X K E => J_X12_mayGo K n h E a0 x1 x2 hf)
set_option maxHeartbeats 400000 in
set_option maxRecDepth 100000 in
theorem J_X12_goingBy_13_b {G : jG} {l : Launch} {d : Nat} {X : jX} {res : Int32} (K : jOK G l mX12_goingBy (d + 5) X) (n : Nat) (h : jH) (rc13 : Nat → Int32 → Int32 → Int32 → Int32 → jH → Option Int32) (hr13 : ∀ (a0 : Nat) (x2 : Int32) (x3 : Int32) (x4 : Int32) (x5 : Int32), rc13 a0 x2 x3 x4 x5 h = some res → jJ G X h 0 0 13 [some (.ref a0), none, some (.int x2), some (.int x3), some (.int x4), some (.int x5)] []) (E : jEnd G mX12_goingBy (jPR h res) X) (a0 : Nat) (x2 : Int32) (x3 : Int32) (x4 : Int32) (x5 : Int32) (hf : F_X12_goingBy_13_b n rc13 a0 x2 x3 x4 x5 h = some res) : jJ G X h 0 0 13 [some (.ref a0), none, some (.int x2), some (.int x3), some (.int x4), some (.int x5)] [] := by
  unfold F_X12_goingBy_13_b at hf
  refine jr_iload K (D_at DX12_goingBy_q0 9 rfl) rfl ?_
  refine jr_aload_n K (D_at DX12_goingBy_q0 10 rfl) rfl rfl ?_
  obtain ⟨v16, e16, hf⟩ := jbind hf
  obtain ⟨rc_16, e16⟩ := jcv_o e16
  refine jr_callV K (C_X12_rings (d + 4) e16) (D_at DX12_goingBy_q0 11 rfl) cv_X12_59_X12_rings (As := []) (ci := 10) rfl rc_16 rfl rfl (by exact Nat.le_of_ble_eq_true rfl) (kc2 := 0) (ks2 := 0) rfl rfl (fun k9 h9 w9 => by cases w9.1) (fun r9 h9 w9 => ?_)
  obtain ⟨w1, w2⟩ := w9
  subst h9
  cases w1
  show jJ G X _ 0 0 _ _ (.int v16 :: _)
  refine jr_icmp_ge K (D_at DX12_goingBy_q1 0 rfl) (tgt := 59) (by decide) (fun c19 => ?_) (fun c19 => ?_)
  · replace hf := (if_pos c19).symm.trans hf
    refine jr_iload K (D_at DX12_goingBy_q2 6 rfl) rfl ?_
    refine jr_if_eq K (D_at DX12_goingBy_q2 7 rfl) (tgt := 68) (by decide) (fun c61 => ?_) (fun c61 => ?_)
    · replace hf := (if_pos c61).symm.trans hf
      refine jr_iconst K (D_at DX12_goingBy_q2 10 rfl) (v := (0 : Int32)) (by decide) ?_
      cases hf
      exact jr_iret K E (D_at DX12_goingBy_q2 11 rfl) rfl ⟨rfl, rfl⟩
    · replace hf := (if_neg c61).symm.trans hf
      refine jr_iload_n K (D_at DX12_goingBy_q2 8 rfl) rfl rfl ?_
      refine jr_goto K (D_at DX12_goingBy_q2 9 rfl) (tgt := 69) (by decide) ?_
      cases hf
      exact jr_iret K E (D_at DX12_goingBy_q2 11 rfl) rfl ⟨rfl, rfl⟩
  · replace hf := (if_neg c19).symm.trans hf
    refine jr_iload K (D_at DX12_goingBy_q1 1 rfl) rfl ?_
    refine jr_if_eq K (D_at DX12_goingBy_q1 2 rfl) (tgt := 50) (by decide) (fun c24 => ?_) (fun c24 => ?_)
    · replace hf := (if_pos c24).symm.trans hf
      refine jr_iconst K (D_at DX12_goingBy_q2 2 rfl) (v := (0 : Int32)) (by decide) ?_
      refine jr_istore K (D_at DX12_goingBy_q2 3 rfl) (i := 4) (by decide) (L2 := [_, _, _, _, _, _]) rfl ?_
      refine jr_iinc K (D_at DX12_goingBy_q2 4 rfl) (i := 5) rfl (v := x5 + (1 : Int32)) (jinc (by decide)) (by decide) (L2 := [_, _, _, _, _, _]) rfl ?_
      refine jr_goto K (D_at DX12_goingBy_q2 5 rfl) (tgt := 13) (by decide) ?_
      refine jr_keep [true, false, true, true, true, true] ?_
      exact hr13 a0 x2 x3 (0 : Int32) (x5 + (1 : Int32)) hf
    · replace hf := (if_neg c24).symm.trans hf
      refine jr_iload_n K (D_at DX12_goingBy_q1 3 rfl) rfl rfl ?_
      refine jr_iload K (D_at DX12_goingBy_q1 4 rfl) rfl ?_
      obtain ⟨v30, e30, hf⟩ := jbind hf
      refine jr_callS K (C_X12_has (d + 4) e30) (D_at DX12_goingBy_q1 5 rfl) cs_X12_289_X12_has (As := [.int x3, .int x5]) rfl rfl (by exact Nat.le_of_ble_eq_true rfl) (kc2 := 0) (ks2 := 0) rfl rfl (fun k9 h9 w9 => by cases w9.1) (fun r9 h9 w9 => ?_)
      obtain ⟨w1, w2⟩ := w9
      subst h9
      cases w1
      show jJ G X _ 0 0 _ _ (.int v30 :: _)
      refine jr_if_eq K (D_at DX12_goingBy_q1 6 rfl) (tgt := 46) (by decide) (fun c33 => ?_) (fun c33 => ?_)
      · replace hf := (if_pos c33).symm.trans hf
        refine jr_iconst K (D_at DX12_goingBy_q2 0 rfl) (v := (1 : Int32)) (by decide) ?_
        refine jr_goto K (D_at DX12_goingBy_q2 1 rfl) (tgt := 51) (by decide) ?_
        refine jr_istore K (D_at DX12_goingBy_q2 3 rfl) (i := 4) (by decide) (L2 := [_, _, _, _, _, _]) rfl ?_
        refine jr_iinc K (D_at DX12_goingBy_q2 4 rfl) (i := 5) rfl (v := x5 + (1 : Int32)) (jinc (by decide)) (by decide) (L2 := [_, _, _, _, _, _]) rfl ?_
        refine jr_goto K (D_at DX12_goingBy_q2 5 rfl) (tgt := 13) (by decide) ?_
        refine jr_keep [true, false, true, true, true, true] ?_
        exact hr13 a0 x2 x3 (1 : Int32) (x5 + (1 : Int32)) hf
      · replace hf := (if_neg c33).symm.trans hf
        refine jr_aload_n K (D_at DX12_goingBy_q1 7 rfl) rfl rfl ?_
        refine jr_iload K (D_at DX12_goingBy_q1 8 rfl) rfl ?_
        refine jr_iload_n K (D_at DX12_goingBy_q1 9 rfl) rfl rfl ?_
        obtain ⟨v40, e40, hf⟩ := jbind hf
        obtain ⟨rc_40, e40⟩ := jcv_o e40
        refine jr_callV K (C_X12_mayGo (d + 1) e40) (D_at DX12_goingBy_q1 10 rfl) cv_X12_303_X12_mayGo (As := [.int x5, .int x2]) (ci := 10) rfl rc_40 rfl rfl (by exact Nat.le_of_ble_eq_true rfl) (kc2 := 0) (ks2 := 0) rfl rfl (fun k9 h9 w9 => by cases w9.1) (fun r9 h9 w9 => ?_)
        obtain ⟨w1, w2⟩ := w9
        subst h9
        cases w1
        show jJ G X _ 0 0 _ _ (.int v40 :: _)
        refine jr_if_eq K (D_at DX12_goingBy_q1 11 rfl) (tgt := 50) (by decide) (fun c43 => ?_) (fun c43 => ?_)
        · replace hf := (if_pos c43).symm.trans hf
          refine jr_iconst K (D_at DX12_goingBy_q2 2 rfl) (v := (0 : Int32)) (by decide) ?_
          refine jr_istore K (D_at DX12_goingBy_q2 3 rfl) (i := 4) (by decide) (L2 := [_, _, _, _, _, _]) rfl ?_
          refine jr_iinc K (D_at DX12_goingBy_q2 4 rfl) (i := 5) rfl (v := x5 + (1 : Int32)) (jinc (by decide)) (by decide) (L2 := [_, _, _, _, _, _]) rfl ?_
          refine jr_goto K (D_at DX12_goingBy_q2 5 rfl) (tgt := 13) (by decide) ?_
          refine jr_keep [true, false, true, true, true, true] ?_
          exact hr13 a0 x2 x3 (0 : Int32) (x5 + (1 : Int32)) hf
        · replace hf := (if_neg c43).symm.trans hf
          refine jr_iconst K (D_at DX12_goingBy_q2 0 rfl) (v := (1 : Int32)) (by decide) ?_
          refine jr_goto K (D_at DX12_goingBy_q2 1 rfl) (tgt := 51) (by decide) ?_
          refine jr_istore K (D_at DX12_goingBy_q2 3 rfl) (i := 4) (by decide) (L2 := [_, _, _, _, _, _]) rfl ?_
          refine jr_iinc K (D_at DX12_goingBy_q2 4 rfl) (i := 5) rfl (v := x5 + (1 : Int32)) (jinc (by decide)) (by decide) (L2 := [_, _, _, _, _, _]) rfl ?_
          refine jr_goto K (D_at DX12_goingBy_q2 5 rfl) (tgt := 13) (by decide) ?_
          refine jr_keep [true, false, true, true, true, true] ?_
          exact hr13 a0 x2 x3 (1 : Int32) (x5 + (1 : Int32)) hf
theorem J_X12_goingBy_13 {G : jG} {l : Launch} {d : Nat} {X : jX} {res : Int32} (K : jOK G l mX12_goingBy (d + 5) X) (n : Nat) (h : jH) (E : jEnd G mX12_goingBy (jPR h res) X) (k : Nat) : ∀ (a0 : Nat) (x2 : Int32) (x3 : Int32) (x4 : Int32) (x5 : Int32), F_X12_goingBy_13 n k a0 x2 x3 x4 x5 h = some res → jJ G X h 0 0 13 [some (.ref a0), none, some (.int x2), some (.int x3), some (.int x4), some (.int x5)] [] := by
  induction k with
  | zero =>
    intro a0 x2 x3 x4 x5 hf
    exact jno (show (none : Option Int32) = some res from hf)
  | succ k ih =>
    intro a0 x2 x3 x4 x5 hf
    exact J_X12_goingBy_13_b K n h (F_X12_goingBy_13 n k) ih E a0 x2 x3 x4 x5 hf
set_option maxHeartbeats 400000 in
set_option maxRecDepth 100000 in
theorem J_X12_goingBy {G : jG} {l : Launch} {d : Nat} {X : jX} {res : Int32} (K : jOK G l mX12_goingBy (d + 5) X) (n : Nat) (h : jH) (E : jEnd G mX12_goingBy (jPR h res) X) (a0 : Nat) (x1 : Int32) (x2 : Int32) (hf : F_X12_goingBy n a0 x1 x2 h = some res) : jJ G X h 0 0 0 [some (.ref a0), some (.int x1), some (.int x2), none, none, none] [] := by
  unfold F_X12_goingBy at hf
  refine jr_aload_n K (D_at DX12_goingBy_q0 0 rfl) rfl rfl ?_
  refine jr_iload_n K (D_at DX12_goingBy_q0 1 rfl) rfl rfl ?_
  refine jr_iload_n K (D_at DX12_goingBy_q0 2 rfl) rfl rfl ?_
  obtain ⟨v3, e3, hf⟩ := jbind hf
  obtain ⟨rc_3, e3⟩ := jcv_o e3
  refine jr_callV K (C_X12_allWith (d) e3) (D_at DX12_goingBy_q0 3 rfl) cv_X12_299_X12_allWith (As := [.int x1, .int x2]) (ci := 10) rfl rc_3 rfl rfl (by exact Nat.le_of_ble_eq_true rfl) (kc2 := 0) (ks2 := 0) rfl rfl (fun k9 h9 w9 => by cases w9.1) (fun r9 h9 w9 => ?_)
  obtain ⟨w1, w2⟩ := w9
  subst h9
  cases w1
  show jJ G X _ 0 0 _ _ (.int v3 :: _)
  refine jr_istore_n K (D_at DX12_goingBy_q0 4 rfl) (i := 3) rfl (by decide) (L2 := [_, _, _, _, _, _]) rfl ?_
  refine jr_iconst K (D_at DX12_goingBy_q0 5 rfl) (v := (1 : Int32)) (by decide) ?_
  refine jr_istore K (D_at DX12_goingBy_q0 6 rfl) (i := 4) (by decide) (L2 := [_, _, _, _, _, _]) rfl ?_
  refine jr_iconst K (D_at DX12_goingBy_q0 7 rfl) (v := (0 : Int32)) (by decide) ?_
  refine jr_istore K (D_at DX12_goingBy_q0 8 rfl) (i := 5) (by decide) (L2 := [_, _, _, _, _, _]) rfl ?_
  refine jr_keep [true, false, true, true, true, true] ?_
  exact J_X12_goingBy_13 K n h E n a0 x2 v3 (1 : Int32) (0 : Int32) hf
theorem C_X12_goingBy {G : jG} {l : Launch} (d : Nat) {n : Nat} {a0 : Nat} {x1 : Int32} {x2 : Int32} {h : jH} {res : Int32} (hf : F_X12_goingBy n a0 x1 x2 h = some res) : jC G l mX12_goingBy (d + 5) 0 0 [.ref a0, .int x1, .int x2] h (jPR h res) :=
  jC.of pn_X12 (jcats rfl) (Nat.le_of_ble_eq_true rfl) (fun X K E => J_X12_goingBy K n h E a0 x1 x2 hf)
set_option maxHeartbeats 400000 in
set_option maxRecDepth 100000 in
theorem J_X12_goesOne_52 {G : jG} {l : Launch} {d : Nat} {X : jX} {res : (Int32 × jH)} (K : jOK G l mX12_goesOne (d + 6) X) (n : Nat) (rc10 : Nat → Int32 → Int32 → Int32 → jH → Option (Int32 × jH)) (hr10 : ∀ (a0 : Nat) (x2 : Int32) (x3 : Int32) (x4 : Int32) (h : jH), rc10 a0 x2 x3 x4 h = some res → jJ G X h 0 0 10 [some (.ref a0), none, some (.int x2), some (.int x3), some (.int x4)] []) (E : jEnd G mX12_goesOne (jPW res) X) (a0 : Nat) (x2 : Int32) (x3 : Int32) (x4 : Int32) (sa0 : Nat) (s1 : Int32) (s2 : Int32) (s3 : Int32) (h : jH) (hf : F_X12_goesOne_52 n rc10 a0 x2 x3 x4 sa0 s1 s2 s3 h = some res) : jJ G X h 0 0 52 [some (.ref a0), none, some (.int x2), some (.int x3), some (.int x4)] [.int s3, .int s2, .int s1, .ref sa0] := by
  unfold F_X12_goesOne_52 at hf
  refine jr_iadd K (D_at DX12_goesOne_q2 4 rfl) ?_
  obtain ⟨h53, e53, hf⟩ := jbind hf
  refine jr_iast K (D_at DX12_goesOne_q2 5 rfl) e53 ?_
  refine jr_aload_n K (D_at DX12_goesOne_q2 6 rfl) rfl rfl ?_
  refine jr_dup K (D_at DX12_goesOne_q2 7 rfl) rfl ?_
  obtain ⟨v56, e56, hf⟩ := jbind hf
  refine jr_getI K (D_at DX12_goesOne_q2 8 rfl) fg_X12_310_10 e56 ?_
  refine jr_aload_n K (D_at DX12_goesOne_q2 9 rfl) rfl rfl ?_
  refine jr_iload K (D_at DX12_goesOne_q2 10 rfl) rfl ?_
  refine jr_iconst K (D_at DX12_goesOne_q2 11 rfl) (v := (3 : Int32)) (by decide) ?_
  obtain ⟨v63, e63, hf⟩ := jbind hf
  obtain ⟨rc_63, e63⟩ := jcv_o e63
  refine jr_callV K (C_X12_is (d + 3) e63) (D_at DX12_goesOne_q3 0 rfl) cv_X12_73_X12_is (As := [.int x4, .int (3 : Int32)]) (ci := 10) rfl rc_63 rfl rfl (by exact Nat.le_of_ble_eq_true rfl) (kc2 := 0) (ks2 := 0) rfl rfl (fun k9 h9 w9 => by cases w9.1) (fun r9 h9 w9 => ?_)
  obtain ⟨w1, w2⟩ := w9
  subst h9
  cases w1
  show jJ G X _ 0 0 _ _ (.int v63 :: _)
  refine jr_if_eq K (D_at DX12_goesOne_q3 1 rfl) (tgt := 73) (by decide) (fun c66 => ?_) (fun c66 => ?_)
  · replace hf := (if_pos c66).symm.trans hf
    refine jr_iconst K (D_at DX12_goesOne_q3 4 rfl) (v := (1 : Int32)) (by decide) ?_
    refine jr_iadd K (D_at DX12_goesOne_q3 5 rfl) ?_
    obtain ⟨h75, e75, hf⟩ := jbind hf
    refine jr_putI K (D_at DX12_goesOne_q3 6 rfl) fp_X12_310_10 (Or.inl rfl) e75 ?_
    refine jr_iinc K (D_at DX12_goesOne_q3 7 rfl) (i := 4) rfl (v := x4 + (1 : Int32)) (jinc (by decide)) (by decide) (L2 := [_, _, _, _, _]) rfl ?_
    refine jr_goto K (D_at DX12_goesOne_q3 8 rfl) (tgt := 10) (by decide) ?_
    refine jr_keep [true, false, true, true, true] ?_
    exact hr10 a0 x2 x3 (x4 + (1 : Int32)) h75 hf
  · replace hf := (if_neg c66).symm.trans hf
    refine jr_iconst K (D_at DX12_goesOne_q3 2 rfl) (v := (0 : Int32)) (by decide) ?_
    refine jr_goto K (D_at DX12_goesOne_q3 3 rfl) (tgt := 74) (by decide) ?_
    refine jr_iadd K (D_at DX12_goesOne_q3 5 rfl) ?_
    obtain ⟨h75, e75, hf⟩ := jbind hf
    refine jr_putI K (D_at DX12_goesOne_q3 6 rfl) fp_X12_310_10 (Or.inl rfl) e75 ?_
    refine jr_iinc K (D_at DX12_goesOne_q3 7 rfl) (i := 4) rfl (v := x4 + (1 : Int32)) (jinc (by decide)) (by decide) (L2 := [_, _, _, _, _]) rfl ?_
    refine jr_goto K (D_at DX12_goesOne_q3 8 rfl) (tgt := 10) (by decide) ?_
    refine jr_keep [true, false, true, true, true] ?_
    exact hr10 a0 x2 x3 (x4 + (1 : Int32)) h75 hf
set_option maxHeartbeats 400000 in
set_option maxRecDepth 100000 in
theorem J_X12_goesOne_10_b {G : jG} {l : Launch} {d : Nat} {X : jX} {res : (Int32 × jH)} (K : jOK G l mX12_goesOne (d + 6) X) (n : Nat) (rc10 : Nat → Int32 → Int32 → Int32 → jH → Option (Int32 × jH)) (hr10 : ∀ (a0 : Nat) (x2 : Int32) (x3 : Int32) (x4 : Int32) (h : jH), rc10 a0 x2 x3 x4 h = some res → jJ G X h 0 0 10 [some (.ref a0), none, some (.int x2), some (.int x3), some (.int x4)] []) (E : jEnd G mX12_goesOne (jPW res) X) (a0 : Nat) (x2 : Int32) (x3 : Int32) (x4 : Int32) (h : jH) (hf : F_X12_goesOne_10_b n rc10 a0 x2 x3 x4 h = some res) : jJ G X h 0 0 10 [some (.ref a0), none, some (.int x2), some (.int x3), some (.int x4)] [] := by
  unfold F_X12_goesOne_10_b at hf
  refine jr_iload K (D_at DX12_goesOne_q0 7 rfl) rfl ?_
  refine jr_aload_n K (D_at DX12_goesOne_q0 8 rfl) rfl rfl ?_
  obtain ⟨v13, e13, hf⟩ := jbind hf
  obtain ⟨rc_13, e13⟩ := jcv_o e13
  refine jr_callV K (C_X12_rings (d + 5) e13) (D_at DX12_goesOne_q0 9 rfl) cv_X12_59_X12_rings (As := []) (ci := 10) rfl rc_13 rfl rfl (by exact Nat.le_of_ble_eq_true rfl) (kc2 := 0) (ks2 := 0) rfl rfl (fun k9 h9 w9 => by cases w9.1) (fun r9 h9 w9 => ?_)
  obtain ⟨w1, w2⟩ := w9
  subst h9
  cases w1
  show jJ G X _ 0 0 _ _ (.int v13 :: _)
  refine jr_icmp_ge K (D_at DX12_goesOne_q0 10 rfl) (tgt := 84) (by decide) (fun c16 => ?_) (fun c16 => ?_)
  · replace hf := (if_pos c16).symm.trans hf
    refine jr_iload_n K (D_at DX12_goesOne_q3 9 rfl) rfl rfl ?_
    refine jr_if_eq K (D_at DX12_goesOne_q3 10 rfl) (tgt := 92) (by decide) (fun c85 => ?_) (fun c85 => ?_)
    · replace hf := (if_pos c85).symm.trans hf
      refine jr_iconst K (D_at DX12_goesOne_q4 1 rfl) (v := (0 : Int32)) (by decide) ?_
      cases hf
      exact jr_zret K E (D_at DX12_goesOne_q4 2 rfl) rfl (Or.inl rfl) ⟨rfl, rfl⟩
    · replace hf := (if_neg c85).symm.trans hf
      refine jr_iconst K (D_at DX12_goesOne_q3 11 rfl) (v := (1 : Int32)) (by decide) ?_
      refine jr_goto K (D_at DX12_goesOne_q4 0 rfl) (tgt := 93) (by decide) ?_
      cases hf
      exact jr_zret K E (D_at DX12_goesOne_q4 2 rfl) rfl (Or.inr rfl) ⟨rfl, rfl⟩
  · replace hf := (if_neg c16).symm.trans hf
    refine jr_iload_n K (D_at DX12_goesOne_q0 11 rfl) rfl rfl ?_
    refine jr_iload K (D_at DX12_goesOne_q1 0 rfl) rfl ?_
    obtain ⟨v22, e22, hf⟩ := jbind hf
    refine jr_callS K (C_X12_has (d + 5) e22) (D_at DX12_goesOne_q1 1 rfl) cs_X12_289_X12_has (As := [.int x3, .int x4]) rfl rfl (by exact Nat.le_of_ble_eq_true rfl) (kc2 := 0) (ks2 := 0) rfl rfl (fun k9 h9 w9 => by cases w9.1) (fun r9 h9 w9 => ?_)
    obtain ⟨w1, w2⟩ := w9
    subst h9
    cases w1
    show jJ G X _ 0 0 _ _ (.int v22 :: _)
    refine jr_if_ne K (D_at DX12_goesOne_q1 2 rfl) (tgt := 31) (by decide) (fun c25 => ?_) (fun c25 => ?_)
    · replace hf := (if_neg c25).symm.trans hf
      refine jr_aload_n K (D_at DX12_goesOne_q1 4 rfl) rfl rfl ?_
      obtain ⟨p32, e32, hf⟩ := jbind hf
      refine jr_getR K (D_at DX12_goesOne_q1 5 rfl) fg_X12_13_10 e32 ?_
      refine jr_iload K (D_at DX12_goesOne_q1 6 rfl) rfl ?_
      refine jr_iconst K (D_at DX12_goesOne_q1 7 rfl) (v := (0 : Int32)) (by decide) ?_
      obtain ⟨v38, e38, hf⟩ := jbind hf
      refine jr_callS K (C_X12_at (d + 5) e38) (D_at DX12_goesOne_q1 8 rfl) cs_X12_63_X12_at (As := [.int x4, .int (0 : Int32)]) rfl rfl (by exact Nat.le_of_ble_eq_true rfl) (kc2 := 0) (ks2 := 0) rfl rfl (fun k9 h9 w9 => by cases w9.1) (fun r9 h9 w9 => ?_)
      obtain ⟨w1, w2⟩ := w9
      subst h9
      cases w1
      show jJ G X _ 0 0 _ _ (.int v38 :: _)
      refine jr_dup2 K (D_at DX12_goesOne_q1 9 rfl) rfl rfl ?_
      obtain ⟨v42, e42, hf⟩ := jbind hf
      refine jr_iald K (D_at DX12_goesOne_q1 10 rfl) e42 ?_
      refine jr_iload_n K (D_at DX12_goesOne_q1 11 rfl) rfl rfl ?_
      refine jr_if_eq K (D_at DX12_goesOne_q2 0 rfl) (tgt := 51) (by decide) (fun c44 => ?_) (fun c44 => ?_)
      · replace hf := (if_pos c44).symm.trans hf
        refine jr_iconst K (D_at DX12_goesOne_q2 3 rfl) (v := (-1 : Int32)) (by decide) ?_
        refine jr_keep [true, false, true, true, true] ?_
        exact J_X12_goesOne_52 K n rc10 hr10 E a0 x2 x3 x4 p32 v38 v42 (-1 : Int32) h hf
      · replace hf := (if_neg c44).symm.trans hf
        refine jr_iconst K (D_at DX12_goesOne_q2 1 rfl) (v := (1 : Int32)) (by decide) ?_
        refine jr_goto K (D_at DX12_goesOne_q2 2 rfl) (tgt := 52) (by decide) ?_
        refine jr_keep [true, false, true, true, true] ?_
        exact J_X12_goesOne_52 K n rc10 hr10 E a0 x2 x3 x4 p32 v38 v42 (1 : Int32) h hf
    · replace hf := (if_pos c25).symm.trans hf
      refine jr_goto K (D_at DX12_goesOne_q1 3 rfl) (tgt := 78) (by decide) ?_
      refine jr_iinc K (D_at DX12_goesOne_q3 7 rfl) (i := 4) rfl (v := x4 + (1 : Int32)) (jinc (by decide)) (by decide) (L2 := [_, _, _, _, _]) rfl ?_
      refine jr_goto K (D_at DX12_goesOne_q3 8 rfl) (tgt := 10) (by decide) ?_
      refine jr_keep [true, false, true, true, true] ?_
      exact hr10 a0 x2 x3 (x4 + (1 : Int32)) h hf
theorem J_X12_goesOne_10 {G : jG} {l : Launch} {d : Nat} {X : jX} {res : (Int32 × jH)} (K : jOK G l mX12_goesOne (d + 6) X) (n : Nat) (E : jEnd G mX12_goesOne (jPW res) X) (k : Nat) : ∀ (a0 : Nat) (x2 : Int32) (x3 : Int32) (x4 : Int32) (h : jH), F_X12_goesOne_10 n k a0 x2 x3 x4 h = some res → jJ G X h 0 0 10 [some (.ref a0), none, some (.int x2), some (.int x3), some (.int x4)] [] := by
  induction k with
  | zero =>
    intro a0 x2 x3 x4 h hf
    exact jno (show (none : Option (Int32 × jH)) = some res from hf)
  | succ k ih =>
    intro a0 x2 x3 x4 h hf
    exact J_X12_goesOne_10_b K n (F_X12_goesOne_10 n k) ih E a0 x2 x3 x4 h hf
set_option maxHeartbeats 400000 in
set_option maxRecDepth 100000 in
theorem J_X12_goesOne {G : jG} {l : Launch} {d : Nat} {X : jX} {res : (Int32 × jH)} (K : jOK G l mX12_goesOne (d + 6) X) (n : Nat) (E : jEnd G mX12_goesOne (jPW res) X) (a0 : Nat) (x1 : Int32) (x2 : Int32) (h : jH) (hf : F_X12_goesOne n a0 x1 x2 h = some res) : jJ G X h 0 0 0 [some (.ref a0), some (.int x1), some (.int x2), none, none] [] := by
  unfold F_X12_goesOne at hf
  refine jr_aload_n K (D_at DX12_goesOne_q0 0 rfl) rfl rfl ?_
  refine jr_iload_n K (D_at DX12_goesOne_q0 1 rfl) rfl rfl ?_
  refine jr_iload_n K (D_at DX12_goesOne_q0 2 rfl) rfl rfl ?_
  obtain ⟨v3, e3, hf⟩ := jbind hf
  obtain ⟨rc_3, e3⟩ := jcv_o e3
  refine jr_callV K (C_X12_goingBy (d) e3) (D_at DX12_goesOne_q0 3 rfl) cv_X12_307_X12_goingBy (As := [.int x1, .int x2]) (ci := 10) rfl rc_3 rfl rfl (by exact Nat.le_of_ble_eq_true rfl) (kc2 := 0) (ks2 := 0) rfl rfl (fun k9 h9 w9 => by cases w9.1) (fun r9 h9 w9 => ?_)
  obtain ⟨w1, w2⟩ := w9
  subst h9
  cases w1
  show jJ G X _ 0 0 _ _ (.int v3 :: _)
  refine jr_istore_n K (D_at DX12_goesOne_q0 4 rfl) (i := 3) rfl (by decide) (L2 := [_, _, _, _, _]) rfl ?_
  refine jr_iconst K (D_at DX12_goesOne_q0 5 rfl) (v := (0 : Int32)) (by decide) ?_
  refine jr_istore K (D_at DX12_goesOne_q0 6 rfl) (i := 4) (by decide) (L2 := [_, _, _, _, _]) rfl ?_
  refine jr_keep [true, false, true, true, true] ?_
  exact J_X12_goesOne_10 K n E n a0 x2 v3 (0 : Int32) h hf
theorem C_X12_goesOne {G : jG} {l : Launch} (d : Nat) {n : Nat} {a0 : Nat} {x1 : Int32} {x2 : Int32} {h : jH} {res : (Int32 × jH)} (hf : F_X12_goesOne n a0 x1 x2 h = some res) : jC G l mX12_goesOne (d + 6) 0 0 [.ref a0, .int x1, .int x2] h (jPW res) :=
  jC.of pn_X12 (jcats rfl) (Nat.le_of_ble_eq_true rfl) (fun X K E => J_X12_goesOne K n E a0 x1 x2 h hf)
set_option maxHeartbeats 400000 in
set_option maxRecDepth 100000 in
theorem J_X12_pulls_29 {G : jG} {l : Launch} {d : Nat} {X : jX} {res : (Int32 × jH)} (K : jOK G l mX12_pulls (d + 7) X) (n : Nat) (E : jEnd G mX12_pulls (jPW res) X) (a0 : Nat) (x4 : Int32) (h : jH) (hf : F_X12_pulls_29 n a0 x4 h = some res) : jJ G X h 0 0 29 [some (.ref a0), none, none, none, some (.int x4)] [] := by
  unfold F_X12_pulls_29 at hf
  refine jr_aload_n K (D_at DX12_pulls_q1 3 rfl) rfl rfl ?_
  obtain ⟨p30, e30, hf⟩ := jbind hf
  refine jr_getR K (D_at DX12_pulls_q1 4 rfl) fg_X12_13_10 e30 ?_
  refine jr_bipush K (D_at DX12_pulls_q1 5 rfl) (v := (8 : Int32)) (by decide) ?_
  refine jr_sipush K (D_at DX12_pulls_q1 6 rfl) (v := (9999 : Int32)) (by decide) ?_
  refine jr_aload_n K (D_at DX12_pulls_q1 7 rfl) rfl rfl ?_
  obtain ⟨p39, e39, hf⟩ := jbind hf
  refine jr_getR K (D_at DX12_pulls_q1 8 rfl) fg_X12_13_10 e39 ?_
  refine jr_bipush K (D_at DX12_pulls_q1 9 rfl) (v := (8 : Int32)) (by decide) ?_
  obtain ⟨v44, e44, hf⟩ := jbind hf
  refine jr_iald K (D_at DX12_pulls_q1 10 rfl) e44 ?_
  refine jr_aload_n K (D_at DX12_pulls_q1 11 rfl) rfl rfl ?_
  obtain ⟨v46, e46, hf⟩ := jbind hf
  refine jr_getI K (D_at DX12_pulls_q2 0 rfl) fg_X12_310_10 e46 ?_
  refine jr_iadd K (D_at DX12_pulls_q2 1 rfl) ?_
  refine jr_min K (D_at DX12_pulls_q2 2 rfl) mm_X12_119 (by exact Nat.le_of_ble_eq_true rfl) ?_
  obtain ⟨h53, e53, hf⟩ := jbind hf
  refine jr_iast K (D_at DX12_pulls_q2 3 rfl) e53 ?_
  refine jr_iload K (D_at DX12_pulls_q2 4 rfl) rfl ?_
  cases hf
  exact jr_iret K E (D_at DX12_pulls_q2 5 rfl) rfl ⟨rfl, rfl⟩
set_option maxHeartbeats 400000 in
set_option maxRecDepth 100000 in
theorem J_X12_pulls_8_b {G : jG} {l : Launch} {d : Nat} {X : jX} {res : (Int32 × jH)} (K : jOK G l mX12_pulls (d + 7) X) (n : Nat) (rc8 : Nat → Int32 → Int32 → Int32 → Int32 → jH → Option (Int32 × jH)) (hr8 : ∀ (a0 : Nat) (x1 : Int32) (x2 : Int32) (x3 : Int32) (x4 : Int32) (h : jH), rc8 a0 x1 x2 x3 x4 h = some res → jJ G X h 0 0 8 [some (.ref a0), some (.int x1), some (.int x2), some (.int x3), some (.int x4)] []) (E : jEnd G mX12_pulls (jPW res) X) (a0 : Nat) (x1 : Int32) (x2 : Int32) (x3 : Int32) (x4 : Int32) (h : jH) (hf : F_X12_pulls_8_b n rc8 a0 x1 x2 x3 x4 h = some res) : jJ G X h 0 0 8 [some (.ref a0), some (.int x1), some (.int x2), some (.int x3), some (.int x4)] [] := by
  unfold F_X12_pulls_8_b at hf
  refine jr_iload K (D_at DX12_pulls_q0 5 rfl) rfl ?_
  refine jr_iload_n K (D_at DX12_pulls_q0 6 rfl) rfl rfl ?_
  refine jr_icmp_ge K (D_at DX12_pulls_q0 7 rfl) (tgt := 29) (by decide) (fun c11 => ?_) (fun c11 => ?_)
  · replace hf := (if_pos c11).symm.trans hf
    refine jr_keep [true, false, false, false, true] ?_
    exact J_X12_pulls_29 K n E a0 x4 h hf
  · replace hf := (if_neg c11).symm.trans hf
    refine jr_aload_n K (D_at DX12_pulls_q0 8 rfl) rfl rfl ?_
    refine jr_iload_n K (D_at DX12_pulls_q0 9 rfl) rfl rfl ?_
    refine jr_iload_n K (D_at DX12_pulls_q0 10 rfl) rfl rfl ?_
    obtain ⟨q17, e17, hf⟩ := jbind hf
    obtain ⟨rc_17, e17⟩ := jcv_o e17
    refine jr_callV K (C_X12_goesOne (d) e17) (D_at DX12_pulls_q0 11 rfl) cv_X12_313_X12_goesOne (As := [.int x1, .int x2]) (ci := 10) rfl rc_17 rfl rfl (by exact Nat.le_of_ble_eq_true rfl) (kc2 := 0) (ks2 := 0) rfl rfl (fun k9 h9 w9 => by cases w9.1) (fun r9 h9 w9 => ?_)
    obtain ⟨w1, w2⟩ := w9
    subst h9
    cases w1
    show jJ G X _ 0 0 _ _ (.int q17.1 :: _)
    refine jr_if_eq K (D_at DX12_pulls_q1 0 rfl) (tgt := 29) (by decide) (fun c20 => ?_) (fun c20 => ?_)
    · replace hf := (if_pos c20).symm.trans hf
      refine jr_keep [true, false, false, false, true] ?_
      exact J_X12_pulls_29 K n E a0 x4 q17.2 hf
    · replace hf := (if_neg c20).symm.trans hf
      refine jr_iinc K (D_at DX12_pulls_q1 1 rfl) (i := 4) rfl (v := x4 + (1 : Int32)) (jinc (by decide)) (by decide) (L2 := [_, _, _, _, _]) rfl ?_
      refine jr_goto K (D_at DX12_pulls_q1 2 rfl) (tgt := 8) (by decide) ?_
      refine jr_keep [true, true, true, true, true] ?_
      exact hr8 a0 x1 x2 x3 (x4 + (1 : Int32)) q17.2 hf
theorem J_X12_pulls_8 {G : jG} {l : Launch} {d : Nat} {X : jX} {res : (Int32 × jH)} (K : jOK G l mX12_pulls (d + 7) X) (n : Nat) (E : jEnd G mX12_pulls (jPW res) X) (k : Nat) : ∀ (a0 : Nat) (x1 : Int32) (x2 : Int32) (x3 : Int32) (x4 : Int32) (h : jH), F_X12_pulls_8 n k a0 x1 x2 x3 x4 h = some res → jJ G X h 0 0 8 [some (.ref a0), some (.int x1), some (.int x2), some (.int x3), some (.int x4)] [] := by
  induction k with
  | zero =>
    intro a0 x1 x2 x3 x4 h hf
    exact jno (show (none : Option (Int32 × jH)) = some res from hf)
  | succ k ih =>
    intro a0 x1 x2 x3 x4 h hf
    exact J_X12_pulls_8_b K n (F_X12_pulls_8 n k) ih E a0 x1 x2 x3 x4 h hf
set_option maxHeartbeats 400000 in
set_option maxRecDepth 100000 in
theorem J_X12_pulls {G : jG} {l : Launch} {d : Nat} {X : jX} {res : (Int32 × jH)} (K : jOK G l mX12_pulls (d + 7) X) (n : Nat) (E : jEnd G mX12_pulls (jPW res) X) (a0 : Nat) (x1 : Int32) (x2 : Int32) (x3 : Int32) (h : jH) (hf : F_X12_pulls n a0 x1 x2 x3 h = some res) : jJ G X h 0 0 0 [some (.ref a0), some (.int x1), some (.int x2), some (.int x3), none] [] := by
  unfold F_X12_pulls at hf
  refine jr_aload_n K (D_at DX12_pulls_q0 0 rfl) rfl rfl ?_
  refine jr_iconst K (D_at DX12_pulls_q0 1 rfl) (v := (0 : Int32)) (by decide) ?_
  obtain ⟨h2, e2, hf⟩ := jbind hf
  refine jr_putI K (D_at DX12_pulls_q0 2 rfl) fp_X12_310_10 (Or.inl rfl) e2 ?_
  refine jr_iconst K (D_at DX12_pulls_q0 3 rfl) (v := (0 : Int32)) (by decide) ?_
  refine jr_istore K (D_at DX12_pulls_q0 4 rfl) (i := 4) (by decide) (L2 := [_, _, _, _, _]) rfl ?_
  refine jr_keep [true, true, true, true, true] ?_
  exact J_X12_pulls_8 K n E n a0 x1 x2 x3 (0 : Int32) h2 hf
theorem C_X12_pulls {G : jG} {l : Launch} (d : Nat) {n : Nat} {a0 : Nat} {x1 : Int32} {x2 : Int32} {x3 : Int32} {h : jH} {res : (Int32 × jH)} (hf : F_X12_pulls n a0 x1 x2 x3 h = some res) : jC G l mX12_pulls (d + 7) 0 0 [.ref a0, .int x1, .int x2, .int x3] h (jPW res) :=
  jC.of pn_X12 (jcats rfl) (Nat.le_of_ble_eq_true rfl) (fun X K E => J_X12_pulls K n E a0 x1 x2 x3 h hf)
set_option maxHeartbeats 400000 in
set_option maxRecDepth 100000 in
theorem J_X12_tells_5_b {G : jG} {l : Launch} {d : Nat} {X : jX} {res : jH} (K : jOK G l mX12_tells (d + 2) X) (n : Nat) (rc5 : Nat → Int32 → Int32 → Int32 → Int32 → jH → Option jH) (hr5 : ∀ (a0 : Nat) (x1 : Int32) (x2 : Int32) (x3 : Int32) (x4 : Int32) (h : jH), rc5 a0 x1 x2 x3 x4 h = some res → jJ G X h 0 0 5 [some (.ref a0), some (.int x1), some (.int x2), some (.int x3), some (.int x4)] []) (E : jEnd G mX12_tells (jPV res) X) (a0 : Nat) (x1 : Int32) (x2 : Int32) (x3 : Int32) (x4 : Int32) (h : jH) (hf : F_X12_tells_5_b n rc5 a0 x1 x2 x3 x4 h = some res) : jJ G X h 0 0 5 [some (.ref a0), some (.int x1), some (.int x2), some (.int x3), some (.int x4)] [] := by
  unfold F_X12_tells_5_b at hf
  refine jr_iload K (D_at DX12_tells_q0 2 rfl) rfl ?_
  refine jr_bipush K (D_at DX12_tells_q0 3 rfl) (v := (6 : Int32)) (by decide) ?_
  refine jr_icmp_lt K (D_at DX12_tells_q0 4 rfl) (tgt := 41) (by decide) (fun c9 => ?_) (fun c9 => ?_)
  · replace hf := (if_pos c9).symm.trans hf
    refine jr_aload_n K (D_at DX12_tells_q1 9 rfl) rfl rfl ?_
    obtain ⟨p42, e42, hf⟩ := jbind hf
    refine jr_getR K (D_at DX12_tells_q1 10 rfl) fg_X12_13_10 e42 ?_
    refine jr_bipush K (D_at DX12_tells_q1 11 rfl) (v := (75 : Int32)) (by decide) ?_
    refine jr_aload_n K (D_at DX12_tells_q2 0 rfl) rfl rfl ?_
    obtain ⟨p48, e48, hf⟩ := jbind hf
    refine jr_getR K (D_at DX12_tells_q2 1 rfl) fg_X12_13_10 e48 ?_
    refine jr_iconst K (D_at DX12_tells_q2 2 rfl) (v := (4 : Int32)) (by decide) ?_
    obtain ⟨v52, e52, hf⟩ := jbind hf
    refine jr_iald K (D_at DX12_tells_q2 3 rfl) e52 ?_
    obtain ⟨h53, e53, hf⟩ := jbind hf
    refine jr_iast K (D_at DX12_tells_q2 4 rfl) e53 ?_
    refine jr_aload_n K (D_at DX12_tells_q2 5 rfl) rfl rfl ?_
    obtain ⟨p55, e55, hf⟩ := jbind hf
    refine jr_getR K (D_at DX12_tells_q2 6 rfl) fg_X12_13_10 e55 ?_
    refine jr_bipush K (D_at DX12_tells_q2 7 rfl) (v := (76 : Int32)) (by decide) ?_
    refine jr_aload_n K (D_at DX12_tells_q2 8 rfl) rfl rfl ?_
    obtain ⟨p61, e61, hf⟩ := jbind hf
    refine jr_getR K (D_at DX12_tells_q2 9 rfl) fg_X12_13_10 e61 ?_
    refine jr_iconst K (D_at DX12_tells_q2 10 rfl) (v := (3 : Int32)) (by decide) ?_
    obtain ⟨v65, e65, hf⟩ := jbind hf
    refine jr_iald K (D_at DX12_tells_q2 11 rfl) e65 ?_
    obtain ⟨h66, e66, hf⟩ := jbind hf
    refine jr_iast K (D_at DX12_tells_q3 0 rfl) e66 ?_
    refine jr_aload_n K (D_at DX12_tells_q3 1 rfl) rfl rfl ?_
    obtain ⟨p68, e68, hf⟩ := jbind hf
    refine jr_getR K (D_at DX12_tells_q3 2 rfl) fg_X12_13_10 e68 ?_
    refine jr_bipush K (D_at DX12_tells_q3 3 rfl) (v := (77 : Int32)) (by decide) ?_
    refine jr_iload_n K (D_at DX12_tells_q3 4 rfl) rfl rfl ?_
    obtain ⟨h74, e74, hf⟩ := jbind hf
    refine jr_iast K (D_at DX12_tells_q3 5 rfl) e74 ?_
    refine jr_aload_n K (D_at DX12_tells_q3 6 rfl) rfl rfl ?_
    obtain ⟨p76, e76, hf⟩ := jbind hf
    refine jr_getR K (D_at DX12_tells_q3 7 rfl) fg_X12_13_10 e76 ?_
    refine jr_bipush K (D_at DX12_tells_q3 8 rfl) (v := (78 : Int32)) (by decide) ?_
    refine jr_iload_n K (D_at DX12_tells_q3 9 rfl) rfl rfl ?_
    obtain ⟨h82, e82, hf⟩ := jbind hf
    refine jr_iast K (D_at DX12_tells_q3 10 rfl) e82 ?_
    refine jr_aload_n K (D_at DX12_tells_q3 11 rfl) rfl rfl ?_
    obtain ⟨p84, e84, hf⟩ := jbind hf
    refine jr_getR K (D_at DX12_tells_q4 0 rfl) fg_X12_13_10 e84 ?_
    refine jr_bipush K (D_at DX12_tells_q4 1 rfl) (v := (79 : Int32)) (by decide) ?_
    refine jr_iload_n K (D_at DX12_tells_q4 2 rfl) rfl rfl ?_
    obtain ⟨h90, e90, hf⟩ := jbind hf
    refine jr_iast K (D_at DX12_tells_q4 3 rfl) e90 ?_
    refine jr_aload_n K (D_at DX12_tells_q4 4 rfl) rfl rfl ?_
    obtain ⟨p92, e92, hf⟩ := jbind hf
    refine jr_getR K (D_at DX12_tells_q4 5 rfl) fg_X12_13_10 e92 ?_
    refine jr_bipush K (D_at DX12_tells_q4 6 rfl) (v := (80 : Int32)) (by decide) ?_
    refine jr_aload_n K (D_at DX12_tells_q4 7 rfl) rfl rfl ?_
    refine jr_iload_n K (D_at DX12_tells_q4 8 rfl) rfl rfl ?_
    refine jr_iconst K (D_at DX12_tells_q4 9 rfl) (v := (0 : Int32)) (by decide) ?_
    obtain ⟨v100, e100, hf⟩ := jbind hf
    obtain ⟨rc_100, e100⟩ := jcv_o e100
    refine jr_callV K (C_X12_of (d) e100) (D_at DX12_tells_q4 10 rfl) cv_X12_67_X12_of (As := [.int x1, .int (0 : Int32)]) (ci := 10) rfl rc_100 rfl rfl (by exact Nat.le_of_ble_eq_true rfl) (kc2 := 0) (ks2 := 0) rfl rfl (fun k9 h9 w9 => by cases w9.1) (fun r9 h9 w9 => ?_)
    obtain ⟨w1, w2⟩ := w9
    subst h9
    cases w1
    show jJ G X _ 0 0 _ _ (.int v100 :: _)
    obtain ⟨h103, e103, hf⟩ := jbind hf
    refine jr_iast K (D_at DX12_tells_q4 11 rfl) e103 ?_
    refine jr_aload_n K (D_at DX12_tells_q5 0 rfl) rfl rfl ?_
    obtain ⟨p105, e105, hf⟩ := jbind hf
    refine jr_getR K (D_at DX12_tells_q5 1 rfl) fg_X12_13_10 e105 ?_
    refine jr_bipush K (D_at DX12_tells_q5 2 rfl) (v := (9 : Int32)) (by decide) ?_
    refine jr_bipush K (D_at DX12_tells_q5 3 rfl) (v := (60 : Int32)) (by decide) ?_
    refine jr_aload_n K (D_at DX12_tells_1_q0 0 rfl) rfl rfl ?_
    obtain ⟨p113, e113, hf⟩ := jbind hf
    refine jr_getR K (D_at DX12_tells_1_q0 1 rfl) fg_X12_13_10 e113 ?_
    refine jr_bipush K (D_at DX12_tells_1_q0 2 rfl) (v := (9 : Int32)) (by decide) ?_
    obtain ⟨v118, e118, hf⟩ := jbind hf
    refine jr_iald K (D_at DX12_tells_1_q0 3 rfl) e118 ?_
    refine jr_iconst K (D_at DX12_tells_1_q0 4 rfl) (v := (1 : Int32)) (by decide) ?_
    refine jr_iadd K (D_at DX12_tells_1_q0 5 rfl) ?_
    refine jr_min K (D_at DX12_tells_1_q0 6 rfl) mm_X12_119 (by exact Nat.le_of_ble_eq_true rfl) ?_
    obtain ⟨h124, e124, hf⟩ := jbind hf
    refine jr_iast K (D_at DX12_tells_1_q0 7 rfl) e124 ?_
    cases hf
    exact jr_vret K E (D_at DX12_tells_1_q0 8 rfl) rfl ⟨rfl, rfl⟩
  · replace hf := (if_neg c9).symm.trans hf
    refine jr_aload_n K (D_at DX12_tells_q0 5 rfl) rfl rfl ?_
    obtain ⟨p13, e13, hf⟩ := jbind hf
    refine jr_getR K (D_at DX12_tells_q0 6 rfl) fg_X12_13_10 e13 ?_
    refine jr_bipush K (D_at DX12_tells_q0 7 rfl) (v := (75 : Int32)) (by decide) ?_
    refine jr_iload K (D_at DX12_tells_q0 8 rfl) rfl ?_
    refine jr_iadd K (D_at DX12_tells_q0 9 rfl) ?_
    refine jr_aload_n K (D_at DX12_tells_q0 10 rfl) rfl rfl ?_
    obtain ⟨p22, e22, hf⟩ := jbind hf
    refine jr_getR K (D_at DX12_tells_q0 11 rfl) fg_X12_13_10 e22 ?_
    refine jr_bipush K (D_at DX12_tells_q1 0 rfl) (v := (75 : Int32)) (by decide) ?_
    refine jr_iload K (D_at DX12_tells_q1 1 rfl) rfl ?_
    refine jr_iadd K (D_at DX12_tells_q1 2 rfl) ?_
    refine jr_bipush K (D_at DX12_tells_q1 3 rfl) (v := (6 : Int32)) (by decide) ?_
    refine jr_isub K (D_at DX12_tells_q1 4 rfl) ?_
    obtain ⟨v33, e33, hf⟩ := jbind hf
    refine jr_iald K (D_at DX12_tells_q1 5 rfl) e33 ?_
    obtain ⟨h34, e34, hf⟩ := jbind hf
    refine jr_iast K (D_at DX12_tells_q1 6 rfl) e34 ?_
    refine jr_iinc K (D_at DX12_tells_q1 7 rfl) (i := 4) rfl (v := x4 + (-1 : Int32)) (jinc (by decide)) (by decide) (L2 := [_, _, _, _, _]) rfl ?_
    refine jr_goto K (D_at DX12_tells_q1 8 rfl) (tgt := 5) (by decide) ?_
    refine jr_keep [true, true, true, true, true] ?_
    exact hr5 a0 x1 x2 x3 (x4 + (-1 : Int32)) h34 hf
theorem J_X12_tells_5 {G : jG} {l : Launch} {d : Nat} {X : jX} {res : jH} (K : jOK G l mX12_tells (d + 2) X) (n : Nat) (E : jEnd G mX12_tells (jPV res) X) (k : Nat) : ∀ (a0 : Nat) (x1 : Int32) (x2 : Int32) (x3 : Int32) (x4 : Int32) (h : jH), F_X12_tells_5 n k a0 x1 x2 x3 x4 h = some res → jJ G X h 0 0 5 [some (.ref a0), some (.int x1), some (.int x2), some (.int x3), some (.int x4)] [] := by
  induction k with
  | zero =>
    intro a0 x1 x2 x3 x4 h hf
    exact jno (show (none : Option jH) = some res from hf)
  | succ k ih =>
    intro a0 x1 x2 x3 x4 h hf
    exact J_X12_tells_5_b K n (F_X12_tells_5 n k) ih E a0 x1 x2 x3 x4 h hf
set_option maxHeartbeats 400000 in
set_option maxRecDepth 100000 in
theorem J_X12_tells {G : jG} {l : Launch} {d : Nat} {X : jX} {res : jH} (K : jOK G l mX12_tells (d + 2) X) (n : Nat) (E : jEnd G mX12_tells (jPV res) X) (a0 : Nat) (x1 : Int32) (x2 : Int32) (x3 : Int32) (h : jH) (hf : F_X12_tells n a0 x1 x2 x3 h = some res) : jJ G X h 0 0 0 [some (.ref a0), some (.int x1), some (.int x2), some (.int x3), none] [] := by
  unfold F_X12_tells at hf
  refine jr_sipush K (D_at DX12_tells_q0 0 rfl) (v := (359 : Int32)) (by decide) ?_
  refine jr_istore K (D_at DX12_tells_q0 1 rfl) (i := 4) (by decide) (L2 := [_, _, _, _, _]) rfl ?_
  refine jr_keep [true, true, true, true, true] ?_
  exact J_X12_tells_5 K n E n a0 x1 x2 x3 (359 : Int32) h hf
theorem C_X12_tells {G : jG} {l : Launch} (d : Nat) {n : Nat} {a0 : Nat} {x1 : Int32} {x2 : Int32} {x3 : Int32} {h : jH} {res : jH} (hf : F_X12_tells n a0 x1 x2 x3 h = some res) : jC G l mX12_tells (d + 2) 0 0 [.ref a0, .int x1, .int x2, .int x3] h (jPV res) :=
  jC.of pn_X12 (jcats rfl) (Nat.le_of_ble_eq_true rfl) (fun X K E => J_X12_tells K n E a0 x1 x2 x3 h hf)
set_option maxHeartbeats 400000 in
set_option maxRecDepth 100000 in
theorem J_X12_pull {G : jG} {l : Launch} {d : Nat} {X : jX} {res : (Int32 × jH)} (K : jOK G l mX12_pull (d + 8) X) (n : Nat) (E : jEnd G mX12_pull (jPW res) X) (a0 : Nat) (x1 : Int32) (x2 : Int32) (x3 : Int32) (h : jH) (hf : F_X12_pull n a0 x1 x2 x3 h = some res) : jJ G X h 0 0 0 [some (.ref a0), some (.int x1), some (.int x2), some (.int x3), none] [] := by
  unfold F_X12_pull at hf
  refine jr_aload_n K (D_at DX12_pull_q0 0 rfl) rfl rfl ?_
  refine jr_iconst K (D_at DX12_pull_q0 1 rfl) (v := (0 : Int32)) (by decide) ?_
  obtain ⟨h2, e2, hf⟩ := jbind hf
  refine jr_putI K (D_at DX12_pull_q0 2 rfl) fp_X12_3_10 (Or.inl rfl) e2 ?_
  refine jr_aload_n K (D_at DX12_pull_q0 3 rfl) rfl rfl ?_
  refine jr_aload_n K (D_at DX12_pull_q0 4 rfl) rfl rfl ?_
  refine jr_iload_n K (D_at DX12_pull_q0 5 rfl) rfl rfl ?_
  obtain ⟨v8, e8, hf⟩ := jbind hf
  obtain ⟨rc_8, e8⟩ := jcv_o e8
  refine jr_callV K (C_X12_noRing (d + 5) e8) (D_at DX12_pull_q0 6 rfl) cv_X12_277_X12_noRing (As := [.int x1]) (ci := 10) rfl rc_8 rfl rfl (by exact Nat.le_of_ble_eq_true rfl) (kc2 := 0) (ks2 := 0) rfl rfl (fun k9 h9 w9 => by cases w9.1) (fun r9 h9 w9 => ?_)
  obtain ⟨w1, w2⟩ := w9
  subst h9
  cases w1
  show jJ G X _ 0 0 _ _ (.int v8 :: _)
  refine jr_iconst K (D_at DX12_pull_q0 7 rfl) (v := (1 : Int32)) (by decide) ?_
  obtain ⟨q12, e12, hf⟩ := jbind hf
  obtain ⟨rc_12, e12⟩ := jcv_o e12
  refine jr_callV K (C_X12_throwsIf (d + 7) e12) (D_at DX12_pull_q0 8 rfl) cv_X12_250_X12_throwsIf (As := [.int v8, .int (1 : Int32)]) (ci := 10) rfl rc_12 rfl rfl (by exact Nat.le_of_ble_eq_true rfl) (kc2 := 0) (ks2 := 0) rfl rfl (fun k9 h9 w9 => by cases w9.1) (fun r9 h9 w9 => ?_)
  obtain ⟨w1, w2⟩ := w9
  subst h9
  cases w1
  show jJ G X _ 0 0 _ _ (.int q12.1 :: _)
  refine jr_if_ne K (D_at DX12_pull_q0 9 rfl) (tgt := 30) (by decide) (fun c15 => ?_) (fun c15 => ?_)
  · replace hf := (if_neg c15).symm.trans hf
    refine jr_iconst K (D_at DX12_pull_q1 4 rfl) (v := (0 : Int32)) (by decide) ?_
    cases hf
    exact jr_iret K E (D_at DX12_pull_q1 5 rfl) rfl ⟨rfl, rfl⟩
  · replace hf := (if_pos c15).symm.trans hf
    refine jr_aload_n K (D_at DX12_pull_q0 10 rfl) rfl rfl ?_
    refine jr_iload_n K (D_at DX12_pull_q0 11 rfl) rfl rfl ?_
    obtain ⟨v20, e20, hf⟩ := jbind hf
    refine jr_callS K (C_X12_noSteps (d + 6) e20) (D_at DX12_pull_q1 0 rfl) cs_X12_316_X12_noSteps (As := [.int x3]) rfl rfl (by exact Nat.le_of_ble_eq_true rfl) (kc2 := 0) (ks2 := 0) rfl rfl (fun k9 h9 w9 => by cases w9.1) (fun r9 h9 w9 => ?_)
    obtain ⟨w1, w2⟩ := w9
    subst h9
    cases w1
    show jJ G X _ 0 0 _ _ (.int v20 :: _)
    refine jr_iconst K (D_at DX12_pull_q1 1 rfl) (v := (2 : Int32)) (by decide) ?_
    obtain ⟨q24, e24, hf⟩ := jbind hf
    obtain ⟨rc_24, e24⟩ := jcv_o e24
    refine jr_callV K (C_X12_throwsIf (d + 7) e24) (D_at DX12_pull_q1 2 rfl) cv_X12_250_X12_throwsIf (As := [.int v20, .int (2 : Int32)]) (ci := 10) rfl rc_24 rfl rfl (by exact Nat.le_of_ble_eq_true rfl) (kc2 := 0) (ks2 := 0) rfl rfl (fun k9 h9 w9 => by cases w9.1) (fun r9 h9 w9 => ?_)
    obtain ⟨w1, w2⟩ := w9
    subst h9
    cases w1
    show jJ G X _ 0 0 _ _ (.int q24.1 :: _)
    refine jr_if_eq K (D_at DX12_pull_q1 3 rfl) (tgt := 32) (by decide) (fun c27 => ?_) (fun c27 => ?_)
    · replace hf := (if_pos c27).symm.trans hf
      refine jr_aload_n K (D_at DX12_pull_q1 6 rfl) rfl rfl ?_
      obtain ⟨h33, e33, hf⟩ := jbind hf
      obtain ⟨rc_33, e33⟩ := jcv_o e33
      refine jr_callV K (C_X12_remembers (d + 7) e33) (D_at DX12_pull_q1 7 rfl) cv_X12_319_X12_remembers (As := []) (ci := 10) rfl rc_33 rfl rfl (by exact Nat.le_of_ble_eq_true rfl) (kc2 := 0) (ks2 := 0) rfl rfl (fun k9 h9 w9 => by cases w9.1) (fun r9 h9 w9 => ?_)
      obtain ⟨w1, w2⟩ := w9
      subst h9
      cases w1
      show jJ G X _ 0 0 _ _ []
      refine jr_aload_n K (D_at DX12_pull_q1 8 rfl) rfl rfl ?_
      refine jr_iload_n K (D_at DX12_pull_q1 9 rfl) rfl rfl ?_
      refine jr_iload_n K (D_at DX12_pull_q1 10 rfl) rfl rfl ?_
      refine jr_iload_n K (D_at DX12_pull_q1 11 rfl) rfl rfl ?_
      obtain ⟨q40, e40, hf⟩ := jbind hf
      obtain ⟨rc_40, e40⟩ := jcv_o e40
      refine jr_callV K (C_X12_pulls (d) e40) (D_at DX12_pull_q2 0 rfl) cv_X12_322_X12_pulls (As := [.int x1, .int x2, .int x3]) (ci := 10) rfl rc_40 rfl rfl (by exact Nat.le_of_ble_eq_true rfl) (kc2 := 0) (ks2 := 0) rfl rfl (fun k9 h9 w9 => by cases w9.1) (fun r9 h9 w9 => ?_)
      obtain ⟨w1, w2⟩ := w9
      subst h9
      cases w1
      show jJ G X _ 0 0 _ _ (.int q40.1 :: _)
      refine jr_istore K (D_at DX12_pull_q2 1 rfl) (i := 4) (by decide) (L2 := [_, _, _, _, _]) rfl ?_
      refine jr_aload_n K (D_at DX12_pull_q2 2 rfl) rfl rfl ?_
      refine jr_iload_n K (D_at DX12_pull_q2 3 rfl) rfl rfl ?_
      refine jr_iconst K (D_at DX12_pull_q2 4 rfl) (v := (0 : Int32)) (by decide) ?_
      refine jr_iload K (D_at DX12_pull_q2 5 rfl) rfl ?_
      obtain ⟨h50, e50, hf⟩ := jbind hf
      obtain ⟨rc_50, e50⟩ := jcv_o e50
      refine jr_callV K (C_X12_tells (d + 5) e50) (D_at DX12_pull_q2 6 rfl) cv_X12_326_X12_tells (As := [.int x1, .int (0 : Int32), .int q40.1]) (ci := 10) rfl rc_50 rfl rfl (by exact Nat.le_of_ble_eq_true rfl) (kc2 := 0) (ks2 := 0) rfl rfl (fun k9 h9 w9 => by cases w9.1) (fun r9 h9 w9 => ?_)
      obtain ⟨w1, w2⟩ := w9
      subst h9
      cases w1
      show jJ G X _ 0 0 _ _ []
      refine jr_iload K (D_at DX12_pull_q2 7 rfl) rfl ?_
      cases hf
      exact jr_iret K E (D_at DX12_pull_q2 8 rfl) rfl ⟨rfl, rfl⟩
    · replace hf := (if_neg c27).symm.trans hf
      refine jr_iconst K (D_at DX12_pull_q1 4 rfl) (v := (0 : Int32)) (by decide) ?_
      cases hf
      exact jr_iret K E (D_at DX12_pull_q1 5 rfl) rfl ⟨rfl, rfl⟩
theorem C_X12_pull {G : jG} {l : Launch} (d : Nat) {n : Nat} {a0 : Nat} {x1 : Int32} {x2 : Int32} {x3 : Int32} {h : jH} {res : (Int32 × jH)} (hf : F_X12_pull n a0 x1 x2 x3 h = some res) : jC G l mX12_pull (d + 8) 0 0 [.ref a0, .int x1, .int x2, .int x3] h (jPW res) :=
  jC.of pn_X12 (jcats rfl) (Nat.le_of_ble_eq_true rfl) (fun X K E => J_X12_pull K n E a0 x1 x2 x3 h hf)
set_option maxHeartbeats 400000 in
set_option maxRecDepth 100000 in
theorem J_X12_free_34 {G : jG} {l : Launch} {d : Nat} {X : jX} {res : (Int32 × jH)} (K : jOK G l mX12_free (d + 3) X) (n : Nat) (E : jEnd G mX12_free (jPW res) X) (a0 : Nat) (x1 : Int32) (sa0 : Nat) (s1 : Int32) (h : jH) (hf : F_X12_free_34 n a0 x1 sa0 s1 h = some res) : jJ G X h 0 0 34 [some (.ref a0), some (.int x1)] [.int s1, .ref sa0] := by
  unfold F_X12_free_34 at hf
  refine jr_iconst K (D_at DX12_free_q1 7 rfl) (v := (2 : Int32)) (by decide) ?_
  obtain ⟨q35, e35, hf⟩ := jbind hf
  obtain ⟨rc_35, e35⟩ := jcv_o e35
  refine jr_callV K (C_X12_throwsIf (d + 2) e35) (D_at DX12_free_q1 8 rfl) cv_X12_250_X12_throwsIf (As := [.int s1, .int (2 : Int32)]) (ci := 10) rfl rc_35 rfl rfl (by exact Nat.le_of_ble_eq_true rfl) (kc2 := 0) (ks2 := 0) rfl rfl (fun k9 h9 w9 => by cases w9.1) (fun r9 h9 w9 => ?_)
  obtain ⟨w1, w2⟩ := w9
  subst h9
  cases w1
  show jJ G X _ 0 0 _ _ (.int q35.1 :: _)
  refine jr_if_eq K (D_at DX12_free_q1 9 rfl) (tgt := 43) (by decide) (fun c38 => ?_) (fun c38 => ?_)
  · replace hf := (if_pos c38).symm.trans hf
    refine jr_aload_n K (D_at DX12_free_q2 0 rfl) rfl rfl ?_
    obtain ⟨h44, e44, hf⟩ := jbind hf
    obtain ⟨rc_44, e44⟩ := jcv_o e44
    refine jr_callV K (C_X12_remembers (d + 2) e44) (D_at DX12_free_q2 1 rfl) cv_X12_319_X12_remembers (As := []) (ci := 10) rfl rc_44 rfl rfl (by exact Nat.le_of_ble_eq_true rfl) (kc2 := 0) (ks2 := 0) rfl rfl (fun k9 h9 w9 => by cases w9.1) (fun r9 h9 w9 => ?_)
    obtain ⟨w1, w2⟩ := w9
    subst h9
    cases w1
    show jJ G X _ 0 0 _ _ []
    refine jr_aload_n K (D_at DX12_free_q2 2 rfl) rfl rfl ?_
    obtain ⟨p48, e48, hf⟩ := jbind hf
    refine jr_getR K (D_at DX12_free_q2 3 rfl) fg_X12_13_10 e48 ?_
    refine jr_iload_n K (D_at DX12_free_q2 4 rfl) rfl rfl ?_
    refine jr_bipush K (D_at DX12_free_q2 5 rfl) (v := (7 : Int32)) (by decide) ?_
    obtain ⟨v54, e54, hf⟩ := jbind hf
    refine jr_callS K (C_X12_at (d + 2) e54) (D_at DX12_free_q2 6 rfl) cs_X12_63_X12_at (As := [.int x1, .int (7 : Int32)]) rfl rfl (by exact Nat.le_of_ble_eq_true rfl) (kc2 := 0) (ks2 := 0) rfl rfl (fun k9 h9 w9 => by cases w9.1) (fun r9 h9 w9 => ?_)
    obtain ⟨w1, w2⟩ := w9
    subst h9
    cases w1
    show jJ G X _ 0 0 _ _ (.int v54 :: _)
    refine jr_iconst K (D_at DX12_free_q2 7 rfl) (v := (0 : Int32)) (by decide) ?_
    obtain ⟨h58, e58, hf⟩ := jbind hf
    refine jr_iast K (D_at DX12_free_q2 8 rfl) e58 ?_
    refine jr_aload_n K (D_at DX12_free_q2 9 rfl) rfl rfl ?_
    refine jr_iload_n K (D_at DX12_free_q2 10 rfl) rfl rfl ?_
    obtain ⟨v61, e61, hf⟩ := jbind hf
    obtain ⟨rc_61, e61⟩ := jcv_o e61
    refine jr_callV K (C_X12_gapOf (d) e61) (D_at DX12_free_q2 11 rfl) cv_X12_253_X12_gapOf (As := [.int x1]) (ci := 10) rfl rc_61 rfl rfl (by exact Nat.le_of_ble_eq_true rfl) (kc2 := 0) (ks2 := 0) rfl rfl (fun k9 h9 w9 => by cases w9.1) (fun r9 h9 w9 => ?_)
    obtain ⟨w1, w2⟩ := w9
    subst h9
    cases w1
    show jJ G X _ 0 0 _ _ (.int v61 :: _)
    cases hf
    exact jr_iret K E (D_at DX12_free_q3 0 rfl) rfl ⟨rfl, rfl⟩
  · replace hf := (if_neg c38).symm.trans hf
    refine jr_iconst K (D_at DX12_free_q1 10 rfl) (v := (0 : Int32)) (by decide) ?_
    cases hf
    exact jr_iret K E (D_at DX12_free_q1 11 rfl) rfl ⟨rfl, rfl⟩
set_option maxHeartbeats 400000 in
set_option maxRecDepth 100000 in
theorem J_X12_free {G : jG} {l : Launch} {d : Nat} {X : jX} {res : (Int32 × jH)} (K : jOK G l mX12_free (d + 3) X) (n : Nat) (E : jEnd G mX12_free (jPW res) X) (a0 : Nat) (x1 : Int32) (h : jH) (hf : F_X12_free n a0 x1 h = some res) : jJ G X h 0 0 0 [some (.ref a0), some (.int x1)] [] := by
  unfold F_X12_free at hf
  refine jr_aload_n K (D_at DX12_free_q0 0 rfl) rfl rfl ?_
  refine jr_iconst K (D_at DX12_free_q0 1 rfl) (v := (0 : Int32)) (by decide) ?_
  obtain ⟨h2, e2, hf⟩ := jbind hf
  refine jr_putI K (D_at DX12_free_q0 2 rfl) fp_X12_3_10 (Or.inl rfl) e2 ?_
  refine jr_aload_n K (D_at DX12_free_q0 3 rfl) rfl rfl ?_
  refine jr_aload_n K (D_at DX12_free_q0 4 rfl) rfl rfl ?_
  refine jr_iload_n K (D_at DX12_free_q0 5 rfl) rfl rfl ?_
  obtain ⟨v8, e8, hf⟩ := jbind hf
  obtain ⟨rc_8, e8⟩ := jcv_o e8
  refine jr_callV K (C_X12_noRing (d) e8) (D_at DX12_free_q0 6 rfl) cv_X12_277_X12_noRing (As := [.int x1]) (ci := 10) rfl rc_8 rfl rfl (by exact Nat.le_of_ble_eq_true rfl) (kc2 := 0) (ks2 := 0) rfl rfl (fun k9 h9 w9 => by cases w9.1) (fun r9 h9 w9 => ?_)
  obtain ⟨w1, w2⟩ := w9
  subst h9
  cases w1
  show jJ G X _ 0 0 _ _ (.int v8 :: _)
  refine jr_iconst K (D_at DX12_free_q0 7 rfl) (v := (1 : Int32)) (by decide) ?_
  obtain ⟨q12, e12, hf⟩ := jbind hf
  obtain ⟨rc_12, e12⟩ := jcv_o e12
  refine jr_callV K (C_X12_throwsIf (d + 2) e12) (D_at DX12_free_q0 8 rfl) cv_X12_250_X12_throwsIf (As := [.int v8, .int (1 : Int32)]) (ci := 10) rfl rc_12 rfl rfl (by exact Nat.le_of_ble_eq_true rfl) (kc2 := 0) (ks2 := 0) rfl rfl (fun k9 h9 w9 => by cases w9.1) (fun r9 h9 w9 => ?_)
  obtain ⟨w1, w2⟩ := w9
  subst h9
  cases w1
  show jJ G X _ 0 0 _ _ (.int q12.1 :: _)
  refine jr_if_ne K (D_at DX12_free_q0 9 rfl) (tgt := 41) (by decide) (fun c15 => ?_) (fun c15 => ?_)
  · replace hf := (if_neg c15).symm.trans hf
    refine jr_iconst K (D_at DX12_free_q1 10 rfl) (v := (0 : Int32)) (by decide) ?_
    cases hf
    exact jr_iret K E (D_at DX12_free_q1 11 rfl) rfl ⟨rfl, rfl⟩
  · replace hf := (if_pos c15).symm.trans hf
    refine jr_aload_n K (D_at DX12_free_q0 10 rfl) rfl rfl ?_
    refine jr_aload_n K (D_at DX12_free_q0 11 rfl) rfl rfl ?_
    refine jr_iload_n K (D_at DX12_free_q1 0 rfl) rfl rfl ?_
    refine jr_bipush K (D_at DX12_free_q1 1 rfl) (v := (7 : Int32)) (by decide) ?_
    obtain ⟨v23, e23, hf⟩ := jbind hf
    obtain ⟨rc_23, e23⟩ := jcv_o e23
    refine jr_callV K (C_X12_is (d) e23) (D_at DX12_free_q1 2 rfl) cv_X12_73_X12_is (As := [.int x1, .int (7 : Int32)]) (ci := 10) rfl rc_23 rfl rfl (by exact Nat.le_of_ble_eq_true rfl) (kc2 := 0) (ks2 := 0) rfl rfl (fun k9 h9 w9 => by cases w9.1) (fun r9 h9 w9 => ?_)
    obtain ⟨w1, w2⟩ := w9
    subst h9
    cases w1
    show jJ G X _ 0 0 _ _ (.int v23 :: _)
    refine jr_if_ne K (D_at DX12_free_q1 3 rfl) (tgt := 33) (by decide) (fun c26 => ?_) (fun c26 => ?_)
    · replace hf := (if_neg c26).symm.trans hf
      refine jr_iconst K (D_at DX12_free_q1 6 rfl) (v := (0 : Int32)) (by decide) ?_
      refine jr_keep [true, true] ?_
      exact J_X12_free_34 K n E a0 x1 a0 (0 : Int32) q12.2 hf
    · replace hf := (if_pos c26).symm.trans hf
      refine jr_iconst K (D_at DX12_free_q1 4 rfl) (v := (1 : Int32)) (by decide) ?_
      refine jr_goto K (D_at DX12_free_q1 5 rfl) (tgt := 34) (by decide) ?_
      refine jr_keep [true, true] ?_
      exact J_X12_free_34 K n E a0 x1 a0 (1 : Int32) q12.2 hf
theorem C_X12_free {G : jG} {l : Launch} (d : Nat) {n : Nat} {a0 : Nat} {x1 : Int32} {h : jH} {res : (Int32 × jH)} (hf : F_X12_free n a0 x1 h = some res) : jC G l mX12_free (d + 3) 0 0 [.ref a0, .int x1] h (jPW res) :=
  jC.of pn_X12 (jcats rfl) (Nat.le_of_ble_eq_true rfl) (fun X K E => J_X12_free K n E a0 x1 h hf)
set_option maxHeartbeats 400000 in
set_option maxRecDepth 100000 in
theorem J_X12_snag_42 {G : jG} {l : Launch} {d : Nat} {X : jX} {res : (Int32 × jH)} (K : jOK G l mX12_snag (d + 3) X) (n : Nat) (E : jEnd G mX12_snag (jPW res) X) (a0 : Nat) (x1 : Int32) (sa0 : Nat) (s1 : Int32) (h : jH) (hf : F_X12_snag_42 n a0 x1 sa0 s1 h = some res) : jJ G X h 0 0 42 [some (.ref a0), some (.int x1)] [.int s1, .ref sa0] := by
  unfold F_X12_snag_42 at hf
  refine jr_iconst K (D_at DX12_snag_q1 11 rfl) (v := (2 : Int32)) (by decide) ?_
  obtain ⟨q43, e43, hf⟩ := jbind hf
  obtain ⟨rc_43, e43⟩ := jcv_o e43
  refine jr_callV K (C_X12_throwsIf (d + 2) e43) (D_at DX12_snag_q2 0 rfl) cv_X12_250_X12_throwsIf (As := [.int s1, .int (2 : Int32)]) (ci := 10) rfl rc_43 rfl rfl (by exact Nat.le_of_ble_eq_true rfl) (kc2 := 0) (ks2 := 0) rfl rfl (fun k9 h9 w9 => by cases w9.1) (fun r9 h9 w9 => ?_)
  obtain ⟨w1, w2⟩ := w9
  subst h9
  cases w1
  show jJ G X _ 0 0 _ _ (.int q43.1 :: _)
  refine jr_if_eq K (D_at DX12_snag_q2 1 rfl) (tgt := 51) (by decide) (fun c46 => ?_) (fun c46 => ?_)
  · replace hf := (if_pos c46).symm.trans hf
    refine jr_aload_n K (D_at DX12_snag_q2 4 rfl) rfl rfl ?_
    obtain ⟨h52, e52, hf⟩ := jbind hf
    obtain ⟨rc_52, e52⟩ := jcv_o e52
    refine jr_callV K (C_X12_remembers (d + 2) e52) (D_at DX12_snag_q2 5 rfl) cv_X12_319_X12_remembers (As := []) (ci := 10) rfl rc_52 rfl rfl (by exact Nat.le_of_ble_eq_true rfl) (kc2 := 0) (ks2 := 0) rfl rfl (fun k9 h9 w9 => by cases w9.1) (fun r9 h9 w9 => ?_)
    obtain ⟨w1, w2⟩ := w9
    subst h9
    cases w1
    show jJ G X _ 0 0 _ _ []
    refine jr_aload_n K (D_at DX12_snag_q2 6 rfl) rfl rfl ?_
    obtain ⟨p56, e56, hf⟩ := jbind hf
    refine jr_getR K (D_at DX12_snag_q2 7 rfl) fg_X12_13_10 e56 ?_
    refine jr_iload_n K (D_at DX12_snag_q2 8 rfl) rfl rfl ?_
    refine jr_bipush K (D_at DX12_snag_q2 9 rfl) (v := (7 : Int32)) (by decide) ?_
    obtain ⟨v62, e62, hf⟩ := jbind hf
    refine jr_callS K (C_X12_at (d + 2) e62) (D_at DX12_snag_q2 10 rfl) cs_X12_63_X12_at (As := [.int x1, .int (7 : Int32)]) rfl rfl (by exact Nat.le_of_ble_eq_true rfl) (kc2 := 0) (ks2 := 0) rfl rfl (fun k9 h9 w9 => by cases w9.1) (fun r9 h9 w9 => ?_)
    obtain ⟨w1, w2⟩ := w9
    subst h9
    cases w1
    show jJ G X _ 0 0 _ _ (.int v62 :: _)
    refine jr_iconst K (D_at DX12_snag_q2 11 rfl) (v := (1 : Int32)) (by decide) ?_
    obtain ⟨h66, e66, hf⟩ := jbind hf
    refine jr_iast K (D_at DX12_snag_q3 0 rfl) e66 ?_
    refine jr_aload_n K (D_at DX12_snag_q3 1 rfl) rfl rfl ?_
    refine jr_iload_n K (D_at DX12_snag_q3 2 rfl) rfl rfl ?_
    obtain ⟨v69, e69, hf⟩ := jbind hf
    obtain ⟨rc_69, e69⟩ := jcv_o e69
    refine jr_callV K (C_X12_gapOf (d) e69) (D_at DX12_snag_q3 3 rfl) cv_X12_253_X12_gapOf (As := [.int x1]) (ci := 10) rfl rc_69 rfl rfl (by exact Nat.le_of_ble_eq_true rfl) (kc2 := 0) (ks2 := 0) rfl rfl (fun k9 h9 w9 => by cases w9.1) (fun r9 h9 w9 => ?_)
    obtain ⟨w1, w2⟩ := w9
    subst h9
    cases w1
    show jJ G X _ 0 0 _ _ (.int v69 :: _)
    cases hf
    exact jr_iret K E (D_at DX12_snag_q3 4 rfl) rfl ⟨rfl, rfl⟩
  · replace hf := (if_neg c46).symm.trans hf
    refine jr_iconst K (D_at DX12_snag_q2 2 rfl) (v := (0 : Int32)) (by decide) ?_
    cases hf
    exact jr_iret K E (D_at DX12_snag_q2 3 rfl) rfl ⟨rfl, rfl⟩
set_option maxHeartbeats 400000 in
set_option maxRecDepth 100000 in
theorem J_X12_snag {G : jG} {l : Launch} {d : Nat} {X : jX} {res : (Int32 × jH)} (K : jOK G l mX12_snag (d + 3) X) (n : Nat) (E : jEnd G mX12_snag (jPW res) X) (a0 : Nat) (x1 : Int32) (h : jH) (hf : F_X12_snag n a0 x1 h = some res) : jJ G X h 0 0 0 [some (.ref a0), some (.int x1)] [] := by
  unfold F_X12_snag at hf
  refine jr_aload_n K (D_at DX12_snag_q0 0 rfl) rfl rfl ?_
  refine jr_iconst K (D_at DX12_snag_q0 1 rfl) (v := (0 : Int32)) (by decide) ?_
  obtain ⟨h2, e2, hf⟩ := jbind hf
  refine jr_putI K (D_at DX12_snag_q0 2 rfl) fp_X12_3_10 (Or.inl rfl) e2 ?_
  refine jr_aload_n K (D_at DX12_snag_q0 3 rfl) rfl rfl ?_
  refine jr_aload_n K (D_at DX12_snag_q0 4 rfl) rfl rfl ?_
  refine jr_iload_n K (D_at DX12_snag_q0 5 rfl) rfl rfl ?_
  obtain ⟨v8, e8, hf⟩ := jbind hf
  obtain ⟨rc_8, e8⟩ := jcv_o e8
  refine jr_callV K (C_X12_noRing (d) e8) (D_at DX12_snag_q0 6 rfl) cv_X12_277_X12_noRing (As := [.int x1]) (ci := 10) rfl rc_8 rfl rfl (by exact Nat.le_of_ble_eq_true rfl) (kc2 := 0) (ks2 := 0) rfl rfl (fun k9 h9 w9 => by cases w9.1) (fun r9 h9 w9 => ?_)
  obtain ⟨w1, w2⟩ := w9
  subst h9
  cases w1
  show jJ G X _ 0 0 _ _ (.int v8 :: _)
  refine jr_iconst K (D_at DX12_snag_q0 7 rfl) (v := (1 : Int32)) (by decide) ?_
  obtain ⟨q12, e12, hf⟩ := jbind hf
  obtain ⟨rc_12, e12⟩ := jcv_o e12
  refine jr_callV K (C_X12_throwsIf (d + 2) e12) (D_at DX12_snag_q0 8 rfl) cv_X12_250_X12_throwsIf (As := [.int v8, .int (1 : Int32)]) (ci := 10) rfl rc_12 rfl rfl (by exact Nat.le_of_ble_eq_true rfl) (kc2 := 0) (ks2 := 0) rfl rfl (fun k9 h9 w9 => by cases w9.1) (fun r9 h9 w9 => ?_)
  obtain ⟨w1, w2⟩ := w9
  subst h9
  cases w1
  show jJ G X _ 0 0 _ _ (.int q12.1 :: _)
  refine jr_if_ne K (D_at DX12_snag_q0 9 rfl) (tgt := 49) (by decide) (fun c15 => ?_) (fun c15 => ?_)
  · replace hf := (if_neg c15).symm.trans hf
    refine jr_iconst K (D_at DX12_snag_q2 2 rfl) (v := (0 : Int32)) (by decide) ?_
    cases hf
    exact jr_iret K E (D_at DX12_snag_q2 3 rfl) rfl ⟨rfl, rfl⟩
  · replace hf := (if_pos c15).symm.trans hf
    refine jr_aload_n K (D_at DX12_snag_q0 10 rfl) rfl rfl ?_
    refine jr_iload_n K (D_at DX12_snag_q0 11 rfl) rfl rfl ?_
    refine jr_aload_n K (D_at DX12_snag_q1 0 rfl) rfl rfl ?_
    obtain ⟨v21, e21, hf⟩ := jbind hf
    obtain ⟨rc_21, e21⟩ := jcv_o e21
    refine jr_callV K (C_X12_lastRing (d + 1) e21) (D_at DX12_snag_q1 1 rfl) cv_X12_70_X12_lastRing (As := []) (ci := 10) rfl rc_21 rfl rfl (by exact Nat.le_of_ble_eq_true rfl) (kc2 := 0) (ks2 := 0) rfl rfl (fun k9 h9 w9 => by cases w9.1) (fun r9 h9 w9 => ?_)
    obtain ⟨w1, w2⟩ := w9
    subst h9
    cases w1
    show jJ G X _ 0 0 _ _ (.int v21 :: _)
    refine jr_icmp_eq K (D_at DX12_snag_q1 2 rfl) (tgt := 37) (by decide) (fun c24 => ?_) (fun c24 => ?_)
    · replace hf := (if_pos c24).symm.trans hf
      refine jr_iconst K (D_at DX12_snag_q1 8 rfl) (v := (1 : Int32)) (by decide) ?_
      refine jr_goto K (D_at DX12_snag_q1 9 rfl) (tgt := 42) (by decide) ?_
      refine jr_keep [true, true] ?_
      exact J_X12_snag_42 K n E a0 x1 a0 (1 : Int32) q12.2 hf
    · replace hf := (if_neg c24).symm.trans hf
      refine jr_aload_n K (D_at DX12_snag_q1 3 rfl) rfl rfl ?_
      refine jr_iload_n K (D_at DX12_snag_q1 4 rfl) rfl rfl ?_
      refine jr_bipush K (D_at DX12_snag_q1 5 rfl) (v := (7 : Int32)) (by decide) ?_
      obtain ⟨v31, e31, hf⟩ := jbind hf
      obtain ⟨rc_31, e31⟩ := jcv_o e31
      refine jr_callV K (C_X12_is (d) e31) (D_at DX12_snag_q1 6 rfl) cv_X12_73_X12_is (As := [.int x1, .int (7 : Int32)]) (ci := 10) rfl rc_31 rfl rfl (by exact Nat.le_of_ble_eq_true rfl) (kc2 := 0) (ks2 := 0) rfl rfl (fun k9 h9 w9 => by cases w9.1) (fun r9 h9 w9 => ?_)
      obtain ⟨w1, w2⟩ := w9
      subst h9
      cases w1
      show jJ G X _ 0 0 _ _ (.int v31 :: _)
      refine jr_if_eq K (D_at DX12_snag_q1 7 rfl) (tgt := 41) (by decide) (fun c34 => ?_) (fun c34 => ?_)
      · replace hf := (if_pos c34).symm.trans hf
        refine jr_iconst K (D_at DX12_snag_q1 10 rfl) (v := (0 : Int32)) (by decide) ?_
        refine jr_keep [true, true] ?_
        exact J_X12_snag_42 K n E a0 x1 a0 (0 : Int32) q12.2 hf
      · replace hf := (if_neg c34).symm.trans hf
        refine jr_iconst K (D_at DX12_snag_q1 8 rfl) (v := (1 : Int32)) (by decide) ?_
        refine jr_goto K (D_at DX12_snag_q1 9 rfl) (tgt := 42) (by decide) ?_
        refine jr_keep [true, true] ?_
        exact J_X12_snag_42 K n E a0 x1 a0 (1 : Int32) q12.2 hf
theorem C_X12_snag {G : jG} {l : Launch} (d : Nat) {n : Nat} {a0 : Nat} {x1 : Int32} {h : jH} {res : (Int32 × jH)} (hf : F_X12_snag n a0 x1 h = some res) : jC G l mX12_snag (d + 3) 0 0 [.ref a0, .int x1] h (jPW res) :=
  jC.of pn_X12 (jcats rfl) (Nat.le_of_ble_eq_true rfl) (fun X K E => J_X12_snag K n E a0 x1 h hf)
end
