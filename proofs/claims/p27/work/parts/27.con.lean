section
set_option maxHeartbeats 400000 in
set_option maxRecDepth 100000 in
theorem J_X12_hook {G : jG} {l : Launch} {d : Nat} {X : jX} {res : (Int32 × jH)} (K : jOK G l mX12_hook (d + 3) X) (n : Nat) (E : jEnd G mX12_hook (jPW res) X) (a0 : Nat) (x1 : Int32) (x2 : Int32) (h : jH) (hf : F_X12_hook n a0 x1 x2 h = some res) : jJ G X h 0 0 0 [some (.ref a0), some (.int x1), some (.int x2), none] [] := by
  unfold F_X12_hook at hf
  refine jr_aload_n K (D_at DX12_hook_q0 0 rfl) rfl rfl ?_
  refine jr_iconst K (D_at DX12_hook_q0 1 rfl) (v := (0 : Int32)) (by decide) ?_
  obtain ⟨h2, e2, hf⟩ := jbind hf
  refine jr_putI K (D_at DX12_hook_q0 2 rfl) fp_X12_3_10 (Or.inl rfl) e2 ?_
  refine jr_aload_n K (D_at DX12_hook_q0 3 rfl) rfl rfl ?_
  refine jr_aload_n K (D_at DX12_hook_q0 4 rfl) rfl rfl ?_
  refine jr_iload_n K (D_at DX12_hook_q0 5 rfl) rfl rfl ?_
  obtain ⟨v8, e8, hf⟩ := jbind hf
  obtain ⟨rc_8, e8⟩ := jcv_o e8
  refine jr_callV K (C_X12_noRing (d) e8) (D_at DX12_hook_q0 6 rfl) cv_X12_277_X12_noRing (As := [.int x1]) (ci := 10) rfl rc_8 rfl rfl (by exact Nat.le_of_ble_eq_true rfl) (kc2 := 0) (ks2 := 0) rfl rfl (fun k9 h9 w9 => by cases w9.1) (fun r9 h9 w9 => ?_)
  obtain ⟨w1, w2⟩ := w9
  subst h9
  cases w1
  show jJ G X _ 0 0 _ _ (.int v8 :: _)
  refine jr_iconst K (D_at DX12_hook_q0 7 rfl) (v := (1 : Int32)) (by decide) ?_
  obtain ⟨q12, e12, hf⟩ := jbind hf
  obtain ⟨rc_12, e12⟩ := jcv_o e12
  refine jr_callV K (C_X12_throwsIf (d + 2) e12) (D_at DX12_hook_q0 8 rfl) cv_X12_250_X12_throwsIf (As := [.int v8, .int (1 : Int32)]) (ci := 10) rfl rc_12 rfl rfl (by exact Nat.le_of_ble_eq_true rfl) (kc2 := 0) (ks2 := 0) rfl rfl (fun k9 h9 w9 => by cases w9.1) (fun r9 h9 w9 => ?_)
  obtain ⟨w1, w2⟩ := w9
  subst h9
  cases w1
  show jJ G X _ 0 0 _ _ (.int q12.1 :: _)
  refine jr_if_eq K (D_at DX12_hook_q0 9 rfl) (tgt := 20) (by decide) (fun c15 => ?_) (fun c15 => ?_)
  · replace hf := (if_pos c15).symm.trans hf
    refine jr_aload_n K (D_at DX12_hook_q1 0 rfl) rfl rfl ?_
    obtain ⟨h21, e21, hf⟩ := jbind hf
    obtain ⟨rc_21, e21⟩ := jcv_o e21
    refine jr_callV K (C_X12_remembers (d + 2) e21) (D_at DX12_hook_q1 1 rfl) cv_X12_319_X12_remembers (As := []) (ci := 10) rfl rc_21 rfl rfl (by exact Nat.le_of_ble_eq_true rfl) (kc2 := 0) (ks2 := 0) rfl rfl (fun k9 h9 w9 => by cases w9.1) (fun r9 h9 w9 => ?_)
    obtain ⟨w1, w2⟩ := w9
    subst h9
    cases w1
    show jJ G X _ 0 0 _ _ []
    refine jr_aload_n K (D_at DX12_hook_q1 2 rfl) rfl rfl ?_
    refine jr_iload_n K (D_at DX12_hook_q1 3 rfl) rfl rfl ?_
    refine jr_bipush K (D_at DX12_hook_q1 4 rfl) (v := (6 : Int32)) (by decide) ?_
    obtain ⟨v28, e28, hf⟩ := jbind hf
    obtain ⟨rc_28, e28⟩ := jcv_o e28
    refine jr_callV K (C_X12_is (d) e28) (D_at DX12_hook_q1 5 rfl) cv_X12_73_X12_is (As := [.int x1, .int (6 : Int32)]) (ci := 10) rfl rc_28 rfl rfl (by exact Nat.le_of_ble_eq_true rfl) (kc2 := 0) (ks2 := 0) rfl rfl (fun k9 h9 w9 => by cases w9.1) (fun r9 h9 w9 => ?_)
    obtain ⟨w1, w2⟩ := w9
    subst h9
    cases w1
    show jJ G X _ 0 0 _ _ (.int v28 :: _)
    refine jr_istore_n K (D_at DX12_hook_q1 6 rfl) (i := 3) rfl (by decide) (L2 := [_, _, _, _]) rfl ?_
    refine jr_aload_n K (D_at DX12_hook_q1 7 rfl) rfl rfl ?_
    obtain ⟨p33, e33, hf⟩ := jbind hf
    refine jr_getR K (D_at DX12_hook_q1 8 rfl) fg_X12_13_10 e33 ?_
    refine jr_iload_n K (D_at DX12_hook_q1 9 rfl) rfl rfl ?_
    refine jr_bipush K (D_at DX12_hook_q1 10 rfl) (v := (6 : Int32)) (by decide) ?_
    obtain ⟨v39, e39, hf⟩ := jbind hf
    refine jr_callS K (C_X12_at (d + 2) e39) (D_at DX12_hook_q1 11 rfl) cs_X12_63_X12_at (As := [.int x1, .int (6 : Int32)]) rfl rfl (by exact Nat.le_of_ble_eq_true rfl) (kc2 := 0) (ks2 := 0) rfl rfl (fun k9 h9 w9 => by cases w9.1) (fun r9 h9 w9 => ?_)
    obtain ⟨w1, w2⟩ := w9
    subst h9
    cases w1
    show jJ G X _ 0 0 _ _ (.int v39 :: _)
    refine jr_iload_n K (D_at DX12_hook_q2 0 rfl) rfl rfl ?_
    refine jr_if_eq K (D_at DX12_hook_q2 1 rfl) (tgt := 50) (by decide) (fun c43 => ?_) (fun c43 => ?_)
    · replace hf := (if_pos c43).symm.trans hf
      refine jr_iconst K (D_at DX12_hook_q2 4 rfl) (v := (0 : Int32)) (by decide) ?_
      obtain ⟨h51, e51, hf⟩ := jbind hf
      refine jr_iast K (D_at DX12_hook_q2 5 rfl) e51 ?_
      refine jr_iload_n K (D_at DX12_hook_q2 6 rfl) rfl rfl ?_
      refine jr_iload_n K (D_at DX12_hook_q2 7 rfl) rfl rfl ?_
      refine jr_icmp_eq K (D_at DX12_hook_q2 8 rfl) (tgt := 61) (by decide) (fun c54 => ?_) (fun c54 => ?_)
      · replace hf := (if_pos c54).symm.trans hf
        refine jr_iconst K (D_at DX12_hook_q2 11 rfl) (v := (0 : Int32)) (by decide) ?_
        cases hf
        exact jr_zret K E (D_at DX12_hook_q3 0 rfl) rfl (Or.inl rfl) ⟨rfl, rfl⟩
      · replace hf := (if_neg c54).symm.trans hf
        refine jr_iconst K (D_at DX12_hook_q2 9 rfl) (v := (1 : Int32)) (by decide) ?_
        refine jr_goto K (D_at DX12_hook_q2 10 rfl) (tgt := 62) (by decide) ?_
        cases hf
        exact jr_zret K E (D_at DX12_hook_q3 0 rfl) rfl (Or.inr rfl) ⟨rfl, rfl⟩
    · replace hf := (if_neg c43).symm.trans hf
      refine jr_iconst K (D_at DX12_hook_q2 2 rfl) (v := (1 : Int32)) (by decide) ?_
      refine jr_goto K (D_at DX12_hook_q2 3 rfl) (tgt := 51) (by decide) ?_
      obtain ⟨h51, e51, hf⟩ := jbind hf
      refine jr_iast K (D_at DX12_hook_q2 5 rfl) e51 ?_
      refine jr_iload_n K (D_at DX12_hook_q2 6 rfl) rfl rfl ?_
      refine jr_iload_n K (D_at DX12_hook_q2 7 rfl) rfl rfl ?_
      refine jr_icmp_eq K (D_at DX12_hook_q2 8 rfl) (tgt := 61) (by decide) (fun c54 => ?_) (fun c54 => ?_)
      · replace hf := (if_pos c54).symm.trans hf
        refine jr_iconst K (D_at DX12_hook_q2 11 rfl) (v := (0 : Int32)) (by decide) ?_
        cases hf
        exact jr_zret K E (D_at DX12_hook_q3 0 rfl) rfl (Or.inl rfl) ⟨rfl, rfl⟩
      · replace hf := (if_neg c54).symm.trans hf
        refine jr_iconst K (D_at DX12_hook_q2 9 rfl) (v := (1 : Int32)) (by decide) ?_
        refine jr_goto K (D_at DX12_hook_q2 10 rfl) (tgt := 62) (by decide) ?_
        cases hf
        exact jr_zret K E (D_at DX12_hook_q3 0 rfl) rfl (Or.inr rfl) ⟨rfl, rfl⟩
  · replace hf := (if_neg c15).symm.trans hf
    refine jr_iconst K (D_at DX12_hook_q0 10 rfl) (v := (0 : Int32)) (by decide) ?_
    cases hf
    exact jr_zret K E (D_at DX12_hook_q0 11 rfl) rfl (Or.inl rfl) ⟨rfl, rfl⟩
theorem C_X12_hook {G : jG} {l : Launch} (d : Nat) {n : Nat} {a0 : Nat} {x1 : Int32} {x2 : Int32} {h : jH} {res : (Int32 × jH)} (hf : F_X12_hook n a0 x1 x2 h = some res) : jC G l mX12_hook (d + 3) 0 0 [.ref a0, .int x1, .int x2] h (jPW res) :=
  jC.of pn_X12 (jcats rfl) (Nat.le_of_ble_eq_true rfl) (fun X K E => J_X12_hook K n E a0 x1 x2 h hf)
set_option maxHeartbeats 400000 in
set_option maxRecDepth 100000 in
theorem J_X12_sew_70 {G : jG} {l : Launch} {d : Nat} {X : jX} {res : (Int32 × jH)} (K : jOK G l mX12_sew (d + 3) X) (n : Nat) (E : jEnd G mX12_sew (jPW res) X) (a0 : Nat) (x1 : Int32) (x2 : Int32) (sa0 : Nat) (s1 : Int32) (h : jH) (hf : F_X12_sew_70 n a0 x1 x2 sa0 s1 h = some res) : jJ G X h 0 0 70 [some (.ref a0), some (.int x1), some (.int x2)] [.int s1, .ref sa0] := by
  unfold F_X12_sew_70 at hf
  refine jr_iconst K (D_at DX12_sew_q3 0 rfl) (v := (3 : Int32)) (by decide) ?_
  obtain ⟨q71, e71, hf⟩ := jbind hf
  obtain ⟨rc_71, e71⟩ := jcv_o e71
  refine jr_callV K (C_X12_throwsIf (d + 2) e71) (D_at DX12_sew_q3 1 rfl) cv_X12_250_X12_throwsIf (As := [.int s1, .int (3 : Int32)]) (ci := 10) rfl rc_71 rfl rfl (by exact Nat.le_of_ble_eq_true rfl) (kc2 := 0) (ks2 := 0) rfl rfl (fun k9 h9 w9 => by cases w9.1) (fun r9 h9 w9 => ?_)
  obtain ⟨w1, w2⟩ := w9
  subst h9
  cases w1
  show jJ G X _ 0 0 _ _ (.int q71.1 :: _)
  refine jr_if_eq K (D_at DX12_sew_q3 2 rfl) (tgt := 79) (by decide) (fun c74 => ?_) (fun c74 => ?_)
  · replace hf := (if_pos c74).symm.trans hf
    refine jr_aload_n K (D_at DX12_sew_q3 5 rfl) rfl rfl ?_
    obtain ⟨h80, e80, hf⟩ := jbind hf
    obtain ⟨rc_80, e80⟩ := jcv_o e80
    refine jr_callV K (C_X12_remembers (d + 2) e80) (D_at DX12_sew_q3 6 rfl) cv_X12_319_X12_remembers (As := []) (ci := 10) rfl rc_80 rfl rfl (by exact Nat.le_of_ble_eq_true rfl) (kc2 := 0) (ks2 := 0) rfl rfl (fun k9 h9 w9 => by cases w9.1) (fun r9 h9 w9 => ?_)
    obtain ⟨w1, w2⟩ := w9
    subst h9
    cases w1
    show jJ G X _ 0 0 _ _ []
    refine jr_aload_n K (D_at DX12_sew_q3 7 rfl) rfl rfl ?_
    refine jr_iload_n K (D_at DX12_sew_q3 8 rfl) rfl rfl ?_
    refine jr_iload_n K (D_at DX12_sew_q3 9 rfl) rfl rfl ?_
    obtain ⟨h86, e86, hf⟩ := jbind hf
    obtain ⟨rc_86, e86⟩ := jcv_o e86
    refine jr_callV K (C_X12_hangs (d + 1) e86) (D_at DX12_sew_q3 10 rfl) cv_X12_148_X12_hangs (As := [.int x1, .int x2]) (ci := 10) rfl rc_86 rfl rfl (by exact Nat.le_of_ble_eq_true rfl) (kc2 := 0) (ks2 := 0) rfl rfl (fun k9 h9 w9 => by cases w9.1) (fun r9 h9 w9 => ?_)
    obtain ⟨w1, w2⟩ := w9
    subst h9
    cases w1
    show jJ G X _ 0 0 _ _ []
    refine jr_aload_n K (D_at DX12_sew_q3 11 rfl) rfl rfl ?_
    obtain ⟨v90, e90, hf⟩ := jbind hf
    obtain ⟨rc_90, e90⟩ := jcv_o e90
    refine jr_callV K (C_X12_lastRing (d + 1) e90) (D_at DX12_sew_q4 0 rfl) cv_X12_70_X12_lastRing (As := []) (ci := 10) rfl rc_90 rfl rfl (by exact Nat.le_of_ble_eq_true rfl) (kc2 := 0) (ks2 := 0) rfl rfl (fun k9 h9 w9 => by cases w9.1) (fun r9 h9 w9 => ?_)
    obtain ⟨w1, w2⟩ := w9
    subst h9
    cases w1
    show jJ G X _ 0 0 _ _ (.int v90 :: _)
    cases hf
    exact jr_iret K E (D_at DX12_sew_q4 1 rfl) rfl ⟨rfl, rfl⟩
  · replace hf := (if_neg c74).symm.trans hf
    refine jr_iconst K (D_at DX12_sew_q3 3 rfl) (v := (0 : Int32)) (by decide) ?_
    cases hf
    exact jr_iret K E (D_at DX12_sew_q3 4 rfl) rfl ⟨rfl, rfl⟩
set_option maxHeartbeats 400000 in
set_option maxRecDepth 100000 in
theorem J_X12_sew_33 {G : jG} {l : Launch} {d : Nat} {X : jX} {res : (Int32 × jH)} (K : jOK G l mX12_sew (d + 3) X) (n : Nat) (E : jEnd G mX12_sew (jPW res) X) (a0 : Nat) (x1 : Int32) (x2 : Int32) (sa0 : Nat) (s1 : Int32) (h : jH) (hf : F_X12_sew_33 n a0 x1 x2 sa0 s1 h = some res) : jJ G X h 0 0 33 [some (.ref a0), some (.int x1), some (.int x2)] [.int s1, .ref sa0] := by
  unfold F_X12_sew_33 at hf
  refine jr_iconst K (D_at DX12_sew_q1 6 rfl) (v := (2 : Int32)) (by decide) ?_
  obtain ⟨q34, e34, hf⟩ := jbind hf
  obtain ⟨rc_34, e34⟩ := jcv_o e34
  refine jr_callV K (C_X12_throwsIf (d + 2) e34) (D_at DX12_sew_q1 7 rfl) cv_X12_250_X12_throwsIf (As := [.int s1, .int (2 : Int32)]) (ci := 10) rfl rc_34 rfl rfl (by exact Nat.le_of_ble_eq_true rfl) (kc2 := 0) (ks2 := 0) rfl rfl (fun k9 h9 w9 => by cases w9.1) (fun r9 h9 w9 => ?_)
  obtain ⟨w1, w2⟩ := w9
  subst h9
  cases w1
  show jJ G X _ 0 0 _ _ (.int q34.1 :: _)
  refine jr_if_ne K (D_at DX12_sew_q1 8 rfl) (tgt := 77) (by decide) (fun c37 => ?_) (fun c37 => ?_)
  · replace hf := (if_neg c37).symm.trans hf
    refine jr_iconst K (D_at DX12_sew_q3 3 rfl) (v := (0 : Int32)) (by decide) ?_
    cases hf
    exact jr_iret K E (D_at DX12_sew_q3 4 rfl) rfl ⟨rfl, rfl⟩
  · replace hf := (if_pos c37).symm.trans hf
    refine jr_aload_n K (D_at DX12_sew_q1 9 rfl) rfl rfl ?_
    refine jr_aload_n K (D_at DX12_sew_q1 10 rfl) rfl rfl ?_
    obtain ⟨v42, e42, hf⟩ := jbind hf
    obtain ⟨rc_42, e42⟩ := jcv_o e42
    refine jr_callV K (C_X12_rings (d + 2) e42) (D_at DX12_sew_q1 11 rfl) cv_X12_59_X12_rings (As := []) (ci := 10) rfl rc_42 rfl rfl (by exact Nat.le_of_ble_eq_true rfl) (kc2 := 0) (ks2 := 0) rfl rfl (fun k9 h9 w9 => by cases w9.1) (fun r9 h9 w9 => ?_)
    obtain ⟨w1, w2⟩ := w9
    subst h9
    cases w1
    show jJ G X _ 0 0 _ _ (.int v42 :: _)
    refine jr_bipush K (D_at DX12_sew_q2 0 rfl) (v := (8 : Int32)) (by decide) ?_
    refine jr_icmp_eq K (D_at DX12_sew_q2 1 rfl) (tgt := 65) (by decide) (fun c47 => ?_) (fun c47 => ?_)
    · replace hf := (if_pos c47).symm.trans hf
      refine jr_iconst K (D_at DX12_sew_q2 9 rfl) (v := (1 : Int32)) (by decide) ?_
      refine jr_goto K (D_at DX12_sew_q2 10 rfl) (tgt := 70) (by decide) ?_
      refine jr_keep [true, true, true] ?_
      exact J_X12_sew_70 K n E a0 x1 x2 a0 (1 : Int32) q34.2 hf
    · replace hf := (if_neg c47).symm.trans hf
      refine jr_iload_n K (D_at DX12_sew_q2 2 rfl) rfl rfl ?_
      refine jr_aload_n K (D_at DX12_sew_q2 3 rfl) rfl rfl ?_
      obtain ⟨v52, e52, hf⟩ := jbind hf
      obtain ⟨rc_52, e52⟩ := jcv_o e52
      refine jr_callV K (C_X12_leastPlace (d) e52) (D_at DX12_sew_q2 4 rfl) cv_X12_125_X12_leastPlace (As := []) (ci := 10) rfl rc_52 rfl rfl (by exact Nat.le_of_ble_eq_true rfl) (kc2 := 0) (ks2 := 0) rfl rfl (fun k9 h9 w9 => by cases w9.1) (fun r9 h9 w9 => ?_)
      obtain ⟨w1, w2⟩ := w9
      subst h9
      cases w1
      show jJ G X _ 0 0 _ _ (.int v52 :: _)
      refine jr_aload_n K (D_at DX12_sew_q2 5 rfl) rfl rfl ?_
      obtain ⟨v56, e56, hf⟩ := jbind hf
      obtain ⟨rc_56, e56⟩ := jcv_o e56
      refine jr_callV K (C_X12_mostPlace (d) e56) (D_at DX12_sew_q2 6 rfl) cv_X12_128_X12_mostPlace (As := []) (ci := 10) rfl rc_56 rfl rfl (by exact Nat.le_of_ble_eq_true rfl) (kc2 := 0) (ks2 := 0) rfl rfl (fun k9 h9 w9 => by cases w9.1) (fun r9 h9 w9 => ?_)
      obtain ⟨w1, w2⟩ := w9
      subst h9
      cases w1
      show jJ G X _ 0 0 _ _ (.int v56 :: _)
      obtain ⟨v59, e59, hf⟩ := jbind hf
      refine jr_callS K (C_X12_in (d + 2) e59) (D_at DX12_sew_q2 7 rfl) cs_X12_77_X12_in (As := [.int x1, .int v52, .int v56]) rfl rfl (by exact Nat.le_of_ble_eq_true rfl) (kc2 := 0) (ks2 := 0) rfl rfl (fun k9 h9 w9 => by cases w9.1) (fun r9 h9 w9 => ?_)
      obtain ⟨w1, w2⟩ := w9
      subst h9
      cases w1
      show jJ G X _ 0 0 _ _ (.int v59 :: _)
      refine jr_if_ne K (D_at DX12_sew_q2 8 rfl) (tgt := 69) (by decide) (fun c62 => ?_) (fun c62 => ?_)
      · replace hf := (if_neg c62).symm.trans hf
        refine jr_iconst K (D_at DX12_sew_q2 11 rfl) (v := (0 : Int32)) (by decide) ?_
        refine jr_keep [true, true, true] ?_
        exact J_X12_sew_70 K n E a0 x1 x2 a0 (0 : Int32) q34.2 hf
      · replace hf := (if_pos c62).symm.trans hf
        refine jr_iconst K (D_at DX12_sew_q2 9 rfl) (v := (1 : Int32)) (by decide) ?_
        refine jr_goto K (D_at DX12_sew_q2 10 rfl) (tgt := 70) (by decide) ?_
        refine jr_keep [true, true, true] ?_
        exact J_X12_sew_70 K n E a0 x1 x2 a0 (1 : Int32) q34.2 hf
set_option maxHeartbeats 400000 in
set_option maxRecDepth 100000 in
theorem J_X12_sew {G : jG} {l : Launch} {d : Nat} {X : jX} {res : (Int32 × jH)} (K : jOK G l mX12_sew (d + 3) X) (n : Nat) (E : jEnd G mX12_sew (jPW res) X) (a0 : Nat) (x1 : Int32) (x2 : Int32) (h : jH) (hf : F_X12_sew n a0 x1 x2 h = some res) : jJ G X h 0 0 0 [some (.ref a0), some (.int x1), some (.int x2)] [] := by
  unfold F_X12_sew at hf
  refine jr_aload_n K (D_at DX12_sew_q0 0 rfl) rfl rfl ?_
  refine jr_iconst K (D_at DX12_sew_q0 1 rfl) (v := (0 : Int32)) (by decide) ?_
  obtain ⟨h2, e2, hf⟩ := jbind hf
  refine jr_putI K (D_at DX12_sew_q0 2 rfl) fp_X12_3_10 (Or.inl rfl) e2 ?_
  refine jr_aload_n K (D_at DX12_sew_q0 3 rfl) rfl rfl ?_
  refine jr_iload_n K (D_at DX12_sew_q0 4 rfl) rfl rfl ?_
  obtain ⟨v7, e7, hf⟩ := jbind hf
  refine jr_callS K (C_X12_noPlace (d + 1) e7) (D_at DX12_sew_q0 5 rfl) cs_X12_296_X12_noPlace (As := [.int x1]) rfl rfl (by exact Nat.le_of_ble_eq_true rfl) (kc2 := 0) (ks2 := 0) rfl rfl (fun k9 h9 w9 => by cases w9.1) (fun r9 h9 w9 => ?_)
  obtain ⟨w1, w2⟩ := w9
  subst h9
  cases w1
  show jJ G X _ 0 0 _ _ (.int v7 :: _)
  refine jr_iconst K (D_at DX12_sew_q0 6 rfl) (v := (1 : Int32)) (by decide) ?_
  obtain ⟨q11, e11, hf⟩ := jbind hf
  obtain ⟨rc_11, e11⟩ := jcv_o e11
  refine jr_callV K (C_X12_throwsIf (d + 2) e11) (D_at DX12_sew_q0 7 rfl) cv_X12_250_X12_throwsIf (As := [.int v7, .int (1 : Int32)]) (ci := 10) rfl rc_11 rfl rfl (by exact Nat.le_of_ble_eq_true rfl) (kc2 := 0) (ks2 := 0) rfl rfl (fun k9 h9 w9 => by cases w9.1) (fun r9 h9 w9 => ?_)
  obtain ⟨w1, w2⟩ := w9
  subst h9
  cases w1
  show jJ G X _ 0 0 _ _ (.int q11.1 :: _)
  refine jr_if_ne K (D_at DX12_sew_q0 8 rfl) (tgt := 77) (by decide) (fun c14 => ?_) (fun c14 => ?_)
  · replace hf := (if_neg c14).symm.trans hf
    refine jr_iconst K (D_at DX12_sew_q3 3 rfl) (v := (0 : Int32)) (by decide) ?_
    cases hf
    exact jr_iret K E (D_at DX12_sew_q3 4 rfl) rfl ⟨rfl, rfl⟩
  · replace hf := (if_pos c14).symm.trans hf
    refine jr_aload_n K (D_at DX12_sew_q0 9 rfl) rfl rfl ?_
    refine jr_iload_n K (D_at DX12_sew_q0 10 rfl) rfl rfl ?_
    refine jr_iconst K (D_at DX12_sew_q0 11 rfl) (v := (1 : Int32)) (by decide) ?_
    refine jr_bipush K (D_at DX12_sew_q1 0 rfl) (v := (9 : Int32)) (by decide) ?_
    obtain ⟨v22, e22, hf⟩ := jbind hf
    refine jr_callS K (C_X12_in (d + 2) e22) (D_at DX12_sew_q1 1 rfl) cs_X12_77_X12_in (As := [.int x2, .int (1 : Int32), .int (9 : Int32)]) rfl rfl (by exact Nat.le_of_ble_eq_true rfl) (kc2 := 0) (ks2 := 0) rfl rfl (fun k9 h9 w9 => by cases w9.1) (fun r9 h9 w9 => ?_)
    obtain ⟨w1, w2⟩ := w9
    subst h9
    cases w1
    show jJ G X _ 0 0 _ _ (.int v22 :: _)
    refine jr_if_ne K (D_at DX12_sew_q1 2 rfl) (tgt := 32) (by decide) (fun c25 => ?_) (fun c25 => ?_)
    · replace hf := (if_neg c25).symm.trans hf
      refine jr_iconst K (D_at DX12_sew_q1 5 rfl) (v := (0 : Int32)) (by decide) ?_
      refine jr_keep [true, true, true] ?_
      exact J_X12_sew_33 K n E a0 x1 x2 a0 (0 : Int32) q11.2 hf
    · replace hf := (if_pos c25).symm.trans hf
      refine jr_iconst K (D_at DX12_sew_q1 3 rfl) (v := (1 : Int32)) (by decide) ?_
      refine jr_goto K (D_at DX12_sew_q1 4 rfl) (tgt := 33) (by decide) ?_
      refine jr_keep [true, true, true] ?_
      exact J_X12_sew_33 K n E a0 x1 x2 a0 (1 : Int32) q11.2 hf
theorem C_X12_sew {G : jG} {l : Launch} (d : Nat) {n : Nat} {a0 : Nat} {x1 : Int32} {x2 : Int32} {h : jH} {res : (Int32 × jH)} (hf : F_X12_sew n a0 x1 x2 h = some res) : jC G l mX12_sew (d + 3) 0 0 [.ref a0, .int x1, .int x2] h (jPW res) :=
  jC.of pn_X12 (jcats rfl) (Nat.le_of_ble_eq_true rfl) (fun X K E => J_X12_sew K n E a0 x1 x2 h hf)
set_option maxHeartbeats 400000 in
set_option maxRecDepth 100000 in
theorem J_X12_let_34 {G : jG} {l : Launch} {d : Nat} {X : jX} {res : (Int32 × jH)} (K : jOK G l mX12_let (d + 3) X) (n : Nat) (E : jEnd G mX12_let (jPW res) X) (a0 : Nat) (x1 : Int32) (x2 : Int32) (sa0 : Nat) (s1 : Int32) (h : jH) (hf : F_X12_let_34 n a0 x1 x2 sa0 s1 h = some res) : jJ G X h 0 0 34 [some (.ref a0), some (.int x1), some (.int x2), none] [.int s1, .ref sa0] := by
  unfold F_X12_let_34 at hf
  refine jr_iconst K (D_at DX12_let_q1 7 rfl) (v := (2 : Int32)) (by decide) ?_
  obtain ⟨q35, e35, hf⟩ := jbind hf
  obtain ⟨rc_35, e35⟩ := jcv_o e35
  refine jr_callV K (C_X12_throwsIf (d + 2) e35) (D_at DX12_let_q1 8 rfl) cv_X12_250_X12_throwsIf (As := [.int s1, .int (2 : Int32)]) (ci := 10) rfl rc_35 rfl rfl (by exact Nat.le_of_ble_eq_true rfl) (kc2 := 0) (ks2 := 0) rfl rfl (fun k9 h9 w9 => by cases w9.1) (fun r9 h9 w9 => ?_)
  obtain ⟨w1, w2⟩ := w9
  subst h9
  cases w1
  show jJ G X _ 0 0 _ _ (.int q35.1 :: _)
  refine jr_if_eq K (D_at DX12_let_q1 9 rfl) (tgt := 43) (by decide) (fun c38 => ?_) (fun c38 => ?_)
  · replace hf := (if_pos c38).symm.trans hf
    refine jr_aload_n K (D_at DX12_let_q2 0 rfl) rfl rfl ?_
    obtain ⟨h44, e44, hf⟩ := jbind hf
    obtain ⟨rc_44, e44⟩ := jcv_o e44
    refine jr_callV K (C_X12_remembers (d + 2) e44) (D_at DX12_let_q2 1 rfl) cv_X12_319_X12_remembers (As := []) (ci := 10) rfl rc_44 rfl rfl (by exact Nat.le_of_ble_eq_true rfl) (kc2 := 0) (ks2 := 0) rfl rfl (fun k9 h9 w9 => by cases w9.1) (fun r9 h9 w9 => ?_)
    obtain ⟨w1, w2⟩ := w9
    subst h9
    cases w1
    show jJ G X _ 0 0 _ _ []
    refine jr_aload_n K (D_at DX12_let_q2 2 rfl) rfl rfl ?_
    refine jr_iload_n K (D_at DX12_let_q2 3 rfl) rfl rfl ?_
    refine jr_iconst K (D_at DX12_let_q2 4 rfl) (v := (5 : Int32)) (by decide) ?_
    obtain ⟨v50, e50, hf⟩ := jbind hf
    obtain ⟨rc_50, e50⟩ := jcv_o e50
    refine jr_callV K (C_X12_of (d + 1) e50) (D_at DX12_let_q2 5 rfl) cv_X12_67_X12_of (As := [.int x1, .int (5 : Int32)]) (ci := 10) rfl rc_50 rfl rfl (by exact Nat.le_of_ble_eq_true rfl) (kc2 := 0) (ks2 := 0) rfl rfl (fun k9 h9 w9 => by cases w9.1) (fun r9 h9 w9 => ?_)
    obtain ⟨w1, w2⟩ := w9
    subst h9
    cases w1
    show jJ G X _ 0 0 _ _ (.int v50 :: _)
    refine jr_istore_n K (D_at DX12_let_q2 6 rfl) (i := 3) rfl (by decide) (L2 := [_, _, _, _]) rfl ?_
    refine jr_aload_n K (D_at DX12_let_q2 7 rfl) rfl rfl ?_
    obtain ⟨p55, e55, hf⟩ := jbind hf
    refine jr_getR K (D_at DX12_let_q2 8 rfl) fg_X12_13_10 e55 ?_
    refine jr_iload_n K (D_at DX12_let_q2 9 rfl) rfl rfl ?_
    refine jr_iconst K (D_at DX12_let_q2 10 rfl) (v := (5 : Int32)) (by decide) ?_
    obtain ⟨v60, e60, hf⟩ := jbind hf
    refine jr_callS K (C_X12_at (d + 2) e60) (D_at DX12_let_q2 11 rfl) cs_X12_63_X12_at (As := [.int x1, .int (5 : Int32)]) rfl rfl (by exact Nat.le_of_ble_eq_true rfl) (kc2 := 0) (ks2 := 0) rfl rfl (fun k9 h9 w9 => by cases w9.1) (fun r9 h9 w9 => ?_)
    obtain ⟨w1, w2⟩ := w9
    subst h9
    cases w1
    show jJ G X _ 0 0 _ _ (.int v60 :: _)
    refine jr_iload_n K (D_at DX12_let_q3 0 rfl) rfl rfl ?_
    obtain ⟨h64, e64, hf⟩ := jbind hf
    refine jr_iast K (D_at DX12_let_q3 1 rfl) e64 ?_
    refine jr_iload_n K (D_at DX12_let_q3 2 rfl) rfl rfl ?_
    cases hf
    exact jr_iret K E (D_at DX12_let_q3 3 rfl) rfl ⟨rfl, rfl⟩
  · replace hf := (if_neg c38).symm.trans hf
    refine jr_iconst K (D_at DX12_let_q1 10 rfl) (v := (0 : Int32)) (by decide) ?_
    cases hf
    exact jr_iret K E (D_at DX12_let_q1 11 rfl) rfl ⟨rfl, rfl⟩
set_option maxHeartbeats 400000 in
set_option maxRecDepth 100000 in
theorem J_X12_let {G : jG} {l : Launch} {d : Nat} {X : jX} {res : (Int32 × jH)} (K : jOK G l mX12_let (d + 3) X) (n : Nat) (E : jEnd G mX12_let (jPW res) X) (a0 : Nat) (x1 : Int32) (x2 : Int32) (h : jH) (hf : F_X12_let n a0 x1 x2 h = some res) : jJ G X h 0 0 0 [some (.ref a0), some (.int x1), some (.int x2), none] [] := by
  unfold F_X12_let at hf
  refine jr_aload_n K (D_at DX12_let_q0 0 rfl) rfl rfl ?_
  refine jr_iconst K (D_at DX12_let_q0 1 rfl) (v := (0 : Int32)) (by decide) ?_
  obtain ⟨h2, e2, hf⟩ := jbind hf
  refine jr_putI K (D_at DX12_let_q0 2 rfl) fp_X12_3_10 (Or.inl rfl) e2 ?_
  refine jr_aload_n K (D_at DX12_let_q0 3 rfl) rfl rfl ?_
  refine jr_aload_n K (D_at DX12_let_q0 4 rfl) rfl rfl ?_
  refine jr_iload_n K (D_at DX12_let_q0 5 rfl) rfl rfl ?_
  obtain ⟨v8, e8, hf⟩ := jbind hf
  obtain ⟨rc_8, e8⟩ := jcv_o e8
  refine jr_callV K (C_X12_noRing (d) e8) (D_at DX12_let_q0 6 rfl) cv_X12_277_X12_noRing (As := [.int x1]) (ci := 10) rfl rc_8 rfl rfl (by exact Nat.le_of_ble_eq_true rfl) (kc2 := 0) (ks2 := 0) rfl rfl (fun k9 h9 w9 => by cases w9.1) (fun r9 h9 w9 => ?_)
  obtain ⟨w1, w2⟩ := w9
  subst h9
  cases w1
  show jJ G X _ 0 0 _ _ (.int v8 :: _)
  refine jr_iconst K (D_at DX12_let_q0 7 rfl) (v := (1 : Int32)) (by decide) ?_
  obtain ⟨q12, e12, hf⟩ := jbind hf
  obtain ⟨rc_12, e12⟩ := jcv_o e12
  refine jr_callV K (C_X12_throwsIf (d + 2) e12) (D_at DX12_let_q0 8 rfl) cv_X12_250_X12_throwsIf (As := [.int v8, .int (1 : Int32)]) (ci := 10) rfl rc_12 rfl rfl (by exact Nat.le_of_ble_eq_true rfl) (kc2 := 0) (ks2 := 0) rfl rfl (fun k9 h9 w9 => by cases w9.1) (fun r9 h9 w9 => ?_)
  obtain ⟨w1, w2⟩ := w9
  subst h9
  cases w1
  show jJ G X _ 0 0 _ _ (.int q12.1 :: _)
  refine jr_if_ne K (D_at DX12_let_q0 9 rfl) (tgt := 41) (by decide) (fun c15 => ?_) (fun c15 => ?_)
  · replace hf := (if_neg c15).symm.trans hf
    refine jr_iconst K (D_at DX12_let_q1 10 rfl) (v := (0 : Int32)) (by decide) ?_
    cases hf
    exact jr_iret K E (D_at DX12_let_q1 11 rfl) rfl ⟨rfl, rfl⟩
  · replace hf := (if_pos c15).symm.trans hf
    refine jr_aload_n K (D_at DX12_let_q0 10 rfl) rfl rfl ?_
    refine jr_iload_n K (D_at DX12_let_q0 11 rfl) rfl rfl ?_
    refine jr_iconst K (D_at DX12_let_q1 0 rfl) (v := (0 : Int32)) (by decide) ?_
    refine jr_bipush K (D_at DX12_let_q1 1 rfl) (v := (9 : Int32)) (by decide) ?_
    obtain ⟨v23, e23, hf⟩ := jbind hf
    refine jr_callS K (C_X12_in (d + 2) e23) (D_at DX12_let_q1 2 rfl) cs_X12_77_X12_in (As := [.int x2, .int (0 : Int32), .int (9 : Int32)]) rfl rfl (by exact Nat.le_of_ble_eq_true rfl) (kc2 := 0) (ks2 := 0) rfl rfl (fun k9 h9 w9 => by cases w9.1) (fun r9 h9 w9 => ?_)
    obtain ⟨w1, w2⟩ := w9
    subst h9
    cases w1
    show jJ G X _ 0 0 _ _ (.int v23 :: _)
    refine jr_if_ne K (D_at DX12_let_q1 3 rfl) (tgt := 33) (by decide) (fun c26 => ?_) (fun c26 => ?_)
    · replace hf := (if_neg c26).symm.trans hf
      refine jr_iconst K (D_at DX12_let_q1 6 rfl) (v := (0 : Int32)) (by decide) ?_
      refine jr_keep [true, true, true, false] ?_
      exact J_X12_let_34 K n E a0 x1 x2 a0 (0 : Int32) q12.2 hf
    · replace hf := (if_pos c26).symm.trans hf
      refine jr_iconst K (D_at DX12_let_q1 4 rfl) (v := (1 : Int32)) (by decide) ?_
      refine jr_goto K (D_at DX12_let_q1 5 rfl) (tgt := 34) (by decide) ?_
      refine jr_keep [true, true, true, false] ?_
      exact J_X12_let_34 K n E a0 x1 x2 a0 (1 : Int32) q12.2 hf
theorem C_X12_let {G : jG} {l : Launch} (d : Nat) {n : Nat} {a0 : Nat} {x1 : Int32} {x2 : Int32} {h : jH} {res : (Int32 × jH)} (hf : F_X12_let n a0 x1 x2 h = some res) : jC G l mX12_let (d + 3) 0 0 [.ref a0, .int x1, .int x2] h (jPW res) :=
  jC.of pn_X12 (jcats rfl) (Nat.le_of_ble_eq_true rfl) (fun X K E => J_X12_let K n E a0 x1 x2 h hf)
set_option maxHeartbeats 400000 in
set_option maxRecDepth 100000 in
theorem J_X12_chair {G : jG} {l : Launch} {d : Nat} {X : jX} {res : (Int32 × jH)} (K : jOK G l mX12_chair (d + 2) X) (n : Nat) (E : jEnd G mX12_chair (jPW res) X) (a0 : Nat) (x1 : Int32) (x2 : Int32) (h : jH) (hf : F_X12_chair n a0 x1 x2 h = some res) : jJ G X h 0 0 0 [some (.ref a0), some (.int x1), some (.int x2), none, none] [] := by
  unfold F_X12_chair at hf
  refine jr_aload_n K (D_at DX12_chair_q0 0 rfl) rfl rfl ?_
  refine jr_iconst K (D_at DX12_chair_q0 1 rfl) (v := (0 : Int32)) (by decide) ?_
  obtain ⟨h2, e2, hf⟩ := jbind hf
  refine jr_putI K (D_at DX12_chair_q0 2 rfl) fp_X12_3_10 (Or.inl rfl) e2 ?_
  refine jr_aload_n K (D_at DX12_chair_q0 3 rfl) rfl rfl ?_
  refine jr_iload_n K (D_at DX12_chair_q0 4 rfl) rfl rfl ?_
  obtain ⟨v7, e7, hf⟩ := jbind hf
  refine jr_callS K (C_X12_noPlace (d) e7) (D_at DX12_chair_q0 5 rfl) cs_X12_296_X12_noPlace (As := [.int x1]) rfl rfl (by exact Nat.le_of_ble_eq_true rfl) (kc2 := 0) (ks2 := 0) rfl rfl (fun k9 h9 w9 => by cases w9.1) (fun r9 h9 w9 => ?_)
  obtain ⟨w1, w2⟩ := w9
  subst h9
  cases w1
  show jJ G X _ 0 0 _ _ (.int v7 :: _)
  refine jr_iconst K (D_at DX12_chair_q0 6 rfl) (v := (1 : Int32)) (by decide) ?_
  obtain ⟨q11, e11, hf⟩ := jbind hf
  obtain ⟨rc_11, e11⟩ := jcv_o e11
  refine jr_callV K (C_X12_throwsIf (d + 1) e11) (D_at DX12_chair_q0 7 rfl) cv_X12_250_X12_throwsIf (As := [.int v7, .int (1 : Int32)]) (ci := 10) rfl rc_11 rfl rfl (by exact Nat.le_of_ble_eq_true rfl) (kc2 := 0) (ks2 := 0) rfl rfl (fun k9 h9 w9 => by cases w9.1) (fun r9 h9 w9 => ?_)
  obtain ⟨w1, w2⟩ := w9
  subst h9
  cases w1
  show jJ G X _ 0 0 _ _ (.int q11.1 :: _)
  refine jr_if_eq K (D_at DX12_chair_q0 8 rfl) (tgt := 19) (by decide) (fun c14 => ?_) (fun c14 => ?_)
  · replace hf := (if_pos c14).symm.trans hf
    refine jr_aload_n K (D_at DX12_chair_q0 11 rfl) rfl rfl ?_
    obtain ⟨h20, e20, hf⟩ := jbind hf
    obtain ⟨rc_20, e20⟩ := jcv_o e20
    refine jr_callV K (C_X12_remembers (d + 1) e20) (D_at DX12_chair_q1 0 rfl) cv_X12_319_X12_remembers (As := []) (ci := 10) rfl rc_20 rfl rfl (by exact Nat.le_of_ble_eq_true rfl) (kc2 := 0) (ks2 := 0) rfl rfl (fun k9 h9 w9 => by cases w9.1) (fun r9 h9 w9 => ?_)
    obtain ⟨w1, w2⟩ := w9
    subst h9
    cases w1
    show jJ G X _ 0 0 _ _ []
    refine jr_aload_n K (D_at DX12_chair_q1 1 rfl) rfl rfl ?_
    obtain ⟨p24, e24, hf⟩ := jbind hf
    refine jr_getR K (D_at DX12_chair_q1 2 rfl) fg_X12_13_10 e24 ?_
    refine jr_bipush K (D_at DX12_chair_q1 3 rfl) (v := (7 : Int32)) (by decide) ?_
    obtain ⟨v29, e29, hf⟩ := jbind hf
    refine jr_iald K (D_at DX12_chair_q1 4 rfl) e29 ?_
    refine jr_iload_n K (D_at DX12_chair_q1 5 rfl) rfl rfl ?_
    obtain ⟨v31, e31, hf⟩ := jbind hf
    refine jr_callS K (C_X12_has (d + 1) e31) (D_at DX12_chair_q1 6 rfl) cs_X12_289_X12_has (As := [.int v29, .int x1]) rfl rfl (by exact Nat.le_of_ble_eq_true rfl) (kc2 := 0) (ks2 := 0) rfl rfl (fun k9 h9 w9 => by cases w9.1) (fun r9 h9 w9 => ?_)
    obtain ⟨w1, w2⟩ := w9
    subst h9
    cases w1
    show jJ G X _ 0 0 _ _ (.int v31 :: _)
    refine jr_istore_n K (D_at DX12_chair_q1 7 rfl) (i := 3) rfl (by decide) (L2 := [_, _, _, _, _]) rfl ?_
    refine jr_aload_n K (D_at DX12_chair_q1 8 rfl) rfl rfl ?_
    obtain ⟨p36, e36, hf⟩ := jbind hf
    refine jr_getR K (D_at DX12_chair_q1 9 rfl) fg_X12_13_10 e36 ?_
    refine jr_bipush K (D_at DX12_chair_q1 10 rfl) (v := (7 : Int32)) (by decide) ?_
    obtain ⟨v41, e41, hf⟩ := jbind hf
    refine jr_iald K (D_at DX12_chair_q1 11 rfl) e41 ?_
    refine jr_iconst K (D_at DX12_chair_q2 0 rfl) (v := (1 : Int32)) (by decide) ?_
    refine jr_iload_n K (D_at DX12_chair_q2 1 rfl) rfl rfl ?_
    refine jr_ishl K (D_at DX12_chair_q2 2 rfl) ?_
    refine jr_iconst K (D_at DX12_chair_q2 3 rfl) (v := (-1 : Int32)) (by decide) ?_
    refine jr_ixor K (D_at DX12_chair_q2 4 rfl) ?_
    refine jr_iand K (D_at DX12_chair_q2 5 rfl) ?_
    refine jr_istore K (D_at DX12_chair_q2 6 rfl) (i := 4) (by decide) (L2 := [_, _, _, _, _]) rfl ?_
    refine jr_aload_n K (D_at DX12_chair_q2 7 rfl) rfl rfl ?_
    obtain ⟨p51, e51, hf⟩ := jbind hf
    refine jr_getR K (D_at DX12_chair_q2 8 rfl) fg_X12_13_10 e51 ?_
    refine jr_bipush K (D_at DX12_chair_q2 9 rfl) (v := (7 : Int32)) (by decide) ?_
    refine jr_iload_n K (D_at DX12_chair_q2 10 rfl) rfl rfl ?_
    refine jr_if_eq K (D_at DX12_chair_q2 11 rfl) (tgt := 69) (by decide) (fun c57 => ?_) (fun c57 => ?_)
    · replace hf := (if_pos c57).symm.trans hf
      refine jr_iload K (D_at DX12_chair_q3 6 rfl) rfl ?_
      obtain ⟨h71, e71, hf⟩ := jbind hf
      refine jr_iast K (D_at DX12_chair_q3 7 rfl) e71 ?_
      refine jr_iload_n K (D_at DX12_chair_q3 8 rfl) rfl rfl ?_
      refine jr_iload_n K (D_at DX12_chair_q3 9 rfl) rfl rfl ?_
      refine jr_icmp_eq K (D_at DX12_chair_q3 10 rfl) (tgt := 81) (by decide) (fun c74 => ?_) (fun c74 => ?_)
      · replace hf := (if_pos c74).symm.trans hf
        refine jr_iconst K (D_at DX12_chair_q4 1 rfl) (v := (0 : Int32)) (by decide) ?_
        cases hf
        exact jr_zret K E (D_at DX12_chair_q4 2 rfl) rfl (Or.inl rfl) ⟨rfl, rfl⟩
      · replace hf := (if_neg c74).symm.trans hf
        refine jr_iconst K (D_at DX12_chair_q3 11 rfl) (v := (1 : Int32)) (by decide) ?_
        refine jr_goto K (D_at DX12_chair_q4 0 rfl) (tgt := 82) (by decide) ?_
        cases hf
        exact jr_zret K E (D_at DX12_chair_q4 2 rfl) rfl (Or.inr rfl) ⟨rfl, rfl⟩
    · replace hf := (if_neg c57).symm.trans hf
      refine jr_iload K (D_at DX12_chair_q3 0 rfl) rfl ?_
      refine jr_iconst K (D_at DX12_chair_q3 1 rfl) (v := (1 : Int32)) (by decide) ?_
      refine jr_iload_n K (D_at DX12_chair_q3 2 rfl) rfl rfl ?_
      refine jr_ishl K (D_at DX12_chair_q3 3 rfl) ?_
      refine jr_ior K (D_at DX12_chair_q3 4 rfl) ?_
      refine jr_goto K (D_at DX12_chair_q3 5 rfl) (tgt := 71) (by decide) ?_
      obtain ⟨h71, e71, hf⟩ := jbind hf
      refine jr_iast K (D_at DX12_chair_q3 7 rfl) e71 ?_
      refine jr_iload_n K (D_at DX12_chair_q3 8 rfl) rfl rfl ?_
      refine jr_iload_n K (D_at DX12_chair_q3 9 rfl) rfl rfl ?_
      refine jr_icmp_eq K (D_at DX12_chair_q3 10 rfl) (tgt := 81) (by decide) (fun c74 => ?_) (fun c74 => ?_)
      · replace hf := (if_pos c74).symm.trans hf
        refine jr_iconst K (D_at DX12_chair_q4 1 rfl) (v := (0 : Int32)) (by decide) ?_
        cases hf
        exact jr_zret K E (D_at DX12_chair_q4 2 rfl) rfl (Or.inl rfl) ⟨rfl, rfl⟩
      · replace hf := (if_neg c74).symm.trans hf
        refine jr_iconst K (D_at DX12_chair_q3 11 rfl) (v := (1 : Int32)) (by decide) ?_
        refine jr_goto K (D_at DX12_chair_q4 0 rfl) (tgt := 82) (by decide) ?_
        cases hf
        exact jr_zret K E (D_at DX12_chair_q4 2 rfl) rfl (Or.inr rfl) ⟨rfl, rfl⟩
  · replace hf := (if_neg c14).symm.trans hf
    refine jr_iconst K (D_at DX12_chair_q0 9 rfl) (v := (0 : Int32)) (by decide) ?_
    cases hf
    exact jr_zret K E (D_at DX12_chair_q0 10 rfl) rfl (Or.inl rfl) ⟨rfl, rfl⟩
theorem C_X12_chair {G : jG} {l : Launch} (d : Nat) {n : Nat} {a0 : Nat} {x1 : Int32} {x2 : Int32} {h : jH} {res : (Int32 × jH)} (hf : F_X12_chair n a0 x1 x2 h = some res) : jC G l mX12_chair (d + 2) 0 0 [.ref a0, .int x1, .int x2] h (jPW res) :=
  jC.of pn_X12 (jcats rfl) (Nat.le_of_ble_eq_true rfl) (fun X K E => J_X12_chair K n E a0 x1 x2 h hf)
set_option maxHeartbeats 400000 in
set_option maxRecDepth 100000 in
theorem J_X12_catches_4_b {G : jG} {l : Launch} {d : Nat} {X : jX} {res : (Int32 × jH)} (K : jOK G l mX12_catches (d + 7) X) (n : Nat) (rc4 : Nat → Int32 → Int32 → jH → Option (Int32 × jH)) (hr4 : ∀ (a0 : Nat) (x1 : Int32) (x2 : Int32) (h : jH), rc4 a0 x1 x2 h = some res → jJ G X h 0 0 4 [some (.ref a0), some (.int x1), some (.int x2)] []) (E : jEnd G mX12_catches (jPW res) X) (a0 : Nat) (x1 : Int32) (x2 : Int32) (h : jH) (hf : F_X12_catches_4_b n rc4 a0 x1 x2 h = some res) : jJ G X h 0 0 4 [some (.ref a0), some (.int x1), some (.int x2)] [] := by
  unfold F_X12_catches_4_b at hf
  refine jr_iload_n K (D_at DX12_catches_q0 4 rfl) rfl rfl ?_
  refine jr_aload_n K (D_at DX12_catches_q0 5 rfl) rfl rfl ?_
  obtain ⟨v6, e6, hf⟩ := jbind hf
  obtain ⟨rc_6, e6⟩ := jcv_o e6
  refine jr_callV K (C_X12_lastRing (d + 5) e6) (D_at DX12_catches_q0 6 rfl) cv_X12_70_X12_lastRing (As := []) (ci := 10) rfl rc_6 rfl rfl (by exact Nat.le_of_ble_eq_true rfl) (kc2 := 0) (ks2 := 0) rfl rfl (fun k9 h9 w9 => by cases w9.1) (fun r9 h9 w9 => ?_)
  obtain ⟨w1, w2⟩ := w9
  subst h9
  cases w1
  show jJ G X _ 0 0 _ _ (.int v6 :: _)
  refine jr_icmp_ge K (D_at DX12_catches_q0 7 rfl) (tgt := 77) (by decide) (fun c9 => ?_) (fun c9 => ?_)
  · replace hf := (if_pos c9).symm.trans hf
    refine jr_iload_n K (D_at DX12_catches_q3 6 rfl) rfl rfl ?_
    cases hf
    exact jr_iret K E (D_at DX12_catches_q3 7 rfl) rfl ⟨rfl, rfl⟩
  · replace hf := (if_neg c9).symm.trans hf
    refine jr_aload_n K (D_at DX12_catches_q0 8 rfl) rfl rfl ?_
    refine jr_iload_n K (D_at DX12_catches_q0 9 rfl) rfl rfl ?_
    obtain ⟨v14, e14, hf⟩ := jbind hf
    obtain ⟨rc_14, e14⟩ := jcv_o e14
    refine jr_callV K (C_X12_gapOf (d + 4) e14) (D_at DX12_catches_q0 10 rfl) cv_X12_253_X12_gapOf (As := [.int x2]) (ci := 10) rfl rc_14 rfl rfl (by exact Nat.le_of_ble_eq_true rfl) (kc2 := 0) (ks2 := 0) rfl rfl (fun k9 h9 w9 => by cases w9.1) (fun r9 h9 w9 => ?_)
    obtain ⟨w1, w2⟩ := w9
    subst h9
    cases w1
    show jJ G X _ 0 0 _ _ (.int v14 :: _)
    refine jr_iconst K (D_at DX12_catches_q0 11 rfl) (v := (1 : Int32)) (by decide) ?_
    refine jr_icmp_ne K (D_at DX12_catches_q1 0 rfl) (tgt := 71) (by decide) (fun c18 => ?_) (fun c18 => ?_)
    · replace hf := (if_neg c18).symm.trans hf
      refine jr_iinc K (D_at DX12_catches_q3 4 rfl) (i := 2) rfl (v := x2 + (1 : Int32)) (jinc (by decide)) (by decide) (L2 := [_, _, _]) rfl ?_
      refine jr_goto K (D_at DX12_catches_q3 5 rfl) (tgt := 4) (by decide) ?_
      refine jr_keep [true, true, true] ?_
      exact hr4 a0 x1 (x2 + (1 : Int32)) h hf
    · replace hf := (if_pos c18).symm.trans hf
      refine jr_aload_n K (D_at DX12_catches_q1 1 rfl) rfl rfl ?_
      refine jr_iload_n K (D_at DX12_catches_q1 2 rfl) rfl rfl ?_
      refine jr_bipush K (D_at DX12_catches_q1 3 rfl) (v := (7 : Int32)) (by decide) ?_
      obtain ⟨v25, e25, hf⟩ := jbind hf
      obtain ⟨rc_25, e25⟩ := jcv_o e25
      refine jr_callV K (C_X12_is (d + 4) e25) (D_at DX12_catches_q1 4 rfl) cv_X12_73_X12_is (As := [.int x2, .int (7 : Int32)]) (ci := 10) rfl rc_25 rfl rfl (by exact Nat.le_of_ble_eq_true rfl) (kc2 := 0) (ks2 := 0) rfl rfl (fun k9 h9 w9 => by cases w9.1) (fun r9 h9 w9 => ?_)
      obtain ⟨w1, w2⟩ := w9
      subst h9
      cases w1
      show jJ G X _ 0 0 _ _ (.int v25 :: _)
      refine jr_if_ne K (D_at DX12_catches_q1 5 rfl) (tgt := 71) (by decide) (fun c28 => ?_) (fun c28 => ?_)
      · replace hf := (if_neg c28).symm.trans hf
        refine jr_iinc K (D_at DX12_catches_q3 4 rfl) (i := 2) rfl (v := x2 + (1 : Int32)) (jinc (by decide)) (by decide) (L2 := [_, _, _]) rfl ?_
        refine jr_goto K (D_at DX12_catches_q3 5 rfl) (tgt := 4) (by decide) ?_
        refine jr_keep [true, true, true] ?_
        exact hr4 a0 x1 (x2 + (1 : Int32)) h hf
      · replace hf := (if_pos c28).symm.trans hf
        refine jr_aload_n K (D_at DX12_catches_q1 6 rfl) rfl rfl ?_
        refine jr_bipush K (D_at DX12_catches_q1 7 rfl) (v := (100 : Int32)) (by decide) ?_
        obtain ⟨q34, e34, hf⟩ := jbind hf
        obtain ⟨rc_34, e34⟩ := jcv_o e34
        refine jr_callV K (C_X12_drawn (d + 6) e34) (D_at DX12_catches_q1 8 rfl) cv_X12_330_X12_drawn (As := [.int (100 : Int32)]) (ci := 10) rfl rc_34 rfl rfl (by exact Nat.le_of_ble_eq_true rfl) (kc2 := 0) (ks2 := 0) rfl rfl (fun k9 h9 w9 => by cases w9.1) (fun r9 h9 w9 => ?_)
        obtain ⟨w1, w2⟩ := w9
        subst h9
        cases w1
        show jJ G X _ 0 0 _ _ (.int q34.1 :: _)
        refine jr_aload_n K (D_at DX12_catches_q1 9 rfl) rfl rfl ?_
        refine jr_iconst K (D_at DX12_catches_q1 10 rfl) (v := (1 : Int32)) (by decide) ?_
        refine jr_iload_n K (D_at DX12_catches_q1 11 rfl) rfl rfl ?_
        obtain ⟨q40, e40, hf⟩ := jbind hf
        obtain ⟨rc_40, e40⟩ := jcv_o e40
        refine jr_callV K (C_X12_byLaw (d) e40) (D_at DX12_catches_q2 0 rfl) cv_X12_280_X12_byLaw (As := [.int (1 : Int32), .int x2]) (ci := 10) rfl rc_40 rfl rfl (by exact Nat.le_of_ble_eq_true rfl) (kc2 := 0) (ks2 := 0) rfl rfl (fun k9 h9 w9 => by cases w9.1) (fun r9 h9 w9 => ?_)
        obtain ⟨w1, w2⟩ := w9
        subst h9
        cases w1
        show jJ G X _ 0 0 _ _ (.int q40.1 :: _)
        refine jr_icmp_lt K (D_at DX12_catches_q2 1 rfl) (tgt := 49) (by decide) (fun c43 => ?_) (fun c43 => ?_)
        · replace hf := (if_pos c43).symm.trans hf
          refine jr_aload_n K (D_at DX12_catches_q2 3 rfl) rfl rfl ?_
          obtain ⟨p50, e50, hf⟩ := jbind hf
          refine jr_getR K (D_at DX12_catches_q2 4 rfl) fg_X12_13_10 e50 ?_
          refine jr_iload_n K (D_at DX12_catches_q2 5 rfl) rfl rfl ?_
          refine jr_bipush K (D_at DX12_catches_q2 6 rfl) (v := (7 : Int32)) (by decide) ?_
          obtain ⟨v56, e56, hf⟩ := jbind hf
          refine jr_callS K (C_X12_at (d + 6) e56) (D_at DX12_catches_q2 7 rfl) cs_X12_63_X12_at (As := [.int x2, .int (7 : Int32)]) rfl rfl (by exact Nat.le_of_ble_eq_true rfl) (kc2 := 0) (ks2 := 0) rfl rfl (fun k9 h9 w9 => by cases w9.1) (fun r9 h9 w9 => ?_)
          obtain ⟨w1, w2⟩ := w9
          subst h9
          cases w1
          show jJ G X _ 0 0 _ _ (.int v56 :: _)
          refine jr_iconst K (D_at DX12_catches_q2 8 rfl) (v := (1 : Int32)) (by decide) ?_
          obtain ⟨h60, e60, hf⟩ := jbind hf
          refine jr_iast K (D_at DX12_catches_q2 9 rfl) e60 ?_
          refine jr_aload_n K (D_at DX12_catches_q2 10 rfl) rfl rfl ?_
          refine jr_iload_n K (D_at DX12_catches_q2 11 rfl) rfl rfl ?_
          refine jr_iconst K (D_at DX12_catches_q3 0 rfl) (v := (1 : Int32)) (by decide) ?_
          refine jr_iconst K (D_at DX12_catches_q3 1 rfl) (v := (0 : Int32)) (by decide) ?_
          obtain ⟨h65, e65, hf⟩ := jbind hf
          obtain ⟨rc_65, e65⟩ := jcv_o e65
          refine jr_callV K (C_X12_tells (d + 4) e65) (D_at DX12_catches_q3 2 rfl) cv_X12_326_X12_tells (As := [.int x2, .int (1 : Int32), .int (0 : Int32)]) (ci := 10) rfl rc_65 rfl rfl (by exact Nat.le_of_ble_eq_true rfl) (kc2 := 0) (ks2 := 0) rfl rfl (fun k9 h9 w9 => by cases w9.1) (fun r9 h9 w9 => ?_)
          obtain ⟨w1, w2⟩ := w9
          subst h9
          cases w1
          show jJ G X _ 0 0 _ _ []
          refine jr_iinc K (D_at DX12_catches_q3 3 rfl) (i := 1) rfl (v := x1 + (1 : Int32)) (jinc (by decide)) (by decide) (L2 := [_, _, _]) rfl ?_
          refine jr_iinc K (D_at DX12_catches_q3 4 rfl) (i := 2) rfl (v := x2 + (1 : Int32)) (jinc (by decide)) (by decide) (L2 := [_, _, _]) rfl ?_
          refine jr_goto K (D_at DX12_catches_q3 5 rfl) (tgt := 4) (by decide) ?_
          refine jr_keep [true, true, true] ?_
          exact hr4 a0 (x1 + (1 : Int32)) (x2 + (1 : Int32)) h65 hf
        · replace hf := (if_neg c43).symm.trans hf
          refine jr_goto K (D_at DX12_catches_q2 2 rfl) (tgt := 71) (by decide) ?_
          refine jr_iinc K (D_at DX12_catches_q3 4 rfl) (i := 2) rfl (v := x2 + (1 : Int32)) (jinc (by decide)) (by decide) (L2 := [_, _, _]) rfl ?_
          refine jr_goto K (D_at DX12_catches_q3 5 rfl) (tgt := 4) (by decide) ?_
          refine jr_keep [true, true, true] ?_
          exact hr4 a0 x1 (x2 + (1 : Int32)) q40.2 hf
theorem J_X12_catches_4 {G : jG} {l : Launch} {d : Nat} {X : jX} {res : (Int32 × jH)} (K : jOK G l mX12_catches (d + 7) X) (n : Nat) (E : jEnd G mX12_catches (jPW res) X) (k : Nat) : ∀ (a0 : Nat) (x1 : Int32) (x2 : Int32) (h : jH), F_X12_catches_4 n k a0 x1 x2 h = some res → jJ G X h 0 0 4 [some (.ref a0), some (.int x1), some (.int x2)] [] := by
  induction k with
  | zero =>
    intro a0 x1 x2 h hf
    exact jno (show (none : Option (Int32 × jH)) = some res from hf)
  | succ k ih =>
    intro a0 x1 x2 h hf
    exact J_X12_catches_4_b K n (F_X12_catches_4 n k) ih E a0 x1 x2 h hf
set_option maxHeartbeats 400000 in
set_option maxRecDepth 100000 in
theorem J_X12_catches {G : jG} {l : Launch} {d : Nat} {X : jX} {res : (Int32 × jH)} (K : jOK G l mX12_catches (d + 7) X) (n : Nat) (E : jEnd G mX12_catches (jPW res) X) (a0 : Nat) (h : jH) (hf : F_X12_catches n a0 h = some res) : jJ G X h 0 0 0 [some (.ref a0), none, none] [] := by
  unfold F_X12_catches at hf
  refine jr_iconst K (D_at DX12_catches_q0 0 rfl) (v := (0 : Int32)) (by decide) ?_
  refine jr_istore_n K (D_at DX12_catches_q0 1 rfl) (i := 1) rfl (by decide) (L2 := [_, _, _]) rfl ?_
  refine jr_iconst K (D_at DX12_catches_q0 2 rfl) (v := (0 : Int32)) (by decide) ?_
  refine jr_istore_n K (D_at DX12_catches_q0 3 rfl) (i := 2) rfl (by decide) (L2 := [_, _, _]) rfl ?_
  refine jr_keep [true, true, true] ?_
  exact J_X12_catches_4 K n E n a0 (0 : Int32) (0 : Int32) h hf
theorem C_X12_catches {G : jG} {l : Launch} (d : Nat) {n : Nat} {a0 : Nat} {h : jH} {res : (Int32 × jH)} (hf : F_X12_catches n a0 h = some res) : jC G l mX12_catches (d + 7) 0 0 [.ref a0] h (jPW res) :=
  jC.of pn_X12 (jcats rfl) (Nat.le_of_ble_eq_true rfl) (fun X K E => J_X12_catches K n E a0 h hf)
set_option maxHeartbeats 400000 in
set_option maxRecDepth 100000 in
theorem J_X12_falls_4_b {G : jG} {l : Launch} {d : Nat} {X : jX} {res : (Int32 × jH)} (K : jOK G l mX12_falls (d + 7) X) (n : Nat) (rc4 : Nat → Int32 → Int32 → jH → Option (Int32 × jH)) (hr4 : ∀ (a0 : Nat) (x1 : Int32) (x2 : Int32) (h : jH), rc4 a0 x1 x2 h = some res → jJ G X h 0 0 4 [some (.ref a0), some (.int x1), some (.int x2)] []) (E : jEnd G mX12_falls (jPW res) X) (a0 : Nat) (x1 : Int32) (x2 : Int32) (h : jH) (hf : F_X12_falls_4_b n rc4 a0 x1 x2 h = some res) : jJ G X h 0 0 4 [some (.ref a0), some (.int x1), some (.int x2)] [] := by
  unfold F_X12_falls_4_b at hf
  refine jr_iload_n K (D_at DX12_falls_q0 4 rfl) rfl rfl ?_
  refine jr_aload_n K (D_at DX12_falls_q0 5 rfl) rfl rfl ?_
  obtain ⟨v6, e6, hf⟩ := jbind hf
  obtain ⟨rc_6, e6⟩ := jcv_o e6
  refine jr_callV K (C_X12_rings (d + 6) e6) (D_at DX12_falls_q0 6 rfl) cv_X12_59_X12_rings (As := []) (ci := 10) rfl rc_6 rfl rfl (by exact Nat.le_of_ble_eq_true rfl) (kc2 := 0) (ks2 := 0) rfl rfl (fun k9 h9 w9 => by cases w9.1) (fun r9 h9 w9 => ?_)
  obtain ⟨w1, w2⟩ := w9
  subst h9
  cases w1
  show jJ G X _ 0 0 _ _ (.int v6 :: _)
  refine jr_icmp_ge K (D_at DX12_falls_q0 7 rfl) (tgt := 68) (by decide) (fun c9 => ?_) (fun c9 => ?_)
  · replace hf := (if_pos c9).symm.trans hf
    refine jr_iload_n K (D_at DX12_falls_q3 1 rfl) rfl rfl ?_
    cases hf
    exact jr_iret K E (D_at DX12_falls_q3 2 rfl) rfl ⟨rfl, rfl⟩
  · replace hf := (if_neg c9).symm.trans hf
    refine jr_aload_n K (D_at DX12_falls_q0 8 rfl) rfl rfl ?_
    refine jr_iload_n K (D_at DX12_falls_q0 9 rfl) rfl rfl ?_
    refine jr_bipush K (D_at DX12_falls_q0 10 rfl) (v := (6 : Int32)) (by decide) ?_
    obtain ⟨v16, e16, hf⟩ := jbind hf
    obtain ⟨rc_16, e16⟩ := jcv_o e16
    refine jr_callV K (C_X12_is (d + 4) e16) (D_at DX12_falls_q0 11 rfl) cv_X12_73_X12_is (As := [.int x2, .int (6 : Int32)]) (ci := 10) rfl rc_16 rfl rfl (by exact Nat.le_of_ble_eq_true rfl) (kc2 := 0) (ks2 := 0) rfl rfl (fun k9 h9 w9 => by cases w9.1) (fun r9 h9 w9 => ?_)
    obtain ⟨w1, w2⟩ := w9
    subst h9
    cases w1
    show jJ G X _ 0 0 _ _ (.int v16 :: _)
    refine jr_if_eq K (D_at DX12_falls_q1 0 rfl) (tgt := 62) (by decide) (fun c19 => ?_) (fun c19 => ?_)
    · replace hf := (if_pos c19).symm.trans hf
      refine jr_iinc K (D_at DX12_falls_q2 11 rfl) (i := 2) rfl (v := x2 + (1 : Int32)) (jinc (by decide)) (by decide) (L2 := [_, _, _]) rfl ?_
      refine jr_goto K (D_at DX12_falls_q3 0 rfl) (tgt := 4) (by decide) ?_
      refine jr_keep [true, true, true] ?_
      exact hr4 a0 x1 (x2 + (1 : Int32)) h hf
    · replace hf := (if_neg c19).symm.trans hf
      refine jr_aload_n K (D_at DX12_falls_q1 1 rfl) rfl rfl ?_
      refine jr_bipush K (D_at DX12_falls_q1 2 rfl) (v := (100 : Int32)) (by decide) ?_
      obtain ⟨q25, e25, hf⟩ := jbind hf
      obtain ⟨rc_25, e25⟩ := jcv_o e25
      refine jr_callV K (C_X12_drawn (d + 6) e25) (D_at DX12_falls_q1 3 rfl) cv_X12_330_X12_drawn (As := [.int (100 : Int32)]) (ci := 10) rfl rc_25 rfl rfl (by exact Nat.le_of_ble_eq_true rfl) (kc2 := 0) (ks2 := 0) rfl rfl (fun k9 h9 w9 => by cases w9.1) (fun r9 h9 w9 => ?_)
      obtain ⟨w1, w2⟩ := w9
      subst h9
      cases w1
      show jJ G X _ 0 0 _ _ (.int q25.1 :: _)
      refine jr_aload_n K (D_at DX12_falls_q1 4 rfl) rfl rfl ?_
      refine jr_iconst K (D_at DX12_falls_q1 5 rfl) (v := (2 : Int32)) (by decide) ?_
      refine jr_iload_n K (D_at DX12_falls_q1 6 rfl) rfl rfl ?_
      obtain ⟨q31, e31, hf⟩ := jbind hf
      obtain ⟨rc_31, e31⟩ := jcv_o e31
      refine jr_callV K (C_X12_byLaw (d) e31) (D_at DX12_falls_q1 7 rfl) cv_X12_280_X12_byLaw (As := [.int (2 : Int32), .int x2]) (ci := 10) rfl rc_31 rfl rfl (by exact Nat.le_of_ble_eq_true rfl) (kc2 := 0) (ks2 := 0) rfl rfl (fun k9 h9 w9 => by cases w9.1) (fun r9 h9 w9 => ?_)
      obtain ⟨w1, w2⟩ := w9
      subst h9
      cases w1
      show jJ G X _ 0 0 _ _ (.int q31.1 :: _)
      refine jr_icmp_lt K (D_at DX12_falls_q1 8 rfl) (tgt := 40) (by decide) (fun c34 => ?_) (fun c34 => ?_)
      · replace hf := (if_pos c34).symm.trans hf
        refine jr_aload_n K (D_at DX12_falls_q1 10 rfl) rfl rfl ?_
        obtain ⟨p41, e41, hf⟩ := jbind hf
        refine jr_getR K (D_at DX12_falls_q1 11 rfl) fg_X12_13_10 e41 ?_
        refine jr_iload_n K (D_at DX12_falls_q2 0 rfl) rfl rfl ?_
        refine jr_bipush K (D_at DX12_falls_q2 1 rfl) (v := (6 : Int32)) (by decide) ?_
        obtain ⟨v47, e47, hf⟩ := jbind hf
        refine jr_callS K (C_X12_at (d + 6) e47) (D_at DX12_falls_q2 2 rfl) cs_X12_63_X12_at (As := [.int x2, .int (6 : Int32)]) rfl rfl (by exact Nat.le_of_ble_eq_true rfl) (kc2 := 0) (ks2 := 0) rfl rfl (fun k9 h9 w9 => by cases w9.1) (fun r9 h9 w9 => ?_)
        obtain ⟨w1, w2⟩ := w9
        subst h9
        cases w1
        show jJ G X _ 0 0 _ _ (.int v47 :: _)
        refine jr_iconst K (D_at DX12_falls_q2 3 rfl) (v := (0 : Int32)) (by decide) ?_
        obtain ⟨h51, e51, hf⟩ := jbind hf
        refine jr_iast K (D_at DX12_falls_q2 4 rfl) e51 ?_
        refine jr_aload_n K (D_at DX12_falls_q2 5 rfl) rfl rfl ?_
        refine jr_iload_n K (D_at DX12_falls_q2 6 rfl) rfl rfl ?_
        refine jr_iconst K (D_at DX12_falls_q2 7 rfl) (v := (2 : Int32)) (by decide) ?_
        refine jr_iconst K (D_at DX12_falls_q2 8 rfl) (v := (0 : Int32)) (by decide) ?_
        obtain ⟨h56, e56, hf⟩ := jbind hf
        obtain ⟨rc_56, e56⟩ := jcv_o e56
        refine jr_callV K (C_X12_tells (d + 4) e56) (D_at DX12_falls_q2 9 rfl) cv_X12_326_X12_tells (As := [.int x2, .int (2 : Int32), .int (0 : Int32)]) (ci := 10) rfl rc_56 rfl rfl (by exact Nat.le_of_ble_eq_true rfl) (kc2 := 0) (ks2 := 0) rfl rfl (fun k9 h9 w9 => by cases w9.1) (fun r9 h9 w9 => ?_)
        obtain ⟨w1, w2⟩ := w9
        subst h9
        cases w1
        show jJ G X _ 0 0 _ _ []
        refine jr_iinc K (D_at DX12_falls_q2 10 rfl) (i := 1) rfl (v := x1 + (1 : Int32)) (jinc (by decide)) (by decide) (L2 := [_, _, _]) rfl ?_
        refine jr_iinc K (D_at DX12_falls_q2 11 rfl) (i := 2) rfl (v := x2 + (1 : Int32)) (jinc (by decide)) (by decide) (L2 := [_, _, _]) rfl ?_
        refine jr_goto K (D_at DX12_falls_q3 0 rfl) (tgt := 4) (by decide) ?_
        refine jr_keep [true, true, true] ?_
        exact hr4 a0 (x1 + (1 : Int32)) (x2 + (1 : Int32)) h56 hf
      · replace hf := (if_neg c34).symm.trans hf
        refine jr_goto K (D_at DX12_falls_q1 9 rfl) (tgt := 62) (by decide) ?_
        refine jr_iinc K (D_at DX12_falls_q2 11 rfl) (i := 2) rfl (v := x2 + (1 : Int32)) (jinc (by decide)) (by decide) (L2 := [_, _, _]) rfl ?_
        refine jr_goto K (D_at DX12_falls_q3 0 rfl) (tgt := 4) (by decide) ?_
        refine jr_keep [true, true, true] ?_
        exact hr4 a0 x1 (x2 + (1 : Int32)) q31.2 hf
theorem J_X12_falls_4 {G : jG} {l : Launch} {d : Nat} {X : jX} {res : (Int32 × jH)} (K : jOK G l mX12_falls (d + 7) X) (n : Nat) (E : jEnd G mX12_falls (jPW res) X) (k : Nat) : ∀ (a0 : Nat) (x1 : Int32) (x2 : Int32) (h : jH), F_X12_falls_4 n k a0 x1 x2 h = some res → jJ G X h 0 0 4 [some (.ref a0), some (.int x1), some (.int x2)] [] := by
  induction k with
  | zero =>
    intro a0 x1 x2 h hf
    exact jno (show (none : Option (Int32 × jH)) = some res from hf)
  | succ k ih =>
    intro a0 x1 x2 h hf
    exact J_X12_falls_4_b K n (F_X12_falls_4 n k) ih E a0 x1 x2 h hf
set_option maxHeartbeats 400000 in
set_option maxRecDepth 100000 in
theorem J_X12_falls {G : jG} {l : Launch} {d : Nat} {X : jX} {res : (Int32 × jH)} (K : jOK G l mX12_falls (d + 7) X) (n : Nat) (E : jEnd G mX12_falls (jPW res) X) (a0 : Nat) (h : jH) (hf : F_X12_falls n a0 h = some res) : jJ G X h 0 0 0 [some (.ref a0), none, none] [] := by
  unfold F_X12_falls at hf
  refine jr_iconst K (D_at DX12_falls_q0 0 rfl) (v := (0 : Int32)) (by decide) ?_
  refine jr_istore_n K (D_at DX12_falls_q0 1 rfl) (i := 1) rfl (by decide) (L2 := [_, _, _]) rfl ?_
  refine jr_iconst K (D_at DX12_falls_q0 2 rfl) (v := (0 : Int32)) (by decide) ?_
  refine jr_istore_n K (D_at DX12_falls_q0 3 rfl) (i := 2) rfl (by decide) (L2 := [_, _, _]) rfl ?_
  refine jr_keep [true, true, true] ?_
  exact J_X12_falls_4 K n E n a0 (0 : Int32) (0 : Int32) h hf
theorem C_X12_falls {G : jG} {l : Launch} (d : Nat) {n : Nat} {a0 : Nat} {h : jH} {res : (Int32 × jH)} (hf : F_X12_falls n a0 h = some res) : jC G l mX12_falls (d + 7) 0 0 [.ref a0] h (jPW res) :=
  jC.of pn_X12 (jcats rfl) (Nat.le_of_ble_eq_true rfl) (fun X K E => J_X12_falls K n E a0 h hf)
set_option maxHeartbeats 400000 in
set_option maxRecDepth 100000 in
theorem J_X12_oneHour_61 {G : jG} {l : Launch} {d : Nat} {X : jX} {res : (Int32 × jH)} (K : jOK G l mX12_oneHour (d + 8) X) (n : Nat) (E : jEnd G mX12_oneHour (jPW res) X) (a0 : Nat) (s0 : Int32) (h : jH) (hf : F_X12_oneHour_61 n a0 s0 h = some res) : jJ G X h 0 0 61 [some (.ref a0), none, none] [.int s0] := by
  unfold F_X12_oneHour_61 at hf
  refine jr_istore_n K (D_at DX12_oneHour_q2 10 rfl) (i := 2) rfl (by decide) (L2 := [_, _, _]) rfl ?_
  refine jr_aload_n K (D_at DX12_oneHour_q2 11 rfl) rfl rfl ?_
  obtain ⟨p63, e63, hf⟩ := jbind hf
  refine jr_getR K (D_at DX12_oneHour_q3 0 rfl) fg_X12_13_10 e63 ?_
  refine jr_iconst K (D_at DX12_oneHour_q3 1 rfl) (v := (3 : Int32)) (by decide) ?_
  refine jr_dup2 K (D_at DX12_oneHour_q3 2 rfl) rfl rfl ?_
  obtain ⟨v68, e68, hf⟩ := jbind hf
  refine jr_iald K (D_at DX12_oneHour_q3 3 rfl) e68 ?_
  refine jr_iconst K (D_at DX12_oneHour_q3 4 rfl) (v := (1 : Int32)) (by decide) ?_
  refine jr_iadd K (D_at DX12_oneHour_q3 5 rfl) ?_
  obtain ⟨h71, e71, hf⟩ := jbind hf
  refine jr_iast K (D_at DX12_oneHour_q3 6 rfl) e71 ?_
  refine jr_aload_n K (D_at DX12_oneHour_q3 7 rfl) rfl rfl ?_
  obtain ⟨p73, e73, hf⟩ := jbind hf
  refine jr_getR K (D_at DX12_oneHour_q3 8 rfl) fg_X12_13_10 e73 ?_
  refine jr_iconst K (D_at DX12_oneHour_q3 9 rfl) (v := (3 : Int32)) (by decide) ?_
  obtain ⟨v77, e77, hf⟩ := jbind hf
  refine jr_iald K (D_at DX12_oneHour_q3 10 rfl) e77 ?_
  refine jr_bipush K (D_at DX12_oneHour_q3 11 rfl) (v := (8 : Int32)) (by decide) ?_
  refine jr_icmp_ne K (D_at DX12_oneHour_q4 0 rfl) (tgt := 110) (by decide) (fun c80 => ?_) (fun c80 => ?_)
  · replace hf := (if_neg c80).symm.trans hf
    refine jr_iload_n K (D_at DX12_oneHour_1_q0 2 rfl) rfl rfl ?_
    cases hf
    exact jr_iret K E (D_at DX12_oneHour_1_q0 3 rfl) rfl ⟨rfl, rfl⟩
  · replace hf := (if_pos c80).symm.trans hf
    refine jr_aload_n K (D_at DX12_oneHour_q4 1 rfl) rfl rfl ?_
    obtain ⟨p84, e84, hf⟩ := jbind hf
    refine jr_getR K (D_at DX12_oneHour_q4 2 rfl) fg_X12_13_10 e84 ?_
    refine jr_iconst K (D_at DX12_oneHour_q4 3 rfl) (v := (3 : Int32)) (by decide) ?_
    refine jr_iconst K (D_at DX12_oneHour_q4 4 rfl) (v := (0 : Int32)) (by decide) ?_
    obtain ⟨h89, e89, hf⟩ := jbind hf
    refine jr_iast K (D_at DX12_oneHour_q4 5 rfl) e89 ?_
    refine jr_aload_n K (D_at DX12_oneHour_q4 6 rfl) rfl rfl ?_
    obtain ⟨p91, e91, hf⟩ := jbind hf
    refine jr_getR K (D_at DX12_oneHour_q4 7 rfl) fg_X12_13_10 e91 ?_
    refine jr_iconst K (D_at DX12_oneHour_q4 8 rfl) (v := (4 : Int32)) (by decide) ?_
    refine jr_sipush K (D_at DX12_oneHour_q4 9 rfl) (v := (9999 : Int32)) (by decide) ?_
    refine jr_aload_n K (D_at DX12_oneHour_q4 10 rfl) rfl rfl ?_
    obtain ⟨p99, e99, hf⟩ := jbind hf
    refine jr_getR K (D_at DX12_oneHour_q4 11 rfl) fg_X12_13_10 e99 ?_
    refine jr_iconst K (D_at DX12_oneHour_q5 0 rfl) (v := (4 : Int32)) (by decide) ?_
    obtain ⟨v103, e103, hf⟩ := jbind hf
    refine jr_iald K (D_at DX12_oneHour_q5 1 rfl) e103 ?_
    refine jr_iconst K (D_at DX12_oneHour_q5 2 rfl) (v := (1 : Int32)) (by decide) ?_
    refine jr_iadd K (D_at DX12_oneHour_q5 3 rfl) ?_
    refine jr_min K (D_at DX12_oneHour_1_q0 0 rfl) mm_X12_119 (by exact Nat.le_of_ble_eq_true rfl) ?_
    obtain ⟨h109, e109, hf⟩ := jbind hf
    refine jr_iast K (D_at DX12_oneHour_1_q0 1 rfl) e109 ?_
    refine jr_iload_n K (D_at DX12_oneHour_1_q0 2 rfl) rfl rfl ?_
    cases hf
    exact jr_iret K E (D_at DX12_oneHour_1_q0 3 rfl) rfl ⟨rfl, rfl⟩
set_option maxHeartbeats 400000 in
set_option maxRecDepth 100000 in
theorem J_X12_oneHour_2_b {G : jG} {l : Launch} {d : Nat} {X : jX} {res : (Int32 × jH)} (K : jOK G l mX12_oneHour (d + 8) X) (n : Nat) (rc2 : Nat → Int32 → Int32 → jH → Option (Int32 × jH)) (hr2 : ∀ (a0 : Nat) (x1 : Int32) (x2 : Int32) (h : jH), rc2 a0 x1 x2 h = some res → jJ G X h 0 0 2 [some (.ref a0), some (.int x1), some (.int x2)] []) (E : jEnd G mX12_oneHour (jPW res) X) (a0 : Nat) (x1 : Int32) (x2 : Int32) (h : jH) (hf : F_X12_oneHour_2_b n rc2 a0 x1 x2 h = some res) : jJ G X h 0 0 2 [some (.ref a0), some (.int x1), some (.int x2)] [] := by
  unfold F_X12_oneHour_2_b at hf
  refine jr_iload_n K (D_at DX12_oneHour_q0 2 rfl) rfl rfl ?_
  refine jr_aload_n K (D_at DX12_oneHour_q0 3 rfl) rfl rfl ?_
  obtain ⟨v4, e4, hf⟩ := jbind hf
  obtain ⟨rc_4, e4⟩ := jcv_o e4
  refine jr_callV K (C_X12_rings (d + 7) e4) (D_at DX12_oneHour_q0 4 rfl) cv_X12_59_X12_rings (As := []) (ci := 10) rfl rc_4 rfl rfl (by exact Nat.le_of_ble_eq_true rfl) (kc2 := 0) (ks2 := 0) rfl rfl (fun k9 h9 w9 => by cases w9.1) (fun r9 h9 w9 => ?_)
  obtain ⟨w1, w2⟩ := w9
  subst h9
  cases w1
  show jJ G X _ 0 0 _ _ (.int v4 :: _)
  refine jr_icmp_ge K (D_at DX12_oneHour_q0 5 rfl) (tgt := 44) (by decide) (fun c7 => ?_) (fun c7 => ?_)
  · replace hf := (if_pos c7).symm.trans hf
    refine jr_iload_n K (D_at DX12_oneHour_q2 1 rfl) rfl rfl ?_
    refine jr_if_eq K (D_at DX12_oneHour_q2 2 rfl) (tgt := 52) (by decide) (fun c45 => ?_) (fun c45 => ?_)
    · replace hf := (if_pos c45).symm.trans hf
      refine jr_aload_n K (D_at DX12_oneHour_q2 5 rfl) rfl rfl ?_
      obtain ⟨q53, e53, hf⟩ := jbind hf
      obtain ⟨rc_53, e53⟩ := jcv_o e53
      refine jr_callV K (C_X12_catches (d) e53) (D_at DX12_oneHour_q2 6 rfl) cv_X12_333_X12_catches (As := []) (ci := 10) rfl rc_53 rfl rfl (by exact Nat.le_of_ble_eq_true rfl) (kc2 := 0) (ks2 := 0) rfl rfl (fun k9 h9 w9 => by cases w9.1) (fun r9 h9 w9 => ?_)
      obtain ⟨w1, w2⟩ := w9
      subst h9
      cases w1
      show jJ G X _ 0 0 _ _ (.int q53.1 :: _)
      refine jr_aload_n K (D_at DX12_oneHour_q2 7 rfl) rfl rfl ?_
      obtain ⟨q57, e57, hf⟩ := jbind hf
      obtain ⟨rc_57, e57⟩ := jcv_o e57
      refine jr_callV K (C_X12_falls (d) e57) (D_at DX12_oneHour_q2 8 rfl) cv_X12_336_X12_falls (As := []) (ci := 10) rfl rc_57 rfl rfl (by exact Nat.le_of_ble_eq_true rfl) (kc2 := 0) (ks2 := 0) rfl rfl (fun k9 h9 w9 => by cases w9.1) (fun r9 h9 w9 => ?_)
      obtain ⟨w1, w2⟩ := w9
      subst h9
      cases w1
      show jJ G X _ 0 0 _ _ (.int q57.1 :: _)
      refine jr_iadd K (D_at DX12_oneHour_q2 9 rfl) ?_
      refine jr_keep [true, false, false] ?_
      exact J_X12_oneHour_61 K n E a0 (q53.1 + q57.1) q57.2 hf
    · replace hf := (if_neg c45).symm.trans hf
      refine jr_iconst K (D_at DX12_oneHour_q2 3 rfl) (v := (0 : Int32)) (by decide) ?_
      refine jr_goto K (D_at DX12_oneHour_q2 4 rfl) (tgt := 61) (by decide) ?_
      refine jr_keep [true, false, false] ?_
      exact J_X12_oneHour_61 K n E a0 (0 : Int32) h hf
  · replace hf := (if_neg c7).symm.trans hf
    refine jr_aload_n K (D_at DX12_oneHour_q0 6 rfl) rfl rfl ?_
    obtain ⟨p11, e11, hf⟩ := jbind hf
    refine jr_getR K (D_at DX12_oneHour_q0 7 rfl) fg_X12_13_10 e11 ?_
    refine jr_iload_n K (D_at DX12_oneHour_q0 8 rfl) rfl rfl ?_
    refine jr_iconst K (D_at DX12_oneHour_q0 9 rfl) (v := (4 : Int32)) (by decide) ?_
    obtain ⟨v16, e16, hf⟩ := jbind hf
    refine jr_callS K (C_X12_at (d + 7) e16) (D_at DX12_oneHour_q0 10 rfl) cs_X12_63_X12_at (As := [.int x2, .int (4 : Int32)]) rfl rfl (by exact Nat.le_of_ble_eq_true rfl) (kc2 := 0) (ks2 := 0) rfl rfl (fun k9 h9 w9 => by cases w9.1) (fun r9 h9 w9 => ?_)
    obtain ⟨w1, w2⟩ := w9
    subst h9
    cases w1
    show jJ G X _ 0 0 _ _ (.int v16 :: _)
    refine jr_bipush K (D_at DX12_oneHour_q0 11 rfl) (v := (99 : Int32)) (by decide) ?_
    refine jr_aload_n K (D_at DX12_oneHour_q1 0 rfl) rfl rfl ?_
    refine jr_iload_n K (D_at DX12_oneHour_q1 1 rfl) rfl rfl ?_
    refine jr_iconst K (D_at DX12_oneHour_q1 2 rfl) (v := (4 : Int32)) (by decide) ?_
    obtain ⟨v24, e24, hf⟩ := jbind hf
    obtain ⟨rc_24, e24⟩ := jcv_o e24
    refine jr_callV K (C_X12_of (d + 6) e24) (D_at DX12_oneHour_q1 3 rfl) cv_X12_67_X12_of (As := [.int x2, .int (4 : Int32)]) (ci := 10) rfl rc_24 rfl rfl (by exact Nat.le_of_ble_eq_true rfl) (kc2 := 0) (ks2 := 0) rfl rfl (fun k9 h9 w9 => by cases w9.1) (fun r9 h9 w9 => ?_)
    obtain ⟨w1, w2⟩ := w9
    subst h9
    cases w1
    show jJ G X _ 0 0 _ _ (.int v24 :: _)
    refine jr_aload_n K (D_at DX12_oneHour_q1 4 rfl) rfl rfl ?_
    refine jr_iconst K (D_at DX12_oneHour_q1 5 rfl) (v := (0 : Int32)) (by decide) ?_
    refine jr_iload_n K (D_at DX12_oneHour_q1 6 rfl) rfl rfl ?_
    obtain ⟨q30, e30, hf⟩ := jbind hf
    obtain ⟨rc_30, e30⟩ := jcv_o e30
    refine jr_callV K (C_X12_byLaw (d + 1) e30) (D_at DX12_oneHour_q1 7 rfl) cv_X12_280_X12_byLaw (As := [.int (0 : Int32), .int x2]) (ci := 10) rfl rc_30 rfl rfl (by exact Nat.le_of_ble_eq_true rfl) (kc2 := 0) (ks2 := 0) rfl rfl (fun k9 h9 w9 => by cases w9.1) (fun r9 h9 w9 => ?_)
    obtain ⟨w1, w2⟩ := w9
    subst h9
    cases w1
    show jJ G X _ 0 0 _ _ (.int q30.1 :: _)
    refine jr_iadd K (D_at DX12_oneHour_q1 8 rfl) ?_
    refine jr_min K (D_at DX12_oneHour_q1 9 rfl) mm_X12_119 (by exact Nat.le_of_ble_eq_true rfl) ?_
    obtain ⟨h37, e37, hf⟩ := jbind hf
    refine jr_iast K (D_at DX12_oneHour_q1 10 rfl) e37 ?_
    refine jr_iinc K (D_at DX12_oneHour_q1 11 rfl) (i := 2) rfl (v := x2 + (1 : Int32)) (jinc (by decide)) (by decide) (L2 := [_, _, _]) rfl ?_
    refine jr_goto K (D_at DX12_oneHour_q2 0 rfl) (tgt := 2) (by decide) ?_
    refine jr_keep [true, true, true] ?_
    exact hr2 a0 x1 (x2 + (1 : Int32)) h37 hf
theorem J_X12_oneHour_2 {G : jG} {l : Launch} {d : Nat} {X : jX} {res : (Int32 × jH)} (K : jOK G l mX12_oneHour (d + 8) X) (n : Nat) (E : jEnd G mX12_oneHour (jPW res) X) (k : Nat) : ∀ (a0 : Nat) (x1 : Int32) (x2 : Int32) (h : jH), F_X12_oneHour_2 n k a0 x1 x2 h = some res → jJ G X h 0 0 2 [some (.ref a0), some (.int x1), some (.int x2)] [] := by
  induction k with
  | zero =>
    intro a0 x1 x2 h hf
    exact jno (show (none : Option (Int32 × jH)) = some res from hf)
  | succ k ih =>
    intro a0 x1 x2 h hf
    exact J_X12_oneHour_2_b K n (F_X12_oneHour_2 n k) ih E a0 x1 x2 h hf
set_option maxHeartbeats 400000 in
set_option maxRecDepth 100000 in
theorem J_X12_oneHour {G : jG} {l : Launch} {d : Nat} {X : jX} {res : (Int32 × jH)} (K : jOK G l mX12_oneHour (d + 8) X) (n : Nat) (E : jEnd G mX12_oneHour (jPW res) X) (a0 : Nat) (x1 : Int32) (h : jH) (hf : F_X12_oneHour n a0 x1 h = some res) : jJ G X h 0 0 0 [some (.ref a0), some (.int x1), none] [] := by
  unfold F_X12_oneHour at hf
  refine jr_iconst K (D_at DX12_oneHour_q0 0 rfl) (v := (0 : Int32)) (by decide) ?_
  refine jr_istore_n K (D_at DX12_oneHour_q0 1 rfl) (i := 2) rfl (by decide) (L2 := [_, _, _]) rfl ?_
  refine jr_keep [true, true, true] ?_
  exact J_X12_oneHour_2 K n E n a0 x1 (0 : Int32) h hf
theorem C_X12_oneHour {G : jG} {l : Launch} (d : Nat) {n : Nat} {a0 : Nat} {x1 : Int32} {h : jH} {res : (Int32 × jH)} (hf : F_X12_oneHour n a0 x1 h = some res) : jC G l mX12_oneHour (d + 8) 0 0 [.ref a0, .int x1] h (jPW res) :=
  jC.of pn_X12 (jcats rfl) (Nat.le_of_ble_eq_true rfl) (fun X K E => J_X12_oneHour K n E a0 x1 h hf)
set_option maxHeartbeats 400000 in
set_option maxRecDepth 100000 in
theorem J_X12_goesOn_5_b {G : jG} {l : Launch} {d : Nat} {X : jX} {res : (Int32 × jH)} (K : jOK G l mX12_goesOn (d + 9) X) (n : Nat) (rc5 : Nat → Int32 → Int32 → Int32 → Int32 → jH → Option (Int32 × jH)) (hr5 : ∀ (a0 : Nat) (x1 : Int32) (x2 : Int32) (x3 : Int32) (x4 : Int32) (h : jH), rc5 a0 x1 x2 x3 x4 h = some res → jJ G X h 0 0 5 [some (.ref a0), some (.int x1), some (.int x2), some (.int x3), some (.int x4)] []) (E : jEnd G mX12_goesOn (jPW res) X) (a0 : Nat) (x1 : Int32) (x2 : Int32) (x3 : Int32) (x4 : Int32) (h : jH) (hf : F_X12_goesOn_5_b n rc5 a0 x1 x2 x3 x4 h = some res) : jJ G X h 0 0 5 [some (.ref a0), some (.int x1), some (.int x2), some (.int x3), some (.int x4)] [] := by
  unfold F_X12_goesOn_5_b at hf
  refine jr_iload K (D_at DX12_goesOn_q0 4 rfl) rfl ?_
  refine jr_iload_n K (D_at DX12_goesOn_q0 5 rfl) rfl rfl ?_
  refine jr_icmp_ge K (D_at DX12_goesOn_q0 6 rfl) (tgt := 25) (by decide) (fun c8 => ?_) (fun c8 => ?_)
  · replace hf := (if_pos c8).symm.trans hf
    refine jr_iload_n K (D_at DX12_goesOn_q1 3 rfl) rfl rfl ?_
    cases hf
    exact jr_iret K E (D_at DX12_goesOn_q1 4 rfl) rfl ⟨rfl, rfl⟩
  · replace hf := (if_neg c8).symm.trans hf
    refine jr_iload_n K (D_at DX12_goesOn_q0 7 rfl) rfl rfl ?_
    refine jr_aload_n K (D_at DX12_goesOn_q0 8 rfl) rfl rfl ?_
    refine jr_iload_n K (D_at DX12_goesOn_q0 9 rfl) rfl rfl ?_
    obtain ⟨q14, e14, hf⟩ := jbind hf
    obtain ⟨rc_14, e14⟩ := jcv_o e14
    refine jr_callV K (C_X12_oneHour (d) e14) (D_at DX12_goesOn_q0 10 rfl) cv_X12_339_X12_oneHour (As := [.int x2]) (ci := 10) rfl rc_14 rfl rfl (by exact Nat.le_of_ble_eq_true rfl) (kc2 := 0) (ks2 := 0) rfl rfl (fun k9 h9 w9 => by cases w9.1) (fun r9 h9 w9 => ?_)
    obtain ⟨w1, w2⟩ := w9
    subst h9
    cases w1
    show jJ G X _ 0 0 _ _ (.int q14.1 :: _)
    refine jr_iadd K (D_at DX12_goesOn_q0 11 rfl) ?_
    refine jr_istore_n K (D_at DX12_goesOn_q1 0 rfl) (i := 3) rfl (by decide) (L2 := [_, _, _, _, _]) rfl ?_
    refine jr_iinc K (D_at DX12_goesOn_q1 1 rfl) (i := 4) rfl (v := x4 + (1 : Int32)) (jinc (by decide)) (by decide) (L2 := [_, _, _, _, _]) rfl ?_
    refine jr_goto K (D_at DX12_goesOn_q1 2 rfl) (tgt := 5) (by decide) ?_
    refine jr_keep [true, true, true, true, true] ?_
    exact hr5 a0 x1 x2 (x3 + q14.1) (x4 + (1 : Int32)) q14.2 hf
theorem J_X12_goesOn_5 {G : jG} {l : Launch} {d : Nat} {X : jX} {res : (Int32 × jH)} (K : jOK G l mX12_goesOn (d + 9) X) (n : Nat) (E : jEnd G mX12_goesOn (jPW res) X) (k : Nat) : ∀ (a0 : Nat) (x1 : Int32) (x2 : Int32) (x3 : Int32) (x4 : Int32) (h : jH), F_X12_goesOn_5 n k a0 x1 x2 x3 x4 h = some res → jJ G X h 0 0 5 [some (.ref a0), some (.int x1), some (.int x2), some (.int x3), some (.int x4)] [] := by
  induction k with
  | zero =>
    intro a0 x1 x2 x3 x4 h hf
    exact jno (show (none : Option (Int32 × jH)) = some res from hf)
  | succ k ih =>
    intro a0 x1 x2 x3 x4 h hf
    exact J_X12_goesOn_5_b K n (F_X12_goesOn_5 n k) ih E a0 x1 x2 x3 x4 h hf
set_option maxHeartbeats 400000 in
set_option maxRecDepth 100000 in
theorem J_X12_goesOn {G : jG} {l : Launch} {d : Nat} {X : jX} {res : (Int32 × jH)} (K : jOK G l mX12_goesOn (d + 9) X) (n : Nat) (E : jEnd G mX12_goesOn (jPW res) X) (a0 : Nat) (x1 : Int32) (x2 : Int32) (h : jH) (hf : F_X12_goesOn n a0 x1 x2 h = some res) : jJ G X h 0 0 0 [some (.ref a0), some (.int x1), some (.int x2), none, none] [] := by
  unfold F_X12_goesOn at hf
  refine jr_iconst K (D_at DX12_goesOn_q0 0 rfl) (v := (0 : Int32)) (by decide) ?_
  refine jr_istore_n K (D_at DX12_goesOn_q0 1 rfl) (i := 3) rfl (by decide) (L2 := [_, _, _, _, _]) rfl ?_
  refine jr_iconst K (D_at DX12_goesOn_q0 2 rfl) (v := (0 : Int32)) (by decide) ?_
  refine jr_istore K (D_at DX12_goesOn_q0 3 rfl) (i := 4) (by decide) (L2 := [_, _, _, _, _]) rfl ?_
  refine jr_keep [true, true, true, true, true] ?_
  exact J_X12_goesOn_5 K n E n a0 x1 x2 (0 : Int32) (0 : Int32) h hf
theorem C_X12_goesOn {G : jG} {l : Launch} (d : Nat) {n : Nat} {a0 : Nat} {x1 : Int32} {x2 : Int32} {h : jH} {res : (Int32 × jH)} (hf : F_X12_goesOn n a0 x1 x2 h = some res) : jC G l mX12_goesOn (d + 9) 0 0 [.ref a0, .int x1, .int x2] h (jPW res) :=
  jC.of pn_X12 (jcats rfl) (Nat.le_of_ble_eq_true rfl) (fun X K E => J_X12_goesOn K n E a0 x1 x2 h hf)
set_option maxHeartbeats 400000 in
set_option maxRecDepth 100000 in
theorem J_X12_keepsAll_2_b {G : jG} {l : Launch} {d : Nat} {X : jX} {res : jH} (K : jOK G l mX12_keepsAll (d) X) (n : Nat) (rc2 : Nat → Int32 → jH → Option jH) (hr2 : ∀ (a0 : Nat) (x1 : Int32) (h : jH), rc2 a0 x1 h = some res → jJ G X h 0 0 2 [some (.ref a0), some (.int x1)] []) (E : jEnd G mX12_keepsAll (jPV res) X) (a0 : Nat) (x1 : Int32) (h : jH) (hf : F_X12_keepsAll_2_b n rc2 a0 x1 h = some res) : jJ G X h 0 0 2 [some (.ref a0), some (.int x1)] [] := by
  unfold F_X12_keepsAll_2_b at hf
  refine jr_iload_n K (D_at DX12_keepsAll_q0 2 rfl) rfl rfl ?_
  refine jr_sipush K (D_at DX12_keepsAll_q0 3 rfl) (v := (435 : Int32)) (by decide) ?_
  refine jr_icmp_ge K (D_at DX12_keepsAll_q0 4 rfl) (tgt := 27) (by decide) (fun c6 => ?_) (fun c6 => ?_)
  · replace hf := (if_pos c6).symm.trans hf
    cases hf
    exact jr_vret K E (D_at DX12_keepsAll_q1 3 rfl) rfl ⟨rfl, rfl⟩
  · replace hf := (if_neg c6).symm.trans hf
    refine jr_aload_n K (D_at DX12_keepsAll_q0 5 rfl) rfl rfl ?_
    obtain ⟨p10, e10, hf⟩ := jbind hf
    refine jr_getR K (D_at DX12_keepsAll_q0 6 rfl) fg_X12_23_10 e10 ?_
    refine jr_iload_n K (D_at DX12_keepsAll_q0 7 rfl) rfl rfl ?_
    refine jr_aload_n K (D_at DX12_keepsAll_q0 8 rfl) rfl rfl ?_
    obtain ⟨p15, e15, hf⟩ := jbind hf
    refine jr_getR K (D_at DX12_keepsAll_q0 9 rfl) fg_X12_13_10 e15 ?_
    refine jr_iload_n K (D_at DX12_keepsAll_q0 10 rfl) rfl rfl ?_
    obtain ⟨v19, e19, hf⟩ := jbind hf
    refine jr_iald K (D_at DX12_keepsAll_q0 11 rfl) e19 ?_
    obtain ⟨h20, e20, hf⟩ := jbind hf
    refine jr_iast K (D_at DX12_keepsAll_q1 0 rfl) e20 ?_
    refine jr_iinc K (D_at DX12_keepsAll_q1 1 rfl) (i := 1) rfl (v := x1 + (1 : Int32)) (jinc (by decide)) (by decide) (L2 := [_, _]) rfl ?_
    refine jr_goto K (D_at DX12_keepsAll_q1 2 rfl) (tgt := 2) (by decide) ?_
    refine jr_keep [true, true] ?_
    exact hr2 a0 (x1 + (1 : Int32)) h20 hf
theorem J_X12_keepsAll_2 {G : jG} {l : Launch} {d : Nat} {X : jX} {res : jH} (K : jOK G l mX12_keepsAll (d) X) (n : Nat) (E : jEnd G mX12_keepsAll (jPV res) X) (k : Nat) : ∀ (a0 : Nat) (x1 : Int32) (h : jH), F_X12_keepsAll_2 n k a0 x1 h = some res → jJ G X h 0 0 2 [some (.ref a0), some (.int x1)] [] := by
  induction k with
  | zero =>
    intro a0 x1 h hf
    exact jno (show (none : Option jH) = some res from hf)
  | succ k ih =>
    intro a0 x1 h hf
    exact J_X12_keepsAll_2_b K n (F_X12_keepsAll_2 n k) ih E a0 x1 h hf
set_option maxHeartbeats 400000 in
set_option maxRecDepth 100000 in
theorem J_X12_keepsAll {G : jG} {l : Launch} {d : Nat} {X : jX} {res : jH} (K : jOK G l mX12_keepsAll (d) X) (n : Nat) (E : jEnd G mX12_keepsAll (jPV res) X) (a0 : Nat) (h : jH) (hf : F_X12_keepsAll n a0 h = some res) : jJ G X h 0 0 0 [some (.ref a0), none] [] := by
  unfold F_X12_keepsAll at hf
  refine jr_iconst K (D_at DX12_keepsAll_q0 0 rfl) (v := (0 : Int32)) (by decide) ?_
  refine jr_istore_n K (D_at DX12_keepsAll_q0 1 rfl) (i := 1) rfl (by decide) (L2 := [_, _]) rfl ?_
  refine jr_keep [true, true] ?_
  exact J_X12_keepsAll_2 K n E n a0 (0 : Int32) h hf
theorem C_X12_keepsAll {G : jG} {l : Launch} (d : Nat) {n : Nat} {a0 : Nat} {h : jH} {res : jH} (hf : F_X12_keepsAll n a0 h = some res) : jC G l mX12_keepsAll (d) 0 0 [.ref a0] h (jPV res) :=
  jC.of pn_X12 (jcats rfl) (Nat.le_of_ble_eq_true rfl) (fun X K E => J_X12_keepsAll K n E a0 h hf)
set_option maxHeartbeats 400000 in
set_option maxRecDepth 100000 in
theorem J_X12_bringsBack_2_b {G : jG} {l : Launch} {d : Nat} {X : jX} {res : jH} (K : jOK G l mX12_bringsBack (d) X) (n : Nat) (rc2 : Nat → Int32 → jH → Option jH) (hr2 : ∀ (a0 : Nat) (x1 : Int32) (h : jH), rc2 a0 x1 h = some res → jJ G X h 0 0 2 [some (.ref a0), some (.int x1)] []) (E : jEnd G mX12_bringsBack (jPV res) X) (a0 : Nat) (x1 : Int32) (h : jH) (hf : F_X12_bringsBack_2_b n rc2 a0 x1 h = some res) : jJ G X h 0 0 2 [some (.ref a0), some (.int x1)] [] := by
  unfold F_X12_bringsBack_2_b at hf
  refine jr_iload_n K (D_at DX12_bringsBack_q0 2 rfl) rfl rfl ?_
  refine jr_sipush K (D_at DX12_bringsBack_q0 3 rfl) (v := (435 : Int32)) (by decide) ?_
  refine jr_icmp_ge K (D_at DX12_bringsBack_q0 4 rfl) (tgt := 27) (by decide) (fun c6 => ?_) (fun c6 => ?_)
  · replace hf := (if_pos c6).symm.trans hf
    cases hf
    exact jr_vret K E (D_at DX12_bringsBack_q1 3 rfl) rfl ⟨rfl, rfl⟩
  · replace hf := (if_neg c6).symm.trans hf
    refine jr_aload_n K (D_at DX12_bringsBack_q0 5 rfl) rfl rfl ?_
    obtain ⟨p10, e10, hf⟩ := jbind hf
    refine jr_getR K (D_at DX12_bringsBack_q0 6 rfl) fg_X12_13_10 e10 ?_
    refine jr_iload_n K (D_at DX12_bringsBack_q0 7 rfl) rfl rfl ?_
    refine jr_aload_n K (D_at DX12_bringsBack_q0 8 rfl) rfl rfl ?_
    obtain ⟨p15, e15, hf⟩ := jbind hf
    refine jr_getR K (D_at DX12_bringsBack_q0 9 rfl) fg_X12_23_10 e15 ?_
    refine jr_iload_n K (D_at DX12_bringsBack_q0 10 rfl) rfl rfl ?_
    obtain ⟨v19, e19, hf⟩ := jbind hf
    refine jr_iald K (D_at DX12_bringsBack_q0 11 rfl) e19 ?_
    obtain ⟨h20, e20, hf⟩ := jbind hf
    refine jr_iast K (D_at DX12_bringsBack_q1 0 rfl) e20 ?_
    refine jr_iinc K (D_at DX12_bringsBack_q1 1 rfl) (i := 1) rfl (v := x1 + (1 : Int32)) (jinc (by decide)) (by decide) (L2 := [_, _]) rfl ?_
    refine jr_goto K (D_at DX12_bringsBack_q1 2 rfl) (tgt := 2) (by decide) ?_
    refine jr_keep [true, true] ?_
    exact hr2 a0 (x1 + (1 : Int32)) h20 hf
theorem J_X12_bringsBack_2 {G : jG} {l : Launch} {d : Nat} {X : jX} {res : jH} (K : jOK G l mX12_bringsBack (d) X) (n : Nat) (E : jEnd G mX12_bringsBack (jPV res) X) (k : Nat) : ∀ (a0 : Nat) (x1 : Int32) (h : jH), F_X12_bringsBack_2 n k a0 x1 h = some res → jJ G X h 0 0 2 [some (.ref a0), some (.int x1)] [] := by
  induction k with
  | zero =>
    intro a0 x1 h hf
    exact jno (show (none : Option jH) = some res from hf)
  | succ k ih =>
    intro a0 x1 h hf
    exact J_X12_bringsBack_2_b K n (F_X12_bringsBack_2 n k) ih E a0 x1 h hf
set_option maxHeartbeats 400000 in
set_option maxRecDepth 100000 in
theorem J_X12_bringsBack {G : jG} {l : Launch} {d : Nat} {X : jX} {res : jH} (K : jOK G l mX12_bringsBack (d) X) (n : Nat) (E : jEnd G mX12_bringsBack (jPV res) X) (a0 : Nat) (h : jH) (hf : F_X12_bringsBack n a0 h = some res) : jJ G X h 0 0 0 [some (.ref a0), none] [] := by
  unfold F_X12_bringsBack at hf
  refine jr_iconst K (D_at DX12_bringsBack_q0 0 rfl) (v := (0 : Int32)) (by decide) ?_
  refine jr_istore_n K (D_at DX12_bringsBack_q0 1 rfl) (i := 1) rfl (by decide) (L2 := [_, _]) rfl ?_
  refine jr_keep [true, true] ?_
  exact J_X12_bringsBack_2 K n E n a0 (0 : Int32) h hf
theorem C_X12_bringsBack {G : jG} {l : Launch} (d : Nat) {n : Nat} {a0 : Nat} {h : jH} {res : jH} (hf : F_X12_bringsBack n a0 h = some res) : jC G l mX12_bringsBack (d) 0 0 [.ref a0] h (jPV res) :=
  jC.of pn_X12 (jcats rfl) (Nat.le_of_ble_eq_true rfl) (fun X K E => J_X12_bringsBack K n E a0 h hf)
set_option maxHeartbeats 400000 in
set_option maxRecDepth 100000 in
theorem J_X12_hours_21 {G : jG} {l : Launch} {d : Nat} {X : jX} {res : (Int32 × jH)} (K : jOK G l mX12_hours (d + 10) X) (n : Nat) (E : jEnd G mX12_hours (jPW res) X) (a0 : Nat) (x1 : Int32) (sa0 : Nat) (s1 : Int32) (h : jH) (hf : F_X12_hours_21 n a0 x1 sa0 s1 h = some res) : jJ G X h 0 0 21 [some (.ref a0), some (.int x1)] [.int s1, .ref sa0] := by
  unfold F_X12_hours_21 at hf
  refine jr_iconst K (D_at DX12_hours_q1 0 rfl) (v := (1 : Int32)) (by decide) ?_
  obtain ⟨q22, e22, hf⟩ := jbind hf
  obtain ⟨rc_22, e22⟩ := jcv_o e22
  refine jr_callV K (C_X12_throwsIf (d + 9) e22) (D_at DX12_hours_q1 1 rfl) cv_X12_250_X12_throwsIf (As := [.int s1, .int (1 : Int32)]) (ci := 10) rfl rc_22 rfl rfl (by exact Nat.le_of_ble_eq_true rfl) (kc2 := 0) (ks2 := 0) rfl rfl (fun k9 h9 w9 => by cases w9.1) (fun r9 h9 w9 => ?_)
  obtain ⟨w1, w2⟩ := w9
  subst h9
  cases w1
  show jJ G X _ 0 0 _ _ (.int q22.1 :: _)
  refine jr_if_eq K (D_at DX12_hours_q1 2 rfl) (tgt := 30) (by decide) (fun c25 => ?_) (fun c25 => ?_)
  · replace hf := (if_pos c25).symm.trans hf
    refine jr_aload_n K (D_at DX12_hours_q1 5 rfl) rfl rfl ?_
    obtain ⟨h31, e31, hf⟩ := jbind hf
    obtain ⟨rc_31, e31⟩ := jcv_o e31
    refine jr_callV K (C_X12_remembers (d + 9) e31) (D_at DX12_hours_q1 6 rfl) cv_X12_319_X12_remembers (As := []) (ci := 10) rfl rc_31 rfl rfl (by exact Nat.le_of_ble_eq_true rfl) (kc2 := 0) (ks2 := 0) rfl rfl (fun k9 h9 w9 => by cases w9.1) (fun r9 h9 w9 => ?_)
    obtain ⟨w1, w2⟩ := w9
    subst h9
    cases w1
    show jJ G X _ 0 0 _ _ []
    refine jr_aload_n K (D_at DX12_hours_q1 7 rfl) rfl rfl ?_
    refine jr_iload_n K (D_at DX12_hours_q1 8 rfl) rfl rfl ?_
    refine jr_iconst K (D_at DX12_hours_q1 9 rfl) (v := (0 : Int32)) (by decide) ?_
    obtain ⟨q37, e37, hf⟩ := jbind hf
    obtain ⟨rc_37, e37⟩ := jcv_o e37
    refine jr_callV K (C_X12_goesOn (d) e37) (D_at DX12_hours_q1 10 rfl) cv_X12_342_X12_goesOn (As := [.int x1, .int (0 : Int32)]) (ci := 10) rfl rc_37 rfl rfl (by exact Nat.le_of_ble_eq_true rfl) (kc2 := 0) (ks2 := 0) rfl rfl (fun k9 h9 w9 => by cases w9.1) (fun r9 h9 w9 => ?_)
    obtain ⟨w1, w2⟩ := w9
    subst h9
    cases w1
    show jJ G X _ 0 0 _ _ (.int q37.1 :: _)
    cases hf
    exact jr_iret K E (D_at DX12_hours_q1 11 rfl) rfl ⟨rfl, rfl⟩
  · replace hf := (if_neg c25).symm.trans hf
    refine jr_iconst K (D_at DX12_hours_q1 3 rfl) (v := (0 : Int32)) (by decide) ?_
    cases hf
    exact jr_iret K E (D_at DX12_hours_q1 4 rfl) rfl ⟨rfl, rfl⟩
set_option maxHeartbeats 400000 in
set_option maxRecDepth 100000 in
theorem J_X12_hours {G : jG} {l : Launch} {d : Nat} {X : jX} {res : (Int32 × jH)} (K : jOK G l mX12_hours (d + 10) X) (n : Nat) (E : jEnd G mX12_hours (jPW res) X) (a0 : Nat) (x1 : Int32) (h : jH) (hf : F_X12_hours n a0 x1 h = some res) : jJ G X h 0 0 0 [some (.ref a0), some (.int x1)] [] := by
  unfold F_X12_hours at hf
  refine jr_aload_n K (D_at DX12_hours_q0 0 rfl) rfl rfl ?_
  refine jr_iconst K (D_at DX12_hours_q0 1 rfl) (v := (0 : Int32)) (by decide) ?_
  obtain ⟨h2, e2, hf⟩ := jbind hf
  refine jr_putI K (D_at DX12_hours_q0 2 rfl) fp_X12_3_10 (Or.inl rfl) e2 ?_
  refine jr_aload_n K (D_at DX12_hours_q0 3 rfl) rfl rfl ?_
  refine jr_iload_n K (D_at DX12_hours_q0 4 rfl) rfl rfl ?_
  refine jr_iconst K (D_at DX12_hours_q0 5 rfl) (v := (1 : Int32)) (by decide) ?_
  refine jr_bipush K (D_at DX12_hours_q0 6 rfl) (v := (80 : Int32)) (by decide) ?_
  obtain ⟨v10, e10, hf⟩ := jbind hf
  refine jr_callS K (C_X12_in (d + 9) e10) (D_at DX12_hours_q0 7 rfl) cs_X12_77_X12_in (As := [.int x1, .int (1 : Int32), .int (80 : Int32)]) rfl rfl (by exact Nat.le_of_ble_eq_true rfl) (kc2 := 0) (ks2 := 0) rfl rfl (fun k9 h9 w9 => by cases w9.1) (fun r9 h9 w9 => ?_)
  obtain ⟨w1, w2⟩ := w9
  subst h9
  cases w1
  show jJ G X _ 0 0 _ _ (.int v10 :: _)
  refine jr_if_ne K (D_at DX12_hours_q0 8 rfl) (tgt := 20) (by decide) (fun c13 => ?_) (fun c13 => ?_)
  · replace hf := (if_neg c13).symm.trans hf
    refine jr_iconst K (D_at DX12_hours_q0 11 rfl) (v := (0 : Int32)) (by decide) ?_
    refine jr_keep [true, true] ?_
    exact J_X12_hours_21 K n E a0 x1 a0 (0 : Int32) h2 hf
  · replace hf := (if_pos c13).symm.trans hf
    refine jr_iconst K (D_at DX12_hours_q0 9 rfl) (v := (1 : Int32)) (by decide) ?_
    refine jr_goto K (D_at DX12_hours_q0 10 rfl) (tgt := 21) (by decide) ?_
    refine jr_keep [true, true] ?_
    exact J_X12_hours_21 K n E a0 x1 a0 (1 : Int32) h2 hf
theorem C_X12_hours {G : jG} {l : Launch} (d : Nat) {n : Nat} {a0 : Nat} {x1 : Int32} {h : jH} {res : (Int32 × jH)} (hf : F_X12_hours n a0 x1 h = some res) : jC G l mX12_hours (d + 10) 0 0 [.ref a0, .int x1] h (jPW res) :=
  jC.of pn_X12 (jcats rfl) (Nat.le_of_ble_eq_true rfl) (fun X K E => J_X12_hours K n E a0 x1 h hf)
set_option maxHeartbeats 400000 in
set_option maxRecDepth 100000 in
theorem J_X12_noAhead {G : jG} {l : Launch} {d : Nat} {X : jX} {res : Int32} (K : jOK G l mX12_noAhead (d + 1) X) (n : Nat) (h : jH) (E : jEnd G mX12_noAhead (jPR h res) X) (x0 : Int32) (hf : F_X12_noAhead n x0 h = some res) : jJ G X h 0 0 0 [some (.int x0)] [] := by
  unfold F_X12_noAhead at hf
  refine jr_iload_n K (D_at DX12_noAhead_q0 0 rfl) rfl rfl ?_
  refine jr_iconst K (D_at DX12_noAhead_q0 1 rfl) (v := (0 : Int32)) (by decide) ?_
  refine jr_bipush K (D_at DX12_noAhead_q0 2 rfl) (v := (80 : Int32)) (by decide) ?_
  obtain ⟨v4, e4, hf⟩ := jbind hf
  refine jr_callS K (C_X12_in (d) e4) (D_at DX12_noAhead_q0 3 rfl) cs_X12_77_X12_in (As := [.int x0, .int (0 : Int32), .int (80 : Int32)]) rfl rfl (by exact Nat.le_of_ble_eq_true rfl) (kc2 := 0) (ks2 := 0) rfl rfl (fun k9 h9 w9 => by cases w9.1) (fun r9 h9 w9 => ?_)
  obtain ⟨w1, w2⟩ := w9
  subst h9
  cases w1
  show jJ G X _ 0 0 _ _ (.int v4 :: _)
  refine jr_if_ne K (D_at DX12_noAhead_q0 4 rfl) (tgt := 14) (by decide) (fun c7 => ?_) (fun c7 => ?_)
  · replace hf := (if_neg c7).symm.trans hf
    refine jr_iconst K (D_at DX12_noAhead_q0 7 rfl) (v := (0 : Int32)) (by decide) ?_
    cases hf
    exact jr_zret K E (D_at DX12_noAhead_q0 8 rfl) rfl (Or.inl rfl) ⟨rfl, rfl⟩
  · replace hf := (if_pos c7).symm.trans hf
    refine jr_iconst K (D_at DX12_noAhead_q0 5 rfl) (v := (1 : Int32)) (by decide) ?_
    refine jr_goto K (D_at DX12_noAhead_q0 6 rfl) (tgt := 15) (by decide) ?_
    cases hf
    exact jr_zret K E (D_at DX12_noAhead_q0 8 rfl) rfl (Or.inr rfl) ⟨rfl, rfl⟩
theorem C_X12_noAhead {G : jG} {l : Launch} (d : Nat) {n : Nat} {x0 : Int32} {h : jH} {res : Int32} (hf : F_X12_noAhead n x0 h = some res) : jC G l mX12_noAhead (d + 1) 0 0 [.int x0] h (jPR h res) :=
  jC.of pn_X12 (jcats rfl) (Nat.le_of_ble_eq_true rfl) (fun X K E => J_X12_noAhead K n h E x0 hf)
set_option maxHeartbeats 400000 in
set_option maxRecDepth 100000 in
theorem J_X12_ahead {G : jG} {l : Launch} {d : Nat} {X : jX} {res : (Int32 × jH)} (K : jOK G l mX12_ahead (d + 10) X) (n : Nat) (E : jEnd G mX12_ahead (jPW res) X) (a0 : Nat) (x1 : Int32) (x2 : Int32) (h : jH) (hf : F_X12_ahead n a0 x1 x2 h = some res) : jJ G X h 0 0 0 [some (.ref a0), some (.int x1), some (.int x2), none] [] := by
  unfold F_X12_ahead at hf
  refine jr_aload_n K (D_at DX12_ahead_q0 0 rfl) rfl rfl ?_
  refine jr_iconst K (D_at DX12_ahead_q0 1 rfl) (v := (0 : Int32)) (by decide) ?_
  obtain ⟨h2, e2, hf⟩ := jbind hf
  refine jr_putI K (D_at DX12_ahead_q0 2 rfl) fp_X12_3_10 (Or.inl rfl) e2 ?_
  refine jr_aload_n K (D_at DX12_ahead_q0 3 rfl) rfl rfl ?_
  refine jr_aload_n K (D_at DX12_ahead_q0 4 rfl) rfl rfl ?_
  refine jr_iload_n K (D_at DX12_ahead_q0 5 rfl) rfl rfl ?_
  obtain ⟨v8, e8, hf⟩ := jbind hf
  obtain ⟨rc_8, e8⟩ := jcv_o e8
  refine jr_callV K (C_X12_noRing (d + 7) e8) (D_at DX12_ahead_q0 6 rfl) cv_X12_277_X12_noRing (As := [.int x1]) (ci := 10) rfl rc_8 rfl rfl (by exact Nat.le_of_ble_eq_true rfl) (kc2 := 0) (ks2 := 0) rfl rfl (fun k9 h9 w9 => by cases w9.1) (fun r9 h9 w9 => ?_)
  obtain ⟨w1, w2⟩ := w9
  subst h9
  cases w1
  show jJ G X _ 0 0 _ _ (.int v8 :: _)
  refine jr_iconst K (D_at DX12_ahead_q0 7 rfl) (v := (1 : Int32)) (by decide) ?_
  obtain ⟨q12, e12, hf⟩ := jbind hf
  obtain ⟨rc_12, e12⟩ := jcv_o e12
  refine jr_callV K (C_X12_throwsIf (d + 9) e12) (D_at DX12_ahead_q0 8 rfl) cv_X12_250_X12_throwsIf (As := [.int v8, .int (1 : Int32)]) (ci := 10) rfl rc_12 rfl rfl (by exact Nat.le_of_ble_eq_true rfl) (kc2 := 0) (ks2 := 0) rfl rfl (fun k9 h9 w9 => by cases w9.1) (fun r9 h9 w9 => ?_)
  obtain ⟨w1, w2⟩ := w9
  subst h9
  cases w1
  show jJ G X _ 0 0 _ _ (.int q12.1 :: _)
  refine jr_if_ne K (D_at DX12_ahead_q0 9 rfl) (tgt := 30) (by decide) (fun c15 => ?_) (fun c15 => ?_)
  · replace hf := (if_neg c15).symm.trans hf
    refine jr_iconst K (D_at DX12_ahead_q1 4 rfl) (v := (0 : Int32)) (by decide) ?_
    cases hf
    exact jr_iret K E (D_at DX12_ahead_q1 5 rfl) rfl ⟨rfl, rfl⟩
  · replace hf := (if_pos c15).symm.trans hf
    refine jr_aload_n K (D_at DX12_ahead_q0 10 rfl) rfl rfl ?_
    refine jr_iload_n K (D_at DX12_ahead_q0 11 rfl) rfl rfl ?_
    obtain ⟨v20, e20, hf⟩ := jbind hf
    refine jr_callS K (C_X12_noAhead (d + 8) e20) (D_at DX12_ahead_q1 0 rfl) cs_X12_345_X12_noAhead (As := [.int x2]) rfl rfl (by exact Nat.le_of_ble_eq_true rfl) (kc2 := 0) (ks2 := 0) rfl rfl (fun k9 h9 w9 => by cases w9.1) (fun r9 h9 w9 => ?_)
    obtain ⟨w1, w2⟩ := w9
    subst h9
    cases w1
    show jJ G X _ 0 0 _ _ (.int v20 :: _)
    refine jr_iconst K (D_at DX12_ahead_q1 1 rfl) (v := (2 : Int32)) (by decide) ?_
    obtain ⟨q24, e24, hf⟩ := jbind hf
    obtain ⟨rc_24, e24⟩ := jcv_o e24
    refine jr_callV K (C_X12_throwsIf (d + 9) e24) (D_at DX12_ahead_q1 2 rfl) cv_X12_250_X12_throwsIf (As := [.int v20, .int (2 : Int32)]) (ci := 10) rfl rc_24 rfl rfl (by exact Nat.le_of_ble_eq_true rfl) (kc2 := 0) (ks2 := 0) rfl rfl (fun k9 h9 w9 => by cases w9.1) (fun r9 h9 w9 => ?_)
    obtain ⟨w1, w2⟩ := w9
    subst h9
    cases w1
    show jJ G X _ 0 0 _ _ (.int q24.1 :: _)
    refine jr_if_eq K (D_at DX12_ahead_q1 3 rfl) (tgt := 32) (by decide) (fun c27 => ?_) (fun c27 => ?_)
    · replace hf := (if_pos c27).symm.trans hf
      refine jr_aload_n K (D_at DX12_ahead_q1 6 rfl) rfl rfl ?_
      obtain ⟨h33, e33, hf⟩ := jbind hf
      obtain ⟨rc_33, e33⟩ := jcv_o e33
      refine jr_callV K (C_X12_keepsAll (d + 9) e33) (D_at DX12_ahead_q1 7 rfl) cv_X12_348_X12_keepsAll (As := []) (ci := 10) rfl rc_33 rfl rfl (by exact Nat.le_of_ble_eq_true rfl) (kc2 := 0) (ks2 := 0) rfl rfl (fun k9 h9 w9 => by cases w9.1) (fun r9 h9 w9 => ?_)
      obtain ⟨w1, w2⟩ := w9
      subst h9
      cases w1
      show jJ G X _ 0 0 _ _ []
      refine jr_aload_n K (D_at DX12_ahead_q1 8 rfl) rfl rfl ?_
      refine jr_iload_n K (D_at DX12_ahead_q1 9 rfl) rfl rfl ?_
      refine jr_iconst K (D_at DX12_ahead_q1 10 rfl) (v := (1 : Int32)) (by decide) ?_
      obtain ⟨q39, e39, hf⟩ := jbind hf
      obtain ⟨rc_39, e39⟩ := jcv_o e39
      refine jr_callV K (C_X12_goesOn (d) e39) (D_at DX12_ahead_q1 11 rfl) cv_X12_342_X12_goesOn (As := [.int x2, .int (1 : Int32)]) (ci := 10) rfl rc_39 rfl rfl (by exact Nat.le_of_ble_eq_true rfl) (kc2 := 0) (ks2 := 0) rfl rfl (fun k9 h9 w9 => by cases w9.1) (fun r9 h9 w9 => ?_)
      obtain ⟨w1, w2⟩ := w9
      subst h9
      cases w1
      show jJ G X _ 0 0 _ _ (.int q39.1 :: _)
      refine jr_pop K (D_at DX12_ahead_q2 0 rfl) rfl ?_
      refine jr_aload_n K (D_at DX12_ahead_q2 1 rfl) rfl rfl ?_
      refine jr_iload_n K (D_at DX12_ahead_q2 2 rfl) rfl rfl ?_
      refine jr_iconst K (D_at DX12_ahead_q2 3 rfl) (v := (4 : Int32)) (by decide) ?_
      obtain ⟨v46, e46, hf⟩ := jbind hf
      obtain ⟨rc_46, e46⟩ := jcv_o e46
      refine jr_callV K (C_X12_of (d + 8) e46) (D_at DX12_ahead_q2 4 rfl) cv_X12_67_X12_of (As := [.int x1, .int (4 : Int32)]) (ci := 10) rfl rc_46 rfl rfl (by exact Nat.le_of_ble_eq_true rfl) (kc2 := 0) (ks2 := 0) rfl rfl (fun k9 h9 w9 => by cases w9.1) (fun r9 h9 w9 => ?_)
      obtain ⟨w1, w2⟩ := w9
      subst h9
      cases w1
      show jJ G X _ 0 0 _ _ (.int v46 :: _)
      refine jr_istore_n K (D_at DX12_ahead_q2 5 rfl) (i := 3) rfl (by decide) (L2 := [_, _, _, _]) rfl ?_
      refine jr_aload_n K (D_at DX12_ahead_q2 6 rfl) rfl rfl ?_
      obtain ⟨h51, e51, hf⟩ := jbind hf
      obtain ⟨rc_51, e51⟩ := jcv_o e51
      refine jr_callV K (C_X12_bringsBack (d + 9) e51) (D_at DX12_ahead_q2 7 rfl) cv_X12_351_X12_bringsBack (As := []) (ci := 10) rfl rc_51 rfl rfl (by exact Nat.le_of_ble_eq_true rfl) (kc2 := 0) (ks2 := 0) rfl rfl (fun k9 h9 w9 => by cases w9.1) (fun r9 h9 w9 => ?_)
      obtain ⟨w1, w2⟩ := w9
      subst h9
      cases w1
      show jJ G X _ 0 0 _ _ []
      refine jr_iload_n K (D_at DX12_ahead_q2 8 rfl) rfl rfl ?_
      cases hf
      exact jr_iret K E (D_at DX12_ahead_q2 9 rfl) rfl ⟨rfl, rfl⟩
    · replace hf := (if_neg c27).symm.trans hf
      refine jr_iconst K (D_at DX12_ahead_q1 4 rfl) (v := (0 : Int32)) (by decide) ?_
      cases hf
      exact jr_iret K E (D_at DX12_ahead_q1 5 rfl) rfl ⟨rfl, rfl⟩
theorem C_X12_ahead {G : jG} {l : Launch} (d : Nat) {n : Nat} {a0 : Nat} {x1 : Int32} {x2 : Int32} {h : jH} {res : (Int32 × jH)} (hf : F_X12_ahead n a0 x1 x2 h = some res) : jC G l mX12_ahead (d + 10) 0 0 [.ref a0, .int x1, .int x2] h (jPW res) :=
  jC.of pn_X12 (jcats rfl) (Nat.le_of_ble_eq_true rfl) (fun X K E => J_X12_ahead K n E a0 x1 x2 h hf)
set_option maxHeartbeats 400000 in
set_option maxRecDepth 100000 in
theorem J_X12_faded {G : jG} {l : Launch} {d : Nat} {X : jX} {res : (Int32 × jH)} (K : jOK G l mX12_faded (d + 10) X) (n : Nat) (E : jEnd G mX12_faded (jPW res) X) (a0 : Nat) (x1 : Int32) (h : jH) (hf : F_X12_faded n a0 x1 h = some res) : jJ G X h 0 0 0 [some (.ref a0), some (.int x1), none] [] := by
  unfold F_X12_faded at hf
  refine jr_aload_n K (D_at DX12_faded_q0 0 rfl) rfl rfl ?_
  refine jr_iconst K (D_at DX12_faded_q0 1 rfl) (v := (0 : Int32)) (by decide) ?_
  obtain ⟨h2, e2, hf⟩ := jbind hf
  refine jr_putI K (D_at DX12_faded_q0 2 rfl) fp_X12_3_10 (Or.inl rfl) e2 ?_
  refine jr_aload_n K (D_at DX12_faded_q0 3 rfl) rfl rfl ?_
  refine jr_iload_n K (D_at DX12_faded_q0 4 rfl) rfl rfl ?_
  obtain ⟨v7, e7, hf⟩ := jbind hf
  refine jr_callS K (C_X12_noAhead (d + 8) e7) (D_at DX12_faded_q0 5 rfl) cs_X12_345_X12_noAhead (As := [.int x1]) rfl rfl (by exact Nat.le_of_ble_eq_true rfl) (kc2 := 0) (ks2 := 0) rfl rfl (fun k9 h9 w9 => by cases w9.1) (fun r9 h9 w9 => ?_)
  obtain ⟨w1, w2⟩ := w9
  subst h9
  cases w1
  show jJ G X _ 0 0 _ _ (.int v7 :: _)
  refine jr_iconst K (D_at DX12_faded_q0 6 rfl) (v := (1 : Int32)) (by decide) ?_
  obtain ⟨q11, e11, hf⟩ := jbind hf
  obtain ⟨rc_11, e11⟩ := jcv_o e11
  refine jr_callV K (C_X12_throwsIf (d + 9) e11) (D_at DX12_faded_q0 7 rfl) cv_X12_250_X12_throwsIf (As := [.int v7, .int (1 : Int32)]) (ci := 10) rfl rc_11 rfl rfl (by exact Nat.le_of_ble_eq_true rfl) (kc2 := 0) (ks2 := 0) rfl rfl (fun k9 h9 w9 => by cases w9.1) (fun r9 h9 w9 => ?_)
  obtain ⟨w1, w2⟩ := w9
  subst h9
  cases w1
  show jJ G X _ 0 0 _ _ (.int q11.1 :: _)
  refine jr_if_eq K (D_at DX12_faded_q0 8 rfl) (tgt := 19) (by decide) (fun c14 => ?_) (fun c14 => ?_)
  · replace hf := (if_pos c14).symm.trans hf
    refine jr_aload_n K (D_at DX12_faded_q0 11 rfl) rfl rfl ?_
    obtain ⟨h20, e20, hf⟩ := jbind hf
    obtain ⟨rc_20, e20⟩ := jcv_o e20
    refine jr_callV K (C_X12_keepsAll (d + 9) e20) (D_at DX12_faded_q1 0 rfl) cv_X12_348_X12_keepsAll (As := []) (ci := 10) rfl rc_20 rfl rfl (by exact Nat.le_of_ble_eq_true rfl) (kc2 := 0) (ks2 := 0) rfl rfl (fun k9 h9 w9 => by cases w9.1) (fun r9 h9 w9 => ?_)
    obtain ⟨w1, w2⟩ := w9
    subst h9
    cases w1
    show jJ G X _ 0 0 _ _ []
    refine jr_aload_n K (D_at DX12_faded_q1 1 rfl) rfl rfl ?_
    refine jr_iload_n K (D_at DX12_faded_q1 2 rfl) rfl rfl ?_
    refine jr_iconst K (D_at DX12_faded_q1 3 rfl) (v := (1 : Int32)) (by decide) ?_
    obtain ⟨q26, e26, hf⟩ := jbind hf
    obtain ⟨rc_26, e26⟩ := jcv_o e26
    refine jr_callV K (C_X12_goesOn (d) e26) (D_at DX12_faded_q1 4 rfl) cv_X12_342_X12_goesOn (As := [.int x1, .int (1 : Int32)]) (ci := 10) rfl rc_26 rfl rfl (by exact Nat.le_of_ble_eq_true rfl) (kc2 := 0) (ks2 := 0) rfl rfl (fun k9 h9 w9 => by cases w9.1) (fun r9 h9 w9 => ?_)
    obtain ⟨w1, w2⟩ := w9
    subst h9
    cases w1
    show jJ G X _ 0 0 _ _ (.int q26.1 :: _)
    refine jr_pop K (D_at DX12_faded_q1 5 rfl) rfl ?_
    refine jr_aload_n K (D_at DX12_faded_q1 6 rfl) rfl rfl ?_
    obtain ⟨v31, e31, hf⟩ := jbind hf
    obtain ⟨rc_31, e31⟩ := jcv_o e31
    refine jr_callV K (C_X12_fadesOfAll (d + 7) e31) (D_at DX12_faded_q1 7 rfl) cv_X12_270_X12_fadesOfAll (As := []) (ci := 10) rfl rc_31 rfl rfl (by exact Nat.le_of_ble_eq_true rfl) (kc2 := 0) (ks2 := 0) rfl rfl (fun k9 h9 w9 => by cases w9.1) (fun r9 h9 w9 => ?_)
    obtain ⟨w1, w2⟩ := w9
    subst h9
    cases w1
    show jJ G X _ 0 0 _ _ (.int v31 :: _)
    refine jr_istore_n K (D_at DX12_faded_q1 8 rfl) (i := 2) rfl (by decide) (L2 := [_, _, _]) rfl ?_
    refine jr_aload_n K (D_at DX12_faded_q1 9 rfl) rfl rfl ?_
    obtain ⟨h36, e36, hf⟩ := jbind hf
    obtain ⟨rc_36, e36⟩ := jcv_o e36
    refine jr_callV K (C_X12_bringsBack (d + 9) e36) (D_at DX12_faded_q1 10 rfl) cv_X12_351_X12_bringsBack (As := []) (ci := 10) rfl rc_36 rfl rfl (by exact Nat.le_of_ble_eq_true rfl) (kc2 := 0) (ks2 := 0) rfl rfl (fun k9 h9 w9 => by cases w9.1) (fun r9 h9 w9 => ?_)
    obtain ⟨w1, w2⟩ := w9
    subst h9
    cases w1
    show jJ G X _ 0 0 _ _ []
    refine jr_iload_n K (D_at DX12_faded_q1 11 rfl) rfl rfl ?_
    cases hf
    exact jr_iret K E (D_at DX12_faded_q2 0 rfl) rfl ⟨rfl, rfl⟩
  · replace hf := (if_neg c14).symm.trans hf
    refine jr_iconst K (D_at DX12_faded_q0 9 rfl) (v := (0 : Int32)) (by decide) ?_
    cases hf
    exact jr_iret K E (D_at DX12_faded_q0 10 rfl) rfl ⟨rfl, rfl⟩
theorem C_X12_faded {G : jG} {l : Launch} (d : Nat) {n : Nat} {a0 : Nat} {x1 : Int32} {h : jH} {res : (Int32 × jH)} (hf : F_X12_faded n a0 x1 h = some res) : jC G l mX12_faded (d + 10) 0 0 [.ref a0, .int x1] h (jPW res) :=
  jC.of pn_X12 (jcats rfl) (Nat.le_of_ble_eq_true rfl) (fun X K E => J_X12_faded K n E a0 x1 h hf)
set_option maxHeartbeats 400000 in
set_option maxRecDepth 100000 in
theorem J_X12_somePale_4_b {G : jG} {l : Launch} {d : Nat} {X : jX} {res : Int32} (K : jOK G l mX12_somePale (d + 2) X) (n : Nat) (h : jH) (rc4 : Nat → Int32 → Int32 → jH → Option Int32) (hr4 : ∀ (a0 : Nat) (x1 : Int32) (x2 : Int32), rc4 a0 x1 x2 h = some res → jJ G X h 0 0 4 [some (.ref a0), some (.int x1), some (.int x2)] []) (E : jEnd G mX12_somePale (jPR h res) X) (a0 : Nat) (x1 : Int32) (x2 : Int32) (hf : F_X12_somePale_4_b n rc4 a0 x1 x2 h = some res) : jJ G X h 0 0 4 [some (.ref a0), some (.int x1), some (.int x2)] [] := by
  unfold F_X12_somePale_4_b at hf
  refine jr_iload_n K (D_at DX12_somePale_q0 4 rfl) rfl rfl ?_
  refine jr_aload_n K (D_at DX12_somePale_q0 5 rfl) rfl rfl ?_
  obtain ⟨v6, e6, hf⟩ := jbind hf
  obtain ⟨rc_6, e6⟩ := jcv_o e6
  refine jr_callV K (C_X12_rings (d + 1) e6) (D_at DX12_somePale_q0 6 rfl) cv_X12_59_X12_rings (As := []) (ci := 10) rfl rc_6 rfl rfl (by exact Nat.le_of_ble_eq_true rfl) (kc2 := 0) (ks2 := 0) rfl rfl (fun k9 h9 w9 => by cases w9.1) (fun r9 h9 w9 => ?_)
  obtain ⟨w1, w2⟩ := w9
  subst h9
  cases w1
  show jJ G X _ 0 0 _ _ (.int v6 :: _)
  refine jr_icmp_ge K (D_at DX12_somePale_q0 7 rfl) (tgt := 39) (by decide) (fun c9 => ?_) (fun c9 => ?_)
  · replace hf := (if_pos c9).symm.trans hf
    refine jr_iload_n K (D_at DX12_somePale_q1 10 rfl) rfl rfl ?_
    by_cases z9 : x1 = 0 ∨ x1 = 1
    · replace hf := (if_pos z9).symm.trans hf
      cases hf
      exact jr_zret K E (D_at DX12_somePale_q1 11 rfl) rfl z9 ⟨rfl, rfl⟩
    · exact jno (show (none : Option Int32) = some res from (if_neg z9).symm.trans hf)
  · replace hf := (if_neg c9).symm.trans hf
    refine jr_iload_n K (D_at DX12_somePale_q0 8 rfl) rfl rfl ?_
    refine jr_if_ne K (D_at DX12_somePale_q0 9 rfl) (tgt := 27) (by decide) (fun c13 => ?_) (fun c13 => ?_)
    · replace hf := (if_neg c13).symm.trans hf
      refine jr_iconst K (D_at DX12_somePale_q1 4 rfl) (v := (1 : Int32)) (by decide) ?_
      refine jr_goto K (D_at DX12_somePale_q1 5 rfl) (tgt := 32) (by decide) ?_
      refine jr_istore_n K (D_at DX12_somePale_q1 7 rfl) (i := 1) rfl (by decide) (L2 := [_, _, _]) rfl ?_
      refine jr_iinc K (D_at DX12_somePale_q1 8 rfl) (i := 2) rfl (v := x2 + (1 : Int32)) (jinc (by decide)) (by decide) (L2 := [_, _, _]) rfl ?_
      refine jr_goto K (D_at DX12_somePale_q1 9 rfl) (tgt := 4) (by decide) ?_
      refine jr_keep [true, true, true] ?_
      exact hr4 a0 (1 : Int32) (x2 + (1 : Int32)) hf
    · replace hf := (if_pos c13).symm.trans hf
      refine jr_aload_n K (D_at DX12_somePale_q0 10 rfl) rfl rfl ?_
      refine jr_iload_n K (D_at DX12_somePale_q0 11 rfl) rfl rfl ?_
      refine jr_iconst K (D_at DX12_somePale_q1 0 rfl) (v := (4 : Int32)) (by decide) ?_
      obtain ⟨v19, e19, hf⟩ := jbind hf
      obtain ⟨rc_19, e19⟩ := jcv_o e19
      refine jr_callV K (C_X12_of (d) e19) (D_at DX12_somePale_q1 1 rfl) cv_X12_67_X12_of (As := [.int x2, .int (4 : Int32)]) (ci := 10) rfl rc_19 rfl rfl (by exact Nat.le_of_ble_eq_true rfl) (kc2 := 0) (ks2 := 0) rfl rfl (fun k9 h9 w9 => by cases w9.1) (fun r9 h9 w9 => ?_)
      obtain ⟨w1, w2⟩ := w9
      subst h9
      cases w1
      show jJ G X _ 0 0 _ _ (.int v19 :: _)
      refine jr_bipush K (D_at DX12_somePale_q1 2 rfl) (v := (99 : Int32)) (by decide) ?_
      refine jr_icmp_ne K (D_at DX12_somePale_q1 3 rfl) (tgt := 31) (by decide) (fun c24 => ?_) (fun c24 => ?_)
      · replace hf := (if_neg c24).symm.trans hf
        refine jr_iconst K (D_at DX12_somePale_q1 6 rfl) (v := (0 : Int32)) (by decide) ?_
        refine jr_istore_n K (D_at DX12_somePale_q1 7 rfl) (i := 1) rfl (by decide) (L2 := [_, _, _]) rfl ?_
        refine jr_iinc K (D_at DX12_somePale_q1 8 rfl) (i := 2) rfl (v := x2 + (1 : Int32)) (jinc (by decide)) (by decide) (L2 := [_, _, _]) rfl ?_
        refine jr_goto K (D_at DX12_somePale_q1 9 rfl) (tgt := 4) (by decide) ?_
        refine jr_keep [true, true, true] ?_
        exact hr4 a0 (0 : Int32) (x2 + (1 : Int32)) hf
      · replace hf := (if_pos c24).symm.trans hf
        refine jr_iconst K (D_at DX12_somePale_q1 4 rfl) (v := (1 : Int32)) (by decide) ?_
        refine jr_goto K (D_at DX12_somePale_q1 5 rfl) (tgt := 32) (by decide) ?_
        refine jr_istore_n K (D_at DX12_somePale_q1 7 rfl) (i := 1) rfl (by decide) (L2 := [_, _, _]) rfl ?_
        refine jr_iinc K (D_at DX12_somePale_q1 8 rfl) (i := 2) rfl (v := x2 + (1 : Int32)) (jinc (by decide)) (by decide) (L2 := [_, _, _]) rfl ?_
        refine jr_goto K (D_at DX12_somePale_q1 9 rfl) (tgt := 4) (by decide) ?_
        refine jr_keep [true, true, true] ?_
        exact hr4 a0 (1 : Int32) (x2 + (1 : Int32)) hf
theorem J_X12_somePale_4 {G : jG} {l : Launch} {d : Nat} {X : jX} {res : Int32} (K : jOK G l mX12_somePale (d + 2) X) (n : Nat) (h : jH) (E : jEnd G mX12_somePale (jPR h res) X) (k : Nat) : ∀ (a0 : Nat) (x1 : Int32) (x2 : Int32), F_X12_somePale_4 n k a0 x1 x2 h = some res → jJ G X h 0 0 4 [some (.ref a0), some (.int x1), some (.int x2)] [] := by
  induction k with
  | zero =>
    intro a0 x1 x2 hf
    exact jno (show (none : Option Int32) = some res from hf)
  | succ k ih =>
    intro a0 x1 x2 hf
    exact J_X12_somePale_4_b K n h (F_X12_somePale_4 n k) ih E a0 x1 x2 hf
set_option maxHeartbeats 400000 in
set_option maxRecDepth 100000 in
theorem J_X12_somePale {G : jG} {l : Launch} {d : Nat} {X : jX} {res : Int32} (K : jOK G l mX12_somePale (d + 2) X) (n : Nat) (h : jH) (E : jEnd G mX12_somePale (jPR h res) X) (a0 : Nat) (hf : F_X12_somePale n a0 h = some res) : jJ G X h 0 0 0 [some (.ref a0), none, none] [] := by
  unfold F_X12_somePale at hf
  refine jr_iconst K (D_at DX12_somePale_q0 0 rfl) (v := (0 : Int32)) (by decide) ?_
  refine jr_istore_n K (D_at DX12_somePale_q0 1 rfl) (i := 1) rfl (by decide) (L2 := [_, _, _]) rfl ?_
  refine jr_iconst K (D_at DX12_somePale_q0 2 rfl) (v := (0 : Int32)) (by decide) ?_
  refine jr_istore_n K (D_at DX12_somePale_q0 3 rfl) (i := 2) rfl (by decide) (L2 := [_, _, _]) rfl ?_
  refine jr_keep [true, true, true] ?_
  exact J_X12_somePale_4 K n h E n a0 (0 : Int32) (0 : Int32) hf
theorem C_X12_somePale {G : jG} {l : Launch} (d : Nat) {n : Nat} {a0 : Nat} {h : jH} {res : Int32} (hf : F_X12_somePale n a0 h = some res) : jC G l mX12_somePale (d + 2) 0 0 [.ref a0] h (jPR h res) :=
  jC.of pn_X12 (jcats rfl) (Nat.le_of_ble_eq_true rfl) (fun X K E => J_X12_somePale K n h E a0 hf)
set_option maxHeartbeats 400000 in
set_option maxRecDepth 100000 in
theorem J_X12_pale_49 {G : jG} {l : Launch} {d : Nat} {X : jX} {res : (Int32 × jH)} (K : jOK G l mX12_pale (d + 9) X) (n : Nat) (E : jEnd G mX12_pale (jPW res) X) (a0 : Nat) (x1 : Int32) (h : jH) (hf : F_X12_pale_49 n a0 x1 h = some res) : jJ G X h 0 0 49 [some (.ref a0), some (.int x1), none] [] := by
  unfold F_X12_pale_49 at hf
  refine jr_aload_n K (D_at DX12_pale_q2 4 rfl) rfl rfl ?_
  obtain ⟨h50, e50, hf⟩ := jbind hf
  obtain ⟨rc_50, e50⟩ := jcv_o e50
  refine jr_callV K (C_X12_bringsBack (d + 8) e50) (D_at DX12_pale_q2 5 rfl) cv_X12_351_X12_bringsBack (As := []) (ci := 10) rfl rc_50 rfl rfl (by exact Nat.le_of_ble_eq_true rfl) (kc2 := 0) (ks2 := 0) rfl rfl (fun k9 h9 w9 => by cases w9.1) (fun r9 h9 w9 => ?_)
  obtain ⟨w1, w2⟩ := w9
  subst h9
  cases w1
  show jJ G X _ 0 0 _ _ []
  refine jr_iload_n K (D_at DX12_pale_q2 6 rfl) rfl rfl ?_
  cases hf
  exact jr_iret K E (D_at DX12_pale_q2 7 rfl) rfl ⟨rfl, rfl⟩
set_option maxHeartbeats 400000 in
set_option maxRecDepth 100000 in
theorem J_X12_pale_36 {G : jG} {l : Launch} {d : Nat} {X : jX} {res : (Int32 × jH)} (K : jOK G l mX12_pale (d + 9) X) (n : Nat) (rc13 : Nat → Int32 → Int32 → jH → Option (Int32 × jH)) (hr13 : ∀ (a0 : Nat) (x1 : Int32) (x2 : Int32) (h : jH), rc13 a0 x1 x2 h = some res → jJ G X h 0 0 13 [some (.ref a0), some (.int x1), some (.int x2)] []) (E : jEnd G mX12_pale (jPW res) X) (a0 : Nat) (x2 : Int32) (s0 : Int32) (h : jH) (hf : F_X12_pale_36 n rc13 a0 x2 s0 h = some res) : jJ G X h 0 0 36 [some (.ref a0), none, some (.int x2)] [.int s0] := by
  unfold F_X12_pale_36 at hf
  refine jr_istore_n K (D_at DX12_pale_q1 9 rfl) (i := 1) rfl (by decide) (L2 := [_, _, _]) rfl ?_
  refine jr_aload_n K (D_at DX12_pale_q1 10 rfl) rfl rfl ?_
  refine jr_iconst K (D_at DX12_pale_q1 11 rfl) (v := (1 : Int32)) (by decide) ?_
  obtain ⟨q39, e39, hf⟩ := jbind hf
  obtain ⟨rc_39, e39⟩ := jcv_o e39
  refine jr_callV K (C_X12_oneHour (d) e39) (D_at DX12_pale_q2 0 rfl) cv_X12_339_X12_oneHour (As := [.int (1 : Int32)]) (ci := 10) rfl rc_39 rfl rfl (by exact Nat.le_of_ble_eq_true rfl) (kc2 := 0) (ks2 := 0) rfl rfl (fun k9 h9 w9 => by cases w9.1) (fun r9 h9 w9 => ?_)
  obtain ⟨w1, w2⟩ := w9
  subst h9
  cases w1
  show jJ G X _ 0 0 _ _ (.int q39.1 :: _)
  refine jr_pop K (D_at DX12_pale_q2 1 rfl) rfl ?_
  refine jr_iinc K (D_at DX12_pale_q2 2 rfl) (i := 2) rfl (v := x2 + (1 : Int32)) (jinc (by decide)) (by decide) (L2 := [_, _, _]) rfl ?_
  refine jr_goto K (D_at DX12_pale_q2 3 rfl) (tgt := 13) (by decide) ?_
  refine jr_keep [true, true, true] ?_
  exact hr13 a0 s0 (x2 + (1 : Int32)) q39.2 hf
set_option maxHeartbeats 400000 in
set_option maxRecDepth 100000 in
theorem J_X12_pale_13_b {G : jG} {l : Launch} {d : Nat} {X : jX} {res : (Int32 × jH)} (K : jOK G l mX12_pale (d + 9) X) (n : Nat) (rc13 : Nat → Int32 → Int32 → jH → Option (Int32 × jH)) (hr13 : ∀ (a0 : Nat) (x1 : Int32) (x2 : Int32) (h : jH), rc13 a0 x1 x2 h = some res → jJ G X h 0 0 13 [some (.ref a0), some (.int x1), some (.int x2)] []) (E : jEnd G mX12_pale (jPW res) X) (a0 : Nat) (x1 : Int32) (x2 : Int32) (h : jH) (hf : F_X12_pale_13_b n rc13 a0 x1 x2 h = some res) : jJ G X h 0 0 13 [some (.ref a0), some (.int x1), some (.int x2)] [] := by
  unfold F_X12_pale_13_b at hf
  refine jr_iload_n K (D_at DX12_pale_q0 9 rfl) rfl rfl ?_
  refine jr_bipush K (D_at DX12_pale_q0 10 rfl) (v := (80 : Int32)) (by decide) ?_
  refine jr_icmp_gt K (D_at DX12_pale_q0 11 rfl) (tgt := 49) (by decide) (fun c16 => ?_) (fun c16 => ?_)
  · replace hf := (if_pos c16).symm.trans hf
    refine jr_keep [true, true, false] ?_
    exact J_X12_pale_49 K n E a0 x1 h hf
  · replace hf := (if_neg c16).symm.trans hf
    refine jr_iload_n K (D_at DX12_pale_q1 0 rfl) rfl rfl ?_
    refine jr_iconst K (D_at DX12_pale_q1 1 rfl) (v := (-1 : Int32)) (by decide) ?_
    refine jr_icmp_ne K (D_at DX12_pale_q1 2 rfl) (tgt := 49) (by decide) (fun c21 => ?_) (fun c21 => ?_)
    · replace hf := (if_neg c21).symm.trans hf
      refine jr_keep [true, true, false] ?_
      exact J_X12_pale_49 K n E a0 x1 h hf
    · replace hf := (if_pos c21).symm.trans hf
      refine jr_aload_n K (D_at DX12_pale_q1 3 rfl) rfl rfl ?_
      obtain ⟨v25, e25, hf⟩ := jbind hf
      obtain ⟨rc_25, e25⟩ := jcv_o e25
      refine jr_callV K (C_X12_somePale (d + 6) e25) (D_at DX12_pale_q1 4 rfl) cv_X12_354_X12_somePale (As := []) (ci := 10) rfl rc_25 rfl rfl (by exact Nat.le_of_ble_eq_true rfl) (kc2 := 0) (ks2 := 0) rfl rfl (fun k9 h9 w9 => by cases w9.1) (fun r9 h9 w9 => ?_)
      obtain ⟨w1, w2⟩ := w9
      subst h9
      cases w1
      show jJ G X _ 0 0 _ _ (.int v25 :: _)
      refine jr_if_eq K (D_at DX12_pale_q1 5 rfl) (tgt := 35) (by decide) (fun c28 => ?_) (fun c28 => ?_)
      · replace hf := (if_pos c28).symm.trans hf
        refine jr_iconst K (D_at DX12_pale_q1 8 rfl) (v := (-1 : Int32)) (by decide) ?_
        refine jr_keep [true, false, true] ?_
        exact J_X12_pale_36 K n rc13 hr13 E a0 x2 (-1 : Int32) h hf
      · replace hf := (if_neg c28).symm.trans hf
        refine jr_iload_n K (D_at DX12_pale_q1 6 rfl) rfl rfl ?_
        refine jr_goto K (D_at DX12_pale_q1 7 rfl) (tgt := 36) (by decide) ?_
        refine jr_keep [true, false, true] ?_
        exact J_X12_pale_36 K n rc13 hr13 E a0 x2 x2 h hf
theorem J_X12_pale_13 {G : jG} {l : Launch} {d : Nat} {X : jX} {res : (Int32 × jH)} (K : jOK G l mX12_pale (d + 9) X) (n : Nat) (E : jEnd G mX12_pale (jPW res) X) (k : Nat) : ∀ (a0 : Nat) (x1 : Int32) (x2 : Int32) (h : jH), F_X12_pale_13 n k a0 x1 x2 h = some res → jJ G X h 0 0 13 [some (.ref a0), some (.int x1), some (.int x2)] [] := by
  induction k with
  | zero =>
    intro a0 x1 x2 h hf
    exact jno (show (none : Option (Int32 × jH)) = some res from hf)
  | succ k ih =>
    intro a0 x1 x2 h hf
    exact J_X12_pale_13_b K n (F_X12_pale_13 n k) ih E a0 x1 x2 h hf
set_option maxHeartbeats 400000 in
set_option maxRecDepth 100000 in
theorem J_X12_pale {G : jG} {l : Launch} {d : Nat} {X : jX} {res : (Int32 × jH)} (K : jOK G l mX12_pale (d + 9) X) (n : Nat) (E : jEnd G mX12_pale (jPW res) X) (a0 : Nat) (h : jH) (hf : F_X12_pale n a0 h = some res) : jJ G X h 0 0 0 [some (.ref a0), none, none] [] := by
  unfold F_X12_pale at hf
  refine jr_aload_n K (D_at DX12_pale_q0 0 rfl) rfl rfl ?_
  refine jr_iconst K (D_at DX12_pale_q0 1 rfl) (v := (0 : Int32)) (by decide) ?_
  obtain ⟨h2, e2, hf⟩ := jbind hf
  refine jr_putI K (D_at DX12_pale_q0 2 rfl) fp_X12_3_10 (Or.inl rfl) e2 ?_
  refine jr_iconst K (D_at DX12_pale_q0 3 rfl) (v := (-1 : Int32)) (by decide) ?_
  refine jr_istore_n K (D_at DX12_pale_q0 4 rfl) (i := 1) rfl (by decide) (L2 := [_, _, _]) rfl ?_
  refine jr_aload_n K (D_at DX12_pale_q0 5 rfl) rfl rfl ?_
  obtain ⟨h8, e8, hf⟩ := jbind hf
  obtain ⟨rc_8, e8⟩ := jcv_o e8
  refine jr_callV K (C_X12_keepsAll (d + 8) e8) (D_at DX12_pale_q0 6 rfl) cv_X12_348_X12_keepsAll (As := []) (ci := 10) rfl rc_8 rfl rfl (by exact Nat.le_of_ble_eq_true rfl) (kc2 := 0) (ks2 := 0) rfl rfl (fun k9 h9 w9 => by cases w9.1) (fun r9 h9 w9 => ?_)
  obtain ⟨w1, w2⟩ := w9
  subst h9
  cases w1
  show jJ G X _ 0 0 _ _ []
  refine jr_iconst K (D_at DX12_pale_q0 7 rfl) (v := (0 : Int32)) (by decide) ?_
  refine jr_istore_n K (D_at DX12_pale_q0 8 rfl) (i := 2) rfl (by decide) (L2 := [_, _, _]) rfl ?_
  refine jr_keep [true, true, true] ?_
  exact J_X12_pale_13 K n E n a0 (-1 : Int32) (0 : Int32) h8 hf
theorem C_X12_pale {G : jG} {l : Launch} (d : Nat) {n : Nat} {a0 : Nat} {h : jH} {res : (Int32 × jH)} (hf : F_X12_pale n a0 h = some res) : jC G l mX12_pale (d + 9) 0 0 [.ref a0] h (jPW res) :=
  jC.of pn_X12 (jcats rfl) (Nat.le_of_ble_eq_true rfl) (fun X K E => J_X12_pale K n E a0 h hf)
set_option maxHeartbeats 400000 in
set_option maxRecDepth 100000 in
theorem J_X12_shadeNow_44_b {G : jG} {l : Launch} {d : Nat} {X : jX} {res : Int32} (K : jOK G l mX12_shadeNow (d + 3) X) (n : Nat) (h : jH) (rc4 : Nat → Int32 → Int32 → jH → Option Int32) (hr4 : ∀ (a0 : Nat) (x1 : Int32) (x2 : Int32), rc4 a0 x1 x2 h = some res → jJ G X h 0 0 4 [some (.ref a0), some (.int x1), some (.int x2), none] []) (rc44 : Nat → Int32 → Int32 → Int32 → jH → Option Int32) (hr44 : ∀ (a0 : Nat) (x1 : Int32) (x2 : Int32) (x3 : Int32), rc44 a0 x1 x2 x3 h = some res → jJ G X h 0 0 44 [some (.ref a0), some (.int x1), some (.int x2), some (.int x3)] []) (E : jEnd G mX12_shadeNow (jPR h res) X) (a0 : Nat) (x1 : Int32) (x2 : Int32) (x3 : Int32) (hf : F_X12_shadeNow_44_b n rc4 rc44 a0 x1 x2 x3 h = some res) : jJ G X h 0 0 44 [some (.ref a0), some (.int x1), some (.int x2), some (.int x3)] [] := by
  unfold F_X12_shadeNow_44_b at hf
  refine jr_iload_n K (D_at DX12_shadeNow_q2 2 rfl) rfl rfl ?_
  refine jr_aload_n K (D_at DX12_shadeNow_q2 3 rfl) rfl rfl ?_
  refine jr_iload_n K (D_at DX12_shadeNow_q2 4 rfl) rfl rfl ?_
  refine jr_iconst K (D_at DX12_shadeNow_q2 5 rfl) (v := (1 : Int32)) (by decide) ?_
  refine jr_iadd K (D_at DX12_shadeNow_q2 6 rfl) ?_
  refine jr_iconst K (D_at DX12_shadeNow_q2 7 rfl) (v := (0 : Int32)) (by decide) ?_
  obtain ⟨v50, e50, hf⟩ := jbind hf
  obtain ⟨rc_50, e50⟩ := jcv_o e50
  refine jr_callV K (C_X12_of (d + 1) e50) (D_at DX12_shadeNow_q2 8 rfl) cv_X12_67_X12_of (As := [.int (x2 + (1 : Int32)), .int (0 : Int32)]) (ci := 10) rfl rc_50 rfl rfl (by exact Nat.le_of_ble_eq_true rfl) (kc2 := 0) (ks2 := 0) rfl rfl (fun k9 h9 w9 => by cases w9.1) (fun r9 h9 w9 => ?_)
  obtain ⟨w1, w2⟩ := w9
  subst h9
  cases w1
  show jJ G X _ 0 0 _ _ (.int v50 :: _)
  refine jr_icmp_gt K (D_at DX12_shadeNow_q2 9 rfl) (tgt := 68) (by decide) (fun c53 => ?_) (fun c53 => ?_)
  · replace hf := (if_pos c53).symm.trans hf
    refine jr_iinc K (D_at DX12_shadeNow_q3 6 rfl) (i := 2) rfl (v := x2 + (1 : Int32)) (jinc (by decide)) (by decide) (L2 := [_, _, _, _]) rfl ?_
    refine jr_goto K (D_at DX12_shadeNow_q3 7 rfl) (tgt := 4) (by decide) ?_
    refine jr_keep [true, true, true, false] ?_
    exact hr4 a0 x1 (x2 + (1 : Int32)) hf
  · replace hf := (if_neg c53).symm.trans hf
    refine jr_iload_n K (D_at DX12_shadeNow_q2 10 rfl) rfl rfl ?_
    refine jr_iconst K (D_at DX12_shadeNow_q2 11 rfl) (v := (1 : Int32)) (by decide) ?_
    refine jr_iload_n K (D_at DX12_shadeNow_q3 0 rfl) rfl rfl ?_
    refine jr_ishl K (D_at DX12_shadeNow_q3 1 rfl) ?_
    refine jr_ior K (D_at DX12_shadeNow_q3 2 rfl) ?_
    refine jr_istore_n K (D_at DX12_shadeNow_q3 3 rfl) (i := 1) rfl (by decide) (L2 := [_, _, _, _]) rfl ?_
    refine jr_iinc K (D_at DX12_shadeNow_q3 4 rfl) (i := 3) rfl (v := x3 + (1 : Int32)) (jinc (by decide)) (by decide) (L2 := [_, _, _, _]) rfl ?_
    refine jr_goto K (D_at DX12_shadeNow_q3 5 rfl) (tgt := 44) (by decide) ?_
    refine jr_keep [true, true, true, true] ?_
    exact hr44 a0 (x1 ||| ((1 : Int32) <<< (x3 &&& 31))) x2 (x3 + (1 : Int32)) hf
theorem J_X12_shadeNow_44 {G : jG} {l : Launch} {d : Nat} {X : jX} {res : Int32} (K : jOK G l mX12_shadeNow (d + 3) X) (n : Nat) (h : jH) (rc4 : Nat → Int32 → Int32 → jH → Option Int32) (hr4 : ∀ (a0 : Nat) (x1 : Int32) (x2 : Int32), rc4 a0 x1 x2 h = some res → jJ G X h 0 0 4 [some (.ref a0), some (.int x1), some (.int x2), none] []) (E : jEnd G mX12_shadeNow (jPR h res) X) (k : Nat) : ∀ (a0 : Nat) (x1 : Int32) (x2 : Int32) (x3 : Int32), F_X12_shadeNow_44 n rc4 k a0 x1 x2 x3 h = some res → jJ G X h 0 0 44 [some (.ref a0), some (.int x1), some (.int x2), some (.int x3)] [] := by
  induction k with
  | zero =>
    intro a0 x1 x2 x3 hf
    exact jno (show (none : Option Int32) = some res from hf)
  | succ k ih =>
    intro a0 x1 x2 x3 hf
    exact J_X12_shadeNow_44_b K n h rc4 hr4 (F_X12_shadeNow_44 n rc4 k) ih E a0 x1 x2 x3 hf
set_option maxHeartbeats 400000 in
set_option maxRecDepth 100000 in
theorem J_X12_shadeNow_4_b {G : jG} {l : Launch} {d : Nat} {X : jX} {res : Int32} (K : jOK G l mX12_shadeNow (d + 3) X) (n : Nat) (h : jH) (rc4 : Nat → Int32 → Int32 → jH → Option Int32) (hr4 : ∀ (a0 : Nat) (x1 : Int32) (x2 : Int32), rc4 a0 x1 x2 h = some res → jJ G X h 0 0 4 [some (.ref a0), some (.int x1), some (.int x2), none] []) (E : jEnd G mX12_shadeNow (jPR h res) X) (a0 : Nat) (x1 : Int32) (x2 : Int32) (hf : F_X12_shadeNow_4_b n rc4 a0 x1 x2 h = some res) : jJ G X h 0 0 4 [some (.ref a0), some (.int x1), some (.int x2), none] [] := by
  unfold F_X12_shadeNow_4_b at hf
  refine jr_iload_n K (D_at DX12_shadeNow_q0 4 rfl) rfl rfl ?_
  refine jr_aload_n K (D_at DX12_shadeNow_q0 5 rfl) rfl rfl ?_
  obtain ⟨v6, e6, hf⟩ := jbind hf
  obtain ⟨rc_6, e6⟩ := jcv_o e6
  refine jr_callV K (C_X12_lastRing (d + 1) e6) (D_at DX12_shadeNow_q0 6 rfl) cv_X12_70_X12_lastRing (As := []) (ci := 10) rfl rc_6 rfl rfl (by exact Nat.le_of_ble_eq_true rfl) (kc2 := 0) (ks2 := 0) rfl rfl (fun k9 h9 w9 => by cases w9.1) (fun r9 h9 w9 => ?_)
  obtain ⟨w1, w2⟩ := w9
  subst h9
  cases w1
  show jJ G X _ 0 0 _ _ (.int v6 :: _)
  refine jr_icmp_ge K (D_at DX12_shadeNow_q0 7 rfl) (tgt := 74) (by decide) (fun c9 => ?_) (fun c9 => ?_)
  · replace hf := (if_pos c9).symm.trans hf
    refine jr_iload_n K (D_at DX12_shadeNow_q3 8 rfl) rfl rfl ?_
    cases hf
    exact jr_iret K E (D_at DX12_shadeNow_q3 9 rfl) rfl ⟨rfl, rfl⟩
  · replace hf := (if_neg c9).symm.trans hf
    refine jr_aload_n K (D_at DX12_shadeNow_q0 8 rfl) rfl rfl ?_
    refine jr_iload_n K (D_at DX12_shadeNow_q0 9 rfl) rfl rfl ?_
    refine jr_bipush K (D_at DX12_shadeNow_q0 10 rfl) (v := (6 : Int32)) (by decide) ?_
    obtain ⟨v16, e16, hf⟩ := jbind hf
    obtain ⟨rc_16, e16⟩ := jcv_o e16
    refine jr_callV K (C_X12_is (d) e16) (D_at DX12_shadeNow_q0 11 rfl) cv_X12_73_X12_is (As := [.int x2, .int (6 : Int32)]) (ci := 10) rfl rc_16 rfl rfl (by exact Nat.le_of_ble_eq_true rfl) (kc2 := 0) (ks2 := 0) rfl rfl (fun k9 h9 w9 => by cases w9.1) (fun r9 h9 w9 => ?_)
    obtain ⟨w1, w2⟩ := w9
    subst h9
    cases w1
    show jJ G X _ 0 0 _ _ (.int v16 :: _)
    refine jr_if_eq K (D_at DX12_shadeNow_q1 0 rfl) (tgt := 68) (by decide) (fun c19 => ?_) (fun c19 => ?_)
    · replace hf := (if_pos c19).symm.trans hf
      refine jr_iinc K (D_at DX12_shadeNow_q3 6 rfl) (i := 2) rfl (v := x2 + (1 : Int32)) (jinc (by decide)) (by decide) (L2 := [_, _, _, _]) rfl ?_
      refine jr_goto K (D_at DX12_shadeNow_q3 7 rfl) (tgt := 4) (by decide) ?_
      refine jr_keep [true, true, true, false] ?_
      exact hr4 a0 x1 (x2 + (1 : Int32)) hf
    · replace hf := (if_neg c19).symm.trans hf
      refine jr_aload_n K (D_at DX12_shadeNow_q1 1 rfl) rfl rfl ?_
      refine jr_iload_n K (D_at DX12_shadeNow_q1 2 rfl) rfl rfl ?_
      refine jr_iconst K (D_at DX12_shadeNow_q1 3 rfl) (v := (1 : Int32)) (by decide) ?_
      refine jr_iadd K (D_at DX12_shadeNow_q1 4 rfl) ?_
      refine jr_bipush K (D_at DX12_shadeNow_q1 5 rfl) (v := (6 : Int32)) (by decide) ?_
      obtain ⟨v28, e28, hf⟩ := jbind hf
      obtain ⟨rc_28, e28⟩ := jcv_o e28
      refine jr_callV K (C_X12_is (d) e28) (D_at DX12_shadeNow_q1 6 rfl) cv_X12_73_X12_is (As := [.int (x2 + (1 : Int32)), .int (6 : Int32)]) (ci := 10) rfl rc_28 rfl rfl (by exact Nat.le_of_ble_eq_true rfl) (kc2 := 0) (ks2 := 0) rfl rfl (fun k9 h9 w9 => by cases w9.1) (fun r9 h9 w9 => ?_)
      obtain ⟨w1, w2⟩ := w9
      subst h9
      cases w1
      show jJ G X _ 0 0 _ _ (.int v28 :: _)
      refine jr_if_ne K (D_at DX12_shadeNow_q1 7 rfl) (tgt := 37) (by decide) (fun c31 => ?_) (fun c31 => ?_)
      · replace hf := (if_neg c31).symm.trans hf
        refine jr_aload_n K (D_at DX12_shadeNow_q1 9 rfl) rfl rfl ?_
        refine jr_iload_n K (D_at DX12_shadeNow_q1 10 rfl) rfl rfl ?_
        refine jr_iconst K (D_at DX12_shadeNow_q1 11 rfl) (v := (0 : Int32)) (by decide) ?_
        obtain ⟨v40, e40, hf⟩ := jbind hf
        obtain ⟨rc_40, e40⟩ := jcv_o e40
        refine jr_callV K (C_X12_of (d + 1) e40) (D_at DX12_shadeNow_q2 0 rfl) cv_X12_67_X12_of (As := [.int x2, .int (0 : Int32)]) (ci := 10) rfl rc_40 rfl rfl (by exact Nat.le_of_ble_eq_true rfl) (kc2 := 0) (ks2 := 0) rfl rfl (fun k9 h9 w9 => by cases w9.1) (fun r9 h9 w9 => ?_)
        obtain ⟨w1, w2⟩ := w9
        subst h9
        cases w1
        show jJ G X _ 0 0 _ _ (.int v40 :: _)
        refine jr_istore_n K (D_at DX12_shadeNow_q2 1 rfl) (i := 3) rfl (by decide) (L2 := [_, _, _, _]) rfl ?_
        refine jr_keep [true, true, true, true] ?_
        exact J_X12_shadeNow_44 K n h rc4 hr4 E n a0 x1 x2 v40 hf
      · replace hf := (if_pos c31).symm.trans hf
        refine jr_goto K (D_at DX12_shadeNow_q1 8 rfl) (tgt := 68) (by decide) ?_
        refine jr_iinc K (D_at DX12_shadeNow_q3 6 rfl) (i := 2) rfl (v := x2 + (1 : Int32)) (jinc (by decide)) (by decide) (L2 := [_, _, _, _]) rfl ?_
        refine jr_goto K (D_at DX12_shadeNow_q3 7 rfl) (tgt := 4) (by decide) ?_
        refine jr_keep [true, true, true, false] ?_
        exact hr4 a0 x1 (x2 + (1 : Int32)) hf
theorem J_X12_shadeNow_4 {G : jG} {l : Launch} {d : Nat} {X : jX} {res : Int32} (K : jOK G l mX12_shadeNow (d + 3) X) (n : Nat) (h : jH) (E : jEnd G mX12_shadeNow (jPR h res) X) (k : Nat) : ∀ (a0 : Nat) (x1 : Int32) (x2 : Int32), F_X12_shadeNow_4 n k a0 x1 x2 h = some res → jJ G X h 0 0 4 [some (.ref a0), some (.int x1), some (.int x2), none] [] := by
  induction k with
  | zero =>
    intro a0 x1 x2 hf
    exact jno (show (none : Option Int32) = some res from hf)
  | succ k ih =>
    intro a0 x1 x2 hf
    exact J_X12_shadeNow_4_b K n h (F_X12_shadeNow_4 n k) ih E a0 x1 x2 hf
set_option maxHeartbeats 400000 in
set_option maxRecDepth 100000 in
theorem J_X12_shadeNow {G : jG} {l : Launch} {d : Nat} {X : jX} {res : Int32} (K : jOK G l mX12_shadeNow (d + 3) X) (n : Nat) (h : jH) (E : jEnd G mX12_shadeNow (jPR h res) X) (a0 : Nat) (hf : F_X12_shadeNow n a0 h = some res) : jJ G X h 0 0 0 [some (.ref a0), none, none, none] [] := by
  unfold F_X12_shadeNow at hf
  refine jr_iconst K (D_at DX12_shadeNow_q0 0 rfl) (v := (0 : Int32)) (by decide) ?_
  refine jr_istore_n K (D_at DX12_shadeNow_q0 1 rfl) (i := 1) rfl (by decide) (L2 := [_, _, _, _]) rfl ?_
  refine jr_iconst K (D_at DX12_shadeNow_q0 2 rfl) (v := (0 : Int32)) (by decide) ?_
  refine jr_istore_n K (D_at DX12_shadeNow_q0 3 rfl) (i := 2) rfl (by decide) (L2 := [_, _, _, _]) rfl ?_
  refine jr_keep [true, true, true, false] ?_
  exact J_X12_shadeNow_4 K n h E n a0 (0 : Int32) (0 : Int32) hf
theorem C_X12_shadeNow {G : jG} {l : Launch} (d : Nat) {n : Nat} {a0 : Nat} {h : jH} {res : Int32} (hf : F_X12_shadeNow n a0 h = some res) : jC G l mX12_shadeNow (d + 3) 0 0 [.ref a0] h (jPR h res) :=
  jC.of pn_X12 (jcats rfl) (Nat.le_of_ble_eq_true rfl) (fun X K E => J_X12_shadeNow K n h E a0 hf)
set_option maxHeartbeats 400000 in
set_option maxRecDepth 100000 in
theorem J_X12_darkNow {G : jG} {l : Launch} {d : Nat} {X : jX} {res : Int32} (K : jOK G l mX12_darkNow (d + 4) X) (n : Nat) (h : jH) (E : jEnd G mX12_darkNow (jPR h res) X) (a0 : Nat) (hf : F_X12_darkNow n a0 h = some res) : jJ G X h 0 0 0 [some (.ref a0)] [] := by
  unfold F_X12_darkNow at hf
  refine jr_aload_n K (D_at DX12_darkNow_q0 0 rfl) rfl rfl ?_
  obtain ⟨p1, e1, hf⟩ := jbind hf
  refine jr_getR K (D_at DX12_darkNow_q0 1 rfl) fg_X12_13_10 e1 ?_
  refine jr_bipush K (D_at DX12_darkNow_q0 2 rfl) (v := (7 : Int32)) (by decide) ?_
  obtain ⟨v6, e6, hf⟩ := jbind hf
  refine jr_iald K (D_at DX12_darkNow_q0 3 rfl) e6 ?_
  refine jr_aload_n K (D_at DX12_darkNow_q0 4 rfl) rfl rfl ?_
  obtain ⟨v8, e8, hf⟩ := jbind hf
  obtain ⟨rc_8, e8⟩ := jcv_o e8
  refine jr_callV K (C_X12_shadeNow (d) e8) (D_at DX12_darkNow_q0 5 rfl) cv_X12_357_X12_shadeNow (As := []) (ci := 10) rfl rc_8 rfl rfl (by exact Nat.le_of_ble_eq_true rfl) (kc2 := 0) (ks2 := 0) rfl rfl (fun k9 h9 w9 => by cases w9.1) (fun r9 h9 w9 => ?_)
  obtain ⟨w1, w2⟩ := w9
  subst h9
  cases w1
  show jJ G X _ 0 0 _ _ (.int v8 :: _)
  refine jr_iand K (D_at DX12_darkNow_q0 6 rfl) ?_
  obtain ⟨v12, e12, hf⟩ := jbind hf
  refine jr_callS K (C_J6_bitCount_0f7a4 (d + 3) e12) (D_at DX12_darkNow_q0 7 rfl) cs_X12_360_J6_bitCount_0f7a4 (As := [.int (v6 &&& v8)]) rfl rfl (by exact Nat.le_of_ble_eq_true rfl) (kc2 := 0) (ks2 := 0) rfl rfl (fun k9 h9 w9 => by cases w9.1) (fun r9 h9 w9 => ?_)
  obtain ⟨w1, w2⟩ := w9
  subst h9
  cases w1
  show jJ G X _ 0 0 _ _ (.int v12 :: _)
  cases hf
  exact jr_iret K E (D_at DX12_darkNow_q0 8 rfl) rfl ⟨rfl, rfl⟩
theorem C_X12_darkNow {G : jG} {l : Launch} (d : Nat) {n : Nat} {a0 : Nat} {h : jH} {res : Int32} (hf : F_X12_darkNow n a0 h = some res) : jC G l mX12_darkNow (d + 4) 0 0 [.ref a0] h (jPR h res) :=
  jC.of pn_X12 (jcats rfl) (Nat.le_of_ble_eq_true rfl) (fun X K E => J_X12_darkNow K n h E a0 hf)
set_option maxHeartbeats 400000 in
set_option maxRecDepth 100000 in
theorem J_X12_shade {G : jG} {l : Launch} {d : Nat} {X : jX} {res : (Int32 × jH)} (K : jOK G l mX12_shade (d + 4) X) (n : Nat) (E : jEnd G mX12_shade (jPW res) X) (a0 : Nat) (h : jH) (hf : F_X12_shade n a0 h = some res) : jJ G X h 0 0 0 [some (.ref a0)] [] := by
  unfold F_X12_shade at hf
  refine jr_aload_n K (D_at DX12_shade_q0 0 rfl) rfl rfl ?_
  refine jr_iconst K (D_at DX12_shade_q0 1 rfl) (v := (0 : Int32)) (by decide) ?_
  obtain ⟨h2, e2, hf⟩ := jbind hf
  refine jr_putI K (D_at DX12_shade_q0 2 rfl) fp_X12_3_10 (Or.inl rfl) e2 ?_
  refine jr_aload_n K (D_at DX12_shade_q0 3 rfl) rfl rfl ?_
  obtain ⟨v6, e6, hf⟩ := jbind hf
  obtain ⟨rc_6, e6⟩ := jcv_o e6
  refine jr_callV K (C_X12_shadeNow (d) e6) (D_at DX12_shade_q0 4 rfl) cv_X12_357_X12_shadeNow (As := []) (ci := 10) rfl rc_6 rfl rfl (by exact Nat.le_of_ble_eq_true rfl) (kc2 := 0) (ks2 := 0) rfl rfl (fun k9 h9 w9 => by cases w9.1) (fun r9 h9 w9 => ?_)
  obtain ⟨w1, w2⟩ := w9
  subst h9
  cases w1
  show jJ G X _ 0 0 _ _ (.int v6 :: _)
  cases hf
  exact jr_iret K E (D_at DX12_shade_q0 5 rfl) rfl ⟨rfl, rfl⟩
theorem C_X12_shade {G : jG} {l : Launch} (d : Nat) {n : Nat} {a0 : Nat} {h : jH} {res : (Int32 × jH)} (hf : F_X12_shade n a0 h = some res) : jC G l mX12_shade (d + 4) 0 0 [.ref a0] h (jPW res) :=
  jC.of pn_X12 (jcats rfl) (Nat.le_of_ble_eq_true rfl) (fun X K E => J_X12_shade K n E a0 h hf)
set_option maxHeartbeats 400000 in
set_option maxRecDepth 100000 in
theorem J_X12_dark {G : jG} {l : Launch} {d : Nat} {X : jX} {res : (Int32 × jH)} (K : jOK G l mX12_dark (d + 5) X) (n : Nat) (E : jEnd G mX12_dark (jPW res) X) (a0 : Nat) (h : jH) (hf : F_X12_dark n a0 h = some res) : jJ G X h 0 0 0 [some (.ref a0)] [] := by
  unfold F_X12_dark at hf
  refine jr_aload_n K (D_at DX12_dark_q0 0 rfl) rfl rfl ?_
  refine jr_iconst K (D_at DX12_dark_q0 1 rfl) (v := (0 : Int32)) (by decide) ?_
  obtain ⟨h2, e2, hf⟩ := jbind hf
  refine jr_putI K (D_at DX12_dark_q0 2 rfl) fp_X12_3_10 (Or.inl rfl) e2 ?_
  refine jr_aload_n K (D_at DX12_dark_q0 3 rfl) rfl rfl ?_
  obtain ⟨v6, e6, hf⟩ := jbind hf
  obtain ⟨rc_6, e6⟩ := jcv_o e6
  refine jr_callV K (C_X12_darkNow (d) e6) (D_at DX12_dark_q0 4 rfl) cv_X12_365_X12_darkNow (As := []) (ci := 10) rfl rc_6 rfl rfl (by exact Nat.le_of_ble_eq_true rfl) (kc2 := 0) (ks2 := 0) rfl rfl (fun k9 h9 w9 => by cases w9.1) (fun r9 h9 w9 => ?_)
  obtain ⟨w1, w2⟩ := w9
  subst h9
  cases w1
  show jJ G X _ 0 0 _ _ (.int v6 :: _)
  cases hf
  exact jr_iret K E (D_at DX12_dark_q0 5 rfl) rfl ⟨rfl, rfl⟩
theorem C_X12_dark {G : jG} {l : Launch} (d : Nat) {n : Nat} {a0 : Nat} {h : jH} {res : (Int32 × jH)} (hf : F_X12_dark n a0 h = some res) : jC G l mX12_dark (d + 5) 0 0 [.ref a0] h (jPW res) :=
  jC.of pn_X12 (jcats rfl) (Nat.le_of_ble_eq_true rfl) (fun X K E => J_X12_dark K n E a0 h hf)
set_option maxHeartbeats 400000 in
set_option maxRecDepth 100000 in
theorem J_X12_bare {G : jG} {l : Launch} {d : Nat} {X : jX} {res : (Int32 × jH)} (K : jOK G l mX12_bare (d + 4) X) (n : Nat) (E : jEnd G mX12_bare (jPW res) X) (a0 : Nat) (h : jH) (hf : F_X12_bare n a0 h = some res) : jJ G X h 0 0 0 [some (.ref a0)] [] := by
  unfold F_X12_bare at hf
  refine jr_aload_n K (D_at DX12_bare_q0 0 rfl) rfl rfl ?_
  refine jr_iconst K (D_at DX12_bare_q0 1 rfl) (v := (0 : Int32)) (by decide) ?_
  obtain ⟨h2, e2, hf⟩ := jbind hf
  refine jr_putI K (D_at DX12_bare_q0 2 rfl) fp_X12_3_10 (Or.inl rfl) e2 ?_
  refine jr_aload_n K (D_at DX12_bare_q0 3 rfl) rfl rfl ?_
  obtain ⟨p6, e6, hf⟩ := jbind hf
  refine jr_getR K (D_at DX12_bare_q0 4 rfl) fg_X12_13_10 e6 ?_
  refine jr_bipush K (D_at DX12_bare_q0 5 rfl) (v := (7 : Int32)) (by decide) ?_
  obtain ⟨v11, e11, hf⟩ := jbind hf
  refine jr_iald K (D_at DX12_bare_q0 6 rfl) e11 ?_
  refine jr_aload_n K (D_at DX12_bare_q0 7 rfl) rfl rfl ?_
  obtain ⟨v13, e13, hf⟩ := jbind hf
  obtain ⟨rc_13, e13⟩ := jcv_o e13
  refine jr_callV K (C_X12_shadeNow (d) e13) (D_at DX12_bare_q0 8 rfl) cv_X12_357_X12_shadeNow (As := []) (ci := 10) rfl rc_13 rfl rfl (by exact Nat.le_of_ble_eq_true rfl) (kc2 := 0) (ks2 := 0) rfl rfl (fun k9 h9 w9 => by cases w9.1) (fun r9 h9 w9 => ?_)
  obtain ⟨w1, w2⟩ := w9
  subst h9
  cases w1
  show jJ G X _ 0 0 _ _ (.int v13 :: _)
  refine jr_iconst K (D_at DX12_bare_q0 9 rfl) (v := (-1 : Int32)) (by decide) ?_
  refine jr_ixor K (D_at DX12_bare_q0 10 rfl) ?_
  refine jr_iand K (D_at DX12_bare_q0 11 rfl) ?_
  cases hf
  exact jr_iret K E (D_at DX12_bare_q1 0 rfl) rfl ⟨rfl, rfl⟩
theorem C_X12_bare {G : jG} {l : Launch} (d : Nat) {n : Nat} {a0 : Nat} {h : jH} {res : (Int32 × jH)} (hf : F_X12_bare n a0 h = some res) : jC G l mX12_bare (d + 4) 0 0 [.ref a0] h (jPW res) :=
  jC.of pn_X12 (jcats rfl) (Nat.le_of_ble_eq_true rfl) (fun X K E => J_X12_bare K n E a0 h hf)
set_option maxHeartbeats 400000 in
set_option maxRecDepth 100000 in
theorem J_X12_goes {G : jG} {l : Launch} {d : Nat} {X : jX} {res : (Int32 × jH)} (K : jOK G l mX12_goes (d + 8) X) (n : Nat) (E : jEnd G mX12_goes (jPW res) X) (a0 : Nat) (x1 : Int32) (x2 : Int32) (h : jH) (hf : F_X12_goes n a0 x1 x2 h = some res) : jJ G X h 0 0 0 [some (.ref a0), some (.int x1), some (.int x2), none] [] := by
  unfold F_X12_goes at hf
  refine jr_aload_n K (D_at DX12_goes_q0 0 rfl) rfl rfl ?_
  refine jr_iconst K (D_at DX12_goes_q0 1 rfl) (v := (0 : Int32)) (by decide) ?_
  obtain ⟨h2, e2, hf⟩ := jbind hf
  refine jr_putI K (D_at DX12_goes_q0 2 rfl) fp_X12_3_10 (Or.inl rfl) e2 ?_
  refine jr_aload_n K (D_at DX12_goes_q0 3 rfl) rfl rfl ?_
  refine jr_aload_n K (D_at DX12_goes_q0 4 rfl) rfl rfl ?_
  refine jr_iload_n K (D_at DX12_goes_q0 5 rfl) rfl rfl ?_
  obtain ⟨v8, e8, hf⟩ := jbind hf
  obtain ⟨rc_8, e8⟩ := jcv_o e8
  refine jr_callV K (C_X12_noRing (d + 5) e8) (D_at DX12_goes_q0 6 rfl) cv_X12_277_X12_noRing (As := [.int x1]) (ci := 10) rfl rc_8 rfl rfl (by exact Nat.le_of_ble_eq_true rfl) (kc2 := 0) (ks2 := 0) rfl rfl (fun k9 h9 w9 => by cases w9.1) (fun r9 h9 w9 => ?_)
  obtain ⟨w1, w2⟩ := w9
  subst h9
  cases w1
  show jJ G X _ 0 0 _ _ (.int v8 :: _)
  refine jr_iconst K (D_at DX12_goes_q0 7 rfl) (v := (1 : Int32)) (by decide) ?_
  obtain ⟨q12, e12, hf⟩ := jbind hf
  obtain ⟨rc_12, e12⟩ := jcv_o e12
  refine jr_callV K (C_X12_throwsIf (d + 7) e12) (D_at DX12_goes_q0 8 rfl) cv_X12_250_X12_throwsIf (As := [.int v8, .int (1 : Int32)]) (ci := 10) rfl rc_12 rfl rfl (by exact Nat.le_of_ble_eq_true rfl) (kc2 := 0) (ks2 := 0) rfl rfl (fun k9 h9 w9 => by cases w9.1) (fun r9 h9 w9 => ?_)
  obtain ⟨w1, w2⟩ := w9
  subst h9
  cases w1
  show jJ G X _ 0 0 _ _ (.int q12.1 :: _)
  refine jr_if_eq K (D_at DX12_goes_q0 9 rfl) (tgt := 20) (by decide) (fun c15 => ?_) (fun c15 => ?_)
  · replace hf := (if_pos c15).symm.trans hf
    refine jr_aload_n K (D_at DX12_goes_q1 0 rfl) rfl rfl ?_
    obtain ⟨h21, e21, hf⟩ := jbind hf
    obtain ⟨rc_21, e21⟩ := jcv_o e21
    refine jr_callV K (C_X12_keepsAll (d + 7) e21) (D_at DX12_goes_q1 1 rfl) cv_X12_348_X12_keepsAll (As := []) (ci := 10) rfl rc_21 rfl rfl (by exact Nat.le_of_ble_eq_true rfl) (kc2 := 0) (ks2 := 0) rfl rfl (fun k9 h9 w9 => by cases w9.1) (fun r9 h9 w9 => ?_)
    obtain ⟨w1, w2⟩ := w9
    subst h9
    cases w1
    show jJ G X _ 0 0 _ _ []
    refine jr_aload_n K (D_at DX12_goes_q1 2 rfl) rfl rfl ?_
    refine jr_iload_n K (D_at DX12_goes_q1 3 rfl) rfl rfl ?_
    refine jr_iload_n K (D_at DX12_goes_q1 4 rfl) rfl rfl ?_
    refine jr_bipush K (D_at DX12_goes_q1 5 rfl) (v := (31 : Int32)) (by decide) ?_
    obtain ⟨q29, e29, hf⟩ := jbind hf
    obtain ⟨rc_29, e29⟩ := jcv_o e29
    refine jr_callV K (C_X12_pulls (d) e29) (D_at DX12_goes_q1 6 rfl) cv_X12_322_X12_pulls (As := [.int x1, .int x2, .int (31 : Int32)]) (ci := 10) rfl rc_29 rfl rfl (by exact Nat.le_of_ble_eq_true rfl) (kc2 := 0) (ks2 := 0) rfl rfl (fun k9 h9 w9 => by cases w9.1) (fun r9 h9 w9 => ?_)
    obtain ⟨w1, w2⟩ := w9
    subst h9
    cases w1
    show jJ G X _ 0 0 _ _ (.int q29.1 :: _)
    refine jr_istore_n K (D_at DX12_goes_q1 7 rfl) (i := 3) rfl (by decide) (L2 := [_, _, _, _]) rfl ?_
    refine jr_aload_n K (D_at DX12_goes_q1 8 rfl) rfl rfl ?_
    obtain ⟨h34, e34, hf⟩ := jbind hf
    obtain ⟨rc_34, e34⟩ := jcv_o e34
    refine jr_callV K (C_X12_bringsBack (d + 7) e34) (D_at DX12_goes_q1 9 rfl) cv_X12_351_X12_bringsBack (As := []) (ci := 10) rfl rc_34 rfl rfl (by exact Nat.le_of_ble_eq_true rfl) (kc2 := 0) (ks2 := 0) rfl rfl (fun k9 h9 w9 => by cases w9.1) (fun r9 h9 w9 => ?_)
    obtain ⟨w1, w2⟩ := w9
    subst h9
    cases w1
    show jJ G X _ 0 0 _ _ []
    refine jr_iload_n K (D_at DX12_goes_q1 10 rfl) rfl rfl ?_
    cases hf
    exact jr_iret K E (D_at DX12_goes_q1 11 rfl) rfl ⟨rfl, rfl⟩
  · replace hf := (if_neg c15).symm.trans hf
    refine jr_iconst K (D_at DX12_goes_q0 10 rfl) (v := (0 : Int32)) (by decide) ?_
    cases hf
    exact jr_iret K E (D_at DX12_goes_q0 11 rfl) rfl ⟨rfl, rfl⟩
theorem C_X12_goes {G : jG} {l : Launch} (d : Nat) {n : Nat} {a0 : Nat} {x1 : Int32} {x2 : Int32} {h : jH} {res : (Int32 × jH)} (hf : F_X12_goes n a0 x1 x2 h = some res) : jC G l mX12_goes (d + 8) 0 0 [.ref a0, .int x1, .int x2] h (jPW res) :=
  jC.of pn_X12 (jcats rfl) (Nat.le_of_ble_eq_true rfl) (fun X K E => J_X12_goes K n E a0 x1 x2 h hf)
set_option maxHeartbeats 400000 in
set_option maxRecDepth 100000 in
theorem J_X12_with {G : jG} {l : Launch} {d : Nat} {X : jX} {res : (Int32 × jH)} (K : jOK G l mX12_with (d + 6) X) (n : Nat) (E : jEnd G mX12_with (jPW res) X) (a0 : Nat) (x1 : Int32) (x2 : Int32) (h : jH) (hf : F_X12_with n a0 x1 x2 h = some res) : jJ G X h 0 0 0 [some (.ref a0), some (.int x1), some (.int x2)] [] := by
  unfold F_X12_with at hf
  refine jr_aload_n K (D_at DX12_with_q0 0 rfl) rfl rfl ?_
  refine jr_iconst K (D_at DX12_with_q0 1 rfl) (v := (0 : Int32)) (by decide) ?_
  obtain ⟨h2, e2, hf⟩ := jbind hf
  refine jr_putI K (D_at DX12_with_q0 2 rfl) fp_X12_3_10 (Or.inl rfl) e2 ?_
  refine jr_aload_n K (D_at DX12_with_q0 3 rfl) rfl rfl ?_
  refine jr_aload_n K (D_at DX12_with_q0 4 rfl) rfl rfl ?_
  refine jr_iload_n K (D_at DX12_with_q0 5 rfl) rfl rfl ?_
  obtain ⟨v8, e8, hf⟩ := jbind hf
  obtain ⟨rc_8, e8⟩ := jcv_o e8
  refine jr_callV K (C_X12_noRing (d + 3) e8) (D_at DX12_with_q0 6 rfl) cv_X12_277_X12_noRing (As := [.int x1]) (ci := 10) rfl rc_8 rfl rfl (by exact Nat.le_of_ble_eq_true rfl) (kc2 := 0) (ks2 := 0) rfl rfl (fun k9 h9 w9 => by cases w9.1) (fun r9 h9 w9 => ?_)
  obtain ⟨w1, w2⟩ := w9
  subst h9
  cases w1
  show jJ G X _ 0 0 _ _ (.int v8 :: _)
  refine jr_iconst K (D_at DX12_with_q0 7 rfl) (v := (1 : Int32)) (by decide) ?_
  obtain ⟨q12, e12, hf⟩ := jbind hf
  obtain ⟨rc_12, e12⟩ := jcv_o e12
  refine jr_callV K (C_X12_throwsIf (d + 5) e12) (D_at DX12_with_q0 8 rfl) cv_X12_250_X12_throwsIf (As := [.int v8, .int (1 : Int32)]) (ci := 10) rfl rc_12 rfl rfl (by exact Nat.le_of_ble_eq_true rfl) (kc2 := 0) (ks2 := 0) rfl rfl (fun k9 h9 w9 => by cases w9.1) (fun r9 h9 w9 => ?_)
  obtain ⟨w1, w2⟩ := w9
  subst h9
  cases w1
  show jJ G X _ 0 0 _ _ (.int q12.1 :: _)
  refine jr_if_eq K (D_at DX12_with_q0 9 rfl) (tgt := 22) (by decide) (fun c15 => ?_) (fun c15 => ?_)
  · replace hf := (if_pos c15).symm.trans hf
    refine jr_aload_n K (D_at DX12_with_q1 0 rfl) rfl rfl ?_
    refine jr_iload_n K (D_at DX12_with_q1 1 rfl) rfl rfl ?_
    refine jr_iload_n K (D_at DX12_with_q1 2 rfl) rfl rfl ?_
    obtain ⟨v25, e25, hf⟩ := jbind hf
    obtain ⟨rc_25, e25⟩ := jcv_o e25
    refine jr_callV K (C_X12_goingBy (d) e25) (D_at DX12_with_q1 3 rfl) cv_X12_307_X12_goingBy (As := [.int x1, .int x2]) (ci := 10) rfl rc_25 rfl rfl (by exact Nat.le_of_ble_eq_true rfl) (kc2 := 0) (ks2 := 0) rfl rfl (fun k9 h9 w9 => by cases w9.1) (fun r9 h9 w9 => ?_)
    obtain ⟨w1, w2⟩ := w9
    subst h9
    cases w1
    show jJ G X _ 0 0 _ _ (.int v25 :: _)
    cases hf
    exact jr_iret K E (D_at DX12_with_q1 4 rfl) rfl ⟨rfl, rfl⟩
  · replace hf := (if_neg c15).symm.trans hf
    refine jr_iconst K (D_at DX12_with_q0 10 rfl) (v := (0 : Int32)) (by decide) ?_
    refine jr_goto K (D_at DX12_with_q0 11 rfl) (tgt := 28) (by decide) ?_
    cases hf
    exact jr_iret K E (D_at DX12_with_q1 4 rfl) rfl ⟨rfl, rfl⟩
theorem C_X12_with {G : jG} {l : Launch} (d : Nat) {n : Nat} {a0 : Nat} {x1 : Int32} {x2 : Int32} {h : jH} {res : (Int32 × jH)} (hf : F_X12_with n a0 x1 x2 h = some res) : jC G l mX12_with (d + 6) 0 0 [.ref a0, .int x1, .int x2] h (jPW res) :=
  jC.of pn_X12 (jcats rfl) (Nat.le_of_ble_eq_true rfl) (fun X K E => J_X12_with K n E a0 x1 x2 h hf)
set_option maxHeartbeats 400000 in
set_option maxRecDepth 100000 in
theorem J_X12_would_60 {G : jG} {l : Launch} {d : Nat} {X : jX} {res : (Int32 × jH)} (K : jOK G l mX12_would (d + 8) X) (n : Nat) (E : jEnd G mX12_would (jPW res) X) (a0 : Nat) (s0 : Int32) (h : jH) (hf : F_X12_would_60 n a0 s0 h = some res) : jJ G X h 0 0 60 [some (.ref a0), none, none, none, none, none] [.int s0] := by
  unfold F_X12_would_60 at hf
  refine jr_istore K (D_at DX12_would_q2 9 rfl) (i := 5) (by decide) (L2 := [_, _, _, _, _, _]) rfl ?_
  refine jr_aload_n K (D_at DX12_would_q2 10 rfl) rfl rfl ?_
  obtain ⟨h63, e63, hf⟩ := jbind hf
  obtain ⟨rc_63, e63⟩ := jcv_o e63
  refine jr_callV K (C_X12_bringsBack (d + 7) e63) (D_at DX12_would_q2 11 rfl) cv_X12_351_X12_bringsBack (As := []) (ci := 10) rfl rc_63 rfl rfl (by exact Nat.le_of_ble_eq_true rfl) (kc2 := 0) (ks2 := 0) rfl rfl (fun k9 h9 w9 => by cases w9.1) (fun r9 h9 w9 => ?_)
  obtain ⟨w1, w2⟩ := w9
  subst h9
  cases w1
  show jJ G X _ 0 0 _ _ []
  refine jr_iload K (D_at DX12_would_q3 0 rfl) rfl ?_
  cases hf
  exact jr_iret K E (D_at DX12_would_q3 1 rfl) rfl ⟨rfl, rfl⟩
set_option maxHeartbeats 400000 in
set_option maxRecDepth 100000 in
theorem J_X12_would {G : jG} {l : Launch} {d : Nat} {X : jX} {res : (Int32 × jH)} (K : jOK G l mX12_would (d + 8) X) (n : Nat) (E : jEnd G mX12_would (jPW res) X) (a0 : Nat) (x1 : Int32) (x2 : Int32) (x3 : Int32) (x4 : Int32) (h : jH) (hf : F_X12_would n a0 x1 x2 x3 x4 h = some res) : jJ G X h 0 0 0 [some (.ref a0), some (.int x1), some (.int x2), some (.int x3), some (.int x4), none] [] := by
  unfold F_X12_would at hf
  refine jr_aload_n K (D_at DX12_would_q0 0 rfl) rfl rfl ?_
  refine jr_iconst K (D_at DX12_would_q0 1 rfl) (v := (0 : Int32)) (by decide) ?_
  obtain ⟨h2, e2, hf⟩ := jbind hf
  refine jr_putI K (D_at DX12_would_q0 2 rfl) fp_X12_3_10 (Or.inl rfl) e2 ?_
  refine jr_aload_n K (D_at DX12_would_q0 3 rfl) rfl rfl ?_
  refine jr_aload_n K (D_at DX12_would_q0 4 rfl) rfl rfl ?_
  refine jr_iload_n K (D_at DX12_would_q0 5 rfl) rfl rfl ?_
  obtain ⟨v8, e8, hf⟩ := jbind hf
  obtain ⟨rc_8, e8⟩ := jcv_o e8
  refine jr_callV K (C_X12_noRing (d + 5) e8) (D_at DX12_would_q0 6 rfl) cv_X12_277_X12_noRing (As := [.int x1]) (ci := 10) rfl rc_8 rfl rfl (by exact Nat.le_of_ble_eq_true rfl) (kc2 := 0) (ks2 := 0) rfl rfl (fun k9 h9 w9 => by cases w9.1) (fun r9 h9 w9 => ?_)
  obtain ⟨w1, w2⟩ := w9
  subst h9
  cases w1
  show jJ G X _ 0 0 _ _ (.int v8 :: _)
  refine jr_iconst K (D_at DX12_would_q0 7 rfl) (v := (1 : Int32)) (by decide) ?_
  obtain ⟨q12, e12, hf⟩ := jbind hf
  obtain ⟨rc_12, e12⟩ := jcv_o e12
  refine jr_callV K (C_X12_throwsIf (d + 7) e12) (D_at DX12_would_q0 8 rfl) cv_X12_250_X12_throwsIf (As := [.int v8, .int (1 : Int32)]) (ci := 10) rfl rc_12 rfl rfl (by exact Nat.le_of_ble_eq_true rfl) (kc2 := 0) (ks2 := 0) rfl rfl (fun k9 h9 w9 => by cases w9.1) (fun r9 h9 w9 => ?_)
  obtain ⟨w1, w2⟩ := w9
  subst h9
  cases w1
  show jJ G X _ 0 0 _ _ (.int q12.1 :: _)
  refine jr_if_ne K (D_at DX12_would_q0 9 rfl) (tgt := 30) (by decide) (fun c15 => ?_) (fun c15 => ?_)
  · replace hf := (if_neg c15).symm.trans hf
    refine jr_iconst K (D_at DX12_would_q1 4 rfl) (v := (0 : Int32)) (by decide) ?_
    cases hf
    exact jr_iret K E (D_at DX12_would_q1 5 rfl) rfl ⟨rfl, rfl⟩
  · replace hf := (if_pos c15).symm.trans hf
    refine jr_aload_n K (D_at DX12_would_q0 10 rfl) rfl rfl ?_
    refine jr_iload_n K (D_at DX12_would_q0 11 rfl) rfl rfl ?_
    obtain ⟨v20, e20, hf⟩ := jbind hf
    refine jr_callS K (C_X12_noSteps (d + 6) e20) (D_at DX12_would_q1 0 rfl) cs_X12_316_X12_noSteps (As := [.int x3]) rfl rfl (by exact Nat.le_of_ble_eq_true rfl) (kc2 := 0) (ks2 := 0) rfl rfl (fun k9 h9 w9 => by cases w9.1) (fun r9 h9 w9 => ?_)
    obtain ⟨w1, w2⟩ := w9
    subst h9
    cases w1
    show jJ G X _ 0 0 _ _ (.int v20 :: _)
    refine jr_iconst K (D_at DX12_would_q1 1 rfl) (v := (2 : Int32)) (by decide) ?_
    obtain ⟨q24, e24, hf⟩ := jbind hf
    obtain ⟨rc_24, e24⟩ := jcv_o e24
    refine jr_callV K (C_X12_throwsIf (d + 7) e24) (D_at DX12_would_q1 2 rfl) cv_X12_250_X12_throwsIf (As := [.int v20, .int (2 : Int32)]) (ci := 10) rfl rc_24 rfl rfl (by exact Nat.le_of_ble_eq_true rfl) (kc2 := 0) (ks2 := 0) rfl rfl (fun k9 h9 w9 => by cases w9.1) (fun r9 h9 w9 => ?_)
    obtain ⟨w1, w2⟩ := w9
    subst h9
    cases w1
    show jJ G X _ 0 0 _ _ (.int q24.1 :: _)
    refine jr_if_eq K (D_at DX12_would_q1 3 rfl) (tgt := 32) (by decide) (fun c27 => ?_) (fun c27 => ?_)
    · replace hf := (if_pos c27).symm.trans hf
      refine jr_aload_n K (D_at DX12_would_q1 6 rfl) rfl rfl ?_
      obtain ⟨h33, e33, hf⟩ := jbind hf
      obtain ⟨rc_33, e33⟩ := jcv_o e33
      refine jr_callV K (C_X12_keepsAll (d + 7) e33) (D_at DX12_would_q1 7 rfl) cv_X12_348_X12_keepsAll (As := []) (ci := 10) rfl rc_33 rfl rfl (by exact Nat.le_of_ble_eq_true rfl) (kc2 := 0) (ks2 := 0) rfl rfl (fun k9 h9 w9 => by cases w9.1) (fun r9 h9 w9 => ?_)
      obtain ⟨w1, w2⟩ := w9
      subst h9
      cases w1
      show jJ G X _ 0 0 _ _ []
      refine jr_aload_n K (D_at DX12_would_q1 8 rfl) rfl rfl ?_
      refine jr_iload_n K (D_at DX12_would_q1 9 rfl) rfl rfl ?_
      refine jr_iload_n K (D_at DX12_would_q1 10 rfl) rfl rfl ?_
      refine jr_iload_n K (D_at DX12_would_q1 11 rfl) rfl rfl ?_
      obtain ⟨q40, e40, hf⟩ := jbind hf
      obtain ⟨rc_40, e40⟩ := jcv_o e40
      refine jr_callV K (C_X12_pulls (d) e40) (D_at DX12_would_q2 0 rfl) cv_X12_322_X12_pulls (As := [.int x1, .int x2, .int x3]) (ci := 10) rfl rc_40 rfl rfl (by exact Nat.le_of_ble_eq_true rfl) (kc2 := 0) (ks2 := 0) rfl rfl (fun k9 h9 w9 => by cases w9.1) (fun r9 h9 w9 => ?_)
      obtain ⟨w1, w2⟩ := w9
      subst h9
      cases w1
      show jJ G X _ 0 0 _ _ (.int q40.1 :: _)
      refine jr_pop K (D_at DX12_would_q2 1 rfl) rfl ?_
      refine jr_iload K (D_at DX12_would_q2 2 rfl) rfl ?_
      refine jr_if_eq K (D_at DX12_would_q2 3 rfl) (tgt := 56) (by decide) (fun c46 => ?_) (fun c46 => ?_)
      · replace hf := (if_pos c46).symm.trans hf
        refine jr_aload_n K (D_at DX12_would_q2 7 rfl) rfl rfl ?_
        obtain ⟨v57, e57, hf⟩ := jbind hf
        obtain ⟨rc_57, e57⟩ := jcv_o e57
        refine jr_callV K (C_X12_darkNow (d + 3) e57) (D_at DX12_would_q2 8 rfl) cv_X12_365_X12_darkNow (As := []) (ci := 10) rfl rc_57 rfl rfl (by exact Nat.le_of_ble_eq_true rfl) (kc2 := 0) (ks2 := 0) rfl rfl (fun k9 h9 w9 => by cases w9.1) (fun r9 h9 w9 => ?_)
        obtain ⟨w1, w2⟩ := w9
        subst h9
        cases w1
        show jJ G X _ 0 0 _ _ (.int v57 :: _)
        refine jr_keep [true, false, false, false, false, false] ?_
        exact J_X12_would_60 K n E a0 v57 q40.2 hf
      · replace hf := (if_neg c46).symm.trans hf
        refine jr_aload_n K (D_at DX12_would_q2 4 rfl) rfl rfl ?_
        obtain ⟨v50, e50, hf⟩ := jbind hf
        refine jr_getI K (D_at DX12_would_q2 5 rfl) fg_X12_310_10 e50 ?_
        refine jr_goto K (D_at DX12_would_q2 6 rfl) (tgt := 60) (by decide) ?_
        refine jr_keep [true, false, false, false, false, false] ?_
        exact J_X12_would_60 K n E a0 v50 q40.2 hf
    · replace hf := (if_neg c27).symm.trans hf
      refine jr_iconst K (D_at DX12_would_q1 4 rfl) (v := (0 : Int32)) (by decide) ?_
      cases hf
      exact jr_iret K E (D_at DX12_would_q1 5 rfl) rfl ⟨rfl, rfl⟩
theorem C_X12_would {G : jG} {l : Launch} (d : Nat) {n : Nat} {a0 : Nat} {x1 : Int32} {x2 : Int32} {x3 : Int32} {x4 : Int32} {h : jH} {res : (Int32 × jH)} (hf : F_X12_would n a0 x1 x2 x3 x4 h = some res) : jC G l mX12_would (d + 8) 0 0 [.ref a0, .int x1, .int x2, .int x3, .int x4] h (jPW res) :=
  jC.of pn_X12 (jcats rfl) (Nat.le_of_ble_eq_true rfl) (fun X K E => J_X12_would K n E a0 x1 x2 x3 x4 h hf)
set_option maxHeartbeats 400000 in
set_option maxRecDepth 100000 in
theorem J_X12_best_113 {G : jG} {l : Launch} {d : Nat} {X : jX} {res : (Int32 × jH)} (K : jOK G l mX12_best (d + 7) X) (n : Nat) (rc14 : Nat → Int32 → Int32 → Int32 → jH → Option (Int32 × jH)) (hr14 : ∀ (a0 : Nat) (x1 : Int32) (x2 : Int32) (x3 : Int32) (h : jH), rc14 a0 x1 x2 x3 h = some res → jJ G X h 0 0 14 [some (.ref a0), some (.int x1), some (.int x2), some (.int x3), none, none, none] []) (E : jEnd G mX12_best (jPW res) X) (a0 : Nat) (x1 : Int32) (x2 : Int32) (x3 : Int32) (h : jH) (hf : F_X12_best_113 n rc14 a0 x1 x2 x3 h = some res) : jJ G X h 0 0 113 [some (.ref a0), some (.int x1), some (.int x2), some (.int x3), none, none, none] [] := by
  unfold F_X12_best_113 at hf
  refine jr_aload_n K (D_at DX12_best_1_q0 1 rfl) rfl rfl ?_
  obtain ⟨h114, e114, hf⟩ := jbind hf
  obtain ⟨rc_114, e114⟩ := jcv_o e114
  refine jr_callV K (C_X12_bringsBack (d + 6) e114) (D_at DX12_best_1_q0 2 rfl) cv_X12_351_X12_bringsBack (As := []) (ci := 10) rfl rc_114 rfl rfl (by exact Nat.le_of_ble_eq_true rfl) (kc2 := 0) (ks2 := 0) rfl rfl (fun k9 h9 w9 => by cases w9.1) (fun r9 h9 w9 => ?_)
  obtain ⟨w1, w2⟩ := w9
  subst h9
  cases w1
  show jJ G X _ 0 0 _ _ []
  refine jr_iinc K (D_at DX12_best_1_q0 3 rfl) (i := 3) rfl (v := x3 + (1 : Int32)) (jinc (by decide)) (by decide) (L2 := [_, _, _, _, _, _, _]) rfl ?_
  refine jr_goto K (D_at DX12_best_1_q0 4 rfl) (tgt := 14) (by decide) ?_
  refine jr_keep [true, true, true, true, false, false, false] ?_
  exact hr14 a0 x1 x2 (x3 + (1 : Int32)) h114 hf
set_option maxHeartbeats 400000 in
set_option maxRecDepth 100000 in
theorem J_X12_best_99 {G : jG} {l : Launch} {d : Nat} {X : jX} {res : (Int32 × jH)} (K : jOK G l mX12_best (d + 7) X) (n : Nat) (rc14 : Nat → Int32 → Int32 → Int32 → jH → Option (Int32 × jH)) (hr14 : ∀ (a0 : Nat) (x1 : Int32) (x2 : Int32) (x3 : Int32) (h : jH), rc14 a0 x1 x2 x3 h = some res → jJ G X h 0 0 14 [some (.ref a0), some (.int x1), some (.int x2), some (.int x3), none, none, none] []) (rc34 : Nat → Int32 → Int32 → Int32 → Int32 → Int32 → jH → Option (Int32 × jH)) (hr34 : ∀ (a0 : Nat) (x1 : Int32) (x2 : Int32) (x3 : Int32) (x4 : Int32) (x5 : Int32) (h : jH), rc34 a0 x1 x2 x3 x4 x5 h = some res → jJ G X h 0 0 34 [some (.ref a0), some (.int x1), some (.int x2), some (.int x3), some (.int x4), some (.int x5), none] []) (E : jEnd G mX12_best (jPW res) X) (a0 : Nat) (x2 : Int32) (x3 : Int32) (x4 : Int32) (x5 : Int32) (x6 : Int32) (s0 : Int32) (h : jH) (hf : F_X12_best_99 n rc14 rc34 a0 x2 x3 x4 x5 x6 s0 h = some res) : jJ G X h 0 0 99 [some (.ref a0), none, some (.int x2), some (.int x3), some (.int x4), some (.int x5), some (.int x6)] [.int s0] := by
  unfold F_X12_best_99 at hf
  refine jr_istore_n K (D_at DX12_best_q4 10 rfl) (i := 1) rfl (by decide) (L2 := [_, _, _, _, _, _, _]) rfl ?_
  refine jr_iload_n K (D_at DX12_best_q4 11 rfl) rfl rfl ?_
  refine jr_iload K (D_at DX12_best_q5 0 rfl) rfl ?_
  refine jr_max K (D_at DX12_best_q5 1 rfl) mm_X12_368 (by exact Nat.le_of_ble_eq_true rfl) ?_
  refine jr_istore_n K (D_at DX12_best_q5 2 rfl) (i := 2) rfl (by decide) (L2 := [_, _, _, _, _, _, _]) rfl ?_
  refine jr_iinc K (D_at DX12_best_q5 3 rfl) (i := 5) rfl (v := x5 + (1 : Int32)) (jinc (by decide)) (by decide) (L2 := [_, _, _, _, _, _, _]) rfl ?_
  refine jr_goto K (D_at DX12_best_1_q0 0 rfl) (tgt := 34) (by decide) ?_
  refine jr_keep [true, true, true, true, true, true, false] ?_
  exact hr34 a0 s0 (if x2 < x6 then x6 else x2) x3 x4 (x5 + (1 : Int32)) h hf
set_option maxHeartbeats 400000 in
set_option maxRecDepth 100000 in
theorem J_X12_best_62 {G : jG} {l : Launch} {d : Nat} {X : jX} {res : (Int32 × jH)} (K : jOK G l mX12_best (d + 7) X) (n : Nat) (rc14 : Nat → Int32 → Int32 → Int32 → jH → Option (Int32 × jH)) (hr14 : ∀ (a0 : Nat) (x1 : Int32) (x2 : Int32) (x3 : Int32) (h : jH), rc14 a0 x1 x2 x3 h = some res → jJ G X h 0 0 14 [some (.ref a0), some (.int x1), some (.int x2), some (.int x3), none, none, none] []) (rc34 : Nat → Int32 → Int32 → Int32 → Int32 → Int32 → jH → Option (Int32 × jH)) (hr34 : ∀ (a0 : Nat) (x1 : Int32) (x2 : Int32) (x3 : Int32) (x4 : Int32) (x5 : Int32) (h : jH), rc34 a0 x1 x2 x3 x4 x5 h = some res → jJ G X h 0 0 34 [some (.ref a0), some (.int x1), some (.int x2), some (.int x3), some (.int x4), some (.int x5), none] []) (E : jEnd G mX12_best (jPW res) X) (a0 : Nat) (x1 : Int32) (x2 : Int32) (x3 : Int32) (x5 : Int32) (sa0 : Nat) (s1 : Int32) (s2 : Int32) (h : jH) (hf : F_X12_best_62 n rc14 rc34 a0 x1 x2 x3 x5 sa0 s1 s2 h = some res) : jJ G X h 0 0 62 [some (.ref a0), some (.int x1), some (.int x2), some (.int x3), none, some (.int x5), none] [.int s2, .int s1, .ref sa0] := by
  unfold F_X12_best_62 at hf
  obtain ⟨q62, e62, hf⟩ := jbind hf
  obtain ⟨rc_62, e62⟩ := jcv_o e62
  refine jr_callV K (C_X12_goesOne (d) e62) (D_at DX12_best_q3 3 rfl) cv_X12_313_X12_goesOne (As := [.int s1, .int s2]) (ci := 10) rfl rc_62 rfl rfl (by exact Nat.le_of_ble_eq_true rfl) (kc2 := 0) (ks2 := 0) rfl rfl (fun k9 h9 w9 => by cases w9.1) (fun r9 h9 w9 => ?_)
  obtain ⟨w1, w2⟩ := w9
  subst h9
  cases w1
  show jJ G X _ 0 0 _ _ (.int q62.1 :: _)
  refine jr_istore K (D_at DX12_best_q3 4 rfl) (i := 4) (by decide) (L2 := [_, _, _, _, _, _, _]) rfl ?_
  refine jr_iload K (D_at DX12_best_q3 5 rfl) rfl ?_
  refine jr_if_eq K (D_at DX12_best_q3 6 rfl) (tgt := 79) (by decide) (fun c69 => ?_) (fun c69 => ?_)
  · replace hf := (if_pos c69).symm.trans hf
    refine jr_iconst K (D_at DX12_best_q3 10 rfl) (v := (0 : Int32)) (by decide) ?_
    refine jr_istore K (D_at DX12_best_q3 11 rfl) (i := 6) (by decide) (L2 := [_, _, _, _, _, _, _]) rfl ?_
    refine jr_iload K (D_at DX12_best_q4 0 rfl) rfl ?_
    refine jr_iload_n K (D_at DX12_best_q4 1 rfl) rfl rfl ?_
    refine jr_icmp_le K (D_at DX12_best_q4 2 rfl) (tgt := 98) (by decide) (fun c85 => ?_) (fun c85 => ?_)
    · replace hf := (if_pos c85).symm.trans hf
      refine jr_iload_n K (D_at DX12_best_q4 9 rfl) rfl rfl ?_
      refine jr_keep [true, false, true, true, true, true, true] ?_
      exact J_X12_best_99 K n rc14 hr14 rc34 hr34 E a0 x2 x3 q62.1 x5 (0 : Int32) x1 q62.2 hf
    · replace hf := (if_neg c85).symm.trans hf
      refine jr_bipush K (D_at DX12_best_q4 3 rfl) (v := (32 : Int32)) (by decide) ?_
      refine jr_iload_n K (D_at DX12_best_q4 4 rfl) rfl rfl ?_
      refine jr_imul K (D_at DX12_best_q4 5 rfl) ?_
      refine jr_iload K (D_at DX12_best_q4 6 rfl) rfl ?_
      refine jr_iadd K (D_at DX12_best_q4 7 rfl) ?_
      refine jr_goto K (D_at DX12_best_q4 8 rfl) (tgt := 99) (by decide) ?_
      refine jr_keep [true, false, true, true, true, true, true] ?_
      exact J_X12_best_99 K n rc14 hr14 rc34 hr34 E a0 x2 x3 q62.1 x5 (0 : Int32) (((32 : Int32) * x3) + x5) q62.2 hf
  · replace hf := (if_neg c69).symm.trans hf
    refine jr_aload_n K (D_at DX12_best_q3 7 rfl) rfl rfl ?_
    obtain ⟨v73, e73, hf⟩ := jbind hf
    obtain ⟨rc_73, e73⟩ := jcv_o e73
    refine jr_callV K (C_X12_darkNow (d + 2) e73) (D_at DX12_best_q3 8 rfl) cv_X12_365_X12_darkNow (As := []) (ci := 10) rfl rc_73 rfl rfl (by exact Nat.le_of_ble_eq_true rfl) (kc2 := 0) (ks2 := 0) rfl rfl (fun k9 h9 w9 => by cases w9.1) (fun r9 h9 w9 => ?_)
    obtain ⟨w1, w2⟩ := w9
    subst h9
    cases w1
    show jJ G X _ 0 0 _ _ (.int v73 :: _)
    refine jr_goto K (D_at DX12_best_q3 9 rfl) (tgt := 80) (by decide) ?_
    refine jr_istore K (D_at DX12_best_q3 11 rfl) (i := 6) (by decide) (L2 := [_, _, _, _, _, _, _]) rfl ?_
    refine jr_iload K (D_at DX12_best_q4 0 rfl) rfl ?_
    refine jr_iload_n K (D_at DX12_best_q4 1 rfl) rfl rfl ?_
    refine jr_icmp_le K (D_at DX12_best_q4 2 rfl) (tgt := 98) (by decide) (fun c85 => ?_) (fun c85 => ?_)
    · replace hf := (if_pos c85).symm.trans hf
      refine jr_iload_n K (D_at DX12_best_q4 9 rfl) rfl rfl ?_
      refine jr_keep [true, false, true, true, true, true, true] ?_
      exact J_X12_best_99 K n rc14 hr14 rc34 hr34 E a0 x2 x3 q62.1 x5 v73 x1 q62.2 hf
    · replace hf := (if_neg c85).symm.trans hf
      refine jr_bipush K (D_at DX12_best_q4 3 rfl) (v := (32 : Int32)) (by decide) ?_
      refine jr_iload_n K (D_at DX12_best_q4 4 rfl) rfl rfl ?_
      refine jr_imul K (D_at DX12_best_q4 5 rfl) ?_
      refine jr_iload K (D_at DX12_best_q4 6 rfl) rfl ?_
      refine jr_iadd K (D_at DX12_best_q4 7 rfl) ?_
      refine jr_goto K (D_at DX12_best_q4 8 rfl) (tgt := 99) (by decide) ?_
      refine jr_keep [true, false, true, true, true, true, true] ?_
      exact J_X12_best_99 K n rc14 hr14 rc34 hr34 E a0 x2 x3 q62.1 x5 v73 (((32 : Int32) * x3) + x5) q62.2 hf
set_option maxHeartbeats 400000 in
set_option maxRecDepth 100000 in
theorem J_X12_best_34_b {G : jG} {l : Launch} {d : Nat} {X : jX} {res : (Int32 × jH)} (K : jOK G l mX12_best (d + 7) X) (n : Nat) (rc14 : Nat → Int32 → Int32 → Int32 → jH → Option (Int32 × jH)) (hr14 : ∀ (a0 : Nat) (x1 : Int32) (x2 : Int32) (x3 : Int32) (h : jH), rc14 a0 x1 x2 x3 h = some res → jJ G X h 0 0 14 [some (.ref a0), some (.int x1), some (.int x2), some (.int x3), none, none, none] []) (rc34 : Nat → Int32 → Int32 → Int32 → Int32 → Int32 → jH → Option (Int32 × jH)) (hr34 : ∀ (a0 : Nat) (x1 : Int32) (x2 : Int32) (x3 : Int32) (x4 : Int32) (x5 : Int32) (h : jH), rc34 a0 x1 x2 x3 x4 x5 h = some res → jJ G X h 0 0 34 [some (.ref a0), some (.int x1), some (.int x2), some (.int x3), some (.int x4), some (.int x5), none] []) (E : jEnd G mX12_best (jPW res) X) (a0 : Nat) (x1 : Int32) (x2 : Int32) (x3 : Int32) (x4 : Int32) (x5 : Int32) (h : jH) (hf : F_X12_best_34_b n rc14 rc34 a0 x1 x2 x3 x4 x5 h = some res) : jJ G X h 0 0 34 [some (.ref a0), some (.int x1), some (.int x2), some (.int x3), some (.int x4), some (.int x5), none] [] := by
  unfold F_X12_best_34_b at hf
  refine jr_iload K (D_at DX12_best_q1 10 rfl) rfl ?_
  refine jr_bipush K (D_at DX12_best_q1 11 rfl) (v := (31 : Int32)) (by decide) ?_
  refine jr_icmp_gt K (D_at DX12_best_q2 0 rfl) (tgt := 113) (by decide) (fun c38 => ?_) (fun c38 => ?_)
  · replace hf := (if_pos c38).symm.trans hf
    refine jr_keep [true, true, true, true, false, false, false] ?_
    exact J_X12_best_113 K n rc14 hr14 E a0 x1 x2 x3 h hf
  · replace hf := (if_neg c38).symm.trans hf
    refine jr_iload K (D_at DX12_best_q2 1 rfl) rfl ?_
    refine jr_if_eq K (D_at DX12_best_q2 2 rfl) (tgt := 113) (by decide) (fun c43 => ?_) (fun c43 => ?_)
    · replace hf := (if_pos c43).symm.trans hf
      refine jr_keep [true, true, true, true, false, false, false] ?_
      exact J_X12_best_113 K n rc14 hr14 E a0 x1 x2 x3 h hf
    · replace hf := (if_neg c43).symm.trans hf
      refine jr_aload_n K (D_at DX12_best_q2 3 rfl) rfl rfl ?_
      refine jr_iload_n K (D_at DX12_best_q2 4 rfl) rfl rfl ?_
      refine jr_iconst K (D_at DX12_best_q2 5 rfl) (v := (2 : Int32)) (by decide) ?_
      refine jr_idiv K (D_at DX12_best_q2 6 rfl) (by decide) ?_
      refine jr_iload_n K (D_at DX12_best_q2 7 rfl) rfl rfl ?_
      refine jr_iconst K (D_at DX12_best_q2 8 rfl) (v := (2 : Int32)) (by decide) ?_
      refine jr_irem K (D_at DX12_best_q2 9 rfl) (by decide) ?_
      refine jr_iconst K (D_at DX12_best_q2 10 rfl) (v := (1 : Int32)) (by decide) ?_
      refine jr_icmp_ne K (D_at DX12_best_q2 11 rfl) (tgt := 61) (by decide) (fun c54 => ?_) (fun c54 => ?_)
      · replace hf := (if_neg c54).symm.trans hf
        refine jr_iconst K (D_at DX12_best_q3 2 rfl) (v := (0 : Int32)) (by decide) ?_
        refine jr_keep [true, true, true, true, false, true, false] ?_
        exact J_X12_best_62 K n rc14 hr14 rc34 hr34 E a0 x1 x2 x3 x5 a0 (x3 / (2 : Int32)) (0 : Int32) h hf
      · replace hf := (if_pos c54).symm.trans hf
        refine jr_iconst K (D_at DX12_best_q3 0 rfl) (v := (1 : Int32)) (by decide) ?_
        refine jr_goto K (D_at DX12_best_q3 1 rfl) (tgt := 62) (by decide) ?_
        refine jr_keep [true, true, true, true, false, true, false] ?_
        exact J_X12_best_62 K n rc14 hr14 rc34 hr34 E a0 x1 x2 x3 x5 a0 (x3 / (2 : Int32)) (1 : Int32) h hf
theorem J_X12_best_34 {G : jG} {l : Launch} {d : Nat} {X : jX} {res : (Int32 × jH)} (K : jOK G l mX12_best (d + 7) X) (n : Nat) (rc14 : Nat → Int32 → Int32 → Int32 → jH → Option (Int32 × jH)) (hr14 : ∀ (a0 : Nat) (x1 : Int32) (x2 : Int32) (x3 : Int32) (h : jH), rc14 a0 x1 x2 x3 h = some res → jJ G X h 0 0 14 [some (.ref a0), some (.int x1), some (.int x2), some (.int x3), none, none, none] []) (E : jEnd G mX12_best (jPW res) X) (k : Nat) : ∀ (a0 : Nat) (x1 : Int32) (x2 : Int32) (x3 : Int32) (x4 : Int32) (x5 : Int32) (h : jH), F_X12_best_34 n rc14 k a0 x1 x2 x3 x4 x5 h = some res → jJ G X h 0 0 34 [some (.ref a0), some (.int x1), some (.int x2), some (.int x3), some (.int x4), some (.int x5), none] [] := by
  induction k with
  | zero =>
    intro a0 x1 x2 x3 x4 x5 h hf
    exact jno (show (none : Option (Int32 × jH)) = some res from hf)
  | succ k ih =>
    intro a0 x1 x2 x3 x4 x5 h hf
    exact J_X12_best_34_b K n rc14 hr14 (F_X12_best_34 n rc14 k) ih E a0 x1 x2 x3 x4 x5 h hf
set_option maxHeartbeats 400000 in
set_option maxRecDepth 100000 in
theorem J_X12_best_14_b {G : jG} {l : Launch} {d : Nat} {X : jX} {res : (Int32 × jH)} (K : jOK G l mX12_best (d + 7) X) (n : Nat) (rc14 : Nat → Int32 → Int32 → Int32 → jH → Option (Int32 × jH)) (hr14 : ∀ (a0 : Nat) (x1 : Int32) (x2 : Int32) (x3 : Int32) (h : jH), rc14 a0 x1 x2 x3 h = some res → jJ G X h 0 0 14 [some (.ref a0), some (.int x1), some (.int x2), some (.int x3), none, none, none] []) (E : jEnd G mX12_best (jPW res) X) (a0 : Nat) (x1 : Int32) (x2 : Int32) (x3 : Int32) (h : jH) (hf : F_X12_best_14_b n rc14 a0 x1 x2 x3 h = some res) : jJ G X h 0 0 14 [some (.ref a0), some (.int x1), some (.int x2), some (.int x3), none, none, none] [] := by
  unfold F_X12_best_14_b at hf
  refine jr_iload_n K (D_at DX12_best_q0 10 rfl) rfl rfl ?_
  refine jr_iconst K (D_at DX12_best_q0 11 rfl) (v := (2 : Int32)) (by decide) ?_
  refine jr_aload_n K (D_at DX12_best_q1 0 rfl) rfl rfl ?_
  obtain ⟨v17, e17, hf⟩ := jbind hf
  obtain ⟨rc_17, e17⟩ := jcv_o e17
  refine jr_callV K (C_X12_rings (d + 6) e17) (D_at DX12_best_q1 1 rfl) cv_X12_59_X12_rings (As := []) (ci := 10) rfl rc_17 rfl rfl (by exact Nat.le_of_ble_eq_true rfl) (kc2 := 0) (ks2 := 0) rfl rfl (fun k9 h9 w9 => by cases w9.1) (fun r9 h9 w9 => ?_)
  obtain ⟨w1, w2⟩ := w9
  subst h9
  cases w1
  show jJ G X _ 0 0 _ _ (.int v17 :: _)
  refine jr_imul K (D_at DX12_best_q1 2 rfl) ?_
  refine jr_icmp_ge K (D_at DX12_best_q1 3 rfl) (tgt := 123) (by decide) (fun c21 => ?_) (fun c21 => ?_)
  · replace hf := (if_pos c21).symm.trans hf
    refine jr_iload_n K (D_at DX12_best_1_q0 5 rfl) rfl rfl ?_
    cases hf
    exact jr_iret K E (D_at DX12_best_1_q0 6 rfl) rfl ⟨rfl, rfl⟩
  · replace hf := (if_neg c21).symm.trans hf
    refine jr_iconst K (D_at DX12_best_q1 4 rfl) (v := (1 : Int32)) (by decide) ?_
    refine jr_istore K (D_at DX12_best_q1 5 rfl) (i := 4) (by decide) (L2 := [_, _, _, _, _, _, _]) rfl ?_
    refine jr_aload_n K (D_at DX12_best_q1 6 rfl) rfl rfl ?_
    obtain ⟨h28, e28, hf⟩ := jbind hf
    obtain ⟨rc_28, e28⟩ := jcv_o e28
    refine jr_callV K (C_X12_keepsAll (d + 6) e28) (D_at DX12_best_q1 7 rfl) cv_X12_348_X12_keepsAll (As := []) (ci := 10) rfl rc_28 rfl rfl (by exact Nat.le_of_ble_eq_true rfl) (kc2 := 0) (ks2 := 0) rfl rfl (fun k9 h9 w9 => by cases w9.1) (fun r9 h9 w9 => ?_)
    obtain ⟨w1, w2⟩ := w9
    subst h9
    cases w1
    show jJ G X _ 0 0 _ _ []
    refine jr_iconst K (D_at DX12_best_q1 8 rfl) (v := (1 : Int32)) (by decide) ?_
    refine jr_istore K (D_at DX12_best_q1 9 rfl) (i := 5) (by decide) (L2 := [_, _, _, _, _, _, _]) rfl ?_
    refine jr_keep [true, true, true, true, true, true, false] ?_
    exact J_X12_best_34 K n rc14 hr14 E n a0 x1 x2 x3 (1 : Int32) (1 : Int32) h28 hf
theorem J_X12_best_14 {G : jG} {l : Launch} {d : Nat} {X : jX} {res : (Int32 × jH)} (K : jOK G l mX12_best (d + 7) X) (n : Nat) (E : jEnd G mX12_best (jPW res) X) (k : Nat) : ∀ (a0 : Nat) (x1 : Int32) (x2 : Int32) (x3 : Int32) (h : jH), F_X12_best_14 n k a0 x1 x2 x3 h = some res → jJ G X h 0 0 14 [some (.ref a0), some (.int x1), some (.int x2), some (.int x3), none, none, none] [] := by
  induction k with
  | zero =>
    intro a0 x1 x2 x3 h hf
    exact jno (show (none : Option (Int32 × jH)) = some res from hf)
  | succ k ih =>
    intro a0 x1 x2 x3 h hf
    exact J_X12_best_14_b K n (F_X12_best_14 n k) ih E a0 x1 x2 x3 h hf
set_option maxHeartbeats 400000 in
set_option maxRecDepth 100000 in
theorem J_X12_best {G : jG} {l : Launch} {d : Nat} {X : jX} {res : (Int32 × jH)} (K : jOK G l mX12_best (d + 7) X) (n : Nat) (E : jEnd G mX12_best (jPW res) X) (a0 : Nat) (h : jH) (hf : F_X12_best n a0 h = some res) : jJ G X h 0 0 0 [some (.ref a0), none, none, none, none, none, none] [] := by
  unfold F_X12_best at hf
  refine jr_aload_n K (D_at DX12_best_q0 0 rfl) rfl rfl ?_
  refine jr_iconst K (D_at DX12_best_q0 1 rfl) (v := (0 : Int32)) (by decide) ?_
  obtain ⟨h2, e2, hf⟩ := jbind hf
  refine jr_putI K (D_at DX12_best_q0 2 rfl) fp_X12_3_10 (Or.inl rfl) e2 ?_
  refine jr_iconst K (D_at DX12_best_q0 3 rfl) (v := (-1 : Int32)) (by decide) ?_
  refine jr_istore_n K (D_at DX12_best_q0 4 rfl) (i := 1) rfl (by decide) (L2 := [_, _, _, _, _, _, _]) rfl ?_
  refine jr_aload_n K (D_at DX12_best_q0 5 rfl) rfl rfl ?_
  obtain ⟨v8, e8, hf⟩ := jbind hf
  obtain ⟨rc_8, e8⟩ := jcv_o e8
  refine jr_callV K (C_X12_darkNow (d + 2) e8) (D_at DX12_best_q0 6 rfl) cv_X12_365_X12_darkNow (As := []) (ci := 10) rfl rc_8 rfl rfl (by exact Nat.le_of_ble_eq_true rfl) (kc2 := 0) (ks2 := 0) rfl rfl (fun k9 h9 w9 => by cases w9.1) (fun r9 h9 w9 => ?_)
  obtain ⟨w1, w2⟩ := w9
  subst h9
  cases w1
  show jJ G X _ 0 0 _ _ (.int v8 :: _)
  refine jr_istore_n K (D_at DX12_best_q0 7 rfl) (i := 2) rfl (by decide) (L2 := [_, _, _, _, _, _, _]) rfl ?_
  refine jr_iconst K (D_at DX12_best_q0 8 rfl) (v := (0 : Int32)) (by decide) ?_
  refine jr_istore_n K (D_at DX12_best_q0 9 rfl) (i := 3) rfl (by decide) (L2 := [_, _, _, _, _, _, _]) rfl ?_
  refine jr_keep [true, true, true, true, false, false, false] ?_
  exact J_X12_best_14 K n E n a0 (-1 : Int32) v8 (0 : Int32) h2 hf
theorem C_X12_best {G : jG} {l : Launch} (d : Nat) {n : Nat} {a0 : Nat} {h : jH} {res : (Int32 × jH)} (hf : F_X12_best n a0 h = some res) : jC G l mX12_best (d + 7) 0 0 [.ref a0] h (jPW res) :=
  jC.of pn_X12 (jcats rfl) (Nat.le_of_ble_eq_true rfl) (fun X K E => J_X12_best K n E a0 h hf)
set_option maxHeartbeats 400000 in
set_option maxRecDepth 100000 in
theorem J_X12_shadesAll {G : jG} {l : Launch} {d : Nat} {X : jX} {res : Int32} (K : jOK G l mX12_shadesAll (d + 4) X) (n : Nat) (h : jH) (E : jEnd G mX12_shadesAll (jPR h res) X) (a0 : Nat) (x1 : Int32) (hf : F_X12_shadesAll n a0 x1 h = some res) : jJ G X h 0 0 0 [some (.ref a0), some (.int x1)] [] := by
  unfold F_X12_shadesAll at hf
  refine jr_iload_n K (D_at DX12_shadesAll_q0 0 rfl) rfl rfl ?_
  refine jr_aload_n K (D_at DX12_shadesAll_q0 1 rfl) rfl rfl ?_
  obtain ⟨v2, e2, hf⟩ := jbind hf
  obtain ⟨rc_2, e2⟩ := jcv_o e2
  refine jr_callV K (C_X12_shadeNow (d) e2) (D_at DX12_shadesAll_q0 2 rfl) cv_X12_357_X12_shadeNow (As := []) (ci := 10) rfl rc_2 rfl rfl (by exact Nat.le_of_ble_eq_true rfl) (kc2 := 0) (ks2 := 0) rfl rfl (fun k9 h9 w9 => by cases w9.1) (fun r9 h9 w9 => ?_)
  obtain ⟨w1, w2⟩ := w9
  subst h9
  cases w1
  show jJ G X _ 0 0 _ _ (.int v2 :: _)
  refine jr_iconst K (D_at DX12_shadesAll_q0 3 rfl) (v := (-1 : Int32)) (by decide) ?_
  refine jr_ixor K (D_at DX12_shadesAll_q0 4 rfl) ?_
  refine jr_iand K (D_at DX12_shadesAll_q0 5 rfl) ?_
  refine jr_if_ne K (D_at DX12_shadesAll_q0 6 rfl) (tgt := 15) (by decide) (fun c8 => ?_) (fun c8 => ?_)
  · replace hf := (if_neg c8).symm.trans hf
    refine jr_iconst K (D_at DX12_shadesAll_q0 9 rfl) (v := (0 : Int32)) (by decide) ?_
    cases hf
    exact jr_zret K E (D_at DX12_shadesAll_q0 10 rfl) rfl (Or.inl rfl) ⟨rfl, rfl⟩
  · replace hf := (if_pos c8).symm.trans hf
    refine jr_iconst K (D_at DX12_shadesAll_q0 7 rfl) (v := (1 : Int32)) (by decide) ?_
    refine jr_goto K (D_at DX12_shadesAll_q0 8 rfl) (tgt := 16) (by decide) ?_
    cases hf
    exact jr_zret K E (D_at DX12_shadesAll_q0 10 rfl) rfl (Or.inr rfl) ⟨rfl, rfl⟩
theorem C_X12_shadesAll {G : jG} {l : Launch} (d : Nat) {n : Nat} {a0 : Nat} {x1 : Int32} {h : jH} {res : Int32} (hf : F_X12_shadesAll n a0 x1 h = some res) : jC G l mX12_shadesAll (d + 4) 0 0 [.ref a0, .int x1] h (jPR h res) :=
  jC.of pn_X12 (jcats rfl) (Nat.le_of_ble_eq_true rfl) (fun X K E => J_X12_shadesAll K n h E a0 x1 hf)
set_option maxHeartbeats 400000 in
set_option maxRecDepth 100000 in
theorem J_X12_stepsTo_72 {G : jG} {l : Launch} {d : Nat} {X : jX} {res : (Int32 × jH)} (K : jOK G l mX12_stepsTo (d + 7) X) (n : Nat) (E : jEnd G mX12_stepsTo (jPW res) X) (a0 : Nat) (x4 : Int32) (h : jH) (hf : F_X12_stepsTo_72 n a0 x4 h = some res) : jJ G X h 0 0 72 [some (.ref a0), none, none, none, some (.int x4), none, none] [] := by
  unfold F_X12_stepsTo_72 at hf
  refine jr_aload_n K (D_at DX12_stepsTo_q2 9 rfl) rfl rfl ?_
  obtain ⟨h73, e73, hf⟩ := jbind hf
  obtain ⟨rc_73, e73⟩ := jcv_o e73
  refine jr_callV K (C_X12_bringsBack (d + 6) e73) (D_at DX12_stepsTo_q2 10 rfl) cv_X12_351_X12_bringsBack (As := []) (ci := 10) rfl rc_73 rfl rfl (by exact Nat.le_of_ble_eq_true rfl) (kc2 := 0) (ks2 := 0) rfl rfl (fun k9 h9 w9 => by cases w9.1) (fun r9 h9 w9 => ?_)
  obtain ⟨w1, w2⟩ := w9
  subst h9
  cases w1
  show jJ G X _ 0 0 _ _ []
  refine jr_iload K (D_at DX12_stepsTo_q2 11 rfl) rfl ?_
  cases hf
  exact jr_iret K E (D_at DX12_stepsTo_q3 0 rfl) rfl ⟨rfl, rfl⟩
set_option maxHeartbeats 400000 in
set_option maxRecDepth 100000 in
theorem J_X12_stepsTo_15_b {G : jG} {l : Launch} {d : Nat} {X : jX} {res : (Int32 × jH)} (K : jOK G l mX12_stepsTo (d + 7) X) (n : Nat) (rc15 : Nat → Int32 → Int32 → Int32 → Int32 → Int32 → Int32 → jH → Option (Int32 × jH)) (hr15 : ∀ (a0 : Nat) (x1 : Int32) (x2 : Int32) (x3 : Int32) (x4 : Int32) (x5 : Int32) (x6 : Int32) (h : jH), rc15 a0 x1 x2 x3 x4 x5 x6 h = some res → jJ G X h 0 0 15 [some (.ref a0), some (.int x1), some (.int x2), some (.int x3), some (.int x4), some (.int x5), some (.int x6)] []) (E : jEnd G mX12_stepsTo (jPW res) X) (a0 : Nat) (x1 : Int32) (x2 : Int32) (x3 : Int32) (x4 : Int32) (x5 : Int32) (x6 : Int32) (h : jH) (hf : F_X12_stepsTo_15_b n rc15 a0 x1 x2 x3 x4 x5 x6 h = some res) : jJ G X h 0 0 15 [some (.ref a0), some (.int x1), some (.int x2), some (.int x3), some (.int x4), some (.int x5), some (.int x6)] [] := by
  unfold F_X12_stepsTo_15_b at hf
  refine jr_iload K (D_at DX12_stepsTo_q0 8 rfl) rfl ?_
  refine jr_bipush K (D_at DX12_stepsTo_q0 9 rfl) (v := (31 : Int32)) (by decide) ?_
  refine jr_icmp_gt K (D_at DX12_stepsTo_q0 10 rfl) (tgt := 72) (by decide) (fun c19 => ?_) (fun c19 => ?_)
  · replace hf := (if_pos c19).symm.trans hf
    refine jr_keep [true, false, false, false, true, false, false] ?_
    exact J_X12_stepsTo_72 K n E a0 x4 h hf
  · replace hf := (if_neg c19).symm.trans hf
    refine jr_iload K (D_at DX12_stepsTo_q0 11 rfl) rfl ?_
    refine jr_if_eq K (D_at DX12_stepsTo_q1 0 rfl) (tgt := 72) (by decide) (fun c24 => ?_) (fun c24 => ?_)
    · replace hf := (if_pos c24).symm.trans hf
      refine jr_keep [true, false, false, false, true, false, false] ?_
      exact J_X12_stepsTo_72 K n E a0 x4 h hf
    · replace hf := (if_neg c24).symm.trans hf
      refine jr_iload K (D_at DX12_stepsTo_q1 1 rfl) rfl ?_
      refine jr_ldcw K (D_at DX12_stepsTo_q1 2 rfl) (v := (1000000 : Int32)) kc_X12_273 ?_
      refine jr_icmp_ne K (D_at DX12_stepsTo_q1 3 rfl) (tgt := 72) (by decide) (fun c32 => ?_) (fun c32 => ?_)
      · replace hf := (if_neg c32).symm.trans hf
        refine jr_keep [true, false, false, false, true, false, false] ?_
        exact J_X12_stepsTo_72 K n E a0 x4 h hf
      · replace hf := (if_pos c32).symm.trans hf
        refine jr_aload_n K (D_at DX12_stepsTo_q1 4 rfl) rfl rfl ?_
        refine jr_iload_n K (D_at DX12_stepsTo_q1 5 rfl) rfl rfl ?_
        refine jr_iload_n K (D_at DX12_stepsTo_q1 6 rfl) rfl rfl ?_
        obtain ⟨q38, e38, hf⟩ := jbind hf
        obtain ⟨rc_38, e38⟩ := jcv_o e38
        refine jr_callV K (C_X12_goesOne (d) e38) (D_at DX12_stepsTo_q1 7 rfl) cv_X12_313_X12_goesOne (As := [.int x2, .int x3]) (ci := 10) rfl rc_38 rfl rfl (by exact Nat.le_of_ble_eq_true rfl) (kc2 := 0) (ks2 := 0) rfl rfl (fun k9 h9 w9 => by cases w9.1) (fun r9 h9 w9 => ?_)
        obtain ⟨w1, w2⟩ := w9
        subst h9
        cases w1
        show jJ G X _ 0 0 _ _ (.int q38.1 :: _)
        refine jr_istore K (D_at DX12_stepsTo_q1 8 rfl) (i := 5) (by decide) (L2 := [_, _, _, _, _, _, _]) rfl ?_
        refine jr_iload K (D_at DX12_stepsTo_q1 9 rfl) rfl ?_
        refine jr_if_eq K (D_at DX12_stepsTo_q1 10 rfl) (tgt := 61) (by decide) (fun c45 => ?_) (fun c45 => ?_)
        · replace hf := (if_pos c45).symm.trans hf
          refine jr_ldcw K (D_at DX12_stepsTo_q2 5 rfl) (v := (1000000 : Int32)) kc_X12_273 ?_
          refine jr_istore K (D_at DX12_stepsTo_q2 6 rfl) (i := 4) (by decide) (L2 := [_, _, _, _, _, _, _]) rfl ?_
          refine jr_iinc K (D_at DX12_stepsTo_q2 7 rfl) (i := 6) rfl (v := x6 + (1 : Int32)) (jinc (by decide)) (by decide) (L2 := [_, _, _, _, _, _, _]) rfl ?_
          refine jr_goto K (D_at DX12_stepsTo_q2 8 rfl) (tgt := 15) (by decide) ?_
          refine jr_keep [true, true, true, true, true, true, true] ?_
          exact hr15 a0 x1 x2 x3 (1000000 : Int32) q38.1 (x6 + (1 : Int32)) q38.2 hf
        · replace hf := (if_neg c45).symm.trans hf
          refine jr_aload_n K (D_at DX12_stepsTo_q1 11 rfl) rfl rfl ?_
          refine jr_iload_n K (D_at DX12_stepsTo_q2 0 rfl) rfl rfl ?_
          obtain ⟨v50, e50, hf⟩ := jbind hf
          obtain ⟨rc_50, e50⟩ := jcv_o e50
          refine jr_callV K (C_X12_shadesAll (d + 2) e50) (D_at DX12_stepsTo_q2 1 rfl) cv_X12_371_X12_shadesAll (As := [.int x1]) (ci := 10) rfl rc_50 rfl rfl (by exact Nat.le_of_ble_eq_true rfl) (kc2 := 0) (ks2 := 0) rfl rfl (fun k9 h9 w9 => by cases w9.1) (fun r9 h9 w9 => ?_)
          obtain ⟨w1, w2⟩ := w9
          subst h9
          cases w1
          show jJ G X _ 0 0 _ _ (.int v50 :: _)
          refine jr_if_eq K (D_at DX12_stepsTo_q2 2 rfl) (tgt := 61) (by decide) (fun c53 => ?_) (fun c53 => ?_)
          · replace hf := (if_pos c53).symm.trans hf
            refine jr_ldcw K (D_at DX12_stepsTo_q2 5 rfl) (v := (1000000 : Int32)) kc_X12_273 ?_
            refine jr_istore K (D_at DX12_stepsTo_q2 6 rfl) (i := 4) (by decide) (L2 := [_, _, _, _, _, _, _]) rfl ?_
            refine jr_iinc K (D_at DX12_stepsTo_q2 7 rfl) (i := 6) rfl (v := x6 + (1 : Int32)) (jinc (by decide)) (by decide) (L2 := [_, _, _, _, _, _, _]) rfl ?_
            refine jr_goto K (D_at DX12_stepsTo_q2 8 rfl) (tgt := 15) (by decide) ?_
            refine jr_keep [true, true, true, true, true, true, true] ?_
            exact hr15 a0 x1 x2 x3 (1000000 : Int32) q38.1 (x6 + (1 : Int32)) q38.2 hf
          · replace hf := (if_neg c53).symm.trans hf
            refine jr_iload K (D_at DX12_stepsTo_q2 3 rfl) rfl ?_
            refine jr_goto K (D_at DX12_stepsTo_q2 4 rfl) (tgt := 64) (by decide) ?_
            refine jr_istore K (D_at DX12_stepsTo_q2 6 rfl) (i := 4) (by decide) (L2 := [_, _, _, _, _, _, _]) rfl ?_
            refine jr_iinc K (D_at DX12_stepsTo_q2 7 rfl) (i := 6) rfl (v := x6 + (1 : Int32)) (jinc (by decide)) (by decide) (L2 := [_, _, _, _, _, _, _]) rfl ?_
            refine jr_goto K (D_at DX12_stepsTo_q2 8 rfl) (tgt := 15) (by decide) ?_
            refine jr_keep [true, true, true, true, true, true, true] ?_
            exact hr15 a0 x1 x2 x3 x6 q38.1 (x6 + (1 : Int32)) q38.2 hf
theorem J_X12_stepsTo_15 {G : jG} {l : Launch} {d : Nat} {X : jX} {res : (Int32 × jH)} (K : jOK G l mX12_stepsTo (d + 7) X) (n : Nat) (E : jEnd G mX12_stepsTo (jPW res) X) (k : Nat) : ∀ (a0 : Nat) (x1 : Int32) (x2 : Int32) (x3 : Int32) (x4 : Int32) (x5 : Int32) (x6 : Int32) (h : jH), F_X12_stepsTo_15 n k a0 x1 x2 x3 x4 x5 x6 h = some res → jJ G X h 0 0 15 [some (.ref a0), some (.int x1), some (.int x2), some (.int x3), some (.int x4), some (.int x5), some (.int x6)] [] := by
  induction k with
  | zero =>
    intro a0 x1 x2 x3 x4 x5 x6 h hf
    exact jno (show (none : Option (Int32 × jH)) = some res from hf)
  | succ k ih =>
    intro a0 x1 x2 x3 x4 x5 x6 h hf
    exact J_X12_stepsTo_15_b K n (F_X12_stepsTo_15 n k) ih E a0 x1 x2 x3 x4 x5 x6 h hf
set_option maxHeartbeats 400000 in
set_option maxRecDepth 100000 in
theorem J_X12_stepsTo {G : jG} {l : Launch} {d : Nat} {X : jX} {res : (Int32 × jH)} (K : jOK G l mX12_stepsTo (d + 7) X) (n : Nat) (E : jEnd G mX12_stepsTo (jPW res) X) (a0 : Nat) (x1 : Int32) (x2 : Int32) (x3 : Int32) (h : jH) (hf : F_X12_stepsTo n a0 x1 x2 x3 h = some res) : jJ G X h 0 0 0 [some (.ref a0), some (.int x1), some (.int x2), some (.int x3), none, none, none] [] := by
  unfold F_X12_stepsTo at hf
  refine jr_ldcw K (D_at DX12_stepsTo_q0 0 rfl) (v := (1000000 : Int32)) kc_X12_273 ?_
  refine jr_istore K (D_at DX12_stepsTo_q0 1 rfl) (i := 4) (by decide) (L2 := [_, _, _, _, _, _, _]) rfl ?_
  refine jr_iconst K (D_at DX12_stepsTo_q0 2 rfl) (v := (1 : Int32)) (by decide) ?_
  refine jr_istore K (D_at DX12_stepsTo_q0 3 rfl) (i := 5) (by decide) (L2 := [_, _, _, _, _, _, _]) rfl ?_
  refine jr_aload_n K (D_at DX12_stepsTo_q0 4 rfl) rfl rfl ?_
  obtain ⟨h9, e9, hf⟩ := jbind hf
  obtain ⟨rc_9, e9⟩ := jcv_o e9
  refine jr_callV K (C_X12_keepsAll (d + 6) e9) (D_at DX12_stepsTo_q0 5 rfl) cv_X12_348_X12_keepsAll (As := []) (ci := 10) rfl rc_9 rfl rfl (by exact Nat.le_of_ble_eq_true rfl) (kc2 := 0) (ks2 := 0) rfl rfl (fun k9 h9 w9 => by cases w9.1) (fun r9 h9 w9 => ?_)
  obtain ⟨w1, w2⟩ := w9
  subst h9
  cases w1
  show jJ G X _ 0 0 _ _ []
  refine jr_iconst K (D_at DX12_stepsTo_q0 6 rfl) (v := (1 : Int32)) (by decide) ?_
  refine jr_istore K (D_at DX12_stepsTo_q0 7 rfl) (i := 6) (by decide) (L2 := [_, _, _, _, _, _, _]) rfl ?_
  refine jr_keep [true, true, true, true, true, true, true] ?_
  exact J_X12_stepsTo_15 K n E n a0 x1 x2 x3 (1000000 : Int32) (1 : Int32) (1 : Int32) h9 hf
theorem C_X12_stepsTo {G : jG} {l : Launch} (d : Nat) {n : Nat} {a0 : Nat} {x1 : Int32} {x2 : Int32} {x3 : Int32} {h : jH} {res : (Int32 × jH)} (hf : F_X12_stepsTo n a0 x1 x2 x3 h = some res) : jC G l mX12_stepsTo (d + 7) 0 0 [.ref a0, .int x1, .int x2, .int x3] h (jPW res) :=
  jC.of pn_X12 (jcats rfl) (Nat.le_of_ble_eq_true rfl) (fun X K E => J_X12_stepsTo K n E a0 x1 x2 x3 h hf)
set_option maxHeartbeats 400000 in
set_option maxRecDepth 100000 in
theorem J_X12_fewestTo_58 {G : jG} {l : Launch} {d : Nat} {X : jX} {res : (Int32 × jH)} (K : jOK G l mX12_fewestTo (d + 8) X) (n : Nat) (rc10 : Nat → Int32 → Int32 → Int32 → Int32 → Int32 → jH → Option (Int32 × jH)) (hr10 : ∀ (a0 : Nat) (x1 : Int32) (x2 : Int32) (x3 : Int32) (x4 : Int32) (x5 : Int32) (h : jH), rc10 a0 x1 x2 x3 x4 x5 h = some res → jJ G X h 0 0 10 [some (.ref a0), some (.int x1), some (.int x2), some (.int x3), some (.int x4), some (.int x5), none] []) (E : jEnd G mX12_fewestTo (jPW res) X) (a0 : Nat) (x1 : Int32) (x2 : Int32) (x4 : Int32) (x5 : Int32) (x6 : Int32) (s0 : Int32) (h : jH) (hf : F_X12_fewestTo_58 n rc10 a0 x1 x2 x4 x5 x6 s0 h = some res) : jJ G X h 0 0 58 [some (.ref a0), some (.int x1), some (.int x2), none, some (.int x4), some (.int x5), some (.int x6)] [.int s0] := by
  unfold F_X12_fewestTo_58 at hf
  refine jr_istore_n K (D_at DX12_fewestTo_q2 9 rfl) (i := 3) rfl (by decide) (L2 := [_, _, _, _, _, _, _]) rfl ?_
  refine jr_iload K (D_at DX12_fewestTo_q2 10 rfl) rfl ?_
  refine jr_iload K (D_at DX12_fewestTo_q2 11 rfl) rfl ?_
  refine jr_min K (D_at DX12_fewestTo_q3 0 rfl) mm_X12_119 (by exact Nat.le_of_ble_eq_true rfl) ?_
  refine jr_istore K (D_at DX12_fewestTo_q3 1 rfl) (i := 4) (by decide) (L2 := [_, _, _, _, _, _, _]) rfl ?_
  refine jr_iinc K (D_at DX12_fewestTo_q3 2 rfl) (i := 5) rfl (v := x5 + (1 : Int32)) (jinc (by decide)) (by decide) (L2 := [_, _, _, _, _, _, _]) rfl ?_
  refine jr_goto K (D_at DX12_fewestTo_q3 3 rfl) (tgt := 10) (by decide) ?_
  refine jr_keep [true, true, true, true, true, true, false] ?_
  exact hr10 a0 x1 x2 s0 (if x6 < x4 then x6 else x4) (x5 + (1 : Int32)) h hf
set_option maxHeartbeats 400000 in
set_option maxRecDepth 100000 in
theorem J_X12_fewestTo_40 {G : jG} {l : Launch} {d : Nat} {X : jX} {res : (Int32 × jH)} (K : jOK G l mX12_fewestTo (d + 8) X) (n : Nat) (rc10 : Nat → Int32 → Int32 → Int32 → Int32 → Int32 → jH → Option (Int32 × jH)) (hr10 : ∀ (a0 : Nat) (x1 : Int32) (x2 : Int32) (x3 : Int32) (x4 : Int32) (x5 : Int32) (h : jH), rc10 a0 x1 x2 x3 x4 x5 h = some res → jJ G X h 0 0 10 [some (.ref a0), some (.int x1), some (.int x2), some (.int x3), some (.int x4), some (.int x5), none] []) (E : jEnd G mX12_fewestTo (jPW res) X) (a0 : Nat) (x1 : Int32) (x2 : Int32) (x3 : Int32) (x4 : Int32) (x5 : Int32) (sa0 : Nat) (s1 : Int32) (s2 : Int32) (s3 : Int32) (h : jH) (hf : F_X12_fewestTo_40 n rc10 a0 x1 x2 x3 x4 x5 sa0 s1 s2 s3 h = some res) : jJ G X h 0 0 40 [some (.ref a0), some (.int x1), some (.int x2), some (.int x3), some (.int x4), some (.int x5), none] [.int s3, .int s2, .int s1, .ref sa0] := by
  unfold F_X12_fewestTo_40 at hf
  obtain ⟨q40, e40, hf⟩ := jbind hf
  obtain ⟨rc_40, e40⟩ := jcv_o e40
  refine jr_callV K (C_X12_stepsTo (d) e40) (D_at DX12_fewestTo_q2 1 rfl) cv_X12_374_X12_stepsTo (As := [.int s1, .int s2, .int s3]) (ci := 10) rfl rc_40 rfl rfl (by exact Nat.le_of_ble_eq_true rfl) (kc2 := 0) (ks2 := 0) rfl rfl (fun k9 h9 w9 => by cases w9.1) (fun r9 h9 w9 => ?_)
  obtain ⟨w1, w2⟩ := w9
  subst h9
  cases w1
  show jJ G X _ 0 0 _ _ (.int q40.1 :: _)
  refine jr_istore K (D_at DX12_fewestTo_q2 2 rfl) (i := 6) (by decide) (L2 := [_, _, _, _, _, _, _]) rfl ?_
  refine jr_iload K (D_at DX12_fewestTo_q2 3 rfl) rfl ?_
  refine jr_iload K (D_at DX12_fewestTo_q2 4 rfl) rfl ?_
  refine jr_icmp_ge K (D_at DX12_fewestTo_q2 5 rfl) (tgt := 57) (by decide) (fun c49 => ?_) (fun c49 => ?_)
  · replace hf := (if_pos c49).symm.trans hf
    refine jr_iload_n K (D_at DX12_fewestTo_q2 8 rfl) rfl rfl ?_
    refine jr_keep [true, true, true, false, true, true, true] ?_
    exact J_X12_fewestTo_58 K n rc10 hr10 E a0 x1 x2 x4 x5 q40.1 x3 q40.2 hf
  · replace hf := (if_neg c49).symm.trans hf
    refine jr_iload K (D_at DX12_fewestTo_q2 6 rfl) rfl ?_
    refine jr_goto K (D_at DX12_fewestTo_q2 7 rfl) (tgt := 58) (by decide) ?_
    refine jr_keep [true, true, true, false, true, true, true] ?_
    exact J_X12_fewestTo_58 K n rc10 hr10 E a0 x1 x2 x4 x5 q40.1 x5 q40.2 hf
set_option maxHeartbeats 400000 in
set_option maxRecDepth 100000 in
theorem J_X12_fewestTo_10_b {G : jG} {l : Launch} {d : Nat} {X : jX} {res : (Int32 × jH)} (K : jOK G l mX12_fewestTo (d + 8) X) (n : Nat) (rc10 : Nat → Int32 → Int32 → Int32 → Int32 → Int32 → jH → Option (Int32 × jH)) (hr10 : ∀ (a0 : Nat) (x1 : Int32) (x2 : Int32) (x3 : Int32) (x4 : Int32) (x5 : Int32) (h : jH), rc10 a0 x1 x2 x3 x4 x5 h = some res → jJ G X h 0 0 10 [some (.ref a0), some (.int x1), some (.int x2), some (.int x3), some (.int x4), some (.int x5), none] []) (E : jEnd G mX12_fewestTo (jPW res) X) (a0 : Nat) (x1 : Int32) (x2 : Int32) (x3 : Int32) (x4 : Int32) (x5 : Int32) (h : jH) (hf : F_X12_fewestTo_10_b n rc10 a0 x1 x2 x3 x4 x5 h = some res) : jJ G X h 0 0 10 [some (.ref a0), some (.int x1), some (.int x2), some (.int x3), some (.int x4), some (.int x5), none] [] := by
  unfold F_X12_fewestTo_10_b at hf
  refine jr_iload K (D_at DX12_fewestTo_q0 6 rfl) rfl ?_
  refine jr_iconst K (D_at DX12_fewestTo_q0 7 rfl) (v := (2 : Int32)) (by decide) ?_
  refine jr_aload_n K (D_at DX12_fewestTo_q0 8 rfl) rfl rfl ?_
  obtain ⟨v14, e14, hf⟩ := jbind hf
  obtain ⟨rc_14, e14⟩ := jcv_o e14
  refine jr_callV K (C_X12_rings (d + 7) e14) (D_at DX12_fewestTo_q0 9 rfl) cv_X12_59_X12_rings (As := []) (ci := 10) rfl rc_14 rfl rfl (by exact Nat.le_of_ble_eq_true rfl) (kc2 := 0) (ks2 := 0) rfl rfl (fun k9 h9 w9 => by cases w9.1) (fun r9 h9 w9 => ?_)
  obtain ⟨w1, w2⟩ := w9
  subst h9
  cases w1
  show jJ G X _ 0 0 _ _ (.int v14 :: _)
  refine jr_imul K (D_at DX12_fewestTo_q0 10 rfl) ?_
  refine jr_icmp_ge K (D_at DX12_fewestTo_q0 11 rfl) (tgt := 74) (by decide) (fun c18 => ?_) (fun c18 => ?_)
  · replace hf := (if_pos c18).symm.trans hf
    refine jr_iload_n K (D_at DX12_fewestTo_q3 4 rfl) rfl rfl ?_
    refine jr_if_ne K (D_at DX12_fewestTo_q3 5 rfl) (tgt := 83) (by decide) (fun c75 => ?_) (fun c75 => ?_)
    · replace hf := (if_neg c75).symm.trans hf
      refine jr_iload_n K (D_at DX12_fewestTo_q3 9 rfl) rfl rfl ?_
      refine jr_goto K (D_at DX12_fewestTo_q3 10 rfl) (tgt := 89) (by decide) ?_
      cases hf
      exact jr_iret K E (D_at DX12_fewestTo_q4 0 rfl) rfl ⟨rfl, rfl⟩
    · replace hf := (if_pos c75).symm.trans hf
      refine jr_iload_n K (D_at DX12_fewestTo_q3 6 rfl) rfl rfl ?_
      refine jr_iconst K (D_at DX12_fewestTo_q3 7 rfl) (v := (-1 : Int32)) (by decide) ?_
      refine jr_icmp_ne K (D_at DX12_fewestTo_q3 8 rfl) (tgt := 87) (by decide) (fun c80 => ?_) (fun c80 => ?_)
      · replace hf := (if_neg c80).symm.trans hf
        refine jr_iload K (D_at DX12_fewestTo_q3 11 rfl) rfl ?_
        cases hf
        exact jr_iret K E (D_at DX12_fewestTo_q4 0 rfl) rfl ⟨rfl, rfl⟩
      · replace hf := (if_pos c80).symm.trans hf
        refine jr_iload_n K (D_at DX12_fewestTo_q3 9 rfl) rfl rfl ?_
        refine jr_goto K (D_at DX12_fewestTo_q3 10 rfl) (tgt := 89) (by decide) ?_
        cases hf
        exact jr_iret K E (D_at DX12_fewestTo_q4 0 rfl) rfl ⟨rfl, rfl⟩
  · replace hf := (if_neg c18).symm.trans hf
    refine jr_aload_n K (D_at DX12_fewestTo_q1 0 rfl) rfl rfl ?_
    refine jr_iload_n K (D_at DX12_fewestTo_q1 1 rfl) rfl rfl ?_
    refine jr_iload K (D_at DX12_fewestTo_q1 2 rfl) rfl ?_
    refine jr_iconst K (D_at DX12_fewestTo_q1 3 rfl) (v := (2 : Int32)) (by decide) ?_
    refine jr_idiv K (D_at DX12_fewestTo_q1 4 rfl) (by decide) ?_
    refine jr_iload K (D_at DX12_fewestTo_q1 5 rfl) rfl ?_
    refine jr_iconst K (D_at DX12_fewestTo_q1 6 rfl) (v := (2 : Int32)) (by decide) ?_
    refine jr_irem K (D_at DX12_fewestTo_q1 7 rfl) (by decide) ?_
    refine jr_iconst K (D_at DX12_fewestTo_q1 8 rfl) (v := (1 : Int32)) (by decide) ?_
    refine jr_icmp_ne K (D_at DX12_fewestTo_q1 9 rfl) (tgt := 39) (by decide) (fun c32 => ?_) (fun c32 => ?_)
    · replace hf := (if_neg c32).symm.trans hf
      refine jr_iconst K (D_at DX12_fewestTo_q2 0 rfl) (v := (0 : Int32)) (by decide) ?_
      refine jr_keep [true, true, true, true, true, true, false] ?_
      exact J_X12_fewestTo_40 K n rc10 hr10 E a0 x1 x2 x3 x4 x5 a0 x1 (x5 / (2 : Int32)) (0 : Int32) h hf
    · replace hf := (if_pos c32).symm.trans hf
      refine jr_iconst K (D_at DX12_fewestTo_q1 10 rfl) (v := (1 : Int32)) (by decide) ?_
      refine jr_goto K (D_at DX12_fewestTo_q1 11 rfl) (tgt := 40) (by decide) ?_
      refine jr_keep [true, true, true, true, true, true, false] ?_
      exact J_X12_fewestTo_40 K n rc10 hr10 E a0 x1 x2 x3 x4 x5 a0 x1 (x5 / (2 : Int32)) (1 : Int32) h hf
theorem J_X12_fewestTo_10 {G : jG} {l : Launch} {d : Nat} {X : jX} {res : (Int32 × jH)} (K : jOK G l mX12_fewestTo (d + 8) X) (n : Nat) (E : jEnd G mX12_fewestTo (jPW res) X) (k : Nat) : ∀ (a0 : Nat) (x1 : Int32) (x2 : Int32) (x3 : Int32) (x4 : Int32) (x5 : Int32) (h : jH), F_X12_fewestTo_10 n k a0 x1 x2 x3 x4 x5 h = some res → jJ G X h 0 0 10 [some (.ref a0), some (.int x1), some (.int x2), some (.int x3), some (.int x4), some (.int x5), none] [] := by
  induction k with
  | zero =>
    intro a0 x1 x2 x3 x4 x5 h hf
    exact jno (show (none : Option (Int32 × jH)) = some res from hf)
  | succ k ih =>
    intro a0 x1 x2 x3 x4 x5 h hf
    exact J_X12_fewestTo_10_b K n (F_X12_fewestTo_10 n k) ih E a0 x1 x2 x3 x4 x5 h hf
set_option maxHeartbeats 400000 in
set_option maxRecDepth 100000 in
theorem J_X12_fewestTo {G : jG} {l : Launch} {d : Nat} {X : jX} {res : (Int32 × jH)} (K : jOK G l mX12_fewestTo (d + 8) X) (n : Nat) (E : jEnd G mX12_fewestTo (jPW res) X) (a0 : Nat) (x1 : Int32) (x2 : Int32) (h : jH) (hf : F_X12_fewestTo n a0 x1 x2 h = some res) : jJ G X h 0 0 0 [some (.ref a0), some (.int x1), some (.int x2), none, none, none, none] [] := by
  unfold F_X12_fewestTo at hf
  refine jr_iconst K (D_at DX12_fewestTo_q0 0 rfl) (v := (-1 : Int32)) (by decide) ?_
  refine jr_istore_n K (D_at DX12_fewestTo_q0 1 rfl) (i := 3) rfl (by decide) (L2 := [_, _, _, _, _, _, _]) rfl ?_
  refine jr_ldcw K (D_at DX12_fewestTo_q0 2 rfl) (v := (1000000 : Int32)) kc_X12_273 ?_
  refine jr_istore K (D_at DX12_fewestTo_q0 3 rfl) (i := 4) (by decide) (L2 := [_, _, _, _, _, _, _]) rfl ?_
  refine jr_iconst K (D_at DX12_fewestTo_q0 4 rfl) (v := (0 : Int32)) (by decide) ?_
  refine jr_istore K (D_at DX12_fewestTo_q0 5 rfl) (i := 5) (by decide) (L2 := [_, _, _, _, _, _, _]) rfl ?_
  refine jr_keep [true, true, true, true, true, true, false] ?_
  exact J_X12_fewestTo_10 K n E n a0 x1 x2 (-1 : Int32) (1000000 : Int32) (0 : Int32) h hf
theorem C_X12_fewestTo {G : jG} {l : Launch} (d : Nat) {n : Nat} {a0 : Nat} {x1 : Int32} {x2 : Int32} {h : jH} {res : (Int32 × jH)} (hf : F_X12_fewestTo n a0 x1 x2 h = some res) : jC G l mX12_fewestTo (d + 8) 0 0 [.ref a0, .int x1, .int x2] h (jPW res) :=
  jC.of pn_X12 (jcats rfl) (Nat.le_of_ble_eq_true rfl) (fun X K E => J_X12_fewestTo K n E a0 x1 x2 h hf)
set_option maxHeartbeats 400000 in
set_option maxRecDepth 100000 in
theorem J_X12_fewest {G : jG} {l : Launch} {d : Nat} {X : jX} {res : (Int32 × jH)} (K : jOK G l mX12_fewest (d + 9) X) (n : Nat) (E : jEnd G mX12_fewest (jPW res) X) (a0 : Nat) (x1 : Int32) (h : jH) (hf : F_X12_fewest n a0 x1 h = some res) : jJ G X h 0 0 0 [some (.ref a0), some (.int x1)] [] := by
  unfold F_X12_fewest at hf
  refine jr_aload_n K (D_at DX12_fewest_q0 0 rfl) rfl rfl ?_
  refine jr_iconst K (D_at DX12_fewest_q0 1 rfl) (v := (0 : Int32)) (by decide) ?_
  obtain ⟨h2, e2, hf⟩ := jbind hf
  refine jr_putI K (D_at DX12_fewest_q0 2 rfl) fp_X12_3_10 (Or.inl rfl) e2 ?_
  refine jr_aload_n K (D_at DX12_fewest_q0 3 rfl) rfl rfl ?_
  refine jr_iload_n K (D_at DX12_fewest_q0 4 rfl) rfl rfl ?_
  obtain ⟨v7, e7, hf⟩ := jbind hf
  obtain ⟨rc_7, e7⟩ := jcv_o e7
  refine jr_callV K (C_X12_shadesAll (d + 4) e7) (D_at DX12_fewest_q0 5 rfl) cv_X12_371_X12_shadesAll (As := [.int x1]) (ci := 10) rfl rc_7 rfl rfl (by exact Nat.le_of_ble_eq_true rfl) (kc2 := 0) (ks2 := 0) rfl rfl (fun k9 h9 w9 => by cases w9.1) (fun r9 h9 w9 => ?_)
  obtain ⟨w1, w2⟩ := w9
  subst h9
  cases w1
  show jJ G X _ 0 0 _ _ (.int v7 :: _)
  refine jr_if_eq K (D_at DX12_fewest_q0 6 rfl) (tgt := 17) (by decide) (fun c10 => ?_) (fun c10 => ?_)
  · replace hf := (if_pos c10).symm.trans hf
    refine jr_aload_n K (D_at DX12_fewest_q0 9 rfl) rfl rfl ?_
    refine jr_iload_n K (D_at DX12_fewest_q0 10 rfl) rfl rfl ?_
    refine jr_iconst K (D_at DX12_fewest_q0 11 rfl) (v := (0 : Int32)) (by decide) ?_
    obtain ⟨q20, e20, hf⟩ := jbind hf
    obtain ⟨rc_20, e20⟩ := jcv_o e20
    refine jr_callV K (C_X12_fewestTo (d) e20) (D_at DX12_fewest_q1 0 rfl) cv_X12_378_X12_fewestTo (As := [.int x1, .int (0 : Int32)]) (ci := 10) rfl rc_20 rfl rfl (by exact Nat.le_of_ble_eq_true rfl) (kc2 := 0) (ks2 := 0) rfl rfl (fun k9 h9 w9 => by cases w9.1) (fun r9 h9 w9 => ?_)
    obtain ⟨w1, w2⟩ := w9
    subst h9
    cases w1
    show jJ G X _ 0 0 _ _ (.int q20.1 :: _)
    cases hf
    exact jr_iret K E (D_at DX12_fewest_q1 1 rfl) rfl ⟨rfl, rfl⟩
  · replace hf := (if_neg c10).symm.trans hf
    refine jr_iconst K (D_at DX12_fewest_q0 7 rfl) (v := (0 : Int32)) (by decide) ?_
    refine jr_goto K (D_at DX12_fewest_q0 8 rfl) (tgt := 23) (by decide) ?_
    cases hf
    exact jr_iret K E (D_at DX12_fewest_q1 1 rfl) rfl ⟨rfl, rfl⟩
theorem C_X12_fewest {G : jG} {l : Launch} (d : Nat) {n : Nat} {a0 : Nat} {x1 : Int32} {h : jH} {res : (Int32 × jH)} (hf : F_X12_fewest n a0 x1 h = some res) : jC G l mX12_fewest (d + 9) 0 0 [.ref a0, .int x1] h (jPW res) :=
  jC.of pn_X12 (jcats rfl) (Nat.le_of_ble_eq_true rfl) (fun X K E => J_X12_fewest K n E a0 x1 h hf)
set_option maxHeartbeats 400000 in
set_option maxRecDepth 100000 in
theorem J_X12_first {G : jG} {l : Launch} {d : Nat} {X : jX} {res : (Int32 × jH)} (K : jOK G l mX12_first (d + 9) X) (n : Nat) (E : jEnd G mX12_first (jPW res) X) (a0 : Nat) (x1 : Int32) (h : jH) (hf : F_X12_first n a0 x1 h = some res) : jJ G X h 0 0 0 [some (.ref a0), some (.int x1)] [] := by
  unfold F_X12_first at hf
  refine jr_aload_n K (D_at DX12_first_q0 0 rfl) rfl rfl ?_
  refine jr_iconst K (D_at DX12_first_q0 1 rfl) (v := (0 : Int32)) (by decide) ?_
  obtain ⟨h2, e2, hf⟩ := jbind hf
  refine jr_putI K (D_at DX12_first_q0 2 rfl) fp_X12_3_10 (Or.inl rfl) e2 ?_
  refine jr_aload_n K (D_at DX12_first_q0 3 rfl) rfl rfl ?_
  refine jr_iload_n K (D_at DX12_first_q0 4 rfl) rfl rfl ?_
  obtain ⟨v7, e7, hf⟩ := jbind hf
  obtain ⟨rc_7, e7⟩ := jcv_o e7
  refine jr_callV K (C_X12_shadesAll (d + 4) e7) (D_at DX12_first_q0 5 rfl) cv_X12_371_X12_shadesAll (As := [.int x1]) (ci := 10) rfl rc_7 rfl rfl (by exact Nat.le_of_ble_eq_true rfl) (kc2 := 0) (ks2 := 0) rfl rfl (fun k9 h9 w9 => by cases w9.1) (fun r9 h9 w9 => ?_)
  obtain ⟨w1, w2⟩ := w9
  subst h9
  cases w1
  show jJ G X _ 0 0 _ _ (.int v7 :: _)
  refine jr_if_eq K (D_at DX12_first_q0 6 rfl) (tgt := 17) (by decide) (fun c10 => ?_) (fun c10 => ?_)
  · replace hf := (if_pos c10).symm.trans hf
    refine jr_aload_n K (D_at DX12_first_q0 9 rfl) rfl rfl ?_
    refine jr_iload_n K (D_at DX12_first_q0 10 rfl) rfl rfl ?_
    refine jr_iconst K (D_at DX12_first_q0 11 rfl) (v := (1 : Int32)) (by decide) ?_
    obtain ⟨q20, e20, hf⟩ := jbind hf
    obtain ⟨rc_20, e20⟩ := jcv_o e20
    refine jr_callV K (C_X12_fewestTo (d) e20) (D_at DX12_first_q1 0 rfl) cv_X12_378_X12_fewestTo (As := [.int x1, .int (1 : Int32)]) (ci := 10) rfl rc_20 rfl rfl (by exact Nat.le_of_ble_eq_true rfl) (kc2 := 0) (ks2 := 0) rfl rfl (fun k9 h9 w9 => by cases w9.1) (fun r9 h9 w9 => ?_)
    obtain ⟨w1, w2⟩ := w9
    subst h9
    cases w1
    show jJ G X _ 0 0 _ _ (.int q20.1 :: _)
    cases hf
    exact jr_iret K E (D_at DX12_first_q1 1 rfl) rfl ⟨rfl, rfl⟩
  · replace hf := (if_neg c10).symm.trans hf
    refine jr_iconst K (D_at DX12_first_q0 7 rfl) (v := (-1 : Int32)) (by decide) ?_
    refine jr_goto K (D_at DX12_first_q0 8 rfl) (tgt := 23) (by decide) ?_
    cases hf
    exact jr_iret K E (D_at DX12_first_q1 1 rfl) rfl ⟨rfl, rfl⟩
theorem C_X12_first {G : jG} {l : Launch} (d : Nat) {n : Nat} {a0 : Nat} {x1 : Int32} {h : jH} {res : (Int32 × jH)} (hf : F_X12_first n a0 x1 h = some res) : jC G l mX12_first (d + 9) 0 0 [.ref a0, .int x1] h (jPW res) :=
  jC.of pn_X12 (jcats rfl) (Nat.le_of_ble_eq_true rfl) (fun X K E => J_X12_first K n E a0 x1 h hf)
set_option maxHeartbeats 400000 in
set_option maxRecDepth 100000 in
theorem J_X12_isTold_26_b {G : jG} {l : Launch} {d : Nat} {X : jX} {res : Int32} (K : jOK G l mX12_isTold (d + 3) X) (n : Nat) (h : jH) (rc26 : Nat → Int32 → Int32 → jH → Option Int32) (hr26 : ∀ (a0 : Nat) (x1 : Int32) (x2 : Int32), rc26 a0 x1 x2 h = some res → jJ G X h 0 0 26 [some (.ref a0), some (.int x1), some (.int x2)] []) (E : jEnd G mX12_isTold (jPR h res) X) (a0 : Nat) (x1 : Int32) (x2 : Int32) (hf : F_X12_isTold_26_b n rc26 a0 x1 x2 h = some res) : jJ G X h 0 0 26 [some (.ref a0), some (.int x1), some (.int x2)] [] := by
  unfold F_X12_isTold_26_b at hf
  refine jr_iload_n K (D_at DX12_isTold_q1 3 rfl) rfl rfl ?_
  refine jr_aload_n K (D_at DX12_isTold_q1 4 rfl) rfl rfl ?_
  obtain ⟨v28, e28, hf⟩ := jbind hf
  refine jr_getI K (D_at DX12_isTold_q1 5 rfl) fg_X12_88_10 e28 ?_
  refine jr_icmp_ge K (D_at DX12_isTold_q1 6 rfl) (tgt := 110) (by decide) (fun c31 => ?_) (fun c31 => ?_)
  · replace hf := (if_pos c31).symm.trans hf
    refine jr_iload_n K (D_at DX12_isTold_q5 2 rfl) rfl rfl ?_
    by_cases z9 : x1 = 0 ∨ x1 = 1
    · replace hf := (if_pos z9).symm.trans hf
      cases hf
      exact jr_zret K E (D_at DX12_isTold_q5 3 rfl) rfl z9 ⟨rfl, rfl⟩
    · exact jno (show (none : Option Int32) = some res from (if_neg z9).symm.trans hf)
  · replace hf := (if_neg c31).symm.trans hf
    refine jr_iload_n K (D_at DX12_isTold_q1 7 rfl) rfl rfl ?_
    refine jr_if_eq K (D_at DX12_isTold_q1 8 rfl) (tgt := 110) (by decide) (fun c35 => ?_) (fun c35 => ?_)
    · replace hf := (if_pos c35).symm.trans hf
      refine jr_iload_n K (D_at DX12_isTold_q5 2 rfl) rfl rfl ?_
      by_cases z9 : x1 = 0 ∨ x1 = 1
      · replace hf := (if_pos z9).symm.trans hf
        cases hf
        exact jr_zret K E (D_at DX12_isTold_q5 3 rfl) rfl z9 ⟨rfl, rfl⟩
      · exact jno (show (none : Option Int32) = some res from (if_neg z9).symm.trans hf)
    · replace hf := (if_neg c35).symm.trans hf
      refine jr_aload_n K (D_at DX12_isTold_q1 9 rfl) rfl rfl ?_
      refine jr_aload_n K (D_at DX12_isTold_q1 10 rfl) rfl rfl ?_
      obtain ⟨p40, e40, hf⟩ := jbind hf
      refine jr_getR K (D_at DX12_isTold_q1 11 rfl) fg_X12_29_10 e40 ?_
      refine jr_iload_n K (D_at DX12_isTold_q2 0 rfl) rfl rfl ?_
      obtain ⟨v44, e44, hf⟩ := jbind hf
      refine jr_bald K (D_at DX12_isTold_q2 1 rfl) e44 ?_
      obtain ⟨v45, e45, hf⟩ := jbind hf
      obtain ⟨rc_45, e45⟩ := jcv_o e45
      refine jr_callV K (C_X12_noRing (d) e45) (D_at DX12_isTold_q2 2 rfl) cv_X12_277_X12_noRing (As := [.int v44]) (ci := 10) rfl rc_45 rfl rfl (by exact Nat.le_of_ble_eq_true rfl) (kc2 := 0) (ks2 := 0) rfl rfl (fun k9 h9 w9 => by cases w9.1) (fun r9 h9 w9 => ?_)
      obtain ⟨w1, w2⟩ := w9
      subst h9
      cases w1
      show jJ G X _ 0 0 _ _ (.int v45 :: _)
      refine jr_if_ne K (D_at DX12_isTold_q2 3 rfl) (tgt := 102) (by decide) (fun c48 => ?_) (fun c48 => ?_)
      · replace hf := (if_neg c48).symm.trans hf
        refine jr_iconst K (D_at DX12_isTold_q4 10 rfl) (v := (0 : Int32)) (by decide) ?_
        refine jr_istore_n K (D_at DX12_isTold_q4 11 rfl) (i := 1) rfl (by decide) (L2 := [_, _, _]) rfl ?_
        refine jr_iinc K (D_at DX12_isTold_q5 0 rfl) (i := 2) rfl (v := x2 + (4 : Int32)) (jinc (by decide)) (by decide) (L2 := [_, _, _]) rfl ?_
        refine jr_goto K (D_at DX12_isTold_q5 1 rfl) (tgt := 26) (by decide) ?_
        refine jr_keep [true, true, true] ?_
        exact hr26 a0 (0 : Int32) (x2 + (4 : Int32)) hf
      · replace hf := (if_pos c48).symm.trans hf
        refine jr_aload_n K (D_at DX12_isTold_q2 4 rfl) rfl rfl ?_
        obtain ⟨p52, e52, hf⟩ := jbind hf
        refine jr_getR K (D_at DX12_isTold_q2 5 rfl) fg_X12_29_10 e52 ?_
        refine jr_iload_n K (D_at DX12_isTold_q2 6 rfl) rfl rfl ?_
        refine jr_iconst K (D_at DX12_isTold_q2 7 rfl) (v := (1 : Int32)) (by decide) ?_
        refine jr_iadd K (D_at DX12_isTold_q2 8 rfl) ?_
        obtain ⟨v58, e58, hf⟩ := jbind hf
        refine jr_bald K (D_at DX12_isTold_q2 9 rfl) e58 ?_
        refine jr_iconst K (D_at DX12_isTold_q2 10 rfl) (v := (0 : Int32)) (by decide) ?_
        refine jr_iconst K (D_at DX12_isTold_q2 11 rfl) (v := (1 : Int32)) (by decide) ?_
        obtain ⟨v61, e61, hf⟩ := jbind hf
        refine jr_callS K (C_X12_in (d + 2) e61) (D_at DX12_isTold_q3 0 rfl) cs_X12_77_X12_in (As := [.int v58, .int (0 : Int32), .int (1 : Int32)]) rfl rfl (by exact Nat.le_of_ble_eq_true rfl) (kc2 := 0) (ks2 := 0) rfl rfl (fun k9 h9 w9 => by cases w9.1) (fun r9 h9 w9 => ?_)
        obtain ⟨w1, w2⟩ := w9
        subst h9
        cases w1
        show jJ G X _ 0 0 _ _ (.int v61 :: _)
        refine jr_if_eq K (D_at DX12_isTold_q3 1 rfl) (tgt := 102) (by decide) (fun c64 => ?_) (fun c64 => ?_)
        · replace hf := (if_pos c64).symm.trans hf
          refine jr_iconst K (D_at DX12_isTold_q4 10 rfl) (v := (0 : Int32)) (by decide) ?_
          refine jr_istore_n K (D_at DX12_isTold_q4 11 rfl) (i := 1) rfl (by decide) (L2 := [_, _, _]) rfl ?_
          refine jr_iinc K (D_at DX12_isTold_q5 0 rfl) (i := 2) rfl (v := x2 + (4 : Int32)) (jinc (by decide)) (by decide) (L2 := [_, _, _]) rfl ?_
          refine jr_goto K (D_at DX12_isTold_q5 1 rfl) (tgt := 26) (by decide) ?_
          refine jr_keep [true, true, true] ?_
          exact hr26 a0 (0 : Int32) (x2 + (4 : Int32)) hf
        · replace hf := (if_neg c64).symm.trans hf
          refine jr_aload_n K (D_at DX12_isTold_q3 2 rfl) rfl rfl ?_
          obtain ⟨p68, e68, hf⟩ := jbind hf
          refine jr_getR K (D_at DX12_isTold_q3 3 rfl) fg_X12_29_10 e68 ?_
          refine jr_iload_n K (D_at DX12_isTold_q3 4 rfl) rfl rfl ?_
          refine jr_iconst K (D_at DX12_isTold_q3 5 rfl) (v := (2 : Int32)) (by decide) ?_
          refine jr_iadd K (D_at DX12_isTold_q3 6 rfl) ?_
          obtain ⟨v74, e74, hf⟩ := jbind hf
          refine jr_bald K (D_at DX12_isTold_q3 7 rfl) e74 ?_
          obtain ⟨v75, e75, hf⟩ := jbind hf
          refine jr_callS K (C_X12_noSteps (d + 1) e75) (D_at DX12_isTold_q3 8 rfl) cs_X12_316_X12_noSteps (As := [.int v74]) rfl rfl (by exact Nat.le_of_ble_eq_true rfl) (kc2 := 0) (ks2 := 0) rfl rfl (fun k9 h9 w9 => by cases w9.1) (fun r9 h9 w9 => ?_)
          obtain ⟨w1, w2⟩ := w9
          subst h9
          cases w1
          show jJ G X _ 0 0 _ _ (.int v75 :: _)
          refine jr_if_ne K (D_at DX12_isTold_q3 9 rfl) (tgt := 102) (by decide) (fun c78 => ?_) (fun c78 => ?_)
          · replace hf := (if_neg c78).symm.trans hf
            refine jr_iconst K (D_at DX12_isTold_q4 10 rfl) (v := (0 : Int32)) (by decide) ?_
            refine jr_istore_n K (D_at DX12_isTold_q4 11 rfl) (i := 1) rfl (by decide) (L2 := [_, _, _]) rfl ?_
            refine jr_iinc K (D_at DX12_isTold_q5 0 rfl) (i := 2) rfl (v := x2 + (4 : Int32)) (jinc (by decide)) (by decide) (L2 := [_, _, _]) rfl ?_
            refine jr_goto K (D_at DX12_isTold_q5 1 rfl) (tgt := 26) (by decide) ?_
            refine jr_keep [true, true, true] ?_
            exact hr26 a0 (0 : Int32) (x2 + (4 : Int32)) hf
          · replace hf := (if_pos c78).symm.trans hf
            refine jr_aload_n K (D_at DX12_isTold_q3 10 rfl) rfl rfl ?_
            obtain ⟨p82, e82, hf⟩ := jbind hf
            refine jr_getR K (D_at DX12_isTold_q3 11 rfl) fg_X12_29_10 e82 ?_
            refine jr_iload_n K (D_at DX12_isTold_q4 0 rfl) rfl rfl ?_
            refine jr_iconst K (D_at DX12_isTold_q4 1 rfl) (v := (3 : Int32)) (by decide) ?_
            refine jr_iadd K (D_at DX12_isTold_q4 2 rfl) ?_
            obtain ⟨v88, e88, hf⟩ := jbind hf
            refine jr_bald K (D_at DX12_isTold_q4 3 rfl) e88 ?_
            refine jr_iconst K (D_at DX12_isTold_q4 4 rfl) (v := (0 : Int32)) (by decide) ?_
            refine jr_bipush K (D_at DX12_isTold_q4 5 rfl) (v := (31 : Int32)) (by decide) ?_
            obtain ⟨v92, e92, hf⟩ := jbind hf
            refine jr_callS K (C_X12_in (d + 2) e92) (D_at DX12_isTold_q4 6 rfl) cs_X12_77_X12_in (As := [.int v88, .int (0 : Int32), .int (31 : Int32)]) rfl rfl (by exact Nat.le_of_ble_eq_true rfl) (kc2 := 0) (ks2 := 0) rfl rfl (fun k9 h9 w9 => by cases w9.1) (fun r9 h9 w9 => ?_)
            obtain ⟨w1, w2⟩ := w9
            subst h9
            cases w1
            show jJ G X _ 0 0 _ _ (.int v92 :: _)
            refine jr_if_eq K (D_at DX12_isTold_q4 7 rfl) (tgt := 102) (by decide) (fun c95 => ?_) (fun c95 => ?_)
            · replace hf := (if_pos c95).symm.trans hf
              refine jr_iconst K (D_at DX12_isTold_q4 10 rfl) (v := (0 : Int32)) (by decide) ?_
              refine jr_istore_n K (D_at DX12_isTold_q4 11 rfl) (i := 1) rfl (by decide) (L2 := [_, _, _]) rfl ?_
              refine jr_iinc K (D_at DX12_isTold_q5 0 rfl) (i := 2) rfl (v := x2 + (4 : Int32)) (jinc (by decide)) (by decide) (L2 := [_, _, _]) rfl ?_
              refine jr_goto K (D_at DX12_isTold_q5 1 rfl) (tgt := 26) (by decide) ?_
              refine jr_keep [true, true, true] ?_
              exact hr26 a0 (0 : Int32) (x2 + (4 : Int32)) hf
            · replace hf := (if_neg c95).symm.trans hf
              refine jr_iconst K (D_at DX12_isTold_q4 8 rfl) (v := (1 : Int32)) (by decide) ?_
              refine jr_goto K (D_at DX12_isTold_q4 9 rfl) (tgt := 103) (by decide) ?_
              refine jr_istore_n K (D_at DX12_isTold_q4 11 rfl) (i := 1) rfl (by decide) (L2 := [_, _, _]) rfl ?_
              refine jr_iinc K (D_at DX12_isTold_q5 0 rfl) (i := 2) rfl (v := x2 + (4 : Int32)) (jinc (by decide)) (by decide) (L2 := [_, _, _]) rfl ?_
              refine jr_goto K (D_at DX12_isTold_q5 1 rfl) (tgt := 26) (by decide) ?_
              refine jr_keep [true, true, true] ?_
              exact hr26 a0 (1 : Int32) (x2 + (4 : Int32)) hf
theorem J_X12_isTold_26 {G : jG} {l : Launch} {d : Nat} {X : jX} {res : Int32} (K : jOK G l mX12_isTold (d + 3) X) (n : Nat) (h : jH) (E : jEnd G mX12_isTold (jPR h res) X) (k : Nat) : ∀ (a0 : Nat) (x1 : Int32) (x2 : Int32), F_X12_isTold_26 n k a0 x1 x2 h = some res → jJ G X h 0 0 26 [some (.ref a0), some (.int x1), some (.int x2)] [] := by
  induction k with
  | zero =>
    intro a0 x1 x2 hf
    exact jno (show (none : Option Int32) = some res from hf)
  | succ k ih =>
    intro a0 x1 x2 hf
    exact J_X12_isTold_26_b K n h (F_X12_isTold_26 n k) ih E a0 x1 x2 hf
set_option maxHeartbeats 400000 in
set_option maxRecDepth 100000 in
theorem J_X12_isTold {G : jG} {l : Launch} {d : Nat} {X : jX} {res : Int32} (K : jOK G l mX12_isTold (d + 3) X) (n : Nat) (h : jH) (E : jEnd G mX12_isTold (jPR h res) X) (a0 : Nat) (hf : F_X12_isTold n a0 h = some res) : jJ G X h 0 0 0 [some (.ref a0), none, none] [] := by
  unfold F_X12_isTold at hf
  refine jr_aload_n K (D_at DX12_isTold_q0 0 rfl) rfl rfl ?_
  obtain ⟨v1, e1, hf⟩ := jbind hf
  refine jr_getI K (D_at DX12_isTold_q0 1 rfl) fg_X12_88_10 e1 ?_
  refine jr_iconst K (D_at DX12_isTold_q0 2 rfl) (v := (4 : Int32)) (by decide) ?_
  refine jr_irem K (D_at DX12_isTold_q0 3 rfl) (by decide) ?_
  refine jr_if_ne K (D_at DX12_isTold_q0 4 rfl) (tgt := 22) (by decide) (fun c6 => ?_) (fun c6 => ?_)
  · replace hf := (if_neg c6).symm.trans hf
    refine jr_iconst K (D_at DX12_isTold_q0 11 rfl) (v := (0 : Int32)) (by decide) ?_
    refine jr_istore_n K (D_at DX12_isTold_q1 0 rfl) (i := 1) rfl (by decide) (L2 := [_, _, _]) rfl ?_
    refine jr_iconst K (D_at DX12_isTold_q1 1 rfl) (v := (0 : Int32)) (by decide) ?_
    refine jr_istore_n K (D_at DX12_isTold_q1 2 rfl) (i := 2) rfl (by decide) (L2 := [_, _, _]) rfl ?_
    refine jr_keep [true, true, true] ?_
    exact J_X12_isTold_26 K n h E n a0 (0 : Int32) (0 : Int32) hf
  · replace hf := (if_pos c6).symm.trans hf
    refine jr_aload_n K (D_at DX12_isTold_q0 5 rfl) rfl rfl ?_
    obtain ⟨v10, e10, hf⟩ := jbind hf
    refine jr_getI K (D_at DX12_isTold_q0 6 rfl) fg_X12_88_10 e10 ?_
    refine jr_bipush K (D_at DX12_isTold_q0 7 rfl) (v := (40 : Int32)) (by decide) ?_
    refine jr_icmp_gt K (D_at DX12_isTold_q0 8 rfl) (tgt := 22) (by decide) (fun c15 => ?_) (fun c15 => ?_)
    · replace hf := (if_pos c15).symm.trans hf
      refine jr_iconst K (D_at DX12_isTold_q0 11 rfl) (v := (0 : Int32)) (by decide) ?_
      refine jr_istore_n K (D_at DX12_isTold_q1 0 rfl) (i := 1) rfl (by decide) (L2 := [_, _, _]) rfl ?_
      refine jr_iconst K (D_at DX12_isTold_q1 1 rfl) (v := (0 : Int32)) (by decide) ?_
      refine jr_istore_n K (D_at DX12_isTold_q1 2 rfl) (i := 2) rfl (by decide) (L2 := [_, _, _]) rfl ?_
      refine jr_keep [true, true, true] ?_
      exact J_X12_isTold_26 K n h E n a0 (0 : Int32) (0 : Int32) hf
    · replace hf := (if_neg c15).symm.trans hf
      refine jr_iconst K (D_at DX12_isTold_q0 9 rfl) (v := (1 : Int32)) (by decide) ?_
      refine jr_goto K (D_at DX12_isTold_q0 10 rfl) (tgt := 23) (by decide) ?_
      refine jr_istore_n K (D_at DX12_isTold_q1 0 rfl) (i := 1) rfl (by decide) (L2 := [_, _, _]) rfl ?_
      refine jr_iconst K (D_at DX12_isTold_q1 1 rfl) (v := (0 : Int32)) (by decide) ?_
      refine jr_istore_n K (D_at DX12_isTold_q1 2 rfl) (i := 2) rfl (by decide) (L2 := [_, _, _]) rfl ?_
      refine jr_keep [true, true, true] ?_
      exact J_X12_isTold_26 K n h E n a0 (1 : Int32) (0 : Int32) hf
theorem C_X12_isTold {G : jG} {l : Launch} (d : Nat) {n : Nat} {a0 : Nat} {h : jH} {res : Int32} (hf : F_X12_isTold n a0 h = some res) : jC G l mX12_isTold (d + 3) 0 0 [.ref a0] h (jPR h res) :=
  jC.of pn_X12 (jcats rfl) (Nat.le_of_ble_eq_true rfl) (fun X K E => J_X12_isTold K n h E a0 hf)
set_option maxHeartbeats 400000 in
set_option maxRecDepth 100000 in
theorem J_X12_thatCanCatch {G : jG} {l : Launch} {d : Nat} {X : jX} {res : Int32} (K : jOK G l mX12_thatCanCatch (d + 2) X) (n : Nat) (h : jH) (E : jEnd G mX12_thatCanCatch (jPR h res) X) (a0 : Nat) (hf : F_X12_thatCanCatch n a0 h = some res) : jJ G X h 0 0 0 [some (.ref a0)] [] := by
  unfold F_X12_thatCanCatch at hf
  refine jr_aload_n K (D_at DX12_thatCanCatch_q0 0 rfl) rfl rfl ?_
  obtain ⟨v1, e1, hf⟩ := jbind hf
  obtain ⟨rc_1, e1⟩ := jcv_o e1
  refine jr_callV K (C_X12_rings (d + 1) e1) (D_at DX12_thatCanCatch_q0 1 rfl) cv_X12_59_X12_rings (As := []) (ci := 10) rfl rc_1 rfl rfl (by exact Nat.le_of_ble_eq_true rfl) (kc2 := 0) (ks2 := 0) rfl rfl (fun k9 h9 w9 => by cases w9.1) (fun r9 h9 w9 => ?_)
  obtain ⟨w1, w2⟩ := w9
  subst h9
  cases w1
  show jJ G X _ 0 0 _ _ (.int v1 :: _)
  refine jr_iconst K (D_at DX12_thatCanCatch_q0 2 rfl) (v := (2 : Int32)) (by decide) ?_
  refine jr_icmp_ge K (D_at DX12_thatCanCatch_q0 3 rfl) (tgt := 12) (by decide) (fun c5 => ?_) (fun c5 => ?_)
  · replace hf := (if_pos c5).symm.trans hf
    refine jr_iconst K (D_at DX12_thatCanCatch_q0 6 rfl) (v := (1 : Int32)) (by decide) ?_
    refine jr_aload_n K (D_at DX12_thatCanCatch_q0 7 rfl) rfl rfl ?_
    obtain ⟨v14, e14, hf⟩ := jbind hf
    obtain ⟨rc_14, e14⟩ := jcv_o e14
    refine jr_callV K (C_X12_lastRing (d) e14) (D_at DX12_thatCanCatch_q0 8 rfl) cv_X12_70_X12_lastRing (As := []) (ci := 10) rfl rc_14 rfl rfl (by exact Nat.le_of_ble_eq_true rfl) (kc2 := 0) (ks2 := 0) rfl rfl (fun k9 h9 w9 => by cases w9.1) (fun r9 h9 w9 => ?_)
    obtain ⟨w1, w2⟩ := w9
    subst h9
    cases w1
    show jJ G X _ 0 0 _ _ (.int v14 :: _)
    refine jr_ishl K (D_at DX12_thatCanCatch_q0 9 rfl) ?_
    refine jr_iconst K (D_at DX12_thatCanCatch_q0 10 rfl) (v := (1 : Int32)) (by decide) ?_
    refine jr_isub K (D_at DX12_thatCanCatch_q0 11 rfl) ?_
    cases hf
    exact jr_iret K E (D_at DX12_thatCanCatch_q1 0 rfl) rfl ⟨rfl, rfl⟩
  · replace hf := (if_neg c5).symm.trans hf
    refine jr_iconst K (D_at DX12_thatCanCatch_q0 4 rfl) (v := (0 : Int32)) (by decide) ?_
    refine jr_goto K (D_at DX12_thatCanCatch_q0 5 rfl) (tgt := 20) (by decide) ?_
    cases hf
    exact jr_iret K E (D_at DX12_thatCanCatch_q1 0 rfl) rfl ⟨rfl, rfl⟩
theorem C_X12_thatCanCatch {G : jG} {l : Launch} (d : Nat) {n : Nat} {a0 : Nat} {h : jH} {res : Int32} (hf : F_X12_thatCanCatch n a0 h = some res) : jC G l mX12_thatCanCatch (d + 2) 0 0 [.ref a0] h (jPR h res) :=
  jC.of pn_X12 (jcats rfl) (Nat.le_of_ble_eq_true rfl) (fun X K E => J_X12_thatCanCatch K n h E a0 hf)
set_option maxHeartbeats 400000 in
set_option maxRecDepth 100000 in
theorem J_X12_areCaught_2_b {G : jG} {l : Launch} {d : Nat} {X : jX} {res : jH} (K : jOK G l mX12_areCaught (d + 1) X) (n : Nat) (rc2 : Nat → Int32 → Int32 → jH → Option jH) (hr2 : ∀ (a0 : Nat) (x1 : Int32) (x2 : Int32) (h : jH), rc2 a0 x1 x2 h = some res → jJ G X h 0 0 2 [some (.ref a0), some (.int x1), some (.int x2)] []) (E : jEnd G mX12_areCaught (jPV res) X) (a0 : Nat) (x1 : Int32) (x2 : Int32) (h : jH) (hf : F_X12_areCaught_2_b n rc2 a0 x1 x2 h = some res) : jJ G X h 0 0 2 [some (.ref a0), some (.int x1), some (.int x2)] [] := by
  unfold F_X12_areCaught_2_b at hf
  refine jr_iload_n K (D_at DX12_areCaught_q0 2 rfl) rfl rfl ?_
  refine jr_aload_n K (D_at DX12_areCaught_q0 3 rfl) rfl rfl ?_
  obtain ⟨v4, e4, hf⟩ := jbind hf
  obtain ⟨rc_4, e4⟩ := jcv_o e4
  refine jr_callV K (C_X12_rings (d) e4) (D_at DX12_areCaught_q0 4 rfl) cv_X12_59_X12_rings (As := []) (ci := 10) rfl rc_4 rfl rfl (by exact Nat.le_of_ble_eq_true rfl) (kc2 := 0) (ks2 := 0) rfl rfl (fun k9 h9 w9 => by cases w9.1) (fun r9 h9 w9 => ?_)
  obtain ⟨w1, w2⟩ := w9
  subst h9
  cases w1
  show jJ G X _ 0 0 _ _ (.int v4 :: _)
  refine jr_icmp_ge K (D_at DX12_areCaught_q0 5 rfl) (tgt := 40) (by decide) (fun c7 => ?_) (fun c7 => ?_)
  · replace hf := (if_pos c7).symm.trans hf
    cases hf
    exact jr_vret K E (D_at DX12_areCaught_q1 9 rfl) rfl ⟨rfl, rfl⟩
  · replace hf := (if_neg c7).symm.trans hf
    refine jr_aload_n K (D_at DX12_areCaught_q0 6 rfl) rfl rfl ?_
    obtain ⟨p11, e11, hf⟩ := jbind hf
    refine jr_getR K (D_at DX12_areCaught_q0 7 rfl) fg_X12_13_10 e11 ?_
    refine jr_iload_n K (D_at DX12_areCaught_q0 8 rfl) rfl rfl ?_
    refine jr_bipush K (D_at DX12_areCaught_q0 9 rfl) (v := (7 : Int32)) (by decide) ?_
    obtain ⟨v17, e17, hf⟩ := jbind hf
    refine jr_callS K (C_X12_at (d) e17) (D_at DX12_areCaught_q0 10 rfl) cs_X12_63_X12_at (As := [.int x2, .int (7 : Int32)]) rfl rfl (by exact Nat.le_of_ble_eq_true rfl) (kc2 := 0) (ks2 := 0) rfl rfl (fun k9 h9 w9 => by cases w9.1) (fun r9 h9 w9 => ?_)
    obtain ⟨w1, w2⟩ := w9
    subst h9
    cases w1
    show jJ G X _ 0 0 _ _ (.int v17 :: _)
    refine jr_iload_n K (D_at DX12_areCaught_q0 11 rfl) rfl rfl ?_
    refine jr_iload_n K (D_at DX12_areCaught_q1 0 rfl) rfl rfl ?_
    obtain ⟨v22, e22, hf⟩ := jbind hf
    refine jr_callS K (C_X12_has (d) e22) (D_at DX12_areCaught_q1 1 rfl) cs_X12_289_X12_has (As := [.int x1, .int x2]) rfl rfl (by exact Nat.le_of_ble_eq_true rfl) (kc2 := 0) (ks2 := 0) rfl rfl (fun k9 h9 w9 => by cases w9.1) (fun r9 h9 w9 => ?_)
    obtain ⟨w1, w2⟩ := w9
    subst h9
    cases w1
    show jJ G X _ 0 0 _ _ (.int v22 :: _)
    refine jr_if_eq K (D_at DX12_areCaught_q1 2 rfl) (tgt := 32) (by decide) (fun c25 => ?_) (fun c25 => ?_)
    · replace hf := (if_pos c25).symm.trans hf
      refine jr_iconst K (D_at DX12_areCaught_q1 5 rfl) (v := (0 : Int32)) (by decide) ?_
      obtain ⟨h33, e33, hf⟩ := jbind hf
      refine jr_iast K (D_at DX12_areCaught_q1 6 rfl) e33 ?_
      refine jr_iinc K (D_at DX12_areCaught_q1 7 rfl) (i := 2) rfl (v := x2 + (1 : Int32)) (jinc (by decide)) (by decide) (L2 := [_, _, _]) rfl ?_
      refine jr_goto K (D_at DX12_areCaught_q1 8 rfl) (tgt := 2) (by decide) ?_
      refine jr_keep [true, true, true] ?_
      exact hr2 a0 x1 (x2 + (1 : Int32)) h33 hf
    · replace hf := (if_neg c25).symm.trans hf
      refine jr_iconst K (D_at DX12_areCaught_q1 3 rfl) (v := (1 : Int32)) (by decide) ?_
      refine jr_goto K (D_at DX12_areCaught_q1 4 rfl) (tgt := 33) (by decide) ?_
      obtain ⟨h33, e33, hf⟩ := jbind hf
      refine jr_iast K (D_at DX12_areCaught_q1 6 rfl) e33 ?_
      refine jr_iinc K (D_at DX12_areCaught_q1 7 rfl) (i := 2) rfl (v := x2 + (1 : Int32)) (jinc (by decide)) (by decide) (L2 := [_, _, _]) rfl ?_
      refine jr_goto K (D_at DX12_areCaught_q1 8 rfl) (tgt := 2) (by decide) ?_
      refine jr_keep [true, true, true] ?_
      exact hr2 a0 x1 (x2 + (1 : Int32)) h33 hf
theorem J_X12_areCaught_2 {G : jG} {l : Launch} {d : Nat} {X : jX} {res : jH} (K : jOK G l mX12_areCaught (d + 1) X) (n : Nat) (E : jEnd G mX12_areCaught (jPV res) X) (k : Nat) : ∀ (a0 : Nat) (x1 : Int32) (x2 : Int32) (h : jH), F_X12_areCaught_2 n k a0 x1 x2 h = some res → jJ G X h 0 0 2 [some (.ref a0), some (.int x1), some (.int x2)] [] := by
  induction k with
  | zero =>
    intro a0 x1 x2 h hf
    exact jno (show (none : Option jH) = some res from hf)
  | succ k ih =>
    intro a0 x1 x2 h hf
    exact J_X12_areCaught_2_b K n (F_X12_areCaught_2 n k) ih E a0 x1 x2 h hf
set_option maxHeartbeats 400000 in
set_option maxRecDepth 100000 in
theorem J_X12_areCaught {G : jG} {l : Launch} {d : Nat} {X : jX} {res : jH} (K : jOK G l mX12_areCaught (d + 1) X) (n : Nat) (E : jEnd G mX12_areCaught (jPV res) X) (a0 : Nat) (x1 : Int32) (h : jH) (hf : F_X12_areCaught n a0 x1 h = some res) : jJ G X h 0 0 0 [some (.ref a0), some (.int x1), none] [] := by
  unfold F_X12_areCaught at hf
  refine jr_iconst K (D_at DX12_areCaught_q0 0 rfl) (v := (0 : Int32)) (by decide) ?_
  refine jr_istore_n K (D_at DX12_areCaught_q0 1 rfl) (i := 2) rfl (by decide) (L2 := [_, _, _]) rfl ?_
  refine jr_keep [true, true, true] ?_
  exact J_X12_areCaught_2 K n E n a0 x1 (0 : Int32) h hf
theorem C_X12_areCaught {G : jG} {l : Launch} (d : Nat) {n : Nat} {a0 : Nat} {x1 : Int32} {h : jH} {res : jH} (hf : F_X12_areCaught n a0 x1 h = some res) : jC G l mX12_areCaught (d + 1) 0 0 [.ref a0, .int x1] h (jPV res) :=
  jC.of pn_X12 (jcats rfl) (Nat.le_of_ble_eq_true rfl) (fun X K E => J_X12_areCaught K n E a0 x1 h hf)
set_option maxHeartbeats 400000 in
set_option maxRecDepth 100000 in
theorem J_X12_wentWith {G : jG} {l : Launch} {d : Nat} {X : jX} {res : (Int32 × jH)} (K : jOK G l mX12_wentWith (d + 8) X) (n : Nat) (E : jEnd G mX12_wentWith (jPW res) X) (a0 : Nat) (x1 : Int32) (x2 : Int32) (x3 : Int32) (x4 : Int32) (h : jH) (hf : F_X12_wentWith n a0 x1 x2 x3 x4 h = some res) : jJ G X h 0 0 0 [some (.ref a0), some (.int x1), some (.int x2), some (.int x3), some (.int x4), none] [] := by
  unfold F_X12_wentWith at hf
  refine jr_aload_n K (D_at DX12_wentWith_q0 0 rfl) rfl rfl ?_
  obtain ⟨h1, e1, hf⟩ := jbind hf
  obtain ⟨rc_1, e1⟩ := jcv_o e1
  refine jr_callV K (C_X12_keepsAll (d + 7) e1) (D_at DX12_wentWith_q0 1 rfl) cv_X12_348_X12_keepsAll (As := []) (ci := 10) rfl rc_1 rfl rfl (by exact Nat.le_of_ble_eq_true rfl) (kc2 := 0) (ks2 := 0) rfl rfl (fun k9 h9 w9 => by cases w9.1) (fun r9 h9 w9 => ?_)
  obtain ⟨w1, w2⟩ := w9
  subst h9
  cases w1
  show jJ G X _ 0 0 _ _ []
  refine jr_aload_n K (D_at DX12_wentWith_q0 2 rfl) rfl rfl ?_
  refine jr_iload_n K (D_at DX12_wentWith_q0 3 rfl) rfl rfl ?_
  obtain ⟨h6, e6, hf⟩ := jbind hf
  obtain ⟨rc_6, e6⟩ := jcv_o e6
  refine jr_callV K (C_X12_areCaught (d + 6) e6) (D_at DX12_wentWith_q0 4 rfl) cv_X12_381_X12_areCaught (As := [.int x1]) (ci := 10) rfl rc_6 rfl rfl (by exact Nat.le_of_ble_eq_true rfl) (kc2 := 0) (ks2 := 0) rfl rfl (fun k9 h9 w9 => by cases w9.1) (fun r9 h9 w9 => ?_)
  obtain ⟨w1, w2⟩ := w9
  subst h9
  cases w1
  show jJ G X _ 0 0 _ _ []
  refine jr_aload_n K (D_at DX12_wentWith_q0 5 rfl) rfl rfl ?_
  refine jr_iload_n K (D_at DX12_wentWith_q0 6 rfl) rfl rfl ?_
  refine jr_iload_n K (D_at DX12_wentWith_q0 7 rfl) rfl rfl ?_
  refine jr_iload K (D_at DX12_wentWith_q0 8 rfl) rfl ?_
  obtain ⟨q14, e14, hf⟩ := jbind hf
  obtain ⟨rc_14, e14⟩ := jcv_o e14
  refine jr_callV K (C_X12_pulls (d) e14) (D_at DX12_wentWith_q0 9 rfl) cv_X12_322_X12_pulls (As := [.int x2, .int x3, .int x4]) (ci := 10) rfl rc_14 rfl rfl (by exact Nat.le_of_ble_eq_true rfl) (kc2 := 0) (ks2 := 0) rfl rfl (fun k9 h9 w9 => by cases w9.1) (fun r9 h9 w9 => ?_)
  obtain ⟨w1, w2⟩ := w9
  subst h9
  cases w1
  show jJ G X _ 0 0 _ _ (.int q14.1 :: _)
  refine jr_istore K (D_at DX12_wentWith_q0 10 rfl) (i := 5) (by decide) (L2 := [_, _, _, _, _, _]) rfl ?_
  refine jr_aload_n K (D_at DX12_wentWith_q0 11 rfl) rfl rfl ?_
  obtain ⟨h20, e20, hf⟩ := jbind hf
  obtain ⟨rc_20, e20⟩ := jcv_o e20
  refine jr_callV K (C_X12_bringsBack (d + 7) e20) (D_at DX12_wentWith_q1 0 rfl) cv_X12_351_X12_bringsBack (As := []) (ci := 10) rfl rc_20 rfl rfl (by exact Nat.le_of_ble_eq_true rfl) (kc2 := 0) (ks2 := 0) rfl rfl (fun k9 h9 w9 => by cases w9.1) (fun r9 h9 w9 => ?_)
  obtain ⟨w1, w2⟩ := w9
  subst h9
  cases w1
  show jJ G X _ 0 0 _ _ []
  refine jr_iload K (D_at DX12_wentWith_q1 1 rfl) rfl ?_
  cases hf
  exact jr_iret K E (D_at DX12_wentWith_q1 2 rfl) rfl ⟨rfl, rfl⟩
theorem C_X12_wentWith {G : jG} {l : Launch} (d : Nat) {n : Nat} {a0 : Nat} {x1 : Int32} {x2 : Int32} {x3 : Int32} {x4 : Int32} {h : jH} {res : (Int32 × jH)} (hf : F_X12_wentWith n a0 x1 x2 x3 x4 h = some res) : jC G l mX12_wentWith (d + 8) 0 0 [.ref a0, .int x1, .int x2, .int x3, .int x4] h (jPW res) :=
  jC.of pn_X12 (jcats rfl) (Nat.le_of_ble_eq_true rfl) (fun X K E => J_X12_wentWith K n E a0 x1 x2 x3 x4 h hf)
set_option maxHeartbeats 400000 in
set_option maxRecDepth 100000 in
theorem J_X12_fits_41 {G : jG} {l : Launch} {d : Nat} {X : jX} {res : (Int32 × jH)} (K : jOK G l mX12_fits (d + 9) X) (n : Nat) (rc4 : Nat → Int32 → Int32 → Int32 → jH → Option (Int32 × jH)) (hr4 : ∀ (a0 : Nat) (x1 : Int32) (x2 : Int32) (x3 : Int32) (h : jH), rc4 a0 x1 x2 x3 h = some res → jJ G X h 0 0 4 [some (.ref a0), some (.int x1), some (.int x2), some (.int x3)] []) (E : jEnd G mX12_fits (jPW res) X) (a0 : Nat) (x1 : Int32) (x3 : Int32) (sa0 : Nat) (s1 : Int32) (s2 : Int32) (s3 : Int32) (h : jH) (hf : F_X12_fits_41 n rc4 a0 x1 x3 sa0 s1 s2 s3 h = some res) : jJ G X h 0 0 41 [some (.ref a0), some (.int x1), none, some (.int x3)] [.int s3, .int s2, .int s1, .ref sa0] := by
  unfold F_X12_fits_41 at hf
  refine jr_aload_n K (D_at DX12_fits_q2 3 rfl) rfl rfl ?_
  obtain ⟨p42, e42, hf⟩ := jbind hf
  refine jr_getR K (D_at DX12_fits_q2 4 rfl) fg_X12_29_10 e42 ?_
  refine jr_iload_n K (D_at DX12_fits_q2 5 rfl) rfl rfl ?_
  refine jr_iconst K (D_at DX12_fits_q2 6 rfl) (v := (2 : Int32)) (by decide) ?_
  refine jr_iadd K (D_at DX12_fits_q2 7 rfl) ?_
  obtain ⟨v48, e48, hf⟩ := jbind hf
  refine jr_bald K (D_at DX12_fits_q2 8 rfl) e48 ?_
  obtain ⟨q49, e49, hf⟩ := jbind hf
  obtain ⟨rc_49, e49⟩ := jcv_o e49
  refine jr_callV K (C_X12_wentWith (d) e49) (D_at DX12_fits_q2 9 rfl) cv_X12_385_X12_wentWith (As := [.int s1, .int s2, .int s3, .int v48]) (ci := 10) rfl rc_49 rfl rfl (by exact Nat.le_of_ble_eq_true rfl) (kc2 := 0) (ks2 := 0) rfl rfl (fun k9 h9 w9 => by cases w9.1) (fun r9 h9 w9 => ?_)
  obtain ⟨w1, w2⟩ := w9
  subst h9
  cases w1
  show jJ G X _ 0 0 _ _ (.int q49.1 :: _)
  refine jr_aload_n K (D_at DX12_fits_q2 10 rfl) rfl rfl ?_
  obtain ⟨p53, e53, hf⟩ := jbind hf
  refine jr_getR K (D_at DX12_fits_q2 11 rfl) fg_X12_29_10 e53 ?_
  refine jr_iload_n K (D_at DX12_fits_q3 0 rfl) rfl rfl ?_
  refine jr_iconst K (D_at DX12_fits_q3 1 rfl) (v := (3 : Int32)) (by decide) ?_
  refine jr_iadd K (D_at DX12_fits_q3 2 rfl) ?_
  obtain ⟨v59, e59, hf⟩ := jbind hf
  refine jr_bald K (D_at DX12_fits_q3 3 rfl) e59 ?_
  refine jr_icmp_ne K (D_at DX12_fits_q3 4 rfl) (tgt := 67) (by decide) (fun c60 => ?_) (fun c60 => ?_)
  · replace hf := (if_neg c60).symm.trans hf
    refine jr_iconst K (D_at DX12_fits_q3 7 rfl) (v := (0 : Int32)) (by decide) ?_
    refine jr_istore_n K (D_at DX12_fits_q3 8 rfl) (i := 2) rfl (by decide) (L2 := [_, _, _, _]) rfl ?_
    refine jr_iinc K (D_at DX12_fits_q3 9 rfl) (i := 3) rfl (v := x3 + (4 : Int32)) (jinc (by decide)) (by decide) (L2 := [_, _, _, _]) rfl ?_
    refine jr_goto K (D_at DX12_fits_q3 10 rfl) (tgt := 4) (by decide) ?_
    refine jr_keep [true, true, true, true] ?_
    exact hr4 a0 x1 (0 : Int32) (x3 + (4 : Int32)) q49.2 hf
  · replace hf := (if_pos c60).symm.trans hf
    refine jr_iconst K (D_at DX12_fits_q3 5 rfl) (v := (1 : Int32)) (by decide) ?_
    refine jr_goto K (D_at DX12_fits_q3 6 rfl) (tgt := 68) (by decide) ?_
    refine jr_istore_n K (D_at DX12_fits_q3 8 rfl) (i := 2) rfl (by decide) (L2 := [_, _, _, _]) rfl ?_
    refine jr_iinc K (D_at DX12_fits_q3 9 rfl) (i := 3) rfl (v := x3 + (4 : Int32)) (jinc (by decide)) (by decide) (L2 := [_, _, _, _]) rfl ?_
    refine jr_goto K (D_at DX12_fits_q3 10 rfl) (tgt := 4) (by decide) ?_
    refine jr_keep [true, true, true, true] ?_
    exact hr4 a0 x1 (1 : Int32) (x3 + (4 : Int32)) q49.2 hf
set_option maxHeartbeats 400000 in
set_option maxRecDepth 100000 in
theorem J_X12_fits_4_b {G : jG} {l : Launch} {d : Nat} {X : jX} {res : (Int32 × jH)} (K : jOK G l mX12_fits (d + 9) X) (n : Nat) (rc4 : Nat → Int32 → Int32 → Int32 → jH → Option (Int32 × jH)) (hr4 : ∀ (a0 : Nat) (x1 : Int32) (x2 : Int32) (x3 : Int32) (h : jH), rc4 a0 x1 x2 x3 h = some res → jJ G X h 0 0 4 [some (.ref a0), some (.int x1), some (.int x2), some (.int x3)] []) (E : jEnd G mX12_fits (jPW res) X) (a0 : Nat) (x1 : Int32) (x2 : Int32) (x3 : Int32) (h : jH) (hf : F_X12_fits_4_b n rc4 a0 x1 x2 x3 h = some res) : jJ G X h 0 0 4 [some (.ref a0), some (.int x1), some (.int x2), some (.int x3)] [] := by
  unfold F_X12_fits_4_b at hf
  refine jr_iload_n K (D_at DX12_fits_q0 4 rfl) rfl rfl ?_
  refine jr_aload_n K (D_at DX12_fits_q0 5 rfl) rfl rfl ?_
  obtain ⟨v6, e6, hf⟩ := jbind hf
  refine jr_getI K (D_at DX12_fits_q0 6 rfl) fg_X12_88_10 e6 ?_
  refine jr_icmp_ge K (D_at DX12_fits_q0 7 rfl) (tgt := 75) (by decide) (fun c9 => ?_) (fun c9 => ?_)
  · replace hf := (if_pos c9).symm.trans hf
    refine jr_iload_n K (D_at DX12_fits_q3 11 rfl) rfl rfl ?_
    by_cases z9 : x2 = 0 ∨ x2 = 1
    · replace hf := (if_pos z9).symm.trans hf
      cases hf
      exact jr_zret K E (D_at DX12_fits_q4 0 rfl) rfl z9 ⟨rfl, rfl⟩
    · exact jno (show (none : Option (Int32 × jH)) = some res from (if_neg z9).symm.trans hf)
  · replace hf := (if_neg c9).symm.trans hf
    refine jr_iload_n K (D_at DX12_fits_q0 8 rfl) rfl rfl ?_
    refine jr_if_eq K (D_at DX12_fits_q0 9 rfl) (tgt := 75) (by decide) (fun c13 => ?_) (fun c13 => ?_)
    · replace hf := (if_pos c13).symm.trans hf
      refine jr_iload_n K (D_at DX12_fits_q3 11 rfl) rfl rfl ?_
      by_cases z9 : x2 = 0 ∨ x2 = 1
      · replace hf := (if_pos z9).symm.trans hf
        cases hf
        exact jr_zret K E (D_at DX12_fits_q4 0 rfl) rfl z9 ⟨rfl, rfl⟩
      · exact jno (show (none : Option (Int32 × jH)) = some res from (if_neg z9).symm.trans hf)
    · replace hf := (if_neg c13).symm.trans hf
      refine jr_aload_n K (D_at DX12_fits_q0 10 rfl) rfl rfl ?_
      refine jr_iload_n K (D_at DX12_fits_q0 11 rfl) rfl rfl ?_
      refine jr_aload_n K (D_at DX12_fits_q1 0 rfl) rfl rfl ?_
      obtain ⟨p19, e19, hf⟩ := jbind hf
      refine jr_getR K (D_at DX12_fits_q1 1 rfl) fg_X12_29_10 e19 ?_
      refine jr_iload_n K (D_at DX12_fits_q1 2 rfl) rfl rfl ?_
      obtain ⟨v23, e23, hf⟩ := jbind hf
      refine jr_bald K (D_at DX12_fits_q1 3 rfl) e23 ?_
      refine jr_aload_n K (D_at DX12_fits_q1 4 rfl) rfl rfl ?_
      obtain ⟨p25, e25, hf⟩ := jbind hf
      refine jr_getR K (D_at DX12_fits_q1 5 rfl) fg_X12_29_10 e25 ?_
      refine jr_iload_n K (D_at DX12_fits_q1 6 rfl) rfl rfl ?_
      refine jr_iconst K (D_at DX12_fits_q1 7 rfl) (v := (1 : Int32)) (by decide) ?_
      refine jr_iadd K (D_at DX12_fits_q1 8 rfl) ?_
      obtain ⟨v31, e31, hf⟩ := jbind hf
      refine jr_bald K (D_at DX12_fits_q1 9 rfl) e31 ?_
      refine jr_iconst K (D_at DX12_fits_q1 10 rfl) (v := (1 : Int32)) (by decide) ?_
      refine jr_icmp_ne K (D_at DX12_fits_q1 11 rfl) (tgt := 40) (by decide) (fun c33 => ?_) (fun c33 => ?_)
      · replace hf := (if_neg c33).symm.trans hf
        refine jr_iconst K (D_at DX12_fits_q2 2 rfl) (v := (0 : Int32)) (by decide) ?_
        refine jr_keep [true, true, false, true] ?_
        exact J_X12_fits_41 K n rc4 hr4 E a0 x1 x3 a0 x1 v23 (0 : Int32) h hf
      · replace hf := (if_pos c33).symm.trans hf
        refine jr_iconst K (D_at DX12_fits_q2 0 rfl) (v := (1 : Int32)) (by decide) ?_
        refine jr_goto K (D_at DX12_fits_q2 1 rfl) (tgt := 41) (by decide) ?_
        refine jr_keep [true, true, false, true] ?_
        exact J_X12_fits_41 K n rc4 hr4 E a0 x1 x3 a0 x1 v23 (1 : Int32) h hf
theorem J_X12_fits_4 {G : jG} {l : Launch} {d : Nat} {X : jX} {res : (Int32 × jH)} (K : jOK G l mX12_fits (d + 9) X) (n : Nat) (E : jEnd G mX12_fits (jPW res) X) (k : Nat) : ∀ (a0 : Nat) (x1 : Int32) (x2 : Int32) (x3 : Int32) (h : jH), F_X12_fits_4 n k a0 x1 x2 x3 h = some res → jJ G X h 0 0 4 [some (.ref a0), some (.int x1), some (.int x2), some (.int x3)] [] := by
  induction k with
  | zero =>
    intro a0 x1 x2 x3 h hf
    exact jno (show (none : Option (Int32 × jH)) = some res from hf)
  | succ k ih =>
    intro a0 x1 x2 x3 h hf
    exact J_X12_fits_4_b K n (F_X12_fits_4 n k) ih E a0 x1 x2 x3 h hf
set_option maxHeartbeats 400000 in
set_option maxRecDepth 100000 in
theorem J_X12_fits {G : jG} {l : Launch} {d : Nat} {X : jX} {res : (Int32 × jH)} (K : jOK G l mX12_fits (d + 9) X) (n : Nat) (E : jEnd G mX12_fits (jPW res) X) (a0 : Nat) (x1 : Int32) (h : jH) (hf : F_X12_fits n a0 x1 h = some res) : jJ G X h 0 0 0 [some (.ref a0), some (.int x1), none, none] [] := by
  unfold F_X12_fits at hf
  refine jr_iconst K (D_at DX12_fits_q0 0 rfl) (v := (1 : Int32)) (by decide) ?_
  refine jr_istore_n K (D_at DX12_fits_q0 1 rfl) (i := 2) rfl (by decide) (L2 := [_, _, _, _]) rfl ?_
  refine jr_iconst K (D_at DX12_fits_q0 2 rfl) (v := (0 : Int32)) (by decide) ?_
  refine jr_istore_n K (D_at DX12_fits_q0 3 rfl) (i := 3) rfl (by decide) (L2 := [_, _, _, _]) rfl ?_
  refine jr_keep [true, true, true, true] ?_
  exact J_X12_fits_4 K n E n a0 x1 (1 : Int32) (0 : Int32) h hf
theorem C_X12_fits {G : jG} {l : Launch} (d : Nat) {n : Nat} {a0 : Nat} {x1 : Int32} {h : jH} {res : (Int32 × jH)} (hf : F_X12_fits n a0 x1 h = some res) : jC G l mX12_fits (d + 9) 0 0 [.ref a0, .int x1] h (jPW res) :=
  jC.of pn_X12 (jcats rfl) (Nat.le_of_ble_eq_true rfl) (fun X K E => J_X12_fits K n E a0 x1 h hf)
set_option maxHeartbeats 400000 in
set_option maxRecDepth 100000 in
theorem J_X12_snags_36_b {G : jG} {l : Launch} {d : Nat} {X : jX} {res : (Int32 × jH)} (K : jOK G l mX12_snags (d + 10) X) (n : Nat) (rc36 : Nat → Int32 → Int32 → Int32 → Int32 → jH → Option (Int32 × jH)) (hr36 : ∀ (a0 : Nat) (x1 : Int32) (x2 : Int32) (x3 : Int32) (x4 : Int32) (h : jH), rc36 a0 x1 x2 x3 x4 h = some res → jJ G X h 0 0 36 [some (.ref a0), some (.int x1), some (.int x2), some (.int x3), some (.int x4)] []) (E : jEnd G mX12_snags (jPW res) X) (a0 : Nat) (x1 : Int32) (x2 : Int32) (x3 : Int32) (x4 : Int32) (h : jH) (hf : F_X12_snags_36_b n rc36 a0 x1 x2 x3 x4 h = some res) : jJ G X h 0 0 36 [some (.ref a0), some (.int x1), some (.int x2), some (.int x3), some (.int x4)] [] := by
  unfold F_X12_snags_36_b at hf
  refine jr_iload K (D_at DX12_snags_q1 9 rfl) rfl ?_
  refine jr_aload_n K (D_at DX12_snags_q1 10 rfl) rfl rfl ?_
  obtain ⟨v39, e39, hf⟩ := jbind hf
  obtain ⟨rc_39, e39⟩ := jcv_o e39
  refine jr_callV K (C_X12_thatCanCatch (d + 7) e39) (D_at DX12_snags_q1 11 rfl) cv_X12_392_X12_thatCanCatch (As := []) (ci := 10) rfl rc_39 rfl rfl (by exact Nat.le_of_ble_eq_true rfl) (kc2 := 0) (ks2 := 0) rfl rfl (fun k9 h9 w9 => by cases w9.1) (fun r9 h9 w9 => ?_)
  obtain ⟨w1, w2⟩ := w9
  subst h9
  cases w1
  show jJ G X _ 0 0 _ _ (.int v39 :: _)
  refine jr_icmp_gt K (D_at DX12_snags_q2 0 rfl) (tgt := 71) (by decide) (fun c42 => ?_) (fun c42 => ?_)
  · replace hf := (if_pos c42).symm.trans hf
    refine jr_iload_n K (D_at DX12_snags_q3 1 rfl) rfl rfl ?_
    refine jr_if_ne K (D_at DX12_snags_q3 2 rfl) (tgt := 79) (by decide) (fun c72 => ?_) (fun c72 => ?_)
    · replace hf := (if_neg c72).symm.trans hf
      refine jr_iload_n K (D_at DX12_snags_q3 5 rfl) rfl rfl ?_
      refine jr_if_ne K (D_at DX12_snags_q3 6 rfl) (tgt := 87) (by decide) (fun c80 => ?_) (fun c80 => ?_)
      · replace hf := (if_neg c80).symm.trans hf
        refine jr_iload_n K (D_at DX12_snags_q3 9 rfl) rfl rfl ?_
        cases hf
        exact jr_iret K E (D_at DX12_snags_q3 10 rfl) rfl ⟨rfl, rfl⟩
      · replace hf := (if_pos c80).symm.trans hf
        refine jr_iconst K (D_at DX12_snags_q3 7 rfl) (v := (0 : Int32)) (by decide) ?_
        refine jr_goto K (D_at DX12_snags_q3 8 rfl) (tgt := 88) (by decide) ?_
        cases hf
        exact jr_iret K E (D_at DX12_snags_q3 10 rfl) rfl ⟨rfl, rfl⟩
    · replace hf := (if_pos c72).symm.trans hf
      refine jr_iload_n K (D_at DX12_snags_q3 3 rfl) rfl rfl ?_
      refine jr_goto K (D_at DX12_snags_q3 4 rfl) (tgt := 88) (by decide) ?_
      cases hf
      exact jr_iret K E (D_at DX12_snags_q3 10 rfl) rfl ⟨rfl, rfl⟩
  · replace hf := (if_neg c42).symm.trans hf
    refine jr_aload_n K (D_at DX12_snags_q2 1 rfl) rfl rfl ?_
    refine jr_iload K (D_at DX12_snags_q2 2 rfl) rfl ?_
    obtain ⟨q48, e48, hf⟩ := jbind hf
    obtain ⟨rc_48, e48⟩ := jcv_o e48
    refine jr_callV K (C_X12_fits (d) e48) (D_at DX12_snags_q2 3 rfl) cv_X12_395_X12_fits (As := [.int x4]) (ci := 10) rfl rc_48 rfl rfl (by exact Nat.le_of_ble_eq_true rfl) (kc2 := 0) (ks2 := 0) rfl rfl (fun k9 h9 w9 => by cases w9.1) (fun r9 h9 w9 => ?_)
    obtain ⟨w1, w2⟩ := w9
    subst h9
    cases w1
    show jJ G X _ 0 0 _ _ (.int q48.1 :: _)
    refine jr_if_ne K (D_at DX12_snags_q2 4 rfl) (tgt := 57) (by decide) (fun c51 => ?_) (fun c51 => ?_)
    · replace hf := (if_neg c51).symm.trans hf
      refine jr_iinc K (D_at DX12_snags_q2 6 rfl) (i := 2) rfl (v := x2 + (1 : Int32)) (jinc (by decide)) (by decide) (L2 := [_, _, _, _, _]) rfl ?_
      refine jr_iload_n K (D_at DX12_snags_q2 7 rfl) rfl rfl ?_
      refine jr_iload K (D_at DX12_snags_q2 8 rfl) rfl ?_
      refine jr_iand K (D_at DX12_snags_q2 9 rfl) ?_
      refine jr_istore_n K (D_at DX12_snags_q2 10 rfl) (i := 3) rfl (by decide) (L2 := [_, _, _, _, _]) rfl ?_
      refine jr_iinc K (D_at DX12_snags_q2 11 rfl) (i := 4) rfl (v := x4 + (1 : Int32)) (jinc (by decide)) (by decide) (L2 := [_, _, _, _, _]) rfl ?_
      refine jr_goto K (D_at DX12_snags_q3 0 rfl) (tgt := 36) (by decide) ?_
      refine jr_keep [true, true, true, true, true] ?_
      exact hr36 a0 x1 (x2 + (1 : Int32)) (x3 &&& x4) (x4 + (1 : Int32)) q48.2 hf
    · replace hf := (if_pos c51).symm.trans hf
      refine jr_goto K (D_at DX12_snags_q2 5 rfl) (tgt := 65) (by decide) ?_
      refine jr_iinc K (D_at DX12_snags_q2 11 rfl) (i := 4) rfl (v := x4 + (1 : Int32)) (jinc (by decide)) (by decide) (L2 := [_, _, _, _, _]) rfl ?_
      refine jr_goto K (D_at DX12_snags_q3 0 rfl) (tgt := 36) (by decide) ?_
      refine jr_keep [true, true, true, true, true] ?_
      exact hr36 a0 x1 x2 x3 (x4 + (1 : Int32)) q48.2 hf
theorem J_X12_snags_36 {G : jG} {l : Launch} {d : Nat} {X : jX} {res : (Int32 × jH)} (K : jOK G l mX12_snags (d + 10) X) (n : Nat) (E : jEnd G mX12_snags (jPW res) X) (k : Nat) : ∀ (a0 : Nat) (x1 : Int32) (x2 : Int32) (x3 : Int32) (x4 : Int32) (h : jH), F_X12_snags_36 n k a0 x1 x2 x3 x4 h = some res → jJ G X h 0 0 36 [some (.ref a0), some (.int x1), some (.int x2), some (.int x3), some (.int x4)] [] := by
  induction k with
  | zero =>
    intro a0 x1 x2 x3 x4 h hf
    exact jno (show (none : Option (Int32 × jH)) = some res from hf)
  | succ k ih =>
    intro a0 x1 x2 x3 x4 h hf
    exact J_X12_snags_36_b K n (F_X12_snags_36 n k) ih E a0 x1 x2 x3 x4 h hf
set_option maxHeartbeats 400000 in
set_option maxRecDepth 100000 in
theorem J_X12_snags_17 {G : jG} {l : Launch} {d : Nat} {X : jX} {res : (Int32 × jH)} (K : jOK G l mX12_snags (d + 10) X) (n : Nat) (E : jEnd G mX12_snags (jPW res) X) (a0 : Nat) (x1 : Int32) (sa0 : Nat) (s1 : Int32) (h : jH) (hf : F_X12_snags_17 n a0 x1 sa0 s1 h = some res) : jJ G X h 0 0 17 [some (.ref a0), some (.int x1), none, none, none] [.int s1, .ref sa0] := by
  unfold F_X12_snags_17 at hf
  refine jr_iconst K (D_at DX12_snags_q0 9 rfl) (v := (1 : Int32)) (by decide) ?_
  obtain ⟨q18, e18, hf⟩ := jbind hf
  obtain ⟨rc_18, e18⟩ := jcv_o e18
  refine jr_callV K (C_X12_throwsIf (d + 9) e18) (D_at DX12_snags_q0 10 rfl) cv_X12_250_X12_throwsIf (As := [.int s1, .int (1 : Int32)]) (ci := 10) rfl rc_18 rfl rfl (by exact Nat.le_of_ble_eq_true rfl) (kc2 := 0) (ks2 := 0) rfl rfl (fun k9 h9 w9 => by cases w9.1) (fun r9 h9 w9 => ?_)
  obtain ⟨w1, w2⟩ := w9
  subst h9
  cases w1
  show jJ G X _ 0 0 _ _ (.int q18.1 :: _)
  refine jr_if_eq K (D_at DX12_snags_q0 11 rfl) (tgt := 26) (by decide) (fun c21 => ?_) (fun c21 => ?_)
  · replace hf := (if_pos c21).symm.trans hf
    refine jr_iconst K (D_at DX12_snags_q1 2 rfl) (v := (0 : Int32)) (by decide) ?_
    refine jr_istore_n K (D_at DX12_snags_q1 3 rfl) (i := 2) rfl (by decide) (L2 := [_, _, _, _, _]) rfl ?_
    refine jr_aload_n K (D_at DX12_snags_q1 4 rfl) rfl rfl ?_
    obtain ⟨v29, e29, hf⟩ := jbind hf
    obtain ⟨rc_29, e29⟩ := jcv_o e29
    refine jr_callV K (C_X12_thatCanCatch (d + 7) e29) (D_at DX12_snags_q1 5 rfl) cv_X12_392_X12_thatCanCatch (As := []) (ci := 10) rfl rc_29 rfl rfl (by exact Nat.le_of_ble_eq_true rfl) (kc2 := 0) (ks2 := 0) rfl rfl (fun k9 h9 w9 => by cases w9.1) (fun r9 h9 w9 => ?_)
    obtain ⟨w1, w2⟩ := w9
    subst h9
    cases w1
    show jJ G X _ 0 0 _ _ (.int v29 :: _)
    refine jr_istore_n K (D_at DX12_snags_q1 6 rfl) (i := 3) rfl (by decide) (L2 := [_, _, _, _, _]) rfl ?_
    refine jr_iconst K (D_at DX12_snags_q1 7 rfl) (v := (0 : Int32)) (by decide) ?_
    refine jr_istore K (D_at DX12_snags_q1 8 rfl) (i := 4) (by decide) (L2 := [_, _, _, _, _]) rfl ?_
    refine jr_keep [true, true, true, true, true] ?_
    exact J_X12_snags_36 K n E n a0 x1 (0 : Int32) v29 (0 : Int32) q18.2 hf
  · replace hf := (if_neg c21).symm.trans hf
    refine jr_iconst K (D_at DX12_snags_q1 0 rfl) (v := (0 : Int32)) (by decide) ?_
    cases hf
    exact jr_iret K E (D_at DX12_snags_q1 1 rfl) rfl ⟨rfl, rfl⟩
set_option maxHeartbeats 400000 in
set_option maxRecDepth 100000 in
theorem J_X12_snags {G : jG} {l : Launch} {d : Nat} {X : jX} {res : (Int32 × jH)} (K : jOK G l mX12_snags (d + 10) X) (n : Nat) (E : jEnd G mX12_snags (jPW res) X) (a0 : Nat) (x1 : Int32) (h : jH) (hf : F_X12_snags n a0 x1 h = some res) : jJ G X h 0 0 0 [some (.ref a0), some (.int x1), none, none, none] [] := by
  unfold F_X12_snags at hf
  refine jr_aload_n K (D_at DX12_snags_q0 0 rfl) rfl rfl ?_
  obtain ⟨h1, e1, hf⟩ := jbind hf
  obtain ⟨rc_1, e1⟩ := jcv_o e1
  refine jr_callV K (C_X12_uses (d + 9) e1) (D_at DX12_snags_q0 1 rfl) cv_X12_239_X12_uses (As := []) (ci := 10) rfl rc_1 rfl rfl (by exact Nat.le_of_ble_eq_true rfl) (kc2 := 0) (ks2 := 0) rfl rfl (fun k9 h9 w9 => by cases w9.1) (fun r9 h9 w9 => ?_)
  obtain ⟨w1, w2⟩ := w9
  subst h9
  cases w1
  show jJ G X _ 0 0 _ _ []
  refine jr_aload_n K (D_at DX12_snags_q0 2 rfl) rfl rfl ?_
  refine jr_aload_n K (D_at DX12_snags_q0 3 rfl) rfl rfl ?_
  obtain ⟨v6, e6, hf⟩ := jbind hf
  obtain ⟨rc_6, e6⟩ := jcv_o e6
  refine jr_callV K (C_X12_isTold (d + 6) e6) (D_at DX12_snags_q0 4 rfl) cv_X12_389_X12_isTold (As := []) (ci := 10) rfl rc_6 rfl rfl (by exact Nat.le_of_ble_eq_true rfl) (kc2 := 0) (ks2 := 0) rfl rfl (fun k9 h9 w9 => by cases w9.1) (fun r9 h9 w9 => ?_)
  obtain ⟨w1, w2⟩ := w9
  subst h9
  cases w1
  show jJ G X _ 0 0 _ _ (.int v6 :: _)
  refine jr_if_ne K (D_at DX12_snags_q0 5 rfl) (tgt := 16) (by decide) (fun c9 => ?_) (fun c9 => ?_)
  · replace hf := (if_neg c9).symm.trans hf
    refine jr_iconst K (D_at DX12_snags_q0 8 rfl) (v := (0 : Int32)) (by decide) ?_
    refine jr_keep [true, true, false, false, false] ?_
    exact J_X12_snags_17 K n E a0 x1 a0 (0 : Int32) h1 hf
  · replace hf := (if_pos c9).symm.trans hf
    refine jr_iconst K (D_at DX12_snags_q0 6 rfl) (v := (1 : Int32)) (by decide) ?_
    refine jr_goto K (D_at DX12_snags_q0 7 rfl) (tgt := 17) (by decide) ?_
    refine jr_keep [true, true, false, false, false] ?_
    exact J_X12_snags_17 K n E a0 x1 a0 (1 : Int32) h1 hf
theorem C_X12_snags {G : jG} {l : Launch} (d : Nat) {n : Nat} {a0 : Nat} {x1 : Int32} {h : jH} {res : (Int32 × jH)} (hf : F_X12_snags n a0 x1 h = some res) : jC G l mX12_snags (d + 10) 0 0 [.ref a0, .int x1] h (jPW res) :=
  jC.of pn_X12 (jcats rfl) (Nat.le_of_ble_eq_true rfl) (fun X K E => J_X12_snags K n E a0 x1 h hf)
set_option maxHeartbeats 400000 in
set_option maxRecDepth 100000 in
theorem J_X12_partBy_29_b {G : jG} {l : Launch} {d : Nat} {X : jX} {res : (Int32 × jH)} (K : jOK G l mX12_partBy (d + 9) X) (n : Nat) (rc29 : Nat → Int32 → Int32 → Int32 → Int32 → jH → Option (Int32 × jH)) (hr29 : ∀ (a0 : Nat) (x1 : Int32) (x2 : Int32) (x3 : Int32) (x4 : Int32) (h : jH), rc29 a0 x1 x2 x3 x4 h = some res → jJ G X h 0 0 29 [some (.ref a0), some (.int x1), some (.int x2), some (.int x3), some (.int x4), none] []) (E : jEnd G mX12_partBy (jPW res) X) (a0 : Nat) (x1 : Int32) (x2 : Int32) (x3 : Int32) (x4 : Int32) (h : jH) (hf : F_X12_partBy_29_b n rc29 a0 x1 x2 x3 x4 h = some res) : jJ G X h 0 0 29 [some (.ref a0), some (.int x1), some (.int x2), some (.int x3), some (.int x4), none] [] := by
  unfold F_X12_partBy_29_b at hf
  refine jr_iload K (D_at DX12_partBy_q1 4 rfl) rfl ?_
  refine jr_aload_n K (D_at DX12_partBy_q1 5 rfl) rfl rfl ?_
  obtain ⟨v32, e32, hf⟩ := jbind hf
  obtain ⟨rc_32, e32⟩ := jcv_o e32
  refine jr_callV K (C_X12_thatCanCatch (d + 6) e32) (D_at DX12_partBy_q1 6 rfl) cv_X12_392_X12_thatCanCatch (As := []) (ci := 10) rfl rc_32 rfl rfl (by exact Nat.le_of_ble_eq_true rfl) (kc2 := 0) (ks2 := 0) rfl rfl (fun k9 h9 w9 => by cases w9.1) (fun r9 h9 w9 => ?_)
  obtain ⟨w1, w2⟩ := w9
  subst h9
  cases w1
  show jJ G X _ 0 0 _ _ (.int v32 :: _)
  refine jr_icmp_gt K (D_at DX12_partBy_q1 7 rfl) (tgt := 92) (by decide) (fun c35 => ?_) (fun c35 => ?_)
  · replace hf := (if_pos c35).symm.trans hf
    refine jr_iload_n K (D_at DX12_partBy_q4 2 rfl) rfl rfl ?_
    cases hf
    exact jr_iret K E (D_at DX12_partBy_q4 3 rfl) rfl ⟨rfl, rfl⟩
  · replace hf := (if_neg c35).symm.trans hf
    refine jr_aload_n K (D_at DX12_partBy_q1 8 rfl) rfl rfl ?_
    obtain ⟨p39, e39, hf⟩ := jbind hf
    refine jr_getR K (D_at DX12_partBy_q1 9 rfl) fg_X12_42_10 e39 ?_
    refine jr_iload K (D_at DX12_partBy_q1 10 rfl) rfl ?_
    obtain ⟨v44, e44, hf⟩ := jbind hf
    refine jr_zald K (D_at DX12_partBy_q1 11 rfl) e44 ?_
    refine jr_if_ne K (D_at DX12_partBy_q2 0 rfl) (tgt := 51) (by decide) (fun c45 => ?_) (fun c45 => ?_)
    · replace hf := (if_neg c45).symm.trans hf
      refine jr_aload_n K (D_at DX12_partBy_q2 2 rfl) rfl rfl ?_
      refine jr_iload K (D_at DX12_partBy_q2 3 rfl) rfl ?_
      refine jr_iload_n K (D_at DX12_partBy_q2 4 rfl) rfl rfl ?_
      refine jr_iload_n K (D_at DX12_partBy_q2 5 rfl) rfl rfl ?_
      refine jr_bipush K (D_at DX12_partBy_q2 6 rfl) (v := (31 : Int32)) (by decide) ?_
      obtain ⟨q58, e58, hf⟩ := jbind hf
      obtain ⟨rc_58, e58⟩ := jcv_o e58
      refine jr_callV K (C_X12_wentWith (d) e58) (D_at DX12_partBy_q2 7 rfl) cv_X12_385_X12_wentWith (As := [.int x4, .int x1, .int x2, .int (31 : Int32)]) (ci := 10) rfl rc_58 rfl rfl (by exact Nat.le_of_ble_eq_true rfl) (kc2 := 0) (ks2 := 0) rfl rfl (fun k9 h9 w9 => by cases w9.1) (fun r9 h9 w9 => ?_)
      obtain ⟨w1, w2⟩ := w9
      subst h9
      cases w1
      show jJ G X _ 0 0 _ _ (.int q58.1 :: _)
      refine jr_istore K (D_at DX12_partBy_q2 8 rfl) (i := 5) (by decide) (L2 := [_, _, _, _, _, _]) rfl ?_
      refine jr_aload_n K (D_at DX12_partBy_q2 9 rfl) rfl rfl ?_
      obtain ⟨p64, e64, hf⟩ := jbind hf
      refine jr_getR K (D_at DX12_partBy_q2 10 rfl) fg_X12_46_10 e64 ?_
      refine jr_iload K (D_at DX12_partBy_q2 11 rfl) rfl ?_
      refine jr_dup2 K (D_at DX12_partBy_q3 0 rfl) rfl rfl ?_
      obtain ⟨v70, e70, hf⟩ := jbind hf
      refine jr_iald K (D_at DX12_partBy_q3 1 rfl) e70 ?_
      refine jr_iconst K (D_at DX12_partBy_q3 2 rfl) (v := (1 : Int32)) (by decide) ?_
      refine jr_iadd K (D_at DX12_partBy_q3 3 rfl) ?_
      obtain ⟨h73, e73, hf⟩ := jbind hf
      refine jr_iast K (D_at DX12_partBy_q3 4 rfl) e73 ?_
      refine jr_iload_n K (D_at DX12_partBy_q3 5 rfl) rfl rfl ?_
      refine jr_aload_n K (D_at DX12_partBy_q3 6 rfl) rfl rfl ?_
      obtain ⟨p76, e76, hf⟩ := jbind hf
      refine jr_getR K (D_at DX12_partBy_q3 7 rfl) fg_X12_46_10 e76 ?_
      refine jr_iload K (D_at DX12_partBy_q3 8 rfl) rfl ?_
      obtain ⟨v81, e81, hf⟩ := jbind hf
      refine jr_iald K (D_at DX12_partBy_q3 9 rfl) e81 ?_
      refine jr_max K (D_at DX12_partBy_q3 10 rfl) mm_X12_368 (by exact Nat.le_of_ble_eq_true rfl) ?_
      refine jr_istore_n K (D_at DX12_partBy_q3 11 rfl) (i := 3) rfl (by decide) (L2 := [_, _, _, _, _, _]) rfl ?_
      refine jr_iinc K (D_at DX12_partBy_q4 0 rfl) (i := 4) rfl (v := x4 + (1 : Int32)) (jinc (by decide)) (by decide) (L2 := [_, _, _, _, _, _]) rfl ?_
      refine jr_goto K (D_at DX12_partBy_q4 1 rfl) (tgt := 29) (by decide) ?_
      refine jr_keep [true, true, true, true, true, false] ?_
      exact hr29 a0 x1 x2 (if x3 < v81 then v81 else x3) (x4 + (1 : Int32)) h73 hf
    · replace hf := (if_pos c45).symm.trans hf
      refine jr_goto K (D_at DX12_partBy_q2 1 rfl) (tgt := 86) (by decide) ?_
      refine jr_iinc K (D_at DX12_partBy_q4 0 rfl) (i := 4) rfl (v := x4 + (1 : Int32)) (jinc (by decide)) (by decide) (L2 := [_, _, _, _, _, _]) rfl ?_
      refine jr_goto K (D_at DX12_partBy_q4 1 rfl) (tgt := 29) (by decide) ?_
      refine jr_keep [true, true, true, true, true, false] ?_
      exact hr29 a0 x1 x2 x3 (x4 + (1 : Int32)) h hf
theorem J_X12_partBy_29 {G : jG} {l : Launch} {d : Nat} {X : jX} {res : (Int32 × jH)} (K : jOK G l mX12_partBy (d + 9) X) (n : Nat) (E : jEnd G mX12_partBy (jPW res) X) (k : Nat) : ∀ (a0 : Nat) (x1 : Int32) (x2 : Int32) (x3 : Int32) (x4 : Int32) (h : jH), F_X12_partBy_29 n k a0 x1 x2 x3 x4 h = some res → jJ G X h 0 0 29 [some (.ref a0), some (.int x1), some (.int x2), some (.int x3), some (.int x4), none] [] := by
  induction k with
  | zero =>
    intro a0 x1 x2 x3 x4 h hf
    exact jno (show (none : Option (Int32 × jH)) = some res from hf)
  | succ k ih =>
    intro a0 x1 x2 x3 x4 h hf
    exact J_X12_partBy_29_b K n (F_X12_partBy_29 n k) ih E a0 x1 x2 x3 x4 h hf
set_option maxHeartbeats 400000 in
set_option maxRecDepth 100000 in
theorem J_X12_partBy_5_b {G : jG} {l : Launch} {d : Nat} {X : jX} {res : (Int32 × jH)} (K : jOK G l mX12_partBy (d + 9) X) (n : Nat) (rc5 : Nat → Int32 → Int32 → Int32 → Int32 → jH → Option (Int32 × jH)) (hr5 : ∀ (a0 : Nat) (x1 : Int32) (x2 : Int32) (x3 : Int32) (x4 : Int32) (h : jH), rc5 a0 x1 x2 x3 x4 h = some res → jJ G X h 0 0 5 [some (.ref a0), some (.int x1), some (.int x2), some (.int x3), some (.int x4), none] []) (E : jEnd G mX12_partBy (jPW res) X) (a0 : Nat) (x1 : Int32) (x2 : Int32) (x3 : Int32) (x4 : Int32) (h : jH) (hf : F_X12_partBy_5_b n rc5 a0 x1 x2 x3 x4 h = some res) : jJ G X h 0 0 5 [some (.ref a0), some (.int x1), some (.int x2), some (.int x3), some (.int x4), none] [] := by
  unfold F_X12_partBy_5_b at hf
  refine jr_iload K (D_at DX12_partBy_q0 4 rfl) rfl ?_
  refine jr_bipush K (D_at DX12_partBy_q0 5 rfl) (v := (31 : Int32)) (by decide) ?_
  refine jr_icmp_gt K (D_at DX12_partBy_q0 6 rfl) (tgt := 26) (by decide) (fun c9 => ?_) (fun c9 => ?_)
  · replace hf := (if_pos c9).symm.trans hf
    refine jr_iconst K (D_at DX12_partBy_q1 2 rfl) (v := (0 : Int32)) (by decide) ?_
    refine jr_istore K (D_at DX12_partBy_q1 3 rfl) (i := 4) (by decide) (L2 := [_, _, _, _, _, _]) rfl ?_
    refine jr_keep [true, true, true, true, true, false] ?_
    exact J_X12_partBy_29 K n E n a0 x1 x2 x3 (0 : Int32) h hf
  · replace hf := (if_neg c9).symm.trans hf
    refine jr_aload_n K (D_at DX12_partBy_q0 7 rfl) rfl rfl ?_
    obtain ⟨p13, e13, hf⟩ := jbind hf
    refine jr_getR K (D_at DX12_partBy_q0 8 rfl) fg_X12_46_10 e13 ?_
    refine jr_iload K (D_at DX12_partBy_q0 9 rfl) rfl ?_
    refine jr_iconst K (D_at DX12_partBy_q0 10 rfl) (v := (0 : Int32)) (by decide) ?_
    obtain ⟨h19, e19, hf⟩ := jbind hf
    refine jr_iast K (D_at DX12_partBy_q0 11 rfl) e19 ?_
    refine jr_iinc K (D_at DX12_partBy_q1 0 rfl) (i := 4) rfl (v := x4 + (1 : Int32)) (jinc (by decide)) (by decide) (L2 := [_, _, _, _, _, _]) rfl ?_
    refine jr_goto K (D_at DX12_partBy_q1 1 rfl) (tgt := 5) (by decide) ?_
    refine jr_keep [true, true, true, true, true, false] ?_
    exact hr5 a0 x1 x2 x3 (x4 + (1 : Int32)) h19 hf
theorem J_X12_partBy_5 {G : jG} {l : Launch} {d : Nat} {X : jX} {res : (Int32 × jH)} (K : jOK G l mX12_partBy (d + 9) X) (n : Nat) (E : jEnd G mX12_partBy (jPW res) X) (k : Nat) : ∀ (a0 : Nat) (x1 : Int32) (x2 : Int32) (x3 : Int32) (x4 : Int32) (h : jH), F_X12_partBy_5 n k a0 x1 x2 x3 x4 h = some res → jJ G X h 0 0 5 [some (.ref a0), some (.int x1), some (.int x2), some (.int x3), some (.int x4), none] [] := by
  induction k with
  | zero =>
    intro a0 x1 x2 x3 x4 h hf
    exact jno (show (none : Option (Int32 × jH)) = some res from hf)
  | succ k ih =>
    intro a0 x1 x2 x3 x4 h hf
    exact J_X12_partBy_5_b K n (F_X12_partBy_5 n k) ih E a0 x1 x2 x3 x4 h hf
set_option maxHeartbeats 400000 in
set_option maxRecDepth 100000 in
theorem J_X12_partBy {G : jG} {l : Launch} {d : Nat} {X : jX} {res : (Int32 × jH)} (K : jOK G l mX12_partBy (d + 9) X) (n : Nat) (E : jEnd G mX12_partBy (jPW res) X) (a0 : Nat) (x1 : Int32) (x2 : Int32) (h : jH) (hf : F_X12_partBy n a0 x1 x2 h = some res) : jJ G X h 0 0 0 [some (.ref a0), some (.int x1), some (.int x2), none, none, none] [] := by
  unfold F_X12_partBy at hf
  refine jr_iconst K (D_at DX12_partBy_q0 0 rfl) (v := (0 : Int32)) (by decide) ?_
  refine jr_istore_n K (D_at DX12_partBy_q0 1 rfl) (i := 3) rfl (by decide) (L2 := [_, _, _, _, _, _]) rfl ?_
  refine jr_iconst K (D_at DX12_partBy_q0 2 rfl) (v := (0 : Int32)) (by decide) ?_
  refine jr_istore K (D_at DX12_partBy_q0 3 rfl) (i := 4) (by decide) (L2 := [_, _, _, _, _, _]) rfl ?_
  refine jr_keep [true, true, true, true, true, false] ?_
  exact J_X12_partBy_5 K n E n a0 x1 x2 (0 : Int32) (0 : Int32) h hf
theorem C_X12_partBy {G : jG} {l : Launch} (d : Nat) {n : Nat} {a0 : Nat} {x1 : Int32} {x2 : Int32} {h : jH} {res : (Int32 × jH)} (hf : F_X12_partBy n a0 x1 x2 h = some res) : jC G l mX12_partBy (d + 9) 0 0 [.ref a0, .int x1, .int x2] h (jPW res) :=
  jC.of pn_X12 (jcats rfl) (Nat.le_of_ble_eq_true rfl) (fun X K E => J_X12_partBy K n E a0 x1 x2 h hf)
set_option maxHeartbeats 400000 in
set_option maxRecDepth 100000 in
theorem J_X12_tries_132 {G : jG} {l : Launch} {d : Nat} {X : jX} {res : (Int32 × jH)} (K : jOK G l mX12_tries (d + 10) X) (n : Nat) (rc81 : Nat → Int32 → Int32 → Int32 → Int32 → jH → Option (Int32 × jH)) (hr81 : ∀ (a0 : Nat) (x1 : Int32) (x2 : Int32) (x3 : Int32) (x4 : Int32) (h : jH), rc81 a0 x1 x2 x3 x4 h = some res → jJ G X h 0 0 81 [some (.ref a0), some (.int x1), some (.int x2), some (.int x3), some (.int x4), none] []) (E : jEnd G mX12_tries (jPW res) X) (a0 : Nat) (x1 : Int32) (x3 : Int32) (x4 : Int32) (x5 : Int32) (s0 : Int32) (h : jH) (hf : F_X12_tries_132 n rc81 a0 x1 x3 x4 x5 s0 h = some res) : jJ G X h 0 0 132 [some (.ref a0), some (.int x1), none, some (.int x3), some (.int x4), some (.int x5)] [.int s0] := by
  unfold F_X12_tries_132 at hf
  refine jr_istore_n K (D_at DX12_tries_1_q1 1 rfl) (i := 2) rfl (by decide) (L2 := [_, _, _, _, _, _]) rfl ?_
  refine jr_iload_n K (D_at DX12_tries_1_q1 2 rfl) rfl rfl ?_
  refine jr_iload K (D_at DX12_tries_1_q1 3 rfl) rfl ?_
  refine jr_min K (D_at DX12_tries_1_q1 4 rfl) mm_X12_119 (by exact Nat.le_of_ble_eq_true rfl) ?_
  refine jr_istore_n K (D_at DX12_tries_1_q1 5 rfl) (i := 3) rfl (by decide) (L2 := [_, _, _, _, _, _]) rfl ?_
  refine jr_iinc K (D_at DX12_tries_1_q1 6 rfl) (i := 4) rfl (v := x4 + (1 : Int32)) (jinc (by decide)) (by decide) (L2 := [_, _, _, _, _, _]) rfl ?_
  refine jr_goto K (D_at DX12_tries_1_q1 7 rfl) (tgt := 81) (by decide) ?_
  refine jr_keep [true, true, true, true, true, false] ?_
  exact hr81 a0 x1 s0 (if x5 < x3 then x5 else x3) (x4 + (1 : Int32)) h hf
set_option maxHeartbeats 400000 in
set_option maxRecDepth 100000 in
theorem J_X12_tries_115 {G : jG} {l : Launch} {d : Nat} {X : jX} {res : (Int32 × jH)} (K : jOK G l mX12_tries (d + 10) X) (n : Nat) (rc81 : Nat → Int32 → Int32 → Int32 → Int32 → jH → Option (Int32 × jH)) (hr81 : ∀ (a0 : Nat) (x1 : Int32) (x2 : Int32) (x3 : Int32) (x4 : Int32) (h : jH), rc81 a0 x1 x2 x3 x4 h = some res → jJ G X h 0 0 81 [some (.ref a0), some (.int x1), some (.int x2), some (.int x3), some (.int x4), none] []) (E : jEnd G mX12_tries (jPW res) X) (a0 : Nat) (x1 : Int32) (x2 : Int32) (x3 : Int32) (x4 : Int32) (sa0 : Nat) (s1 : Int32) (s2 : Int32) (h : jH) (hf : F_X12_tries_115 n rc81 a0 x1 x2 x3 x4 sa0 s1 s2 h = some res) : jJ G X h 0 0 115 [some (.ref a0), some (.int x1), some (.int x2), some (.int x3), some (.int x4), none] [.int s2, .int s1, .ref sa0] := by
  unfold F_X12_tries_115 at hf
  obtain ⟨q115, e115, hf⟩ := jbind hf
  obtain ⟨rc_115, e115⟩ := jcv_o e115
  refine jr_callV K (C_X12_partBy (d) e115) (D_at DX12_tries_1_q0 5 rfl) cv_X12_398_X12_partBy (As := [.int s1, .int s2]) (ci := 10) rfl rc_115 rfl rfl (by exact Nat.le_of_ble_eq_true rfl) (kc2 := 0) (ks2 := 0) rfl rfl (fun k9 h9 w9 => by cases w9.1) (fun r9 h9 w9 => ?_)
  obtain ⟨w1, w2⟩ := w9
  subst h9
  cases w1
  show jJ G X _ 0 0 _ _ (.int q115.1 :: _)
  refine jr_istore K (D_at DX12_tries_1_q0 6 rfl) (i := 5) (by decide) (L2 := [_, _, _, _, _, _]) rfl ?_
  refine jr_iload K (D_at DX12_tries_1_q0 7 rfl) rfl ?_
  refine jr_iload_n K (D_at DX12_tries_1_q0 8 rfl) rfl rfl ?_
  refine jr_icmp_ge K (D_at DX12_tries_1_q0 9 rfl) (tgt := 131) (by decide) (fun c123 => ?_) (fun c123 => ?_)
  · replace hf := (if_pos c123).symm.trans hf
    refine jr_iload_n K (D_at DX12_tries_1_q1 0 rfl) rfl rfl ?_
    refine jr_keep [true, true, false, true, true, true] ?_
    exact J_X12_tries_132 K n rc81 hr81 E a0 x1 x3 x4 q115.1 x2 q115.2 hf
  · replace hf := (if_neg c123).symm.trans hf
    refine jr_iload K (D_at DX12_tries_1_q0 10 rfl) rfl ?_
    refine jr_goto K (D_at DX12_tries_1_q0 11 rfl) (tgt := 132) (by decide) ?_
    refine jr_keep [true, true, false, true, true, true] ?_
    exact J_X12_tries_132 K n rc81 hr81 E a0 x1 x3 x4 q115.1 x4 q115.2 hf
set_option maxHeartbeats 400000 in
set_option maxRecDepth 100000 in
theorem J_X12_tries_81_b {G : jG} {l : Launch} {d : Nat} {X : jX} {res : (Int32 × jH)} (K : jOK G l mX12_tries (d + 10) X) (n : Nat) (rc81 : Nat → Int32 → Int32 → Int32 → Int32 → jH → Option (Int32 × jH)) (hr81 : ∀ (a0 : Nat) (x1 : Int32) (x2 : Int32) (x3 : Int32) (x4 : Int32) (h : jH), rc81 a0 x1 x2 x3 x4 h = some res → jJ G X h 0 0 81 [some (.ref a0), some (.int x1), some (.int x2), some (.int x3), some (.int x4), none] []) (E : jEnd G mX12_tries (jPW res) X) (a0 : Nat) (x1 : Int32) (x2 : Int32) (x3 : Int32) (x4 : Int32) (h : jH) (hf : F_X12_tries_81_b n rc81 a0 x1 x2 x3 x4 h = some res) : jJ G X h 0 0 81 [some (.ref a0), some (.int x1), some (.int x2), some (.int x3), some (.int x4), none] [] := by
  unfold F_X12_tries_81_b at hf
  refine jr_iload K (D_at DX12_tries_q4 0 rfl) rfl ?_
  refine jr_iconst K (D_at DX12_tries_q4 1 rfl) (v := (2 : Int32)) (by decide) ?_
  refine jr_aload_n K (D_at DX12_tries_q4 2 rfl) rfl rfl ?_
  obtain ⟨v85, e85, hf⟩ := jbind hf
  obtain ⟨rc_85, e85⟩ := jcv_o e85
  refine jr_callV K (C_X12_rings (d + 9) e85) (D_at DX12_tries_q4 3 rfl) cv_X12_59_X12_rings (As := []) (ci := 10) rfl rc_85 rfl rfl (by exact Nat.le_of_ble_eq_true rfl) (kc2 := 0) (ks2 := 0) rfl rfl (fun k9 h9 w9 => by cases w9.1) (fun r9 h9 w9 => ?_)
  obtain ⟨w1, w2⟩ := w9
  subst h9
  cases w1
  show jJ G X _ 0 0 _ _ (.int v85 :: _)
  refine jr_imul K (D_at DX12_tries_q4 4 rfl) ?_
  refine jr_icmp_ge K (D_at DX12_tries_q4 5 rfl) (tgt := 146) (by decide) (fun c89 => ?_) (fun c89 => ?_)
  · replace hf := (if_pos c89).symm.trans hf
    refine jr_iload_n K (D_at DX12_tries_1_q1 8 rfl) rfl rfl ?_
    cases hf
    exact jr_iret K E (D_at DX12_tries_1_q1 9 rfl) rfl ⟨rfl, rfl⟩
  · replace hf := (if_neg c89).symm.trans hf
    refine jr_iload_n K (D_at DX12_tries_q4 6 rfl) rfl rfl ?_
    refine jr_iconst K (D_at DX12_tries_q4 7 rfl) (v := (1 : Int32)) (by decide) ?_
    refine jr_icmp_le K (D_at DX12_tries_q4 8 rfl) (tgt := 146) (by decide) (fun c94 => ?_) (fun c94 => ?_)
    · replace hf := (if_pos c94).symm.trans hf
      refine jr_iload_n K (D_at DX12_tries_1_q1 8 rfl) rfl rfl ?_
      cases hf
      exact jr_iret K E (D_at DX12_tries_1_q1 9 rfl) rfl ⟨rfl, rfl⟩
    · replace hf := (if_neg c94).symm.trans hf
      refine jr_aload_n K (D_at DX12_tries_q4 9 rfl) rfl rfl ?_
      refine jr_iload K (D_at DX12_tries_q4 10 rfl) rfl ?_
      refine jr_iconst K (D_at DX12_tries_q4 11 rfl) (v := (2 : Int32)) (by decide) ?_
      refine jr_idiv K (D_at DX12_tries_q5 0 rfl) (by decide) ?_
      refine jr_iload K (D_at DX12_tries_q5 1 rfl) rfl ?_
      refine jr_iconst K (D_at DX12_tries_q5 2 rfl) (v := (2 : Int32)) (by decide) ?_
      refine jr_irem K (D_at DX12_tries_q5 3 rfl) (by decide) ?_
      refine jr_iconst K (D_at DX12_tries_1_q0 0 rfl) (v := (1 : Int32)) (by decide) ?_
      refine jr_icmp_ne K (D_at DX12_tries_1_q0 1 rfl) (tgt := 114) (by decide) (fun c107 => ?_) (fun c107 => ?_)
      · replace hf := (if_neg c107).symm.trans hf
        refine jr_iconst K (D_at DX12_tries_1_q0 4 rfl) (v := (0 : Int32)) (by decide) ?_
        refine jr_keep [true, true, true, true, true, false] ?_
        exact J_X12_tries_115 K n rc81 hr81 E a0 x1 x2 x3 x4 a0 (x4 / (2 : Int32)) (0 : Int32) h hf
      · replace hf := (if_pos c107).symm.trans hf
        refine jr_iconst K (D_at DX12_tries_1_q0 2 rfl) (v := (1 : Int32)) (by decide) ?_
        refine jr_goto K (D_at DX12_tries_1_q0 3 rfl) (tgt := 115) (by decide) ?_
        refine jr_keep [true, true, true, true, true, false] ?_
        exact J_X12_tries_115 K n rc81 hr81 E a0 x1 x2 x3 x4 a0 (x4 / (2 : Int32)) (1 : Int32) h hf
theorem J_X12_tries_81 {G : jG} {l : Launch} {d : Nat} {X : jX} {res : (Int32 × jH)} (K : jOK G l mX12_tries (d + 10) X) (n : Nat) (E : jEnd G mX12_tries (jPW res) X) (k : Nat) : ∀ (a0 : Nat) (x1 : Int32) (x2 : Int32) (x3 : Int32) (x4 : Int32) (h : jH), F_X12_tries_81 n k a0 x1 x2 x3 x4 h = some res → jJ G X h 0 0 81 [some (.ref a0), some (.int x1), some (.int x2), some (.int x3), some (.int x4), none] [] := by
  induction k with
  | zero =>
    intro a0 x1 x2 x3 x4 h hf
    exact jno (show (none : Option (Int32 × jH)) = some res from hf)
  | succ k ih =>
    intro a0 x1 x2 x3 x4 h hf
    exact J_X12_tries_81_b K n (F_X12_tries_81 n k) ih E a0 x1 x2 x3 x4 h hf
set_option maxHeartbeats 400000 in
set_option maxRecDepth 100000 in
theorem J_X12_tries_30_b {G : jG} {l : Launch} {d : Nat} {X : jX} {res : (Int32 × jH)} (K : jOK G l mX12_tries (d + 10) X) (n : Nat) (rc30 : Nat → Int32 → Int32 → jH → Option (Int32 × jH)) (hr30 : ∀ (a0 : Nat) (x1 : Int32) (x2 : Int32) (h : jH), rc30 a0 x1 x2 h = some res → jJ G X h 0 0 30 [some (.ref a0), some (.int x1), some (.int x2), none, none, none] []) (E : jEnd G mX12_tries (jPW res) X) (a0 : Nat) (x1 : Int32) (x2 : Int32) (h : jH) (hf : F_X12_tries_30_b n rc30 a0 x1 x2 h = some res) : jJ G X h 0 0 30 [some (.ref a0), some (.int x1), some (.int x2), none, none, none] [] := by
  unfold F_X12_tries_30_b at hf
  refine jr_iload_n K (D_at DX12_tries_q1 6 rfl) rfl rfl ?_
  refine jr_aload_n K (D_at DX12_tries_q1 7 rfl) rfl rfl ?_
  obtain ⟨v32, e32, hf⟩ := jbind hf
  obtain ⟨rc_32, e32⟩ := jcv_o e32
  refine jr_callV K (C_X12_thatCanCatch (d + 7) e32) (D_at DX12_tries_q1 8 rfl) cv_X12_392_X12_thatCanCatch (As := []) (ci := 10) rfl rc_32 rfl rfl (by exact Nat.le_of_ble_eq_true rfl) (kc2 := 0) (ks2 := 0) rfl rfl (fun k9 h9 w9 => by cases w9.1) (fun r9 h9 w9 => ?_)
  obtain ⟨w1, w2⟩ := w9
  subst h9
  cases w1
  show jJ G X _ 0 0 _ _ (.int v32 :: _)
  refine jr_icmp_gt K (D_at DX12_tries_q1 9 rfl) (tgt := 72) (by decide) (fun c35 => ?_) (fun c35 => ?_)
  · replace hf := (if_pos c35).symm.trans hf
    refine jr_iconst K (D_at DX12_tries_q3 6 rfl) (v := (-1 : Int32)) (by decide) ?_
    refine jr_istore_n K (D_at DX12_tries_q3 7 rfl) (i := 2) rfl (by decide) (L2 := [_, _, _, _, _, _]) rfl ?_
    refine jr_ldcw K (D_at DX12_tries_q3 8 rfl) (v := (1000000 : Int32)) kc_X12_273 ?_
    refine jr_istore_n K (D_at DX12_tries_q3 9 rfl) (i := 3) rfl (by decide) (L2 := [_, _, _, _, _, _]) rfl ?_
    refine jr_iconst K (D_at DX12_tries_q3 10 rfl) (v := (0 : Int32)) (by decide) ?_
    refine jr_istore K (D_at DX12_tries_q3 11 rfl) (i := 4) (by decide) (L2 := [_, _, _, _, _, _]) rfl ?_
    refine jr_keep [true, true, true, true, true, false] ?_
    exact J_X12_tries_81 K n E n a0 x1 (-1 : Int32) (1000000 : Int32) (0 : Int32) h hf
  · replace hf := (if_neg c35).symm.trans hf
    refine jr_aload_n K (D_at DX12_tries_q1 10 rfl) rfl rfl ?_
    obtain ⟨p39, e39, hf⟩ := jbind hf
    refine jr_getR K (D_at DX12_tries_q1 11 rfl) fg_X12_42_10 e39 ?_
    refine jr_iload_n K (D_at DX12_tries_q2 0 rfl) rfl rfl ?_
    refine jr_aload_n K (D_at DX12_tries_q2 1 rfl) rfl rfl ?_
    refine jr_iload_n K (D_at DX12_tries_q2 2 rfl) rfl rfl ?_
    obtain ⟨q45, e45, hf⟩ := jbind hf
    obtain ⟨rc_45, e45⟩ := jcv_o e45
    refine jr_callV K (C_X12_fits (d) e45) (D_at DX12_tries_q2 3 rfl) cv_X12_395_X12_fits (As := [.int x2]) (ci := 10) rfl rc_45 rfl rfl (by exact Nat.le_of_ble_eq_true rfl) (kc2 := 0) (ks2 := 0) rfl rfl (fun k9 h9 w9 => by cases w9.1) (fun r9 h9 w9 => ?_)
    obtain ⟨w1, w2⟩ := w9
    subst h9
    cases w1
    show jJ G X _ 0 0 _ _ (.int q45.1 :: _)
    obtain ⟨h48, e48, hf⟩ := jbind hf
    refine jr_zast K (D_at DX12_tries_q2 4 rfl) e48 ?_
    refine jr_iload_n K (D_at DX12_tries_q2 5 rfl) rfl rfl ?_
    refine jr_aload_n K (D_at DX12_tries_q2 6 rfl) rfl rfl ?_
    obtain ⟨p51, e51, hf⟩ := jbind hf
    refine jr_getR K (D_at DX12_tries_q2 7 rfl) fg_X12_42_10 e51 ?_
    refine jr_iload_n K (D_at DX12_tries_q2 8 rfl) rfl rfl ?_
    obtain ⟨v55, e55, hf⟩ := jbind hf
    refine jr_zald K (D_at DX12_tries_q2 9 rfl) e55 ?_
    refine jr_if_eq K (D_at DX12_tries_q2 10 rfl) (tgt := 63) (by decide) (fun c56 => ?_) (fun c56 => ?_)
    · replace hf := (if_pos c56).symm.trans hf
      refine jr_iconst K (D_at DX12_tries_q3 1 rfl) (v := (0 : Int32)) (by decide) ?_
      refine jr_iadd K (D_at DX12_tries_q3 2 rfl) ?_
      refine jr_istore_n K (D_at DX12_tries_q3 3 rfl) (i := 1) rfl (by decide) (L2 := [_, _, _, _, _, _]) rfl ?_
      refine jr_iinc K (D_at DX12_tries_q3 4 rfl) (i := 2) rfl (v := x2 + (1 : Int32)) (jinc (by decide)) (by decide) (L2 := [_, _, _, _, _, _]) rfl ?_
      refine jr_goto K (D_at DX12_tries_q3 5 rfl) (tgt := 30) (by decide) ?_
      refine jr_keep [true, true, true, false, false, false] ?_
      exact hr30 a0 (x1 + (0 : Int32)) (x2 + (1 : Int32)) h48 hf
    · replace hf := (if_neg c56).symm.trans hf
      refine jr_iconst K (D_at DX12_tries_q2 11 rfl) (v := (1 : Int32)) (by decide) ?_
      refine jr_goto K (D_at DX12_tries_q3 0 rfl) (tgt := 64) (by decide) ?_
      refine jr_iadd K (D_at DX12_tries_q3 2 rfl) ?_
      refine jr_istore_n K (D_at DX12_tries_q3 3 rfl) (i := 1) rfl (by decide) (L2 := [_, _, _, _, _, _]) rfl ?_
      refine jr_iinc K (D_at DX12_tries_q3 4 rfl) (i := 2) rfl (v := x2 + (1 : Int32)) (jinc (by decide)) (by decide) (L2 := [_, _, _, _, _, _]) rfl ?_
      refine jr_goto K (D_at DX12_tries_q3 5 rfl) (tgt := 30) (by decide) ?_
      refine jr_keep [true, true, true, false, false, false] ?_
      exact hr30 a0 (x1 + (1 : Int32)) (x2 + (1 : Int32)) h48 hf
theorem J_X12_tries_30 {G : jG} {l : Launch} {d : Nat} {X : jX} {res : (Int32 × jH)} (K : jOK G l mX12_tries (d + 10) X) (n : Nat) (E : jEnd G mX12_tries (jPW res) X) (k : Nat) : ∀ (a0 : Nat) (x1 : Int32) (x2 : Int32) (h : jH), F_X12_tries_30 n k a0 x1 x2 h = some res → jJ G X h 0 0 30 [some (.ref a0), some (.int x1), some (.int x2), none, none, none] [] := by
  induction k with
  | zero =>
    intro a0 x1 x2 h hf
    exact jno (show (none : Option (Int32 × jH)) = some res from hf)
  | succ k ih =>
    intro a0 x1 x2 h hf
    exact J_X12_tries_30_b K n (F_X12_tries_30 n k) ih E a0 x1 x2 h hf
set_option maxHeartbeats 400000 in
set_option maxRecDepth 100000 in
theorem J_X12_tries_17 {G : jG} {l : Launch} {d : Nat} {X : jX} {res : (Int32 × jH)} (K : jOK G l mX12_tries (d + 10) X) (n : Nat) (E : jEnd G mX12_tries (jPW res) X) (a0 : Nat) (sa0 : Nat) (s1 : Int32) (h : jH) (hf : F_X12_tries_17 n a0 sa0 s1 h = some res) : jJ G X h 0 0 17 [some (.ref a0), none, none, none, none, none] [.int s1, .ref sa0] := by
  unfold F_X12_tries_17 at hf
  refine jr_iconst K (D_at DX12_tries_q0 9 rfl) (v := (1 : Int32)) (by decide) ?_
  obtain ⟨q18, e18, hf⟩ := jbind hf
  obtain ⟨rc_18, e18⟩ := jcv_o e18
  refine jr_callV K (C_X12_throwsIf (d + 9) e18) (D_at DX12_tries_q0 10 rfl) cv_X12_250_X12_throwsIf (As := [.int s1, .int (1 : Int32)]) (ci := 10) rfl rc_18 rfl rfl (by exact Nat.le_of_ble_eq_true rfl) (kc2 := 0) (ks2 := 0) rfl rfl (fun k9 h9 w9 => by cases w9.1) (fun r9 h9 w9 => ?_)
  obtain ⟨w1, w2⟩ := w9
  subst h9
  cases w1
  show jJ G X _ 0 0 _ _ (.int q18.1 :: _)
  refine jr_if_eq K (D_at DX12_tries_q0 11 rfl) (tgt := 26) (by decide) (fun c21 => ?_) (fun c21 => ?_)
  · replace hf := (if_pos c21).symm.trans hf
    refine jr_iconst K (D_at DX12_tries_q1 2 rfl) (v := (0 : Int32)) (by decide) ?_
    refine jr_istore_n K (D_at DX12_tries_q1 3 rfl) (i := 1) rfl (by decide) (L2 := [_, _, _, _, _, _]) rfl ?_
    refine jr_iconst K (D_at DX12_tries_q1 4 rfl) (v := (0 : Int32)) (by decide) ?_
    refine jr_istore_n K (D_at DX12_tries_q1 5 rfl) (i := 2) rfl (by decide) (L2 := [_, _, _, _, _, _]) rfl ?_
    refine jr_keep [true, true, true, false, false, false] ?_
    exact J_X12_tries_30 K n E n a0 (0 : Int32) (0 : Int32) q18.2 hf
  · replace hf := (if_neg c21).symm.trans hf
    refine jr_iconst K (D_at DX12_tries_q1 0 rfl) (v := (0 : Int32)) (by decide) ?_
    cases hf
    exact jr_iret K E (D_at DX12_tries_q1 1 rfl) rfl ⟨rfl, rfl⟩
set_option maxHeartbeats 400000 in
set_option maxRecDepth 100000 in
theorem J_X12_tries {G : jG} {l : Launch} {d : Nat} {X : jX} {res : (Int32 × jH)} (K : jOK G l mX12_tries (d + 10) X) (n : Nat) (E : jEnd G mX12_tries (jPW res) X) (a0 : Nat) (h : jH) (hf : F_X12_tries n a0 h = some res) : jJ G X h 0 0 0 [some (.ref a0), none, none, none, none, none] [] := by
  unfold F_X12_tries at hf
  refine jr_aload_n K (D_at DX12_tries_q0 0 rfl) rfl rfl ?_
  obtain ⟨h1, e1, hf⟩ := jbind hf
  obtain ⟨rc_1, e1⟩ := jcv_o e1
  refine jr_callV K (C_X12_uses (d + 9) e1) (D_at DX12_tries_q0 1 rfl) cv_X12_239_X12_uses (As := []) (ci := 10) rfl rc_1 rfl rfl (by exact Nat.le_of_ble_eq_true rfl) (kc2 := 0) (ks2 := 0) rfl rfl (fun k9 h9 w9 => by cases w9.1) (fun r9 h9 w9 => ?_)
  obtain ⟨w1, w2⟩ := w9
  subst h9
  cases w1
  show jJ G X _ 0 0 _ _ []
  refine jr_aload_n K (D_at DX12_tries_q0 2 rfl) rfl rfl ?_
  refine jr_aload_n K (D_at DX12_tries_q0 3 rfl) rfl rfl ?_
  obtain ⟨v6, e6, hf⟩ := jbind hf
  obtain ⟨rc_6, e6⟩ := jcv_o e6
  refine jr_callV K (C_X12_isTold (d + 6) e6) (D_at DX12_tries_q0 4 rfl) cv_X12_389_X12_isTold (As := []) (ci := 10) rfl rc_6 rfl rfl (by exact Nat.le_of_ble_eq_true rfl) (kc2 := 0) (ks2 := 0) rfl rfl (fun k9 h9 w9 => by cases w9.1) (fun r9 h9 w9 => ?_)
  obtain ⟨w1, w2⟩ := w9
  subst h9
  cases w1
  show jJ G X _ 0 0 _ _ (.int v6 :: _)
  refine jr_if_ne K (D_at DX12_tries_q0 5 rfl) (tgt := 16) (by decide) (fun c9 => ?_) (fun c9 => ?_)
  · replace hf := (if_neg c9).symm.trans hf
    refine jr_iconst K (D_at DX12_tries_q0 8 rfl) (v := (0 : Int32)) (by decide) ?_
    refine jr_keep [true, false, false, false, false, false] ?_
    exact J_X12_tries_17 K n E a0 a0 (0 : Int32) h1 hf
  · replace hf := (if_pos c9).symm.trans hf
    refine jr_iconst K (D_at DX12_tries_q0 6 rfl) (v := (1 : Int32)) (by decide) ?_
    refine jr_goto K (D_at DX12_tries_q0 7 rfl) (tgt := 17) (by decide) ?_
    refine jr_keep [true, false, false, false, false, false] ?_
    exact J_X12_tries_17 K n E a0 a0 (1 : Int32) h1 hf
theorem C_X12_tries {G : jG} {l : Launch} (d : Nat) {n : Nat} {a0 : Nat} {h : jH} {res : (Int32 × jH)} (hf : F_X12_tries n a0 h = some res) : jC G l mX12_tries (d + 10) 0 0 [.ref a0] h (jPW res) :=
  jC.of pn_X12 (jcats rfl) (Nat.le_of_ble_eq_true rfl) (fun X K E => J_X12_tries K n E a0 h hf)
set_option maxHeartbeats 400000 in
set_option maxRecDepth 100000 in
theorem J_X12_loosen_51_b {G : jG} {l : Launch} {d : Nat} {X : jX} {res : (Int32 × jH)} (K : jOK G l mX12_loosen (d + 9) X) (n : Nat) (rc51 : Nat → Int32 → Int32 → Int32 → Int32 → Int32 → Int32 → Int32 → jH → Option (Int32 × jH)) (hr51 : ∀ (a0 : Nat) (x1 : Int32) (x2 : Int32) (x3 : Int32) (x4 : Int32) (x5 : Int32) (x6 : Int32) (x7 : Int32) (h : jH), rc51 a0 x1 x2 x3 x4 x5 x6 x7 h = some res → jJ G X h 0 0 51 [some (.ref a0), some (.int x1), some (.int x2), some (.int x3), some (.int x4), some (.int x5), some (.int x6), some (.int x7)] []) (E : jEnd G mX12_loosen (jPW res) X) (a0 : Nat) (x1 : Int32) (x2 : Int32) (x3 : Int32) (x4 : Int32) (x5 : Int32) (x6 : Int32) (x7 : Int32) (h : jH) (hf : F_X12_loosen_51_b n rc51 a0 x1 x2 x3 x4 x5 x6 x7 h = some res) : jJ G X h 0 0 51 [some (.ref a0), some (.int x1), some (.int x2), some (.int x3), some (.int x4), some (.int x5), some (.int x6), some (.int x7)] [] := by
  unfold F_X12_loosen_51_b at hf
  refine jr_iload K (D_at DX12_loosen_q2 4 rfl) rfl ?_
  refine jr_iload K (D_at DX12_loosen_q2 5 rfl) rfl ?_
  refine jr_icmp_gt K (D_at DX12_loosen_q2 6 rfl) (tgt := 116) (by decide) (fun c55 => ?_) (fun c55 => ?_)
  · replace hf := (if_pos c55).symm.trans hf
    refine jr_iload K (D_at DX12_loosen_q5 1 rfl) rfl ?_
    cases hf
    exact jr_iret K E (D_at DX12_loosen_q5 2 rfl) rfl ⟨rfl, rfl⟩
  · replace hf := (if_neg c55).symm.trans hf
    refine jr_iload K (D_at DX12_loosen_q2 7 rfl) rfl ?_
    refine jr_iload K (D_at DX12_loosen_q2 8 rfl) rfl ?_
    refine jr_iconst K (D_at DX12_loosen_q2 9 rfl) (v := (-1 : Int32)) (by decide) ?_
    refine jr_ixor K (D_at DX12_loosen_q2 10 rfl) ?_
    refine jr_iand K (D_at DX12_loosen_q2 11 rfl) ?_
    refine jr_if_ne K (D_at DX12_loosen_q3 0 rfl) (tgt := 110) (by decide) (fun c65 => ?_) (fun c65 => ?_)
    · replace hf := (if_neg c65).symm.trans hf
      refine jr_iinc K (D_at DX12_loosen_q4 11 rfl) (i := 7) rfl (v := x7 + (1 : Int32)) (jinc (by decide)) (by decide) (L2 := [_, _, _, _, _, _, _, _]) rfl ?_
      refine jr_goto K (D_at DX12_loosen_q5 0 rfl) (tgt := 51) (by decide) ?_
      refine jr_keep [true, true, true, true, true, true, true, true] ?_
      exact hr51 a0 x1 x2 x3 x4 x5 x6 (x7 + (1 : Int32)) h hf
    · replace hf := (if_pos c65).symm.trans hf
      refine jr_iload K (D_at DX12_loosen_q3 1 rfl) rfl ?_
      obtain ⟨v70, e70, hf⟩ := jbind hf
      refine jr_callS K (C_J6_bitCount_0f7a4 (d + 8) e70) (D_at DX12_loosen_q3 2 rfl) cs_X12_360_J6_bitCount_0f7a4 (As := [.int x7]) rfl rfl (by exact Nat.le_of_ble_eq_true rfl) (kc2 := 0) (ks2 := 0) rfl rfl (fun k9 h9 w9 => by cases w9.1) (fun r9 h9 w9 => ?_)
      obtain ⟨w1, w2⟩ := w9
      subst h9
      cases w1
      show jJ G X _ 0 0 _ _ (.int v70 :: _)
      refine jr_iload K (D_at DX12_loosen_q3 3 rfl) rfl ?_
      refine jr_icmp_ge K (D_at DX12_loosen_q3 4 rfl) (tgt := 110) (by decide) (fun c75 => ?_) (fun c75 => ?_)
      · replace hf := (if_pos c75).symm.trans hf
        refine jr_iinc K (D_at DX12_loosen_q4 11 rfl) (i := 7) rfl (v := x7 + (1 : Int32)) (jinc (by decide)) (by decide) (L2 := [_, _, _, _, _, _, _, _]) rfl ?_
        refine jr_goto K (D_at DX12_loosen_q5 0 rfl) (tgt := 51) (by decide) ?_
        refine jr_keep [true, true, true, true, true, true, true, true] ?_
        exact hr51 a0 x1 x2 x3 x4 x5 x6 (x7 + (1 : Int32)) h hf
      · replace hf := (if_neg c75).symm.trans hf
        refine jr_aload_n K (D_at DX12_loosen_q3 5 rfl) rfl rfl ?_
        refine jr_iload K (D_at DX12_loosen_q3 6 rfl) rfl ?_
        refine jr_iload K (D_at DX12_loosen_q3 7 rfl) rfl ?_
        refine jr_iconst K (D_at DX12_loosen_q3 8 rfl) (v := (-1 : Int32)) (by decide) ?_
        refine jr_ixor K (D_at DX12_loosen_q3 9 rfl) ?_
        refine jr_iand K (D_at DX12_loosen_q3 10 rfl) ?_
        refine jr_iload_n K (D_at DX12_loosen_q3 11 rfl) rfl rfl ?_
        refine jr_iload_n K (D_at DX12_loosen_q4 0 rfl) rfl rfl ?_
        refine jr_iload_n K (D_at DX12_loosen_q4 1 rfl) rfl rfl ?_
        obtain ⟨q89, e89, hf⟩ := jbind hf
        obtain ⟨rc_89, e89⟩ := jcv_o e89
        refine jr_callV K (C_X12_wentWith (d) e89) (D_at DX12_loosen_q4 2 rfl) cv_X12_385_X12_wentWith (As := [.int (x4 &&& (x7 ^^^ (-1 : Int32))), .int x1, .int x2, .int x3]) (ci := 10) rfl rc_89 rfl rfl (by exact Nat.le_of_ble_eq_true rfl) (kc2 := 0) (ks2 := 0) rfl rfl (fun k9 h9 w9 => by cases w9.1) (fun r9 h9 w9 => ?_)
        obtain ⟨w1, w2⟩ := w9
        subst h9
        cases w1
        show jJ G X _ 0 0 _ _ (.int q89.1 :: _)
        refine jr_iload_n K (D_at DX12_loosen_q4 3 rfl) rfl rfl ?_
        refine jr_icmp_ge K (D_at DX12_loosen_q4 4 rfl) (tgt := 99) (by decide) (fun c93 => ?_) (fun c93 => ?_)
        · replace hf := (if_pos c93).symm.trans hf
          refine jr_iload K (D_at DX12_loosen_q4 6 rfl) rfl ?_
          refine jr_istore K (D_at DX12_loosen_q4 7 rfl) (i := 5) (by decide) (L2 := [_, _, _, _, _, _, _, _]) rfl ?_
          refine jr_iload K (D_at DX12_loosen_q4 8 rfl) rfl ?_
          obtain ⟨v105, e105, hf⟩ := jbind hf
          refine jr_callS K (C_J6_bitCount_0f7a4 (d + 8) e105) (D_at DX12_loosen_q4 9 rfl) cs_X12_360_J6_bitCount_0f7a4 (As := [.int x7]) rfl rfl (by exact Nat.le_of_ble_eq_true rfl) (kc2 := 0) (ks2 := 0) rfl rfl (fun k9 h9 w9 => by cases w9.1) (fun r9 h9 w9 => ?_)
          obtain ⟨w1, w2⟩ := w9
          subst h9
          cases w1
          show jJ G X _ 0 0 _ _ (.int v105 :: _)
          refine jr_istore K (D_at DX12_loosen_q4 10 rfl) (i := 6) (by decide) (L2 := [_, _, _, _, _, _, _, _]) rfl ?_
          refine jr_iinc K (D_at DX12_loosen_q4 11 rfl) (i := 7) rfl (v := x7 + (1 : Int32)) (jinc (by decide)) (by decide) (L2 := [_, _, _, _, _, _, _, _]) rfl ?_
          refine jr_goto K (D_at DX12_loosen_q5 0 rfl) (tgt := 51) (by decide) ?_
          refine jr_keep [true, true, true, true, true, true, true, true] ?_
          exact hr51 a0 x1 x2 x3 x4 x7 v105 (x7 + (1 : Int32)) q89.2 hf
        · replace hf := (if_neg c93).symm.trans hf
          refine jr_goto K (D_at DX12_loosen_q4 5 rfl) (tgt := 110) (by decide) ?_
          refine jr_iinc K (D_at DX12_loosen_q4 11 rfl) (i := 7) rfl (v := x7 + (1 : Int32)) (jinc (by decide)) (by decide) (L2 := [_, _, _, _, _, _, _, _]) rfl ?_
          refine jr_goto K (D_at DX12_loosen_q5 0 rfl) (tgt := 51) (by decide) ?_
          refine jr_keep [true, true, true, true, true, true, true, true] ?_
          exact hr51 a0 x1 x2 x3 x4 x5 x6 (x7 + (1 : Int32)) q89.2 hf
theorem J_X12_loosen_51 {G : jG} {l : Launch} {d : Nat} {X : jX} {res : (Int32 × jH)} (K : jOK G l mX12_loosen (d + 9) X) (n : Nat) (E : jEnd G mX12_loosen (jPW res) X) (k : Nat) : ∀ (a0 : Nat) (x1 : Int32) (x2 : Int32) (x3 : Int32) (x4 : Int32) (x5 : Int32) (x6 : Int32) (x7 : Int32) (h : jH), F_X12_loosen_51 n k a0 x1 x2 x3 x4 x5 x6 x7 h = some res → jJ G X h 0 0 51 [some (.ref a0), some (.int x1), some (.int x2), some (.int x3), some (.int x4), some (.int x5), some (.int x6), some (.int x7)] [] := by
  induction k with
  | zero =>
    intro a0 x1 x2 x3 x4 x5 x6 x7 h hf
    exact jno (show (none : Option (Int32 × jH)) = some res from hf)
  | succ k ih =>
    intro a0 x1 x2 x3 x4 x5 x6 x7 h hf
    exact J_X12_loosen_51_b K n (F_X12_loosen_51 n k) ih E a0 x1 x2 x3 x4 x5 x6 x7 h hf
set_option maxHeartbeats 400000 in
set_option maxRecDepth 100000 in
theorem J_X12_loosen {G : jG} {l : Launch} {d : Nat} {X : jX} {res : (Int32 × jH)} (K : jOK G l mX12_loosen (d + 9) X) (n : Nat) (E : jEnd G mX12_loosen (jPW res) X) (a0 : Nat) (x1 : Int32) (x2 : Int32) (x3 : Int32) (h : jH) (hf : F_X12_loosen n a0 x1 x2 x3 h = some res) : jJ G X h 0 0 0 [some (.ref a0), some (.int x1), some (.int x2), some (.int x3), none, none, none, none] [] := by
  unfold F_X12_loosen at hf
  refine jr_aload_n K (D_at DX12_loosen_q0 0 rfl) rfl rfl ?_
  refine jr_iconst K (D_at DX12_loosen_q0 1 rfl) (v := (0 : Int32)) (by decide) ?_
  obtain ⟨h2, e2, hf⟩ := jbind hf
  refine jr_putI K (D_at DX12_loosen_q0 2 rfl) fp_X12_3_10 (Or.inl rfl) e2 ?_
  refine jr_aload_n K (D_at DX12_loosen_q0 3 rfl) rfl rfl ?_
  refine jr_aload_n K (D_at DX12_loosen_q0 4 rfl) rfl rfl ?_
  refine jr_iload_n K (D_at DX12_loosen_q0 5 rfl) rfl rfl ?_
  obtain ⟨v8, e8, hf⟩ := jbind hf
  obtain ⟨rc_8, e8⟩ := jcv_o e8
  refine jr_callV K (C_X12_noRing (d + 6) e8) (D_at DX12_loosen_q0 6 rfl) cv_X12_277_X12_noRing (As := [.int x1]) (ci := 10) rfl rc_8 rfl rfl (by exact Nat.le_of_ble_eq_true rfl) (kc2 := 0) (ks2 := 0) rfl rfl (fun k9 h9 w9 => by cases w9.1) (fun r9 h9 w9 => ?_)
  obtain ⟨w1, w2⟩ := w9
  subst h9
  cases w1
  show jJ G X _ 0 0 _ _ (.int v8 :: _)
  refine jr_iconst K (D_at DX12_loosen_q0 7 rfl) (v := (1 : Int32)) (by decide) ?_
  obtain ⟨q12, e12, hf⟩ := jbind hf
  obtain ⟨rc_12, e12⟩ := jcv_o e12
  refine jr_callV K (C_X12_throwsIf (d + 8) e12) (D_at DX12_loosen_q0 8 rfl) cv_X12_250_X12_throwsIf (As := [.int v8, .int (1 : Int32)]) (ci := 10) rfl rc_12 rfl rfl (by exact Nat.le_of_ble_eq_true rfl) (kc2 := 0) (ks2 := 0) rfl rfl (fun k9 h9 w9 => by cases w9.1) (fun r9 h9 w9 => ?_)
  obtain ⟨w1, w2⟩ := w9
  subst h9
  cases w1
  show jJ G X _ 0 0 _ _ (.int q12.1 :: _)
  refine jr_if_ne K (D_at DX12_loosen_q0 9 rfl) (tgt := 30) (by decide) (fun c15 => ?_) (fun c15 => ?_)
  · replace hf := (if_neg c15).symm.trans hf
    refine jr_iconst K (D_at DX12_loosen_q1 4 rfl) (v := (0 : Int32)) (by decide) ?_
    cases hf
    exact jr_iret K E (D_at DX12_loosen_q1 5 rfl) rfl ⟨rfl, rfl⟩
  · replace hf := (if_pos c15).symm.trans hf
    refine jr_aload_n K (D_at DX12_loosen_q0 10 rfl) rfl rfl ?_
    refine jr_iload_n K (D_at DX12_loosen_q0 11 rfl) rfl rfl ?_
    obtain ⟨v20, e20, hf⟩ := jbind hf
    refine jr_callS K (C_X12_noSteps (d + 7) e20) (D_at DX12_loosen_q1 0 rfl) cs_X12_316_X12_noSteps (As := [.int x3]) rfl rfl (by exact Nat.le_of_ble_eq_true rfl) (kc2 := 0) (ks2 := 0) rfl rfl (fun k9 h9 w9 => by cases w9.1) (fun r9 h9 w9 => ?_)
    obtain ⟨w1, w2⟩ := w9
    subst h9
    cases w1
    show jJ G X _ 0 0 _ _ (.int v20 :: _)
    refine jr_iconst K (D_at DX12_loosen_q1 1 rfl) (v := (2 : Int32)) (by decide) ?_
    obtain ⟨q24, e24, hf⟩ := jbind hf
    obtain ⟨rc_24, e24⟩ := jcv_o e24
    refine jr_callV K (C_X12_throwsIf (d + 8) e24) (D_at DX12_loosen_q1 2 rfl) cv_X12_250_X12_throwsIf (As := [.int v20, .int (2 : Int32)]) (ci := 10) rfl rc_24 rfl rfl (by exact Nat.le_of_ble_eq_true rfl) (kc2 := 0) (ks2 := 0) rfl rfl (fun k9 h9 w9 => by cases w9.1) (fun r9 h9 w9 => ?_)
    obtain ⟨w1, w2⟩ := w9
    subst h9
    cases w1
    show jJ G X _ 0 0 _ _ (.int q24.1 :: _)
    refine jr_if_eq K (D_at DX12_loosen_q1 3 rfl) (tgt := 32) (by decide) (fun c27 => ?_) (fun c27 => ?_)
    · replace hf := (if_pos c27).symm.trans hf
      refine jr_aload_n K (D_at DX12_loosen_q1 6 rfl) rfl rfl ?_
      refine jr_bipush K (D_at DX12_loosen_q1 7 rfl) (v := (7 : Int32)) (by decide) ?_
      obtain ⟨v35, e35, hf⟩ := jbind hf
      obtain ⟨rc_35, e35⟩ := jcv_o e35
      refine jr_callV K (C_X12_ringsThat (d + 5) e35) (D_at DX12_loosen_q1 8 rfl) cv_X12_401_X12_ringsThat (As := [.int (7 : Int32)]) (ci := 10) rfl rc_35 rfl rfl (by exact Nat.le_of_ble_eq_true rfl) (kc2 := 0) (ks2 := 0) rfl rfl (fun k9 h9 w9 => by cases w9.1) (fun r9 h9 w9 => ?_)
      obtain ⟨w1, w2⟩ := w9
      subst h9
      cases w1
      show jJ G X _ 0 0 _ _ (.int v35 :: _)
      refine jr_istore K (D_at DX12_loosen_q1 9 rfl) (i := 4) (by decide) (L2 := [_, _, _, _, _, _, _, _]) rfl ?_
      refine jr_iconst K (D_at DX12_loosen_q1 10 rfl) (v := (-1 : Int32)) (by decide) ?_
      refine jr_istore K (D_at DX12_loosen_q1 11 rfl) (i := 5) (by decide) (L2 := [_, _, _, _, _, _, _, _]) rfl ?_
      refine jr_ldcw K (D_at DX12_loosen_q2 0 rfl) (v := (1000000 : Int32)) kc_X12_273 ?_
      refine jr_istore K (D_at DX12_loosen_q2 1 rfl) (i := 6) (by decide) (L2 := [_, _, _, _, _, _, _, _]) rfl ?_
      refine jr_iconst K (D_at DX12_loosen_q2 2 rfl) (v := (0 : Int32)) (by decide) ?_
      refine jr_istore K (D_at DX12_loosen_q2 3 rfl) (i := 7) (by decide) (L2 := [_, _, _, _, _, _, _, _]) rfl ?_
      refine jr_keep [true, true, true, true, true, true, true, true] ?_
      exact J_X12_loosen_51 K n E n a0 x1 x2 x3 v35 (-1 : Int32) (1000000 : Int32) (0 : Int32) q24.2 hf
    · replace hf := (if_neg c27).symm.trans hf
      refine jr_iconst K (D_at DX12_loosen_q1 4 rfl) (v := (0 : Int32)) (by decide) ?_
      cases hf
      exact jr_iret K E (D_at DX12_loosen_q1 5 rfl) rfl ⟨rfl, rfl⟩
theorem C_X12_loosen {G : jG} {l : Launch} (d : Nat) {n : Nat} {a0 : Nat} {x1 : Int32} {x2 : Int32} {x3 : Int32} {h : jH} {res : (Int32 × jH)} (hf : F_X12_loosen n a0 x1 x2 x3 h = some res) : jC G l mX12_loosen (d + 9) 0 0 [.ref a0, .int x1, .int x2, .int x3] h (jPW res) :=
  jC.of pn_X12 (jcats rfl) (Nat.le_of_ble_eq_true rfl) (fun X K E => J_X12_loosen K n E a0 x1 x2 x3 h hf)
end
