/-! the reference's log -/
/-- rows behind place t have been shifted -/
def shW (W : jWd) (t : Nat) : jWd := fun k => if 75 + t < k ∧ k < 435 then W (k - 6) else W k
theorem shW_s {W : jWd} {t : Nat} (h : 6 ≤ t) (h2 : t < 360) : upd (shW W t) (75 + t) (shW W t (75 + t - 6)) = shW W (t - 1) := by
  funext k
  by_cases q : k = 75 + t
  · subst q
    rw [upd_eq]
    unfold shW
    rw [if_neg (by omega), if_pos (by omega)]
  · rw [upd_ne q]
    unfold shW
    by_cases z : 75 + t < k ∧ k < 435
    · rw [if_pos z, if_pos (by omega)]
    · rw [if_neg z, if_neg (by omega)]
theorem shW_0 {W : jWd} : shW W 359 = W := by
  funext k
  unfold shW
  rw [if_neg (by omega)]
theorem nI_sub6 {t : Nat} (h : 6 ≤ t) : nI t - (6 : Int32) = nI (t - 6) := by
  obtain ⟨b, rfl⟩ : ∃ b, t = b + 6 := ⟨t - 6, by omega⟩
  rw [← nI_add b 6, show b + 6 - 6 = b by omega]
  exact Int32.add_sub_cancel _ _
theorem upd_n {f : jWd} {i k : Nat} {x : Int32} (h : k ≠ i) : upd f i x k = f k := upd_ne h
theorem tl_fin {W : jWd} {r : Nat} {x kind far : Int32} : upd (upd (upd (upd (upd (upd (upd (shW W 5) 75 (W 4)) 76 (W 3)) 77 x) 78 kind) 79 far) 80 (W (11 + 8 * r))) 9 (if W 9 + 1 < (60 : Int32) then W 9 + 1 else 60) = tlW W r x kind far := by
  funext k
  unfold tlW
  by_cases q9 : k = 9
  · subst q9; rw [upd_eq]; rfl
  rw [upd_ne q9]
  by_cases q80 : k = 80
  · subst q80; rw [upd_eq]; rfl
  rw [upd_ne q80]
  by_cases q79 : k = 79
  · subst q79; rw [upd_eq]; rfl
  rw [upd_ne q79]
  by_cases q78 : k = 78
  · subst q78; rw [upd_eq]; rfl
  rw [upd_ne q78]
  by_cases q77 : k = 77
  · subst q77; rw [upd_eq]; rfl
  rw [upd_ne q77]
  by_cases q76 : k = 76
  · subst q76; rw [upd_eq]; rfl
  rw [upd_ne q76]
  by_cases q75 : k = 75
  · subst q75; rw [upd_eq]; rfl
  rw [upd_ne q75, if_neg q75, if_neg q76, if_neg q77, if_neg q78, if_neg q79, if_neg q80, if_neg q9]
  unfold shW
  by_cases z : 81 ≤ k ∧ k < 435
  · rw [if_pos z, if_pos (by omega)]
  · rw [if_neg z, if_neg (by omega)]
theorem E_X12_tells_5 {n : Nat} {W : jWd} {r : Nat} (hr : r < 8) : ∀ (k : Nat) {a0 : Nat} {x1 : Int32} {x2 : Int32} {x3 : Int32} {x4 : Int32} {h : jH} {q : jH} (t : Nat) (M : mS (oc h) a0) (hW : wl (oc h) a0 = shW W t) (h1 : x1 = nI r) (hx : x4 = nI t) (h5 : 5 ≤ t) (ht : t ≤ 359), F_X12_tells_5 n k a0 x1 x2 x3 x4 h = some q → wl (oc q) a0 = tlW W r x1 x2 x3 ∧ frM a0 [1] [] (oc h) (oc q) ∧ q.1 = h.1
  | 0, a0, x1, x2, x3, x4, h, q, t, M, hW, h1, hx, h5, ht, hf => by cases hf
  | k + 1, a0, x1, x2, x3, x4, h, q, t, M, hW, h1, hx, h5, ht, hf => by
    replace hf : F_X12_tells_5_b n (F_X12_tells_5 n k) a0 x1 x2 x3 x4 h = some q := hf
    unfold F_X12_tells_5_b at hf
    obtain ⟨s1, s2, s3, s4, s5, s8, s15, s17, s19, s20, s21⟩ := id M
    have l6 : (6 : Int32).toInt = 6 := rfl
    replace hf := jite hf
    rcases hf with ⟨c1, hf⟩ | ⟨c1, hf⟩
    · skip
      replace hf := jbind hf
      obtain ⟨p42, e2, hf⟩ := hf
      have r2 := oc_gR e2
      rw [s1] at r2
      cases r2
      clear e2
      replace hf := jbind hf
      obtain ⟨p48, e3, hf⟩ := hf
      have r3 := oc_gR e3
      rw [s1] at r3
      cases r3
      clear e3
      replace hf := jbind hf
      obtain ⟨v52, e4, hf⟩ := hf
      obtain ⟨r4, y4⟩ := oc_al e4
      rw [show (4 : Int32).toNatClampNeg = 4 from rfl] at r4
      subst r4
      clear e4
      replace hf := jbind hf
      obtain ⟨h53, e5, hf⟩ := hf
      obtain ⟨o5, z5, y5⟩ := oc_as e5
      rw [jnar0] at o5
      rw [show (75 : Int32).toNatClampNeg = 75 from rfl] at o5
      clear e5
      replace hf := jbind hf
      obtain ⟨p55, e6, hf⟩ := hf
      have r6 := oc_gR e6
      rw [o5] at r6
      rw [u2_ne (Or.inl (by omega))] at r6
      rw [s1] at r6
      cases r6
      clear e6
      replace hf := jbind hf
      obtain ⟨p61, e7, hf⟩ := hf
      have r7 := oc_gR e7
      rw [o5] at r7
      rw [u2_ne (Or.inl (by omega))] at r7
      rw [s1] at r7
      cases r7
      clear e7
      replace hf := jbind hf
      obtain ⟨v65, e8, hf⟩ := hf
      obtain ⟨r8, y8⟩ := oc_al e8
      rw [show (3 : Int32).toNatClampNeg = 3 from rfl] at r8
      rw [o5] at r8
      rw [oi_ne (Or.inr (by decide))] at r8
      subst r8
      clear e8
      replace hf := jbind hf
      obtain ⟨h66, e9, hf⟩ := hf
      obtain ⟨o9, z9, y9⟩ := oc_as e9
      rw [jnar0] at o9
      rw [show (76 : Int32).toNatClampNeg = 76 from rfl] at o9
      clear e9
      replace hf := jbind hf
      obtain ⟨p68, e10, hf⟩ := hf
      have r10 := oc_gR e10
      rw [o9] at r10
      rw [u2_ne (Or.inl (by omega))] at r10
      rw [o5] at r10
      rw [u2_ne (Or.inl (by omega))] at r10
      rw [s1] at r10
      cases r10
      clear e10
      replace hf := jbind hf
      obtain ⟨h74, e11, hf⟩ := hf
      obtain ⟨o11, z11, y11⟩ := oc_as e11
      rw [jnar0] at o11
      rw [show (77 : Int32).toNatClampNeg = 77 from rfl] at o11
      clear e11
      replace hf := jbind hf
      obtain ⟨p76, e12, hf⟩ := hf
      have r12 := oc_gR e12
      rw [o11] at r12
      rw [u2_ne (Or.inl (by omega))] at r12
      rw [o9] at r12
      rw [u2_ne (Or.inl (by omega))] at r12
      rw [o5] at r12
      rw [u2_ne (Or.inl (by omega))] at r12
      rw [s1] at r12
      cases r12
      clear e12
      replace hf := jbind hf
      obtain ⟨h82, e13, hf⟩ := hf
      obtain ⟨o13, z13, y13⟩ := oc_as e13
      rw [jnar0] at o13
      rw [show (78 : Int32).toNatClampNeg = 78 from rfl] at o13
      clear e13
      replace hf := jbind hf
      obtain ⟨p84, e14, hf⟩ := hf
      have r14 := oc_gR e14
      rw [o13] at r14
      rw [u2_ne (Or.inl (by omega))] at r14
      rw [o11] at r14
      rw [u2_ne (Or.inl (by omega))] at r14
      rw [o9] at r14
      rw [u2_ne (Or.inl (by omega))] at r14
      rw [o5] at r14
      rw [u2_ne (Or.inl (by omega))] at r14
      rw [s1] at r14
      cases r14
      clear e14
      replace hf := jbind hf
      obtain ⟨h90, e15, hf⟩ := hf
      obtain ⟨o15, z15, y15⟩ := oc_as e15
      rw [jnar0] at o15
      rw [show (79 : Int32).toNatClampNeg = 79 from rfl] at o15
      clear e15
      replace hf := jbind hf
      obtain ⟨p92, e16, hf⟩ := hf
      have r16 := oc_gR e16
      rw [o15] at r16
      rw [u2_ne (Or.inl (by omega))] at r16
      rw [o13] at r16
      rw [u2_ne (Or.inl (by omega))] at r16
      rw [o11] at r16
      rw [u2_ne (Or.inl (by omega))] at r16
      rw [o9] at r16
      rw [u2_ne (Or.inl (by omega))] at r16
      rw [o5] at r16
      rw [u2_ne (Or.inl (by omega))] at r16
      rw [s1] at r16
      cases r16
      clear e16
      replace hf := jbind hf
      obtain ⟨v100, e17, hf⟩ := hf
      replace e17 := (jcv_o e17).2
      have f8 : frM a0 [1] [] (oc h) (oc h90) := by
        rw [o15, o13, o11, o9, o5]
        exact frM_tr (frM_tr (frM_tr (frM_tr (frM_c (by decide)) (frM_c (by decide))) (frM_c (by decide))) (frM_c (by decide))) (frM_c (by decide))
      have M8 : mS (oc h90) a0 := mS_fr M f8 (by decide) (by decide)
      have w8 : wl (oc h90) a0 = upd (upd (upd (upd (upd (wl (oc h) a0) 75 (wl (oc h) a0 4)) 76 (wl (oc h) a0 3)) 77 x1) 78 x2) 79 x3 := by
        rw [o15, wl_w, o13, wl_w, o11, wl_w, o9, wl_w, o5, wl_w]
      have r17 := E_X12_of M8 (j := 0) (t := 11 + 8 * r) h1 rfl (by omega) (by omega) e17
      rw [w8, upd_n (by omega), upd_n (by omega), upd_n (by omega), upd_n (by omega), upd_n (by omega)] at r17
      subst r17
      replace hf := jbind hf
      obtain ⟨h103, e18, hf⟩ := hf
      obtain ⟨o18, z18, y18⟩ := oc_as e18
      rw [jnar0] at o18
      rw [show (80 : Int32).toNatClampNeg = 80 from rfl] at o18
      clear e18
      replace hf := jbind hf
      obtain ⟨p105, e19, hf⟩ := hf
      have r19 := oc_gR e19
      rw [o18] at r19
      rw [u2_ne (Or.inl (by omega))] at r19
      rw [o15] at r19
      rw [u2_ne (Or.inl (by omega))] at r19
      rw [o13] at r19
      rw [u2_ne (Or.inl (by omega))] at r19
      rw [o11] at r19
      rw [u2_ne (Or.inl (by omega))] at r19
      rw [o9] at r19
      rw [u2_ne (Or.inl (by omega))] at r19
      rw [o5] at r19
      rw [u2_ne (Or.inl (by omega))] at r19
      rw [s1] at r19
      cases r19
      clear e19
      replace hf := jbind hf
      obtain ⟨p113, e20, hf⟩ := hf
      have r20 := oc_gR e20
      rw [o18] at r20
      rw [u2_ne (Or.inl (by omega))] at r20
      rw [o15] at r20
      rw [u2_ne (Or.inl (by omega))] at r20
      rw [o13] at r20
      rw [u2_ne (Or.inl (by omega))] at r20
      rw [o11] at r20
      rw [u2_ne (Or.inl (by omega))] at r20
      rw [o9] at r20
      rw [u2_ne (Or.inl (by omega))] at r20
      rw [o5] at r20
      rw [u2_ne (Or.inl (by omega))] at r20
      rw [s1] at r20
      cases r20
      clear e20
      replace hf := jbind hf
      obtain ⟨v118, e21, hf⟩ := hf
      obtain ⟨r21, y21⟩ := oc_al e21
      rw [show (9 : Int32).toNatClampNeg = 9 from rfl] at r21
      rw [o18] at r21
      rw [oi_ne (Or.inr (by decide))] at r21
      rw [o15] at r21
      rw [oi_ne (Or.inr (by decide))] at r21
      rw [o13] at r21
      rw [oi_ne (Or.inr (by decide))] at r21
      rw [o11] at r21
      rw [oi_ne (Or.inr (by decide))] at r21
      rw [o9] at r21
      rw [oi_ne (Or.inr (by decide))] at r21
      rw [o5] at r21
      rw [oi_ne (Or.inr (by decide))] at r21
      subst r21
      clear e21
      replace hf := jbind hf
      obtain ⟨h124, e22, hf⟩ := hf
      obtain ⟨o22, z22, y22⟩ := oc_as e22
      rw [jnar0] at o22
      rw [show (9 : Int32).toNatClampNeg = 9 from rfl] at o22
      clear e22
      cases hf
      -- leaf 0: h124
      have t5 : t = 5 := by rw [hx, Int32.lt_iff_toInt_lt, nI_toInt (by omega)] at c1; omega
      subst t5
      have e3 : wl (oc h) a0 3 = W 3 := by rw [hW]; exact if_neg (by omega)
      have e4 : wl (oc h) a0 4 = W 4 := by rw [hW]; exact if_neg (by omega)
      have e9 : wl (oc h) a0 9 = W 9 := by rw [hW]; exact if_neg (by omega)
      have er : wl (oc h) a0 (11 + 8 * r) = W (11 + 8 * r) := by rw [hW]; exact if_neg (by omega)
      refine ⟨?_, ?_, ?_⟩
      · rw [o22, wl_w, o18, wl_w, w8, er, e3, e4, hW, ← tl_fin (r := r), ← e9]
      · rw [o22, o18]; exact frM_tr (frM_tr f8 (frM_c (by decide))) (frM_c (by decide))
      · exact z22.trans (z18.trans (z15.trans (z13.trans (z11.trans (z9.trans z5)))))
    · skip
      replace hf := jbind hf
      obtain ⟨p13, e23, hf⟩ := hf
      have r23 := oc_gR e23
      rw [s1] at r23
      cases r23
      clear e23
      replace hf := jbind hf
      obtain ⟨p22, e24, hf⟩ := hf
      have r24 := oc_gR e24
      rw [s1] at r24
      cases r24
      clear e24
      replace hf := jbind hf
      obtain ⟨v33, e25, hf⟩ := hf
      obtain ⟨r25, y25⟩ := oc_al e25
      subst r25
      clear e25
      replace hf := jbind hf
      obtain ⟨h34, e26, hf⟩ := hf
      obtain ⟨o26, z26, y26⟩ := oc_as e26
      rw [jnar0] at o26
      clear e26
      -- leaf 1: rc5 a0 x1 x2 x3 (x4 + (- 1 : Int32)) h34
      rw [hx, Int32.lt_iff_toInt_lt, nI_toInt (by omega)] at c1
      have i1 : (75 : Int32) + x4 = nI (75 + t) := by rw [hx]; exact nI_add 75 t
      have i2 : ((75 : Int32) + x4) - (6 : Int32) = nI (75 + t - 6) := by rw [i1]; exact nI_sub6 (by omega)
      rw [i1, nI_sub6 (by omega), nI_cl (by omega), nI_cl (by omega)] at o26
      have f2 : frM a0 [1] [] (oc h) (oc h34) := by rw [o26]; exact frM_c (by decide)
      have w2 : wl (oc h34) a0 = shW W (t - 1) := by
        rw [o26, wl_w, ← shW_s (by omega) (by omega), ← hW]
      obtain ⟨a1, a2, a3⟩ := E_X12_tells_5 hr k (t - 1) (mS_fr M f2 (by decide) (by decide)) w2 h1 (by rw [hx]; obtain ⟨b, rfl⟩ : ∃ b, t = b + 1 := ⟨t - 1, by omega⟩; rw [nI_succ, Int32.add_assoc]; exact Int32.add_zero _) (by omega) (by omega) hf
      exact ⟨a1, frM_tr f2 a2, a3.trans z26⟩
theorem E_X12_tells {W : jWd} {r : Nat} {n : Nat} {a0 : Nat} {x1 : Int32} {x2 : Int32} {x3 : Int32} {h : jH} {q : jH} (M : mS (oc h) a0) (hW : wl (oc h) a0 = W) (hr : r < 8) (h1 : x1 = nI r) (hf : F_X12_tells n a0 x1 x2 x3 h = some q) : wl (oc q) a0 = tlW W r x1 x2 x3 ∧ frM a0 [1] [] (oc h) (oc q) ∧ q.1 = h.1 := by
  unfold F_X12_tells at hf
  -- leaf : F_X12_tells_5 n n a0 x1 x2 x3 (359 : Int32) h
  exact E_X12_tells_5 hr n 359 M (by rw [shW_0]; exact hW) h1 rfl (by omega) (by omega) hf
