/-! copies of rods -/
theorem ucp_ne {O : jO} {a0 s a d n b j : Nat} (h : b ≠ a) : ucp O a0 s a d n b j = O b j := if_neg (fun q => h q.1)
theorem ucp_oi {O : jO} {a0 s a d n b j : Nat} (h : b ≠ a) : oi (ucp O a0 s a d n) b j = oi O b j := by
  unfold oi
  rw [ucp_ne h]
theorem ucp_in {O : jO} {a0 a n j : Nat} (h : j < n) : oi (ucp O a0 0 a 0 n) a j = oi O a0 j := by
  unfold oi ucp
  rw [if_pos ⟨rfl, Nat.zero_le _, by omega⟩]
  rw [show 0 + (j - 0) = j by omega]
theorem logE_cp {O O2 : jO} {l m : Nat} {W : jWd} (L : logE O l W) (K : wOK W) (h1 : ∀ k, k = 1 ∨ k = 2 → oi O2 m k = oi O l k) (h2 : ∀ k, k < 60 → oi O2 (m + 1) k = oi O (l + 1) k) : logE O2 m W := by
  obtain ⟨a, b, c⟩ := L
  unfold logE
  rw [h1 1 (Or.inl rfl), h1 2 (Or.inr rfl)]
  refine ⟨a, b, fun k hk => ?_⟩
  rw [h2 _ (by omega)]
  exact c k hk
theorem E_X5_copyFrom {d : Nat} {r : Nat} {n : Nat} {a0 : Nat} {a1 : Nat} {h : jH} {q : jH} (h0 : a0 = d + 5) (h1 : a1 = r + 5) (hd : d + 6 < r ∨ r + 6 < d) (sd : oc h (d + 5) 0 = .ref (d + 6)) (sr : oc h (r + 5) 0 = .ref (r + 6)) (hf : F_X5_copyFrom n a0 a1 h = some q) : oc q = u2 (u2 (ucp (oc h) (r + 6) 0 (d + 6) 0 60) (d + 5) 1 (.int (oi (oc h) (r + 5) 1))) (d + 5) 2 (.int (oi (oc h) (r + 5) 2)) ∧ q.1 = h.1 := by
  unfold F_X5_copyFrom at hf
  subst h0 h1
  replace hf := jbind hf
  obtain ⟨p1, e1, hf⟩ := hf
  have r1 := oc_gR e1
  rw [sr] at r1
  cases r1
  clear e1
  replace hf := jbind hf
  obtain ⟨p6, e2, hf⟩ := hf
  have r2 := oc_gR e2
  rw [sd] at r2
  cases r2
  clear e2
  replace hf := jbind hf
  obtain ⟨h12, e3, hf⟩ := hf
  obtain ⟨o3, z3⟩ := oc_cp e3
  clear e3
  rw [show (0 : Int32).toNatClampNeg = 0 from rfl, show (60 : Int32).toNatClampNeg = 60 from rfl] at o3
  replace hf := jbind hf
  obtain ⟨v17, e4, hf⟩ := hf
  have r4 := oc_gI e4
  rw [o3] at r4
  rw [ucp_oi (by omega)] at r4
  subst r4
  clear e4
  replace hf := jbind hf
  obtain ⟨h20, e5, hf⟩ := hf
  obtain ⟨o5, z5⟩ := oc_pf e5
  clear e5
  replace hf := jbind hf
  obtain ⟨v25, e6, hf⟩ := hf
  have r6 := oc_gI e6
  rw [o5] at r6
  rw [oi_ne (Or.inl (by omega))] at r6
  rw [o3] at r6
  rw [ucp_oi (by omega)] at r6
  subst r6
  clear e6
  replace hf := jbind hf
  obtain ⟨h28, e7, hf⟩ := hf
  obtain ⟨o7, z7⟩ := oc_pf e7
  clear e7
  cases hf
  -- leaf : h28
  exact ⟨by rw [o7, o5, o3], z7.trans (z5.trans z3)⟩
theorem E_X8_hangAs {d : Nat} {r : Nat} {n : Nat} {a0 : Nat} {a1 : Nat} {h : jH} {q : jH} (h0 : d = a0) (h1 : r = a1) (hd : d + 6 < r ∨ r + 6 < d) (sd : oc h d 0 = .ref (d + 1)) (sr : oc h r 0 = .ref (r + 1)) (hf : F_X8_hangAs n a0 a1 h = some q) : oc q = u2 (u2 (ucp (oc h) (r + 1) 0 (d + 1) 0 8) d 15 (.int (oi (oc h) r 15))) d 9 (.int (oi (oc h) r 9)) ∧ q.1 = h.1 := by
  unfold F_X8_hangAs at hf
  subst h0 h1
  replace hf := jbind hf
  obtain ⟨p1, e1, hf⟩ := hf
  have r1 := oc_gR e1
  rw [sr] at r1
  cases r1
  clear e1
  replace hf := jbind hf
  obtain ⟨p6, e2, hf⟩ := hf
  have r2 := oc_gR e2
  rw [sd] at r2
  cases r2
  clear e2
  replace hf := jbind hf
  obtain ⟨h12, e3, hf⟩ := hf
  obtain ⟨o3, z3⟩ := oc_cp e3
  clear e3
  rw [show (0 : Int32).toNatClampNeg = 0 from rfl, show (8 : Int32).toNatClampNeg = 8 from rfl] at o3
  replace hf := jbind hf
  obtain ⟨v17, e4, hf⟩ := hf
  have r4 := oc_gI e4
  rw [o3] at r4
  rw [ucp_oi (by omega)] at r4
  subst r4
  clear e4
  replace hf := jbind hf
  obtain ⟨h20, e5, hf⟩ := hf
  obtain ⟨o5, z5⟩ := oc_pf e5
  clear e5
  replace hf := jbind hf
  obtain ⟨v25, e6, hf⟩ := hf
  have r6 := oc_gI e6
  rw [o5] at r6
  rw [oi_ne (Or.inl (by omega))] at r6
  rw [o3] at r6
  rw [ucp_oi (by omega)] at r6
  subst r6
  clear e6
  replace hf := jbind hf
  obtain ⟨h28, e7, hf⟩ := hf
  obtain ⟨o7, z7⟩ := oc_pf e7
  clear e7
  cases hf
  -- leaf : h28
  exact ⟨by rw [o7, o5, o3], z7.trans (z5.trans z3)⟩
theorem E_X8_copyFrom {d : Nat} {r : Nat} {W : jWd} {n : Nat} {a0 : Nat} {a1 : Nat} {h : jH} {q : jH} (h0 : d = a0) (h1 : r = a1) (hd : d + 6 < r ∨ r + 6 < d) (sd : rodS (oc h) d) (R : rodE (oc h) r W) (K : wOK W) (hf : F_X8_copyFrom n a0 a1 h = some q) : rodE (oc q) d W ∧ frR d (oc h) (oc q) ∧ q.1 = h.1 := by
  unfold F_X8_copyFrom at hf
  subst h0 h1
  have sr := R.1
  have sd0 := sd.1
  have sd1 := sd.2.1
  have sd2 := sd.2.2.1
  have sd3 := sd.2.2.2.1
  have sd4 := sd.2.2.2.2.1
  have sr0 := sr.1
  have sr1 := sr.2.1
  have sr2 := sr.2.2.1
  have sr3 := sr.2.2.2.1
  have sr4 := sr.2.2.2.2.1
  replace hf := jbind hf
  obtain ⟨p1, e1, hf⟩ := hf
  have r1 := oc_gR e1
  rw [sr1] at r1
  cases r1
  clear e1
  replace hf := jbind hf
  obtain ⟨p6, e2, hf⟩ := hf
  have r2 := oc_gR e2
  rw [sd1] at r2
  cases r2
  clear e2
  replace hf := jbind hf
  obtain ⟨h12, e3, hf⟩ := hf
  obtain ⟨o3, z3⟩ := oc_cp e3
  clear e3
  rw [show (0 : Int32).toNatClampNeg = 0 from rfl, show (8 : Int32).toNatClampNeg = 8 from rfl] at o3
  replace hf := jbind hf
  obtain ⟨p16, e4, hf⟩ := hf
  have r4 := oc_gR e4
  rw [o3] at r4
  rw [ucp_ne (by omega)] at r4
  rw [sr2] at r4
  cases r4
  clear e4
  replace hf := jbind hf
  obtain ⟨p21, e5, hf⟩ := hf
  have r5 := oc_gR e5
  rw [o3] at r5
  rw [ucp_ne (by omega)] at r5
  rw [sd2] at r5
  cases r5
  clear e5
  replace hf := jbind hf
  obtain ⟨h27, e6, hf⟩ := hf
  obtain ⟨o6, z6⟩ := oc_cp e6
  clear e6
  rw [show (0 : Int32).toNatClampNeg = 0 from rfl, show (8 : Int32).toNatClampNeg = 8 from rfl] at o6
  replace hf := jbind hf
  obtain ⟨p31, e7, hf⟩ := hf
  have r7 := oc_gR e7
  rw [o6] at r7
  rw [ucp_ne (by omega)] at r7
  rw [o3] at r7
  rw [ucp_ne (by omega)] at r7
  rw [sr3] at r7
  cases r7
  clear e7
  replace hf := jbind hf
  obtain ⟨p36, e8, hf⟩ := hf
  have r8 := oc_gR e8
  rw [o6] at r8
  rw [ucp_ne (by omega)] at r8
  rw [o3] at r8
  rw [ucp_ne (by omega)] at r8
  rw [sd3] at r8
  cases r8
  clear e8
  replace hf := jbind hf
  obtain ⟨h42, e9, hf⟩ := hf
  obtain ⟨o9, z9⟩ := oc_cp e9
  clear e9
  rw [show (0 : Int32).toNatClampNeg = 0 from rfl, show (8 : Int32).toNatClampNeg = 8 from rfl] at o9
  replace hf := jbind hf
  obtain ⟨p46, e10, hf⟩ := hf
  have r10 := oc_gR e10
  rw [o9] at r10
  rw [ucp_ne (by omega)] at r10
  rw [o6] at r10
  rw [ucp_ne (by omega)] at r10
  rw [o3] at r10
  rw [ucp_ne (by omega)] at r10
  rw [sd4] at r10
  cases r10
  clear e10
  replace hf := jbind hf
  obtain ⟨p50, e11, hf⟩ := hf
  have r11 := oc_gR e11
  rw [o9] at r11
  rw [ucp_ne (by omega)] at r11
  rw [o6] at r11
  rw [ucp_ne (by omega)] at r11
  rw [o3] at r11
  rw [ucp_ne (by omega)] at r11
  rw [sr4] at r11
  cases r11
  clear e11
  replace hf := jbind hf
  obtain ⟨h53, e12, hf⟩ := hf
  replace e12 := (jcv_o e12).2
  have sd9 : oc h42 (d + 5) 0 = .ref (d + 6) := by rw [o9, ucp_ne (by omega), o6, ucp_ne (by omega), o3, ucp_ne (by omega)]; exact sd.2.2.2.2.2
  have sr9 : oc h42 (r + 5) 0 = .ref (r + 6) := by rw [o9, ucp_ne (by omega), o6, ucp_ne (by omega), o3, ucp_ne (by omega)]; exact sr.2.2.2.2.2
  obtain ⟨o12, z12⟩ := E_X5_copyFrom (d := d) (r := r) rfl rfl hd sd9 sr9 e12
  replace hf := jbind hf
  obtain ⟨v58, e13, hf⟩ := hf
  have r13 := oc_gI e13
  rw [o12] at r13
  rw [oi_ne (Or.inl (by omega))] at r13
  rw [oi_ne (Or.inl (by omega))] at r13
  rw [ucp_oi (by omega)] at r13
  rw [o9] at r13
  rw [ucp_oi (by omega)] at r13
  rw [o6] at r13
  rw [ucp_oi (by omega)] at r13
  rw [o3] at r13
  rw [ucp_oi (by omega)] at r13
  subst r13
  clear e13
  replace hf := jbind hf
  obtain ⟨h61, e14, hf⟩ := hf
  obtain ⟨o14, z14⟩ := oc_pf e14
  clear e14
  replace hf := jbind hf
  obtain ⟨v66, e15, hf⟩ := hf
  have r15 := oc_gI e15
  rw [o14] at r15
  rw [oi_ne (Or.inl (by omega))] at r15
  rw [o12] at r15
  rw [oi_ne (Or.inl (by omega))] at r15
  rw [oi_ne (Or.inl (by omega))] at r15
  rw [ucp_oi (by omega)] at r15
  rw [o9] at r15
  rw [ucp_oi (by omega)] at r15
  rw [o6] at r15
  rw [ucp_oi (by omega)] at r15
  rw [o3] at r15
  rw [ucp_oi (by omega)] at r15
  subst r15
  clear e15
  replace hf := jbind hf
  obtain ⟨h69, e16, hf⟩ := hf
  obtain ⟨o16, z16⟩ := oc_pf e16
  clear e16
  replace hf := jbind hf
  obtain ⟨v74, e17, hf⟩ := hf
  have r17 := oc_gI e17
  rw [o16] at r17
  rw [oi_ne (Or.inl (by omega))] at r17
  rw [o14] at r17
  rw [oi_ne (Or.inl (by omega))] at r17
  rw [o12] at r17
  rw [oi_ne (Or.inl (by omega))] at r17
  rw [oi_ne (Or.inl (by omega))] at r17
  rw [ucp_oi (by omega)] at r17
  rw [o9] at r17
  rw [ucp_oi (by omega)] at r17
  rw [o6] at r17
  rw [ucp_oi (by omega)] at r17
  rw [o3] at r17
  rw [ucp_oi (by omega)] at r17
  subst r17
  clear e17
  replace hf := jbind hf
  obtain ⟨h77, e18, hf⟩ := hf
  obtain ⟨o18, z18⟩ := oc_pf e18
  clear e18
  replace hf := jbind hf
  obtain ⟨v82, e19, hf⟩ := hf
  have r19 := oc_gI e19
  rw [o18] at r19
  rw [oi_ne (Or.inl (by omega))] at r19
  rw [o16] at r19
  rw [oi_ne (Or.inl (by omega))] at r19
  rw [o14] at r19
  rw [oi_ne (Or.inl (by omega))] at r19
  rw [o12] at r19
  rw [oi_ne (Or.inl (by omega))] at r19
  rw [oi_ne (Or.inl (by omega))] at r19
  rw [ucp_oi (by omega)] at r19
  rw [o9] at r19
  rw [ucp_oi (by omega)] at r19
  rw [o6] at r19
  rw [ucp_oi (by omega)] at r19
  rw [o3] at r19
  rw [ucp_oi (by omega)] at r19
  subst r19
  clear e19
  replace hf := jbind hf
  obtain ⟨h85, e20, hf⟩ := hf
  obtain ⟨o20, z20⟩ := oc_pf e20
  clear e20
  replace hf := jbind hf
  obtain ⟨v90, e21, hf⟩ := hf
  have r21 := oc_gI e21
  rw [o20] at r21
  rw [oi_ne (Or.inl (by omega))] at r21
  rw [o18] at r21
  rw [oi_ne (Or.inl (by omega))] at r21
  rw [o16] at r21
  rw [oi_ne (Or.inl (by omega))] at r21
  rw [o14] at r21
  rw [oi_ne (Or.inl (by omega))] at r21
  rw [o12] at r21
  rw [oi_ne (Or.inl (by omega))] at r21
  rw [oi_ne (Or.inl (by omega))] at r21
  rw [ucp_oi (by omega)] at r21
  rw [o9] at r21
  rw [ucp_oi (by omega)] at r21
  rw [o6] at r21
  rw [ucp_oi (by omega)] at r21
  rw [o3] at r21
  rw [ucp_oi (by omega)] at r21
  subst r21
  clear e21
  replace hf := jbind hf
  obtain ⟨h93, e22, hf⟩ := hf
  obtain ⟨o22, z22⟩ := oc_pf e22
  clear e22
  replace hf := jbind hf
  obtain ⟨v98, e23, hf⟩ := hf
  have r23 := oc_gI e23
  rw [o22] at r23
  rw [oi_ne (Or.inl (by omega))] at r23
  rw [o20] at r23
  rw [oi_ne (Or.inl (by omega))] at r23
  rw [o18] at r23
  rw [oi_ne (Or.inl (by omega))] at r23
  rw [o16] at r23
  rw [oi_ne (Or.inl (by omega))] at r23
  rw [o14] at r23
  rw [oi_ne (Or.inl (by omega))] at r23
  rw [o12] at r23
  rw [oi_ne (Or.inl (by omega))] at r23
  rw [oi_ne (Or.inl (by omega))] at r23
  rw [ucp_oi (by omega)] at r23
  rw [o9] at r23
  rw [ucp_oi (by omega)] at r23
  rw [o6] at r23
  rw [ucp_oi (by omega)] at r23
  rw [o3] at r23
  rw [ucp_oi (by omega)] at r23
  subst r23
  clear e23
  replace hf := jbind hf
  obtain ⟨h101, e24, hf⟩ := hf
  obtain ⟨o24, z24⟩ := oc_pf e24
  clear e24
  replace hf := jbind hf
  obtain ⟨v106, e25, hf⟩ := hf
  have r25 := oc_gI e25
  rw [o24] at r25
  rw [oi_ne (Or.inl (by omega))] at r25
  rw [o22] at r25
  rw [oi_ne (Or.inl (by omega))] at r25
  rw [o20] at r25
  rw [oi_ne (Or.inl (by omega))] at r25
  rw [o18] at r25
  rw [oi_ne (Or.inl (by omega))] at r25
  rw [o16] at r25
  rw [oi_ne (Or.inl (by omega))] at r25
  rw [o14] at r25
  rw [oi_ne (Or.inl (by omega))] at r25
  rw [o12] at r25
  rw [oi_ne (Or.inl (by omega))] at r25
  rw [oi_ne (Or.inl (by omega))] at r25
  rw [ucp_oi (by omega)] at r25
  rw [o9] at r25
  rw [ucp_oi (by omega)] at r25
  rw [o6] at r25
  rw [ucp_oi (by omega)] at r25
  rw [o3] at r25
  rw [ucp_oi (by omega)] at r25
  subst r25
  clear e25
  replace hf := jbind hf
  obtain ⟨h109, e26, hf⟩ := hf
  obtain ⟨o26, z26⟩ := oc_pf e26
  clear e26
  replace hf := jbind hf
  obtain ⟨v114, e27, hf⟩ := hf
  have r27 := oc_gI e27
  rw [o26] at r27
  rw [oi_ne (Or.inl (by omega))] at r27
  rw [o24] at r27
  rw [oi_ne (Or.inl (by omega))] at r27
  rw [o22] at r27
  rw [oi_ne (Or.inl (by omega))] at r27
  rw [o20] at r27
  rw [oi_ne (Or.inl (by omega))] at r27
  rw [o18] at r27
  rw [oi_ne (Or.inl (by omega))] at r27
  rw [o16] at r27
  rw [oi_ne (Or.inl (by omega))] at r27
  rw [o14] at r27
  rw [oi_ne (Or.inl (by omega))] at r27
  rw [o12] at r27
  rw [oi_ne (Or.inl (by omega))] at r27
  rw [oi_ne (Or.inl (by omega))] at r27
  rw [ucp_oi (by omega)] at r27
  rw [o9] at r27
  rw [ucp_oi (by omega)] at r27
  rw [o6] at r27
  rw [ucp_oi (by omega)] at r27
  rw [o3] at r27
  rw [ucp_oi (by omega)] at r27
  subst r27
  clear e27
  replace hf := jbind hf
  obtain ⟨h117, e28, hf⟩ := hf
  obtain ⟨o28, z28⟩ := oc_pf e28
  clear e28
  replace hf := jbind hf
  obtain ⟨v122, e29, hf⟩ := hf
  have r29 := oc_gI e29
  rw [o28] at r29
  rw [oi_ne (Or.inl (by omega))] at r29
  rw [o26] at r29
  rw [oi_ne (Or.inl (by omega))] at r29
  rw [o24] at r29
  rw [oi_ne (Or.inl (by omega))] at r29
  rw [o22] at r29
  rw [oi_ne (Or.inl (by omega))] at r29
  rw [o20] at r29
  rw [oi_ne (Or.inl (by omega))] at r29
  rw [o18] at r29
  rw [oi_ne (Or.inl (by omega))] at r29
  rw [o16] at r29
  rw [oi_ne (Or.inl (by omega))] at r29
  rw [o14] at r29
  rw [oi_ne (Or.inl (by omega))] at r29
  rw [o12] at r29
  rw [oi_ne (Or.inl (by omega))] at r29
  rw [oi_ne (Or.inl (by omega))] at r29
  rw [ucp_oi (by omega)] at r29
  rw [o9] at r29
  rw [ucp_oi (by omega)] at r29
  rw [o6] at r29
  rw [ucp_oi (by omega)] at r29
  rw [o3] at r29
  rw [ucp_oi (by omega)] at r29
  subst r29
  clear e29
  replace hf := jbind hf
  obtain ⟨h125, e30, hf⟩ := hf
  obtain ⟨o30, z30⟩ := oc_pf e30
  clear e30
  replace hf := jbind hf
  obtain ⟨v130, e31, hf⟩ := hf
  have r31 := oc_gI e31
  rw [o30] at r31
  rw [oi_ne (Or.inl (by omega))] at r31
  rw [o28] at r31
  rw [oi_ne (Or.inl (by omega))] at r31
  rw [o26] at r31
  rw [oi_ne (Or.inl (by omega))] at r31
  rw [o24] at r31
  rw [oi_ne (Or.inl (by omega))] at r31
  rw [o22] at r31
  rw [oi_ne (Or.inl (by omega))] at r31
  rw [o20] at r31
  rw [oi_ne (Or.inl (by omega))] at r31
  rw [o18] at r31
  rw [oi_ne (Or.inl (by omega))] at r31
  rw [o16] at r31
  rw [oi_ne (Or.inl (by omega))] at r31
  rw [o14] at r31
  rw [oi_ne (Or.inl (by omega))] at r31
  rw [o12] at r31
  rw [oi_ne (Or.inl (by omega))] at r31
  rw [oi_ne (Or.inl (by omega))] at r31
  rw [ucp_oi (by omega)] at r31
  rw [o9] at r31
  rw [ucp_oi (by omega)] at r31
  rw [o6] at r31
  rw [ucp_oi (by omega)] at r31
  rw [o3] at r31
  rw [ucp_oi (by omega)] at r31
  subst r31
  clear e31
  replace hf := jbind hf
  obtain ⟨h133, e32, hf⟩ := hf
  obtain ⟨o32, z32⟩ := oc_pf e32
  clear e32
  replace hf := jbind hf
  obtain ⟨v138, e33, hf⟩ := hf
  have r33 := oc_gI e33
  rw [o32] at r33
  rw [oi_ne (Or.inl (by omega))] at r33
  rw [o30] at r33
  rw [oi_ne (Or.inl (by omega))] at r33
  rw [o28] at r33
  rw [oi_ne (Or.inl (by omega))] at r33
  rw [o26] at r33
  rw [oi_ne (Or.inl (by omega))] at r33
  rw [o24] at r33
  rw [oi_ne (Or.inl (by omega))] at r33
  rw [o22] at r33
  rw [oi_ne (Or.inl (by omega))] at r33
  rw [o20] at r33
  rw [oi_ne (Or.inl (by omega))] at r33
  rw [o18] at r33
  rw [oi_ne (Or.inl (by omega))] at r33
  rw [o16] at r33
  rw [oi_ne (Or.inl (by omega))] at r33
  rw [o14] at r33
  rw [oi_ne (Or.inl (by omega))] at r33
  rw [o12] at r33
  rw [oi_ne (Or.inl (by omega))] at r33
  rw [oi_ne (Or.inl (by omega))] at r33
  rw [ucp_oi (by omega)] at r33
  rw [o9] at r33
  rw [ucp_oi (by omega)] at r33
  rw [o6] at r33
  rw [ucp_oi (by omega)] at r33
  rw [o3] at r33
  rw [ucp_oi (by omega)] at r33
  subst r33
  clear e33
  replace hf := jbind hf
  obtain ⟨h141, e34, hf⟩ := hf
  obtain ⟨o34, z34⟩ := oc_pf e34
  clear e34
  replace hf := jbind hf
  obtain ⟨h146, e35, hf⟩ := hf
  replace e35 := (jcv_o e35).2
  have hz : oc h141 d 0 = .ref (d + 1) := by simp (disch := omega) only [o34, o32, o30, o28, o26, o24, o22, o20, o18, o16, o14, o12, o9, o6, o3, u2_ne, ucp_ne]; exact sd0
  have hy : oc h141 r 0 = .ref (r + 1) := by simp (disch := omega) only [o34, o32, o30, o28, o26, o24, o22, o20, o18, o16, o14, o12, o9, o6, o3, u2_ne, ucp_ne]; exact sr0
  obtain ⟨o35, z35⟩ := E_X8_hangAs (d := d) (r := r) rfl rfl hd hz hy e35
  simp only [o34, o32, o30, o28, o26, o24, o22, o20, o18, o16, o14, o12, o9, o6, o3] at o35
  cases hf
  -- leaf : h146
  obtain ⟨⟨s0, s1, s2, s3, s4, s5⟩, ⟨u5, u10, u11, u12, u13, u14, u15, u16, u17⟩, RB, RC, RL⟩ := id R
  have K0 := K.1
  have k9 := K.2.2.2.2.2.2.2.2.2.1
  refine ⟨⟨⟨?_, ?_, ?_, ?_, ?_, ?_⟩, ⟨?_, ?_, ?_, ?_, ?_, ?_, ?_, ?_, ?_⟩, fun i hi => ?_, fun i hi h32 => ?_, ?_⟩, ?_, ?_⟩
  · simp (disch := omega) only [o35, u2_ne, ucp_ne, oi_ne, oi_eq, ucp_oi, ucp_in]; exact sd0
  · simp (disch := omega) only [o35, u2_ne, ucp_ne, oi_ne, oi_eq, ucp_oi, ucp_in]; exact sd1
  · simp (disch := omega) only [o35, u2_ne, ucp_ne, oi_ne, oi_eq, ucp_oi, ucp_in]; exact sd2
  · simp (disch := omega) only [o35, u2_ne, ucp_ne, oi_ne, oi_eq, ucp_oi, ucp_in]; exact sd3
  · simp (disch := omega) only [o35, u2_ne, ucp_ne, oi_ne, oi_eq, ucp_oi, ucp_in]; exact sd4
  · simp (disch := omega) only [o35, u2_ne, ucp_ne, oi_ne, oi_eq, ucp_oi, ucp_in]; exact sd.2.2.2.2.2
  · simp (disch := omega) only [o35, u2_ne, ucp_ne, oi_ne, oi_eq, ucp_oi, ucp_in]; exact u5
  · simp (disch := omega) only [o35, u2_ne, ucp_ne, oi_ne, oi_eq, ucp_oi, ucp_in]; exact u10
  · simp (disch := omega) only [o35, u2_ne, ucp_ne, oi_ne, oi_eq, ucp_oi, ucp_in]; exact u11
  · simp (disch := omega) only [o35, u2_ne, ucp_ne, oi_ne, oi_eq, ucp_oi, ucp_in]; exact u12
  · simp (disch := omega) only [o35, u2_ne, ucp_ne, oi_ne, oi_eq, ucp_oi, ucp_in]; exact u13
  · simp (disch := omega) only [o35, u2_ne, ucp_ne, oi_ne, oi_eq, ucp_oi, ucp_in]; exact u14
  · simp (disch := omega) only [o35, u2_ne, ucp_ne, oi_ne, oi_eq, ucp_oi, ucp_in]; exact u15
  · simp (disch := omega) only [o35, u2_ne, ucp_ne, oi_ne, oi_eq, ucp_oi, ucp_in]; exact u16
  · simp (disch := omega) only [o35, u2_ne, ucp_ne, oi_ne, oi_eq, ucp_oi, ucp_in]; exact u17
  · have i8 : i < 8 := by omega
    have B := RB i hi
    simp (disch := omega) only [o35, u2_ne, ucp_ne, oi_ne, oi_eq, ucp_oi, ucp_in]
    exact B
  · have B := RC i hi h32
    simp (disch := omega) only [o35, u2_ne, ucp_ne, oi_ne, oi_eq, ucp_oi, ucp_in]
    exact B
  · refine logE_cp RL K (fun k hk => ?_) (fun k hk => ?_)
    · rcases hk with rfl | rfl <;> simp (disch := omega) only [o35, u2_ne, ucp_ne, oi_ne, oi_eq, ucp_oi, ucp_in]
    · show oi (oc q) (d + 6) k = oi (oc h) (r + 6) k
      simp (disch := omega) only [o35, u2_ne, ucp_ne, oi_ne, oi_eq, ucp_oi, ucp_in]
  · intro b k hb
    simp (disch := omega) only [o35, u2_ne, ucp_ne, oi_ne, oi_eq, ucp_oi, ucp_in]
  · exact z35.trans (z34.trans (z32.trans (z30.trans (z28.trans (z26.trans (z24.trans (z22.trans (z20.trans (z18.trans (z16.trans (z14.trans (z12.trans (z9.trans (z6.trans z3))))))))))))))
