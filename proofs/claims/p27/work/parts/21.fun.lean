section
noncomputable def F_X0_init (n : Nat) (a0 : Nat) (h : jH) : Option jH :=
  (jnw h (.inr (.inr (.inl (12, fun _ => none))))).bind fun h7 =>
  (jpf 0 h7 a0 0 (.ref h.1)).bind fun h10 =>
  some h10
noncomputable def F_X5_init (n : Nat) (a0 : Nat) (h : jH) : Option jH :=
  (jnw h (.inr (.inl (0, 60, fun _ => 0)))).bind fun h7 =>
  (jpf 4 h7 a0 0 (.ref h.1)).bind fun h9 =>
  some h9
noncomputable def F_X8_init (n : Nat) (a0 : Nat) (h : jH) : Option jH :=
  (jnw h (.inr (.inl (0, 8, fun _ => 0)))).bind fun h7 =>
  (jpf 6 h7 a0 0 (.ref h.1)).bind fun h9 =>
  (jnw h9 (.inr (.inl (0, 8, fun _ => 0)))).bind fun h15 =>
  (jpf 6 h15 a0 1 (.ref h9.1)).bind fun h17 =>
  (jnw h17 (.inr (.inl (0, 8, fun _ => 0)))).bind fun h23 =>
  (jpf 6 h23 a0 2 (.ref h17.1)).bind fun h25 =>
  (jnw h25 (.inr (.inl (0, 8, fun _ => 0)))).bind fun h31 =>
  (jpf 6 h31 a0 3 (.ref h25.1)).bind fun h33 =>
  (jnw h33 (.inl (4, [.null, .int 0, .int 0]))).bind fun h37 =>
  (F_X5_init n h33.1 h37).bind fun h41 =>
  (jpf 6 h41 a0 4 (.ref h33.1)).bind fun h44 =>
  (jpf 6 h44 a0 11 (.int (16 : Int32))).bind fun h50 =>
  (jpf 6 h50 a0 12 (.int (8 : Int32))).bind fun h56 =>
  (jpf 6 h56 a0 16 (.int (1 : Int32))).bind fun h61 =>
  some h61
noncomputable def F_X5_copyFrom (n : Nat) (a0 : Nat) (a1 : Nat) (h : jH) : Option jH :=
  (jgR 4 h a1 0).bind fun p1 =>
  (jgR 4 h a0 0).bind fun p6 =>
  (jcp h p1 (0 : Int32) p6 (0 : Int32) (60 : Int32)).bind fun h12 =>
  (jgI 4 h12 a1 1).bind fun v17 =>
  (jpf 4 h12 a0 1 (.int v17)).bind fun h20 =>
  (jgI 4 h20 a1 2).bind fun v25 =>
  (jpf 4 h20 a0 2 (.int v25)).bind fun h28 =>
  some h28
noncomputable def F_X8_hangAs (n : Nat) (a0 : Nat) (a1 : Nat) (h : jH) : Option jH :=
  (jgR 6 h a1 0).bind fun p1 =>
  (jgR 6 h a0 0).bind fun p6 =>
  (jcp h p1 (0 : Int32) p6 (0 : Int32) (8 : Int32)).bind fun h12 =>
  (jgI 6 h12 a1 15).bind fun v17 =>
  (jpf 6 h12 a0 15 (.int v17)).bind fun h20 =>
  (jgI 6 h20 a1 9).bind fun v25 =>
  (jpf 6 h20 a0 9 (.int v25)).bind fun h28 =>
  some h28
noncomputable def F_X8_copyFrom (n : Nat) (a0 : Nat) (a1 : Nat) (h : jH) : Option jH :=
  (jgR 6 h a1 1).bind fun p1 =>
  (jgR 6 h a0 1).bind fun p6 =>
  (jcp h p1 (0 : Int32) p6 (0 : Int32) (8 : Int32)).bind fun h12 =>
  (jgR 6 h12 a1 2).bind fun p16 =>
  (jgR 6 h12 a0 2).bind fun p21 =>
  (jcp h12 p16 (0 : Int32) p21 (0 : Int32) (8 : Int32)).bind fun h27 =>
  (jgR 6 h27 a1 3).bind fun p31 =>
  (jgR 6 h27 a0 3).bind fun p36 =>
  (jcp h27 p31 (0 : Int32) p36 (0 : Int32) (8 : Int32)).bind fun h42 =>
  (jgR 6 h42 a0 4).bind fun p46 =>
  (jgR 6 h42 a1 4).bind fun p50 =>
  (jcv 4 h42 p46 (F_X5_copyFrom n p46 p50 h42)).bind fun h53 =>
  (jgI 6 h53 a1 5).bind fun v58 =>
  (jpf 6 h53 a0 5 (.int v58)).bind fun h61 =>
  (jgI 6 h61 a1 6).bind fun v66 =>
  (jpf 6 h61 a0 6 (.int v66)).bind fun h69 =>
  (jgI 6 h69 a1 7).bind fun v74 =>
  (jpf 6 h69 a0 7 (.int v74)).bind fun h77 =>
  (jgI 6 h77 a1 8).bind fun v82 =>
  (jpf 6 h77 a0 8 (.int v82)).bind fun h85 =>
  (jgI 6 h85 a1 10).bind fun v90 =>
  (jpf 6 h85 a0 10 (.int v90)).bind fun h93 =>
  (jgI 6 h93 a1 11).bind fun v98 =>
  (jpf 6 h93 a0 11 (.int v98)).bind fun h101 =>
  (jgI 6 h101 a1 12).bind fun v106 =>
  (jpf 6 h101 a0 12 (.int v106)).bind fun h109 =>
  (jgI 6 h109 a1 13).bind fun v114 =>
  (jpf 6 h109 a0 13 (.int v114)).bind fun h117 =>
  (jgI 6 h117 a1 14).bind fun v122 =>
  (jpf 6 h117 a0 14 (.int v122)).bind fun h125 =>
  (jgI 6 h125 a1 16).bind fun v130 =>
  (jpf 6 h125 a0 16 (.int v130)).bind fun h133 =>
  (jgI 6 h133 a1 17).bind fun v138 =>
  (jpf 6 h133 a0 17 (.int v138)).bind fun h141 =>
  (jcv 6 h141 a0 (F_X8_hangAs n a0 a1 h141)).bind fun h146 =>
  some h146
noncomputable def F_X0_remember_63 (n : Nat) (a0 : Nat) (sa0 : Nat) (s1 : Int32) (h : jH) : Option jH :=
  (jpf 0 h sa0 1 (.int s1)).bind fun h63 =>
  (jgI 0 h63 a0 2).bind fun v70 =>
  (jpf 0 h63 a0 2 (.int (if (v70 + (1 : Int32)) < (12 : Int32) then v70 + (1 : Int32) else (12 : Int32)))).bind fun h78 =>
  some h78
noncomputable def F_X0_remember_28 (n : Nat) (a0 : Nat) (a1 : Nat) (h : jH) : Option jH :=
  (jgR 0 h a0 0).bind fun p29 =>
  (jgI 0 h a0 1).bind fun v33 =>
  (jalq h p29 v33).bind fun o36 =>
  match o36 with
  | none => none
  | some p38 =>
  ((jcv 6 h p38 (F_X8_copyFrom n p38 a1 h)).bind fun h38 =>
  (jgI 0 h38 a0 1).bind fun v43 =>
  if (12 : Int32) ≤ (v43 + (1 : Int32)) then (F_X0_remember_63 n a0 a0 (0 : Int32) h38)
  else ((jgI 0 h38 a0 1).bind fun v54 =>
  F_X0_remember_63 n a0 a0 (v54 + (1 : Int32)) h38))
noncomputable def F_X0_remember (n : Nat) (a0 : Nat) (a1 : Nat) (h : jH) : Option jH :=
  (jgR 0 h a0 0).bind fun p1 =>
  (jgI 0 h a0 1).bind fun v5 =>
  (jalq h p1 v5).bind fun o8 =>
  match o8 with
  | none => ((jgR 0 h a0 0).bind fun p13 =>
  (jgI 0 h a0 1).bind fun v17 =>
  (jnw h (.inl (6, [.null, .null, .null, .null, .null, .int 0, .int 0, .int 0, .int 0, .int 0, .int 0, .int 0, .int 0, .int 0, .int 0, .int 0, .int 0, .int 0]))).bind fun h20 =>
  (F_X8_init n h.1 h20).bind fun h24 =>
  (jasq 6 h24 p13 v17 h.1).bind fun h27 =>
  F_X0_remember_28 n a0 a1 h27)
  | some p9 => (F_X0_remember_28 n a0 a1 h)
noncomputable def F_X0_takeBack_18 (n : Nat) (a0 : Nat) (a1 : Nat) (s0 : Int32) (h : jH) : Option (Int32 × jH) :=
  (jgI 0 h a0 2).bind fun v20 =>
  if v20 = 0 then (some ((0 : Int32), h))
  else ((jgR 0 h a0 0).bind fun p27 =>
  (jalq h p27 s0).bind fun o31 =>
  match o31 with
  | none => (some ((0 : Int32), h))
  | some p32 => ((jgR 0 h a0 0).bind fun p39 =>
  (jalq h p39 s0).bind fun o43 =>
  match o43 with
  | none => none
  | some p44_0 =>
  ((jcv 6 h a1 (F_X8_copyFrom n a1 p44_0 h)).bind fun h44 =>
  (jpf 0 h44 a0 1 (.int s0)).bind fun h49 =>
  (jgI 0 h49 a0 2).bind fun v54 =>
  (jpf 0 h49 a0 2 (.int (v54 - (1 : Int32)))).bind fun h59 =>
  some ((1 : Int32), h59))))
noncomputable def F_X0_takeBack (n : Nat) (a0 : Nat) (a1 : Nat) (h : jH) : Option (Int32 × jH) :=
  (jgI 0 h a0 1).bind fun v1 =>
  if v1 ≤ 0 then (F_X0_takeBack_18 n a0 a1 (11 : Int32) h)
  else ((jgI 0 h a0 1).bind fun v8 =>
  F_X0_takeBack_18 n a0 a1 (v8 - (1 : Int32)) h)
noncomputable def F_X0_forget (n : Nat) (a0 : Nat) (h : jH) : Option jH :=
  (jpf 0 h a0 2 (.int (0 : Int32))).bind fun h2 =>
  some h2
noncomputable def F_X1_init (n : Nat) (a0 : Nat) (a1 : Nat) (a2 : Nat) (h : jH) : Option jH :=
  (jpf 1 h a0 0 (.ref a1)).bind fun h6 =>
  (jpf 1 h6 a0 1 (.ref a2)).bind fun h11 =>
  some h11
noncomputable def F_X8_isLit (n : Nat) (a0 : Nat) (x1 : Int32) (x2 : Int32) (h : jH) : Option Int32 :=
  (jgR 6 h a0 0).bind fun p1 =>
  (jal 0 h p1 x1).bind fun v5 =>
  if v5 < ((4 : Int32) * x2) then (some (0 : Int32))
  else ((jgR 6 h a0 0).bind fun p13 =>
  (jal 0 h p13 x1).bind fun v17 =>
  (jgI 6 h a0 12).bind fun v22 =>
  if (((4 : Int32) * x2) + v22) < v17 then (some (0 : Int32))
  else (some (1 : Int32)))
noncomputable def F_X2_untoldAmount (n : Nat) (x0 : Int32) (a1 : Nat) (x2 : Int32) (h : jH) : Option Int32 :=
  if x0 = 0 then ((jgI 6 h a1 13).bind fun v7 =>
  (jcv 6 h a1 (F_X8_isLit n a1 x2 v7 h)).bind fun v10 =>
  if v10 = 0 then (some (0 : Int32))
  else (some (1 : Int32)))
  else (if x0 = (1 : Int32) then (some (10 : Int32))
  else (some (0 : Int32)))
noncomputable def F_X2_isValue (n : Nat) (x0 : Int32) (h : jH) : Option Int32 :=
  if (256 : Int32) ≤ x0 then (some (1 : Int32))
  else (if (10 : Int32) < x0 then (some (0 : Int32))
  else (some (1 : Int32)))
noncomputable def F_X8_gap (n : Nat) (a0 : Nat) (x1 : Int32) (x2 : Int32) (h : jH) : Option Int32 :=
  if x1 < 0 then (some x2)
  else ((jgI 6 h a0 5).bind fun v6 =>
  if x1 < (v6 - (1 : Int32)) then ((jgR 6 h a0 0).bind fun p19 =>
  (jal 0 h p19 (x1 + (1 : Int32))).bind fun v25 =>
  (jgR 6 h a0 0).bind fun p27 =>
  (jal 0 h p27 x1).bind fun v31 =>
  some (v25 - v31))
  else (some x2))
noncomputable def F_X11_bit (n : Nat) (x0 : Int32) (x1 : Int32) (h : jH) : Option Int32 :=
  some ((jushr x0 x1) &&& (1 : Int32))
noncomputable def F_X2_value (n : Nat) (x0 : Int32) (a1 : Nat) (x2 : Int32) (h : jH) : Option Int32 :=
  if x0 = (0 : Int32) then (some x2)
  else if x0 = (1 : Int32) then ((jgR 6 h a1 0).bind fun p63 =>
  (jal 0 h p63 x2).bind fun v67 =>
  some v67)
  else if x0 = (2 : Int32) then ((jcv 6 h a1 (F_X8_gap n a1 x2 (99 : Int32) h)).bind fun v73 =>
  some v73)
  else if x0 = (3 : Int32) then ((jgR 6 h a1 2).bind fun p78 =>
  (jal 0 h p78 x2).bind fun v82 =>
  some v82)
  else if x0 = (4 : Int32) then ((jgR 6 h a1 3).bind fun p85 =>
  (jal 0 h p85 x2).bind fun v89 =>
  some v89)
  else if x0 = (5 : Int32) then ((jgI 6 h a1 13).bind fun v92 =>
  some v92)
  else if x0 = (6 : Int32) then ((jgI 6 h a1 14).bind fun v97 =>
  some v97)
  else if x0 = (7 : Int32) then ((jgI 6 h a1 7).bind fun v102 =>
  (F_X11_bit n v102 x2 h).bind fun v106 =>
  some v106)
  else if x0 = (8 : Int32) then ((jgI 6 h a1 6).bind fun v111 =>
  (F_X11_bit n v111 x2 h).bind fun v115 =>
  some v115)
  else if x0 = (9 : Int32) then ((jgI 6 h a1 13).bind fun v122 =>
  (jcv 6 h a1 (F_X8_isLit n a1 x2 v122 h)).bind fun v125 =>
  if v125 = 0 then (some (0 : Int32))
  else (some (1 : Int32)))
  else if x0 = (10 : Int32) then ((jgI 6 h a1 8).bind fun v138 =>
  (F_X11_bit n v138 x2 h).bind fun v142 =>
  some v142)
  else (some (x0 - (256 : Int32)))
noncomputable def F_X2_push (n : Nat) (a0 : Nat) (x1 : Int32) (h : jH) : Option jH :=
  (jgI 2 h a0 5).bind fun v1 =>
  if (24 : Int32) ≤ v1 then (some h)
  else ((jgR 2 h a0 4).bind fun p10 =>
  (jgI 2 h a0 5).bind fun v14 =>
  (jas 0 h p10 v14 x1).bind fun h18 =>
  (jgI 2 h18 a0 5).bind fun v21 =>
  (jpf 2 h18 a0 5 (.int (v21 + (1 : Int32)))).bind fun h26 =>
  some h26)
noncomputable def F_X2_pop (n : Nat) (a0 : Nat) (h : jH) : Option (Int32 × jH) :=
  (jgI 2 h a0 5).bind fun v1 =>
  if 0 < v1 then ((jgI 2 h a0 5).bind fun v11 =>
  (jpf 2 h a0 5 (.int (v11 - (1 : Int32)))).bind fun h16 =>
  (jgR 2 h16 a0 4).bind fun p20 =>
  (jgI 2 h16 a0 5).bind fun v24 =>
  (jal 0 h16 p20 v24).bind fun v27 =>
  some (v27, h16))
  else (some ((0 : Int32), h))
noncomputable def F_X2_joined (n : Nat) (x0 : Int32) (x1 : Int32) (x2 : Int32) (h : jH) : Option Int32 :=
  if x0 = (12 : Int32) then (some (x1 &&& x2))
  else if x0 = (43 : Int32) then (some (x1 + x2))
  else if x0 = (60 : Int32) then (if x2 ≤ x1 then (some (0 : Int32))
  else (some (1 : Int32)))
  else if x0 = (62 : Int32) then (if x1 ≤ x2 then (some (0 : Int32))
  else (some (1 : Int32)))
  else (some (x1 ||| x2))
noncomputable def F_X2_holds_23_b (n : Nat) (rc23 : Nat → Int32 → Nat → Int32 → Int32 → jH → Option (Int32 × jH)) (a0 : Nat) (x1 : Int32) (a2 : Nat) (x3 : Int32) (x4 : Int32) (h : jH) : Option (Int32 × jH) :=
  (jgR 2 h a0 2).bind fun p26 =>
  (jal 0 h p26 x1).bind fun v30 =>
  if v30 ≤ x4 then ((jgI 2 h a0 5).bind fun v113 =>
  if v113 = 0 then (some ((1 : Int32), h))
  else ((jcv 2 h a0 (F_X2_pop n a0 h)).bind fun q120 =>
  if q120.1 = 0 then (some ((0 : Int32), q120.2))
  else (some ((1 : Int32), q120.2))))
  else ((jgR 2 h a0 3).bind fun p35 =>
  (jal 0 h p35 x4).bind fun v40 =>
  (F_X2_isValue n v40 h).bind fun v45 =>
  if v45 = 0 then (if v40 = (11 : Int32) then ((jcv 2 h a0 (F_X2_pop n a0 h)).bind fun q75 =>
  (jcv 2 q75.2 a0 (F_X2_push n a0 ((1 : Int32) - q75.1) q75.2)).bind fun h79 =>
  rc23 a0 x1 a2 x3 (x4 + (1 : Int32)) h79)
  else ((jcv 2 h a0 (F_X2_pop n a0 h)).bind fun q86 =>
  (jcv 2 q86.2 a0 (F_X2_pop n a0 q86.2)).bind fun q95 =>
  (F_X2_joined n v40 q95.1 q86.1 q95.2).bind fun v100 =>
  (jcv 2 q95.2 a0 (F_X2_push n a0 v100 q95.2)).bind fun h103 =>
  rc23 a0 x1 a2 x3 (x4 + (1 : Int32)) h103))
  else ((F_X2_value n v40 a2 x3 h).bind fun v56 =>
  (jcv 2 h a0 (F_X2_push n a0 v56 h)).bind fun h59 =>
  rc23 a0 x1 a2 x3 (x4 + (1 : Int32)) h59))
noncomputable def F_X2_holds_23 (n : Nat) : Nat → Nat → Int32 → Nat → Int32 → Int32 → jH → Option (Int32 × jH)
  | 0 => fun _ _ _ _ _ _ => none
  | k + 1 => F_X2_holds_23_b n (F_X2_holds_23 n k)
noncomputable def F_X2_holds (n : Nat) (a0 : Nat) (x1 : Int32) (a2 : Nat) (x3 : Int32) (h : jH) : Option (Int32 × jH) :=
  (jpf 2 h a0 5 (.int (0 : Int32))).bind fun h2 =>
  if x1 = 0 then (F_X2_holds_23 n n a0 x1 a2 x3 (0 : Int32) h2)
  else ((jgR 2 h2 a0 2).bind fun p14 =>
  (jal 0 h2 p14 (x1 - (1 : Int32))).bind fun v20 =>
  F_X2_holds_23 n n a0 x1 a2 x3 v20 h2)
noncomputable def F_X2_amount_20_b (n : Nat) (rc20 : Nat → Int32 → Nat → Int32 → Int32 → Int32 → jH → Option (Int32 × jH)) (a0 : Nat) (x1 : Int32) (a2 : Nat) (x3 : Int32) (x4 : Int32) (x5 : Int32) (h : jH) : Option (Int32 × jH) :=
  (jgI 2 h a0 8).bind fun v23 =>
  if v23 ≤ x5 then (some (x4, h))
  else ((jgR 2 h a0 0).bind fun p30 =>
  (jal 0 h p30 x5).bind fun v35 =>
  if v35 = x1 then ((jcv 2 h a0 (F_X2_holds n a0 x5 a2 x3 h)).bind fun q45 =>
  if q45.1 = 0 then (rc20 a0 x1 a2 x3 x4 (x5 + (1 : Int32)) q45.2)
  else ((jgR 2 q45.2 a0 1).bind fun p54 =>
  (jal 0 q45.2 p54 x5).bind fun v59 =>
  rc20 a0 x1 a2 x3 (x4 + v59) (x5 + (1 : Int32)) q45.2))
  else (rc20 a0 x1 a2 x3 x4 (x5 + (1 : Int32)) h))
noncomputable def F_X2_amount_20 (n : Nat) : Nat → Nat → Int32 → Nat → Int32 → Int32 → Int32 → jH → Option (Int32 × jH)
  | 0 => fun _ _ _ _ _ _ _ => none
  | k + 1 => F_X2_amount_20_b n (F_X2_amount_20 n k)
noncomputable def F_X2_amount (n : Nat) (a0 : Nat) (x1 : Int32) (a2 : Nat) (x3 : Int32) (h : jH) : Option (Int32 × jH) :=
  (jgI 2 h a0 7).bind fun v1 =>
  if v1 = 0 then ((F_X2_untoldAmount n x1 a2 x3 h).bind fun v10 =>
  some (v10, h))
  else (F_X2_amount_20 n n a0 x1 a2 x3 (0 : Int32) (0 : Int32) h)
noncomputable def F_X1_fadeAll_2_b (n : Nat) (rc2 : Nat → Nat → Int32 → jH → Option jH) (a0 : Nat) (a1 : Nat) (x2 : Int32) (h : jH) : Option jH :=
  (jgI 6 h a1 5).bind fun v4 =>
  if v4 ≤ x2 then (some h)
  else ((jgR 6 h a1 2).bind fun p11 =>
  (jgR 6 h a1 2).bind fun p18 =>
  (jal 0 h p18 x2).bind fun v22 =>
  (jgR 1 h a0 0).bind fun p24 =>
  (jcv 2 h p24 (F_X2_amount n p24 (0 : Int32) a1 x2 h)).bind fun q30 =>
  (jas 0 q30.2 p11 x2 (if (v22 + q30.1) < (99 : Int32) then v22 + q30.1 else (99 : Int32))).bind fun h37 =>
  rc2 a0 a1 (x2 + (1 : Int32)) h37)
noncomputable def F_X1_fadeAll_2 (n : Nat) : Nat → Nat → Nat → Int32 → jH → Option jH
  | 0 => fun _ _ _ _ => none
  | k + 1 => F_X1_fadeAll_2_b n (F_X1_fadeAll_2 n k)
noncomputable def F_X1_fadeAll (n : Nat) (a0 : Nat) (a1 : Nat) (h : jH) : Option jH :=
  F_X1_fadeAll_2 n n a0 a1 (0 : Int32) h
noncomputable def F_X1_draw (n : Nat) (a0 : Nat) (h : jH) : Option (Int32 × jH) :=
  (jgI 6 h a0 16).bind fun v4 =>
  (jpf 6 h a0 16 (.int (((1103515245 : Int32) * v4) + (12345 : Int32)))).bind fun h12 =>
  (jgI 6 h12 a0 16).bind fun v16 =>
  some (((jushr v16 (16 : Int32)) &&& (32767 : Int32)) - ((jushr v16 (16 : Int32)) &&& (32767 : Int32)) / (100 : Int32) * (100 : Int32), h12)
noncomputable def F_X11_withBit (n : Nat) (x0 : Int32) (x1 : Int32) (x2 : Int32) (h : jH) : Option Int32 :=
  if x2 = 0 then (some (x0 &&& (((1 : Int32) <<< (x1 &&& 31)) ^^^ (-1 : Int32))))
  else (some (x0 ||| ((1 : Int32) <<< (x1 &&& 31))))
noncomputable def F_X5_add_90 (n : Nat) (a0 : Nat) (sa0 : Nat) (s1 : Int32) (h : jH) : Option jH :=
  (jpf 4 h sa0 2 (.int s1)).bind fun h90 =>
  (jgI 4 h90 a0 1).bind fun v97 =>
  (jpf 4 h90 a0 1 (.int (if (v97 + (1 : Int32)) < (60 : Int32) then v97 + (1 : Int32) else (60 : Int32)))).bind fun h105 =>
  some h105
noncomputable def F_X5_add (n : Nat) (a0 : Nat) (a1 : Nat) (x2 : Int32) (x3 : Int32) (x4 : Int32) (h : jH) : Option jH :=
  (jgR 4 h a0 0).bind fun p1 =>
  (jgI 4 h a0 2).bind fun v5 =>
  (jgI 6 h a1 14).bind fun v9 =>
  (jgI 6 h a1 13).bind fun v19 =>
  (jgR 6 h a1 0).bind fun p55 =>
  (jal 0 h p55 x2).bind fun v59 =>
  (jas 0 h p1 v5 ((((((v9 <<< ((18 : Int32) &&& 31)) ||| (v19 <<< ((15 : Int32) &&& 31))) ||| (x2 <<< ((12 : Int32) &&& 31))) ||| (x3 <<< ((10 : Int32) &&& 31))) ||| (x4 <<< ((5 : Int32) &&& 31))) ||| (v59 <<< ((0 : Int32) &&& 31)))).bind fun h67 =>
  (jgI 4 h67 a0 2).bind fun v70 =>
  if (60 : Int32) ≤ (v70 + (1 : Int32)) then (F_X5_add_90 n a0 a0 (0 : Int32) h67)
  else ((jgI 4 h67 a0 2).bind fun v81 =>
  F_X5_add_90 n a0 a0 (v81 + (1 : Int32)) h67)
noncomputable def F_X1_catchSome_4_b (n : Nat) (rc4 : Nat → Nat → Int32 → Int32 → jH → Option (Int32 × jH)) (a0 : Nat) (a1 : Nat) (x2 : Int32) (x3 : Int32) (h : jH) : Option (Int32 × jH) :=
  (jgI 6 h a1 5).bind fun v6 =>
  if v6 ≤ x3 then (some (x2, h))
  else ((jcv 6 h a1 (F_X8_gap n a1 x3 (-1 : Int32) h)).bind fun v15 =>
  if v15 = (1 : Int32) then ((jgI 6 h a1 9).bind fun v23 =>
  (F_X11_bit n v23 x3 h).bind fun v27 =>
  if v27 = 0 then ((F_X1_draw n a1 h).bind fun q34 =>
  (jgR 1 q34.2 a0 0).bind fun p38 =>
  (jcv 2 q34.2 p38 (F_X2_amount n p38 (1 : Int32) a1 x3 q34.2)).bind fun q44 =>
  if q44.1 ≤ q34.1 then (rc4 a0 a1 x2 (x3 + (1 : Int32)) q44.2)
  else ((jgI 6 q44.2 a1 9).bind fun v52 =>
  (F_X11_withBit n v52 x3 (1 : Int32) q44.2).bind fun v57 =>
  (jpf 6 q44.2 a1 9 (.int v57)).bind fun h60 =>
  (jgR 6 h60 a1 4).bind fun p64 =>
  (jcv 4 h60 p64 (F_X5_add n p64 a1 x3 (1 : Int32) (0 : Int32) h60)).bind fun h71 =>
  rc4 a0 a1 (x2 + (1 : Int32)) (x3 + (1 : Int32)) h71))
  else (rc4 a0 a1 x2 (x3 + (1 : Int32)) h))
  else (rc4 a0 a1 x2 (x3 + (1 : Int32)) h))
noncomputable def F_X1_catchSome_4 (n : Nat) : Nat → Nat → Nat → Int32 → Int32 → jH → Option (Int32 × jH)
  | 0 => fun _ _ _ _ _ => none
  | k + 1 => F_X1_catchSome_4_b n (F_X1_catchSome_4 n k)
noncomputable def F_X1_catchSome (n : Nat) (a0 : Nat) (a1 : Nat) (h : jH) : Option (Int32 × jH) :=
  F_X1_catchSome_4 n n a0 a1 (0 : Int32) (0 : Int32) h
noncomputable def F_X1_dropSome_4_b (n : Nat) (rc4 : Nat → Nat → Int32 → Int32 → jH → Option (Int32 × jH)) (a0 : Nat) (a1 : Nat) (x2 : Int32) (x3 : Int32) (h : jH) : Option (Int32 × jH) :=
  (jgI 6 h a1 5).bind fun v6 =>
  if v6 ≤ x3 then (some (x2, h))
  else ((jgI 6 h a1 8).bind fun v13 =>
  (F_X11_bit n v13 x3 h).bind fun v17 =>
  if v17 = (1 : Int32) then ((F_X1_draw n a1 h).bind fun q25 =>
  (jgR 1 q25.2 a0 0).bind fun p29 =>
  (jcv 2 q25.2 p29 (F_X2_amount n p29 (2 : Int32) a1 x3 q25.2)).bind fun q35 =>
  if q35.1 ≤ q25.1 then (rc4 a0 a1 x2 (x3 + (1 : Int32)) q35.2)
  else ((jgI 6 q35.2 a1 8).bind fun v43 =>
  (F_X11_withBit n v43 x3 (0 : Int32) q35.2).bind fun v48 =>
  (jpf 6 q35.2 a1 8 (.int v48)).bind fun h51 =>
  (jgR 6 h51 a1 4).bind fun p55 =>
  (jcv 4 h51 p55 (F_X5_add n p55 a1 x3 (2 : Int32) (0 : Int32) h51)).bind fun h62 =>
  rc4 a0 a1 (x2 + (1 : Int32)) (x3 + (1 : Int32)) h62))
  else (rc4 a0 a1 x2 (x3 + (1 : Int32)) h))
noncomputable def F_X1_dropSome_4 (n : Nat) : Nat → Nat → Nat → Int32 → Int32 → jH → Option (Int32 × jH)
  | 0 => fun _ _ _ _ _ => none
  | k + 1 => F_X1_dropSome_4_b n (F_X1_dropSome_4 n k)
noncomputable def F_X1_dropSome (n : Nat) (a0 : Nat) (a1 : Nat) (h : jH) : Option (Int32 × jH) :=
  F_X1_dropSome_4 n n a0 a1 (0 : Int32) (0 : Int32) h
noncomputable def F_X1_turn (n : Nat) (a0 : Nat) (h : jH) : Option jH :=
  (jgI 6 h a0 13).bind fun v2 =>
  (jpf 6 h a0 13 (.int (v2 + (1 : Int32)))).bind fun h7 =>
  (jgI 6 h7 a0 13).bind fun v11 =>
  if v11 < (8 : Int32) then (some h7)
  else ((jpf 6 h7 a0 13 (.int (0 : Int32))).bind fun h21 =>
  (jgI 6 h21 a0 14).bind fun v29 =>
  (jpf 6 h21 a0 14 (.int (if (v29 + (1 : Int32)) < (9999 : Int32) then v29 + (1 : Int32) else (9999 : Int32)))).bind fun h37 =>
  some h37)
noncomputable def F_X1_run_5_b (n : Nat) (rc5 : Nat → Nat → Int32 → Int32 → Int32 → jH → Option (Int32 × jH)) (a0 : Nat) (a1 : Nat) (x2 : Int32) (x3 : Int32) (x4 : Int32) (h : jH) : Option (Int32 × jH) :=
  if x2 ≤ x4 then (some (x3, h))
  else ((jcv 1 h a0 (F_X1_fadeAll n a0 a1 h)).bind fun h13 =>
  (jcv 1 h13 a0 (F_X1_catchSome n a0 a1 h13)).bind fun q19 =>
  (jcv 1 q19.2 a0 (F_X1_dropSome n a0 a1 q19.2)).bind fun q24 =>
  (F_X1_turn n a1 q24.2).bind fun h31 =>
  rc5 a0 a1 x2 (x3 + (q19.1 + q24.1)) (x4 + (1 : Int32)) h31)
noncomputable def F_X1_run_5 (n : Nat) : Nat → Nat → Nat → Int32 → Int32 → Int32 → jH → Option (Int32 × jH)
  | 0 => fun _ _ _ _ _ _ => none
  | k + 1 => F_X1_run_5_b n (F_X1_run_5 n k)
noncomputable def F_X1_run (n : Nat) (a0 : Nat) (a1 : Nat) (x2 : Int32) (h : jH) : Option (Int32 × jH) :=
  F_X1_run_5 n n a0 a1 x2 (0 : Int32) (0 : Int32) h
noncomputable def F_X1_tryHours (n : Nat) (a0 : Nat) (a1 : Nat) (x2 : Int32) (x3 : Int32) (h : jH) : Option jH :=
  (jgR 1 h a0 1).bind fun p1 =>
  (jcv 6 h p1 (F_X8_copyFrom n p1 a1 h)).bind fun h5 =>
  (jgR 1 h5 a0 1).bind fun p9 =>
  (jpf 6 h5 p9 16 (.int x3)).bind fun h13 =>
  (jgR 1 h13 a0 1).bind fun p18 =>
  (jcv 1 h13 a0 (F_X1_run n a0 p18 x2 h13)).bind fun q22 =>
  some q22.2
noncomputable def F_X1_goAhead_10_b (n : Nat) (rc10 : Nat → Int32 → Int32 → jH → Option jH) (a0 : Nat) (x2 : Int32) (x3 : Int32) (h : jH) : Option jH :=
  if x2 ≤ x3 then (some h)
  else ((jgR 1 h a0 1).bind fun p17 =>
  (jcv 1 h a0 (F_X1_fadeAll n a0 p17 h)).bind fun h20 =>
  (jgR 1 h20 a0 1).bind fun p24 =>
  (F_X1_turn n p24 h20).bind fun h27 =>
  rc10 a0 x2 (x3 + (1 : Int32)) h27)
noncomputable def F_X1_goAhead_10 (n : Nat) : Nat → Nat → Int32 → Int32 → jH → Option jH
  | 0 => fun _ _ _ _ => none
  | k + 1 => F_X1_goAhead_10_b n (F_X1_goAhead_10 n k)
noncomputable def F_X1_goAhead (n : Nat) (a0 : Nat) (a1 : Nat) (x2 : Int32) (h : jH) : Option jH :=
  (jgR 1 h a0 1).bind fun p1 =>
  (jcv 6 h p1 (F_X8_copyFrom n p1 a1 h)).bind fun h5 =>
  F_X1_goAhead_10 n n a0 x2 (0 : Int32) h5
noncomputable def F_X1_isSomePale_2_b (n : Nat) (rc2 : Nat → Int32 → jH → Option Int32) (a0 : Nat) (x1 : Int32) (h : jH) : Option Int32 :=
  (jgI 6 h a0 5).bind fun v4 =>
  if v4 ≤ x1 then (some (0 : Int32))
  else ((jgR 6 h a0 2).bind fun p11 =>
  (jal 0 h p11 x1).bind fun v15 =>
  if v15 = (99 : Int32) then (some (1 : Int32))
  else (rc2 a0 (x1 + (1 : Int32)) h))
noncomputable def F_X1_isSomePale_2 (n : Nat) : Nat → Nat → Int32 → jH → Option Int32
  | 0 => fun _ _ _ => none
  | k + 1 => F_X1_isSomePale_2_b n (F_X1_isSomePale_2 n k)
noncomputable def F_X1_isSomePale (n : Nat) (a0 : Nat) (h : jH) : Option Int32 :=
  F_X1_isSomePale_2 n n a0 (0 : Int32) h
noncomputable def F_X1_firstPale_10_b (n : Nat) (rc10 : Nat → Int32 → jH → Option (Int32 × jH)) (a0 : Nat) (x2 : Int32) (h : jH) : Option (Int32 × jH) :=
  if (80 : Int32) < x2 then (some ((-1 : Int32), h))
  else ((jgR 1 h a0 1).bind fun p17 =>
  (F_X1_isSomePale n p17 h).bind fun v20 =>
  if v20 = 0 then ((jgR 1 h a0 1).bind fun p30 =>
  (jcv 1 h a0 (F_X1_fadeAll n a0 p30 h)).bind fun h33 =>
  (jgR 1 h33 a0 1).bind fun p37 =>
  (F_X1_turn n p37 h33).bind fun h40 =>
  rc10 a0 (x2 + (1 : Int32)) h40)
  else (some (x2, h)))
noncomputable def F_X1_firstPale_10 (n : Nat) : Nat → Nat → Int32 → jH → Option (Int32 × jH)
  | 0 => fun _ _ _ => none
  | k + 1 => F_X1_firstPale_10_b n (F_X1_firstPale_10 n k)
noncomputable def F_X1_firstPale (n : Nat) (a0 : Nat) (a1 : Nat) (h : jH) : Option (Int32 × jH) :=
  (jgR 1 h a0 1).bind fun p1 =>
  (jcv 6 h p1 (F_X8_copyFrom n p1 a1 h)).bind fun h5 =>
  F_X1_firstPale_10 n n a0 (0 : Int32) h5
noncomputable def F_X1_oddsToStay_25_b (n : Nat) (rc25 : Int32 → Int32 → Int32 → Int32 → jH → Option (Int32 × jH)) (x3 : Int32) (x4 : Int32) (x5 : Int32) (x6 : Int32) (h : jH) : Option (Int32 × jH) :=
  if x3 ≤ x6 then (some (x5, h))
  else (rc25 x3 x4 ((x5 * ((100 : Int32) - x4)) / (100 : Int32)) (x6 + (1 : Int32)) h)
noncomputable def F_X1_oddsToStay_25 (n : Nat) : Nat → Int32 → Int32 → Int32 → Int32 → jH → Option (Int32 × jH)
  | 0 => fun _ _ _ _ _ => none
  | k + 1 => F_X1_oddsToStay_25_b n (F_X1_oddsToStay_25 n k)
noncomputable def F_X1_oddsToStay (n : Nat) (a0 : Nat) (a1 : Nat) (x2 : Int32) (x3 : Int32) (h : jH) : Option (Int32 × jH) :=
  (jgR 1 h a0 0).bind fun p3 =>
  (jcv 2 h p3 (F_X2_amount n p3 (2 : Int32) a1 x2 h)).bind fun q9 =>
  F_X1_oddsToStay_25 n n x3 (if q9.1 < (100 : Int32) then q9.1 else (100 : Int32)) (10000 : Int32) (0 : Int32) q9.2
noncomputable def F_X2_init (n : Nat) (a0 : Nat) (h : jH) : Option jH :=
  (jnw h (.inr (.inl (0, 12, fun _ => 0)))).bind fun h7 =>
  (jpf 2 h7 a0 0 (.ref h.1)).bind fun h9 =>
  (jnw h9 (.inr (.inl (0, 12, fun _ => 0)))).bind fun h15 =>
  (jpf 2 h15 a0 1 (.ref h9.1)).bind fun h17 =>
  (jnw h17 (.inr (.inl (0, 12, fun _ => 0)))).bind fun h23 =>
  (jpf 2 h23 a0 2 (.ref h17.1)).bind fun h25 =>
  (jnw h25 (.inr (.inl (0, 400, fun _ => 0)))).bind fun h32 =>
  (jpf 2 h32 a0 3 (.ref h25.1)).bind fun h34 =>
  (jnw h34 (.inr (.inl (0, 24, fun _ => 0)))).bind fun h40 =>
  (jpf 2 h40 a0 4 (.ref h34.1)).bind fun h42 =>
  some h42
noncomputable def F_X2_begin (n : Nat) (a0 : Nat) (h : jH) : Option jH :=
  (jpf 2 h a0 7 (.int (1 : Int32))).bind fun h2 =>
  (jpf 2 h2 a0 8 (.int (0 : Int32))).bind fun h7 =>
  (jpf 2 h7 a0 6 (.int (0 : Int32))).bind fun h12 =>
  some h12
noncomputable def F_X2_copyFrom (n : Nat) (a0 : Nat) (a1 : Nat) (h : jH) : Option jH :=
  (jgR 2 h a1 0).bind fun p1 =>
  (jgR 2 h a0 0).bind fun p6 =>
  (jcp h p1 (0 : Int32) p6 (0 : Int32) (12 : Int32)).bind fun h12 =>
  (jgR 2 h12 a1 1).bind fun p16 =>
  (jgR 2 h12 a0 1).bind fun p21 =>
  (jcp h12 p16 (0 : Int32) p21 (0 : Int32) (12 : Int32)).bind fun h27 =>
  (jgR 2 h27 a1 2).bind fun p31 =>
  (jgR 2 h27 a0 2).bind fun p36 =>
  (jcp h27 p31 (0 : Int32) p36 (0 : Int32) (12 : Int32)).bind fun h42 =>
  (jgR 2 h42 a1 3).bind fun p46 =>
  (jgR 2 h42 a0 3).bind fun p51 =>
  (jcp h42 p46 (0 : Int32) p51 (0 : Int32) (400 : Int32)).bind fun h58 =>
  (jgI 2 h58 a1 6).bind fun v63 =>
  (jpf 2 h58 a0 6 (.int v63)).bind fun h66 =>
  (jgI 2 h66 a1 7).bind fun v71 =>
  if v71 = 0 ∨ v71 = 1 then
  ((jpf 2 h66 a0 7 (.int v71)).bind fun h74 =>
  (jgI 2 h74 a1 8).bind fun v79 =>
  (jpf 2 h74 a0 8 (.int v79)).bind fun h82 =>
  some h82
  ) else none
noncomputable def F_X2_addLine (n : Nat) (a0 : Nat) (x1 : Int32) (x2 : Int32) (h : jH) : Option jH :=
  (jgI 2 h a0 8).bind fun v1 =>
  if (12 : Int32) ≤ v1 then (some h)
  else ((jgR 2 h a0 0).bind fun p10 =>
  (jgI 2 h a0 8).bind fun v14 =>
  (jas 0 h p10 v14 x1).bind fun h18 =>
  (jgR 2 h18 a0 1).bind fun p20 =>
  (jgI 2 h18 a0 8).bind fun v24 =>
  (jas 0 h18 p20 v24 x2).bind fun h28 =>
  (jgR 2 h28 a0 2).bind fun p30 =>
  (jgI 2 h28 a0 8).bind fun v34 =>
  (jgI 2 h28 a0 6).bind fun v38 =>
  (jas 0 h28 p30 v34 v38).bind fun h41 =>
  (jgI 2 h41 a0 8).bind fun v44 =>
  (jpf 2 h41 a0 8 (.int (v44 + (1 : Int32)))).bind fun h49 =>
  some h49)
noncomputable def F_X2_addCode (n : Nat) (a0 : Nat) (x1 : Int32) (h : jH) : Option jH :=
  (jgI 2 h a0 6).bind fun v1 =>
  if (400 : Int32) ≤ v1 then (some h)
  else ((jgI 2 h a0 8).bind fun v11 =>
  if v11 ≤ 0 then (some h)
  else ((jgR 2 h a0 3).bind fun p18 =>
  (jgI 2 h a0 6).bind fun v22 =>
  (jas 0 h p18 v22 x1).bind fun h26 =>
  (jgI 2 h26 a0 6).bind fun v29 =>
  (jpf 2 h26 a0 6 (.int (v29 + (1 : Int32)))).bind fun h34 =>
  (jgR 2 h34 a0 2).bind fun p38 =>
  (jgI 2 h34 a0 8).bind fun v42 =>
  (jgI 2 h34 a0 6).bind fun v48 =>
  (jas 0 h34 p38 (v42 - (1 : Int32)) v48).bind fun h51 =>
  some h51))
noncomputable def F_X4_init_L (n : Nat) (a0 : Nat) (a1 : Nat) (x2 : Int32) (h : jH) : Option jH :=
  (jpf 3 h a0 0 (.ref a1)).bind fun h6 =>
  (jpf 3 h6 a0 1 (.int x2)).bind fun h11 =>
  some h11
noncomputable def F_X3_init (n : Nat) (a0 : Nat) (a1 : Nat) (a2 : Nat) (h : jH) : Option jH :=
  (F_X4_init_L n a0 a1 (12 : Int32) h).bind fun h4 =>
  (jpf 3 h4 a0 2 (.ref a2)).bind fun h9 =>
  some h9
noncomputable def F_X10_kind (n : Nat) (a0 : Nat) (h : jH) : Option Int32 :=
  (jgI 8 h a0 5).bind fun v1 =>
  (jgI 8 h a0 4).bind fun v5 =>
  if v5 ≤ v1 then (some (-1 : Int32))
  else ((jgR 8 h a0 1).bind fun p12 =>
  (jgI 8 h a0 5).bind fun v16 =>
  (jal 0 h p12 v16).bind fun v19 =>
  some v19)
noncomputable def F_X10_skip (n : Nat) (a0 : Nat) (h : jH) : Option jH :=
  (jgI 8 h a0 5).bind fun v1 =>
  (jgI 8 h a0 4).bind fun v5 =>
  if v5 ≤ v1 then (some h)
  else ((jgI 8 h a0 5).bind fun v13 =>
  (jpf 8 h a0 5 (.int (v13 + (1 : Int32)))).bind fun h18 =>
  some h18)
noncomputable def F_X10_takeNumber (n : Nat) (a0 : Nat) (x1 : Int32) (x2 : Int32) (h : jH) : Option (Int32 × jH) :=
  (jgI 8 h a0 5).bind fun v1 =>
  (jgI 8 h a0 4).bind fun v5 =>
  if v5 ≤ v1 then (some ((-1 : Int32), h))
  else ((jgR 8 h a0 1).bind fun p12 =>
  (jgI 8 h a0 5).bind fun v16 =>
  (jal 0 h p12 v16).bind fun v19 =>
  if v19 = (-3 : Int32) then ((jgR 8 h a0 3).bind fun p26 =>
  (jgI 8 h a0 5).bind fun v30 =>
  (jal 0 h p26 v30).bind fun v33 =>
  if v33 < x1 then (some ((-1 : Int32), h))
  else ((jgR 8 h a0 3).bind fun p39 =>
  (jgI 8 h a0 5).bind fun v43 =>
  (jal 0 h p39 v43).bind fun v46 =>
  if v46 ≤ x2 then ((jgI 8 h a0 5).bind fun v55 =>
  (jpf 8 h a0 5 (.int (v55 + (1 : Int32)))).bind fun h60 =>
  (jgR 8 h60 a0 3).bind fun p64 =>
  (jgI 8 h60 a0 5).bind fun v68 =>
  (jal 0 h60 p64 (v68 - (1 : Int32))).bind fun v73 =>
  some (v73, h60))
  else (some ((-1 : Int32), h))))
  else (some ((-1 : Int32), h)))
noncomputable def F_X10_take (n : Nat) (a0 : Nat) (x1 : Int32) (h : jH) : Option (Int32 × jH) :=
  (jgI 8 h a0 5).bind fun v1 =>
  (jgI 8 h a0 4).bind fun v5 =>
  if v5 ≤ v1 then (some ((0 : Int32), h))
  else ((jgR 8 h a0 1).bind fun p12 =>
  (jgI 8 h a0 5).bind fun v16 =>
  (jal 0 h p12 v16).bind fun v19 =>
  if v19 = x1 then ((jgI 8 h a0 5).bind fun v28 =>
  (jpf 8 h a0 5 (.int (v28 + (1 : Int32)))).bind fun h33 =>
  some ((1 : Int32), h33))
  else (some ((0 : Int32), h)))
noncomputable def F_X3_readSum_94 (n : Nat) (rc4 : Nat → Int32 → Int32 → jH → Option (Int32 × jH)) (a0 : Nat) (x2 : Int32) (h : jH) : Option (Int32 × jH) :=
  (jgR 3 h a0 0).bind fun p95 =>
  (jcv 8 h p95 (F_X10_take n p95 (43 : Int32) h)).bind fun q100 =>
  if q100.1 = 0 then (some ((1 : Int32), q100.2))
  else (rc4 a0 q100.1 (x2 + (1 : Int32)) q100.2)
noncomputable def F_X3_readSum_81 (n : Nat) (rc4 : Nat → Int32 → Int32 → jH → Option (Int32 × jH)) (a0 : Nat) (x1 : Int32) (x2 : Int32) (h : jH) : Option (Int32 × jH) :=
  if x1 = 0 then (F_X3_readSum_94 n rc4 a0 x2 h)
  else ((jgR 3 h a0 2).bind fun p86 =>
  (jcv 2 h p86 (F_X2_addCode n p86 (43 : Int32) h)).bind fun h91 =>
  F_X3_readSum_94 n rc4 a0 x2 h91)
noncomputable def F_X3_readSum_47 (n : Nat) (rc4 : Nat → Int32 → Int32 → jH → Option (Int32 × jH)) (a0 : Nat) (x1 : Int32) (x2 : Int32) (h : jH) : Option (Int32 × jH) :=
  (jgR 3 h a0 0).bind fun p48 =>
  (jcv 8 h p48 (F_X10_takeNumber n p48 (0 : Int32) (999 : Int32) h)).bind fun q55 =>
  if q55.1 = (-1 : Int32) then (some ((0 : Int32), q55.2))
  else ((jgR 3 q55.2 a0 2).bind fun p69 =>
  (jcv 2 q55.2 p69 (F_X2_addCode n p69 ((256 : Int32) + q55.1) q55.2)).bind fun h78 =>
  F_X3_readSum_81 n rc4 a0 x1 x2 h78)
noncomputable def F_X3_readSum_4_b (n : Nat) (rc4 : Nat → Int32 → Int32 → jH → Option (Int32 × jH)) (a0 : Nat) (x1 : Int32) (x2 : Int32) (h : jH) : Option (Int32 × jH) :=
  if (400 : Int32) ≤ x2 then (some ((0 : Int32), h))
  else ((jgR 3 h a0 0).bind fun p12 =>
  (jcv 8 h p12 (F_X10_kind n p12 h)).bind fun v15 =>
  if v15 < 0 then (F_X3_readSum_47 n rc4 a0 x1 x2 h)
  else (if (6 : Int32) < v15 then (F_X3_readSum_47 n rc4 a0 x1 x2 h)
  else ((jgR 3 h a0 0).bind fun p30 =>
  (jcv 8 h p30 (F_X10_skip n p30 h)).bind fun h33 =>
  (jgR 3 h33 a0 2).bind fun p37 =>
  (jcv 2 h33 p37 (F_X2_addCode n p37 v15 h33)).bind fun h41 =>
  F_X3_readSum_81 n rc4 a0 x1 x2 h41)))
noncomputable def F_X3_readSum_4 (n : Nat) : Nat → Nat → Int32 → Int32 → jH → Option (Int32 × jH)
  | 0 => fun _ _ _ _ => none
  | k + 1 => F_X3_readSum_4_b n (F_X3_readSum_4 n k)
noncomputable def F_X3_readSum (n : Nat) (a0 : Nat) (h : jH) : Option (Int32 × jH) :=
  F_X3_readSum_4 n n a0 (0 : Int32) (0 : Int32) h
noncomputable def F_X3_readComparison_43 (n : Nat) (a0 : Nat) (x1 : Int32) (h : jH) : Option (Int32 × jH) :=
  (jcv 3 h a0 (F_X3_readSum n a0 h)).bind fun q44 =>
  (jgR 3 q44.2 a0 2).bind fun p49 =>
  (jcv 2 q44.2 p49 (F_X2_addCode n p49 x1 q44.2)).bind fun h53 =>
  if q44.1 = 0 ∨ q44.1 = 1 then some (q44.1, h53) else none
noncomputable def F_X3_readComparison (n : Nat) (a0 : Nat) (h : jH) : Option (Int32 × jH) :=
  (jcv 3 h a0 (F_X3_readSum n a0 h)).bind fun q1 =>
  if q1.1 = 0 then (some ((0 : Int32), q1.2))
  else ((jgR 3 q1.2 a0 0).bind fun p10 =>
  (jcv 8 q1.2 p10 (F_X10_kind n p10 q1.2)).bind fun v13 =>
  (jgR 3 q1.2 a0 0).bind fun p18 =>
  (jcv 8 q1.2 p18 (F_X10_take n p18 (60 : Int32) q1.2)).bind fun q23 =>
  if q23.1 = 0 then ((jgR 3 q23.2 a0 0).bind fun p30 =>
  (jcv 8 q23.2 p30 (F_X10_take n p30 (62 : Int32) q23.2)).bind fun q35 =>
  if q35.1 = 0 then (some ((0 : Int32), q35.2))
  else (F_X3_readComparison_43 n a0 v13 q35.2))
  else (F_X3_readComparison_43 n a0 v13 q23.2))
noncomputable def F_X3_readCondition_65 (n : Nat) (g0 : Nat → Int32 → jH → Option (Int32 × jH)) (g1 : Nat → Int32 → jH → Option (Int32 × jH)) (rc7 : Nat → Int32 → Int32 → Int32 → Int32 → jH → Option (Int32 × jH)) (a0 : Nat) (x1 : Int32) (x2 : Int32) (x4 : Int32) (h : jH) : Option (Int32 × jH) :=
  (jgR 3 h a0 0).bind fun p66 =>
  (jcv 8 h p66 (F_X10_take n p66 (13 : Int32) h)).bind fun q71 =>
  if q71.1 = 0 then (some ((1 : Int32), q71.2))
  else (rc7 a0 x1 x2 q71.1 (x4 + (1 : Int32)) q71.2)
noncomputable def F_X3_readCondition_38 (n : Nat) (g0 : Nat → Int32 → jH → Option (Int32 × jH)) (g1 : Nat → Int32 → jH → Option (Int32 × jH)) (rc7 : Nat → Int32 → Int32 → Int32 → Int32 → jH → Option (Int32 × jH)) (a0 : Nat) (x1 : Int32) (x3 : Int32) (x4 : Int32) (h : jH) : Option (Int32 × jH) :=
  (jgR 3 h a0 0).bind fun p39 =>
  (jcv 8 h p39 (F_X10_take n p39 (12 : Int32) h)).bind fun q44 =>
  if q44.1 = 0 then (if x3 = 0 then (F_X3_readCondition_65 n g0 g1 rc7 a0 x1 q44.1 x4 q44.2)
  else ((jgR 3 q44.2 a0 2).bind fun p57 =>
  (jcv 2 q44.2 p57 (F_X2_addCode n p57 (13 : Int32) q44.2)).bind fun h62 =>
  F_X3_readCondition_65 n g0 g1 rc7 a0 x1 q44.1 x4 h62))
  else (rc7 a0 x1 q44.1 x3 (x4 + (1 : Int32)) q44.2)
noncomputable def F_X3_readCondition_7_b (n : Nat) (g0 : Nat → Int32 → jH → Option (Int32 × jH)) (g1 : Nat → Int32 → jH → Option (Int32 × jH)) (rc7 : Nat → Int32 → Int32 → Int32 → Int32 → jH → Option (Int32 × jH)) (a0 : Nat) (x1 : Int32) (x2 : Int32) (x3 : Int32) (x4 : Int32) (h : jH) : Option (Int32 × jH) :=
  if (400 : Int32) ≤ x4 then (some ((0 : Int32), h))
  else ((jcv 3 h a0 (g1 a0 x1 h)).bind fun q17 =>
  if q17.1 = 0 then (some ((0 : Int32), q17.2))
  else (if x2 = 0 then (F_X3_readCondition_38 n g0 g1 rc7 a0 x1 x3 x4 q17.2)
  else ((jgR 3 q17.2 a0 2).bind fun p30 =>
  (jcv 2 q17.2 p30 (F_X2_addCode n p30 (12 : Int32) q17.2)).bind fun h35 =>
  F_X3_readCondition_38 n g0 g1 rc7 a0 x1 x3 x4 h35)))
noncomputable def F_X3_readCondition_7 (n : Nat) (g0 : Nat → Int32 → jH → Option (Int32 × jH)) (g1 : Nat → Int32 → jH → Option (Int32 × jH)) : Nat → Nat → Int32 → Int32 → Int32 → Int32 → jH → Option (Int32 × jH)
  | 0 => fun _ _ _ _ _ _ => none
  | k + 1 => F_X3_readCondition_7_b n g0 g1 (F_X3_readCondition_7 n g0 g1 k)
noncomputable def F_X3_readCondition (n : Nat) (g0 : Nat → Int32 → jH → Option (Int32 × jH)) (g1 : Nat → Int32 → jH → Option (Int32 × jH)) (a0 : Nat) (x1 : Int32) (h : jH) : Option (Int32 × jH) :=
  F_X3_readCondition_7 n g0 g1 n a0 x1 (0 : Int32) (0 : Int32) (0 : Int32) h
noncomputable def F_X3_readAtom_128 (n : Nat) (g0 : Nat → Int32 → jH → Option (Int32 × jH)) (g1 : Nat → Int32 → jH → Option (Int32 × jH)) (a0 : Nat) (h : jH) : Option (Int32 × jH) :=
  (jcv 3 h a0 (F_X3_readComparison n a0 h)).bind fun q129 =>
  if q129.1 = 0 ∨ q129.1 = 1 then some (q129.1, q129.2) else none
noncomputable def F_X3_readAtom_28 (n : Nat) (g0 : Nat → Int32 → jH → Option (Int32 × jH)) (g1 : Nat → Int32 → jH → Option (Int32 × jH)) (a0 : Nat) (x1 : Int32) (x2 : Int32) (h : jH) : Option (Int32 × jH) :=
  (jgR 3 h a0 0).bind fun p29 =>
  (jcv 8 h p29 (F_X10_take n p29 (11 : Int32) h)).bind fun q34 =>
  if q34.1 = 0 then ((jgR 3 q34.2 a0 0).bind fun p60 =>
  (jcv 8 q34.2 p60 (F_X10_take n p60 (40 : Int32) q34.2)).bind fun q65 =>
  if q65.1 = 0 then (if x2 < (7 : Int32) then (F_X3_readAtom_128 n g0 g1 a0 q65.2)
  else (if (10 : Int32) < x2 then (F_X3_readAtom_128 n g0 g1 a0 q65.2)
  else ((jgR 3 q65.2 a0 0).bind fun p112 =>
  (jcv 8 q65.2 p112 (F_X10_skip n p112 q65.2)).bind fun h115 =>
  (jgR 3 h115 a0 2).bind fun p119 =>
  (jcv 2 h115 p119 (F_X2_addCode n p119 x2 h115)).bind fun h123 =>
  some ((1 : Int32), h123))))
  else ((jcv 3 q65.2 a0 (g0 a0 (x1 + (1 : Int32)) q65.2)).bind fun q75 =>
  if q75.1 = 0 then (some ((0 : Int32), q75.2))
  else ((jgR 3 q75.2 a0 0).bind fun p82 =>
  (jcv 8 q75.2 p82 (F_X10_take n p82 (41 : Int32) q75.2)).bind fun q87 =>
  if q87.1 = 0 then (some ((0 : Int32), q87.2))
  else (some ((1 : Int32), q87.2)))))
  else ((jcv 3 q34.2 a0 (g1 a0 (x1 + (1 : Int32)) q34.2)).bind fun q44 =>
  (jgR 3 q44.2 a0 2).bind fun p49 =>
  (jcv 2 q44.2 p49 (F_X2_addCode n p49 (11 : Int32) q44.2)).bind fun h54 =>
  if q44.1 = 0 ∨ q44.1 = 1 then some (q44.1, h54) else none)
noncomputable def F_X3_readAtom_20 (n : Nat) (g0 : Nat → Int32 → jH → Option (Int32 × jH)) (g1 : Nat → Int32 → jH → Option (Int32 × jH)) (a0 : Nat) (x1 : Int32) (x2 : Int32) (h : jH) : Option (Int32 × jH) :=
  if x1 < (6 : Int32) then (F_X3_readAtom_28 n g0 g1 a0 x1 x2 h)
  else (some ((0 : Int32), h))
noncomputable def F_X3_readAtom (n : Nat) (g0 : Nat → Int32 → jH → Option (Int32 × jH)) (g1 : Nat → Int32 → jH → Option (Int32 × jH)) (a0 : Nat) (x1 : Int32) (h : jH) : Option (Int32 × jH) :=
  (jgR 3 h a0 0).bind fun p1 =>
  (jcv 8 h p1 (F_X10_kind n p1 h)).bind fun v4 =>
  if v4 = (11 : Int32) then (F_X3_readAtom_20 n g0 g1 a0 x1 v4 h)
  else (if v4 = (40 : Int32) then (F_X3_readAtom_20 n g0 g1 a0 x1 v4 h)
  else (F_X3_readAtom_28 n g0 g1 a0 x1 v4 h))
noncomputable def FG_RC (n : Nat) : Nat → Nat → Nat → Int32 → jH → Option (Int32 × jH)
  | 0 => fun _ _ _ _ => none
  | d + 1 => fun w =>
    if w = 0 then F_X3_readCondition n (FG_RC n d 0) (FG_RC n d 1) else F_X3_readAtom n (FG_RC n d 0) (FG_RC n d 1)
noncomputable def F_X3_readLine_76 (n : Nat) (a0 : Nat) (x2 : Int32) (sa0 : Nat) (s1 : Int32) (h : jH) : Option (Int32 × jH) :=
  (jcv 2 h sa0 (F_X2_addLine n sa0 s1 x2 h)).bind fun h77 =>
  (jgR 3 h77 a0 0).bind fun p81 =>
  (jcv 8 h77 p81 (F_X10_take n p81 (14 : Int32) h77)).bind fun q86 =>
  if q86.1 = 0 then (some ((1 : Int32), q86.2))
  else ((jcv 3 q86.2 a0 (FG_RC n 20 0 a0 (0 : Int32) q86.2)).bind fun q94 =>
  if q94.1 = 0 then (some ((0 : Int32), q94.2))
  else (some ((1 : Int32), q94.2)))
noncomputable def F_X3_readLine_27 (n : Nat) (a0 : Nat) (x1 : Int32) (h : jH) : Option (Int32 × jH) :=
  (jgR 3 h a0 0).bind fun p28 =>
  (jcv 8 h p28 (F_X10_skip n p28 h)).bind fun h31 =>
  (jgR 3 h31 a0 0).bind fun p35 =>
  (jcv 8 h31 p35 (F_X10_takeNumber n p35 (0 : Int32) (100 : Int32) h31)).bind fun q41 =>
  if q41.1 = (-1 : Int32) then (some ((0 : Int32), q41.2))
  else ((jgR 3 q41.2 a0 2).bind fun p53 =>
  if x1 = (3 : Int32) then (F_X3_readLine_76 n a0 q41.1 p53 (0 : Int32) q41.2)
  else (if x1 = (15 : Int32) then (F_X3_readLine_76 n a0 q41.1 p53 (1 : Int32) q41.2)
  else (F_X3_readLine_76 n a0 q41.1 p53 (2 : Int32) q41.2)))
noncomputable def F_X3_readLine (n : Nat) (a0 : Nat) (h : jH) : Option (Int32 × jH) :=
  (jgR 3 h a0 0).bind fun p1 =>
  (jcv 8 h p1 (F_X10_kind n p1 h)).bind fun v4 =>
  if v4 = (3 : Int32) then (F_X3_readLine_27 n a0 v4 h)
  else (if v4 = (15 : Int32) then (F_X3_readLine_27 n a0 v4 h)
  else (if v4 = (16 : Int32) then (F_X3_readLine_27 n a0 v4 h)
  else (some ((0 : Int32), h))))
noncomputable def F_J9_floorMod_7cf53 (n : Nat) (x0 : Int32) (x1 : Int32) (h : jH) : Option Int32 :=
  if x1 = 0 then none else
  if 0 ≤ (x0 ^^^ x1) then (some (x0 - x0 / x1 * x1))
  else (if (x0 - x0 / x1 * x1) = 0 then (some (x0 - x0 / x1 * x1))
  else (some ((x0 - x0 / x1 * x1) + x1)))
noncomputable def F_X5_read (n : Nat) (a0 : Nat) (x1 : Int32) (x2 : Int32) (h : jH) : Option Int32 :=
  if x1 < 0 then (some (-1 : Int32))
  else ((jgI 4 h a0 1).bind fun v6 =>
  if v6 ≤ x1 then (some (-1 : Int32))
  else (if x2 < 0 then (some (-1 : Int32))
  else (if x2 < (6 : Int32) then ((jgR 4 h a0 0).bind fun p25 =>
  (jgI 4 h a0 2).bind fun v29 =>
  (F_J9_floorMod_7cf53 n ((v29 - (1 : Int32)) - x1) (60 : Int32) h).bind fun v38 =>
  (jal 0 h p25 v38).bind fun v41 =>
  if x2 < 0 ∨ 6 ≤ x2.toNatClampNeg then none else
  if x2 < 0 ∨ 6 ≤ x2.toNatClampNeg then none else
  some ((jushr v41 (jshf.getD x2.toNatClampNeg 0)) &&& (jmsk.getD x2.toNatClampNeg 0)))
  else (some (-1 : Int32)))))
noncomputable def F_X5_rowsOf_4_b (n : Nat) (rc4 : Nat → Int32 → Int32 → Int32 → jH → Option Int32) (a0 : Nat) (x1 : Int32) (x2 : Int32) (x3 : Int32) (h : jH) : Option Int32 :=
  (jgI 4 h a0 1).bind fun v6 =>
  if v6 ≤ x3 then (some x2)
  else ((jcv 4 h a0 (F_X5_read n a0 x3 (2 : Int32) h)).bind fun v15 =>
  if v15 = x1 then (rc4 a0 x1 (x2 + (1 : Int32)) (x3 + (1 : Int32)) h)
  else (rc4 a0 x1 x2 (x3 + (1 : Int32)) h))
noncomputable def F_X5_rowsOf_4 (n : Nat) : Nat → Nat → Int32 → Int32 → Int32 → jH → Option Int32
  | 0 => fun _ _ _ _ _ => none
  | k + 1 => F_X5_rowsOf_4_b n (F_X5_rowsOf_4 n k)
noncomputable def F_X5_rowsOf (n : Nat) (a0 : Nat) (x1 : Int32) (h : jH) : Option Int32 :=
  F_X5_rowsOf_4 n n a0 x1 (0 : Int32) (0 : Int32) h
noncomputable def F_X5_latestPlace_2_b (n : Nat) (rc2 : Nat → Int32 → Int32 → jH → Option Int32) (a0 : Nat) (x1 : Int32) (x2 : Int32) (h : jH) : Option Int32 :=
  (jgI 4 h a0 1).bind fun v4 =>
  if v4 ≤ x2 then (some (-1 : Int32))
  else ((jcv 4 h a0 (F_X5_read n a0 x2 (2 : Int32) h)).bind fun v13 =>
  if v13 = x1 then ((jcv 4 h a0 (F_X5_read n a0 x2 (5 : Int32) h)).bind fun v23 =>
  some v23)
  else (rc2 a0 x1 (x2 + (1 : Int32)) h))
noncomputable def F_X5_latestPlace_2 (n : Nat) : Nat → Nat → Int32 → Int32 → jH → Option Int32
  | 0 => fun _ _ _ _ => none
  | k + 1 => F_X5_latestPlace_2_b n (F_X5_latestPlace_2 n k)
noncomputable def F_X5_latestPlace (n : Nat) (a0 : Nat) (x1 : Int32) (h : jH) : Option Int32 :=
  F_X5_latestPlace_2 n n a0 x1 (0 : Int32) h
noncomputable def F_X6_hangsBy_22_b (n : Nat) (rc22 : Nat → Int32 → Int32 → Int32 → Int32 → jH → Option Int32) (a0 : Nat) (x1 : Int32) (x2 : Int32) (x3 : Int32) (x4 : Int32) (h : jH) : Option Int32 :=
  (jgI 6 h a0 5).bind fun v25 =>
  if v25 ≤ x4 then (some x2)
  else ((jgR 6 h a0 0).bind fun p32 =>
  (jal 0 h p32 x4).bind fun v37 =>
  (jgR 6 h a0 0).bind fun p39 =>
  (jal 0 h p39 x1).bind fun v43 =>
  (jgI 6 h a0 8).bind fun v51 =>
  (F_X11_bit n v51 x4 h).bind fun v56 =>
  if v56 = (1 : Int32) then (if x3 ≤ (if 0 ≤ v37 - v43 then v37 - v43 else 0 - (v37 - v43)) then (rc22 a0 x1 x2 x3 (x4 + (1 : Int32)) h)
  else (rc22 a0 x1 x4 (if 0 ≤ v37 - v43 then v37 - v43 else 0 - (v37 - v43)) (x4 + (1 : Int32)) h))
  else (rc22 a0 x1 x2 x3 (x4 + (1 : Int32)) h))
noncomputable def F_X6_hangsBy_22 (n : Nat) : Nat → Nat → Int32 → Int32 → Int32 → Int32 → jH → Option Int32
  | 0 => fun _ _ _ _ _ _ => none
  | k + 1 => F_X6_hangsBy_22_b n (F_X6_hangsBy_22 n k)
noncomputable def F_X6_hangsBy (n : Nat) (a0 : Nat) (x1 : Int32) (h : jH) : Option Int32 :=
  (jgI 6 h a0 8).bind fun v1 =>
  (F_X11_bit n v1 x1 h).bind fun v5 =>
  if v5 = (1 : Int32) then (some x1)
  else (F_X6_hangsBy_22 n n a0 x1 (-1 : Int32) (32 : Int32) (0 : Int32) h)
noncomputable def F_X8_allFades_4_b (n : Nat) (rc4 : Nat → Int32 → Int32 → jH → Option Int32) (a0 : Nat) (x1 : Int32) (x2 : Int32) (h : jH) : Option Int32 :=
  (jgI 6 h a0 5).bind fun v6 =>
  if v6 ≤ x2 then (some x1)
  else ((jgR 6 h a0 2).bind fun p14 =>
  (jal 0 h p14 x2).bind fun v18 =>
  rc4 a0 (x1 + v18) (x2 + (1 : Int32)) h)
noncomputable def F_X8_allFades_4 (n : Nat) : Nat → Nat → Int32 → Int32 → jH → Option Int32
  | 0 => fun _ _ _ _ => none
  | k + 1 => F_X8_allFades_4_b n (F_X8_allFades_4 n k)
noncomputable def F_X8_allFades (n : Nat) (a0 : Nat) (h : jH) : Option Int32 :=
  F_X8_allFades_4 n n a0 (0 : Int32) (0 : Int32) h
noncomputable def F_X6_share (n : Nat) (a0 : Nat) (x1 : Int32) (h : jH) : Option Int32 :=
  (jcv 6 h a0 (F_X8_allFades n a0 h)).bind fun v1 =>
  if v1 = 0 then (some (0 : Int32))
  else ((jgR 6 h a0 2).bind fun p16 =>
  (jal 0 h p16 x1).bind fun v20 =>
  if v1 = 0 then none else
  some (((100 : Int32) * v20) / v1))
noncomputable def F_X6_isInOrder_4_b (n : Nat) (rc4 : Nat → Int32 → Int32 → Int32 → jH → Option Int32) (a0 : Nat) (x1 : Int32) (x2 : Int32) (x3 : Int32) (h : jH) : Option Int32 :=
  (jgI 6 h a0 5).bind fun v6 =>
  if v6 ≤ x3 then (some (1 : Int32))
  else ((F_X11_bit n x1 x3 h).bind fun v14 =>
  if v14 = (1 : Int32) then ((jgR 6 h a0 2).bind fun p22 =>
  (jal 0 h p22 x3).bind fun v26 =>
  if x2 ≤ v26 then ((jgR 6 h a0 2).bind fun p34 =>
  (jal 0 h p34 x3).bind fun v38 =>
  rc4 a0 x1 v38 (x3 + (1 : Int32)) h)
  else (some (0 : Int32)))
  else (rc4 a0 x1 x2 (x3 + (1 : Int32)) h))
noncomputable def F_X6_isInOrder_4 (n : Nat) : Nat → Nat → Int32 → Int32 → Int32 → jH → Option Int32
  | 0 => fun _ _ _ _ _ => none
  | k + 1 => F_X6_isInOrder_4_b n (F_X6_isInOrder_4 n k)
noncomputable def F_X6_isInOrder (n : Nat) (a0 : Nat) (x1 : Int32) (h : jH) : Option Int32 :=
  F_X6_isInOrder_4 n n a0 x1 (0 : Int32) (0 : Int32) h
noncomputable def F_J6_bitCount_0f7a4 (n : Nat) (x0 : Int32) (h : jH) : Option Int32 :=
  some ((((((((x0 - ((jushr x0 (1 : Int32)) &&& (1431655765 : Int32))) &&& (858993459 : Int32)) + ((jushr (x0 - ((jushr x0 (1 : Int32)) &&& (1431655765 : Int32))) (2 : Int32)) &&& (858993459 : Int32))) + (jushr (((x0 - ((jushr x0 (1 : Int32)) &&& (1431655765 : Int32))) &&& (858993459 : Int32)) + ((jushr (x0 - ((jushr x0 (1 : Int32)) &&& (1431655765 : Int32))) (2 : Int32)) &&& (858993459 : Int32))) (4 : Int32))) &&& (252645135 : Int32)) + (jushr (((((x0 - ((jushr x0 (1 : Int32)) &&& (1431655765 : Int32))) &&& (858993459 : Int32)) + ((jushr (x0 - ((jushr x0 (1 : Int32)) &&& (1431655765 : Int32))) (2 : Int32)) &&& (858993459 : Int32))) + (jushr (((x0 - ((jushr x0 (1 : Int32)) &&& (1431655765 : Int32))) &&& (858993459 : Int32)) + ((jushr (x0 - ((jushr x0 (1 : Int32)) &&& (1431655765 : Int32))) (2 : Int32)) &&& (858993459 : Int32))) (4 : Int32))) &&& (252645135 : Int32)) (8 : Int32))) + (jushr ((((((x0 - ((jushr x0 (1 : Int32)) &&& (1431655765 : Int32))) &&& (858993459 : Int32)) + ((jushr (x0 - ((jushr x0 (1 : Int32)) &&& (1431655765 : Int32))) (2 : Int32)) &&& (858993459 : Int32))) + (jushr (((x0 - ((jushr x0 (1 : Int32)) &&& (1431655765 : Int32))) &&& (858993459 : Int32)) + ((jushr (x0 - ((jushr x0 (1 : Int32)) &&& (1431655765 : Int32))) (2 : Int32)) &&& (858993459 : Int32))) (4 : Int32))) &&& (252645135 : Int32)) + (jushr (((((x0 - ((jushr x0 (1 : Int32)) &&& (1431655765 : Int32))) &&& (858993459 : Int32)) + ((jushr (x0 - ((jushr x0 (1 : Int32)) &&& (1431655765 : Int32))) (2 : Int32)) &&& (858993459 : Int32))) + (jushr (((x0 - ((jushr x0 (1 : Int32)) &&& (1431655765 : Int32))) &&& (858993459 : Int32)) + ((jushr (x0 - ((jushr x0 (1 : Int32)) &&& (1431655765 : Int32))) (2 : Int32)) &&& (858993459 : Int32))) (4 : Int32))) &&& (252645135 : Int32)) (8 : Int32))) (16 : Int32))) &&& (63 : Int32))
noncomputable def F_X6_outOfOrder_4_b (n : Nat) (rc4 : Nat → Int32 → Int32 → jH → Option Int32) (a0 : Nat) (x1 : Int32) (x2 : Int32) (h : jH) : Option Int32 :=
  (jgI 6 h a0 5).bind fun v7 =>
  if ((1 : Int32) <<< (v7 &&& 31)) ≤ x2 then ((jgI 6 h a0 5).bind fun v38 =>
  some (v38 - x1))
  else ((F_X6_isInOrder n a0 x2 h).bind fun v16 =>
  if v16 = 0 then (rc4 a0 x1 (x2 + (1 : Int32)) h)
  else ((F_J6_bitCount_0f7a4 n x2 h).bind fun v24 =>
  rc4 a0 (if x1 < v24 then v24 else x1) (x2 + (1 : Int32)) h))
noncomputable def F_X6_outOfOrder_4 (n : Nat) : Nat → Nat → Int32 → Int32 → jH → Option Int32
  | 0 => fun _ _ _ _ => none
  | k + 1 => F_X6_outOfOrder_4_b n (F_X6_outOfOrder_4 n k)
noncomputable def F_X6_outOfOrder (n : Nat) (a0 : Nat) (h : jH) : Option Int32 :=
  F_X6_outOfOrder_4 n n a0 (0 : Int32) (0 : Int32) h
noncomputable def F_X6_tightest_8_b (n : Nat) (rc8 : Nat → Int32 → Int32 → Int32 → Int32 → jH → Option Int32) (a0 : Nat) (x1 : Int32) (x2 : Int32) (x3 : Int32) (x4 : Int32) (h : jH) : Option Int32 :=
  (jgI 6 h a0 5).bind fun v13 =>
  if v13 < (x4 + x1) then (some x2)
  else ((jgR 6 h a0 0).bind fun p20 =>
  (jal 0 h p20 ((x4 + x1) - (1 : Int32))).bind fun v29 =>
  (jgR 6 h a0 0).bind fun p31 =>
  (jal 0 h p31 x4).bind fun v36 =>
  if x3 ≤ (v29 - v36) then (rc8 a0 x1 x2 x3 (x4 + (1 : Int32)) h)
  else (rc8 a0 x1 x4 (v29 - v36) (x4 + (1 : Int32)) h))
noncomputable def F_X6_tightest_8 (n : Nat) : Nat → Nat → Int32 → Int32 → Int32 → Int32 → jH → Option Int32
  | 0 => fun _ _ _ _ _ _ => none
  | k + 1 => F_X6_tightest_8_b n (F_X6_tightest_8 n k)
noncomputable def F_X6_tightest (n : Nat) (a0 : Nat) (x1 : Int32) (h : jH) : Option Int32 :=
  F_X6_tightest_8 n n a0 x1 (-1 : Int32) (32 : Int32) (0 : Int32) h
noncomputable def F_X6_spareCloth_4_b (n : Nat) (rc4 : Nat → Int32 → Int32 → jH → Option Int32) (a0 : Nat) (x1 : Int32) (x2 : Int32) (h : jH) : Option Int32 :=
  (jgI 6 h a0 5).bind fun v8 =>
  if v8 ≤ (x2 + (1 : Int32)) then (some x1)
  else ((jgR 6 h a0 1).bind fun p16 =>
  (jal 0 h p16 x2).bind fun v20 =>
  (jcv 6 h a0 (F_X8_gap n a0 x2 (0 : Int32) h)).bind fun v24 =>
  rc4 a0 (x1 + (v20 - v24)) (x2 + (1 : Int32)) h)
noncomputable def F_X6_spareCloth_4 (n : Nat) : Nat → Nat → Int32 → Int32 → jH → Option Int32
  | 0 => fun _ _ _ _ => none
  | k + 1 => F_X6_spareCloth_4_b n (F_X6_spareCloth_4 n k)
noncomputable def F_X6_spareCloth (n : Nat) (a0 : Nat) (h : jH) : Option Int32 :=
  F_X6_spareCloth_4 n n a0 (0 : Int32) (0 : Int32) h
noncomputable def F_X6_tautRings_36 (n : Nat) (rc4 : Nat → Int32 → Int32 → jH → Option Int32) (a0 : Nat) (x2 : Int32) (s0 : Int32) (s1 : Int32) (s2 : Int32) (h : jH) : Option Int32 :=
  (F_X11_withBit n s0 s1 s2 h).bind fun v36 =>
  rc4 a0 v36 (x2 + (1 : Int32)) h
noncomputable def F_X6_tautRings_4_b (n : Nat) (rc4 : Nat → Int32 → Int32 → jH → Option Int32) (a0 : Nat) (x1 : Int32) (x2 : Int32) (h : jH) : Option Int32 :=
  (jgI 6 h a0 5).bind fun v8 =>
  if v8 ≤ (x2 + (1 : Int32)) then (some x1)
  else ((jcv 6 h a0 (F_X8_gap n a0 x2 (0 : Int32) h)).bind fun v19 =>
  (jgR 6 h a0 1).bind fun p23 =>
  (jal 0 h p23 x2).bind fun v27 =>
  if v19 = v27 then (F_X6_tautRings_36 n rc4 a0 x2 x1 x2 (1 : Int32) h)
  else (F_X6_tautRings_36 n rc4 a0 x2 x1 x2 (0 : Int32) h))
noncomputable def F_X6_tautRings_4 (n : Nat) : Nat → Nat → Int32 → Int32 → jH → Option Int32
  | 0 => fun _ _ _ _ => none
  | k + 1 => F_X6_tautRings_4_b n (F_X6_tautRings_4 n k)
noncomputable def F_X6_tautRings (n : Nat) (a0 : Nat) (h : jH) : Option Int32 :=
  F_X6_tautRings_4 n n a0 (0 : Int32) (0 : Int32) h
noncomputable def F_X6_litRings_4_b (n : Nat) (rc4 : Nat → Int32 → Int32 → Int32 → jH → Option Int32) (a0 : Nat) (x1 : Int32) (x2 : Int32) (x3 : Int32) (h : jH) : Option Int32 :=
  (jgI 6 h a0 5).bind fun v6 =>
  if v6 ≤ x3 then (some x2)
  else ((jcv 6 h a0 (F_X8_isLit n a0 x3 x1 h)).bind fun v17 =>
  (F_X11_withBit n x2 x3 v17 h).bind fun v20 =>
  rc4 a0 x1 v20 (x3 + (1 : Int32)) h)
noncomputable def F_X6_litRings_4 (n : Nat) : Nat → Nat → Int32 → Int32 → Int32 → jH → Option Int32
  | 0 => fun _ _ _ _ _ => none
  | k + 1 => F_X6_litRings_4_b n (F_X6_litRings_4 n k)
noncomputable def F_X6_litRings (n : Nat) (a0 : Nat) (x1 : Int32) (h : jH) : Option Int32 :=
  F_X6_litRings_4 n n a0 x1 (0 : Int32) (0 : Int32) h
noncomputable def F_X6_litHours_4_b (n : Nat) (rc4 : Nat → Int32 → Int32 → Int32 → jH → Option Int32) (a0 : Nat) (x1 : Int32) (x2 : Int32) (x3 : Int32) (h : jH) : Option Int32 :=
  if (8 : Int32) ≤ x3 then (some x2)
  else ((jcv 6 h a0 (F_X8_isLit n a0 x1 x3 h)).bind fun v13 =>
  if v13 = 0 then (rc4 a0 x1 x2 (x3 + (1 : Int32)) h)
  else (rc4 a0 x1 (x2 + (1 : Int32)) (x3 + (1 : Int32)) h))
noncomputable def F_X6_litHours_4 (n : Nat) : Nat → Nat → Int32 → Int32 → Int32 → jH → Option Int32
  | 0 => fun _ _ _ _ _ => none
  | k + 1 => F_X6_litHours_4_b n (F_X6_litHours_4 n k)
noncomputable def F_X6_litHours (n : Nat) (a0 : Nat) (x1 : Int32) (h : jH) : Option Int32 :=
  F_X6_litHours_4 n n a0 x1 (0 : Int32) (0 : Int32) h
noncomputable def F_X6_sunniest_6_b (n : Nat) (rc6 : Nat → Int32 → Int32 → Int32 → jH → Option Int32) (a0 : Nat) (x1 : Int32) (x2 : Int32) (x3 : Int32) (h : jH) : Option Int32 :=
  (jgI 6 h a0 5).bind fun v8 =>
  if v8 ≤ x3 then (some x1)
  else ((F_X6_litHours n a0 x3 h).bind fun v16 =>
  if v16 ≤ x2 then (rc6 a0 x1 x2 (x3 + (1 : Int32)) h)
  else (rc6 a0 x3 v16 (x3 + (1 : Int32)) h))
noncomputable def F_X6_sunniest_6 (n : Nat) : Nat → Nat → Int32 → Int32 → Int32 → jH → Option Int32
  | 0 => fun _ _ _ _ _ => none
  | k + 1 => F_X6_sunniest_6_b n (F_X6_sunniest_6 n k)
noncomputable def F_X6_sunniest (n : Nat) (a0 : Nat) (h : jH) : Option Int32 :=
  F_X6_sunniest_6 n n a0 (-1 : Int32) (-1 : Int32) (0 : Int32) h
noncomputable def F_X6_evenLength_67 (n : Nat) (x1 : Int32) (x2 : Int32) (x4 : Int32) (x5 : Int32) (s0 : Int32) (s1 : Int32) (h : jH) : Option Int32 :=
  if (s0 + s1) ≤ x2 then (if x5 ≤ x1 then (some x4)
  else (some (x4 + (1 : Int32))))
  else (some (-1 : Int32))
noncomputable def F_X6_evenLength_14_b (n : Nat) (rc14 : Nat → Int32 → Int32 → Int32 → Int32 → jH → Option Int32) (a0 : Nat) (x1 : Int32) (x2 : Int32) (x3 : Int32) (x4 : Int32) (h : jH) : Option Int32 :=
  (jgI 6 h a0 5).bind fun v17 =>
  if v17 ≤ x4 then ((jgI 6 h a0 5).bind fun v41 =>
  if v41 = 0 then none else
  (jgI 6 h a0 5).bind fun v49 =>
  if v49 = 0 then none else
  if (x3 - x3 / v49 * v49) ≤ 0 then (F_X6_evenLength_67 n x1 x2 (x3 / v41) (x3 - x3 / v49 * v49) (x3 / v41) (0 : Int32) h)
  else (F_X6_evenLength_67 n x1 x2 (x3 / v41) (x3 - x3 / v49 * v49) (x3 / v41) (1 : Int32) h))
  else ((jgR 6 h a0 3).bind fun p25 =>
  (jal 0 h p25 x4).bind fun v30 =>
  rc14 a0 x1 x2 (x3 + v30) (x4 + (1 : Int32)) h)
noncomputable def F_X6_evenLength_14 (n : Nat) : Nat → Nat → Int32 → Int32 → Int32 → Int32 → jH → Option Int32
  | 0 => fun _ _ _ _ _ _ => none
  | k + 1 => F_X6_evenLength_14_b n (F_X6_evenLength_14 n k)
noncomputable def F_X6_evenLength (n : Nat) (a0 : Nat) (x1 : Int32) (x2 : Int32) (h : jH) : Option Int32 :=
  (jgI 6 h a0 5).bind fun v1 =>
  if v1 = 0 then (some (-1 : Int32))
  else (F_X6_evenLength_14 n n a0 x1 x2 (0 : Int32) (0 : Int32) h)
noncomputable def F_X6_enviousPairs_4_b (n : Nat) (rc4 : Nat → Int32 → Int32 → jH → Option Int32) (a0 : Nat) (x1 : Int32) (x2 : Int32) (h : jH) : Option Int32 :=
  (jgI 6 h a0 5).bind fun v8 =>
  if v8 ≤ (x2 + (1 : Int32)) then (some x1)
  else ((jgR 6 h a0 3).bind fun p15 =>
  (jal 0 h p15 x2).bind fun v19 =>
  (jgR 6 h a0 3).bind fun p21 =>
  (jal 0 h p21 (x2 + (1 : Int32))).bind fun v27 =>
  if (if 0 ≤ v19 - v27 then v19 - v27 else 0 - (v19 - v27)) < (2 : Int32) then (rc4 a0 x1 (x2 + (1 : Int32)) h)
  else (rc4 a0 (x1 + (1 : Int32)) (x2 + (1 : Int32)) h))
noncomputable def F_X6_enviousPairs_4 (n : Nat) : Nat → Nat → Int32 → Int32 → jH → Option Int32
  | 0 => fun _ _ _ _ => none
  | k + 1 => F_X6_enviousPairs_4_b n (F_X6_enviousPairs_4 n k)
noncomputable def F_X6_enviousPairs (n : Nat) (a0 : Nat) (h : jH) : Option Int32 :=
  F_X6_enviousPairs_4 n n a0 (0 : Int32) (0 : Int32) h
noncomputable def F_X6_gain (n : Nat) (a0 : Nat) (x1 : Int32) (x2 : Int32) (h : jH) : Option Int32 :=
  if x2 = (1 : Int32) then ((jgI 6 h a0 9).bind fun v29 =>
  (F_X11_bit n v29 x1 h).bind fun v33 =>
  if v33 = (1 : Int32) then (some (-2 : Int32))
  else (some (1 : Int32)))
  else if x2 = (2 : Int32) then ((jcv 6 h a0 (F_X8_gap n a0 x1 (0 : Int32) h)).bind fun v50 =>
  some (v50 - (1 : Int32)))
  else (some (2 : Int32))
noncomputable def F_X6_restingChoices_62 (n : Nat) (rc16 : Nat → Int32 → Int32 → Int32 → jH → Option Int32) (a0 : Nat) (x1 : Int32) (x3 : Int32) (s0 : Int32) (s1 : Int32) (s2 : Int32) (h : jH) : Option Int32 :=
  (F_X11_withBit n s0 s1 s2 h).bind fun v62 =>
  rc16 a0 x1 v62 (x3 + (1 : Int32)) h
noncomputable def F_X6_restingChoices_16_b (n : Nat) (rc16 : Nat → Int32 → Int32 → Int32 → jH → Option Int32) (a0 : Nat) (x1 : Int32) (x2 : Int32) (x3 : Int32) (h : jH) : Option Int32 :=
  if (4 : Int32) ≤ x3 then (some x2)
  else ((F_X6_gain n a0 x1 x3 h).bind fun v24 =>
  (F_X6_gain n a0 x1 (x3 ^^^ (2 : Int32)) h).bind fun v38 =>
  if v24 < v38 then (F_X6_restingChoices_62 n rc16 a0 x1 x3 x2 x3 (0 : Int32) h)
  else ((F_X6_gain n a0 x1 (x3 ^^^ (1 : Int32)) h).bind fun v51 =>
  if v24 < v51 then (F_X6_restingChoices_62 n rc16 a0 x1 x3 x2 x3 (0 : Int32) h)
  else (F_X6_restingChoices_62 n rc16 a0 x1 x3 x2 x3 (1 : Int32) h)))
noncomputable def F_X6_restingChoices_16 (n : Nat) : Nat → Nat → Int32 → Int32 → Int32 → jH → Option Int32
  | 0 => fun _ _ _ _ _ => none
  | k + 1 => F_X6_restingChoices_16_b n (F_X6_restingChoices_16 n k)
noncomputable def F_X6_restingChoices (n : Nat) (a0 : Nat) (x1 : Int32) (h : jH) : Option Int32 :=
  (jgI 6 h a0 5).bind fun v2 =>
  if x1 < (v2 - (1 : Int32)) then (F_X6_restingChoices_16 n n a0 x1 (0 : Int32) (0 : Int32) h)
  else (some (-1 : Int32))
noncomputable def F_X6_largestBunch_33 (n : Nat) (rc6 : Nat → Int32 → Int32 → Int32 → jH → Option Int32) (a0 : Nat) (x1 : Int32) (x3 : Int32) (s0 : Int32) (h : jH) : Option Int32 :=
  rc6 a0 (if x1 < s0 then s0 else x1) s0 (x3 + (1 : Int32)) h
noncomputable def F_X6_largestBunch_6_b (n : Nat) (rc6 : Nat → Int32 → Int32 → Int32 → jH → Option Int32) (a0 : Nat) (x1 : Int32) (x2 : Int32) (x3 : Int32) (h : jH) : Option Int32 :=
  (jgI 6 h a0 5).bind fun v8 =>
  if v8 ≤ x3 then (some x1)
  else ((jcv 6 h a0 (F_X8_gap n a0 (x3 - (1 : Int32)) (-1 : Int32) h)).bind fun v19 =>
  if v19 = (1 : Int32) then (F_X6_largestBunch_33 n rc6 a0 x1 x3 (x2 + (1 : Int32)) h)
  else (F_X6_largestBunch_33 n rc6 a0 x1 x3 (1 : Int32) h))
noncomputable def F_X6_largestBunch_6 (n : Nat) : Nat → Nat → Int32 → Int32 → Int32 → jH → Option Int32
  | 0 => fun _ _ _ _ _ => none
  | k + 1 => F_X6_largestBunch_6_b n (F_X6_largestBunch_6 n k)
noncomputable def F_X6_largestBunch (n : Nat) (a0 : Nat) (h : jH) : Option Int32 :=
  F_X6_largestBunch_6 n n a0 (0 : Int32) (0 : Int32) (0 : Int32) h
noncomputable def F_X6_thickBeyondJoin_44 (n : Nat) (rc4 : Nat → Int32 → Int32 → jH → Option Int32) (a0 : Nat) (x2 : Int32) (s0 : Int32) (s1 : Int32) (s2 : Int32) (h : jH) : Option Int32 :=
  (F_X11_withBit n s0 s1 s2 h).bind fun v44 =>
  rc4 a0 v44 (x2 + (1 : Int32)) h
noncomputable def F_X6_thickBeyondJoin_4_b (n : Nat) (rc4 : Nat → Int32 → Int32 → jH → Option Int32) (a0 : Nat) (x1 : Int32) (x2 : Int32) (h : jH) : Option Int32 :=
  (jgI 6 h a0 5).bind fun v6 =>
  if v6 ≤ x2 then (some x1)
  else ((jgI 6 h a0 6).bind fun v15 =>
  (F_X11_bit n v15 x2 h).bind fun v19 =>
  if v19 = (1 : Int32) then ((jgR 6 h a0 0).bind fun p27 =>
  (jal 0 h p27 x2).bind fun v31 =>
  (jgI 6 h a0 11).bind fun v33 =>
  if v31 < v33 then (F_X6_thickBeyondJoin_44 n rc4 a0 x2 x1 x2 (0 : Int32) h)
  else (F_X6_thickBeyondJoin_44 n rc4 a0 x2 x1 x2 (1 : Int32) h))
  else (F_X6_thickBeyondJoin_44 n rc4 a0 x2 x1 x2 (0 : Int32) h))
noncomputable def F_X6_thickBeyondJoin_4 (n : Nat) : Nat → Nat → Int32 → Int32 → jH → Option Int32
  | 0 => fun _ _ _ _ => none
  | k + 1 => F_X6_thickBeyondJoin_4_b n (F_X6_thickBeyondJoin_4 n k)
noncomputable def F_X6_thickBeyondJoin (n : Nat) (a0 : Nat) (h : jH) : Option Int32 :=
  F_X6_thickBeyondJoin_4 n n a0 (0 : Int32) (0 : Int32) h
noncomputable def F_X6_likePairs_16_b (n : Nat) (rc4 : Nat → Int32 → Int32 → jH → Option Int32) (rc16 : Nat → Int32 → Int32 → Int32 → jH → Option Int32) (a0 : Nat) (x1 : Int32) (x2 : Int32) (x3 : Int32) (h : jH) : Option Int32 :=
  (jgI 6 h a0 5).bind fun v18 =>
  if v18 ≤ x3 then (rc4 a0 x1 (x2 + (1 : Int32)) h)
  else ((jgR 6 h a0 1).bind fun p25 =>
  (jal 0 h p25 x2).bind fun v29 =>
  (jgR 6 h a0 1).bind fun p31 =>
  (jal 0 h p31 x3).bind fun v35 =>
  if v29 = v35 then ((jgR 6 h a0 3).bind fun p40 =>
  (jal 0 h p40 x2).bind fun v44 =>
  (jgR 6 h a0 3).bind fun p46 =>
  (jal 0 h p46 x3).bind fun v50 =>
  if v44 = v50 then ((jgR 6 h a0 2).bind fun p55 =>
  (jal 0 h p55 x2).bind fun v59 =>
  (jgR 6 h a0 2).bind fun p61 =>
  (jal 0 h p61 x3).bind fun v65 =>
  if v59 = v65 then (rc16 a0 (x1 + (1 : Int32)) x2 (x3 + (1 : Int32)) h)
  else (rc16 a0 x1 x2 (x3 + (1 : Int32)) h))
  else (rc16 a0 x1 x2 (x3 + (1 : Int32)) h))
  else (rc16 a0 x1 x2 (x3 + (1 : Int32)) h))
noncomputable def F_X6_likePairs_16 (n : Nat) (rc4 : Nat → Int32 → Int32 → jH → Option Int32) : Nat → Nat → Int32 → Int32 → Int32 → jH → Option Int32
  | 0 => fun _ _ _ _ _ => none
  | k + 1 => F_X6_likePairs_16_b n rc4 (F_X6_likePairs_16 n rc4 k)
noncomputable def F_X6_likePairs_4_b (n : Nat) (rc4 : Nat → Int32 → Int32 → jH → Option Int32) (a0 : Nat) (x1 : Int32) (x2 : Int32) (h : jH) : Option Int32 :=
  (jgI 6 h a0 5).bind fun v6 =>
  if v6 ≤ x2 then (some x1)
  else (F_X6_likePairs_16 n rc4 n a0 x1 x2 (x2 + (1 : Int32)) h)
noncomputable def F_X6_likePairs_4 (n : Nat) : Nat → Nat → Int32 → Int32 → jH → Option Int32
  | 0 => fun _ _ _ _ => none
  | k + 1 => F_X6_likePairs_4_b n (F_X6_likePairs_4 n k)
noncomputable def F_X6_likePairs (n : Nat) (a0 : Nat) (h : jH) : Option Int32 :=
  F_X6_likePairs_4 n n a0 (0 : Int32) (0 : Int32) h
noncomputable def F_X7_init (n : Nat) (a0 : Nat) (a1 : Nat) (a2 : Nat) (h : jH) : Option jH :=
  (jnw h (.inr (.inl (0, 128, fun _ => 0)))).bind fun h8 =>
  (jpf 5 h8 a0 2 (.ref h.1)).bind fun h10 =>
  (jnw h10 (.inr (.inl (0, 32, fun _ => 0)))).bind fun h16 =>
  (jpf 5 h16 a0 3 (.ref h10.1)).bind fun h18 =>
  (jpf 5 h18 a0 0 (.ref a1)).bind fun h23 =>
  (jpf 5 h23 a0 1 (.ref a2)).bind fun h28 =>
  some h28
noncomputable def F_X8_shadow_4_b (n : Nat) (rc4 : Nat → Int32 → Int32 → jH → Option Int32) (a0 : Nat) (x1 : Int32) (x2 : Int32) (h : jH) : Option Int32 :=
  (jgI 6 h a0 5).bind fun v8 =>
  if v8 ≤ (x2 + (1 : Int32)) then (some x1)
  else ((jgI 6 h a0 8).bind fun v15 =>
  (F_X11_bit n v15 x2 h).bind fun v19 =>
  if v19 = (1 : Int32) then ((jgI 6 h a0 8).bind fun v27 =>
  (F_X11_bit n v27 (x2 + (1 : Int32)) h).bind fun v33 =>
  if v33 = (1 : Int32) then ((jgR 6 h a0 0).bind fun p43 =>
  (jal 0 h p43 x2).bind fun v47 =>
  (jgR 6 h a0 0).bind fun p53 =>
  (jal 0 h p53 (x2 + (1 : Int32))).bind fun v59 =>
  rc4 a0 (x1 ||| (((-1 : Int32) <<< (v47 &&& 31)) &&& (jushr (-1 : Int32) ((31 : Int32) - v59)))) (x2 + (1 : Int32)) h)
  else (rc4 a0 x1 (x2 + (1 : Int32)) h))
  else (rc4 a0 x1 (x2 + (1 : Int32)) h))
noncomputable def F_X8_shadow_4 (n : Nat) : Nat → Nat → Int32 → Int32 → jH → Option Int32
  | 0 => fun _ _ _ _ => none
  | k + 1 => F_X8_shadow_4_b n (F_X8_shadow_4 n k)
noncomputable def F_X8_shadow (n : Nat) (a0 : Nat) (h : jH) : Option Int32 :=
  F_X8_shadow_4 n n a0 (0 : Int32) (0 : Int32) h
noncomputable def F_X8_shadedChairs (n : Nat) (a0 : Nat) (h : jH) : Option Int32 :=
  (jgI 6 h a0 10).bind fun v1 =>
  (jcv 6 h a0 (F_X8_shadow n a0 h)).bind fun v5 =>
  (F_J6_bitCount_0f7a4 n (v1 &&& v5) h).bind fun v9 =>
  some v9
noncomputable def F_X8_goTogether (n : Nat) (a0 : Nat) (x1 : Int32) (x2 : Int32) (h : jH) : Option Int32 :=
  (jgR 6 h a0 0).bind fun p1 =>
  (jal 0 h p1 (x1 + (1 : Int32))).bind fun v7 =>
  (jgR 6 h a0 0).bind fun p9 =>
  (jal 0 h p9 x1).bind fun v13 =>
  (jgI 6 h a0 9).bind fun v17 =>
  if ((jushr v17 x1) &&& (1 : Int32)) = (1 : Int32) then (some (1 : Int32))
  else (if x2 = 0 then ((jgR 6 h a0 1).bind fun p44 =>
  (jal 0 h p44 x1).bind fun v48 =>
  if ((v7 - v13) + (1 : Int32)) ≤ v48 then (some (0 : Int32))
  else (some (1 : Int32)))
  else (if (v7 - v13) = (1 : Int32) then (some (1 : Int32))
  else (some (0 : Int32))))
noncomputable def F_X8_isStopped_16 (n : Nat) (a0 : Nat) (x1 : Int32) (x2 : Int32) (s0 : Int32) (s1 : Int32) (h : jH) : Option Int32 :=
  if s0 = s1 then (some (1 : Int32))
  else ((jgI 6 h a0 6).bind fun v22 =>
  if ((jushr v22 x1) &&& (1 : Int32)) = (1 : Int32) then ((jgR 6 h a0 0).bind fun p34 =>
  (jal 0 h p34 x1).bind fun v38 =>
  if x2 = 0 then ((jgI 6 h a0 11).bind fun v53 =>
  if v38 = v53 then (some (1 : Int32))
  else (some (0 : Int32)))
  else ((jgI 6 h a0 11).bind fun v44 =>
  if v38 = (v44 - (1 : Int32)) then (some (1 : Int32))
  else (some (0 : Int32))))
  else (some (0 : Int32)))
noncomputable def F_X8_isStopped (n : Nat) (a0 : Nat) (x1 : Int32) (x2 : Int32) (h : jH) : Option Int32 :=
  (jgR 6 h a0 0).bind fun p1 =>
  (jal 0 h p1 x1).bind fun v5 =>
  if x2 = 0 then (F_X8_isStopped_16 n a0 x1 x2 v5 (0 : Int32) h)
  else (F_X8_isStopped_16 n a0 x1 x2 v5 (31 : Int32) h)
noncomputable def F_X8_goers_64_b (n : Nat) (rc64 : Nat → Int32 → Int32 → Int32 → Int32 → jH → Option Int32) (a0 : Nat) (x2 : Int32) (x3 : Int32) (x4 : Int32) (x5 : Int32) (h : jH) : Option Int32 :=
  if x4 < x5 then (some (((1 : Int32) <<< ((x4 + (1 : Int32)) &&& 31)) - ((1 : Int32) <<< (x3 &&& 31))))
  else ((jcv 6 h a0 (F_X8_isStopped n a0 x5 x2 h)).bind fun v75 =>
  if v75 = 0 then (rc64 a0 x2 x3 x4 (x5 + (1 : Int32)) h)
  else (some (0 : Int32)))
noncomputable def F_X8_goers_64 (n : Nat) : Nat → Nat → Int32 → Int32 → Int32 → Int32 → jH → Option Int32
  | 0 => fun _ _ _ _ _ _ => none
  | k + 1 => F_X8_goers_64_b n (F_X8_goers_64 n k)
noncomputable def F_X8_goers_49 (n : Nat) (rc32 : Nat → Int32 → Int32 → Int32 → jH → Option Int32) (a0 : Nat) (x2 : Int32) (x3 : Int32) (x4 : Int32) (sa0 : Nat) (s1 : Int32) (s2 : Int32) (h : jH) : Option Int32 :=
  (jcv 6 h sa0 (F_X8_goTogether n sa0 s1 s2 h)).bind fun v49 =>
  if v49 = 0 then (F_X8_goers_64 n n a0 x2 x3 x4 x3 h)
  else (rc32 a0 x2 (x3 + (-1 : Int32)) x4 h)
noncomputable def F_X8_goers_32_b (n : Nat) (rc32 : Nat → Int32 → Int32 → Int32 → jH → Option Int32) (a0 : Nat) (x2 : Int32) (x3 : Int32) (x4 : Int32) (h : jH) : Option Int32 :=
  if x3 ≤ 0 then (F_X8_goers_64 n n a0 x2 x3 x4 x3 h)
  else (if x2 = 0 then (F_X8_goers_49 n rc32 a0 x2 x3 x4 a0 (x3 - (1 : Int32)) (1 : Int32) h)
  else (F_X8_goers_49 n rc32 a0 x2 x3 x4 a0 (x3 - (1 : Int32)) (0 : Int32) h))
noncomputable def F_X8_goers_32 (n : Nat) : Nat → Nat → Int32 → Int32 → Int32 → jH → Option Int32
  | 0 => fun _ _ _ _ _ => none
  | k + 1 => F_X8_goers_32_b n (F_X8_goers_32 n k)
noncomputable def F_X8_goers_5_b (n : Nat) (rc5 : Nat → Int32 → Int32 → Int32 → jH → Option Int32) (a0 : Nat) (x2 : Int32) (x3 : Int32) (x4 : Int32) (h : jH) : Option Int32 :=
  (jgI 6 h a0 5).bind fun v10 =>
  if v10 ≤ (x4 + (1 : Int32)) then (F_X8_goers_32 n n a0 x2 x3 x4 h)
  else ((jcv 6 h a0 (F_X8_goTogether n a0 x4 x2 h)).bind fun v20 =>
  if v20 = 0 then (F_X8_goers_32 n n a0 x2 x3 x4 h)
  else (rc5 a0 x2 x3 (x4 + (1 : Int32)) h))
noncomputable def F_X8_goers_5 (n : Nat) : Nat → Nat → Int32 → Int32 → Int32 → jH → Option Int32
  | 0 => fun _ _ _ _ _ => none
  | k + 1 => F_X8_goers_5_b n (F_X8_goers_5 n k)
noncomputable def F_X8_goers (n : Nat) (a0 : Nat) (x1 : Int32) (x2 : Int32) (h : jH) : Option Int32 :=
  F_X8_goers_5 n n a0 x2 x1 x1 h
noncomputable def F_X8_move_28_b (n : Nat) (rc3 : Nat → Int32 → Int32 → Int32 → Int32 → jH → Option (Int32 × jH)) (rc28 : Nat → Int32 → Int32 → Int32 → Int32 → Int32 → Int32 → jH → Option (Int32 × jH)) (a0 : Nat) (x1 : Int32) (x2 : Int32) (x3 : Int32) (x4 : Int32) (x5 : Int32) (x6 : Int32) (h : jH) : Option (Int32 × jH) :=
  (jgI 6 h a0 5).bind fun v31 =>
  if v31 ≤ x6 then ((jgI 6 h a0 15).bind fun v78 =>
  (jgI 6 h a0 7).bind fun v84 =>
  (F_J6_bitCount_0f7a4 n (x5 &&& (v84 ^^^ (-1 : Int32))) h).bind fun v90 =>
  (jpf 6 h a0 15 (.int (if (v78 + v90) < (9999 : Int32) then v78 + v90 else (9999 : Int32)))).bind fun h97 =>
  rc3 a0 x1 x2 x3 (x4 + (1 : Int32)) h97)
  else ((F_X11_bit n x5 x6 h).bind fun v41 =>
  if v41 = (1 : Int32) then ((jgR 6 h a0 0).bind fun p49 =>
  (jal 0 h p49 x6).bind fun v55 =>
  if x2 = 0 then ((jas 0 h p49 x6 (v55 + (-1 : Int32))).bind fun h66 =>
  rc28 a0 x1 x2 x3 x4 x5 (x6 + (1 : Int32)) h66)
  else ((jas 0 h p49 x6 (v55 + (1 : Int32))).bind fun h66 =>
  rc28 a0 x1 x2 x3 x4 x5 (x6 + (1 : Int32)) h66))
  else (rc28 a0 x1 x2 x3 x4 x5 (x6 + (1 : Int32)) h))
noncomputable def F_X8_move_28 (n : Nat) (rc3 : Nat → Int32 → Int32 → Int32 → Int32 → jH → Option (Int32 × jH)) : Nat → Nat → Int32 → Int32 → Int32 → Int32 → Int32 → Int32 → jH → Option (Int32 × jH)
  | 0 => fun _ _ _ _ _ _ _ _ => none
  | k + 1 => F_X8_move_28_b n rc3 (F_X8_move_28 n rc3 k)
noncomputable def F_X8_move_3_b (n : Nat) (rc3 : Nat → Int32 → Int32 → Int32 → Int32 → jH → Option (Int32 × jH)) (a0 : Nat) (x1 : Int32) (x2 : Int32) (x3 : Int32) (x4 : Int32) (h : jH) : Option (Int32 × jH) :=
  if x3 ≤ x4 then (some (x3, h))
  else ((jcv 6 h a0 (F_X8_goers n a0 x1 x2 h)).bind fun v12 =>
  if v12 = 0 then (some (x4, h))
  else (F_X8_move_28 n rc3 n a0 x1 x2 x3 x4 v12 (0 : Int32) h))
noncomputable def F_X8_move_3 (n : Nat) : Nat → Nat → Int32 → Int32 → Int32 → Int32 → jH → Option (Int32 × jH)
  | 0 => fun _ _ _ _ _ _ => none
  | k + 1 => F_X8_move_3_b n (F_X8_move_3 n k)
noncomputable def F_X8_move (n : Nat) (a0 : Nat) (x1 : Int32) (x2 : Int32) (x3 : Int32) (h : jH) : Option (Int32 × jH) :=
  F_X8_move_3 n n a0 x1 x2 x3 (0 : Int32) h
noncomputable def F_X7_shadiest_68 (n : Nat) (rc18 : Nat → Nat → Int32 → Int32 → Int32 → jH → Option (Int32 × jH)) (rc40 : Nat → Nat → Int32 → Int32 → Int32 → Int32 → jH → Option (Int32 × jH)) (a0 : Nat) (a1 : Nat) (x2 : Int32) (x3 : Int32) (x4 : Int32) (x5 : Int32) (sa0 : Nat) (s1 : Int32) (s2 : Int32) (h : jH) : Option (Int32 × jH) :=
  (jcv 6 h sa0 (F_X8_move n sa0 s1 s2 (1 : Int32) h)).bind fun q69 =>
  if q69.1 = (1 : Int32) then ((jgR 5 q69.2 a0 1).bind fun p77 =>
  (jcv 6 q69.2 p77 (F_X8_shadedChairs n p77 q69.2)).bind fun v80 =>
  if v80 ≤ x2 then (rc40 a0 a1 x2 x3 x4 (x5 + (1 : Int32)) q69.2)
  else (rc40 a0 a1 v80 (((32 : Int32) * x4) + x5) x4 (x5 + (1 : Int32)) q69.2))
  else (rc18 a0 a1 x2 x3 (x4 + (1 : Int32)) q69.2)
noncomputable def F_X7_shadiest_40_b (n : Nat) (rc18 : Nat → Nat → Int32 → Int32 → Int32 → jH → Option (Int32 × jH)) (rc40 : Nat → Nat → Int32 → Int32 → Int32 → Int32 → jH → Option (Int32 × jH)) (a0 : Nat) (a1 : Nat) (x2 : Int32) (x3 : Int32) (x4 : Int32) (x5 : Int32) (h : jH) : Option (Int32 × jH) :=
  if (31 : Int32) < x5 then (rc18 a0 a1 x2 x3 (x4 + (1 : Int32)) h)
  else ((jgR 5 h a0 1).bind fun p48 =>
  if (x4 - x4 / (2 : Int32) * (2 : Int32)) = (1 : Int32) then (F_X7_shadiest_68 n rc18 rc40 a0 a1 x2 x3 x4 x5 p48 (x4 / (2 : Int32)) (1 : Int32) h)
  else (F_X7_shadiest_68 n rc18 rc40 a0 a1 x2 x3 x4 x5 p48 (x4 / (2 : Int32)) (0 : Int32) h))
noncomputable def F_X7_shadiest_40 (n : Nat) (rc18 : Nat → Nat → Int32 → Int32 → Int32 → jH → Option (Int32 × jH)) : Nat → Nat → Nat → Int32 → Int32 → Int32 → Int32 → jH → Option (Int32 × jH)
  | 0 => fun _ _ _ _ _ _ _ => none
  | k + 1 => F_X7_shadiest_40_b n rc18 (F_X7_shadiest_40 n rc18 k)
noncomputable def F_X7_shadiest_18_b (n : Nat) (rc18 : Nat → Nat → Int32 → Int32 → Int32 → jH → Option (Int32 × jH)) (a0 : Nat) (a1 : Nat) (x2 : Int32) (x3 : Int32) (x4 : Int32) (h : jH) : Option (Int32 × jH) :=
  (jgI 6 h a1 5).bind fun v22 =>
  if ((2 : Int32) * v22) ≤ x4 then (some (x3, h))
  else ((jgR 5 h a0 1).bind fun p30 =>
  (jcv 6 h p30 (F_X8_hangAs n p30 a1 h)).bind fun h34 =>
  F_X7_shadiest_40 n rc18 n a0 a1 x2 x3 x4 (1 : Int32) h34)
noncomputable def F_X7_shadiest_18 (n : Nat) : Nat → Nat → Nat → Int32 → Int32 → Int32 → jH → Option (Int32 × jH)
  | 0 => fun _ _ _ _ _ _ => none
  | k + 1 => F_X7_shadiest_18_b n (F_X7_shadiest_18 n k)
noncomputable def F_X7_shadiest (n : Nat) (a0 : Nat) (a1 : Nat) (h : jH) : Option (Int32 × jH) :=
  (jgR 5 h a0 1).bind fun p1 =>
  (jcv 6 h p1 (F_X8_copyFrom n p1 a1 h)).bind fun h5 =>
  (jcv 6 h5 a1 (F_X8_shadedChairs n a1 h5)).bind fun v9 =>
  F_X7_shadiest_18 n n a0 a1 v9 (-1 : Int32) (0 : Int32) h5
noncomputable def F_X7_stepsToShade_37 (n : Nat) (rc11 : Nat → Int32 → Int32 → Int32 → jH → Option (Int32 × jH)) (a0 : Nat) (x2 : Int32) (x3 : Int32) (x4 : Int32) (sa0 : Nat) (s1 : Int32) (s2 : Int32) (h : jH) : Option (Int32 × jH) :=
  (jcv 6 h sa0 (F_X8_move n sa0 s1 s2 (1 : Int32) h)).bind fun q38 =>
  if q38.1 = (1 : Int32) then ((jgR 5 q38.2 a0 1).bind fun p46 =>
  (jcv 6 q38.2 p46 (F_X8_shadow n p46 q38.2)).bind fun v49 =>
  if (v49 &&& x2) = x2 then (some (x4, q38.2))
  else (rc11 a0 x2 x3 (x4 + (1 : Int32)) q38.2))
  else (some ((-1 : Int32), q38.2))
noncomputable def F_X7_stepsToShade_11_b (n : Nat) (rc11 : Nat → Int32 → Int32 → Int32 → jH → Option (Int32 × jH)) (a0 : Nat) (x2 : Int32) (x3 : Int32) (x4 : Int32) (h : jH) : Option (Int32 × jH) :=
  if (31 : Int32) < x4 then (some ((-1 : Int32), h))
  else ((jgR 5 h a0 1).bind fun p19 =>
  if (x3 - x3 / (2 : Int32) * (2 : Int32)) = (1 : Int32) then (F_X7_stepsToShade_37 n rc11 a0 x2 x3 x4 p19 (x3 / (2 : Int32)) (1 : Int32) h)
  else (F_X7_stepsToShade_37 n rc11 a0 x2 x3 x4 p19 (x3 / (2 : Int32)) (0 : Int32) h))
noncomputable def F_X7_stepsToShade_11 (n : Nat) : Nat → Nat → Int32 → Int32 → Int32 → jH → Option (Int32 × jH)
  | 0 => fun _ _ _ _ _ => none
  | k + 1 => F_X7_stepsToShade_11_b n (F_X7_stepsToShade_11 n k)
noncomputable def F_X7_stepsToShade (n : Nat) (a0 : Nat) (a1 : Nat) (x2 : Int32) (x3 : Int32) (h : jH) : Option (Int32 × jH) :=
  (jgR 5 h a0 1).bind fun p1 =>
  (jcv 6 h p1 (F_X8_hangAs n p1 a1 h)).bind fun h5 =>
  F_X7_stepsToShade_11 n n a0 x2 x3 (1 : Int32) h5
noncomputable def F_X7_seekShade_42_b (n : Nat) (rc42 : Nat → Nat → Int32 → Int32 → jH → Option jH) (a0 : Nat) (a1 : Nat) (x2 : Int32) (x3 : Int32) (h : jH) : Option jH :=
  (jgI 6 h a1 5).bind fun v45 =>
  if ((2 : Int32) * v45) ≤ x3 then (some h)
  else ((jcv 5 h a0 (F_X7_stepsToShade n a0 a1 x2 x3 h)).bind fun q56 =>
  if q56.1 = (-1 : Int32) then (rc42 a0 a1 x2 (x3 + (1 : Int32)) q56.2)
  else ((jgI 5 q56.2 a0 5).bind fun v68 =>
  if v68 = (-1 : Int32) then ((jpf 5 q56.2 a0 5 (.int q56.1)).bind fun h87 =>
  (jpf 5 h87 a0 6 (.int x3)).bind fun h92 =>
  rc42 a0 a1 x2 (x3 + (1 : Int32)) h92)
  else ((jgI 5 q56.2 a0 5).bind fun v78 =>
  if v78 ≤ q56.1 then (rc42 a0 a1 x2 (x3 + (1 : Int32)) q56.2)
  else ((jpf 5 q56.2 a0 5 (.int q56.1)).bind fun h87 =>
  (jpf 5 h87 a0 6 (.int x3)).bind fun h92 =>
  rc42 a0 a1 x2 (x3 + (1 : Int32)) h92))))
noncomputable def F_X7_seekShade_42 (n : Nat) : Nat → Nat → Nat → Int32 → Int32 → jH → Option jH
  | 0 => fun _ _ _ _ _ => none
  | k + 1 => F_X7_seekShade_42_b n (F_X7_seekShade_42 n k)
noncomputable def F_X7_seekShade_21 (n : Nat) (a0 : Nat) (a1 : Nat) (x2 : Int32) (sa0 : Nat) (s1 : Int32) (h : jH) : Option jH :=
  (jpf 5 h sa0 5 (.int s1)).bind fun h21 =>
  (jgI 5 h21 a0 5).bind fun v25 =>
  if v25 = 0 then (some h21)
  else ((jgR 5 h21 a0 1).bind fun p33 =>
  (jcv 6 h21 p33 (F_X8_copyFrom n p33 a1 h21)).bind fun h37 =>
  F_X7_seekShade_42 n n a0 a1 x2 (0 : Int32) h37)
noncomputable def F_X7_seekShade (n : Nat) (a0 : Nat) (a1 : Nat) (x2 : Int32) (h : jH) : Option jH :=
  (jpf 5 h a0 6 (.int (-1 : Int32))).bind fun h2 =>
  (jcv 6 h2 a1 (F_X8_shadow n a1 h2)).bind fun v7 =>
  if (v7 &&& x2) = x2 then (F_X7_seekShade_21 n a0 a1 x2 a0 (0 : Int32) h2)
  else (F_X7_seekShade_21 n a0 a1 x2 a0 (-1 : Int32) h2)
noncomputable def F_X7_farWith (n : Nat) (a0 : Nat) (a1 : Nat) (x2 : Int32) (x3 : Int32) (x4 : Int32) (x5 : Int32) (h : jH) : Option (Int32 × jH) :=
  (jgR 5 h a0 1).bind fun p1 =>
  (jcv 6 h p1 (F_X8_hangAs n p1 a1 h)).bind fun h5 =>
  (jgR 5 h5 a0 1).bind fun p9 =>
  (jpf 6 h5 p9 9 (.int x2)).bind fun h13 =>
  (jgR 5 h13 a0 1).bind fun p17 =>
  (jcv 6 h13 p17 (F_X8_move n p17 x3 x4 x5 h13)).bind fun q25 =>
  some (q25.1, q25.2)
noncomputable def F_X7_fewestFreed_46 (n : Nat) (rc14 : Nat → Nat → Int32 → Int32 → Int32 → Int32 → Int32 → jH → Option (Int32 × jH)) (a0 : Nat) (a1 : Nat) (x2 : Int32) (x3 : Int32) (x4 : Int32) (x5 : Int32) (x6 : Int32) (s0 : Int32) (h : jH) : Option (Int32 × jH) :=
  (jgI 6 h a1 9).bind fun v51 =>
  if (x6 &&& (v51 ^^^ (-1 : Int32))) = 0 then (if s0 = 0 then (rc14 a0 a1 x2 x3 x4 x5 (x6 + (1 : Int32)) h)
  else ((jgI 6 h a1 9).bind fun v68 =>
  (jcv 5 h a0 (F_X7_farWith n a0 a1 (v68 &&& (x6 ^^^ (-1 : Int32))) x2 x3 x4 h)).bind fun q80 =>
  if q80.1 = x4 then (rc14 a0 a1 x2 x3 x4 x6 (x6 + (1 : Int32)) q80.2)
  else (rc14 a0 a1 x2 x3 x4 x5 (x6 + (1 : Int32)) q80.2)))
  else (rc14 a0 a1 x2 x3 x4 x5 (x6 + (1 : Int32)) h)
noncomputable def F_X7_fewestFreed_14_b (n : Nat) (rc14 : Nat → Nat → Int32 → Int32 → Int32 → Int32 → Int32 → jH → Option (Int32 × jH)) (a0 : Nat) (a1 : Nat) (x2 : Int32) (x3 : Int32) (x4 : Int32) (x5 : Int32) (x6 : Int32) (h : jH) : Option (Int32 × jH) :=
  if (128 : Int32) ≤ x6 then (some (x5, h))
  else (if x5 = (-1 : Int32) then (F_X7_fewestFreed_46 n rc14 a0 a1 x2 x3 x4 x5 x6 (1 : Int32) h)
  else ((F_J6_bitCount_0f7a4 n x6 h).bind fun v30 =>
  (F_J6_bitCount_0f7a4 n x5 h).bind fun v35 =>
  if v35 ≤ v30 then (F_X7_fewestFreed_46 n rc14 a0 a1 x2 x3 x4 x5 x6 (0 : Int32) h)
  else (F_X7_fewestFreed_46 n rc14 a0 a1 x2 x3 x4 x5 x6 (1 : Int32) h)))
noncomputable def F_X7_fewestFreed_14 (n : Nat) : Nat → Nat → Nat → Int32 → Int32 → Int32 → Int32 → Int32 → jH → Option (Int32 × jH)
  | 0 => fun _ _ _ _ _ _ _ _ => none
  | k + 1 => F_X7_fewestFreed_14_b n (F_X7_fewestFreed_14 n k)
noncomputable def F_X7_fewestFreed (n : Nat) (a0 : Nat) (a1 : Nat) (x2 : Int32) (x3 : Int32) (x4 : Int32) (h : jH) : Option (Int32 × jH) :=
  (jgR 5 h a0 1).bind fun p1 =>
  (jcv 6 h p1 (F_X8_copyFrom n p1 a1 h)).bind fun h5 =>
  F_X7_fewestFreed_14 n n a0 a1 x2 x3 x4 (-1 : Int32) (0 : Int32) h5
noncomputable def F_X10_at (n : Nat) (a0 : Nat) (x1 : Int32) (h : jH) : Option Int32 :=
  if x1 < 0 then (some (-1 : Int32))
  else ((jgI 8 h a0 6).bind fun v6 =>
  if v6 ≤ x1 then (some (-1 : Int32))
  else (if x1 < (400 : Int32) then ((jgR 8 h a0 0).bind fun p24 =>
  (jal 1 h p24 x1).bind fun v28 =>
  some (v28 &&& (255 : Int32)))
  else (some (-1 : Int32))))
noncomputable def F_X7_areRows_29_b (n : Nat) (rc29 : Nat → Int32 → Int32 → jH → Option Int32) (a0 : Nat) (x1 : Int32) (x2 : Int32) (h : jH) : Option Int32 :=
  (jgR 5 h a0 0).bind fun p31 =>
  (jgI 8 h p31 6).bind fun v34 =>
  if v34 ≤ x2 then (some (1 : Int32))
  else ((jgR 5 h a0 0).bind fun p41 =>
  (jcv 8 h p41 (F_X10_at n p41 x2 h)).bind fun v45 =>
  if x1 ≤ v45 then (some (0 : Int32))
  else ((jgR 5 h a0 0).bind fun p53 =>
  (jcv 8 h p53 (F_X10_at n p53 (x2 + (1 : Int32)) h)).bind fun v59 =>
  if (1 : Int32) < v59 then (some (0 : Int32))
  else ((jgR 5 h a0 0).bind fun p67 =>
  (jcv 8 h p67 (F_X10_at n p67 (x2 + (2 : Int32)) h)).bind fun v73 =>
  if v73 < (1 : Int32) then (some (0 : Int32))
  else ((jgR 5 h a0 0).bind fun p81 =>
  (jcv 8 h p81 (F_X10_at n p81 (x2 + (2 : Int32)) h)).bind fun v87 =>
  if (31 : Int32) < v87 then (some (0 : Int32))
  else ((jgR 5 h a0 0).bind fun p96 =>
  (jcv 8 h p96 (F_X10_at n p96 (x2 + (3 : Int32)) h)).bind fun v102 =>
  if v102 ≤ (31 : Int32) then (rc29 a0 x1 (x2 + (4 : Int32)) h)
  else (some (0 : Int32)))))))
noncomputable def F_X7_areRows_29 (n : Nat) : Nat → Nat → Int32 → Int32 → jH → Option Int32
  | 0 => fun _ _ _ _ => none
  | k + 1 => F_X7_areRows_29_b n (F_X7_areRows_29 n k)
noncomputable def F_X7_areRows (n : Nat) (a0 : Nat) (x1 : Int32) (h : jH) : Option Int32 :=
  (jgR 5 h a0 0).bind fun p1 =>
  (jgI 8 h p1 6).bind fun v4 =>
  if (v4 - v4 / (4 : Int32) * (4 : Int32)) = 0 then ((jgR 5 h a0 0).bind fun p13 =>
  (jgI 8 h p13 6).bind fun v16 =>
  if v16 ≤ (160 : Int32) then (F_X7_areRows_29 n n a0 x1 (0 : Int32) h)
  else (some (0 : Int32)))
  else (some (0 : Int32))
noncomputable def F_X7_isFitting_43 (n : Nat) (rc2 : Nat → Nat → Int32 → Int32 → jH → Option (Int32 × jH)) (a0 : Nat) (a1 : Nat) (x2 : Int32) (x3 : Int32) (sa0 : Nat) (sa1 : Nat) (s2 : Int32) (s3 : Int32) (s4 : Int32) (h : jH) : Option (Int32 × jH) :=
  (jgR 5 h a0 0).bind fun p44 =>
  (jcv 8 h p44 (F_X10_at n p44 (x3 + (2 : Int32)) h)).bind fun v50 =>
  (jcv 5 h sa0 (F_X7_farWith n sa0 sa1 s2 s3 s4 v50 h)).bind fun q53 =>
  (jgR 5 q53.2 a0 0).bind fun p61 =>
  (jcv 8 q53.2 p61 (F_X10_at n p61 (x3 + (3 : Int32)) q53.2)).bind fun v67 =>
  if q53.1 = v67 then (rc2 a0 a1 x2 (x3 + (4 : Int32)) q53.2)
  else (some ((0 : Int32), q53.2))
noncomputable def F_X7_isFitting_2_b (n : Nat) (rc2 : Nat → Nat → Int32 → Int32 → jH → Option (Int32 × jH)) (a0 : Nat) (a1 : Nat) (x2 : Int32) (x3 : Int32) (h : jH) : Option (Int32 × jH) :=
  (jgR 5 h a0 0).bind fun p4 =>
  (jgI 8 h p4 6).bind fun v7 =>
  if v7 ≤ x3 then (some ((1 : Int32), h))
  else ((jgR 5 h a0 0).bind fun p17 =>
  (jcv 8 h p17 (F_X10_at n p17 x3 h)).bind fun v21 =>
  (jgR 5 h a0 0).bind fun p25 =>
  (jcv 8 h p25 (F_X10_at n p25 (x3 + (1 : Int32)) h)).bind fun v31 =>
  if v31 = (1 : Int32) then (F_X7_isFitting_43 n rc2 a0 a1 x2 x3 a0 a1 x2 v21 (1 : Int32) h)
  else (F_X7_isFitting_43 n rc2 a0 a1 x2 x3 a0 a1 x2 v21 (0 : Int32) h))
noncomputable def F_X7_isFitting_2 (n : Nat) : Nat → Nat → Nat → Int32 → Int32 → jH → Option (Int32 × jH)
  | 0 => fun _ _ _ _ _ => none
  | k + 1 => F_X7_isFitting_2_b n (F_X7_isFitting_2 n k)
noncomputable def F_X7_isFitting (n : Nat) (a0 : Nat) (a1 : Nat) (x2 : Int32) (h : jH) : Option (Int32 × jH) :=
  F_X7_isFitting_2 n n a0 a1 x2 (0 : Int32) h
noncomputable def F_X7_seekSnags_35_b (n : Nat) (rc35 : Nat → Nat → Int32 → Int32 → jH → Option jH) (a0 : Nat) (a1 : Nat) (x2 : Int32) (x3 : Int32) (h : jH) : Option jH :=
  if x2 ≤ x3 then (some h)
  else ((jgI 5 h a0 4).bind fun v41 =>
  if (128 : Int32) ≤ v41 then (some h)
  else ((jcv 5 h a0 (F_X7_isFitting n a0 a1 x3 h)).bind fun q53 =>
  if q53.1 = 0 then (rc35 a0 a1 x2 (x3 + (1 : Int32)) q53.2)
  else ((jgR 5 q53.2 a0 2).bind fun p60 =>
  (jgI 5 q53.2 a0 4).bind fun v64 =>
  (jas 0 q53.2 p60 v64 x3).bind fun h68 =>
  (jgI 5 h68 a0 4).bind fun v71 =>
  (jpf 5 h68 a0 4 (.int (v71 + (1 : Int32)))).bind fun h76 =>
  rc35 a0 a1 x2 (x3 + (1 : Int32)) h76)))
noncomputable def F_X7_seekSnags_35 (n : Nat) : Nat → Nat → Nat → Int32 → Int32 → jH → Option jH
  | 0 => fun _ _ _ _ _ => none
  | k + 1 => F_X7_seekSnags_35_b n (F_X7_seekSnags_35 n k)
noncomputable def F_X7_seekSnags (n : Nat) (a0 : Nat) (a1 : Nat) (h : jH) : Option jH :=
  (jgR 5 h a0 1).bind fun p1 =>
  (jcv 6 h p1 (F_X8_copyFrom n p1 a1 h)).bind fun h5 =>
  (jpf 5 h5 a0 4 (.int (0 : Int32))).bind fun h10 =>
  (jgI 6 h10 a1 5).bind fun v14 =>
  if v14 = 0 then (F_X7_seekSnags_35 n n a0 a1 (1 : Int32) (0 : Int32) h10)
  else ((jgI 6 h10 a1 5).bind fun v26 =>
  F_X7_seekSnags_35 n n a0 a1 ((1 : Int32) <<< ((v26 - (1 : Int32)) &&& 31)) (0 : Int32) h10)
noncomputable def F_X7_inAllFitting_20_b (n : Nat) (rc20 : Nat → Int32 → Int32 → jH → Option Int32) (a0 : Nat) (x1 : Int32) (x2 : Int32) (h : jH) : Option Int32 :=
  (jgI 5 h a0 4).bind fun v22 =>
  if v22 ≤ x2 then (some x1)
  else ((jgR 5 h a0 2).bind fun p30 =>
  (jal 0 h p30 x2).bind fun v34 =>
  rc20 a0 (x1 &&& v34) (x2 + (1 : Int32)) h)
noncomputable def F_X7_inAllFitting_20 (n : Nat) : Nat → Nat → Int32 → Int32 → jH → Option Int32
  | 0 => fun _ _ _ _ => none
  | k + 1 => F_X7_inAllFitting_20_b n (F_X7_inAllFitting_20 n k)
noncomputable def F_X7_inAllFitting (n : Nat) (a0 : Nat) (h : jH) : Option Int32 :=
  (jgI 5 h a0 4).bind fun v1 =>
  if v1 = 0 then (F_X7_inAllFitting_20 n n a0 (0 : Int32) (1 : Int32) h)
  else ((jgR 5 h a0 2).bind fun p12 =>
  (jal 0 h p12 (0 : Int32)).bind fun v16 =>
  F_X7_inAllFitting_20 n n a0 v16 (1 : Int32) h)
noncomputable def F_X7_greatestPart_62 (n : Nat) (rc29 : Nat → Nat → Int32 → Int32 → Int32 → jH → Option (Int32 × jH)) (a0 : Nat) (a1 : Nat) (x2 : Int32) (x3 : Int32) (x4 : Int32) (sa0 : Nat) (sa1 : Nat) (s2 : Int32) (s3 : Int32) (s4 : Int32) (h : jH) : Option (Int32 × jH) :=
  (jcv 5 h sa0 (F_X7_farWith n sa0 sa1 s2 s3 s4 (31 : Int32) h)).bind fun q64 =>
  (jgR 5 q64.2 a0 3).bind fun p70 =>
  (jal 0 q64.2 p70 q64.1).bind fun v76 =>
  (jas 0 q64.2 p70 q64.1 (v76 + (1 : Int32))).bind fun h79 =>
  (jgR 5 h79 a0 3).bind fun p82 =>
  (jal 0 h79 p82 q64.1).bind fun v87 =>
  rc29 a0 a1 x2 (if x3 < v87 then v87 else x3) (x4 + (1 : Int32)) h79
noncomputable def F_X7_greatestPart_29_b (n : Nat) (rc29 : Nat → Nat → Int32 → Int32 → Int32 → jH → Option (Int32 × jH)) (a0 : Nat) (a1 : Nat) (x2 : Int32) (x3 : Int32) (x4 : Int32) (h : jH) : Option (Int32 × jH) :=
  (jgI 5 h a0 4).bind fun v32 =>
  if v32 ≤ x4 then (some (x3, h))
  else ((jgR 5 h a0 2).bind fun p41 =>
  (jal 0 h p41 x4).bind fun v46 =>
  if (x2 - x2 / (2 : Int32) * (2 : Int32)) = (1 : Int32) then (F_X7_greatestPart_62 n rc29 a0 a1 x2 x3 x4 a0 a1 v46 (x2 / (2 : Int32)) (1 : Int32) h)
  else (F_X7_greatestPart_62 n rc29 a0 a1 x2 x3 x4 a0 a1 v46 (x2 / (2 : Int32)) (0 : Int32) h))
noncomputable def F_X7_greatestPart_29 (n : Nat) : Nat → Nat → Nat → Int32 → Int32 → Int32 → jH → Option (Int32 × jH)
  | 0 => fun _ _ _ _ _ _ => none
  | k + 1 => F_X7_greatestPart_29_b n (F_X7_greatestPart_29 n k)
noncomputable def F_X7_greatestPart_2_b (n : Nat) (rc2 : Nat → Nat → Int32 → Int32 → jH → Option (Int32 × jH)) (a0 : Nat) (a1 : Nat) (x2 : Int32) (x3 : Int32) (h : jH) : Option (Int32 × jH) :=
  (jgR 5 h a0 3).bind fun p4 =>
  (jlen h p4).bind fun v7 =>
  if v7 ≤ x3 then (F_X7_greatestPart_29 n n a0 a1 x2 (0 : Int32) (0 : Int32) h)
  else ((jgR 5 h a0 3).bind fun p12 =>
  (jas 0 h p12 x3 (0 : Int32)).bind fun h17 =>
  rc2 a0 a1 x2 (x3 + (1 : Int32)) h17)
noncomputable def F_X7_greatestPart_2 (n : Nat) : Nat → Nat → Nat → Int32 → Int32 → jH → Option (Int32 × jH)
  | 0 => fun _ _ _ _ _ => none
  | k + 1 => F_X7_greatestPart_2_b n (F_X7_greatestPart_2 n k)
noncomputable def F_X7_greatestPart (n : Nat) (a0 : Nat) (a1 : Nat) (x2 : Int32) (h : jH) : Option (Int32 × jH) :=
  F_X7_greatestPart_2 n n a0 a1 x2 (0 : Int32) h
noncomputable def F_X7_partingPull_19_b (n : Nat) (rc19 : Nat → Nat → Int32 → Int32 → Int32 → jH → Option (Int32 × jH)) (a0 : Nat) (a1 : Nat) (x2 : Int32) (x3 : Int32) (x4 : Int32) (h : jH) : Option (Int32 × jH) :=
  (jgI 6 h a1 5).bind fun v23 =>
  if ((2 : Int32) * v23) ≤ x4 then (some (x2, h))
  else ((jcv 5 h a0 (F_X7_greatestPart n a0 a1 x4 h)).bind fun q34 =>
  if x3 ≤ q34.1 then (rc19 a0 a1 x2 x3 (x4 + (1 : Int32)) q34.2)
  else (rc19 a0 a1 x4 q34.1 (x4 + (1 : Int32)) q34.2))
noncomputable def F_X7_partingPull_19 (n : Nat) : Nat → Nat → Nat → Int32 → Int32 → Int32 → jH → Option (Int32 × jH)
  | 0 => fun _ _ _ _ _ _ => none
  | k + 1 => F_X7_partingPull_19_b n (F_X7_partingPull_19 n k)
noncomputable def F_X7_partingPull (n : Nat) (a0 : Nat) (a1 : Nat) (h : jH) : Option (Int32 × jH) :=
  (jgI 5 h a0 4).bind fun v1 =>
  if (2 : Int32) ≤ v1 then (F_X7_partingPull_19 n n a0 a1 (-1 : Int32) (129 : Int32) (0 : Int32) h)
  else (some ((-1 : Int32), h))
noncomputable def F_X8_nearestNew (n : Nat) (a0 : Nat) (h : jH) : Option Int32 :=
  (jgI 6 h a0 5).bind fun v1 =>
  if v1 = 0 then (some (0 : Int32))
  else ((jgR 6 h a0 0).bind fun p12 =>
  (jgI 6 h a0 5).bind fun v16 =>
  (jal 0 h p12 (v16 - (1 : Int32))).bind fun v21 =>
  some (v21 + (1 : Int32)))
noncomputable def F_X8_farthestNew (n : Nat) (a0 : Nat) (h : jH) : Option Int32 :=
  (jgI 6 h a0 5).bind fun v1 =>
  if v1 = 0 then (some (31 : Int32))
  else ((jgR 6 h a0 0).bind fun p15 =>
  (jgI 6 h a0 5).bind fun v19 =>
  (jal 0 h p15 (v19 - (1 : Int32))).bind fun v24 =>
  (jgR 6 h a0 1).bind fun p26 =>
  (jgI 6 h a0 5).bind fun v30 =>
  (jal 0 h p26 (v30 - (1 : Int32))).bind fun v35 =>
  some (if (v24 + v35) < (31 : Int32) then v24 + v35 else (31 : Int32)))
noncomputable def F_X8_add (n : Nat) (a0 : Nat) (x1 : Int32) (x2 : Int32) (h : jH) : Option jH :=
  (jgI 6 h a0 5).bind fun v1 =>
  if v1 < (8 : Int32) then ((jgR 6 h a0 0).bind fun p11 =>
  (jgI 6 h a0 5).bind fun v15 =>
  (jas 0 h p11 v15 x1).bind fun h19 =>
  (jgR 6 h19 a0 1).bind fun p21 =>
  (jgI 6 h19 a0 5).bind fun v25 =>
  (jas 0 h19 p21 v25 x2).bind fun h29 =>
  (jgR 6 h29 a0 2).bind fun p31 =>
  (jgI 6 h29 a0 5).bind fun v35 =>
  (jas 0 h29 p31 v35 (0 : Int32)).bind fun h39 =>
  (jgR 6 h39 a0 3).bind fun p41 =>
  (jgI 6 h39 a0 5).bind fun v45 =>
  (jas 0 h39 p41 v45 (0 : Int32)).bind fun h49 =>
  (jgI 6 h49 a0 6).bind fun v52 =>
  (jgI 6 h49 a0 5).bind fun v56 =>
  (F_X11_withBit n v52 v56 (0 : Int32) h49).bind fun v60 =>
  (jpf 6 h49 a0 6 (.int v60)).bind fun h63 =>
  (jgI 6 h63 a0 7).bind fun v68 =>
  (jgI 6 h63 a0 5).bind fun v72 =>
  (F_X11_withBit n v68 v72 (0 : Int32) h63).bind fun v76 =>
  (jpf 6 h63 a0 7 (.int v76)).bind fun h79 =>
  (jgI 6 h79 a0 8).bind fun v84 =>
  (jgI 6 h79 a0 5).bind fun v88 =>
  (F_X11_withBit n v84 v88 (1 : Int32) h79).bind fun v92 =>
  (jpf 6 h79 a0 8 (.int v92)).bind fun h95 =>
  (jgI 6 h95 a0 9).bind fun v100 =>
  (jgI 6 h95 a0 5).bind fun v104 =>
  (F_X11_withBit n v100 v104 (0 : Int32) h95).bind fun v108 =>
  (jpf 6 h95 a0 9 (.int v108)).bind fun h111 =>
  (jgI 6 h111 a0 5).bind fun v116 =>
  (jpf 6 h111 a0 5 (.int (v116 + (1 : Int32)))).bind fun h121 =>
  some h121)
  else (some h)
noncomputable def F_X8_unhooked (n : Nat) (a0 : Nat) (h : jH) : Option Int32 :=
  (jgI 6 h a0 5).bind fun v2 =>
  (jgI 6 h a0 8).bind fun v9 =>
  some ((((1 : Int32) <<< (v2 &&& 31)) - (1 : Int32)) &&& (v9 ^^^ (-1 : Int32)))
noncomputable def F_X4_init_R (n : Nat) (a0 : Nat) (a1 : Nat) (x2 : Int32) (h : jH) : Option jH :=
  (jpf 7 h a0 0 (.ref a1)).bind fun h6 =>
  (jpf 7 h6 a0 1 (.int x2)).bind fun h11 =>
  some h11
noncomputable def F_X9_init (n : Nat) (a0 : Nat) (a1 : Nat) (a2 : Nat) (h : jH) : Option jH :=
  (F_X4_init_R n a0 a1 (14 : Int32) h).bind fun h4 =>
  (jpf 7 h4 a0 2 (.ref a2)).bind fun h9 =>
  some h9
noncomputable def F_X9_beginsLine (n : Nat) (x0 : Int32) (h : jH) : Option Int32 :=
  if x0 = 0 then (some (1 : Int32))
  else (if x0 = (19 : Int32) then (some (1 : Int32))
  else (if x0 = (20 : Int32) then (some (1 : Int32))
  else (if x0 = (21 : Int32) then (some (1 : Int32))
  else (if x0 = (22 : Int32) then (some (1 : Int32))
  else (if x0 = (5 : Int32) then (some (1 : Int32))
  else (if x0 = (6 : Int32) then (some (1 : Int32))
  else (some (0 : Int32))))))))
noncomputable def F_X9_readMore (n : Nat) (a0 : Nat) (x1 : Int32) (a2 : Nat) (x3 : Int32) (x4 : Int32) (h : jH) : Option (Int32 × jH) :=
  (jlen h a2).bind fun v2 =>
  if v2 ≤ x3 then (some ((1 : Int32), h))
  else ((jgR 7 h a0 0).bind fun p7 =>
  (jcv 8 h p7 (F_X10_take n p7 x1 h)).bind fun q11 =>
  if q11.1 = 0 then (some ((1 : Int32), q11.2))
  else ((jgR 7 q11.2 a0 0).bind fun p20 =>
  (jcv 8 q11.2 p20 (F_X10_takeNumber n p20 (0 : Int32) x4 q11.2)).bind fun q26 =>
  (jas 0 q26.2 a2 x3 q26.1).bind fun h35 =>
  if q26.1 = (-1 : Int32) then (some ((0 : Int32), h35))
  else (some ((1 : Int32), h35))))
noncomputable def F_X9_readRing (n : Nat) (a0 : Nat) (h : jH) : Option (Int32 × jH) :=
  (jgR 7 h a0 0).bind fun p1 =>
  (jcv 8 h p1 (F_X10_take n p1 (17 : Int32) h)).bind fun q6 =>
  if q6.1 = 0 then (some ((0 : Int32), q6.2))
  else ((jgR 7 q6.2 a0 0).bind fun p15 =>
  (jgR 7 q6.2 a0 2).bind fun p19 =>
  (jcv 6 q6.2 p19 (F_X8_nearestNew n p19 q6.2)).bind fun v22 =>
  (jgR 7 q6.2 a0 2).bind fun p26 =>
  (jcv 6 q6.2 p26 (F_X8_farthestNew n p26 q6.2)).bind fun v29 =>
  (jcv 8 q6.2 p15 (F_X10_takeNumber n p15 v22 v29 q6.2)).bind fun q32 =>
  if q32.1 = (-1 : Int32) then (some ((0 : Int32), q32.2))
  else ((jgR 7 q32.2 a0 0).bind fun p42 =>
  (jcv 8 q32.2 p42 (F_X10_take n p42 (18 : Int32) q32.2)).bind fun q47 =>
  if q47.1 = 0 then (some ((0 : Int32), q47.2))
  else ((jgR 7 q47.2 a0 0).bind fun p56 =>
  (jcv 8 q47.2 p56 (F_X10_takeNumber n p56 (1 : Int32) (9 : Int32) q47.2)).bind fun q62 =>
  if q62.1 = (-1 : Int32) then (some ((0 : Int32), q62.2))
  else ((jgR 7 q62.2 a0 2).bind fun p74 =>
  (jgI 6 q62.2 p74 5).bind fun v77 =>
  (jgR 7 q62.2 a0 2).bind fun p82 =>
  (jcv 6 q62.2 p82 (F_X8_add n p82 q32.1 q62.1 q62.2)).bind fun h87 =>
  (jgR 7 h87 a0 2).bind fun p91 =>
  (jgR 7 h87 a0 2).bind fun p95 =>
  (jgI 6 h87 p95 6).bind fun v98 =>
  (jgR 7 h87 a0 0).bind fun p103 =>
  (jcv 8 h87 p103 (F_X10_take n p103 (8 : Int32) h87)).bind fun q108 =>
  (F_X11_withBit n v98 v77 q108.1 q108.2).bind fun v111 =>
  (jpf 6 q108.2 p91 6 (.int v111)).bind fun h114 =>
  (jgR 7 h114 a0 2).bind fun p118 =>
  (jgR 7 h114 a0 2).bind fun p122 =>
  (jgI 6 h114 p122 7).bind fun v125 =>
  (jgR 7 h114 a0 0).bind fun p130 =>
  (jcv 8 h114 p130 (F_X10_take n p130 (7 : Int32) h114)).bind fun q135 =>
  (F_X11_withBit n v125 v77 q135.1 q135.2).bind fun v138 =>
  (jpf 6 q135.2 p118 7 (.int v138)).bind fun h141 =>
  (jgR 7 h141 a0 2).bind fun p147 =>
  (jgR 6 h141 p147 2).bind fun p150 =>
  (jcv 7 h141 a0 (F_X9_readMore n a0 (3 : Int32) p150 v77 (99 : Int32) h141)).bind fun q156 =>
  if q156.1 = 0 then (some ((0 : Int32), q156.2))
  else ((jgR 7 q156.2 a0 2).bind fun p165 =>
  (jgR 6 q156.2 p165 3).bind fun p168 =>
  (jcv 7 q156.2 a0 (F_X9_readMore n a0 (4 : Int32) p168 v77 (9 : Int32) q156.2)).bind fun q174 =>
  if q174.1 = 0 then (some ((0 : Int32), q174.2))
  else (some ((1 : Int32), q174.2)))))))
noncomputable def F_X9_readNumber (n : Nat) (a0 : Nat) (x1 : Int32) (h : jH) : Option (Int32 × jH) :=
  if x1 = (5 : Int32) then ((jgR 7 h a0 0).bind fun p74 =>
  (jcv 8 h p74 (F_X10_takeNumber n p74 (0 : Int32) (7 : Int32) h)).bind fun q80 =>
  some (q80.1, q80.2))
  else if x1 = (6 : Int32) then ((jgR 7 h a0 0).bind fun p85 =>
  (jcv 8 h p85 (F_X10_takeNumber n p85 (0 : Int32) (999 : Int32) h)).bind fun q92 =>
  some (q92.1, q92.2))
  else if x1 = (19 : Int32) then ((jgR 7 h a0 0).bind fun p45 =>
  (jgR 7 h a0 2).bind fun p50 =>
  (jgI 6 h p50 5).bind fun v53 =>
  (jcv 8 h p45 (F_X10_takeNumber n p45 (0 : Int32) (v53 - (2 : Int32)) h)).bind fun q58 =>
  some (q58.1, q58.2))
  else if x1 = (21 : Int32) then ((jgR 7 h a0 0).bind fun p63 =>
  (jcv 8 h p63 (F_X10_takeNumber n p63 (1 : Int32) (31 : Int32) h)).bind fun q69 =>
  some (q69.1, q69.2))
  else ((jgR 7 h a0 0).bind fun p97 =>
  (jcv 8 h p97 (F_X10_takeNumber n p97 (0 : Int32) (31 : Int32) h)).bind fun q103 =>
  some (q103.1, q103.2))
noncomputable def F_X9_keepNumber (n : Nat) (a0 : Nat) (x1 : Int32) (x2 : Int32) (h : jH) : Option jH :=
  if x1 = (5 : Int32) then ((jgR 7 h a0 2).bind fun p119 =>
  (jpf 6 h p119 13 (.int x2)).bind fun h123 =>
  some h123)
  else if x1 = (19 : Int32) then ((jgR 7 h a0 2).bind fun p53 =>
  (jgR 7 h a0 2).bind fun p57 =>
  (jgI 6 h p57 9).bind fun v60 =>
  (F_X11_withBit n v60 x2 (1 : Int32) h).bind fun v65 =>
  (jpf 6 h p53 9 (.int v65)).bind fun h68 =>
  some h68)
  else if x1 = (20 : Int32) then ((jgR 7 h a0 2).bind fun p75 =>
  (jgR 7 h a0 2).bind fun p79 =>
  (jgI 6 h p79 10).bind fun v82 =>
  (F_X11_withBit n v82 x2 (1 : Int32) h).bind fun v87 =>
  (jpf 6 h p75 10 (.int v87)).bind fun h90 =>
  some h90)
  else if x1 = (21 : Int32) then ((jgR 7 h a0 2).bind fun p97 =>
  (jpf 6 h p97 11 (.int x2)).bind fun h101 =>
  some h101)
  else if x1 = (22 : Int32) then ((jgR 7 h a0 2).bind fun p108 =>
  (jpf 6 h p108 12 (.int x2)).bind fun h112 =>
  some h112)
  else ((jgR 7 h a0 2).bind fun p130 =>
  (jpf 6 h p130 14 (.int x2)).bind fun h134 =>
  some h134)
noncomputable def F_X9_readLine_33 (n : Nat) (a0 : Nat) (x1 : Int32) (h : jH) : Option (Int32 × jH) :=
  (jgR 7 h a0 0).bind fun p34 =>
  (jcv 8 h p34 (F_X10_skip n p34 h)).bind fun h37 =>
  if x1 = 0 then ((jcv 7 h37 a0 (F_X9_readRing n a0 h37)).bind fun q45 =>
  if q45.1 = 0 ∨ q45.1 = 1 then some (q45.1, q45.2) else none)
  else ((jcv 7 h37 a0 (F_X9_readNumber n a0 x1 h37)).bind fun q51 =>
  if q51.1 = (-1 : Int32) then (some ((0 : Int32), q51.2))
  else ((jcv 7 q51.2 a0 (F_X9_keepNumber n a0 x1 q51.1 q51.2)).bind fun h65 =>
  some ((1 : Int32), h65)))
noncomputable def F_X9_readLine (n : Nat) (a0 : Nat) (h : jH) : Option (Int32 × jH) :=
  (jgR 7 h a0 0).bind fun p1 =>
  (jcv 8 h p1 (F_X10_kind n p1 h)).bind fun v4 =>
  (F_X9_beginsLine n v4 h).bind fun v9 =>
  if v9 = 0 then (some ((0 : Int32), h))
  else (if v4 = 0 then ((jgR 7 h a0 2).bind fun p20 =>
  (jgI 6 h p20 5).bind fun v23 =>
  if v23 < (8 : Int32) then (F_X9_readLine_33 n a0 v4 h)
  else (some ((0 : Int32), h)))
  else (F_X9_readLine_33 n a0 v4 h))
noncomputable def F_X10_init (n : Nat) (a0 : Nat) (h : jH) : Option jH :=
  (jnw h (.inr (.inl (1, 400, fun _ => 0)))).bind fun h8 =>
  (jpf 8 h8 a0 0 (.ref h.1)).bind fun h10 =>
  (jnw h10 (.inr (.inl (0, 400, fun _ => 0)))).bind fun h17 =>
  (jpf 8 h17 a0 1 (.ref h10.1)).bind fun h19 =>
  (jnw h19 (.inr (.inl (0, 400, fun _ => 0)))).bind fun h26 =>
  (jpf 8 h26 a0 2 (.ref h19.1)).bind fun h28 =>
  (jnw h28 (.inr (.inl (0, 400, fun _ => 0)))).bind fun h35 =>
  (jpf 8 h35 a0 3 (.ref h28.1)).bind fun h37 =>
  some h37
noncomputable def F_X10_hasRoom (n : Nat) (a0 : Nat) (h : jH) : Option Int32 :=
  (jgI 8 h a0 6).bind fun v1 =>
  if (400 : Int32) < (v1 + (20 : Int32)) then (some (0 : Int32))
  else (some (1 : Int32))
noncomputable def F_X10_put_3_b (n : Nat) (rc3 : Nat → Int32 → Int32 → jH → Option jH) (a0 : Nat) (x1 : Int32) (x2 : Int32) (h : jH) : Option jH :=
  if x2 < 0 then (some h)
  else ((jgI 8 h a0 6).bind fun v8 =>
  if (400 : Int32) ≤ v8 then (some h)
  else ((jgR 8 h a0 0).bind fun p18 =>
  (jgI 8 h a0 6).bind fun v22 =>
  (jas 1 h p18 v22 ((jushr x1 x2).toInt8.toInt32)).bind fun h29 =>
  (jgI 8 h29 a0 6).bind fun v32 =>
  (jpf 8 h29 a0 6 (.int (v32 + (1 : Int32)))).bind fun h37 =>
  rc3 a0 x1 (x2 + (-8 : Int32)) h37))
noncomputable def F_X10_put_3 (n : Nat) : Nat → Nat → Int32 → Int32 → jH → Option jH
  | 0 => fun _ _ _ _ => none
  | k + 1 => F_X10_put_3_b n (F_X10_put_3 n k)
noncomputable def F_X10_put (n : Nat) (a0 : Nat) (x1 : Int32) (h : jH) : Option jH :=
  F_X10_put_3 n n a0 x1 (24 : Int32) h
noncomputable def F_X10_endOfRow_3_b (n : Nat) (rc3 : Nat → Int32 → Int32 → Int32 → jH → Option Int32) (a0 : Nat) (x2 : Int32) (x3 : Int32) (x4 : Int32) (h : jH) : Option Int32 :=
  (jgI 8 h a0 6).bind fun v6 =>
  if v6 ≤ x4 then (some x4)
  else ((jcv 8 h a0 (F_X10_at n a0 x4 h)).bind fun v15 =>
  if v15 < x2 then (some x4)
  else ((jcv 8 h a0 (F_X10_at n a0 x4 h)).bind fun v25 =>
  if x3 < v25 then (some x4)
  else (rc3 a0 x2 x3 (x4 + (1 : Int32)) h)))
noncomputable def F_X10_endOfRow_3 (n : Nat) : Nat → Nat → Int32 → Int32 → Int32 → jH → Option Int32
  | 0 => fun _ _ _ _ _ => none
  | k + 1 => F_X10_endOfRow_3_b n (F_X10_endOfRow_3 n k)
noncomputable def F_X10_endOfRow (n : Nat) (a0 : Nat) (x1 : Int32) (x2 : Int32) (x3 : Int32) (h : jH) : Option Int32 :=
  F_X10_endOfRow_3 n n a0 x2 x3 x1 h
noncomputable def F_X10_standsAt_3_b (n : Nat) (rc3 : Nat → Int32 → Int32 → Int32 → Int32 → jH → Option Int32) (a0 : Nat) (x1 : Int32) (x2 : Int32) (x3 : Int32) (x4 : Int32) (h : jH) : Option Int32 :=
  if x3 ≤ x4 then (some (1 : Int32))
  else ((jcv 8 h a0 (F_X10_at n a0 ((x1 + x4) - x2) h)).bind fun v16 =>
  (jtc 0 x4).bind fun v23 =>
  if v16 = v23 then (rc3 a0 x1 x2 x3 (x4 + (1 : Int32)) h)
  else (some (0 : Int32)))
noncomputable def F_X10_standsAt_3 (n : Nat) : Nat → Nat → Int32 → Int32 → Int32 → Int32 → jH → Option Int32
  | 0 => fun _ _ _ _ _ _ => none
  | k + 1 => F_X10_standsAt_3_b n (F_X10_standsAt_3 n k)
noncomputable def F_X10_standsAt (n : Nat) (a0 : Nat) (x1 : Int32) (x2 : Int32) (x3 : Int32) (h : jH) : Option Int32 :=
  F_X10_standsAt_3 n n a0 x1 x2 x3 x2 h
noncomputable def F_X10_wordBetween_8_b (n : Nat) (rc8 : Nat → Int32 → Int32 → Int32 → Int32 → Int32 → jH → Option Int32) (a0 : Nat) (x1 : Int32) (x2 : Int32) (x3 : Int32) (x4 : Int32) (x5 : Int32) (h : jH) : Option Int32 :=
  (jtl 0).bind fun v12 =>
  if v12 ≤ x5 then (some (-2 : Int32))
  else ((jtc 0 x5).bind fun v22 =>
  if v22 = (32 : Int32) then (if (x5 - x4) = (x2 - x1) then ((jcv 8 h a0 (F_X10_standsAt n a0 x1 x4 x5 h)).bind fun v47 =>
  if v47 = 0 then (rc8 a0 x1 x2 (x3 + (1 : Int32)) (x5 + (1 : Int32)) (x5 + (1 : Int32)) h)
  else (some x3))
  else (rc8 a0 x1 x2 (x3 + (1 : Int32)) (x5 + (1 : Int32)) (x5 + (1 : Int32)) h))
  else (rc8 a0 x1 x2 x3 x4 (x5 + (1 : Int32)) h))
noncomputable def F_X10_wordBetween_8 (n : Nat) : Nat → Nat → Int32 → Int32 → Int32 → Int32 → Int32 → jH → Option Int32
  | 0 => fun _ _ _ _ _ _ _ => none
  | k + 1 => F_X10_wordBetween_8_b n (F_X10_wordBetween_8 n k)
noncomputable def F_X10_wordBetween (n : Nat) (a0 : Nat) (x1 : Int32) (x2 : Int32) (h : jH) : Option Int32 :=
  F_X10_wordBetween_8 n n a0 x1 x2 (0 : Int32) (0 : Int32) (0 : Int32) h
noncomputable def F_X10_numberBetween_16_b (n : Nat) (rc16 : Nat → Int32 → Int32 → Int32 → jH → Option Int32) (a0 : Nat) (x2 : Int32) (x3 : Int32) (x4 : Int32) (h : jH) : Option Int32 :=
  if x2 ≤ x4 then (some x3)
  else ((jcv 8 h a0 (F_X10_at n a0 x4 h)).bind fun v29 =>
  rc16 a0 x2 ((((10 : Int32) * x3) + v29) - (48 : Int32)) (x4 + (1 : Int32)) h)
noncomputable def F_X10_numberBetween_16 (n : Nat) : Nat → Nat → Int32 → Int32 → Int32 → jH → Option Int32
  | 0 => fun _ _ _ _ _ => none
  | k + 1 => F_X10_numberBetween_16_b n (F_X10_numberBetween_16 n k)
noncomputable def F_X10_numberBetween (n : Nat) (a0 : Nat) (x1 : Int32) (x2 : Int32) (h : jH) : Option Int32 :=
  if (x2 - x1) ≤ (3 : Int32) then (F_X10_numberBetween_16 n n a0 x2 (0 : Int32) x1 h)
  else (some (1000 : Int32))
noncomputable def F_X10_scanThing (n : Nat) (a0 : Nat) (x1 : Int32) (h : jH) : Option (Int32 × jH) :=
  (jcv 8 h a0 (F_X10_endOfRow n a0 x1 (97 : Int32) (122 : Int32) h)).bind fun v6 =>
  if v6 ≤ x1 then ((jcv 8 h a0 (F_X10_endOfRow n a0 x1 (48 : Int32) (57 : Int32) h)).bind fun v38 =>
  if v38 ≤ x1 then ((jcv 8 h a0 (F_X10_at n a0 x1 h)).bind fun v77 =>
  (jgR 8 h a0 1).bind fun p82 =>
  (jgI 8 h a0 4).bind fun v86 =>
  if (32 : Int32) ≤ v77 then ((jas 0 h p82 v86 v77).bind fun h101 =>
  some (x1 + (1 : Int32), h101))
  else ((jas 0 h p82 v86 (-2 : Int32)).bind fun h101 =>
  some (x1 + (1 : Int32), h101)))
  else ((jgR 8 h a0 1).bind fun p48 =>
  (jgI 8 h a0 4).bind fun v52 =>
  (jas 0 h p48 v52 (-3 : Int32)).bind fun h57 =>
  (jgR 8 h57 a0 3).bind fun p59 =>
  (jgI 8 h57 a0 4).bind fun v63 =>
  (jcv 8 h57 a0 (F_X10_numberBetween n a0 x1 v38 h57)).bind fun v69 =>
  (jas 0 h57 p59 v63 v69).bind fun h72 =>
  some (v38, h72)))
  else ((jgR 8 h a0 1).bind fun p16 =>
  (jgI 8 h a0 4).bind fun v20 =>
  (jcv 8 h a0 (F_X10_wordBetween n a0 x1 v6 h)).bind fun v26 =>
  (jas 0 h p16 v20 v26).bind fun h29 =>
  some (v6, h29))
noncomputable def F_X10_scan_12_b (n : Nat) (rc12 : Nat → Int32 → jH → Option jH) (a0 : Nat) (x1 : Int32) (h : jH) : Option jH :=
  (jgI 8 h a0 6).bind fun v14 =>
  if v14 ≤ x1 then (some h)
  else ((jgI 8 h a0 4).bind fun v21 =>
  if (400 : Int32) ≤ v21 then (some h)
  else ((jcv 8 h a0 (F_X10_at n a0 x1 h)).bind fun v36 =>
  if v36 = (32 : Int32) then (rc12 a0 (x1 + (1 : Int32)) h)
  else ((jcv 8 h a0 (F_X10_scanThing n a0 x1 h)).bind fun q46 =>
  (jgR 8 q46.2 a0 2).bind fun p51 =>
  (jgI 8 q46.2 a0 4).bind fun v55 =>
  (jas 0 q46.2 p51 v55 x1).bind fun h59 =>
  (jgI 8 h59 a0 4).bind fun v62 =>
  (jpf 8 h59 a0 4 (.int (v62 + (1 : Int32)))).bind fun h67 =>
  rc12 a0 q46.1 h67)))
noncomputable def F_X10_scan_12 (n : Nat) : Nat → Nat → Int32 → jH → Option jH
  | 0 => fun _ _ _ => none
  | k + 1 => F_X10_scan_12_b n (F_X10_scan_12 n k)
noncomputable def F_X10_scan (n : Nat) (a0 : Nat) (h : jH) : Option jH :=
  (jpf 8 h a0 4 (.int (0 : Int32))).bind fun h2 =>
  (jpf 8 h2 a0 5 (.int (0 : Int32))).bind fun h7 =>
  F_X10_scan_12 n n a0 (0 : Int32) h7
noncomputable def F_X10_start (n : Nat) (a0 : Nat) (h : jH) : Option Int32 :=
  (jgI 8 h a0 5).bind fun v1 =>
  (jgI 8 h a0 4).bind fun v5 =>
  if v5 ≤ v1 then ((jgI 8 h a0 6).bind fun v24 =>
  some v24)
  else ((jgR 8 h a0 2).bind fun p12 =>
  (jgI 8 h a0 5).bind fun v16 =>
  (jal 0 h p12 v16).bind fun v19 =>
  some v19)
noncomputable def F_X11_init (n : Nat) (a0 : Nat) (h : jH) : Option jH :=
  (jnw h (.inl (8, [.null, .null, .null, .null, .int 0, .int 0, .int 0]))).bind fun h5 =>
  (F_X10_init n h.1 h5).bind fun h9 =>
  (jpf 9 h9 a0 0 (.ref h.1)).bind fun h12 =>
  (jnw h12 (.inl (6, [.null, .null, .null, .null, .null, .int 0, .int 0, .int 0, .int 0, .int 0, .int 0, .int 0, .int 0, .int 0, .int 0, .int 0, .int 0, .int 0]))).bind fun h16 =>
  (F_X8_init n h12.1 h16).bind fun h20 =>
  (jpf 9 h20 a0 1 (.ref h12.1)).bind fun h23 =>
  (jnw h23 (.inl (2, [.null, .null, .null, .null, .null, .int 0, .int 0, .int 0, .int 0]))).bind fun h27 =>
  (F_X2_init n h23.1 h27).bind fun h31 =>
  (jpf 9 h31 a0 2 (.ref h23.1)).bind fun h34 =>
  (jnw h34 (.inl (0, [.null, .int 0, .int 0]))).bind fun h38 =>
  (F_X0_init n h34.1 h38).bind fun h42 =>
  (jpf 9 h42 a0 3 (.ref h34.1)).bind fun h45 =>
  (jnw h45 (.inl (6, [.null, .null, .null, .null, .null, .int 0, .int 0, .int 0, .int 0, .int 0, .int 0, .int 0, .int 0, .int 0, .int 0, .int 0, .int 0, .int 0]))).bind fun h49 =>
  (F_X8_init n h45.1 h49).bind fun h53 =>
  (jpf 9 h53 a0 4 (.ref h45.1)).bind fun h56 =>
  (jnw h56 (.inl (2, [.null, .null, .null, .null, .null, .int 0, .int 0, .int 0, .int 0]))).bind fun h60 =>
  (F_X2_init n h56.1 h60).bind fun h64 =>
  (jpf 9 h64 a0 5 (.ref h56.1)).bind fun h67 =>
  (jnw h67 (.inl (7, [.null, .int 0, .null]))).bind fun h71 =>
  (jgR 9 h71 a0 0).bind fun p76 =>
  (jgR 9 h71 a0 4).bind fun p80 =>
  (F_X9_init n h67.1 p76 p80 h71).bind fun h83 =>
  (jpf 9 h83 a0 6 (.ref h67.1)).bind fun h86 =>
  (jnw h86 (.inl (3, [.null, .int 0, .null]))).bind fun h90 =>
  (jgR 9 h90 a0 0).bind fun p95 =>
  (jgR 9 h90 a0 5).bind fun p99 =>
  (F_X3_init n h86.1 p95 p99 h90).bind fun h102 =>
  (jpf 9 h102 a0 7 (.ref h86.1)).bind fun h105 =>
  (jnw h105 (.inl (1, [.null, .null]))).bind fun h109 =>
  (jgR 9 h109 a0 2).bind fun p114 =>
  (jgR 9 h109 a0 4).bind fun p118 =>
  (F_X1_init n h105.1 p114 p118 h109).bind fun h121 =>
  (jpf 9 h121 a0 8 (.ref h105.1)).bind fun h124 =>
  (jnw h124 (.inl (5, [.null, .null, .null, .null, .int 0, .int 0, .int 0]))).bind fun h128 =>
  (jgR 9 h128 a0 0).bind fun p133 =>
  (jgR 9 h128 a0 4).bind fun p137 =>
  (F_X7_init n h124.1 p133 p137 h128).bind fun h140 =>
  (jpf 9 h140 a0 9 (.ref h124.1)).bind fun h143 =>
  (jpf 9 h143 a0 12 (.int (-1 : Int32))).bind fun h148 =>
  some h148
noncomputable def F_X11_feed (n : Nat) (a0 : Nat) (x1 : Int32) (x2 : Int32) (x3 : Int32) (x4 : Int32) (x5 : Int32) (h : jH) : Option (Int32 × jH) :=
  (jgR 9 h a0 0).bind fun p1 =>
  (jcv 8 h p1 (F_X10_hasRoom n p1 h)).bind fun v4 =>
  if v4 = 0 then (some ((-1 : Int32), h))
  else ((jgR 9 h a0 0).bind fun p13 =>
  (jcv 8 h p13 (F_X10_put n p13 x1 h)).bind fun h17 =>
  (jgR 9 h17 a0 0).bind fun p21 =>
  (jcv 8 h17 p21 (F_X10_put n p21 x2 h17)).bind fun h25 =>
  (jgR 9 h25 a0 0).bind fun p29 =>
  (jcv 8 h25 p29 (F_X10_put n p29 x3 h25)).bind fun h33 =>
  (jgR 9 h33 a0 0).bind fun p37 =>
  (jcv 8 h33 p37 (F_X10_put n p37 x4 h33)).bind fun h42 =>
  (jgR 9 h42 a0 0).bind fun p46 =>
  (jcv 8 h42 p46 (F_X10_put n p46 x5 h42)).bind fun h51 =>
  (jgR 9 h51 a0 0).bind fun p55 =>
  (jgI 8 h51 p55 6).bind fun v58 =>
  some (v58, h51))
noncomputable def F_X11_end (n : Nat) (a0 : Nat) (x1 : Int32) (h : jH) : Option (Int32 × jH) :=
  if x1 < 0 then (some ((0 : Int32), h))
  else ((jgR 9 h a0 0).bind fun p6 =>
  (jgI 8 h p6 6).bind fun v9 =>
  if x1 ≤ v9 then ((jgR 9 h a0 0).bind fun p18 =>
  (jpf 8 h p18 6 (.int x1)).bind fun h22 =>
  some ((1 : Int32), h22))
  else (some ((0 : Int32), h)))
noncomputable def F_X4_read_R_22_b (n : Nat) (rc22 : Nat → Int32 → jH → Option (Int32 × jH)) (a0 : Nat) (x1 : Int32) (h : jH) : Option (Int32 × jH) :=
  (jgI 7 h a0 1).bind fun v24 =>
  if v24 ≤ x1 then ((jgR 7 h a0 0).bind fun p85 =>
  (jcv 8 h p85 (F_X10_start n p85 h)).bind fun v88 =>
  some (v88, h))
  else ((jcv 7 h a0 (F_X9_readLine n a0 h)).bind fun q31 =>
  if q31.1 = 0 then ((jgR 7 q31.2 a0 0).bind fun p38 =>
  (jcv 8 q31.2 p38 (F_X10_start n p38 q31.2)).bind fun v41 =>
  some (v41, q31.2))
  else ((jgR 7 q31.2 a0 0).bind fun p46 =>
  (jcv 8 q31.2 p46 (F_X10_kind n p46 q31.2)).bind fun v49 =>
  if v49 = (-1 : Int32) then (some ((-1 : Int32), q31.2))
  else ((jgR 7 q31.2 a0 0).bind fun p59 =>
  (jcv 8 q31.2 p59 (F_X10_take n p59 (59 : Int32) q31.2)).bind fun q64 =>
  if q64.1 = 0 then ((jgR 7 q64.2 a0 0).bind fun p71 =>
  (jcv 8 q64.2 p71 (F_X10_start n p71 q64.2)).bind fun v74 =>
  some (v74, q64.2))
  else (rc22 a0 (x1 + (1 : Int32)) q64.2))))
noncomputable def F_X4_read_R_22 (n : Nat) : Nat → Nat → Int32 → jH → Option (Int32 × jH)
  | 0 => fun _ _ _ => none
  | k + 1 => F_X4_read_R_22_b n (F_X4_read_R_22 n k)
noncomputable def F_X4_read_R (n : Nat) (a0 : Nat) (h : jH) : Option (Int32 × jH) :=
  (jgR 7 h a0 0).bind fun p1 =>
  (jcv 8 h p1 (F_X10_scan n p1 h)).bind fun h4 =>
  (jgR 7 h4 a0 0).bind fun p8 =>
  (jcv 8 h4 p8 (F_X10_kind n p8 h4)).bind fun v11 =>
  if v11 = (-1 : Int32) then (some ((-1 : Int32), h4))
  else (F_X4_read_R_22 n n a0 (0 : Int32) h4)
noncomputable def F_X11_pole (n : Nat) (a0 : Nat) (h : jH) : Option (jR × jH) :=
  (jgR 9 h a0 4).bind fun p1 =>
  (jgR 9 h a0 1).bind fun p5 =>
  (jcv 6 h p1 (F_X8_copyFrom n p1 p5 h)).bind fun h8 =>
  (jgR 9 h8 a0 6).bind fun p13 =>
  (jcv 7 h8 p13 (F_X4_read_R n p13 h8)).bind fun q16 =>
  (jpf 9 q16.2 a0 12 (.int q16.1)).bind fun h19 =>
  (jgR 9 h19 a0 0).bind fun p23 =>
  (jpf 8 h19 p23 6 (.int (0 : Int32))).bind fun h27 =>
  (jgI 9 h27 a0 12).bind fun v31 =>
  if v31 = (-1 : Int32) then ((jgR 9 h27 a0 1).bind fun p49 =>
  (jgI 6 h27 p49 17).bind fun v52 =>
  if v52 < (12 : Int32) then ((jgR 9 h27 a0 4).bind fun p71 =>
  (jgI 6 h27 p71 17).bind fun v75 =>
  (jpf 6 h27 p71 17 (.int (v75 + (1 : Int32)))).bind fun h80 =>
  (jgR 9 h80 a0 1).bind fun p84 =>
  (jgR 9 h80 a0 4).bind fun p88 =>
  (jcv 6 h80 p84 (F_X8_copyFrom n p84 p88 h80)).bind fun h91 =>
  (jgR 9 h91 a0 3).bind fun p95 =>
  (jcv 0 h91 p95 (F_X0_forget n p95 h91)).bind fun h98 =>
  (jgR 9 h98 a0 1).bind fun p102 =>
  (jgI 6 h98 p102 17).bind fun v105 =>
  some (.inl v105, h98))
  else (some (.inr 3, h27)))
  else (some (.inr 0, h27))
noncomputable def F_X4_read_L_22_b (n : Nat) (rc22 : Nat → Int32 → jH → Option (Int32 × jH)) (a0 : Nat) (x1 : Int32) (h : jH) : Option (Int32 × jH) :=
  (jgI 3 h a0 1).bind fun v24 =>
  if v24 ≤ x1 then ((jgR 3 h a0 0).bind fun p85 =>
  (jcv 8 h p85 (F_X10_start n p85 h)).bind fun v88 =>
  some (v88, h))
  else ((jcv 3 h a0 (F_X3_readLine n a0 h)).bind fun q31 =>
  if q31.1 = 0 then ((jgR 3 q31.2 a0 0).bind fun p38 =>
  (jcv 8 q31.2 p38 (F_X10_start n p38 q31.2)).bind fun v41 =>
  some (v41, q31.2))
  else ((jgR 3 q31.2 a0 0).bind fun p46 =>
  (jcv 8 q31.2 p46 (F_X10_kind n p46 q31.2)).bind fun v49 =>
  if v49 = (-1 : Int32) then (some ((-1 : Int32), q31.2))
  else ((jgR 3 q31.2 a0 0).bind fun p59 =>
  (jcv 8 q31.2 p59 (F_X10_take n p59 (59 : Int32) q31.2)).bind fun q64 =>
  if q64.1 = 0 then ((jgR 3 q64.2 a0 0).bind fun p71 =>
  (jcv 8 q64.2 p71 (F_X10_start n p71 q64.2)).bind fun v74 =>
  some (v74, q64.2))
  else (rc22 a0 (x1 + (1 : Int32)) q64.2))))
noncomputable def F_X4_read_L_22 (n : Nat) : Nat → Nat → Int32 → jH → Option (Int32 × jH)
  | 0 => fun _ _ _ => none
  | k + 1 => F_X4_read_L_22_b n (F_X4_read_L_22 n k)
noncomputable def F_X4_read_L (n : Nat) (a0 : Nat) (h : jH) : Option (Int32 × jH) :=
  (jgR 3 h a0 0).bind fun p1 =>
  (jcv 8 h p1 (F_X10_scan n p1 h)).bind fun h4 =>
  (jgR 3 h4 a0 0).bind fun p8 =>
  (jcv 8 h4 p8 (F_X10_kind n p8 h4)).bind fun v11 =>
  if v11 = (-1 : Int32) then (some ((-1 : Int32), h4))
  else (F_X4_read_L_22 n n a0 (0 : Int32) h4)
noncomputable def F_X11_law (n : Nat) (a0 : Nat) (h : jH) : Option (jR × jH) :=
  (jgR 9 h a0 5).bind fun p1 =>
  (jcv 2 h p1 (F_X2_begin n p1 h)).bind fun h4 =>
  (jgR 9 h4 a0 7).bind fun p9 =>
  (jcv 3 h4 p9 (F_X4_read_L n p9 h4)).bind fun q12 =>
  (jpf 9 q12.2 a0 12 (.int q12.1)).bind fun h15 =>
  (jgR 9 h15 a0 0).bind fun p19 =>
  (jpf 8 h15 p19 6 (.int (0 : Int32))).bind fun h23 =>
  (jgI 9 h23 a0 12).bind fun v27 =>
  if v27 = (-1 : Int32) then ((jgR 9 h23 a0 2).bind fun p45 =>
  (jgR 9 h23 a0 5).bind fun p49 =>
  (jcv 2 h23 p45 (F_X2_copyFrom n p45 p49 h23)).bind fun h52 =>
  (jgR 9 h52 a0 3).bind fun p56 =>
  (jcv 0 h52 p56 (F_X0_forget n p56 h52)).bind fun h59 =>
  (jgR 9 h59 a0 2).bind fun p63 =>
  (jgI 2 h59 p63 8).bind fun v66 =>
  some (.inl v66, h59))
  else (some (.inr 0, h23))
noncomputable def F_X11_fault (n : Nat) (a0 : Nat) (h : jH) : Option Int32 :=
  (jgI 9 h a0 12).bind fun v1 =>
  some v1
noncomputable def F_X11_requireRing (n : Nat) (a0 : Nat) (x1 : Int32) (h : jH) : Option (jR × jH) :=
  if x1 < 0 then (some (.inr 2, h))
  else ((jgR 9 h a0 1).bind fun p6 =>
  (jgI 6 h p6 5).bind fun v9 =>
  if x1 < v9 then (some (.inl 0, h))
  else (some (.inr 2, h)))
noncomputable def F_X11_ring (n : Nat) (a0 : Nat) (x1 : Int32) (x2 : Int32) (h : jH) : Option (jR × jH) :=
  (jcv 9 h a0 (F_X11_requireRing n a0 x1 h)).bind fun q2 => jthen q2 fun r2 h2 =>
  if x2 = (0 : Int32) then ((jgR 9 h2 a0 1).bind fun p77 =>
  (jgR 6 h2 p77 0).bind fun p80 =>
  (jal 0 h2 p80 x1).bind fun v84 =>
  some (.inl v84, h2))
  else if x2 = (1 : Int32) then ((jgR 9 h2 a0 1).bind fun p87 =>
  (jgR 6 h2 p87 1).bind fun p90 =>
  (jal 0 h2 p90 x1).bind fun v94 =>
  some (.inl v94, h2))
  else if x2 = (2 : Int32) then ((jgR 9 h2 a0 1).bind fun p97 =>
  (jgI 6 h2 p97 6).bind fun v100 =>
  (F_X11_bit n v100 x1 h2).bind fun v104 =>
  some (.inl v104, h2))
  else if x2 = (3 : Int32) then ((jgR 9 h2 a0 1).bind fun p109 =>
  (jgI 6 h2 p109 7).bind fun v112 =>
  (F_X11_bit n v112 x1 h2).bind fun v116 =>
  some (.inl v116, h2))
  else if x2 = (4 : Int32) then ((jgR 9 h2 a0 1).bind fun p121 =>
  (jgR 6 h2 p121 2).bind fun p124 =>
  (jal 0 h2 p124 x1).bind fun v128 =>
  some (.inl v128, h2))
  else if x2 = (5 : Int32) then ((jgR 9 h2 a0 1).bind fun p131 =>
  (jgR 6 h2 p131 3).bind fun p134 =>
  (jal 0 h2 p134 x1).bind fun v138 =>
  some (.inl v138, h2))
  else if x2 = (6 : Int32) then ((jgR 9 h2 a0 1).bind fun p141 =>
  (jgI 6 h2 p141 8).bind fun v144 =>
  (F_X11_bit n v144 x1 h2).bind fun v148 =>
  some (.inl v148, h2))
  else if x2 = (7 : Int32) then ((jgR 9 h2 a0 1).bind fun p153 =>
  (jgI 6 h2 p153 9).bind fun v156 =>
  (F_X11_bit n v156 x1 h2).bind fun v160 =>
  some (.inl v160, h2))
  else if x2 = (8 : Int32) then ((jgR 9 h2 a0 1).bind fun p165 =>
  (jcv 6 h2 p165 (F_X8_gap n p165 x1 (-1 : Int32) h2)).bind fun v170 =>
  some (.inl v170, h2))
  else if x2 = (9 : Int32) then ((jgR 9 h2 a0 2).bind fun p175 =>
  (jgR 9 h2 a0 1).bind fun p180 =>
  (jcv 2 h2 p175 (F_X2_amount n p175 (0 : Int32) p180 x1 h2)).bind fun q184 =>
  some (.inl q184.1, q184.2))
  else if x2 = (10 : Int32) then ((jgR 9 h2 a0 2).bind fun p189 =>
  (jgR 9 h2 a0 1).bind fun p194 =>
  (jcv 2 h2 p189 (F_X2_amount n p189 (1 : Int32) p194 x1 h2)).bind fun q198 =>
  some (.inl q198.1, q198.2))
  else if x2 = (11 : Int32) then ((jgR 9 h2 a0 2).bind fun p203 =>
  (jgR 9 h2 a0 1).bind fun p208 =>
  (jcv 2 h2 p203 (F_X2_amount n p203 (2 : Int32) p208 x1 h2)).bind fun q212 =>
  some (.inl q212.1, q212.2))
  else if x2 = (12 : Int32) then ((jgR 9 h2 a0 1).bind fun p217 =>
  (F_X6_hangsBy n p217 x1 h2).bind fun v221 =>
  some (.inl v221, h2))
  else if x2 = (13 : Int32) then ((jgR 9 h2 a0 1).bind fun p226 =>
  (F_X6_share n p226 x1 h2).bind fun v230 =>
  some (.inl v230, h2))
  else (some (.inr 4, h2))
noncomputable def F_X11_requireNumber (n : Nat) (a0 : Nat) (x1 : Int32) (x2 : Int32) (x3 : Int32) (h : jH) : Option (jR × jH) :=
  if x1 < x2 then (some (.inr 0, h))
  else (if x1 ≤ x3 then (some (.inl 0, h))
  else (some (.inr 0, h)))
noncomputable def F_X11_pull (n : Nat) (a0 : Nat) (x1 : Int32) (x2 : Int32) (x3 : Int32) (h : jH) : Option (jR × jH) :=
  (jcv 9 h a0 (F_X11_requireRing n a0 x1 h)).bind fun q2 => jthen q2 fun r2 h2 =>
  (jcv 9 h2 a0 (F_X11_requireNumber n a0 x3 (1 : Int32) (31 : Int32) h2)).bind fun q10 => jthen q10 fun r10 h10 =>
  (jgR 9 h10 a0 3).bind fun p14 =>
  (jgR 9 h10 a0 1).bind fun p18 =>
  (jcv 0 h10 p14 (F_X0_remember n p14 p18 h10)).bind fun h21 =>
  (jgR 9 h21 a0 1).bind fun p25 =>
  (jcv 6 h21 p25 (F_X8_move n p25 x1 x2 x3 h21)).bind fun q31 =>
  (jgR 9 q31.2 a0 1).bind fun p37 =>
  (jgR 6 q31.2 p37 4).bind fun p40 =>
  (jgR 9 q31.2 a0 1).bind fun p44 =>
  (jcv 4 q31.2 p40 (F_X5_add n p40 p44 x1 (0 : Int32) q31.1 q31.2)).bind fun h51 =>
  some (.inl q31.1, h51)
noncomputable def F_X11_free (n : Nat) (a0 : Nat) (x1 : Int32) (h : jH) : Option (jR × jH) :=
  (jcv 9 h a0 (F_X11_requireRing n a0 x1 h)).bind fun q2 => jthen q2 fun r2 h2 =>
  (jgR 9 h2 a0 1).bind fun p6 =>
  (jgI 6 h2 p6 9).bind fun v9 =>
  (F_X11_bit n v9 x1 h2).bind fun v13 =>
  if v13 = 0 then (some (.inr 1, h2))
  else ((jgR 9 h2 a0 3).bind fun p30 =>
  (jgR 9 h2 a0 1).bind fun p34 =>
  (jcv 0 h2 p30 (F_X0_remember n p30 p34 h2)).bind fun h37 =>
  (jgR 9 h37 a0 1).bind fun p41 =>
  (jgR 9 h37 a0 1).bind fun p45 =>
  (jgI 6 h37 p45 9).bind fun v48 =>
  (F_X11_withBit n v48 x1 (0 : Int32) h37).bind fun v53 =>
  (jpf 6 h37 p41 9 (.int v53)).bind fun h56 =>
  (jgR 9 h56 a0 1).bind fun p60 =>
  (jcv 6 h56 p60 (F_X8_gap n p60 x1 (-1 : Int32) h56)).bind fun v65 =>
  some (.inl v65, h56))
noncomputable def F_X11_snag (n : Nat) (a0 : Nat) (x1 : Int32) (h : jH) : Option (jR × jH) :=
  (jcv 9 h a0 (F_X11_requireRing n a0 x1 h)).bind fun q2 => jthen q2 fun r2 h2 =>
  (jgR 9 h2 a0 1).bind fun p7 =>
  (jgI 6 h2 p7 5).bind fun v10 =>
  if x1 = (v10 - (1 : Int32)) then (some (.inr 1, h2))
  else ((jgR 9 h2 a0 1).bind fun p19 =>
  (jgI 6 h2 p19 9).bind fun v22 =>
  (F_X11_bit n v22 x1 h2).bind fun v26 =>
  if v26 = (1 : Int32) then (some (.inr 1, h2))
  else ((jgR 9 h2 a0 3).bind fun p44 =>
  (jgR 9 h2 a0 1).bind fun p48 =>
  (jcv 0 h2 p44 (F_X0_remember n p44 p48 h2)).bind fun h51 =>
  (jgR 9 h51 a0 1).bind fun p55 =>
  (jgR 9 h51 a0 1).bind fun p59 =>
  (jgI 6 h51 p59 9).bind fun v62 =>
  (F_X11_withBit n v62 x1 (1 : Int32) h51).bind fun v67 =>
  (jpf 6 h51 p55 9 (.int v67)).bind fun h70 =>
  (jgR 9 h70 a0 1).bind fun p74 =>
  (jcv 6 h70 p74 (F_X8_gap n p74 x1 (-1 : Int32) h70)).bind fun v79 =>
  some (.inl v79, h70)))
noncomputable def F_X11_hook (n : Nat) (a0 : Nat) (x1 : Int32) (x2 : Int32) (h : jH) : Option (jR × jH) :=
  (jcv 9 h a0 (F_X11_requireRing n a0 x1 h)).bind fun q2 => jthen q2 fun r2 h2 =>
  (jgR 9 h2 a0 3).bind fun p6 =>
  (jgR 9 h2 a0 1).bind fun p10 =>
  (jcv 0 h2 p6 (F_X0_remember n p6 p10 h2)).bind fun h13 =>
  (jgR 9 h13 a0 1).bind fun p17 =>
  (jgI 6 h13 p17 8).bind fun v20 =>
  (jgR 9 h13 a0 1).bind fun p25 =>
  (F_X11_withBit n v20 x1 x2 h13).bind fun v31 =>
  (jpf 6 h13 p25 8 (.int v31)).bind fun h34 =>
  (jgR 9 h34 a0 1).bind fun p38 =>
  (jgI 6 h34 p38 8).bind fun v41 =>
  if v41 = v20 then (some (.inl (0 : Int32), h34))
  else (some (.inl (1 : Int32), h34))
noncomputable def F_X11_requirePlace (n : Nat) (a0 : Nat) (x1 : Int32) (h : jH) : Option (jR × jH) :=
  if x1 < 0 then (some (.inr 2, h))
  else (if x1 ≤ (31 : Int32) then (some (.inl 0, h))
  else (some (.inr 2, h)))
noncomputable def F_X11_sew (n : Nat) (a0 : Nat) (x1 : Int32) (x2 : Int32) (h : jH) : Option (jR × jH) :=
  (jcv 9 h a0 (F_X11_requirePlace n a0 x1 h)).bind fun q2 => jthen q2 fun r2 h2 =>
  (jcv 9 h2 a0 (F_X11_requireNumber n a0 x2 (1 : Int32) (9 : Int32) h2)).bind fun q10 => jthen q10 fun r10 h10 =>
  (jgR 9 h10 a0 1).bind fun p14 =>
  (jgI 6 h10 p14 5).bind fun v17 =>
  if (8 : Int32) ≤ v17 then (some (.inr 1, h10))
  else ((jgR 9 h10 a0 1).bind fun p27 =>
  (jcv 6 h10 p27 (F_X8_nearestNew n p27 h10)).bind fun v30 =>
  if x1 < v30 then (some (.inr 1, h10))
  else ((jgR 9 h10 a0 1).bind fun p38 =>
  (jcv 6 h10 p38 (F_X8_farthestNew n p38 h10)).bind fun v41 =>
  if x1 ≤ v41 then ((jgR 9 h10 a0 3).bind fun p58 =>
  (jgR 9 h10 a0 1).bind fun p62 =>
  (jcv 0 h10 p58 (F_X0_remember n p58 p62 h10)).bind fun h65 =>
  (jgR 9 h65 a0 1).bind fun p69 =>
  (jcv 6 h65 p69 (F_X8_add n p69 x1 x2 h65)).bind fun h74 =>
  (jgR 9 h74 a0 1).bind fun p78 =>
  (jgI 6 h74 p78 5).bind fun v81 =>
  some (.inl (v81 - (1 : Int32)), h74))
  else (some (.inr 1, h10))))
noncomputable def F_X11_let (n : Nat) (a0 : Nat) (x1 : Int32) (x2 : Int32) (h : jH) : Option (jR × jH) :=
  (jcv 9 h a0 (F_X11_requireRing n a0 x1 h)).bind fun q2 => jthen q2 fun r2 h2 =>
  (jcv 9 h2 a0 (F_X11_requireNumber n a0 x2 (0 : Int32) (9 : Int32) h2)).bind fun q10 => jthen q10 fun r10 h10 =>
  (jgR 9 h10 a0 3).bind fun p14 =>
  (jgR 9 h10 a0 1).bind fun p18 =>
  (jcv 0 h10 p14 (F_X0_remember n p14 p18 h10)).bind fun h21 =>
  (jgR 9 h21 a0 1).bind fun p25 =>
  (jgR 6 h21 p25 3).bind fun p28 =>
  (jal 0 h21 p28 x1).bind fun v32 =>
  (jgR 9 h21 a0 1).bind fun p35 =>
  (jgR 6 h21 p35 3).bind fun p38 =>
  (jas 0 h21 p38 x1 x2).bind fun h43 =>
  some (.inl v32, h43)
noncomputable def F_X11_chair (n : Nat) (a0 : Nat) (x1 : Int32) (x2 : Int32) (h : jH) : Option (jR × jH) :=
  (jcv 9 h a0 (F_X11_requirePlace n a0 x1 h)).bind fun q2 => jthen q2 fun r2 h2 =>
  (jgR 9 h2 a0 3).bind fun p6 =>
  (jgR 9 h2 a0 1).bind fun p10 =>
  (jcv 0 h2 p6 (F_X0_remember n p6 p10 h2)).bind fun h13 =>
  (jgR 9 h13 a0 1).bind fun p17 =>
  (jgI 6 h13 p17 10).bind fun v20 =>
  (jgR 9 h13 a0 1).bind fun p25 =>
  (F_X11_withBit n v20 x1 x2 h13).bind fun v31 =>
  (jpf 6 h13 p25 10 (.int v31)).bind fun h34 =>
  (jgR 9 h34 a0 1).bind fun p38 =>
  (jgI 6 h34 p38 10).bind fun v41 =>
  if v41 = v20 then (some (.inl (0 : Int32), h34))
  else (some (.inl (1 : Int32), h34))
noncomputable def F_X11_hours (n : Nat) (a0 : Nat) (x1 : Int32) (h : jH) : Option (jR × jH) :=
  (jcv 9 h a0 (F_X11_requireNumber n a0 x1 (1 : Int32) (80 : Int32) h)).bind fun q5 => jthen q5 fun r5 h5 =>
  (jgR 9 h5 a0 3).bind fun p9 =>
  (jgR 9 h5 a0 1).bind fun p13 =>
  (jcv 0 h5 p9 (F_X0_remember n p9 p13 h5)).bind fun h16 =>
  (jgR 9 h16 a0 8).bind fun p20 =>
  (jgR 9 h16 a0 1).bind fun p24 =>
  (jcv 1 h16 p20 (F_X1_run n p20 p24 x1 h16)).bind fun q28 =>
  some (.inl q28.1, q28.2)
noncomputable def F_X11_shade (n : Nat) (a0 : Nat) (h : jH) : Option Int32 :=
  (jgR 9 h a0 1).bind fun p1 =>
  (jcv 6 h p1 (F_X8_shadow n p1 h)).bind fun v4 =>
  some v4
noncomputable def F_X11_dark (n : Nat) (a0 : Nat) (h : jH) : Option Int32 :=
  (jgR 9 h a0 1).bind fun p1 =>
  (jcv 6 h p1 (F_X8_shadedChairs n p1 h)).bind fun v4 =>
  some v4
noncomputable def F_X11_bare (n : Nat) (a0 : Nat) (h : jH) : Option Int32 :=
  (jgR 9 h a0 1).bind fun p1 =>
  (jgI 6 h p1 10).bind fun v4 =>
  (jgR 9 h a0 1).bind fun p8 =>
  (jcv 6 h p8 (F_X8_shadow n p8 h)).bind fun v11 =>
  some (v4 &&& (v11 ^^^ (-1 : Int32)))
noncomputable def F_X11_goes (n : Nat) (a0 : Nat) (x1 : Int32) (x2 : Int32) (h : jH) : Option (jR × jH) :=
  (jcv 9 h a0 (F_X11_requireRing n a0 x1 h)).bind fun q2 => jthen q2 fun r2 h2 =>
  (jgR 9 h2 a0 4).bind fun p6 =>
  (jgR 9 h2 a0 1).bind fun p10 =>
  (jcv 6 h2 p6 (F_X8_copyFrom n p6 p10 h2)).bind fun h13 =>
  (jgR 9 h13 a0 4).bind fun p17 =>
  (jcv 6 h13 p17 (F_X8_move n p17 x1 x2 (31 : Int32) h13)).bind fun q24 =>
  some (.inl q24.1, q24.2)
noncomputable def F_X11_with (n : Nat) (a0 : Nat) (x1 : Int32) (x2 : Int32) (h : jH) : Option (jR × jH) :=
  (jcv 9 h a0 (F_X11_requireRing n a0 x1 h)).bind fun q2 => jthen q2 fun r2 h2 =>
  (jgR 9 h2 a0 1).bind fun p6 =>
  (jcv 6 h2 p6 (F_X8_goers n p6 x1 x2 h2)).bind fun v11 =>
  some (.inl v11, h2)
noncomputable def F_X11_would (n : Nat) (a0 : Nat) (x1 : Int32) (x2 : Int32) (x3 : Int32) (x4 : Int32) (h : jH) : Option (jR × jH) :=
  (jcv 9 h a0 (F_X11_requireRing n a0 x1 h)).bind fun q2 => jthen q2 fun r2 h2 =>
  (jcv 9 h2 a0 (F_X11_requireNumber n a0 x3 (1 : Int32) (31 : Int32) h2)).bind fun q10 => jthen q10 fun r10 h10 =>
  (jgR 9 h10 a0 4).bind fun p14 =>
  (jgR 9 h10 a0 1).bind fun p18 =>
  (jcv 6 h10 p14 (F_X8_copyFrom n p14 p18 h10)).bind fun h21 =>
  (jgR 9 h21 a0 4).bind fun p25 =>
  (jcv 6 h21 p25 (F_X8_move n p25 x1 x2 x3 h21)).bind fun q31 =>
  if x4 = 0 then ((jgR 9 q31.2 a0 4).bind fun p59 =>
  (jcv 6 q31.2 p59 (F_X8_shadedChairs n p59 q31.2)).bind fun v62 =>
  some (.inl v62, q31.2))
  else ((jgR 9 q31.2 a0 4).bind fun p41 =>
  (jgI 6 q31.2 p41 15).bind fun v44 =>
  (jgR 9 q31.2 a0 1).bind fun p48 =>
  (jgI 6 q31.2 p48 15).bind fun v51 =>
  some (.inl (v44 - v51), q31.2))
noncomputable def F_X11_best (n : Nat) (a0 : Nat) (h : jH) : Option (Int32 × jH) :=
  (jgR 9 h a0 9).bind fun p1 =>
  (jgR 9 h a0 1).bind fun p5 =>
  (jcv 5 h p1 (F_X7_shadiest n p1 p5 h)).bind fun q8 =>
  some (q8.1, q8.2)
noncomputable def F_X11_fewest (n : Nat) (a0 : Nat) (x1 : Int32) (h : jH) : Option (Int32 × jH) :=
  (jgR 9 h a0 9).bind fun p1 =>
  (jgR 9 h a0 1).bind fun p5 =>
  (jcv 5 h p1 (F_X7_seekShade n p1 p5 x1 h)).bind fun h9 =>
  (jgR 9 h9 a0 9).bind fun p13 =>
  (jgI 5 h9 p13 5).bind fun v16 =>
  some (v16, h9)
noncomputable def F_X11_first (n : Nat) (a0 : Nat) (x1 : Int32) (h : jH) : Option (Int32 × jH) :=
  (jgR 9 h a0 9).bind fun p1 =>
  (jgR 9 h a0 1).bind fun p5 =>
  (jcv 5 h p1 (F_X7_seekShade n p1 p5 x1 h)).bind fun h9 =>
  (jgR 9 h9 a0 9).bind fun p13 =>
  (jgI 5 h9 p13 6).bind fun v16 =>
  some (v16, h9)
noncomputable def F_X11_readSnags (n : Nat) (a0 : Nat) (h : jH) : Option (jR × jH) :=
  (jgR 9 h a0 9).bind fun p1 =>
  (jgR 9 h a0 1).bind fun p5 =>
  (jgI 6 h p5 5).bind fun v8 =>
  (jcv 5 h p1 (F_X7_areRows n p1 v8 h)).bind fun v11 =>
  if v11 = 0 then ((jgR 9 h a0 0).bind fun p31 =>
  (jpf 8 h p31 6 (.int (0 : Int32))).bind fun h35 =>
  if v11 = 0 then (some (.inr 0, h35))
  else (some (.inl 0, h35)))
  else ((jgR 9 h a0 9).bind fun p20 =>
  (jgR 9 h a0 1).bind fun p24 =>
  (jcv 5 h p20 (F_X7_seekSnags n p20 p24 h)).bind fun h27 =>
  (jgR 9 h27 a0 0).bind fun p31 =>
  (jpf 8 h27 p31 6 (.int (0 : Int32))).bind fun h35 =>
  if v11 = 0 then (some (.inr 0, h35))
  else (some (.inl 0, h35)))
noncomputable def F_X11_snags (n : Nat) (a0 : Nat) (x1 : Int32) (h : jH) : Option (jR × jH) :=
  (jcv 9 h a0 (F_X11_readSnags n a0 h)).bind fun q1 => jthen q1 fun r1 h1 =>
  if x1 = 0 then ((jgR 9 h1 a0 9).bind fun p19 =>
  (jgI 5 h1 p19 4).bind fun v22 =>
  some (.inl v22, h1))
  else ((jgR 9 h1 a0 9).bind fun p9 =>
  (jcv 5 h1 p9 (F_X7_inAllFitting n p9 h1)).bind fun v12 =>
  some (.inl v12, h1))
noncomputable def F_X11_tries (n : Nat) (a0 : Nat) (h : jH) : Option (jR × jH) :=
  (jcv 9 h a0 (F_X11_readSnags n a0 h)).bind fun q1 => jthen q1 fun r1 h1 =>
  (jgR 9 h1 a0 9).bind fun p5 =>
  (jgR 9 h1 a0 1).bind fun p9 =>
  (jcv 5 h1 p5 (F_X7_partingPull n p5 p9 h1)).bind fun q12 =>
  some (.inl q12.1, q12.2)
noncomputable def F_X11_loosen (n : Nat) (a0 : Nat) (x1 : Int32) (x2 : Int32) (x3 : Int32) (h : jH) : Option (jR × jH) :=
  (jcv 9 h a0 (F_X11_requireRing n a0 x1 h)).bind fun q2 => jthen q2 fun r2 h2 =>
  (jcv 9 h2 a0 (F_X11_requireNumber n a0 x3 (1 : Int32) (31 : Int32) h2)).bind fun q10 => jthen q10 fun r10 h10 =>
  (jgR 9 h10 a0 9).bind fun p14 =>
  (jgR 9 h10 a0 1).bind fun p18 =>
  (jcv 5 h10 p14 (F_X7_fewestFreed n p14 p18 x1 x2 x3 h10)).bind fun q24 =>
  some (.inl q24.1, q24.2)
noncomputable def F_X11_order (n : Nat) (a0 : Nat) (h : jH) : Option Int32 :=
  (jgR 9 h a0 1).bind fun p1 =>
  (F_X6_outOfOrder n p1 h).bind fun v4 =>
  some v4
noncomputable def F_X11_tight (n : Nat) (a0 : Nat) (x1 : Int32) (h : jH) : Option (jR × jH) :=
  (jcv 9 h a0 (F_X11_requireNumber n a0 x1 (2 : Int32) (8 : Int32) h)).bind fun q5 => jthen q5 fun r5 h5 =>
  (jgR 9 h5 a0 1).bind fun p9 =>
  (F_X6_tightest n p9 x1 h5).bind fun v13 =>
  some (.inl v13, h5)
noncomputable def F_X11_slack (n : Nat) (a0 : Nat) (h : jH) : Option Int32 :=
  (jgR 9 h a0 1).bind fun p1 =>
  (F_X6_spareCloth n p1 h).bind fun v4 =>
  some v4
noncomputable def F_X11_taut (n : Nat) (a0 : Nat) (h : jH) : Option Int32 :=
  (jgR 9 h a0 1).bind fun p1 =>
  (F_X6_tautRings n p1 h).bind fun v4 =>
  some v4
noncomputable def F_X11_lit (n : Nat) (a0 : Nat) (x1 : Int32) (h : jH) : Option (jR × jH) :=
  if x1 < 0 then (some (.inr 2, h))
  else (if x1 < (8 : Int32) then ((jgR 9 h a0 1).bind fun p22 =>
  (F_X6_litRings n p22 x1 h).bind fun v26 =>
  some (.inl v26, h))
  else (some (.inr 2, h)))
noncomputable def F_X11_sunny (n : Nat) (a0 : Nat) (h : jH) : Option Int32 :=
  (jgR 9 h a0 1).bind fun p1 =>
  (F_X6_sunniest n p1 h).bind fun v4 =>
  some v4
noncomputable def F_X11_faded (n : Nat) (a0 : Nat) (x1 : Int32) (h : jH) : Option (jR × jH) :=
  (jcv 9 h a0 (F_X11_requireNumber n a0 x1 (0 : Int32) (80 : Int32) h)).bind fun q5 => jthen q5 fun r5 h5 =>
  (jgR 9 h5 a0 8).bind fun p9 =>
  (jgR 9 h5 a0 1).bind fun p13 =>
  (jcv 1 h5 p9 (F_X1_goAhead n p9 p13 x1 h5)).bind fun h17 =>
  (jgR 9 h17 a0 4).bind fun p21 =>
  (jcv 6 h17 p21 (F_X8_allFades n p21 h17)).bind fun v24 =>
  some (.inl v24, h17)
noncomputable def F_X11_pale (n : Nat) (a0 : Nat) (h : jH) : Option (Int32 × jH) :=
  (jgR 9 h a0 8).bind fun p1 =>
  (jgR 9 h a0 1).bind fun p5 =>
  (jcv 1 h p1 (F_X1_firstPale n p1 p5 h)).bind fun q8 =>
  some (q8.1, q8.2)
noncomputable def F_X11_lets (n : Nat) (a0 : Nat) (x1 : Int32) (x2 : Int32) (h : jH) : Option (jR × jH) :=
  (jcv 9 h a0 (F_X11_requireRing n a0 x1 h)).bind fun q2 => jthen q2 fun r2 h2 =>
  (jcv 9 h2 a0 (F_X11_requireNumber n a0 x2 (0 : Int32) (9 : Int32) h2)).bind fun q10 => jthen q10 fun r10 h10 =>
  (jgR 9 h10 a0 1).bind fun p14 =>
  (F_X6_evenLength n p14 x1 x2 h10).bind fun v19 =>
  some (.inl v19, h10)
noncomputable def F_X11_envy (n : Nat) (a0 : Nat) (h : jH) : Option Int32 :=
  (jgR 9 h a0 1).bind fun p1 =>
  (F_X6_enviousPairs n p1 h).bind fun v4 =>
  some v4
noncomputable def F_X11_rests (n : Nat) (a0 : Nat) (x1 : Int32) (h : jH) : Option (jR × jH) :=
  (jcv 9 h a0 (F_X11_requireRing n a0 x1 h)).bind fun q2 => jthen q2 fun r2 h2 =>
  (jgR 9 h2 a0 1).bind fun p6 =>
  (F_X6_restingChoices n p6 x1 h2).bind fun v10 =>
  some (.inl v10, h2)
noncomputable def F_X11_bunch (n : Nat) (a0 : Nat) (h : jH) : Option Int32 :=
  (jgR 9 h a0 1).bind fun p1 =>
  (F_X6_largestBunch n p1 h).bind fun v4 =>
  some v4
noncomputable def F_X11_wooden (n : Nat) (a0 : Nat) (h : jH) : Option Int32 :=
  (jgR 9 h a0 1).bind fun p1 =>
  (jgI 6 h p1 7).bind fun v4 =>
  some v4
noncomputable def F_X11_caught (n : Nat) (a0 : Nat) (h : jH) : Option Int32 :=
  (jgR 9 h a0 1).bind fun p1 =>
  (jgI 6 h p1 9).bind fun v4 =>
  some v4
noncomputable def F_X11_loose (n : Nat) (a0 : Nat) (h : jH) : Option Int32 :=
  (jgR 9 h a0 1).bind fun p1 =>
  (jcv 6 h p1 (F_X8_unhooked n p1 h)).bind fun v4 =>
  some v4
noncomputable def F_X11_beyond (n : Nat) (a0 : Nat) (h : jH) : Option Int32 :=
  (jgR 9 h a0 1).bind fun p1 =>
  (F_X6_thickBeyondJoin n p1 h).bind fun v4 =>
  some v4
noncomputable def F_X11_odds (n : Nat) (a0 : Nat) (x1 : Int32) (x2 : Int32) (h : jH) : Option (jR × jH) :=
  (jcv 9 h a0 (F_X11_requireRing n a0 x1 h)).bind fun q2 => jthen q2 fun r2 h2 =>
  (jcv 9 h2 a0 (F_X11_requireNumber n a0 x2 (0 : Int32) (4 : Int32) h2)).bind fun q9 => jthen q9 fun r9 h9 =>
  (jgR 9 h9 a0 8).bind fun p13 =>
  (jgR 9 h9 a0 1).bind fun p17 =>
  (jcv 1 h9 p13 (F_X1_oddsToStay n p13 p17 x1 x2 h9)).bind fun q22 =>
  some (.inl q22.1, q22.2)
noncomputable def F_X11_twins (n : Nat) (a0 : Nat) (h : jH) : Option Int32 :=
  (jgR 9 h a0 1).bind fun p1 =>
  (F_X6_likePairs n p1 h).bind fun v4 =>
  some v4
noncomputable def F_X11_ahead (n : Nat) (a0 : Nat) (x1 : Int32) (x2 : Int32) (h : jH) : Option (jR × jH) :=
  (jcv 9 h a0 (F_X11_requireRing n a0 x1 h)).bind fun q2 => jthen q2 fun r2 h2 =>
  (jcv 9 h2 a0 (F_X11_requireNumber n a0 x2 (0 : Int32) (80 : Int32) h2)).bind fun q10 => jthen q10 fun r10 h10 =>
  (jgR 9 h10 a0 8).bind fun p14 =>
  (jgR 9 h10 a0 1).bind fun p18 =>
  (jcv 1 h10 p14 (F_X1_goAhead n p14 p18 x2 h10)).bind fun h22 =>
  (jgR 9 h22 a0 4).bind fun p26 =>
  (jgR 6 h22 p26 2).bind fun p29 =>
  (jal 0 h22 p29 x1).bind fun v33 =>
  some (.inl v33, h22)
noncomputable def F_X11_trial (n : Nat) (a0 : Nat) (x1 : Int32) (x2 : Int32) (h : jH) : Option (jR × jH) :=
  (jcv 9 h a0 (F_X11_requireNumber n a0 x1 (0 : Int32) (80 : Int32) h)).bind fun q5 => jthen q5 fun r5 h5 =>
  (jgR 9 h5 a0 8).bind fun p9 =>
  (jgR 9 h5 a0 1).bind fun p13 =>
  (jgR 9 h5 a0 1).bind fun p18 =>
  (jgI 6 h5 p18 16).bind fun v21 =>
  (jcv 1 h5 p9 (F_X1_tryHours n p9 p13 x1 v21 h5)).bind fun h24 =>
  if x2 = 0 then ((jgR 9 h24 a0 4).bind fun p42 =>
  (jgI 6 h24 p42 9).bind fun v45 =>
  some (.inl v45, h24))
  else ((jgR 9 h24 a0 4).bind fun p32 =>
  (jcv 6 h24 p32 (F_X8_unhooked n p32 h24)).bind fun v35 =>
  some (.inl v35, h24))
noncomputable def F_X11_span_13_b (n : Nat) (rc13 : Nat → Int32 → Int32 → Int32 → Int32 → jH → Option (jR × jH)) (a0 : Nat) (x1 : Int32) (x2 : Int32) (x3 : Int32) (x4 : Int32) (h : jH) : Option (jR × jH) :=
  if (6 : Int32) < x4 then (some (.inl x3, h))
  else ((jgR 9 h a0 8).bind fun p21 =>
  (jgR 9 h a0 1).bind fun p25 =>
  (jcv 1 h p21 (F_X1_tryHours n p21 p25 x1 x4 h)).bind fun h31 =>
  (jgR 9 h31 a0 4).bind fun p35 =>
  (jgI 6 h31 p35 9).bind fun v38 =>
  (F_J6_bitCount_0f7a4 n v38 h31).bind fun v41 =>
  (jgR 9 h31 a0 4).bind fun p45 =>
  (jcv 6 h31 p45 (F_X8_unhooked n p45 h31)).bind fun v48 =>
  (F_J6_bitCount_0f7a4 n v48 h31).bind fun v51 =>
  if x3 = (-1 : Int32) then (rc13 a0 x1 x2 (v41 + v51) (x4 + (1 : Int32)) h31)
  else (if x2 = 0 then (if x3 ≤ (v41 + v51) then (rc13 a0 x1 x2 x3 (x4 + (1 : Int32)) h31)
  else (rc13 a0 x1 x2 (v41 + v51) (x4 + (1 : Int32)) h31))
  else (if (v41 + v51) ≤ x3 then (rc13 a0 x1 x2 x3 (x4 + (1 : Int32)) h31)
  else (rc13 a0 x1 x2 (v41 + v51) (x4 + (1 : Int32)) h31))))
noncomputable def F_X11_span_13 (n : Nat) : Nat → Nat → Int32 → Int32 → Int32 → Int32 → jH → Option (jR × jH)
  | 0 => fun _ _ _ _ _ _ => none
  | k + 1 => F_X11_span_13_b n (F_X11_span_13 n k)
noncomputable def F_X11_span (n : Nat) (a0 : Nat) (x1 : Int32) (x2 : Int32) (h : jH) : Option (jR × jH) :=
  (jcv 9 h a0 (F_X11_requireNumber n a0 x1 (0 : Int32) (80 : Int32) h)).bind fun q5 => jthen q5 fun r5 h5 =>
  F_X11_span_13 n n a0 x1 x2 (-1 : Int32) (1 : Int32) h5
noncomputable def F_X11_led (n : Nat) (a0 : Nat) (x1 : Int32) (x2 : Int32) (h : jH) : Option (jR × jH) :=
  (jcv 9 h a0 (F_X11_requireRing n a0 x1 h)).bind fun q2 => jthen q2 fun r2 h2 =>
  if x2 = 0 then ((jgR 9 h2 a0 1).bind fun p24 =>
  (jgR 6 h2 p24 4).bind fun p27 =>
  (jcv 4 h2 p27 (F_X5_rowsOf n p27 x1 h2)).bind fun v31 =>
  some (.inl v31, h2))
  else ((jgR 9 h2 a0 1).bind fun p10 =>
  (jgR 6 h2 p10 4).bind fun p13 =>
  (jcv 4 h2 p13 (F_X5_latestPlace n p13 x1 h2)).bind fun v17 =>
  some (.inl v17, h2))
noncomputable def F_X11_log (n : Nat) (a0 : Nat) (x1 : Int32) (x2 : Int32) (h : jH) : Option (jR × jH) :=
  if x2 < 0 then (some (.inr 4, h))
  else (if x2 < (6 : Int32) then ((jgR 9 h a0 1).bind fun p22 =>
  (jgR 6 h p22 4).bind fun p25 =>
  (jcv 4 h p25 (F_X5_read n p25 x1 x2 h)).bind fun v30 =>
  some (.inl v30, h))
  else (some (.inr 4, h)))
noncomputable def F_X11_seed (n : Nat) (a0 : Nat) (x1 : Int32) (h : jH) : Option (Int32 × jH) :=
  (jgR 9 h a0 1).bind fun p1 =>
  (jgI 6 h p1 16).bind fun v4 =>
  (jgR 9 h a0 1).bind fun p9 =>
  (jpf 6 h p9 16 (.int x1)).bind fun h13 =>
  some (v4, h13)
noncomputable def F_X11_undo (n : Nat) (a0 : Nat) (h : jH) : Option (Int32 × jH) :=
  (jgR 9 h a0 3).bind fun p1 =>
  (jgR 9 h a0 1).bind fun p5 =>
  (jcv 0 h p1 (F_X0_takeBack n p1 p5 h)).bind fun q8 =>
  if q8.1 = 0 ∨ q8.1 = 1 then some (q8.1, q8.2) else none
noncomputable def F_X11_image_36 (n : Nat) (a0 : Nat) (h : jH) : Option jH :=
  (jgQ 9 h a0 10).bind fun o37 =>
  (jgR 9 h a0 1).bind fun p41 =>
  match o37 with
  | none => none
  | some p44 =>
  ((jcv 6 h p44 (F_X8_copyFrom n p44 p41 h)).bind fun h44 =>
  (jgQ 9 h44 a0 11).bind fun o48 =>
  (jgR 9 h44 a0 2).bind fun p52 =>
  match o48 with
  | none => none
  | some p55 =>
  ((jcv 2 h44 p55 (F_X2_copyFrom n p55 p52 h44)).bind fun h55 =>
  some h55))
noncomputable def F_X11_image_18 (n : Nat) (a0 : Nat) (h : jH) : Option jH :=
  (jgQ 9 h a0 11).bind fun o19 =>
  match o19 with
  | none => ((jnw h (.inl (2, [.null, .null, .null, .null, .null, .int 0, .int 0, .int 0, .int 0]))).bind fun h26 =>
  (F_X2_init n h.1 h26).bind fun h30 =>
  (jpf 9 h30 a0 11 (.ref h.1)).bind fun h33 =>
  F_X11_image_36 n a0 h33)
  | some p22 => (F_X11_image_36 n a0 h)
noncomputable def F_X11_image (n : Nat) (a0 : Nat) (h : jH) : Option jH :=
  (jgQ 9 h a0 10).bind fun o1 =>
  match o1 with
  | none => ((jnw h (.inl (6, [.null, .null, .null, .null, .null, .int 0, .int 0, .int 0, .int 0, .int 0, .int 0, .int 0, .int 0, .int 0, .int 0, .int 0, .int 0, .int 0]))).bind fun h8 =>
  (F_X8_init n h.1 h8).bind fun h12 =>
  (jpf 9 h12 a0 10 (.ref h.1)).bind fun h15 =>
  F_X11_image_18 n a0 h15)
  | some p4 => (F_X11_image_18 n a0 h)
noncomputable def F_X11_back (n : Nat) (a0 : Nat) (h : jH) : Option (Int32 × jH) :=
  (jgQ 9 h a0 10).bind fun o1 =>
  match o1 with
  | none => (some ((0 : Int32), h))
  | some p4 => ((jgQ 9 h a0 11).bind fun o8 =>
  match o8 with
  | none => (some ((0 : Int32), h))
  | some p11 => ((jgR 9 h a0 1).bind fun p17 =>
  (jgQ 9 h a0 10).bind fun o21 =>
  match o21 with
  | none => none
  | some p24_0 =>
  ((jcv 6 h p17 (F_X8_copyFrom n p17 p24_0 h)).bind fun h24 =>
  (jgR 9 h24 a0 2).bind fun p28 =>
  (jgQ 9 h24 a0 11).bind fun o32 =>
  match o32 with
  | none => none
  | some p35_0 =>
  ((jcv 2 h24 p28 (F_X2_copyFrom n p28 p35_0 h24)).bind fun h35 =>
  (jgR 9 h35 a0 3).bind fun p39 =>
  (jcv 0 h35 p39 (F_X0_forget n p39 h35)).bind fun h42 =>
  some ((1 : Int32), h42)))))
noncomputable def F_X11_count (n : Nat) (a0 : Nat) (x1 : Int32) (h : jH) : Option Int32 :=
  if x1 = (0 : Int32) then ((jgR 9 h a0 1).bind fun p61 =>
  (jgI 6 h p61 5).bind fun v64 =>
  some v64)
  else if x1 = (1 : Int32) then ((jgR 9 h a0 1).bind fun p69 =>
  (jgI 6 h p69 17).bind fun v72 =>
  some v72)
  else if x1 = (2 : Int32) then ((jgR 9 h a0 2).bind fun p77 =>
  (jgI 2 h p77 7).bind fun v80 =>
  if v80 = 0 then (some (-1 : Int32))
  else ((jgR 9 h a0 2).bind fun p87 =>
  (jgI 2 h p87 8).bind fun v90 =>
  some v90))
  else if x1 = (3 : Int32) then ((jgR 9 h a0 1).bind fun p99 =>
  (jgI 6 h p99 13).bind fun v102 =>
  some v102)
  else if x1 = (4 : Int32) then ((jgR 9 h a0 1).bind fun p107 =>
  (jgI 6 h p107 14).bind fun v110 =>
  some v110)
  else if x1 = (5 : Int32) then ((jgR 9 h a0 1).bind fun p115 =>
  (jgI 6 h p115 11).bind fun v118 =>
  some v118)
  else if x1 = (6 : Int32) then ((jgR 9 h a0 1).bind fun p123 =>
  (jgI 6 h p123 12).bind fun v126 =>
  some v126)
  else if x1 = (7 : Int32) then ((jgR 9 h a0 1).bind fun p131 =>
  (jgI 6 h p131 10).bind fun v134 =>
  some v134)
  else if x1 = (8 : Int32) then ((jgR 9 h a0 1).bind fun p139 =>
  (jgI 6 h p139 15).bind fun v142 =>
  some v142)
  else if x1 = (9 : Int32) then ((jgR 9 h a0 1).bind fun p147 =>
  (jgR 6 h p147 4).bind fun p150 =>
  (jgI 4 h p150 1).bind fun v153 =>
  some v153)
  else if x1 = (10 : Int32) then ((jgR 9 h a0 3).bind fun p158 =>
  (jgI 0 h p158 2).bind fun v161 =>
  some v161)
  else (some (-1 : Int32))
noncomputable def F_X12_thrown (n : Nat) (a0 : Nat) (h : jH) : Option Int32 :=
  (jgI 10 h a0 0).bind fun v1 =>
  some v1
noncomputable def F_X12_throwsIf (n : Nat) (a0 : Nat) (x1 : Int32) (x2 : Int32) (h : jH) : Option (Int32 × jH) :=
  if x1 = 0 then (if x1 = 0 ∨ x1 = 1 then some (x1, h) else none)
  else ((jpf 10 h a0 0 (.int x2)).bind fun h6 =>
  if x1 = 0 ∨ x1 = 1 then some (x1, h6) else none)
noncomputable def F_X12_in (n : Nat) (x0 : Int32) (x1 : Int32) (x2 : Int32) (h : jH) : Option Int32 :=
  if x0 < x1 then (some (0 : Int32))
  else (if x2 < x0 then (some (0 : Int32))
  else (some (1 : Int32)))
noncomputable def F_X12_has (n : Nat) (x0 : Int32) (x1 : Int32) (h : jH) : Option Int32 :=
  if ((x0 >>> (x1 &&& 31)) &&& (1 : Int32)) = (1 : Int32) then (some (1 : Int32))
  else (some (0 : Int32))
noncomputable def F_X12_init (n : Nat) (a0 : Nat) (h : jH) : Option jH :=
  (jnw h (.inr (.inl (0, 2133, fun _ => 0)))).bind fun h8 =>
  (jpf 10 h8 a0 1 (.ref h.1)).bind fun h10 =>
  (jnw h10 (.inr (.inl (0, 1284, fun _ => 0)))).bind fun h17 =>
  (jpf 10 h17 a0 2 (.ref h10.1)).bind fun h19 =>
  (jnw h19 (.inr (.inl (0, 1284, fun _ => 0)))).bind fun h26 =>
  (jpf 10 h26 a0 3 (.ref h19.1)).bind fun h28 =>
  (jnw h28 (.inr (.inl (0, 435, fun _ => 0)))).bind fun h35 =>
  (jpf 10 h35 a0 4 (.ref h28.1)).bind fun h37 =>
  (jnw h37 (.inr (.inl (0, 5220, fun _ => 0)))).bind fun h44 =>
  (jpf 10 h44 a0 5 (.ref h37.1)).bind fun h46 =>
  (jnw h46 (.inr (.inl (1, 400, fun _ => 0)))).bind fun h53 =>
  (jpf 10 h53 a0 8 (.ref h46.1)).bind fun h55 =>
  (jpf 10 h55 a0 14 (.int (-1 : Int32))).bind fun h60 =>
  (jnw h60 (.inr (.inl (0, 5, fun _ => 0)))).bind fun h65 =>
  (jpf 10 h65 a0 15 (.ref h60.1)).bind fun h67 =>
  (jnw h67 (.inr (.inl (0, 400, fun _ => 0)))).bind fun h74 =>
  (jpf 10 h74 a0 17 (.ref h67.1)).bind fun h76 =>
  (jnw h76 (.inr (.inl (2, 256, fun _ => 0)))).bind fun h83 =>
  (jpf 10 h83 a0 19 (.ref h76.1)).bind fun h85 =>
  (jnw h85 (.inr (.inl (0, 32, fun _ => 0)))).bind fun h91 =>
  (jpf 10 h91 a0 20 (.ref h85.1)).bind fun h93 =>
  (jnw h93 (.inr (.inl (0, 8, fun _ => 0)))).bind fun h99 =>
  (jpf 10 h99 a0 21 (.ref h93.1)).bind fun h101 =>
  (jgR 10 h101 a0 1).bind fun p105 =>
  (jas 0 h101 p105 (5 : Int32) (16 : Int32)).bind fun h111 =>
  (jgR 10 h111 a0 1).bind fun p113 =>
  (jas 0 h111 p113 (6 : Int32) (8 : Int32)).bind fun h120 =>
  (jgR 10 h120 a0 1).bind fun p122 =>
  (jas 0 h120 p122 (10 : Int32) (1 : Int32)).bind fun h128 =>
  some h128
noncomputable def F_X12_image_7_b (n : Nat) (rc7 : Nat → Int32 → jH → Option jH) (a0 : Nat) (x1 : Int32) (h : jH) : Option jH :=
  if (1284 : Int32) ≤ x1 then ((jpf 10 h a0 6 (.int (1 : Int32))).bind fun h34 =>
  some h34)
  else ((jgR 10 h a0 2).bind fun p15 =>
  (jgR 10 h a0 1).bind fun p20 =>
  (jal 0 h p20 x1).bind fun v24 =>
  (jas 0 h p15 x1 v24).bind fun h25 =>
  rc7 a0 (x1 + (1 : Int32)) h25)
noncomputable def F_X12_image_7 (n : Nat) : Nat → Nat → Int32 → jH → Option jH
  | 0 => fun _ _ _ => none
  | k + 1 => F_X12_image_7_b n (F_X12_image_7 n k)
noncomputable def F_X12_image (n : Nat) (a0 : Nat) (h : jH) : Option jH :=
  (jpf 10 h a0 0 (.int (0 : Int32))).bind fun h2 =>
  F_X12_image_7 n n a0 (0 : Int32) h2
noncomputable def F_X12_back_16_b (n : Nat) (rc16 : Nat → Int32 → jH → Option (Int32 × jH)) (a0 : Nat) (x1 : Int32) (h : jH) : Option (Int32 × jH) :=
  if (1284 : Int32) ≤ x1 then ((jpf 10 h a0 7 (.int (0 : Int32))).bind fun h43 =>
  some ((1 : Int32), h43))
  else ((jgR 10 h a0 1).bind fun p24 =>
  (jgR 10 h a0 2).bind fun p29 =>
  (jal 0 h p29 x1).bind fun v33 =>
  (jas 0 h p24 x1 v33).bind fun h34 =>
  rc16 a0 (x1 + (1 : Int32)) h34)
noncomputable def F_X12_back_16 (n : Nat) : Nat → Nat → Int32 → jH → Option (Int32 × jH)
  | 0 => fun _ _ _ => none
  | k + 1 => F_X12_back_16_b n (F_X12_back_16 n k)
noncomputable def F_X12_back (n : Nat) (a0 : Nat) (h : jH) : Option (Int32 × jH) :=
  (jpf 10 h a0 0 (.int (0 : Int32))).bind fun h2 =>
  (jgI 10 h2 a0 6).bind fun v6 =>
  if v6 = 0 then (some ((0 : Int32), h2))
  else (F_X12_back_16 n n a0 (0 : Int32) h2)
noncomputable def F_X12_remembers_55_b (n : Nat) (rc55 : Nat → Int32 → jH → Option jH) (a0 : Nat) (x1 : Int32) (h : jH) : Option jH :=
  if (435 : Int32) ≤ x1 then (some h)
  else ((jgR 10 h a0 5).bind fun p63 =>
  (jgI 10 h a0 7).bind fun v70 =>
  (jgR 10 h a0 1).bind fun p79 =>
  (jal 0 h p79 x1).bind fun v83 =>
  (jas 0 h p63 (((435 : Int32) * (v70 - (1 : Int32))) + x1) v83).bind fun h84 =>
  rc55 a0 (x1 + (1 : Int32)) h84)
noncomputable def F_X12_remembers_55 (n : Nat) : Nat → Nat → Int32 → jH → Option jH
  | 0 => fun _ _ _ => none
  | k + 1 => F_X12_remembers_55_b n (F_X12_remembers_55 n k)
noncomputable def F_X12_remembers_11_b (n : Nat) (rc11 : Nat → Int32 → jH → Option jH) (a0 : Nat) (x1 : Int32) (h : jH) : Option jH :=
  if (4785 : Int32) ≤ x1 then (F_X12_remembers_55 n n a0 (0 : Int32) h)
  else ((jgR 10 h a0 5).bind fun p19 =>
  (jgR 10 h a0 5).bind fun p24 =>
  (jal 0 h p24 (x1 + (435 : Int32))).bind fun v32 =>
  (jas 0 h p19 x1 v32).bind fun h33 =>
  rc11 a0 (x1 + (1 : Int32)) h33)
noncomputable def F_X12_remembers_11 (n : Nat) : Nat → Nat → Int32 → jH → Option jH
  | 0 => fun _ _ _ => none
  | k + 1 => F_X12_remembers_11_b n (F_X12_remembers_11 n k)
noncomputable def F_X12_remembers (n : Nat) (a0 : Nat) (h : jH) : Option jH :=
  (jgI 10 h a0 7).bind fun v1 =>
  if v1 = (12 : Int32) then (F_X12_remembers_11 n n a0 (0 : Int32) h)
  else ((jgI 10 h a0 7).bind fun v45 =>
  (jpf 10 h a0 7 (.int (v45 + (1 : Int32)))).bind fun h50 =>
  F_X12_remembers_55 n n a0 (0 : Int32) h50)
noncomputable def F_X12_undo_26_b (n : Nat) (rc26 : Nat → Int32 → jH → Option (Int32 × jH)) (a0 : Nat) (x1 : Int32) (h : jH) : Option (Int32 × jH) :=
  if (435 : Int32) ≤ x1 then (some ((1 : Int32), h))
  else ((jgR 10 h a0 1).bind fun p34 =>
  (jgR 10 h a0 5).bind fun p39 =>
  (jgI 10 h a0 7).bind fun v46 =>
  (jal 0 h p39 (((435 : Int32) * v46) + x1)).bind fun v52 =>
  (jas 0 h p34 x1 v52).bind fun h53 =>
  rc26 a0 (x1 + (1 : Int32)) h53)
noncomputable def F_X12_undo_26 (n : Nat) : Nat → Nat → Int32 → jH → Option (Int32 × jH)
  | 0 => fun _ _ _ => none
  | k + 1 => F_X12_undo_26_b n (F_X12_undo_26 n k)
noncomputable def F_X12_undo (n : Nat) (a0 : Nat) (h : jH) : Option (Int32 × jH) :=
  (jpf 10 h a0 0 (.int (0 : Int32))).bind fun h2 =>
  (jgI 10 h2 a0 7).bind fun v6 =>
  if v6 = 0 then (some ((0 : Int32), h2))
  else ((jgI 10 h2 a0 7).bind fun v16 =>
  (jpf 10 h2 a0 7 (.int (v16 - (1 : Int32)))).bind fun h21 =>
  F_X12_undo_26 n n a0 (0 : Int32) h21)
noncomputable def F_X12_rings (n : Nat) (a0 : Nat) (h : jH) : Option Int32 :=
  (jgR 10 h a0 1).bind fun p1 =>
  (jal 0 h p1 (0 : Int32)).bind fun v5 =>
  some v5
noncomputable def F_X12_lastRing (n : Nat) (a0 : Nat) (h : jH) : Option Int32 :=
  (jcv 10 h a0 (F_X12_rings n a0 h)).bind fun v1 =>
  some (v1 - (1 : Int32))
noncomputable def F_X12_at (n : Nat) (x0 : Int32) (x1 : Int32) (h : jH) : Option Int32 :=
  some (((11 : Int32) + ((8 : Int32) * x0)) + x1)
noncomputable def F_X12_of (n : Nat) (a0 : Nat) (x1 : Int32) (x2 : Int32) (h : jH) : Option Int32 :=
  (jgR 10 h a0 1).bind fun p1 =>
  (F_X12_at n x1 x2 h).bind fun v6 =>
  (jal 0 h p1 v6).bind fun v9 =>
  some v9
noncomputable def F_X12_is (n : Nat) (a0 : Nat) (x1 : Int32) (x2 : Int32) (h : jH) : Option Int32 :=
  (jcv 10 h a0 (F_X12_of n a0 x1 x2 h)).bind fun v3 =>
  if v3 = (1 : Int32) then (some (1 : Int32))
  else (some (0 : Int32))
noncomputable def F_X12_gapOf (n : Nat) (a0 : Nat) (x1 : Int32) (h : jH) : Option Int32 :=
  (jcv 10 h a0 (F_X12_lastRing n a0 h)).bind fun v2 =>
  if x1 = v2 then (some (99 : Int32))
  else ((jcv 10 h a0 (F_X12_of n a0 (x1 + (1 : Int32)) (0 : Int32) h)).bind fun v18 =>
  (jcv 10 h a0 (F_X12_of n a0 x1 (0 : Int32) h)).bind fun v24 =>
  some (v18 - v24))
noncomputable def F_X12_ringsThat_4_b (n : Nat) (rc4 : Nat → Int32 → Int32 → Int32 → jH → Option Int32) (a0 : Nat) (x1 : Int32) (x2 : Int32) (x3 : Int32) (h : jH) : Option Int32 :=
  (jcv 10 h a0 (F_X12_rings n a0 h)).bind fun v6 =>
  if v6 ≤ x3 then (some x2)
  else ((jcv 10 h a0 (F_X12_is n a0 x3 x1 h)).bind fun v16 =>
  if v16 = 0 then (rc4 a0 x1 (x2 ||| (0 : Int32)) (x3 + (1 : Int32)) h)
  else (rc4 a0 x1 (x2 ||| ((1 : Int32) <<< (x3 &&& 31))) (x3 + (1 : Int32)) h))
noncomputable def F_X12_ringsThat_4 (n : Nat) : Nat → Nat → Int32 → Int32 → Int32 → jH → Option Int32
  | 0 => fun _ _ _ _ _ => none
  | k + 1 => F_X12_ringsThat_4_b n (F_X12_ringsThat_4 n k)
noncomputable def F_X12_ringsThat (n : Nat) (a0 : Nat) (x1 : Int32) (h : jH) : Option Int32 :=
  F_X12_ringsThat_4 n n a0 x1 (0 : Int32) (0 : Int32) h
noncomputable def F_X12_noRing (n : Nat) (a0 : Nat) (x1 : Int32) (h : jH) : Option Int32 :=
  (jcv 10 h a0 (F_X12_lastRing n a0 h)).bind fun v3 =>
  (F_X12_in n x1 (0 : Int32) v3 h).bind fun v6 =>
  if v6 = 0 then (some (1 : Int32))
  else (some (0 : Int32))
noncomputable def F_X12_noPlace (n : Nat) (x0 : Int32) (h : jH) : Option Int32 :=
  (F_X12_in n x0 (0 : Int32) (31 : Int32) h).bind fun v4 =>
  if v4 = 0 then (some (1 : Int32))
  else (some (0 : Int32))
noncomputable def F_X12_noSteps (n : Nat) (x0 : Int32) (h : jH) : Option Int32 :=
  (F_X12_in n x0 (1 : Int32) (31 : Int32) h).bind fun v4 =>
  if v4 = 0 then (some (1 : Int32))
  else (some (0 : Int32))
noncomputable def F_X12_drawn (n : Nat) (a0 : Nat) (x1 : Int32) (h : jH) : Option (Int32 × jH) :=
  (jgR 10 h a0 1).bind fun p1 =>
  (jgR 10 h a0 1).bind fun p9 =>
  (jal 0 h p9 (10 : Int32)).bind fun v14 =>
  (jas 0 h p1 (10 : Int32) (((1103515245 : Int32) * v14) + (12345 : Int32))).bind fun h20 =>
  (jgR 10 h20 a0 1).bind fun p22 =>
  (jal 0 h20 p22 (10 : Int32)).bind fun v27 =>
  if x1 = 0 then none else
  some (((v27 >>> ((16 : Int32) &&& 31)) &&& (32767 : Int32)) - ((v27 >>> ((16 : Int32) &&& 31)) &&& (32767 : Int32)) / x1 * x1, h20)
noncomputable def F_X12_feed_60_b (n : Nat) (rc60 : Nat → Int32 → jH → Option (Int32 × jH)) (a0 : Nat) (x6 : Int32) (h : jH) : Option (Int32 × jH) :=
  if (20 : Int32) ≤ x6 then ((jgI 10 h a0 9).bind fun v108 =>
  (jpf 10 h a0 9 (.int (v108 + (20 : Int32)))).bind fun h114 =>
  (jgI 10 h114 a0 9).bind fun v118 =>
  some (v118, h114))
  else ((jgR 10 h a0 8).bind fun p68 =>
  (jgI 10 h a0 9).bind fun v72 =>
  (jgR 10 h a0 15).bind fun p79 =>
  (jal 0 h p79 (x6 / (4 : Int32))).bind fun v86 =>
  (jas 1 h p68 (v72 + x6) ((v86 >>> (((24 : Int32) - ((8 : Int32) * (x6 - x6 / (4 : Int32) * (4 : Int32)))) &&& 31)).toInt8.toInt32)).bind fun h99 =>
  rc60 a0 (x6 + (1 : Int32)) h99)
noncomputable def F_X12_feed_60 (n : Nat) : Nat → Nat → Int32 → jH → Option (Int32 × jH)
  | 0 => fun _ _ _ => none
  | k + 1 => F_X12_feed_60_b n (F_X12_feed_60 n k)
noncomputable def F_X12_feed (n : Nat) (a0 : Nat) (x1 : Int32) (x2 : Int32) (x3 : Int32) (x4 : Int32) (x5 : Int32) (h : jH) : Option (Int32 × jH) :=
  (jpf 10 h a0 0 (.int (0 : Int32))).bind fun h2 =>
  (jgI 10 h2 a0 9).bind fun v6 =>
  if (v6 + (20 : Int32)) ≤ (400 : Int32) then ((jgR 10 h2 a0 15).bind fun p21 =>
  (jas 0 h2 p21 (0 : Int32) x1).bind fun h26 =>
  (jgR 10 h26 a0 15).bind fun p28 =>
  (jas 0 h26 p28 (1 : Int32) x2).bind fun h33 =>
  (jgR 10 h33 a0 15).bind fun p35 =>
  (jas 0 h33 p35 (2 : Int32) x3).bind fun h40 =>
  (jgR 10 h40 a0 15).bind fun p42 =>
  (jas 0 h40 p42 (3 : Int32) x4).bind fun h48 =>
  (jgR 10 h48 a0 15).bind fun p50 =>
  (jas 0 h48 p50 (4 : Int32) x5).bind fun h56 =>
  F_X12_feed_60 n n a0 (0 : Int32) h56)
  else (some ((-1 : Int32), h2))
noncomputable def F_X12_end (n : Nat) (a0 : Nat) (x1 : Int32) (h : jH) : Option (Int32 × jH) :=
  (jpf 10 h a0 0 (.int (0 : Int32))).bind fun h2 =>
  if x1 < 0 then (some ((0 : Int32), h2))
  else ((jgI 10 h2 a0 9).bind fun v11 =>
  if x1 ≤ v11 then ((jpf 10 h2 a0 9 (.int x1)).bind fun h21 =>
  some ((1 : Int32), h21))
  else (some ((0 : Int32), h2)))
noncomputable def F_X12_isAt (n : Nat) (a0 : Nat) (x1 : Int32) (x2 : Int32) (h : jH) : Option Int32 :=
  (jgI 10 h a0 10).bind fun v1 =>
  (jgI 10 h a0 11).bind fun v5 =>
  if v5 ≤ v1 then (some (0 : Int32))
  else ((jgR 10 h a0 8).bind fun p12 =>
  (jgI 10 h a0 10).bind fun v16 =>
  (jal 1 h p12 v16).bind fun v19 =>
  if v19 < x1 then (some (0 : Int32))
  else ((jgR 10 h a0 8).bind fun p25 =>
  (jgI 10 h a0 10).bind fun v29 =>
  (jal 1 h p25 v29).bind fun v32 =>
  if x2 < v32 then (some (0 : Int32))
  else (some (1 : Int32))))
noncomputable def F_X12_blanks_0_b (n : Nat) (rc0 : Nat → jH → Option jH) (a0 : Nat) (h : jH) : Option jH :=
  (jcv 10 h a0 (F_X12_isAt n a0 (32 : Int32) (32 : Int32) h)).bind fun v5 =>
  if v5 = 0 then ((jgI 10 h a0 10).bind fun v26 =>
  (jpf 10 h a0 12 (.int v26)).bind fun h29 =>
  some h29)
  else ((jgI 10 h a0 10).bind fun v13 =>
  (jpf 10 h a0 10 (.int (v13 + (1 : Int32)))).bind fun h18 =>
  rc0 a0 h18)
noncomputable def F_X12_blanks_0 (n : Nat) : Nat → Nat → jH → Option jH
  | 0 => fun _ _ => none
  | k + 1 => F_X12_blanks_0_b n (F_X12_blanks_0 n k)
noncomputable def F_X12_blanks (n : Nat) (a0 : Nat) (h : jH) : Option jH :=
  F_X12_blanks_0 n n a0 h
noncomputable def F_X12_letters_4_b (n : Nat) (rc4 : Nat → jH → Option jH) (a0 : Nat) (h : jH) : Option jH :=
  (jcv 10 h a0 (F_X12_isAt n a0 (97 : Int32) (122 : Int32) h)).bind fun v9 =>
  if v9 = 0 then (some h)
  else ((jgI 10 h a0 10).bind fun v17 =>
  (jpf 10 h a0 10 (.int (v17 + (1 : Int32)))).bind fun h22 =>
  rc4 a0 h22)
noncomputable def F_X12_letters_4 (n : Nat) : Nat → Nat → jH → Option jH
  | 0 => fun _ _ => none
  | k + 1 => F_X12_letters_4_b n (F_X12_letters_4 n k)
noncomputable def F_X12_letters (n : Nat) (a0 : Nat) (h : jH) : Option jH :=
  (jcv 10 h a0 (F_X12_blanks n a0 h)).bind fun h1 =>
  F_X12_letters_4 n n a0 h1
noncomputable def F_X12_isWord_24_b (n : Nat) (rc24 : Nat → Nat → Int32 → Int32 → jH → Option Int32) (a0 : Nat) (t1 : Nat) (x2 : Int32) (x3 : Int32) (h : jH) : Option Int32 :=
  if x2 = 0 then (if x2 = 0 ∨ x2 = 1 then some x2 else none)
  else ((jtl t1).bind fun v30 =>
  if v30 ≤ x3 then (if x2 = 0 ∨ x2 = 1 then some x2 else none)
  else ((jgR 10 h a0 8).bind fun p37 =>
  (jgI 10 h a0 12).bind fun v41 =>
  (jal 1 h p37 (v41 + x3)).bind fun v46 =>
  (jtc t1 x3).bind fun v49 =>
  if v46 = v49 then (rc24 a0 t1 (1 : Int32) (x3 + (1 : Int32)) h)
  else (rc24 a0 t1 (0 : Int32) (x3 + (1 : Int32)) h)))
noncomputable def F_X12_isWord_24 (n : Nat) : Nat → Nat → Nat → Int32 → Int32 → jH → Option Int32
  | 0 => fun _ _ _ _ _ => none
  | k + 1 => F_X12_isWord_24_b n (F_X12_isWord_24 n k)
noncomputable def F_X12_isWord (n : Nat) (a0 : Nat) (t1 : Nat) (h : jH) : Option Int32 :=
  (jgI 10 h a0 10).bind fun v1 =>
  (jgI 10 h a0 12).bind fun v5 =>
  (jtl t1).bind fun v10 =>
  if (v1 - v5) = v10 then (F_X12_isWord_24 n n a0 t1 (1 : Int32) (0 : Int32) h)
  else (F_X12_isWord_24 n n a0 t1 (0 : Int32) (0 : Int32) h)
noncomputable def F_X12_passes (n : Nat) (a0 : Nat) (t1 : Nat) (h : jH) : Option (Int32 × jH) :=
  (jcv 10 h a0 (F_X12_letters n a0 h)).bind fun h1 =>
  (jcv 10 h1 a0 (F_X12_isWord n a0 t1 h1)).bind fun v6 =>
  if v6 = 0 then ((jgI 10 h1 a0 12).bind fun v16 =>
  (jpf 10 h1 a0 10 (.int v16)).bind fun h19 =>
  some ((0 : Int32), h19))
  else (some ((1 : Int32), h1))
noncomputable def F_X12_sign (n : Nat) (a0 : Nat) (x1 : Int32) (h : jH) : Option (Int32 × jH) :=
  (jcv 10 h a0 (F_X12_blanks n a0 h)).bind fun h1 =>
  (jcv 10 h1 a0 (F_X12_isAt n a0 x1 x1 h1)).bind fun v7 =>
  if v7 = 0 then (some ((0 : Int32), h1))
  else ((jgI 10 h1 a0 10).bind fun v17 =>
  (jpf 10 h1 a0 10 (.int (v17 + (1 : Int32)))).bind fun h22 =>
  some ((1 : Int32), h22))
noncomputable def F_X12_number_6_b (n : Nat) (rc6 : Nat → Int32 → Int32 → Int32 → jH → Option (Int32 × jH)) (a0 : Nat) (x1 : Int32) (x2 : Int32) (x3 : Int32) (h : jH) : Option (Int32 × jH) :=
  (jcv 10 h a0 (F_X12_isAt n a0 (48 : Int32) (57 : Int32) h)).bind fun v11 =>
  if v11 = 0 then ((jgI 10 h a0 10).bind fun v66 =>
  (jgI 10 h a0 12).bind fun v70 =>
  if v66 = v70 then (some ((-1 : Int32), h))
  else ((jgI 10 h a0 10).bind fun v77 =>
  (jgI 10 h a0 12).bind fun v81 =>
  if (3 : Int32) < (v77 - v81) then (some ((-1 : Int32), h))
  else (if x3 < x1 then (some ((-1 : Int32), h))
  else (if x3 ≤ x2 then (some (x3, h))
  else (some ((-1 : Int32), h))))))
  else ((jgI 10 h a0 10).bind fun v18 =>
  (jgI 10 h a0 12).bind fun v22 =>
  if (3 : Int32) ≤ (v18 - v22) then ((jgI 10 h a0 10).bind fun v54 =>
  (jpf 10 h a0 10 (.int (v54 + (1 : Int32)))).bind fun h59 =>
  rc6 a0 x1 x2 x3 h59)
  else ((jgR 10 h a0 8).bind fun p35 =>
  (jgI 10 h a0 10).bind fun v39 =>
  (jal 1 h p35 v39).bind fun v42 =>
  (jgI 10 h a0 10).bind fun v54 =>
  (jpf 10 h a0 10 (.int (v54 + (1 : Int32)))).bind fun h59 =>
  rc6 a0 x1 x2 ((((10 : Int32) * x3) + v42) - (48 : Int32)) h59))
noncomputable def F_X12_number_6 (n : Nat) : Nat → Nat → Int32 → Int32 → Int32 → jH → Option (Int32 × jH)
  | 0 => fun _ _ _ _ _ => none
  | k + 1 => F_X12_number_6_b n (F_X12_number_6 n k)
noncomputable def F_X12_number (n : Nat) (a0 : Nat) (x1 : Int32) (x2 : Int32) (h : jH) : Option (Int32 × jH) :=
  (jcv 10 h a0 (F_X12_blanks n a0 h)).bind fun h1 =>
  F_X12_number_6 n n a0 x1 x2 (0 : Int32) h1
noncomputable def F_X12_after (n : Nat) (a0 : Nat) (t1 : Nat) (x2 : Int32) (x3 : Int32) (h : jH) : Option (Int32 × jH) :=
  (jcv 10 h a0 (F_X12_letters n a0 h)).bind fun h1 =>
  (jcv 10 h1 a0 (F_X12_isWord n a0 t1 h1)).bind fun v6 =>
  if v6 = 0 then (some ((-1 : Int32), h1))
  else ((jcv 10 h1 a0 (F_X12_number n a0 x2 x3 h1)).bind fun q15 =>
  some (q15.1, q15.2))
noncomputable def F_X12_fault (n : Nat) (a0 : Nat) (h : jH) : Option (Int32 × jH) :=
  (jpf 10 h a0 0 (.int (0 : Int32))).bind fun h2 =>
  (jgI 10 h2 a0 14).bind fun v6 =>
  some (v6, h2)
noncomputable def F_X12_uses (n : Nat) (a0 : Nat) (h : jH) : Option jH :=
  (jpf 10 h a0 0 (.int (0 : Int32))).bind fun h2 =>
  (jgI 10 h2 a0 9).bind fun v7 =>
  (jpf 10 h2 a0 11 (.int v7)).bind fun h10 =>
  (jpf 10 h10 a0 9 (.int (0 : Int32))).bind fun h15 =>
  (jpf 10 h15 a0 10 (.int (0 : Int32))).bind fun h20 =>
  some h20
noncomputable def F_X12_readNumber (n : Nat) (a0 : Nat) (x1 : Int32) (x2 : Int32) (x3 : Int32) (h : jH) : Option (Int32 × jH) :=
  (jcv 10 h a0 (F_X12_number n a0 x2 x3 h)).bind fun q3 =>
  (jgR 10 q3.2 a0 1).bind fun p9 =>
  if 0 ≤ q3.1 then ((jas 0 q3.2 p9 x1 q3.1).bind fun h29 =>
  if q3.1 < 0 then (some ((0 : Int32), h29))
  else (some ((1 : Int32), h29)))
  else ((jgR 10 q3.2 a0 1).bind fun p19 =>
  (jal 0 q3.2 p19 x1).bind fun v23 =>
  (jas 0 q3.2 p9 x1 v23).bind fun h29 =>
  if q3.1 < 0 then (some ((0 : Int32), h29))
  else (some ((1 : Int32), h29)))
noncomputable def F_X12_leastPlace (n : Nat) (a0 : Nat) (h : jH) : Option Int32 :=
  (jcv 10 h a0 (F_X12_rings n a0 h)).bind fun v1 =>
  if v1 = 0 then (some (0 : Int32))
  else ((jcv 10 h a0 (F_X12_lastRing n a0 h)).bind fun v13 =>
  (jcv 10 h a0 (F_X12_of n a0 v13 (0 : Int32) h)).bind fun v17 =>
  some (v17 + (1 : Int32)))
noncomputable def F_X12_mostPlace (n : Nat) (a0 : Nat) (h : jH) : Option Int32 :=
  (jcv 10 h a0 (F_X12_rings n a0 h)).bind fun v1 =>
  if v1 = 0 then (some (31 : Int32))
  else ((jcv 10 h a0 (F_X12_lastRing n a0 h)).bind fun v16 =>
  (jcv 10 h a0 (F_X12_of n a0 v16 (0 : Int32) h)).bind fun v20 =>
  (jcv 10 h a0 (F_X12_lastRing n a0 h)).bind fun v25 =>
  (jcv 10 h a0 (F_X12_of n a0 v25 (1 : Int32) h)).bind fun v29 =>
  some (if (v20 + v29) < (31 : Int32) then v20 + v29 else (31 : Int32)))
noncomputable def F_X12_hangs_8_b (n : Nat) (rc8 : Nat → Int32 → Int32 → Int32 → Int32 → jH → Option jH) (a0 : Nat) (x1 : Int32) (x2 : Int32) (x3 : Int32) (x4 : Int32) (h : jH) : Option jH :=
  if (8 : Int32) ≤ x4 then ((jgR 10 h a0 1).bind fun p34 =>
  (F_X12_at n x3 (0 : Int32) h).bind fun v39 =>
  (jas 0 h p34 v39 x1).bind fun h43 =>
  (jgR 10 h43 a0 1).bind fun p45 =>
  (F_X12_at n x3 (1 : Int32) h43).bind fun v50 =>
  (jas 0 h43 p45 v50 x2).bind fun h54 =>
  (jgR 10 h54 a0 1).bind fun p56 =>
  (F_X12_at n x3 (6 : Int32) h54).bind fun v62 =>
  (jas 0 h54 p56 v62 (1 : Int32)).bind fun h66 =>
  (jgR 10 h66 a0 1).bind fun p68 =>
  (jal 0 h66 p68 (0 : Int32)).bind fun v73 =>
  (jas 0 h66 p68 (0 : Int32) (v73 + (1 : Int32))).bind fun h76 =>
  some h76)
  else ((jgR 10 h a0 1).bind fun p16 =>
  (F_X12_at n x3 x4 h).bind fun v22 =>
  (jas 0 h p16 v22 (0 : Int32)).bind fun h26 =>
  rc8 a0 x1 x2 x3 (x4 + (1 : Int32)) h26)
noncomputable def F_X12_hangs_8 (n : Nat) : Nat → Nat → Int32 → Int32 → Int32 → Int32 → jH → Option jH
  | 0 => fun _ _ _ _ _ _ => none
  | k + 1 => F_X12_hangs_8_b n (F_X12_hangs_8 n k)
noncomputable def F_X12_hangs (n : Nat) (a0 : Nat) (x1 : Int32) (x2 : Int32) (h : jH) : Option jH :=
  (jcv 10 h a0 (F_X12_rings n a0 h)).bind fun v1 =>
  F_X12_hangs_8 n n a0 x1 x2 v1 (0 : Int32) h
noncomputable def F_X12_readRing_171 (n : Nat) (a0 : Nat) (x1 : Int32) (x6 : Int32) (x7 : Int32) (sa0 : Nat) (s1 : Int32) (s2 : Int32) (h : jH) : Option (Int32 × jH) :=
  (jas 0 h sa0 s1 s2).bind fun h171 =>
  (jgR 10 h171 a0 1).bind fun p173 =>
  (F_X12_at n x1 (4 : Int32) h171).bind fun v178 =>
  (jas 0 h171 p173 v178 x6).bind fun h183 =>
  (jgR 10 h183 a0 1).bind fun p185 =>
  (F_X12_at n x1 (5 : Int32) h183).bind fun v190 =>
  (jas 0 h183 p185 v190 x7).bind fun h195 =>
  some ((1 : Int32), h195)
noncomputable def F_X12_readRing_151 (n : Nat) (a0 : Nat) (x1 : Int32) (x5 : Int32) (x6 : Int32) (x7 : Int32) (sa0 : Nat) (s1 : Int32) (s2 : Int32) (h : jH) : Option (Int32 × jH) :=
  (jas 0 h sa0 s1 s2).bind fun h151 =>
  (jgR 10 h151 a0 1).bind fun p153 =>
  (F_X12_at n x1 (3 : Int32) h151).bind fun v158 =>
  if x5 = 0 then (F_X12_readRing_171 n a0 x1 x6 x7 p153 v158 (0 : Int32) h151)
  else (F_X12_readRing_171 n a0 x1 x6 x7 p153 v158 (1 : Int32) h151)
noncomputable def F_X12_readRing_117 (n : Nat) (a0 : Nat) (x1 : Int32) (x2 : Int32) (x3 : Int32) (x4 : Int32) (x5 : Int32) (x6 : Int32) (s0 : Int32) (h : jH) : Option (Int32 × jH) :=
  if 0 ≤ s0 then ((jcv 10 h a0 (F_X12_hangs n a0 x2 x3 h)).bind fun h129 =>
  (jgR 10 h129 a0 1).bind fun p133 =>
  (F_X12_at n x1 (2 : Int32) h129).bind fun v138 =>
  if x4 = 0 then (F_X12_readRing_151 n a0 x1 x5 x6 s0 p133 v138 (0 : Int32) h129)
  else (F_X12_readRing_151 n a0 x1 x5 x6 s0 p133 v138 (1 : Int32) h129))
  else (some ((0 : Int32), h))
noncomputable def F_X12_readRing_88 (n : Nat) (a0 : Nat) (x1 : Int32) (x2 : Int32) (x3 : Int32) (x4 : Int32) (x5 : Int32) (s0 : Int32) (h : jH) : Option (Int32 × jH) :=
  if 0 ≤ s0 then ((jcv 10 h a0 (F_X12_passes n a0 19 h)).bind fun q100 =>
  if q100.1 = 0 then (F_X12_readRing_117 n a0 x1 x2 x3 x4 x5 s0 (0 : Int32) q100.2)
  else ((jcv 10 q100.2 a0 (F_X12_number n a0 (0 : Int32) (9 : Int32) q100.2)).bind fun q110 =>
  F_X12_readRing_117 n a0 x1 x2 x3 x4 x5 s0 q110.1 q110.2))
  else (some ((0 : Int32), h))
noncomputable def F_X12_readRing_45 (n : Nat) (a0 : Nat) (x1 : Int32) (x2 : Int32) (s0 : Int32) (h : jH) : Option (Int32 × jH) :=
  if 0 ≤ s0 then ((jcv 10 h a0 (F_X12_passes n a0 16 h)).bind fun q55 =>
  (jcv 10 q55.2 a0 (F_X12_passes n a0 17 q55.2)).bind fun q63 =>
  (jcv 10 q63.2 a0 (F_X12_passes n a0 18 q63.2)).bind fun q71 =>
  if q71.1 = 0 then (F_X12_readRing_88 n a0 x1 x2 s0 q55.1 q63.1 (0 : Int32) q71.2)
  else ((jcv 10 q71.2 a0 (F_X12_number n a0 (0 : Int32) (99 : Int32) q71.2)).bind fun q81 =>
  F_X12_readRing_88 n a0 x1 x2 s0 q55.1 q63.1 q81.1 q81.2))
  else (some ((0 : Int32), h))
noncomputable def F_X12_readRing (n : Nat) (a0 : Nat) (h : jH) : Option (Int32 × jH) :=
  (jcv 10 h a0 (F_X12_rings n a0 h)).bind fun v1 =>
  if v1 = (8 : Int32) then (some ((0 : Int32), h))
  else ((jcv 10 h a0 (F_X12_leastPlace n a0 h)).bind fun v17 =>
  (jcv 10 h a0 (F_X12_mostPlace n a0 h)).bind fun v21 =>
  (jcv 10 h a0 (F_X12_after n a0 14 v17 v21 h)).bind fun q24 =>
  if 0 ≤ q24.1 then ((jcv 10 q24.2 a0 (F_X12_after n a0 15 (1 : Int32) (9 : Int32) q24.2)).bind fun q42 =>
  F_X12_readRing_45 n a0 v1 q24.1 q42.1 q42.2)
  else (F_X12_readRing_45 n a0 v1 q24.1 (-1 : Int32) q24.2))
noncomputable def F_X12_readCaught (n : Nat) (a0 : Nat) (h : jH) : Option (Int32 × jH) :=
  (jcv 10 h a0 (F_X12_lastRing n a0 h)).bind fun v3 =>
  (jcv 10 h a0 (F_X12_number n a0 (0 : Int32) (v3 - (1 : Int32)) h)).bind fun q8 =>
  if 0 ≤ q8.1 then ((jgR 10 q8.2 a0 1).bind fun p19 =>
  (F_X12_at n q8.1 (7 : Int32) q8.2).bind fun v25 =>
  (jas 0 q8.2 p19 v25 (1 : Int32)).bind fun h29 =>
  some ((1 : Int32), h29))
  else (some ((0 : Int32), q8.2))
noncomputable def F_X12_readChair (n : Nat) (a0 : Nat) (h : jH) : Option (Int32 × jH) :=
  (jcv 10 h a0 (F_X12_number n a0 (0 : Int32) (31 : Int32) h)).bind fun q4 =>
  if 0 ≤ q4.1 then ((jgR 10 q4.2 a0 1).bind fun p15 =>
  (jal 0 q4.2 p15 (7 : Int32)).bind fun v21 =>
  (jas 0 q4.2 p15 (7 : Int32) (v21 ||| ((1 : Int32) <<< (q4.1 &&& 31)))).bind fun h26 =>
  some ((1 : Int32), h26))
  else (some ((0 : Int32), q4.2))
noncomputable def F_X12_readPoleLine (n : Nat) (a0 : Nat) (h : jH) : Option (Int32 × jH) :=
  (jcv 10 h a0 (F_X12_isWord n a0 13 h)).bind fun v3 =>
  if v3 = 0 then ((jcv 10 h a0 (F_X12_isWord n a0 20 h)).bind fun v17 =>
  if v17 = 0 then ((jcv 10 h a0 (F_X12_isWord n a0 21 h)).bind fun v31 =>
  if v31 = 0 then ((jcv 10 h a0 (F_X12_isWord n a0 22 h)).bind fun v45 =>
  if v45 = 0 then ((jcv 10 h a0 (F_X12_isWord n a0 23 h)).bind fun v63 =>
  if v63 = 0 then ((jcv 10 h a0 (F_X12_isWord n a0 24 h)).bind fun v82 =>
  if v82 = 0 then ((jcv 10 h a0 (F_X12_isWord n a0 25 h)).bind fun v100 =>
  if v100 = 0 then (some ((0 : Int32), h))
  else ((jcv 10 h a0 (F_X12_readNumber n a0 (4 : Int32) (0 : Int32) (999 : Int32) h)).bind fun q112 =>
  if q112.1 = 0 then (some ((0 : Int32), q112.2))
  else (some ((1 : Int32), q112.2))))
  else ((jcv 10 h a0 (F_X12_readNumber n a0 (3 : Int32) (0 : Int32) (7 : Int32) h)).bind fun q93 =>
  if q93.1 = 0 ∨ q93.1 = 1 then some (q93.1, q93.2) else none))
  else ((jcv 10 h a0 (F_X12_readNumber n a0 (6 : Int32) (0 : Int32) (31 : Int32) h)).bind fun q75 =>
  if q75.1 = 0 ∨ q75.1 = 1 then some (q75.1, q75.2) else none))
  else ((jcv 10 h a0 (F_X12_readNumber n a0 (5 : Int32) (1 : Int32) (31 : Int32) h)).bind fun q56 =>
  if q56.1 = 0 ∨ q56.1 = 1 then some (q56.1, q56.2) else none))
  else ((jcv 10 h a0 (F_X12_readChair n a0 h)).bind fun q38 =>
  if q38.1 = 0 ∨ q38.1 = 1 then some (q38.1, q38.2) else none))
  else ((jcv 10 h a0 (F_X12_readCaught n a0 h)).bind fun q24 =>
  if q24.1 = 0 ∨ q24.1 = 1 then some (q24.1, q24.2) else none))
  else ((jcv 10 h a0 (F_X12_readRing n a0 h)).bind fun q10 =>
  if q10.1 = 0 ∨ q10.1 = 1 then some (q10.1, q10.2) else none)
noncomputable def F_X12_emits (n : Nat) (a0 : Nat) (x1 : Int32) (x2 : Int32) (h : jH) : Option jH :=
  (jgR 10 h a0 1).bind fun p1 =>
  (jgI 10 h a0 16).bind fun v9 =>
  (jas 0 h p1 ((1333 : Int32) + ((2 : Int32) * v9)) x1).bind fun h15 =>
  (jgR 10 h15 a0 1).bind fun p17 =>
  (jgI 10 h15 a0 16).bind fun v25 =>
  (jas 0 h15 p17 (((1333 : Int32) + ((2 : Int32) * v25)) + (1 : Int32)) x2).bind fun h33 =>
  (jgI 10 h33 a0 16).bind fun v36 =>
  (jpf 10 h33 a0 16 (.int (v36 + (1 : Int32)))).bind fun h41 =>
  some h41
noncomputable def F_X12_wordOfPart (n : Nat) (a0 : Nat) (h : jH) : Option Int32 :=
  (jcv 10 h a0 (F_X12_isWord n a0 13 h)).bind fun v3 =>
  if v3 = 0 then ((jcv 10 h a0 (F_X12_isWord n a0 32 h)).bind fun v14 =>
  if v14 = 0 then ((jcv 10 h a0 (F_X12_isWord n a0 33 h)).bind fun v25 =>
  if v25 = 0 then ((jcv 10 h a0 (F_X12_isWord n a0 18 h)).bind fun v36 =>
  if v36 = 0 then ((jcv 10 h a0 (F_X12_isWord n a0 19 h)).bind fun v47 =>
  if v47 = 0 then ((jcv 10 h a0 (F_X12_isWord n a0 24 h)).bind fun v58 =>
  if v58 = 0 then ((jcv 10 h a0 (F_X12_isWord n a0 25 h)).bind fun v69 =>
  if v69 = 0 then (some (-1 : Int32))
  else (some (6 : Int32)))
  else (some (5 : Int32)))
  else (some (4 : Int32)))
  else (some (3 : Int32)))
  else (some (2 : Int32)))
  else (some (1 : Int32)))
  else (some (0 : Int32))
noncomputable def F_X12_readPart_61 (n : Nat) (x2 : Int32) (sa0 : Nat) (s1 : Int32) (s2 : Int32) (h : jH) : Option (Int32 × jH) :=
  (jcv 10 h sa0 (F_X12_emits n sa0 s1 s2 h)).bind fun h61 =>
  if x2 < 0 then (some ((0 : Int32), h61))
  else (some ((1 : Int32), h61))
noncomputable def F_X12_readPart_40 (n : Nat) (a0 : Nat) (x1 : Int32) (s0 : Int32) (h : jH) : Option (Int32 × jH) :=
  if x1 = 0 then (if x1 = 0 then (F_X12_readPart_61 n s0 a0 s0 (0 : Int32) h)
  else (F_X12_readPart_61 n s0 a0 s0 s0 h))
  else (if x1 = 0 then (F_X12_readPart_61 n s0 a0 (11 : Int32) (0 : Int32) h)
  else (F_X12_readPart_61 n s0 a0 (11 : Int32) s0 h))
noncomputable def F_X12_readPart_20 (n : Nat) (a0 : Nat) (s0 : Int32) (h : jH) : Option (Int32 × jH) :=
  if s0 = 0 then ((jcv 10 h a0 (F_X12_wordOfPart n a0 h)).bind fun v37 =>
  F_X12_readPart_40 n a0 s0 v37 h)
  else ((jcv 10 h a0 (F_X12_number n a0 (0 : Int32) (999 : Int32) h)).bind fun q30 =>
  F_X12_readPart_40 n a0 s0 q30.1 q30.2)
noncomputable def F_X12_readPart (n : Nat) (a0 : Nat) (h : jH) : Option (Int32 × jH) :=
  (jcv 10 h a0 (F_X12_letters n a0 h)).bind fun h1 =>
  (jgI 10 h1 a0 10).bind fun v5 =>
  (jgI 10 h1 a0 12).bind fun v9 =>
  if v5 = v9 then (F_X12_readPart_20 n a0 (1 : Int32) h1)
  else (F_X12_readPart_20 n a0 (0 : Int32) h1)
noncomputable def F_X12_readSum_9_b (n : Nat) (rc9 : Nat → jH → Option (Int32 × jH)) (a0 : Nat) (h : jH) : Option (Int32 × jH) :=
  (jcv 10 h a0 (F_X12_sign n a0 (43 : Int32) h)).bind fun q12 =>
  if q12.1 = 0 then (some ((1 : Int32), q12.2))
  else ((jcv 10 q12.2 a0 (F_X12_readPart n a0 q12.2)).bind fun q19 =>
  if q19.1 = 0 then (some ((0 : Int32), q19.2))
  else ((jcv 10 q19.2 a0 (F_X12_emits n a0 (12 : Int32) (0 : Int32) q19.2)).bind fun h31 =>
  rc9 a0 h31))
noncomputable def F_X12_readSum_9 (n : Nat) : Nat → Nat → jH → Option (Int32 × jH)
  | 0 => fun _ _ => none
  | k + 1 => F_X12_readSum_9_b n (F_X12_readSum_9 n k)
noncomputable def F_X12_readSum (n : Nat) (a0 : Nat) (h : jH) : Option (Int32 × jH) :=
  (jcv 10 h a0 (F_X12_readPart n a0 h)).bind fun q1 =>
  if q1.1 = 0 then (some ((0 : Int32), q1.2))
  else (F_X12_readSum_9 n n a0 q1.2)
noncomputable def F_X12_readTag_61 (n : Nat) (a0 : Nat) (s0 : Int32) (h : jH) : Option (Int32 × jH) :=
  if s0 < 0 then ((jgI 10 h a0 12).bind fun v77 =>
  (jpf 10 h a0 10 (.int v77)).bind fun h80 =>
  if s0 < 0 then (some ((0 : Int32), h80))
  else (some ((1 : Int32), h80)))
  else ((jcv 10 h a0 (F_X12_emits n a0 s0 (0 : Int32) h)).bind fun h69 =>
  if s0 < 0 then (some ((0 : Int32), h69))
  else (some ((1 : Int32), h69)))
noncomputable def F_X12_readTag (n : Nat) (a0 : Nat) (h : jH) : Option (Int32 × jH) :=
  (jcv 10 h a0 (F_X12_letters n a0 h)).bind fun h1 =>
  (jcv 10 h1 a0 (F_X12_isWord n a0 17 h1)).bind fun v7 =>
  if v7 = 0 then ((jcv 10 h1 a0 (F_X12_isWord n a0 16 h1)).bind fun v21 =>
  if v21 = 0 then ((jcv 10 h1 a0 (F_X12_isWord n a0 30 h1)).bind fun v35 =>
  if v35 = 0 then ((jcv 10 h1 a0 (F_X12_isWord n a0 31 h1)).bind fun v49 =>
  if v49 = 0 then (F_X12_readTag_61 n a0 (-1 : Int32) h1)
  else (F_X12_readTag_61 n a0 (10 : Int32) h1))
  else (F_X12_readTag_61 n a0 (9 : Int32) h1))
  else (F_X12_readTag_61 n a0 (8 : Int32) h1))
  else (F_X12_readTag_61 n a0 (7 : Int32) h1)
noncomputable def F_X12_readCond_9_b (n : Nat) (g0 : Nat → jH → Option (Int32 × jH)) (g1 : Nat → jH → Option (Int32 × jH)) (g2 : Nat → jH → Option (Int32 × jH)) (rc9 : Nat → jH → Option (Int32 × jH)) (a0 : Nat) (h : jH) : Option (Int32 × jH) :=
  (jcv 10 h a0 (F_X12_passes n a0 35 h)).bind fun q12 =>
  if q12.1 = 0 then (some ((1 : Int32), q12.2))
  else ((jcv 10 q12.2 a0 (g2 a0 q12.2)).bind fun q19 =>
  if q19.1 = 0 then (some ((0 : Int32), q19.2))
  else ((jcv 10 q19.2 a0 (F_X12_emits n a0 (17 : Int32) (0 : Int32) q19.2)).bind fun h31 =>
  rc9 a0 h31))
noncomputable def F_X12_readCond_9 (n : Nat) (g0 : Nat → jH → Option (Int32 × jH)) (g1 : Nat → jH → Option (Int32 × jH)) (g2 : Nat → jH → Option (Int32 × jH)) : Nat → Nat → jH → Option (Int32 × jH)
  | 0 => fun _ _ => none
  | k + 1 => F_X12_readCond_9_b n g0 g1 g2 (F_X12_readCond_9 n g0 g1 g2 k)
noncomputable def F_X12_readCond (n : Nat) (g0 : Nat → jH → Option (Int32 × jH)) (g1 : Nat → jH → Option (Int32 × jH)) (g2 : Nat → jH → Option (Int32 × jH)) (a0 : Nat) (h : jH) : Option (Int32 × jH) :=
  (jcv 10 h a0 (g2 a0 h)).bind fun q1 =>
  if q1.1 = 0 then (some ((0 : Int32), q1.2))
  else (F_X12_readCond_9 n g0 g1 g2 n a0 q1.2)
noncomputable def F_X12_readAtom_173 (n : Nat) (g0 : Nat → jH → Option (Int32 × jH)) (g1 : Nat → jH → Option (Int32 × jH)) (g2 : Nat → jH → Option (Int32 × jH)) (sa0 : Nat) (s1 : Int32) (h : jH) : Option (Int32 × jH) :=
  (jcv 10 h sa0 (F_X12_emits n sa0 s1 (0 : Int32) h)).bind fun h174 =>
  some ((1 : Int32), h174)
noncomputable def F_X12_readAtom_152 (n : Nat) (g0 : Nat → jH → Option (Int32 × jH)) (g1 : Nat → jH → Option (Int32 × jH)) (g2 : Nat → jH → Option (Int32 × jH)) (a0 : Nat) (x1 : Int32) (h : jH) : Option (Int32 × jH) :=
  (jcv 10 h a0 (F_X12_readSum n a0 h)).bind fun q153 =>
  if q153.1 = 0 then (some ((0 : Int32), q153.2))
  else (if x1 = 0 then (F_X12_readAtom_173 n g0 g1 g2 a0 (14 : Int32) q153.2)
  else (F_X12_readAtom_173 n g0 g1 g2 a0 (13 : Int32) q153.2))
noncomputable def F_X12_readAtom (n : Nat) (g0 : Nat → jH → Option (Int32 × jH)) (g1 : Nat → jH → Option (Int32 × jH)) (g2 : Nat → jH → Option (Int32 × jH)) (a0 : Nat) (h : jH) : Option (Int32 × jH) :=
  (jcv 10 h a0 (F_X12_sign n a0 (40 : Int32) h)).bind fun q3 =>
  if q3.1 = 0 then ((jcv 10 q3.2 a0 (F_X12_passes n a0 29 q3.2)).bind fun q59 =>
  if q59.1 = 0 then ((jcv 10 q59.2 a0 (F_X12_readTag n a0 q59.2)).bind fun q115 =>
  if q115.1 = 0 then ((jcv 10 q115.2 a0 (F_X12_readSum n a0 q115.2)).bind fun q124 =>
  if q124.1 = 0 then (some ((0 : Int32), q124.2))
  else ((jcv 10 q124.2 a0 (F_X12_sign n a0 (60 : Int32) q124.2)).bind fun q135 =>
  if q135.1 = 0 then ((jcv 10 q135.2 a0 (F_X12_sign n a0 (62 : Int32) q135.2)).bind fun q146 =>
  if q146.1 = 0 then (some ((0 : Int32), q146.2))
  else (F_X12_readAtom_152 n g0 g1 g2 a0 q135.1 q146.2))
  else (F_X12_readAtom_152 n g0 g1 g2 a0 q135.1 q135.2)))
  else (some ((1 : Int32), q115.2)))
  else ((jgI 10 q59.2 a0 13).bind fun v66 =>
  if v66 = (6 : Int32) then (some ((0 : Int32), q59.2))
  else ((jgI 10 q59.2 a0 13).bind fun v78 =>
  (jpf 10 q59.2 a0 13 (.int (v78 + (1 : Int32)))).bind fun h83 =>
  (jcv 10 h83 a0 (g1 a0 h83)).bind fun q87 =>
  if q87.1 = 0 then (some ((0 : Int32), q87.2))
  else ((jgI 10 q87.2 a0 13).bind fun v97 =>
  (jpf 10 q87.2 a0 13 (.int (v97 - (1 : Int32)))).bind fun h102 =>
  (jcv 10 h102 a0 (F_X12_emits n a0 (15 : Int32) (0 : Int32) h102)).bind fun h109 =>
  some ((1 : Int32), h109)))))
  else ((jgI 10 q3.2 a0 13).bind fun v10 =>
  if v10 = (6 : Int32) then (some ((0 : Int32), q3.2))
  else ((jgI 10 q3.2 a0 13).bind fun v22 =>
  (jpf 10 q3.2 a0 13 (.int (v22 + (1 : Int32)))).bind fun h27 =>
  (jcv 10 h27 a0 (g0 a0 h27)).bind fun q31 =>
  if q31.1 = 0 then (some ((0 : Int32), q31.2))
  else ((jgI 10 q31.2 a0 13).bind fun v41 =>
  (jpf 10 q31.2 a0 13 (.int (v41 - (1 : Int32)))).bind fun h46 =>
  (jcv 10 h46 a0 (F_X12_sign n a0 (41 : Int32) h46)).bind fun q52 =>
  if q52.1 = 0 ∨ q52.1 = 1 then some (q52.1, q52.2) else none)))
noncomputable def F_X12_readAllOf_9_b (n : Nat) (g0 : Nat → jH → Option (Int32 × jH)) (g1 : Nat → jH → Option (Int32 × jH)) (g2 : Nat → jH → Option (Int32 × jH)) (rc9 : Nat → jH → Option (Int32 × jH)) (a0 : Nat) (h : jH) : Option (Int32 × jH) :=
  (jcv 10 h a0 (F_X12_passes n a0 34 h)).bind fun q12 =>
  if q12.1 = 0 then (some ((1 : Int32), q12.2))
  else ((jcv 10 q12.2 a0 (g1 a0 q12.2)).bind fun q19 =>
  if q19.1 = 0 then (some ((0 : Int32), q19.2))
  else ((jcv 10 q19.2 a0 (F_X12_emits n a0 (16 : Int32) (0 : Int32) q19.2)).bind fun h31 =>
  rc9 a0 h31))
noncomputable def F_X12_readAllOf_9 (n : Nat) (g0 : Nat → jH → Option (Int32 × jH)) (g1 : Nat → jH → Option (Int32 × jH)) (g2 : Nat → jH → Option (Int32 × jH)) : Nat → Nat → jH → Option (Int32 × jH)
  | 0 => fun _ _ => none
  | k + 1 => F_X12_readAllOf_9_b n g0 g1 g2 (F_X12_readAllOf_9 n g0 g1 g2 k)
noncomputable def F_X12_readAllOf (n : Nat) (g0 : Nat → jH → Option (Int32 × jH)) (g1 : Nat → jH → Option (Int32 × jH)) (g2 : Nat → jH → Option (Int32 × jH)) (a0 : Nat) (h : jH) : Option (Int32 × jH) :=
  (jcv 10 h a0 (g1 a0 h)).bind fun q1 =>
  if q1.1 = 0 then (some ((0 : Int32), q1.2))
  else (F_X12_readAllOf_9 n g0 g1 g2 n a0 q1.2)
noncomputable def FG_MC (n : Nat) : Nat → Nat → Nat → jH → Option (Int32 × jH)
  | 0 => fun _ _ _ => none
  | d + 1 => fun w =>
    if w = 0 then F_X12_readCond n (FG_MC n d 0) (FG_MC n d 1) (FG_MC n d 2) else     if w = 1 then F_X12_readAtom n (FG_MC n d 0) (FG_MC n d 1) (FG_MC n d 2) else F_X12_readAllOf n (FG_MC n d 0) (FG_MC n d 1) (FG_MC n d 2)
noncomputable def F_X12_readLawLine_53 (n : Nat) (a0 : Nat) (x2 : Int32) (sa0 : Nat) (s1 : Int32) (s2 : Int32) (h : jH) : Option (Int32 × jH) :=
  (jas 0 h sa0 s1 s2).bind fun h53 =>
  (jgR 10 h53 a0 1).bind fun p55 =>
  (jal 0 h53 p55 x2).bind fun v59 =>
  if 0 ≤ v59 then ((jgR 10 h53 a0 1).bind fun p66 =>
  (jcv 10 h53 a0 (F_X12_number n a0 (0 : Int32) (100 : Int32) h53)).bind fun q76 =>
  (jas 0 q76.2 p66 (x2 + (1 : Int32)) q76.1).bind fun h79 =>
  (jgR 10 h79 a0 1).bind fun p81 =>
  (jal 0 h79 p81 (x2 + (1 : Int32))).bind fun v87 =>
  if 0 ≤ v87 then ((jgR 10 h79 a0 1).bind fun p94 =>
  (jgI 10 h79 a0 16).bind fun v101 =>
  (jas 0 h79 p94 (x2 + (2 : Int32)) v101).bind fun h104 =>
  (jpf 10 h104 a0 13 (.int (0 : Int32))).bind fun h107 =>
  (jcv 10 h107 a0 (F_X12_passes n a0 28 h107)).bind fun q113 =>
  if q113.1 = 0 then ((jgR 10 q113.2 a0 1).bind fun p129 =>
  (jgI 10 q113.2 a0 16).bind fun v136 =>
  (jas 0 q113.2 p129 (x2 + (3 : Int32)) v136).bind fun h139 =>
  some ((1 : Int32), h139))
  else ((jcv 10 q113.2 a0 (FG_MC n 30 0 a0 q113.2)).bind fun q120 =>
  if q120.1 = 0 then (some ((0 : Int32), q120.2))
  else ((jgR 10 q120.2 a0 1).bind fun p129 =>
  (jgI 10 q120.2 a0 16).bind fun v136 =>
  (jas 0 q120.2 p129 (x2 + (3 : Int32)) v136).bind fun h139 =>
  some ((1 : Int32), h139))))
  else (some ((0 : Int32), h79)))
  else (some ((0 : Int32), h53))
noncomputable def F_X12_readLawLine (n : Nat) (a0 : Nat) (x1 : Int32) (h : jH) : Option (Int32 × jH) :=
  (jgR 10 h a0 1).bind fun p9 =>
  (jcv 10 h a0 (F_X12_isWord n a0 18 h)).bind fun v16 =>
  if v16 = 0 then ((jcv 10 h a0 (F_X12_isWord n a0 26 h)).bind fun v29 =>
  if v29 = 0 then ((jcv 10 h a0 (F_X12_isWord n a0 27 h)).bind fun v42 =>
  if v42 = 0 then (F_X12_readLawLine_53 n a0 ((1285 : Int32) + ((4 : Int32) * x1)) p9 ((1285 : Int32) + ((4 : Int32) * x1)) (-1 : Int32) h)
  else (F_X12_readLawLine_53 n a0 ((1285 : Int32) + ((4 : Int32) * x1)) p9 ((1285 : Int32) + ((4 : Int32) * x1)) (2 : Int32) h))
  else (F_X12_readLawLine_53 n a0 ((1285 : Int32) + ((4 : Int32) * x1)) p9 ((1285 : Int32) + ((4 : Int32) * x1)) (1 : Int32) h))
  else (F_X12_readLawLine_53 n a0 ((1285 : Int32) + ((4 : Int32) * x1)) p9 ((1285 : Int32) + ((4 : Int32) * x1)) (0 : Int32) h)
noncomputable def F_X12_readLine_16 (n : Nat) (a0 : Nat) (x1 : Int32) (x2 : Int32) (s0 : Int32) (s1 : Int32) (h : jH) : Option (Int32 × jH) :=
  if s1 ≤ s0 then (some ((0 : Int32), h))
  else (if x1 = 0 then ((jcv 10 h a0 (F_X12_readLawLine n a0 x2 h)).bind fun q35 =>
  if q35.1 = 0 then (some ((0 : Int32), q35.2))
  else (some ((1 : Int32), q35.2)))
  else ((jcv 10 h a0 (F_X12_readPoleLine n a0 h)).bind fun q24 =>
  if q24.1 = 0 then (some ((0 : Int32), q24.2))
  else (some ((1 : Int32), q24.2))))
noncomputable def F_X12_readLine (n : Nat) (a0 : Nat) (x1 : Int32) (x2 : Int32) (h : jH) : Option (Int32 × jH) :=
  (jcv 10 h a0 (F_X12_letters n a0 h)).bind fun h1 =>
  if x1 = 0 then (F_X12_readLine_16 n a0 x1 x2 x2 (12 : Int32) h1)
  else (F_X12_readLine_16 n a0 x1 x2 x2 (14 : Int32) h1)
noncomputable def F_X12_readAll_28_b (n : Nat) (rc28 : Nat → Int32 → Int32 → jH → Option (Int32 × jH)) (a0 : Nat) (x1 : Int32) (x2 : Int32) (h : jH) : Option (Int32 × jH) :=
  (jcv 10 h a0 (F_X12_readLine n a0 x1 x2 h)).bind fun q31 =>
  if q31.1 = 0 then (some ((-1 : Int32), q31.2))
  else ((jcv 10 q31.2 a0 (F_X12_blanks n a0 q31.2)).bind fun h40 =>
  (jgI 10 h40 a0 10).bind fun v44 =>
  (jgI 10 h40 a0 11).bind fun v48 =>
  if v44 = v48 then (some (x2 + (1 : Int32), h40))
  else ((jcv 10 h40 a0 (F_X12_isAt n a0 (59 : Int32) (59 : Int32) h40)).bind fun v63 =>
  if v63 = 0 then (some ((-1 : Int32), h40))
  else ((jgI 10 h40 a0 10).bind fun v73 =>
  (jpf 10 h40 a0 10 (.int (v73 + (1 : Int32)))).bind fun h78 =>
  rc28 a0 x1 (x2 + (1 : Int32)) h78)))
noncomputable def F_X12_readAll_28 (n : Nat) : Nat → Nat → Int32 → Int32 → jH → Option (Int32 × jH)
  | 0 => fun _ _ _ _ => none
  | k + 1 => F_X12_readAll_28_b n (F_X12_readAll_28 n k)
noncomputable def F_X12_readAll (n : Nat) (a0 : Nat) (x1 : Int32) (h : jH) : Option (Int32 × jH) :=
  (jcv 10 h a0 (F_X12_uses n a0 h)).bind fun h1 =>
  (jpf 10 h1 a0 16 (.int (0 : Int32))).bind fun h6 =>
  (jcv 10 h6 a0 (F_X12_blanks n a0 h6)).bind fun h10 =>
  (jgI 10 h10 a0 10).bind fun v14 =>
  (jgI 10 h10 a0 11).bind fun v18 =>
  if v14 = v18 then (some ((0 : Int32), h10))
  else (F_X12_readAll_28 n n a0 x1 (0 : Int32) h10)
noncomputable def F_X12_pole_92_b (n : Nat) (rc92 : Nat → Int32 → jH → Option (Int32 × jH)) (a0 : Nat) (x2 : Int32) (h : jH) : Option (Int32 × jH) :=
  if (1284 : Int32) ≤ x2 then (some ((0 : Int32), h))
  else ((jgR 10 h a0 1).bind fun p100 =>
  (jgR 10 h a0 3).bind fun p105 =>
  (jal 0 h p105 x2).bind fun v109 =>
  (jas 0 h p100 x2 v109).bind fun h110 =>
  rc92 a0 (x2 + (1 : Int32)) h110)
noncomputable def F_X12_pole_92 (n : Nat) : Nat → Nat → Int32 → jH → Option (Int32 × jH)
  | 0 => fun _ _ _ => none
  | k + 1 => F_X12_pole_92_b n (F_X12_pole_92 n k)
noncomputable def F_X12_pole_83 (n : Nat) (a0 : Nat) (sa0 : Nat) (s1 : Int32) (h : jH) : Option (Int32 × jH) :=
  (jcv 10 h sa0 (F_X12_throwsIf n sa0 s1 (2 : Int32) h)).bind fun q84 =>
  if q84.1 = 0 then ((jgR 10 q84.2 a0 1).bind fun p120 =>
  (jal 0 q84.2 p120 (1 : Int32)).bind fun v125 =>
  (jas 0 q84.2 p120 (1 : Int32) (v125 + (1 : Int32))).bind fun h128 =>
  (jpf 10 h128 a0 7 (.int (0 : Int32))).bind fun h131 =>
  (jgR 10 h131 a0 1).bind fun p135 =>
  (jal 0 h131 p135 (1 : Int32)).bind fun v139 =>
  some (v139, h131))
  else (F_X12_pole_92 n n a0 (0 : Int32) q84.2)
noncomputable def F_X12_pole_59 (n : Nat) (a0 : Nat) (sa0 : Nat) (s1 : Int32) (h : jH) : Option (Int32 × jH) :=
  (jcv 10 h sa0 (F_X12_throwsIf n sa0 s1 (1 : Int32) h)).bind fun q60 =>
  if q60.1 = 0 then ((jgR 10 q60.2 a0 1).bind fun p68 =>
  (jal 0 q60.2 p68 (1 : Int32)).bind fun v72 =>
  if v72 = (12 : Int32) then (F_X12_pole_83 n a0 a0 (1 : Int32) q60.2)
  else (F_X12_pole_83 n a0 a0 (0 : Int32) q60.2))
  else (F_X12_pole_92 n n a0 (0 : Int32) q60.2)
noncomputable def F_X12_pole_2_b (n : Nat) (rc2 : Nat → Int32 → jH → Option (Int32 × jH)) (a0 : Nat) (x1 : Int32) (h : jH) : Option (Int32 × jH) :=
  if (1284 : Int32) ≤ x1 then ((jcv 10 h a0 (F_X12_readAll n a0 (1 : Int32) h)).bind fun q29 =>
  if 0 ≤ q29.1 then ((jpf 10 q29.2 a0 14 (.int (-1 : Int32))).bind fun h46 =>
  if 0 ≤ q29.1 then (F_X12_pole_59 n a0 a0 (0 : Int32) h46)
  else (F_X12_pole_59 n a0 a0 (1 : Int32) h46))
  else ((jgI 10 q29.2 a0 12).bind fun v39 =>
  (jpf 10 q29.2 a0 14 (.int v39)).bind fun h46 =>
  if 0 ≤ q29.1 then (F_X12_pole_59 n a0 a0 (0 : Int32) h46)
  else (F_X12_pole_59 n a0 a0 (1 : Int32) h46)))
  else ((jgR 10 h a0 3).bind fun p10 =>
  (jgR 10 h a0 1).bind fun p15 =>
  (jal 0 h p15 x1).bind fun v19 =>
  (jas 0 h p10 x1 v19).bind fun h20 =>
  rc2 a0 (x1 + (1 : Int32)) h20)
noncomputable def F_X12_pole_2 (n : Nat) : Nat → Nat → Int32 → jH → Option (Int32 × jH)
  | 0 => fun _ _ _ => none
  | k + 1 => F_X12_pole_2_b n (F_X12_pole_2 n k)
noncomputable def F_X12_pole (n : Nat) (a0 : Nat) (h : jH) : Option (Int32 × jH) :=
  F_X12_pole_2 n n a0 (0 : Int32) h
noncomputable def F_X12_law_52_b (n : Nat) (rc52 : Nat → Int32 → Int32 → jH → Option (Int32 × jH)) (a0 : Nat) (x1 : Int32) (x2 : Int32) (h : jH) : Option (Int32 × jH) :=
  if (849 : Int32) ≤ x2 then ((jgR 10 h a0 1).bind fun p86 =>
  (jas 0 h p86 (2 : Int32) (1 : Int32)).bind fun h91 =>
  (jpf 10 h91 a0 7 (.int (0 : Int32))).bind fun h94 =>
  some (x1, h94))
  else ((jgR 10 h a0 1).bind fun p60 =>
  (jgR 10 h a0 1).bind fun p69 =>
  (jal 0 h p69 ((1284 : Int32) + x2)).bind fun v77 =>
  (jas 0 h p60 ((435 : Int32) + x2) v77).bind fun h78 =>
  rc52 a0 x1 (x2 + (1 : Int32)) h78)
noncomputable def F_X12_law_52 (n : Nat) : Nat → Nat → Int32 → Int32 → jH → Option (Int32 × jH)
  | 0 => fun _ _ _ _ => none
  | k + 1 => F_X12_law_52_b n (F_X12_law_52 n k)
noncomputable def F_X12_law_32 (n : Nat) (a0 : Nat) (x1 : Int32) (sa0 : Nat) (s1 : Int32) (h : jH) : Option (Int32 × jH) :=
  (jcv 10 h sa0 (F_X12_throwsIf n sa0 s1 (1 : Int32) h)).bind fun q33 =>
  if q33.1 = 0 then ((jgR 10 q33.2 a0 1).bind fun p42 =>
  (jas 0 q33.2 p42 (1284 : Int32) x1).bind fun h49 =>
  F_X12_law_52 n n a0 x1 (0 : Int32) h49)
  else (some ((0 : Int32), q33.2))
noncomputable def F_X12_law (n : Nat) (a0 : Nat) (h : jH) : Option (Int32 × jH) :=
  (jcv 10 h a0 (F_X12_readAll n a0 (0 : Int32) h)).bind fun q2 =>
  if 0 ≤ q2.1 then ((jpf 10 q2.2 a0 14 (.int (-1 : Int32))).bind fun h19 =>
  if 0 ≤ q2.1 then (F_X12_law_32 n a0 q2.1 a0 (0 : Int32) h19)
  else (F_X12_law_32 n a0 q2.1 a0 (1 : Int32) h19))
  else ((jgI 10 q2.2 a0 12).bind fun v12 =>
  (jpf 10 q2.2 a0 14 (.int v12)).bind fun h19 =>
  if 0 ≤ q2.1 then (F_X12_law_32 n a0 q2.1 a0 (0 : Int32) h19)
  else (F_X12_law_32 n a0 q2.1 a0 (1 : Int32) h19))
noncomputable def F_X12_isLit (n : Nat) (a0 : Nat) (x1 : Int32) (x2 : Int32) (h : jH) : Option Int32 :=
  (jcv 10 h a0 (F_X12_of n a0 x1 (0 : Int32) h)).bind fun v3 =>
  (jgR 10 h a0 1).bind fun p13 =>
  (jal 0 h p13 (6 : Int32)).bind fun v18 =>
  (F_X12_in n v3 ((4 : Int32) * x2) (((4 : Int32) * x2) + v18) h).bind fun v20 =>
  if v20 = 0 ∨ v20 = 1 then some v20 else none
noncomputable def F_X12_factOf (n : Nat) (a0 : Nat) (x1 : Int32) (x2 : Int32) (x3 : Int32) (h : jH) : Option Int32 :=
  if x1 = (0 : Int32) then (some x3)
  else if x1 = (1 : Int32) then ((jcv 10 h a0 (F_X12_of n a0 x3 (0 : Int32) h)).bind fun v65 =>
  some v65)
  else if x1 = (2 : Int32) then ((jcv 10 h a0 (F_X12_gapOf n a0 x3 h)).bind fun v71 =>
  some v71)
  else if x1 = (3 : Int32) then ((jcv 10 h a0 (F_X12_of n a0 x3 (4 : Int32) h)).bind fun v78 =>
  some v78)
  else if x1 = (4 : Int32) then ((jcv 10 h a0 (F_X12_of n a0 x3 (5 : Int32) h)).bind fun v85 =>
  some v85)
  else if x1 = (5 : Int32) then ((jgR 10 h a0 1).bind fun p90 =>
  (jal 0 h p90 (3 : Int32)).bind fun v94 =>
  some v94)
  else if x1 = (6 : Int32) then ((jgR 10 h a0 1).bind fun p97 =>
  (jal 0 h p97 (4 : Int32)).bind fun v101 =>
  some v101)
  else if x1 = (7 : Int32) then ((jcv 10 h a0 (F_X12_of n a0 x3 (3 : Int32) h)).bind fun v106 =>
  some v106)
  else if x1 = (8 : Int32) then ((jcv 10 h a0 (F_X12_of n a0 x3 (2 : Int32) h)).bind fun v113 =>
  some v113)
  else if x1 = (9 : Int32) then ((jgR 10 h a0 1).bind fun p120 =>
  (jal 0 h p120 (3 : Int32)).bind fun v124 =>
  (jcv 10 h a0 (F_X12_isLit n a0 x3 v124 h)).bind fun v125 =>
  if v125 = 0 then (some (0 : Int32))
  else (some (1 : Int32)))
  else if x1 = (10 : Int32) then ((jcv 10 h a0 (F_X12_of n a0 x3 (6 : Int32) h)).bind fun v141 =>
  some v141)
  else (some x2)
noncomputable def F_X12_holdsLine_222 (n : Nat) (rc22 : Nat → Int32 → Int32 → Int32 → Int32 → jH → Option (Int32 × jH)) (a0 : Nat) (x2 : Int32) (x3 : Int32) (x4 : Int32) (x5 : Int32) (x6 : Int32) (x7 : Int32) (x8 : Int32) (s0 : Int32) (h : jH) : Option (Int32 × jH) :=
  (jgR 10 h a0 17).bind fun p225 =>
  if x6 = (12 : Int32) then ((jas 0 h p225 (x3 - (1 : Int32)) (x7 + x8)).bind fun h256 =>
  rc22 a0 x2 x3 x4 (x5 + (1 : Int32)) h256)
  else (if s0 = 0 then ((jas 0 h p225 (x3 - (1 : Int32)) (0 : Int32)).bind fun h256 =>
  rc22 a0 x2 x3 x4 (x5 + (1 : Int32)) h256)
  else ((jas 0 h p225 (x3 - (1 : Int32)) (1 : Int32)).bind fun h256 =>
  rc22 a0 x2 x3 x4 (x5 + (1 : Int32)) h256))
noncomputable def F_X12_holdsLine_22_b (n : Nat) (rc22 : Nat → Int32 → Int32 → Int32 → Int32 → jH → Option (Int32 × jH)) (a0 : Nat) (x2 : Int32) (x3 : Int32) (x4 : Int32) (x5 : Int32) (h : jH) : Option (Int32 × jH) :=
  (jgR 10 h a0 1).bind fun p25 =>
  (jal 0 h p25 (x4 + (3 : Int32))).bind fun v32 =>
  if v32 ≤ x5 then (if x3 = 0 then (some ((1 : Int32), h))
  else ((jgR 10 h a0 17).bind fun p268 =>
  (jal 0 h p268 (0 : Int32)).bind fun v272 =>
  if v272 = (1 : Int32) then (some ((1 : Int32), h))
  else (some ((0 : Int32), h))))
  else ((jgR 10 h a0 1).bind fun p37 =>
  (jal 0 h p37 ((484 : Int32) + ((2 : Int32) * x5))).bind fun v48 =>
  if (11 : Int32) < v48 then (if v48 = (15 : Int32) then ((jgR 10 h a0 17).bind fun p100 =>
  (jgR 10 h a0 17).bind fun p108 =>
  (jal 0 h p108 (x3 - (1 : Int32))).bind fun v114 =>
  (jas 0 h p100 (x3 - (1 : Int32)) ((1 : Int32) - v114)).bind fun h116 =>
  rc22 a0 x2 x3 x4 (x5 + (1 : Int32)) h116)
  else ((jgR 10 h a0 17).bind fun p124 =>
  (jal 0 h p124 ((x3 + (-1 : Int32)) - (1 : Int32))).bind fun v130 =>
  (jgR 10 h a0 17).bind fun p134 =>
  (jal 0 h p134 (x3 + (-1 : Int32))).bind fun v138 =>
  if v48 = (13 : Int32) then (if v138 ≤ v130 then (F_X12_holdsLine_222 n rc22 a0 x2 (x3 + (-1 : Int32)) x4 x5 v48 v130 v138 (0 : Int32) h)
  else (F_X12_holdsLine_222 n rc22 a0 x2 (x3 + (-1 : Int32)) x4 x5 v48 v130 v138 (1 : Int32) h))
  else (if v48 = (14 : Int32) then (if v130 ≤ v138 then (F_X12_holdsLine_222 n rc22 a0 x2 (x3 + (-1 : Int32)) x4 x5 v48 v130 v138 (0 : Int32) h)
  else (F_X12_holdsLine_222 n rc22 a0 x2 (x3 + (-1 : Int32)) x4 x5 v48 v130 v138 (1 : Int32) h))
  else (if v48 = (16 : Int32) then (if (v130 + v138) = (2 : Int32) then (F_X12_holdsLine_222 n rc22 a0 x2 (x3 + (-1 : Int32)) x4 x5 v48 v130 v138 (1 : Int32) h)
  else (F_X12_holdsLine_222 n rc22 a0 x2 (x3 + (-1 : Int32)) x4 x5 v48 v130 v138 (0 : Int32) h))
  else (if (v130 + v138) ≤ 0 then (F_X12_holdsLine_222 n rc22 a0 x2 (x3 + (-1 : Int32)) x4 x5 v48 v130 v138 (0 : Int32) h)
  else (F_X12_holdsLine_222 n rc22 a0 x2 (x3 + (-1 : Int32)) x4 x5 v48 v130 v138 (1 : Int32) h))))))
  else ((jgR 10 h a0 17).bind fun p59 =>
  (jgR 10 h a0 1).bind fun p67 =>
  (jal 0 h p67 (((484 : Int32) + ((2 : Int32) * x5)) + (1 : Int32))).bind fun v80 =>
  (jcv 10 h a0 (F_X12_factOf n a0 v48 v80 x2 h)).bind fun v82 =>
  (jas 0 h p59 x3 v82).bind fun h85 =>
  rc22 a0 x2 (x3 + (1 : Int32)) x4 (x5 + (1 : Int32)) h85))
noncomputable def F_X12_holdsLine_22 (n : Nat) : Nat → Nat → Int32 → Int32 → Int32 → Int32 → jH → Option (Int32 × jH)
  | 0 => fun _ _ _ _ _ _ => none
  | k + 1 => F_X12_holdsLine_22_b n (F_X12_holdsLine_22 n k)
noncomputable def F_X12_holdsLine (n : Nat) (a0 : Nat) (x1 : Int32) (x2 : Int32) (h : jH) : Option (Int32 × jH) :=
  (jgR 10 h a0 1).bind fun p12 =>
  (jal 0 h p12 (((436 : Int32) + ((4 : Int32) * x1)) + (2 : Int32))).bind fun v19 =>
  F_X12_holdsLine_22 n n a0 x2 (0 : Int32) ((436 : Int32) + ((4 : Int32) * x1)) v19 h
noncomputable def F_X12_sumOf_5_b (n : Nat) (rc5 : Nat → Int32 → Int32 → Int32 → Int32 → jH → Option (Int32 × jH)) (a0 : Nat) (x1 : Int32) (x2 : Int32) (x3 : Int32) (x4 : Int32) (h : jH) : Option (Int32 × jH) :=
  (jgR 10 h a0 1).bind fun p8 =>
  (jal 0 h p8 (435 : Int32)).bind fun v14 =>
  if v14 ≤ x4 then (some (x3, h))
  else ((jgR 10 h a0 1).bind fun p19 =>
  (jal 0 h p19 ((436 : Int32) + ((4 : Int32) * x4))).bind fun v30 =>
  if v30 = x1 then ((jcv 10 h a0 (F_X12_holdsLine n a0 x4 x2 h)).bind fun q39 =>
  if q39.1 = 0 then (rc5 a0 x1 x2 x3 (x4 + (1 : Int32)) q39.2)
  else ((jgR 10 q39.2 a0 1).bind fun p47 =>
  (jal 0 q39.2 p47 (((436 : Int32) + ((4 : Int32) * x4)) + (1 : Int32))).bind fun v60 =>
  rc5 a0 x1 x2 (x3 + v60) (x4 + (1 : Int32)) q39.2))
  else (rc5 a0 x1 x2 x3 (x4 + (1 : Int32)) h))
noncomputable def F_X12_sumOf_5 (n : Nat) : Nat → Nat → Int32 → Int32 → Int32 → Int32 → jH → Option (Int32 × jH)
  | 0 => fun _ _ _ _ _ _ => none
  | k + 1 => F_X12_sumOf_5_b n (F_X12_sumOf_5 n k)
noncomputable def F_X12_sumOf (n : Nat) (a0 : Nat) (x1 : Int32) (x2 : Int32) (h : jH) : Option (Int32 × jH) :=
  F_X12_sumOf_5 n n a0 x1 x2 (0 : Int32) (0 : Int32) h
noncomputable def F_X12_byLaw (n : Nat) (a0 : Nat) (x1 : Int32) (x2 : Int32) (h : jH) : Option (Int32 × jH) :=
  (jgR 10 h a0 1).bind fun p1 =>
  (jal 0 h p1 (2 : Int32)).bind fun v5 =>
  if v5 = (1 : Int32) then ((jcv 10 h a0 (F_X12_sumOf n a0 x1 x2 h)).bind fun q13 =>
  some (q13.1, q13.2))
  else (if x1 = 0 then ((jgR 10 h a0 1).bind fun p24 =>
  (jal 0 h p24 (3 : Int32)).bind fun v28 =>
  (jcv 10 h a0 (F_X12_isLit n a0 x2 v28 h)).bind fun v29 =>
  if v29 = 0 then (some ((0 : Int32), h))
  else (some ((1 : Int32), h)))
  else (if x1 = (1 : Int32) then (some ((10 : Int32), h))
  else (some ((0 : Int32), h))))
noncomputable def F_X12_fadesOfAll_4_b (n : Nat) (rc4 : Nat → Int32 → Int32 → jH → Option Int32) (a0 : Nat) (x1 : Int32) (x2 : Int32) (h : jH) : Option Int32 :=
  (jcv 10 h a0 (F_X12_rings n a0 h)).bind fun v6 =>
  if v6 ≤ x2 then (some x1)
  else ((jcv 10 h a0 (F_X12_of n a0 x2 (4 : Int32) h)).bind fun v16 =>
  rc4 a0 (x1 + v16) (x2 + (1 : Int32)) h)
noncomputable def F_X12_fadesOfAll_4 (n : Nat) : Nat → Nat → Int32 → Int32 → jH → Option Int32
  | 0 => fun _ _ _ _ => none
  | k + 1 => F_X12_fadesOfAll_4_b n (F_X12_fadesOfAll_4 n k)
noncomputable def F_X12_fadesOfAll (n : Nat) (a0 : Nat) (h : jH) : Option Int32 :=
  F_X12_fadesOfAll_4 n n a0 (0 : Int32) (0 : Int32) h
noncomputable def F_X12_shareOf (n : Nat) (a0 : Nat) (x1 : Int32) (h : jH) : Option Int32 :=
  (jcv 10 h a0 (F_X12_fadesOfAll n a0 h)).bind fun v1 =>
  if v1 = 0 then (some (0 : Int32))
  else ((jcv 10 h a0 (F_X12_of n a0 x1 (4 : Int32) h)).bind fun v18 =>
  if v1 = 0 then none else
  some (((100 : Int32) * v18) / v1))
noncomputable def F_X12_hangsOn_78 (n : Nat) (rc21 : Nat → Int32 → Int32 → Int32 → Int32 → jH → Option Int32) (a0 : Nat) (x1 : Int32) (x3 : Int32) (x4 : Int32) (x5 : Int32) (s0 : Int32) (h : jH) : Option Int32 :=
  rc21 a0 x1 s0 (if x5 < x3 then x5 else x3) (x4 + (1 : Int32)) h
noncomputable def F_X12_hangsOn_21_b (n : Nat) (rc21 : Nat → Int32 → Int32 → Int32 → Int32 → jH → Option Int32) (a0 : Nat) (x1 : Int32) (x2 : Int32) (x3 : Int32) (x4 : Int32) (h : jH) : Option Int32 :=
  (jcv 10 h a0 (F_X12_rings n a0 h)).bind fun v24 =>
  if v24 ≤ x4 then (some x2)
  else ((jcv 10 h a0 (F_X12_is n a0 x4 (6 : Int32) h)).bind fun v35 =>
  if v35 = 0 then (if x3 ≤ (1000000 : Int32) then (F_X12_hangsOn_78 n rc21 a0 x1 x3 x4 (1000000 : Int32) x2 h)
  else (F_X12_hangsOn_78 n rc21 a0 x1 x3 x4 (1000000 : Int32) x4 h))
  else ((jcv 10 h a0 (F_X12_of n a0 x4 (0 : Int32) h)).bind fun v45 =>
  (jcv 10 h a0 (F_X12_of n a0 x1 (0 : Int32) h)).bind fun v51 =>
  if x3 ≤ (if 0 ≤ v45 - v51 then v45 - v51 else 0 - (v45 - v51)) then (F_X12_hangsOn_78 n rc21 a0 x1 x3 x4 (if 0 ≤ v45 - v51 then v45 - v51 else 0 - (v45 - v51)) x2 h)
  else (F_X12_hangsOn_78 n rc21 a0 x1 x3 x4 (if 0 ≤ v45 - v51 then v45 - v51 else 0 - (v45 - v51)) x4 h)))
noncomputable def F_X12_hangsOn_21 (n : Nat) : Nat → Nat → Int32 → Int32 → Int32 → Int32 → jH → Option Int32
  | 0 => fun _ _ _ _ _ _ => none
  | k + 1 => F_X12_hangsOn_21_b n (F_X12_hangsOn_21 n k)
noncomputable def F_X12_hangsOn (n : Nat) (a0 : Nat) (x1 : Int32) (h : jH) : Option Int32 :=
  (jcv 10 h a0 (F_X12_is n a0 x1 (6 : Int32) h)).bind fun v4 =>
  if v4 = 0 then (F_X12_hangsOn_21 n n a0 x1 (-1 : Int32) (1000000 : Int32) (0 : Int32) h)
  else (some x1)
noncomputable def F_X12_ring_34 (n : Nat) (a0 : Nat) (x1 : Int32) (x2 : Int32) (sa0 : Nat) (s1 : Int32) (h : jH) : Option (Int32 × jH) :=
  (jcv 10 h sa0 (F_X12_throwsIf n sa0 s1 (2 : Int32) h)).bind fun q35 =>
  if q35.1 = 0 then (if x2 = (8 : Int32) then ((jcv 10 q35.2 a0 (F_X12_lastRing n a0 q35.2)).bind fun v86 =>
  if x1 = v86 then (some ((-1 : Int32), q35.2))
  else ((jcv 10 q35.2 a0 (F_X12_gapOf n a0 x1 q35.2)).bind fun v98 =>
  some (v98, q35.2)))
  else if x2 = (9 : Int32) then ((jcv 10 q35.2 a0 (F_X12_byLaw n a0 (0 : Int32) x1 q35.2)).bind fun q105 =>
  some (q105.1, q105.2))
  else if x2 = (10 : Int32) then ((jcv 10 q35.2 a0 (F_X12_byLaw n a0 (1 : Int32) x1 q35.2)).bind fun q112 =>
  some (q112.1, q112.2))
  else if x2 = (11 : Int32) then ((jcv 10 q35.2 a0 (F_X12_byLaw n a0 (2 : Int32) x1 q35.2)).bind fun q119 =>
  some (q119.1, q119.2))
  else if x2 = (12 : Int32) then ((jcv 10 q35.2 a0 (F_X12_hangsOn n a0 x1 q35.2)).bind fun v125 =>
  some (v125, q35.2))
  else if x2 = (13 : Int32) then ((jcv 10 q35.2 a0 (F_X12_shareOf n a0 x1 q35.2)).bind fun v131 =>
  some (v131, q35.2))
  else ((jcv 10 q35.2 a0 (F_X12_of n a0 x1 x2 q35.2)).bind fun v138 =>
  some (v138, q35.2)))
  else (some ((0 : Int32), q35.2))
noncomputable def F_X12_ring (n : Nat) (a0 : Nat) (x1 : Int32) (x2 : Int32) (h : jH) : Option (Int32 × jH) :=
  (jpf 10 h a0 0 (.int (0 : Int32))).bind fun h2 =>
  (jcv 10 h2 a0 (F_X12_noRing n a0 x1 h2)).bind fun v8 =>
  (jcv 10 h2 a0 (F_X12_throwsIf n a0 v8 (1 : Int32) h2)).bind fun q12 =>
  if q12.1 = 0 then ((F_X12_in n x2 (0 : Int32) (13 : Int32) q12.2).bind fun v23 =>
  if v23 = 0 then (F_X12_ring_34 n a0 x1 x2 a0 (1 : Int32) q12.2)
  else (F_X12_ring_34 n a0 x1 x2 a0 (0 : Int32) q12.2))
  else (some ((0 : Int32), q12.2))
noncomputable def F_X12_takesAlong_30 (n : Nat) (a0 : Nat) (x3 : Int32) (x4 : Int32) (s0 : Int32) (h : jH) : Option Int32 :=
  if s0 = x3 then ((jcv 10 h a0 (F_X12_gapOf n a0 x4 h)).bind fun v37 =>
  if v37 = (1 : Int32) then (some (1 : Int32))
  else (some (0 : Int32)))
  else ((jcv 10 h a0 (F_X12_gapOf n a0 x4 h)).bind fun v55 =>
  (jcv 10 h a0 (F_X12_of n a0 x4 (1 : Int32) h)).bind fun v62 =>
  if v55 < v62 then (some (0 : Int32))
  else (some (1 : Int32)))
noncomputable def F_X12_takesAlong (n : Nat) (a0 : Nat) (x1 : Int32) (x2 : Int32) (x3 : Int32) (h : jH) : Option Int32 :=
  (jcv 10 h a0 (F_X12_is n a0 (if x2 < x1 then x2 else x1) (7 : Int32) h)).bind fun v12 =>
  if v12 = 0 then (if x2 ≤ x1 then (F_X12_takesAlong_30 n a0 x3 (if x2 < x1 then x2 else x1) (0 : Int32) h)
  else (F_X12_takesAlong_30 n a0 x3 (if x2 < x1 then x2 else x1) (1 : Int32) h))
  else (some (1 : Int32))
noncomputable def F_X12_allWith_72 (n : Nat) (rc7 : Nat → Int32 → Int32 → Int32 → jH → Option Int32) (rc17 : Nat → Int32 → Int32 → Int32 → Int32 → jH → Option Int32) (a0 : Nat) (x2 : Int32) (x4 : Int32) (x5 : Int32) (s0 : Int32) (s1 : Int32) (h : jH) : Option Int32 :=
  if x5 ≤ 0 then (rc17 a0 x2 ((s0 ||| s1) ||| (0 : Int32)) x4 (x5 + (1 : Int32)) h)
  else ((jcv 10 h a0 (F_X12_takesAlong n a0 x5 (x5 - (1 : Int32)) x2 h)).bind fun v88 =>
  if v88 = 0 then (rc17 a0 x2 ((s0 ||| s1) ||| (0 : Int32)) x4 (x5 + (1 : Int32)) h)
  else (rc17 a0 x2 ((s0 ||| s1) ||| ((1 : Int32) <<< ((x5 - (1 : Int32)) &&& 31))) x4 (x5 + (1 : Int32)) h))
noncomputable def F_X12_allWith_17_b (n : Nat) (rc7 : Nat → Int32 → Int32 → Int32 → jH → Option Int32) (rc17 : Nat → Int32 → Int32 → Int32 → Int32 → jH → Option Int32) (a0 : Nat) (x2 : Int32) (x3 : Int32) (x4 : Int32) (x5 : Int32) (h : jH) : Option Int32 :=
  (jcv 10 h a0 (F_X12_rings n a0 h)).bind fun v20 =>
  if v20 ≤ x5 then (rc7 a0 x2 x3 (x4 + (1 : Int32)) h)
  else ((F_X12_has n x3 x5 h).bind fun v29 =>
  if v29 = 0 then (rc17 a0 x2 x3 x4 (x5 + (1 : Int32)) h)
  else ((jcv 10 h a0 (F_X12_lastRing n a0 h)).bind fun v42 =>
  if v42 ≤ x5 then (F_X12_allWith_72 n rc7 rc17 a0 x2 x4 x5 x3 (0 : Int32) h)
  else ((jcv 10 h a0 (F_X12_takesAlong n a0 x5 (x5 + (1 : Int32)) x2 h)).bind fun v56 =>
  if v56 = 0 then (F_X12_allWith_72 n rc7 rc17 a0 x2 x4 x5 x3 (0 : Int32) h)
  else (F_X12_allWith_72 n rc7 rc17 a0 x2 x4 x5 x3 ((1 : Int32) <<< ((x5 + (1 : Int32)) &&& 31)) h))))
noncomputable def F_X12_allWith_17 (n : Nat) (rc7 : Nat → Int32 → Int32 → Int32 → jH → Option Int32) : Nat → Nat → Int32 → Int32 → Int32 → Int32 → jH → Option Int32
  | 0 => fun _ _ _ _ _ _ => none
  | k + 1 => F_X12_allWith_17_b n rc7 (F_X12_allWith_17 n rc7 k)
noncomputable def F_X12_allWith_7_b (n : Nat) (rc7 : Nat → Int32 → Int32 → Int32 → jH → Option Int32) (a0 : Nat) (x2 : Int32) (x3 : Int32) (x4 : Int32) (h : jH) : Option Int32 :=
  if (8 : Int32) ≤ x4 then (some x3)
  else (F_X12_allWith_17 n rc7 n a0 x2 x3 x4 (0 : Int32) h)
noncomputable def F_X12_allWith_7 (n : Nat) : Nat → Nat → Int32 → Int32 → Int32 → jH → Option Int32
  | 0 => fun _ _ _ _ _ => none
  | k + 1 => F_X12_allWith_7_b n (F_X12_allWith_7 n k)
noncomputable def F_X12_allWith (n : Nat) (a0 : Nat) (x1 : Int32) (x2 : Int32) (h : jH) : Option Int32 :=
  F_X12_allWith_7 n n a0 x2 ((1 : Int32) <<< (x1 &&& 31)) (0 : Int32) h
noncomputable def F_X12_mayGo_20 (n : Nat) (a0 : Nat) (x1 : Int32) (x2 : Int32) (x3 : Int32) (s0 : Int32) (h : jH) : Option Int32 :=
  (F_X12_noPlace n s0 h).bind fun v20 =>
  if v20 = 0 then ((jcv 10 h a0 (F_X12_is n a0 x1 (2 : Int32) h)).bind fun v31 =>
  if v31 = 0 then (some (1 : Int32))
  else (if x2 = 0 then ((jgR 10 h a0 1).bind fun p49 =>
  (jal 0 h p49 (5 : Int32)).bind fun v53 =>
  if x3 = v53 then (some (0 : Int32))
  else (some (1 : Int32)))
  else ((jgR 10 h a0 1).bind fun p49 =>
  (jal 0 h p49 (5 : Int32)).bind fun v53 =>
  if (x3 + (1 : Int32)) = v53 then (some (0 : Int32))
  else (some (1 : Int32)))))
  else (some (0 : Int32))
noncomputable def F_X12_mayGo (n : Nat) (a0 : Nat) (x1 : Int32) (x2 : Int32) (h : jH) : Option Int32 :=
  (jcv 10 h a0 (F_X12_of n a0 x1 (0 : Int32) h)).bind fun v3 =>
  if x2 = 0 then (F_X12_mayGo_20 n a0 x1 x2 v3 (v3 - (1 : Int32)) h)
  else (F_X12_mayGo_20 n a0 x1 x2 v3 (v3 + (1 : Int32)) h)
noncomputable def F_X12_goingBy_13_b (n : Nat) (rc13 : Nat → Int32 → Int32 → Int32 → Int32 → jH → Option Int32) (a0 : Nat) (x2 : Int32) (x3 : Int32) (x4 : Int32) (x5 : Int32) (h : jH) : Option Int32 :=
  (jcv 10 h a0 (F_X12_rings n a0 h)).bind fun v16 =>
  if v16 ≤ x5 then (if x4 = 0 then (some (0 : Int32))
  else (some x3))
  else (if x4 = 0 then (rc13 a0 x2 x3 (0 : Int32) (x5 + (1 : Int32)) h)
  else ((F_X12_has n x3 x5 h).bind fun v30 =>
  if v30 = 0 then (rc13 a0 x2 x3 (1 : Int32) (x5 + (1 : Int32)) h)
  else ((jcv 10 h a0 (F_X12_mayGo n a0 x5 x2 h)).bind fun v40 =>
  if v40 = 0 then (rc13 a0 x2 x3 (0 : Int32) (x5 + (1 : Int32)) h)
  else (rc13 a0 x2 x3 (1 : Int32) (x5 + (1 : Int32)) h))))
noncomputable def F_X12_goingBy_13 (n : Nat) : Nat → Nat → Int32 → Int32 → Int32 → Int32 → jH → Option Int32
  | 0 => fun _ _ _ _ _ _ => none
  | k + 1 => F_X12_goingBy_13_b n (F_X12_goingBy_13 n k)
noncomputable def F_X12_goingBy (n : Nat) (a0 : Nat) (x1 : Int32) (x2 : Int32) (h : jH) : Option Int32 :=
  (jcv 10 h a0 (F_X12_allWith n a0 x1 x2 h)).bind fun v3 =>
  F_X12_goingBy_13 n n a0 x2 v3 (1 : Int32) (0 : Int32) h
noncomputable def F_X12_goesOne_52 (n : Nat) (rc10 : Nat → Int32 → Int32 → Int32 → jH → Option (Int32 × jH)) (a0 : Nat) (x2 : Int32) (x3 : Int32) (x4 : Int32) (sa0 : Nat) (s1 : Int32) (s2 : Int32) (s3 : Int32) (h : jH) : Option (Int32 × jH) :=
  (jas 0 h sa0 s1 (s2 + s3)).bind fun h53 =>
  (jgI 10 h53 a0 18).bind fun v56 =>
  (jcv 10 h53 a0 (F_X12_is n a0 x4 (3 : Int32) h53)).bind fun v63 =>
  if v63 = 0 then ((jpf 10 h53 a0 18 (.int (v56 + (1 : Int32)))).bind fun h75 =>
  rc10 a0 x2 x3 (x4 + (1 : Int32)) h75)
  else ((jpf 10 h53 a0 18 (.int (v56 + (0 : Int32)))).bind fun h75 =>
  rc10 a0 x2 x3 (x4 + (1 : Int32)) h75)
noncomputable def F_X12_goesOne_10_b (n : Nat) (rc10 : Nat → Int32 → Int32 → Int32 → jH → Option (Int32 × jH)) (a0 : Nat) (x2 : Int32) (x3 : Int32) (x4 : Int32) (h : jH) : Option (Int32 × jH) :=
  (jcv 10 h a0 (F_X12_rings n a0 h)).bind fun v13 =>
  if v13 ≤ x4 then (if x3 = 0 then (some ((0 : Int32), h))
  else (some ((1 : Int32), h)))
  else ((F_X12_has n x3 x4 h).bind fun v22 =>
  if v22 = 0 then (rc10 a0 x2 x3 (x4 + (1 : Int32)) h)
  else ((jgR 10 h a0 1).bind fun p32 =>
  (F_X12_at n x4 (0 : Int32) h).bind fun v38 =>
  (jal 0 h p32 v38).bind fun v42 =>
  if x2 = 0 then (F_X12_goesOne_52 n rc10 a0 x2 x3 x4 p32 v38 v42 (-1 : Int32) h)
  else (F_X12_goesOne_52 n rc10 a0 x2 x3 x4 p32 v38 v42 (1 : Int32) h)))
noncomputable def F_X12_goesOne_10 (n : Nat) : Nat → Nat → Int32 → Int32 → Int32 → jH → Option (Int32 × jH)
  | 0 => fun _ _ _ _ _ => none
  | k + 1 => F_X12_goesOne_10_b n (F_X12_goesOne_10 n k)
noncomputable def F_X12_goesOne (n : Nat) (a0 : Nat) (x1 : Int32) (x2 : Int32) (h : jH) : Option (Int32 × jH) :=
  (jcv 10 h a0 (F_X12_goingBy n a0 x1 x2 h)).bind fun v3 =>
  F_X12_goesOne_10 n n a0 x2 v3 (0 : Int32) h
noncomputable def F_X12_pulls_29 (n : Nat) (a0 : Nat) (x4 : Int32) (h : jH) : Option (Int32 × jH) :=
  (jgR 10 h a0 1).bind fun p30 =>
  (jgR 10 h a0 1).bind fun p39 =>
  (jal 0 h p39 (8 : Int32)).bind fun v44 =>
  (jgI 10 h a0 18).bind fun v46 =>
  (jas 0 h p30 (8 : Int32) (if (v44 + v46) < (9999 : Int32) then v44 + v46 else (9999 : Int32))).bind fun h53 =>
  some (x4, h53)
noncomputable def F_X12_pulls_8_b (n : Nat) (rc8 : Nat → Int32 → Int32 → Int32 → Int32 → jH → Option (Int32 × jH)) (a0 : Nat) (x1 : Int32) (x2 : Int32) (x3 : Int32) (x4 : Int32) (h : jH) : Option (Int32 × jH) :=
  if x3 ≤ x4 then (F_X12_pulls_29 n a0 x4 h)
  else ((jcv 10 h a0 (F_X12_goesOne n a0 x1 x2 h)).bind fun q17 =>
  if q17.1 = 0 then (F_X12_pulls_29 n a0 x4 q17.2)
  else (rc8 a0 x1 x2 x3 (x4 + (1 : Int32)) q17.2))
noncomputable def F_X12_pulls_8 (n : Nat) : Nat → Nat → Int32 → Int32 → Int32 → Int32 → jH → Option (Int32 × jH)
  | 0 => fun _ _ _ _ _ _ => none
  | k + 1 => F_X12_pulls_8_b n (F_X12_pulls_8 n k)
noncomputable def F_X12_pulls (n : Nat) (a0 : Nat) (x1 : Int32) (x2 : Int32) (x3 : Int32) (h : jH) : Option (Int32 × jH) :=
  (jpf 10 h a0 18 (.int (0 : Int32))).bind fun h2 =>
  F_X12_pulls_8 n n a0 x1 x2 x3 (0 : Int32) h2
noncomputable def F_X12_tells_5_b (n : Nat) (rc5 : Nat → Int32 → Int32 → Int32 → Int32 → jH → Option jH) (a0 : Nat) (x1 : Int32) (x2 : Int32) (x3 : Int32) (x4 : Int32) (h : jH) : Option jH :=
  if x4 < (6 : Int32) then ((jgR 10 h a0 1).bind fun p42 =>
  (jgR 10 h a0 1).bind fun p48 =>
  (jal 0 h p48 (4 : Int32)).bind fun v52 =>
  (jas 0 h p42 (75 : Int32) v52).bind fun h53 =>
  (jgR 10 h53 a0 1).bind fun p55 =>
  (jgR 10 h53 a0 1).bind fun p61 =>
  (jal 0 h53 p61 (3 : Int32)).bind fun v65 =>
  (jas 0 h53 p55 (76 : Int32) v65).bind fun h66 =>
  (jgR 10 h66 a0 1).bind fun p68 =>
  (jas 0 h66 p68 (77 : Int32) x1).bind fun h74 =>
  (jgR 10 h74 a0 1).bind fun p76 =>
  (jas 0 h74 p76 (78 : Int32) x2).bind fun h82 =>
  (jgR 10 h82 a0 1).bind fun p84 =>
  (jas 0 h82 p84 (79 : Int32) x3).bind fun h90 =>
  (jgR 10 h90 a0 1).bind fun p92 =>
  (jcv 10 h90 a0 (F_X12_of n a0 x1 (0 : Int32) h90)).bind fun v100 =>
  (jas 0 h90 p92 (80 : Int32) v100).bind fun h103 =>
  (jgR 10 h103 a0 1).bind fun p105 =>
  (jgR 10 h103 a0 1).bind fun p113 =>
  (jal 0 h103 p113 (9 : Int32)).bind fun v118 =>
  (jas 0 h103 p105 (9 : Int32) (if (v118 + (1 : Int32)) < (60 : Int32) then v118 + (1 : Int32) else (60 : Int32))).bind fun h124 =>
  some h124)
  else ((jgR 10 h a0 1).bind fun p13 =>
  (jgR 10 h a0 1).bind fun p22 =>
  (jal 0 h p22 (((75 : Int32) + x4) - (6 : Int32))).bind fun v33 =>
  (jas 0 h p13 ((75 : Int32) + x4) v33).bind fun h34 =>
  rc5 a0 x1 x2 x3 (x4 + (-1 : Int32)) h34)
noncomputable def F_X12_tells_5 (n : Nat) : Nat → Nat → Int32 → Int32 → Int32 → Int32 → jH → Option jH
  | 0 => fun _ _ _ _ _ _ => none
  | k + 1 => F_X12_tells_5_b n (F_X12_tells_5 n k)
noncomputable def F_X12_tells (n : Nat) (a0 : Nat) (x1 : Int32) (x2 : Int32) (x3 : Int32) (h : jH) : Option jH :=
  F_X12_tells_5 n n a0 x1 x2 x3 (359 : Int32) h
noncomputable def F_X12_pull (n : Nat) (a0 : Nat) (x1 : Int32) (x2 : Int32) (x3 : Int32) (h : jH) : Option (Int32 × jH) :=
  (jpf 10 h a0 0 (.int (0 : Int32))).bind fun h2 =>
  (jcv 10 h2 a0 (F_X12_noRing n a0 x1 h2)).bind fun v8 =>
  (jcv 10 h2 a0 (F_X12_throwsIf n a0 v8 (1 : Int32) h2)).bind fun q12 =>
  if q12.1 = 0 then ((F_X12_noSteps n x3 q12.2).bind fun v20 =>
  (jcv 10 q12.2 a0 (F_X12_throwsIf n a0 v20 (2 : Int32) q12.2)).bind fun q24 =>
  if q24.1 = 0 then ((jcv 10 q24.2 a0 (F_X12_remembers n a0 q24.2)).bind fun h33 =>
  (jcv 10 h33 a0 (F_X12_pulls n a0 x1 x2 x3 h33)).bind fun q40 =>
  (jcv 10 q40.2 a0 (F_X12_tells n a0 x1 (0 : Int32) q40.1 q40.2)).bind fun h50 =>
  some (q40.1, h50))
  else (some ((0 : Int32), q24.2)))
  else (some ((0 : Int32), q12.2))
noncomputable def F_X12_free_34 (n : Nat) (a0 : Nat) (x1 : Int32) (sa0 : Nat) (s1 : Int32) (h : jH) : Option (Int32 × jH) :=
  (jcv 10 h sa0 (F_X12_throwsIf n sa0 s1 (2 : Int32) h)).bind fun q35 =>
  if q35.1 = 0 then ((jcv 10 q35.2 a0 (F_X12_remembers n a0 q35.2)).bind fun h44 =>
  (jgR 10 h44 a0 1).bind fun p48 =>
  (F_X12_at n x1 (7 : Int32) h44).bind fun v54 =>
  (jas 0 h44 p48 v54 (0 : Int32)).bind fun h58 =>
  (jcv 10 h58 a0 (F_X12_gapOf n a0 x1 h58)).bind fun v61 =>
  some (v61, h58))
  else (some ((0 : Int32), q35.2))
noncomputable def F_X12_free (n : Nat) (a0 : Nat) (x1 : Int32) (h : jH) : Option (Int32 × jH) :=
  (jpf 10 h a0 0 (.int (0 : Int32))).bind fun h2 =>
  (jcv 10 h2 a0 (F_X12_noRing n a0 x1 h2)).bind fun v8 =>
  (jcv 10 h2 a0 (F_X12_throwsIf n a0 v8 (1 : Int32) h2)).bind fun q12 =>
  if q12.1 = 0 then ((jcv 10 q12.2 a0 (F_X12_is n a0 x1 (7 : Int32) q12.2)).bind fun v23 =>
  if v23 = 0 then (F_X12_free_34 n a0 x1 a0 (1 : Int32) q12.2)
  else (F_X12_free_34 n a0 x1 a0 (0 : Int32) q12.2))
  else (some ((0 : Int32), q12.2))
noncomputable def F_X12_snag_42 (n : Nat) (a0 : Nat) (x1 : Int32) (sa0 : Nat) (s1 : Int32) (h : jH) : Option (Int32 × jH) :=
  (jcv 10 h sa0 (F_X12_throwsIf n sa0 s1 (2 : Int32) h)).bind fun q43 =>
  if q43.1 = 0 then ((jcv 10 q43.2 a0 (F_X12_remembers n a0 q43.2)).bind fun h52 =>
  (jgR 10 h52 a0 1).bind fun p56 =>
  (F_X12_at n x1 (7 : Int32) h52).bind fun v62 =>
  (jas 0 h52 p56 v62 (1 : Int32)).bind fun h66 =>
  (jcv 10 h66 a0 (F_X12_gapOf n a0 x1 h66)).bind fun v69 =>
  some (v69, h66))
  else (some ((0 : Int32), q43.2))
noncomputable def F_X12_snag (n : Nat) (a0 : Nat) (x1 : Int32) (h : jH) : Option (Int32 × jH) :=
  (jpf 10 h a0 0 (.int (0 : Int32))).bind fun h2 =>
  (jcv 10 h2 a0 (F_X12_noRing n a0 x1 h2)).bind fun v8 =>
  (jcv 10 h2 a0 (F_X12_throwsIf n a0 v8 (1 : Int32) h2)).bind fun q12 =>
  if q12.1 = 0 then ((jcv 10 q12.2 a0 (F_X12_lastRing n a0 q12.2)).bind fun v21 =>
  if x1 = v21 then (F_X12_snag_42 n a0 x1 a0 (1 : Int32) q12.2)
  else ((jcv 10 q12.2 a0 (F_X12_is n a0 x1 (7 : Int32) q12.2)).bind fun v31 =>
  if v31 = 0 then (F_X12_snag_42 n a0 x1 a0 (0 : Int32) q12.2)
  else (F_X12_snag_42 n a0 x1 a0 (1 : Int32) q12.2)))
  else (some ((0 : Int32), q12.2))
noncomputable def F_X12_hook (n : Nat) (a0 : Nat) (x1 : Int32) (x2 : Int32) (h : jH) : Option (Int32 × jH) :=
  (jpf 10 h a0 0 (.int (0 : Int32))).bind fun h2 =>
  (jcv 10 h2 a0 (F_X12_noRing n a0 x1 h2)).bind fun v8 =>
  (jcv 10 h2 a0 (F_X12_throwsIf n a0 v8 (1 : Int32) h2)).bind fun q12 =>
  if q12.1 = 0 then ((jcv 10 q12.2 a0 (F_X12_remembers n a0 q12.2)).bind fun h21 =>
  (jcv 10 h21 a0 (F_X12_is n a0 x1 (6 : Int32) h21)).bind fun v28 =>
  (jgR 10 h21 a0 1).bind fun p33 =>
  (F_X12_at n x1 (6 : Int32) h21).bind fun v39 =>
  if x2 = 0 then ((jas 0 h21 p33 v39 (0 : Int32)).bind fun h51 =>
  if v28 = x2 then (some ((0 : Int32), h51))
  else (some ((1 : Int32), h51)))
  else ((jas 0 h21 p33 v39 (1 : Int32)).bind fun h51 =>
  if v28 = x2 then (some ((0 : Int32), h51))
  else (some ((1 : Int32), h51))))
  else (some ((0 : Int32), q12.2))
noncomputable def F_X12_sew_70 (n : Nat) (a0 : Nat) (x1 : Int32) (x2 : Int32) (sa0 : Nat) (s1 : Int32) (h : jH) : Option (Int32 × jH) :=
  (jcv 10 h sa0 (F_X12_throwsIf n sa0 s1 (3 : Int32) h)).bind fun q71 =>
  if q71.1 = 0 then ((jcv 10 q71.2 a0 (F_X12_remembers n a0 q71.2)).bind fun h80 =>
  (jcv 10 h80 a0 (F_X12_hangs n a0 x1 x2 h80)).bind fun h86 =>
  (jcv 10 h86 a0 (F_X12_lastRing n a0 h86)).bind fun v90 =>
  some (v90, h86))
  else (some ((0 : Int32), q71.2))
noncomputable def F_X12_sew_33 (n : Nat) (a0 : Nat) (x1 : Int32) (x2 : Int32) (sa0 : Nat) (s1 : Int32) (h : jH) : Option (Int32 × jH) :=
  (jcv 10 h sa0 (F_X12_throwsIf n sa0 s1 (2 : Int32) h)).bind fun q34 =>
  if q34.1 = 0 then ((jcv 10 q34.2 a0 (F_X12_rings n a0 q34.2)).bind fun v42 =>
  if v42 = (8 : Int32) then (F_X12_sew_70 n a0 x1 x2 a0 (1 : Int32) q34.2)
  else ((jcv 10 q34.2 a0 (F_X12_leastPlace n a0 q34.2)).bind fun v52 =>
  (jcv 10 q34.2 a0 (F_X12_mostPlace n a0 q34.2)).bind fun v56 =>
  (F_X12_in n x1 v52 v56 q34.2).bind fun v59 =>
  if v59 = 0 then (F_X12_sew_70 n a0 x1 x2 a0 (1 : Int32) q34.2)
  else (F_X12_sew_70 n a0 x1 x2 a0 (0 : Int32) q34.2)))
  else (some ((0 : Int32), q34.2))
noncomputable def F_X12_sew (n : Nat) (a0 : Nat) (x1 : Int32) (x2 : Int32) (h : jH) : Option (Int32 × jH) :=
  (jpf 10 h a0 0 (.int (0 : Int32))).bind fun h2 =>
  (F_X12_noPlace n x1 h2).bind fun v7 =>
  (jcv 10 h2 a0 (F_X12_throwsIf n a0 v7 (1 : Int32) h2)).bind fun q11 =>
  if q11.1 = 0 then ((F_X12_in n x2 (1 : Int32) (9 : Int32) q11.2).bind fun v22 =>
  if v22 = 0 then (F_X12_sew_33 n a0 x1 x2 a0 (1 : Int32) q11.2)
  else (F_X12_sew_33 n a0 x1 x2 a0 (0 : Int32) q11.2))
  else (some ((0 : Int32), q11.2))
noncomputable def F_X12_let_34 (n : Nat) (a0 : Nat) (x1 : Int32) (x2 : Int32) (sa0 : Nat) (s1 : Int32) (h : jH) : Option (Int32 × jH) :=
  (jcv 10 h sa0 (F_X12_throwsIf n sa0 s1 (2 : Int32) h)).bind fun q35 =>
  if q35.1 = 0 then ((jcv 10 q35.2 a0 (F_X12_remembers n a0 q35.2)).bind fun h44 =>
  (jcv 10 h44 a0 (F_X12_of n a0 x1 (5 : Int32) h44)).bind fun v50 =>
  (jgR 10 h44 a0 1).bind fun p55 =>
  (F_X12_at n x1 (5 : Int32) h44).bind fun v60 =>
  (jas 0 h44 p55 v60 x2).bind fun h64 =>
  some (v50, h64))
  else (some ((0 : Int32), q35.2))
noncomputable def F_X12_let (n : Nat) (a0 : Nat) (x1 : Int32) (x2 : Int32) (h : jH) : Option (Int32 × jH) :=
  (jpf 10 h a0 0 (.int (0 : Int32))).bind fun h2 =>
  (jcv 10 h2 a0 (F_X12_noRing n a0 x1 h2)).bind fun v8 =>
  (jcv 10 h2 a0 (F_X12_throwsIf n a0 v8 (1 : Int32) h2)).bind fun q12 =>
  if q12.1 = 0 then ((F_X12_in n x2 (0 : Int32) (9 : Int32) q12.2).bind fun v23 =>
  if v23 = 0 then (F_X12_let_34 n a0 x1 x2 a0 (1 : Int32) q12.2)
  else (F_X12_let_34 n a0 x1 x2 a0 (0 : Int32) q12.2))
  else (some ((0 : Int32), q12.2))
noncomputable def F_X12_chair (n : Nat) (a0 : Nat) (x1 : Int32) (x2 : Int32) (h : jH) : Option (Int32 × jH) :=
  (jpf 10 h a0 0 (.int (0 : Int32))).bind fun h2 =>
  (F_X12_noPlace n x1 h2).bind fun v7 =>
  (jcv 10 h2 a0 (F_X12_throwsIf n a0 v7 (1 : Int32) h2)).bind fun q11 =>
  if q11.1 = 0 then ((jcv 10 q11.2 a0 (F_X12_remembers n a0 q11.2)).bind fun h20 =>
  (jgR 10 h20 a0 1).bind fun p24 =>
  (jal 0 h20 p24 (7 : Int32)).bind fun v29 =>
  (F_X12_has n v29 x1 h20).bind fun v31 =>
  (jgR 10 h20 a0 1).bind fun p36 =>
  (jal 0 h20 p36 (7 : Int32)).bind fun v41 =>
  (jgR 10 h20 a0 1).bind fun p51 =>
  if x2 = 0 then ((jas 0 h20 p51 (7 : Int32) (v41 &&& (((1 : Int32) <<< (x1 &&& 31)) ^^^ (-1 : Int32)))).bind fun h71 =>
  if v31 = x2 then (some ((0 : Int32), h71))
  else (some ((1 : Int32), h71)))
  else ((jas 0 h20 p51 (7 : Int32) ((v41 &&& (((1 : Int32) <<< (x1 &&& 31)) ^^^ (-1 : Int32))) ||| ((1 : Int32) <<< (x1 &&& 31)))).bind fun h71 =>
  if v31 = x2 then (some ((0 : Int32), h71))
  else (some ((1 : Int32), h71))))
  else (some ((0 : Int32), q11.2))
noncomputable def F_X12_catches_4_b (n : Nat) (rc4 : Nat → Int32 → Int32 → jH → Option (Int32 × jH)) (a0 : Nat) (x1 : Int32) (x2 : Int32) (h : jH) : Option (Int32 × jH) :=
  (jcv 10 h a0 (F_X12_lastRing n a0 h)).bind fun v6 =>
  if v6 ≤ x2 then (some (x1, h))
  else ((jcv 10 h a0 (F_X12_gapOf n a0 x2 h)).bind fun v14 =>
  if v14 = (1 : Int32) then ((jcv 10 h a0 (F_X12_is n a0 x2 (7 : Int32) h)).bind fun v25 =>
  if v25 = 0 then ((jcv 10 h a0 (F_X12_drawn n a0 (100 : Int32) h)).bind fun q34 =>
  (jcv 10 q34.2 a0 (F_X12_byLaw n a0 (1 : Int32) x2 q34.2)).bind fun q40 =>
  if q34.1 < q40.1 then ((jgR 10 q40.2 a0 1).bind fun p50 =>
  (F_X12_at n x2 (7 : Int32) q40.2).bind fun v56 =>
  (jas 0 q40.2 p50 v56 (1 : Int32)).bind fun h60 =>
  (jcv 10 h60 a0 (F_X12_tells n a0 x2 (1 : Int32) (0 : Int32) h60)).bind fun h65 =>
  rc4 a0 (x1 + (1 : Int32)) (x2 + (1 : Int32)) h65)
  else (rc4 a0 x1 (x2 + (1 : Int32)) q40.2))
  else (rc4 a0 x1 (x2 + (1 : Int32)) h))
  else (rc4 a0 x1 (x2 + (1 : Int32)) h))
noncomputable def F_X12_catches_4 (n : Nat) : Nat → Nat → Int32 → Int32 → jH → Option (Int32 × jH)
  | 0 => fun _ _ _ _ => none
  | k + 1 => F_X12_catches_4_b n (F_X12_catches_4 n k)
noncomputable def F_X12_catches (n : Nat) (a0 : Nat) (h : jH) : Option (Int32 × jH) :=
  F_X12_catches_4 n n a0 (0 : Int32) (0 : Int32) h
noncomputable def F_X12_falls_4_b (n : Nat) (rc4 : Nat → Int32 → Int32 → jH → Option (Int32 × jH)) (a0 : Nat) (x1 : Int32) (x2 : Int32) (h : jH) : Option (Int32 × jH) :=
  (jcv 10 h a0 (F_X12_rings n a0 h)).bind fun v6 =>
  if v6 ≤ x2 then (some (x1, h))
  else ((jcv 10 h a0 (F_X12_is n a0 x2 (6 : Int32) h)).bind fun v16 =>
  if v16 = 0 then (rc4 a0 x1 (x2 + (1 : Int32)) h)
  else ((jcv 10 h a0 (F_X12_drawn n a0 (100 : Int32) h)).bind fun q25 =>
  (jcv 10 q25.2 a0 (F_X12_byLaw n a0 (2 : Int32) x2 q25.2)).bind fun q31 =>
  if q25.1 < q31.1 then ((jgR 10 q31.2 a0 1).bind fun p41 =>
  (F_X12_at n x2 (6 : Int32) q31.2).bind fun v47 =>
  (jas 0 q31.2 p41 v47 (0 : Int32)).bind fun h51 =>
  (jcv 10 h51 a0 (F_X12_tells n a0 x2 (2 : Int32) (0 : Int32) h51)).bind fun h56 =>
  rc4 a0 (x1 + (1 : Int32)) (x2 + (1 : Int32)) h56)
  else (rc4 a0 x1 (x2 + (1 : Int32)) q31.2)))
noncomputable def F_X12_falls_4 (n : Nat) : Nat → Nat → Int32 → Int32 → jH → Option (Int32 × jH)
  | 0 => fun _ _ _ _ => none
  | k + 1 => F_X12_falls_4_b n (F_X12_falls_4 n k)
noncomputable def F_X12_falls (n : Nat) (a0 : Nat) (h : jH) : Option (Int32 × jH) :=
  F_X12_falls_4 n n a0 (0 : Int32) (0 : Int32) h
noncomputable def F_X12_oneHour_61 (n : Nat) (a0 : Nat) (s0 : Int32) (h : jH) : Option (Int32 × jH) :=
  (jgR 10 h a0 1).bind fun p63 =>
  (jal 0 h p63 (3 : Int32)).bind fun v68 =>
  (jas 0 h p63 (3 : Int32) (v68 + (1 : Int32))).bind fun h71 =>
  (jgR 10 h71 a0 1).bind fun p73 =>
  (jal 0 h71 p73 (3 : Int32)).bind fun v77 =>
  if v77 = (8 : Int32) then ((jgR 10 h71 a0 1).bind fun p84 =>
  (jas 0 h71 p84 (3 : Int32) (0 : Int32)).bind fun h89 =>
  (jgR 10 h89 a0 1).bind fun p91 =>
  (jgR 10 h89 a0 1).bind fun p99 =>
  (jal 0 h89 p99 (4 : Int32)).bind fun v103 =>
  (jas 0 h89 p91 (4 : Int32) (if (v103 + (1 : Int32)) < (9999 : Int32) then v103 + (1 : Int32) else (9999 : Int32))).bind fun h109 =>
  some (s0, h109))
  else (some (s0, h71))
noncomputable def F_X12_oneHour_2_b (n : Nat) (rc2 : Nat → Int32 → Int32 → jH → Option (Int32 × jH)) (a0 : Nat) (x1 : Int32) (x2 : Int32) (h : jH) : Option (Int32 × jH) :=
  (jcv 10 h a0 (F_X12_rings n a0 h)).bind fun v4 =>
  if v4 ≤ x2 then (if x1 = 0 then ((jcv 10 h a0 (F_X12_catches n a0 h)).bind fun q53 =>
  (jcv 10 q53.2 a0 (F_X12_falls n a0 q53.2)).bind fun q57 =>
  F_X12_oneHour_61 n a0 (q53.1 + q57.1) q57.2)
  else (F_X12_oneHour_61 n a0 (0 : Int32) h))
  else ((jgR 10 h a0 1).bind fun p11 =>
  (F_X12_at n x2 (4 : Int32) h).bind fun v16 =>
  (jcv 10 h a0 (F_X12_of n a0 x2 (4 : Int32) h)).bind fun v24 =>
  (jcv 10 h a0 (F_X12_byLaw n a0 (0 : Int32) x2 h)).bind fun q30 =>
  (jas 0 q30.2 p11 v16 (if (v24 + q30.1) < (99 : Int32) then v24 + q30.1 else (99 : Int32))).bind fun h37 =>
  rc2 a0 x1 (x2 + (1 : Int32)) h37)
noncomputable def F_X12_oneHour_2 (n : Nat) : Nat → Nat → Int32 → Int32 → jH → Option (Int32 × jH)
  | 0 => fun _ _ _ _ => none
  | k + 1 => F_X12_oneHour_2_b n (F_X12_oneHour_2 n k)
noncomputable def F_X12_oneHour (n : Nat) (a0 : Nat) (x1 : Int32) (h : jH) : Option (Int32 × jH) :=
  F_X12_oneHour_2 n n a0 x1 (0 : Int32) h
noncomputable def F_X12_goesOn_5_b (n : Nat) (rc5 : Nat → Int32 → Int32 → Int32 → Int32 → jH → Option (Int32 × jH)) (a0 : Nat) (x1 : Int32) (x2 : Int32) (x3 : Int32) (x4 : Int32) (h : jH) : Option (Int32 × jH) :=
  if x1 ≤ x4 then (some (x3, h))
  else ((jcv 10 h a0 (F_X12_oneHour n a0 x2 h)).bind fun q14 =>
  rc5 a0 x1 x2 (x3 + q14.1) (x4 + (1 : Int32)) q14.2)
noncomputable def F_X12_goesOn_5 (n : Nat) : Nat → Nat → Int32 → Int32 → Int32 → Int32 → jH → Option (Int32 × jH)
  | 0 => fun _ _ _ _ _ _ => none
  | k + 1 => F_X12_goesOn_5_b n (F_X12_goesOn_5 n k)
noncomputable def F_X12_goesOn (n : Nat) (a0 : Nat) (x1 : Int32) (x2 : Int32) (h : jH) : Option (Int32 × jH) :=
  F_X12_goesOn_5 n n a0 x1 x2 (0 : Int32) (0 : Int32) h
noncomputable def F_X12_keepsAll_2_b (n : Nat) (rc2 : Nat → Int32 → jH → Option jH) (a0 : Nat) (x1 : Int32) (h : jH) : Option jH :=
  if (435 : Int32) ≤ x1 then (some h)
  else ((jgR 10 h a0 4).bind fun p10 =>
  (jgR 10 h a0 1).bind fun p15 =>
  (jal 0 h p15 x1).bind fun v19 =>
  (jas 0 h p10 x1 v19).bind fun h20 =>
  rc2 a0 (x1 + (1 : Int32)) h20)
noncomputable def F_X12_keepsAll_2 (n : Nat) : Nat → Nat → Int32 → jH → Option jH
  | 0 => fun _ _ _ => none
  | k + 1 => F_X12_keepsAll_2_b n (F_X12_keepsAll_2 n k)
noncomputable def F_X12_keepsAll (n : Nat) (a0 : Nat) (h : jH) : Option jH :=
  F_X12_keepsAll_2 n n a0 (0 : Int32) h
noncomputable def F_X12_bringsBack_2_b (n : Nat) (rc2 : Nat → Int32 → jH → Option jH) (a0 : Nat) (x1 : Int32) (h : jH) : Option jH :=
  if (435 : Int32) ≤ x1 then (some h)
  else ((jgR 10 h a0 1).bind fun p10 =>
  (jgR 10 h a0 4).bind fun p15 =>
  (jal 0 h p15 x1).bind fun v19 =>
  (jas 0 h p10 x1 v19).bind fun h20 =>
  rc2 a0 (x1 + (1 : Int32)) h20)
noncomputable def F_X12_bringsBack_2 (n : Nat) : Nat → Nat → Int32 → jH → Option jH
  | 0 => fun _ _ _ => none
  | k + 1 => F_X12_bringsBack_2_b n (F_X12_bringsBack_2 n k)
noncomputable def F_X12_bringsBack (n : Nat) (a0 : Nat) (h : jH) : Option jH :=
  F_X12_bringsBack_2 n n a0 (0 : Int32) h
noncomputable def F_X12_hours_21 (n : Nat) (a0 : Nat) (x1 : Int32) (sa0 : Nat) (s1 : Int32) (h : jH) : Option (Int32 × jH) :=
  (jcv 10 h sa0 (F_X12_throwsIf n sa0 s1 (1 : Int32) h)).bind fun q22 =>
  if q22.1 = 0 then ((jcv 10 q22.2 a0 (F_X12_remembers n a0 q22.2)).bind fun h31 =>
  (jcv 10 h31 a0 (F_X12_goesOn n a0 x1 (0 : Int32) h31)).bind fun q37 =>
  some (q37.1, q37.2))
  else (some ((0 : Int32), q22.2))
noncomputable def F_X12_hours (n : Nat) (a0 : Nat) (x1 : Int32) (h : jH) : Option (Int32 × jH) :=
  (jpf 10 h a0 0 (.int (0 : Int32))).bind fun h2 =>
  (F_X12_in n x1 (1 : Int32) (80 : Int32) h2).bind fun v10 =>
  if v10 = 0 then (F_X12_hours_21 n a0 x1 a0 (1 : Int32) h2)
  else (F_X12_hours_21 n a0 x1 a0 (0 : Int32) h2)
noncomputable def F_X12_noAhead (n : Nat) (x0 : Int32) (h : jH) : Option Int32 :=
  (F_X12_in n x0 (0 : Int32) (80 : Int32) h).bind fun v4 =>
  if v4 = 0 then (some (1 : Int32))
  else (some (0 : Int32))
noncomputable def F_X12_ahead (n : Nat) (a0 : Nat) (x1 : Int32) (x2 : Int32) (h : jH) : Option (Int32 × jH) :=
  (jpf 10 h a0 0 (.int (0 : Int32))).bind fun h2 =>
  (jcv 10 h2 a0 (F_X12_noRing n a0 x1 h2)).bind fun v8 =>
  (jcv 10 h2 a0 (F_X12_throwsIf n a0 v8 (1 : Int32) h2)).bind fun q12 =>
  if q12.1 = 0 then ((F_X12_noAhead n x2 q12.2).bind fun v20 =>
  (jcv 10 q12.2 a0 (F_X12_throwsIf n a0 v20 (2 : Int32) q12.2)).bind fun q24 =>
  if q24.1 = 0 then ((jcv 10 q24.2 a0 (F_X12_keepsAll n a0 q24.2)).bind fun h33 =>
  (jcv 10 h33 a0 (F_X12_goesOn n a0 x2 (1 : Int32) h33)).bind fun q39 =>
  (jcv 10 q39.2 a0 (F_X12_of n a0 x1 (4 : Int32) q39.2)).bind fun v46 =>
  (jcv 10 q39.2 a0 (F_X12_bringsBack n a0 q39.2)).bind fun h51 =>
  some (v46, h51))
  else (some ((0 : Int32), q24.2)))
  else (some ((0 : Int32), q12.2))
noncomputable def F_X12_faded (n : Nat) (a0 : Nat) (x1 : Int32) (h : jH) : Option (Int32 × jH) :=
  (jpf 10 h a0 0 (.int (0 : Int32))).bind fun h2 =>
  (F_X12_noAhead n x1 h2).bind fun v7 =>
  (jcv 10 h2 a0 (F_X12_throwsIf n a0 v7 (1 : Int32) h2)).bind fun q11 =>
  if q11.1 = 0 then ((jcv 10 q11.2 a0 (F_X12_keepsAll n a0 q11.2)).bind fun h20 =>
  (jcv 10 h20 a0 (F_X12_goesOn n a0 x1 (1 : Int32) h20)).bind fun q26 =>
  (jcv 10 q26.2 a0 (F_X12_fadesOfAll n a0 q26.2)).bind fun v31 =>
  (jcv 10 q26.2 a0 (F_X12_bringsBack n a0 q26.2)).bind fun h36 =>
  some (v31, h36))
  else (some ((0 : Int32), q11.2))
noncomputable def F_X12_somePale_4_b (n : Nat) (rc4 : Nat → Int32 → Int32 → jH → Option Int32) (a0 : Nat) (x1 : Int32) (x2 : Int32) (h : jH) : Option Int32 :=
  (jcv 10 h a0 (F_X12_rings n a0 h)).bind fun v6 =>
  if v6 ≤ x2 then (if x1 = 0 ∨ x1 = 1 then some x1 else none)
  else (if x1 = 0 then ((jcv 10 h a0 (F_X12_of n a0 x2 (4 : Int32) h)).bind fun v19 =>
  if v19 = (99 : Int32) then (rc4 a0 (1 : Int32) (x2 + (1 : Int32)) h)
  else (rc4 a0 (0 : Int32) (x2 + (1 : Int32)) h))
  else (rc4 a0 (1 : Int32) (x2 + (1 : Int32)) h))
noncomputable def F_X12_somePale_4 (n : Nat) : Nat → Nat → Int32 → Int32 → jH → Option Int32
  | 0 => fun _ _ _ _ => none
  | k + 1 => F_X12_somePale_4_b n (F_X12_somePale_4 n k)
noncomputable def F_X12_somePale (n : Nat) (a0 : Nat) (h : jH) : Option Int32 :=
  F_X12_somePale_4 n n a0 (0 : Int32) (0 : Int32) h
noncomputable def F_X12_pale_49 (n : Nat) (a0 : Nat) (x1 : Int32) (h : jH) : Option (Int32 × jH) :=
  (jcv 10 h a0 (F_X12_bringsBack n a0 h)).bind fun h50 =>
  some (x1, h50)
noncomputable def F_X12_pale_36 (n : Nat) (rc13 : Nat → Int32 → Int32 → jH → Option (Int32 × jH)) (a0 : Nat) (x2 : Int32) (s0 : Int32) (h : jH) : Option (Int32 × jH) :=
  (jcv 10 h a0 (F_X12_oneHour n a0 (1 : Int32) h)).bind fun q39 =>
  rc13 a0 s0 (x2 + (1 : Int32)) q39.2
noncomputable def F_X12_pale_13_b (n : Nat) (rc13 : Nat → Int32 → Int32 → jH → Option (Int32 × jH)) (a0 : Nat) (x1 : Int32) (x2 : Int32) (h : jH) : Option (Int32 × jH) :=
  if (80 : Int32) < x2 then (F_X12_pale_49 n a0 x1 h)
  else (if x1 = (-1 : Int32) then ((jcv 10 h a0 (F_X12_somePale n a0 h)).bind fun v25 =>
  if v25 = 0 then (F_X12_pale_36 n rc13 a0 x2 (-1 : Int32) h)
  else (F_X12_pale_36 n rc13 a0 x2 x2 h))
  else (F_X12_pale_49 n a0 x1 h))
noncomputable def F_X12_pale_13 (n : Nat) : Nat → Nat → Int32 → Int32 → jH → Option (Int32 × jH)
  | 0 => fun _ _ _ _ => none
  | k + 1 => F_X12_pale_13_b n (F_X12_pale_13 n k)
noncomputable def F_X12_pale (n : Nat) (a0 : Nat) (h : jH) : Option (Int32 × jH) :=
  (jpf 10 h a0 0 (.int (0 : Int32))).bind fun h2 =>
  (jcv 10 h2 a0 (F_X12_keepsAll n a0 h2)).bind fun h8 =>
  F_X12_pale_13 n n a0 (-1 : Int32) (0 : Int32) h8
noncomputable def F_X12_shadeNow_44_b (n : Nat) (rc4 : Nat → Int32 → Int32 → jH → Option Int32) (rc44 : Nat → Int32 → Int32 → Int32 → jH → Option Int32) (a0 : Nat) (x1 : Int32) (x2 : Int32) (x3 : Int32) (h : jH) : Option Int32 :=
  (jcv 10 h a0 (F_X12_of n a0 (x2 + (1 : Int32)) (0 : Int32) h)).bind fun v50 =>
  if v50 < x3 then (rc4 a0 x1 (x2 + (1 : Int32)) h)
  else (rc44 a0 (x1 ||| ((1 : Int32) <<< (x3 &&& 31))) x2 (x3 + (1 : Int32)) h)
noncomputable def F_X12_shadeNow_44 (n : Nat) (rc4 : Nat → Int32 → Int32 → jH → Option Int32) : Nat → Nat → Int32 → Int32 → Int32 → jH → Option Int32
  | 0 => fun _ _ _ _ _ => none
  | k + 1 => F_X12_shadeNow_44_b n rc4 (F_X12_shadeNow_44 n rc4 k)
noncomputable def F_X12_shadeNow_4_b (n : Nat) (rc4 : Nat → Int32 → Int32 → jH → Option Int32) (a0 : Nat) (x1 : Int32) (x2 : Int32) (h : jH) : Option Int32 :=
  (jcv 10 h a0 (F_X12_lastRing n a0 h)).bind fun v6 =>
  if v6 ≤ x2 then (some x1)
  else ((jcv 10 h a0 (F_X12_is n a0 x2 (6 : Int32) h)).bind fun v16 =>
  if v16 = 0 then (rc4 a0 x1 (x2 + (1 : Int32)) h)
  else ((jcv 10 h a0 (F_X12_is n a0 (x2 + (1 : Int32)) (6 : Int32) h)).bind fun v28 =>
  if v28 = 0 then (rc4 a0 x1 (x2 + (1 : Int32)) h)
  else ((jcv 10 h a0 (F_X12_of n a0 x2 (0 : Int32) h)).bind fun v40 =>
  F_X12_shadeNow_44 n rc4 n a0 x1 x2 v40 h)))
noncomputable def F_X12_shadeNow_4 (n : Nat) : Nat → Nat → Int32 → Int32 → jH → Option Int32
  | 0 => fun _ _ _ _ => none
  | k + 1 => F_X12_shadeNow_4_b n (F_X12_shadeNow_4 n k)
noncomputable def F_X12_shadeNow (n : Nat) (a0 : Nat) (h : jH) : Option Int32 :=
  F_X12_shadeNow_4 n n a0 (0 : Int32) (0 : Int32) h
noncomputable def F_X12_darkNow (n : Nat) (a0 : Nat) (h : jH) : Option Int32 :=
  (jgR 10 h a0 1).bind fun p1 =>
  (jal 0 h p1 (7 : Int32)).bind fun v6 =>
  (jcv 10 h a0 (F_X12_shadeNow n a0 h)).bind fun v8 =>
  (F_J6_bitCount_0f7a4 n (v6 &&& v8) h).bind fun v12 =>
  some v12
noncomputable def F_X12_shade (n : Nat) (a0 : Nat) (h : jH) : Option (Int32 × jH) :=
  (jpf 10 h a0 0 (.int (0 : Int32))).bind fun h2 =>
  (jcv 10 h2 a0 (F_X12_shadeNow n a0 h2)).bind fun v6 =>
  some (v6, h2)
noncomputable def F_X12_dark (n : Nat) (a0 : Nat) (h : jH) : Option (Int32 × jH) :=
  (jpf 10 h a0 0 (.int (0 : Int32))).bind fun h2 =>
  (jcv 10 h2 a0 (F_X12_darkNow n a0 h2)).bind fun v6 =>
  some (v6, h2)
noncomputable def F_X12_bare (n : Nat) (a0 : Nat) (h : jH) : Option (Int32 × jH) :=
  (jpf 10 h a0 0 (.int (0 : Int32))).bind fun h2 =>
  (jgR 10 h2 a0 1).bind fun p6 =>
  (jal 0 h2 p6 (7 : Int32)).bind fun v11 =>
  (jcv 10 h2 a0 (F_X12_shadeNow n a0 h2)).bind fun v13 =>
  some (v11 &&& (v13 ^^^ (-1 : Int32)), h2)
noncomputable def F_X12_goes (n : Nat) (a0 : Nat) (x1 : Int32) (x2 : Int32) (h : jH) : Option (Int32 × jH) :=
  (jpf 10 h a0 0 (.int (0 : Int32))).bind fun h2 =>
  (jcv 10 h2 a0 (F_X12_noRing n a0 x1 h2)).bind fun v8 =>
  (jcv 10 h2 a0 (F_X12_throwsIf n a0 v8 (1 : Int32) h2)).bind fun q12 =>
  if q12.1 = 0 then ((jcv 10 q12.2 a0 (F_X12_keepsAll n a0 q12.2)).bind fun h21 =>
  (jcv 10 h21 a0 (F_X12_pulls n a0 x1 x2 (31 : Int32) h21)).bind fun q29 =>
  (jcv 10 q29.2 a0 (F_X12_bringsBack n a0 q29.2)).bind fun h34 =>
  some (q29.1, h34))
  else (some ((0 : Int32), q12.2))
noncomputable def F_X12_with (n : Nat) (a0 : Nat) (x1 : Int32) (x2 : Int32) (h : jH) : Option (Int32 × jH) :=
  (jpf 10 h a0 0 (.int (0 : Int32))).bind fun h2 =>
  (jcv 10 h2 a0 (F_X12_noRing n a0 x1 h2)).bind fun v8 =>
  (jcv 10 h2 a0 (F_X12_throwsIf n a0 v8 (1 : Int32) h2)).bind fun q12 =>
  if q12.1 = 0 then ((jcv 10 q12.2 a0 (F_X12_goingBy n a0 x1 x2 q12.2)).bind fun v25 =>
  some (v25, q12.2))
  else (some ((0 : Int32), q12.2))
noncomputable def F_X12_would_60 (n : Nat) (a0 : Nat) (s0 : Int32) (h : jH) : Option (Int32 × jH) :=
  (jcv 10 h a0 (F_X12_bringsBack n a0 h)).bind fun h63 =>
  some (s0, h63)
noncomputable def F_X12_would (n : Nat) (a0 : Nat) (x1 : Int32) (x2 : Int32) (x3 : Int32) (x4 : Int32) (h : jH) : Option (Int32 × jH) :=
  (jpf 10 h a0 0 (.int (0 : Int32))).bind fun h2 =>
  (jcv 10 h2 a0 (F_X12_noRing n a0 x1 h2)).bind fun v8 =>
  (jcv 10 h2 a0 (F_X12_throwsIf n a0 v8 (1 : Int32) h2)).bind fun q12 =>
  if q12.1 = 0 then ((F_X12_noSteps n x3 q12.2).bind fun v20 =>
  (jcv 10 q12.2 a0 (F_X12_throwsIf n a0 v20 (2 : Int32) q12.2)).bind fun q24 =>
  if q24.1 = 0 then ((jcv 10 q24.2 a0 (F_X12_keepsAll n a0 q24.2)).bind fun h33 =>
  (jcv 10 h33 a0 (F_X12_pulls n a0 x1 x2 x3 h33)).bind fun q40 =>
  if x4 = 0 then ((jcv 10 q40.2 a0 (F_X12_darkNow n a0 q40.2)).bind fun v57 =>
  F_X12_would_60 n a0 v57 q40.2)
  else ((jgI 10 q40.2 a0 18).bind fun v50 =>
  F_X12_would_60 n a0 v50 q40.2))
  else (some ((0 : Int32), q24.2)))
  else (some ((0 : Int32), q12.2))
noncomputable def F_X12_best_113 (n : Nat) (rc14 : Nat → Int32 → Int32 → Int32 → jH → Option (Int32 × jH)) (a0 : Nat) (x1 : Int32) (x2 : Int32) (x3 : Int32) (h : jH) : Option (Int32 × jH) :=
  (jcv 10 h a0 (F_X12_bringsBack n a0 h)).bind fun h114 =>
  rc14 a0 x1 x2 (x3 + (1 : Int32)) h114
noncomputable def F_X12_best_99 (n : Nat) (rc14 : Nat → Int32 → Int32 → Int32 → jH → Option (Int32 × jH)) (rc34 : Nat → Int32 → Int32 → Int32 → Int32 → Int32 → jH → Option (Int32 × jH)) (a0 : Nat) (x2 : Int32) (x3 : Int32) (x4 : Int32) (x5 : Int32) (x6 : Int32) (s0 : Int32) (h : jH) : Option (Int32 × jH) :=
  rc34 a0 s0 (if x2 < x6 then x6 else x2) x3 x4 (x5 + (1 : Int32)) h
noncomputable def F_X12_best_62 (n : Nat) (rc14 : Nat → Int32 → Int32 → Int32 → jH → Option (Int32 × jH)) (rc34 : Nat → Int32 → Int32 → Int32 → Int32 → Int32 → jH → Option (Int32 × jH)) (a0 : Nat) (x1 : Int32) (x2 : Int32) (x3 : Int32) (x5 : Int32) (sa0 : Nat) (s1 : Int32) (s2 : Int32) (h : jH) : Option (Int32 × jH) :=
  (jcv 10 h sa0 (F_X12_goesOne n sa0 s1 s2 h)).bind fun q62 =>
  if q62.1 = 0 then (if (0 : Int32) ≤ x2 then (F_X12_best_99 n rc14 rc34 a0 x2 x3 q62.1 x5 (0 : Int32) x1 q62.2)
  else (F_X12_best_99 n rc14 rc34 a0 x2 x3 q62.1 x5 (0 : Int32) (((32 : Int32) * x3) + x5) q62.2))
  else ((jcv 10 q62.2 a0 (F_X12_darkNow n a0 q62.2)).bind fun v73 =>
  if v73 ≤ x2 then (F_X12_best_99 n rc14 rc34 a0 x2 x3 q62.1 x5 v73 x1 q62.2)
  else (F_X12_best_99 n rc14 rc34 a0 x2 x3 q62.1 x5 v73 (((32 : Int32) * x3) + x5) q62.2))
noncomputable def F_X12_best_34_b (n : Nat) (rc14 : Nat → Int32 → Int32 → Int32 → jH → Option (Int32 × jH)) (rc34 : Nat → Int32 → Int32 → Int32 → Int32 → Int32 → jH → Option (Int32 × jH)) (a0 : Nat) (x1 : Int32) (x2 : Int32) (x3 : Int32) (x4 : Int32) (x5 : Int32) (h : jH) : Option (Int32 × jH) :=
  if (31 : Int32) < x5 then (F_X12_best_113 n rc14 a0 x1 x2 x3 h)
  else (if x4 = 0 then (F_X12_best_113 n rc14 a0 x1 x2 x3 h)
  else (if (x3 - x3 / (2 : Int32) * (2 : Int32)) = (1 : Int32) then (F_X12_best_62 n rc14 rc34 a0 x1 x2 x3 x5 a0 (x3 / (2 : Int32)) (1 : Int32) h)
  else (F_X12_best_62 n rc14 rc34 a0 x1 x2 x3 x5 a0 (x3 / (2 : Int32)) (0 : Int32) h)))
noncomputable def F_X12_best_34 (n : Nat) (rc14 : Nat → Int32 → Int32 → Int32 → jH → Option (Int32 × jH)) : Nat → Nat → Int32 → Int32 → Int32 → Int32 → Int32 → jH → Option (Int32 × jH)
  | 0 => fun _ _ _ _ _ _ _ => none
  | k + 1 => F_X12_best_34_b n rc14 (F_X12_best_34 n rc14 k)
noncomputable def F_X12_best_14_b (n : Nat) (rc14 : Nat → Int32 → Int32 → Int32 → jH → Option (Int32 × jH)) (a0 : Nat) (x1 : Int32) (x2 : Int32) (x3 : Int32) (h : jH) : Option (Int32 × jH) :=
  (jcv 10 h a0 (F_X12_rings n a0 h)).bind fun v17 =>
  if ((2 : Int32) * v17) ≤ x3 then (some (x1, h))
  else ((jcv 10 h a0 (F_X12_keepsAll n a0 h)).bind fun h28 =>
  F_X12_best_34 n rc14 n a0 x1 x2 x3 (1 : Int32) (1 : Int32) h28)
noncomputable def F_X12_best_14 (n : Nat) : Nat → Nat → Int32 → Int32 → Int32 → jH → Option (Int32 × jH)
  | 0 => fun _ _ _ _ _ => none
  | k + 1 => F_X12_best_14_b n (F_X12_best_14 n k)
noncomputable def F_X12_best (n : Nat) (a0 : Nat) (h : jH) : Option (Int32 × jH) :=
  (jpf 10 h a0 0 (.int (0 : Int32))).bind fun h2 =>
  (jcv 10 h2 a0 (F_X12_darkNow n a0 h2)).bind fun v8 =>
  F_X12_best_14 n n a0 (-1 : Int32) v8 (0 : Int32) h2
noncomputable def F_X12_shadesAll (n : Nat) (a0 : Nat) (x1 : Int32) (h : jH) : Option Int32 :=
  (jcv 10 h a0 (F_X12_shadeNow n a0 h)).bind fun v2 =>
  if (x1 &&& (v2 ^^^ (-1 : Int32))) = 0 then (some (1 : Int32))
  else (some (0 : Int32))
noncomputable def F_X12_stepsTo_72 (n : Nat) (a0 : Nat) (x4 : Int32) (h : jH) : Option (Int32 × jH) :=
  (jcv 10 h a0 (F_X12_bringsBack n a0 h)).bind fun h73 =>
  some (x4, h73)
noncomputable def F_X12_stepsTo_15_b (n : Nat) (rc15 : Nat → Int32 → Int32 → Int32 → Int32 → Int32 → Int32 → jH → Option (Int32 × jH)) (a0 : Nat) (x1 : Int32) (x2 : Int32) (x3 : Int32) (x4 : Int32) (x5 : Int32) (x6 : Int32) (h : jH) : Option (Int32 × jH) :=
  if (31 : Int32) < x6 then (F_X12_stepsTo_72 n a0 x4 h)
  else (if x5 = 0 then (F_X12_stepsTo_72 n a0 x4 h)
  else (if x4 = (1000000 : Int32) then ((jcv 10 h a0 (F_X12_goesOne n a0 x2 x3 h)).bind fun q38 =>
  if q38.1 = 0 then (rc15 a0 x1 x2 x3 (1000000 : Int32) q38.1 (x6 + (1 : Int32)) q38.2)
  else ((jcv 10 q38.2 a0 (F_X12_shadesAll n a0 x1 q38.2)).bind fun v50 =>
  if v50 = 0 then (rc15 a0 x1 x2 x3 (1000000 : Int32) q38.1 (x6 + (1 : Int32)) q38.2)
  else (rc15 a0 x1 x2 x3 x6 q38.1 (x6 + (1 : Int32)) q38.2)))
  else (F_X12_stepsTo_72 n a0 x4 h)))
noncomputable def F_X12_stepsTo_15 (n : Nat) : Nat → Nat → Int32 → Int32 → Int32 → Int32 → Int32 → Int32 → jH → Option (Int32 × jH)
  | 0 => fun _ _ _ _ _ _ _ _ => none
  | k + 1 => F_X12_stepsTo_15_b n (F_X12_stepsTo_15 n k)
noncomputable def F_X12_stepsTo (n : Nat) (a0 : Nat) (x1 : Int32) (x2 : Int32) (x3 : Int32) (h : jH) : Option (Int32 × jH) :=
  (jcv 10 h a0 (F_X12_keepsAll n a0 h)).bind fun h9 =>
  F_X12_stepsTo_15 n n a0 x1 x2 x3 (1000000 : Int32) (1 : Int32) (1 : Int32) h9
noncomputable def F_X12_fewestTo_58 (n : Nat) (rc10 : Nat → Int32 → Int32 → Int32 → Int32 → Int32 → jH → Option (Int32 × jH)) (a0 : Nat) (x1 : Int32) (x2 : Int32) (x4 : Int32) (x5 : Int32) (x6 : Int32) (s0 : Int32) (h : jH) : Option (Int32 × jH) :=
  rc10 a0 x1 x2 s0 (if x6 < x4 then x6 else x4) (x5 + (1 : Int32)) h
noncomputable def F_X12_fewestTo_40 (n : Nat) (rc10 : Nat → Int32 → Int32 → Int32 → Int32 → Int32 → jH → Option (Int32 × jH)) (a0 : Nat) (x1 : Int32) (x2 : Int32) (x3 : Int32) (x4 : Int32) (x5 : Int32) (sa0 : Nat) (s1 : Int32) (s2 : Int32) (s3 : Int32) (h : jH) : Option (Int32 × jH) :=
  (jcv 10 h sa0 (F_X12_stepsTo n sa0 s1 s2 s3 h)).bind fun q40 =>
  if x4 ≤ q40.1 then (F_X12_fewestTo_58 n rc10 a0 x1 x2 x4 x5 q40.1 x3 q40.2)
  else (F_X12_fewestTo_58 n rc10 a0 x1 x2 x4 x5 q40.1 x5 q40.2)
noncomputable def F_X12_fewestTo_10_b (n : Nat) (rc10 : Nat → Int32 → Int32 → Int32 → Int32 → Int32 → jH → Option (Int32 × jH)) (a0 : Nat) (x1 : Int32) (x2 : Int32) (x3 : Int32) (x4 : Int32) (x5 : Int32) (h : jH) : Option (Int32 × jH) :=
  (jcv 10 h a0 (F_X12_rings n a0 h)).bind fun v14 =>
  if ((2 : Int32) * v14) ≤ x5 then (if x2 = 0 then (if x3 = (-1 : Int32) then (some (x3, h))
  else (some (x4, h)))
  else (some (x3, h)))
  else (if (x5 - x5 / (2 : Int32) * (2 : Int32)) = (1 : Int32) then (F_X12_fewestTo_40 n rc10 a0 x1 x2 x3 x4 x5 a0 x1 (x5 / (2 : Int32)) (1 : Int32) h)
  else (F_X12_fewestTo_40 n rc10 a0 x1 x2 x3 x4 x5 a0 x1 (x5 / (2 : Int32)) (0 : Int32) h))
noncomputable def F_X12_fewestTo_10 (n : Nat) : Nat → Nat → Int32 → Int32 → Int32 → Int32 → Int32 → jH → Option (Int32 × jH)
  | 0 => fun _ _ _ _ _ _ _ => none
  | k + 1 => F_X12_fewestTo_10_b n (F_X12_fewestTo_10 n k)
noncomputable def F_X12_fewestTo (n : Nat) (a0 : Nat) (x1 : Int32) (x2 : Int32) (h : jH) : Option (Int32 × jH) :=
  F_X12_fewestTo_10 n n a0 x1 x2 (-1 : Int32) (1000000 : Int32) (0 : Int32) h
noncomputable def F_X12_fewest (n : Nat) (a0 : Nat) (x1 : Int32) (h : jH) : Option (Int32 × jH) :=
  (jpf 10 h a0 0 (.int (0 : Int32))).bind fun h2 =>
  (jcv 10 h2 a0 (F_X12_shadesAll n a0 x1 h2)).bind fun v7 =>
  if v7 = 0 then ((jcv 10 h2 a0 (F_X12_fewestTo n a0 x1 (0 : Int32) h2)).bind fun q20 =>
  some (q20.1, q20.2))
  else (some ((0 : Int32), h2))
noncomputable def F_X12_first (n : Nat) (a0 : Nat) (x1 : Int32) (h : jH) : Option (Int32 × jH) :=
  (jpf 10 h a0 0 (.int (0 : Int32))).bind fun h2 =>
  (jcv 10 h2 a0 (F_X12_shadesAll n a0 x1 h2)).bind fun v7 =>
  if v7 = 0 then ((jcv 10 h2 a0 (F_X12_fewestTo n a0 x1 (1 : Int32) h2)).bind fun q20 =>
  some (q20.1, q20.2))
  else (some ((-1 : Int32), h2))
noncomputable def F_X12_isTold_26_b (n : Nat) (rc26 : Nat → Int32 → Int32 → jH → Option Int32) (a0 : Nat) (x1 : Int32) (x2 : Int32) (h : jH) : Option Int32 :=
  (jgI 10 h a0 11).bind fun v28 =>
  if v28 ≤ x2 then (if x1 = 0 ∨ x1 = 1 then some x1 else none)
  else (if x1 = 0 then (if x1 = 0 ∨ x1 = 1 then some x1 else none)
  else ((jgR 10 h a0 8).bind fun p40 =>
  (jal 1 h p40 x2).bind fun v44 =>
  (jcv 10 h a0 (F_X12_noRing n a0 v44 h)).bind fun v45 =>
  if v45 = 0 then ((jgR 10 h a0 8).bind fun p52 =>
  (jal 1 h p52 (x2 + (1 : Int32))).bind fun v58 =>
  (F_X12_in n v58 (0 : Int32) (1 : Int32) h).bind fun v61 =>
  if v61 = 0 then (rc26 a0 (0 : Int32) (x2 + (4 : Int32)) h)
  else ((jgR 10 h a0 8).bind fun p68 =>
  (jal 1 h p68 (x2 + (2 : Int32))).bind fun v74 =>
  (F_X12_noSteps n v74 h).bind fun v75 =>
  if v75 = 0 then ((jgR 10 h a0 8).bind fun p82 =>
  (jal 1 h p82 (x2 + (3 : Int32))).bind fun v88 =>
  (F_X12_in n v88 (0 : Int32) (31 : Int32) h).bind fun v92 =>
  if v92 = 0 then (rc26 a0 (0 : Int32) (x2 + (4 : Int32)) h)
  else (rc26 a0 (1 : Int32) (x2 + (4 : Int32)) h))
  else (rc26 a0 (0 : Int32) (x2 + (4 : Int32)) h)))
  else (rc26 a0 (0 : Int32) (x2 + (4 : Int32)) h)))
noncomputable def F_X12_isTold_26 (n : Nat) : Nat → Nat → Int32 → Int32 → jH → Option Int32
  | 0 => fun _ _ _ _ => none
  | k + 1 => F_X12_isTold_26_b n (F_X12_isTold_26 n k)
noncomputable def F_X12_isTold (n : Nat) (a0 : Nat) (h : jH) : Option Int32 :=
  (jgI 10 h a0 11).bind fun v1 =>
  if (v1 - v1 / (4 : Int32) * (4 : Int32)) = 0 then ((jgI 10 h a0 11).bind fun v10 =>
  if (40 : Int32) < v10 then (F_X12_isTold_26 n n a0 (0 : Int32) (0 : Int32) h)
  else (F_X12_isTold_26 n n a0 (1 : Int32) (0 : Int32) h))
  else (F_X12_isTold_26 n n a0 (0 : Int32) (0 : Int32) h)
noncomputable def F_X12_thatCanCatch (n : Nat) (a0 : Nat) (h : jH) : Option Int32 :=
  (jcv 10 h a0 (F_X12_rings n a0 h)).bind fun v1 =>
  if (2 : Int32) ≤ v1 then ((jcv 10 h a0 (F_X12_lastRing n a0 h)).bind fun v14 =>
  some (((1 : Int32) <<< (v14 &&& 31)) - (1 : Int32)))
  else (some (0 : Int32))
noncomputable def F_X12_areCaught_2_b (n : Nat) (rc2 : Nat → Int32 → Int32 → jH → Option jH) (a0 : Nat) (x1 : Int32) (x2 : Int32) (h : jH) : Option jH :=
  (jcv 10 h a0 (F_X12_rings n a0 h)).bind fun v4 =>
  if v4 ≤ x2 then (some h)
  else ((jgR 10 h a0 1).bind fun p11 =>
  (F_X12_at n x2 (7 : Int32) h).bind fun v17 =>
  (F_X12_has n x1 x2 h).bind fun v22 =>
  if v22 = 0 then ((jas 0 h p11 v17 (0 : Int32)).bind fun h33 =>
  rc2 a0 x1 (x2 + (1 : Int32)) h33)
  else ((jas 0 h p11 v17 (1 : Int32)).bind fun h33 =>
  rc2 a0 x1 (x2 + (1 : Int32)) h33))
noncomputable def F_X12_areCaught_2 (n : Nat) : Nat → Nat → Int32 → Int32 → jH → Option jH
  | 0 => fun _ _ _ _ => none
  | k + 1 => F_X12_areCaught_2_b n (F_X12_areCaught_2 n k)
noncomputable def F_X12_areCaught (n : Nat) (a0 : Nat) (x1 : Int32) (h : jH) : Option jH :=
  F_X12_areCaught_2 n n a0 x1 (0 : Int32) h
noncomputable def F_X12_wentWith (n : Nat) (a0 : Nat) (x1 : Int32) (x2 : Int32) (x3 : Int32) (x4 : Int32) (h : jH) : Option (Int32 × jH) :=
  (jcv 10 h a0 (F_X12_keepsAll n a0 h)).bind fun h1 =>
  (jcv 10 h1 a0 (F_X12_areCaught n a0 x1 h1)).bind fun h6 =>
  (jcv 10 h6 a0 (F_X12_pulls n a0 x2 x3 x4 h6)).bind fun q14 =>
  (jcv 10 q14.2 a0 (F_X12_bringsBack n a0 q14.2)).bind fun h20 =>
  some (q14.1, h20)
noncomputable def F_X12_fits_41 (n : Nat) (rc4 : Nat → Int32 → Int32 → Int32 → jH → Option (Int32 × jH)) (a0 : Nat) (x1 : Int32) (x3 : Int32) (sa0 : Nat) (s1 : Int32) (s2 : Int32) (s3 : Int32) (h : jH) : Option (Int32 × jH) :=
  (jgR 10 h a0 8).bind fun p42 =>
  (jal 1 h p42 (x3 + (2 : Int32))).bind fun v48 =>
  (jcv 10 h sa0 (F_X12_wentWith n sa0 s1 s2 s3 v48 h)).bind fun q49 =>
  (jgR 10 q49.2 a0 8).bind fun p53 =>
  (jal 1 q49.2 p53 (x3 + (3 : Int32))).bind fun v59 =>
  if q49.1 = v59 then (rc4 a0 x1 (1 : Int32) (x3 + (4 : Int32)) q49.2)
  else (rc4 a0 x1 (0 : Int32) (x3 + (4 : Int32)) q49.2)
noncomputable def F_X12_fits_4_b (n : Nat) (rc4 : Nat → Int32 → Int32 → Int32 → jH → Option (Int32 × jH)) (a0 : Nat) (x1 : Int32) (x2 : Int32) (x3 : Int32) (h : jH) : Option (Int32 × jH) :=
  (jgI 10 h a0 11).bind fun v6 =>
  if v6 ≤ x3 then (if x2 = 0 ∨ x2 = 1 then some (x2, h) else none)
  else (if x2 = 0 then (if x2 = 0 ∨ x2 = 1 then some (x2, h) else none)
  else ((jgR 10 h a0 8).bind fun p19 =>
  (jal 1 h p19 x3).bind fun v23 =>
  (jgR 10 h a0 8).bind fun p25 =>
  (jal 1 h p25 (x3 + (1 : Int32))).bind fun v31 =>
  if v31 = (1 : Int32) then (F_X12_fits_41 n rc4 a0 x1 x3 a0 x1 v23 (1 : Int32) h)
  else (F_X12_fits_41 n rc4 a0 x1 x3 a0 x1 v23 (0 : Int32) h)))
noncomputable def F_X12_fits_4 (n : Nat) : Nat → Nat → Int32 → Int32 → Int32 → jH → Option (Int32 × jH)
  | 0 => fun _ _ _ _ _ => none
  | k + 1 => F_X12_fits_4_b n (F_X12_fits_4 n k)
noncomputable def F_X12_fits (n : Nat) (a0 : Nat) (x1 : Int32) (h : jH) : Option (Int32 × jH) :=
  F_X12_fits_4 n n a0 x1 (1 : Int32) (0 : Int32) h
noncomputable def F_X12_snags_36_b (n : Nat) (rc36 : Nat → Int32 → Int32 → Int32 → Int32 → jH → Option (Int32 × jH)) (a0 : Nat) (x1 : Int32) (x2 : Int32) (x3 : Int32) (x4 : Int32) (h : jH) : Option (Int32 × jH) :=
  (jcv 10 h a0 (F_X12_thatCanCatch n a0 h)).bind fun v39 =>
  if v39 < x4 then (if x1 = 0 then (some (x2, h))
  else (if x2 = 0 then (some ((0 : Int32), h))
  else (some (x3, h))))
  else ((jcv 10 h a0 (F_X12_fits n a0 x4 h)).bind fun q48 =>
  if q48.1 = 0 then (rc36 a0 x1 x2 x3 (x4 + (1 : Int32)) q48.2)
  else (rc36 a0 x1 (x2 + (1 : Int32)) (x3 &&& x4) (x4 + (1 : Int32)) q48.2))
noncomputable def F_X12_snags_36 (n : Nat) : Nat → Nat → Int32 → Int32 → Int32 → Int32 → jH → Option (Int32 × jH)
  | 0 => fun _ _ _ _ _ _ => none
  | k + 1 => F_X12_snags_36_b n (F_X12_snags_36 n k)
noncomputable def F_X12_snags_17 (n : Nat) (a0 : Nat) (x1 : Int32) (sa0 : Nat) (s1 : Int32) (h : jH) : Option (Int32 × jH) :=
  (jcv 10 h sa0 (F_X12_throwsIf n sa0 s1 (1 : Int32) h)).bind fun q18 =>
  if q18.1 = 0 then ((jcv 10 q18.2 a0 (F_X12_thatCanCatch n a0 q18.2)).bind fun v29 =>
  F_X12_snags_36 n n a0 x1 (0 : Int32) v29 (0 : Int32) q18.2)
  else (some ((0 : Int32), q18.2))
noncomputable def F_X12_snags (n : Nat) (a0 : Nat) (x1 : Int32) (h : jH) : Option (Int32 × jH) :=
  (jcv 10 h a0 (F_X12_uses n a0 h)).bind fun h1 =>
  (jcv 10 h1 a0 (F_X12_isTold n a0 h1)).bind fun v6 =>
  if v6 = 0 then (F_X12_snags_17 n a0 x1 a0 (1 : Int32) h1)
  else (F_X12_snags_17 n a0 x1 a0 (0 : Int32) h1)
noncomputable def F_X12_partBy_29_b (n : Nat) (rc29 : Nat → Int32 → Int32 → Int32 → Int32 → jH → Option (Int32 × jH)) (a0 : Nat) (x1 : Int32) (x2 : Int32) (x3 : Int32) (x4 : Int32) (h : jH) : Option (Int32 × jH) :=
  (jcv 10 h a0 (F_X12_thatCanCatch n a0 h)).bind fun v32 =>
  if v32 < x4 then (some (x3, h))
  else ((jgR 10 h a0 19).bind fun p39 =>
  (jal 2 h p39 x4).bind fun v44 =>
  if v44 = 0 then (rc29 a0 x1 x2 x3 (x4 + (1 : Int32)) h)
  else ((jcv 10 h a0 (F_X12_wentWith n a0 x4 x1 x2 (31 : Int32) h)).bind fun q58 =>
  (jgR 10 q58.2 a0 20).bind fun p64 =>
  (jal 0 q58.2 p64 q58.1).bind fun v70 =>
  (jas 0 q58.2 p64 q58.1 (v70 + (1 : Int32))).bind fun h73 =>
  (jgR 10 h73 a0 20).bind fun p76 =>
  (jal 0 h73 p76 q58.1).bind fun v81 =>
  rc29 a0 x1 x2 (if x3 < v81 then v81 else x3) (x4 + (1 : Int32)) h73))
noncomputable def F_X12_partBy_29 (n : Nat) : Nat → Nat → Int32 → Int32 → Int32 → Int32 → jH → Option (Int32 × jH)
  | 0 => fun _ _ _ _ _ _ => none
  | k + 1 => F_X12_partBy_29_b n (F_X12_partBy_29 n k)
noncomputable def F_X12_partBy_5_b (n : Nat) (rc5 : Nat → Int32 → Int32 → Int32 → Int32 → jH → Option (Int32 × jH)) (a0 : Nat) (x1 : Int32) (x2 : Int32) (x3 : Int32) (x4 : Int32) (h : jH) : Option (Int32 × jH) :=
  if (31 : Int32) < x4 then (F_X12_partBy_29 n n a0 x1 x2 x3 (0 : Int32) h)
  else ((jgR 10 h a0 20).bind fun p13 =>
  (jas 0 h p13 x4 (0 : Int32)).bind fun h19 =>
  rc5 a0 x1 x2 x3 (x4 + (1 : Int32)) h19)
noncomputable def F_X12_partBy_5 (n : Nat) : Nat → Nat → Int32 → Int32 → Int32 → Int32 → jH → Option (Int32 × jH)
  | 0 => fun _ _ _ _ _ _ => none
  | k + 1 => F_X12_partBy_5_b n (F_X12_partBy_5 n k)
noncomputable def F_X12_partBy (n : Nat) (a0 : Nat) (x1 : Int32) (x2 : Int32) (h : jH) : Option (Int32 × jH) :=
  F_X12_partBy_5 n n a0 x1 x2 (0 : Int32) (0 : Int32) h
noncomputable def F_X12_tries_132 (n : Nat) (rc81 : Nat → Int32 → Int32 → Int32 → Int32 → jH → Option (Int32 × jH)) (a0 : Nat) (x1 : Int32) (x3 : Int32) (x4 : Int32) (x5 : Int32) (s0 : Int32) (h : jH) : Option (Int32 × jH) :=
  rc81 a0 x1 s0 (if x5 < x3 then x5 else x3) (x4 + (1 : Int32)) h
noncomputable def F_X12_tries_115 (n : Nat) (rc81 : Nat → Int32 → Int32 → Int32 → Int32 → jH → Option (Int32 × jH)) (a0 : Nat) (x1 : Int32) (x2 : Int32) (x3 : Int32) (x4 : Int32) (sa0 : Nat) (s1 : Int32) (s2 : Int32) (h : jH) : Option (Int32 × jH) :=
  (jcv 10 h sa0 (F_X12_partBy n sa0 s1 s2 h)).bind fun q115 =>
  if x3 ≤ q115.1 then (F_X12_tries_132 n rc81 a0 x1 x3 x4 q115.1 x2 q115.2)
  else (F_X12_tries_132 n rc81 a0 x1 x3 x4 q115.1 x4 q115.2)
noncomputable def F_X12_tries_81_b (n : Nat) (rc81 : Nat → Int32 → Int32 → Int32 → Int32 → jH → Option (Int32 × jH)) (a0 : Nat) (x1 : Int32) (x2 : Int32) (x3 : Int32) (x4 : Int32) (h : jH) : Option (Int32 × jH) :=
  (jcv 10 h a0 (F_X12_rings n a0 h)).bind fun v85 =>
  if ((2 : Int32) * v85) ≤ x4 then (some (x2, h))
  else (if x1 ≤ (1 : Int32) then (some (x2, h))
  else (if (x4 - x4 / (2 : Int32) * (2 : Int32)) = (1 : Int32) then (F_X12_tries_115 n rc81 a0 x1 x2 x3 x4 a0 (x4 / (2 : Int32)) (1 : Int32) h)
  else (F_X12_tries_115 n rc81 a0 x1 x2 x3 x4 a0 (x4 / (2 : Int32)) (0 : Int32) h)))
noncomputable def F_X12_tries_81 (n : Nat) : Nat → Nat → Int32 → Int32 → Int32 → Int32 → jH → Option (Int32 × jH)
  | 0 => fun _ _ _ _ _ _ => none
  | k + 1 => F_X12_tries_81_b n (F_X12_tries_81 n k)
noncomputable def F_X12_tries_30_b (n : Nat) (rc30 : Nat → Int32 → Int32 → jH → Option (Int32 × jH)) (a0 : Nat) (x1 : Int32) (x2 : Int32) (h : jH) : Option (Int32 × jH) :=
  (jcv 10 h a0 (F_X12_thatCanCatch n a0 h)).bind fun v32 =>
  if v32 < x2 then (F_X12_tries_81 n n a0 x1 (-1 : Int32) (1000000 : Int32) (0 : Int32) h)
  else ((jgR 10 h a0 19).bind fun p39 =>
  (jcv 10 h a0 (F_X12_fits n a0 x2 h)).bind fun q45 =>
  (jas 2 q45.2 p39 x2 q45.1).bind fun h48 =>
  (jgR 10 h48 a0 19).bind fun p51 =>
  (jal 2 h48 p51 x2).bind fun v55 =>
  if v55 = 0 then (rc30 a0 (x1 + (0 : Int32)) (x2 + (1 : Int32)) h48)
  else (rc30 a0 (x1 + (1 : Int32)) (x2 + (1 : Int32)) h48))
noncomputable def F_X12_tries_30 (n : Nat) : Nat → Nat → Int32 → Int32 → jH → Option (Int32 × jH)
  | 0 => fun _ _ _ _ => none
  | k + 1 => F_X12_tries_30_b n (F_X12_tries_30 n k)
noncomputable def F_X12_tries_17 (n : Nat) (a0 : Nat) (sa0 : Nat) (s1 : Int32) (h : jH) : Option (Int32 × jH) :=
  (jcv 10 h sa0 (F_X12_throwsIf n sa0 s1 (1 : Int32) h)).bind fun q18 =>
  if q18.1 = 0 then (F_X12_tries_30 n n a0 (0 : Int32) (0 : Int32) q18.2)
  else (some ((0 : Int32), q18.2))
noncomputable def F_X12_tries (n : Nat) (a0 : Nat) (h : jH) : Option (Int32 × jH) :=
  (jcv 10 h a0 (F_X12_uses n a0 h)).bind fun h1 =>
  (jcv 10 h1 a0 (F_X12_isTold n a0 h1)).bind fun v6 =>
  if v6 = 0 then (F_X12_tries_17 n a0 a0 (1 : Int32) h1)
  else (F_X12_tries_17 n a0 a0 (0 : Int32) h1)
noncomputable def F_X12_loosen_51_b (n : Nat) (rc51 : Nat → Int32 → Int32 → Int32 → Int32 → Int32 → Int32 → Int32 → jH → Option (Int32 × jH)) (a0 : Nat) (x1 : Int32) (x2 : Int32) (x3 : Int32) (x4 : Int32) (x5 : Int32) (x6 : Int32) (x7 : Int32) (h : jH) : Option (Int32 × jH) :=
  if x4 < x7 then (some (x5, h))
  else (if (x7 &&& (x4 ^^^ (-1 : Int32))) = 0 then ((F_J6_bitCount_0f7a4 n x7 h).bind fun v70 =>
  if x6 ≤ v70 then (rc51 a0 x1 x2 x3 x4 x5 x6 (x7 + (1 : Int32)) h)
  else ((jcv 10 h a0 (F_X12_wentWith n a0 (x4 &&& (x7 ^^^ (-1 : Int32))) x1 x2 x3 h)).bind fun q89 =>
  if x3 ≤ q89.1 then ((F_J6_bitCount_0f7a4 n x7 q89.2).bind fun v105 =>
  rc51 a0 x1 x2 x3 x4 x7 v105 (x7 + (1 : Int32)) q89.2)
  else (rc51 a0 x1 x2 x3 x4 x5 x6 (x7 + (1 : Int32)) q89.2)))
  else (rc51 a0 x1 x2 x3 x4 x5 x6 (x7 + (1 : Int32)) h))
noncomputable def F_X12_loosen_51 (n : Nat) : Nat → Nat → Int32 → Int32 → Int32 → Int32 → Int32 → Int32 → Int32 → jH → Option (Int32 × jH)
  | 0 => fun _ _ _ _ _ _ _ _ _ => none
  | k + 1 => F_X12_loosen_51_b n (F_X12_loosen_51 n k)
noncomputable def F_X12_loosen (n : Nat) (a0 : Nat) (x1 : Int32) (x2 : Int32) (x3 : Int32) (h : jH) : Option (Int32 × jH) :=
  (jpf 10 h a0 0 (.int (0 : Int32))).bind fun h2 =>
  (jcv 10 h2 a0 (F_X12_noRing n a0 x1 h2)).bind fun v8 =>
  (jcv 10 h2 a0 (F_X12_throwsIf n a0 v8 (1 : Int32) h2)).bind fun q12 =>
  if q12.1 = 0 then ((F_X12_noSteps n x3 q12.2).bind fun v20 =>
  (jcv 10 q12.2 a0 (F_X12_throwsIf n a0 v20 (2 : Int32) q12.2)).bind fun q24 =>
  if q24.1 = 0 then ((jcv 10 q24.2 a0 (F_X12_ringsThat n a0 (7 : Int32) q24.2)).bind fun v35 =>
  F_X12_loosen_51 n n a0 x1 x2 x3 v35 (-1 : Int32) (1000000 : Int32) (0 : Int32) q24.2)
  else (some ((0 : Int32), q24.2)))
  else (some ((0 : Int32), q12.2))
noncomputable def F_X12_order_26_b (n : Nat) (rc9 : Nat → Int32 → Int32 → jH → Option (Int32 × jH)) (rc26 : Nat → Int32 → Int32 → Int32 → jH → Option (Int32 × jH)) (a0 : Nat) (x1 : Int32) (x2 : Int32) (x3 : Int32) (h : jH) : Option (Int32 × jH) :=
  if x2 ≤ x3 then ((jgR 10 h a0 21).bind fun p86 =>
  (jal 0 h p86 x2).bind fun v90 =>
  rc9 a0 (if x1 < v90 then v90 else x1) (x2 + (1 : Int32)) h)
  else ((jgR 10 h a0 21).bind fun p32 =>
  (jcv 10 h a0 (F_X12_of n a0 x3 (4 : Int32) h)).bind fun v39 =>
  (jcv 10 h a0 (F_X12_of n a0 x2 (4 : Int32) h)).bind fun v45 =>
  if v45 < v39 then ((jgR 10 h a0 21).bind fun p72 =>
  (jal 0 h p72 x2).bind fun v76 =>
  (jas 0 h p32 x2 v76).bind fun h77 =>
  rc26 a0 x1 x2 (x3 + (1 : Int32)) h77)
  else ((jgR 10 h a0 21).bind fun p52 =>
  (jal 0 h p52 x2).bind fun v56 =>
  (jgR 10 h a0 21).bind fun p58 =>
  (jal 0 h p58 x3).bind fun v62 =>
  (jas 0 h p32 x2 (if v56 < (v62 + (1 : Int32)) then v62 + (1 : Int32) else v56)).bind fun h77 =>
  rc26 a0 x1 x2 (x3 + (1 : Int32)) h77))
noncomputable def F_X12_order_26 (n : Nat) (rc9 : Nat → Int32 → Int32 → jH → Option (Int32 × jH)) : Nat → Nat → Int32 → Int32 → Int32 → jH → Option (Int32 × jH)
  | 0 => fun _ _ _ _ _ => none
  | k + 1 => F_X12_order_26_b n rc9 (F_X12_order_26 n rc9 k)
noncomputable def F_X12_order_9_b (n : Nat) (rc9 : Nat → Int32 → Int32 → jH → Option (Int32 × jH)) (a0 : Nat) (x1 : Int32) (x2 : Int32) (h : jH) : Option (Int32 × jH) :=
  (jcv 10 h a0 (F_X12_rings n a0 h)).bind fun v11 =>
  if v11 ≤ x2 then ((jcv 10 h a0 (F_X12_rings n a0 h)).bind fun v102 =>
  some (v102 - x1, h))
  else ((jgR 10 h a0 21).bind fun p18 =>
  (jas 0 h p18 x2 (1 : Int32)).bind fun h23 =>
  F_X12_order_26 n rc9 n a0 x1 x2 (0 : Int32) h23)
noncomputable def F_X12_order_9 (n : Nat) : Nat → Nat → Int32 → Int32 → jH → Option (Int32 × jH)
  | 0 => fun _ _ _ _ => none
  | k + 1 => F_X12_order_9_b n (F_X12_order_9 n k)
noncomputable def F_X12_order (n : Nat) (a0 : Nat) (h : jH) : Option (Int32 × jH) :=
  (jpf 10 h a0 0 (.int (0 : Int32))).bind fun h2 =>
  F_X12_order_9 n n a0 (0 : Int32) (0 : Int32) h2
noncomputable def F_X12_tight_83 (n : Nat) (rc39 : Nat → Int32 → Int32 → Int32 → Int32 → jH → Option (Int32 × jH)) (a0 : Nat) (x1 : Int32) (x3 : Int32) (x4 : Int32) (x5 : Int32) (s0 : Int32) (h : jH) : Option (Int32 × jH) :=
  rc39 a0 x1 s0 (if x5 < x3 then x5 else x3) (x4 + (1 : Int32)) h
noncomputable def F_X12_tight_39_b (n : Nat) (rc39 : Nat → Int32 → Int32 → Int32 → Int32 → jH → Option (Int32 × jH)) (a0 : Nat) (x1 : Int32) (x2 : Int32) (x3 : Int32) (x4 : Int32) (h : jH) : Option (Int32 × jH) :=
  (jcv 10 h a0 (F_X12_rings n a0 h)).bind fun v44 =>
  if v44 < (x4 + x1) then (some (x2, h))
  else ((jcv 10 h a0 (F_X12_of n a0 ((x4 + x1) - (1 : Int32)) (0 : Int32) h)).bind fun v58 =>
  (jcv 10 h a0 (F_X12_of n a0 x4 (0 : Int32) h)).bind fun v65 =>
  if x3 ≤ (v58 - v65) then (F_X12_tight_83 n rc39 a0 x1 x3 x4 (v58 - v65) x2 h)
  else (F_X12_tight_83 n rc39 a0 x1 x3 x4 (v58 - v65) x4 h))
noncomputable def F_X12_tight_39 (n : Nat) : Nat → Nat → Int32 → Int32 → Int32 → Int32 → jH → Option (Int32 × jH)
  | 0 => fun _ _ _ _ _ _ => none
  | k + 1 => F_X12_tight_39_b n (F_X12_tight_39 n k)
noncomputable def F_X12_tight_21 (n : Nat) (a0 : Nat) (x1 : Int32) (sa0 : Nat) (s1 : Int32) (h : jH) : Option (Int32 × jH) :=
  (jcv 10 h sa0 (F_X12_throwsIf n sa0 s1 (1 : Int32) h)).bind fun q22 =>
  if q22.1 = 0 then (F_X12_tight_39 n n a0 x1 (-1 : Int32) (1000000 : Int32) (0 : Int32) q22.2)
  else (some ((0 : Int32), q22.2))
noncomputable def F_X12_tight (n : Nat) (a0 : Nat) (x1 : Int32) (h : jH) : Option (Int32 × jH) :=
  (jpf 10 h a0 0 (.int (0 : Int32))).bind fun h2 =>
  (F_X12_in n x1 (2 : Int32) (8 : Int32) h2).bind fun v10 =>
  if v10 = 0 then (F_X12_tight_21 n a0 x1 a0 (1 : Int32) h2)
  else (F_X12_tight_21 n a0 x1 a0 (0 : Int32) h2)
noncomputable def F_X12_slack_9_b (n : Nat) (rc9 : Nat → Int32 → Int32 → jH → Option (Int32 × jH)) (a0 : Nat) (x1 : Int32) (x2 : Int32) (h : jH) : Option (Int32 × jH) :=
  (jcv 10 h a0 (F_X12_lastRing n a0 h)).bind fun v11 =>
  if v11 ≤ x2 then (some (x1, h))
  else ((jcv 10 h a0 (F_X12_of n a0 x2 (1 : Int32) h)).bind fun v21 =>
  (jcv 10 h a0 (F_X12_gapOf n a0 x2 h)).bind fun v26 =>
  rc9 a0 (x1 + (v21 - v26)) (x2 + (1 : Int32)) h)
noncomputable def F_X12_slack_9 (n : Nat) : Nat → Nat → Int32 → Int32 → jH → Option (Int32 × jH)
  | 0 => fun _ _ _ _ => none
  | k + 1 => F_X12_slack_9_b n (F_X12_slack_9 n k)
noncomputable def F_X12_slack (n : Nat) (a0 : Nat) (h : jH) : Option (Int32 × jH) :=
  (jpf 10 h a0 0 (.int (0 : Int32))).bind fun h2 =>
  F_X12_slack_9 n n a0 (0 : Int32) (0 : Int32) h2
noncomputable def F_X12_taut_9_b (n : Nat) (rc9 : Nat → Int32 → Int32 → jH → Option (Int32 × jH)) (a0 : Nat) (x1 : Int32) (x2 : Int32) (h : jH) : Option (Int32 × jH) :=
  (jcv 10 h a0 (F_X12_lastRing n a0 h)).bind fun v11 =>
  if v11 ≤ x2 then (some (x1, h))
  else ((jcv 10 h a0 (F_X12_gapOf n a0 x2 h)).bind fun v20 =>
  (jcv 10 h a0 (F_X12_of n a0 x2 (1 : Int32) h)).bind fun v26 =>
  if v20 = v26 then (rc9 a0 (x1 ||| ((1 : Int32) <<< (x2 &&& 31))) (x2 + (1 : Int32)) h)
  else (rc9 a0 (x1 ||| (0 : Int32)) (x2 + (1 : Int32)) h))
noncomputable def F_X12_taut_9 (n : Nat) : Nat → Nat → Int32 → Int32 → jH → Option (Int32 × jH)
  | 0 => fun _ _ _ _ => none
  | k + 1 => F_X12_taut_9_b n (F_X12_taut_9 n k)
noncomputable def F_X12_taut (n : Nat) (a0 : Nat) (h : jH) : Option (Int32 × jH) :=
  (jpf 10 h a0 0 (.int (0 : Int32))).bind fun h2 =>
  F_X12_taut_9 n n a0 (0 : Int32) (0 : Int32) h2
noncomputable def F_X12_bunch_41 (n : Nat) (rc11 : Nat → Int32 → Int32 → Int32 → jH → Option (Int32 × jH)) (a0 : Nat) (x1 : Int32) (x3 : Int32) (s0 : Int32) (h : jH) : Option (Int32 × jH) :=
  rc11 a0 (if x1 < s0 then s0 else x1) s0 (x3 + (1 : Int32)) h
noncomputable def F_X12_bunch_11_b (n : Nat) (rc11 : Nat → Int32 → Int32 → Int32 → jH → Option (Int32 × jH)) (a0 : Nat) (x1 : Int32) (x2 : Int32) (x3 : Int32) (h : jH) : Option (Int32 × jH) :=
  (jcv 10 h a0 (F_X12_rings n a0 h)).bind fun v13 =>
  if v13 ≤ x3 then (some (x1, h))
  else (if x3 ≤ 0 then (F_X12_bunch_41 n rc11 a0 x1 x3 (1 : Int32) h)
  else ((jcv 10 h a0 (F_X12_gapOf n a0 (x3 - (1 : Int32)) h)).bind fun v27 =>
  if v27 = (1 : Int32) then (F_X12_bunch_41 n rc11 a0 x1 x3 (x2 + (1 : Int32)) h)
  else (F_X12_bunch_41 n rc11 a0 x1 x3 (1 : Int32) h)))
noncomputable def F_X12_bunch_11 (n : Nat) : Nat → Nat → Int32 → Int32 → Int32 → jH → Option (Int32 × jH)
  | 0 => fun _ _ _ _ _ => none
  | k + 1 => F_X12_bunch_11_b n (F_X12_bunch_11 n k)
noncomputable def F_X12_bunch (n : Nat) (a0 : Nat) (h : jH) : Option (Int32 × jH) :=
  (jpf 10 h a0 0 (.int (0 : Int32))).bind fun h2 =>
  F_X12_bunch_11 n n a0 (0 : Int32) (0 : Int32) (0 : Int32) h2
noncomputable def F_X12_litIn_4_b (n : Nat) (rc4 : Nat → Int32 → Int32 → Int32 → jH → Option Int32) (a0 : Nat) (x1 : Int32) (x2 : Int32) (x3 : Int32) (h : jH) : Option Int32 :=
  (jcv 10 h a0 (F_X12_rings n a0 h)).bind fun v6 =>
  if v6 ≤ x3 then (some x2)
  else ((jcv 10 h a0 (F_X12_isLit n a0 x3 x1 h)).bind fun v16 =>
  if v16 = 0 then (rc4 a0 x1 (x2 ||| (0 : Int32)) (x3 + (1 : Int32)) h)
  else (rc4 a0 x1 (x2 ||| ((1 : Int32) <<< (x3 &&& 31))) (x3 + (1 : Int32)) h))
noncomputable def F_X12_litIn_4 (n : Nat) : Nat → Nat → Int32 → Int32 → Int32 → jH → Option Int32
  | 0 => fun _ _ _ _ _ => none
  | k + 1 => F_X12_litIn_4_b n (F_X12_litIn_4 n k)
noncomputable def F_X12_litIn (n : Nat) (a0 : Nat) (x1 : Int32) (h : jH) : Option Int32 :=
  F_X12_litIn_4 n n a0 x1 (0 : Int32) (0 : Int32) h
noncomputable def F_X12_lit_21 (n : Nat) (a0 : Nat) (x1 : Int32) (sa0 : Nat) (s1 : Int32) (h : jH) : Option (Int32 × jH) :=
  (jcv 10 h sa0 (F_X12_throwsIf n sa0 s1 (1 : Int32) h)).bind fun q22 =>
  if q22.1 = 0 then ((jcv 10 q22.2 a0 (F_X12_litIn n a0 x1 q22.2)).bind fun v34 =>
  some (v34, q22.2))
  else (some ((0 : Int32), q22.2))
noncomputable def F_X12_lit (n : Nat) (a0 : Nat) (x1 : Int32) (h : jH) : Option (Int32 × jH) :=
  (jpf 10 h a0 0 (.int (0 : Int32))).bind fun h2 =>
  (F_X12_in n x1 (0 : Int32) (7 : Int32) h2).bind fun v10 =>
  if v10 = 0 then (F_X12_lit_21 n a0 x1 a0 (1 : Int32) h2)
  else (F_X12_lit_21 n a0 x1 a0 (0 : Int32) h2)
noncomputable def F_X12_sunny_69 (n : Nat) (rc11 : Nat → Int32 → Int32 → Int32 → jH → Option (Int32 × jH)) (a0 : Nat) (x2 : Int32) (x3 : Int32) (x4 : Int32) (s0 : Int32) (h : jH) : Option (Int32 × jH) :=
  rc11 a0 s0 (if x2 < x4 then x4 else x2) (x3 + (1 : Int32)) h
noncomputable def F_X12_sunny_25_b (n : Nat) (rc11 : Nat → Int32 → Int32 → Int32 → jH → Option (Int32 × jH)) (rc25 : Nat → Int32 → Int32 → Int32 → Int32 → Int32 → jH → Option (Int32 × jH)) (a0 : Nat) (x1 : Int32) (x2 : Int32) (x3 : Int32) (x4 : Int32) (x5 : Int32) (h : jH) : Option (Int32 × jH) :=
  if (8 : Int32) ≤ x5 then (if x4 ≤ x2 then (F_X12_sunny_69 n rc11 a0 x2 x3 x4 x1 h)
  else (F_X12_sunny_69 n rc11 a0 x2 x3 x4 x3 h))
  else ((jcv 10 h a0 (F_X12_isLit n a0 x3 x5 h)).bind fun v38 =>
  if v38 = 0 then (rc25 a0 x1 x2 x3 (x4 + (0 : Int32)) (x5 + (1 : Int32)) h)
  else (rc25 a0 x1 x2 x3 (x4 + (1 : Int32)) (x5 + (1 : Int32)) h))
noncomputable def F_X12_sunny_25 (n : Nat) (rc11 : Nat → Int32 → Int32 → Int32 → jH → Option (Int32 × jH)) : Nat → Nat → Int32 → Int32 → Int32 → Int32 → Int32 → jH → Option (Int32 × jH)
  | 0 => fun _ _ _ _ _ _ _ => none
  | k + 1 => F_X12_sunny_25_b n rc11 (F_X12_sunny_25 n rc11 k)
noncomputable def F_X12_sunny_11_b (n : Nat) (rc11 : Nat → Int32 → Int32 → Int32 → jH → Option (Int32 × jH)) (a0 : Nat) (x1 : Int32) (x2 : Int32) (x3 : Int32) (h : jH) : Option (Int32 × jH) :=
  (jcv 10 h a0 (F_X12_rings n a0 h)).bind fun v13 =>
  if v13 ≤ x3 then (some (x1, h))
  else (F_X12_sunny_25 n rc11 n a0 x1 x2 x3 (0 : Int32) (0 : Int32) h)
noncomputable def F_X12_sunny_11 (n : Nat) : Nat → Nat → Int32 → Int32 → Int32 → jH → Option (Int32 × jH)
  | 0 => fun _ _ _ _ _ => none
  | k + 1 => F_X12_sunny_11_b n (F_X12_sunny_11 n k)
noncomputable def F_X12_sunny (n : Nat) (a0 : Nat) (h : jH) : Option (Int32 × jH) :=
  (jpf 10 h a0 0 (.int (0 : Int32))).bind fun h2 =>
  F_X12_sunny_11 n n a0 (-1 : Int32) (-1 : Int32) (0 : Int32) h2
noncomputable def F_X12_lets_103 (n : Nat) (x1 : Int32) (x2 : Int32) (x4 : Int32) (x5 : Int32) (s0 : Int32) (h : jH) : Option (Int32 × jH) :=
  if s0 ≤ x2 then (if x5 ≤ x1 then (some (x4, h))
  else (some (x4 + (1 : Int32), h)))
  else (some ((-1 : Int32), h))
noncomputable def F_X12_lets_48_b (n : Nat) (rc48 : Nat → Int32 → Int32 → Int32 → Int32 → jH → Option (Int32 × jH)) (a0 : Nat) (x1 : Int32) (x2 : Int32) (x3 : Int32) (x4 : Int32) (h : jH) : Option (Int32 × jH) :=
  (jcv 10 h a0 (F_X12_rings n a0 h)).bind fun v51 =>
  if v51 ≤ x4 then ((jcv 10 h a0 (F_X12_rings n a0 h)).bind fun v75 =>
  if v75 = 0 then none else
  (jcv 10 h a0 (F_X12_rings n a0 h)).bind fun v83 =>
  if v83 = 0 then none else
  if (x3 - x3 / v83 * v83) ≤ 0 then (F_X12_lets_103 n x1 x2 (x3 / v75) (x3 - x3 / v83 * v83) (x3 / v75) h)
  else (F_X12_lets_103 n x1 x2 (x3 / v75) (x3 - x3 / v83 * v83) ((x3 / v75) + (1 : Int32)) h))
  else ((jcv 10 h a0 (F_X12_of n a0 x4 (5 : Int32) h)).bind fun v62 =>
  rc48 a0 x1 x2 (x3 + v62) (x4 + (1 : Int32)) h)
noncomputable def F_X12_lets_48 (n : Nat) : Nat → Nat → Int32 → Int32 → Int32 → Int32 → jH → Option (Int32 × jH)
  | 0 => fun _ _ _ _ _ _ => none
  | k + 1 => F_X12_lets_48_b n (F_X12_lets_48 n k)
noncomputable def F_X12_lets_34 (n : Nat) (a0 : Nat) (x1 : Int32) (x2 : Int32) (sa0 : Nat) (s1 : Int32) (h : jH) : Option (Int32 × jH) :=
  (jcv 10 h sa0 (F_X12_throwsIf n sa0 s1 (2 : Int32) h)).bind fun q35 =>
  if q35.1 = 0 then (F_X12_lets_48 n n a0 x1 x2 (0 : Int32) (0 : Int32) q35.2)
  else (some ((0 : Int32), q35.2))
noncomputable def F_X12_lets (n : Nat) (a0 : Nat) (x1 : Int32) (x2 : Int32) (h : jH) : Option (Int32 × jH) :=
  (jpf 10 h a0 0 (.int (0 : Int32))).bind fun h2 =>
  (jcv 10 h2 a0 (F_X12_noRing n a0 x1 h2)).bind fun v8 =>
  (jcv 10 h2 a0 (F_X12_throwsIf n a0 v8 (1 : Int32) h2)).bind fun q12 =>
  if q12.1 = 0 then ((F_X12_in n x2 (0 : Int32) (9 : Int32) q12.2).bind fun v23 =>
  if v23 = 0 then (F_X12_lets_34 n a0 x1 x2 a0 (1 : Int32) q12.2)
  else (F_X12_lets_34 n a0 x1 x2 a0 (0 : Int32) q12.2))
  else (some ((0 : Int32), q12.2))
noncomputable def F_X12_envy_9_b (n : Nat) (rc9 : Nat → Int32 → Int32 → jH → Option (Int32 × jH)) (a0 : Nat) (x1 : Int32) (x2 : Int32) (h : jH) : Option (Int32 × jH) :=
  (jcv 10 h a0 (F_X12_lastRing n a0 h)).bind fun v11 =>
  if v11 ≤ x2 then (some (x1, h))
  else ((jcv 10 h a0 (F_X12_of n a0 x2 (5 : Int32) h)).bind fun v21 =>
  (jcv 10 h a0 (F_X12_of n a0 (x2 + (1 : Int32)) (5 : Int32) h)).bind fun v29 =>
  if (if 0 ≤ v21 - v29 then v21 - v29 else 0 - (v21 - v29)) ≤ (1 : Int32) then (rc9 a0 (x1 + (0 : Int32)) (x2 + (1 : Int32)) h)
  else (rc9 a0 (x1 + (1 : Int32)) (x2 + (1 : Int32)) h))
noncomputable def F_X12_envy_9 (n : Nat) : Nat → Nat → Int32 → Int32 → jH → Option (Int32 × jH)
  | 0 => fun _ _ _ _ => none
  | k + 1 => F_X12_envy_9_b n (F_X12_envy_9 n k)
noncomputable def F_X12_envy (n : Nat) (a0 : Nat) (h : jH) : Option (Int32 × jH) :=
  (jpf 10 h a0 0 (.int (0 : Int32))).bind fun h2 =>
  F_X12_envy_9 n n a0 (0 : Int32) (0 : Int32) h2
noncomputable def F_X12_eachHas (n : Nat) (a0 : Nat) (x1 : Int32) (x2 : Int32) (x3 : Int32) (h : jH) : Option Int32 :=
  if x2 = x3 then (some (2 : Int32))
  else (if x2 = (1 : Int32) then ((jcv 10 h a0 (F_X12_gapOf n a0 x1 h)).bind fun v14 =>
  some (v14 - (1 : Int32)))
  else ((jcv 10 h a0 (F_X12_is n a0 x1 (7 : Int32) h)).bind fun v26 =>
  if v26 = 0 then (some (1 : Int32))
  else (some (-2 : Int32))))
noncomputable def F_X12_rests_42_b (n : Nat) (rc34 : Nat → Int32 → Int32 → Int32 → jH → Option (Int32 × jH)) (rc42 : Nat → Int32 → Int32 → Int32 → Int32 → jH → Option (Int32 × jH)) (a0 : Nat) (x1 : Int32) (x2 : Int32) (x3 : Int32) (x4 : Int32) (h : jH) : Option (Int32 × jH) :=
  if (2 : Int32) ≤ x4 then (rc34 a0 x1 x2 (x3 + (1 : Int32)) h)
  else ((jcv 10 h a0 (F_X12_eachHas n a0 x1 x3 x4 h)).bind fun v54 =>
  (jcv 10 h a0 (F_X12_eachHas n a0 x1 ((1 : Int32) - x3) x4 h)).bind fun v64 =>
  if v54 < v64 then (rc42 a0 x1 (x2 ||| (0 : Int32)) x3 (x4 + (1 : Int32)) h)
  else ((jcv 10 h a0 (F_X12_eachHas n a0 x1 x3 x4 h)).bind fun v75 =>
  (jcv 10 h a0 (F_X12_eachHas n a0 x1 x3 ((1 : Int32) - x4) h)).bind fun v85 =>
  if v75 < v85 then (rc42 a0 x1 (x2 ||| (0 : Int32)) x3 (x4 + (1 : Int32)) h)
  else (rc42 a0 x1 (x2 ||| ((1 : Int32) <<< ((((2 : Int32) * x3) + x4) &&& 31))) x3 (x4 + (1 : Int32)) h)))
noncomputable def F_X12_rests_42 (n : Nat) (rc34 : Nat → Int32 → Int32 → Int32 → jH → Option (Int32 × jH)) : Nat → Nat → Int32 → Int32 → Int32 → Int32 → jH → Option (Int32 × jH)
  | 0 => fun _ _ _ _ _ _ => none
  | k + 1 => F_X12_rests_42_b n rc34 (F_X12_rests_42 n rc34 k)
noncomputable def F_X12_rests_34_b (n : Nat) (rc34 : Nat → Int32 → Int32 → Int32 → jH → Option (Int32 × jH)) (a0 : Nat) (x1 : Int32) (x2 : Int32) (x3 : Int32) (h : jH) : Option (Int32 × jH) :=
  if (2 : Int32) ≤ x3 then (some (x2, h))
  else (F_X12_rests_42 n rc34 n a0 x1 x2 x3 (0 : Int32) h)
noncomputable def F_X12_rests_34 (n : Nat) : Nat → Nat → Int32 → Int32 → Int32 → jH → Option (Int32 × jH)
  | 0 => fun _ _ _ _ _ => none
  | k + 1 => F_X12_rests_34_b n (F_X12_rests_34 n k)
noncomputable def F_X12_rests (n : Nat) (a0 : Nat) (x1 : Int32) (h : jH) : Option (Int32 × jH) :=
  (jpf 10 h a0 0 (.int (0 : Int32))).bind fun h2 =>
  (jcv 10 h2 a0 (F_X12_noRing n a0 x1 h2)).bind fun v8 =>
  (jcv 10 h2 a0 (F_X12_throwsIf n a0 v8 (1 : Int32) h2)).bind fun q12 =>
  if q12.1 = 0 then ((jcv 10 q12.2 a0 (F_X12_lastRing n a0 q12.2)).bind fun v22 =>
  if x1 = v22 then (some ((-1 : Int32), q12.2))
  else (F_X12_rests_34 n n a0 x1 (0 : Int32) (0 : Int32) q12.2))
  else (some ((0 : Int32), q12.2))
noncomputable def F_X12_wooden (n : Nat) (a0 : Nat) (h : jH) : Option (Int32 × jH) :=
  (jpf 10 h a0 0 (.int (0 : Int32))).bind fun h2 =>
  (jcv 10 h2 a0 (F_X12_ringsThat n a0 (3 : Int32) h2)).bind fun v7 =>
  some (v7, h2)
noncomputable def F_X12_caught (n : Nat) (a0 : Nat) (h : jH) : Option (Int32 × jH) :=
  (jpf 10 h a0 0 (.int (0 : Int32))).bind fun h2 =>
  (jcv 10 h2 a0 (F_X12_ringsThat n a0 (7 : Int32) h2)).bind fun v8 =>
  some (v8, h2)
noncomputable def F_X12_looseOnes (n : Nat) (a0 : Nat) (h : jH) : Option Int32 :=
  (jcv 10 h a0 (F_X12_rings n a0 h)).bind fun v2 =>
  (jcv 10 h a0 (F_X12_ringsThat n a0 (6 : Int32) h)).bind fun v11 =>
  some ((((1 : Int32) <<< (v2 &&& 31)) - (1 : Int32)) &&& (v11 ^^^ (-1 : Int32)))
noncomputable def F_X12_loose (n : Nat) (a0 : Nat) (h : jH) : Option (Int32 × jH) :=
  (jpf 10 h a0 0 (.int (0 : Int32))).bind fun h2 =>
  (jcv 10 h2 a0 (F_X12_looseOnes n a0 h2)).bind fun v6 =>
  some (v6, h2)
noncomputable def F_X12_beyond_9_b (n : Nat) (rc9 : Nat → Int32 → Int32 → jH → Option (Int32 × jH)) (a0 : Nat) (x1 : Int32) (x2 : Int32) (h : jH) : Option (Int32 × jH) :=
  (jcv 10 h a0 (F_X12_rings n a0 h)).bind fun v11 =>
  if v11 ≤ x2 then (some (x1, h))
  else ((jcv 10 h a0 (F_X12_is n a0 x2 (2 : Int32) h)).bind fun v21 =>
  if v21 = 0 then (rc9 a0 (x1 ||| (0 : Int32)) (x2 + (1 : Int32)) h)
  else ((jcv 10 h a0 (F_X12_of n a0 x2 (0 : Int32) h)).bind fun v30 =>
  (jgR 10 h a0 1).bind fun p34 =>
  (jal 0 h p34 (5 : Int32)).bind fun v38 =>
  if v30 < v38 then (rc9 a0 (x1 ||| (0 : Int32)) (x2 + (1 : Int32)) h)
  else (rc9 a0 (x1 ||| ((1 : Int32) <<< (x2 &&& 31))) (x2 + (1 : Int32)) h)))
noncomputable def F_X12_beyond_9 (n : Nat) : Nat → Nat → Int32 → Int32 → jH → Option (Int32 × jH)
  | 0 => fun _ _ _ _ => none
  | k + 1 => F_X12_beyond_9_b n (F_X12_beyond_9 n k)
noncomputable def F_X12_beyond (n : Nat) (a0 : Nat) (h : jH) : Option (Int32 × jH) :=
  (jpf 10 h a0 0 (.int (0 : Int32))).bind fun h2 =>
  F_X12_beyond_9 n n a0 (0 : Int32) (0 : Int32) h2
noncomputable def F_X12_odds_65_b (n : Nat) (rc65 : Int32 → Int32 → Int32 → Int32 → jH → Option (Int32 × jH)) (x2 : Int32) (x3 : Int32) (x4 : Int32) (x5 : Int32) (h : jH) : Option (Int32 × jH) :=
  if x2 ≤ x5 then (some (x4, h))
  else (rc65 x2 x3 ((x4 * x3) / (100 : Int32)) (x5 + (1 : Int32)) h)
noncomputable def F_X12_odds_65 (n : Nat) : Nat → Int32 → Int32 → Int32 → Int32 → jH → Option (Int32 × jH)
  | 0 => fun _ _ _ _ _ => none
  | k + 1 => F_X12_odds_65_b n (F_X12_odds_65 n k)
noncomputable def F_X12_odds_33 (n : Nat) (a0 : Nat) (x1 : Int32) (x2 : Int32) (sa0 : Nat) (s1 : Int32) (h : jH) : Option (Int32 × jH) :=
  (jcv 10 h sa0 (F_X12_throwsIf n sa0 s1 (2 : Int32) h)).bind fun q34 =>
  if q34.1 = 0 then ((jcv 10 q34.2 a0 (F_X12_byLaw n a0 (2 : Int32) x1 q34.2)).bind fun q49 =>
  F_X12_odds_65 n n x2 ((100 : Int32) - (if q49.1 < (100 : Int32) then q49.1 else (100 : Int32))) (10000 : Int32) (0 : Int32) q49.2)
  else (some ((0 : Int32), q34.2))
noncomputable def F_X12_odds (n : Nat) (a0 : Nat) (x1 : Int32) (x2 : Int32) (h : jH) : Option (Int32 × jH) :=
  (jpf 10 h a0 0 (.int (0 : Int32))).bind fun h2 =>
  (jcv 10 h2 a0 (F_X12_noRing n a0 x1 h2)).bind fun v8 =>
  (jcv 10 h2 a0 (F_X12_throwsIf n a0 v8 (1 : Int32) h2)).bind fun q12 =>
  if q12.1 = 0 then ((F_X12_in n x2 (0 : Int32) (4 : Int32) q12.2).bind fun v22 =>
  if v22 = 0 then (F_X12_odds_33 n a0 x1 x2 a0 (1 : Int32) q12.2)
  else (F_X12_odds_33 n a0 x1 x2 a0 (0 : Int32) q12.2))
  else (some ((0 : Int32), q12.2))
noncomputable def F_X12_likens (n : Nat) (a0 : Nat) (x1 : Int32) (x2 : Int32) (h : jH) : Option Int32 :=
  (jcv 10 h a0 (F_X12_of n a0 x1 (1 : Int32) h)).bind fun v3 =>
  (jcv 10 h a0 (F_X12_of n a0 x2 (1 : Int32) h)).bind fun v9 =>
  if v3 = v9 then ((jcv 10 h a0 (F_X12_of n a0 x1 (5 : Int32) h)).bind fun v18 =>
  (jcv 10 h a0 (F_X12_of n a0 x2 (5 : Int32) h)).bind fun v24 =>
  if v18 = v24 then ((jcv 10 h a0 (F_X12_of n a0 x1 (4 : Int32) h)).bind fun v33 =>
  (jcv 10 h a0 (F_X12_of n a0 x2 (4 : Int32) h)).bind fun v39 =>
  if v33 = v39 then (some (1 : Int32))
  else (some (0 : Int32)))
  else (some (0 : Int32)))
  else (some (0 : Int32))
noncomputable def F_X12_twins_19_b (n : Nat) (rc9 : Nat → Int32 → Int32 → jH → Option (Int32 × jH)) (rc19 : Nat → Int32 → Int32 → Int32 → jH → Option (Int32 × jH)) (a0 : Nat) (x1 : Int32) (x2 : Int32) (x3 : Int32) (h : jH) : Option (Int32 × jH) :=
  if x2 ≤ x3 then (rc9 a0 x1 (x2 + (1 : Int32)) h)
  else ((jcv 10 h a0 (F_X12_likens n a0 x2 x3 h)).bind fun v28 =>
  if v28 = 0 then (rc19 a0 (x1 + (0 : Int32)) x2 (x3 + (1 : Int32)) h)
  else (rc19 a0 (x1 + (1 : Int32)) x2 (x3 + (1 : Int32)) h))
noncomputable def F_X12_twins_19 (n : Nat) (rc9 : Nat → Int32 → Int32 → jH → Option (Int32 × jH)) : Nat → Nat → Int32 → Int32 → Int32 → jH → Option (Int32 × jH)
  | 0 => fun _ _ _ _ _ => none
  | k + 1 => F_X12_twins_19_b n rc9 (F_X12_twins_19 n rc9 k)
noncomputable def F_X12_twins_9_b (n : Nat) (rc9 : Nat → Int32 → Int32 → jH → Option (Int32 × jH)) (a0 : Nat) (x1 : Int32) (x2 : Int32) (h : jH) : Option (Int32 × jH) :=
  (jcv 10 h a0 (F_X12_rings n a0 h)).bind fun v11 =>
  if v11 ≤ x2 then (some (x1, h))
  else (F_X12_twins_19 n rc9 n a0 x1 x2 (0 : Int32) h)
noncomputable def F_X12_twins_9 (n : Nat) : Nat → Nat → Int32 → Int32 → jH → Option (Int32 × jH)
  | 0 => fun _ _ _ _ => none
  | k + 1 => F_X12_twins_9_b n (F_X12_twins_9 n k)
noncomputable def F_X12_twins (n : Nat) (a0 : Nat) (h : jH) : Option (Int32 × jH) :=
  (jpf 10 h a0 0 (.int (0 : Int32))).bind fun h2 =>
  F_X12_twins_9 n n a0 (0 : Int32) (0 : Int32) h2
noncomputable def F_X12_trial_47 (n : Nat) (a0 : Nat) (s0 : Int32) (h : jH) : Option (Int32 × jH) :=
  (jcv 10 h a0 (F_X12_bringsBack n a0 h)).bind fun h49 =>
  some (s0, h49)
noncomputable def F_X12_trial (n : Nat) (a0 : Nat) (x1 : Int32) (x2 : Int32) (h : jH) : Option (Int32 × jH) :=
  (jpf 10 h a0 0 (.int (0 : Int32))).bind fun h2 =>
  (F_X12_noAhead n x1 h2).bind fun v7 =>
  (jcv 10 h2 a0 (F_X12_throwsIf n a0 v7 (1 : Int32) h2)).bind fun q11 =>
  if q11.1 = 0 then ((jcv 10 q11.2 a0 (F_X12_keepsAll n a0 q11.2)).bind fun h20 =>
  (jcv 10 h20 a0 (F_X12_goesOn n a0 x1 (0 : Int32) h20)).bind fun q26 =>
  if x2 = 0 then ((jcv 10 q26.2 a0 (F_X12_ringsThat n a0 (7 : Int32) q26.2)).bind fun v44 =>
  F_X12_trial_47 n a0 v44 q26.2)
  else ((jcv 10 q26.2 a0 (F_X12_looseOnes n a0 q26.2)).bind fun v35 =>
  F_X12_trial_47 n a0 v35 q26.2))
  else (some ((0 : Int32), q11.2))
noncomputable def F_X12_span_28_b (n : Nat) (rc28 : Nat → Int32 → Int32 → Int32 → Int32 → jH → Option (Int32 × jH)) (a0 : Nat) (x1 : Int32) (x2 : Int32) (x3 : Int32) (x4 : Int32) (h : jH) : Option (Int32 × jH) :=
  if (6 : Int32) < x4 then (some (x3, h))
  else ((jgR 10 h a0 1).bind fun p36 =>
  (jas 0 h p36 (10 : Int32) x4).bind fun h43 =>
  (jcv 10 h43 a0 (F_X12_goesOn n a0 x1 (0 : Int32) h43)).bind fun q47 =>
  (jcv 10 q47.2 a0 (F_X12_ringsThat n a0 (7 : Int32) q47.2)).bind fun v54 =>
  (F_J6_bitCount_0f7a4 n v54 q47.2).bind fun v57 =>
  (jcv 10 q47.2 a0 (F_X12_looseOnes n a0 q47.2)).bind fun v61 =>
  (F_J6_bitCount_0f7a4 n v61 q47.2).bind fun v64 =>
  (jcv 10 q47.2 a0 (F_X12_bringsBack n a0 q47.2)).bind fun h71 =>
  if 0 ≤ x3 then (if x2 = 0 then (rc28 a0 x1 x2 (if (v57 + v64) < x3 then v57 + v64 else x3) (x4 + (1 : Int32)) h71)
  else (rc28 a0 x1 x2 (if x3 < (v57 + v64) then v57 + v64 else x3) (x4 + (1 : Int32)) h71))
  else (rc28 a0 x1 x2 (v57 + v64) (x4 + (1 : Int32)) h71))
noncomputable def F_X12_span_28 (n : Nat) : Nat → Nat → Int32 → Int32 → Int32 → Int32 → jH → Option (Int32 × jH)
  | 0 => fun _ _ _ _ _ _ => none
  | k + 1 => F_X12_span_28_b n (F_X12_span_28 n k)
noncomputable def F_X12_span (n : Nat) (a0 : Nat) (x1 : Int32) (x2 : Int32) (h : jH) : Option (Int32 × jH) :=
  (jpf 10 h a0 0 (.int (0 : Int32))).bind fun h2 =>
  (F_X12_noAhead n x1 h2).bind fun v7 =>
  (jcv 10 h2 a0 (F_X12_throwsIf n a0 v7 (1 : Int32) h2)).bind fun q11 =>
  if q11.1 = 0 then ((jcv 10 q11.2 a0 (F_X12_keepsAll n a0 q11.2)).bind fun h20 =>
  F_X12_span_28 n n a0 x1 x2 (-1 : Int32) (1 : Int32) h20)
  else (some ((0 : Int32), q11.2))
noncomputable def F_X12_ofLog (n : Nat) (a0 : Nat) (x1 : Int32) (x2 : Int32) (h : jH) : Option Int32 :=
  (jgR 10 h a0 1).bind fun p1 =>
  (jal 0 h p1 (((75 : Int32) + ((6 : Int32) * x1)) + x2)).bind fun v13 =>
  some v13
noncomputable def F_X12_led_36_b (n : Nat) (rc36 : Nat → Int32 → Int32 → Int32 → Int32 → Int32 → jH → Option (Int32 × jH)) (a0 : Nat) (x1 : Int32) (x2 : Int32) (x3 : Int32) (x4 : Int32) (x5 : Int32) (h : jH) : Option (Int32 × jH) :=
  if x5 < 0 then (if x2 = 0 then (some (x3, h))
  else (some (x4, h)))
  else ((jcv 10 h a0 (F_X12_ofLog n a0 x5 (2 : Int32) h)).bind fun v45 =>
  if v45 = x1 then ((jcv 10 h a0 (F_X12_ofLog n a0 x5 (5 : Int32) h)).bind fun v62 =>
  rc36 a0 x1 x2 (x3 + (1 : Int32)) v62 (x5 + (-1 : Int32)) h)
  else (rc36 a0 x1 x2 x3 x4 (x5 + (-1 : Int32)) h))
noncomputable def F_X12_led_36 (n : Nat) : Nat → Nat → Int32 → Int32 → Int32 → Int32 → Int32 → jH → Option (Int32 × jH)
  | 0 => fun _ _ _ _ _ _ _ => none
  | k + 1 => F_X12_led_36_b n (F_X12_led_36 n k)
noncomputable def F_X12_led (n : Nat) (a0 : Nat) (x1 : Int32) (x2 : Int32) (h : jH) : Option (Int32 × jH) :=
  (jpf 10 h a0 0 (.int (0 : Int32))).bind fun h2 =>
  (jcv 10 h2 a0 (F_X12_noRing n a0 x1 h2)).bind fun v8 =>
  (jcv 10 h2 a0 (F_X12_throwsIf n a0 v8 (1 : Int32) h2)).bind fun q12 =>
  if q12.1 = 0 then ((jgR 10 q12.2 a0 1).bind fun p26 =>
  (jal 0 q12.2 p26 (9 : Int32)).bind fun v31 =>
  F_X12_led_36 n n a0 x1 x2 (0 : Int32) (-1 : Int32) (v31 - (1 : Int32)) q12.2)
  else (some ((0 : Int32), q12.2))
noncomputable def F_X12_log_20 (n : Nat) (a0 : Nat) (x1 : Int32) (x2 : Int32) (sa0 : Nat) (s1 : Int32) (h : jH) : Option (Int32 × jH) :=
  (jcv 10 h sa0 (F_X12_throwsIf n sa0 s1 (1 : Int32) h)).bind fun q21 =>
  if q21.1 = 0 then ((jgR 10 q21.2 a0 1).bind fun p32 =>
  (jal 0 q21.2 p32 (9 : Int32)).bind fun v37 =>
  (F_X12_in n x1 (0 : Int32) (v37 - (1 : Int32)) q21.2).bind fun v40 =>
  if v40 = 0 then (some ((-1 : Int32), q21.2))
  else ((jcv 10 q21.2 a0 (F_X12_ofLog n a0 x1 x2 q21.2)).bind fun v49 =>
  some (v49, q21.2)))
  else (some ((0 : Int32), q21.2))
noncomputable def F_X12_log (n : Nat) (a0 : Nat) (x1 : Int32) (x2 : Int32) (h : jH) : Option (Int32 × jH) :=
  (jpf 10 h a0 0 (.int (0 : Int32))).bind fun h2 =>
  (F_X12_in n x2 (0 : Int32) (5 : Int32) h2).bind fun v9 =>
  if v9 = 0 then (F_X12_log_20 n a0 x1 x2 a0 (1 : Int32) h2)
  else (F_X12_log_20 n a0 x1 x2 a0 (0 : Int32) h2)
noncomputable def F_X12_seed (n : Nat) (a0 : Nat) (x1 : Int32) (h : jH) : Option (Int32 × jH) :=
  (jpf 10 h a0 0 (.int (0 : Int32))).bind fun h2 =>
  (jgR 10 h2 a0 1).bind fun p6 =>
  (jal 0 h2 p6 (10 : Int32)).bind fun v11 =>
  (jgR 10 h2 a0 1).bind fun p14 =>
  (jas 0 h2 p14 (10 : Int32) x1).bind fun h20 =>
  some (v11, h20)
noncomputable def F_X12_count (n : Nat) (a0 : Nat) (x1 : Int32) (h : jH) : Option (Int32 × jH) :=
  (jpf 10 h a0 0 (.int (0 : Int32))).bind fun h2 =>
  if x1 = (2 : Int32) then ((jgR 10 h2 a0 1).bind fun p41 =>
  (jal 0 h2 p41 (2 : Int32)).bind fun v45 =>
  if v45 = (1 : Int32) then ((jgR 10 h2 a0 1).bind fun p51 =>
  (jal 0 h2 p51 (435 : Int32)).bind fun v57 =>
  some (v57, h2))
  else (some ((-1 : Int32), h2)))
  else if x1 = (9 : Int32) then ((jgR 10 h2 a0 1).bind fun p64 =>
  (jal 0 h2 p64 (9 : Int32)).bind fun v69 =>
  some (v69, h2))
  else if x1 = (10 : Int32) then ((jgI 10 h2 a0 7).bind fun v72 =>
  some (v72, h2))
  else ((F_X12_in n x1 (0 : Int32) (8 : Int32) h2).bind fun v80 =>
  if v80 = 0 then (some ((-1 : Int32), h2))
  else ((jgR 10 h2 a0 1).bind fun p87 =>
  (jal 0 h2 p87 x1).bind fun v91 =>
  some (v91, h2)))
end
