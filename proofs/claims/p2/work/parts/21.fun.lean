noncomputable def F_X0_init (n : Nat) (a0 : Nat) (h : jH) : Option jH :=
  (jnw h (.inr (.inr (.inl (12, fun _ => none))))).bind fun h7 =>
  (jpf 0 h7 a0 0 (.ref h.1)).bind fun h10 =>
  some h10
noncomputable def F_X5_init (n : Nat) (a0 : Nat) (h : jH) : Option jH :=
  (jnw h (.inr (.inl (0, 60, fun _ => 0)))).bind fun h7 =>
  (jpf 4 h7 a0 0 (.ref h.1)).bind fun h9 =>
  some h9
noncomputable def F_X8_init (n : Nat) (a0 : Nat) (h : jH) : Option jH :=
  (jnw h (.inr (.inl (0, 8, fun _ => 0)))).bind fun h7 =>
  (jpf 6 h7 a0 0 (.ref h.1)).bind fun h9 =>
  (jnw h9 (.inr (.inl (0, 8, fun _ => 0)))).bind fun h15 =>
  (jpf 6 h15 a0 1 (.ref h9.1)).bind fun h17 =>
  (jnw h17 (.inr (.inl (0, 8, fun _ => 0)))).bind fun h23 =>
  (jpf 6 h23 a0 2 (.ref h17.1)).bind fun h25 =>
  (jnw h25 (.inr (.inl (0, 8, fun _ => 0)))).bind fun h31 =>
  (jpf 6 h31 a0 3 (.ref h25.1)).bind fun h33 =>
  (jnw h33 (.inl (4, [.null, .int 0, .int 0]))).bind fun h37 =>
  (F_X5_init n h33.1 h37).bind fun h41 =>
  (jpf 6 h41 a0 4 (.ref h33.1)).bind fun h44 =>
  (jpf 6 h44 a0 11 (.int (16 : Int32))).bind fun h50 =>
  (jpf 6 h50 a0 12 (.int (8 : Int32))).bind fun h56 =>
  (jpf 6 h56 a0 16 (.int (1 : Int32))).bind fun h61 =>
  some h61
noncomputable def F_X5_copyFrom (n : Nat) (a0 : Nat) (a1 : Nat) (h : jH) : Option jH :=
  (jgR 4 h a1 0).bind fun p1 =>
  (jgR 4 h a0 0).bind fun p6 =>
  (jcp h p1 (0 : Int32) p6 (0 : Int32) (60 : Int32)).bind fun h12 =>
  (jgI 4 h12 a1 1).bind fun v17 =>
  (jpf 4 h12 a0 1 (.int v17)).bind fun h20 =>
  (jgI 4 h20 a1 2).bind fun v25 =>
  (jpf 4 h20 a0 2 (.int v25)).bind fun h28 =>
  some h28
noncomputable def F_X8_hangAs (n : Nat) (a0 : Nat) (a1 : Nat) (h : jH) : Option jH :=
  (jgR 6 h a1 0).bind fun p1 =>
  (jgR 6 h a0 0).bind fun p6 =>
  (jcp h p1 (0 : Int32) p6 (0 : Int32) (8 : Int32)).bind fun h12 =>
  (jgI 6 h12 a1 15).bind fun v17 =>
  (jpf 6 h12 a0 15 (.int v17)).bind fun h20 =>
  (jgI 6 h20 a1 9).bind fun v25 =>
  (jpf 6 h20 a0 9 (.int v25)).bind fun h28 =>
  some h28
noncomputable def F_X8_copyFrom (n : Nat) (a0 : Nat) (a1 : Nat) (h : jH) : Option jH :=
  (jgR 6 h a1 1).bind fun p1 =>
  (jgR 6 h a0 1).bind fun p6 =>
  (jcp h p1 (0 : Int32) p6 (0 : Int32) (8 : Int32)).bind fun h12 =>
  (jgR 6 h12 a1 2).bind fun p16 =>
  (jgR 6 h12 a0 2).bind fun p21 =>
  (jcp h12 p16 (0 : Int32) p21 (0 : Int32) (8 : Int32)).bind fun h27 =>
  (jgR 6 h27 a1 3).bind fun p31 =>
  (jgR 6 h27 a0 3).bind fun p36 =>
  (jcp h27 p31 (0 : Int32) p36 (0 : Int32) (8 : Int32)).bind fun h42 =>
  (jgR 6 h42 a0 4).bind fun p46 =>
  (jgR 6 h42 a1 4).bind fun p50 =>
  (jcv 4 h42 p46 (F_X5_copyFrom n p46 p50 h42)).bind fun h53 =>
  (jgI 6 h53 a1 5).bind fun v58 =>
  (jpf 6 h53 a0 5 (.int v58)).bind fun h61 =>
  (jgI 6 h61 a1 6).bind fun v66 =>
  (jpf 6 h61 a0 6 (.int v66)).bind fun h69 =>
  (jgI 6 h69 a1 7).bind fun v74 =>
  (jpf 6 h69 a0 7 (.int v74)).bind fun h77 =>
  (jgI 6 h77 a1 8).bind fun v82 =>
  (jpf 6 h77 a0 8 (.int v82)).bind fun h85 =>
  (jgI 6 h85 a1 10).bind fun v90 =>
  (jpf 6 h85 a0 10 (.int v90)).bind fun h93 =>
  (jgI 6 h93 a1 11).bind fun v98 =>
  (jpf 6 h93 a0 11 (.int v98)).bind fun h101 =>
  (jgI 6 h101 a1 12).bind fun v106 =>
  (jpf 6 h101 a0 12 (.int v106)).bind fun h109 =>
  (jgI 6 h109 a1 13).bind fun v114 =>
  (jpf 6 h109 a0 13 (.int v114)).bind fun h117 =>
  (jgI 6 h117 a1 14).bind fun v122 =>
  (jpf 6 h117 a0 14 (.int v122)).bind fun h125 =>
  (jgI 6 h125 a1 16).bind fun v130 =>
  (jpf 6 h125 a0 16 (.int v130)).bind fun h133 =>
  (jgI 6 h133 a1 17).bind fun v138 =>
  (jpf 6 h133 a0 17 (.int v138)).bind fun h141 =>
  (jcv 6 h141 a0 (F_X8_hangAs n a0 a1 h141)).bind fun h146 =>
  some h146
noncomputable def F_X0_remember_63 (n : Nat) (a0 : Nat) (sa0 : Nat) (s1 : Int32) (h : jH) : Option jH :=
  (jpf 0 h sa0 1 (.int s1)).bind fun h63 =>
  (jgI 0 h63 a0 2).bind fun v70 =>
  (jpf 0 h63 a0 2 (.int (if (v70 + (1 : Int32)) < (12 : Int32) then v70 + (1 : Int32) else (12 : Int32)))).bind fun h78 =>
  some h78
noncomputable def F_X0_remember_28 (n : Nat) (a0 : Nat) (a1 : Nat) (h : jH) : Option jH :=
  (jgR 0 h a0 0).bind fun p29 =>
  (jgI 0 h a0 1).bind fun v33 =>
  (jalq h p29 v33).bind fun o36 =>
  match o36 with
  | none => none
  | some p38 =>
  ((jcv 6 h p38 (F_X8_copyFrom n p38 a1 h)).bind fun h38 =>
  (jgI 0 h38 a0 1).bind fun v43 =>
  if (12 : Int32) ≤ (v43 + (1 : Int32)) then (F_X0_remember_63 n a0 a0 (0 : Int32) h38)
  else ((jgI 0 h38 a0 1).bind fun v54 =>
  F_X0_remember_63 n a0 a0 (v54 + (1 : Int32)) h38))
noncomputable def F_X0_remember (n : Nat) (a0 : Nat) (a1 : Nat) (h : jH) : Option jH :=
  (jgR 0 h a0 0).bind fun p1 =>
  (jgI 0 h a0 1).bind fun v5 =>
  (jalq h p1 v5).bind fun o8 =>
  match o8 with
  | none => ((jgR 0 h a0 0).bind fun p13 =>
  (jgI 0 h a0 1).bind fun v17 =>
  (jnw h (.inl (6, [.null, .null, .null, .null, .null, .int 0, .int 0, .int 0, .int 0, .int 0, .int 0, .int 0, .int 0, .int 0, .int 0, .int 0, .int 0, .int 0]))).bind fun h20 =>
  (F_X8_init n h.1 h20).bind fun h24 =>
  (jasq 6 h24 p13 v17 h.1).bind fun h27 =>
  F_X0_remember_28 n a0 a1 h27)
  | some p9 => (F_X0_remember_28 n a0 a1 h)
noncomputable def F_X0_takeBack_18 (n : Nat) (a0 : Nat) (a1 : Nat) (s0 : Int32) (h : jH) : Option (Int32 × jH) :=
  (jgI 0 h a0 2).bind fun v20 =>
  if v20 = 0 then (some ((0 : Int32), h))
  else ((jgR 0 h a0 0).bind fun p27 =>
  (jalq h p27 s0).bind fun o31 =>
  match o31 with
  | none => (some ((0 : Int32), h))
  | some p32 => ((jgR 0 h a0 0).bind fun p39 =>
  (jalq h p39 s0).bind fun o43 =>
  match o43 with
  | none => none
  | some p44_0 =>
  ((jcv 6 h a1 (F_X8_copyFrom n a1 p44_0 h)).bind fun h44 =>
  (jpf 0 h44 a0 1 (.int s0)).bind fun h49 =>
  (jgI 0 h49 a0 2).bind fun v54 =>
  (jpf 0 h49 a0 2 (.int (v54 - (1 : Int32)))).bind fun h59 =>
  some ((1 : Int32), h59))))
noncomputable def F_X0_takeBack (n : Nat) (a0 : Nat) (a1 : Nat) (h : jH) : Option (Int32 × jH) :=
  (jgI 0 h a0 1).bind fun v1 =>
  if v1 ≤ 0 then (F_X0_takeBack_18 n a0 a1 (11 : Int32) h)
  else ((jgI 0 h a0 1).bind fun v8 =>
  F_X0_takeBack_18 n a0 a1 (v8 - (1 : Int32)) h)
noncomputable def F_X0_forget (n : Nat) (a0 : Nat) (h : jH) : Option jH :=
  (jpf 0 h a0 2 (.int (0 : Int32))).bind fun h2 =>
  some h2
noncomputable def F_X1_init (n : Nat) (a0 : Nat) (a1 : Nat) (a2 : Nat) (h : jH) : Option jH :=
  (jpf 1 h a0 0 (.ref a1)).bind fun h6 =>
  (jpf 1 h6 a0 1 (.ref a2)).bind fun h11 =>
  some h11
noncomputable def F_X8_isLit (n : Nat) (a0 : Nat) (x1 : Int32) (x2 : Int32) (h : jH) : Option Int32 :=
  (jgR 6 h a0 0).bind fun p1 =>
  (jal 0 h p1 x1).bind fun v5 =>
  if v5 < ((4 : Int32) * x2) then (some (0 : Int32))
  else ((jgR 6 h a0 0).bind fun p13 =>
  (jal 0 h p13 x1).bind fun v17 =>
  (jgI 6 h a0 12).bind fun v22 =>
  if (((4 : Int32) * x2) + v22) < v17 then (some (0 : Int32))
  else (some (1 : Int32)))
noncomputable def F_X2_untoldAmount (n : Nat) (x0 : Int32) (a1 : Nat) (x2 : Int32) (h : jH) : Option Int32 :=
  if x0 = 0 then ((jgI 6 h a1 13).bind fun v7 =>
  (jcv 6 h a1 (F_X8_isLit n a1 x2 v7 h)).bind fun v10 =>
  if v10 = 0 then (some (0 : Int32))
  else (some (1 : Int32)))
  else (if x0 = (1 : Int32) then (some (10 : Int32))
  else (some (0 : Int32)))
noncomputable def F_X2_isValue (n : Nat) (x0 : Int32) (h : jH) : Option Int32 :=
  if (256 : Int32) ≤ x0 then (some (1 : Int32))
  else (if (10 : Int32) < x0 then (some (0 : Int32))
  else (some (1 : Int32)))
noncomputable def F_X8_gap (n : Nat) (a0 : Nat) (x1 : Int32) (x2 : Int32) (h : jH) : Option Int32 :=
  if x1 < 0 then (some x2)
  else ((jgI 6 h a0 5).bind fun v6 =>
  if x1 < (v6 - (1 : Int32)) then ((jgR 6 h a0 0).bind fun p19 =>
  (jal 0 h p19 (x1 + (1 : Int32))).bind fun v25 =>
  (jgR 6 h a0 0).bind fun p27 =>
  (jal 0 h p27 x1).bind fun v31 =>
  some (v25 - v31))
  else (some x2))
noncomputable def F_X11_bit (n : Nat) (x0 : Int32) (x1 : Int32) (h : jH) : Option Int32 :=
  some ((jushr x0 x1) &&& (1 : Int32))
noncomputable def F_X2_value (n : Nat) (x0 : Int32) (a1 : Nat) (x2 : Int32) (h : jH) : Option Int32 :=
  if x0 = (0 : Int32) then (some x2)
  else if x0 = (1 : Int32) then ((jgR 6 h a1 0).bind fun p63 =>
  (jal 0 h p63 x2).bind fun v67 =>
  some v67)
  else if x0 = (2 : Int32) then ((jcv 6 h a1 (F_X8_gap n a1 x2 (99 : Int32) h)).bind fun v73 =>
  some v73)
  else if x0 = (3 : Int32) then ((jgR 6 h a1 2).bind fun p78 =>
  (jal 0 h p78 x2).bind fun v82 =>
  some v82)
  else if x0 = (4 : Int32) then ((jgR 6 h a1 3).bind fun p85 =>
  (jal 0 h p85 x2).bind fun v89 =>
  some v89)
  else if x0 = (5 : Int32) then ((jgI 6 h a1 13).bind fun v92 =>
  some v92)
  else if x0 = (6 : Int32) then ((jgI 6 h a1 14).bind fun v97 =>
  some v97)
  else if x0 = (7 : Int32) then ((jgI 6 h a1 7).bind fun v102 =>
  (F_X11_bit n v102 x2 h).bind fun v106 =>
  some v106)
  else if x0 = (8 : Int32) then ((jgI 6 h a1 6).bind fun v111 =>
  (F_X11_bit n v111 x2 h).bind fun v115 =>
  some v115)
  else if x0 = (9 : Int32) then ((jgI 6 h a1 13).bind fun v122 =>
  (jcv 6 h a1 (F_X8_isLit n a1 x2 v122 h)).bind fun v125 =>
  if v125 = 0 then (some (0 : Int32))
  else (some (1 : Int32)))
  else if x0 = (10 : Int32) then ((jgI 6 h a1 8).bind fun v138 =>
  (F_X11_bit n v138 x2 h).bind fun v142 =>
  some v142)
  else (some (x0 - (256 : Int32)))
noncomputable def F_X2_push (n : Nat) (a0 : Nat) (x1 : Int32) (h : jH) : Option jH :=
  (jgI 2 h a0 5).bind fun v1 =>
  if (24 : Int32) ≤ v1 then (some h)
  else ((jgR 2 h a0 4).bind fun p10 =>
  (jgI 2 h a0 5).bind fun v14 =>
  (jas 0 h p10 v14 x1).bind fun h18 =>
  (jgI 2 h18 a0 5).bind fun v21 =>
  (jpf 2 h18 a0 5 (.int (v21 + (1 : Int32)))).bind fun h26 =>
  some h26)
noncomputable def F_X2_pop (n : Nat) (a0 : Nat) (h : jH) : Option (Int32 × jH) :=
  (jgI 2 h a0 5).bind fun v1 =>
  if 0 < v1 then ((jgI 2 h a0 5).bind fun v11 =>
  (jpf 2 h a0 5 (.int (v11 - (1 : Int32)))).bind fun h16 =>
  (jgR 2 h16 a0 4).bind fun p20 =>
  (jgI 2 h16 a0 5).bind fun v24 =>
  (jal 0 h16 p20 v24).bind fun v27 =>
  some (v27, h16))
  else (some ((0 : Int32), h))
noncomputable def F_X2_joined (n : Nat) (x0 : Int32) (x1 : Int32) (x2 : Int32) (h : jH) : Option Int32 :=
  if x0 = (12 : Int32) then (some (x1 &&& x2))
  else if x0 = (43 : Int32) then (some (x1 + x2))
  else if x0 = (60 : Int32) then (if x2 ≤ x1 then (some (0 : Int32))
  else (some (1 : Int32)))
  else if x0 = (62 : Int32) then (if x1 ≤ x2 then (some (0 : Int32))
  else (some (1 : Int32)))
  else (some (x1 ||| x2))
noncomputable def F_X2_holds_23_b (n : Nat) (rc23 : Nat → Int32 → Nat → Int32 → Int32 → jH → Option (Int32 × jH)) (a0 : Nat) (x1 : Int32) (a2 : Nat) (x3 : Int32) (x4 : Int32) (h : jH) : Option (Int32 × jH) :=
  (jgR 2 h a0 2).bind fun p26 =>
  (jal 0 h p26 x1).bind fun v30 =>
  if v30 ≤ x4 then ((jgI 2 h a0 5).bind fun v113 =>
  if v113 = 0 then (some ((1 : Int32), h))
  else ((jcv 2 h a0 (F_X2_pop n a0 h)).bind fun q120 =>
  if q120.1 = 0 then (some ((0 : Int32), q120.2))
  else (some ((1 : Int32), q120.2))))
  else ((jgR 2 h a0 3).bind fun p35 =>
  (jal 0 h p35 x4).bind fun v40 =>
  (F_X2_isValue n v40 h).bind fun v45 =>
  if v45 = 0 then (if v40 = (11 : Int32) then ((jcv 2 h a0 (F_X2_pop n a0 h)).bind fun q75 =>
  (jcv 2 q75.2 a0 (F_X2_push n a0 ((1 : Int32) - q75.1) q75.2)).bind fun h79 =>
  rc23 a0 x1 a2 x3 (x4 + (1 : Int32)) h79)
  else ((jcv 2 h a0 (F_X2_pop n a0 h)).bind fun q86 =>
  (jcv 2 q86.2 a0 (F_X2_pop n a0 q86.2)).bind fun q95 =>
  (F_X2_joined n v40 q95.1 q86.1 q95.2).bind fun v100 =>
  (jcv 2 q95.2 a0 (F_X2_push n a0 v100 q95.2)).bind fun h103 =>
  rc23 a0 x1 a2 x3 (x4 + (1 : Int32)) h103))
  else ((F_X2_value n v40 a2 x3 h).bind fun v56 =>
  (jcv 2 h a0 (F_X2_push n a0 v56 h)).bind fun h59 =>
  rc23 a0 x1 a2 x3 (x4 + (1 : Int32)) h59))
noncomputable def F_X2_holds_23 (n : Nat) : Nat → Nat → Int32 → Nat → Int32 → Int32 → jH → Option (Int32 × jH)
  | 0 => fun _ _ _ _ _ _ => none
  | k + 1 => F_X2_holds_23_b n (F_X2_holds_23 n k)
noncomputable def F_X2_holds (n : Nat) (a0 : Nat) (x1 : Int32) (a2 : Nat) (x3 : Int32) (h : jH) : Option (Int32 × jH) :=
  (jpf 2 h a0 5 (.int (0 : Int32))).bind fun h2 =>
  if x1 = 0 then (F_X2_holds_23 n n a0 x1 a2 x3 (0 : Int32) h2)
  else ((jgR 2 h2 a0 2).bind fun p14 =>
  (jal 0 h2 p14 (x1 - (1 : Int32))).bind fun v20 =>
  F_X2_holds_23 n n a0 x1 a2 x3 v20 h2)
noncomputable def F_X2_amount_20_b (n : Nat) (rc20 : Nat → Int32 → Nat → Int32 → Int32 → Int32 → jH → Option (Int32 × jH)) (a0 : Nat) (x1 : Int32) (a2 : Nat) (x3 : Int32) (x4 : Int32) (x5 : Int32) (h : jH) : Option (Int32 × jH) :=
  (jgI 2 h a0 8).bind fun v23 =>
  if v23 ≤ x5 then (some (x4, h))
  else ((jgR 2 h a0 0).bind fun p30 =>
  (jal 0 h p30 x5).bind fun v35 =>
  if v35 = x1 then ((jcv 2 h a0 (F_X2_holds n a0 x5 a2 x3 h)).bind fun q45 =>
  if q45.1 = 0 then (rc20 a0 x1 a2 x3 x4 (x5 + (1 : Int32)) q45.2)
  else ((jgR 2 q45.2 a0 1).bind fun p54 =>
  (jal 0 q45.2 p54 x5).bind fun v59 =>
  rc20 a0 x1 a2 x3 (x4 + v59) (x5 + (1 : Int32)) q45.2))
  else (rc20 a0 x1 a2 x3 x4 (x5 + (1 : Int32)) h))
noncomputable def F_X2_amount_20 (n : Nat) : Nat → Nat → Int32 → Nat → Int32 → Int32 → Int32 → jH → Option (Int32 × jH)
  | 0 => fun _ _ _ _ _ _ _ => none
  | k + 1 => F_X2_amount_20_b n (F_X2_amount_20 n k)
noncomputable def F_X2_amount (n : Nat) (a0 : Nat) (x1 : Int32) (a2 : Nat) (x3 : Int32) (h : jH) : Option (Int32 × jH) :=
  (jgI 2 h a0 7).bind fun v1 =>
  if v1 = 0 then ((F_X2_untoldAmount n x1 a2 x3 h).bind fun v10 =>
  some (v10, h))
  else (F_X2_amount_20 n n a0 x1 a2 x3 (0 : Int32) (0 : Int32) h)
noncomputable def F_X1_fadeAll_2_b (n : Nat) (rc2 : Nat → Nat → Int32 → jH → Option jH) (a0 : Nat) (a1 : Nat) (x2 : Int32) (h : jH) : Option jH :=
  (jgI 6 h a1 5).bind fun v4 =>
  if v4 ≤ x2 then (some h)
  else ((jgR 6 h a1 2).bind fun p11 =>
  (jgR 6 h a1 2).bind fun p18 =>
  (jal 0 h p18 x2).bind fun v22 =>
  (jgR 1 h a0 0).bind fun p24 =>
  (jcv 2 h p24 (F_X2_amount n p24 (0 : Int32) a1 x2 h)).bind fun q30 =>
  (jas 0 q30.2 p11 x2 (if (v22 + q30.1) < (99 : Int32) then v22 + q30.1 else (99 : Int32))).bind fun h37 =>
  rc2 a0 a1 (x2 + (1 : Int32)) h37)
noncomputable def F_X1_fadeAll_2 (n : Nat) : Nat → Nat → Nat → Int32 → jH → Option jH
  | 0 => fun _ _ _ _ => none
  | k + 1 => F_X1_fadeAll_2_b n (F_X1_fadeAll_2 n k)
noncomputable def F_X1_fadeAll (n : Nat) (a0 : Nat) (a1 : Nat) (h : jH) : Option jH :=
  F_X1_fadeAll_2 n n a0 a1 (0 : Int32) h
noncomputable def F_X1_draw (n : Nat) (a0 : Nat) (h : jH) : Option (Int32 × jH) :=
  (jgI 6 h a0 16).bind fun v4 =>
  (jpf 6 h a0 16 (.int (((1103515245 : Int32) * v4) + (12345 : Int32)))).bind fun h12 =>
  (jgI 6 h12 a0 16).bind fun v16 =>
  some (((jushr v16 (16 : Int32)) &&& (32767 : Int32)) - ((jushr v16 (16 : Int32)) &&& (32767 : Int32)) / (100 : Int32) * (100 : Int32), h12)
noncomputable def F_X11_withBit (n : Nat) (x0 : Int32) (x1 : Int32) (x2 : Int32) (h : jH) : Option Int32 :=
  if x2 = 0 then (some (x0 &&& (((1 : Int32) <<< (x1 &&& 31)) ^^^ (-1 : Int32))))
  else (some (x0 ||| ((1 : Int32) <<< (x1 &&& 31))))
noncomputable def F_X5_add_90 (n : Nat) (a0 : Nat) (sa0 : Nat) (s1 : Int32) (h : jH) : Option jH :=
  (jpf 4 h sa0 2 (.int s1)).bind fun h90 =>
  (jgI 4 h90 a0 1).bind fun v97 =>
  (jpf 4 h90 a0 1 (.int (if (v97 + (1 : Int32)) < (60 : Int32) then v97 + (1 : Int32) else (60 : Int32)))).bind fun h105 =>
  some h105
noncomputable def F_X5_add (n : Nat) (a0 : Nat) (a1 : Nat) (x2 : Int32) (x3 : Int32) (x4 : Int32) (h : jH) : Option jH :=
  (jgR 4 h a0 0).bind fun p1 =>
  (jgI 4 h a0 2).bind fun v5 =>
  (jgI 6 h a1 14).bind fun v9 =>
  (jgI 6 h a1 13).bind fun v19 =>
  (jgR 6 h a1 0).bind fun p55 =>
  (jal 0 h p55 x2).bind fun v59 =>
  (jas 0 h p1 v5 ((((((v9 <<< ((18 : Int32) &&& 31)) ||| (v19 <<< ((15 : Int32) &&& 31))) ||| (x2 <<< ((12 : Int32) &&& 31))) ||| (x3 <<< ((10 : Int32) &&& 31))) ||| (x4 <<< ((5 : Int32) &&& 31))) ||| (v59 <<< ((0 : Int32) &&& 31)))).bind fun h67 =>
  (jgI 4 h67 a0 2).bind fun v70 =>
  if (60 : Int32) ≤ (v70 + (1 : Int32)) then (F_X5_add_90 n a0 a0 (0 : Int32) h67)
  else ((jgI 4 h67 a0 2).bind fun v81 =>
  F_X5_add_90 n a0 a0 (v81 + (1 : Int32)) h67)
noncomputable def F_X1_catchSome_4_b (n : Nat) (rc4 : Nat → Nat → Int32 → Int32 → jH → Option (Int32 × jH)) (a0 : Nat) (a1 : Nat) (x2 : Int32) (x3 : Int32) (h : jH) : Option (Int32 × jH) :=
  (jgI 6 h a1 5).bind fun v6 =>
  if v6 ≤ x3 then (some (x2, h))
  else ((jcv 6 h a1 (F_X8_gap n a1 x3 (-1 : Int32) h)).bind fun v15 =>
  if v15 = (1 : Int32) then ((jgI 6 h a1 9).bind fun v23 =>
  (F_X11_bit n v23 x3 h).bind fun v27 =>
  if v27 = 0 then ((F_X1_draw n a1 h).bind fun q34 =>
  (jgR 1 q34.2 a0 0).bind fun p38 =>
  (jcv 2 q34.2 p38 (F_X2_amount n p38 (1 : Int32) a1 x3 q34.2)).bind fun q44 =>
  if q44.1 ≤ q34.1 then (rc4 a0 a1 x2 (x3 + (1 : Int32)) q44.2)
  else ((jgI 6 q44.2 a1 9).bind fun v52 =>
  (F_X11_withBit n v52 x3 (1 : Int32) q44.2).bind fun v57 =>
  (jpf 6 q44.2 a1 9 (.int v57)).bind fun h60 =>
  (jgR 6 h60 a1 4).bind fun p64 =>
  (jcv 4 h60 p64 (F_X5_add n p64 a1 x3 (1 : Int32) (0 : Int32) h60)).bind fun h71 =>
  rc4 a0 a1 (x2 + (1 : Int32)) (x3 + (1 : Int32)) h71))
  else (rc4 a0 a1 x2 (x3 + (1 : Int32)) h))
  else (rc4 a0 a1 x2 (x3 + (1 : Int32)) h))
noncomputable def F_X1_catchSome_4 (n : Nat) : Nat → Nat → Nat → Int32 → Int32 → jH → Option (Int32 × jH)
  | 0 => fun _ _ _ _ _ => none
  | k + 1 => F_X1_catchSome_4_b n (F_X1_catchSome_4 n k)
noncomputable def F_X1_catchSome (n : Nat) (a0 : Nat) (a1 : Nat) (h : jH) : Option (Int32 × jH) :=
  F_X1_catchSome_4 n n a0 a1 (0 : Int32) (0 : Int32) h
noncomputable def F_X1_dropSome_4_b (n : Nat) (rc4 : Nat → Nat → Int32 → Int32 → jH → Option (Int32 × jH)) (a0 : Nat) (a1 : Nat) (x2 : Int32) (x3 : Int32) (h : jH) : Option (Int32 × jH) :=
  (jgI 6 h a1 5).bind fun v6 =>
  if v6 ≤ x3 then (some (x2, h))
  else ((jgI 6 h a1 8).bind fun v13 =>
  (F_X11_bit n v13 x3 h).bind fun v17 =>
  if v17 = (1 : Int32) then ((F_X1_draw n a1 h).bind fun q25 =>
  (jgR 1 q25.2 a0 0).bind fun p29 =>
  (jcv 2 q25.2 p29 (F_X2_amount n p29 (2 : Int32) a1 x3 q25.2)).bind fun q35 =>
  if q35.1 ≤ q25.1 then (rc4 a0 a1 x2 (x3 + (1 : Int32)) q35.2)
  else ((jgI 6 q35.2 a1 8).bind fun v43 =>
  (F_X11_withBit n v43 x3 (0 : Int32) q35.2).bind fun v48 =>
  (jpf 6 q35.2 a1 8 (.int v48)).bind fun h51 =>
  (jgR 6 h51 a1 4).bind fun p55 =>
  (jcv 4 h51 p55 (F_X5_add n p55 a1 x3 (2 : Int32) (0 : Int32) h51)).bind fun h62 =>
  rc4 a0 a1 (x2 + (1 : Int32)) (x3 + (1 : Int32)) h62))
  else (rc4 a0 a1 x2 (x3 + (1 : Int32)) h))
noncomputable def F_X1_dropSome_4 (n : Nat) : Nat → Nat → Nat → Int32 → Int32 → jH → Option (Int32 × jH)
  | 0 => fun _ _ _ _ _ => none
  | k + 1 => F_X1_dropSome_4_b n (F_X1_dropSome_4 n k)
noncomputable def F_X1_dropSome (n : Nat) (a0 : Nat) (a1 : Nat) (h : jH) : Option (Int32 × jH) :=
  F_X1_dropSome_4 n n a0 a1 (0 : Int32) (0 : Int32) h
noncomputable def F_X1_turn (n : Nat) (a0 : Nat) (h : jH) : Option jH :=
  (jgI 6 h a0 13).bind fun v2 =>
  (jpf 6 h a0 13 (.int (v2 + (1 : Int32)))).bind fun h7 =>
  (jgI 6 h7 a0 13).bind fun v11 =>
  if v11 < (8 : Int32) then (some h7)
  else ((jpf 6 h7 a0 13 (.int (0 : Int32))).bind fun h21 =>
  (jgI 6 h21 a0 14).bind fun v29 =>
  (jpf 6 h21 a0 14 (.int (if (v29 + (1 : Int32)) < (9999 : Int32) then v29 + (1 : Int32) else (9999 : Int32)))).bind fun h37 =>
  some h37)
noncomputable def F_X1_run_5_b (n : Nat) (rc5 : Nat → Nat → Int32 → Int32 → Int32 → jH → Option (Int32 × jH)) (a0 : Nat) (a1 : Nat) (x2 : Int32) (x3 : Int32) (x4 : Int32) (h : jH) : Option (Int32 × jH) :=
  if x2 ≤ x4 then (some (x3, h))
  else ((jcv 1 h a0 (F_X1_fadeAll n a0 a1 h)).bind fun h13 =>
  (jcv 1 h13 a0 (F_X1_catchSome n a0 a1 h13)).bind fun q19 =>
  (jcv 1 q19.2 a0 (F_X1_dropSome n a0 a1 q19.2)).bind fun q24 =>
  (F_X1_turn n a1 q24.2).bind fun h31 =>
  rc5 a0 a1 x2 (x3 + (q19.1 + q24.1)) (x4 + (1 : Int32)) h31)
noncomputable def F_X1_run_5 (n : Nat) : Nat → Nat → Nat → Int32 → Int32 → Int32 → jH → Option (Int32 × jH)
  | 0 => fun _ _ _ _ _ _ => none
  | k + 1 => F_X1_run_5_b n (F_X1_run_5 n k)
noncomputable def F_X1_run (n : Nat) (a0 : Nat) (a1 : Nat) (x2 : Int32) (h : jH) : Option (Int32 × jH) :=
  F_X1_run_5 n n a0 a1 x2 (0 : Int32) (0 : Int32) h
noncomputable def F_X1_tryHours (n : Nat) (a0 : Nat) (a1 : Nat) (x2 : Int32) (x3 : Int32) (h : jH) : Option jH :=
  (jgR 1 h a0 1).bind fun p1 =>
  (jcv 6 h p1 (F_X8_copyFrom n p1 a1 h)).bind fun h5 =>
  (jgR 1 h5 a0 1).bind fun p9 =>
  (jpf 6 h5 p9 16 (.int x3)).bind fun h13 =>
  (jgR 1 h13 a0 1).bind fun p18 =>
  (jcv 1 h13 a0 (F_X1_run n a0 p18 x2 h13)).bind fun q22 =>
  some q22.2
noncomputable def F_X1_goAhead_10_b (n : Nat) (rc10 : Nat → Int32 → Int32 → jH → Option jH) (a0 : Nat) (x2 : Int32) (x3 : Int32) (h : jH) : Option jH :=
  if x2 ≤ x3 then (some h)
  else ((jgR 1 h a0 1).bind fun p17 =>
  (jcv 1 h a0 (F_X1_fadeAll n a0 p17 h)).bind fun h20 =>
  (jgR 1 h20 a0 1).bind fun p24 =>
  (F_X1_turn n p24 h20).bind fun h27 =>
  rc10 a0 x2 (x3 + (1 : Int32)) h27)
noncomputable def F_X1_goAhead_10 (n : Nat) : Nat → Nat → Int32 → Int32 → jH → Option jH
  | 0 => fun _ _ _ _ => none
  | k + 1 => F_X1_goAhead_10_b n (F_X1_goAhead_10 n k)
noncomputable def F_X1_goAhead (n : Nat) (a0 : Nat) (a1 : Nat) (x2 : Int32) (h : jH) : Option jH :=
  (jgR 1 h a0 1).bind fun p1 =>
  (jcv 6 h p1 (F_X8_copyFrom n p1 a1 h)).bind fun h5 =>
  F_X1_goAhead_10 n n a0 x2 (0 : Int32) h5
noncomputable def F_X1_isSomePale_2_b (n : Nat) (rc2 : Nat → Int32 → jH → Option Int32) (a0 : Nat) (x1 : Int32) (h : jH) : Option Int32 :=
  (jgI 6 h a0 5).bind fun v4 =>
  if v4 ≤ x1 then (some (0 : Int32))
  else ((jgR 6 h a0 2).bind fun p11 =>
  (jal 0 h p11 x1).bind fun v15 =>
  if v15 = (99 : Int32) then (some (1 : Int32))
  else (rc2 a0 (x1 + (1 : Int32)) h))
noncomputable def F_X1_isSomePale_2 (n : Nat) : Nat → Nat → Int32 → jH → Option Int32
  | 0 => fun _ _ _ => none
  | k + 1 => F_X1_isSomePale_2_b n (F_X1_isSomePale_2 n k)
noncomputable def F_X1_isSomePale (n : Nat) (a0 : Nat) (h : jH) : Option Int32 :=
  F_X1_isSomePale_2 n n a0 (0 : Int32) h
noncomputable def F_X1_firstPale_10_b (n : Nat) (rc10 : Nat → Int32 → jH → Option (Int32 × jH)) (a0 : Nat) (x2 : Int32) (h : jH) : Option (Int32 × jH) :=
  if (80 : Int32) < x2 then (some ((-1 : Int32), h))
  else ((jgR 1 h a0 1).bind fun p17 =>
  (F_X1_isSomePale n p17 h).bind fun v20 =>
  if v20 = 0 then ((jgR 1 h a0 1).bind fun p30 =>
  (jcv 1 h a0 (F_X1_fadeAll n a0 p30 h)).bind fun h33 =>
  (jgR 1 h33 a0 1).bind fun p37 =>
  (F_X1_turn n p37 h33).bind fun h40 =>
  rc10 a0 (x2 + (1 : Int32)) h40)
  else (some (x2, h)))
noncomputable def F_X1_firstPale_10 (n : Nat) : Nat → Nat → Int32 → jH → Option (Int32 × jH)
  | 0 => fun _ _ _ => none
  | k + 1 => F_X1_firstPale_10_b n (F_X1_firstPale_10 n k)
noncomputable def F_X1_firstPale (n : Nat) (a0 : Nat) (a1 : Nat) (h : jH) : Option (Int32 × jH) :=
  (jgR 1 h a0 1).bind fun p1 =>
  (jcv 6 h p1 (F_X8_copyFrom n p1 a1 h)).bind fun h5 =>
  F_X1_firstPale_10 n n a0 (0 : Int32) h5
noncomputable def F_X1_oddsToStay_25_b (n : Nat) (rc25 : Int32 → Int32 → Int32 → Int32 → jH → Option (Int32 × jH)) (x3 : Int32) (x4 : Int32) (x5 : Int32) (x6 : Int32) (h : jH) : Option (Int32 × jH) :=
  if x3 ≤ x6 then (some (x5, h))
  else (rc25 x3 x4 ((x5 * ((100 : Int32) - x4)) / (100 : Int32)) (x6 + (1 : Int32)) h)
noncomputable def F_X1_oddsToStay_25 (n : Nat) : Nat → Int32 → Int32 → Int32 → Int32 → jH → Option (Int32 × jH)
  | 0 => fun _ _ _ _ _ => none
  | k + 1 => F_X1_oddsToStay_25_b n (F_X1_oddsToStay_25 n k)
noncomputable def F_X1_oddsToStay (n : Nat) (a0 : Nat) (a1 : Nat) (x2 : Int32) (x3 : Int32) (h : jH) : Option (Int32 × jH) :=
  (jgR 1 h a0 0).bind fun p3 =>
  (jcv 2 h p3 (F_X2_amount n p3 (2 : Int32) a1 x2 h)).bind fun q9 =>
  F_X1_oddsToStay_25 n n x3 (if q9.1 < (100 : Int32) then q9.1 else (100 : Int32)) (10000 : Int32) (0 : Int32) q9.2
noncomputable def F_X2_init (n : Nat) (a0 : Nat) (h : jH) : Option jH :=
  (jnw h (.inr (.inl (0, 12, fun _ => 0)))).bind fun h7 =>
  (jpf 2 h7 a0 0 (.ref h.1)).bind fun h9 =>
  (jnw h9 (.inr (.inl (0, 12, fun _ => 0)))).bind fun h15 =>
  (jpf 2 h15 a0 1 (.ref h9.1)).bind fun h17 =>
  (jnw h17 (.inr (.inl (0, 12, fun _ => 0)))).bind fun h23 =>
  (jpf 2 h23 a0 2 (.ref h17.1)).bind fun h25 =>
  (jnw h25 (.inr (.inl (0, 400, fun _ => 0)))).bind fun h32 =>
  (jpf 2 h32 a0 3 (.ref h25.1)).bind fun h34 =>
  (jnw h34 (.inr (.inl (0, 24, fun _ => 0)))).bind fun h40 =>
  (jpf 2 h40 a0 4 (.ref h34.1)).bind fun h42 =>
  some h42
noncomputable def F_X2_begin (n : Nat) (a0 : Nat) (h : jH) : Option jH :=
  (jpf 2 h a0 7 (.int (1 : Int32))).bind fun h2 =>
  (jpf 2 h2 a0 8 (.int (0 : Int32))).bind fun h7 =>
  (jpf 2 h7 a0 6 (.int (0 : Int32))).bind fun h12 =>
  some h12
noncomputable def F_X2_copyFrom (n : Nat) (a0 : Nat) (a1 : Nat) (h : jH) : Option jH :=
  (jgR 2 h a1 0).bind fun p1 =>
  (jgR 2 h a0 0).bind fun p6 =>
  (jcp h p1 (0 : Int32) p6 (0 : Int32) (12 : Int32)).bind fun h12 =>
  (jgR 2 h12 a1 1).bind fun p16 =>
  (jgR 2 h12 a0 1).bind fun p21 =>
  (jcp h12 p16 (0 : Int32) p21 (0 : Int32) (12 : Int32)).bind fun h27 =>
  (jgR 2 h27 a1 2).bind fun p31 =>
  (jgR 2 h27 a0 2).bind fun p36 =>
  (jcp h27 p31 (0 : Int32) p36 (0 : Int32) (12 : Int32)).bind fun h42 =>
  (jgR 2 h42 a1 3).bind fun p46 =>
  (jgR 2 h42 a0 3).bind fun p51 =>
  (jcp h42 p46 (0 : Int32) p51 (0 : Int32) (400 : Int32)).bind fun h58 =>
  (jgI 2 h58 a1 6).bind fun v63 =>
  (jpf 2 h58 a0 6 (.int v63)).bind fun h66 =>
  (jgI 2 h66 a1 7).bind fun v71 =>
  if v71 = 0 ∨ v71 = 1 then
  ((jpf 2 h66 a0 7 (.int v71)).bind fun h74 =>
  (jgI 2 h74 a1 8).bind fun v79 =>
  (jpf 2 h74 a0 8 (.int v79)).bind fun h82 =>
  some h82
  ) else none
noncomputable def F_X2_addLine (n : Nat) (a0 : Nat) (x1 : Int32) (x2 : Int32) (h : jH) : Option jH :=
  (jgI 2 h a0 8).bind fun v1 =>
  if (12 : Int32) ≤ v1 then (some h)
  else ((jgR 2 h a0 0).bind fun p10 =>
  (jgI 2 h a0 8).bind fun v14 =>
  (jas 0 h p10 v14 x1).bind fun h18 =>
  (jgR 2 h18 a0 1).bind fun p20 =>
  (jgI 2 h18 a0 8).bind fun v24 =>
  (jas 0 h18 p20 v24 x2).bind fun h28 =>
  (jgR 2 h28 a0 2).bind fun p30 =>
  (jgI 2 h28 a0 8).bind fun v34 =>
  (jgI 2 h28 a0 6).bind fun v38 =>
  (jas 0 h28 p30 v34 v38).bind fun h41 =>
  (jgI 2 h41 a0 8).bind fun v44 =>
  (jpf 2 h41 a0 8 (.int (v44 + (1 : Int32)))).bind fun h49 =>
  some h49)
noncomputable def F_X2_addCode (n : Nat) (a0 : Nat) (x1 : Int32) (h : jH) : Option jH :=
  (jgI 2 h a0 6).bind fun v1 =>
  if (400 : Int32) ≤ v1 then (some h)
  else ((jgI 2 h a0 8).bind fun v11 =>
  if v11 ≤ 0 then (some h)
  else ((jgR 2 h a0 3).bind fun p18 =>
  (jgI 2 h a0 6).bind fun v22 =>
  (jas 0 h p18 v22 x1).bind fun h26 =>
  (jgI 2 h26 a0 6).bind fun v29 =>
  (jpf 2 h26 a0 6 (.int (v29 + (1 : Int32)))).bind fun h34 =>
  (jgR 2 h34 a0 2).bind fun p38 =>
  (jgI 2 h34 a0 8).bind fun v42 =>
  (jgI 2 h34 a0 6).bind fun v48 =>
  (jas 0 h34 p38 (v42 - (1 : Int32)) v48).bind fun h51 =>
  some h51))
noncomputable def F_J9_floorMod_7cf53 (n : Nat) (x0 : Int32) (x1 : Int32) (h : jH) : Option Int32 :=
  if x1 = 0 then none else
  if 0 ≤ (x0 ^^^ x1) then (some (x0 - x0 / x1 * x1))
  else (if (x0 - x0 / x1 * x1) = 0 then (some (x0 - x0 / x1 * x1))
  else (some ((x0 - x0 / x1 * x1) + x1)))
noncomputable def F_X5_read (n : Nat) (a0 : Nat) (x1 : Int32) (x2 : Int32) (h : jH) : Option Int32 :=
  if x1 < 0 then (some (-1 : Int32))
  else ((jgI 4 h a0 1).bind fun v6 =>
  if v6 ≤ x1 then (some (-1 : Int32))
  else (if x2 < 0 then (some (-1 : Int32))
  else (if x2 < (6 : Int32) then ((jgR 4 h a0 0).bind fun p25 =>
  (jgI 4 h a0 2).bind fun v29 =>
  (F_J9_floorMod_7cf53 n ((v29 - (1 : Int32)) - x1) (60 : Int32) h).bind fun v38 =>
  (jal 0 h p25 v38).bind fun v41 =>
  if x2 < 0 ∨ 6 ≤ x2.toNatClampNeg then none else
  if x2 < 0 ∨ 6 ≤ x2.toNatClampNeg then none else
  some ((jushr v41 (jshf.getD x2.toNatClampNeg 0)) &&& (jmsk.getD x2.toNatClampNeg 0)))
  else (some (-1 : Int32)))))
noncomputable def F_X5_rowsOf_4_b (n : Nat) (rc4 : Nat → Int32 → Int32 → Int32 → jH → Option Int32) (a0 : Nat) (x1 : Int32) (x2 : Int32) (x3 : Int32) (h : jH) : Option Int32 :=
  (jgI 4 h a0 1).bind fun v6 =>
  if v6 ≤ x3 then (some x2)
  else ((jcv 4 h a0 (F_X5_read n a0 x3 (2 : Int32) h)).bind fun v15 =>
  if v15 = x1 then (rc4 a0 x1 (x2 + (1 : Int32)) (x3 + (1 : Int32)) h)
  else (rc4 a0 x1 x2 (x3 + (1 : Int32)) h))
noncomputable def F_X5_rowsOf_4 (n : Nat) : Nat → Nat → Int32 → Int32 → Int32 → jH → Option Int32
  | 0 => fun _ _ _ _ _ => none
  | k + 1 => F_X5_rowsOf_4_b n (F_X5_rowsOf_4 n k)
noncomputable def F_X5_rowsOf (n : Nat) (a0 : Nat) (x1 : Int32) (h : jH) : Option Int32 :=
  F_X5_rowsOf_4 n n a0 x1 (0 : Int32) (0 : Int32) h
noncomputable def F_X5_latestPlace_2_b (n : Nat) (rc2 : Nat → Int32 → Int32 → jH → Option Int32) (a0 : Nat) (x1 : Int32) (x2 : Int32) (h : jH) : Option Int32 :=
  (jgI 4 h a0 1).bind fun v4 =>
  if v4 ≤ x2 then (some (-1 : Int32))
  else ((jcv 4 h a0 (F_X5_read n a0 x2 (2 : Int32) h)).bind fun v13 =>
  if v13 = x1 then ((jcv 4 h a0 (F_X5_read n a0 x2 (5 : Int32) h)).bind fun v23 =>
  some v23)
  else (rc2 a0 x1 (x2 + (1 : Int32)) h))
noncomputable def F_X5_latestPlace_2 (n : Nat) : Nat → Nat → Int32 → Int32 → jH → Option Int32
  | 0 => fun _ _ _ _ => none
  | k + 1 => F_X5_latestPlace_2_b n (F_X5_latestPlace_2 n k)
noncomputable def F_X5_latestPlace (n : Nat) (a0 : Nat) (x1 : Int32) (h : jH) : Option Int32 :=
  F_X5_latestPlace_2 n n a0 x1 (0 : Int32) h
noncomputable def F_X6_hangsBy_22_b (n : Nat) (rc22 : Nat → Int32 → Int32 → Int32 → Int32 → jH → Option Int32) (a0 : Nat) (x1 : Int32) (x2 : Int32) (x3 : Int32) (x4 : Int32) (h : jH) : Option Int32 :=
  (jgI 6 h a0 5).bind fun v25 =>
  if v25 ≤ x4 then (some x2)
  else ((jgR 6 h a0 0).bind fun p32 =>
  (jal 0 h p32 x4).bind fun v37 =>
  (jgR 6 h a0 0).bind fun p39 =>
  (jal 0 h p39 x1).bind fun v43 =>
  (jgI 6 h a0 8).bind fun v51 =>
  (F_X11_bit n v51 x4 h).bind fun v56 =>
  if v56 = (1 : Int32) then (if x3 ≤ (if 0 ≤ v37 - v43 then v37 - v43 else 0 - (v37 - v43)) then (rc22 a0 x1 x2 x3 (x4 + (1 : Int32)) h)
  else (rc22 a0 x1 x4 (if 0 ≤ v37 - v43 then v37 - v43 else 0 - (v37 - v43)) (x4 + (1 : Int32)) h))
  else (rc22 a0 x1 x2 x3 (x4 + (1 : Int32)) h))
noncomputable def F_X6_hangsBy_22 (n : Nat) : Nat → Nat → Int32 → Int32 → Int32 → Int32 → jH → Option Int32
  | 0 => fun _ _ _ _ _ _ => none
  | k + 1 => F_X6_hangsBy_22_b n (F_X6_hangsBy_22 n k)
noncomputable def F_X6_hangsBy (n : Nat) (a0 : Nat) (x1 : Int32) (h : jH) : Option Int32 :=
  (jgI 6 h a0 8).bind fun v1 =>
  (F_X11_bit n v1 x1 h).bind fun v5 =>
  if v5 = (1 : Int32) then (some x1)
  else (F_X6_hangsBy_22 n n a0 x1 (-1 : Int32) (32 : Int32) (0 : Int32) h)
noncomputable def F_X8_allFades_4_b (n : Nat) (rc4 : Nat → Int32 → Int32 → jH → Option Int32) (a0 : Nat) (x1 : Int32) (x2 : Int32) (h : jH) : Option Int32 :=
  (jgI 6 h a0 5).bind fun v6 =>
  if v6 ≤ x2 then (some x1)
  else ((jgR 6 h a0 2).bind fun p14 =>
  (jal 0 h p14 x2).bind fun v18 =>
  rc4 a0 (x1 + v18) (x2 + (1 : Int32)) h)
noncomputable def F_X8_allFades_4 (n : Nat) : Nat → Nat → Int32 → Int32 → jH → Option Int32
  | 0 => fun _ _ _ _ => none
  | k + 1 => F_X8_allFades_4_b n (F_X8_allFades_4 n k)
noncomputable def F_X8_allFades (n : Nat) (a0 : Nat) (h : jH) : Option Int32 :=
  F_X8_allFades_4 n n a0 (0 : Int32) (0 : Int32) h
noncomputable def F_X6_share (n : Nat) (a0 : Nat) (x1 : Int32) (h : jH) : Option Int32 :=
  (jcv 6 h a0 (F_X8_allFades n a0 h)).bind fun v1 =>
  if v1 = 0 then (some (0 : Int32))
  else ((jgR 6 h a0 2).bind fun p16 =>
  (jal 0 h p16 x1).bind fun v20 =>
  if v1 = 0 then none else
  some (((100 : Int32) * v20) / v1))
noncomputable def F_X6_isInOrder_4_b (n : Nat) (rc4 : Nat → Int32 → Int32 → Int32 → jH → Option Int32) (a0 : Nat) (x1 : Int32) (x2 : Int32) (x3 : Int32) (h : jH) : Option Int32 :=
  (jgI 6 h a0 5).bind fun v6 =>
  if v6 ≤ x3 then (some (1 : Int32))
  else ((F_X11_bit n x1 x3 h).bind fun v14 =>
  if v14 = (1 : Int32) then ((jgR 6 h a0 2).bind fun p22 =>
  (jal 0 h p22 x3).bind fun v26 =>
  if x2 ≤ v26 then ((jgR 6 h a0 2).bind fun p34 =>
  (jal 0 h p34 x3).bind fun v38 =>
  rc4 a0 x1 v38 (x3 + (1 : Int32)) h)
  else (some (0 : Int32)))
  else (rc4 a0 x1 x2 (x3 + (1 : Int32)) h))
noncomputable def F_X6_isInOrder_4 (n : Nat) : Nat → Nat → Int32 → Int32 → Int32 → jH → Option Int32
  | 0 => fun _ _ _ _ _ => none
  | k + 1 => F_X6_isInOrder_4_b n (F_X6_isInOrder_4 n k)
noncomputable def F_X6_isInOrder (n : Nat) (a0 : Nat) (x1 : Int32) (h : jH) : Option Int32 :=
  F_X6_isInOrder_4 n n a0 x1 (0 : Int32) (0 : Int32) h
noncomputable def F_J6_bitCount_0f7a4 (n : Nat) (x0 : Int32) (h : jH) : Option Int32 :=
  some ((((((((x0 - ((jushr x0 (1 : Int32)) &&& (1431655765 : Int32))) &&& (858993459 : Int32)) + ((jushr (x0 - ((jushr x0 (1 : Int32)) &&& (1431655765 : Int32))) (2 : Int32)) &&& (858993459 : Int32))) + (jushr (((x0 - ((jushr x0 (1 : Int32)) &&& (1431655765 : Int32))) &&& (858993459 : Int32)) + ((jushr (x0 - ((jushr x0 (1 : Int32)) &&& (1431655765 : Int32))) (2 : Int32)) &&& (858993459 : Int32))) (4 : Int32))) &&& (252645135 : Int32)) + (jushr (((((x0 - ((jushr x0 (1 : Int32)) &&& (1431655765 : Int32))) &&& (858993459 : Int32)) + ((jushr (x0 - ((jushr x0 (1 : Int32)) &&& (1431655765 : Int32))) (2 : Int32)) &&& (858993459 : Int32))) + (jushr (((x0 - ((jushr x0 (1 : Int32)) &&& (1431655765 : Int32))) &&& (858993459 : Int32)) + ((jushr (x0 - ((jushr x0 (1 : Int32)) &&& (1431655765 : Int32))) (2 : Int32)) &&& (858993459 : Int32))) (4 : Int32))) &&& (252645135 : Int32)) (8 : Int32))) + (jushr ((((((x0 - ((jushr x0 (1 : Int32)) &&& (1431655765 : Int32))) &&& (858993459 : Int32)) + ((jushr (x0 - ((jushr x0 (1 : Int32)) &&& (1431655765 : Int32))) (2 : Int32)) &&& (858993459 : Int32))) + (jushr (((x0 - ((jushr x0 (1 : Int32)) &&& (1431655765 : Int32))) &&& (858993459 : Int32)) + ((jushr (x0 - ((jushr x0 (1 : Int32)) &&& (1431655765 : Int32))) (2 : Int32)) &&& (858993459 : Int32))) (4 : Int32))) &&& (252645135 : Int32)) + (jushr (((((x0 - ((jushr x0 (1 : Int32)) &&& (1431655765 : Int32))) &&& (858993459 : Int32)) + ((jushr (x0 - ((jushr x0 (1 : Int32)) &&& (1431655765 : Int32))) (2 : Int32)) &&& (858993459 : Int32))) + (jushr (((x0 - ((jushr x0 (1 : Int32)) &&& (1431655765 : Int32))) &&& (858993459 : Int32)) + ((jushr (x0 - ((jushr x0 (1 : Int32)) &&& (1431655765 : Int32))) (2 : Int32)) &&& (858993459 : Int32))) (4 : Int32))) &&& (252645135 : Int32)) (8 : Int32))) (16 : Int32))) &&& (63 : Int32))
noncomputable def F_X6_outOfOrder_4_b (n : Nat) (rc4 : Nat → Int32 → Int32 → jH → Option Int32) (a0 : Nat) (x1 : Int32) (x2 : Int32) (h : jH) : Option Int32 :=
  (jgI 6 h a0 5).bind fun v7 =>
  if ((1 : Int32) <<< (v7 &&& 31)) ≤ x2 then ((jgI 6 h a0 5).bind fun v38 =>
  some (v38 - x1))
  else ((F_X6_isInOrder n a0 x2 h).bind fun v16 =>
  if v16 = 0 then (rc4 a0 x1 (x2 + (1 : Int32)) h)
  else ((F_J6_bitCount_0f7a4 n x2 h).bind fun v24 =>
  rc4 a0 (if x1 < v24 then v24 else x1) (x2 + (1 : Int32)) h))
noncomputable def F_X6_outOfOrder_4 (n : Nat) : Nat → Nat → Int32 → Int32 → jH → Option Int32
  | 0 => fun _ _ _ _ => none
  | k + 1 => F_X6_outOfOrder_4_b n (F_X6_outOfOrder_4 n k)
noncomputable def F_X6_outOfOrder (n : Nat) (a0 : Nat) (h : jH) : Option Int32 :=
  F_X6_outOfOrder_4 n n a0 (0 : Int32) (0 : Int32) h
noncomputable def F_X6_tightest_8_b (n : Nat) (rc8 : Nat → Int32 → Int32 → Int32 → Int32 → jH → Option Int32) (a0 : Nat) (x1 : Int32) (x2 : Int32) (x3 : Int32) (x4 : Int32) (h : jH) : Option Int32 :=
  (jgI 6 h a0 5).bind fun v13 =>
  if v13 < (x4 + x1) then (some x2)
  else ((jgR 6 h a0 0).bind fun p20 =>
  (jal 0 h p20 ((x4 + x1) - (1 : Int32))).bind fun v29 =>
  (jgR 6 h a0 0).bind fun p31 =>
  (jal 0 h p31 x4).bind fun v36 =>
  if x3 ≤ (v29 - v36) then (rc8 a0 x1 x2 x3 (x4 + (1 : Int32)) h)
  else (rc8 a0 x1 x4 (v29 - v36) (x4 + (1 : Int32)) h))
noncomputable def F_X6_tightest_8 (n : Nat) : Nat → Nat → Int32 → Int32 → Int32 → Int32 → jH → Option Int32
  | 0 => fun _ _ _ _ _ _ => none
  | k + 1 => F_X6_tightest_8_b n (F_X6_tightest_8 n k)
noncomputable def F_X6_tightest (n : Nat) (a0 : Nat) (x1 : Int32) (h : jH) : Option Int32 :=
  F_X6_tightest_8 n n a0 x1 (-1 : Int32) (32 : Int32) (0 : Int32) h
noncomputable def F_X6_spareCloth_4_b (n : Nat) (rc4 : Nat → Int32 → Int32 → jH → Option Int32) (a0 : Nat) (x1 : Int32) (x2 : Int32) (h : jH) : Option Int32 :=
  (jgI 6 h a0 5).bind fun v8 =>
  if v8 ≤ (x2 + (1 : Int32)) then (some x1)
  else ((jgR 6 h a0 1).bind fun p16 =>
  (jal 0 h p16 x2).bind fun v20 =>
  (jcv 6 h a0 (F_X8_gap n a0 x2 (0 : Int32) h)).bind fun v24 =>
  rc4 a0 (x1 + (v20 - v24)) (x2 + (1 : Int32)) h)
noncomputable def F_X6_spareCloth_4 (n : Nat) : Nat → Nat → Int32 → Int32 → jH → Option Int32
  | 0 => fun _ _ _ _ => none
  | k + 1 => F_X6_spareCloth_4_b n (F_X6_spareCloth_4 n k)
noncomputable def F_X6_spareCloth (n : Nat) (a0 : Nat) (h : jH) : Option Int32 :=
  F_X6_spareCloth_4 n n a0 (0 : Int32) (0 : Int32) h
noncomputable def F_X6_tautRings_36 (n : Nat) (rc4 : Nat → Int32 → Int32 → jH → Option Int32) (a0 : Nat) (x2 : Int32) (s0 : Int32) (s1 : Int32) (s2 : Int32) (h : jH) : Option Int32 :=
  (F_X11_withBit n s0 s1 s2 h).bind fun v36 =>
  rc4 a0 v36 (x2 + (1 : Int32)) h
noncomputable def F_X6_tautRings_4_b (n : Nat) (rc4 : Nat → Int32 → Int32 → jH → Option Int32) (a0 : Nat) (x1 : Int32) (x2 : Int32) (h : jH) : Option Int32 :=
  (jgI 6 h a0 5).bind fun v8 =>
  if v8 ≤ (x2 + (1 : Int32)) then (some x1)
  else ((jcv 6 h a0 (F_X8_gap n a0 x2 (0 : Int32) h)).bind fun v19 =>
  (jgR 6 h a0 1).bind fun p23 =>
  (jal 0 h p23 x2).bind fun v27 =>
  if v19 = v27 then (F_X6_tautRings_36 n rc4 a0 x2 x1 x2 (1 : Int32) h)
  else (F_X6_tautRings_36 n rc4 a0 x2 x1 x2 (0 : Int32) h))
noncomputable def F_X6_tautRings_4 (n : Nat) : Nat → Nat → Int32 → Int32 → jH → Option Int32
  | 0 => fun _ _ _ _ => none
  | k + 1 => F_X6_tautRings_4_b n (F_X6_tautRings_4 n k)
noncomputable def F_X6_tautRings (n : Nat) (a0 : Nat) (h : jH) : Option Int32 :=
  F_X6_tautRings_4 n n a0 (0 : Int32) (0 : Int32) h
noncomputable def F_X6_litRings_4_b (n : Nat) (rc4 : Nat → Int32 → Int32 → Int32 → jH → Option Int32) (a0 : Nat) (x1 : Int32) (x2 : Int32) (x3 : Int32) (h : jH) : Option Int32 :=
  (jgI 6 h a0 5).bind fun v6 =>
  if v6 ≤ x3 then (some x2)
  else ((jcv 6 h a0 (F_X8_isLit n a0 x3 x1 h)).bind fun v17 =>
  (F_X11_withBit n x2 x3 v17 h).bind fun v20 =>
  rc4 a0 x1 v20 (x3 + (1 : Int32)) h)
noncomputable def F_X6_litRings_4 (n : Nat) : Nat → Nat → Int32 → Int32 → Int32 → jH → Option Int32
  | 0 => fun _ _ _ _ _ => none
  | k + 1 => F_X6_litRings_4_b n (F_X6_litRings_4 n k)
noncomputable def F_X6_litRings (n : Nat) (a0 : Nat) (x1 : Int32) (h : jH) : Option Int32 :=
  F_X6_litRings_4 n n a0 x1 (0 : Int32) (0 : Int32) h
noncomputable def F_X6_litHours_4_b (n : Nat) (rc4 : Nat → Int32 → Int32 → Int32 → jH → Option Int32) (a0 : Nat) (x1 : Int32) (x2 : Int32) (x3 : Int32) (h : jH) : Option Int32 :=
  if (8 : Int32) ≤ x3 then (some x2)
  else ((jcv 6 h a0 (F_X8_isLit n a0 x1 x3 h)).bind fun v13 =>
  if v13 = 0 then (rc4 a0 x1 x2 (x3 + (1 : Int32)) h)
  else (rc4 a0 x1 (x2 + (1 : Int32)) (x3 + (1 : Int32)) h))
noncomputable def F_X6_litHours_4 (n : Nat) : Nat → Nat → Int32 → Int32 → Int32 → jH → Option Int32
  | 0 => fun _ _ _ _ _ => none
  | k + 1 => F_X6_litHours_4_b n (F_X6_litHours_4 n k)
noncomputable def F_X6_litHours (n : Nat) (a0 : Nat) (x1 : Int32) (h : jH) : Option Int32 :=
  F_X6_litHours_4 n n a0 x1 (0 : Int32) (0 : Int32) h
noncomputable def F_X6_sunniest_6_b (n : Nat) (rc6 : Nat → Int32 → Int32 → Int32 → jH → Option Int32) (a0 : Nat) (x1 : Int32) (x2 : Int32) (x3 : Int32) (h : jH) : Option Int32 :=
  (jgI 6 h a0 5).bind fun v8 =>
  if v8 ≤ x3 then (some x1)
  else ((F_X6_litHours n a0 x3 h).bind fun v16 =>
  if v16 ≤ x2 then (rc6 a0 x1 x2 (x3 + (1 : Int32)) h)
  else (rc6 a0 x3 v16 (x3 + (1 : Int32)) h))
noncomputable def F_X6_sunniest_6 (n : Nat) : Nat → Nat → Int32 → Int32 → Int32 → jH → Option Int32
  | 0 => fun _ _ _ _ _ => none
  | k + 1 => F_X6_sunniest_6_b n (F_X6_sunniest_6 n k)
noncomputable def F_X6_sunniest (n : Nat) (a0 : Nat) (h : jH) : Option Int32 :=
  F_X6_sunniest_6 n n a0 (-1 : Int32) (-1 : Int32) (0 : Int32) h
noncomputable def F_X6_evenLength_67 (n : Nat) (x1 : Int32) (x2 : Int32) (x4 : Int32) (x5 : Int32) (s0 : Int32) (s1 : Int32) (h : jH) : Option Int32 :=
  if (s0 + s1) ≤ x2 then (if x5 ≤ x1 then (some x4)
  else (some (x4 + (1 : Int32))))
  else (some (-1 : Int32))
noncomputable def F_X6_evenLength_14_b (n : Nat) (rc14 : Nat → Int32 → Int32 → Int32 → Int32 → jH → Option Int32) (a0 : Nat) (x1 : Int32) (x2 : Int32) (x3 : Int32) (x4 : Int32) (h : jH) : Option Int32 :=
  (jgI 6 h a0 5).bind fun v17 =>
  if v17 ≤ x4 then ((jgI 6 h a0 5).bind fun v41 =>
  if v41 = 0 then none else
  (jgI 6 h a0 5).bind fun v49 =>
  if v49 = 0 then none else
  if (x3 - x3 / v49 * v49) ≤ 0 then (F_X6_evenLength_67 n x1 x2 (x3 / v41) (x3 - x3 / v49 * v49) (x3 / v41) (0 : Int32) h)
  else (F_X6_evenLength_67 n x1 x2 (x3 / v41) (x3 - x3 / v49 * v49) (x3 / v41) (1 : Int32) h))
  else ((jgR 6 h a0 3).bind fun p25 =>
  (jal 0 h p25 x4).bind fun v30 =>
  rc14 a0 x1 x2 (x3 + v30) (x4 + (1 : Int32)) h)
noncomputable def F_X6_evenLength_14 (n : Nat) : Nat → Nat → Int32 → Int32 → Int32 → Int32 → jH → Option Int32
  | 0 => fun _ _ _ _ _ _ => none
  | k + 1 => F_X6_evenLength_14_b n (F_X6_evenLength_14 n k)
noncomputable def F_X6_evenLength (n : Nat) (a0 : Nat) (x1 : Int32) (x2 : Int32) (h : jH) : Option Int32 :=
  (jgI 6 h a0 5).bind fun v1 =>
  if v1 = 0 then (some (-1 : Int32))
  else (F_X6_evenLength_14 n n a0 x1 x2 (0 : Int32) (0 : Int32) h)
noncomputable def F_X6_enviousPairs_4_b (n : Nat) (rc4 : Nat → Int32 → Int32 → jH → Option Int32) (a0 : Nat) (x1 : Int32) (x2 : Int32) (h : jH) : Option Int32 :=
  (jgI 6 h a0 5).bind fun v8 =>
  if v8 ≤ (x2 + (1 : Int32)) then (some x1)
  else ((jgR 6 h a0 3).bind fun p15 =>
  (jal 0 h p15 x2).bind fun v19 =>
  (jgR 6 h a0 3).bind fun p21 =>
  (jal 0 h p21 (x2 + (1 : Int32))).bind fun v27 =>
  if (if 0 ≤ v19 - v27 then v19 - v27 else 0 - (v19 - v27)) < (2 : Int32) then (rc4 a0 x1 (x2 + (1 : Int32)) h)
  else (rc4 a0 (x1 + (1 : Int32)) (x2 + (1 : Int32)) h))
noncomputable def F_X6_enviousPairs_4 (n : Nat) : Nat → Nat → Int32 → Int32 → jH → Option Int32
  | 0 => fun _ _ _ _ => none
  | k + 1 => F_X6_enviousPairs_4_b n (F_X6_enviousPairs_4 n k)
noncomputable def F_X6_enviousPairs (n : Nat) (a0 : Nat) (h : jH) : Option Int32 :=
  F_X6_enviousPairs_4 n n a0 (0 : Int32) (0 : Int32) h
noncomputable def F_X6_gain (n : Nat) (a0 : Nat) (x1 : Int32) (x2 : Int32) (h : jH) : Option Int32 :=
  if x2 = (1 : Int32) then ((jgI 6 h a0 9).bind fun v29 =>
  (F_X11_bit n v29 x1 h).bind fun v33 =>
  if v33 = (1 : Int32) then (some (-2 : Int32))
  else (some (1 : Int32)))
  else if x2 = (2 : Int32) then ((jcv 6 h a0 (F_X8_gap n a0 x1 (0 : Int32) h)).bind fun v50 =>
  some (v50 - (1 : Int32)))
  else (some (2 : Int32))
noncomputable def F_X6_restingChoices_62 (n : Nat) (rc16 : Nat → Int32 → Int32 → Int32 → jH → Option Int32) (a0 : Nat) (x1 : Int32) (x3 : Int32) (s0 : Int32) (s1 : Int32) (s2 : Int32) (h : jH) : Option Int32 :=
  (F_X11_withBit n s0 s1 s2 h).bind fun v62 =>
  rc16 a0 x1 v62 (x3 + (1 : Int32)) h
noncomputable def F_X6_restingChoices_16_b (n : Nat) (rc16 : Nat → Int32 → Int32 → Int32 → jH → Option Int32) (a0 : Nat) (x1 : Int32) (x2 : Int32) (x3 : Int32) (h : jH) : Option Int32 :=
  if (4 : Int32) ≤ x3 then (some x2)
  else ((F_X6_gain n a0 x1 x3 h).bind fun v24 =>
  (F_X6_gain n a0 x1 (x3 ^^^ (2 : Int32)) h).bind fun v38 =>
  if v24 < v38 then (F_X6_restingChoices_62 n rc16 a0 x1 x3 x2 x3 (0 : Int32) h)
  else ((F_X6_gain n a0 x1 (x3 ^^^ (1 : Int32)) h).bind fun v51 =>
  if v24 < v51 then (F_X6_restingChoices_62 n rc16 a0 x1 x3 x2 x3 (0 : Int32) h)
  else (F_X6_restingChoices_62 n rc16 a0 x1 x3 x2 x3 (1 : Int32) h)))
noncomputable def F_X6_restingChoices_16 (n : Nat) : Nat → Nat → Int32 → Int32 → Int32 → jH → Option Int32
  | 0 => fun _ _ _ _ _ => none
  | k + 1 => F_X6_restingChoices_16_b n (F_X6_restingChoices_16 n k)
noncomputable def F_X6_restingChoices (n : Nat) (a0 : Nat) (x1 : Int32) (h : jH) : Option Int32 :=
  (jgI 6 h a0 5).bind fun v2 =>
  if x1 < (v2 - (1 : Int32)) then (F_X6_restingChoices_16 n n a0 x1 (0 : Int32) (0 : Int32) h)
  else (some (-1 : Int32))
noncomputable def F_X6_largestBunch_33 (n : Nat) (rc6 : Nat → Int32 → Int32 → Int32 → jH → Option Int32) (a0 : Nat) (x1 : Int32) (x3 : Int32) (s0 : Int32) (h : jH) : Option Int32 :=
  rc6 a0 (if x1 < s0 then s0 else x1) s0 (x3 + (1 : Int32)) h
noncomputable def F_X6_largestBunch_6_b (n : Nat) (rc6 : Nat → Int32 → Int32 → Int32 → jH → Option Int32) (a0 : Nat) (x1 : Int32) (x2 : Int32) (x3 : Int32) (h : jH) : Option Int32 :=
  (jgI 6 h a0 5).bind fun v8 =>
  if v8 ≤ x3 then (some x1)
  else ((jcv 6 h a0 (F_X8_gap n a0 (x3 - (1 : Int32)) (-1 : Int32) h)).bind fun v19 =>
  if v19 = (1 : Int32) then (F_X6_largestBunch_33 n rc6 a0 x1 x3 (x2 + (1 : Int32)) h)
  else (F_X6_largestBunch_33 n rc6 a0 x1 x3 (1 : Int32) h))
noncomputable def F_X6_largestBunch_6 (n : Nat) : Nat → Nat → Int32 → Int32 → Int32 → jH → Option Int32
  | 0 => fun _ _ _ _ _ => none
  | k + 1 => F_X6_largestBunch_6_b n (F_X6_largestBunch_6 n k)
noncomputable def F_X6_largestBunch (n : Nat) (a0 : Nat) (h : jH) : Option Int32 :=
  F_X6_largestBunch_6 n n a0 (0 : Int32) (0 : Int32) (0 : Int32) h
noncomputable def F_X6_thickBeyondJoin_44 (n : Nat) (rc4 : Nat → Int32 → Int32 → jH → Option Int32) (a0 : Nat) (x2 : Int32) (s0 : Int32) (s1 : Int32) (s2 : Int32) (h : jH) : Option Int32 :=
  (F_X11_withBit n s0 s1 s2 h).bind fun v44 =>
  rc4 a0 v44 (x2 + (1 : Int32)) h
noncomputable def F_X6_thickBeyondJoin_4_b (n : Nat) (rc4 : Nat → Int32 → Int32 → jH → Option Int32) (a0 : Nat) (x1 : Int32) (x2 : Int32) (h : jH) : Option Int32 :=
  (jgI 6 h a0 5).bind fun v6 =>
  if v6 ≤ x2 then (some x1)
  else ((jgI 6 h a0 6).bind fun v15 =>
  (F_X11_bit n v15 x2 h).bind fun v19 =>
  if v19 = (1 : Int32) then ((jgR 6 h a0 0).bind fun p27 =>
  (jal 0 h p27 x2).bind fun v31 =>
  (jgI 6 h a0 11).bind fun v33 =>
  if v31 < v33 then (F_X6_thickBeyondJoin_44 n rc4 a0 x2 x1 x2 (0 : Int32) h)
  else (F_X6_thickBeyondJoin_44 n rc4 a0 x2 x1 x2 (1 : Int32) h))
  else (F_X6_thickBeyondJoin_44 n rc4 a0 x2 x1 x2 (0 : Int32) h))
noncomputable def F_X6_thickBeyondJoin_4 (n : Nat) : Nat → Nat → Int32 → Int32 → jH → Option Int32
  | 0 => fun _ _ _ _ => none
  | k + 1 => F_X6_thickBeyondJoin_4_b n (F_X6_thickBeyondJoin_4 n k)
noncomputable def F_X6_thickBeyondJoin (n : Nat) (a0 : Nat) (h : jH) : Option Int32 :=
  F_X6_thickBeyondJoin_4 n n a0 (0 : Int32) (0 : Int32) h
noncomputable def F_X6_likePairs_16_b (n : Nat) (rc4 : Nat → Int32 → Int32 → jH → Option Int32) (rc16 : Nat → Int32 → Int32 → Int32 → jH → Option Int32) (a0 : Nat) (x1 : Int32) (x2 : Int32) (x3 : Int32) (h : jH) : Option Int32 :=
  (jgI 6 h a0 5).bind fun v18 =>
  if v18 ≤ x3 then (rc4 a0 x1 (x2 + (1 : Int32)) h)
  else ((jgR 6 h a0 1).bind fun p25 =>
  (jal 0 h p25 x2).bind fun v29 =>
  (jgR 6 h a0 1).bind fun p31 =>
  (jal 0 h p31 x3).bind fun v35 =>
  if v29 = v35 then ((jgR 6 h a0 3).bind fun p40 =>
  (jal 0 h p40 x2).bind fun v44 =>
  (jgR 6 h a0 3).bind fun p46 =>
  (jal 0 h p46 x3).bind fun v50 =>
  if v44 = v50 then ((jgR 6 h a0 2).bind fun p55 =>
  (jal 0 h p55 x2).bind fun v59 =>
  (jgR 6 h a0 2).bind fun p61 =>
  (jal 0 h p61 x3).bind fun v65 =>
  if v59 = v65 then (rc16 a0 (x1 + (1 : Int32)) x2 (x3 + (1 : Int32)) h)
  else (rc16 a0 x1 x2 (x3 + (1 : Int32)) h))
  else (rc16 a0 x1 x2 (x3 + (1 : Int32)) h))
  else (rc16 a0 x1 x2 (x3 + (1 : Int32)) h))
noncomputable def F_X6_likePairs_16 (n : Nat) (rc4 : Nat → Int32 → Int32 → jH → Option Int32) : Nat → Nat → Int32 → Int32 → Int32 → jH → Option Int32
  | 0 => fun _ _ _ _ _ => none
  | k + 1 => F_X6_likePairs_16_b n rc4 (F_X6_likePairs_16 n rc4 k)
noncomputable def F_X6_likePairs_4_b (n : Nat) (rc4 : Nat → Int32 → Int32 → jH → Option Int32) (a0 : Nat) (x1 : Int32) (x2 : Int32) (h : jH) : Option Int32 :=
  (jgI 6 h a0 5).bind fun v6 =>
  if v6 ≤ x2 then (some x1)
  else (F_X6_likePairs_16 n rc4 n a0 x1 x2 (x2 + (1 : Int32)) h)
noncomputable def F_X6_likePairs_4 (n : Nat) : Nat → Nat → Int32 → Int32 → jH → Option Int32
  | 0 => fun _ _ _ _ => none
  | k + 1 => F_X6_likePairs_4_b n (F_X6_likePairs_4 n k)
noncomputable def F_X6_likePairs (n : Nat) (a0 : Nat) (h : jH) : Option Int32 :=
  F_X6_likePairs_4 n n a0 (0 : Int32) (0 : Int32) h
noncomputable def F_X7_init (n : Nat) (a0 : Nat) (a1 : Nat) (a2 : Nat) (h : jH) : Option jH :=
  (jnw h (.inr (.inl (0, 128, fun _ => 0)))).bind fun h8 =>
  (jpf 5 h8 a0 2 (.ref h.1)).bind fun h10 =>
  (jnw h10 (.inr (.inl (0, 32, fun _ => 0)))).bind fun h16 =>
  (jpf 5 h16 a0 3 (.ref h10.1)).bind fun h18 =>
  (jpf 5 h18 a0 0 (.ref a1)).bind fun h23 =>
  (jpf 5 h23 a0 1 (.ref a2)).bind fun h28 =>
  some h28
noncomputable def F_X8_shadow_4_b (n : Nat) (rc4 : Nat → Int32 → Int32 → jH → Option Int32) (a0 : Nat) (x1 : Int32) (x2 : Int32) (h : jH) : Option Int32 :=
  (jgI 6 h a0 5).bind fun v8 =>
  if v8 ≤ (x2 + (1 : Int32)) then (some x1)
  else ((jgI 6 h a0 8).bind fun v15 =>
  (F_X11_bit n v15 x2 h).bind fun v19 =>
  if v19 = (1 : Int32) then ((jgI 6 h a0 8).bind fun v27 =>
  (F_X11_bit n v27 (x2 + (1 : Int32)) h).bind fun v33 =>
  if v33 = (1 : Int32) then ((jgR 6 h a0 0).bind fun p43 =>
  (jal 0 h p43 x2).bind fun v47 =>
  (jgR 6 h a0 0).bind fun p53 =>
  (jal 0 h p53 (x2 + (1 : Int32))).bind fun v59 =>
  rc4 a0 (x1 ||| (((-1 : Int32) <<< (v47 &&& 31)) &&& (jushr (-1 : Int32) ((31 : Int32) - v59)))) (x2 + (1 : Int32)) h)
  else (rc4 a0 x1 (x2 + (1 : Int32)) h))
  else (rc4 a0 x1 (x2 + (1 : Int32)) h))
noncomputable def F_X8_shadow_4 (n : Nat) : Nat → Nat → Int32 → Int32 → jH → Option Int32
  | 0 => fun _ _ _ _ => none
  | k + 1 => F_X8_shadow_4_b n (F_X8_shadow_4 n k)
noncomputable def F_X8_shadow (n : Nat) (a0 : Nat) (h : jH) : Option Int32 :=
  F_X8_shadow_4 n n a0 (0 : Int32) (0 : Int32) h
noncomputable def F_X8_shadedChairs (n : Nat) (a0 : Nat) (h : jH) : Option Int32 :=
  (jgI 6 h a0 10).bind fun v1 =>
  (jcv 6 h a0 (F_X8_shadow n a0 h)).bind fun v5 =>
  (F_J6_bitCount_0f7a4 n (v1 &&& v5) h).bind fun v9 =>
  some v9
noncomputable def F_X8_goTogether (n : Nat) (a0 : Nat) (x1 : Int32) (x2 : Int32) (h : jH) : Option Int32 :=
  (jgR 6 h a0 0).bind fun p1 =>
  (jal 0 h p1 (x1 + (1 : Int32))).bind fun v7 =>
  (jgR 6 h a0 0).bind fun p9 =>
  (jal 0 h p9 x1).bind fun v13 =>
  (jgI 6 h a0 9).bind fun v17 =>
  if ((jushr v17 x1) &&& (1 : Int32)) = (1 : Int32) then (some (1 : Int32))
  else (if x2 = 0 then ((jgR 6 h a0 1).bind fun p44 =>
  (jal 0 h p44 x1).bind fun v48 =>
  if ((v7 - v13) + (1 : Int32)) ≤ v48 then (some (0 : Int32))
  else (some (1 : Int32)))
  else (if (v7 - v13) = (1 : Int32) then (some (1 : Int32))
  else (some (0 : Int32))))
noncomputable def F_X8_isStopped_16 (n : Nat) (a0 : Nat) (x1 : Int32) (x2 : Int32) (s0 : Int32) (s1 : Int32) (h : jH) : Option Int32 :=
  if s0 = s1 then (some (1 : Int32))
  else ((jgI 6 h a0 6).bind fun v22 =>
  if ((jushr v22 x1) &&& (1 : Int32)) = (1 : Int32) then ((jgR 6 h a0 0).bind fun p34 =>
  (jal 0 h p34 x1).bind fun v38 =>
  if x2 = 0 then ((jgI 6 h a0 11).bind fun v53 =>
  if v38 = v53 then (some (1 : Int32))
  else (some (0 : Int32)))
  else ((jgI 6 h a0 11).bind fun v44 =>
  if v38 = (v44 - (1 : Int32)) then (some (1 : Int32))
  else (some (0 : Int32))))
  else (some (0 : Int32)))
noncomputable def F_X8_isStopped (n : Nat) (a0 : Nat) (x1 : Int32) (x2 : Int32) (h : jH) : Option Int32 :=
  (jgR 6 h a0 0).bind fun p1 =>
  (jal 0 h p1 x1).bind fun v5 =>
  if x2 = 0 then (F_X8_isStopped_16 n a0 x1 x2 v5 (0 : Int32) h)
  else (F_X8_isStopped_16 n a0 x1 x2 v5 (31 : Int32) h)
noncomputable def F_X8_goers_64_b (n : Nat) (rc64 : Nat → Int32 → Int32 → Int32 → Int32 → jH → Option Int32) (a0 : Nat) (x2 : Int32) (x3 : Int32) (x4 : Int32) (x5 : Int32) (h : jH) : Option Int32 :=
  if x4 < x5 then (some (((1 : Int32) <<< ((x4 + (1 : Int32)) &&& 31)) - ((1 : Int32) <<< (x3 &&& 31))))
  else ((jcv 6 h a0 (F_X8_isStopped n a0 x5 x2 h)).bind fun v75 =>
  if v75 = 0 then (rc64 a0 x2 x3 x4 (x5 + (1 : Int32)) h)
  else (some (0 : Int32)))
noncomputable def F_X8_goers_64 (n : Nat) : Nat → Nat → Int32 → Int32 → Int32 → Int32 → jH → Option Int32
  | 0 => fun _ _ _ _ _ _ => none
  | k + 1 => F_X8_goers_64_b n (F_X8_goers_64 n k)
noncomputable def F_X8_goers_49 (n : Nat) (rc32 : Nat → Int32 → Int32 → Int32 → jH → Option Int32) (a0 : Nat) (x2 : Int32) (x3 : Int32) (x4 : Int32) (sa0 : Nat) (s1 : Int32) (s2 : Int32) (h : jH) : Option Int32 :=
  (jcv 6 h sa0 (F_X8_goTogether n sa0 s1 s2 h)).bind fun v49 =>
  if v49 = 0 then (F_X8_goers_64 n n a0 x2 x3 x4 x3 h)
  else (rc32 a0 x2 (x3 + (-1 : Int32)) x4 h)
noncomputable def F_X8_goers_32_b (n : Nat) (rc32 : Nat → Int32 → Int32 → Int32 → jH → Option Int32) (a0 : Nat) (x2 : Int32) (x3 : Int32) (x4 : Int32) (h : jH) : Option Int32 :=
  if x3 ≤ 0 then (F_X8_goers_64 n n a0 x2 x3 x4 x3 h)
  else (if x2 = 0 then (F_X8_goers_49 n rc32 a0 x2 x3 x4 a0 (x3 - (1 : Int32)) (1 : Int32) h)
  else (F_X8_goers_49 n rc32 a0 x2 x3 x4 a0 (x3 - (1 : Int32)) (0 : Int32) h))
noncomputable def F_X8_goers_32 (n : Nat) : Nat → Nat → Int32 → Int32 → Int32 → jH → Option Int32
  | 0 => fun _ _ _ _ _ => none
  | k + 1 => F_X8_goers_32_b n (F_X8_goers_32 n k)
noncomputable def F_X8_goers_5_b (n : Nat) (rc5 : Nat → Int32 → Int32 → Int32 → jH → Option Int32) (a0 : Nat) (x2 : Int32) (x3 : Int32) (x4 : Int32) (h : jH) : Option Int32 :=
  (jgI 6 h a0 5).bind fun v10 =>
  if v10 ≤ (x4 + (1 : Int32)) then (F_X8_goers_32 n n a0 x2 x3 x4 h)
  else ((jcv 6 h a0 (F_X8_goTogether n a0 x4 x2 h)).bind fun v20 =>
  if v20 = 0 then (F_X8_goers_32 n n a0 x2 x3 x4 h)
  else (rc5 a0 x2 x3 (x4 + (1 : Int32)) h))
noncomputable def F_X8_goers_5 (n : Nat) : Nat → Nat → Int32 → Int32 → Int32 → jH → Option Int32
  | 0 => fun _ _ _ _ _ => none
  | k + 1 => F_X8_goers_5_b n (F_X8_goers_5 n k)
noncomputable def F_X8_goers (n : Nat) (a0 : Nat) (x1 : Int32) (x2 : Int32) (h : jH) : Option Int32 :=
  F_X8_goers_5 n n a0 x2 x1 x1 h
noncomputable def F_X8_move_28_b (n : Nat) (rc3 : Nat → Int32 → Int32 → Int32 → Int32 → jH → Option (Int32 × jH)) (rc28 : Nat → Int32 → Int32 → Int32 → Int32 → Int32 → Int32 → jH → Option (Int32 × jH)) (a0 : Nat) (x1 : Int32) (x2 : Int32) (x3 : Int32) (x4 : Int32) (x5 : Int32) (x6 : Int32) (h : jH) : Option (Int32 × jH) :=
  (jgI 6 h a0 5).bind fun v31 =>
  if v31 ≤ x6 then ((jgI 6 h a0 15).bind fun v78 =>
  (jgI 6 h a0 7).bind fun v84 =>
  (F_J6_bitCount_0f7a4 n (x5 &&& (v84 ^^^ (-1 : Int32))) h).bind fun v90 =>
  (jpf 6 h a0 15 (.int (if (v78 + v90) < (9999 : Int32) then v78 + v90 else (9999 : Int32)))).bind fun h97 =>
  rc3 a0 x1 x2 x3 (x4 + (1 : Int32)) h97)
  else ((F_X11_bit n x5 x6 h).bind fun v41 =>
  if v41 = (1 : Int32) then ((jgR 6 h a0 0).bind fun p49 =>
  (jal 0 h p49 x6).bind fun v55 =>
  if x2 = 0 then ((jas 0 h p49 x6 (v55 + (-1 : Int32))).bind fun h66 =>
  rc28 a0 x1 x2 x3 x4 x5 (x6 + (1 : Int32)) h66)
  else ((jas 0 h p49 x6 (v55 + (1 : Int32))).bind fun h66 =>
  rc28 a0 x1 x2 x3 x4 x5 (x6 + (1 : Int32)) h66))
  else (rc28 a0 x1 x2 x3 x4 x5 (x6 + (1 : Int32)) h))
noncomputable def F_X8_move_28 (n : Nat) (rc3 : Nat → Int32 → Int32 → Int32 → Int32 → jH → Option (Int32 × jH)) : Nat → Nat → Int32 → Int32 → Int32 → Int32 → Int32 → Int32 → jH → Option (Int32 × jH)
  | 0 => fun _ _ _ _ _ _ _ _ => none
  | k + 1 => F_X8_move_28_b n rc3 (F_X8_move_28 n rc3 k)
noncomputable def F_X8_move_3_b (n : Nat) (rc3 : Nat → Int32 → Int32 → Int32 → Int32 → jH → Option (Int32 × jH)) (a0 : Nat) (x1 : Int32) (x2 : Int32) (x3 : Int32) (x4 : Int32) (h : jH) : Option (Int32 × jH) :=
  if x3 ≤ x4 then (some (x3, h))
  else ((jcv 6 h a0 (F_X8_goers n a0 x1 x2 h)).bind fun v12 =>
  if v12 = 0 then (some (x4, h))
  else (F_X8_move_28 n rc3 n a0 x1 x2 x3 x4 v12 (0 : Int32) h))
noncomputable def F_X8_move_3 (n : Nat) : Nat → Nat → Int32 → Int32 → Int32 → Int32 → jH → Option (Int32 × jH)
  | 0 => fun _ _ _ _ _ _ => none
  | k + 1 => F_X8_move_3_b n (F_X8_move_3 n k)
noncomputable def F_X8_move (n : Nat) (a0 : Nat) (x1 : Int32) (x2 : Int32) (x3 : Int32) (h : jH) : Option (Int32 × jH) :=
  F_X8_move_3 n n a0 x1 x2 x3 (0 : Int32) h
noncomputable def F_X7_shadiest_68 (n : Nat) (rc18 : Nat → Nat → Int32 → Int32 → Int32 → jH → Option (Int32 × jH)) (rc40 : Nat → Nat → Int32 → Int32 → Int32 → Int32 → jH → Option (Int32 × jH)) (a0 : Nat) (a1 : Nat) (x2 : Int32) (x3 : Int32) (x4 : Int32) (x5 : Int32) (sa0 : Nat) (s1 : Int32) (s2 : Int32) (h : jH) : Option (Int32 × jH) :=
  (jcv 6 h sa0 (F_X8_move n sa0 s1 s2 (1 : Int32) h)).bind fun q69 =>
  if q69.1 = (1 : Int32) then ((jgR 5 q69.2 a0 1).bind fun p77 =>
  (jcv 6 q69.2 p77 (F_X8_shadedChairs n p77 q69.2)).bind fun v80 =>
  if v80 ≤ x2 then (rc40 a0 a1 x2 x3 x4 (x5 + (1 : Int32)) q69.2)
  else (rc40 a0 a1 v80 (((32 : Int32) * x4) + x5) x4 (x5 + (1 : Int32)) q69.2))
  else (rc18 a0 a1 x2 x3 (x4 + (1 : Int32)) q69.2)
noncomputable def F_X7_shadiest_40_b (n : Nat) (rc18 : Nat → Nat → Int32 → Int32 → Int32 → jH → Option (Int32 × jH)) (rc40 : Nat → Nat → Int32 → Int32 → Int32 → Int32 → jH → Option (Int32 × jH)) (a0 : Nat) (a1 : Nat) (x2 : Int32) (x3 : Int32) (x4 : Int32) (x5 : Int32) (h : jH) : Option (Int32 × jH) :=
  if (31 : Int32) < x5 then (rc18 a0 a1 x2 x3 (x4 + (1 : Int32)) h)
  else ((jgR 5 h a0 1).bind fun p48 =>
  if (x4 - x4 / (2 : Int32) * (2 : Int32)) = (1 : Int32) then (F_X7_shadiest_68 n rc18 rc40 a0 a1 x2 x3 x4 x5 p48 (x4 / (2 : Int32)) (1 : Int32) h)
  else (F_X7_shadiest_68 n rc18 rc40 a0 a1 x2 x3 x4 x5 p48 (x4 / (2 : Int32)) (0 : Int32) h))
noncomputable def F_X7_shadiest_40 (n : Nat) (rc18 : Nat → Nat → Int32 → Int32 → Int32 → jH → Option (Int32 × jH)) : Nat → Nat → Nat → Int32 → Int32 → Int32 → Int32 → jH → Option (Int32 × jH)
  | 0 => fun _ _ _ _ _ _ _ => none
  | k + 1 => F_X7_shadiest_40_b n rc18 (F_X7_shadiest_40 n rc18 k)
noncomputable def F_X7_shadiest_18_b (n : Nat) (rc18 : Nat → Nat → Int32 → Int32 → Int32 → jH → Option (Int32 × jH)) (a0 : Nat) (a1 : Nat) (x2 : Int32) (x3 : Int32) (x4 : Int32) (h : jH) : Option (Int32 × jH) :=
  (jgI 6 h a1 5).bind fun v22 =>
  if ((2 : Int32) * v22) ≤ x4 then (some (x3, h))
  else ((jgR 5 h a0 1).bind fun p30 =>
  (jcv 6 h p30 (F_X8_hangAs n p30 a1 h)).bind fun h34 =>
  F_X7_shadiest_40 n rc18 n a0 a1 x2 x3 x4 (1 : Int32) h34)
noncomputable def F_X7_shadiest_18 (n : Nat) : Nat → Nat → Nat → Int32 → Int32 → Int32 → jH → Option (Int32 × jH)
  | 0 => fun _ _ _ _ _ _ => none
  | k + 1 => F_X7_shadiest_18_b n (F_X7_shadiest_18 n k)
noncomputable def F_X7_shadiest (n : Nat) (a0 : Nat) (a1 : Nat) (h : jH) : Option (Int32 × jH) :=
  (jgR 5 h a0 1).bind fun p1 =>
  (jcv 6 h p1 (F_X8_copyFrom n p1 a1 h)).bind fun h5 =>
  (jcv 6 h5 a1 (F_X8_shadedChairs n a1 h5)).bind fun v9 =>
  F_X7_shadiest_18 n n a0 a1 v9 (-1 : Int32) (0 : Int32) h5
noncomputable def F_X7_stepsToShade_37 (n : Nat) (rc11 : Nat → Int32 → Int32 → Int32 → jH → Option (Int32 × jH)) (a0 : Nat) (x2 : Int32) (x3 : Int32) (x4 : Int32) (sa0 : Nat) (s1 : Int32) (s2 : Int32) (h : jH) : Option (Int32 × jH) :=
  (jcv 6 h sa0 (F_X8_move n sa0 s1 s2 (1 : Int32) h)).bind fun q38 =>
  if q38.1 = (1 : Int32) then ((jgR 5 q38.2 a0 1).bind fun p46 =>
  (jcv 6 q38.2 p46 (F_X8_shadow n p46 q38.2)).bind fun v49 =>
  if (v49 &&& x2) = x2 then (some (x4, q38.2))
  else (rc11 a0 x2 x3 (x4 + (1 : Int32)) q38.2))
  else (some ((-1 : Int32), q38.2))
noncomputable def F_X7_stepsToShade_11_b (n : Nat) (rc11 : Nat → Int32 → Int32 → Int32 → jH → Option (Int32 × jH)) (a0 : Nat) (x2 : Int32) (x3 : Int32) (x4 : Int32) (h : jH) : Option (Int32 × jH) :=
  if (31 : Int32) < x4 then (some ((-1 : Int32), h))
  else ((jgR 5 h a0 1).bind fun p19 =>
  if (x3 - x3 / (2 : Int32) * (2 : Int32)) = (1 : Int32) then (F_X7_stepsToShade_37 n rc11 a0 x2 x3 x4 p19 (x3 / (2 : Int32)) (1 : Int32) h)
  else (F_X7_stepsToShade_37 n rc11 a0 x2 x3 x4 p19 (x3 / (2 : Int32)) (0 : Int32) h))
noncomputable def F_X7_stepsToShade_11 (n : Nat) : Nat → Nat → Int32 → Int32 → Int32 → jH → Option (Int32 × jH)
  | 0 => fun _ _ _ _ _ => none
  | k + 1 => F_X7_stepsToShade_11_b n (F_X7_stepsToShade_11 n k)
noncomputable def F_X7_stepsToShade (n : Nat) (a0 : Nat) (a1 : Nat) (x2 : Int32) (x3 : Int32) (h : jH) : Option (Int32 × jH) :=
  (jgR 5 h a0 1).bind fun p1 =>
  (jcv 6 h p1 (F_X8_hangAs n p1 a1 h)).bind fun h5 =>
  F_X7_stepsToShade_11 n n a0 x2 x3 (1 : Int32) h5
noncomputable def F_X7_seekShade_42_b (n : Nat) (rc42 : Nat → Nat → Int32 → Int32 → jH → Option jH) (a0 : Nat) (a1 : Nat) (x2 : Int32) (x3 : Int32) (h : jH) : Option jH :=
  (jgI 6 h a1 5).bind fun v45 =>
  if ((2 : Int32) * v45) ≤ x3 then (some h)
  else ((jcv 5 h a0 (F_X7_stepsToShade n a0 a1 x2 x3 h)).bind fun q56 =>
  if q56.1 = (-1 : Int32) then (rc42 a0 a1 x2 (x3 + (1 : Int32)) q56.2)
  else ((jgI 5 q56.2 a0 5).bind fun v68 =>
  if v68 = (-1 : Int32) then ((jpf 5 q56.2 a0 5 (.int q56.1)).bind fun h87 =>
  (jpf 5 h87 a0 6 (.int x3)).bind fun h92 =>
  rc42 a0 a1 x2 (x3 + (1 : Int32)) h92)
  else ((jgI 5 q56.2 a0 5).bind fun v78 =>
  if v78 ≤ q56.1 then (rc42 a0 a1 x2 (x3 + (1 : Int32)) q56.2)
  else ((jpf 5 q56.2 a0 5 (.int q56.1)).bind fun h87 =>
  (jpf 5 h87 a0 6 (.int x3)).bind fun h92 =>
  rc42 a0 a1 x2 (x3 + (1 : Int32)) h92))))
noncomputable def F_X7_seekShade_42 (n : Nat) : Nat → Nat → Nat → Int32 → Int32 → jH → Option jH
  | 0 => fun _ _ _ _ _ => none
  | k + 1 => F_X7_seekShade_42_b n (F_X7_seekShade_42 n k)
noncomputable def F_X7_seekShade_21 (n : Nat) (a0 : Nat) (a1 : Nat) (x2 : Int32) (sa0 : Nat) (s1 : Int32) (h : jH) : Option jH :=
  (jpf 5 h sa0 5 (.int s1)).bind fun h21 =>
  (jgI 5 h21 a0 5).bind fun v25 =>
  if v25 = 0 then (some h21)
  else ((jgR 5 h21 a0 1).bind fun p33 =>
  (jcv 6 h21 p33 (F_X8_copyFrom n p33 a1 h21)).bind fun h37 =>
  F_X7_seekShade_42 n n a0 a1 x2 (0 : Int32) h37)
noncomputable def F_X7_seekShade (n : Nat) (a0 : Nat) (a1 : Nat) (x2 : Int32) (h : jH) : Option jH :=
  (jpf 5 h a0 6 (.int (-1 : Int32))).bind fun h2 =>
  (jcv 6 h2 a1 (F_X8_shadow n a1 h2)).bind fun v7 =>
  if (v7 &&& x2) = x2 then (F_X7_seekShade_21 n a0 a1 x2 a0 (0 : Int32) h2)
  else (F_X7_seekShade_21 n a0 a1 x2 a0 (-1 : Int32) h2)
noncomputable def F_X7_farWith (n : Nat) (a0 : Nat) (a1 : Nat) (x2 : Int32) (x3 : Int32) (x4 : Int32) (x5 : Int32) (h : jH) : Option (Int32 × jH) :=
  (jgR 5 h a0 1).bind fun p1 =>
  (jcv 6 h p1 (F_X8_hangAs n p1 a1 h)).bind fun h5 =>
  (jgR 5 h5 a0 1).bind fun p9 =>
  (jpf 6 h5 p9 9 (.int x2)).bind fun h13 =>
  (jgR 5 h13 a0 1).bind fun p17 =>
  (jcv 6 h13 p17 (F_X8_move n p17 x3 x4 x5 h13)).bind fun q25 =>
  some (q25.1, q25.2)
noncomputable def F_X7_fewestFreed_46 (n : Nat) (rc14 : Nat → Nat → Int32 → Int32 → Int32 → Int32 → Int32 → jH → Option (Int32 × jH)) (a0 : Nat) (a1 : Nat) (x2 : Int32) (x3 : Int32) (x4 : Int32) (x5 : Int32) (x6 : Int32) (s0 : Int32) (h : jH) : Option (Int32 × jH) :=
  (jgI 6 h a1 9).bind fun v51 =>
  if (x6 &&& (v51 ^^^ (-1 : Int32))) = 0 then (if s0 = 0 then (rc14 a0 a1 x2 x3 x4 x5 (x6 + (1 : Int32)) h)
  else ((jgI 6 h a1 9).bind fun v68 =>
  (jcv 5 h a0 (F_X7_farWith n a0 a1 (v68 &&& (x6 ^^^ (-1 : Int32))) x2 x3 x4 h)).bind fun q80 =>
  if q80.1 = x4 then (rc14 a0 a1 x2 x3 x4 x6 (x6 + (1 : Int32)) q80.2)
  else (rc14 a0 a1 x2 x3 x4 x5 (x6 + (1 : Int32)) q80.2)))
  else (rc14 a0 a1 x2 x3 x4 x5 (x6 + (1 : Int32)) h)
noncomputable def F_X7_fewestFreed_14_b (n : Nat) (rc14 : Nat → Nat → Int32 → Int32 → Int32 → Int32 → Int32 → jH → Option (Int32 × jH)) (a0 : Nat) (a1 : Nat) (x2 : Int32) (x3 : Int32) (x4 : Int32) (x5 : Int32) (x6 : Int32) (h : jH) : Option (Int32 × jH) :=
  if (128 : Int32) ≤ x6 then (some (x5, h))
  else (if x5 = (-1 : Int32) then (F_X7_fewestFreed_46 n rc14 a0 a1 x2 x3 x4 x5 x6 (1 : Int32) h)
  else ((F_J6_bitCount_0f7a4 n x6 h).bind fun v30 =>
  (F_J6_bitCount_0f7a4 n x5 h).bind fun v35 =>
  if v35 ≤ v30 then (F_X7_fewestFreed_46 n rc14 a0 a1 x2 x3 x4 x5 x6 (0 : Int32) h)
  else (F_X7_fewestFreed_46 n rc14 a0 a1 x2 x3 x4 x5 x6 (1 : Int32) h)))
noncomputable def F_X7_fewestFreed_14 (n : Nat) : Nat → Nat → Nat → Int32 → Int32 → Int32 → Int32 → Int32 → jH → Option (Int32 × jH)
  | 0 => fun _ _ _ _ _ _ _ _ => none
  | k + 1 => F_X7_fewestFreed_14_b n (F_X7_fewestFreed_14 n k)
noncomputable def F_X7_fewestFreed (n : Nat) (a0 : Nat) (a1 : Nat) (x2 : Int32) (x3 : Int32) (x4 : Int32) (h : jH) : Option (Int32 × jH) :=
  (jgR 5 h a0 1).bind fun p1 =>
  (jcv 6 h p1 (F_X8_copyFrom n p1 a1 h)).bind fun h5 =>
  F_X7_fewestFreed_14 n n a0 a1 x2 x3 x4 (-1 : Int32) (0 : Int32) h5
noncomputable def F_X10_at (n : Nat) (a0 : Nat) (x1 : Int32) (h : jH) : Option Int32 :=
  if x1 < 0 then (some (-1 : Int32))
  else ((jgI 8 h a0 6).bind fun v6 =>
  if v6 ≤ x1 then (some (-1 : Int32))
  else (if x1 < (400 : Int32) then ((jgR 8 h a0 0).bind fun p24 =>
  (jal 1 h p24 x1).bind fun v28 =>
  some (v28 &&& (255 : Int32)))
  else (some (-1 : Int32))))
noncomputable def F_X7_areRows_29_b (n : Nat) (rc29 : Nat → Int32 → Int32 → jH → Option Int32) (a0 : Nat) (x1 : Int32) (x2 : Int32) (h : jH) : Option Int32 :=
  (jgR 5 h a0 0).bind fun p31 =>
  (jgI 8 h p31 6).bind fun v34 =>
  if v34 ≤ x2 then (some (1 : Int32))
  else ((jgR 5 h a0 0).bind fun p41 =>
  (jcv 8 h p41 (F_X10_at n p41 x2 h)).bind fun v45 =>
  if x1 ≤ v45 then (some (0 : Int32))
  else ((jgR 5 h a0 0).bind fun p53 =>
  (jcv 8 h p53 (F_X10_at n p53 (x2 + (1 : Int32)) h)).bind fun v59 =>
  if (1 : Int32) < v59 then (some (0 : Int32))
  else ((jgR 5 h a0 0).bind fun p67 =>
  (jcv 8 h p67 (F_X10_at n p67 (x2 + (2 : Int32)) h)).bind fun v73 =>
  if v73 < (1 : Int32) then (some (0 : Int32))
  else ((jgR 5 h a0 0).bind fun p81 =>
  (jcv 8 h p81 (F_X10_at n p81 (x2 + (2 : Int32)) h)).bind fun v87 =>
  if (31 : Int32) < v87 then (some (0 : Int32))
  else ((jgR 5 h a0 0).bind fun p96 =>
  (jcv 8 h p96 (F_X10_at n p96 (x2 + (3 : Int32)) h)).bind fun v102 =>
  if v102 ≤ (31 : Int32) then (rc29 a0 x1 (x2 + (4 : Int32)) h)
  else (some (0 : Int32)))))))
noncomputable def F_X7_areRows_29 (n : Nat) : Nat → Nat → Int32 → Int32 → jH → Option Int32
  | 0 => fun _ _ _ _ => none
  | k + 1 => F_X7_areRows_29_b n (F_X7_areRows_29 n k)
noncomputable def F_X7_areRows (n : Nat) (a0 : Nat) (x1 : Int32) (h : jH) : Option Int32 :=
  (jgR 5 h a0 0).bind fun p1 =>
  (jgI 8 h p1 6).bind fun v4 =>
  if (v4 - v4 / (4 : Int32) * (4 : Int32)) = 0 then ((jgR 5 h a0 0).bind fun p13 =>
  (jgI 8 h p13 6).bind fun v16 =>
  if v16 ≤ (160 : Int32) then (F_X7_areRows_29 n n a0 x1 (0 : Int32) h)
  else (some (0 : Int32)))
  else (some (0 : Int32))
noncomputable def F_X7_isFitting_43 (n : Nat) (rc2 : Nat → Nat → Int32 → Int32 → jH → Option (Int32 × jH)) (a0 : Nat) (a1 : Nat) (x2 : Int32) (x3 : Int32) (sa0 : Nat) (sa1 : Nat) (s2 : Int32) (s3 : Int32) (s4 : Int32) (h : jH) : Option (Int32 × jH) :=
  (jgR 5 h a0 0).bind fun p44 =>
  (jcv 8 h p44 (F_X10_at n p44 (x3 + (2 : Int32)) h)).bind fun v50 =>
  (jcv 5 h sa0 (F_X7_farWith n sa0 sa1 s2 s3 s4 v50 h)).bind fun q53 =>
  (jgR 5 q53.2 a0 0).bind fun p61 =>
  (jcv 8 q53.2 p61 (F_X10_at n p61 (x3 + (3 : Int32)) q53.2)).bind fun v67 =>
  if q53.1 = v67 then (rc2 a0 a1 x2 (x3 + (4 : Int32)) q53.2)
  else (some ((0 : Int32), q53.2))
noncomputable def F_X7_isFitting_2_b (n : Nat) (rc2 : Nat → Nat → Int32 → Int32 → jH → Option (Int32 × jH)) (a0 : Nat) (a1 : Nat) (x2 : Int32) (x3 : Int32) (h : jH) : Option (Int32 × jH) :=
  (jgR 5 h a0 0).bind fun p4 =>
  (jgI 8 h p4 6).bind fun v7 =>
  if v7 ≤ x3 then (some ((1 : Int32), h))
  else ((jgR 5 h a0 0).bind fun p17 =>
  (jcv 8 h p17 (F_X10_at n p17 x3 h)).bind fun v21 =>
  (jgR 5 h a0 0).bind fun p25 =>
  (jcv 8 h p25 (F_X10_at n p25 (x3 + (1 : Int32)) h)).bind fun v31 =>
  if v31 = (1 : Int32) then (F_X7_isFitting_43 n rc2 a0 a1 x2 x3 a0 a1 x2 v21 (1 : Int32) h)
  else (F_X7_isFitting_43 n rc2 a0 a1 x2 x3 a0 a1 x2 v21 (0 : Int32) h))
noncomputable def F_X7_isFitting_2 (n : Nat) : Nat → Nat → Nat → Int32 → Int32 → jH → Option (Int32 × jH)
  | 0 => fun _ _ _ _ _ => none
  | k + 1 => F_X7_isFitting_2_b n (F_X7_isFitting_2 n k)
noncomputable def F_X7_isFitting (n : Nat) (a0 : Nat) (a1 : Nat) (x2 : Int32) (h : jH) : Option (Int32 × jH) :=
  F_X7_isFitting_2 n n a0 a1 x2 (0 : Int32) h
noncomputable def F_X7_seekSnags_35_b (n : Nat) (rc35 : Nat → Nat → Int32 → Int32 → jH → Option jH) (a0 : Nat) (a1 : Nat) (x2 : Int32) (x3 : Int32) (h : jH) : Option jH :=
  if x2 ≤ x3 then (some h)
  else ((jgI 5 h a0 4).bind fun v41 =>
  if (128 : Int32) ≤ v41 then (some h)
  else ((jcv 5 h a0 (F_X7_isFitting n a0 a1 x3 h)).bind fun q53 =>
  if q53.1 = 0 then (rc35 a0 a1 x2 (x3 + (1 : Int32)) q53.2)
  else ((jgR 5 q53.2 a0 2).bind fun p60 =>
  (jgI 5 q53.2 a0 4).bind fun v64 =>
  (jas 0 q53.2 p60 v64 x3).bind fun h68 =>
  (jgI 5 h68 a0 4).bind fun v71 =>
  (jpf 5 h68 a0 4 (.int (v71 + (1 : Int32)))).bind fun h76 =>
  rc35 a0 a1 x2 (x3 + (1 : Int32)) h76)))
noncomputable def F_X7_seekSnags_35 (n : Nat) : Nat → Nat → Nat → Int32 → Int32 → jH → Option jH
  | 0 => fun _ _ _ _ _ => none
  | k + 1 => F_X7_seekSnags_35_b n (F_X7_seekSnags_35 n k)
noncomputable def F_X7_seekSnags (n : Nat) (a0 : Nat) (a1 : Nat) (h : jH) : Option jH :=
  (jgR 5 h a0 1).bind fun p1 =>
  (jcv 6 h p1 (F_X8_copyFrom n p1 a1 h)).bind fun h5 =>
  (jpf 5 h5 a0 4 (.int (0 : Int32))).bind fun h10 =>
  (jgI 6 h10 a1 5).bind fun v14 =>
  if v14 = 0 then (F_X7_seekSnags_35 n n a0 a1 (1 : Int32) (0 : Int32) h10)
  else ((jgI 6 h10 a1 5).bind fun v26 =>
  F_X7_seekSnags_35 n n a0 a1 ((1 : Int32) <<< ((v26 - (1 : Int32)) &&& 31)) (0 : Int32) h10)
noncomputable def F_X7_inAllFitting_20_b (n : Nat) (rc20 : Nat → Int32 → Int32 → jH → Option Int32) (a0 : Nat) (x1 : Int32) (x2 : Int32) (h : jH) : Option Int32 :=
  (jgI 5 h a0 4).bind fun v22 =>
  if v22 ≤ x2 then (some x1)
  else ((jgR 5 h a0 2).bind fun p30 =>
  (jal 0 h p30 x2).bind fun v34 =>
  rc20 a0 (x1 &&& v34) (x2 + (1 : Int32)) h)
noncomputable def F_X7_inAllFitting_20 (n : Nat) : Nat → Nat → Int32 → Int32 → jH → Option Int32
  | 0 => fun _ _ _ _ => none
  | k + 1 => F_X7_inAllFitting_20_b n (F_X7_inAllFitting_20 n k)
noncomputable def F_X7_inAllFitting (n : Nat) (a0 : Nat) (h : jH) : Option Int32 :=
  (jgI 5 h a0 4).bind fun v1 =>
  if v1 = 0 then (F_X7_inAllFitting_20 n n a0 (0 : Int32) (1 : Int32) h)
  else ((jgR 5 h a0 2).bind fun p12 =>
  (jal 0 h p12 (0 : Int32)).bind fun v16 =>
  F_X7_inAllFitting_20 n n a0 v16 (1 : Int32) h)
noncomputable def F_X7_greatestPart_62 (n : Nat) (rc29 : Nat → Nat → Int32 → Int32 → Int32 → jH → Option (Int32 × jH)) (a0 : Nat) (a1 : Nat) (x2 : Int32) (x3 : Int32) (x4 : Int32) (sa0 : Nat) (sa1 : Nat) (s2 : Int32) (s3 : Int32) (s4 : Int32) (h : jH) : Option (Int32 × jH) :=
  (jcv 5 h sa0 (F_X7_farWith n sa0 sa1 s2 s3 s4 (31 : Int32) h)).bind fun q64 =>
  (jgR 5 q64.2 a0 3).bind fun p70 =>
  (jal 0 q64.2 p70 q64.1).bind fun v76 =>
  (jas 0 q64.2 p70 q64.1 (v76 + (1 : Int32))).bind fun h79 =>
  (jgR 5 h79 a0 3).bind fun p82 =>
  (jal 0 h79 p82 q64.1).bind fun v87 =>
  rc29 a0 a1 x2 (if x3 < v87 then v87 else x3) (x4 + (1 : Int32)) h79
noncomputable def F_X7_greatestPart_29_b (n : Nat) (rc29 : Nat → Nat → Int32 → Int32 → Int32 → jH → Option (Int32 × jH)) (a0 : Nat) (a1 : Nat) (x2 : Int32) (x3 : Int32) (x4 : Int32) (h : jH) : Option (Int32 × jH) :=
  (jgI 5 h a0 4).bind fun v32 =>
  if v32 ≤ x4 then (some (x3, h))
  else ((jgR 5 h a0 2).bind fun p41 =>
  (jal 0 h p41 x4).bind fun v46 =>
  if (x2 - x2 / (2 : Int32) * (2 : Int32)) = (1 : Int32) then (F_X7_greatestPart_62 n rc29 a0 a1 x2 x3 x4 a0 a1 v46 (x2 / (2 : Int32)) (1 : Int32) h)
  else (F_X7_greatestPart_62 n rc29 a0 a1 x2 x3 x4 a0 a1 v46 (x2 / (2 : Int32)) (0 : Int32) h))
noncomputable def F_X7_greatestPart_29 (n : Nat) : Nat → Nat → Nat → Int32 → Int32 → Int32 → jH → Option (Int32 × jH)
  | 0 => fun _ _ _ _ _ _ => none
  | k + 1 => F_X7_greatestPart_29_b n (F_X7_greatestPart_29 n k)
noncomputable def F_X7_greatestPart_2_b (n : Nat) (rc2 : Nat → Nat → Int32 → Int32 → jH → Option (Int32 × jH)) (a0 : Nat) (a1 : Nat) (x2 : Int32) (x3 : Int32) (h : jH) : Option (Int32 × jH) :=
  (jgR 5 h a0 3).bind fun p4 =>
  (jlen h p4).bind fun v7 =>
  if v7 ≤ x3 then (F_X7_greatestPart_29 n n a0 a1 x2 (0 : Int32) (0 : Int32) h)
  else ((jgR 5 h a0 3).bind fun p12 =>
  (jas 0 h p12 x3 (0 : Int32)).bind fun h17 =>
  rc2 a0 a1 x2 (x3 + (1 : Int32)) h17)
noncomputable def F_X7_greatestPart_2 (n : Nat) : Nat → Nat → Nat → Int32 → Int32 → jH → Option (Int32 × jH)
  | 0 => fun _ _ _ _ _ => none
  | k + 1 => F_X7_greatestPart_2_b n (F_X7_greatestPart_2 n k)
noncomputable def F_X7_greatestPart (n : Nat) (a0 : Nat) (a1 : Nat) (x2 : Int32) (h : jH) : Option (Int32 × jH) :=
  F_X7_greatestPart_2 n n a0 a1 x2 (0 : Int32) h
noncomputable def F_X7_partingPull_19_b (n : Nat) (rc19 : Nat → Nat → Int32 → Int32 → Int32 → jH → Option (Int32 × jH)) (a0 : Nat) (a1 : Nat) (x2 : Int32) (x3 : Int32) (x4 : Int32) (h : jH) : Option (Int32 × jH) :=
  (jgI 6 h a1 5).bind fun v23 =>
  if ((2 : Int32) * v23) ≤ x4 then (some (x2, h))
  else ((jcv 5 h a0 (F_X7_greatestPart n a0 a1 x4 h)).bind fun q34 =>
  if x3 ≤ q34.1 then (rc19 a0 a1 x2 x3 (x4 + (1 : Int32)) q34.2)
  else (rc19 a0 a1 x4 q34.1 (x4 + (1 : Int32)) q34.2))
noncomputable def F_X7_partingPull_19 (n : Nat) : Nat → Nat → Nat → Int32 → Int32 → Int32 → jH → Option (Int32 × jH)
  | 0 => fun _ _ _ _ _ _ => none
  | k + 1 => F_X7_partingPull_19_b n (F_X7_partingPull_19 n k)
noncomputable def F_X7_partingPull (n : Nat) (a0 : Nat) (a1 : Nat) (h : jH) : Option (Int32 × jH) :=
  (jgI 5 h a0 4).bind fun v1 =>
  if (2 : Int32) ≤ v1 then (F_X7_partingPull_19 n n a0 a1 (-1 : Int32) (129 : Int32) (0 : Int32) h)
  else (some ((-1 : Int32), h))
noncomputable def F_X8_nearestNew (n : Nat) (a0 : Nat) (h : jH) : Option Int32 :=
  (jgI 6 h a0 5).bind fun v1 =>
  if v1 = 0 then (some (0 : Int32))
  else ((jgR 6 h a0 0).bind fun p12 =>
  (jgI 6 h a0 5).bind fun v16 =>
  (jal 0 h p12 (v16 - (1 : Int32))).bind fun v21 =>
  some (v21 + (1 : Int32)))
noncomputable def F_X8_farthestNew (n : Nat) (a0 : Nat) (h : jH) : Option Int32 :=
  (jgI 6 h a0 5).bind fun v1 =>
  if v1 = 0 then (some (31 : Int32))
  else ((jgR 6 h a0 0).bind fun p15 =>
  (jgI 6 h a0 5).bind fun v19 =>
  (jal 0 h p15 (v19 - (1 : Int32))).bind fun v24 =>
  (jgR 6 h a0 1).bind fun p26 =>
  (jgI 6 h a0 5).bind fun v30 =>
  (jal 0 h p26 (v30 - (1 : Int32))).bind fun v35 =>
  some (if (v24 + v35) < (31 : Int32) then v24 + v35 else (31 : Int32)))
noncomputable def F_X8_add (n : Nat) (a0 : Nat) (x1 : Int32) (x2 : Int32) (h : jH) : Option jH :=
  (jgI 6 h a0 5).bind fun v1 =>
  if v1 < (8 : Int32) then ((jgR 6 h a0 0).bind fun p11 =>
  (jgI 6 h a0 5).bind fun v15 =>
  (jas 0 h p11 v15 x1).bind fun h19 =>
  (jgR 6 h19 a0 1).bind fun p21 =>
  (jgI 6 h19 a0 5).bind fun v25 =>
  (jas 0 h19 p21 v25 x2).bind fun h29 =>
  (jgR 6 h29 a0 2).bind fun p31 =>
  (jgI 6 h29 a0 5).bind fun v35 =>
  (jas 0 h29 p31 v35 (0 : Int32)).bind fun h39 =>
  (jgR 6 h39 a0 3).bind fun p41 =>
  (jgI 6 h39 a0 5).bind fun v45 =>
  (jas 0 h39 p41 v45 (0 : Int32)).bind fun h49 =>
  (jgI 6 h49 a0 6).bind fun v52 =>
  (jgI 6 h49 a0 5).bind fun v56 =>
  (F_X11_withBit n v52 v56 (0 : Int32) h49).bind fun v60 =>
  (jpf 6 h49 a0 6 (.int v60)).bind fun h63 =>
  (jgI 6 h63 a0 7).bind fun v68 =>
  (jgI 6 h63 a0 5).bind fun v72 =>
  (F_X11_withBit n v68 v72 (0 : Int32) h63).bind fun v76 =>
  (jpf 6 h63 a0 7 (.int v76)).bind fun h79 =>
  (jgI 6 h79 a0 8).bind fun v84 =>
  (jgI 6 h79 a0 5).bind fun v88 =>
  (F_X11_withBit n v84 v88 (1 : Int32) h79).bind fun v92 =>
  (jpf 6 h79 a0 8 (.int v92)).bind fun h95 =>
  (jgI 6 h95 a0 9).bind fun v100 =>
  (jgI 6 h95 a0 5).bind fun v104 =>
  (F_X11_withBit n v100 v104 (0 : Int32) h95).bind fun v108 =>
  (jpf 6 h95 a0 9 (.int v108)).bind fun h111 =>
  (jgI 6 h111 a0 5).bind fun v116 =>
  (jpf 6 h111 a0 5 (.int (v116 + (1 : Int32)))).bind fun h121 =>
  some h121)
  else (some h)
noncomputable def F_X8_unhooked (n : Nat) (a0 : Nat) (h : jH) : Option Int32 :=
  (jgI 6 h a0 5).bind fun v2 =>
  (jgI 6 h a0 8).bind fun v9 =>
  some ((((1 : Int32) <<< (v2 &&& 31)) - (1 : Int32)) &&& (v9 ^^^ (-1 : Int32)))
noncomputable def F_X4_init_R (n : Nat) (a0 : Nat) (a1 : Nat) (x2 : Int32) (h : jH) : Option jH :=
  (jpf 7 h a0 0 (.ref a1)).bind fun h6 =>
  (jpf 7 h6 a0 1 (.int x2)).bind fun h11 =>
  some h11
noncomputable def F_X9_init (n : Nat) (a0 : Nat) (a1 : Nat) (a2 : Nat) (h : jH) : Option jH :=
  (F_X4_init_R n a0 a1 (14 : Int32) h).bind fun h4 =>
  (jpf 7 h4 a0 2 (.ref a2)).bind fun h9 =>
  some h9
noncomputable def F_X10_kind (n : Nat) (a0 : Nat) (h : jH) : Option Int32 :=
  (jgI 8 h a0 5).bind fun v1 =>
  (jgI 8 h a0 4).bind fun v5 =>
  if v5 ≤ v1 then (some (-1 : Int32))
  else ((jgR 8 h a0 1).bind fun p12 =>
  (jgI 8 h a0 5).bind fun v16 =>
  (jal 0 h p12 v16).bind fun v19 =>
  some v19)
noncomputable def F_X9_beginsLine (n : Nat) (x0 : Int32) (h : jH) : Option Int32 :=
  if x0 = 0 then (some (1 : Int32))
  else (if x0 = (19 : Int32) then (some (1 : Int32))
  else (if x0 = (20 : Int32) then (some (1 : Int32))
  else (if x0 = (21 : Int32) then (some (1 : Int32))
  else (if x0 = (22 : Int32) then (some (1 : Int32))
  else (if x0 = (5 : Int32) then (some (1 : Int32))
  else (if x0 = (6 : Int32) then (some (1 : Int32))
  else (some (0 : Int32))))))))
noncomputable def F_X10_skip (n : Nat) (a0 : Nat) (h : jH) : Option jH :=
  (jgI 8 h a0 5).bind fun v1 =>
  (jgI 8 h a0 4).bind fun v5 =>
  if v5 ≤ v1 then (some h)
  else ((jgI 8 h a0 5).bind fun v13 =>
  (jpf 8 h a0 5 (.int (v13 + (1 : Int32)))).bind fun h18 =>
  some h18)
noncomputable def F_X10_take (n : Nat) (a0 : Nat) (x1 : Int32) (h : jH) : Option (Int32 × jH) :=
  (jgI 8 h a0 5).bind fun v1 =>
  (jgI 8 h a0 4).bind fun v5 =>
  if v5 ≤ v1 then (some ((0 : Int32), h))
  else ((jgR 8 h a0 1).bind fun p12 =>
  (jgI 8 h a0 5).bind fun v16 =>
  (jal 0 h p12 v16).bind fun v19 =>
  if v19 = x1 then ((jgI 8 h a0 5).bind fun v28 =>
  (jpf 8 h a0 5 (.int (v28 + (1 : Int32)))).bind fun h33 =>
  some ((1 : Int32), h33))
  else (some ((0 : Int32), h)))
noncomputable def F_X10_takeNumber (n : Nat) (a0 : Nat) (x1 : Int32) (x2 : Int32) (h : jH) : Option (Int32 × jH) :=
  (jgI 8 h a0 5).bind fun v1 =>
  (jgI 8 h a0 4).bind fun v5 =>
  if v5 ≤ v1 then (some ((-1 : Int32), h))
  else ((jgR 8 h a0 1).bind fun p12 =>
  (jgI 8 h a0 5).bind fun v16 =>
  (jal 0 h p12 v16).bind fun v19 =>
  if v19 = (-3 : Int32) then ((jgR 8 h a0 3).bind fun p26 =>
  (jgI 8 h a0 5).bind fun v30 =>
  (jal 0 h p26 v30).bind fun v33 =>
  if v33 < x1 then (some ((-1 : Int32), h))
  else ((jgR 8 h a0 3).bind fun p39 =>
  (jgI 8 h a0 5).bind fun v43 =>
  (jal 0 h p39 v43).bind fun v46 =>
  if v46 ≤ x2 then ((jgI 8 h a0 5).bind fun v55 =>
  (jpf 8 h a0 5 (.int (v55 + (1 : Int32)))).bind fun h60 =>
  (jgR 8 h60 a0 3).bind fun p64 =>
  (jgI 8 h60 a0 5).bind fun v68 =>
  (jal 0 h60 p64 (v68 - (1 : Int32))).bind fun v73 =>
  some (v73, h60))
  else (some ((-1 : Int32), h))))
  else (some ((-1 : Int32), h)))
noncomputable def F_X9_readMore (n : Nat) (a0 : Nat) (x1 : Int32) (a2 : Nat) (x3 : Int32) (x4 : Int32) (h : jH) : Option (Int32 × jH) :=
  (jlen h a2).bind fun v2 =>
  if v2 ≤ x3 then (some ((1 : Int32), h))
  else ((jgR 7 h a0 0).bind fun p7 =>
  (jcv 8 h p7 (F_X10_take n p7 x1 h)).bind fun q11 =>
  if q11.1 = 0 then (some ((1 : Int32), q11.2))
  else ((jgR 7 q11.2 a0 0).bind fun p20 =>
  (jcv 8 q11.2 p20 (F_X10_takeNumber n p20 (0 : Int32) x4 q11.2)).bind fun q26 =>
  (jas 0 q26.2 a2 x3 q26.1).bind fun h35 =>
  if q26.1 = (-1 : Int32) then (some ((0 : Int32), h35))
  else (some ((1 : Int32), h35))))
noncomputable def F_X9_readRing (n : Nat) (a0 : Nat) (h : jH) : Option (Int32 × jH) :=
  (jgR 7 h a0 0).bind fun p1 =>
  (jcv 8 h p1 (F_X10_take n p1 (17 : Int32) h)).bind fun q6 =>
  if q6.1 = 0 then (some ((0 : Int32), q6.2))
  else ((jgR 7 q6.2 a0 0).bind fun p15 =>
  (jgR 7 q6.2 a0 2).bind fun p19 =>
  (jcv 6 q6.2 p19 (F_X8_nearestNew n p19 q6.2)).bind fun v22 =>
  (jgR 7 q6.2 a0 2).bind fun p26 =>
  (jcv 6 q6.2 p26 (F_X8_farthestNew n p26 q6.2)).bind fun v29 =>
  (jcv 8 q6.2 p15 (F_X10_takeNumber n p15 v22 v29 q6.2)).bind fun q32 =>
  if q32.1 = (-1 : Int32) then (some ((0 : Int32), q32.2))
  else ((jgR 7 q32.2 a0 0).bind fun p42 =>
  (jcv 8 q32.2 p42 (F_X10_take n p42 (18 : Int32) q32.2)).bind fun q47 =>
  if q47.1 = 0 then (some ((0 : Int32), q47.2))
  else ((jgR 7 q47.2 a0 0).bind fun p56 =>
  (jcv 8 q47.2 p56 (F_X10_takeNumber n p56 (1 : Int32) (9 : Int32) q47.2)).bind fun q62 =>
  if q62.1 = (-1 : Int32) then (some ((0 : Int32), q62.2))
  else ((jgR 7 q62.2 a0 2).bind fun p74 =>
  (jgI 6 q62.2 p74 5).bind fun v77 =>
  (jgR 7 q62.2 a0 2).bind fun p82 =>
  (jcv 6 q62.2 p82 (F_X8_add n p82 q32.1 q62.1 q62.2)).bind fun h87 =>
  (jgR 7 h87 a0 2).bind fun p91 =>
  (jgR 7 h87 a0 2).bind fun p95 =>
  (jgI 6 h87 p95 6).bind fun v98 =>
  (jgR 7 h87 a0 0).bind fun p103 =>
  (jcv 8 h87 p103 (F_X10_take n p103 (8 : Int32) h87)).bind fun q108 =>
  (F_X11_withBit n v98 v77 q108.1 q108.2).bind fun v111 =>
  (jpf 6 q108.2 p91 6 (.int v111)).bind fun h114 =>
  (jgR 7 h114 a0 2).bind fun p118 =>
  (jgR 7 h114 a0 2).bind fun p122 =>
  (jgI 6 h114 p122 7).bind fun v125 =>
  (jgR 7 h114 a0 0).bind fun p130 =>
  (jcv 8 h114 p130 (F_X10_take n p130 (7 : Int32) h114)).bind fun q135 =>
  (F_X11_withBit n v125 v77 q135.1 q135.2).bind fun v138 =>
  (jpf 6 q135.2 p118 7 (.int v138)).bind fun h141 =>
  (jgR 7 h141 a0 2).bind fun p147 =>
  (jgR 6 h141 p147 2).bind fun p150 =>
  (jcv 7 h141 a0 (F_X9_readMore n a0 (3 : Int32) p150 v77 (99 : Int32) h141)).bind fun q156 =>
  if q156.1 = 0 then (some ((0 : Int32), q156.2))
  else ((jgR 7 q156.2 a0 2).bind fun p165 =>
  (jgR 6 q156.2 p165 3).bind fun p168 =>
  (jcv 7 q156.2 a0 (F_X9_readMore n a0 (4 : Int32) p168 v77 (9 : Int32) q156.2)).bind fun q174 =>
  if q174.1 = 0 then (some ((0 : Int32), q174.2))
  else (some ((1 : Int32), q174.2)))))))
noncomputable def F_X9_readNumber (n : Nat) (a0 : Nat) (x1 : Int32) (h : jH) : Option (Int32 × jH) :=
  if x1 = (5 : Int32) then ((jgR 7 h a0 0).bind fun p74 =>
  (jcv 8 h p74 (F_X10_takeNumber n p74 (0 : Int32) (7 : Int32) h)).bind fun q80 =>
  some (q80.1, q80.2))
  else if x1 = (6 : Int32) then ((jgR 7 h a0 0).bind fun p85 =>
  (jcv 8 h p85 (F_X10_takeNumber n p85 (0 : Int32) (999 : Int32) h)).bind fun q92 =>
  some (q92.1, q92.2))
  else if x1 = (19 : Int32) then ((jgR 7 h a0 0).bind fun p45 =>
  (jgR 7 h a0 2).bind fun p50 =>
  (jgI 6 h p50 5).bind fun v53 =>
  (jcv 8 h p45 (F_X10_takeNumber n p45 (0 : Int32) (v53 - (2 : Int32)) h)).bind fun q58 =>
  some (q58.1, q58.2))
  else if x1 = (21 : Int32) then ((jgR 7 h a0 0).bind fun p63 =>
  (jcv 8 h p63 (F_X10_takeNumber n p63 (1 : Int32) (31 : Int32) h)).bind fun q69 =>
  some (q69.1, q69.2))
  else ((jgR 7 h a0 0).bind fun p97 =>
  (jcv 8 h p97 (F_X10_takeNumber n p97 (0 : Int32) (31 : Int32) h)).bind fun q103 =>
  some (q103.1, q103.2))
noncomputable def F_X9_keepNumber (n : Nat) (a0 : Nat) (x1 : Int32) (x2 : Int32) (h : jH) : Option jH :=
  if x1 = (5 : Int32) then ((jgR 7 h a0 2).bind fun p119 =>
  (jpf 6 h p119 13 (.int x2)).bind fun h123 =>
  some h123)
  else if x1 = (19 : Int32) then ((jgR 7 h a0 2).bind fun p53 =>
  (jgR 7 h a0 2).bind fun p57 =>
  (jgI 6 h p57 9).bind fun v60 =>
  (F_X11_withBit n v60 x2 (1 : Int32) h).bind fun v65 =>
  (jpf 6 h p53 9 (.int v65)).bind fun h68 =>
  some h68)
  else if x1 = (20 : Int32) then ((jgR 7 h a0 2).bind fun p75 =>
  (jgR 7 h a0 2).bind fun p79 =>
  (jgI 6 h p79 10).bind fun v82 =>
  (F_X11_withBit n v82 x2 (1 : Int32) h).bind fun v87 =>
  (jpf 6 h p75 10 (.int v87)).bind fun h90 =>
  some h90)
  else if x1 = (21 : Int32) then ((jgR 7 h a0 2).bind fun p97 =>
  (jpf 6 h p97 11 (.int x2)).bind fun h101 =>
  some h101)
  else if x1 = (22 : Int32) then ((jgR 7 h a0 2).bind fun p108 =>
  (jpf 6 h p108 12 (.int x2)).bind fun h112 =>
  some h112)
  else ((jgR 7 h a0 2).bind fun p130 =>
  (jpf 6 h p130 14 (.int x2)).bind fun h134 =>
  some h134)
noncomputable def F_X9_readLine_33 (n : Nat) (a0 : Nat) (x1 : Int32) (h : jH) : Option (Int32 × jH) :=
  (jgR 7 h a0 0).bind fun p34 =>
  (jcv 8 h p34 (F_X10_skip n p34 h)).bind fun h37 =>
  if x1 = 0 then ((jcv 7 h37 a0 (F_X9_readRing n a0 h37)).bind fun q45 =>
  if q45.1 = 0 ∨ q45.1 = 1 then some (q45.1, q45.2) else none)
  else ((jcv 7 h37 a0 (F_X9_readNumber n a0 x1 h37)).bind fun q51 =>
  if q51.1 = (-1 : Int32) then (some ((0 : Int32), q51.2))
  else ((jcv 7 q51.2 a0 (F_X9_keepNumber n a0 x1 q51.1 q51.2)).bind fun h65 =>
  some ((1 : Int32), h65)))
noncomputable def F_X9_readLine (n : Nat) (a0 : Nat) (h : jH) : Option (Int32 × jH) :=
  (jgR 7 h a0 0).bind fun p1 =>
  (jcv 8 h p1 (F_X10_kind n p1 h)).bind fun v4 =>
  (F_X9_beginsLine n v4 h).bind fun v9 =>
  if v9 = 0 then (some ((0 : Int32), h))
  else (if v4 = 0 then ((jgR 7 h a0 2).bind fun p20 =>
  (jgI 6 h p20 5).bind fun v23 =>
  if v23 < (8 : Int32) then (F_X9_readLine_33 n a0 v4 h)
  else (some ((0 : Int32), h)))
  else (F_X9_readLine_33 n a0 v4 h))
noncomputable def F_X10_init (n : Nat) (a0 : Nat) (h : jH) : Option jH :=
  (jnw h (.inr (.inl (1, 400, fun _ => 0)))).bind fun h8 =>
  (jpf 8 h8 a0 0 (.ref h.1)).bind fun h10 =>
  (jnw h10 (.inr (.inl (0, 400, fun _ => 0)))).bind fun h17 =>
  (jpf 8 h17 a0 1 (.ref h10.1)).bind fun h19 =>
  (jnw h19 (.inr (.inl (0, 400, fun _ => 0)))).bind fun h26 =>
  (jpf 8 h26 a0 2 (.ref h19.1)).bind fun h28 =>
  (jnw h28 (.inr (.inl (0, 400, fun _ => 0)))).bind fun h35 =>
  (jpf 8 h35 a0 3 (.ref h28.1)).bind fun h37 =>
  some h37
noncomputable def F_X10_hasRoom (n : Nat) (a0 : Nat) (h : jH) : Option Int32 :=
  (jgI 8 h a0 6).bind fun v1 =>
  if (400 : Int32) < (v1 + (20 : Int32)) then (some (0 : Int32))
  else (some (1 : Int32))
noncomputable def F_X10_put_3_b (n : Nat) (rc3 : Nat → Int32 → Int32 → jH → Option jH) (a0 : Nat) (x1 : Int32) (x2 : Int32) (h : jH) : Option jH :=
  if x2 < 0 then (some h)
  else ((jgI 8 h a0 6).bind fun v8 =>
  if (400 : Int32) ≤ v8 then (some h)
  else ((jgR 8 h a0 0).bind fun p18 =>
  (jgI 8 h a0 6).bind fun v22 =>
  (jas 1 h p18 v22 ((jushr x1 x2).toInt8.toInt32)).bind fun h29 =>
  (jgI 8 h29 a0 6).bind fun v32 =>
  (jpf 8 h29 a0 6 (.int (v32 + (1 : Int32)))).bind fun h37 =>
  rc3 a0 x1 (x2 + (-8 : Int32)) h37))
noncomputable def F_X10_put_3 (n : Nat) : Nat → Nat → Int32 → Int32 → jH → Option jH
  | 0 => fun _ _ _ _ => none
  | k + 1 => F_X10_put_3_b n (F_X10_put_3 n k)
noncomputable def F_X10_put (n : Nat) (a0 : Nat) (x1 : Int32) (h : jH) : Option jH :=
  F_X10_put_3 n n a0 x1 (24 : Int32) h
noncomputable def F_X10_endOfRow_3_b (n : Nat) (rc3 : Nat → Int32 → Int32 → Int32 → jH → Option Int32) (a0 : Nat) (x2 : Int32) (x3 : Int32) (x4 : Int32) (h : jH) : Option Int32 :=
  (jgI 8 h a0 6).bind fun v6 =>
  if v6 ≤ x4 then (some x4)
  else ((jcv 8 h a0 (F_X10_at n a0 x4 h)).bind fun v15 =>
  if v15 < x2 then (some x4)
  else ((jcv 8 h a0 (F_X10_at n a0 x4 h)).bind fun v25 =>
  if x3 < v25 then (some x4)
  else (rc3 a0 x2 x3 (x4 + (1 : Int32)) h)))
noncomputable def F_X10_endOfRow_3 (n : Nat) : Nat → Nat → Int32 → Int32 → Int32 → jH → Option Int32
  | 0 => fun _ _ _ _ _ => none
  | k + 1 => F_X10_endOfRow_3_b n (F_X10_endOfRow_3 n k)
noncomputable def F_X10_endOfRow (n : Nat) (a0 : Nat) (x1 : Int32) (x2 : Int32) (x3 : Int32) (h : jH) : Option Int32 :=
  F_X10_endOfRow_3 n n a0 x2 x3 x1 h
noncomputable def F_X10_standsAt_3_b (n : Nat) (rc3 : Nat → Int32 → Int32 → Int32 → Int32 → jH → Option Int32) (a0 : Nat) (x1 : Int32) (x2 : Int32) (x3 : Int32) (x4 : Int32) (h : jH) : Option Int32 :=
  if x3 ≤ x4 then (some (1 : Int32))
  else ((jcv 8 h a0 (F_X10_at n a0 ((x1 + x4) - x2) h)).bind fun v16 =>
  (jtc 0 x4).bind fun v23 =>
  if v16 = v23 then (rc3 a0 x1 x2 x3 (x4 + (1 : Int32)) h)
  else (some (0 : Int32)))
noncomputable def F_X10_standsAt_3 (n : Nat) : Nat → Nat → Int32 → Int32 → Int32 → Int32 → jH → Option Int32
  | 0 => fun _ _ _ _ _ _ => none
  | k + 1 => F_X10_standsAt_3_b n (F_X10_standsAt_3 n k)
noncomputable def F_X10_standsAt (n : Nat) (a0 : Nat) (x1 : Int32) (x2 : Int32) (x3 : Int32) (h : jH) : Option Int32 :=
  F_X10_standsAt_3 n n a0 x1 x2 x3 x2 h
noncomputable def F_X10_wordBetween_8_b (n : Nat) (rc8 : Nat → Int32 → Int32 → Int32 → Int32 → Int32 → jH → Option Int32) (a0 : Nat) (x1 : Int32) (x2 : Int32) (x3 : Int32) (x4 : Int32) (x5 : Int32) (h : jH) : Option Int32 :=
  (jtl 0).bind fun v12 =>
  if v12 ≤ x5 then (some (-2 : Int32))
  else ((jtc 0 x5).bind fun v22 =>
  if v22 = (32 : Int32) then (if (x5 - x4) = (x2 - x1) then ((jcv 8 h a0 (F_X10_standsAt n a0 x1 x4 x5 h)).bind fun v47 =>
  if v47 = 0 then (rc8 a0 x1 x2 (x3 + (1 : Int32)) (x5 + (1 : Int32)) (x5 + (1 : Int32)) h)
  else (some x3))
  else (rc8 a0 x1 x2 (x3 + (1 : Int32)) (x5 + (1 : Int32)) (x5 + (1 : Int32)) h))
  else (rc8 a0 x1 x2 x3 x4 (x5 + (1 : Int32)) h))
noncomputable def F_X10_wordBetween_8 (n : Nat) : Nat → Nat → Int32 → Int32 → Int32 → Int32 → Int32 → jH → Option Int32
  | 0 => fun _ _ _ _ _ _ _ => none
  | k + 1 => F_X10_wordBetween_8_b n (F_X10_wordBetween_8 n k)
noncomputable def F_X10_wordBetween (n : Nat) (a0 : Nat) (x1 : Int32) (x2 : Int32) (h : jH) : Option Int32 :=
  F_X10_wordBetween_8 n n a0 x1 x2 (0 : Int32) (0 : Int32) (0 : Int32) h
noncomputable def F_X10_numberBetween_16_b (n : Nat) (rc16 : Nat → Int32 → Int32 → Int32 → jH → Option Int32) (a0 : Nat) (x2 : Int32) (x3 : Int32) (x4 : Int32) (h : jH) : Option Int32 :=
  if x2 ≤ x4 then (some x3)
  else ((jcv 8 h a0 (F_X10_at n a0 x4 h)).bind fun v29 =>
  rc16 a0 x2 ((((10 : Int32) * x3) + v29) - (48 : Int32)) (x4 + (1 : Int32)) h)
noncomputable def F_X10_numberBetween_16 (n : Nat) : Nat → Nat → Int32 → Int32 → Int32 → jH → Option Int32
  | 0 => fun _ _ _ _ _ => none
  | k + 1 => F_X10_numberBetween_16_b n (F_X10_numberBetween_16 n k)
noncomputable def F_X10_numberBetween (n : Nat) (a0 : Nat) (x1 : Int32) (x2 : Int32) (h : jH) : Option Int32 :=
  if (x2 - x1) ≤ (3 : Int32) then (F_X10_numberBetween_16 n n a0 x2 (0 : Int32) x1 h)
  else (some (1000 : Int32))
noncomputable def F_X10_scanThing (n : Nat) (a0 : Nat) (x1 : Int32) (h : jH) : Option (Int32 × jH) :=
  (jcv 8 h a0 (F_X10_endOfRow n a0 x1 (97 : Int32) (122 : Int32) h)).bind fun v6 =>
  if v6 ≤ x1 then ((jcv 8 h a0 (F_X10_endOfRow n a0 x1 (48 : Int32) (57 : Int32) h)).bind fun v38 =>
  if v38 ≤ x1 then ((jcv 8 h a0 (F_X10_at n a0 x1 h)).bind fun v77 =>
  (jgR 8 h a0 1).bind fun p82 =>
  (jgI 8 h a0 4).bind fun v86 =>
  if (32 : Int32) ≤ v77 then ((jas 0 h p82 v86 v77).bind fun h101 =>
  some (x1 + (1 : Int32), h101))
  else ((jas 0 h p82 v86 (-2 : Int32)).bind fun h101 =>
  some (x1 + (1 : Int32), h101)))
  else ((jgR 8 h a0 1).bind fun p48 =>
  (jgI 8 h a0 4).bind fun v52 =>
  (jas 0 h p48 v52 (-3 : Int32)).bind fun h57 =>
  (jgR 8 h57 a0 3).bind fun p59 =>
  (jgI 8 h57 a0 4).bind fun v63 =>
  (jcv 8 h57 a0 (F_X10_numberBetween n a0 x1 v38 h57)).bind fun v69 =>
  (jas 0 h57 p59 v63 v69).bind fun h72 =>
  some (v38, h72)))
  else ((jgR 8 h a0 1).bind fun p16 =>
  (jgI 8 h a0 4).bind fun v20 =>
  (jcv 8 h a0 (F_X10_wordBetween n a0 x1 v6 h)).bind fun v26 =>
  (jas 0 h p16 v20 v26).bind fun h29 =>
  some (v6, h29))
noncomputable def F_X10_scan_12_b (n : Nat) (rc12 : Nat → Int32 → jH → Option jH) (a0 : Nat) (x1 : Int32) (h : jH) : Option jH :=
  (jgI 8 h a0 6).bind fun v14 =>
  if v14 ≤ x1 then (some h)
  else ((jgI 8 h a0 4).bind fun v21 =>
  if (400 : Int32) ≤ v21 then (some h)
  else ((jcv 8 h a0 (F_X10_at n a0 x1 h)).bind fun v36 =>
  if v36 = (32 : Int32) then (rc12 a0 (x1 + (1 : Int32)) h)
  else ((jcv 8 h a0 (F_X10_scanThing n a0 x1 h)).bind fun q46 =>
  (jgR 8 q46.2 a0 2).bind fun p51 =>
  (jgI 8 q46.2 a0 4).bind fun v55 =>
  (jas 0 q46.2 p51 v55 x1).bind fun h59 =>
  (jgI 8 h59 a0 4).bind fun v62 =>
  (jpf 8 h59 a0 4 (.int (v62 + (1 : Int32)))).bind fun h67 =>
  rc12 a0 q46.1 h67)))
noncomputable def F_X10_scan_12 (n : Nat) : Nat → Nat → Int32 → jH → Option jH
  | 0 => fun _ _ _ => none
  | k + 1 => F_X10_scan_12_b n (F_X10_scan_12 n k)
noncomputable def F_X10_scan (n : Nat) (a0 : Nat) (h : jH) : Option jH :=
  (jpf 8 h a0 4 (.int (0 : Int32))).bind fun h2 =>
  (jpf 8 h2 a0 5 (.int (0 : Int32))).bind fun h7 =>
  F_X10_scan_12 n n a0 (0 : Int32) h7
noncomputable def F_X10_start (n : Nat) (a0 : Nat) (h : jH) : Option Int32 :=
  (jgI 8 h a0 5).bind fun v1 =>
  (jgI 8 h a0 4).bind fun v5 =>
  if v5 ≤ v1 then ((jgI 8 h a0 6).bind fun v24 =>
  some v24)
  else ((jgR 8 h a0 2).bind fun p12 =>
  (jgI 8 h a0 5).bind fun v16 =>
  (jal 0 h p12 v16).bind fun v19 =>
  some v19)
noncomputable def F_X4_init_L (n : Nat) (a0 : Nat) (a1 : Nat) (x2 : Int32) (h : jH) : Option jH :=
  (jpf 3 h a0 0 (.ref a1)).bind fun h6 =>
  (jpf 3 h6 a0 1 (.int x2)).bind fun h11 =>
  some h11
noncomputable def F_X3_init (n : Nat) (a0 : Nat) (a1 : Nat) (a2 : Nat) (h : jH) : Option jH :=
  (F_X4_init_L n a0 a1 (12 : Int32) h).bind fun h4 =>
  (jpf 3 h4 a0 2 (.ref a2)).bind fun h9 =>
  some h9
noncomputable def F_X11_init (n : Nat) (a0 : Nat) (h : jH) : Option jH :=
  (jnw h (.inl (8, [.null, .null, .null, .null, .int 0, .int 0, .int 0]))).bind fun h5 =>
  (F_X10_init n h.1 h5).bind fun h9 =>
  (jpf 9 h9 a0 0 (.ref h.1)).bind fun h12 =>
  (jnw h12 (.inl (6, [.null, .null, .null, .null, .null, .int 0, .int 0, .int 0, .int 0, .int 0, .int 0, .int 0, .int 0, .int 0, .int 0, .int 0, .int 0, .int 0]))).bind fun h16 =>
  (F_X8_init n h12.1 h16).bind fun h20 =>
  (jpf 9 h20 a0 1 (.ref h12.1)).bind fun h23 =>
  (jnw h23 (.inl (2, [.null, .null, .null, .null, .null, .int 0, .int 0, .int 0, .int 0]))).bind fun h27 =>
  (F_X2_init n h23.1 h27).bind fun h31 =>
  (jpf 9 h31 a0 2 (.ref h23.1)).bind fun h34 =>
  (jnw h34 (.inl (0, [.null, .int 0, .int 0]))).bind fun h38 =>
  (F_X0_init n h34.1 h38).bind fun h42 =>
  (jpf 9 h42 a0 3 (.ref h34.1)).bind fun h45 =>
  (jnw h45 (.inl (6, [.null, .null, .null, .null, .null, .int 0, .int 0, .int 0, .int 0, .int 0, .int 0, .int 0, .int 0, .int 0, .int 0, .int 0, .int 0, .int 0]))).bind fun h49 =>
  (F_X8_init n h45.1 h49).bind fun h53 =>
  (jpf 9 h53 a0 4 (.ref h45.1)).bind fun h56 =>
  (jnw h56 (.inl (2, [.null, .null, .null, .null, .null, .int 0, .int 0, .int 0, .int 0]))).bind fun h60 =>
  (F_X2_init n h56.1 h60).bind fun h64 =>
  (jpf 9 h64 a0 5 (.ref h56.1)).bind fun h67 =>
  (jnw h67 (.inl (7, [.null, .int 0, .null]))).bind fun h71 =>
  (jgR 9 h71 a0 0).bind fun p76 =>
  (jgR 9 h71 a0 4).bind fun p80 =>
  (F_X9_init n h67.1 p76 p80 h71).bind fun h83 =>
  (jpf 9 h83 a0 6 (.ref h67.1)).bind fun h86 =>
  (jnw h86 (.inl (3, [.null, .int 0, .null]))).bind fun h90 =>
  (jgR 9 h90 a0 0).bind fun p95 =>
  (jgR 9 h90 a0 5).bind fun p99 =>
  (F_X3_init n h86.1 p95 p99 h90).bind fun h102 =>
  (jpf 9 h102 a0 7 (.ref h86.1)).bind fun h105 =>
  (jnw h105 (.inl (1, [.null, .null]))).bind fun h109 =>
  (jgR 9 h109 a0 2).bind fun p114 =>
  (jgR 9 h109 a0 4).bind fun p118 =>
  (F_X1_init n h105.1 p114 p118 h109).bind fun h121 =>
  (jpf 9 h121 a0 8 (.ref h105.1)).bind fun h124 =>
  (jnw h124 (.inl (5, [.null, .null, .null, .null, .int 0, .int 0, .int 0]))).bind fun h128 =>
  (jgR 9 h128 a0 0).bind fun p133 =>
  (jgR 9 h128 a0 4).bind fun p137 =>
  (F_X7_init n h124.1 p133 p137 h128).bind fun h140 =>
  (jpf 9 h140 a0 9 (.ref h124.1)).bind fun h143 =>
  (jpf 9 h143 a0 12 (.int (-1 : Int32))).bind fun h148 =>
  some h148
noncomputable def F_X11_feed (n : Nat) (a0 : Nat) (x1 : Int32) (x2 : Int32) (x3 : Int32) (x4 : Int32) (x5 : Int32) (h : jH) : Option (Int32 × jH) :=
  (jgR 9 h a0 0).bind fun p1 =>
  (jcv 8 h p1 (F_X10_hasRoom n p1 h)).bind fun v4 =>
  if v4 = 0 then (some ((-1 : Int32), h))
  else ((jgR 9 h a0 0).bind fun p13 =>
  (jcv 8 h p13 (F_X10_put n p13 x1 h)).bind fun h17 =>
  (jgR 9 h17 a0 0).bind fun p21 =>
  (jcv 8 h17 p21 (F_X10_put n p21 x2 h17)).bind fun h25 =>
  (jgR 9 h25 a0 0).bind fun p29 =>
  (jcv 8 h25 p29 (F_X10_put n p29 x3 h25)).bind fun h33 =>
  (jgR 9 h33 a0 0).bind fun p37 =>
  (jcv 8 h33 p37 (F_X10_put n p37 x4 h33)).bind fun h42 =>
  (jgR 9 h42 a0 0).bind fun p46 =>
  (jcv 8 h42 p46 (F_X10_put n p46 x5 h42)).bind fun h51 =>
  (jgR 9 h51 a0 0).bind fun p55 =>
  (jgI 8 h51 p55 6).bind fun v58 =>
  some (v58, h51))
noncomputable def F_X11_end (n : Nat) (a0 : Nat) (x1 : Int32) (h : jH) : Option (Int32 × jH) :=
  if x1 < 0 then (some ((0 : Int32), h))
  else ((jgR 9 h a0 0).bind fun p6 =>
  (jgI 8 h p6 6).bind fun v9 =>
  if x1 ≤ v9 then ((jgR 9 h a0 0).bind fun p18 =>
  (jpf 8 h p18 6 (.int x1)).bind fun h22 =>
  some ((1 : Int32), h22))
  else (some ((0 : Int32), h)))
noncomputable def F_X4_read_R_22_b (n : Nat) (rc22 : Nat → Int32 → jH → Option (Int32 × jH)) (a0 : Nat) (x1 : Int32) (h : jH) : Option (Int32 × jH) :=
  (jgI 7 h a0 1).bind fun v24 =>
  if v24 ≤ x1 then ((jgR 7 h a0 0).bind fun p85 =>
  (jcv 8 h p85 (F_X10_start n p85 h)).bind fun v88 =>
  some (v88, h))
  else ((jcv 7 h a0 (F_X9_readLine n a0 h)).bind fun q31 =>
  if q31.1 = 0 then ((jgR 7 q31.2 a0 0).bind fun p38 =>
  (jcv 8 q31.2 p38 (F_X10_start n p38 q31.2)).bind fun v41 =>
  some (v41, q31.2))
  else ((jgR 7 q31.2 a0 0).bind fun p46 =>
  (jcv 8 q31.2 p46 (F_X10_kind n p46 q31.2)).bind fun v49 =>
  if v49 = (-1 : Int32) then (some ((-1 : Int32), q31.2))
  else ((jgR 7 q31.2 a0 0).bind fun p59 =>
  (jcv 8 q31.2 p59 (F_X10_take n p59 (59 : Int32) q31.2)).bind fun q64 =>
  if q64.1 = 0 then ((jgR 7 q64.2 a0 0).bind fun p71 =>
  (jcv 8 q64.2 p71 (F_X10_start n p71 q64.2)).bind fun v74 =>
  some (v74, q64.2))
  else (rc22 a0 (x1 + (1 : Int32)) q64.2))))
noncomputable def F_X4_read_R_22 (n : Nat) : Nat → Nat → Int32 → jH → Option (Int32 × jH)
  | 0 => fun _ _ _ => none
  | k + 1 => F_X4_read_R_22_b n (F_X4_read_R_22 n k)
noncomputable def F_X4_read_R (n : Nat) (a0 : Nat) (h : jH) : Option (Int32 × jH) :=
  (jgR 7 h a0 0).bind fun p1 =>
  (jcv 8 h p1 (F_X10_scan n p1 h)).bind fun h4 =>
  (jgR 7 h4 a0 0).bind fun p8 =>
  (jcv 8 h4 p8 (F_X10_kind n p8 h4)).bind fun v11 =>
  if v11 = (-1 : Int32) then (some ((-1 : Int32), h4))
  else (F_X4_read_R_22 n n a0 (0 : Int32) h4)
noncomputable def F_X11_pole (n : Nat) (a0 : Nat) (h : jH) : Option (jR × jH) :=
  (jgR 9 h a0 4).bind fun p1 =>
  (jgR 9 h a0 1).bind fun p5 =>
  (jcv 6 h p1 (F_X8_copyFrom n p1 p5 h)).bind fun h8 =>
  (jgR 9 h8 a0 6).bind fun p13 =>
  (jcv 7 h8 p13 (F_X4_read_R n p13 h8)).bind fun q16 =>
  (jpf 9 q16.2 a0 12 (.int q16.1)).bind fun h19 =>
  (jgR 9 h19 a0 0).bind fun p23 =>
  (jpf 8 h19 p23 6 (.int (0 : Int32))).bind fun h27 =>
  (jgI 9 h27 a0 12).bind fun v31 =>
  if v31 = (-1 : Int32) then ((jgR 9 h27 a0 1).bind fun p49 =>
  (jgI 6 h27 p49 17).bind fun v52 =>
  if v52 < (12 : Int32) then ((jgR 9 h27 a0 4).bind fun p71 =>
  (jgI 6 h27 p71 17).bind fun v75 =>
  (jpf 6 h27 p71 17 (.int (v75 + (1 : Int32)))).bind fun h80 =>
  (jgR 9 h80 a0 1).bind fun p84 =>
  (jgR 9 h80 a0 4).bind fun p88 =>
  (jcv 6 h80 p84 (F_X8_copyFrom n p84 p88 h80)).bind fun h91 =>
  (jgR 9 h91 a0 3).bind fun p95 =>
  (jcv 0 h91 p95 (F_X0_forget n p95 h91)).bind fun h98 =>
  (jgR 9 h98 a0 1).bind fun p102 =>
  (jgI 6 h98 p102 17).bind fun v105 =>
  some (.inl v105, h98))
  else (some (.inr 3, h27)))
  else (some (.inr 0, h27))
noncomputable def F_X3_readSum_94 (n : Nat) (rc4 : Nat → Int32 → Int32 → jH → Option (Int32 × jH)) (a0 : Nat) (x2 : Int32) (h : jH) : Option (Int32 × jH) :=
  (jgR 3 h a0 0).bind fun p95 =>
  (jcv 8 h p95 (F_X10_take n p95 (43 : Int32) h)).bind fun q100 =>
  if q100.1 = 0 then (some ((1 : Int32), q100.2))
  else (rc4 a0 q100.1 (x2 + (1 : Int32)) q100.2)
noncomputable def F_X3_readSum_81 (n : Nat) (rc4 : Nat → Int32 → Int32 → jH → Option (Int32 × jH)) (a0 : Nat) (x1 : Int32) (x2 : Int32) (h : jH) : Option (Int32 × jH) :=
  if x1 = 0 then (F_X3_readSum_94 n rc4 a0 x2 h)
  else ((jgR 3 h a0 2).bind fun p86 =>
  (jcv 2 h p86 (F_X2_addCode n p86 (43 : Int32) h)).bind fun h91 =>
  F_X3_readSum_94 n rc4 a0 x2 h91)
noncomputable def F_X3_readSum_47 (n : Nat) (rc4 : Nat → Int32 → Int32 → jH → Option (Int32 × jH)) (a0 : Nat) (x1 : Int32) (x2 : Int32) (h : jH) : Option (Int32 × jH) :=
  (jgR 3 h a0 0).bind fun p48 =>
  (jcv 8 h p48 (F_X10_takeNumber n p48 (0 : Int32) (999 : Int32) h)).bind fun q55 =>
  if q55.1 = (-1 : Int32) then (some ((0 : Int32), q55.2))
  else ((jgR 3 q55.2 a0 2).bind fun p69 =>
  (jcv 2 q55.2 p69 (F_X2_addCode n p69 ((256 : Int32) + q55.1) q55.2)).bind fun h78 =>
  F_X3_readSum_81 n rc4 a0 x1 x2 h78)
noncomputable def F_X3_readSum_4_b (n : Nat) (rc4 : Nat → Int32 → Int32 → jH → Option (Int32 × jH)) (a0 : Nat) (x1 : Int32) (x2 : Int32) (h : jH) : Option (Int32 × jH) :=
  if (400 : Int32) ≤ x2 then (some ((0 : Int32), h))
  else ((jgR 3 h a0 0).bind fun p12 =>
  (jcv 8 h p12 (F_X10_kind n p12 h)).bind fun v15 =>
  if v15 < 0 then (F_X3_readSum_47 n rc4 a0 x1 x2 h)
  else (if (6 : Int32) < v15 then (F_X3_readSum_47 n rc4 a0 x1 x2 h)
  else ((jgR 3 h a0 0).bind fun p30 =>
  (jcv 8 h p30 (F_X10_skip n p30 h)).bind fun h33 =>
  (jgR 3 h33 a0 2).bind fun p37 =>
  (jcv 2 h33 p37 (F_X2_addCode n p37 v15 h33)).bind fun h41 =>
  F_X3_readSum_81 n rc4 a0 x1 x2 h41)))
noncomputable def F_X3_readSum_4 (n : Nat) : Nat → Nat → Int32 → Int32 → jH → Option (Int32 × jH)
  | 0 => fun _ _ _ _ => none
  | k + 1 => F_X3_readSum_4_b n (F_X3_readSum_4 n k)
noncomputable def F_X3_readSum (n : Nat) (a0 : Nat) (h : jH) : Option (Int32 × jH) :=
  F_X3_readSum_4 n n a0 (0 : Int32) (0 : Int32) h
noncomputable def F_X3_readComparison_43 (n : Nat) (a0 : Nat) (x1 : Int32) (h : jH) : Option (Int32 × jH) :=
  (jcv 3 h a0 (F_X3_readSum n a0 h)).bind fun q44 =>
  (jgR 3 q44.2 a0 2).bind fun p49 =>
  (jcv 2 q44.2 p49 (F_X2_addCode n p49 x1 q44.2)).bind fun h53 =>
  if q44.1 = 0 ∨ q44.1 = 1 then some (q44.1, h53) else none
noncomputable def F_X3_readComparison (n : Nat) (a0 : Nat) (h : jH) : Option (Int32 × jH) :=
  (jcv 3 h a0 (F_X3_readSum n a0 h)).bind fun q1 =>
  if q1.1 = 0 then (some ((0 : Int32), q1.2))
  else ((jgR 3 q1.2 a0 0).bind fun p10 =>
  (jcv 8 q1.2 p10 (F_X10_kind n p10 q1.2)).bind fun v13 =>
  (jgR 3 q1.2 a0 0).bind fun p18 =>
  (jcv 8 q1.2 p18 (F_X10_take n p18 (60 : Int32) q1.2)).bind fun q23 =>
  if q23.1 = 0 then ((jgR 3 q23.2 a0 0).bind fun p30 =>
  (jcv 8 q23.2 p30 (F_X10_take n p30 (62 : Int32) q23.2)).bind fun q35 =>
  if q35.1 = 0 then (some ((0 : Int32), q35.2))
  else (F_X3_readComparison_43 n a0 v13 q35.2))
  else (F_X3_readComparison_43 n a0 v13 q23.2))
noncomputable def F_X3_readCondition_65 (n : Nat) (g0 : Nat → Int32 → jH → Option (Int32 × jH)) (g1 : Nat → Int32 → jH → Option (Int32 × jH)) (rc7 : Nat → Int32 → Int32 → Int32 → Int32 → jH → Option (Int32 × jH)) (a0 : Nat) (x1 : Int32) (x2 : Int32) (x4 : Int32) (h : jH) : Option (Int32 × jH) :=
  (jgR 3 h a0 0).bind fun p66 =>
  (jcv 8 h p66 (F_X10_take n p66 (13 : Int32) h)).bind fun q71 =>
  if q71.1 = 0 then (some ((1 : Int32), q71.2))
  else (rc7 a0 x1 x2 q71.1 (x4 + (1 : Int32)) q71.2)
noncomputable def F_X3_readCondition_38 (n : Nat) (g0 : Nat → Int32 → jH → Option (Int32 × jH)) (g1 : Nat → Int32 → jH → Option (Int32 × jH)) (rc7 : Nat → Int32 → Int32 → Int32 → Int32 → jH → Option (Int32 × jH)) (a0 : Nat) (x1 : Int32) (x3 : Int32) (x4 : Int32) (h : jH) : Option (Int32 × jH) :=
  (jgR 3 h a0 0).bind fun p39 =>
  (jcv 8 h p39 (F_X10_take n p39 (12 : Int32) h)).bind fun q44 =>
  if q44.1 = 0 then (if x3 = 0 then (F_X3_readCondition_65 n g0 g1 rc7 a0 x1 q44.1 x4 q44.2)
  else ((jgR 3 q44.2 a0 2).bind fun p57 =>
  (jcv 2 q44.2 p57 (F_X2_addCode n p57 (13 : Int32) q44.2)).bind fun h62 =>
  F_X3_readCondition_65 n g0 g1 rc7 a0 x1 q44.1 x4 h62))
  else (rc7 a0 x1 q44.1 x3 (x4 + (1 : Int32)) q44.2)
noncomputable def F_X3_readCondition_7_b (n : Nat) (g0 : Nat → Int32 → jH → Option (Int32 × jH)) (g1 : Nat → Int32 → jH → Option (Int32 × jH)) (rc7 : Nat → Int32 → Int32 → Int32 → Int32 → jH → Option (Int32 × jH)) (a0 : Nat) (x1 : Int32) (x2 : Int32) (x3 : Int32) (x4 : Int32) (h : jH) : Option (Int32 × jH) :=
  if (400 : Int32) ≤ x4 then (some ((0 : Int32), h))
  else ((jcv 3 h a0 (g1 a0 x1 h)).bind fun q17 =>
  if q17.1 = 0 then (some ((0 : Int32), q17.2))
  else (if x2 = 0 then (F_X3_readCondition_38 n g0 g1 rc7 a0 x1 x3 x4 q17.2)
  else ((jgR 3 q17.2 a0 2).bind fun p30 =>
  (jcv 2 q17.2 p30 (F_X2_addCode n p30 (12 : Int32) q17.2)).bind fun h35 =>
  F_X3_readCondition_38 n g0 g1 rc7 a0 x1 x3 x4 h35)))
noncomputable def F_X3_readCondition_7 (n : Nat) (g0 : Nat → Int32 → jH → Option (Int32 × jH)) (g1 : Nat → Int32 → jH → Option (Int32 × jH)) : Nat → Nat → Int32 → Int32 → Int32 → Int32 → jH → Option (Int32 × jH)
  | 0 => fun _ _ _ _ _ _ => none
  | k + 1 => F_X3_readCondition_7_b n g0 g1 (F_X3_readCondition_7 n g0 g1 k)
noncomputable def F_X3_readCondition (n : Nat) (g0 : Nat → Int32 → jH → Option (Int32 × jH)) (g1 : Nat → Int32 → jH → Option (Int32 × jH)) (a0 : Nat) (x1 : Int32) (h : jH) : Option (Int32 × jH) :=
  F_X3_readCondition_7 n g0 g1 n a0 x1 (0 : Int32) (0 : Int32) (0 : Int32) h
noncomputable def F_X3_readAtom_128 (n : Nat) (g0 : Nat → Int32 → jH → Option (Int32 × jH)) (g1 : Nat → Int32 → jH → Option (Int32 × jH)) (a0 : Nat) (h : jH) : Option (Int32 × jH) :=
  (jcv 3 h a0 (F_X3_readComparison n a0 h)).bind fun q129 =>
  if q129.1 = 0 ∨ q129.1 = 1 then some (q129.1, q129.2) else none
noncomputable def F_X3_readAtom_28 (n : Nat) (g0 : Nat → Int32 → jH → Option (Int32 × jH)) (g1 : Nat → Int32 → jH → Option (Int32 × jH)) (a0 : Nat) (x1 : Int32) (x2 : Int32) (h : jH) : Option (Int32 × jH) :=
  (jgR 3 h a0 0).bind fun p29 =>
  (jcv 8 h p29 (F_X10_take n p29 (11 : Int32) h)).bind fun q34 =>
  if q34.1 = 0 then ((jgR 3 q34.2 a0 0).bind fun p60 =>
  (jcv 8 q34.2 p60 (F_X10_take n p60 (40 : Int32) q34.2)).bind fun q65 =>
  if q65.1 = 0 then (if x2 < (7 : Int32) then (F_X3_readAtom_128 n g0 g1 a0 q65.2)
  else (if (10 : Int32) < x2 then (F_X3_readAtom_128 n g0 g1 a0 q65.2)
  else ((jgR 3 q65.2 a0 0).bind fun p112 =>
  (jcv 8 q65.2 p112 (F_X10_skip n p112 q65.2)).bind fun h115 =>
  (jgR 3 h115 a0 2).bind fun p119 =>
  (jcv 2 h115 p119 (F_X2_addCode n p119 x2 h115)).bind fun h123 =>
  some ((1 : Int32), h123))))
  else ((jcv 3 q65.2 a0 (g0 a0 (x1 + (1 : Int32)) q65.2)).bind fun q75 =>
  if q75.1 = 0 then (some ((0 : Int32), q75.2))
  else ((jgR 3 q75.2 a0 0).bind fun p82 =>
  (jcv 8 q75.2 p82 (F_X10_take n p82 (41 : Int32) q75.2)).bind fun q87 =>
  if q87.1 = 0 then (some ((0 : Int32), q87.2))
  else (some ((1 : Int32), q87.2)))))
  else ((jcv 3 q34.2 a0 (g1 a0 (x1 + (1 : Int32)) q34.2)).bind fun q44 =>
  (jgR 3 q44.2 a0 2).bind fun p49 =>
  (jcv 2 q44.2 p49 (F_X2_addCode n p49 (11 : Int32) q44.2)).bind fun h54 =>
  if q44.1 = 0 ∨ q44.1 = 1 then some (q44.1, h54) else none)
noncomputable def F_X3_readAtom_20 (n : Nat) (g0 : Nat → Int32 → jH → Option (Int32 × jH)) (g1 : Nat → Int32 → jH → Option (Int32 × jH)) (a0 : Nat) (x1 : Int32) (x2 : Int32) (h : jH) : Option (Int32 × jH) :=
  if x1 < (6 : Int32) then (F_X3_readAtom_28 n g0 g1 a0 x1 x2 h)
  else (some ((0 : Int32), h))
noncomputable def F_X3_readAtom (n : Nat) (g0 : Nat → Int32 → jH → Option (Int32 × jH)) (g1 : Nat → Int32 → jH → Option (Int32 × jH)) (a0 : Nat) (x1 : Int32) (h : jH) : Option (Int32 × jH) :=
  (jgR 3 h a0 0).bind fun p1 =>
  (jcv 8 h p1 (F_X10_kind n p1 h)).bind fun v4 =>
  if v4 = (11 : Int32) then (F_X3_readAtom_20 n g0 g1 a0 x1 v4 h)
  else (if v4 = (40 : Int32) then (F_X3_readAtom_20 n g0 g1 a0 x1 v4 h)
  else (F_X3_readAtom_28 n g0 g1 a0 x1 v4 h))
noncomputable def FG_RC (n : Nat) : Nat → Nat → Nat → Int32 → jH → Option (Int32 × jH)
  | 0 => fun _ _ _ _ => none
  | d + 1 => fun w =>
    if w = 0 then F_X3_readCondition n (FG_RC n d 0) (FG_RC n d 1) else F_X3_readAtom n (FG_RC n d 0) (FG_RC n d 1)
noncomputable def F_X3_readLine_76 (n : Nat) (a0 : Nat) (x2 : Int32) (sa0 : Nat) (s1 : Int32) (h : jH) : Option (Int32 × jH) :=
  (jcv 2 h sa0 (F_X2_addLine n sa0 s1 x2 h)).bind fun h77 =>
  (jgR 3 h77 a0 0).bind fun p81 =>
  (jcv 8 h77 p81 (F_X10_take n p81 (14 : Int32) h77)).bind fun q86 =>
  if q86.1 = 0 then (some ((1 : Int32), q86.2))
  else ((jcv 3 q86.2 a0 (FG_RC n 20 0 a0 (0 : Int32) q86.2)).bind fun q94 =>
  if q94.1 = 0 then (some ((0 : Int32), q94.2))
  else (some ((1 : Int32), q94.2)))
noncomputable def F_X3_readLine_27 (n : Nat) (a0 : Nat) (x1 : Int32) (h : jH) : Option (Int32 × jH) :=
  (jgR 3 h a0 0).bind fun p28 =>
  (jcv 8 h p28 (F_X10_skip n p28 h)).bind fun h31 =>
  (jgR 3 h31 a0 0).bind fun p35 =>
  (jcv 8 h31 p35 (F_X10_takeNumber n p35 (0 : Int32) (100 : Int32) h31)).bind fun q41 =>
  if q41.1 = (-1 : Int32) then (some ((0 : Int32), q41.2))
  else ((jgR 3 q41.2 a0 2).bind fun p53 =>
  if x1 = (3 : Int32) then (F_X3_readLine_76 n a0 q41.1 p53 (0 : Int32) q41.2)
  else (if x1 = (15 : Int32) then (F_X3_readLine_76 n a0 q41.1 p53 (1 : Int32) q41.2)
  else (F_X3_readLine_76 n a0 q41.1 p53 (2 : Int32) q41.2)))
noncomputable def F_X3_readLine (n : Nat) (a0 : Nat) (h : jH) : Option (Int32 × jH) :=
  (jgR 3 h a0 0).bind fun p1 =>
  (jcv 8 h p1 (F_X10_kind n p1 h)).bind fun v4 =>
  if v4 = (3 : Int32) then (F_X3_readLine_27 n a0 v4 h)
  else (if v4 = (15 : Int32) then (F_X3_readLine_27 n a0 v4 h)
  else (if v4 = (16 : Int32) then (F_X3_readLine_27 n a0 v4 h)
  else (some ((0 : Int32), h))))
noncomputable def F_X4_read_L_22_b (n : Nat) (rc22 : Nat → Int32 → jH → Option (Int32 × jH)) (a0 : Nat) (x1 : Int32) (h : jH) : Option (Int32 × jH) :=
  (jgI 3 h a0 1).bind fun v24 =>
  if v24 ≤ x1 then ((jgR 3 h a0 0).bind fun p85 =>
  (jcv 8 h p85 (F_X10_start n p85 h)).bind fun v88 =>
  some (v88, h))
  else ((jcv 3 h a0 (F_X3_readLine n a0 h)).bind fun q31 =>
  if q31.1 = 0 then ((jgR 3 q31.2 a0 0).bind fun p38 =>
  (jcv 8 q31.2 p38 (F_X10_start n p38 q31.2)).bind fun v41 =>
  some (v41, q31.2))
  else ((jgR 3 q31.2 a0 0).bind fun p46 =>
  (jcv 8 q31.2 p46 (F_X10_kind n p46 q31.2)).bind fun v49 =>
  if v49 = (-1 : Int32) then (some ((-1 : Int32), q31.2))
  else ((jgR 3 q31.2 a0 0).bind fun p59 =>
  (jcv 8 q31.2 p59 (F_X10_take n p59 (59 : Int32) q31.2)).bind fun q64 =>
  if q64.1 = 0 then ((jgR 3 q64.2 a0 0).bind fun p71 =>
  (jcv 8 q64.2 p71 (F_X10_start n p71 q64.2)).bind fun v74 =>
  some (v74, q64.2))
  else (rc22 a0 (x1 + (1 : Int32)) q64.2))))
noncomputable def F_X4_read_L_22 (n : Nat) : Nat → Nat → Int32 → jH → Option (Int32 × jH)
  | 0 => fun _ _ _ => none
  | k + 1 => F_X4_read_L_22_b n (F_X4_read_L_22 n k)
noncomputable def F_X4_read_L (n : Nat) (a0 : Nat) (h : jH) : Option (Int32 × jH) :=
  (jgR 3 h a0 0).bind fun p1 =>
  (jcv 8 h p1 (F_X10_scan n p1 h)).bind fun h4 =>
  (jgR 3 h4 a0 0).bind fun p8 =>
  (jcv 8 h4 p8 (F_X10_kind n p8 h4)).bind fun v11 =>
  if v11 = (-1 : Int32) then (some ((-1 : Int32), h4))
  else (F_X4_read_L_22 n n a0 (0 : Int32) h4)
noncomputable def F_X11_law (n : Nat) (a0 : Nat) (h : jH) : Option (jR × jH) :=
  (jgR 9 h a0 5).bind fun p1 =>
  (jcv 2 h p1 (F_X2_begin n p1 h)).bind fun h4 =>
  (jgR 9 h4 a0 7).bind fun p9 =>
  (jcv 3 h4 p9 (F_X4_read_L n p9 h4)).bind fun q12 =>
  (jpf 9 q12.2 a0 12 (.int q12.1)).bind fun h15 =>
  (jgR 9 h15 a0 0).bind fun p19 =>
  (jpf 8 h15 p19 6 (.int (0 : Int32))).bind fun h23 =>
  (jgI 9 h23 a0 12).bind fun v27 =>
  if v27 = (-1 : Int32) then ((jgR 9 h23 a0 2).bind fun p45 =>
  (jgR 9 h23 a0 5).bind fun p49 =>
  (jcv 2 h23 p45 (F_X2_copyFrom n p45 p49 h23)).bind fun h52 =>
  (jgR 9 h52 a0 3).bind fun p56 =>
  (jcv 0 h52 p56 (F_X0_forget n p56 h52)).bind fun h59 =>
  (jgR 9 h59 a0 2).bind fun p63 =>
  (jgI 2 h59 p63 8).bind fun v66 =>
  some (.inl v66, h59))
  else (some (.inr 0, h23))
noncomputable def F_X11_fault (n : Nat) (a0 : Nat) (h : jH) : Option Int32 :=
  (jgI 9 h a0 12).bind fun v1 =>
  some v1
noncomputable def F_X11_requireRing (n : Nat) (a0 : Nat) (x1 : Int32) (h : jH) : Option (jR × jH) :=
  if x1 < 0 then (some (.inr 2, h))
  else ((jgR 9 h a0 1).bind fun p6 =>
  (jgI 6 h p6 5).bind fun v9 =>
  if x1 < v9 then (some (.inl 0, h))
  else (some (.inr 2, h)))
noncomputable def F_X11_ring (n : Nat) (a0 : Nat) (x1 : Int32) (x2 : Int32) (h : jH) : Option (jR × jH) :=
  (jcv 9 h a0 (F_X11_requireRing n a0 x1 h)).bind fun q2 => jthen q2 fun r2 h2 =>
  if x2 = (0 : Int32) then ((jgR 9 h2 a0 1).bind fun p77 =>
  (jgR 6 h2 p77 0).bind fun p80 =>
  (jal 0 h2 p80 x1).bind fun v84 =>
  some (.inl v84, h2))
  else if x2 = (1 : Int32) then ((jgR 9 h2 a0 1).bind fun p87 =>
  (jgR 6 h2 p87 1).bind fun p90 =>
  (jal 0 h2 p90 x1).bind fun v94 =>
  some (.inl v94, h2))
  else if x2 = (2 : Int32) then ((jgR 9 h2 a0 1).bind fun p97 =>
  (jgI 6 h2 p97 6).bind fun v100 =>
  (F_X11_bit n v100 x1 h2).bind fun v104 =>
  some (.inl v104, h2))
  else if x2 = (3 : Int32) then ((jgR 9 h2 a0 1).bind fun p109 =>
  (jgI 6 h2 p109 7).bind fun v112 =>
  (F_X11_bit n v112 x1 h2).bind fun v116 =>
  some (.inl v116, h2))
  else if x2 = (4 : Int32) then ((jgR 9 h2 a0 1).bind fun p121 =>
  (jgR 6 h2 p121 2).bind fun p124 =>
  (jal 0 h2 p124 x1).bind fun v128 =>
  some (.inl v128, h2))
  else if x2 = (5 : Int32) then ((jgR 9 h2 a0 1).bind fun p131 =>
  (jgR 6 h2 p131 3).bind fun p134 =>
  (jal 0 h2 p134 x1).bind fun v138 =>
  some (.inl v138, h2))
  else if x2 = (6 : Int32) then ((jgR 9 h2 a0 1).bind fun p141 =>
  (jgI 6 h2 p141 8).bind fun v144 =>
  (F_X11_bit n v144 x1 h2).bind fun v148 =>
  some (.inl v148, h2))
  else if x2 = (7 : Int32) then ((jgR 9 h2 a0 1).bind fun p153 =>
  (jgI 6 h2 p153 9).bind fun v156 =>
  (F_X11_bit n v156 x1 h2).bind fun v160 =>
  some (.inl v160, h2))
  else if x2 = (8 : Int32) then ((jgR 9 h2 a0 1).bind fun p165 =>
  (jcv 6 h2 p165 (F_X8_gap n p165 x1 (-1 : Int32) h2)).bind fun v170 =>
  some (.inl v170, h2))
  else if x2 = (9 : Int32) then ((jgR 9 h2 a0 2).bind fun p175 =>
  (jgR 9 h2 a0 1).bind fun p180 =>
  (jcv 2 h2 p175 (F_X2_amount n p175 (0 : Int32) p180 x1 h2)).bind fun q184 =>
  some (.inl q184.1, q184.2))
  else if x2 = (10 : Int32) then ((jgR 9 h2 a0 2).bind fun p189 =>
  (jgR 9 h2 a0 1).bind fun p194 =>
  (jcv 2 h2 p189 (F_X2_amount n p189 (1 : Int32) p194 x1 h2)).bind fun q198 =>
  some (.inl q198.1, q198.2))
  else if x2 = (11 : Int32) then ((jgR 9 h2 a0 2).bind fun p203 =>
  (jgR 9 h2 a0 1).bind fun p208 =>
  (jcv 2 h2 p203 (F_X2_amount n p203 (2 : Int32) p208 x1 h2)).bind fun q212 =>
  some (.inl q212.1, q212.2))
  else if x2 = (12 : Int32) then ((jgR 9 h2 a0 1).bind fun p217 =>
  (F_X6_hangsBy n p217 x1 h2).bind fun v221 =>
  some (.inl v221, h2))
  else if x2 = (13 : Int32) then ((jgR 9 h2 a0 1).bind fun p226 =>
  (F_X6_share n p226 x1 h2).bind fun v230 =>
  some (.inl v230, h2))
  else (some (.inr 4, h2))
noncomputable def F_X11_requireNumber (n : Nat) (a0 : Nat) (x1 : Int32) (x2 : Int32) (x3 : Int32) (h : jH) : Option (jR × jH) :=
  if x1 < x2 then (some (.inr 0, h))
  else (if x1 ≤ x3 then (some (.inl 0, h))
  else (some (.inr 0, h)))
noncomputable def F_X11_pull (n : Nat) (a0 : Nat) (x1 : Int32) (x2 : Int32) (x3 : Int32) (h : jH) : Option (jR × jH) :=
  (jcv 9 h a0 (F_X11_requireRing n a0 x1 h)).bind fun q2 => jthen q2 fun r2 h2 =>
  (jcv 9 h2 a0 (F_X11_requireNumber n a0 x3 (1 : Int32) (31 : Int32) h2)).bind fun q10 => jthen q10 fun r10 h10 =>
  (jgR 9 h10 a0 3).bind fun p14 =>
  (jgR 9 h10 a0 1).bind fun p18 =>
  (jcv 0 h10 p14 (F_X0_remember n p14 p18 h10)).bind fun h21 =>
  (jgR 9 h21 a0 1).bind fun p25 =>
  (jcv 6 h21 p25 (F_X8_move n p25 x1 x2 x3 h21)).bind fun q31 =>
  (jgR 9 q31.2 a0 1).bind fun p37 =>
  (jgR 6 q31.2 p37 4).bind fun p40 =>
  (jgR 9 q31.2 a0 1).bind fun p44 =>
  (jcv 4 q31.2 p40 (F_X5_add n p40 p44 x1 (0 : Int32) q31.1 q31.2)).bind fun h51 =>
  some (.inl q31.1, h51)
noncomputable def F_X11_free (n : Nat) (a0 : Nat) (x1 : Int32) (h : jH) : Option (jR × jH) :=
  (jcv 9 h a0 (F_X11_requireRing n a0 x1 h)).bind fun q2 => jthen q2 fun r2 h2 =>
  (jgR 9 h2 a0 1).bind fun p6 =>
  (jgI 6 h2 p6 9).bind fun v9 =>
  (F_X11_bit n v9 x1 h2).bind fun v13 =>
  if v13 = 0 then (some (.inr 1, h2))
  else ((jgR 9 h2 a0 3).bind fun p30 =>
  (jgR 9 h2 a0 1).bind fun p34 =>
  (jcv 0 h2 p30 (F_X0_remember n p30 p34 h2)).bind fun h37 =>
  (jgR 9 h37 a0 1).bind fun p41 =>
  (jgR 9 h37 a0 1).bind fun p45 =>
  (jgI 6 h37 p45 9).bind fun v48 =>
  (F_X11_withBit n v48 x1 (0 : Int32) h37).bind fun v53 =>
  (jpf 6 h37 p41 9 (.int v53)).bind fun h56 =>
  (jgR 9 h56 a0 1).bind fun p60 =>
  (jcv 6 h56 p60 (F_X8_gap n p60 x1 (-1 : Int32) h56)).bind fun v65 =>
  some (.inl v65, h56))
noncomputable def F_X11_snag (n : Nat) (a0 : Nat) (x1 : Int32) (h : jH) : Option (jR × jH) :=
  (jcv 9 h a0 (F_X11_requireRing n a0 x1 h)).bind fun q2 => jthen q2 fun r2 h2 =>
  (jgR 9 h2 a0 1).bind fun p7 =>
  (jgI 6 h2 p7 5).bind fun v10 =>
  if x1 = (v10 - (1 : Int32)) then (some (.inr 1, h2))
  else ((jgR 9 h2 a0 1).bind fun p19 =>
  (jgI 6 h2 p19 9).bind fun v22 =>
  (F_X11_bit n v22 x1 h2).bind fun v26 =>
  if v26 = (1 : Int32) then (some (.inr 1, h2))
  else ((jgR 9 h2 a0 3).bind fun p44 =>
  (jgR 9 h2 a0 1).bind fun p48 =>
  (jcv 0 h2 p44 (F_X0_remember n p44 p48 h2)).bind fun h51 =>
  (jgR 9 h51 a0 1).bind fun p55 =>
  (jgR 9 h51 a0 1).bind fun p59 =>
  (jgI 6 h51 p59 9).bind fun v62 =>
  (F_X11_withBit n v62 x1 (1 : Int32) h51).bind fun v67 =>
  (jpf 6 h51 p55 9 (.int v67)).bind fun h70 =>
  (jgR 9 h70 a0 1).bind fun p74 =>
  (jcv 6 h70 p74 (F_X8_gap n p74 x1 (-1 : Int32) h70)).bind fun v79 =>
  some (.inl v79, h70)))
noncomputable def F_X11_hook (n : Nat) (a0 : Nat) (x1 : Int32) (x2 : Int32) (h : jH) : Option (jR × jH) :=
  (jcv 9 h a0 (F_X11_requireRing n a0 x1 h)).bind fun q2 => jthen q2 fun r2 h2 =>
  (jgR 9 h2 a0 3).bind fun p6 =>
  (jgR 9 h2 a0 1).bind fun p10 =>
  (jcv 0 h2 p6 (F_X0_remember n p6 p10 h2)).bind fun h13 =>
  (jgR 9 h13 a0 1).bind fun p17 =>
  (jgI 6 h13 p17 8).bind fun v20 =>
  (jgR 9 h13 a0 1).bind fun p25 =>
  (F_X11_withBit n v20 x1 x2 h13).bind fun v31 =>
  (jpf 6 h13 p25 8 (.int v31)).bind fun h34 =>
  (jgR 9 h34 a0 1).bind fun p38 =>
  (jgI 6 h34 p38 8).bind fun v41 =>
  if v41 = v20 then (some (.inl (0 : Int32), h34))
  else (some (.inl (1 : Int32), h34))
noncomputable def F_X11_requirePlace (n : Nat) (a0 : Nat) (x1 : Int32) (h : jH) : Option (jR × jH) :=
  if x1 < 0 then (some (.inr 2, h))
  else (if x1 ≤ (31 : Int32) then (some (.inl 0, h))
  else (some (.inr 2, h)))
noncomputable def F_X11_sew (n : Nat) (a0 : Nat) (x1 : Int32) (x2 : Int32) (h : jH) : Option (jR × jH) :=
  (jcv 9 h a0 (F_X11_requirePlace n a0 x1 h)).bind fun q2 => jthen q2 fun r2 h2 =>
  (jcv 9 h2 a0 (F_X11_requireNumber n a0 x2 (1 : Int32) (9 : Int32) h2)).bind fun q10 => jthen q10 fun r10 h10 =>
  (jgR 9 h10 a0 1).bind fun p14 =>
  (jgI 6 h10 p14 5).bind fun v17 =>
  if (8 : Int32) ≤ v17 then (some (.inr 1, h10))
  else ((jgR 9 h10 a0 1).bind fun p27 =>
  (jcv 6 h10 p27 (F_X8_nearestNew n p27 h10)).bind fun v30 =>
  if x1 < v30 then (some (.inr 1, h10))
  else ((jgR 9 h10 a0 1).bind fun p38 =>
  (jcv 6 h10 p38 (F_X8_farthestNew n p38 h10)).bind fun v41 =>
  if x1 ≤ v41 then ((jgR 9 h10 a0 3).bind fun p58 =>
  (jgR 9 h10 a0 1).bind fun p62 =>
  (jcv 0 h10 p58 (F_X0_remember n p58 p62 h10)).bind fun h65 =>
  (jgR 9 h65 a0 1).bind fun p69 =>
  (jcv 6 h65 p69 (F_X8_add n p69 x1 x2 h65)).bind fun h74 =>
  (jgR 9 h74 a0 1).bind fun p78 =>
  (jgI 6 h74 p78 5).bind fun v81 =>
  some (.inl (v81 - (1 : Int32)), h74))
  else (some (.inr 1, h10))))
noncomputable def F_X11_let (n : Nat) (a0 : Nat) (x1 : Int32) (x2 : Int32) (h : jH) : Option (jR × jH) :=
  (jcv 9 h a0 (F_X11_requireRing n a0 x1 h)).bind fun q2 => jthen q2 fun r2 h2 =>
  (jcv 9 h2 a0 (F_X11_requireNumber n a0 x2 (0 : Int32) (9 : Int32) h2)).bind fun q10 => jthen q10 fun r10 h10 =>
  (jgR 9 h10 a0 3).bind fun p14 =>
  (jgR 9 h10 a0 1).bind fun p18 =>
  (jcv 0 h10 p14 (F_X0_remember n p14 p18 h10)).bind fun h21 =>
  (jgR 9 h21 a0 1).bind fun p25 =>
  (jgR 6 h21 p25 3).bind fun p28 =>
  (jal 0 h21 p28 x1).bind fun v32 =>
  (jgR 9 h21 a0 1).bind fun p35 =>
  (jgR 6 h21 p35 3).bind fun p38 =>
  (jas 0 h21 p38 x1 x2).bind fun h43 =>
  some (.inl v32, h43)
noncomputable def F_X11_chair (n : Nat) (a0 : Nat) (x1 : Int32) (x2 : Int32) (h : jH) : Option (jR × jH) :=
  (jcv 9 h a0 (F_X11_requirePlace n a0 x1 h)).bind fun q2 => jthen q2 fun r2 h2 =>
  (jgR 9 h2 a0 3).bind fun p6 =>
  (jgR 9 h2 a0 1).bind fun p10 =>
  (jcv 0 h2 p6 (F_X0_remember n p6 p10 h2)).bind fun h13 =>
  (jgR 9 h13 a0 1).bind fun p17 =>
  (jgI 6 h13 p17 10).bind fun v20 =>
  (jgR 9 h13 a0 1).bind fun p25 =>
  (F_X11_withBit n v20 x1 x2 h13).bind fun v31 =>
  (jpf 6 h13 p25 10 (.int v31)).bind fun h34 =>
  (jgR 9 h34 a0 1).bind fun p38 =>
  (jgI 6 h34 p38 10).bind fun v41 =>
  if v41 = v20 then (some (.inl (0 : Int32), h34))
  else (some (.inl (1 : Int32), h34))
noncomputable def F_X11_hours (n : Nat) (a0 : Nat) (x1 : Int32) (h : jH) : Option (jR × jH) :=
  (jcv 9 h a0 (F_X11_requireNumber n a0 x1 (1 : Int32) (80 : Int32) h)).bind fun q5 => jthen q5 fun r5 h5 =>
  (jgR 9 h5 a0 3).bind fun p9 =>
  (jgR 9 h5 a0 1).bind fun p13 =>
  (jcv 0 h5 p9 (F_X0_remember n p9 p13 h5)).bind fun h16 =>
  (jgR 9 h16 a0 8).bind fun p20 =>
  (jgR 9 h16 a0 1).bind fun p24 =>
  (jcv 1 h16 p20 (F_X1_run n p20 p24 x1 h16)).bind fun q28 =>
  some (.inl q28.1, q28.2)
noncomputable def F_X11_shade (n : Nat) (a0 : Nat) (h : jH) : Option Int32 :=
  (jgR 9 h a0 1).bind fun p1 =>
  (jcv 6 h p1 (F_X8_shadow n p1 h)).bind fun v4 =>
  some v4
noncomputable def F_X11_dark (n : Nat) (a0 : Nat) (h : jH) : Option Int32 :=
  (jgR 9 h a0 1).bind fun p1 =>
  (jcv 6 h p1 (F_X8_shadedChairs n p1 h)).bind fun v4 =>
  some v4
noncomputable def F_X11_bare (n : Nat) (a0 : Nat) (h : jH) : Option Int32 :=
  (jgR 9 h a0 1).bind fun p1 =>
  (jgI 6 h p1 10).bind fun v4 =>
  (jgR 9 h a0 1).bind fun p8 =>
  (jcv 6 h p8 (F_X8_shadow n p8 h)).bind fun v11 =>
  some (v4 &&& (v11 ^^^ (-1 : Int32)))
noncomputable def F_X11_goes (n : Nat) (a0 : Nat) (x1 : Int32) (x2 : Int32) (h : jH) : Option (jR × jH) :=
  (jcv 9 h a0 (F_X11_requireRing n a0 x1 h)).bind fun q2 => jthen q2 fun r2 h2 =>
  (jgR 9 h2 a0 4).bind fun p6 =>
  (jgR 9 h2 a0 1).bind fun p10 =>
  (jcv 6 h2 p6 (F_X8_copyFrom n p6 p10 h2)).bind fun h13 =>
  (jgR 9 h13 a0 4).bind fun p17 =>
  (jcv 6 h13 p17 (F_X8_move n p17 x1 x2 (31 : Int32) h13)).bind fun q24 =>
  some (.inl q24.1, q24.2)
noncomputable def F_X11_with (n : Nat) (a0 : Nat) (x1 : Int32) (x2 : Int32) (h : jH) : Option (jR × jH) :=
  (jcv 9 h a0 (F_X11_requireRing n a0 x1 h)).bind fun q2 => jthen q2 fun r2 h2 =>
  (jgR 9 h2 a0 1).bind fun p6 =>
  (jcv 6 h2 p6 (F_X8_goers n p6 x1 x2 h2)).bind fun v11 =>
  some (.inl v11, h2)
noncomputable def F_X11_would (n : Nat) (a0 : Nat) (x1 : Int32) (x2 : Int32) (x3 : Int32) (x4 : Int32) (h : jH) : Option (jR × jH) :=
  (jcv 9 h a0 (F_X11_requireRing n a0 x1 h)).bind fun q2 => jthen q2 fun r2 h2 =>
  (jcv 9 h2 a0 (F_X11_requireNumber n a0 x3 (1 : Int32) (31 : Int32) h2)).bind fun q10 => jthen q10 fun r10 h10 =>
  (jgR 9 h10 a0 4).bind fun p14 =>
  (jgR 9 h10 a0 1).bind fun p18 =>
  (jcv 6 h10 p14 (F_X8_copyFrom n p14 p18 h10)).bind fun h21 =>
  (jgR 9 h21 a0 4).bind fun p25 =>
  (jcv 6 h21 p25 (F_X8_move n p25 x1 x2 x3 h21)).bind fun q31 =>
  if x4 = 0 then ((jgR 9 q31.2 a0 4).bind fun p59 =>
  (jcv 6 q31.2 p59 (F_X8_shadedChairs n p59 q31.2)).bind fun v62 =>
  some (.inl v62, q31.2))
  else ((jgR 9 q31.2 a0 4).bind fun p41 =>
  (jgI 6 q31.2 p41 15).bind fun v44 =>
  (jgR 9 q31.2 a0 1).bind fun p48 =>
  (jgI 6 q31.2 p48 15).bind fun v51 =>
  some (.inl (v44 - v51), q31.2))
noncomputable def F_X11_best (n : Nat) (a0 : Nat) (h : jH) : Option (Int32 × jH) :=
  (jgR 9 h a0 9).bind fun p1 =>
  (jgR 9 h a0 1).bind fun p5 =>
  (jcv 5 h p1 (F_X7_shadiest n p1 p5 h)).bind fun q8 =>
  some (q8.1, q8.2)
noncomputable def F_X11_fewest (n : Nat) (a0 : Nat) (x1 : Int32) (h : jH) : Option (Int32 × jH) :=
  (jgR 9 h a0 9).bind fun p1 =>
  (jgR 9 h a0 1).bind fun p5 =>
  (jcv 5 h p1 (F_X7_seekShade n p1 p5 x1 h)).bind fun h9 =>
  (jgR 9 h9 a0 9).bind fun p13 =>
  (jgI 5 h9 p13 5).bind fun v16 =>
  some (v16, h9)
noncomputable def F_X11_first (n : Nat) (a0 : Nat) (x1 : Int32) (h : jH) : Option (Int32 × jH) :=
  (jgR 9 h a0 9).bind fun p1 =>
  (jgR 9 h a0 1).bind fun p5 =>
  (jcv 5 h p1 (F_X7_seekShade n p1 p5 x1 h)).bind fun h9 =>
  (jgR 9 h9 a0 9).bind fun p13 =>
  (jgI 5 h9 p13 6).bind fun v16 =>
  some (v16, h9)
noncomputable def F_X11_readSnags (n : Nat) (a0 : Nat) (h : jH) : Option (jR × jH) :=
  (jgR 9 h a0 9).bind fun p1 =>
  (jgR 9 h a0 1).bind fun p5 =>
  (jgI 6 h p5 5).bind fun v8 =>
  (jcv 5 h p1 (F_X7_areRows n p1 v8 h)).bind fun v11 =>
  if v11 = 0 then ((jgR 9 h a0 0).bind fun p31 =>
  (jpf 8 h p31 6 (.int (0 : Int32))).bind fun h35 =>
  if v11 = 0 then (some (.inr 0, h35))
  else (some (.inl 0, h35)))
  else ((jgR 9 h a0 9).bind fun p20 =>
  (jgR 9 h a0 1).bind fun p24 =>
  (jcv 5 h p20 (F_X7_seekSnags n p20 p24 h)).bind fun h27 =>
  (jgR 9 h27 a0 0).bind fun p31 =>
  (jpf 8 h27 p31 6 (.int (0 : Int32))).bind fun h35 =>
  if v11 = 0 then (some (.inr 0, h35))
  else (some (.inl 0, h35)))
noncomputable def F_X11_snags (n : Nat) (a0 : Nat) (x1 : Int32) (h : jH) : Option (jR × jH) :=
  (jcv 9 h a0 (F_X11_readSnags n a0 h)).bind fun q1 => jthen q1 fun r1 h1 =>
  if x1 = 0 then ((jgR 9 h1 a0 9).bind fun p19 =>
  (jgI 5 h1 p19 4).bind fun v22 =>
  some (.inl v22, h1))
  else ((jgR 9 h1 a0 9).bind fun p9 =>
  (jcv 5 h1 p9 (F_X7_inAllFitting n p9 h1)).bind fun v12 =>
  some (.inl v12, h1))
noncomputable def F_X11_tries (n : Nat) (a0 : Nat) (h : jH) : Option (jR × jH) :=
  (jcv 9 h a0 (F_X11_readSnags n a0 h)).bind fun q1 => jthen q1 fun r1 h1 =>
  (jgR 9 h1 a0 9).bind fun p5 =>
  (jgR 9 h1 a0 1).bind fun p9 =>
  (jcv 5 h1 p5 (F_X7_partingPull n p5 p9 h1)).bind fun q12 =>
  some (.inl q12.1, q12.2)
noncomputable def F_X11_loosen (n : Nat) (a0 : Nat) (x1 : Int32) (x2 : Int32) (x3 : Int32) (h : jH) : Option (jR × jH) :=
  (jcv 9 h a0 (F_X11_requireRing n a0 x1 h)).bind fun q2 => jthen q2 fun r2 h2 =>
  (jcv 9 h2 a0 (F_X11_requireNumber n a0 x3 (1 : Int32) (31 : Int32) h2)).bind fun q10 => jthen q10 fun r10 h10 =>
  (jgR 9 h10 a0 9).bind fun p14 =>
  (jgR 9 h10 a0 1).bind fun p18 =>
  (jcv 5 h10 p14 (F_X7_fewestFreed n p14 p18 x1 x2 x3 h10)).bind fun q24 =>
  some (.inl q24.1, q24.2)
noncomputable def F_X11_order (n : Nat) (a0 : Nat) (h : jH) : Option Int32 :=
  (jgR 9 h a0 1).bind fun p1 =>
  (F_X6_outOfOrder n p1 h).bind fun v4 =>
  some v4
noncomputable def F_X11_tight (n : Nat) (a0 : Nat) (x1 : Int32) (h : jH) : Option (jR × jH) :=
  (jcv 9 h a0 (F_X11_requireNumber n a0 x1 (2 : Int32) (8 : Int32) h)).bind fun q5 => jthen q5 fun r5 h5 =>
  (jgR 9 h5 a0 1).bind fun p9 =>
  (F_X6_tightest n p9 x1 h5).bind fun v13 =>
  some (.inl v13, h5)
noncomputable def F_X11_slack (n : Nat) (a0 : Nat) (h : jH) : Option Int32 :=
  (jgR 9 h a0 1).bind fun p1 =>
  (F_X6_spareCloth n p1 h).bind fun v4 =>
  some v4
noncomputable def F_X11_taut (n : Nat) (a0 : Nat) (h : jH) : Option Int32 :=
  (jgR 9 h a0 1).bind fun p1 =>
  (F_X6_tautRings n p1 h).bind fun v4 =>
  some v4
noncomputable def F_X11_lit (n : Nat) (a0 : Nat) (x1 : Int32) (h : jH) : Option (jR × jH) :=
  if x1 < 0 then (some (.inr 2, h))
  else (if x1 < (8 : Int32) then ((jgR 9 h a0 1).bind fun p22 =>
  (F_X6_litRings n p22 x1 h).bind fun v26 =>
  some (.inl v26, h))
  else (some (.inr 2, h)))
noncomputable def F_X11_sunny (n : Nat) (a0 : Nat) (h : jH) : Option Int32 :=
  (jgR 9 h a0 1).bind fun p1 =>
  (F_X6_sunniest n p1 h).bind fun v4 =>
  some v4
noncomputable def F_X11_faded (n : Nat) (a0 : Nat) (x1 : Int32) (h : jH) : Option (jR × jH) :=
  (jcv 9 h a0 (F_X11_requireNumber n a0 x1 (0 : Int32) (80 : Int32) h)).bind fun q5 => jthen q5 fun r5 h5 =>
  (jgR 9 h5 a0 8).bind fun p9 =>
  (jgR 9 h5 a0 1).bind fun p13 =>
  (jcv 1 h5 p9 (F_X1_goAhead n p9 p13 x1 h5)).bind fun h17 =>
  (jgR 9 h17 a0 4).bind fun p21 =>
  (jcv 6 h17 p21 (F_X8_allFades n p21 h17)).bind fun v24 =>
  some (.inl v24, h17)
noncomputable def F_X11_pale (n : Nat) (a0 : Nat) (h : jH) : Option (Int32 × jH) :=
  (jgR 9 h a0 8).bind fun p1 =>
  (jgR 9 h a0 1).bind fun p5 =>
  (jcv 1 h p1 (F_X1_firstPale n p1 p5 h)).bind fun q8 =>
  some (q8.1, q8.2)
noncomputable def F_X11_lets (n : Nat) (a0 : Nat) (x1 : Int32) (x2 : Int32) (h : jH) : Option (jR × jH) :=
  (jcv 9 h a0 (F_X11_requireRing n a0 x1 h)).bind fun q2 => jthen q2 fun r2 h2 =>
  (jcv 9 h2 a0 (F_X11_requireNumber n a0 x2 (0 : Int32) (9 : Int32) h2)).bind fun q10 => jthen q10 fun r10 h10 =>
  (jgR 9 h10 a0 1).bind fun p14 =>
  (F_X6_evenLength n p14 x1 x2 h10).bind fun v19 =>
  some (.inl v19, h10)
noncomputable def F_X11_envy (n : Nat) (a0 : Nat) (h : jH) : Option Int32 :=
  (jgR 9 h a0 1).bind fun p1 =>
  (F_X6_enviousPairs n p1 h).bind fun v4 =>
  some v4
noncomputable def F_X11_rests (n : Nat) (a0 : Nat) (x1 : Int32) (h : jH) : Option (jR × jH) :=
  (jcv 9 h a0 (F_X11_requireRing n a0 x1 h)).bind fun q2 => jthen q2 fun r2 h2 =>
  (jgR 9 h2 a0 1).bind fun p6 =>
  (F_X6_restingChoices n p6 x1 h2).bind fun v10 =>
  some (.inl v10, h2)
noncomputable def F_X11_bunch (n : Nat) (a0 : Nat) (h : jH) : Option Int32 :=
  (jgR 9 h a0 1).bind fun p1 =>
  (F_X6_largestBunch n p1 h).bind fun v4 =>
  some v4
noncomputable def F_X11_wooden (n : Nat) (a0 : Nat) (h : jH) : Option Int32 :=
  (jgR 9 h a0 1).bind fun p1 =>
  (jgI 6 h p1 7).bind fun v4 =>
  some v4
noncomputable def F_X11_caught (n : Nat) (a0 : Nat) (h : jH) : Option Int32 :=
  (jgR 9 h a0 1).bind fun p1 =>
  (jgI 6 h p1 9).bind fun v4 =>
  some v4
noncomputable def F_X11_loose (n : Nat) (a0 : Nat) (h : jH) : Option Int32 :=
  (jgR 9 h a0 1).bind fun p1 =>
  (jcv 6 h p1 (F_X8_unhooked n p1 h)).bind fun v4 =>
  some v4
noncomputable def F_X11_beyond (n : Nat) (a0 : Nat) (h : jH) : Option Int32 :=
  (jgR 9 h a0 1).bind fun p1 =>
  (F_X6_thickBeyondJoin n p1 h).bind fun v4 =>
  some v4
noncomputable def F_X11_odds (n : Nat) (a0 : Nat) (x1 : Int32) (x2 : Int32) (h : jH) : Option (jR × jH) :=
  (jcv 9 h a0 (F_X11_requireRing n a0 x1 h)).bind fun q2 => jthen q2 fun r2 h2 =>
  (jcv 9 h2 a0 (F_X11_requireNumber n a0 x2 (0 : Int32) (4 : Int32) h2)).bind fun q9 => jthen q9 fun r9 h9 =>
  (jgR 9 h9 a0 8).bind fun p13 =>
  (jgR 9 h9 a0 1).bind fun p17 =>
  (jcv 1 h9 p13 (F_X1_oddsToStay n p13 p17 x1 x2 h9)).bind fun q22 =>
  some (.inl q22.1, q22.2)
noncomputable def F_X11_twins (n : Nat) (a0 : Nat) (h : jH) : Option Int32 :=
  (jgR 9 h a0 1).bind fun p1 =>
  (F_X6_likePairs n p1 h).bind fun v4 =>
  some v4
noncomputable def F_X11_ahead (n : Nat) (a0 : Nat) (x1 : Int32) (x2 : Int32) (h : jH) : Option (jR × jH) :=
  (jcv 9 h a0 (F_X11_requireRing n a0 x1 h)).bind fun q2 => jthen q2 fun r2 h2 =>
  (jcv 9 h2 a0 (F_X11_requireNumber n a0 x2 (0 : Int32) (80 : Int32) h2)).bind fun q10 => jthen q10 fun r10 h10 =>
  (jgR 9 h10 a0 8).bind fun p14 =>
  (jgR 9 h10 a0 1).bind fun p18 =>
  (jcv 1 h10 p14 (F_X1_goAhead n p14 p18 x2 h10)).bind fun h22 =>
  (jgR 9 h22 a0 4).bind fun p26 =>
  (jgR 6 h22 p26 2).bind fun p29 =>
  (jal 0 h22 p29 x1).bind fun v33 =>
  some (.inl v33, h22)
noncomputable def F_X11_trial (n : Nat) (a0 : Nat) (x1 : Int32) (x2 : Int32) (h : jH) : Option (jR × jH) :=
  (jcv 9 h a0 (F_X11_requireNumber n a0 x1 (0 : Int32) (80 : Int32) h)).bind fun q5 => jthen q5 fun r5 h5 =>
  (jgR 9 h5 a0 8).bind fun p9 =>
  (jgR 9 h5 a0 1).bind fun p13 =>
  (jgR 9 h5 a0 1).bind fun p18 =>
  (jgI 6 h5 p18 16).bind fun v21 =>
  (jcv 1 h5 p9 (F_X1_tryHours n p9 p13 x1 v21 h5)).bind fun h24 =>
  if x2 = 0 then ((jgR 9 h24 a0 4).bind fun p42 =>
  (jgI 6 h24 p42 9).bind fun v45 =>
  some (.inl v45, h24))
  else ((jgR 9 h24 a0 4).bind fun p32 =>
  (jcv 6 h24 p32 (F_X8_unhooked n p32 h24)).bind fun v35 =>
  some (.inl v35, h24))
noncomputable def F_X11_span_13_b (n : Nat) (rc13 : Nat → Int32 → Int32 → Int32 → Int32 → jH → Option (jR × jH)) (a0 : Nat) (x1 : Int32) (x2 : Int32) (x3 : Int32) (x4 : Int32) (h : jH) : Option (jR × jH) :=
  if (6 : Int32) < x4 then (some (.inl x3, h))
  else ((jgR 9 h a0 8).bind fun p21 =>
  (jgR 9 h a0 1).bind fun p25 =>
  (jcv 1 h p21 (F_X1_tryHours n p21 p25 x1 x4 h)).bind fun h31 =>
  (jgR 9 h31 a0 4).bind fun p35 =>
  (jgI 6 h31 p35 9).bind fun v38 =>
  (F_J6_bitCount_0f7a4 n v38 h31).bind fun v41 =>
  (jgR 9 h31 a0 4).bind fun p45 =>
  (jcv 6 h31 p45 (F_X8_unhooked n p45 h31)).bind fun v48 =>
  (F_J6_bitCount_0f7a4 n v48 h31).bind fun v51 =>
  if x3 = (-1 : Int32) then (rc13 a0 x1 x2 (v41 + v51) (x4 + (1 : Int32)) h31)
  else (if x2 = 0 then (if x3 ≤ (v41 + v51) then (rc13 a0 x1 x2 x3 (x4 + (1 : Int32)) h31)
  else (rc13 a0 x1 x2 (v41 + v51) (x4 + (1 : Int32)) h31))
  else (if (v41 + v51) ≤ x3 then (rc13 a0 x1 x2 x3 (x4 + (1 : Int32)) h31)
  else (rc13 a0 x1 x2 (v41 + v51) (x4 + (1 : Int32)) h31))))
noncomputable def F_X11_span_13 (n : Nat) : Nat → Nat → Int32 → Int32 → Int32 → Int32 → jH → Option (jR × jH)
  | 0 => fun _ _ _ _ _ _ => none
  | k + 1 => F_X11_span_13_b n (F_X11_span_13 n k)
noncomputable def F_X11_span (n : Nat) (a0 : Nat) (x1 : Int32) (x2 : Int32) (h : jH) : Option (jR × jH) :=
  (jcv 9 h a0 (F_X11_requireNumber n a0 x1 (0 : Int32) (80 : Int32) h)).bind fun q5 => jthen q5 fun r5 h5 =>
  F_X11_span_13 n n a0 x1 x2 (-1 : Int32) (1 : Int32) h5
noncomputable def F_X11_led (n : Nat) (a0 : Nat) (x1 : Int32) (x2 : Int32) (h : jH) : Option (jR × jH) :=
  (jcv 9 h a0 (F_X11_requireRing n a0 x1 h)).bind fun q2 => jthen q2 fun r2 h2 =>
  if x2 = 0 then ((jgR 9 h2 a0 1).bind fun p24 =>
  (jgR 6 h2 p24 4).bind fun p27 =>
  (jcv 4 h2 p27 (F_X5_rowsOf n p27 x1 h2)).bind fun v31 =>
  some (.inl v31, h2))
  else ((jgR 9 h2 a0 1).bind fun p10 =>
  (jgR 6 h2 p10 4).bind fun p13 =>
  (jcv 4 h2 p13 (F_X5_latestPlace n p13 x1 h2)).bind fun v17 =>
  some (.inl v17, h2))
noncomputable def F_X11_log (n : Nat) (a0 : Nat) (x1 : Int32) (x2 : Int32) (h : jH) : Option (jR × jH) :=
  if x2 < 0 then (some (.inr 4, h))
  else (if x2 < (6 : Int32) then ((jgR 9 h a0 1).bind fun p22 =>
  (jgR 6 h p22 4).bind fun p25 =>
  (jcv 4 h p25 (F_X5_read n p25 x1 x2 h)).bind fun v30 =>
  some (.inl v30, h))
  else (some (.inr 4, h)))
noncomputable def F_X11_seed (n : Nat) (a0 : Nat) (x1 : Int32) (h : jH) : Option (Int32 × jH) :=
  (jgR 9 h a0 1).bind fun p1 =>
  (jgI 6 h p1 16).bind fun v4 =>
  (jgR 9 h a0 1).bind fun p9 =>
  (jpf 6 h p9 16 (.int x1)).bind fun h13 =>
  some (v4, h13)
noncomputable def F_X11_undo (n : Nat) (a0 : Nat) (h : jH) : Option (Int32 × jH) :=
  (jgR 9 h a0 3).bind fun p1 =>
  (jgR 9 h a0 1).bind fun p5 =>
  (jcv 0 h p1 (F_X0_takeBack n p1 p5 h)).bind fun q8 =>
  if q8.1 = 0 ∨ q8.1 = 1 then some (q8.1, q8.2) else none
noncomputable def F_X11_image_36 (n : Nat) (a0 : Nat) (h : jH) : Option jH :=
  (jgQ 9 h a0 10).bind fun o37 =>
  (jgR 9 h a0 1).bind fun p41 =>
  match o37 with
  | none => none
  | some p44 =>
  ((jcv 6 h p44 (F_X8_copyFrom n p44 p41 h)).bind fun h44 =>
  (jgQ 9 h44 a0 11).bind fun o48 =>
  (jgR 9 h44 a0 2).bind fun p52 =>
  match o48 with
  | none => none
  | some p55 =>
  ((jcv 2 h44 p55 (F_X2_copyFrom n p55 p52 h44)).bind fun h55 =>
  some h55))
noncomputable def F_X11_image_18 (n : Nat) (a0 : Nat) (h : jH) : Option jH :=
  (jgQ 9 h a0 11).bind fun o19 =>
  match o19 with
  | none => ((jnw h (.inl (2, [.null, .null, .null, .null, .null, .int 0, .int 0, .int 0, .int 0]))).bind fun h26 =>
  (F_X2_init n h.1 h26).bind fun h30 =>
  (jpf 9 h30 a0 11 (.ref h.1)).bind fun h33 =>
  F_X11_image_36 n a0 h33)
  | some p22 => (F_X11_image_36 n a0 h)
noncomputable def F_X11_image (n : Nat) (a0 : Nat) (h : jH) : Option jH :=
  (jgQ 9 h a0 10).bind fun o1 =>
  match o1 with
  | none => ((jnw h (.inl (6, [.null, .null, .null, .null, .null, .int 0, .int 0, .int 0, .int 0, .int 0, .int 0, .int 0, .int 0, .int 0, .int 0, .int 0, .int 0, .int 0]))).bind fun h8 =>
  (F_X8_init n h.1 h8).bind fun h12 =>
  (jpf 9 h12 a0 10 (.ref h.1)).bind fun h15 =>
  F_X11_image_18 n a0 h15)
  | some p4 => (F_X11_image_18 n a0 h)
noncomputable def F_X11_back (n : Nat) (a0 : Nat) (h : jH) : Option (Int32 × jH) :=
  (jgQ 9 h a0 10).bind fun o1 =>
  match o1 with
  | none => (some ((0 : Int32), h))
  | some p4 => ((jgQ 9 h a0 11).bind fun o8 =>
  match o8 with
  | none => (some ((0 : Int32), h))
  | some p11 => ((jgR 9 h a0 1).bind fun p17 =>
  (jgQ 9 h a0 10).bind fun o21 =>
  match o21 with
  | none => none
  | some p24_0 =>
  ((jcv 6 h p17 (F_X8_copyFrom n p17 p24_0 h)).bind fun h24 =>
  (jgR 9 h24 a0 2).bind fun p28 =>
  (jgQ 9 h24 a0 11).bind fun o32 =>
  match o32 with
  | none => none
  | some p35_0 =>
  ((jcv 2 h24 p28 (F_X2_copyFrom n p28 p35_0 h24)).bind fun h35 =>
  (jgR 9 h35 a0 3).bind fun p39 =>
  (jcv 0 h35 p39 (F_X0_forget n p39 h35)).bind fun h42 =>
  some ((1 : Int32), h42)))))
noncomputable def F_X11_count (n : Nat) (a0 : Nat) (x1 : Int32) (h : jH) : Option Int32 :=
  if x1 = (0 : Int32) then ((jgR 9 h a0 1).bind fun p61 =>
  (jgI 6 h p61 5).bind fun v64 =>
  some v64)
  else if x1 = (1 : Int32) then ((jgR 9 h a0 1).bind fun p69 =>
  (jgI 6 h p69 17).bind fun v72 =>
  some v72)
  else if x1 = (2 : Int32) then ((jgR 9 h a0 2).bind fun p77 =>
  (jgI 2 h p77 7).bind fun v80 =>
  if v80 = 0 then (some (-1 : Int32))
  else ((jgR 9 h a0 2).bind fun p87 =>
  (jgI 2 h p87 8).bind fun v90 =>
  some v90))
  else if x1 = (3 : Int32) then ((jgR 9 h a0 1).bind fun p99 =>
  (jgI 6 h p99 13).bind fun v102 =>
  some v102)
  else if x1 = (4 : Int32) then ((jgR 9 h a0 1).bind fun p107 =>
  (jgI 6 h p107 14).bind fun v110 =>
  some v110)
  else if x1 = (5 : Int32) then ((jgR 9 h a0 1).bind fun p115 =>
  (jgI 6 h p115 11).bind fun v118 =>
  some v118)
  else if x1 = (6 : Int32) then ((jgR 9 h a0 1).bind fun p123 =>
  (jgI 6 h p123 12).bind fun v126 =>
  some v126)
  else if x1 = (7 : Int32) then ((jgR 9 h a0 1).bind fun p131 =>
  (jgI 6 h p131 10).bind fun v134 =>
  some v134)
  else if x1 = (8 : Int32) then ((jgR 9 h a0 1).bind fun p139 =>
  (jgI 6 h p139 15).bind fun v142 =>
  some v142)
  else if x1 = (9 : Int32) then ((jgR 9 h a0 1).bind fun p147 =>
  (jgR 6 h p147 4).bind fun p150 =>
  (jgI 4 h p150 1).bind fun v153 =>
  some v153)
  else if x1 = (10 : Int32) then ((jgR 9 h a0 3).bind fun p158 =>
  (jgI 0 h p158 2).bind fun v161 =>
  some v161)
  else (some (-1 : Int32))
