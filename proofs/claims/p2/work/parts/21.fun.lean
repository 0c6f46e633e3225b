noncomputable def F_X2_init (n : Nat) (a0 : Nat) (h : jH) : Option jH :=
  (jnw h (.inr (.inl (0, 12, fun _ => 0)))).bind fun h7 =>
  (jpf 2 h7 a0 0 (.ref h.1)).bind fun h9 =>
  (jnw h9 (.inr (.inl (0, 12, fun _ => 0)))).bind fun h15 =>
  (jpf 2 h15 a0 1 (.ref h9.1)).bind fun h17 =>
  (jnw h17 (.inr (.inl (0, 12, fun _ => 0)))).bind fun h23 =>
  (jpf 2 h23 a0 2 (.ref h17.1)).bind fun h25 =>
  (jnw h25 (.inr (.inl (0, 400, fun _ => 0)))).bind fun h32 =>
  (jpf 2 h32 a0 3 (.ref h25.1)).bind fun h34 =>
  (jnw h34 (.inr (.inl (0, 24, fun _ => 0)))).bind fun h40 =>
  (jpf 2 h40 a0 4 (.ref h34.1)).bind fun h42 =>
  some h42
noncomputable def F_X2_begin (n : Nat) (a0 : Nat) (h : jH) : Option jH :=
  (jpf 2 h a0 7 (.int (1 : Int32))).bind fun h2 =>
  (jpf 2 h2 a0 8 (.int (0 : Int32))).bind fun h7 =>
  (jpf 2 h7 a0 6 (.int (0 : Int32))).bind fun h12 =>
  some h12
noncomputable def F_X2_copyFrom (n : Nat) (a0 : Nat) (a1 : Nat) (h : jH) : Option jH :=
  (jgR 2 h a1 0).bind fun p1 =>
  (jgR 2 h a0 0).bind fun p6 =>
  (jcp h p1 (0 : Int32) p6 (0 : Int32) (12 : Int32)).bind fun h12 =>
  (jgR 2 h12 a1 1).bind fun p16 =>
  (jgR 2 h12 a0 1).bind fun p21 =>
  (jcp h12 p16 (0 : Int32) p21 (0 : Int32) (12 : Int32)).bind fun h27 =>
  (jgR 2 h27 a1 2).bind fun p31 =>
  (jgR 2 h27 a0 2).bind fun p36 =>
  (jcp h27 p31 (0 : Int32) p36 (0 : Int32) (12 : Int32)).bind fun h42 =>
  (jgR 2 h42 a1 3).bind fun p46 =>
  (jgR 2 h42 a0 3).bind fun p51 =>
  (jcp h42 p46 (0 : Int32) p51 (0 : Int32) (400 : Int32)).bind fun h58 =>
  (jgI 2 h58 a1 6).bind fun v63 =>
  (jpf 2 h58 a0 6 (.int v63)).bind fun h66 =>
  (jgI 2 h66 a1 7).bind fun v71 =>
  if v71 = 0 ∨ v71 = 1 then
  ((jpf 2 h66 a0 7 (.int v71)).bind fun h74 =>
  (jgI 2 h74 a1 8).bind fun v79 =>
  (jpf 2 h74 a0 8 (.int v79)).bind fun h82 =>
  some h82
  ) else none
noncomputable def F_X2_addLine (n : Nat) (a0 : Nat) (x1 : Int32) (x2 : Int32) (h : jH) : Option jH :=
  (jgI 2 h a0 8).bind fun v1 =>
  if (12 : Int32) ≤ v1 then (some h)
  else ((jgR 2 h a0 0).bind fun p10 =>
  (jgI 2 h a0 8).bind fun v14 =>
  (jas 0 h p10 v14 x1).bind fun h18 =>
  (jgR 2 h18 a0 1).bind fun p20 =>
  (jgI 2 h18 a0 8).bind fun v24 =>
  (jas 0 h18 p20 v24 x2).bind fun h28 =>
  (jgR 2 h28 a0 2).bind fun p30 =>
  (jgI 2 h28 a0 8).bind fun v34 =>
  (jgI 2 h28 a0 6).bind fun v38 =>
  (jas 0 h28 p30 v34 v38).bind fun h41 =>
  (jgI 2 h41 a0 8).bind fun v44 =>
  (jpf 2 h41 a0 8 (.int (v44 + (1 : Int32)))).bind fun h49 =>
  some h49)
noncomputable def F_X2_addCode (n : Nat) (a0 : Nat) (x1 : Int32) (h : jH) : Option jH :=
  (jgI 2 h a0 6).bind fun v1 =>
  if (400 : Int32) ≤ v1 then (some h)
  else ((jgI 2 h a0 8).bind fun v11 =>
  if v11 ≤ 0 then (some h)
  else ((jgR 2 h a0 3).bind fun p18 =>
  (jgI 2 h a0 6).bind fun v22 =>
  (jas 0 h p18 v22 x1).bind fun h26 =>
  (jgI 2 h26 a0 6).bind fun v29 =>
  (jpf 2 h26 a0 6 (.int (v29 + (1 : Int32)))).bind fun h34 =>
  (jgR 2 h34 a0 2).bind fun p38 =>
  (jgI 2 h34 a0 8).bind fun v42 =>
  (jgI 2 h34 a0 6).bind fun v48 =>
  (jas 0 h34 p38 (v42 - (1 : Int32)) v48).bind fun h51 =>
  some h51))
noncomputable def F_X8_isLit (n : Nat) (a0 : Nat) (x1 : Int32) (x2 : Int32) (h : jH) : Option Int32 :=
  (jgR 6 h a0 0).bind fun p1 =>
  (jal 0 h p1 x1).bind fun v5 =>
  if v5 < ((4 : Int32) * x2) then (some (0 : Int32))
  else ((jgR 6 h a0 0).bind fun p13 =>
  (jal 0 h p13 x1).bind fun v17 =>
  (jgI 6 h a0 12).bind fun v22 =>
  if (((4 : Int32) * x2) + v22) < v17 then (some (0 : Int32))
  else (some (1 : Int32)))
noncomputable def F_X2_untoldAmount (n : Nat) (x0 : Int32) (a1 : Nat) (x2 : Int32) (h : jH) : Option Int32 :=
  if x0 = 0 then ((jgI 6 h a1 13).bind fun v7 =>
  (jcv 6 h a1 (F_X8_isLit n a1 x2 v7 h)).bind fun v10 =>
  if v10 = 0 then (some (0 : Int32))
  else (some (1 : Int32)))
  else (if x0 = (1 : Int32) then (some (10 : Int32))
  else (some (0 : Int32)))
noncomputable def F_X2_isValue (n : Nat) (x0 : Int32) (h : jH) : Option Int32 :=
  if (256 : Int32) ≤ x0 then (some (1 : Int32))
  else (if (10 : Int32) < x0 then (some (0 : Int32))
  else (some (1 : Int32)))
noncomputable def F_X8_gap (n : Nat) (a0 : Nat) (x1 : Int32) (x2 : Int32) (h : jH) : Option Int32 :=
  if x1 < 0 then (some x2)
  else ((jgI 6 h a0 5).bind fun v6 =>
  if x1 < (v6 - (1 : Int32)) then ((jgR 6 h a0 0).bind fun p19 =>
  (jal 0 h p19 (x1 + (1 : Int32))).bind fun v25 =>
  (jgR 6 h a0 0).bind fun p27 =>
  (jal 0 h p27 x1).bind fun v31 =>
  some (v25 - v31))
  else (some x2))
noncomputable def F_X11_bit (n : Nat) (x0 : Int32) (x1 : Int32) (h : jH) : Option Int32 :=
  some ((jushr x0 x1) &&& (1 : Int32))
noncomputable def F_X2_value (n : Nat) (x0 : Int32) (a1 : Nat) (x2 : Int32) (h : jH) : Option Int32 :=
  if x0 = (0 : Int32) then (some x2)
  else if x0 = (1 : Int32) then ((jgR 6 h a1 0).bind fun p63 =>
  (jal 0 h p63 x2).bind fun v67 =>
  some v67)
  else if x0 = (2 : Int32) then ((jcv 6 h a1 (F_X8_gap n a1 x2 (99 : Int32) h)).bind fun v73 =>
  some v73)
  else if x0 = (3 : Int32) then ((jgR 6 h a1 2).bind fun p78 =>
  (jal 0 h p78 x2).bind fun v82 =>
  some v82)
  else if x0 = (4 : Int32) then ((jgR 6 h a1 3).bind fun p85 =>
  (jal 0 h p85 x2).bind fun v89 =>
  some v89)
  else if x0 = (5 : Int32) then ((jgI 6 h a1 13).bind fun v92 =>
  some v92)
  else if x0 = (6 : Int32) then ((jgI 6 h a1 14).bind fun v97 =>
  some v97)
  else if x0 = (7 : Int32) then ((jgI 6 h a1 7).bind fun v102 =>
  (F_X11_bit n v102 x2 h).bind fun v106 =>
  some v106)
  else if x0 = (8 : Int32) then ((jgI 6 h a1 6).bind fun v111 =>
  (F_X11_bit n v111 x2 h).bind fun v115 =>
  some v115)
  else if x0 = (9 : Int32) then ((jgI 6 h a1 13).bind fun v122 =>
  (jcv 6 h a1 (F_X8_isLit n a1 x2 v122 h)).bind fun v125 =>
  if v125 = 0 then (some (0 : Int32))
  else (some (1 : Int32)))
  else if x0 = (10 : Int32) then ((jgI 6 h a1 8).bind fun v138 =>
  (F_X11_bit n v138 x2 h).bind fun v142 =>
  some v142)
  else (some (x0 - (256 : Int32)))
noncomputable def F_X2_push (n : Nat) (a0 : Nat) (x1 : Int32) (h : jH) : Option jH :=
  (jgI 2 h a0 5).bind fun v1 =>
  if (24 : Int32) ≤ v1 then (some h)
  else ((jgR 2 h a0 4).bind fun p10 =>
  (jgI 2 h a0 5).bind fun v14 =>
  (jas 0 h p10 v14 x1).bind fun h18 =>
  (jgI 2 h18 a0 5).bind fun v21 =>
  (jpf 2 h18 a0 5 (.int (v21 + (1 : Int32)))).bind fun h26 =>
  some h26)
noncomputable def F_X2_pop (n : Nat) (a0 : Nat) (h : jH) : Option (Int32 × jH) :=
  (jgI 2 h a0 5).bind fun v1 =>
  if 0 < v1 then ((jgI 2 h a0 5).bind fun v11 =>
  (jpf 2 h a0 5 (.int (v11 - (1 : Int32)))).bind fun h16 =>
  (jgR 2 h16 a0 4).bind fun p20 =>
  (jgI 2 h16 a0 5).bind fun v24 =>
  (jal 0 h16 p20 v24).bind fun v27 =>
  some (v27, h16))
  else (some ((0 : Int32), h))
noncomputable def F_X2_joined (n : Nat) (x0 : Int32) (x1 : Int32) (x2 : Int32) (h : jH) : Option Int32 :=
  if x0 = (12 : Int32) then (some (x1 &&& x2))
  else if x0 = (43 : Int32) then (some (x1 + x2))
  else if x0 = (60 : Int32) then (if x2 ≤ x1 then (some (0 : Int32))
  else (some (1 : Int32)))
  else if x0 = (62 : Int32) then (if x1 ≤ x2 then (some (0 : Int32))
  else (some (1 : Int32)))
  else (some (x1 ||| x2))
noncomputable def F_X2_holds_23_b (n : Nat) (rc23 : Nat → Int32 → Nat → Int32 → Int32 → jH → Option (Int32 × jH)) (a0 : Nat) (x1 : Int32) (a2 : Nat) (x3 : Int32) (x4 : Int32) (h : jH) : Option (Int32 × jH) :=
  (jgR 2 h a0 2).bind fun p26 =>
  (jal 0 h p26 x1).bind fun v30 =>
  if v30 ≤ x4 then ((jgI 2 h a0 5).bind fun v113 =>
  if v113 = 0 then (some ((1 : Int32), h))
  else ((jcv 2 h a0 (F_X2_pop n a0 h)).bind fun q120 =>
  if q120.1 = 0 then (some ((0 : Int32), q120.2))
  else (some ((1 : Int32), q120.2))))
  else ((jgR 2 h a0 3).bind fun p35 =>
  (jal 0 h p35 x4).bind fun v40 =>
  (F_X2_isValue n v40 h).bind fun v45 =>
  if v45 = 0 then (if v40 = (11 : Int32) then ((jcv 2 h a0 (F_X2_pop n a0 h)).bind fun q75 =>
  (jcv 2 q75.2 a0 (F_X2_push n a0 ((1 : Int32) - q75.1) q75.2)).bind fun h79 =>
  rc23 a0 x1 a2 x3 (x4 + (1 : Int32)) h79)
  else ((jcv 2 h a0 (F_X2_pop n a0 h)).bind fun q86 =>
  (jcv 2 q86.2 a0 (F_X2_pop n a0 q86.2)).bind fun q95 =>
  (F_X2_joined n v40 q95.1 q86.1 q95.2).bind fun v100 =>
  (jcv 2 q95.2 a0 (F_X2_push n a0 v100 q95.2)).bind fun h103 =>
  rc23 a0 x1 a2 x3 (x4 + (1 : Int32)) h103))
  else ((F_X2_value n v40 a2 x3 h).bind fun v56 =>
  (jcv 2 h a0 (F_X2_push n a0 v56 h)).bind fun h59 =>
  rc23 a0 x1 a2 x3 (x4 + (1 : Int32)) h59))
noncomputable def F_X2_holds_23 (n : Nat) : Nat → Nat → Int32 → Nat → Int32 → Int32 → jH → Option (Int32 × jH)
  | 0 => fun _ _ _ _ _ _ => none
  | k + 1 => F_X2_holds_23_b n (F_X2_holds_23 n k)
noncomputable def F_X2_holds (n : Nat) (a0 : Nat) (x1 : Int32) (a2 : Nat) (x3 : Int32) (h : jH) : Option (Int32 × jH) :=
  (jpf 2 h a0 5 (.int (0 : Int32))).bind fun h2 =>
  if x1 = 0 then (F_X2_holds_23 n n a0 x1 a2 x3 (0 : Int32) h2)
  else ((jgR 2 h2 a0 2).bind fun p14 =>
  (jal 0 h2 p14 (x1 - (1 : Int32))).bind fun v20 =>
  F_X2_holds_23 n n a0 x1 a2 x3 v20 h2)
noncomputable def F_X2_amount_20_b (n : Nat) (rc20 : Nat → Int32 → Nat → Int32 → Int32 → Int32 → jH → Option (Int32 × jH)) (a0 : Nat) (x1 : Int32) (a2 : Nat) (x3 : Int32) (x4 : Int32) (x5 : Int32) (h : jH) : Option (Int32 × jH) :=
  (jgI 2 h a0 8).bind fun v23 =>
  if v23 ≤ x5 then (some (x4, h))
  else ((jgR 2 h a0 0).bind fun p30 =>
  (jal 0 h p30 x5).bind fun v35 =>
  if v35 = x1 then ((jcv 2 h a0 (F_X2_holds n a0 x5 a2 x3 h)).bind fun q45 =>
  if q45.1 = 0 then (rc20 a0 x1 a2 x3 x4 (x5 + (1 : Int32)) q45.2)
  else ((jgR 2 q45.2 a0 1).bind fun p54 =>
  (jal 0 q45.2 p54 x5).bind fun v59 =>
  rc20 a0 x1 a2 x3 (x4 + v59) (x5 + (1 : Int32)) q45.2))
  else (rc20 a0 x1 a2 x3 x4 (x5 + (1 : Int32)) h))
noncomputable def F_X2_amount_20 (n : Nat) : Nat → Nat → Int32 → Nat → Int32 → Int32 → Int32 → jH → Option (Int32 × jH)
  | 0 => fun _ _ _ _ _ _ _ => none
  | k + 1 => F_X2_amount_20_b n (F_X2_amount_20 n k)
noncomputable def F_X2_amount (n : Nat) (a0 : Nat) (x1 : Int32) (a2 : Nat) (x3 : Int32) (h : jH) : Option (Int32 × jH) :=
  (jgI 2 h a0 7).bind fun v1 =>
  if v1 = 0 then ((F_X2_untoldAmount n x1 a2 x3 h).bind fun v10 =>
  some (v10, h))
  else (F_X2_amount_20 n n a0 x1 a2 x3 (0 : Int32) (0 : Int32) h)
noncomputable def F_X5_init (n : Nat) (a0 : Nat) (h : jH) : Option jH :=
  (jnw h (.inr (.inl (0, 60, fun _ => 0)))).bind fun h7 =>
  (jpf 4 h7 a0 0 (.ref h.1)).bind fun h9 =>
  some h9
noncomputable def F_X5_copyFrom (n : Nat) (a0 : Nat) (a1 : Nat) (h : jH) : Option jH :=
  (jgR 4 h a1 0).bind fun p1 =>
  (jgR 4 h a0 0).bind fun p6 =>
  (jcp h p1 (0 : Int32) p6 (0 : Int32) (60 : Int32)).bind fun h12 =>
  (jgI 4 h12 a1 1).bind fun v17 =>
  (jpf 4 h12 a0 1 (.int v17)).bind fun h20 =>
  (jgI 4 h20 a1 2).bind fun v25 =>
  (jpf 4 h20 a0 2 (.int v25)).bind fun h28 =>
  some h28
noncomputable def F_X5_add_90 (n : Nat) (a0 : Nat) (sa0 : Nat) (s1 : Int32) (h : jH) : Option jH :=
  (jpf 4 h sa0 2 (.int s1)).bind fun h90 =>
  (jgI 4 h90 a0 1).bind fun v97 =>
  (jpf 4 h90 a0 1 (.int (if (v97 + (1 : Int32)) < (60 : Int32) then v97 + (1 : Int32) else (60 : Int32)))).bind fun h105 =>
  some h105
noncomputable def F_X5_add (n : Nat) (a0 : Nat) (a1 : Nat) (x2 : Int32) (x3 : Int32) (x4 : Int32) (h : jH) : Option jH :=
  (jgR 4 h a0 0).bind fun p1 =>
  (jgI 4 h a0 2).bind fun v5 =>
  (jgI 6 h a1 14).bind fun v9 =>
  (jgI 6 h a1 13).bind fun v19 =>
  (jgR 6 h a1 0).bind fun p55 =>
  (jal 0 h p55 x2).bind fun v59 =>
  (jas 0 h p1 v5 ((((((v9 <<< ((18 : Int32) &&& 31)) ||| (v19 <<< ((15 : Int32) &&& 31))) ||| (x2 <<< ((12 : Int32) &&& 31))) ||| (x3 <<< ((10 : Int32) &&& 31))) ||| (x4 <<< ((5 : Int32) &&& 31))) ||| (v59 <<< ((0 : Int32) &&& 31)))).bind fun h67 =>
  (jgI 4 h67 a0 2).bind fun v70 =>
  if (60 : Int32) ≤ (v70 + (1 : Int32)) then (F_X5_add_90 n a0 a0 (0 : Int32) h67)
  else ((jgI 4 h67 a0 2).bind fun v81 =>
  F_X5_add_90 n a0 a0 (v81 + (1 : Int32)) h67)
noncomputable def F_J9_floorMod_7cf53 (n : Nat) (x0 : Int32) (x1 : Int32) (h : jH) : Option Int32 :=
  if x1 = 0 then none else
  if 0 ≤ (x0 ^^^ x1) then (some (x0 - x0 / x1 * x1))
  else (if (x0 - x0 / x1 * x1) = 0 then (some (x0 - x0 / x1 * x1))
  else (some ((x0 - x0 / x1 * x1) + x1)))
noncomputable def F_X5_read (n : Nat) (a0 : Nat) (x1 : Int32) (x2 : Int32) (h : jH) : Option Int32 :=
  if x1 < 0 then (some (-1 : Int32))
  else ((jgI 4 h a0 1).bind fun v6 =>
  if v6 ≤ x1 then (some (-1 : Int32))
  else (if x2 < 0 then (some (-1 : Int32))
  else (if x2 < (6 : Int32) then ((jgR 4 h a0 0).bind fun p25 =>
  (jgI 4 h a0 2).bind fun v29 =>
  (F_J9_floorMod_7cf53 n ((v29 - (1 : Int32)) - x1) (60 : Int32) h).bind fun v38 =>
  (jal 0 h p25 v38).bind fun v41 =>
  if x2 < 0 ∨ 6 ≤ x2.toNatClampNeg then none else
  if x2 < 0 ∨ 6 ≤ x2.toNatClampNeg then none else
  some ((jushr v41 (jshf.getD x2.toNatClampNeg 0)) &&& (jmsk.getD x2.toNatClampNeg 0)))
  else (some (-1 : Int32)))))
noncomputable def F_X5_rowsOf_4_b (n : Nat) (rc4 : Nat → Int32 → Int32 → Int32 → jH → Option Int32) (a0 : Nat) (x1 : Int32) (x2 : Int32) (x3 : Int32) (h : jH) : Option Int32 :=
  (jgI 4 h a0 1).bind fun v6 =>
  if v6 ≤ x3 then (some x2)
  else ((jcv 4 h a0 (F_X5_read n a0 x3 (2 : Int32) h)).bind fun v15 =>
  if v15 = x1 then (rc4 a0 x1 (x2 + (1 : Int32)) (x3 + (1 : Int32)) h)
  else (rc4 a0 x1 x2 (x3 + (1 : Int32)) h))
noncomputable def F_X5_rowsOf_4 (n : Nat) : Nat → Nat → Int32 → Int32 → Int32 → jH → Option Int32
  | 0 => fun _ _ _ _ _ => none
  | k + 1 => F_X5_rowsOf_4_b n (F_X5_rowsOf_4 n k)
noncomputable def F_X5_rowsOf (n : Nat) (a0 : Nat) (x1 : Int32) (h : jH) : Option Int32 :=
  F_X5_rowsOf_4 n n a0 x1 (0 : Int32) (0 : Int32) h
noncomputable def F_X5_latestPlace_2_b (n : Nat) (rc2 : Nat → Int32 → Int32 → jH → Option Int32) (a0 : Nat) (x1 : Int32) (x2 : Int32) (h : jH) : Option Int32 :=
  (jgI 4 h a0 1).bind fun v4 =>
  if v4 ≤ x2 then (some (-1 : Int32))
  else ((jcv 4 h a0 (F_X5_read n a0 x2 (2 : Int32) h)).bind fun v13 =>
  if v13 = x1 then ((jcv 4 h a0 (F_X5_read n a0 x2 (5 : Int32) h)).bind fun v23 =>
  some v23)
  else (rc2 a0 x1 (x2 + (1 : Int32)) h))
noncomputable def F_X5_latestPlace_2 (n : Nat) : Nat → Nat → Int32 → Int32 → jH → Option Int32
  | 0 => fun _ _ _ _ => none
  | k + 1 => F_X5_latestPlace_2_b n (F_X5_latestPlace_2 n k)
noncomputable def F_X5_latestPlace (n : Nat) (a0 : Nat) (x1 : Int32) (h : jH) : Option Int32 :=
  F_X5_latestPlace_2 n n a0 x1 (0 : Int32) h
noncomputable def F_X6_hangsBy_22_b (n : Nat) (rc22 : Nat → Int32 → Int32 → Int32 → Int32 → jH → Option Int32) (a0 : Nat) (x1 : Int32) (x2 : Int32) (x3 : Int32) (x4 : Int32) (h : jH) : Option Int32 :=
  (jgI 6 h a0 5).bind fun v25 =>
  if v25 ≤ x4 then (some x2)
  else ((jgR 6 h a0 0).bind fun p32 =>
  (jal 0 h p32 x4).bind fun v37 =>
  (jgR 6 h a0 0).bind fun p39 =>
  (jal 0 h p39 x1).bind fun v43 =>
  (jgI 6 h a0 8).bind fun v51 =>
  (F_X11_bit n v51 x4 h).bind fun v56 =>
  if v56 = (1 : Int32) then (if x3 ≤ (if 0 ≤ v37 - v43 then v37 - v43 else 0 - (v37 - v43)) then (rc22 a0 x1 x2 x3 (x4 + (1 : Int32)) h)
  else (rc22 a0 x1 x4 (if 0 ≤ v37 - v43 then v37 - v43 else 0 - (v37 - v43)) (x4 + (1 : Int32)) h))
  else (rc22 a0 x1 x2 x3 (x4 + (1 : Int32)) h))
noncomputable def F_X6_hangsBy_22 (n : Nat) : Nat → Nat → Int32 → Int32 → Int32 → Int32 → jH → Option Int32
  | 0 => fun _ _ _ _ _ _ => none
  | k + 1 => F_X6_hangsBy_22_b n (F_X6_hangsBy_22 n k)
noncomputable def F_X6_hangsBy (n : Nat) (a0 : Nat) (x1 : Int32) (h : jH) : Option Int32 :=
  (jgI 6 h a0 8).bind fun v1 =>
  (F_X11_bit n v1 x1 h).bind fun v5 =>
  if v5 = (1 : Int32) then (some x1)
  else (F_X6_hangsBy_22 n n a0 x1 (-1 : Int32) (32 : Int32) (0 : Int32) h)
noncomputable def F_X8_allFades_4_b (n : Nat) (rc4 : Nat → Int32 → Int32 → jH → Option Int32) (a0 : Nat) (x1 : Int32) (x2 : Int32) (h : jH) : Option Int32 :=
  (jgI 6 h a0 5).bind fun v6 =>
  if v6 ≤ x2 then (some x1)
  else ((jgR 6 h a0 2).bind fun p14 =>
  (jal 0 h p14 x2).bind fun v18 =>
  rc4 a0 (x1 + v18) (x2 + (1 : Int32)) h)
noncomputable def F_X8_allFades_4 (n : Nat) : Nat → Nat → Int32 → Int32 → jH → Option Int32
  | 0 => fun _ _ _ _ => none
  | k + 1 => F_X8_allFades_4_b n (F_X8_allFades_4 n k)
noncomputable def F_X8_allFades (n : Nat) (a0 : Nat) (h : jH) : Option Int32 :=
  F_X8_allFades_4 n n a0 (0 : Int32) (0 : Int32) h
noncomputable def F_X6_share (n : Nat) (a0 : Nat) (x1 : Int32) (h : jH) : Option Int32 :=
  (jcv 6 h a0 (F_X8_allFades n a0 h)).bind fun v1 =>
  if v1 = 0 then (some (0 : Int32))
  else ((jgR 6 h a0 2).bind fun p16 =>
  (jal 0 h p16 x1).bind fun v20 =>
  if v1 = 0 then none else
  some (((100 : Int32) * v20) / v1))
noncomputable def F_X6_isInOrder_4_b (n : Nat) (rc4 : Nat → Int32 → Int32 → Int32 → jH → Option Int32) (a0 : Nat) (x1 : Int32) (x2 : Int32) (x3 : Int32) (h : jH) : Option Int32 :=
  (jgI 6 h a0 5).bind fun v6 =>
  if v6 ≤ x3 then (some (1 : Int32))
  else ((F_X11_bit n x1 x3 h).bind fun v14 =>
  if v14 = (1 : Int32) then ((jgR 6 h a0 2).bind fun p22 =>
  (jal 0 h p22 x3).bind fun v26 =>
  if x2 ≤ v26 then ((jgR 6 h a0 2).bind fun p34 =>
  (jal 0 h p34 x3).bind fun v38 =>
  rc4 a0 x1 v38 (x3 + (1 : Int32)) h)
  else (some (0 : Int32)))
  else (rc4 a0 x1 x2 (x3 + (1 : Int32)) h))
noncomputable def F_X6_isInOrder_4 (n : Nat) : Nat → Nat → Int32 → Int32 → Int32 → jH → Option Int32
  | 0 => fun _ _ _ _ _ => none
  | k + 1 => F_X6_isInOrder_4_b n (F_X6_isInOrder_4 n k)
noncomputable def F_X6_isInOrder (n : Nat) (a0 : Nat) (x1 : Int32) (h : jH) : Option Int32 :=
  F_X6_isInOrder_4 n n a0 x1 (0 : Int32) (0 : Int32) h
noncomputable def F_J6_bitCount_0f7a4 (n : Nat) (x0 : Int32) (h : jH) : Option Int32 :=
  some ((((((((x0 - ((jushr x0 (1 : Int32)) &&& (1431655765 : Int32))) &&& (858993459 : Int32)) + ((jushr (x0 - ((jushr x0 (1 : Int32)) &&& (1431655765 : Int32))) (2 : Int32)) &&& (858993459 : Int32))) + (jushr (((x0 - ((jushr x0 (1 : Int32)) &&& (1431655765 : Int32))) &&& (858993459 : Int32)) + ((jushr (x0 - ((jushr x0 (1 : Int32)) &&& (1431655765 : Int32))) (2 : Int32)) &&& (858993459 : Int32))) (4 : Int32))) &&& (252645135 : Int32)) + (jushr (((((x0 - ((jushr x0 (1 : Int32)) &&& (1431655765 : Int32))) &&& (858993459 : Int32)) + ((jushr (x0 - ((jushr x0 (1 : Int32)) &&& (1431655765 : Int32))) (2 : Int32)) &&& (858993459 : Int32))) + (jushr (((x0 - ((jushr x0 (1 : Int32)) &&& (1431655765 : Int32))) &&& (858993459 : Int32)) + ((jushr (x0 - ((jushr x0 (1 : Int32)) &&& (1431655765 : Int32))) (2 : Int32)) &&& (858993459 : Int32))) (4 : Int32))) &&& (252645135 : Int32)) (8 : Int32))) + (jushr ((((((x0 - ((jushr x0 (1 : Int32)) &&& (1431655765 : Int32))) &&& (858993459 : Int32)) + ((jushr (x0 - ((jushr x0 (1 : Int32)) &&& (1431655765 : Int32))) (2 : Int32)) &&& (858993459 : Int32))) + (jushr (((x0 - ((jushr x0 (1 : Int32)) &&& (1431655765 : Int32))) &&& (858993459 : Int32)) + ((jushr (x0 - ((jushr x0 (1 : Int32)) &&& (1431655765 : Int32))) (2 : Int32)) &&& (858993459 : Int32))) (4 : Int32))) &&& (252645135 : Int32)) + (jushr (((((x0 - ((jushr x0 (1 : Int32)) &&& (1431655765 : Int32))) &&& (858993459 : Int32)) + ((jushr (x0 - ((jushr x0 (1 : Int32)) &&& (1431655765 : Int32))) (2 : Int32)) &&& (858993459 : Int32))) + (jushr (((x0 - ((jushr x0 (1 : Int32)) &&& (1431655765 : Int32))) &&& (858993459 : Int32)) + ((jushr (x0 - ((jushr x0 (1 : Int32)) &&& (1431655765 : Int32))) (2 : Int32)) &&& (858993459 : Int32))) (4 : Int32))) &&& (252645135 : Int32)) (8 : Int32))) (16 : Int32))) &&& (63 : Int32))
noncomputable def F_X6_outOfOrder_4_b (n : Nat) (rc4 : Nat → Int32 → Int32 → jH → Option Int32) (a0 : Nat) (x1 : Int32) (x2 : Int32) (h : jH) : Option Int32 :=
  (jgI 6 h a0 5).bind fun v7 =>
  if ((1 : Int32) <<< (v7 &&& 31)) ≤ x2 then ((jgI 6 h a0 5).bind fun v38 =>
  some (v38 - x1))
  else ((F_X6_isInOrder n a0 x2 h).bind fun v16 =>
  if v16 = 0 then (rc4 a0 x1 (x2 + (1 : Int32)) h)
  else ((F_J6_bitCount_0f7a4 n x2 h).bind fun v24 =>
  rc4 a0 (if x1 < v24 then v24 else x1) (x2 + (1 : Int32)) h))
noncomputable def F_X6_outOfOrder_4 (n : Nat) : Nat → Nat → Int32 → Int32 → jH → Option Int32
  | 0 => fun _ _ _ _ => none
  | k + 1 => F_X6_outOfOrder_4_b n (F_X6_outOfOrder_4 n k)
noncomputable def F_X6_outOfOrder (n : Nat) (a0 : Nat) (h : jH) : Option Int32 :=
  F_X6_outOfOrder_4 n n a0 (0 : Int32) (0 : Int32) h
noncomputable def F_X6_tightest_8_b (n : Nat) (rc8 : Nat → Int32 → Int32 → Int32 → Int32 → jH → Option Int32) (a0 : Nat) (x1 : Int32) (x2 : Int32) (x3 : Int32) (x4 : Int32) (h : jH) : Option Int32 :=
  (jgI 6 h a0 5).bind fun v13 =>
  if v13 < (x4 + x1) then (some x2)
  else ((jgR 6 h a0 0).bind fun p20 =>
  (jal 0 h p20 ((x4 + x1) - (1 : Int32))).bind fun v29 =>
  (jgR 6 h a0 0).bind fun p31 =>
  (jal 0 h p31 x4).bind fun v36 =>
  if x3 ≤ (v29 - v36) then (rc8 a0 x1 x2 x3 (x4 + (1 : Int32)) h)
  else (rc8 a0 x1 x4 (v29 - v36) (x4 + (1 : Int32)) h))
noncomputable def F_X6_tightest_8 (n : Nat) : Nat → Nat → Int32 → Int32 → Int32 → Int32 → jH → Option Int32
  | 0 => fun _ _ _ _ _ _ => none
  | k + 1 => F_X6_tightest_8_b n (F_X6_tightest_8 n k)
noncomputable def F_X6_tightest (n : Nat) (a0 : Nat) (x1 : Int32) (h : jH) : Option Int32 :=
  F_X6_tightest_8 n n a0 x1 (-1 : Int32) (32 : Int32) (0 : Int32) h
noncomputable def F_X6_spareCloth_4_b (n : Nat) (rc4 : Nat → Int32 → Int32 → jH → Option Int32) (a0 : Nat) (x1 : Int32) (x2 : Int32) (h : jH) : Option Int32 :=
  (jgI 6 h a0 5).bind fun v8 =>
  if v8 ≤ (x2 + (1 : Int32)) then (some x1)
  else ((jgR 6 h a0 1).bind fun p16 =>
  (jal 0 h p16 x2).bind fun v20 =>
  (jcv 6 h a0 (F_X8_gap n a0 x2 (0 : Int32) h)).bind fun v24 =>
  rc4 a0 (x1 + (v20 - v24)) (x2 + (1 : Int32)) h)
noncomputable def F_X6_spareCloth_4 (n : Nat) : Nat → Nat → Int32 → Int32 → jH → Option Int32
  | 0 => fun _ _ _ _ => none
  | k + 1 => F_X6_spareCloth_4_b n (F_X6_spareCloth_4 n k)
noncomputable def F_X6_spareCloth (n : Nat) (a0 : Nat) (h : jH) : Option Int32 :=
  F_X6_spareCloth_4 n n a0 (0 : Int32) (0 : Int32) h
noncomputable def F_X11_withBit (n : Nat) (x0 : Int32) (x1 : Int32) (x2 : Int32) (h : jH) : Option Int32 :=
  if x2 = 0 then (some (x0 &&& (((1 : Int32) <<< (x1 &&& 31)) ^^^ (-1 : Int32))))
  else (some (x0 ||| ((1 : Int32) <<< (x1 &&& 31))))
noncomputable def F_X6_tautRings_36 (n : Nat) (rc4 : Nat → Int32 → Int32 → jH → Option Int32) (a0 : Nat) (x2 : Int32) (s0 : Int32) (s1 : Int32) (s2 : Int32) (h : jH) : Option Int32 :=
  (F_X11_withBit n s0 s1 s2 h).bind fun v36 =>
  rc4 a0 v36 (x2 + (1 : Int32)) h
noncomputable def F_X6_tautRings_4_b (n : Nat) (rc4 : Nat → Int32 → Int32 → jH → Option Int32) (a0 : Nat) (x1 : Int32) (x2 : Int32) (h : jH) : Option Int32 :=
  (jgI 6 h a0 5).bind fun v8 =>
  if v8 ≤ (x2 + (1 : Int32)) then (some x1)
  else ((jcv 6 h a0 (F_X8_gap n a0 x2 (0 : Int32) h)).bind fun v19 =>
  (jgR 6 h a0 1).bind fun p23 =>
  (jal 0 h p23 x2).bind fun v27 =>
  if v19 = v27 then (F_X6_tautRings_36 n rc4 a0 x2 x1 x2 (1 : Int32) h)
  else (F_X6_tautRings_36 n rc4 a0 x2 x1 x2 (0 : Int32) h))
noncomputable def F_X6_tautRings_4 (n : Nat) : Nat → Nat → Int32 → Int32 → jH → Option Int32
  | 0 => fun _ _ _ _ => none
  | k + 1 => F_X6_tautRings_4_b n (F_X6_tautRings_4 n k)
noncomputable def F_X6_tautRings (n : Nat) (a0 : Nat) (h : jH) : Option Int32 :=
  F_X6_tautRings_4 n n a0 (0 : Int32) (0 : Int32) h
noncomputable def F_X6_litRings_4_b (n : Nat) (rc4 : Nat → Int32 → Int32 → Int32 → jH → Option Int32) (a0 : Nat) (x1 : Int32) (x2 : Int32) (x3 : Int32) (h : jH) : Option Int32 :=
  (jgI 6 h a0 5).bind fun v6 =>
  if v6 ≤ x3 then (some x2)
  else ((jcv 6 h a0 (F_X8_isLit n a0 x3 x1 h)).bind fun v17 =>
  (F_X11_withBit n x2 x3 v17 h).bind fun v20 =>
  rc4 a0 x1 v20 (x3 + (1 : Int32)) h)
noncomputable def F_X6_litRings_4 (n : Nat) : Nat → Nat → Int32 → Int32 → Int32 → jH → Option Int32
  | 0 => fun _ _ _ _ _ => none
  | k + 1 => F_X6_litRings_4_b n (F_X6_litRings_4 n k)
noncomputable def F_X6_litRings (n : Nat) (a0 : Nat) (x1 : Int32) (h : jH) : Option Int32 :=
  F_X6_litRings_4 n n a0 x1 (0 : Int32) (0 : Int32) h
noncomputable def F_X6_litHours_4_b (n : Nat) (rc4 : Nat → Int32 → Int32 → Int32 → jH → Option Int32) (a0 : Nat) (x1 : Int32) (x2 : Int32) (x3 : Int32) (h : jH) : Option Int32 :=
  if (8 : Int32) ≤ x3 then (some x2)
  else ((jcv 6 h a0 (F_X8_isLit n a0 x1 x3 h)).bind fun v13 =>
  if v13 = 0 then (rc4 a0 x1 x2 (x3 + (1 : Int32)) h)
  else (rc4 a0 x1 (x2 + (1 : Int32)) (x3 + (1 : Int32)) h))
noncomputable def F_X6_litHours_4 (n : Nat) : Nat → Nat → Int32 → Int32 → Int32 → jH → Option Int32
  | 0 => fun _ _ _ _ _ => none
  | k + 1 => F_X6_litHours_4_b n (F_X6_litHours_4 n k)
noncomputable def F_X6_litHours (n : Nat) (a0 : Nat) (x1 : Int32) (h : jH) : Option Int32 :=
  F_X6_litHours_4 n n a0 x1 (0 : Int32) (0 : Int32) h
noncomputable def F_X6_sunniest_6_b (n : Nat) (rc6 : Nat → Int32 → Int32 → Int32 → jH → Option Int32) (a0 : Nat) (x1 : Int32) (x2 : Int32) (x3 : Int32) (h : jH) : Option Int32 :=
  (jgI 6 h a0 5).bind fun v8 =>
  if v8 ≤ x3 then (some x1)
  else ((F_X6_litHours n a0 x3 h).bind fun v16 =>
  if v16 ≤ x2 then (rc6 a0 x1 x2 (x3 + (1 : Int32)) h)
  else (rc6 a0 x3 v16 (x3 + (1 : Int32)) h))
noncomputable def F_X6_sunniest_6 (n : Nat) : Nat → Nat → Int32 → Int32 → Int32 → jH → Option Int32
  | 0 => fun _ _ _ _ _ => none
  | k + 1 => F_X6_sunniest_6_b n (F_X6_sunniest_6 n k)
noncomputable def F_X6_sunniest (n : Nat) (a0 : Nat) (h : jH) : Option Int32 :=
  F_X6_sunniest_6 n n a0 (-1 : Int32) (-1 : Int32) (0 : Int32) h
noncomputable def F_X6_evenLength_67 (n : Nat) (x1 : Int32) (x2 : Int32) (x4 : Int32) (x5 : Int32) (s0 : Int32) (s1 : Int32) (h : jH) : Option Int32 :=
  if (s0 + s1) ≤ x2 then (if x5 ≤ x1 then (some x4)
  else (some (x4 + (1 : Int32))))
  else (some (-1 : Int32))
noncomputable def F_X6_evenLength_14_b (n : Nat) (rc14 : Nat → Int32 → Int32 → Int32 → Int32 → jH → Option Int32) (a0 : Nat) (x1 : Int32) (x2 : Int32) (x3 : Int32) (x4 : Int32) (h : jH) : Option Int32 :=
  (jgI 6 h a0 5).bind fun v17 =>
  if v17 ≤ x4 then ((jgI 6 h a0 5).bind fun v41 =>
  if v41 = 0 then none else
  (jgI 6 h a0 5).bind fun v49 =>
  if v49 = 0 then none else
  if (x3 - x3 / v49 * v49) ≤ 0 then (F_X6_evenLength_67 n x1 x2 (x3 / v41) (x3 - x3 / v49 * v49) (x3 / v41) (0 : Int32) h)
  else (F_X6_evenLength_67 n x1 x2 (x3 / v41) (x3 - x3 / v49 * v49) (x3 / v41) (1 : Int32) h))
  else ((jgR 6 h a0 3).bind fun p25 =>
  (jal 0 h p25 x4).bind fun v30 =>
  rc14 a0 x1 x2 (x3 + v30) (x4 + (1 : Int32)) h)
noncomputable def F_X6_evenLength_14 (n : Nat) : Nat → Nat → Int32 → Int32 → Int32 → Int32 → jH → Option Int32
  | 0 => fun _ _ _ _ _ _ => none
  | k + 1 => F_X6_evenLength_14_b n (F_X6_evenLength_14 n k)
noncomputable def F_X6_evenLength (n : Nat) (a0 : Nat) (x1 : Int32) (x2 : Int32) (h : jH) : Option Int32 :=
  (jgI 6 h a0 5).bind fun v1 =>
  if v1 = 0 then (some (-1 : Int32))
  else (F_X6_evenLength_14 n n a0 x1 x2 (0 : Int32) (0 : Int32) h)
noncomputable def F_X6_enviousPairs_4_b (n : Nat) (rc4 : Nat → Int32 → Int32 → jH → Option Int32) (a0 : Nat) (x1 : Int32) (x2 : Int32) (h : jH) : Option Int32 :=
  (jgI 6 h a0 5).bind fun v8 =>
  if v8 ≤ (x2 + (1 : Int32)) then (some x1)
  else ((jgR 6 h a0 3).bind fun p15 =>
  (jal 0 h p15 x2).bind fun v19 =>
  (jgR 6 h a0 3).bind fun p21 =>
  (jal 0 h p21 (x2 + (1 : Int32))).bind fun v27 =>
  if (if 0 ≤ v19 - v27 then v19 - v27 else 0 - (v19 - v27)) < (2 : Int32) then (rc4 a0 x1 (x2 + (1 : Int32)) h)
  else (rc4 a0 (x1 + (1 : Int32)) (x2 + (1 : Int32)) h))
noncomputable def F_X6_enviousPairs_4 (n : Nat) : Nat → Nat → Int32 → Int32 → jH → Option Int32
  | 0 => fun _ _ _ _ => none
  | k + 1 => F_X6_enviousPairs_4_b n (F_X6_enviousPairs_4 n k)
noncomputable def F_X6_enviousPairs (n : Nat) (a0 : Nat) (h : jH) : Option Int32 :=
  F_X6_enviousPairs_4 n n a0 (0 : Int32) (0 : Int32) h
noncomputable def F_X6_gain (n : Nat) (a0 : Nat) (x1 : Int32) (x2 : Int32) (h : jH) : Option Int32 :=
  if x2 = (1 : Int32) then ((jgI 6 h a0 9).bind fun v29 =>
  (F_X11_bit n v29 x1 h).bind fun v33 =>
  if v33 = (1 : Int32) then (some (-2 : Int32))
  else (some (1 : Int32)))
  else if x2 = (2 : Int32) then ((jcv 6 h a0 (F_X8_gap n a0 x1 (0 : Int32) h)).bind fun v50 =>
  some (v50 - (1 : Int32)))
  else (some (2 : Int32))
noncomputable def F_X6_restingChoices_62 (n : Nat) (rc16 : Nat → Int32 → Int32 → Int32 → jH → Option Int32) (a0 : Nat) (x1 : Int32) (x3 : Int32) (s0 : Int32) (s1 : Int32) (s2 : Int32) (h : jH) : Option Int32 :=
  (F_X11_withBit n s0 s1 s2 h).bind fun v62 =>
  rc16 a0 x1 v62 (x3 + (1 : Int32)) h
noncomputable def F_X6_restingChoices_16_b (n : Nat) (rc16 : Nat → Int32 → Int32 → Int32 → jH → Option Int32) (a0 : Nat) (x1 : Int32) (x2 : Int32) (x3 : Int32) (h : jH) : Option Int32 :=
  if (4 : Int32) ≤ x3 then (some x2)
  else ((F_X6_gain n a0 x1 x3 h).bind fun v24 =>
  (F_X6_gain n a0 x1 (x3 ^^^ (2 : Int32)) h).bind fun v38 =>
  if v24 < v38 then (F_X6_restingChoices_62 n rc16 a0 x1 x3 x2 x3 (0 : Int32) h)
  else ((F_X6_gain n a0 x1 (x3 ^^^ (1 : Int32)) h).bind fun v51 =>
  if v24 < v51 then (F_X6_restingChoices_62 n rc16 a0 x1 x3 x2 x3 (0 : Int32) h)
  else (F_X6_restingChoices_62 n rc16 a0 x1 x3 x2 x3 (1 : Int32) h)))
noncomputable def F_X6_restingChoices_16 (n : Nat) : Nat → Nat → Int32 → Int32 → Int32 → jH → Option Int32
  | 0 => fun _ _ _ _ _ => none
  | k + 1 => F_X6_restingChoices_16_b n (F_X6_restingChoices_16 n k)
noncomputable def F_X6_restingChoices (n : Nat) (a0 : Nat) (x1 : Int32) (h : jH) : Option Int32 :=
  (jgI 6 h a0 5).bind fun v2 =>
  if x1 < (v2 - (1 : Int32)) then (F_X6_restingChoices_16 n n a0 x1 (0 : Int32) (0 : Int32) h)
  else (some (-1 : Int32))
noncomputable def F_X6_largestBunch_33 (n : Nat) (rc6 : Nat → Int32 → Int32 → Int32 → jH → Option Int32) (a0 : Nat) (x1 : Int32) (x3 : Int32) (s0 : Int32) (h : jH) : Option Int32 :=
  rc6 a0 (if x1 < s0 then s0 else x1) s0 (x3 + (1 : Int32)) h
noncomputable def F_X6_largestBunch_6_b (n : Nat) (rc6 : Nat → Int32 → Int32 → Int32 → jH → Option Int32) (a0 : Nat) (x1 : Int32) (x2 : Int32) (x3 : Int32) (h : jH) : Option Int32 :=
  (jgI 6 h a0 5).bind fun v8 =>
  if v8 ≤ x3 then (some x1)
  else ((jcv 6 h a0 (F_X8_gap n a0 (x3 - (1 : Int32)) (-1 : Int32) h)).bind fun v19 =>
  if v19 = (1 : Int32) then (F_X6_largestBunch_33 n rc6 a0 x1 x3 (x2 + (1 : Int32)) h)
  else (F_X6_largestBunch_33 n rc6 a0 x1 x3 (1 : Int32) h))
noncomputable def F_X6_largestBunch_6 (n : Nat) : Nat → Nat → Int32 → Int32 → Int32 → jH → Option Int32
  | 0 => fun _ _ _ _ _ => none
  | k + 1 => F_X6_largestBunch_6_b n (F_X6_largestBunch_6 n k)
noncomputable def F_X6_largestBunch (n : Nat) (a0 : Nat) (h : jH) : Option Int32 :=
  F_X6_largestBunch_6 n n a0 (0 : Int32) (0 : Int32) (0 : Int32) h
noncomputable def F_X6_thickBeyondJoin_44 (n : Nat) (rc4 : Nat → Int32 → Int32 → jH → Option Int32) (a0 : Nat) (x2 : Int32) (s0 : Int32) (s1 : Int32) (s2 : Int32) (h : jH) : Option Int32 :=
  (F_X11_withBit n s0 s1 s2 h).bind fun v44 =>
  rc4 a0 v44 (x2 + (1 : Int32)) h
noncomputable def F_X6_thickBeyondJoin_4_b (n : Nat) (rc4 : Nat → Int32 → Int32 → jH → Option Int32) (a0 : Nat) (x1 : Int32) (x2 : Int32) (h : jH) : Option Int32 :=
  (jgI 6 h a0 5).bind fun v6 =>
  if v6 ≤ x2 then (some x1)
  else ((jgI 6 h a0 6).bind fun v15 =>
  (F_X11_bit n v15 x2 h).bind fun v19 =>
  if v19 = (1 : Int32) then ((jgR 6 h a0 0).bind fun p27 =>
  (jal 0 h p27 x2).bind fun v31 =>
  (jgI 6 h a0 11).bind fun v33 =>
  if v31 < v33 then (F_X6_thickBeyondJoin_44 n rc4 a0 x2 x1 x2 (0 : Int32) h)
  else (F_X6_thickBeyondJoin_44 n rc4 a0 x2 x1 x2 (1 : Int32) h))
  else (F_X6_thickBeyondJoin_44 n rc4 a0 x2 x1 x2 (0 : Int32) h))
noncomputable def F_X6_thickBeyondJoin_4 (n : Nat) : Nat → Nat → Int32 → Int32 → jH → Option Int32
  | 0 => fun _ _ _ _ => none
  | k + 1 => F_X6_thickBeyondJoin_4_b n (F_X6_thickBeyondJoin_4 n k)
noncomputable def F_X6_thickBeyondJoin (n : Nat) (a0 : Nat) (h : jH) : Option Int32 :=
  F_X6_thickBeyondJoin_4 n n a0 (0 : Int32) (0 : Int32) h
noncomputable def F_X6_likePairs_16_b (n : Nat) (rc4 : Nat → Int32 → Int32 → jH → Option Int32) (rc16 : Nat → Int32 → Int32 → Int32 → jH → Option Int32) (a0 : Nat) (x1 : Int32) (x2 : Int32) (x3 : Int32) (h : jH) : Option Int32 :=
  (jgI 6 h a0 5).bind fun v18 =>
  if v18 ≤ x3 then (rc4 a0 x1 (x2 + (1 : Int32)) h)
  else ((jgR 6 h a0 1).bind fun p25 =>
  (jal 0 h p25 x2).bind fun v29 =>
  (jgR 6 h a0 1).bind fun p31 =>
  (jal 0 h p31 x3).bind fun v35 =>
  if v29 = v35 then ((jgR 6 h a0 3).bind fun p40 =>
  (jal 0 h p40 x2).bind fun v44 =>
  (jgR 6 h a0 3).bind fun p46 =>
  (jal 0 h p46 x3).bind fun v50 =>
  if v44 = v50 then ((jgR 6 h a0 2).bind fun p55 =>
  (jal 0 h p55 x2).bind fun v59 =>
  (jgR 6 h a0 2).bind fun p61 =>
  (jal 0 h p61 x3).bind fun v65 =>
  if v59 = v65 then (rc16 a0 (x1 + (1 : Int32)) x2 (x3 + (1 : Int32)) h)
  else (rc16 a0 x1 x2 (x3 + (1 : Int32)) h))
  else (rc16 a0 x1 x2 (x3 + (1 : Int32)) h))
  else (rc16 a0 x1 x2 (x3 + (1 : Int32)) h))
noncomputable def F_X6_likePairs_16 (n : Nat) (rc4 : Nat → Int32 → Int32 → jH → Option Int32) : Nat → Nat → Int32 → Int32 → Int32 → jH → Option Int32
  | 0 => fun _ _ _ _ _ => none
  | k + 1 => F_X6_likePairs_16_b n rc4 (F_X6_likePairs_16 n rc4 k)
noncomputable def F_X6_likePairs_4_b (n : Nat) (rc4 : Nat → Int32 → Int32 → jH → Option Int32) (a0 : Nat) (x1 : Int32) (x2 : Int32) (h : jH) : Option Int32 :=
  (jgI 6 h a0 5).bind fun v6 =>
  if v6 ≤ x2 then (some x1)
  else (F_X6_likePairs_16 n rc4 n a0 x1 x2 (x2 + (1 : Int32)) h)
noncomputable def F_X6_likePairs_4 (n : Nat) : Nat → Nat → Int32 → Int32 → jH → Option Int32
  | 0 => fun _ _ _ _ => none
  | k + 1 => F_X6_likePairs_4_b n (F_X6_likePairs_4 n k)
noncomputable def F_X6_likePairs (n : Nat) (a0 : Nat) (h : jH) : Option Int32 :=
  F_X6_likePairs_4 n n a0 (0 : Int32) (0 : Int32) h
noncomputable def F_X8_init (n : Nat) (a0 : Nat) (h : jH) : Option jH :=
  (jnw h (.inr (.inl (0, 8, fun _ => 0)))).bind fun h7 =>
  (jpf 6 h7 a0 0 (.ref h.1)).bind fun h9 =>
  (jnw h9 (.inr (.inl (0, 8, fun _ => 0)))).bind fun h15 =>
  (jpf 6 h15 a0 1 (.ref h9.1)).bind fun h17 =>
  (jnw h17 (.inr (.inl (0, 8, fun _ => 0)))).bind fun h23 =>
  (jpf 6 h23 a0 2 (.ref h17.1)).bind fun h25 =>
  (jnw h25 (.inr (.inl (0, 8, fun _ => 0)))).bind fun h31 =>
  (jpf 6 h31 a0 3 (.ref h25.1)).bind fun h33 =>
  (jnw h33 (.inl (4, [.null, .int 0, .int 0]))).bind fun h37 =>
  (F_X5_init n h33.1 h37).bind fun h41 =>
  (jpf 6 h41 a0 4 (.ref h33.1)).bind fun h44 =>
  (jpf 6 h44 a0 11 (.int (16 : Int32))).bind fun h50 =>
  (jpf 6 h50 a0 12 (.int (8 : Int32))).bind fun h56 =>
  (jpf 6 h56 a0 16 (.int (1 : Int32))).bind fun h61 =>
  some h61
noncomputable def F_X8_hangAs (n : Nat) (a0 : Nat) (a1 : Nat) (h : jH) : Option jH :=
  (jgR 6 h a1 0).bind fun p1 =>
  (jgR 6 h a0 0).bind fun p6 =>
  (jcp h p1 (0 : Int32) p6 (0 : Int32) (8 : Int32)).bind fun h12 =>
  (jgI 6 h12 a1 15).bind fun v17 =>
  (jpf 6 h12 a0 15 (.int v17)).bind fun h20 =>
  (jgI 6 h20 a1 9).bind fun v25 =>
  (jpf 6 h20 a0 9 (.int v25)).bind fun h28 =>
  some h28
noncomputable def F_X8_copyFrom (n : Nat) (a0 : Nat) (a1 : Nat) (h : jH) : Option jH :=
  (jgR 6 h a1 1).bind fun p1 =>
  (jgR 6 h a0 1).bind fun p6 =>
  (jcp h p1 (0 : Int32) p6 (0 : Int32) (8 : Int32)).bind fun h12 =>
  (jgR 6 h12 a1 2).bind fun p16 =>
  (jgR 6 h12 a0 2).bind fun p21 =>
  (jcp h12 p16 (0 : Int32) p21 (0 : Int32) (8 : Int32)).bind fun h27 =>
  (jgR 6 h27 a1 3).bind fun p31 =>
  (jgR 6 h27 a0 3).bind fun p36 =>
  (jcp h27 p31 (0 : Int32) p36 (0 : Int32) (8 : Int32)).bind fun h42 =>
  (jgR 6 h42 a0 4).bind fun p46 =>
  (jgR 6 h42 a1 4).bind fun p50 =>
  (jcv 4 h42 p46 (F_X5_copyFrom n p46 p50 h42)).bind fun h53 =>
  (jgI 6 h53 a1 5).bind fun v58 =>
  (jpf 6 h53 a0 5 (.int v58)).bind fun h61 =>
  (jgI 6 h61 a1 6).bind fun v66 =>
  (jpf 6 h61 a0 6 (.int v66)).bind fun h69 =>
  (jgI 6 h69 a1 7).bind fun v74 =>
  (jpf 6 h69 a0 7 (.int v74)).bind fun h77 =>
  (jgI 6 h77 a1 8).bind fun v82 =>
  (jpf 6 h77 a0 8 (.int v82)).bind fun h85 =>
  (jgI 6 h85 a1 10).bind fun v90 =>
  (jpf 6 h85 a0 10 (.int v90)).bind fun h93 =>
  (jgI 6 h93 a1 11).bind fun v98 =>
  (jpf 6 h93 a0 11 (.int v98)).bind fun h101 =>
  (jgI 6 h101 a1 12).bind fun v106 =>
  (jpf 6 h101 a0 12 (.int v106)).bind fun h109 =>
  (jgI 6 h109 a1 13).bind fun v114 =>
  (jpf 6 h109 a0 13 (.int v114)).bind fun h117 =>
  (jgI 6 h117 a1 14).bind fun v122 =>
  (jpf 6 h117 a0 14 (.int v122)).bind fun h125 =>
  (jgI 6 h125 a1 16).bind fun v130 =>
  (jpf 6 h125 a0 16 (.int v130)).bind fun h133 =>
  (jgI 6 h133 a1 17).bind fun v138 =>
  (jpf 6 h133 a0 17 (.int v138)).bind fun h141 =>
  (jcv 6 h141 a0 (F_X8_hangAs n a0 a1 h141)).bind fun h146 =>
  some h146
noncomputable def F_X8_nearestNew (n : Nat) (a0 : Nat) (h : jH) : Option Int32 :=
  (jgI 6 h a0 5).bind fun v1 =>
  if v1 = 0 then (some (0 : Int32))
  else ((jgR 6 h a0 0).bind fun p12 =>
  (jgI 6 h a0 5).bind fun v16 =>
  (jal 0 h p12 (v16 - (1 : Int32))).bind fun v21 =>
  some (v21 + (1 : Int32)))
noncomputable def F_X8_farthestNew (n : Nat) (a0 : Nat) (h : jH) : Option Int32 :=
  (jgI 6 h a0 5).bind fun v1 =>
  if v1 = 0 then (some (31 : Int32))
  else ((jgR 6 h a0 0).bind fun p15 =>
  (jgI 6 h a0 5).bind fun v19 =>
  (jal 0 h p15 (v19 - (1 : Int32))).bind fun v24 =>
  (jgR 6 h a0 1).bind fun p26 =>
  (jgI 6 h a0 5).bind fun v30 =>
  (jal 0 h p26 (v30 - (1 : Int32))).bind fun v35 =>
  some (if (v24 + v35) < (31 : Int32) then v24 + v35 else (31 : Int32)))
noncomputable def F_X8_add (n : Nat) (a0 : Nat) (x1 : Int32) (x2 : Int32) (h : jH) : Option jH :=
  (jgI 6 h a0 5).bind fun v1 =>
  if v1 < (8 : Int32) then ((jgR 6 h a0 0).bind fun p11 =>
  (jgI 6 h a0 5).bind fun v15 =>
  (jas 0 h p11 v15 x1).bind fun h19 =>
  (jgR 6 h19 a0 1).bind fun p21 =>
  (jgI 6 h19 a0 5).bind fun v25 =>
  (jas 0 h19 p21 v25 x2).bind fun h29 =>
  (jgR 6 h29 a0 2).bind fun p31 =>
  (jgI 6 h29 a0 5).bind fun v35 =>
  (jas 0 h29 p31 v35 (0 : Int32)).bind fun h39 =>
  (jgR 6 h39 a0 3).bind fun p41 =>
  (jgI 6 h39 a0 5).bind fun v45 =>
  (jas 0 h39 p41 v45 (0 : Int32)).bind fun h49 =>
  (jgI 6 h49 a0 6).bind fun v52 =>
  (jgI 6 h49 a0 5).bind fun v56 =>
  (F_X11_withBit n v52 v56 (0 : Int32) h49).bind fun v60 =>
  (jpf 6 h49 a0 6 (.int v60)).bind fun h63 =>
  (jgI 6 h63 a0 7).bind fun v68 =>
  (jgI 6 h63 a0 5).bind fun v72 =>
  (F_X11_withBit n v68 v72 (0 : Int32) h63).bind fun v76 =>
  (jpf 6 h63 a0 7 (.int v76)).bind fun h79 =>
  (jgI 6 h79 a0 8).bind fun v84 =>
  (jgI 6 h79 a0 5).bind fun v88 =>
  (F_X11_withBit n v84 v88 (1 : Int32) h79).bind fun v92 =>
  (jpf 6 h79 a0 8 (.int v92)).bind fun h95 =>
  (jgI 6 h95 a0 9).bind fun v100 =>
  (jgI 6 h95 a0 5).bind fun v104 =>
  (F_X11_withBit n v100 v104 (0 : Int32) h95).bind fun v108 =>
  (jpf 6 h95 a0 9 (.int v108)).bind fun h111 =>
  (jgI 6 h111 a0 5).bind fun v116 =>
  (jpf 6 h111 a0 5 (.int (v116 + (1 : Int32)))).bind fun h121 =>
  some h121)
  else (some h)
noncomputable def F_X8_unhooked (n : Nat) (a0 : Nat) (h : jH) : Option Int32 :=
  (jgI 6 h a0 5).bind fun v2 =>
  (jgI 6 h a0 8).bind fun v9 =>
  some ((((1 : Int32) <<< (v2 &&& 31)) - (1 : Int32)) &&& (v9 ^^^ (-1 : Int32)))
noncomputable def F_X8_shadow_4_b (n : Nat) (rc4 : Nat → Int32 → Int32 → jH → Option Int32) (a0 : Nat) (x1 : Int32) (x2 : Int32) (h : jH) : Option Int32 :=
  (jgI 6 h a0 5).bind fun v8 =>
  if v8 ≤ (x2 + (1 : Int32)) then (some x1)
  else ((jgI 6 h a0 8).bind fun v15 =>
  (F_X11_bit n v15 x2 h).bind fun v19 =>
  if v19 = (1 : Int32) then ((jgI 6 h a0 8).bind fun v27 =>
  (F_X11_bit n v27 (x2 + (1 : Int32)) h).bind fun v33 =>
  if v33 = (1 : Int32) then ((jgR 6 h a0 0).bind fun p43 =>
  (jal 0 h p43 x2).bind fun v47 =>
  (jgR 6 h a0 0).bind fun p53 =>
  (jal 0 h p53 (x2 + (1 : Int32))).bind fun v59 =>
  rc4 a0 (x1 ||| (((-1 : Int32) <<< (v47 &&& 31)) &&& (jushr (-1 : Int32) ((31 : Int32) - v59)))) (x2 + (1 : Int32)) h)
  else (rc4 a0 x1 (x2 + (1 : Int32)) h))
  else (rc4 a0 x1 (x2 + (1 : Int32)) h))
noncomputable def F_X8_shadow_4 (n : Nat) : Nat → Nat → Int32 → Int32 → jH → Option Int32
  | 0 => fun _ _ _ _ => none
  | k + 1 => F_X8_shadow_4_b n (F_X8_shadow_4 n k)
noncomputable def F_X8_shadow (n : Nat) (a0 : Nat) (h : jH) : Option Int32 :=
  F_X8_shadow_4 n n a0 (0 : Int32) (0 : Int32) h
noncomputable def F_X8_shadedChairs (n : Nat) (a0 : Nat) (h : jH) : Option Int32 :=
  (jgI 6 h a0 10).bind fun v1 =>
  (jcv 6 h a0 (F_X8_shadow n a0 h)).bind fun v5 =>
  (F_J6_bitCount_0f7a4 n (v1 &&& v5) h).bind fun v9 =>
  some v9
noncomputable def F_X8_goTogether (n : Nat) (a0 : Nat) (x1 : Int32) (x2 : Int32) (h : jH) : Option Int32 :=
  (jgR 6 h a0 0).bind fun p1 =>
  (jal 0 h p1 (x1 + (1 : Int32))).bind fun v7 =>
  (jgR 6 h a0 0).bind fun p9 =>
  (jal 0 h p9 x1).bind fun v13 =>
  (jgI 6 h a0 9).bind fun v17 =>
  if ((jushr v17 x1) &&& (1 : Int32)) = (1 : Int32) then (some (1 : Int32))
  else (if x2 = 0 then ((jgR 6 h a0 1).bind fun p44 =>
  (jal 0 h p44 x1).bind fun v48 =>
  if ((v7 - v13) + (1 : Int32)) ≤ v48 then (some (0 : Int32))
  else (some (1 : Int32)))
  else (if (v7 - v13) = (1 : Int32) then (some (1 : Int32))
  else (some (0 : Int32))))
noncomputable def F_X8_isStopped_16 (n : Nat) (a0 : Nat) (x1 : Int32) (x2 : Int32) (s0 : Int32) (s1 : Int32) (h : jH) : Option Int32 :=
  if s0 = s1 then (some (1 : Int32))
  else ((jgI 6 h a0 6).bind fun v22 =>
  if ((jushr v22 x1) &&& (1 : Int32)) = (1 : Int32) then ((jgR 6 h a0 0).bind fun p34 =>
  (jal 0 h p34 x1).bind fun v38 =>
  if x2 = 0 then ((jgI 6 h a0 11).bind fun v53 =>
  if v38 = v53 then (some (1 : Int32))
  else (some (0 : Int32)))
  else ((jgI 6 h a0 11).bind fun v44 =>
  if v38 = (v44 - (1 : Int32)) then (some (1 : Int32))
  else (some (0 : Int32))))
  else (some (0 : Int32)))
noncomputable def F_X8_isStopped (n : Nat) (a0 : Nat) (x1 : Int32) (x2 : Int32) (h : jH) : Option Int32 :=
  (jgR 6 h a0 0).bind fun p1 =>
  (jal 0 h p1 x1).bind fun v5 =>
  if x2 = 0 then (F_X8_isStopped_16 n a0 x1 x2 v5 (0 : Int32) h)
  else (F_X8_isStopped_16 n a0 x1 x2 v5 (31 : Int32) h)
noncomputable def F_X8_goers_64_b (n : Nat) (rc64 : Nat → Int32 → Int32 → Int32 → Int32 → jH → Option Int32) (a0 : Nat) (x2 : Int32) (x3 : Int32) (x4 : Int32) (x5 : Int32) (h : jH) : Option Int32 :=
  if x4 < x5 then (some (((1 : Int32) <<< ((x4 + (1 : Int32)) &&& 31)) - ((1 : Int32) <<< (x3 &&& 31))))
  else ((jcv 6 h a0 (F_X8_isStopped n a0 x5 x2 h)).bind fun v75 =>
  if v75 = 0 then (rc64 a0 x2 x3 x4 (x5 + (1 : Int32)) h)
  else (some (0 : Int32)))
noncomputable def F_X8_goers_64 (n : Nat) : Nat → Nat → Int32 → Int32 → Int32 → Int32 → jH → Option Int32
  | 0 => fun _ _ _ _ _ _ => none
  | k + 1 => F_X8_goers_64_b n (F_X8_goers_64 n k)
noncomputable def F_X8_goers_49 (n : Nat) (rc32 : Nat → Int32 → Int32 → Int32 → jH → Option Int32) (a0 : Nat) (x2 : Int32) (x3 : Int32) (x4 : Int32) (sa0 : Nat) (s1 : Int32) (s2 : Int32) (h : jH) : Option Int32 :=
  (jcv 6 h sa0 (F_X8_goTogether n sa0 s1 s2 h)).bind fun v49 =>
  if v49 = 0 then (F_X8_goers_64 n n a0 x2 x3 x4 x3 h)
  else (rc32 a0 x2 (x3 + (-1 : Int32)) x4 h)
noncomputable def F_X8_goers_32_b (n : Nat) (rc32 : Nat → Int32 → Int32 → Int32 → jH → Option Int32) (a0 : Nat) (x2 : Int32) (x3 : Int32) (x4 : Int32) (h : jH) : Option Int32 :=
  if x3 ≤ 0 then (F_X8_goers_64 n n a0 x2 x3 x4 x3 h)
  else (if x2 = 0 then (F_X8_goers_49 n rc32 a0 x2 x3 x4 a0 (x3 - (1 : Int32)) (1 : Int32) h)
  else (F_X8_goers_49 n rc32 a0 x2 x3 x4 a0 (x3 - (1 : Int32)) (0 : Int32) h))
noncomputable def F_X8_goers_32 (n : Nat) : Nat → Nat → Int32 → Int32 → Int32 → jH → Option Int32
  | 0 => fun _ _ _ _ _ => none
  | k + 1 => F_X8_goers_32_b n (F_X8_goers_32 n k)
noncomputable def F_X8_goers_5_b (n : Nat) (rc5 : Nat → Int32 → Int32 → Int32 → jH → Option Int32) (a0 : Nat) (x2 : Int32) (x3 : Int32) (x4 : Int32) (h : jH) : Option Int32 :=
  (jgI 6 h a0 5).bind fun v10 =>
  if v10 ≤ (x4 + (1 : Int32)) then (F_X8_goers_32 n n a0 x2 x3 x4 h)
  else ((jcv 6 h a0 (F_X8_goTogether n a0 x4 x2 h)).bind fun v20 =>
  if v20 = 0 then (F_X8_goers_32 n n a0 x2 x3 x4 h)
  else (rc5 a0 x2 x3 (x4 + (1 : Int32)) h))
noncomputable def F_X8_goers_5 (n : Nat) : Nat → Nat → Int32 → Int32 → Int32 → jH → Option Int32
  | 0 => fun _ _ _ _ _ => none
  | k + 1 => F_X8_goers_5_b n (F_X8_goers_5 n k)
noncomputable def F_X8_goers (n : Nat) (a0 : Nat) (x1 : Int32) (x2 : Int32) (h : jH) : Option Int32 :=
  F_X8_goers_5 n n a0 x2 x1 x1 h
noncomputable def F_X8_move_28_b (n : Nat) (rc3 : Nat → Int32 → Int32 → Int32 → Int32 → jH → Option (Int32 × jH)) (rc28 : Nat → Int32 → Int32 → Int32 → Int32 → Int32 → Int32 → jH → Option (Int32 × jH)) (a0 : Nat) (x1 : Int32) (x2 : Int32) (x3 : Int32) (x4 : Int32) (x5 : Int32) (x6 : Int32) (h : jH) : Option (Int32 × jH) :=
  (jgI 6 h a0 5).bind fun v31 =>
  if v31 ≤ x6 then ((jgI 6 h a0 15).bind fun v78 =>
  (jgI 6 h a0 7).bind fun v84 =>
  (F_J6_bitCount_0f7a4 n (x5 &&& (v84 ^^^ (-1 : Int32))) h).bind fun v90 =>
  (jpf 6 h a0 15 (.int (if (v78 + v90) < (9999 : Int32) then v78 + v90 else (9999 : Int32)))).bind fun h97 =>
  rc3 a0 x1 x2 x3 (x4 + (1 : Int32)) h97)
  else ((F_X11_bit n x5 x6 h).bind fun v41 =>
  if v41 = (1 : Int32) then ((jgR 6 h a0 0).bind fun p49 =>
  (jal 0 h p49 x6).bind fun v55 =>
  if x2 = 0 then ((jas 0 h p49 x6 (v55 + (-1 : Int32))).bind fun h66 =>
  rc28 a0 x1 x2 x3 x4 x5 (x6 + (1 : Int32)) h66)
  else ((jas 0 h p49 x6 (v55 + (1 : Int32))).bind fun h66 =>
  rc28 a0 x1 x2 x3 x4 x5 (x6 + (1 : Int32)) h66))
  else (rc28 a0 x1 x2 x3 x4 x5 (x6 + (1 : Int32)) h))
noncomputable def F_X8_move_28 (n : Nat) (rc3 : Nat → Int32 → Int32 → Int32 → Int32 → jH → Option (Int32 × jH)) : Nat → Nat → Int32 → Int32 → Int32 → Int32 → Int32 → Int32 → jH → Option (Int32 × jH)
  | 0 => fun _ _ _ _ _ _ _ _ => none
  | k + 1 => F_X8_move_28_b n rc3 (F_X8_move_28 n rc3 k)
noncomputable def F_X8_move_3_b (n : Nat) (rc3 : Nat → Int32 → Int32 → Int32 → Int32 → jH → Option (Int32 × jH)) (a0 : Nat) (x1 : Int32) (x2 : Int32) (x3 : Int32) (x4 : Int32) (h : jH) : Option (Int32 × jH) :=
  if x3 ≤ x4 then (some (x3, h))
  else ((jcv 6 h a0 (F_X8_goers n a0 x1 x2 h)).bind fun v12 =>
  if v12 = 0 then (some (x4, h))
  else (F_X8_move_28 n rc3 n a0 x1 x2 x3 x4 v12 (0 : Int32) h))
noncomputable def F_X8_move_3 (n : Nat) : Nat → Nat → Int32 → Int32 → Int32 → Int32 → jH → Option (Int32 × jH)
  | 0 => fun _ _ _ _ _ _ => none
  | k + 1 => F_X8_move_3_b n (F_X8_move_3 n k)
noncomputable def F_X8_move (n : Nat) (a0 : Nat) (x1 : Int32) (x2 : Int32) (x3 : Int32) (h : jH) : Option (Int32 × jH) :=
  F_X8_move_3 n n a0 x1 x2 x3 (0 : Int32) h
noncomputable def F_X10_init (n : Nat) (a0 : Nat) (h : jH) : Option jH :=
  (jnw h (.inr (.inl (1, 400, fun _ => 0)))).bind fun h8 =>
  (jpf 8 h8 a0 0 (.ref h.1)).bind fun h10 =>
  (jnw h10 (.inr (.inl (0, 400, fun _ => 0)))).bind fun h17 =>
  (jpf 8 h17 a0 1 (.ref h10.1)).bind fun h19 =>
  (jnw h19 (.inr (.inl (0, 400, fun _ => 0)))).bind fun h26 =>
  (jpf 8 h26 a0 2 (.ref h19.1)).bind fun h28 =>
  (jnw h28 (.inr (.inl (0, 400, fun _ => 0)))).bind fun h35 =>
  (jpf 8 h35 a0 3 (.ref h28.1)).bind fun h37 =>
  some h37
noncomputable def F_X10_hasRoom (n : Nat) (a0 : Nat) (h : jH) : Option Int32 :=
  (jgI 8 h a0 6).bind fun v1 =>
  if (400 : Int32) < (v1 + (20 : Int32)) then (some (0 : Int32))
  else (some (1 : Int32))
noncomputable def F_X10_put_3_b (n : Nat) (rc3 : Nat → Int32 → Int32 → jH → Option jH) (a0 : Nat) (x1 : Int32) (x2 : Int32) (h : jH) : Option jH :=
  if x2 < 0 then (some h)
  else ((jgI 8 h a0 6).bind fun v8 =>
  if (400 : Int32) ≤ v8 then (some h)
  else ((jgR 8 h a0 0).bind fun p18 =>
  (jgI 8 h a0 6).bind fun v22 =>
  (jas 1 h p18 v22 ((jushr x1 x2).toInt8.toInt32)).bind fun h29 =>
  (jgI 8 h29 a0 6).bind fun v32 =>
  (jpf 8 h29 a0 6 (.int (v32 + (1 : Int32)))).bind fun h37 =>
  rc3 a0 x1 (x2 + (-8 : Int32)) h37))
noncomputable def F_X10_put_3 (n : Nat) : Nat → Nat → Int32 → Int32 → jH → Option jH
  | 0 => fun _ _ _ _ => none
  | k + 1 => F_X10_put_3_b n (F_X10_put_3 n k)
noncomputable def F_X10_put (n : Nat) (a0 : Nat) (x1 : Int32) (h : jH) : Option jH :=
  F_X10_put_3 n n a0 x1 (24 : Int32) h
noncomputable def F_X10_at (n : Nat) (a0 : Nat) (x1 : Int32) (h : jH) : Option Int32 :=
  if x1 < 0 then (some (-1 : Int32))
  else ((jgI 8 h a0 6).bind fun v6 =>
  if v6 ≤ x1 then (some (-1 : Int32))
  else (if x1 < (400 : Int32) then ((jgR 8 h a0 0).bind fun p24 =>
  (jal 1 h p24 x1).bind fun v28 =>
  some (v28 &&& (255 : Int32)))
  else (some (-1 : Int32))))
noncomputable def F_X10_endOfRow_3_b (n : Nat) (rc3 : Nat → Int32 → Int32 → Int32 → jH → Option Int32) (a0 : Nat) (x2 : Int32) (x3 : Int32) (x4 : Int32) (h : jH) : Option Int32 :=
  (jgI 8 h a0 6).bind fun v6 =>
  if v6 ≤ x4 then (some x4)
  else ((jcv 8 h a0 (F_X10_at n a0 x4 h)).bind fun v15 =>
  if v15 < x2 then (some x4)
  else ((jcv 8 h a0 (F_X10_at n a0 x4 h)).bind fun v25 =>
  if x3 < v25 then (some x4)
  else (rc3 a0 x2 x3 (x4 + (1 : Int32)) h)))
noncomputable def F_X10_endOfRow_3 (n : Nat) : Nat → Nat → Int32 → Int32 → Int32 → jH → Option Int32
  | 0 => fun _ _ _ _ _ => none
  | k + 1 => F_X10_endOfRow_3_b n (F_X10_endOfRow_3 n k)
noncomputable def F_X10_endOfRow (n : Nat) (a0 : Nat) (x1 : Int32) (x2 : Int32) (x3 : Int32) (h : jH) : Option Int32 :=
  F_X10_endOfRow_3 n n a0 x2 x3 x1 h
noncomputable def F_X10_standsAt_3_b (n : Nat) (rc3 : Nat → Int32 → Int32 → Int32 → Int32 → jH → Option Int32) (a0 : Nat) (x1 : Int32) (x2 : Int32) (x3 : Int32) (x4 : Int32) (h : jH) : Option Int32 :=
  if x3 ≤ x4 then (some (1 : Int32))
  else ((jcv 8 h a0 (F_X10_at n a0 ((x1 + x4) - x2) h)).bind fun v16 =>
  (jtc 0 x4).bind fun v23 =>
  if v16 = v23 then (rc3 a0 x1 x2 x3 (x4 + (1 : Int32)) h)
  else (some (0 : Int32)))
noncomputable def F_X10_standsAt_3 (n : Nat) : Nat → Nat → Int32 → Int32 → Int32 → Int32 → jH → Option Int32
  | 0 => fun _ _ _ _ _ _ => none
  | k + 1 => F_X10_standsAt_3_b n (F_X10_standsAt_3 n k)
noncomputable def F_X10_standsAt (n : Nat) (a0 : Nat) (x1 : Int32) (x2 : Int32) (x3 : Int32) (h : jH) : Option Int32 :=
  F_X10_standsAt_3 n n a0 x1 x2 x3 x2 h
noncomputable def F_X10_wordBetween_8_b (n : Nat) (rc8 : Nat → Int32 → Int32 → Int32 → Int32 → Int32 → jH → Option Int32) (a0 : Nat) (x1 : Int32) (x2 : Int32) (x3 : Int32) (x4 : Int32) (x5 : Int32) (h : jH) : Option Int32 :=
  (jtl 0).bind fun v12 =>
  if v12 ≤ x5 then (some (-2 : Int32))
  else ((jtc 0 x5).bind fun v22 =>
  if v22 = (32 : Int32) then (if (x5 - x4) = (x2 - x1) then ((jcv 8 h a0 (F_X10_standsAt n a0 x1 x4 x5 h)).bind fun v47 =>
  if v47 = 0 then (rc8 a0 x1 x2 (x3 + (1 : Int32)) (x5 + (1 : Int32)) (x5 + (1 : Int32)) h)
  else (some x3))
  else (rc8 a0 x1 x2 (x3 + (1 : Int32)) (x5 + (1 : Int32)) (x5 + (1 : Int32)) h))
  else (rc8 a0 x1 x2 x3 x4 (x5 + (1 : Int32)) h))
noncomputable def F_X10_wordBetween_8 (n : Nat) : Nat → Nat → Int32 → Int32 → Int32 → Int32 → Int32 → jH → Option Int32
  | 0 => fun _ _ _ _ _ _ _ => none
  | k + 1 => F_X10_wordBetween_8_b n (F_X10_wordBetween_8 n k)
noncomputable def F_X10_wordBetween (n : Nat) (a0 : Nat) (x1 : Int32) (x2 : Int32) (h : jH) : Option Int32 :=
  F_X10_wordBetween_8 n n a0 x1 x2 (0 : Int32) (0 : Int32) (0 : Int32) h
noncomputable def F_X10_numberBetween_16_b (n : Nat) (rc16 : Nat → Int32 → Int32 → Int32 → jH → Option Int32) (a0 : Nat) (x2 : Int32) (x3 : Int32) (x4 : Int32) (h : jH) : Option Int32 :=
  if x2 ≤ x4 then (some x3)
  else ((jcv 8 h a0 (F_X10_at n a0 x4 h)).bind fun v29 =>
  rc16 a0 x2 ((((10 : Int32) * x3) + v29) - (48 : Int32)) (x4 + (1 : Int32)) h)
noncomputable def F_X10_numberBetween_16 (n : Nat) : Nat → Nat → Int32 → Int32 → Int32 → jH → Option Int32
  | 0 => fun _ _ _ _ _ => none
  | k + 1 => F_X10_numberBetween_16_b n (F_X10_numberBetween_16 n k)
noncomputable def F_X10_numberBetween (n : Nat) (a0 : Nat) (x1 : Int32) (x2 : Int32) (h : jH) : Option Int32 :=
  if (x2 - x1) ≤ (3 : Int32) then (F_X10_numberBetween_16 n n a0 x2 (0 : Int32) x1 h)
  else (some (1000 : Int32))
noncomputable def F_X10_scanThing (n : Nat) (a0 : Nat) (x1 : Int32) (h : jH) : Option (Int32 × jH) :=
  (jcv 8 h a0 (F_X10_endOfRow n a0 x1 (97 : Int32) (122 : Int32) h)).bind fun v6 =>
  if v6 ≤ x1 then ((jcv 8 h a0 (F_X10_endOfRow n a0 x1 (48 : Int32) (57 : Int32) h)).bind fun v38 =>
  if v38 ≤ x1 then ((jcv 8 h a0 (F_X10_at n a0 x1 h)).bind fun v77 =>
  (jgR 8 h a0 1).bind fun p82 =>
  (jgI 8 h a0 4).bind fun v86 =>
  if (32 : Int32) ≤ v77 then ((jas 0 h p82 v86 v77).bind fun h101 =>
  some (x1 + (1 : Int32), h101))
  else ((jas 0 h p82 v86 (-2 : Int32)).bind fun h101 =>
  some (x1 + (1 : Int32), h101)))
  else ((jgR 8 h a0 1).bind fun p48 =>
  (jgI 8 h a0 4).bind fun v52 =>
  (jas 0 h p48 v52 (-3 : Int32)).bind fun h57 =>
  (jgR 8 h57 a0 3).bind fun p59 =>
  (jgI 8 h57 a0 4).bind fun v63 =>
  (jcv 8 h57 a0 (F_X10_numberBetween n a0 x1 v38 h57)).bind fun v69 =>
  (jas 0 h57 p59 v63 v69).bind fun h72 =>
  some (v38, h72)))
  else ((jgR 8 h a0 1).bind fun p16 =>
  (jgI 8 h a0 4).bind fun v20 =>
  (jcv 8 h a0 (F_X10_wordBetween n a0 x1 v6 h)).bind fun v26 =>
  (jas 0 h p16 v20 v26).bind fun h29 =>
  some (v6, h29))
noncomputable def F_X10_scan_12_b (n : Nat) (rc12 : Nat → Int32 → jH → Option jH) (a0 : Nat) (x1 : Int32) (h : jH) : Option jH :=
  (jgI 8 h a0 6).bind fun v14 =>
  if v14 ≤ x1 then (some h)
  else ((jgI 8 h a0 4).bind fun v21 =>
  if (400 : Int32) ≤ v21 then (some h)
  else ((jcv 8 h a0 (F_X10_at n a0 x1 h)).bind fun v36 =>
  if v36 = (32 : Int32) then (rc12 a0 (x1 + (1 : Int32)) h)
  else ((jcv 8 h a0 (F_X10_scanThing n a0 x1 h)).bind fun q46 =>
  (jgR 8 q46.2 a0 2).bind fun p51 =>
  (jgI 8 q46.2 a0 4).bind fun v55 =>
  (jas 0 q46.2 p51 v55 x1).bind fun h59 =>
  (jgI 8 h59 a0 4).bind fun v62 =>
  (jpf 8 h59 a0 4 (.int (v62 + (1 : Int32)))).bind fun h67 =>
  rc12 a0 q46.1 h67)))
noncomputable def F_X10_scan_12 (n : Nat) : Nat → Nat → Int32 → jH → Option jH
  | 0 => fun _ _ _ => none
  | k + 1 => F_X10_scan_12_b n (F_X10_scan_12 n k)
noncomputable def F_X10_scan (n : Nat) (a0 : Nat) (h : jH) : Option jH :=
  (jpf 8 h a0 4 (.int (0 : Int32))).bind fun h2 =>
  (jpf 8 h2 a0 5 (.int (0 : Int32))).bind fun h7 =>
  F_X10_scan_12 n n a0 (0 : Int32) h7
noncomputable def F_X10_kind (n : Nat) (a0 : Nat) (h : jH) : Option Int32 :=
  (jgI 8 h a0 5).bind fun v1 =>
  (jgI 8 h a0 4).bind fun v5 =>
  if v5 ≤ v1 then (some (-1 : Int32))
  else ((jgR 8 h a0 1).bind fun p12 =>
  (jgI 8 h a0 5).bind fun v16 =>
  (jal 0 h p12 v16).bind fun v19 =>
  some v19)
noncomputable def F_X10_start (n : Nat) (a0 : Nat) (h : jH) : Option Int32 :=
  (jgI 8 h a0 5).bind fun v1 =>
  (jgI 8 h a0 4).bind fun v5 =>
  if v5 ≤ v1 then ((jgI 8 h a0 6).bind fun v24 =>
  some v24)
  else ((jgR 8 h a0 2).bind fun p12 =>
  (jgI 8 h a0 5).bind fun v16 =>
  (jal 0 h p12 v16).bind fun v19 =>
  some v19)
noncomputable def F_X10_skip (n : Nat) (a0 : Nat) (h : jH) : Option jH :=
  (jgI 8 h a0 5).bind fun v1 =>
  (jgI 8 h a0 4).bind fun v5 =>
  if v5 ≤ v1 then (some h)
  else ((jgI 8 h a0 5).bind fun v13 =>
  (jpf 8 h a0 5 (.int (v13 + (1 : Int32)))).bind fun h18 =>
  some h18)
noncomputable def F_X10_take (n : Nat) (a0 : Nat) (x1 : Int32) (h : jH) : Option (Int32 × jH) :=
  (jgI 8 h a0 5).bind fun v1 =>
  (jgI 8 h a0 4).bind fun v5 =>
  if v5 ≤ v1 then (some ((0 : Int32), h))
  else ((jgR 8 h a0 1).bind fun p12 =>
  (jgI 8 h a0 5).bind fun v16 =>
  (jal 0 h p12 v16).bind fun v19 =>
  if v19 = x1 then ((jgI 8 h a0 5).bind fun v28 =>
  (jpf 8 h a0 5 (.int (v28 + (1 : Int32)))).bind fun h33 =>
  some ((1 : Int32), h33))
  else (some ((0 : Int32), h)))
noncomputable def F_X10_takeNumber (n : Nat) (a0 : Nat) (x1 : Int32) (x2 : Int32) (h : jH) : Option (Int32 × jH) :=
  (jgI 8 h a0 5).bind fun v1 =>
  (jgI 8 h a0 4).bind fun v5 =>
  if v5 ≤ v1 then (some ((-1 : Int32), h))
  else ((jgR 8 h a0 1).bind fun p12 =>
  (jgI 8 h a0 5).bind fun v16 =>
  (jal 0 h p12 v16).bind fun v19 =>
  if v19 = (-3 : Int32) then ((jgR 8 h a0 3).bind fun p26 =>
  (jgI 8 h a0 5).bind fun v30 =>
  (jal 0 h p26 v30).bind fun v33 =>
  if v33 < x1 then (some ((-1 : Int32), h))
  else ((jgR 8 h a0 3).bind fun p39 =>
  (jgI 8 h a0 5).bind fun v43 =>
  (jal 0 h p39 v43).bind fun v46 =>
  if v46 ≤ x2 then ((jgI 8 h a0 5).bind fun v55 =>
  (jpf 8 h a0 5 (.int (v55 + (1 : Int32)))).bind fun h60 =>
  (jgR 8 h60 a0 3).bind fun p64 =>
  (jgI 8 h60 a0 5).bind fun v68 =>
  (jal 0 h60 p64 (v68 - (1 : Int32))).bind fun v73 =>
  some (v73, h60))
  else (some ((-1 : Int32), h))))
  else (some ((-1 : Int32), h)))
