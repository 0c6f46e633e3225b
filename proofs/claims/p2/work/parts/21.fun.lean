noncomputable def F_X5_init (n : Nat) (a0 : Nat) (h : jH) : Option jH :=
  (jnw h (.inr (.inl (0, 60, fun _ => 0)))).bind fun h7 =>
  (jpf 4 h7 a0 0 (.ref h.1)).bind fun h9 =>
  some h9
noncomputable def F_X8_init (n : Nat) (a0 : Nat) (h : jH) : Option jH :=
  (jnw h (.inr (.inl (0, 8, fun _ => 0)))).bind fun h7 =>
  (jpf 6 h7 a0 0 (.ref h.1)).bind fun h9 =>
  (jnw h9 (.inr (.inl (0, 8, fun _ => 0)))).bind fun h15 =>
  (jpf 6 h15 a0 1 (.ref h9.1)).bind fun h17 =>
  (jnw h17 (.inr (.inl (0, 8, fun _ => 0)))).bind fun h23 =>
  (jpf 6 h23 a0 2 (.ref h17.1)).bind fun h25 =>
  (jnw h25 (.inr (.inl (0, 8, fun _ => 0)))).bind fun h31 =>
  (jpf 6 h31 a0 3 (.ref h25.1)).bind fun h33 =>
  (jnw h33 (.inl (4, [.null, .int 0, .int 0]))).bind fun h37 =>
  (F_X5_init n h33.1 h37).bind fun h41 =>
  (jpf 6 h41 a0 4 (.ref h33.1)).bind fun h44 =>
  (jpf 6 h44 a0 11 (.int (16 : Int32))).bind fun h50 =>
  (jpf 6 h50 a0 12 (.int (8 : Int32))).bind fun h56 =>
  (jpf 6 h56 a0 16 (.int (1 : Int32))).bind fun h61 =>
  some h61
noncomputable def F_X5_copyFrom (n : Nat) (a0 : Nat) (a1 : Nat) (h : jH) : Option jH :=
  (jgR 4 h a1 0).bind fun p1 =>
  (jgR 4 h a0 0).bind fun p6 =>
  (jcp h p1 (0 : Int32) p6 (0 : Int32) (60 : Int32)).bind fun h12 =>
  (jgI 4 h12 a1 1).bind fun v17 =>
  (jpf 4 h12 a0 1 (.int v17)).bind fun h20 =>
  (jgI 4 h20 a1 2).bind fun v25 =>
  (jpf 4 h20 a0 2 (.int v25)).bind fun h28 =>
  some h28
noncomputable def F_X8_hangAs (n : Nat) (a0 : Nat) (a1 : Nat) (h : jH) : Option jH :=
  (jgR 6 h a1 0).bind fun p1 =>
  (jgR 6 h a0 0).bind fun p6 =>
  (jcp h p1 (0 : Int32) p6 (0 : Int32) (8 : Int32)).bind fun h12 =>
  (jgI 6 h12 a1 15).bind fun v17 =>
  (jpf 6 h12 a0 15 (.int v17)).bind fun h20 =>
  (jgI 6 h20 a1 9).bind fun v25 =>
  (jpf 6 h20 a0 9 (.int v25)).bind fun h28 =>
  some h28
noncomputable def F_X8_copyFrom (n : Nat) (a0 : Nat) (a1 : Nat) (h : jH) : Option jH :=
  (jgR 6 h a1 1).bind fun p1 =>
  (jgR 6 h a0 1).bind fun p6 =>
  (jcp h p1 (0 : Int32) p6 (0 : Int32) (8 : Int32)).bind fun h12 =>
  (jgR 6 h12 a1 2).bind fun p16 =>
  (jgR 6 h12 a0 2).bind fun p21 =>
  (jcp h12 p16 (0 : Int32) p21 (0 : Int32) (8 : Int32)).bind fun h27 =>
  (jgR 6 h27 a1 3).bind fun p31 =>
  (jgR 6 h27 a0 3).bind fun p36 =>
  (jcp h27 p31 (0 : Int32) p36 (0 : Int32) (8 : Int32)).bind fun h42 =>
  (jgR 6 h42 a0 4).bind fun p46 =>
  (jgR 6 h42 a1 4).bind fun p50 =>
  (jcv 4 h42 p46 (F_X5_copyFrom n p46 p50 h42)).bind fun h53 =>
  (jgI 6 h53 a1 5).bind fun v58 =>
  (jpf 6 h53 a0 5 (.int v58)).bind fun h61 =>
  (jgI 6 h61 a1 6).bind fun v66 =>
  (jpf 6 h61 a0 6 (.int v66)).bind fun h69 =>
  (jgI 6 h69 a1 7).bind fun v74 =>
  (jpf 6 h69 a0 7 (.int v74)).bind fun h77 =>
  (jgI 6 h77 a1 8).bind fun v82 =>
  (jpf 6 h77 a0 8 (.int v82)).bind fun h85 =>
  (jgI 6 h85 a1 10).bind fun v90 =>
  (jpf 6 h85 a0 10 (.int v90)).bind fun h93 =>
  (jgI 6 h93 a1 11).bind fun v98 =>
  (jpf 6 h93 a0 11 (.int v98)).bind fun h101 =>
  (jgI 6 h101 a1 12).bind fun v106 =>
  (jpf 6 h101 a0 12 (.int v106)).bind fun h109 =>
  (jgI 6 h109 a1 13).bind fun v114 =>
  (jpf 6 h109 a0 13 (.int v114)).bind fun h117 =>
  (jgI 6 h117 a1 14).bind fun v122 =>
  (jpf 6 h117 a0 14 (.int v122)).bind fun h125 =>
  (jgI 6 h125 a1 16).bind fun v130 =>
  (jpf 6 h125 a0 16 (.int v130)).bind fun h133 =>
  (jgI 6 h133 a1 17).bind fun v138 =>
  (jpf 6 h133 a0 17 (.int v138)).bind fun h141 =>
  (jcv 6 h141 a0 (F_X8_hangAs n a0 a1 h141)).bind fun h146 =>
  some h146
noncomputable def F_X8_goTogether (n : Nat) (a0 : Nat) (x1 : Int32) (x2 : Int32) (h : jH) : Option Int32 :=
  (jgR 6 h a0 0).bind fun p1 =>
  (jal 0 h p1 (x1 + (1 : Int32))).bind fun v7 =>
  (jgR 6 h a0 0).bind fun p9 =>
  (jal 0 h p9 x1).bind fun v13 =>
  (jgI 6 h a0 9).bind fun v17 =>
  if ((jushr v17 x1) &&& (1 : Int32)) = (1 : Int32) then (some (1 : Int32))
  else (if x2 = 0 then ((jgR 6 h a0 1).bind fun p44 =>
  (jal 0 h p44 x1).bind fun v48 =>
  if ((v7 - v13) + (1 : Int32)) ≤ v48 then (some (0 : Int32))
  else (some (1 : Int32)))
  else (if (v7 - v13) = (1 : Int32) then (some (1 : Int32))
  else (some (0 : Int32))))
noncomputable def F_X8_isStopped_16 (n : Nat) (a0 : Nat) (x1 : Int32) (x2 : Int32) (s0 : Int32) (s1 : Int32) (h : jH) : Option Int32 :=
  if s0 = s1 then (some (1 : Int32))
  else ((jgI 6 h a0 6).bind fun v22 =>
  if ((jushr v22 x1) &&& (1 : Int32)) = (1 : Int32) then ((jgR 6 h a0 0).bind fun p34 =>
  (jal 0 h p34 x1).bind fun v38 =>
  if x2 = 0 then ((jgI 6 h a0 11).bind fun v53 =>
  if v38 = v53 then (some (1 : Int32))
  else (some (0 : Int32)))
  else ((jgI 6 h a0 11).bind fun v44 =>
  if v38 = (v44 - (1 : Int32)) then (some (1 : Int32))
  else (some (0 : Int32))))
  else (some (0 : Int32)))
noncomputable def F_X8_isStopped (n : Nat) (a0 : Nat) (x1 : Int32) (x2 : Int32) (h : jH) : Option Int32 :=
  (jgR 6 h a0 0).bind fun p1 =>
  (jal 0 h p1 x1).bind fun v5 =>
  if x2 = 0 then (F_X8_isStopped_16 n a0 x1 x2 v5 (0 : Int32) h)
  else (F_X8_isStopped_16 n a0 x1 x2 v5 (31 : Int32) h)
noncomputable def F_X8_goers_64_b (n : Nat) (rc64 : Nat → Int32 → Int32 → Int32 → Int32 → jH → Option Int32) (a0 : Nat) (x2 : Int32) (x3 : Int32) (x4 : Int32) (x5 : Int32) (h : jH) : Option Int32 :=
  if x4 < x5 then (some (((1 : Int32) <<< ((x4 + (1 : Int32)) &&& 31)) - ((1 : Int32) <<< (x3 &&& 31))))
  else ((jcv 6 h a0 (F_X8_isStopped n a0 x5 x2 h)).bind fun v75 =>
  if v75 = 0 then (rc64 a0 x2 x3 x4 (x5 + (1 : Int32)) h)
  else (some (0 : Int32)))
noncomputable def F_X8_goers_64 (n : Nat) : Nat → Nat → Int32 → Int32 → Int32 → Int32 → jH → Option Int32
  | 0 => fun _ _ _ _ _ _ => none
  | k + 1 => F_X8_goers_64_b n (F_X8_goers_64 n k)
noncomputable def F_X8_goers_49 (n : Nat) (rc32 : Nat → Int32 → Int32 → Int32 → jH → Option Int32) (a0 : Nat) (x2 : Int32) (x3 : Int32) (x4 : Int32) (sa0 : Nat) (s1 : Int32) (s2 : Int32) (h : jH) : Option Int32 :=
  (jcv 6 h sa0 (F_X8_goTogether n sa0 s1 s2 h)).bind fun v49 =>
  if v49 = 0 then (F_X8_goers_64 n n a0 x2 x3 x4 x3 h)
  else (rc32 a0 x2 (x3 + (-1 : Int32)) x4 h)
noncomputable def F_X8_goers_32_b (n : Nat) (rc32 : Nat → Int32 → Int32 → Int32 → jH → Option Int32) (a0 : Nat) (x2 : Int32) (x3 : Int32) (x4 : Int32) (h : jH) : Option Int32 :=
  if x3 ≤ 0 then (F_X8_goers_64 n n a0 x2 x3 x4 x3 h)
  else (if x2 = 0 then (F_X8_goers_49 n rc32 a0 x2 x3 x4 a0 (x3 - (1 : Int32)) (1 : Int32) h)
  else (F_X8_goers_49 n rc32 a0 x2 x3 x4 a0 (x3 - (1 : Int32)) (0 : Int32) h))
noncomputable def F_X8_goers_32 (n : Nat) : Nat → Nat → Int32 → Int32 → Int32 → jH → Option Int32
  | 0 => fun _ _ _ _ _ => none
  | k + 1 => F_X8_goers_32_b n (F_X8_goers_32 n k)
noncomputable def F_X8_goers_5_b (n : Nat) (rc5 : Nat → Int32 → Int32 → Int32 → jH → Option Int32) (a0 : Nat) (x2 : Int32) (x3 : Int32) (x4 : Int32) (h : jH) : Option Int32 :=
  (jgI 6 h a0 5).bind fun v10 =>
  if v10 ≤ (x4 + (1 : Int32)) then (F_X8_goers_32 n n a0 x2 x3 x4 h)
  else ((jcv 6 h a0 (F_X8_goTogether n a0 x4 x2 h)).bind fun v20 =>
  if v20 = 0 then (F_X8_goers_32 n n a0 x2 x3 x4 h)
  else (rc5 a0 x2 x3 (x4 + (1 : Int32)) h))
noncomputable def F_X8_goers_5 (n : Nat) : Nat → Nat → Int32 → Int32 → Int32 → jH → Option Int32
  | 0 => fun _ _ _ _ _ => none
  | k + 1 => F_X8_goers_5_b n (F_X8_goers_5 n k)
noncomputable def F_X8_goers (n : Nat) (a0 : Nat) (x1 : Int32) (x2 : Int32) (h : jH) : Option Int32 :=
  F_X8_goers_5 n n a0 x2 x1 x1 h
noncomputable def F_X11_bit (n : Nat) (x0 : Int32) (x1 : Int32) (h : jH) : Option Int32 :=
  some ((jushr x0 x1) &&& (1 : Int32))
noncomputable def F_J6_bitCount_0f7a4 (n : Nat) (x0 : Int32) (h : jH) : Option Int32 :=
  some ((((((((x0 - ((jushr x0 (1 : Int32)) &&& (1431655765 : Int32))) &&& (858993459 : Int32)) + ((jushr (x0 - ((jushr x0 (1 : Int32)) &&& (1431655765 : Int32))) (2 : Int32)) &&& (858993459 : Int32))) + (jushr (((x0 - ((jushr x0 (1 : Int32)) &&& (1431655765 : Int32))) &&& (858993459 : Int32)) + ((jushr (x0 - ((jushr x0 (1 : Int32)) &&& (1431655765 : Int32))) (2 : Int32)) &&& (858993459 : Int32))) (4 : Int32))) &&& (252645135 : Int32)) + (jushr (((((x0 - ((jushr x0 (1 : Int32)) &&& (1431655765 : Int32))) &&& (858993459 : Int32)) + ((jushr (x0 - ((jushr x0 (1 : Int32)) &&& (1431655765 : Int32))) (2 : Int32)) &&& (858993459 : Int32))) + (jushr (((x0 - ((jushr x0 (1 : Int32)) &&& (1431655765 : Int32))) &&& (858993459 : Int32)) + ((jushr (x0 - ((jushr x0 (1 : Int32)) &&& (1431655765 : Int32))) (2 : Int32)) &&& (858993459 : Int32))) (4 : Int32))) &&& (252645135 : Int32)) (8 : Int32))) + (jushr ((((((x0 - ((jushr x0 (1 : Int32)) &&& (1431655765 : Int32))) &&& (858993459 : Int32)) + ((jushr (x0 - ((jushr x0 (1 : Int32)) &&& (1431655765 : Int32))) (2 : Int32)) &&& (858993459 : Int32))) + (jushr (((x0 - ((jushr x0 (1 : Int32)) &&& (1431655765 : Int32))) &&& (858993459 : Int32)) + ((jushr (x0 - ((jushr x0 (1 : Int32)) &&& (1431655765 : Int32))) (2 : Int32)) &&& (858993459 : Int32))) (4 : Int32))) &&& (252645135 : Int32)) + (jushr (((((x0 - ((jushr x0 (1 : Int32)) &&& (1431655765 : Int32))) &&& (858993459 : Int32)) + ((jushr (x0 - ((jushr x0 (1 : Int32)) &&& (1431655765 : Int32))) (2 : Int32)) &&& (858993459 : Int32))) + (jushr (((x0 - ((jushr x0 (1 : Int32)) &&& (1431655765 : Int32))) &&& (858993459 : Int32)) + ((jushr (x0 - ((jushr x0 (1 : Int32)) &&& (1431655765 : Int32))) (2 : Int32)) &&& (858993459 : Int32))) (4 : Int32))) &&& (252645135 : Int32)) (8 : Int32))) (16 : Int32))) &&& (63 : Int32))
noncomputable def F_X8_move_28_b (n : Nat) (rc3 : Nat → Int32 → Int32 → Int32 → Int32 → jH → Option (Int32 × jH)) (rc28 : Nat → Int32 → Int32 → Int32 → Int32 → Int32 → Int32 → jH → Option (Int32 × jH)) (a0 : Nat) (x1 : Int32) (x2 : Int32) (x3 : Int32) (x4 : Int32) (x5 : Int32) (x6 : Int32) (h : jH) : Option (Int32 × jH) :=
  (jgI 6 h a0 5).bind fun v31 =>
  if v31 ≤ x6 then ((jgI 6 h a0 15).bind fun v78 =>
  (jgI 6 h a0 7).bind fun v84 =>
  (F_J6_bitCount_0f7a4 n (x5 &&& (v84 ^^^ (-1 : Int32))) h).bind fun v90 =>
  (jpf 6 h a0 15 (.int (if (v78 + v90) < (9999 : Int32) then v78 + v90 else (9999 : Int32)))).bind fun h97 =>
  rc3 a0 x1 x2 x3 (x4 + (1 : Int32)) h97)
  else ((F_X11_bit n x5 x6 h).bind fun v41 =>
  if v41 = (1 : Int32) then ((jgR 6 h a0 0).bind fun p49 =>
  (jal 0 h p49 x6).bind fun v55 =>
  if x2 = 0 then ((jas 0 h p49 x6 (v55 + (-1 : Int32))).bind fun h66 =>
  rc28 a0 x1 x2 x3 x4 x5 (x6 + (1 : Int32)) h66)
  else ((jas 0 h p49 x6 (v55 + (1 : Int32))).bind fun h66 =>
  rc28 a0 x1 x2 x3 x4 x5 (x6 + (1 : Int32)) h66))
  else (rc28 a0 x1 x2 x3 x4 x5 (x6 + (1 : Int32)) h))
noncomputable def F_X8_move_28 (n : Nat) (rc3 : Nat → Int32 → Int32 → Int32 → Int32 → jH → Option (Int32 × jH)) : Nat → Nat → Int32 → Int32 → Int32 → Int32 → Int32 → Int32 → jH → Option (Int32 × jH)
  | 0 => fun _ _ _ _ _ _ _ _ => none
  | k + 1 => F_X8_move_28_b n rc3 (F_X8_move_28 n rc3 k)
noncomputable def F_X8_move_3_b (n : Nat) (rc3 : Nat → Int32 → Int32 → Int32 → Int32 → jH → Option (Int32 × jH)) (a0 : Nat) (x1 : Int32) (x2 : Int32) (x3 : Int32) (x4 : Int32) (h : jH) : Option (Int32 × jH) :=
  if x3 ≤ x4 then (some (x3, h))
  else ((jcv 6 h a0 (F_X8_goers n a0 x1 x2 h)).bind fun v12 =>
  if v12 = 0 then (some (x4, h))
  else (F_X8_move_28 n rc3 n a0 x1 x2 x3 x4 v12 (0 : Int32) h))
noncomputable def F_X8_move_3 (n : Nat) : Nat → Nat → Int32 → Int32 → Int32 → Int32 → jH → Option (Int32 × jH)
  | 0 => fun _ _ _ _ _ _ => none
  | k + 1 => F_X8_move_3_b n (F_X8_move_3 n k)
noncomputable def F_X8_move (n : Nat) (a0 : Nat) (x1 : Int32) (x2 : Int32) (x3 : Int32) (h : jH) : Option (Int32 × jH) :=
  F_X8_move_3 n n a0 x1 x2 x3 (0 : Int32) h
noncomputable def F_X11_requireRing (n : Nat) (a0 : Nat) (x1 : Int32) (h : jH) : Option (jR × jH) :=
  if x1 < 0 then (some (.inr 2, h))
  else ((jgR 9 h a0 1).bind fun p6 =>
  (jgI 6 h p6 5).bind fun v9 =>
  if x1 < v9 then (some (.inl 0, h))
  else (some (.inr 2, h)))
