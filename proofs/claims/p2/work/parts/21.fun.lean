noncomputable def F_X8_goTogether (n : Nat) (a0 : Nat) (x1 : Int32) (x2 : Int32) (h : jH) : Option Int32 :=
  (jgR 6 h a0 0).bind fun p1 =>
  (jal 0 h p1 (x1 + (1 : Int32))).bind fun v7 =>
  (jgR 6 h a0 0).bind fun p9 =>
  (jal 0 h p9 x1).bind fun v13 =>
  (jgI 6 h a0 9).bind fun v17 =>
  if ((jushr v17 x1) &&& (1 : Int32)) = (1 : Int32) then (some (1 : Int32))
  else (if x2 = 0 then ((jgR 6 h a0 1).bind fun p44 =>
  (jal 0 h p44 x1).bind fun v48 =>
  if ((v7 - v13) + (1 : Int32)) ≤ v48 then (some (0 : Int32))
  else (some (1 : Int32)))
  else (if (v7 - v13) = (1 : Int32) then (some (1 : Int32))
  else (some (0 : Int32))))
noncomputable def F_X8_isStopped_16 (n : Nat) (a0 : Nat) (x1 : Int32) (x2 : Int32) (s0 : Int32) (s1 : Int32) (h : jH) : Option Int32 :=
  if s0 = s1 then (some (1 : Int32))
  else ((jgI 6 h a0 6).bind fun v22 =>
  if ((jushr v22 x1) &&& (1 : Int32)) = (1 : Int32) then ((jgR 6 h a0 0).bind fun p34 =>
  (jal 0 h p34 x1).bind fun v38 =>
  if x2 = 0 then ((jgI 6 h a0 11).bind fun v53 =>
  if v38 = v53 then (some (1 : Int32))
  else (some (0 : Int32)))
  else ((jgI 6 h a0 11).bind fun v44 =>
  if v38 = (v44 - (1 : Int32)) then (some (1 : Int32))
  else (some (0 : Int32))))
  else (some (0 : Int32)))
noncomputable def F_X8_isStopped (n : Nat) (a0 : Nat) (x1 : Int32) (x2 : Int32) (h : jH) : Option Int32 :=
  (jgR 6 h a0 0).bind fun p1 =>
  (jal 0 h p1 x1).bind fun v5 =>
  if x2 = 0 then (F_X8_isStopped_16 n a0 x1 x2 v5 (0 : Int32) h)
  else (F_X8_isStopped_16 n a0 x1 x2 v5 (31 : Int32) h)
noncomputable def F_X8_goers_64_b (n : Nat) (rc64 : Nat → Int32 → Int32 → Int32 → Int32 → jH → Option Int32) (a0 : Nat) (x2 : Int32) (x3 : Int32) (x4 : Int32) (x5 : Int32) (h : jH) : Option Int32 :=
  if x4 < x5 then (some (((1 : Int32) <<< ((x4 + (1 : Int32)) &&& 31)) - ((1 : Int32) <<< (x3 &&& 31))))
  else ((jcv 6 h a0 (F_X8_isStopped n a0 x5 x2 h)).bind fun v75 =>
  if v75 = 0 then (rc64 a0 x2 x3 x4 (x5 + (1 : Int32)) h)
  else (some (0 : Int32)))
noncomputable def F_X8_goers_64 (n : Nat) : Nat → Nat → Int32 → Int32 → Int32 → Int32 → jH → Option Int32
  | 0 => fun _ _ _ _ _ _ => none
  | k + 1 => F_X8_goers_64_b n (F_X8_goers_64 n k)
noncomputable def F_X8_goers_49 (n : Nat) (rc32 : Nat → Int32 → Int32 → Int32 → jH → Option Int32) (a0 : Nat) (x2 : Int32) (x3 : Int32) (x4 : Int32) (sa0 : Nat) (s1 : Int32) (s2 : Int32) (h : jH) : Option Int32 :=
  (jcv 6 h sa0 (F_X8_goTogether n sa0 s1 s2 h)).bind fun v49 =>
  if v49 = 0 then (F_X8_goers_64 n n a0 x2 x3 x4 x3 h)
  else (rc32 a0 x2 (x3 + (-1 : Int32)) x4 h)
noncomputable def F_X8_goers_32_b (n : Nat) (rc32 : Nat → Int32 → Int32 → Int32 → jH → Option Int32) (a0 : Nat) (x2 : Int32) (x3 : Int32) (x4 : Int32) (h : jH) : Option Int32 :=
  if x3 ≤ 0 then (F_X8_goers_64 n n a0 x2 x3 x4 x3 h)
  else (if x2 = 0 then (F_X8_goers_49 n rc32 a0 x2 x3 x4 a0 (x3 - (1 : Int32)) (1 : Int32) h)
  else (F_X8_goers_49 n rc32 a0 x2 x3 x4 a0 (x3 - (1 : Int32)) (0 : Int32) h))
noncomputable def F_X8_goers_32 (n : Nat) : Nat → Nat → Int32 → Int32 → Int32 → jH → Option Int32
  | 0 => fun _ _ _ _ _ => none
  | k + 1 => F_X8_goers_32_b n (F_X8_goers_32 n k)
noncomputable def F_X8_goers_5_b (n : Nat) (rc5 : Nat → Int32 → Int32 → Int32 → jH → Option Int32) (a0 : Nat) (x2 : Int32) (x3 : Int32) (x4 : Int32) (h : jH) : Option Int32 :=
  (jgI 6 h a0 5).bind fun v10 =>
  if v10 ≤ (x4 + (1 : Int32)) then (F_X8_goers_32 n n a0 x2 x3 x4 h)
  else ((jcv 6 h a0 (F_X8_goTogether n a0 x4 x2 h)).bind fun v20 =>
  if v20 = 0 then (F_X8_goers_32 n n a0 x2 x3 x4 h)
  else (rc5 a0 x2 x3 (x4 + (1 : Int32)) h))
noncomputable def F_X8_goers_5 (n : Nat) : Nat → Nat → Int32 → Int32 → Int32 → jH → Option Int32
  | 0 => fun _ _ _ _ _ => none
  | k + 1 => F_X8_goers_5_b n (F_X8_goers_5 n k)
noncomputable def F_X8_goers (n : Nat) (a0 : Nat) (x1 : Int32) (x2 : Int32) (h : jH) : Option Int32 :=
  F_X8_goers_5 n n a0 x2 x1 x1 h
