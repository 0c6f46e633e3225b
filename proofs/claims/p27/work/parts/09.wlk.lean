section
/-! tables of decoded rows by a walk over the code's bytes: what an instruction's bytes are -/
theorem u1_rn {ε : Type} [HasTruncated ε] (c : ByteArray) (p : Nat) : (Reader.u1 : Reader ε Nat).runAt c p = if h : p < c.size then .ok (c[p].toNat, p + 1) else .error (HasTruncated.truncated p) := by
  show (dite (p < c.size) (fun h => (do set (p + 1); Pure.pure c[p].toNat : Reader ε Nat)) (fun _ => throw (HasTruncated.truncated p))) c p = _
  by_cases h : p < c.size
  · rw [dif_pos h, dif_pos h]; rfl
  · rw [dif_neg h, dif_neg h]; rfl
abbrev wkR : Type := Option (Nat × List UInt8)
def wkb (l : List UInt8) (f : Nat → List UInt8 → wkR) : wkR := match l with
  | b :: r => f b.toNat r
  | [] => none
def wk0 (k : Nat) (l : List UInt8) : wkR := wkb l fun x r => bif Nat.beq x k then some (1, r) else none
def wk1 (k v : Nat) (l : List UInt8) : wkR := wkb l fun x r => bif Nat.beq x k then wkb r fun y r => bif Nat.beq y v then some (2, r) else none else none
def wk2 (k v : Nat) (l : List UInt8) : wkR := wkb l fun x r => bif Nat.beq x k then wkb r fun y r => wkb r fun z r => bif Nat.beq (y * 256 + z) v then some (3, r) else none else none
def wz1 (k : Nat) (v : Int) (l : List UInt8) : wkR := wkb l fun x r => bif Nat.beq x k then wkb r fun y r => bif decide (Reader.signed 8 y = v) then some (2, r) else none else none
def wz2 (k : Nat) (v : Int) (l : List UInt8) : wkR := wkb l fun x r => bif Nat.beq x k then wkb r fun y r => wkb r fun z r => bif decide (Reader.signed 16 (y * 256 + z) = v) then some (3, r) else none else none
def wki (k v : Nat) (w : Int) (l : List UInt8) : wkR := wkb l fun x r => bif Nat.beq x k then wkb r fun y r => bif Nat.beq y v then wkb r fun z r => bif decide (Reader.signed 8 z = w) then some (3, r) else none else none else none
theorem wkb_e {l : List UInt8} {f : Nat → List UInt8 → wkR} {w : Nat × List UInt8} (h : wkb l f = some w) : ∃ b s, l = b :: s ∧ f b.toNat s = some w := by
  cases l with
  | nil => cases h
  | cons b s => exact ⟨b, s, rfl, h⟩
theorem wif_e {x k : Nat} {o : wkR} {w : Nat × List UInt8} (h : (bif Nat.beq x k then o else none) = some w) : x = k ∧ o = some w := by
  cases e : Nat.beq x k with
  | false => rw [e] at h; cases h
  | true => rw [e] at h; exact ⟨Nat.eq_of_beq_eq_true e, h⟩
theorem wid_e {x k : Int} {o : wkR} {w : Nat × List UInt8} (h : (bif decide (x = k) then o else none) = some w) : x = k ∧ o = some w := by
  by_cases e : x = k
  · rw [decide_eq_true e] at h; exact ⟨e, h⟩
  · rw [decide_eq_false e] at h; cases h
theorem wu1 {c : ByteArray} {a : Nat} {b : UInt8} {r : List UInt8} (h : c.data.toList.drop a = b :: r) : (Reader.u1 : Decoder Nat).runAt c a = .ok (b.toNat, a + 1) ∧ c.data.toList.drop (a + 1) = r := by
  have h1 : a < c.data.toList.length := by
    rcases Nat.lt_or_ge a c.data.toList.length with q | q
    · exact q
    · rw [List.drop_eq_nil_of_le q] at h; cases h
  rw [List.drop_eq_getElem_cons h1] at h
  obtain ⟨h2, h3⟩ := List.cons.inj h
  refine ⟨?_, h3⟩
  rw [u1_rn, dif_pos (show a < c.size from h1)]
  exact congrArg (fun z : UInt8 => (Except.ok (z.toNat, a + 1) : Except DecodeError (Nat × Nat))) h2
theorem wbi {α β : Type} {m : Decoder α} {f : α → Decoder β} {c : ByteArray} {a p : Nat} {x : α} (h : m.runAt c a = .ok (x, p)) : (m >>= f).runAt c a = (f x).runAt c p := by
  show (m.runAt c a >>= fun v => (f v.1).runAt c v.2) = _
  rw [h]; rfl
theorem wmp {α β : Type} {m : Decoder α} {f : α → β} {c : ByteArray} {a p : Nat} {x : α} (h : m.runAt c a = .ok (x, p)) : (f <$> m).runAt c a = .ok (f x, p) := by
  show ((fun v : α × Nat => (f v.1, v.2)) <$> m.runAt c a) = _
  rw [h]; rfl
theorem wu2 {c : ByteArray} {a : Nat} {b d : UInt8} {r : List UInt8} (h : c.data.toList.drop a = b :: d :: r) : (Reader.u2 : Decoder Nat).runAt c a = .ok (b.toNat * 256 + d.toNat, a + 2) ∧ c.data.toList.drop (a + 2) = r := by
  obtain ⟨e1, h1⟩ := wu1 h
  obtain ⟨e2, h2⟩ := wu1 h1
  refine ⟨?_, h2⟩
  show ((Reader.u1 >>= fun x => Reader.u1 >>= fun y => Pure.pure (x * 256 + y) : Decoder Nat)).runAt c a = _
  rw [wbi e1, wbi e2]; rfl
abbrev wkG (c : ByteArray) (a : Nat) (i : Instr) (n : Nat) (r : List UInt8) : Prop := (Decoder.instr a).runAt c a = .ok (i, a + n) ∧ c.data.toList.drop (a + n) = r
theorem wp0 {c : ByteArray} {a n k : Nat} {i : Instr} {r : List UInt8} {f : Nat → Decoder Instr} (hf : Decoder.instr a = Reader.u1 >>= f) (hk : f k = Pure.pure i) (h : wk0 k (c.data.toList.drop a) = some (n, r)) : wkG c a i n r := by
  obtain ⟨b, s, h1, h2⟩ := wkb_e h
  obtain ⟨h3, h4⟩ := wif_e h2
  cases h4
  obtain ⟨e1, h5⟩ := wu1 h1
  refine ⟨?_, h5⟩
  rw [hf, wbi e1, h3, hk]; rfl
theorem wp1 {c : ByteArray} {a n k v : Nat} {i : Instr} {r : List UInt8} {f g : Nat → Decoder Instr} (hf : Decoder.instr a = Reader.u1 >>= f) (hk : f k = Reader.u1 >>= g) (hg : g v = Pure.pure i) (h : wk1 k v (c.data.toList.drop a) = some (n, r)) : wkG c a i n r := by
  obtain ⟨b, s, h1, h2⟩ := wkb_e h
  obtain ⟨h3, h4⟩ := wif_e h2
  obtain ⟨d, s2, h5, h6⟩ := wkb_e h4
  obtain ⟨h7, h8⟩ := wif_e h6
  cases h8
  subst h5
  obtain ⟨e1, h9⟩ := wu1 h1
  obtain ⟨e2, h10⟩ := wu1 h9
  refine ⟨?_, h10⟩
  rw [hf, wbi e1, h3, hk, wbi e2, h7, hg]; rfl
theorem wp2 {c : ByteArray} {a n k v : Nat} {i : Instr} {r : List UInt8} {f g : Nat → Decoder Instr} (hf : Decoder.instr a = Reader.u1 >>= f) (hk : f k = Reader.u2 >>= g) (hg : g v = Pure.pure i) (h : wk2 k v (c.data.toList.drop a) = some (n, r)) : wkG c a i n r := by
  obtain ⟨b, s, h1, h2⟩ := wkb_e h
  obtain ⟨h3, h4⟩ := wif_e h2
  obtain ⟨d, s2, h5, h6⟩ := wkb_e h4
  obtain ⟨d2, s3, h5b, h6b⟩ := wkb_e h6
  obtain ⟨h7, h8⟩ := wif_e h6b
  cases h8
  subst h5
  subst h5b
  obtain ⟨e1, h9⟩ := wu1 h1
  obtain ⟨e2, h10⟩ := wu2 h9
  refine ⟨?_, h10⟩
  rw [hf, wbi e1, h3, hk, wbi e2, h7, hg]; rfl
theorem wq1 {c : ByteArray} {a n k : Nat} {v : Int} {i : Instr} {r : List UInt8} {f : Nat → Decoder Instr} {g : Int → Decoder Instr} (hf : Decoder.instr a = Reader.u1 >>= f) (hk : f k = Reader.s1 >>= g) (hg : g v = Pure.pure i) (h : wz1 k v (c.data.toList.drop a) = some (n, r)) : wkG c a i n r := by
  obtain ⟨b, s, h1, h2⟩ := wkb_e h
  obtain ⟨h3, h4⟩ := wif_e h2
  obtain ⟨d, s2, h5, h6⟩ := wkb_e h4
  obtain ⟨h7, h8⟩ := wid_e h6
  cases h8
  subst h5
  obtain ⟨e1, h9⟩ := wu1 h1
  obtain ⟨e2, h10⟩ := wu1 h9
  refine ⟨?_, h10⟩
  rw [hf, wbi e1, h3, hk, wbi (show (Reader.s1 : Decoder Int).runAt c (a + 1) = .ok (Reader.signed 8 d.toNat, a + 1 + 1) from wmp e2), h7, hg]; rfl
theorem wq2 {c : ByteArray} {a n k : Nat} {v : Int} {i : Instr} {r : List UInt8} {f : Nat → Decoder Instr} {g : Int → Decoder Instr} (hf : Decoder.instr a = Reader.u1 >>= f) (hk : f k = Reader.s2 >>= g) (hg : g v = Pure.pure i) (h : wz2 k v (c.data.toList.drop a) = some (n, r)) : wkG c a i n r := by
  obtain ⟨b, s, h1, h2⟩ := wkb_e h
  obtain ⟨h3, h4⟩ := wif_e h2
  obtain ⟨d, s2, h5, h6⟩ := wkb_e h4
  obtain ⟨d2, s3, h5b, h6b⟩ := wkb_e h6
  obtain ⟨h7, h8⟩ := wid_e h6b
  cases h8
  subst h5
  subst h5b
  obtain ⟨e1, h9⟩ := wu1 h1
  obtain ⟨e2, h10⟩ := wu2 h9
  refine ⟨?_, h10⟩
  rw [hf, wbi e1, h3, hk, wbi (show (Reader.s2 : Decoder Int).runAt c (a + 1) = .ok (Reader.signed 16 (d.toNat * 256 + d2.toNat), a + 1 + 2) from wmp e2), h7, hg]; rfl
theorem wqi {c : ByteArray} {a n k v : Nat} {w : Int} {i : Instr} {r : List UInt8} {f g : Nat → Decoder Instr} {g2 : Int → Decoder Instr} (hf : Decoder.instr a = Reader.u1 >>= f) (hk : f k = Reader.u1 >>= g) (hg : g v = Reader.s1 >>= g2) (hg2 : g2 w = Pure.pure i) (h : wki k v w (c.data.toList.drop a) = some (n, r)) : wkG c a i n r := by
  obtain ⟨b, s, h1, h2⟩ := wkb_e h
  obtain ⟨h3, h4⟩ := wif_e h2
  obtain ⟨d, s2, h5, h6⟩ := wkb_e h4
  obtain ⟨h7, h8⟩ := wif_e h6
  obtain ⟨d2, s3, h5b, h6b⟩ := wkb_e h8
  obtain ⟨h7b, h8b⟩ := wid_e h6b
  cases h8b
  subst h5
  subst h5b
  obtain ⟨e1, h9⟩ := wu1 h1
  obtain ⟨e2, h10⟩ := wu1 h9
  obtain ⟨e3, h11⟩ := wu1 h10
  refine ⟨?_, h11⟩
  rw [hf, wbi e1, h3, hk, wbi e2, h7, hg, wbi (show (Reader.s1 : Decoder Int).runAt c (a + 1 + 1) = .ok (Reader.signed 8 d2.toNat, a + 1 + 1 + 1) from wmp e3), h7b, hg2]; rfl
def wkI (i : Instr) (l : List UInt8) : wkR := match i with
  | .iaload => wk0 46 l
  | .laload => wk0 47 l
  | .aaload => wk0 50 l
  | .baload => wk0 51 l
  | .iastore => wk0 79 l
  | .lastore => wk0 80 l
  | .aastore => wk0 83 l
  | .bastore => wk0 84 l
  | .pop => wk0 87 l
  | .dup => wk0 89 l
  | .dup2 => wk0 92 l
  | .iadd => wk0 96 l
  | .isub => wk0 100 l
  | .imul => wk0 104 l
  | .idiv => wk0 108 l
  | .irem => wk0 112 l
  | .ineg => wk0 116 l
  | .ishl => wk0 120 l
  | .ishr => wk0 122 l
  | .iushr => wk0 124 l
  | .iand => wk0 126 l
  | .ior => wk0 128 l
  | .ixor => wk0 130 l
  | .i2l => wk0 133 l
  | .i2b => wk0 145 l
  | .i2c => wk0 146 l
  | .lcmp => wk0 148 l
  | .ireturn => wk0 172 l
  | .return_ => wk0 177 l
  | .arraylength => wk0 190 l
  | .athrow => wk0 191 l
  | .bipush x => wz1 16 x l
  | .sipush x => wz2 17 x l
  | .ldc x => wk1 18 x l
  | .ldc_w x => wk2 19 x l
  | .iload x => wk1 21 x l
  | .aload x => wk1 25 x l
  | .istore x => wk1 54 x l
  | .astore x => wk1 58 x l
  | .iinc x y => wki 132 x y l
  | .goto x => wz2 167 x l
  | .getstatic x => wk2 178 x l
  | .getfield x => wk2 180 x l
  | .putfield x => wk2 181 x l
  | .invokevirtual x => wk2 182 x l
  | .invokespecial x => wk2 183 x l
  | .invokestatic x => wk2 184 x l
  | .new x => wk2 187 x l
  | .anewarray x => wk2 189 x l
  | .ifnull x => wz2 198 x l
  | .ifnonnull x => wz2 199 x l
  | .lconst x => wk0 (9 + x.val) l
  | .iload_n x => wk0 (26 + x.val) l
  | .aload_n x => wk0 (42 + x.val) l
  | .istore_n x => wk0 (59 + x.val) l
  | .astore_n x => wk0 (75 + x.val) l
  | .iconst x => bif decide ((-1 : Int) ≤ x) && decide (x ≤ 5) then wk0 (x + 3).toNat l else none
  | .ifCond q x => match q with
    | .eq => wz2 153 x l
    | .ne => wz2 154 x l
    | .lt => wz2 155 x l
    | .ge => wz2 156 x l
    | .gt => wz2 157 x l
    | .le => wz2 158 x l
  | .if_icmp q x => match q with
    | .eq => wz2 159 x l
    | .ne => wz2 160 x l
    | .lt => wz2 161 x l
    | .ge => wz2 162 x l
    | .gt => wz2 163 x l
    | .le => wz2 164 x l
  | .newarray t => match t with
    | .boolean => wk1 188 4 l
    | .char => wk1 188 5 l
    | .float => wk1 188 6 l
    | .double => wk1 188 7 l
    | .byte => wk1 188 8 l
    | .short => wk1 188 9 l
    | .int => wk1 188 10 l
    | .long => wk1 188 11 l
  | _ => none
theorem wkI_ok {c : ByteArray} {a n : Nat} {r : List UInt8} {i : Instr} (h : wkI i (c.data.toList.drop a) = some (n, r)) : wkG c a i n r := by
  cases i with
  | iaload => exact wp0 (k := 46) rfl rfl h
  | laload => exact wp0 (k := 47) rfl rfl h
  | aaload => exact wp0 (k := 50) rfl rfl h
  | baload => exact wp0 (k := 51) rfl rfl h
  | iastore => exact wp0 (k := 79) rfl rfl h
  | lastore => exact wp0 (k := 80) rfl rfl h
  | aastore => exact wp0 (k := 83) rfl rfl h
  | bastore => exact wp0 (k := 84) rfl rfl h
  | pop => exact wp0 (k := 87) rfl rfl h
  | dup => exact wp0 (k := 89) rfl rfl h
  | dup2 => exact wp0 (k := 92) rfl rfl h
  | iadd => exact wp0 (k := 96) rfl rfl h
  | isub => exact wp0 (k := 100) rfl rfl h
  | imul => exact wp0 (k := 104) rfl rfl h
  | idiv => exact wp0 (k := 108) rfl rfl h
  | irem => exact wp0 (k := 112) rfl rfl h
  | ineg => exact wp0 (k := 116) rfl rfl h
  | ishl => exact wp0 (k := 120) rfl rfl h
  | ishr => exact wp0 (k := 122) rfl rfl h
  | iushr => exact wp0 (k := 124) rfl rfl h
  | iand => exact wp0 (k := 126) rfl rfl h
  | ior => exact wp0 (k := 128) rfl rfl h
  | ixor => exact wp0 (k := 130) rfl rfl h
  | i2l => exact wp0 (k := 133) rfl rfl h
  | i2b => exact wp0 (k := 145) rfl rfl h
  | i2c => exact wp0 (k := 146) rfl rfl h
  | lcmp => exact wp0 (k := 148) rfl rfl h
  | ireturn => exact wp0 (k := 172) rfl rfl h
  | return_ => exact wp0 (k := 177) rfl rfl h
  | arraylength => exact wp0 (k := 190) rfl rfl h
  | athrow => exact wp0 (k := 191) rfl rfl h
  | bipush x => exact wq1 (k := 16) rfl rfl rfl h
  | sipush x => exact wq2 (k := 17) rfl rfl rfl h
  | ldc x => exact wp1 (k := 18) rfl rfl rfl h
  | ldc_w x => exact wp2 (k := 19) rfl rfl rfl h
  | iload x => exact wp1 (k := 21) rfl rfl rfl h
  | aload x => exact wp1 (k := 25) rfl rfl rfl h
  | istore x => exact wp1 (k := 54) rfl rfl rfl h
  | astore x => exact wp1 (k := 58) rfl rfl rfl h
  | iinc x y => exact wqi (k := 132) rfl rfl rfl rfl h
  | goto x => exact wq2 (k := 167) rfl rfl rfl h
  | getstatic x => exact wp2 (k := 178) rfl rfl rfl h
  | getfield x => exact wp2 (k := 180) rfl rfl rfl h
  | putfield x => exact wp2 (k := 181) rfl rfl rfl h
  | invokevirtual x => exact wp2 (k := 182) rfl rfl rfl h
  | invokespecial x => exact wp2 (k := 183) rfl rfl rfl h
  | invokestatic x => exact wp2 (k := 184) rfl rfl rfl h
  | new x => exact wp2 (k := 187) rfl rfl rfl h
  | anewarray x => exact wp2 (k := 189) rfl rfl rfl h
  | ifnull x => exact wq2 (k := 198) rfl rfl rfl h
  | ifnonnull x => exact wq2 (k := 199) rfl rfl rfl h
  | lconst x =>
    obtain ⟨x, hx⟩ := x
    rcases (show x = 0 ∨ x = 1 by omega) with rfl | rfl
    · exact wp0 (k := 9) rfl rfl h
    · exact wp0 (k := 10) rfl rfl h
  | iload_n x =>
    obtain ⟨x, hx⟩ := x
    rcases (show x = 0 ∨ x = 1 ∨ x = 2 ∨ x = 3 by omega) with rfl | rfl | rfl | rfl
    · exact wp0 (k := 26) rfl rfl h
    · exact wp0 (k := 27) rfl rfl h
    · exact wp0 (k := 28) rfl rfl h
    · exact wp0 (k := 29) rfl rfl h
  | aload_n x =>
    obtain ⟨x, hx⟩ := x
    rcases (show x = 0 ∨ x = 1 ∨ x = 2 ∨ x = 3 by omega) with rfl | rfl | rfl | rfl
    · exact wp0 (k := 42) rfl rfl h
    · exact wp0 (k := 43) rfl rfl h
    · exact wp0 (k := 44) rfl rfl h
    · exact wp0 (k := 45) rfl rfl h
  | istore_n x =>
    obtain ⟨x, hx⟩ := x
    rcases (show x = 0 ∨ x = 1 ∨ x = 2 ∨ x = 3 by omega) with rfl | rfl | rfl | rfl
    · exact wp0 (k := 59) rfl rfl h
    · exact wp0 (k := 60) rfl rfl h
    · exact wp0 (k := 61) rfl rfl h
    · exact wp0 (k := 62) rfl rfl h
  | astore_n x =>
    obtain ⟨x, hx⟩ := x
    rcases (show x = 0 ∨ x = 1 ∨ x = 2 ∨ x = 3 by omega) with rfl | rfl | rfl | rfl
    · exact wp0 (k := 75) rfl rfl h
    · exact wp0 (k := 76) rfl rfl h
    · exact wp0 (k := 77) rfl rfl h
    · exact wp0 (k := 78) rfl rfl h
  | iconst x =>
    replace h : (bif decide ((-1 : Int) ≤ x) && decide (x ≤ 5) then wk0 (x + 3).toNat (c.data.toList.drop a) else none) = some (n, r) := h
    by_cases h1 : (-1 : Int) ≤ x
    · by_cases h2 : x ≤ 5
      · rw [decide_eq_true h1, decide_eq_true h2] at h
        rcases (show x = -1 ∨ x = 0 ∨ x = 1 ∨ x = 2 ∨ x = 3 ∨ x = 4 ∨ x = 5 by omega) with rfl | rfl | rfl | rfl | rfl | rfl | rfl
        · exact wp0 (k := 2) rfl rfl h
        · exact wp0 (k := 3) rfl rfl h
        · exact wp0 (k := 4) rfl rfl h
        · exact wp0 (k := 5) rfl rfl h
        · exact wp0 (k := 6) rfl rfl h
        · exact wp0 (k := 7) rfl rfl h
        · exact wp0 (k := 8) rfl rfl h
      · rw [decide_eq_true h1, decide_eq_false h2] at h; cases h
    · rw [decide_eq_false h1] at h; cases h
  | ifCond q x =>
    cases q with
    | eq => exact wq2 (k := 153) rfl rfl rfl h
    | ne => exact wq2 (k := 154) rfl rfl rfl h
    | lt => exact wq2 (k := 155) rfl rfl rfl h
    | ge => exact wq2 (k := 156) rfl rfl rfl h
    | gt => exact wq2 (k := 157) rfl rfl rfl h
    | le => exact wq2 (k := 158) rfl rfl rfl h
  | if_icmp q x =>
    cases q with
    | eq => exact wq2 (k := 159) rfl rfl rfl h
    | ne => exact wq2 (k := 160) rfl rfl rfl h
    | lt => exact wq2 (k := 161) rfl rfl rfl h
    | ge => exact wq2 (k := 162) rfl rfl rfl h
    | gt => exact wq2 (k := 163) rfl rfl rfl h
    | le => exact wq2 (k := 164) rfl rfl rfl h
  | newarray t =>
    cases t with
    | boolean => exact wp1 (k := 188) (v := 4) rfl rfl rfl h
    | char => exact wp1 (k := 188) (v := 5) rfl rfl rfl h
    | float => exact wp1 (k := 188) (v := 6) rfl rfl rfl h
    | double => exact wp1 (k := 188) (v := 7) rfl rfl rfl h
    | byte => exact wp1 (k := 188) (v := 8) rfl rfl rfl h
    | short => exact wp1 (k := 188) (v := 9) rfl rfl rfl h
    | int => exact wp1 (k := 188) (v := 10) rfl rfl rfl h
    | long => exact wp1 (k := 188) (v := 11) rfl rfl rfl h
  | _ => cases (show (none : wkR) = some (n, r) from h)
def wk : List (Nat × Instr × Nat) → List UInt8 → Nat → Bool
  | [], _, _ => true
  | q :: t, l, a => match wkI q.2.1 l with
    | none => false
    | some w => Nat.beq q.1 a && (Nat.beq q.2.2 w.1 && wk t w.2 (a + w.1))
theorem dec_wk {c : ByteArray} : ∀ (T : List (Nat × Instr × Nat)) (a : Nat), wk T (c.data.toList.drop a) a = true → ∀ q ∈ T, decode c q.1 = .ok q.2 := by
  intro T
  induction T with
  | nil => intro a _ q hq; cases hq
  | cons q t ih =>
    intro a h z hz
    cases e : wkI q.2.1 (c.data.toList.drop a) with
    | none =>
      unfold wk at h
      rw [e] at h
      cases h
    | some w =>
      obtain ⟨n, r⟩ := w
      unfold wk at h
      rw [e] at h
      replace h : (Nat.beq q.1 a && (Nat.beq q.2.2 n && wk t r (a + n))) = true := h
      rw [Bool.and_eq_true, Bool.and_eq_true] at h
      obtain ⟨h1, h2, h3⟩ := h
      obtain ⟨e1, e2⟩ := wkI_ok e
      rw [← e2] at h3
      rcases List.mem_cons.mp hz with hz | hz
      · rw [hz, Nat.eq_of_beq_eq_true h1]
        show ((Decoder.instr a).runAt c a >>= fun v => Pure.pure (v.1, v.2 - a)) = .ok q.2
        rw [e1]
        show (Except.ok (q.2.1, a + n - a) : Except DecodeError (Instr × Nat)) = .ok q.2
        rw [show a + n - a = n by omega, ← Nat.eq_of_beq_eq_true h2]
      · exact ih (a + n) h3 z hz
theorem jw_1_0 {w : Cond} (j : Nat) (hj : tD_1_0[j]? = some w) (g : goodWord w = true) : w ∈ jall := jall_in (jin_1 (tE_1_0 (List.mem_of_getElem? hj))) g
theorem jn_1_0 {w : Cond} (j : Nat) (hj : tD_1_0[j]? = some w) (g : jnk w = true) : w ∈ jnest := List.mem_filter.mpr ⟨jin_1 (tE_1_0 (List.mem_of_getElem? hj)), g⟩
theorem jw_1_1 {w : Cond} (j : Nat) (hj : tD_1_1[j]? = some w) (g : goodWord w = true) : w ∈ jall := jall_in (jin_1 (tE_1_1 (List.mem_of_getElem? hj))) g
theorem jn_1_1 {w : Cond} (j : Nat) (hj : tD_1_1[j]? = some w) (g : jnk w = true) : w ∈ jnest := List.mem_filter.mpr ⟨jin_1 (tE_1_1 (List.mem_of_getElem? hj)), g⟩
theorem jw_1_2 {w : Cond} (j : Nat) (hj : tD_1_2[j]? = some w) (g : goodWord w = true) : w ∈ jall := jall_in (jin_1 (tE_1_2 (List.mem_of_getElem? hj))) g
theorem jn_1_2 {w : Cond} (j : Nat) (hj : tD_1_2[j]? = some w) (g : jnk w = true) : w ∈ jnest := List.mem_filter.mpr ⟨jin_1 (tE_1_2 (List.mem_of_getElem? hj)), g⟩
theorem jw_1_3 {w : Cond} (j : Nat) (hj : tD_1_3[j]? = some w) (g : goodWord w = true) : w ∈ jall := jall_in (jin_1 (tE_1_3 (List.mem_of_getElem? hj))) g
theorem jn_1_3 {w : Cond} (j : Nat) (hj : tD_1_3[j]? = some w) (g : jnk w = true) : w ∈ jnest := List.mem_filter.mpr ⟨jin_1 (tE_1_3 (List.mem_of_getElem? hj)), g⟩
theorem jw_1_4 {w : Cond} (j : Nat) (hj : tD_1_4[j]? = some w) (g : goodWord w = true) : w ∈ jall := jall_in (jin_1 (tE_1_4 (List.mem_of_getElem? hj))) g
theorem jn_1_4 {w : Cond} (j : Nat) (hj : tD_1_4[j]? = some w) (g : jnk w = true) : w ∈ jnest := List.mem_filter.mpr ⟨jin_1 (tE_1_4 (List.mem_of_getElem? hj)), g⟩
theorem jw_1_5 {w : Cond} (j : Nat) (hj : tD_1_5[j]? = some w) (g : goodWord w = true) : w ∈ jall := jall_in (jin_1 (tE_1_5 (List.mem_of_getElem? hj))) g
theorem jn_1_5 {w : Cond} (j : Nat) (hj : tD_1_5[j]? = some w) (g : jnk w = true) : w ∈ jnest := List.mem_filter.mpr ⟨jin_1 (tE_1_5 (List.mem_of_getElem? hj)), g⟩
theorem jw_1_6 {w : Cond} (j : Nat) (hj : tD_1_6[j]? = some w) (g : goodWord w = true) : w ∈ jall := jall_in (jin_1 (tE_1_6 (List.mem_of_getElem? hj))) g
theorem jn_1_6 {w : Cond} (j : Nat) (hj : tD_1_6[j]? = some w) (g : jnk w = true) : w ∈ jnest := List.mem_filter.mpr ⟨jin_1 (tE_1_6 (List.mem_of_getElem? hj)), g⟩
theorem jw_1_7 {w : Cond} (j : Nat) (hj : tD_1_7[j]? = some w) (g : goodWord w = true) : w ∈ jall := jall_in (jin_1 (tE_1_7 (List.mem_of_getElem? hj))) g
theorem jn_1_7 {w : Cond} (j : Nat) (hj : tD_1_7[j]? = some w) (g : jnk w = true) : w ∈ jnest := List.mem_filter.mpr ⟨jin_1 (tE_1_7 (List.mem_of_getElem? hj)), g⟩
theorem jw_1_8 {w : Cond} (j : Nat) (hj : tD_1_8[j]? = some w) (g : goodWord w = true) : w ∈ jall := jall_in (jin_1 (tE_1_8 (List.mem_of_getElem? hj))) g
theorem jn_1_8 {w : Cond} (j : Nat) (hj : tD_1_8[j]? = some w) (g : jnk w = true) : w ∈ jnest := List.mem_filter.mpr ⟨jin_1 (tE_1_8 (List.mem_of_getElem? hj)), g⟩
theorem jw_1_9 {w : Cond} (j : Nat) (hj : tD_1_9[j]? = some w) (g : goodWord w = true) : w ∈ jall := jall_in (jin_1 (tE_1_9 (List.mem_of_getElem? hj))) g
theorem jn_1_9 {w : Cond} (j : Nat) (hj : tD_1_9[j]? = some w) (g : jnk w = true) : w ∈ jnest := List.mem_filter.mpr ⟨jin_1 (tE_1_9 (List.mem_of_getElem? hj)), g⟩
theorem jw_1_10 {w : Cond} (j : Nat) (hj : tD_1_10[j]? = some w) (g : goodWord w = true) : w ∈ jall := jall_in (jin_1 (tE_1_10 (List.mem_of_getElem? hj))) g
theorem jn_1_10 {w : Cond} (j : Nat) (hj : tD_1_10[j]? = some w) (g : jnk w = true) : w ∈ jnest := List.mem_filter.mpr ⟨jin_1 (tE_1_10 (List.mem_of_getElem? hj)), g⟩
theorem jw_1_11 {w : Cond} (j : Nat) (hj : tD_1_11[j]? = some w) (g : goodWord w = true) : w ∈ jall := jall_in (jin_1 (tE_1_11 (List.mem_of_getElem? hj))) g
theorem jn_1_11 {w : Cond} (j : Nat) (hj : tD_1_11[j]? = some w) (g : jnk w = true) : w ∈ jnest := List.mem_filter.mpr ⟨jin_1 (tE_1_11 (List.mem_of_getElem? hj)), g⟩
theorem jw_1_12 {w : Cond} (j : Nat) (hj : tD_1_12[j]? = some w) (g : goodWord w = true) : w ∈ jall := jall_in (jin_1 (tE_1_12 (List.mem_of_getElem? hj))) g
theorem jn_1_12 {w : Cond} (j : Nat) (hj : tD_1_12[j]? = some w) (g : jnk w = true) : w ∈ jnest := List.mem_filter.mpr ⟨jin_1 (tE_1_12 (List.mem_of_getElem? hj)), g⟩
theorem jw_1_13 {w : Cond} (j : Nat) (hj : tD_1_13[j]? = some w) (g : goodWord w = true) : w ∈ jall := jall_in (jin_1 (tE_1_13 (List.mem_of_getElem? hj))) g
theorem jn_1_13 {w : Cond} (j : Nat) (hj : tD_1_13[j]? = some w) (g : jnk w = true) : w ∈ jnest := List.mem_filter.mpr ⟨jin_1 (tE_1_13 (List.mem_of_getElem? hj)), g⟩
theorem jw_1_14 {w : Cond} (j : Nat) (hj : tD_1_14[j]? = some w) (g : goodWord w = true) : w ∈ jall := jall_in (jin_1 (tE_1_14 (List.mem_of_getElem? hj))) g
theorem jn_1_14 {w : Cond} (j : Nat) (hj : tD_1_14[j]? = some w) (g : jnk w = true) : w ∈ jnest := List.mem_filter.mpr ⟨jin_1 (tE_1_14 (List.mem_of_getElem? hj)), g⟩
theorem jw_2_0 {w : Cond} (j : Nat) (hj : tD_2_0[j]? = some w) (g : goodWord w = true) : w ∈ jall := jall_in (jin_2 (tE_2_0 (List.mem_of_getElem? hj))) g
theorem jn_2_0 {w : Cond} (j : Nat) (hj : tD_2_0[j]? = some w) (g : jnk w = true) : w ∈ jnest := List.mem_filter.mpr ⟨jin_2 (tE_2_0 (List.mem_of_getElem? hj)), g⟩
theorem jw_2_1 {w : Cond} (j : Nat) (hj : tD_2_1[j]? = some w) (g : goodWord w = true) : w ∈ jall := jall_in (jin_2 (tE_2_1 (List.mem_of_getElem? hj))) g
theorem jn_2_1 {w : Cond} (j : Nat) (hj : tD_2_1[j]? = some w) (g : jnk w = true) : w ∈ jnest := List.mem_filter.mpr ⟨jin_2 (tE_2_1 (List.mem_of_getElem? hj)), g⟩
theorem jw_2_2 {w : Cond} (j : Nat) (hj : tD_2_2[j]? = some w) (g : goodWord w = true) : w ∈ jall := jall_in (jin_2 (tE_2_2 (List.mem_of_getElem? hj))) g
theorem jn_2_2 {w : Cond} (j : Nat) (hj : tD_2_2[j]? = some w) (g : jnk w = true) : w ∈ jnest := List.mem_filter.mpr ⟨jin_2 (tE_2_2 (List.mem_of_getElem? hj)), g⟩
theorem jw_2_3 {w : Cond} (j : Nat) (hj : tD_2_3[j]? = some w) (g : goodWord w = true) : w ∈ jall := jall_in (jin_2 (tE_2_3 (List.mem_of_getElem? hj))) g
theorem jn_2_3 {w : Cond} (j : Nat) (hj : tD_2_3[j]? = some w) (g : jnk w = true) : w ∈ jnest := List.mem_filter.mpr ⟨jin_2 (tE_2_3 (List.mem_of_getElem? hj)), g⟩
theorem jw_2_4 {w : Cond} (j : Nat) (hj : tD_2_4[j]? = some w) (g : goodWord w = true) : w ∈ jall := jall_in (jin_2 (tE_2_4 (List.mem_of_getElem? hj))) g
theorem jn_2_4 {w : Cond} (j : Nat) (hj : tD_2_4[j]? = some w) (g : jnk w = true) : w ∈ jnest := List.mem_filter.mpr ⟨jin_2 (tE_2_4 (List.mem_of_getElem? hj)), g⟩
theorem jw_2_5 {w : Cond} (j : Nat) (hj : tD_2_5[j]? = some w) (g : goodWord w = true) : w ∈ jall := jall_in (jin_2 (tE_2_5 (List.mem_of_getElem? hj))) g
theorem jn_2_5 {w : Cond} (j : Nat) (hj : tD_2_5[j]? = some w) (g : jnk w = true) : w ∈ jnest := List.mem_filter.mpr ⟨jin_2 (tE_2_5 (List.mem_of_getElem? hj)), g⟩
theorem jw_2_6 {w : Cond} (j : Nat) (hj : tD_2_6[j]? = some w) (g : goodWord w = true) : w ∈ jall := jall_in (jin_2 (tE_2_6 (List.mem_of_getElem? hj))) g
theorem jn_2_6 {w : Cond} (j : Nat) (hj : tD_2_6[j]? = some w) (g : jnk w = true) : w ∈ jnest := List.mem_filter.mpr ⟨jin_2 (tE_2_6 (List.mem_of_getElem? hj)), g⟩
theorem jw_2_7 {w : Cond} (j : Nat) (hj : tD_2_7[j]? = some w) (g : goodWord w = true) : w ∈ jall := jall_in (jin_2 (tE_2_7 (List.mem_of_getElem? hj))) g
theorem jn_2_7 {w : Cond} (j : Nat) (hj : tD_2_7[j]? = some w) (g : jnk w = true) : w ∈ jnest := List.mem_filter.mpr ⟨jin_2 (tE_2_7 (List.mem_of_getElem? hj)), g⟩
theorem jw_2_8 {w : Cond} (j : Nat) (hj : tD_2_8[j]? = some w) (g : goodWord w = true) : w ∈ jall := jall_in (jin_2 (tE_2_8 (List.mem_of_getElem? hj))) g
theorem jn_2_8 {w : Cond} (j : Nat) (hj : tD_2_8[j]? = some w) (g : jnk w = true) : w ∈ jnest := List.mem_filter.mpr ⟨jin_2 (tE_2_8 (List.mem_of_getElem? hj)), g⟩
theorem jw_2_9 {w : Cond} (j : Nat) (hj : tD_2_9[j]? = some w) (g : goodWord w = true) : w ∈ jall := jall_in (jin_2 (tE_2_9 (List.mem_of_getElem? hj))) g
theorem jn_2_9 {w : Cond} (j : Nat) (hj : tD_2_9[j]? = some w) (g : jnk w = true) : w ∈ jnest := List.mem_filter.mpr ⟨jin_2 (tE_2_9 (List.mem_of_getElem? hj)), g⟩
theorem jw_2_10 {w : Cond} (j : Nat) (hj : tD_2_10[j]? = some w) (g : goodWord w = true) : w ∈ jall := jall_in (jin_2 (tE_2_10 (List.mem_of_getElem? hj))) g
theorem jn_2_10 {w : Cond} (j : Nat) (hj : tD_2_10[j]? = some w) (g : jnk w = true) : w ∈ jnest := List.mem_filter.mpr ⟨jin_2 (tE_2_10 (List.mem_of_getElem? hj)), g⟩
theorem jw_2_11 {w : Cond} (j : Nat) (hj : tD_2_11[j]? = some w) (g : goodWord w = true) : w ∈ jall := jall_in (jin_2 (tE_2_11 (List.mem_of_getElem? hj))) g
theorem jn_2_11 {w : Cond} (j : Nat) (hj : tD_2_11[j]? = some w) (g : jnk w = true) : w ∈ jnest := List.mem_filter.mpr ⟨jin_2 (tE_2_11 (List.mem_of_getElem? hj)), g⟩
theorem jw_2_12 {w : Cond} (j : Nat) (hj : tD_2_12[j]? = some w) (g : goodWord w = true) : w ∈ jall := jall_in (jin_2 (tE_2_12 (List.mem_of_getElem? hj))) g
theorem jn_2_12 {w : Cond} (j : Nat) (hj : tD_2_12[j]? = some w) (g : jnk w = true) : w ∈ jnest := List.mem_filter.mpr ⟨jin_2 (tE_2_12 (List.mem_of_getElem? hj)), g⟩
theorem jw_2_13 {w : Cond} (j : Nat) (hj : tD_2_13[j]? = some w) (g : goodWord w = true) : w ∈ jall := jall_in (jin_2 (tE_2_13 (List.mem_of_getElem? hj))) g
theorem jn_2_13 {w : Cond} (j : Nat) (hj : tD_2_13[j]? = some w) (g : jnk w = true) : w ∈ jnest := List.mem_filter.mpr ⟨jin_2 (tE_2_13 (List.mem_of_getElem? hj)), g⟩
theorem jw_2_14 {w : Cond} (j : Nat) (hj : tD_2_14[j]? = some w) (g : goodWord w = true) : w ∈ jall := jall_in (jin_2 (tE_2_14 (List.mem_of_getElem? hj))) g
theorem jn_2_14 {w : Cond} (j : Nat) (hj : tD_2_14[j]? = some w) (g : jnk w = true) : w ∈ jnest := List.mem_filter.mpr ⟨jin_2 (tE_2_14 (List.mem_of_getElem? hj)), g⟩
theorem jw_3_0 {w : Cond} (j : Nat) (hj : tD_3_0[j]? = some w) (g : goodWord w = true) : w ∈ jall := jall_in (jin_3 (tE_3_0 (List.mem_of_getElem? hj))) g
theorem jn_3_0 {w : Cond} (j : Nat) (hj : tD_3_0[j]? = some w) (g : jnk w = true) : w ∈ jnest := List.mem_filter.mpr ⟨jin_3 (tE_3_0 (List.mem_of_getElem? hj)), g⟩
theorem jw_3_1 {w : Cond} (j : Nat) (hj : tD_3_1[j]? = some w) (g : goodWord w = true) : w ∈ jall := jall_in (jin_3 (tE_3_1 (List.mem_of_getElem? hj))) g
theorem jn_3_1 {w : Cond} (j : Nat) (hj : tD_3_1[j]? = some w) (g : jnk w = true) : w ∈ jnest := List.mem_filter.mpr ⟨jin_3 (tE_3_1 (List.mem_of_getElem? hj)), g⟩
theorem jw_3_2 {w : Cond} (j : Nat) (hj : tD_3_2[j]? = some w) (g : goodWord w = true) : w ∈ jall := jall_in (jin_3 (tE_3_2 (List.mem_of_getElem? hj))) g
theorem jn_3_2 {w : Cond} (j : Nat) (hj : tD_3_2[j]? = some w) (g : jnk w = true) : w ∈ jnest := List.mem_filter.mpr ⟨jin_3 (tE_3_2 (List.mem_of_getElem? hj)), g⟩
theorem jw_3_3 {w : Cond} (j : Nat) (hj : tD_3_3[j]? = some w) (g : goodWord w = true) : w ∈ jall := jall_in (jin_3 (tE_3_3 (List.mem_of_getElem? hj))) g
theorem jn_3_3 {w : Cond} (j : Nat) (hj : tD_3_3[j]? = some w) (g : jnk w = true) : w ∈ jnest := List.mem_filter.mpr ⟨jin_3 (tE_3_3 (List.mem_of_getElem? hj)), g⟩
theorem jw_3_4 {w : Cond} (j : Nat) (hj : tD_3_4[j]? = some w) (g : goodWord w = true) : w ∈ jall := jall_in (jin_3 (tE_3_4 (List.mem_of_getElem? hj))) g
theorem jn_3_4 {w : Cond} (j : Nat) (hj : tD_3_4[j]? = some w) (g : jnk w = true) : w ∈ jnest := List.mem_filter.mpr ⟨jin_3 (tE_3_4 (List.mem_of_getElem? hj)), g⟩
theorem jw_3_5 {w : Cond} (j : Nat) (hj : tD_3_5[j]? = some w) (g : goodWord w = true) : w ∈ jall := jall_in (jin_3 (tE_3_5 (List.mem_of_getElem? hj))) g
theorem jn_3_5 {w : Cond} (j : Nat) (hj : tD_3_5[j]? = some w) (g : jnk w = true) : w ∈ jnest := List.mem_filter.mpr ⟨jin_3 (tE_3_5 (List.mem_of_getElem? hj)), g⟩
theorem jw_3_6 {w : Cond} (j : Nat) (hj : tD_3_6[j]? = some w) (g : goodWord w = true) : w ∈ jall := jall_in (jin_3 (tE_3_6 (List.mem_of_getElem? hj))) g
theorem jn_3_6 {w : Cond} (j : Nat) (hj : tD_3_6[j]? = some w) (g : jnk w = true) : w ∈ jnest := List.mem_filter.mpr ⟨jin_3 (tE_3_6 (List.mem_of_getElem? hj)), g⟩
theorem jw_3_7 {w : Cond} (j : Nat) (hj : tD_3_7[j]? = some w) (g : goodWord w = true) : w ∈ jall := jall_in (jin_3 (tE_3_7 (List.mem_of_getElem? hj))) g
theorem jn_3_7 {w : Cond} (j : Nat) (hj : tD_3_7[j]? = some w) (g : jnk w = true) : w ∈ jnest := List.mem_filter.mpr ⟨jin_3 (tE_3_7 (List.mem_of_getElem? hj)), g⟩
theorem jw_3_8 {w : Cond} (j : Nat) (hj : tD_3_8[j]? = some w) (g : goodWord w = true) : w ∈ jall := jall_in (jin_3 (tE_3_8 (List.mem_of_getElem? hj))) g
theorem jn_3_8 {w : Cond} (j : Nat) (hj : tD_3_8[j]? = some w) (g : jnk w = true) : w ∈ jnest := List.mem_filter.mpr ⟨jin_3 (tE_3_8 (List.mem_of_getElem? hj)), g⟩
theorem jw_3_9 {w : Cond} (j : Nat) (hj : tD_3_9[j]? = some w) (g : goodWord w = true) : w ∈ jall := jall_in (jin_3 (tE_3_9 (List.mem_of_getElem? hj))) g
theorem jn_3_9 {w : Cond} (j : Nat) (hj : tD_3_9[j]? = some w) (g : jnk w = true) : w ∈ jnest := List.mem_filter.mpr ⟨jin_3 (tE_3_9 (List.mem_of_getElem? hj)), g⟩
theorem jw_3_10 {w : Cond} (j : Nat) (hj : tD_3_10[j]? = some w) (g : goodWord w = true) : w ∈ jall := jall_in (jin_3 (tE_3_10 (List.mem_of_getElem? hj))) g
theorem jn_3_10 {w : Cond} (j : Nat) (hj : tD_3_10[j]? = some w) (g : jnk w = true) : w ∈ jnest := List.mem_filter.mpr ⟨jin_3 (tE_3_10 (List.mem_of_getElem? hj)), g⟩
theorem jw_3_11 {w : Cond} (j : Nat) (hj : tD_3_11[j]? = some w) (g : goodWord w = true) : w ∈ jall := jall_in (jin_3 (tE_3_11 (List.mem_of_getElem? hj))) g
theorem jn_3_11 {w : Cond} (j : Nat) (hj : tD_3_11[j]? = some w) (g : jnk w = true) : w ∈ jnest := List.mem_filter.mpr ⟨jin_3 (tE_3_11 (List.mem_of_getElem? hj)), g⟩
theorem jw_3_12 {w : Cond} (j : Nat) (hj : tD_3_12[j]? = some w) (g : goodWord w = true) : w ∈ jall := jall_in (jin_3 (tE_3_12 (List.mem_of_getElem? hj))) g
theorem jn_3_12 {w : Cond} (j : Nat) (hj : tD_3_12[j]? = some w) (g : jnk w = true) : w ∈ jnest := List.mem_filter.mpr ⟨jin_3 (tE_3_12 (List.mem_of_getElem? hj)), g⟩
theorem jw_3_13 {w : Cond} (j : Nat) (hj : tD_3_13[j]? = some w) (g : goodWord w = true) : w ∈ jall := jall_in (jin_3 (tE_3_13 (List.mem_of_getElem? hj))) g
theorem jn_3_13 {w : Cond} (j : Nat) (hj : tD_3_13[j]? = some w) (g : jnk w = true) : w ∈ jnest := List.mem_filter.mpr ⟨jin_3 (tE_3_13 (List.mem_of_getElem? hj)), g⟩
theorem jw_3_14 {w : Cond} (j : Nat) (hj : tD_3_14[j]? = some w) (g : goodWord w = true) : w ∈ jall := jall_in (jin_3 (tE_3_14 (List.mem_of_getElem? hj))) g
theorem jn_3_14 {w : Cond} (j : Nat) (hj : tD_3_14[j]? = some w) (g : jnk w = true) : w ∈ jnest := List.mem_filter.mpr ⟨jin_3 (tE_3_14 (List.mem_of_getElem? hj)), g⟩
theorem jw_4_0 {w : Cond} (j : Nat) (hj : tD_4_0[j]? = some w) (g : goodWord w = true) : w ∈ jall := jall_in (jin_4 (tE_4_0 (List.mem_of_getElem? hj))) g
theorem jn_4_0 {w : Cond} (j : Nat) (hj : tD_4_0[j]? = some w) (g : jnk w = true) : w ∈ jnest := List.mem_filter.mpr ⟨jin_4 (tE_4_0 (List.mem_of_getElem? hj)), g⟩
theorem jw_4_1 {w : Cond} (j : Nat) (hj : tD_4_1[j]? = some w) (g : goodWord w = true) : w ∈ jall := jall_in (jin_4 (tE_4_1 (List.mem_of_getElem? hj))) g
theorem jn_4_1 {w : Cond} (j : Nat) (hj : tD_4_1[j]? = some w) (g : jnk w = true) : w ∈ jnest := List.mem_filter.mpr ⟨jin_4 (tE_4_1 (List.mem_of_getElem? hj)), g⟩
theorem jw_4_2 {w : Cond} (j : Nat) (hj : tD_4_2[j]? = some w) (g : goodWord w = true) : w ∈ jall := jall_in (jin_4 (tE_4_2 (List.mem_of_getElem? hj))) g
theorem jn_4_2 {w : Cond} (j : Nat) (hj : tD_4_2[j]? = some w) (g : jnk w = true) : w ∈ jnest := List.mem_filter.mpr ⟨jin_4 (tE_4_2 (List.mem_of_getElem? hj)), g⟩
theorem jw_4_3 {w : Cond} (j : Nat) (hj : tD_4_3[j]? = some w) (g : goodWord w = true) : w ∈ jall := jall_in (jin_4 (tE_4_3 (List.mem_of_getElem? hj))) g
theorem jn_4_3 {w : Cond} (j : Nat) (hj : tD_4_3[j]? = some w) (g : jnk w = true) : w ∈ jnest := List.mem_filter.mpr ⟨jin_4 (tE_4_3 (List.mem_of_getElem? hj)), g⟩
theorem jw_4_4 {w : Cond} (j : Nat) (hj : tD_4_4[j]? = some w) (g : goodWord w = true) : w ∈ jall := jall_in (jin_4 (tE_4_4 (List.mem_of_getElem? hj))) g
theorem jn_4_4 {w : Cond} (j : Nat) (hj : tD_4_4[j]? = some w) (g : jnk w = true) : w ∈ jnest := List.mem_filter.mpr ⟨jin_4 (tE_4_4 (List.mem_of_getElem? hj)), g⟩
theorem jw_4_5 {w : Cond} (j : Nat) (hj : tD_4_5[j]? = some w) (g : goodWord w = true) : w ∈ jall := jall_in (jin_4 (tE_4_5 (List.mem_of_getElem? hj))) g
theorem jn_4_5 {w : Cond} (j : Nat) (hj : tD_4_5[j]? = some w) (g : jnk w = true) : w ∈ jnest := List.mem_filter.mpr ⟨jin_4 (tE_4_5 (List.mem_of_getElem? hj)), g⟩
theorem jw_4_6 {w : Cond} (j : Nat) (hj : tD_4_6[j]? = some w) (g : goodWord w = true) : w ∈ jall := jall_in (jin_4 (tE_4_6 (List.mem_of_getElem? hj))) g
theorem jn_4_6 {w : Cond} (j : Nat) (hj : tD_4_6[j]? = some w) (g : jnk w = true) : w ∈ jnest := List.mem_filter.mpr ⟨jin_4 (tE_4_6 (List.mem_of_getElem? hj)), g⟩
theorem jw_4_7 {w : Cond} (j : Nat) (hj : tD_4_7[j]? = some w) (g : goodWord w = true) : w ∈ jall := jall_in (jin_4 (tE_4_7 (List.mem_of_getElem? hj))) g
theorem jn_4_7 {w : Cond} (j : Nat) (hj : tD_4_7[j]? = some w) (g : jnk w = true) : w ∈ jnest := List.mem_filter.mpr ⟨jin_4 (tE_4_7 (List.mem_of_getElem? hj)), g⟩
theorem jw_4_8 {w : Cond} (j : Nat) (hj : tD_4_8[j]? = some w) (g : goodWord w = true) : w ∈ jall := jall_in (jin_4 (tE_4_8 (List.mem_of_getElem? hj))) g
theorem jn_4_8 {w : Cond} (j : Nat) (hj : tD_4_8[j]? = some w) (g : jnk w = true) : w ∈ jnest := List.mem_filter.mpr ⟨jin_4 (tE_4_8 (List.mem_of_getElem? hj)), g⟩
theorem jw_4_9 {w : Cond} (j : Nat) (hj : tD_4_9[j]? = some w) (g : goodWord w = true) : w ∈ jall := jall_in (jin_4 (tE_4_9 (List.mem_of_getElem? hj))) g
theorem jn_4_9 {w : Cond} (j : Nat) (hj : tD_4_9[j]? = some w) (g : jnk w = true) : w ∈ jnest := List.mem_filter.mpr ⟨jin_4 (tE_4_9 (List.mem_of_getElem? hj)), g⟩
theorem jw_4_10 {w : Cond} (j : Nat) (hj : tD_4_10[j]? = some w) (g : goodWord w = true) : w ∈ jall := jall_in (jin_4 (tE_4_10 (List.mem_of_getElem? hj))) g
theorem jn_4_10 {w : Cond} (j : Nat) (hj : tD_4_10[j]? = some w) (g : jnk w = true) : w ∈ jnest := List.mem_filter.mpr ⟨jin_4 (tE_4_10 (List.mem_of_getElem? hj)), g⟩
theorem jw_4_11 {w : Cond} (j : Nat) (hj : tD_4_11[j]? = some w) (g : goodWord w = true) : w ∈ jall := jall_in (jin_4 (tE_4_11 (List.mem_of_getElem? hj))) g
theorem jn_4_11 {w : Cond} (j : Nat) (hj : tD_4_11[j]? = some w) (g : jnk w = true) : w ∈ jnest := List.mem_filter.mpr ⟨jin_4 (tE_4_11 (List.mem_of_getElem? hj)), g⟩
theorem jw_4_12 {w : Cond} (j : Nat) (hj : tD_4_12[j]? = some w) (g : goodWord w = true) : w ∈ jall := jall_in (jin_4 (tE_4_12 (List.mem_of_getElem? hj))) g
theorem jn_4_12 {w : Cond} (j : Nat) (hj : tD_4_12[j]? = some w) (g : jnk w = true) : w ∈ jnest := List.mem_filter.mpr ⟨jin_4 (tE_4_12 (List.mem_of_getElem? hj)), g⟩
theorem jw_4_13 {w : Cond} (j : Nat) (hj : tD_4_13[j]? = some w) (g : goodWord w = true) : w ∈ jall := jall_in (jin_4 (tE_4_13 (List.mem_of_getElem? hj))) g
theorem jn_4_13 {w : Cond} (j : Nat) (hj : tD_4_13[j]? = some w) (g : jnk w = true) : w ∈ jnest := List.mem_filter.mpr ⟨jin_4 (tE_4_13 (List.mem_of_getElem? hj)), g⟩
theorem jw_4_14 {w : Cond} (j : Nat) (hj : tD_4_14[j]? = some w) (g : goodWord w = true) : w ∈ jall := jall_in (jin_4 (tE_4_14 (List.mem_of_getElem? hj))) g
theorem jn_4_14 {w : Cond} (j : Nat) (hj : tD_4_14[j]? = some w) (g : jnk w = true) : w ∈ jnest := List.mem_filter.mpr ⟨jin_4 (tE_4_14 (List.mem_of_getElem? hj)), g⟩
theorem jw_5_0 {w : Cond} (j : Nat) (hj : tD_5_0[j]? = some w) (g : goodWord w = true) : w ∈ jall := jall_in (jin_5 (tE_5_0 (List.mem_of_getElem? hj))) g
theorem jn_5_0 {w : Cond} (j : Nat) (hj : tD_5_0[j]? = some w) (g : jnk w = true) : w ∈ jnest := List.mem_filter.mpr ⟨jin_5 (tE_5_0 (List.mem_of_getElem? hj)), g⟩
theorem jw_5_1 {w : Cond} (j : Nat) (hj : tD_5_1[j]? = some w) (g : goodWord w = true) : w ∈ jall := jall_in (jin_5 (tE_5_1 (List.mem_of_getElem? hj))) g
theorem jn_5_1 {w : Cond} (j : Nat) (hj : tD_5_1[j]? = some w) (g : jnk w = true) : w ∈ jnest := List.mem_filter.mpr ⟨jin_5 (tE_5_1 (List.mem_of_getElem? hj)), g⟩
theorem jw_5_2 {w : Cond} (j : Nat) (hj : tD_5_2[j]? = some w) (g : goodWord w = true) : w ∈ jall := jall_in (jin_5 (tE_5_2 (List.mem_of_getElem? hj))) g
theorem jn_5_2 {w : Cond} (j : Nat) (hj : tD_5_2[j]? = some w) (g : jnk w = true) : w ∈ jnest := List.mem_filter.mpr ⟨jin_5 (tE_5_2 (List.mem_of_getElem? hj)), g⟩
theorem jw_5_3 {w : Cond} (j : Nat) (hj : tD_5_3[j]? = some w) (g : goodWord w = true) : w ∈ jall := jall_in (jin_5 (tE_5_3 (List.mem_of_getElem? hj))) g
theorem jn_5_3 {w : Cond} (j : Nat) (hj : tD_5_3[j]? = some w) (g : jnk w = true) : w ∈ jnest := List.mem_filter.mpr ⟨jin_5 (tE_5_3 (List.mem_of_getElem? hj)), g⟩
theorem jw_5_4 {w : Cond} (j : Nat) (hj : tD_5_4[j]? = some w) (g : goodWord w = true) : w ∈ jall := jall_in (jin_5 (tE_5_4 (List.mem_of_getElem? hj))) g
theorem jn_5_4 {w : Cond} (j : Nat) (hj : tD_5_4[j]? = some w) (g : jnk w = true) : w ∈ jnest := List.mem_filter.mpr ⟨jin_5 (tE_5_4 (List.mem_of_getElem? hj)), g⟩
theorem jw_5_5 {w : Cond} (j : Nat) (hj : tD_5_5[j]? = some w) (g : goodWord w = true) : w ∈ jall := jall_in (jin_5 (tE_5_5 (List.mem_of_getElem? hj))) g
theorem jn_5_5 {w : Cond} (j : Nat) (hj : tD_5_5[j]? = some w) (g : jnk w = true) : w ∈ jnest := List.mem_filter.mpr ⟨jin_5 (tE_5_5 (List.mem_of_getElem? hj)), g⟩
theorem jw_5_6 {w : Cond} (j : Nat) (hj : tD_5_6[j]? = some w) (g : goodWord w = true) : w ∈ jall := jall_in (jin_5 (tE_5_6 (List.mem_of_getElem? hj))) g
theorem jn_5_6 {w : Cond} (j : Nat) (hj : tD_5_6[j]? = some w) (g : jnk w = true) : w ∈ jnest := List.mem_filter.mpr ⟨jin_5 (tE_5_6 (List.mem_of_getElem? hj)), g⟩
theorem jw_5_7 {w : Cond} (j : Nat) (hj : tD_5_7[j]? = some w) (g : goodWord w = true) : w ∈ jall := jall_in (jin_5 (tE_5_7 (List.mem_of_getElem? hj))) g
theorem jn_5_7 {w : Cond} (j : Nat) (hj : tD_5_7[j]? = some w) (g : jnk w = true) : w ∈ jnest := List.mem_filter.mpr ⟨jin_5 (tE_5_7 (List.mem_of_getElem? hj)), g⟩
theorem jw_5_8 {w : Cond} (j : Nat) (hj : tD_5_8[j]? = some w) (g : goodWord w = true) : w ∈ jall := jall_in (jin_5 (tE_5_8 (List.mem_of_getElem? hj))) g
theorem jn_5_8 {w : Cond} (j : Nat) (hj : tD_5_8[j]? = some w) (g : jnk w = true) : w ∈ jnest := List.mem_filter.mpr ⟨jin_5 (tE_5_8 (List.mem_of_getElem? hj)), g⟩
theorem jw_5_9 {w : Cond} (j : Nat) (hj : tD_5_9[j]? = some w) (g : goodWord w = true) : w ∈ jall := jall_in (jin_5 (tE_5_9 (List.mem_of_getElem? hj))) g
theorem jn_5_9 {w : Cond} (j : Nat) (hj : tD_5_9[j]? = some w) (g : jnk w = true) : w ∈ jnest := List.mem_filter.mpr ⟨jin_5 (tE_5_9 (List.mem_of_getElem? hj)), g⟩
theorem jw_5_10 {w : Cond} (j : Nat) (hj : tD_5_10[j]? = some w) (g : goodWord w = true) : w ∈ jall := jall_in (jin_5 (tE_5_10 (List.mem_of_getElem? hj))) g
theorem jn_5_10 {w : Cond} (j : Nat) (hj : tD_5_10[j]? = some w) (g : jnk w = true) : w ∈ jnest := List.mem_filter.mpr ⟨jin_5 (tE_5_10 (List.mem_of_getElem? hj)), g⟩
theorem jw_5_11 {w : Cond} (j : Nat) (hj : tD_5_11[j]? = some w) (g : goodWord w = true) : w ∈ jall := jall_in (jin_5 (tE_5_11 (List.mem_of_getElem? hj))) g
theorem jn_5_11 {w : Cond} (j : Nat) (hj : tD_5_11[j]? = some w) (g : jnk w = true) : w ∈ jnest := List.mem_filter.mpr ⟨jin_5 (tE_5_11 (List.mem_of_getElem? hj)), g⟩
theorem jw_5_12 {w : Cond} (j : Nat) (hj : tD_5_12[j]? = some w) (g : goodWord w = true) : w ∈ jall := jall_in (jin_5 (tE_5_12 (List.mem_of_getElem? hj))) g
theorem jn_5_12 {w : Cond} (j : Nat) (hj : tD_5_12[j]? = some w) (g : jnk w = true) : w ∈ jnest := List.mem_filter.mpr ⟨jin_5 (tE_5_12 (List.mem_of_getElem? hj)), g⟩
theorem jw_5_13 {w : Cond} (j : Nat) (hj : tD_5_13[j]? = some w) (g : goodWord w = true) : w ∈ jall := jall_in (jin_5 (tE_5_13 (List.mem_of_getElem? hj))) g
theorem jn_5_13 {w : Cond} (j : Nat) (hj : tD_5_13[j]? = some w) (g : jnk w = true) : w ∈ jnest := List.mem_filter.mpr ⟨jin_5 (tE_5_13 (List.mem_of_getElem? hj)), g⟩
theorem jw_5_14 {w : Cond} (j : Nat) (hj : tD_5_14[j]? = some w) (g : goodWord w = true) : w ∈ jall := jall_in (jin_5 (tE_5_14 (List.mem_of_getElem? hj))) g
theorem jn_5_14 {w : Cond} (j : Nat) (hj : tD_5_14[j]? = some w) (g : jnk w = true) : w ∈ jnest := List.mem_filter.mpr ⟨jin_5 (tE_5_14 (List.mem_of_getElem? hj)), g⟩
theorem jw_6_0 {w : Cond} (j : Nat) (hj : tD_6_0[j]? = some w) (g : goodWord w = true) : w ∈ jall := jall_in (jin_6 (tE_6_0 (List.mem_of_getElem? hj))) g
theorem jn_6_0 {w : Cond} (j : Nat) (hj : tD_6_0[j]? = some w) (g : jnk w = true) : w ∈ jnest := List.mem_filter.mpr ⟨jin_6 (tE_6_0 (List.mem_of_getElem? hj)), g⟩
theorem jw_6_1 {w : Cond} (j : Nat) (hj : tD_6_1[j]? = some w) (g : goodWord w = true) : w ∈ jall := jall_in (jin_6 (tE_6_1 (List.mem_of_getElem? hj))) g
theorem jn_6_1 {w : Cond} (j : Nat) (hj : tD_6_1[j]? = some w) (g : jnk w = true) : w ∈ jnest := List.mem_filter.mpr ⟨jin_6 (tE_6_1 (List.mem_of_getElem? hj)), g⟩
theorem jw_6_2 {w : Cond} (j : Nat) (hj : tD_6_2[j]? = some w) (g : goodWord w = true) : w ∈ jall := jall_in (jin_6 (tE_6_2 (List.mem_of_getElem? hj))) g
theorem jn_6_2 {w : Cond} (j : Nat) (hj : tD_6_2[j]? = some w) (g : jnk w = true) : w ∈ jnest := List.mem_filter.mpr ⟨jin_6 (tE_6_2 (List.mem_of_getElem? hj)), g⟩
theorem jw_6_3 {w : Cond} (j : Nat) (hj : tD_6_3[j]? = some w) (g : goodWord w = true) : w ∈ jall := jall_in (jin_6 (tE_6_3 (List.mem_of_getElem? hj))) g
theorem jn_6_3 {w : Cond} (j : Nat) (hj : tD_6_3[j]? = some w) (g : jnk w = true) : w ∈ jnest := List.mem_filter.mpr ⟨jin_6 (tE_6_3 (List.mem_of_getElem? hj)), g⟩
theorem jw_6_4 {w : Cond} (j : Nat) (hj : tD_6_4[j]? = some w) (g : goodWord w = true) : w ∈ jall := jall_in (jin_6 (tE_6_4 (List.mem_of_getElem? hj))) g
theorem jn_6_4 {w : Cond} (j : Nat) (hj : tD_6_4[j]? = some w) (g : jnk w = true) : w ∈ jnest := List.mem_filter.mpr ⟨jin_6 (tE_6_4 (List.mem_of_getElem? hj)), g⟩
theorem jw_6_5 {w : Cond} (j : Nat) (hj : tD_6_5[j]? = some w) (g : goodWord w = true) : w ∈ jall := jall_in (jin_6 (tE_6_5 (List.mem_of_getElem? hj))) g
theorem jn_6_5 {w : Cond} (j : Nat) (hj : tD_6_5[j]? = some w) (g : jnk w = true) : w ∈ jnest := List.mem_filter.mpr ⟨jin_6 (tE_6_5 (List.mem_of_getElem? hj)), g⟩
theorem jw_6_6 {w : Cond} (j : Nat) (hj : tD_6_6[j]? = some w) (g : goodWord w = true) : w ∈ jall := jall_in (jin_6 (tE_6_6 (List.mem_of_getElem? hj))) g
theorem jn_6_6 {w : Cond} (j : Nat) (hj : tD_6_6[j]? = some w) (g : jnk w = true) : w ∈ jnest := List.mem_filter.mpr ⟨jin_6 (tE_6_6 (List.mem_of_getElem? hj)), g⟩
theorem jw_6_7 {w : Cond} (j : Nat) (hj : tD_6_7[j]? = some w) (g : goodWord w = true) : w ∈ jall := jall_in (jin_6 (tE_6_7 (List.mem_of_getElem? hj))) g
theorem jn_6_7 {w : Cond} (j : Nat) (hj : tD_6_7[j]? = some w) (g : jnk w = true) : w ∈ jnest := List.mem_filter.mpr ⟨jin_6 (tE_6_7 (List.mem_of_getElem? hj)), g⟩
theorem jw_6_8 {w : Cond} (j : Nat) (hj : tD_6_8[j]? = some w) (g : goodWord w = true) : w ∈ jall := jall_in (jin_6 (tE_6_8 (List.mem_of_getElem? hj))) g
theorem jn_6_8 {w : Cond} (j : Nat) (hj : tD_6_8[j]? = some w) (g : jnk w = true) : w ∈ jnest := List.mem_filter.mpr ⟨jin_6 (tE_6_8 (List.mem_of_getElem? hj)), g⟩
theorem jw_6_9 {w : Cond} (j : Nat) (hj : tD_6_9[j]? = some w) (g : goodWord w = true) : w ∈ jall := jall_in (jin_6 (tE_6_9 (List.mem_of_getElem? hj))) g
theorem jn_6_9 {w : Cond} (j : Nat) (hj : tD_6_9[j]? = some w) (g : jnk w = true) : w ∈ jnest := List.mem_filter.mpr ⟨jin_6 (tE_6_9 (List.mem_of_getElem? hj)), g⟩
theorem jw_6_10 {w : Cond} (j : Nat) (hj : tD_6_10[j]? = some w) (g : goodWord w = true) : w ∈ jall := jall_in (jin_6 (tE_6_10 (List.mem_of_getElem? hj))) g
theorem jn_6_10 {w : Cond} (j : Nat) (hj : tD_6_10[j]? = some w) (g : jnk w = true) : w ∈ jnest := List.mem_filter.mpr ⟨jin_6 (tE_6_10 (List.mem_of_getElem? hj)), g⟩
theorem jw_6_11 {w : Cond} (j : Nat) (hj : tD_6_11[j]? = some w) (g : goodWord w = true) : w ∈ jall := jall_in (jin_6 (tE_6_11 (List.mem_of_getElem? hj))) g
theorem jn_6_11 {w : Cond} (j : Nat) (hj : tD_6_11[j]? = some w) (g : jnk w = true) : w ∈ jnest := List.mem_filter.mpr ⟨jin_6 (tE_6_11 (List.mem_of_getElem? hj)), g⟩
theorem jw_6_12 {w : Cond} (j : Nat) (hj : tD_6_12[j]? = some w) (g : goodWord w = true) : w ∈ jall := jall_in (jin_6 (tE_6_12 (List.mem_of_getElem? hj))) g
theorem jn_6_12 {w : Cond} (j : Nat) (hj : tD_6_12[j]? = some w) (g : jnk w = true) : w ∈ jnest := List.mem_filter.mpr ⟨jin_6 (tE_6_12 (List.mem_of_getElem? hj)), g⟩
theorem jw_6_13 {w : Cond} (j : Nat) (hj : tD_6_13[j]? = some w) (g : goodWord w = true) : w ∈ jall := jall_in (jin_6 (tE_6_13 (List.mem_of_getElem? hj))) g
theorem jn_6_13 {w : Cond} (j : Nat) (hj : tD_6_13[j]? = some w) (g : jnk w = true) : w ∈ jnest := List.mem_filter.mpr ⟨jin_6 (tE_6_13 (List.mem_of_getElem? hj)), g⟩
theorem jw_6_14 {w : Cond} (j : Nat) (hj : tD_6_14[j]? = some w) (g : goodWord w = true) : w ∈ jall := jall_in (jin_6 (tE_6_14 (List.mem_of_getElem? hj))) g
theorem jn_6_14 {w : Cond} (j : Nat) (hj : tD_6_14[j]? = some w) (g : jnk w = true) : w ∈ jnest := List.mem_filter.mpr ⟨jin_6 (tE_6_14 (List.mem_of_getElem? hj)), g⟩
theorem jw_7_0 {w : Cond} (j : Nat) (hj : tD_7_0[j]? = some w) (g : goodWord w = true) : w ∈ jall := jall_in (jin_7 (tE_7_0 (List.mem_of_getElem? hj))) g
theorem jn_7_0 {w : Cond} (j : Nat) (hj : tD_7_0[j]? = some w) (g : jnk w = true) : w ∈ jnest := List.mem_filter.mpr ⟨jin_7 (tE_7_0 (List.mem_of_getElem? hj)), g⟩
theorem jw_7_1 {w : Cond} (j : Nat) (hj : tD_7_1[j]? = some w) (g : goodWord w = true) : w ∈ jall := jall_in (jin_7 (tE_7_1 (List.mem_of_getElem? hj))) g
theorem jn_7_1 {w : Cond} (j : Nat) (hj : tD_7_1[j]? = some w) (g : jnk w = true) : w ∈ jnest := List.mem_filter.mpr ⟨jin_7 (tE_7_1 (List.mem_of_getElem? hj)), g⟩
theorem jw_7_2 {w : Cond} (j : Nat) (hj : tD_7_2[j]? = some w) (g : goodWord w = true) : w ∈ jall := jall_in (jin_7 (tE_7_2 (List.mem_of_getElem? hj))) g
theorem jn_7_2 {w : Cond} (j : Nat) (hj : tD_7_2[j]? = some w) (g : jnk w = true) : w ∈ jnest := List.mem_filter.mpr ⟨jin_7 (tE_7_2 (List.mem_of_getElem? hj)), g⟩
theorem jw_7_3 {w : Cond} (j : Nat) (hj : tD_7_3[j]? = some w) (g : goodWord w = true) : w ∈ jall := jall_in (jin_7 (tE_7_3 (List.mem_of_getElem? hj))) g
theorem jn_7_3 {w : Cond} (j : Nat) (hj : tD_7_3[j]? = some w) (g : jnk w = true) : w ∈ jnest := List.mem_filter.mpr ⟨jin_7 (tE_7_3 (List.mem_of_getElem? hj)), g⟩
theorem jw_7_4 {w : Cond} (j : Nat) (hj : tD_7_4[j]? = some w) (g : goodWord w = true) : w ∈ jall := jall_in (jin_7 (tE_7_4 (List.mem_of_getElem? hj))) g
theorem jn_7_4 {w : Cond} (j : Nat) (hj : tD_7_4[j]? = some w) (g : jnk w = true) : w ∈ jnest := List.mem_filter.mpr ⟨jin_7 (tE_7_4 (List.mem_of_getElem? hj)), g⟩
theorem jw_7_5 {w : Cond} (j : Nat) (hj : tD_7_5[j]? = some w) (g : goodWord w = true) : w ∈ jall := jall_in (jin_7 (tE_7_5 (List.mem_of_getElem? hj))) g
theorem jn_7_5 {w : Cond} (j : Nat) (hj : tD_7_5[j]? = some w) (g : jnk w = true) : w ∈ jnest := List.mem_filter.mpr ⟨jin_7 (tE_7_5 (List.mem_of_getElem? hj)), g⟩
theorem jw_7_6 {w : Cond} (j : Nat) (hj : tD_7_6[j]? = some w) (g : goodWord w = true) : w ∈ jall := jall_in (jin_7 (tE_7_6 (List.mem_of_getElem? hj))) g
theorem jn_7_6 {w : Cond} (j : Nat) (hj : tD_7_6[j]? = some w) (g : jnk w = true) : w ∈ jnest := List.mem_filter.mpr ⟨jin_7 (tE_7_6 (List.mem_of_getElem? hj)), g⟩
theorem jw_7_7 {w : Cond} (j : Nat) (hj : tD_7_7[j]? = some w) (g : goodWord w = true) : w ∈ jall := jall_in (jin_7 (tE_7_7 (List.mem_of_getElem? hj))) g
theorem jn_7_7 {w : Cond} (j : Nat) (hj : tD_7_7[j]? = some w) (g : jnk w = true) : w ∈ jnest := List.mem_filter.mpr ⟨jin_7 (tE_7_7 (List.mem_of_getElem? hj)), g⟩
theorem jw_7_8 {w : Cond} (j : Nat) (hj : tD_7_8[j]? = some w) (g : goodWord w = true) : w ∈ jall := jall_in (jin_7 (tE_7_8 (List.mem_of_getElem? hj))) g
theorem jn_7_8 {w : Cond} (j : Nat) (hj : tD_7_8[j]? = some w) (g : jnk w = true) : w ∈ jnest := List.mem_filter.mpr ⟨jin_7 (tE_7_8 (List.mem_of_getElem? hj)), g⟩
theorem jw_7_9 {w : Cond} (j : Nat) (hj : tD_7_9[j]? = some w) (g : goodWord w = true) : w ∈ jall := jall_in (jin_7 (tE_7_9 (List.mem_of_getElem? hj))) g
theorem jn_7_9 {w : Cond} (j : Nat) (hj : tD_7_9[j]? = some w) (g : jnk w = true) : w ∈ jnest := List.mem_filter.mpr ⟨jin_7 (tE_7_9 (List.mem_of_getElem? hj)), g⟩
theorem jw_7_10 {w : Cond} (j : Nat) (hj : tD_7_10[j]? = some w) (g : goodWord w = true) : w ∈ jall := jall_in (jin_7 (tE_7_10 (List.mem_of_getElem? hj))) g
theorem jn_7_10 {w : Cond} (j : Nat) (hj : tD_7_10[j]? = some w) (g : jnk w = true) : w ∈ jnest := List.mem_filter.mpr ⟨jin_7 (tE_7_10 (List.mem_of_getElem? hj)), g⟩
theorem jw_7_11 {w : Cond} (j : Nat) (hj : tD_7_11[j]? = some w) (g : goodWord w = true) : w ∈ jall := jall_in (jin_7 (tE_7_11 (List.mem_of_getElem? hj))) g
theorem jn_7_11 {w : Cond} (j : Nat) (hj : tD_7_11[j]? = some w) (g : jnk w = true) : w ∈ jnest := List.mem_filter.mpr ⟨jin_7 (tE_7_11 (List.mem_of_getElem? hj)), g⟩
theorem jw_7_12 {w : Cond} (j : Nat) (hj : tD_7_12[j]? = some w) (g : goodWord w = true) : w ∈ jall := jall_in (jin_7 (tE_7_12 (List.mem_of_getElem? hj))) g
theorem jn_7_12 {w : Cond} (j : Nat) (hj : tD_7_12[j]? = some w) (g : jnk w = true) : w ∈ jnest := List.mem_filter.mpr ⟨jin_7 (tE_7_12 (List.mem_of_getElem? hj)), g⟩
theorem jw_7_13 {w : Cond} (j : Nat) (hj : tD_7_13[j]? = some w) (g : goodWord w = true) : w ∈ jall := jall_in (jin_7 (tE_7_13 (List.mem_of_getElem? hj))) g
theorem jn_7_13 {w : Cond} (j : Nat) (hj : tD_7_13[j]? = some w) (g : jnk w = true) : w ∈ jnest := List.mem_filter.mpr ⟨jin_7 (tE_7_13 (List.mem_of_getElem? hj)), g⟩
theorem jw_7_14 {w : Cond} (j : Nat) (hj : tD_7_14[j]? = some w) (g : goodWord w = true) : w ∈ jall := jall_in (jin_7 (tE_7_14 (List.mem_of_getElem? hj))) g
theorem jn_7_14 {w : Cond} (j : Nat) (hj : tD_7_14[j]? = some w) (g : jnk w = true) : w ∈ jnest := List.mem_filter.mpr ⟨jin_7 (tE_7_14 (List.mem_of_getElem? hj)), g⟩
theorem jw_8_0 {w : Cond} (j : Nat) (hj : tD_8_0[j]? = some w) (g : goodWord w = true) : w ∈ jall := jall_in (jin_8 (tE_8_0 (List.mem_of_getElem? hj))) g
theorem jn_8_0 {w : Cond} (j : Nat) (hj : tD_8_0[j]? = some w) (g : jnk w = true) : w ∈ jnest := List.mem_filter.mpr ⟨jin_8 (tE_8_0 (List.mem_of_getElem? hj)), g⟩
theorem jw_8_1 {w : Cond} (j : Nat) (hj : tD_8_1[j]? = some w) (g : goodWord w = true) : w ∈ jall := jall_in (jin_8 (tE_8_1 (List.mem_of_getElem? hj))) g
theorem jn_8_1 {w : Cond} (j : Nat) (hj : tD_8_1[j]? = some w) (g : jnk w = true) : w ∈ jnest := List.mem_filter.mpr ⟨jin_8 (tE_8_1 (List.mem_of_getElem? hj)), g⟩
theorem jw_8_2 {w : Cond} (j : Nat) (hj : tD_8_2[j]? = some w) (g : goodWord w = true) : w ∈ jall := jall_in (jin_8 (tE_8_2 (List.mem_of_getElem? hj))) g
theorem jn_8_2 {w : Cond} (j : Nat) (hj : tD_8_2[j]? = some w) (g : jnk w = true) : w ∈ jnest := List.mem_filter.mpr ⟨jin_8 (tE_8_2 (List.mem_of_getElem? hj)), g⟩
theorem jw_8_3 {w : Cond} (j : Nat) (hj : tD_8_3[j]? = some w) (g : goodWord w = true) : w ∈ jall := jall_in (jin_8 (tE_8_3 (List.mem_of_getElem? hj))) g
theorem jn_8_3 {w : Cond} (j : Nat) (hj : tD_8_3[j]? = some w) (g : jnk w = true) : w ∈ jnest := List.mem_filter.mpr ⟨jin_8 (tE_8_3 (List.mem_of_getElem? hj)), g⟩
theorem jw_8_4 {w : Cond} (j : Nat) (hj : tD_8_4[j]? = some w) (g : goodWord w = true) : w ∈ jall := jall_in (jin_8 (tE_8_4 (List.mem_of_getElem? hj))) g
theorem jn_8_4 {w : Cond} (j : Nat) (hj : tD_8_4[j]? = some w) (g : jnk w = true) : w ∈ jnest := List.mem_filter.mpr ⟨jin_8 (tE_8_4 (List.mem_of_getElem? hj)), g⟩
theorem jw_8_5 {w : Cond} (j : Nat) (hj : tD_8_5[j]? = some w) (g : goodWord w = true) : w ∈ jall := jall_in (jin_8 (tE_8_5 (List.mem_of_getElem? hj))) g
theorem jn_8_5 {w : Cond} (j : Nat) (hj : tD_8_5[j]? = some w) (g : jnk w = true) : w ∈ jnest := List.mem_filter.mpr ⟨jin_8 (tE_8_5 (List.mem_of_getElem? hj)), g⟩
theorem jw_8_6 {w : Cond} (j : Nat) (hj : tD_8_6[j]? = some w) (g : goodWord w = true) : w ∈ jall := jall_in (jin_8 (tE_8_6 (List.mem_of_getElem? hj))) g
theorem jn_8_6 {w : Cond} (j : Nat) (hj : tD_8_6[j]? = some w) (g : jnk w = true) : w ∈ jnest := List.mem_filter.mpr ⟨jin_8 (tE_8_6 (List.mem_of_getElem? hj)), g⟩
theorem jw_8_7 {w : Cond} (j : Nat) (hj : tD_8_7[j]? = some w) (g : goodWord w = true) : w ∈ jall := jall_in (jin_8 (tE_8_7 (List.mem_of_getElem? hj))) g
theorem jn_8_7 {w : Cond} (j : Nat) (hj : tD_8_7[j]? = some w) (g : jnk w = true) : w ∈ jnest := List.mem_filter.mpr ⟨jin_8 (tE_8_7 (List.mem_of_getElem? hj)), g⟩
theorem jw_8_8 {w : Cond} (j : Nat) (hj : tD_8_8[j]? = some w) (g : goodWord w = true) : w ∈ jall := jall_in (jin_8 (tE_8_8 (List.mem_of_getElem? hj))) g
theorem jn_8_8 {w : Cond} (j : Nat) (hj : tD_8_8[j]? = some w) (g : jnk w = true) : w ∈ jnest := List.mem_filter.mpr ⟨jin_8 (tE_8_8 (List.mem_of_getElem? hj)), g⟩
theorem jw_8_9 {w : Cond} (j : Nat) (hj : tD_8_9[j]? = some w) (g : goodWord w = true) : w ∈ jall := jall_in (jin_8 (tE_8_9 (List.mem_of_getElem? hj))) g
theorem jn_8_9 {w : Cond} (j : Nat) (hj : tD_8_9[j]? = some w) (g : jnk w = true) : w ∈ jnest := List.mem_filter.mpr ⟨jin_8 (tE_8_9 (List.mem_of_getElem? hj)), g⟩
theorem jw_8_10 {w : Cond} (j : Nat) (hj : tD_8_10[j]? = some w) (g : goodWord w = true) : w ∈ jall := jall_in (jin_8 (tE_8_10 (List.mem_of_getElem? hj))) g
theorem jn_8_10 {w : Cond} (j : Nat) (hj : tD_8_10[j]? = some w) (g : jnk w = true) : w ∈ jnest := List.mem_filter.mpr ⟨jin_8 (tE_8_10 (List.mem_of_getElem? hj)), g⟩
theorem jw_8_11 {w : Cond} (j : Nat) (hj : tD_8_11[j]? = some w) (g : goodWord w = true) : w ∈ jall := jall_in (jin_8 (tE_8_11 (List.mem_of_getElem? hj))) g
theorem jn_8_11 {w : Cond} (j : Nat) (hj : tD_8_11[j]? = some w) (g : jnk w = true) : w ∈ jnest := List.mem_filter.mpr ⟨jin_8 (tE_8_11 (List.mem_of_getElem? hj)), g⟩
theorem jw_8_12 {w : Cond} (j : Nat) (hj : tD_8_12[j]? = some w) (g : goodWord w = true) : w ∈ jall := jall_in (jin_8 (tE_8_12 (List.mem_of_getElem? hj))) g
theorem jn_8_12 {w : Cond} (j : Nat) (hj : tD_8_12[j]? = some w) (g : jnk w = true) : w ∈ jnest := List.mem_filter.mpr ⟨jin_8 (tE_8_12 (List.mem_of_getElem? hj)), g⟩
theorem jw_8_13 {w : Cond} (j : Nat) (hj : tD_8_13[j]? = some w) (g : goodWord w = true) : w ∈ jall := jall_in (jin_8 (tE_8_13 (List.mem_of_getElem? hj))) g
theorem jn_8_13 {w : Cond} (j : Nat) (hj : tD_8_13[j]? = some w) (g : jnk w = true) : w ∈ jnest := List.mem_filter.mpr ⟨jin_8 (tE_8_13 (List.mem_of_getElem? hj)), g⟩
theorem jw_8_14 {w : Cond} (j : Nat) (hj : tD_8_14[j]? = some w) (g : goodWord w = true) : w ∈ jall := jall_in (jin_8 (tE_8_14 (List.mem_of_getElem? hj))) g
theorem jn_8_14 {w : Cond} (j : Nat) (hj : tD_8_14[j]? = some w) (g : jnk w = true) : w ∈ jnest := List.mem_filter.mpr ⟨jin_8 (tE_8_14 (List.mem_of_getElem? hj)), g⟩
theorem jw_9_0 {w : Cond} (j : Nat) (hj : tD_9_0[j]? = some w) (g : goodWord w = true) : w ∈ jall := jall_in (jin_9 (tE_9_0 (List.mem_of_getElem? hj))) g
theorem jn_9_0 {w : Cond} (j : Nat) (hj : tD_9_0[j]? = some w) (g : jnk w = true) : w ∈ jnest := List.mem_filter.mpr ⟨jin_9 (tE_9_0 (List.mem_of_getElem? hj)), g⟩
theorem jw_9_1 {w : Cond} (j : Nat) (hj : tD_9_1[j]? = some w) (g : goodWord w = true) : w ∈ jall := jall_in (jin_9 (tE_9_1 (List.mem_of_getElem? hj))) g
theorem jn_9_1 {w : Cond} (j : Nat) (hj : tD_9_1[j]? = some w) (g : jnk w = true) : w ∈ jnest := List.mem_filter.mpr ⟨jin_9 (tE_9_1 (List.mem_of_getElem? hj)), g⟩
theorem jw_9_2 {w : Cond} (j : Nat) (hj : tD_9_2[j]? = some w) (g : goodWord w = true) : w ∈ jall := jall_in (jin_9 (tE_9_2 (List.mem_of_getElem? hj))) g
theorem jn_9_2 {w : Cond} (j : Nat) (hj : tD_9_2[j]? = some w) (g : jnk w = true) : w ∈ jnest := List.mem_filter.mpr ⟨jin_9 (tE_9_2 (List.mem_of_getElem? hj)), g⟩
theorem jw_9_3 {w : Cond} (j : Nat) (hj : tD_9_3[j]? = some w) (g : goodWord w = true) : w ∈ jall := jall_in (jin_9 (tE_9_3 (List.mem_of_getElem? hj))) g
theorem jn_9_3 {w : Cond} (j : Nat) (hj : tD_9_3[j]? = some w) (g : jnk w = true) : w ∈ jnest := List.mem_filter.mpr ⟨jin_9 (tE_9_3 (List.mem_of_getElem? hj)), g⟩
theorem jw_9_4 {w : Cond} (j : Nat) (hj : tD_9_4[j]? = some w) (g : goodWord w = true) : w ∈ jall := jall_in (jin_9 (tE_9_4 (List.mem_of_getElem? hj))) g
theorem jn_9_4 {w : Cond} (j : Nat) (hj : tD_9_4[j]? = some w) (g : jnk w = true) : w ∈ jnest := List.mem_filter.mpr ⟨jin_9 (tE_9_4 (List.mem_of_getElem? hj)), g⟩
theorem jw_9_5 {w : Cond} (j : Nat) (hj : tD_9_5[j]? = some w) (g : goodWord w = true) : w ∈ jall := jall_in (jin_9 (tE_9_5 (List.mem_of_getElem? hj))) g
theorem jn_9_5 {w : Cond} (j : Nat) (hj : tD_9_5[j]? = some w) (g : jnk w = true) : w ∈ jnest := List.mem_filter.mpr ⟨jin_9 (tE_9_5 (List.mem_of_getElem? hj)), g⟩
theorem jw_9_6 {w : Cond} (j : Nat) (hj : tD_9_6[j]? = some w) (g : goodWord w = true) : w ∈ jall := jall_in (jin_9 (tE_9_6 (List.mem_of_getElem? hj))) g
theorem jn_9_6 {w : Cond} (j : Nat) (hj : tD_9_6[j]? = some w) (g : jnk w = true) : w ∈ jnest := List.mem_filter.mpr ⟨jin_9 (tE_9_6 (List.mem_of_getElem? hj)), g⟩
theorem pn_X0 : plainName RX0 = true := by decide +kernel
theorem pn_X1 : plainName RX1 = true := by decide +kernel
theorem pn_X2 : plainName RX2 = true := by decide +kernel
theorem pn_X3 : plainName RX3 = true := by decide +kernel
theorem pn_X4 : plainName RX4 = true := by decide +kernel
theorem pn_X5 : plainName RX5 = true := by decide +kernel
theorem pn_X6 : plainName RX6 = true := by decide +kernel
theorem pn_X7 : plainName RX7 = true := by decide +kernel
theorem pn_X8 : plainName RX8 = true := by decide +kernel
theorem pn_X9 : plainName RX9 = true := by decide +kernel
theorem pn_X10 : plainName RX10 = true := by decide +kernel
theorem pn_X11 : plainName RX11 = true := by decide +kernel
theorem pn_X12 : plainName RX12 = true := by decide +kernel
theorem dscr_0 : (parseMethodDescriptor "()V").map (fun d => d.parameters.length) = some 0 := by decide +kernel
theorem dscr_1 : (parseMethodDescriptor "(LRodRings$Rod;)V").map (fun d => d.parameters.length) = some 1 := by decide +kernel
theorem dscr_2 : (parseMethodDescriptor "(LRodRings$Rod;)I").map (fun d => d.parameters.length) = some 1 := by decide +kernel
theorem dscr_3 : (parseMethodDescriptor "(LRodRings$Rod;I)I").map (fun d => d.parameters.length) = some 2 := by decide +kernel
theorem dscr_4 : (parseMethodDescriptor "(LRodRings$Rod;)Z").map (fun d => d.parameters.length) = some 1 := by decide +kernel
theorem dscr_5 : (parseMethodDescriptor "(ILRodRings$Rod;I)I").map (fun d => d.parameters.length) = some 3 := by decide +kernel
theorem dscr_6 : (parseMethodDescriptor "(II)I").map (fun d => d.parameters.length) = some 2 := by decide +kernel
theorem dscr_7 : (parseMethodDescriptor "(IIZ)I").map (fun d => d.parameters.length) = some 3 := by decide +kernel
theorem dscr_8 : (parseMethodDescriptor "(LRodRings$Rod;III)V").map (fun d => d.parameters.length) = some 4 := by decide +kernel
theorem dscr_9 : (parseMethodDescriptor "(ILRodRings$Rod;I)Z").map (fun d => d.parameters.length) = some 3 := by decide +kernel
theorem dscr_10 : (parseMethodDescriptor "(II)Z").map (fun d => d.parameters.length) = some 2 := by decide +kernel
theorem dscr_11 : (parseMethodDescriptor "()I").map (fun d => d.parameters.length) = some 0 := by decide +kernel
theorem dscr_12 : (parseMethodDescriptor "(I)Z").map (fun d => d.parameters.length) = some 1 := by decide +kernel
theorem dscr_13 : (parseMethodDescriptor "(III)I").map (fun d => d.parameters.length) = some 3 := by decide +kernel
theorem dscr_14 : (parseMethodDescriptor "(I)V").map (fun d => d.parameters.length) = some 1 := by decide +kernel
theorem dscr_15 : (parseMethodDescriptor "(LRodRings$Tape;I)V").map (fun d => d.parameters.length) = some 2 := by decide +kernel
theorem dscr_16 : (parseMethodDescriptor "(II)V").map (fun d => d.parameters.length) = some 2 := by decide +kernel
theorem dscr_17 : (parseMethodDescriptor "()Z").map (fun d => d.parameters.length) = some 0 := by decide +kernel
theorem dscr_18 : (parseMethodDescriptor "(LRodRings$Rod;I)Z").map (fun d => d.parameters.length) = some 2 := by decide +kernel
theorem dscr_19 : (parseMethodDescriptor "(I)I").map (fun d => d.parameters.length) = some 1 := by decide +kernel
theorem dscr_20 : (parseMethodDescriptor "(LRodRings$Rod;II)I").map (fun d => d.parameters.length) = some 3 := by decide +kernel
theorem dscr_21 : (parseMethodDescriptor "(IZI)I").map (fun d => d.parameters.length) = some 3 := by decide +kernel
theorem dscr_22 : (parseMethodDescriptor "(LRodRings$Rod;IIZI)I").map (fun d => d.parameters.length) = some 5 := by decide +kernel
theorem dscr_23 : (parseMethodDescriptor "(LRodRings$Log;)V").map (fun d => d.parameters.length) = some 1 := by decide +kernel
theorem dscr_24 : (parseMethodDescriptor "(IZ)Z").map (fun d => d.parameters.length) = some 2 := by decide +kernel
theorem dscr_25 : (parseMethodDescriptor "(IZ)I").map (fun d => d.parameters.length) = some 2 := by decide +kernel
theorem dscr_26 : (parseMethodDescriptor "(I[III)Z").map (fun d => d.parameters.length) = some 4 := by decide +kernel
theorem dscr_27 : (parseMethodDescriptor "(I)C").map (fun d => d.parameters.length) = some 1 := by decide +kernel
theorem dscr_28 : (parseMethodDescriptor "(III)Z").map (fun d => d.parameters.length) = some 3 := by decide +kernel
theorem dscr_29 : (parseMethodDescriptor "(LRodRings$Tape;LRodRings$Rod;)V").map (fun d => d.parameters.length) = some 2 := by decide +kernel
theorem dscr_30 : (parseMethodDescriptor "(LRodRings$Tape;LRodRings$Law;)V").map (fun d => d.parameters.length) = some 2 := by decide +kernel
theorem dscr_31 : (parseMethodDescriptor "(LRodRings$Law;LRodRings$Rod;)V").map (fun d => d.parameters.length) = some 2 := by decide +kernel
theorem dscr_32 : (parseMethodDescriptor "(LRodRings$Law;)V").map (fun d => d.parameters.length) = some 1 := by decide +kernel
theorem dscr_33 : (parseMethodDescriptor "(III)V").map (fun d => d.parameters.length) = some 3 := by decide +kernel
theorem dscr_34 : (parseMethodDescriptor "(LRodRings$Rod;I)V").map (fun d => d.parameters.length) = some 2 := by decide +kernel
theorem dscr_35 : (parseMethodDescriptor "(LRodRings$Rod;IZI)I").map (fun d => d.parameters.length) = some 4 := by decide +kernel
theorem dscr_36 : (parseMethodDescriptor "(LRodRings$Rod;II)V").map (fun d => d.parameters.length) = some 3 := by decide +kernel
theorem dscr_37 : (parseMethodDescriptor "(Ljava/lang/String;)Z").map (fun d => d.parameters.length) = some 1 := by decide +kernel
theorem dscr_38 : (parseMethodDescriptor "(Ljava/lang/String;II)I").map (fun d => d.parameters.length) = some 3 := by decide +kernel
theorem dscr_39 : (parseMethodDescriptor "(ZI)Z").map (fun d => d.parameters.length) = some 2 := by decide +kernel
theorem dscr_40 : (parseMethodDescriptor "(Z)I").map (fun d => d.parameters.length) = some 1 := by decide +kernel
theorem dscr_41 : (parseMethodDescriptor "(IIZ)Z").map (fun d => d.parameters.length) = some 3 := by decide +kernel
theorem dscr_42 : (parseMethodDescriptor "(IIZI)I").map (fun d => d.parameters.length) = some 4 := by decide +kernel
theorem dscr_43 : (parseMethodDescriptor "()B").map (fun d => d.parameters.length) = some 0 := by decide +kernel
theorem dscr_44 : (parseMethodDescriptor "(IILjava/util/function/BiFunction;)I").map (fun d => d.parameters.length) = some 3 := by decide +kernel
theorem dscr_45 : (parseMethodDescriptor "([BI)C").map (fun d => d.parameters.length) = some 2 := by decide +kernel
theorem dscr_46 : (parseMethodDescriptor "(IZIZ)I").map (fun d => d.parameters.length) = some 4 := by decide +kernel
theorem dscr_47 : (parseMethodDescriptor "(IIIII)I").map (fun d => d.parameters.length) = some 5 := by decide +kernel
theorem dscr_48 : (parseMethodDescriptor "(LRodRings;[J)I").map (fun d => d.parameters.length) = some 2 := by decide +kernel
theorem dscr_49 : (parseMethodDescriptor "(LRodRings;II[J)I").map (fun d => d.parameters.length) = some 4 := by decide +kernel
theorem dscr_50 : (parseMethodDescriptor "(LRodRings;IZI[J)I").map (fun d => d.parameters.length) = some 5 := by decide +kernel
theorem dscr_51 : (parseMethodDescriptor "(LRodRings;I[J)I").map (fun d => d.parameters.length) = some 3 := by decide +kernel
theorem dscr_52 : (parseMethodDescriptor "(LRodRings;IZ[J)I").map (fun d => d.parameters.length) = some 4 := by decide +kernel
theorem dscr_53 : (parseMethodDescriptor "(LRodRings;IZIZ[J)I").map (fun d => d.parameters.length) = some 6 := by decide +kernel
theorem dscr_54 : (parseMethodDescriptor "(LRodRings;Z[J)I").map (fun d => d.parameters.length) = some 3 := by decide +kernel
end
