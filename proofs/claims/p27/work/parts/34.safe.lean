section
/-! typed heaps: what is there at each address, by kind; every method keeps the kinds and never fails -/
abbrev jI (lo hi : Int) (x : Int32) : Prop := lo ≤ x.toInt ∧ x.toInt ≤ hi
abbrev jAny (_ : Int32) : Prop := True
/-- a field: a number, a reference of a kind, a reference of a kind or null -/
abbrev jF : Type := (Int32 → Prop) ⊕ (Nat ⊕ Nat)
/-- a kind: an array of numbers, an array of references, an object -/
abbrev jD : Type := (Nat × Nat × (Nat → Int32 → Prop)) ⊕ ((Nat × Nat) ⊕ (Nat × List jF))
/-- what changes by plan alone: the tape's length and bytes, the reference's tape's length, its world from 435 on (law and draft), the laws of 'earlier' and of 'image' -/
abbrev jGh : Type := Int × (Nat → Int32) × Int × (Nat → Int32) × (Nat → Int32) × (Nat → Int32) × Int32 × Int32 × Int32
/-- heights of the stack that a line's codes come to, from s on -/
def jhgt (c : Nat → Int32) (s : Nat) : Nat → Option Nat
  | 0 => some 0
  | l + 1 => (jhgt c s l).bind fun t => if (c (484 + 2 * (s + l))).toInt ≤ 11 then some (t + 1) else if (c (484 + 2 * (s + l))).toInt = 15 then (if 1 ≤ t then some t else none) else (if 2 ≤ t then some (t - 1) else none)
/-- a law that can be run: its lines' codes never take from an empty stack -/
def jlawOK (c : Nat → Int32) : Prop := 0 ≤ (c 435).toInt ∧ (c 435).toInt ≤ 12 ∧ ∀ i : Nat, (i : Int) < (c 435).toInt → 0 ≤ (c (438 + 4 * i)).toInt ∧ (c (438 + 4 * i)).toInt ≤ (c (439 + 4 * i)).toInt ∧ (c (439 + 4 * i)).toInt ≤ 400 ∧ (jhgt c (c (438 + 4 * i)).toInt.toNat ((c (439 + 4 * i)).toInt.toNat - (c (438 + 4 * i)).toInt.toNat)).isSome = true
abbrev jgok (g : jGh) : Prop := (0 ≤ g.1 ∧ g.1 ≤ 400) ∧ 0 ≤ g.2.2.1 ∧ g.2.2.1 ≤ 400 ∧ jlawOK g.2.2.2.1
/-- what stands in a place of the reference's world -/
def jR3 (k : Nat) (x : Int32) : Prop := (k ≠ 0 ∨ (0 ≤ x.toInt ∧ x.toInt ≤ 8)) ∧ (k ≠ 9 ∨ (0 ≤ x.toInt ∧ x.toInt ≤ 60)) ∧ (k < 11 ∨ 75 ≤ k ∨ (k - 11) % 8 ≠ 0 ∨ (0 ≤ x.toInt ∧ x.toInt ≤ 31))
def jRw (g : jGh) (k : Nat) (x : Int32) : Prop := jR3 k x ∧ (k < 435 ∨ x = g.2.2.2.1 k)
def jok {α : Type} (o : Option α) (P : α → Prop) : Prop := ∃ v, o = some v ∧ P v
theorem jok_s {α : Type} {v : α} {P : α → Prop} (h : P v) : jok (some v) P := ⟨v, rfl, h⟩
theorem jok_b {α β : Type} {o : Option α} {f : α → Option β} {R : α → Prop} {P : β → Prop} (h : jok o R) (k : ∀ v, R v → jok (f v) P) : jok (o.bind f) P := by
  obtain ⟨v, rfl, hv⟩ := h
  exact k v hv
theorem jok_b2 {α β : Type} {o : Option α} {f : α → Option β} {R : α → Prop} {P : β → Prop} (h : jok o R) (k : ∀ v, o = some v → R v → jok (f v) P) : jok (o.bind f) P := by
  obtain ⟨v, rfl, hv⟩ := h
  exact k v rfl hv
theorem jok_r {α β : Type} {o : Option α} {f : α → Option β} {v : α} {P : β → Prop} (h : o = some v) (k : jok (f v) P) : jok (o.bind f) P := by
  rw [h]
  exact k
theorem jok_w {α : Type} {o : Option α} {P Q : α → Prop} (h : jok o P) (k : ∀ v, P v → Q v) : jok o Q := by
  obtain ⟨v, e, hv⟩ := h
  exact ⟨v, e, k v hv⟩
theorem jok_if {α : Type} {c : Prop} [Decidable c] {a b : Option α} {P : α → Prop} (ht : c → jok a P) (hf : ¬ c → jok b P) : jok (if c then a else b) P := by
  by_cases h : c
  · rw [if_pos h]; exact ht h
  · rw [if_neg h]; exact hf h
theorem jok_le {α : Type} {x y : Int32} {a b : Option α} {P : α → Prop} (ht : x.toInt ≤ y.toInt → jok a P) (hf : y.toInt < x.toInt → jok b P) : jok (if x ≤ y then a else b) P :=
  jok_if (fun c => ht (Int32.le_iff_toInt_le.mp c)) (fun c => hf (Int.not_le.mp fun q => c (Int32.le_iff_toInt_le.mpr q)))
theorem jok_lt {α : Type} {x y : Int32} {a b : Option α} {P : α → Prop} (ht : x.toInt < y.toInt → jok a P) (hf : y.toInt ≤ x.toInt → jok b P) : jok (if x < y then a else b) P :=
  jok_if (fun c => ht (Int32.lt_iff_toInt_lt.mp c)) (fun c => hf (Int.not_lt.mp fun q => c (Int32.lt_iff_toInt_lt.mpr q)))
theorem jok_eq {α : Type} {x y : Int32} {a b : Option α} {P : α → Prop} (ht : x.toInt = y.toInt → x = y → jok a P) (hf : ¬ x.toInt = y.toInt → jok b P) : jok (if x = y then a else b) P :=
  jok_if (fun c => ht (by rw [c]) c) (fun c => hf fun q => c (Int32.toInt_inj.mp q))
theorem jne {x y : Int32} (h : x.toInt ≠ y.toInt) : ¬ x = y := fun q => h (by rw [q])
theorem j01 {x : Int32} (h0 : 0 ≤ x.toInt) (h1 : x.toInt ≤ 1) : x = 0 ∨ x = 1 := by
  rcases (show x.toInt = 0 ∨ x.toInt = 1 by omega) with h | h
  · exact Or.inl (Int32.toInt_inj.mp h)
  · exact Or.inr (Int32.toInt_inj.mp h)
theorem jnoob {x : Int32} {n : Nat} (h0 : 0 ≤ x.toInt) (h1 : x.toInt < (n : Int)) : ¬ (x < 0 ∨ n ≤ x.toNatClampNeg) := by
  rintro (h | h)
  · have := Int32.lt_iff_toInt_lt.mp h
    have h9 : (0 : Int32).toInt = 0 := rfl
    omega
  · have h9 : x.toNatClampNeg = x.toInt.toNat := rfl
    omega
/-! numbers -/
theorem jadd {x y : Int32} (h1 : -2147483648 ≤ x.toInt + y.toInt) (h2 : x.toInt + y.toInt ≤ 2147483647) : (x + y).toInt = x.toInt + y.toInt := by
  rw [Int32.toInt_add, Int.bmod_eq_of_le (by omega) (by omega)]
theorem jsub {x y : Int32} (h1 : -2147483648 ≤ x.toInt - y.toInt) (h2 : x.toInt - y.toInt ≤ 2147483647) : (x - y).toInt = x.toInt - y.toInt := by
  rw [Int32.toInt_sub, Int.bmod_eq_of_le (by omega) (by omega)]
theorem jaddN {x y : Int32} {d : Int} (hd : y.toInt = -d) (h1 : -2147483648 ≤ x.toInt - d) (h2 : x.toInt - d ≤ 2147483647) : (x + y).toInt = x.toInt - d := by
  rw [Int32.toInt_add, hd, Int.bmod_eq_of_le (by omega) (by omega)]
  omega
theorem jmulL {x y : Int32} {c : Int} (hc : x.toInt = c) (h1 : -2147483648 ≤ c * y.toInt) (h2 : c * y.toInt ≤ 2147483647) : (x * y).toInt = c * y.toInt := by
  rw [Int32.toInt_mul, hc, Int.bmod_eq_of_le (by omega) (by omega)]
theorem jmulR {x y : Int32} {c : Int} (hc : y.toInt = c) (h1 : -2147483648 ≤ c * x.toInt) (h2 : c * x.toInt ≤ 2147483647) : (x * y).toInt = c * x.toInt := by
  rw [Int32.toInt_mul, hc, Int.mul_comm, Int.bmod_eq_of_le (by omega) (by omega)]
theorem jdivL {x y : Int32} {c : Int} (hx : 0 ≤ x.toInt) (hc : y.toInt = c) (h0 : 0 < c) : (x / y).toInt = x.toInt / c := by
  have hb : x.toInt ≤ 2147483647 := by have := Int32.toInt_lt x; omega
  have h2 : 0 ≤ x.toInt / c := Int.ediv_nonneg hx (Int.le_of_lt h0)
  have h3 : x.toInt / c ≤ x.toInt := Int.ediv_le_self _ hx
  rw [Int32.toInt_div, hc, Int.tdiv_eq_ediv_of_nonneg hx, Int.bmod_eq_of_le (by omega) (by omega)]
theorem jand_nat {x y : Int32} {c : Nat} (hc : y.toInt = (c : Int)) : 0 ≤ (x &&& y).toInt ∧ (x &&& y).toInt ≤ (c : Int) := by
  have h1 : (x &&& y).toInt = (x.toBitVec &&& y.toBitVec).toInt := by rw [← Int32.toBitVec_and]; rfl
  have h2 : y.toBitVec.toInt = (c : Int) := hc
  have h3 : (x.toBitVec &&& y.toBitVec).toNat ≤ y.toBitVec.toNat := by rw [BitVec.toNat_and]; exact Nat.and_le_right
  have h4 := y.toBitVec.isLt
  rw [h1]
  rw [BitVec.toInt_eq_toNat_cond] at h2 ⊢
  split at h2
  · rw [if_pos (by omega)]
    omega
  · omega
theorem jandR {x y : Int32} {c : Int} (hc : y.toInt = c) (h0 : 0 ≤ c) : 0 ≤ (x &&& y).toInt ∧ (x &&& y).toInt ≤ c := by
  obtain ⟨k, rfl⟩ := Int.eq_ofNat_of_zero_le h0
  exact jand_nat hc
theorem jandL {x y : Int32} {c : Int} (hc : x.toInt = c) (h0 : 0 ≤ c) : 0 ≤ (x &&& y).toInt ∧ (x &&& y).toInt ≤ c := by
  rw [Int32.and_comm]
  exact jandR hc h0
theorem jshl1_all : ∀ k : Nat, k < 9 → ∀ j : Nat, j < k + 1 → 1 ≤ ((1 : Int32) <<< (Int32.ofNat j &&& 31)).toInt ∧ ((1 : Int32) <<< (Int32.ofNat j &&& 31)).toInt ≤ (2 : Int) ^ k := by decide +kernel
theorem jshl1 {v : Int32} {k : Nat} (h0 : 0 ≤ v.toInt) (h1 : v.toInt ≤ (k : Int)) (hk : k ≤ 8) : 1 ≤ ((1 : Int32) <<< (v &&& 31)).toInt ∧ ((1 : Int32) <<< (v &&& 31)).toInt ≤ (2 : Int) ^ k := by
  obtain ⟨j, hj⟩ := Int.eq_ofNat_of_zero_le h0
  have e : v = Int32.ofNat j := Int32.toInt_inj.mp (by rw [hj]; exact (Int32.toInt_ofNat_of_lt (by omega)).symm)
  rw [e]
  exact jshl1_all k (by omega) j (by omega)
theorem jor255 {x y : Int32} (h0 : 0 ≤ x.toInt) (h1 : x.toInt ≤ 255) (h2 : 0 ≤ y.toInt) (h3 : y.toInt ≤ 255) : 0 ≤ (x ||| y).toInt ∧ (x ||| y).toInt ≤ 255 := by
  have e : (x ||| y).toInt = (x.toBitVec ||| y.toBitVec).toInt := by rw [← Int32.toBitVec_or]; rfl
  have a : x.toBitVec.toInt = x.toInt := rfl
  have b : y.toBitVec.toInt = y.toInt := rfl
  have hx := x.toBitVec.isLt
  have hy := y.toBitVec.isLt
  rw [BitVec.toInt_eq_toNat_cond] at a b
  have hx2 : x.toBitVec.toNat < 2 ^ 8 := by split at a <;> omega
  have hy2 : y.toBitVec.toNat < 2 ^ 8 := by split at b <;> omega
  have h9 : (x.toBitVec ||| y.toBitVec).toNat < 2 ^ 8 := by rw [BitVec.toNat_or]; exact Nat.or_lt_two_pow hx2 hy2
  rw [e, BitVec.toInt_eq_toNat_cond]
  split <;> omega
theorem jif_lt {x y a b : Int32} {lo hi : Int} (ht : x.toInt < y.toInt → lo ≤ a.toInt ∧ a.toInt ≤ hi) (hf : y.toInt ≤ x.toInt → lo ≤ b.toInt ∧ b.toInt ≤ hi) : lo ≤ (if x < y then a else b).toInt ∧ (if x < y then a else b).toInt ≤ hi := by
  by_cases h : x < y
  · rw [if_pos h]; exact ht (Int32.lt_iff_toInt_lt.mp h)
  · rw [if_neg h]; exact hf (Int.not_lt.mp fun q => h (Int32.lt_iff_toInt_lt.mpr q))
theorem jif_le {x y a b : Int32} {lo hi : Int} (ht : x.toInt ≤ y.toInt → lo ≤ a.toInt ∧ a.toInt ≤ hi) (hf : y.toInt < x.toInt → lo ≤ b.toInt ∧ b.toInt ≤ hi) : lo ≤ (if x ≤ y then a else b).toInt ∧ (if x ≤ y then a else b).toInt ≤ hi := by
  by_cases h : x ≤ y
  · rw [if_pos h]; exact ht (Int32.le_iff_toInt_le.mp h)
  · rw [if_neg h]; exact hf (Int.not_le.mp fun q => h (Int32.le_iff_toInt_le.mpr q))
theorem jif_eq {x y a b : Int32} {lo hi : Int} (ht : x.toInt = y.toInt → lo ≤ a.toInt ∧ a.toInt ≤ hi) (hf : ¬ x.toInt = y.toInt → lo ≤ b.toInt ∧ b.toInt ≤ hi) : lo ≤ (if x = y then a else b).toInt ∧ (if x = y then a else b).toInt ≤ hi := by
  by_cases h : x = y
  · rw [if_pos h]; exact ht (by rw [h])
  · rw [if_neg h]; exact hf fun q => h (Int32.toInt_inj.mp q)
theorem jmin31 {x : Int32} : (if x < (31 : Int32) then x else (31 : Int32)).toInt ≤ 31 := by
  have e : (31 : Int32).toInt = 31 := rfl
  by_cases h : x < 31
  · rw [if_pos h]
    have := Int32.lt_iff_toInt_lt.mp h
    omega
  · rw [if_neg h, e]
    omega
/-! the kinds at their addresses -/
def okV (Γ : Nat → Option Nat) (F : jF) (v : Value) : Prop := match F with
  | .inl P => ∃ x, v = .int x ∧ P x
  | .inr (.inl c) => ∃ a, v = .ref a ∧ Γ a = some c
  | .inr (.inr c) => v = .null ∨ ∃ a, v = .ref a ∧ Γ a = some c
def okE (Γ : Nat → Option Nat) (D : jD) (e : Option jE) : Prop := match D with
  | .inl q => ∃ f : Nat → Int32, e = some (.inr (.inl (q.1, q.2.1, f))) ∧ ∀ k, k < q.2.1 → q.2.2 k (f k)
  | .inr (.inl q) => if q.2 = 1000 then ∃ f : Nat → Int64, e = some (.inr (.inr (.inr (1, f)))) ∧ (q.1 = 0 ∨ q.1 % 18446744073709551616 = (f 0).toUInt64.toNat) else ∃ f : Nat → Option Nat, e = some (.inr (.inr (.inl (q.1, f)))) ∧ ∀ k a, f k = some a → Γ a = some q.2
  | .inr (.inr q) => ∃ vs : List Value, e = some (.inl (q.1, vs)) ∧ vs.length = q.2.length ∧ ∀ (k : Nat) (F : jF), q.2[k]? = some F → ∃ v : Value, vs[k]? = some v ∧ okV Γ F v
def jW (Θ : Nat → jD) (Γ : Nat → Option Nat) (h : jH) : Prop := ∀ a c, Γ a = some c → a < h.1 ∧ okE Γ (Θ c) (h.2 a)
section JSAFE
variable {Θ : Nat → jD} {Γ : Nat → Option Nat} {h : jH} {a c k ci t N : Nat} {Fs : List jF} {P : Int32 → Prop} {R : Nat → Int32 → Prop} {i x : Int32}
theorem t_obj (w : jW Θ Γ h) (ha : Γ a = some c) (hc : Θ c = .inr (.inr (ci, Fs))) : ∃ vs : List Value, h.2 a = some (.inl (ci, vs)) ∧ vs.length = Fs.length ∧ ∀ (k : Nat) (F : jF), Fs[k]? = some F → ∃ v : Value, vs[k]? = some v ∧ okV Γ F v := by
  have h2 := (w a c ha).2
  rw [hc] at h2
  exact h2
theorem t_arr (w : jW Θ Γ h) (ha : Γ a = some c) (hc : Θ c = .inl (t, N, R)) : ∃ f : Nat → Int32, h.2 a = some (.inr (.inl (t, N, f))) ∧ ∀ k, k < N → R k (f k) := by
  have h2 := (w a c ha).2
  rw [hc] at h2
  exact h2
theorem t_gf (w : jW Θ Γ h) (ha : Γ a = some c) (hc : Θ c = .inr (.inr (ci, Fs))) {F : jF} (hk : Fs[k]? = some F) : ∃ v, jgf ci h a k = some v ∧ okV Γ F v := by
  obtain ⟨vs, e1, -, e3⟩ := t_obj w ha hc
  obtain ⟨v, f1, f2⟩ := e3 k F hk
  refine ⟨v, ?_, f2⟩
  unfold jgf
  rw [e1]
  dsimp only
  rw [if_pos rfl]
  exact f1
theorem t_gI (w : jW Θ Γ h) (ha : Γ a = some c) (hc : Θ c = .inr (.inr (ci, Fs))) (hk : Fs[k]? = some (.inl P)) : jok (jgI ci h a k) P := by
  obtain ⟨v, e, x, rfl, hx⟩ := t_gf w ha hc hk
  exact ⟨x, by unfold jgI; rw [e], hx⟩
theorem t_gR {c2 : Nat} (w : jW Θ Γ h) (ha : Γ a = some c) (hc : Θ c = .inr (.inr (ci, Fs))) (hk : Fs[k]? = some (.inr (.inl c2))) : jok (jgR ci h a k) (fun b => Γ b = some c2) := by
  obtain ⟨v, e, b, rfl, hx⟩ := t_gf w ha hc hk
  exact ⟨b, by unfold jgR; rw [e], hx⟩
theorem t_gQ {c2 : Nat} (w : jW Θ Γ h) (ha : Γ a = some c) (hc : Θ c = .inr (.inr (ci, Fs))) (hk : Fs[k]? = some (.inr (.inr c2))) : jok (jgQ ci h a k) (fun o => ∀ b, o = some b → Γ b = some c2) := by
  obtain ⟨v, e, hv⟩ := t_gf w ha hc hk
  rcases hv with rfl | ⟨b, rfl, hb⟩
  · exact ⟨none, by unfold jgQ; rw [e], fun b q => by cases q⟩
  · exact ⟨some b, by unfold jgQ; rw [e], fun b2 q => by cases q; exact hb⟩
theorem t_cv {α : Type} {e : Option α} (w : jW Θ Γ h) (ha : Γ a = some c) (hc : Θ c = .inr (.inr (ci, Fs))) : jcv ci h a e = e := by
  obtain ⟨vs, e1, -, -⟩ := t_obj w ha hc
  unfold jcv
  rw [e1]
  simp
/-- one entry is put anew, of the same kind -/
theorem t_put (w : jW Θ Γ h) {e : jE} (he : ∀ c, Γ a = some c → okE Γ (Θ c) (some e)) : jW Θ Γ (jup h a e) := by
  intro b c hb
  refine ⟨(w b c hb).1, ?_⟩
  show okE Γ (Θ c) (if b = a then some e else h.2 b)
  by_cases hq : b = a
  · subst hq; rw [if_pos rfl]; exact he c hb
  · rw [if_neg hq]; exact (w b c hb).2
/-- behind a write to a field; behind a write to an array: what the fields are -/
def jfr (h h1 : jH) (a k : Nat) : Prop := ∀ ci2 b k2 : Nat, (b ≠ a ∨ k2 ≠ k) → jgf ci2 h1 b k2 = jgf ci2 h b k2
def jfa (h h1 : jH) : Prop := ∀ ci2 b k2 : Nat, jgf ci2 h1 b k2 = jgf ci2 h b k2
theorem fI {h h1 : jH} {ci b k : Nat} {v : Int32} (e : jgf ci h1 b k = jgf ci h b k) (q : jgI ci h b k = some v) : jgI ci h1 b k = some v := by
  unfold jgI at q ⊢
  rw [e]
  exact q
theorem fJ {h : jH} {ci b k : Nat} {v : Int32} (e : jgf ci h b k = some (.int v)) : jgI ci h b k = some v := by
  unfold jgI
  rw [e]
theorem jneq {Γ : Nat → Option Nat} {a b c d : Nat} (ha : Γ a = some c) (hb : Γ b = some d) (h : c ≠ d) : a ≠ b := by
  intro q
  subst q
  exact h (Option.some.inj (ha.symm.trans hb))
theorem jfr_up {h : jH} {a k ci : Nat} {vs : List Value} {v : Value} (e1 : h.2 a = some (.inl (ci, vs))) : jfr h (jup h a (.inl (ci, vs.set k v))) a k := by
  intro ci2 b k2 hq
  unfold jgf
  show (match (if b = a then some _ else h.2 b) with | some (.inl o) => if o.1 = ci2 then o.2[k2]? else none | _ => none) = _
  by_cases hb : b = a
  · subst hb
    rw [if_pos rfl, e1]
    dsimp only
    rcases hq with hq | hq
    · exact absurd rfl hq
    · rw [List.getElem?_set_ne (Ne.symm hq)]
  · rw [if_neg hb]
    rfl
theorem jfa_up {h : jH} {a : Nat} {x y : (Nat × Nat × (Nat → Int32)) ⊕ (Nat × (Nat → Option Nat)) ⊕ (Nat × (Nat → Int64))} (e1 : h.2 a = some (.inr x)) : jfa h (jup h a (.inr y)) := by
  intro ci2 b k2
  unfold jgf
  show (match (if b = a then some _ else h.2 b) with | some (.inl o) => if o.1 = ci2 then o.2[k2]? else none | _ => none) = _
  by_cases hb : b = a
  · subst hb
    rw [if_pos rfl, e1]
  · rw [if_neg hb]
    rfl
theorem t_pf (w : jW Θ Γ h) (ha : Γ a = some c) (hc : Θ c = .inr (.inr (ci, Fs))) {F : jF} {v : Value} (hk : Fs[k]? = some F) (hv : okV Γ F v) : jok (jpf ci h a k v) (fun h1 => jW Θ Γ h1 ∧ jgf ci h1 a k = some v ∧ jfr h h1 a k) := by
  obtain ⟨vs, e1, e2, e3⟩ := t_obj w ha hc
  have hlt : k < vs.length := by rw [e2]; exact (List.getElem?_eq_some_iff.mp hk).1
  refine ⟨jup h a (.inl (ci, vs.set k v)), ?_, t_put w (fun c9 h9 => ?_), ?_, jfr_up e1⟩
  · unfold jpf
    rw [e1]
    dsimp only
    rw [if_pos ⟨rfl, hlt⟩]
  · cases ha.symm.trans h9
    rw [hc]
    refine ⟨vs.set k v, rfl, by rw [List.length_set]; exact e2, fun j F9 hj => ?_⟩
    by_cases hq : j = k
    · subst hq
      cases hk.symm.trans hj
      exact ⟨v, by rw [List.getElem?_set_self hlt], hv⟩
    · obtain ⟨v9, f1, f2⟩ := e3 j F9 hj
      exact ⟨v9, by rw [List.getElem?_set_ne (Ne.symm hq)]; exact f1, f2⟩
  · unfold jgf
    show (match (if a = a then some _ else h.2 a) with | some (.inl o) => if o.1 = ci then o.2[k]? else none | _ => none) = _
    rw [if_pos rfl]
    dsimp only
    rw [if_pos rfl, List.getElem?_set_self hlt]
theorem t_pI (w : jW Θ Γ h) (ha : Γ a = some c) (hc : Θ c = .inr (.inr (ci, Fs))) (hk : Fs[k]? = some (.inl P)) (hp : P x) : jok (jpf ci h a k (.int x)) (fun h1 => jW Θ Γ h1 ∧ jgf ci h1 a k = some (.int x) ∧ jfr h h1 a k) := t_pf w ha hc hk ⟨x, rfl, hp⟩
theorem t_pR {c2 b : Nat} (w : jW Θ Γ h) (ha : Γ a = some c) (hc : Θ c = .inr (.inr (ci, Fs))) (hk : Fs[k]? = some (.inr (.inl c2))) (hb : Γ b = some c2) : jok (jpf ci h a k (.ref b)) (fun h1 => jW Θ Γ h1 ∧ jgf ci h1 a k = some (.ref b) ∧ jfr h h1 a k) := t_pf w ha hc hk ⟨b, rfl, hb⟩
theorem t_pQ {c2 b : Nat} (w : jW Θ Γ h) (ha : Γ a = some c) (hc : Θ c = .inr (.inr (ci, Fs))) (hk : Fs[k]? = some (.inr (.inr c2))) (hb : Γ b = some c2) : jok (jpf ci h a k (.ref b)) (fun h1 => jW Θ Γ h1 ∧ jgf ci h1 a k = some (.ref b) ∧ jfr h h1 a k) := t_pf w ha hc hk (Or.inr ⟨b, rfl, hb⟩)
theorem t_al (w : jW Θ Γ h) (ha : Γ a = some c) (hc : Θ c = .inl (t, N, R)) (h0 : 0 ≤ i.toInt) (h1 : i.toInt < (N : Int)) : jok (jal t h a i) (fun x => R i.toInt.toNat x) := by
  obtain ⟨f, e1, e2⟩ := t_arr w ha hc
  refine ⟨f i.toNatClampNeg, ?_, e2 _ (by have : i.toNatClampNeg = i.toInt.toNat := rfl; omega)⟩
  unfold jal
  rw [e1]
  dsimp only
  rw [if_pos ⟨rfl, jnoob h0 h1⟩]
theorem t_as (w : jW Θ Γ h) (ha : Γ a = some c) (hc : Θ c = .inl (t, N, R)) (h0 : 0 ≤ i.toInt) (h1 : i.toInt < (N : Int)) (hr : R i.toInt.toNat (jnar t x)) (h2 : t = 2 → x = 0 ∨ x = 1) : jok (jas t h a i x) (fun h1 => jW Θ Γ h1 ∧ jfa h h1) := by
  obtain ⟨f, e1, e2⟩ := t_arr w ha hc
  refine ⟨jup h a (.inr (.inl (t, N, upd f i.toNatClampNeg (jnar t x)))), ?_, t_put w (fun c9 h9 => ?_), jfa_up e1⟩
  · unfold jas
    rw [e1]
    dsimp only
    rw [if_pos ⟨rfl, jnoob h0 h1, h2⟩]
  · cases ha.symm.trans h9
    rw [hc]
    refine ⟨_, rfl, fun k hk => ?_⟩
    by_cases hq : k = i.toNatClampNeg
    · rw [hq]; simp only [upd, if_pos]; exact hr
    · simp only [upd, if_neg hq]; exact e2 k hk
theorem t_len (w : jW Θ Γ h) (ha : Γ a = some c) (hc : Θ c = .inl (t, N, R)) (ht : t < 3) : jok (jlen h a) (fun x => x = Int32.ofNat N) := by
  obtain ⟨f, e1, e2⟩ := t_arr w ha hc
  refine ⟨_, ?_, rfl⟩
  unfold jlen
  rw [e1]
  dsimp only
  rw [if_pos ht]
theorem t_cp {a0 c0 n0 n : Nat} {R0 : Nat → Int32 → Prop} {sp dp m : Int32} (w : jW Θ Γ h) (h0 : Γ a0 = some c0) (ha : Γ a = some c) (hc0 : Θ c0 = .inl (0, n0, R0)) (hc : Θ c = .inl (0, N, R)) (hs : sp = 0) (hd : dp = 0) (hm : m = Int32.ofNat n) (hn0 : n ≤ n0 ∧ n < 2147483648) (hn : n ≤ N) (hr : ∀ k v, R0 k v → R k v) : jok (jcp h a0 sp a dp m) (fun h1 => jW Θ Γ h1 ∧ jfa h h1) := by
  obtain ⟨f, e1, e2⟩ := t_arr w h0 hc0
  obtain ⟨f1, e3, e4⟩ := t_arr w ha hc
  subst hs hd hm
  have q0 : ¬ (0 : Int32) < 0 := by decide
  have q1 : ¬ Int32.ofNat n < 0 := jix_nn hn0.2
  have q2 : (Int32.ofNat n).toNatClampNeg = n := jix_nat hn0.2
  have q3 : (0 : Int32).toNatClampNeg = 0 := rfl
  refine ⟨jup h a (.inr (.inl (0, N, va_cpy f f1 0 0 n))), ?_, t_put w (fun c9 h9 => ?_), jfa_up e3⟩
  · unfold jcp
    rw [e1, e3]
    dsimp only
    rw [if_pos ⟨rfl, rfl, q0, q0, q1, by rw [q2, q3]; omega, by rw [q2, q3]; omega⟩, q2, q3]
  · cases ha.symm.trans h9
    rw [hc]
    refine ⟨_, rfl, fun k hk => ?_⟩
    unfold va_cpy
    split
    · rename_i hq
      refine hr _ _ ?_
      have hk9 : 0 + (k - 0) = k := by omega
      first | (rw [hk9]; exact e2 k (by omega)) | exact e2 _ (by omega)
    · exact e4 k hk
theorem t_qar {n c2 : Nat} (w : jW Θ Γ h) (ha : Γ a = some c) (hc : Θ c = .inr (.inl (n, c2))) (hne : c2 ≠ 1000) : ∃ f : Nat → Option Nat, h.2 a = some (.inr (.inr (.inl (n, f)))) ∧ ∀ k a, f k = some a → Γ a = some c2 := by
  have h2 := (w a c ha).2
  rw [hc] at h2
  have h3 : (if c2 = 1000 then ∃ f : Nat → Int64, h.2 a = some (.inr (.inr (.inr (1, f)))) ∧ (n = 0 ∨ n % 18446744073709551616 = (f 0).toUInt64.toNat) else ∃ f : Nat → Option Nat, h.2 a = some (.inr (.inr (.inl (n, f)))) ∧ ∀ k a, f k = some a → Γ a = some c2) := h2
  rw [if_neg hne] at h3
  exact h3
theorem t_alq {n c2 : Nat} (w : jW Θ Γ h) (ha : Γ a = some c) (hc : Θ c = .inr (.inl (n, c2))) (hne : c2 ≠ 1000) (h0 : 0 ≤ i.toInt) (h1 : i.toInt < (n : Int)) : jok (jalq h a i) (fun o => ∀ b, o = some b → Γ b = some c2) := by
  obtain ⟨f, e1, e2⟩ := t_qar w ha hc hne
  refine ⟨f i.toNatClampNeg, ?_, fun b hb => e2 _ b hb⟩
  unfold jalq
  rw [e1]
  dsimp only
  rw [if_pos (jnoob h0 h1)]
theorem t_asq {n c2 v : Nat} (w : jW Θ Γ h) (ha : Γ a = some c) (hc : Θ c = .inr (.inl (n, c2))) (hne : c2 ≠ 1000) (hv : Γ v = some c2) (hc2 : Θ c2 = .inr (.inr (ci, Fs))) (h0 : 0 ≤ i.toInt) (h1 : i.toInt < (n : Int)) : jok (jasq ci h a i v) (fun h1 => jW Θ Γ h1 ∧ jfa h h1 ∧ jalq h1 a i = some (some v)) := by
  obtain ⟨f, e1, e2⟩ := t_qar w ha hc hne
  obtain ⟨vs, e3, -, -⟩ := t_obj w hv hc2
  refine ⟨jup h a (.inr (.inr (.inl (n, va_up f i.toNatClampNeg (some v))))), ?_, t_put w (fun c9 h9 => ?_), jfa_up e1, ?_⟩
  · unfold jasq
    rw [e1, e3]
    dsimp only
    rw [if_pos ⟨jnoob h0 h1, rfl⟩]
  · cases ha.symm.trans h9
    rw [hc]
    show (if c2 = 1000 then _ else _)
    rw [if_neg hne]
    refine ⟨_, rfl, fun k b hb => ?_⟩
    by_cases hq : k = i.toNatClampNeg
    · rw [hq] at hb
      simp only [va_up, if_pos] at hb
      cases hb
      exact hv
    · simp only [va_up, if_neg hq] at hb
      exact e2 k b hb
  · unfold jalq
    show (match (if a = a then some _ else h.2 a) with | some (.inr (.inr (.inl x))) => if ¬ (i < 0 ∨ x.1 ≤ i.toNatClampNeg) then some (x.2 i.toNatClampNeg) else none | _ => none) = _
    rw [if_pos rfl]
    dsimp only
    rw [if_pos (jnoob h0 h1), va_up_self]
end JSAFE
/-- ends of methods that may throw: the exceptions that they may throw -/
def jXok (ex : List Nat) (R : Int32 → Prop) (r : jR) : Prop := match r with
  | .inl v => R v
  | .inr k => k ∈ ex
theorem jX_l {ex : List Nat} {R : Int32 → Prop} {v : Int32} (h : R v) : jXok ex R (.inl v) := h
theorem jX_r {ex : List Nat} {R : Int32 → Prop} {k : Nat} (h : k ∈ ex) : jXok ex R (.inr k) := h
theorem jsub9 {ex ex2 : List Nat} {k : Nat} (h : k ∈ ex) (hs : ∀ k ∈ ex, k ∈ ex2) : k ∈ ex2 := hs k h
theorem jok_t {ex : List Nat} {R : Int32 → Prop} {q : jR × jH} {f : Int32 → jH → Option (jR × jH)} {P : jR × jH → Prop} (p : jXok ex R q.1) (he : ∀ k, k ∈ ex → P (.inr k, q.2)) (kv : ∀ v, R v → jok (f v q.2) P) : jok (jthen q f) P := by
  obtain ⟨r, h⟩ := q
  cases r with
  | inl v => exact kv v p
  | inr k => exact ⟨(.inr k, h), rfl, he k p⟩
/-- the tape is the one of its kind: its length anew -/
theorem t_tl {t n : Nat} (ht : t < 36) (hl : (jtb t).length = n ∧ n < 1000) : jok (jtl t) (fun v => v.toInt = (n : Int)) := by
  refine ⟨nI (jtb t).length, by unfold jtl; rw [if_pos ht], ?_⟩
  rw [hl.1]
  exact Int32.toInt_ofNat_of_lt (by omega)
theorem t_tc {t n : Nat} {i : Int32} (hl : (jtb t).length = n) (h0 : 0 ≤ i.toInt) (h1 : i.toInt < (n : Int)) : jok (jtc t i) (fun _ => True) := by
  unfold jtc
  rw [hl, if_neg (jnoob h0 h1)]
  exact ⟨_, rfl, trivial⟩
/-- kinds that are new: rods' and laws' alone -/
def jle (Γ Γ2 : Nat → Option Nat) : Prop := (∀ a c, Γ a = some c → Γ2 a = some c) ∧ ∀ a c, 9 ≤ c → Γ2 a = some c → Γ a = some c
theorem jle_rfl {Γ : Nat → Option Nat} : jle Γ Γ := ⟨fun _ _ h => h, fun _ _ _ h => h⟩
theorem jle_tr {Γ Γ2 Γ3 : Nat → Option Nat} (h : jle Γ Γ2) (h2 : jle Γ2 Γ3) : jle Γ Γ3 := ⟨fun a c q => h2.1 a c (h.1 a c q), fun a c k q => h.2 a c k (h2.2 a c k q)⟩
/-- the kinds: of the class 0 to 19, of the reference 20 to 31 -/
def jKd (g : jGh) : Nat → jD
  | 0 => .inl (0, 8, fun _ => jAny)
  | 1 => .inl (0, 60, fun _ => jAny)
  | 2 => .inr (.inr (4, [.inr (.inl 1), .inl (jI 0 60), .inl (jI 0 59)]))
  | 3 => .inr (.inr (6, [.inr (.inl 0), .inr (.inl 0), .inr (.inl 0), .inr (.inl 0), .inr (.inl 2), .inl (jI 0 8), .inl (jAny), .inl (jAny), .inl (jAny), .inl (jAny), .inl (jAny), .inl (jAny), .inl (jAny), .inl (jAny), .inl (jAny), .inl (jAny), .inl (jAny), .inl (jAny)]))
  | 4 => .inl (0, 12, fun _ => jAny)
  | 5 => .inl (0, 12, fun _ => jI 0 400)
  | 6 => .inl (0, 400, fun _ => jAny)
  | 7 => .inl (0, 24, fun _ => jAny)
  | 8 => .inr (.inr (2, [.inr (.inl 4), .inr (.inl 4), .inr (.inl 5), .inr (.inl 6), .inr (.inl 7), .inl (jI 0 24), .inl (jI 0 400), .inl (jI 0 1), .inl (jI 0 12)]))
  | 9 => .inl (1, 400, fun k x => x = g.2.1 k)
  | 10 => .inr (.inr (8, [.inr (.inl 9), .inr (.inl 6), .inr (.inl 6), .inr (.inl 6), .inl (jI 0 400), .inl (jI 0 400), .inl (fun x => x.toInt = g.1)]))
  | 11 => .inr (.inl (12, 3))
  | 12 => .inr (.inr (0, [.inr (.inl 11), .inl (jI 0 11), .inl (jI 0 12)]))
  | 13 => .inr (.inr (7, [.inr (.inl 10), .inl (jI 14 14), .inr (.inl 3)]))
  | 14 => .inr (.inr (3, [.inr (.inl 10), .inl (jI 12 12), .inr (.inl 8)]))
  | 15 => .inr (.inr (1, [.inr (.inl 8), .inr (.inl 3)]))
  | 16 => .inl (0, 128, fun _ => jAny)
  | 17 => .inl (0, 32, fun _ => jAny)
  | 18 => .inr (.inr (5, [.inr (.inl 10), .inr (.inl 3), .inr (.inl 16), .inr (.inl 17), .inl (jI 0 128), .inl (jAny), .inl (jAny)]))
  | 19 => .inr (.inr (9, [.inr (.inl 10), .inr (.inl 3), .inr (.inl 8), .inr (.inl 12), .inr (.inl 3), .inr (.inl 8), .inr (.inl 13), .inr (.inl 14), .inr (.inl 15), .inr (.inl 18), .inr (if g.2.2.2.2.2.2.1 = 0 then .inr 41 else .inl 3), .inr (if g.2.2.2.2.2.2.2.1 = 0 then .inr 41 else .inl 8), .inl (jAny)]))
  | 20 => .inr (.inr (10, [.inl (jAny), .inr (.inl 21), .inr (.inl 22), .inr (.inl 23), .inr (.inl 24), .inr (.inl 25), .inl (fun x => x = g.2.2.2.2.2.2.2.2 ∧ (x.toInt = 0 ∨ jlawOK g.2.2.2.2.2.1)), .inl (jI 0 12), .inr (.inl 26), .inl (fun x => x.toInt = g.2.2.1), .inl (jI 0 400), .inl (jI 0 400), .inl (jI 0 400), .inl (jAny), .inl (jAny), .inr (.inl 27), .inl (jI 0 400), .inr (.inl 28), .inl (jAny), .inr (.inl 29), .inr (.inl 30), .inr (.inl 31)]))
  | 21 => .inl (0, 2133, fun k x => jRw g k x)
  | 22 => .inl (0, 1284, fun k x => jR3 k x ∧ (k < 435 ∨ x = g.2.2.2.2.2.1 k))
  | 23 => .inl (0, 1284, fun k x => jR3 k x ∧ (k < 435 ∨ x = g.2.2.2.2.1 k))
  | 24 => .inl (0, 435, fun k x => jR3 k x)
  | 25 => .inl (0, 5220, fun k x => jR3 (k % 435) x)
  | 26 => .inl (1, 400, fun _ => jI (-128) 127)
  | 27 => .inl (0, 5, fun _ => jAny)
  | 28 => .inl (0, 400, fun _ => jAny)
  | 29 => .inl (2, 256, fun _ => jAny)
  | 30 => .inl (0, 32, fun _ => jAny)
  | 31 => .inl (0, 8, fun _ => jAny)
  | 40 => .inr (.inl (0, 1000))
  | c => if 1000 ≤ c then .inr (.inl (c - 999, 1000)) else .inl (9, 0, fun _ _ => False)
theorem jKd_L {g : jGh} {x : Int} {c : Nat} (hc : c ≠ 10) : jKd (x, g.2) c = jKd g c := by
  unfold jKd
  split <;> first | rfl | exact absurd rfl hc
theorem t_pL {g : jGh} {Γ : Nat → Option Nat} {h : jH} {a : Nat} {x : Int32} (w : jW (jKd g) Γ h) (hu : ∀ a b, Γ a = some 10 → Γ b = some 10 → a = b) (ha : Γ a = some 10) : jok (jpf 8 h a 6 (.int x)) (fun h1 => jW (jKd (x.toInt, g.2)) Γ h1 ∧ jgf 8 h1 a 6 = some (.int x) ∧ jfr h h1 a 6) := by
  obtain ⟨vs, e1, e2, e3⟩ := t_obj w ha rfl
  have hlt : 6 < vs.length := by rw [e2]; exact Nat.le_of_ble_eq_true rfl
  refine ⟨jup h a (.inl (8, vs.set 6 (.int x))), ?_, ?_, ?_, jfr_up e1⟩
  · unfold jpf
    rw [e1]
    dsimp only
    rw [if_pos ⟨rfl, hlt⟩]
  · intro b c hb
    refine ⟨(w b c hb).1, ?_⟩
    show okE Γ (jKd (x.toInt, g.2) c) (if b = a then some _ else h.2 b)
    by_cases hq : b = a
    · subst hq
      cases ha.symm.trans hb
      rw [if_pos rfl]
      refine ⟨_, rfl, by rw [List.length_set]; exact e2, fun j F9 hj => ?_⟩
      by_cases hq : j = 6
      · subst hq
        cases hj
        exact ⟨.int x, by rw [List.getElem?_set_self hlt], x, rfl, rfl⟩
      · have hj2 : (match jKd g 10 with | .inr (.inr q) => q.2 | _ => [])[j]? = some F9 := by
          match j, hq, hj with
          | 0, _, hj => exact hj
          | 1, _, hj => exact hj
          | 2, _, hj => exact hj
          | 3, _, hj => exact hj
          | 4, _, hj => exact hj
          | 5, _, hj => exact hj
          | j + 7, _, hj => cases hj
        obtain ⟨v9, f1, f2⟩ := e3 j F9 hj2
        exact ⟨v9, by rw [List.getElem?_set_ne (Ne.symm hq)]; exact f1, f2⟩
    · rw [if_neg hq]
      have hc : c ≠ 10 := fun q => hq (hu b a (by rw [hb, q]) ha)
      have h9 := (w b c hb).2
      have hk : jKd (x.toInt, g.2) c = jKd g c := jKd_L hc
      rw [hk]
      exact h9
  · unfold jgf
    show (match (if a = a then some _ else h.2 a) with | some (.inl o) => if o.1 = 8 then o.2[6]? else none | _ => none) = _
    rw [if_pos rfl]
    dsimp only
    rw [if_pos rfl, List.getElem?_set_self hlt]
end
section
set_option maxHeartbeats 1000000 in
theorem S_X11_bit {g : jGh} {Γ : Nat → Option Nat} {n : Nat} {x0 : Int32} {x1 : Int32} {h : jH} (hn : 6000 ≤ n) (hg : jgok g) (w : jW (jKd g) Γ h)  : jok (F_X11_bit n x0 x1 h) (fun v => 0 ≤ v.toInt ∧ v.toInt ≤ 1) := by
  unfold F_X11_bit
  have f1 := jandR (x := (jushr x0 x1)) (y := (1 : Int32)) (c := 1) rfl (by decide)
  exact jok_s (show jI 0 1 ((jushr x0 x1) &&& (1 : Int32)) from ⟨by omega, by omega⟩)
set_option maxHeartbeats 1000000 in
theorem S_X11_withBit {g : jGh} {Γ : Nat → Option Nat} {n : Nat} {x0 : Int32} {x1 : Int32} {x2 : Int32} {h : jH} (hn : 6000 ≤ n) (hg : jgok g) (w : jW (jKd g) Γ h)  : jok (F_X11_withBit n x0 x1 x2 h) (fun v => True) := by
  unfold F_X11_withBit
  have f1 : ((0 : Int32)).toInt = 0 := rfl
  refine jok_eq (fun c2 d2 => ?_) (fun c2 => ?_)
  · exact jok_s trivial
  · exact jok_s trivial
set_option maxHeartbeats 1000000 in
theorem S_X8_gap {g : jGh} {Γ : Nat → Option Nat} {n : Nat} {a0 : Nat} {x1 : Int32} {x2 : Int32} {h : jH} (hn : 6000 ≤ n) (hg : jgok g) (w : jW (jKd g) Γ h) (ta0 : Γ a0 = some 3) : jok (F_X8_gap n a0 x1 x2 h) (fun v => True) := by
  unfold F_X8_gap
  have f1 : ((0 : Int32)).toInt = 0 := rfl
  refine jok_lt (fun c2 => ?_) (fun c2 => ?_)
  · exact jok_s trivial
  · refine jok_b2 (t_gI w ta0 rfl rfl) (fun v6_3 ev6_3 pv6_3 => ?_)
    obtain ⟨lv6_3, uv6_3⟩ := pv6_3
    have f4 : ((1 : Int32)).toInt = 1 := rfl
    have f5 : ((v6_3 - (1 : Int32))).toInt = (v6_3).toInt - ((1 : Int32)).toInt := jsub (by omega) (by omega)
    refine jok_lt (fun c6 => ?_) (fun c6 => ?_)
    · refine jok_b (t_gR w ta0 rfl rfl) (fun p19_7 tp19_7 => ?_)
      have f9 : ((x1 + (1 : Int32))).toInt = (x1).toInt + ((1 : Int32)).toInt := jadd (by omega) (by omega)
      refine jok_b (t_al w tp19_7 rfl (by omega) (by omega)) (fun v25_8 pv25_8 => ?_)
      refine jok_b (t_gR w ta0 rfl rfl) (fun p27_10 tp27_10 => ?_)
      refine jok_b (t_al w tp27_10 rfl (by omega) (by omega)) (fun v31_11 pv31_11 => ?_)
      exact jok_s trivial
    · exact jok_s trivial
set_option maxHeartbeats 1000000 in
theorem S_X8_isLit {g : jGh} {Γ : Nat → Option Nat} {n : Nat} {a0 : Nat} {x1 : Int32} {x2 : Int32} {h : jH} (hn : 6000 ≤ n) (hg : jgok g) (w : jW (jKd g) Γ h) (ta0 : Γ a0 = some 3) (lx1 : 0 ≤ x1.toInt) (ux1 : x1.toInt ≤ 7) : jok (F_X8_isLit n a0 x1 x2 h) (fun v => 0 ≤ v.toInt ∧ v.toInt ≤ 1) := by
  unfold F_X8_isLit
  refine jok_b (t_gR w ta0 rfl rfl) (fun p1_1 tp1_1 => ?_)
  refine jok_b (t_al w tp1_1 rfl (by omega) (by omega)) (fun v5_2 pv5_2 => ?_)
  have f3 : ((4 : Int32)).toInt = 4 := rfl
  refine jok_lt (fun c4 => ?_) (fun c4 => ?_)
  · have f5 : ((0 : Int32)).toInt = 0 := rfl
    exact jok_s (show jI 0 1 (0 : Int32) from ⟨by omega, by omega⟩)
  · refine jok_b (t_gR w ta0 rfl rfl) (fun p13_6 tp13_6 => ?_)
    refine jok_b (t_al w tp13_6 rfl (by omega) (by omega)) (fun v17_7 pv17_7 => ?_)
    refine jok_b2 (t_gI w ta0 rfl rfl) (fun v22_8 ev22_8 pv22_8 => ?_)
    refine jok_lt (fun c9 => ?_) (fun c9 => ?_)
    · have f10 : ((0 : Int32)).toInt = 0 := rfl
      exact jok_s (show jI 0 1 (0 : Int32) from ⟨by omega, by omega⟩)
    · have f11 : ((1 : Int32)).toInt = 1 := rfl
      exact jok_s (show jI 0 1 (1 : Int32) from ⟨by omega, by omega⟩)
set_option maxHeartbeats 1000000 in
theorem S_X8_unhooked {g : jGh} {Γ : Nat → Option Nat} {n : Nat} {a0 : Nat} {h : jH} (hn : 6000 ≤ n) (hg : jgok g) (w : jW (jKd g) Γ h) (ta0 : Γ a0 = some 3) : jok (F_X8_unhooked n a0 h) (fun v => True) := by
  unfold F_X8_unhooked
  refine jok_b2 (t_gI w ta0 rfl rfl) (fun v2_1 ev2_1 pv2_1 => ?_)
  obtain ⟨lv2_1, uv2_1⟩ := pv2_1
  refine jok_b2 (t_gI w ta0 rfl rfl) (fun v9_2 ev9_2 pv9_2 => ?_)
  exact jok_s trivial
set_option maxHeartbeats 1000000 in
theorem S_X8_nearestNew {g : jGh} {Γ : Nat → Option Nat} {n : Nat} {a0 : Nat} {h : jH} (hn : 6000 ≤ n) (hg : jgok g) (w : jW (jKd g) Γ h) (ta0 : Γ a0 = some 3) : jok (F_X8_nearestNew n a0 h) (fun v => True) := by
  unfold F_X8_nearestNew
  refine jok_b2 (t_gI w ta0 rfl rfl) (fun v1_1 ev1_1 pv1_1 => ?_)
  obtain ⟨lv1_1, uv1_1⟩ := pv1_1
  have f2 : ((0 : Int32)).toInt = 0 := rfl
  refine jok_eq (fun c3 d3 => ?_) (fun c3 => ?_)
  · exact jok_s trivial
  · refine jok_b (t_gR w ta0 rfl rfl) (fun p12_4 tp12_4 => ?_)
    refine jok_r ev1_1 ?_
    have f7 : ((1 : Int32)).toInt = 1 := rfl
    have f8 : ((v1_1 - (1 : Int32))).toInt = (v1_1).toInt - ((1 : Int32)).toInt := jsub (by omega) (by omega)
    refine jok_b (t_al w tp12_4 rfl (by omega) (by omega)) (fun v21_6 pv21_6 => ?_)
    exact jok_s trivial
set_option maxHeartbeats 1000000 in
theorem S_X8_farthestNew {g : jGh} {Γ : Nat → Option Nat} {n : Nat} {a0 : Nat} {h : jH} (hn : 6000 ≤ n) (hg : jgok g) (w : jW (jKd g) Γ h) (ta0 : Γ a0 = some 3) : jok (F_X8_farthestNew n a0 h) (fun v => True) := by
  unfold F_X8_farthestNew
  refine jok_b2 (t_gI w ta0 rfl rfl) (fun v1_1 ev1_1 pv1_1 => ?_)
  obtain ⟨lv1_1, uv1_1⟩ := pv1_1
  have f2 : ((0 : Int32)).toInt = 0 := rfl
  refine jok_eq (fun c3 d3 => ?_) (fun c3 => ?_)
  · exact jok_s trivial
  · refine jok_b (t_gR w ta0 rfl rfl) (fun p15_4 tp15_4 => ?_)
    refine jok_r ev1_1 ?_
    have f7 : ((1 : Int32)).toInt = 1 := rfl
    have f8 : ((v1_1 - (1 : Int32))).toInt = (v1_1).toInt - ((1 : Int32)).toInt := jsub (by omega) (by omega)
    refine jok_b (t_al w tp15_4 rfl (by omega) (by omega)) (fun v24_6 pv24_6 => ?_)
    refine jok_b (t_gR w ta0 rfl rfl) (fun p26_9 tp26_9 => ?_)
    refine jok_r ev1_1 ?_
    refine jok_b (t_al w tp26_9 rfl (by omega) (by omega)) (fun v35_11 pv35_11 => ?_)
    exact jok_s trivial
set_option maxHeartbeats 1000000 in
theorem S_X8_allFades_4 {g : jGh} {Γ : Nat → Option Nat} {n : Nat} (hn : 6000 ≤ n) (hg : jgok g)  (k : Nat) : ∀ {a0 : Nat} {x1 : Int32} {x2 : Int32} {h : jH}, jW (jKd g) Γ h → (Γ a0 = some 3) → (0 ≤ x2.toInt) → (x2.toInt ≤ 8) → (8 : Int) - x2.toInt < (k : Int) → jok (F_X8_allFades_4 n k a0 x1 x2 h) (fun v => True) := by
  induction k with
  | zero =>
    intro a0 x1 x2 h w ta0 lx2 ux2 mk
    omega
  | succ k ih =>
    intro a0 x1 x2 h w ta0 lx2 ux2 mk
    show jok (F_X8_allFades_4_b n (F_X8_allFades_4 n k) a0 x1 x2 h) _
    unfold F_X8_allFades_4_b
    refine jok_b2 (t_gI w ta0 rfl rfl) (fun v6_1 ev6_1 pv6_1 => ?_)
    obtain ⟨lv6_1, uv6_1⟩ := pv6_1
    refine jok_le (fun c2 => ?_) (fun c2 => ?_)
    · exact jok_s trivial
    · refine jok_b (t_gR w ta0 rfl rfl) (fun p14_3 tp14_3 => ?_)
      refine jok_b (t_al w tp14_3 rfl (by omega) (by omega)) (fun v18_4 pv18_4 => ?_)
      have f5 : ((1 : Int32)).toInt = 1 := rfl
      have f6 : ((x2 + (1 : Int32))).toInt = (x2).toInt + ((1 : Int32)).toInt := jadd (by omega) (by omega)
      exact ih w ta0 (by omega) (by omega) (by omega)
set_option maxHeartbeats 1000000 in
theorem S_X8_allFades {g : jGh} {Γ : Nat → Option Nat} {n : Nat} {a0 : Nat} {h : jH} (hn : 6000 ≤ n) (hg : jgok g) (w : jW (jKd g) Γ h) (ta0 : Γ a0 = some 3) : jok (F_X8_allFades n a0 h) (fun v => True) := by
  unfold F_X8_allFades
  have f1 : ((0 : Int32)).toInt = 0 := rfl
  exact S_X8_allFades_4 hn hg  n w ta0 (by omega) (by omega) (by omega)
set_option maxHeartbeats 1000000 in
theorem S_X8_add {g : jGh} {Γ : Nat → Option Nat} {n : Nat} {a0 : Nat} {x1 : Int32} {x2 : Int32} {h : jH} (hn : 6000 ≤ n) (hg : jgok g) (w : jW (jKd g) Γ h) (ta0 : Γ a0 = some 3) : jok (F_X8_add n a0 x1 x2 h) (fun q => jW (jKd g) Γ q) := by
  unfold F_X8_add
  refine jok_b2 (t_gI w ta0 rfl rfl) (fun v1_1 ev1_1 pv1_1 => ?_)
  obtain ⟨lv1_1, uv1_1⟩ := pv1_1
  have f2 : ((8 : Int32)).toInt = 8 := rfl
  refine jok_lt (fun c3 => ?_) (fun c3 => ?_)
  · refine jok_b (t_gR w ta0 rfl rfl) (fun p11_4 tp11_4 => ?_)
    refine jok_r ev1_1 ?_
    refine jok_b (t_as w tp11_4 rfl (by omega) (by omega) trivial (fun q => by cases q)) (fun h19_6 wh19_6 => ?_)
    obtain ⟨wh19_6, rh19_6⟩ := wh19_6
    refine jok_b (t_gR wh19_6 ta0 rfl rfl) (fun p21_7 tp21_7 => ?_)
    refine jok_r (fI (rh19_6 _ _ _) ev1_1) ?_
    refine jok_b (t_as wh19_6 tp21_7 rfl (by omega) (by omega) trivial (fun q => by cases q)) (fun h29_9 wh29_9 => ?_)
    obtain ⟨wh29_9, rh29_9⟩ := wh29_9
    refine jok_b (t_gR wh29_9 ta0 rfl rfl) (fun p31_10 tp31_10 => ?_)
    refine jok_r (fI (rh29_9 _ _ _) (fI (rh19_6 _ _ _) ev1_1)) ?_
    have f13 : ((0 : Int32)).toInt = 0 := rfl
    refine jok_b (t_as wh29_9 tp31_10 rfl (by omega) (by omega) trivial (fun q => by cases q)) (fun h39_12 wh39_12 => ?_)
    obtain ⟨wh39_12, rh39_12⟩ := wh39_12
    refine jok_b (t_gR wh39_12 ta0 rfl rfl) (fun p41_14 tp41_14 => ?_)
    refine jok_r (fI (rh39_12 _ _ _) (fI (rh29_9 _ _ _) (fI (rh19_6 _ _ _) ev1_1))) ?_
    refine jok_b (t_as wh39_12 tp41_14 rfl (by omega) (by omega) trivial (fun q => by cases q)) (fun h49_16 wh49_16 => ?_)
    obtain ⟨wh49_16, rh49_16⟩ := wh49_16
    refine jok_b2 (t_gI wh49_16 ta0 rfl rfl) (fun v52_17 ev52_17 pv52_17 => ?_)
    refine jok_r (fI (rh49_16 _ _ _) (fI (rh39_12 _ _ _) (fI (rh29_9 _ _ _) (fI (rh19_6 _ _ _) ev1_1)))) ?_
    refine jok_b (S_X11_withBit hn hg wh49_16) (fun v60_19 pv60_19 => ?_)
    refine jok_b (t_pI wh49_16 ta0 rfl rfl trivial) (fun h63_20 wh63_20 => ?_)
    obtain ⟨wh63_20, jh63_20, rh63_20⟩ := wh63_20
    refine jok_b2 (t_gI wh63_20 ta0 rfl rfl) (fun v68_21 ev68_21 pv68_21 => ?_)
    refine jok_r (fI (rh63_20 _ _ _ (Or.inr (by decide))) (fI (rh49_16 _ _ _) (fI (rh39_12 _ _ _) (fI (rh29_9 _ _ _) (fI (rh19_6 _ _ _) ev1_1))))) ?_
    refine jok_b (S_X11_withBit hn hg wh63_20) (fun v76_23 pv76_23 => ?_)
    refine jok_b (t_pI wh63_20 ta0 rfl rfl trivial) (fun h79_24 wh79_24 => ?_)
    obtain ⟨wh79_24, jh79_24, rh79_24⟩ := wh79_24
    refine jok_b2 (t_gI wh79_24 ta0 rfl rfl) (fun v84_25 ev84_25 pv84_25 => ?_)
    refine jok_r (fI (rh79_24 _ _ _ (Or.inr (by decide))) (fI (rh63_20 _ _ _ (Or.inr (by decide))) (fI (rh49_16 _ _ _) (fI (rh39_12 _ _ _) (fI (rh29_9 _ _ _) (fI (rh19_6 _ _ _) ev1_1)))))) ?_
    refine jok_b (S_X11_withBit hn hg wh79_24) (fun v92_27 pv92_27 => ?_)
    refine jok_b (t_pI wh79_24 ta0 rfl rfl trivial) (fun h95_28 wh95_28 => ?_)
    obtain ⟨wh95_28, jh95_28, rh95_28⟩ := wh95_28
    refine jok_b2 (t_gI wh95_28 ta0 rfl rfl) (fun v100_29 ev100_29 pv100_29 => ?_)
    refine jok_r (fI (rh95_28 _ _ _ (Or.inr (by decide))) (fI (rh79_24 _ _ _ (Or.inr (by decide))) (fI (rh63_20 _ _ _ (Or.inr (by decide))) (fI (rh49_16 _ _ _) (fI (rh39_12 _ _ _) (fI (rh29_9 _ _ _) (fI (rh19_6 _ _ _) ev1_1))))))) ?_
    refine jok_b (S_X11_withBit hn hg wh95_28) (fun v108_31 pv108_31 => ?_)
    refine jok_b (t_pI wh95_28 ta0 rfl rfl trivial) (fun h111_32 wh111_32 => ?_)
    obtain ⟨wh111_32, jh111_32, rh111_32⟩ := wh111_32
    refine jok_r (fI (rh111_32 _ _ _ (Or.inr (by decide))) (fI (rh95_28 _ _ _ (Or.inr (by decide))) (fI (rh79_24 _ _ _ (Or.inr (by decide))) (fI (rh63_20 _ _ _ (Or.inr (by decide))) (fI (rh49_16 _ _ _) (fI (rh39_12 _ _ _) (fI (rh29_9 _ _ _) (fI (rh19_6 _ _ _) ev1_1)))))))) ?_
    have f35 : ((1 : Int32)).toInt = 1 := rfl
    have f36 : ((v1_1 + (1 : Int32))).toInt = (v1_1).toInt + ((1 : Int32)).toInt := jadd (by omega) (by omega)
    refine jok_b (t_pI wh111_32 ta0 rfl rfl (show jI 0 8 (v1_1 + (1 : Int32)) from ⟨by omega, by omega⟩)) (fun h121_34 wh121_34 => ?_)
    obtain ⟨wh121_34, jh121_34, rh121_34⟩ := wh121_34
    exact jok_s wh121_34
  · exact jok_s w
set_option maxHeartbeats 1000000 in
theorem S_X8_hangAs {g : jGh} {Γ : Nat → Option Nat} {n : Nat} {a0 : Nat} {a1 : Nat} {h : jH} (hn : 6000 ≤ n) (hg : jgok g) (w : jW (jKd g) Γ h) (ta0 : Γ a0 = some 3) (ta1 : Γ a1 = some 3) : jok (F_X8_hangAs n a0 a1 h) (fun q => jW (jKd g) Γ q) := by
  unfold F_X8_hangAs
  refine jok_b (t_gR w ta1 rfl rfl) (fun p1_1 tp1_1 => ?_)
  refine jok_b (t_gR w ta0 rfl rfl) (fun p6_2 tp6_2 => ?_)
  refine jok_b (t_cp w tp1_1 tp6_2 rfl rfl (n := 8) rfl rfl rfl (by decide) (by decide) (fun k v q => q)) (fun h12_3 wh12_3 => ?_)
  obtain ⟨wh12_3, rh12_3⟩ := wh12_3
  refine jok_b2 (t_gI wh12_3 ta1 rfl rfl) (fun v17_4 ev17_4 pv17_4 => ?_)
  refine jok_b (t_pI wh12_3 ta0 rfl rfl trivial) (fun h20_5 wh20_5 => ?_)
  obtain ⟨wh20_5, jh20_5, rh20_5⟩ := wh20_5
  refine jok_b2 (t_gI wh20_5 ta1 rfl rfl) (fun v25_6 ev25_6 pv25_6 => ?_)
  refine jok_b (t_pI wh20_5 ta0 rfl rfl trivial) (fun h28_7 wh28_7 => ?_)
  obtain ⟨wh28_7, jh28_7, rh28_7⟩ := wh28_7
  exact jok_s wh28_7
set_option maxHeartbeats 1000000 in
theorem S_X5_copyFrom {g : jGh} {Γ : Nat → Option Nat} {n : Nat} {a0 : Nat} {a1 : Nat} {h : jH} (hn : 6000 ≤ n) (hg : jgok g) (w : jW (jKd g) Γ h) (ta0 : Γ a0 = some 2) (ta1 : Γ a1 = some 2) : jok (F_X5_copyFrom n a0 a1 h) (fun q => jW (jKd g) Γ q) := by
  unfold F_X5_copyFrom
  refine jok_b (t_gR w ta1 rfl rfl) (fun p1_1 tp1_1 => ?_)
  refine jok_b (t_gR w ta0 rfl rfl) (fun p6_2 tp6_2 => ?_)
  refine jok_b (t_cp w tp1_1 tp6_2 rfl rfl (n := 60) rfl rfl rfl (by decide) (by decide) (fun k v q => q)) (fun h12_3 wh12_3 => ?_)
  obtain ⟨wh12_3, rh12_3⟩ := wh12_3
  refine jok_b2 (t_gI wh12_3 ta1 rfl rfl) (fun v17_4 ev17_4 pv17_4 => ?_)
  obtain ⟨lv17_4, uv17_4⟩ := pv17_4
  refine jok_b (t_pI wh12_3 ta0 rfl rfl (show jI 0 60 v17_4 from ⟨by omega, by omega⟩)) (fun h20_5 wh20_5 => ?_)
  obtain ⟨wh20_5, jh20_5, rh20_5⟩ := wh20_5
  refine jok_b2 (t_gI wh20_5 ta1 rfl rfl) (fun v25_6 ev25_6 pv25_6 => ?_)
  obtain ⟨lv25_6, uv25_6⟩ := pv25_6
  refine jok_b (t_pI wh20_5 ta0 rfl rfl (show jI 0 59 v25_6 from ⟨by omega, by omega⟩)) (fun h28_7 wh28_7 => ?_)
  obtain ⟨wh28_7, jh28_7, rh28_7⟩ := wh28_7
  exact jok_s wh28_7
set_option maxHeartbeats 1000000 in
theorem S_X8_copyFrom {g : jGh} {Γ : Nat → Option Nat} {n : Nat} {a0 : Nat} {a1 : Nat} {h : jH} (hn : 6000 ≤ n) (hg : jgok g) (w : jW (jKd g) Γ h) (ta0 : Γ a0 = some 3) (ta1 : Γ a1 = some 3) : jok (F_X8_copyFrom n a0 a1 h) (fun q => jW (jKd g) Γ q) := by
  unfold F_X8_copyFrom
  refine jok_b (t_gR w ta1 rfl rfl) (fun p1_1 tp1_1 => ?_)
  refine jok_b (t_gR w ta0 rfl rfl) (fun p6_2 tp6_2 => ?_)
  refine jok_b (t_cp w tp1_1 tp6_2 rfl rfl (n := 8) rfl rfl rfl (by decide) (by decide) (fun k v q => q)) (fun h12_3 wh12_3 => ?_)
  obtain ⟨wh12_3, rh12_3⟩ := wh12_3
  refine jok_b (t_gR wh12_3 ta1 rfl rfl) (fun p16_4 tp16_4 => ?_)
  refine jok_b (t_gR wh12_3 ta0 rfl rfl) (fun p21_5 tp21_5 => ?_)
  refine jok_b (t_cp wh12_3 tp16_4 tp21_5 rfl rfl (n := 8) rfl rfl rfl (by decide) (by decide) (fun k v q => q)) (fun h27_6 wh27_6 => ?_)
  obtain ⟨wh27_6, rh27_6⟩ := wh27_6
  refine jok_b (t_gR wh27_6 ta1 rfl rfl) (fun p31_7 tp31_7 => ?_)
  refine jok_b (t_gR wh27_6 ta0 rfl rfl) (fun p36_8 tp36_8 => ?_)
  refine jok_b (t_cp wh27_6 tp31_7 tp36_8 rfl rfl (n := 8) rfl rfl rfl (by decide) (by decide) (fun k v q => q)) (fun h42_9 wh42_9 => ?_)
  obtain ⟨wh42_9, rh42_9⟩ := wh42_9
  refine jok_b (t_gR wh42_9 ta0 rfl rfl) (fun p46_10 tp46_10 => ?_)
  refine jok_b (t_gR wh42_9 ta1 rfl rfl) (fun p50_11 tp50_11 => ?_)
  try rw [t_cv wh42_9 tp46_10 rfl]
  refine jok_b (S_X5_copyFrom hn hg wh42_9 tp46_10 tp50_11) (fun h53_12 wh53_12 => ?_)
  refine jok_b2 (t_gI wh53_12 ta1 rfl rfl) (fun v58_13 ev58_13 pv58_13 => ?_)
  obtain ⟨lv58_13, uv58_13⟩ := pv58_13
  refine jok_b (t_pI wh53_12 ta0 rfl rfl (show jI 0 8 v58_13 from ⟨by omega, by omega⟩)) (fun h61_14 wh61_14 => ?_)
  obtain ⟨wh61_14, jh61_14, rh61_14⟩ := wh61_14
  refine jok_b2 (t_gI wh61_14 ta1 rfl rfl) (fun v66_15 ev66_15 pv66_15 => ?_)
  refine jok_b (t_pI wh61_14 ta0 rfl rfl trivial) (fun h69_16 wh69_16 => ?_)
  obtain ⟨wh69_16, jh69_16, rh69_16⟩ := wh69_16
  refine jok_b2 (t_gI wh69_16 ta1 rfl rfl) (fun v74_17 ev74_17 pv74_17 => ?_)
  refine jok_b (t_pI wh69_16 ta0 rfl rfl trivial) (fun h77_18 wh77_18 => ?_)
  obtain ⟨wh77_18, jh77_18, rh77_18⟩ := wh77_18
  refine jok_b2 (t_gI wh77_18 ta1 rfl rfl) (fun v82_19 ev82_19 pv82_19 => ?_)
  refine jok_b (t_pI wh77_18 ta0 rfl rfl trivial) (fun h85_20 wh85_20 => ?_)
  obtain ⟨wh85_20, jh85_20, rh85_20⟩ := wh85_20
  refine jok_b2 (t_gI wh85_20 ta1 rfl rfl) (fun v90_21 ev90_21 pv90_21 => ?_)
  refine jok_b (t_pI wh85_20 ta0 rfl rfl trivial) (fun h93_22 wh93_22 => ?_)
  obtain ⟨wh93_22, jh93_22, rh93_22⟩ := wh93_22
  refine jok_b2 (t_gI wh93_22 ta1 rfl rfl) (fun v98_23 ev98_23 pv98_23 => ?_)
  refine jok_b (t_pI wh93_22 ta0 rfl rfl trivial) (fun h101_24 wh101_24 => ?_)
  obtain ⟨wh101_24, jh101_24, rh101_24⟩ := wh101_24
  refine jok_b2 (t_gI wh101_24 ta1 rfl rfl) (fun v106_25 ev106_25 pv106_25 => ?_)
  refine jok_b (t_pI wh101_24 ta0 rfl rfl trivial) (fun h109_26 wh109_26 => ?_)
  obtain ⟨wh109_26, jh109_26, rh109_26⟩ := wh109_26
  refine jok_b2 (t_gI wh109_26 ta1 rfl rfl) (fun v114_27 ev114_27 pv114_27 => ?_)
  refine jok_b (t_pI wh109_26 ta0 rfl rfl trivial) (fun h117_28 wh117_28 => ?_)
  obtain ⟨wh117_28, jh117_28, rh117_28⟩ := wh117_28
  refine jok_b2 (t_gI wh117_28 ta1 rfl rfl) (fun v122_29 ev122_29 pv122_29 => ?_)
  refine jok_b (t_pI wh117_28 ta0 rfl rfl trivial) (fun h125_30 wh125_30 => ?_)
  obtain ⟨wh125_30, jh125_30, rh125_30⟩ := wh125_30
  refine jok_b2 (t_gI wh125_30 ta1 rfl rfl) (fun v130_31 ev130_31 pv130_31 => ?_)
  refine jok_b (t_pI wh125_30 ta0 rfl rfl trivial) (fun h133_32 wh133_32 => ?_)
  obtain ⟨wh133_32, jh133_32, rh133_32⟩ := wh133_32
  refine jok_b2 (t_gI wh133_32 ta1 rfl rfl) (fun v138_33 ev138_33 pv138_33 => ?_)
  refine jok_b (t_pI wh133_32 ta0 rfl rfl trivial) (fun h141_34 wh141_34 => ?_)
  obtain ⟨wh141_34, jh141_34, rh141_34⟩ := wh141_34
  try rw [t_cv wh141_34 ta0 rfl]
  refine jok_b (S_X8_hangAs hn hg wh141_34 ta0 ta1) (fun h146_35 wh146_35 => ?_)
  exact jok_s wh146_35
set_option maxHeartbeats 1000000 in
theorem S_X2_untoldAmount {g : jGh} {Γ : Nat → Option Nat} {n : Nat} {x0 : Int32} {a1 : Nat} {x2 : Int32} {h : jH} (hn : 6000 ≤ n) (hg : jgok g) (w : jW (jKd g) Γ h) (ta1 : Γ a1 = some 3) (lx2 : 0 ≤ x2.toInt) (ux2 : x2.toInt ≤ 7) : jok (F_X2_untoldAmount n x0 a1 x2 h) (fun v => True) := by
  unfold F_X2_untoldAmount
  have f1 : ((0 : Int32)).toInt = 0 := rfl
  refine jok_eq (fun c2 d2 => ?_) (fun c2 => ?_)
  · refine jok_b2 (t_gI w ta1 rfl rfl) (fun v7_3 ev7_3 pv7_3 => ?_)
    try rw [t_cv w ta1 rfl]
    refine jok_b (S_X8_isLit hn hg w ta1 (by omega) (by omega)) (fun v10_4 pv10_4 => ?_)
    obtain ⟨lv10_4, uv10_4⟩ := pv10_4
    refine jok_eq (fun c5 d5 => ?_) (fun c5 => ?_)
    · exact jok_s trivial
    · exact jok_s trivial
  · have f6 : ((1 : Int32)).toInt = 1 := rfl
    refine jok_eq (fun c7 d7 => ?_) (fun c7 => ?_)
    · exact jok_s trivial
    · exact jok_s trivial
set_option maxHeartbeats 1000000 in
theorem S_X2_isValue {g : jGh} {Γ : Nat → Option Nat} {n : Nat} {x0 : Int32} {h : jH} (hn : 6000 ≤ n) (hg : jgok g) (w : jW (jKd g) Γ h)  : jok (F_X2_isValue n x0 h) (fun v => 0 ≤ v.toInt ∧ v.toInt ≤ 1) := by
  unfold F_X2_isValue
  have f1 : ((256 : Int32)).toInt = 256 := rfl
  refine jok_le (fun c2 => ?_) (fun c2 => ?_)
  · have f3 : ((1 : Int32)).toInt = 1 := rfl
    exact jok_s (show jI 0 1 (1 : Int32) from ⟨by omega, by omega⟩)
  · have f4 : ((10 : Int32)).toInt = 10 := rfl
    refine jok_lt (fun c5 => ?_) (fun c5 => ?_)
    · have f6 : ((0 : Int32)).toInt = 0 := rfl
      exact jok_s (show jI 0 1 (0 : Int32) from ⟨by omega, by omega⟩)
    · have f7 : ((1 : Int32)).toInt = 1 := rfl
      exact jok_s (show jI 0 1 (1 : Int32) from ⟨by omega, by omega⟩)
set_option maxHeartbeats 1000000 in
theorem S_X2_push {g : jGh} {Γ : Nat → Option Nat} {n : Nat} {a0 : Nat} {x1 : Int32} {h : jH} (hn : 6000 ≤ n) (hg : jgok g) (w : jW (jKd g) Γ h) (ta0 : Γ a0 = some 8) : jok (F_X2_push n a0 x1 h) (fun q => jW (jKd g) Γ q) := by
  unfold F_X2_push
  refine jok_b2 (t_gI w ta0 rfl rfl) (fun v1_1 ev1_1 pv1_1 => ?_)
  obtain ⟨lv1_1, uv1_1⟩ := pv1_1
  have f2 : ((24 : Int32)).toInt = 24 := rfl
  refine jok_le (fun c3 => ?_) (fun c3 => ?_)
  · exact jok_s w
  · refine jok_b (t_gR w ta0 rfl rfl) (fun p10_4 tp10_4 => ?_)
    refine jok_r ev1_1 ?_
    refine jok_b (t_as w tp10_4 rfl (by omega) (by omega) trivial (fun q => by cases q)) (fun h18_6 wh18_6 => ?_)
    obtain ⟨wh18_6, rh18_6⟩ := wh18_6
    refine jok_r (fI (rh18_6 _ _ _) ev1_1) ?_
    have f9 : ((1 : Int32)).toInt = 1 := rfl
    have f10 : ((v1_1 + (1 : Int32))).toInt = (v1_1).toInt + ((1 : Int32)).toInt := jadd (by omega) (by omega)
    refine jok_b (t_pI wh18_6 ta0 rfl rfl (show jI 0 24 (v1_1 + (1 : Int32)) from ⟨by omega, by omega⟩)) (fun h26_8 wh26_8 => ?_)
    obtain ⟨wh26_8, jh26_8, rh26_8⟩ := wh26_8
    exact jok_s wh26_8
set_option maxHeartbeats 1000000 in
theorem S_X2_pop {g : jGh} {Γ : Nat → Option Nat} {n : Nat} {a0 : Nat} {h : jH} (hn : 6000 ≤ n) (hg : jgok g) (w : jW (jKd g) Γ h) (ta0 : Γ a0 = some 8) : jok (F_X2_pop n a0 h) (fun q => jW (jKd g) Γ q.2 ∧ (fun v : Int32 => True) q.1) := by
  unfold F_X2_pop
  refine jok_b2 (t_gI w ta0 rfl rfl) (fun v1_1 ev1_1 pv1_1 => ?_)
  obtain ⟨lv1_1, uv1_1⟩ := pv1_1
  have f2 : ((0 : Int32)).toInt = 0 := rfl
  refine jok_lt (fun c3 => ?_) (fun c3 => ?_)
  · refine jok_r ev1_1 ?_
    have f6 : ((1 : Int32)).toInt = 1 := rfl
    have f7 : ((v1_1 - (1 : Int32))).toInt = (v1_1).toInt - ((1 : Int32)).toInt := jsub (by omega) (by omega)
    refine jok_b (t_pI w ta0 rfl rfl (show jI 0 24 (v1_1 - (1 : Int32)) from ⟨by omega, by omega⟩)) (fun h16_5 wh16_5 => ?_)
    obtain ⟨wh16_5, jh16_5, rh16_5⟩ := wh16_5
    refine jok_b (t_gR wh16_5 ta0 rfl rfl) (fun p20_8 tp20_8 => ?_)
    refine jok_r (fJ jh16_5) ?_
    refine jok_b (t_al wh16_5 tp20_8 rfl (by omega) (by omega)) (fun v27_10 pv27_10 => ?_)
    exact jok_s ⟨wh16_5, trivial⟩
  · exact jok_s ⟨w, trivial⟩
set_option maxHeartbeats 1000000 in
theorem S_X2_value {g : jGh} {Γ : Nat → Option Nat} {n : Nat} {x0 : Int32} {a1 : Nat} {x2 : Int32} {h : jH} (hn : 6000 ≤ n) (hg : jgok g) (w : jW (jKd g) Γ h) (ta1 : Γ a1 = some 3) (lx2 : 0 ≤ x2.toInt) (ux2 : x2.toInt ≤ 7) : jok (F_X2_value n x0 a1 x2 h) (fun v => True) := by
  unfold F_X2_value
  have f1 : ((0 : Int32)).toInt = 0 := rfl
  refine jok_eq (fun c2 d2 => ?_) (fun c2 => ?_)
  · exact jok_s trivial
  · have f3 : ((1 : Int32)).toInt = 1 := rfl
    refine jok_eq (fun c4 d4 => ?_) (fun c4 => ?_)
    · refine jok_b (t_gR w ta1 rfl rfl) (fun p63_5 tp63_5 => ?_)
      refine jok_b (t_al w tp63_5 rfl (by omega) (by omega)) (fun v67_6 pv67_6 => ?_)
      exact jok_s trivial
    · have f7 : ((2 : Int32)).toInt = 2 := rfl
      refine jok_eq (fun c8 d8 => ?_) (fun c8 => ?_)
      · try rw [t_cv w ta1 rfl]
        refine jok_b (S_X8_gap hn hg w ta1) (fun v73_9 pv73_9 => ?_)
        exact jok_s trivial
      · have f10 : ((3 : Int32)).toInt = 3 := rfl
        refine jok_eq (fun c11 d11 => ?_) (fun c11 => ?_)
        · refine jok_b (t_gR w ta1 rfl rfl) (fun p78_12 tp78_12 => ?_)
          refine jok_b (t_al w tp78_12 rfl (by omega) (by omega)) (fun v82_13 pv82_13 => ?_)
          exact jok_s trivial
        · have f14 : ((4 : Int32)).toInt = 4 := rfl
          refine jok_eq (fun c15 d15 => ?_) (fun c15 => ?_)
          · refine jok_b (t_gR w ta1 rfl rfl) (fun p85_16 tp85_16 => ?_)
            refine jok_b (t_al w tp85_16 rfl (by omega) (by omega)) (fun v89_17 pv89_17 => ?_)
            exact jok_s trivial
          · have f18 : ((5 : Int32)).toInt = 5 := rfl
            refine jok_eq (fun c19 d19 => ?_) (fun c19 => ?_)
            · refine jok_b2 (t_gI w ta1 rfl rfl) (fun v92_20 ev92_20 pv92_20 => ?_)
              exact jok_s trivial
            · have f21 : ((6 : Int32)).toInt = 6 := rfl
              refine jok_eq (fun c22 d22 => ?_) (fun c22 => ?_)
              · refine jok_b2 (t_gI w ta1 rfl rfl) (fun v97_23 ev97_23 pv97_23 => ?_)
                exact jok_s trivial
              · have f24 : ((7 : Int32)).toInt = 7 := rfl
                refine jok_eq (fun c25 d25 => ?_) (fun c25 => ?_)
                · refine jok_b2 (t_gI w ta1 rfl rfl) (fun v102_26 ev102_26 pv102_26 => ?_)
                  refine jok_b (S_X11_bit hn hg w) (fun v106_27 pv106_27 => ?_)
                  obtain ⟨lv106_27, uv106_27⟩ := pv106_27
                  exact jok_s trivial
                · have f28 : ((8 : Int32)).toInt = 8 := rfl
                  refine jok_eq (fun c29 d29 => ?_) (fun c29 => ?_)
                  · refine jok_b2 (t_gI w ta1 rfl rfl) (fun v111_30 ev111_30 pv111_30 => ?_)
                    refine jok_b (S_X11_bit hn hg w) (fun v115_31 pv115_31 => ?_)
                    obtain ⟨lv115_31, uv115_31⟩ := pv115_31
                    exact jok_s trivial
                  · have f32 : ((9 : Int32)).toInt = 9 := rfl
                    refine jok_eq (fun c33 d33 => ?_) (fun c33 => ?_)
                    · refine jok_b2 (t_gI w ta1 rfl rfl) (fun v122_34 ev122_34 pv122_34 => ?_)
                      try rw [t_cv w ta1 rfl]
                      refine jok_b (S_X8_isLit hn hg w ta1 (by omega) (by omega)) (fun v125_35 pv125_35 => ?_)
                      obtain ⟨lv125_35, uv125_35⟩ := pv125_35
                      refine jok_eq (fun c36 d36 => ?_) (fun c36 => ?_)
                      · exact jok_s trivial
                      · exact jok_s trivial
                    · have f37 : ((10 : Int32)).toInt = 10 := rfl
                      refine jok_eq (fun c38 d38 => ?_) (fun c38 => ?_)
                      · refine jok_b2 (t_gI w ta1 rfl rfl) (fun v138_39 ev138_39 pv138_39 => ?_)
                        refine jok_b (S_X11_bit hn hg w) (fun v142_40 pv142_40 => ?_)
                        obtain ⟨lv142_40, uv142_40⟩ := pv142_40
                        exact jok_s trivial
                      · exact jok_s trivial
set_option maxHeartbeats 1000000 in
theorem S_X2_joined {g : jGh} {Γ : Nat → Option Nat} {n : Nat} {x0 : Int32} {x1 : Int32} {x2 : Int32} {h : jH} (hn : 6000 ≤ n) (hg : jgok g) (w : jW (jKd g) Γ h)  : jok (F_X2_joined n x0 x1 x2 h) (fun v => True) := by
  unfold F_X2_joined
  have f1 : ((12 : Int32)).toInt = 12 := rfl
  refine jok_eq (fun c2 d2 => ?_) (fun c2 => ?_)
  · exact jok_s trivial
  · have f3 : ((43 : Int32)).toInt = 43 := rfl
    refine jok_eq (fun c4 d4 => ?_) (fun c4 => ?_)
    · exact jok_s trivial
    · have f5 : ((60 : Int32)).toInt = 60 := rfl
      refine jok_eq (fun c6 d6 => ?_) (fun c6 => ?_)
      · refine jok_le (fun c7 => ?_) (fun c7 => ?_)
        · exact jok_s trivial
        · exact jok_s trivial
      · have f8 : ((62 : Int32)).toInt = 62 := rfl
        refine jok_eq (fun c9 d9 => ?_) (fun c9 => ?_)
        · refine jok_le (fun c10 => ?_) (fun c10 => ?_)
          · exact jok_s trivial
          · exact jok_s trivial
        · exact jok_s trivial
set_option maxHeartbeats 1000000 in
theorem S_X2_holds_23 {g : jGh} {Γ : Nat → Option Nat} {n : Nat} (hn : 6000 ≤ n) (hg : jgok g)  (k : Nat) : ∀ {a0 : Nat} {x1 : Int32} {a2 : Nat} {x3 : Int32} {x4 : Int32} {h : jH}, jW (jKd g) Γ h → (Γ a0 = some 8) → (0 ≤ x1.toInt) → (x1.toInt ≤ 11) → (Γ a2 = some 3) → (0 ≤ x3.toInt) → (x3.toInt ≤ 7) → (0 ≤ x4.toInt) → (x4.toInt ≤ 400) → (400 : Int) - x4.toInt < (k : Int) → jok (F_X2_holds_23 n k a0 x1 a2 x3 x4 h) (fun q => jW (jKd g) Γ q.2 ∧ (fun v : Int32 => 0 ≤ v.toInt ∧ v.toInt ≤ 1) q.1) := by
  induction k with
  | zero =>
    intro a0 x1 a2 x3 x4 h w ta0 lx1 ux1 ta2 lx3 ux3 lx4 ux4 mk
    omega
  | succ k ih =>
    intro a0 x1 a2 x3 x4 h w ta0 lx1 ux1 ta2 lx3 ux3 lx4 ux4 mk
    show jok (F_X2_holds_23_b n (F_X2_holds_23 n k) a0 x1 a2 x3 x4 h) _
    unfold F_X2_holds_23_b
    refine jok_b (t_gR w ta0 rfl rfl) (fun p26_1 tp26_1 => ?_)
    refine jok_b (t_al w tp26_1 rfl (by omega) (by omega)) (fun v30_2 pv30_2 => ?_)
    obtain ⟨lv30_2, uv30_2⟩ := pv30_2
    refine jok_le (fun c3 => ?_) (fun c3 => ?_)
    · refine jok_b2 (t_gI w ta0 rfl rfl) (fun v113_4 ev113_4 pv113_4 => ?_)
      obtain ⟨lv113_4, uv113_4⟩ := pv113_4
      have f5 : ((0 : Int32)).toInt = 0 := rfl
      refine jok_eq (fun c6 d6 => ?_) (fun c6 => ?_)
      · have f7 : ((1 : Int32)).toInt = 1 := rfl
        exact jok_s ⟨w, (show jI 0 1 (1 : Int32) from ⟨by omega, by omega⟩)⟩
      · try rw [t_cv w ta0 rfl]
        refine jok_b (S_X2_pop hn hg w ta0) (fun q120_8 wq120_8 => ?_)
        obtain ⟨wq120_8, pq120_8⟩ := wq120_8
        refine jok_eq (fun c9 d9 => ?_) (fun c9 => ?_)
        · exact jok_s ⟨wq120_8, (show jI 0 1 (0 : Int32) from ⟨by omega, by omega⟩)⟩
        · have f10 : ((1 : Int32)).toInt = 1 := rfl
          exact jok_s ⟨wq120_8, (show jI 0 1 (1 : Int32) from ⟨by omega, by omega⟩)⟩
    · refine jok_b (t_gR w ta0 rfl rfl) (fun p35_11 tp35_11 => ?_)
      refine jok_b (t_al w tp35_11 rfl (by omega) (by omega)) (fun v40_12 pv40_12 => ?_)
      refine jok_b (S_X2_isValue hn hg w) (fun v45_13 pv45_13 => ?_)
      obtain ⟨lv45_13, uv45_13⟩ := pv45_13
      have f14 : ((0 : Int32)).toInt = 0 := rfl
      refine jok_eq (fun c15 d15 => ?_) (fun c15 => ?_)
      · have f16 : ((11 : Int32)).toInt = 11 := rfl
        refine jok_eq (fun c17 d17 => ?_) (fun c17 => ?_)
        · try rw [t_cv w ta0 rfl]
          refine jok_b (S_X2_pop hn hg w ta0) (fun q75_18 wq75_18 => ?_)
          obtain ⟨wq75_18, pq75_18⟩ := wq75_18
          try rw [t_cv wq75_18 ta0 rfl]
          refine jok_b (S_X2_push hn hg wq75_18 ta0) (fun h79_19 wh79_19 => ?_)
          have f20 : ((1 : Int32)).toInt = 1 := rfl
          have f21 : ((x4 + (1 : Int32))).toInt = (x4).toInt + ((1 : Int32)).toInt := jadd (by omega) (by omega)
          exact ih wh79_19 ta0 (by omega) (by omega) ta2 (by omega) (by omega) (by omega) (by omega) (by omega)
        · try rw [t_cv w ta0 rfl]
          refine jok_b (S_X2_pop hn hg w ta0) (fun q86_22 wq86_22 => ?_)
          obtain ⟨wq86_22, pq86_22⟩ := wq86_22
          try rw [t_cv wq86_22 ta0 rfl]
          refine jok_b (S_X2_pop hn hg wq86_22 ta0) (fun q95_23 wq95_23 => ?_)
          obtain ⟨wq95_23, pq95_23⟩ := wq95_23
          refine jok_b (S_X2_joined hn hg wq95_23) (fun v100_24 pv100_24 => ?_)
          try rw [t_cv wq95_23 ta0 rfl]
          refine jok_b (S_X2_push hn hg wq95_23 ta0) (fun h103_25 wh103_25 => ?_)
          have f26 : ((1 : Int32)).toInt = 1 := rfl
          have f27 : ((x4 + (1 : Int32))).toInt = (x4).toInt + ((1 : Int32)).toInt := jadd (by omega) (by omega)
          exact ih wh103_25 ta0 (by omega) (by omega) ta2 (by omega) (by omega) (by omega) (by omega) (by omega)
      · refine jok_b (S_X2_value hn hg w ta2 (by omega) (by omega)) (fun v56_28 pv56_28 => ?_)
        try rw [t_cv w ta0 rfl]
        refine jok_b (S_X2_push hn hg w ta0) (fun h59_29 wh59_29 => ?_)
        have f30 : ((1 : Int32)).toInt = 1 := rfl
        have f31 : ((x4 + (1 : Int32))).toInt = (x4).toInt + ((1 : Int32)).toInt := jadd (by omega) (by omega)
        exact ih wh59_29 ta0 (by omega) (by omega) ta2 (by omega) (by omega) (by omega) (by omega) (by omega)
set_option maxHeartbeats 1000000 in
theorem S_X2_holds {g : jGh} {Γ : Nat → Option Nat} {n : Nat} {a0 : Nat} {x1 : Int32} {a2 : Nat} {x3 : Int32} {h : jH} (hn : 6000 ≤ n) (hg : jgok g) (w : jW (jKd g) Γ h) (ta0 : Γ a0 = some 8) (lx1 : 0 ≤ x1.toInt) (ux1 : x1.toInt ≤ 11) (ta2 : Γ a2 = some 3) (lx3 : 0 ≤ x3.toInt) (ux3 : x3.toInt ≤ 7) : jok (F_X2_holds n a0 x1 a2 x3 h) (fun q => jW (jKd g) Γ q.2 ∧ (fun v : Int32 => 0 ≤ v.toInt ∧ v.toInt ≤ 1) q.1) := by
  unfold F_X2_holds
  have f2 : ((0 : Int32)).toInt = 0 := rfl
  refine jok_b (t_pI w ta0 rfl rfl (show jI 0 24 (0 : Int32) from ⟨by omega, by omega⟩)) (fun h2_1 wh2_1 => ?_)
  obtain ⟨wh2_1, jh2_1, rh2_1⟩ := wh2_1
  refine jok_eq (fun c3 d3 => ?_) (fun c3 => ?_)
  · exact S_X2_holds_23 hn hg  n wh2_1 ta0 (by omega) (by omega) ta2 (by omega) (by omega) (by omega) (by omega) (by omega)
  · refine jok_b (t_gR wh2_1 ta0 rfl rfl) (fun p14_4 tp14_4 => ?_)
    have f6 : ((1 : Int32)).toInt = 1 := rfl
    have f7 : ((x1 - (1 : Int32))).toInt = (x1).toInt - ((1 : Int32)).toInt := jsub (by omega) (by omega)
    refine jok_b (t_al wh2_1 tp14_4 rfl (by omega) (by omega)) (fun v20_5 pv20_5 => ?_)
    obtain ⟨lv20_5, uv20_5⟩ := pv20_5
    exact S_X2_holds_23 hn hg  n wh2_1 ta0 (by omega) (by omega) ta2 (by omega) (by omega) (by omega) (by omega) (by omega)
set_option maxHeartbeats 1000000 in
theorem S_X2_amount_20 {g : jGh} {Γ : Nat → Option Nat} {n : Nat} (hn : 6000 ≤ n) (hg : jgok g)  (k : Nat) : ∀ {a0 : Nat} {x1 : Int32} {a2 : Nat} {x3 : Int32} {x4 : Int32} {x5 : Int32} {h : jH}, jW (jKd g) Γ h → (Γ a0 = some 8) → (Γ a2 = some 3) → (0 ≤ x3.toInt) → (x3.toInt ≤ 7) → (0 ≤ x5.toInt) → (x5.toInt ≤ 12) → (12 : Int) - x5.toInt < (k : Int) → jok (F_X2_amount_20 n k a0 x1 a2 x3 x4 x5 h) (fun q => jW (jKd g) Γ q.2 ∧ (fun v : Int32 => True) q.1) := by
  induction k with
  | zero =>
    intro a0 x1 a2 x3 x4 x5 h w ta0 ta2 lx3 ux3 lx5 ux5 mk
    omega
  | succ k ih =>
    intro a0 x1 a2 x3 x4 x5 h w ta0 ta2 lx3 ux3 lx5 ux5 mk
    show jok (F_X2_amount_20_b n (F_X2_amount_20 n k) a0 x1 a2 x3 x4 x5 h) _
    unfold F_X2_amount_20_b
    refine jok_b2 (t_gI w ta0 rfl rfl) (fun v23_1 ev23_1 pv23_1 => ?_)
    obtain ⟨lv23_1, uv23_1⟩ := pv23_1
    refine jok_le (fun c2 => ?_) (fun c2 => ?_)
    · exact jok_s ⟨w, trivial⟩
    · refine jok_b (t_gR w ta0 rfl rfl) (fun p30_3 tp30_3 => ?_)
      refine jok_b (t_al w tp30_3 rfl (by omega) (by omega)) (fun v35_4 pv35_4 => ?_)
      refine jok_eq (fun c5 d5 => ?_) (fun c5 => ?_)
      · try rw [t_cv w ta0 rfl]
        refine jok_b (S_X2_holds hn hg w ta0 (by omega) (by omega) ta2 (by omega) (by omega)) (fun q45_6 wq45_6 => ?_)
        obtain ⟨wq45_6, pq45_6⟩ := wq45_6
        obtain ⟨lq45_6, uq45_6⟩ := pq45_6
        have f7 : ((0 : Int32)).toInt = 0 := rfl
        refine jok_eq (fun c8 d8 => ?_) (fun c8 => ?_)
        · have f9 : ((1 : Int32)).toInt = 1 := rfl
          have f10 : ((x5 + (1 : Int32))).toInt = (x5).toInt + ((1 : Int32)).toInt := jadd (by omega) (by omega)
          exact ih wq45_6 ta0 ta2 (by omega) (by omega) (by omega) (by omega) (by omega)
        · refine jok_b (t_gR wq45_6 ta0 rfl rfl) (fun p54_11 tp54_11 => ?_)
          refine jok_b (t_al wq45_6 tp54_11 rfl (by omega) (by omega)) (fun v59_12 pv59_12 => ?_)
          have f13 : ((1 : Int32)).toInt = 1 := rfl
          have f14 : ((x5 + (1 : Int32))).toInt = (x5).toInt + ((1 : Int32)).toInt := jadd (by omega) (by omega)
          exact ih wq45_6 ta0 ta2 (by omega) (by omega) (by omega) (by omega) (by omega)
      · have f15 : ((1 : Int32)).toInt = 1 := rfl
        have f16 : ((x5 + (1 : Int32))).toInt = (x5).toInt + ((1 : Int32)).toInt := jadd (by omega) (by omega)
        exact ih w ta0 ta2 (by omega) (by omega) (by omega) (by omega) (by omega)
set_option maxHeartbeats 1000000 in
theorem S_X2_amount {g : jGh} {Γ : Nat → Option Nat} {n : Nat} {a0 : Nat} {x1 : Int32} {a2 : Nat} {x3 : Int32} {h : jH} (hn : 6000 ≤ n) (hg : jgok g) (w : jW (jKd g) Γ h) (ta0 : Γ a0 = some 8) (ta2 : Γ a2 = some 3) (lx3 : 0 ≤ x3.toInt) (ux3 : x3.toInt ≤ 7) : jok (F_X2_amount n a0 x1 a2 x3 h) (fun q => jW (jKd g) Γ q.2 ∧ (fun v : Int32 => True) q.1) := by
  unfold F_X2_amount
  refine jok_b2 (t_gI w ta0 rfl rfl) (fun v1_1 ev1_1 pv1_1 => ?_)
  obtain ⟨lv1_1, uv1_1⟩ := pv1_1
  have f2 : ((0 : Int32)).toInt = 0 := rfl
  refine jok_eq (fun c3 d3 => ?_) (fun c3 => ?_)
  · refine jok_b (S_X2_untoldAmount hn hg w ta2 (by omega) (by omega)) (fun v10_4 pv10_4 => ?_)
    exact jok_s ⟨w, trivial⟩
  · exact S_X2_amount_20 hn hg  n w ta0 ta2 (by omega) (by omega) (by omega) (by omega) (by omega)
set_option maxHeartbeats 1000000 in
theorem S_X1_fadeAll_2 {g : jGh} {Γ : Nat → Option Nat} {n : Nat} (hn : 6000 ≤ n) (hg : jgok g)  (k : Nat) : ∀ {a0 : Nat} {a1 : Nat} {x2 : Int32} {h : jH}, jW (jKd g) Γ h → (Γ a0 = some 15) → (Γ a1 = some 3) → (0 ≤ x2.toInt) → (x2.toInt ≤ 8) → (8 : Int) - x2.toInt < (k : Int) → jok (F_X1_fadeAll_2 n k a0 a1 x2 h) (fun q => jW (jKd g) Γ q) := by
  induction k with
  | zero =>
    intro a0 a1 x2 h w ta0 ta1 lx2 ux2 mk
    omega
  | succ k ih =>
    intro a0 a1 x2 h w ta0 ta1 lx2 ux2 mk
    show jok (F_X1_fadeAll_2_b n (F_X1_fadeAll_2 n k) a0 a1 x2 h) _
    unfold F_X1_fadeAll_2_b
    refine jok_b2 (t_gI w ta1 rfl rfl) (fun v4_1 ev4_1 pv4_1 => ?_)
    obtain ⟨lv4_1, uv4_1⟩ := pv4_1
    refine jok_le (fun c2 => ?_) (fun c2 => ?_)
    · exact jok_s w
    · refine jok_b (t_gR w ta1 rfl rfl) (fun p11_3 tp11_3 => ?_)
      refine jok_b (t_gR w ta1 rfl rfl) (fun p18_4 tp18_4 => ?_)
      refine jok_b (t_al w tp18_4 rfl (by omega) (by omega)) (fun v22_5 pv22_5 => ?_)
      refine jok_b (t_gR w ta0 rfl rfl) (fun p24_6 tp24_6 => ?_)
      try rw [t_cv w tp24_6 rfl]
      refine jok_b (S_X2_amount hn hg w tp24_6 ta1 (by omega) (by omega)) (fun q30_7 wq30_7 => ?_)
      obtain ⟨wq30_7, pq30_7⟩ := wq30_7
      have f9 : ((99 : Int32)).toInt = 99 := rfl
      refine jok_b (t_as wq30_7 tp11_3 rfl (by omega) (by omega) trivial (fun q => by cases q)) (fun h37_8 wh37_8 => ?_)
      obtain ⟨wh37_8, rh37_8⟩ := wh37_8
      have f10 : ((1 : Int32)).toInt = 1 := rfl
      have f11 : ((x2 + (1 : Int32))).toInt = (x2).toInt + ((1 : Int32)).toInt := jadd (by omega) (by omega)
      exact ih wh37_8 ta0 ta1 (by omega) (by omega) (by omega)
set_option maxHeartbeats 1000000 in
theorem S_X1_fadeAll {g : jGh} {Γ : Nat → Option Nat} {n : Nat} {a0 : Nat} {a1 : Nat} {h : jH} (hn : 6000 ≤ n) (hg : jgok g) (w : jW (jKd g) Γ h) (ta0 : Γ a0 = some 15) (ta1 : Γ a1 = some 3) : jok (F_X1_fadeAll n a0 a1 h) (fun q => jW (jKd g) Γ q) := by
  unfold F_X1_fadeAll
  have f1 : ((0 : Int32)).toInt = 0 := rfl
  exact S_X1_fadeAll_2 hn hg  n w ta0 ta1 (by omega) (by omega) (by omega)
set_option maxHeartbeats 1000000 in
theorem S_X5_add {g : jGh} {Γ : Nat → Option Nat} {n : Nat} {a0 : Nat} {a1 : Nat} {x2 : Int32} {x3 : Int32} {x4 : Int32} {h : jH} (hn : 6000 ≤ n) (hg : jgok g) (w : jW (jKd g) Γ h) (ta0 : Γ a0 = some 2) (ta1 : Γ a1 = some 3) (lx2 : 0 ≤ x2.toInt) (ux2 : x2.toInt ≤ 7) : jok (F_X5_add n a0 a1 x2 x3 x4 h) (fun q => jW (jKd g) Γ q) := by
  unfold F_X5_add
  refine jok_b (t_gR w ta0 rfl rfl) (fun p1_1 tp1_1 => ?_)
  refine jok_b2 (t_gI w ta0 rfl rfl) (fun v5_2 ev5_2 pv5_2 => ?_)
  obtain ⟨lv5_2, uv5_2⟩ := pv5_2
  refine jok_b2 (t_gI w ta1 rfl rfl) (fun v9_3 ev9_3 pv9_3 => ?_)
  refine jok_b2 (t_gI w ta1 rfl rfl) (fun v19_4 ev19_4 pv19_4 => ?_)
  refine jok_b (t_gR w ta1 rfl rfl) (fun p55_5 tp55_5 => ?_)
  refine jok_b (t_al w tp55_5 rfl (by omega) (by omega)) (fun v59_6 pv59_6 => ?_)
  refine jok_b (t_as w tp1_1 rfl (by omega) (by omega) trivial (fun q => by cases q)) (fun h67_7 wh67_7 => ?_)
  obtain ⟨wh67_7, rh67_7⟩ := wh67_7
  refine jok_r (fI (rh67_7 _ _ _) ev5_2) ?_
  have f9 : ((60 : Int32)).toInt = 60 := rfl
  have f10 : ((1 : Int32)).toInt = 1 := rfl
  have f11 : ((v5_2 + (1 : Int32))).toInt = (v5_2).toInt + ((1 : Int32)).toInt := jadd (by omega) (by omega)
  refine jok_le (fun c12 => ?_) (fun c12 => ?_)
  · unfold F_X5_add_90
    have f14 : ((0 : Int32)).toInt = 0 := rfl
    refine jok_b (t_pI wh67_7 ta0 rfl rfl (show jI 0 59 (0 : Int32) from ⟨by omega, by omega⟩)) (fun h90_13 wh90_13 => ?_)
    obtain ⟨wh90_13, jh90_13, rh90_13⟩ := wh90_13
    refine jok_b2 (t_gI wh90_13 ta0 rfl rfl) (fun v97_15 ev97_15 pv97_15 => ?_)
    obtain ⟨lv97_15, uv97_15⟩ := pv97_15
    have f17 : ((v97_15 + (1 : Int32))).toInt = (v97_15).toInt + ((1 : Int32)).toInt := jadd (by omega) (by omega)
    have f18 : 1 ≤ ((if (v97_15 + (1 : Int32)) < (60 : Int32) then (v97_15 + (1 : Int32)) else (60 : Int32))).toInt ∧ ((if (v97_15 + (1 : Int32)) < (60 : Int32) then (v97_15 + (1 : Int32)) else (60 : Int32))).toInt ≤ 60 := jif_lt (fun _ => (by omega)) (fun _ => (by omega))
    refine jok_b (t_pI wh90_13 ta0 rfl rfl (show jI 0 60 (if (v97_15 + (1 : Int32)) < (60 : Int32) then (v97_15 + (1 : Int32)) else (60 : Int32)) from ⟨by omega, by omega⟩)) (fun h105_16 wh105_16 => ?_)
    obtain ⟨wh105_16, jh105_16, rh105_16⟩ := wh105_16
    exact jok_s wh105_16
  · refine jok_r (fI (rh67_7 _ _ _) ev5_2) ?_
    unfold F_X5_add_90
    refine jok_b (t_pI wh67_7 ta0 rfl rfl (show jI 0 59 (v5_2 + (1 : Int32)) from ⟨by omega, by omega⟩)) (fun h90_20 wh90_20 => ?_)
    obtain ⟨wh90_20, jh90_20, rh90_20⟩ := wh90_20
    refine jok_b2 (t_gI wh90_20 ta0 rfl rfl) (fun v97_21 ev97_21 pv97_21 => ?_)
    obtain ⟨lv97_21, uv97_21⟩ := pv97_21
    have f23 : ((v97_21 + (1 : Int32))).toInt = (v97_21).toInt + ((1 : Int32)).toInt := jadd (by omega) (by omega)
    have f24 : 1 ≤ ((if (v97_21 + (1 : Int32)) < (60 : Int32) then (v97_21 + (1 : Int32)) else (60 : Int32))).toInt ∧ ((if (v97_21 + (1 : Int32)) < (60 : Int32) then (v97_21 + (1 : Int32)) else (60 : Int32))).toInt ≤ 60 := jif_lt (fun _ => (by omega)) (fun _ => (by omega))
    refine jok_b (t_pI wh90_20 ta0 rfl rfl (show jI 0 60 (if (v97_21 + (1 : Int32)) < (60 : Int32) then (v97_21 + (1 : Int32)) else (60 : Int32)) from ⟨by omega, by omega⟩)) (fun h105_22 wh105_22 => ?_)
    obtain ⟨wh105_22, jh105_22, rh105_22⟩ := wh105_22
    exact jok_s wh105_22
set_option maxHeartbeats 1000000 in
theorem S_X1_draw {g : jGh} {Γ : Nat → Option Nat} {n : Nat} {a0 : Nat} {h : jH} (hn : 6000 ≤ n) (hg : jgok g) (w : jW (jKd g) Γ h) (ta0 : Γ a0 = some 3) : jok (F_X1_draw n a0 h) (fun q => jW (jKd g) Γ q.2 ∧ (fun v : Int32 => True) q.1) := by
  unfold F_X1_draw
  refine jok_b2 (t_gI w ta0 rfl rfl) (fun v4_1 ev4_1 pv4_1 => ?_)
  have f3 : ((1103515245 : Int32)).toInt = 1103515245 := rfl
  have f4 : ((12345 : Int32)).toInt = 12345 := rfl
  refine jok_b (t_pI w ta0 rfl rfl trivial) (fun h12_2 wh12_2 => ?_)
  obtain ⟨wh12_2, jh12_2, rh12_2⟩ := wh12_2
  refine jok_r (fJ jh12_2) ?_
  exact jok_s ⟨wh12_2, trivial⟩
set_option maxHeartbeats 1000000 in
theorem S_X1_catchSome_4 {g : jGh} {Γ : Nat → Option Nat} {n : Nat} (hn : 6000 ≤ n) (hg : jgok g)  (k : Nat) : ∀ {a0 : Nat} {a1 : Nat} {x2 : Int32} {x3 : Int32} {h : jH}, jW (jKd g) Γ h → (Γ a0 = some 15) → (Γ a1 = some 3) → (0 ≤ x3.toInt) → (x3.toInt ≤ 8) → (8 : Int) - x3.toInt < (k : Int) → jok (F_X1_catchSome_4 n k a0 a1 x2 x3 h) (fun q => jW (jKd g) Γ q.2 ∧ (fun v : Int32 => True) q.1) := by
  induction k with
  | zero =>
    intro a0 a1 x2 x3 h w ta0 ta1 lx3 ux3 mk
    omega
  | succ k ih =>
    intro a0 a1 x2 x3 h w ta0 ta1 lx3 ux3 mk
    show jok (F_X1_catchSome_4_b n (F_X1_catchSome_4 n k) a0 a1 x2 x3 h) _
    unfold F_X1_catchSome_4_b
    refine jok_b2 (t_gI w ta1 rfl rfl) (fun v6_1 ev6_1 pv6_1 => ?_)
    obtain ⟨lv6_1, uv6_1⟩ := pv6_1
    refine jok_le (fun c2 => ?_) (fun c2 => ?_)
    · exact jok_s ⟨w, trivial⟩
    · try rw [t_cv w ta1 rfl]
      refine jok_b (S_X8_gap hn hg w ta1) (fun v15_3 pv15_3 => ?_)
      have f4 : ((1 : Int32)).toInt = 1 := rfl
      refine jok_eq (fun c5 d5 => ?_) (fun c5 => ?_)
      · refine jok_b2 (t_gI w ta1 rfl rfl) (fun v23_6 ev23_6 pv23_6 => ?_)
        refine jok_b (S_X11_bit hn hg w) (fun v27_7 pv27_7 => ?_)
        obtain ⟨lv27_7, uv27_7⟩ := pv27_7
        have f8 : ((0 : Int32)).toInt = 0 := rfl
        refine jok_eq (fun c9 d9 => ?_) (fun c9 => ?_)
        · refine jok_b (S_X1_draw hn hg w ta1) (fun q34_10 wq34_10 => ?_)
          obtain ⟨wq34_10, pq34_10⟩ := wq34_10
          refine jok_b (t_gR wq34_10 ta0 rfl rfl) (fun p38_11 tp38_11 => ?_)
          try rw [t_cv wq34_10 tp38_11 rfl]
          refine jok_b (S_X2_amount hn hg wq34_10 tp38_11 ta1 (by omega) (by omega)) (fun q44_12 wq44_12 => ?_)
          obtain ⟨wq44_12, pq44_12⟩ := wq44_12
          refine jok_le (fun c13 => ?_) (fun c13 => ?_)
          · have f14 : ((x3 + (1 : Int32))).toInt = (x3).toInt + ((1 : Int32)).toInt := jadd (by omega) (by omega)
            exact ih wq44_12 ta0 ta1 (by omega) (by omega) (by omega)
          · refine jok_b2 (t_gI wq44_12 ta1 rfl rfl) (fun v52_15 ev52_15 pv52_15 => ?_)
            refine jok_b (S_X11_withBit hn hg wq44_12) (fun v57_16 pv57_16 => ?_)
            refine jok_b (t_pI wq44_12 ta1 rfl rfl trivial) (fun h60_17 wh60_17 => ?_)
            obtain ⟨wh60_17, jh60_17, rh60_17⟩ := wh60_17
            refine jok_b (t_gR wh60_17 ta1 rfl rfl) (fun p64_18 tp64_18 => ?_)
            try rw [t_cv wh60_17 tp64_18 rfl]
            refine jok_b (S_X5_add hn hg wh60_17 tp64_18 ta1 (by omega) (by omega)) (fun h71_19 wh71_19 => ?_)
            have f20 : ((x3 + (1 : Int32))).toInt = (x3).toInt + ((1 : Int32)).toInt := jadd (by omega) (by omega)
            exact ih wh71_19 ta0 ta1 (by omega) (by omega) (by omega)
        · have f21 : ((x3 + (1 : Int32))).toInt = (x3).toInt + ((1 : Int32)).toInt := jadd (by omega) (by omega)
          exact ih w ta0 ta1 (by omega) (by omega) (by omega)
      · have f22 : ((x3 + (1 : Int32))).toInt = (x3).toInt + ((1 : Int32)).toInt := jadd (by omega) (by omega)
        exact ih w ta0 ta1 (by omega) (by omega) (by omega)
set_option maxHeartbeats 1000000 in
theorem S_X1_catchSome {g : jGh} {Γ : Nat → Option Nat} {n : Nat} {a0 : Nat} {a1 : Nat} {h : jH} (hn : 6000 ≤ n) (hg : jgok g) (w : jW (jKd g) Γ h) (ta0 : Γ a0 = some 15) (ta1 : Γ a1 = some 3) : jok (F_X1_catchSome n a0 a1 h) (fun q => jW (jKd g) Γ q.2 ∧ (fun v : Int32 => True) q.1) := by
  unfold F_X1_catchSome
  have f1 : ((0 : Int32)).toInt = 0 := rfl
  exact S_X1_catchSome_4 hn hg  n w ta0 ta1 (by omega) (by omega) (by omega)
set_option maxHeartbeats 1000000 in
theorem S_X1_dropSome_4 {g : jGh} {Γ : Nat → Option Nat} {n : Nat} (hn : 6000 ≤ n) (hg : jgok g)  (k : Nat) : ∀ {a0 : Nat} {a1 : Nat} {x2 : Int32} {x3 : Int32} {h : jH}, jW (jKd g) Γ h → (Γ a0 = some 15) → (Γ a1 = some 3) → (0 ≤ x3.toInt) → (x3.toInt ≤ 8) → (8 : Int) - x3.toInt < (k : Int) → jok (F_X1_dropSome_4 n k a0 a1 x2 x3 h) (fun q => jW (jKd g) Γ q.2 ∧ (fun v : Int32 => True) q.1) := by
  induction k with
  | zero =>
    intro a0 a1 x2 x3 h w ta0 ta1 lx3 ux3 mk
    omega
  | succ k ih =>
    intro a0 a1 x2 x3 h w ta0 ta1 lx3 ux3 mk
    show jok (F_X1_dropSome_4_b n (F_X1_dropSome_4 n k) a0 a1 x2 x3 h) _
    unfold F_X1_dropSome_4_b
    refine jok_b2 (t_gI w ta1 rfl rfl) (fun v6_1 ev6_1 pv6_1 => ?_)
    obtain ⟨lv6_1, uv6_1⟩ := pv6_1
    refine jok_le (fun c2 => ?_) (fun c2 => ?_)
    · exact jok_s ⟨w, trivial⟩
    · refine jok_b2 (t_gI w ta1 rfl rfl) (fun v13_3 ev13_3 pv13_3 => ?_)
      refine jok_b (S_X11_bit hn hg w) (fun v17_4 pv17_4 => ?_)
      obtain ⟨lv17_4, uv17_4⟩ := pv17_4
      have f5 : ((1 : Int32)).toInt = 1 := rfl
      refine jok_eq (fun c6 d6 => ?_) (fun c6 => ?_)
      · refine jok_b (S_X1_draw hn hg w ta1) (fun q25_7 wq25_7 => ?_)
        obtain ⟨wq25_7, pq25_7⟩ := wq25_7
        refine jok_b (t_gR wq25_7 ta0 rfl rfl) (fun p29_8 tp29_8 => ?_)
        try rw [t_cv wq25_7 tp29_8 rfl]
        refine jok_b (S_X2_amount hn hg wq25_7 tp29_8 ta1 (by omega) (by omega)) (fun q35_9 wq35_9 => ?_)
        obtain ⟨wq35_9, pq35_9⟩ := wq35_9
        refine jok_le (fun c10 => ?_) (fun c10 => ?_)
        · have f11 : ((x3 + (1 : Int32))).toInt = (x3).toInt + ((1 : Int32)).toInt := jadd (by omega) (by omega)
          exact ih wq35_9 ta0 ta1 (by omega) (by omega) (by omega)
        · refine jok_b2 (t_gI wq35_9 ta1 rfl rfl) (fun v43_12 ev43_12 pv43_12 => ?_)
          refine jok_b (S_X11_withBit hn hg wq35_9) (fun v48_13 pv48_13 => ?_)
          refine jok_b (t_pI wq35_9 ta1 rfl rfl trivial) (fun h51_14 wh51_14 => ?_)
          obtain ⟨wh51_14, jh51_14, rh51_14⟩ := wh51_14
          refine jok_b (t_gR wh51_14 ta1 rfl rfl) (fun p55_15 tp55_15 => ?_)
          try rw [t_cv wh51_14 tp55_15 rfl]
          refine jok_b (S_X5_add hn hg wh51_14 tp55_15 ta1 (by omega) (by omega)) (fun h62_16 wh62_16 => ?_)
          have f17 : ((x3 + (1 : Int32))).toInt = (x3).toInt + ((1 : Int32)).toInt := jadd (by omega) (by omega)
          exact ih wh62_16 ta0 ta1 (by omega) (by omega) (by omega)
      · have f18 : ((x3 + (1 : Int32))).toInt = (x3).toInt + ((1 : Int32)).toInt := jadd (by omega) (by omega)
        exact ih w ta0 ta1 (by omega) (by omega) (by omega)
set_option maxHeartbeats 1000000 in
theorem S_X1_dropSome {g : jGh} {Γ : Nat → Option Nat} {n : Nat} {a0 : Nat} {a1 : Nat} {h : jH} (hn : 6000 ≤ n) (hg : jgok g) (w : jW (jKd g) Γ h) (ta0 : Γ a0 = some 15) (ta1 : Γ a1 = some 3) : jok (F_X1_dropSome n a0 a1 h) (fun q => jW (jKd g) Γ q.2 ∧ (fun v : Int32 => True) q.1) := by
  unfold F_X1_dropSome
  have f1 : ((0 : Int32)).toInt = 0 := rfl
  exact S_X1_dropSome_4 hn hg  n w ta0 ta1 (by omega) (by omega) (by omega)
set_option maxHeartbeats 1000000 in
theorem S_X1_turn {g : jGh} {Γ : Nat → Option Nat} {n : Nat} {a0 : Nat} {h : jH} (hn : 6000 ≤ n) (hg : jgok g) (w : jW (jKd g) Γ h) (ta0 : Γ a0 = some 3) : jok (F_X1_turn n a0 h) (fun q => jW (jKd g) Γ q) := by
  unfold F_X1_turn
  refine jok_b2 (t_gI w ta0 rfl rfl) (fun v2_1 ev2_1 pv2_1 => ?_)
  have f3 : ((1 : Int32)).toInt = 1 := rfl
  refine jok_b (t_pI w ta0 rfl rfl trivial) (fun h7_2 wh7_2 => ?_)
  obtain ⟨wh7_2, jh7_2, rh7_2⟩ := wh7_2
  refine jok_r (fJ jh7_2) ?_
  have f5 : ((8 : Int32)).toInt = 8 := rfl
  refine jok_lt (fun c6 => ?_) (fun c6 => ?_)
  · exact jok_s wh7_2
  · have f8 : ((0 : Int32)).toInt = 0 := rfl
    refine jok_b (t_pI wh7_2 ta0 rfl rfl trivial) (fun h21_7 wh21_7 => ?_)
    obtain ⟨wh21_7, jh21_7, rh21_7⟩ := wh21_7
    refine jok_b2 (t_gI wh21_7 ta0 rfl rfl) (fun v29_9 ev29_9 pv29_9 => ?_)
    have f11 : ((9999 : Int32)).toInt = 9999 := rfl
    refine jok_b (t_pI wh21_7 ta0 rfl rfl trivial) (fun h37_10 wh37_10 => ?_)
    obtain ⟨wh37_10, jh37_10, rh37_10⟩ := wh37_10
    exact jok_s wh37_10
set_option maxHeartbeats 1000000 in
theorem S_X1_run_5 {g : jGh} {Γ : Nat → Option Nat} {n : Nat} (hn : 6000 ≤ n) (hg : jgok g)  (k : Nat) : ∀ {a0 : Nat} {a1 : Nat} {x2 : Int32} {x3 : Int32} {x4 : Int32} {h : jH}, jW (jKd g) Γ h → (Γ a0 = some 15) → (Γ a1 = some 3) → (0 ≤ x2.toInt) → (x2.toInt ≤ 80) → (0 ≤ x4.toInt) → (x4.toInt ≤ 80) → (80 : Int) - x4.toInt < (k : Int) → jok (F_X1_run_5 n k a0 a1 x2 x3 x4 h) (fun q => jW (jKd g) Γ q.2 ∧ (fun v : Int32 => True) q.1) := by
  induction k with
  | zero =>
    intro a0 a1 x2 x3 x4 h w ta0 ta1 lx2 ux2 lx4 ux4 mk
    omega
  | succ k ih =>
    intro a0 a1 x2 x3 x4 h w ta0 ta1 lx2 ux2 lx4 ux4 mk
    show jok (F_X1_run_5_b n (F_X1_run_5 n k) a0 a1 x2 x3 x4 h) _
    unfold F_X1_run_5_b
    refine jok_le (fun c1 => ?_) (fun c1 => ?_)
    · exact jok_s ⟨w, trivial⟩
    · try rw [t_cv w ta0 rfl]
      refine jok_b (S_X1_fadeAll hn hg w ta0 ta1) (fun h13_2 wh13_2 => ?_)
      try rw [t_cv wh13_2 ta0 rfl]
      refine jok_b (S_X1_catchSome hn hg wh13_2 ta0 ta1) (fun q19_3 wq19_3 => ?_)
      obtain ⟨wq19_3, pq19_3⟩ := wq19_3
      try rw [t_cv wq19_3 ta0 rfl]
      refine jok_b (S_X1_dropSome hn hg wq19_3 ta0 ta1) (fun q24_4 wq24_4 => ?_)
      obtain ⟨wq24_4, pq24_4⟩ := wq24_4
      refine jok_b (S_X1_turn hn hg wq24_4 ta1) (fun h31_5 wh31_5 => ?_)
      have f6 : ((1 : Int32)).toInt = 1 := rfl
      have f7 : ((x4 + (1 : Int32))).toInt = (x4).toInt + ((1 : Int32)).toInt := jadd (by omega) (by omega)
      exact ih wh31_5 ta0 ta1 (by omega) (by omega) (by omega) (by omega) (by omega)
set_option maxHeartbeats 1000000 in
theorem S_X1_run {g : jGh} {Γ : Nat → Option Nat} {n : Nat} {a0 : Nat} {a1 : Nat} {x2 : Int32} {h : jH} (hn : 6000 ≤ n) (hg : jgok g) (w : jW (jKd g) Γ h) (ta0 : Γ a0 = some 15) (ta1 : Γ a1 = some 3) (lx2 : 0 ≤ x2.toInt) (ux2 : x2.toInt ≤ 80) : jok (F_X1_run n a0 a1 x2 h) (fun q => jW (jKd g) Γ q.2 ∧ (fun v : Int32 => True) q.1) := by
  unfold F_X1_run
  have f1 : ((0 : Int32)).toInt = 0 := rfl
  exact S_X1_run_5 hn hg  n w ta0 ta1 (by omega) (by omega) (by omega) (by omega) (by omega)
set_option maxHeartbeats 1000000 in
theorem S_X1_tryHours {g : jGh} {Γ : Nat → Option Nat} {n : Nat} {a0 : Nat} {a1 : Nat} {x2 : Int32} {x3 : Int32} {h : jH} (hn : 6000 ≤ n) (hg : jgok g) (w : jW (jKd g) Γ h) (ta0 : Γ a0 = some 15) (ta1 : Γ a1 = some 3) (lx2 : 0 ≤ x2.toInt) (ux2 : x2.toInt ≤ 80) : jok (F_X1_tryHours n a0 a1 x2 x3 h) (fun q => jW (jKd g) Γ q) := by
  unfold F_X1_tryHours
  refine jok_b (t_gR w ta0 rfl rfl) (fun p1_1 tp1_1 => ?_)
  try rw [t_cv w tp1_1 rfl]
  refine jok_b (S_X8_copyFrom hn hg w tp1_1 ta1) (fun h5_2 wh5_2 => ?_)
  refine jok_b (t_gR wh5_2 ta0 rfl rfl) (fun p9_3 tp9_3 => ?_)
  refine jok_b (t_pI wh5_2 tp9_3 rfl rfl trivial) (fun h13_4 wh13_4 => ?_)
  obtain ⟨wh13_4, jh13_4, rh13_4⟩ := wh13_4
  refine jok_b (t_gR wh13_4 ta0 rfl rfl) (fun p18_5 tp18_5 => ?_)
  try rw [t_cv wh13_4 ta0 rfl]
  refine jok_b (S_X1_run hn hg wh13_4 ta0 tp18_5 (by omega) (by omega)) (fun q22_6 wq22_6 => ?_)
  obtain ⟨wq22_6, pq22_6⟩ := wq22_6
  exact jok_s wq22_6
set_option maxHeartbeats 1000000 in
theorem S_X1_goAhead_10 {g : jGh} {Γ : Nat → Option Nat} {n : Nat} (hn : 6000 ≤ n) (hg : jgok g)  (k : Nat) : ∀ {a0 : Nat} {x2 : Int32} {x3 : Int32} {h : jH}, jW (jKd g) Γ h → (Γ a0 = some 15) → (0 ≤ x2.toInt) → (x2.toInt ≤ 80) → (0 ≤ x3.toInt) → (x3.toInt ≤ 80) → (80 : Int) - x3.toInt < (k : Int) → jok (F_X1_goAhead_10 n k a0 x2 x3 h) (fun q => jW (jKd g) Γ q) := by
  induction k with
  | zero =>
    intro a0 x2 x3 h w ta0 lx2 ux2 lx3 ux3 mk
    omega
  | succ k ih =>
    intro a0 x2 x3 h w ta0 lx2 ux2 lx3 ux3 mk
    show jok (F_X1_goAhead_10_b n (F_X1_goAhead_10 n k) a0 x2 x3 h) _
    unfold F_X1_goAhead_10_b
    refine jok_le (fun c1 => ?_) (fun c1 => ?_)
    · exact jok_s w
    · refine jok_b (t_gR w ta0 rfl rfl) (fun p17_2 tp17_2 => ?_)
      try rw [t_cv w ta0 rfl]
      refine jok_b (S_X1_fadeAll hn hg w ta0 tp17_2) (fun h20_3 wh20_3 => ?_)
      refine jok_b (t_gR wh20_3 ta0 rfl rfl) (fun p24_4 tp24_4 => ?_)
      refine jok_b (S_X1_turn hn hg wh20_3 tp24_4) (fun h27_5 wh27_5 => ?_)
      have f6 : ((1 : Int32)).toInt = 1 := rfl
      have f7 : ((x3 + (1 : Int32))).toInt = (x3).toInt + ((1 : Int32)).toInt := jadd (by omega) (by omega)
      exact ih wh27_5 ta0 (by omega) (by omega) (by omega) (by omega) (by omega)
set_option maxHeartbeats 1000000 in
theorem S_X1_goAhead {g : jGh} {Γ : Nat → Option Nat} {n : Nat} {a0 : Nat} {a1 : Nat} {x2 : Int32} {h : jH} (hn : 6000 ≤ n) (hg : jgok g) (w : jW (jKd g) Γ h) (ta0 : Γ a0 = some 15) (ta1 : Γ a1 = some 3) (lx2 : 0 ≤ x2.toInt) (ux2 : x2.toInt ≤ 80) : jok (F_X1_goAhead n a0 a1 x2 h) (fun q => jW (jKd g) Γ q) := by
  unfold F_X1_goAhead
  refine jok_b (t_gR w ta0 rfl rfl) (fun p1_1 tp1_1 => ?_)
  try rw [t_cv w tp1_1 rfl]
  refine jok_b (S_X8_copyFrom hn hg w tp1_1 ta1) (fun h5_2 wh5_2 => ?_)
  have f3 : ((0 : Int32)).toInt = 0 := rfl
  exact S_X1_goAhead_10 hn hg  n wh5_2 ta0 (by omega) (by omega) (by omega) (by omega) (by omega)
set_option maxHeartbeats 1000000 in
theorem S_X1_isSomePale_2 {g : jGh} {Γ : Nat → Option Nat} {n : Nat} (hn : 6000 ≤ n) (hg : jgok g)  (k : Nat) : ∀ {a0 : Nat} {x1 : Int32} {h : jH}, jW (jKd g) Γ h → (Γ a0 = some 3) → (0 ≤ x1.toInt) → (x1.toInt ≤ 8) → (8 : Int) - x1.toInt < (k : Int) → jok (F_X1_isSomePale_2 n k a0 x1 h) (fun v => 0 ≤ v.toInt ∧ v.toInt ≤ 1) := by
  induction k with
  | zero =>
    intro a0 x1 h w ta0 lx1 ux1 mk
    omega
  | succ k ih =>
    intro a0 x1 h w ta0 lx1 ux1 mk
    show jok (F_X1_isSomePale_2_b n (F_X1_isSomePale_2 n k) a0 x1 h) _
    unfold F_X1_isSomePale_2_b
    refine jok_b2 (t_gI w ta0 rfl rfl) (fun v4_1 ev4_1 pv4_1 => ?_)
    obtain ⟨lv4_1, uv4_1⟩ := pv4_1
    refine jok_le (fun c2 => ?_) (fun c2 => ?_)
    · have f3 : ((0 : Int32)).toInt = 0 := rfl
      exact jok_s (show jI 0 1 (0 : Int32) from ⟨by omega, by omega⟩)
    · refine jok_b (t_gR w ta0 rfl rfl) (fun p11_4 tp11_4 => ?_)
      refine jok_b (t_al w tp11_4 rfl (by omega) (by omega)) (fun v15_5 pv15_5 => ?_)
      have f6 : ((99 : Int32)).toInt = 99 := rfl
      refine jok_eq (fun c7 d7 => ?_) (fun c7 => ?_)
      · have f8 : ((1 : Int32)).toInt = 1 := rfl
        exact jok_s (show jI 0 1 (1 : Int32) from ⟨by omega, by omega⟩)
      · have f9 : ((1 : Int32)).toInt = 1 := rfl
        have f10 : ((x1 + (1 : Int32))).toInt = (x1).toInt + ((1 : Int32)).toInt := jadd (by omega) (by omega)
        exact ih w ta0 (by omega) (by omega) (by omega)
set_option maxHeartbeats 1000000 in
theorem S_X1_isSomePale {g : jGh} {Γ : Nat → Option Nat} {n : Nat} {a0 : Nat} {h : jH} (hn : 6000 ≤ n) (hg : jgok g) (w : jW (jKd g) Γ h) (ta0 : Γ a0 = some 3) : jok (F_X1_isSomePale n a0 h) (fun v => 0 ≤ v.toInt ∧ v.toInt ≤ 1) := by
  unfold F_X1_isSomePale
  have f1 : ((0 : Int32)).toInt = 0 := rfl
  exact S_X1_isSomePale_2 hn hg  n w ta0 (by omega) (by omega) (by omega)
set_option maxHeartbeats 1000000 in
theorem S_X1_firstPale_10 {g : jGh} {Γ : Nat → Option Nat} {n : Nat} (hn : 6000 ≤ n) (hg : jgok g)  (k : Nat) : ∀ {a0 : Nat} {x2 : Int32} {h : jH}, jW (jKd g) Γ h → (Γ a0 = some 15) → (0 ≤ x2.toInt) → (x2.toInt ≤ 81) → (81 : Int) - x2.toInt < (k : Int) → jok (F_X1_firstPale_10 n k a0 x2 h) (fun q => jW (jKd g) Γ q.2 ∧ (fun v : Int32 => True) q.1) := by
  induction k with
  | zero =>
    intro a0 x2 h w ta0 lx2 ux2 mk
    omega
  | succ k ih =>
    intro a0 x2 h w ta0 lx2 ux2 mk
    show jok (F_X1_firstPale_10_b n (F_X1_firstPale_10 n k) a0 x2 h) _
    unfold F_X1_firstPale_10_b
    have f1 : ((80 : Int32)).toInt = 80 := rfl
    refine jok_lt (fun c2 => ?_) (fun c2 => ?_)
    · exact jok_s ⟨w, trivial⟩
    · refine jok_b (t_gR w ta0 rfl rfl) (fun p17_3 tp17_3 => ?_)
      refine jok_b (S_X1_isSomePale hn hg w tp17_3) (fun v20_4 pv20_4 => ?_)
      obtain ⟨lv20_4, uv20_4⟩ := pv20_4
      have f5 : ((0 : Int32)).toInt = 0 := rfl
      refine jok_eq (fun c6 d6 => ?_) (fun c6 => ?_)
      · refine jok_b (t_gR w ta0 rfl rfl) (fun p30_7 tp30_7 => ?_)
        try rw [t_cv w ta0 rfl]
        refine jok_b (S_X1_fadeAll hn hg w ta0 tp30_7) (fun h33_8 wh33_8 => ?_)
        refine jok_b (t_gR wh33_8 ta0 rfl rfl) (fun p37_9 tp37_9 => ?_)
        refine jok_b (S_X1_turn hn hg wh33_8 tp37_9) (fun h40_10 wh40_10 => ?_)
        have f11 : ((1 : Int32)).toInt = 1 := rfl
        have f12 : ((x2 + (1 : Int32))).toInt = (x2).toInt + ((1 : Int32)).toInt := jadd (by omega) (by omega)
        exact ih wh40_10 ta0 (by omega) (by omega) (by omega)
      · exact jok_s ⟨w, trivial⟩
set_option maxHeartbeats 1000000 in
theorem S_X1_firstPale {g : jGh} {Γ : Nat → Option Nat} {n : Nat} {a0 : Nat} {a1 : Nat} {h : jH} (hn : 6000 ≤ n) (hg : jgok g) (w : jW (jKd g) Γ h) (ta0 : Γ a0 = some 15) (ta1 : Γ a1 = some 3) : jok (F_X1_firstPale n a0 a1 h) (fun q => jW (jKd g) Γ q.2 ∧ (fun v : Int32 => True) q.1) := by
  unfold F_X1_firstPale
  refine jok_b (t_gR w ta0 rfl rfl) (fun p1_1 tp1_1 => ?_)
  try rw [t_cv w tp1_1 rfl]
  refine jok_b (S_X8_copyFrom hn hg w tp1_1 ta1) (fun h5_2 wh5_2 => ?_)
  have f3 : ((0 : Int32)).toInt = 0 := rfl
  exact S_X1_firstPale_10 hn hg  n wh5_2 ta0 (by omega) (by omega) (by omega)
set_option maxHeartbeats 1000000 in
theorem S_X1_oddsToStay_25 {g : jGh} {Γ : Nat → Option Nat} {n : Nat} (hn : 6000 ≤ n) (hg : jgok g)  (k : Nat) : ∀ {x3 : Int32} {x4 : Int32} {x5 : Int32} {x6 : Int32} {h : jH}, jW (jKd g) Γ h → (0 ≤ x3.toInt) → (x3.toInt ≤ 4) → (0 ≤ x6.toInt) → (x6.toInt ≤ 4) → (4 : Int) - x6.toInt < (k : Int) → jok (F_X1_oddsToStay_25 n k x3 x4 x5 x6 h) (fun q => jW (jKd g) Γ q.2 ∧ (fun v : Int32 => True) q.1) := by
  induction k with
  | zero =>
    intro x3 x4 x5 x6 h w lx3 ux3 lx6 ux6 mk
    omega
  | succ k ih =>
    intro x3 x4 x5 x6 h w lx3 ux3 lx6 ux6 mk
    show jok (F_X1_oddsToStay_25_b n (F_X1_oddsToStay_25 n k) x3 x4 x5 x6 h) _
    unfold F_X1_oddsToStay_25_b
    refine jok_le (fun c1 => ?_) (fun c1 => ?_)
    · exact jok_s ⟨w, trivial⟩
    · have f2 : ((1 : Int32)).toInt = 1 := rfl
      have f3 : ((x6 + (1 : Int32))).toInt = (x6).toInt + ((1 : Int32)).toInt := jadd (by omega) (by omega)
      exact ih w (by omega) (by omega) (by omega) (by omega) (by omega)
set_option maxHeartbeats 1000000 in
theorem S_X1_oddsToStay {g : jGh} {Γ : Nat → Option Nat} {n : Nat} {a0 : Nat} {a1 : Nat} {x2 : Int32} {x3 : Int32} {h : jH} (hn : 6000 ≤ n) (hg : jgok g) (w : jW (jKd g) Γ h) (ta0 : Γ a0 = some 15) (ta1 : Γ a1 = some 3) (lx2 : 0 ≤ x2.toInt) (ux2 : x2.toInt ≤ 7) (lx3 : 0 ≤ x3.toInt) (ux3 : x3.toInt ≤ 4) : jok (F_X1_oddsToStay n a0 a1 x2 x3 h) (fun q => jW (jKd g) Γ q.2 ∧ (fun v : Int32 => True) q.1) := by
  unfold F_X1_oddsToStay
  refine jok_b (t_gR w ta0 rfl rfl) (fun p3_1 tp3_1 => ?_)
  try rw [t_cv w tp3_1 rfl]
  refine jok_b (S_X2_amount hn hg w tp3_1 ta1 (by omega) (by omega)) (fun q9_2 wq9_2 => ?_)
  obtain ⟨wq9_2, pq9_2⟩ := wq9_2
  have f3 : ((0 : Int32)).toInt = 0 := rfl
  exact S_X1_oddsToStay_25 hn hg  n wq9_2 (by omega) (by omega) (by omega) (by omega) (by omega)
set_option maxHeartbeats 1000000 in
theorem S_X2_begin {g : jGh} {Γ : Nat → Option Nat} {n : Nat} {a0 : Nat} {h : jH} (hn : 6000 ≤ n) (hg : jgok g) (w : jW (jKd g) Γ h) (ta0 : Γ a0 = some 8) : jok (F_X2_begin n a0 h) (fun q => jW (jKd g) Γ q) := by
  unfold F_X2_begin
  have f2 : ((1 : Int32)).toInt = 1 := rfl
  refine jok_b (t_pI w ta0 rfl rfl (show jI 0 1 (1 : Int32) from ⟨by omega, by omega⟩)) (fun h2_1 wh2_1 => ?_)
  obtain ⟨wh2_1, jh2_1, rh2_1⟩ := wh2_1
  have f4 : ((0 : Int32)).toInt = 0 := rfl
  refine jok_b (t_pI wh2_1 ta0 rfl rfl (show jI 0 12 (0 : Int32) from ⟨by omega, by omega⟩)) (fun h7_3 wh7_3 => ?_)
  obtain ⟨wh7_3, jh7_3, rh7_3⟩ := wh7_3
  refine jok_b (t_pI wh7_3 ta0 rfl rfl (show jI 0 400 (0 : Int32) from ⟨by omega, by omega⟩)) (fun h12_5 wh12_5 => ?_)
  obtain ⟨wh12_5, jh12_5, rh12_5⟩ := wh12_5
  exact jok_s wh12_5
set_option maxHeartbeats 1000000 in
theorem S_X2_copyFrom {g : jGh} {Γ : Nat → Option Nat} {n : Nat} {a0 : Nat} {a1 : Nat} {h : jH} (hn : 6000 ≤ n) (hg : jgok g) (w : jW (jKd g) Γ h) (ta0 : Γ a0 = some 8) (ta1 : Γ a1 = some 8) : jok (F_X2_copyFrom n a0 a1 h) (fun q => jW (jKd g) Γ q) := by
  unfold F_X2_copyFrom
  refine jok_b (t_gR w ta1 rfl rfl) (fun p1_1 tp1_1 => ?_)
  refine jok_b (t_gR w ta0 rfl rfl) (fun p6_2 tp6_2 => ?_)
  refine jok_b (t_cp w tp1_1 tp6_2 rfl rfl (n := 12) rfl rfl rfl (by decide) (by decide) (fun k v q => q)) (fun h12_3 wh12_3 => ?_)
  obtain ⟨wh12_3, rh12_3⟩ := wh12_3
  refine jok_b (t_gR wh12_3 ta1 rfl rfl) (fun p16_4 tp16_4 => ?_)
  refine jok_b (t_gR wh12_3 ta0 rfl rfl) (fun p21_5 tp21_5 => ?_)
  refine jok_b (t_cp wh12_3 tp16_4 tp21_5 rfl rfl (n := 12) rfl rfl rfl (by decide) (by decide) (fun k v q => q)) (fun h27_6 wh27_6 => ?_)
  obtain ⟨wh27_6, rh27_6⟩ := wh27_6
  refine jok_b (t_gR wh27_6 ta1 rfl rfl) (fun p31_7 tp31_7 => ?_)
  refine jok_b (t_gR wh27_6 ta0 rfl rfl) (fun p36_8 tp36_8 => ?_)
  refine jok_b (t_cp wh27_6 tp31_7 tp36_8 rfl rfl (n := 12) rfl rfl rfl (by decide) (by decide) (fun k v q => q)) (fun h42_9 wh42_9 => ?_)
  obtain ⟨wh42_9, rh42_9⟩ := wh42_9
  refine jok_b (t_gR wh42_9 ta1 rfl rfl) (fun p46_10 tp46_10 => ?_)
  refine jok_b (t_gR wh42_9 ta0 rfl rfl) (fun p51_11 tp51_11 => ?_)
  refine jok_b (t_cp wh42_9 tp46_10 tp51_11 rfl rfl (n := 400) rfl rfl rfl (by decide) (by decide) (fun k v q => q)) (fun h58_12 wh58_12 => ?_)
  obtain ⟨wh58_12, rh58_12⟩ := wh58_12
  refine jok_b2 (t_gI wh58_12 ta1 rfl rfl) (fun v63_13 ev63_13 pv63_13 => ?_)
  obtain ⟨lv63_13, uv63_13⟩ := pv63_13
  refine jok_b (t_pI wh58_12 ta0 rfl rfl (show jI 0 400 v63_13 from ⟨by omega, by omega⟩)) (fun h66_14 wh66_14 => ?_)
  obtain ⟨wh66_14, jh66_14, rh66_14⟩ := wh66_14
  refine jok_b2 (t_gI wh66_14 ta1 rfl rfl) (fun v71_15 ev71_15 pv71_15 => ?_)
  obtain ⟨lv71_15, uv71_15⟩ := pv71_15
  rw [if_pos (show v71_15 = 0 ∨ v71_15 = 1 from j01 (by omega) (by omega))]
  refine jok_b (t_pI wh66_14 ta0 rfl rfl (show jI 0 1 v71_15 from ⟨by omega, by omega⟩)) (fun h74_16 wh74_16 => ?_)
  obtain ⟨wh74_16, jh74_16, rh74_16⟩ := wh74_16
  refine jok_b2 (t_gI wh74_16 ta1 rfl rfl) (fun v79_17 ev79_17 pv79_17 => ?_)
  obtain ⟨lv79_17, uv79_17⟩ := pv79_17
  refine jok_b (t_pI wh74_16 ta0 rfl rfl (show jI 0 12 v79_17 from ⟨by omega, by omega⟩)) (fun h82_18 wh82_18 => ?_)
  obtain ⟨wh82_18, jh82_18, rh82_18⟩ := wh82_18
  exact jok_s wh82_18
set_option maxHeartbeats 1000000 in
theorem S_X2_addLine {g : jGh} {Γ : Nat → Option Nat} {n : Nat} {a0 : Nat} {x1 : Int32} {x2 : Int32} {h : jH} (hn : 6000 ≤ n) (hg : jgok g) (w : jW (jKd g) Γ h) (ta0 : Γ a0 = some 8) : jok (F_X2_addLine n a0 x1 x2 h) (fun q => jW (jKd g) Γ q) := by
  unfold F_X2_addLine
  refine jok_b2 (t_gI w ta0 rfl rfl) (fun v1_1 ev1_1 pv1_1 => ?_)
  obtain ⟨lv1_1, uv1_1⟩ := pv1_1
  have f2 : ((12 : Int32)).toInt = 12 := rfl
  refine jok_le (fun c3 => ?_) (fun c3 => ?_)
  · exact jok_s w
  · refine jok_b (t_gR w ta0 rfl rfl) (fun p10_4 tp10_4 => ?_)
    refine jok_r ev1_1 ?_
    refine jok_b (t_as w tp10_4 rfl (by omega) (by omega) trivial (fun q => by cases q)) (fun h18_6 wh18_6 => ?_)
    obtain ⟨wh18_6, rh18_6⟩ := wh18_6
    refine jok_b (t_gR wh18_6 ta0 rfl rfl) (fun p20_7 tp20_7 => ?_)
    refine jok_r (fI (rh18_6 _ _ _) ev1_1) ?_
    refine jok_b (t_as wh18_6 tp20_7 rfl (by omega) (by omega) trivial (fun q => by cases q)) (fun h28_9 wh28_9 => ?_)
    obtain ⟨wh28_9, rh28_9⟩ := wh28_9
    refine jok_b (t_gR wh28_9 ta0 rfl rfl) (fun p30_10 tp30_10 => ?_)
    refine jok_r (fI (rh28_9 _ _ _) (fI (rh18_6 _ _ _) ev1_1)) ?_
    refine jok_b2 (t_gI wh28_9 ta0 rfl rfl) (fun v38_12 ev38_12 pv38_12 => ?_)
    obtain ⟨lv38_12, uv38_12⟩ := pv38_12
    refine jok_b (t_as wh28_9 tp30_10 rfl (by omega) (by omega) (show jI 0 400 v38_12 from ⟨by omega, by omega⟩) (fun q => by cases q)) (fun h41_13 wh41_13 => ?_)
    obtain ⟨wh41_13, rh41_13⟩ := wh41_13
    refine jok_r (fI (rh41_13 _ _ _) (fI (rh28_9 _ _ _) (fI (rh18_6 _ _ _) ev1_1))) ?_
    have f16 : ((1 : Int32)).toInt = 1 := rfl
    have f17 : ((v1_1 + (1 : Int32))).toInt = (v1_1).toInt + ((1 : Int32)).toInt := jadd (by omega) (by omega)
    refine jok_b (t_pI wh41_13 ta0 rfl rfl (show jI 0 12 (v1_1 + (1 : Int32)) from ⟨by omega, by omega⟩)) (fun h49_15 wh49_15 => ?_)
    obtain ⟨wh49_15, jh49_15, rh49_15⟩ := wh49_15
    exact jok_s wh49_15
set_option maxHeartbeats 1000000 in
theorem S_X2_addCode {g : jGh} {Γ : Nat → Option Nat} {n : Nat} {a0 : Nat} {x1 : Int32} {h : jH} (hn : 6000 ≤ n) (hg : jgok g) (w : jW (jKd g) Γ h) (ta0 : Γ a0 = some 8) : jok (F_X2_addCode n a0 x1 h) (fun q => jW (jKd g) Γ q) := by
  unfold F_X2_addCode
  refine jok_b2 (t_gI w ta0 rfl rfl) (fun v1_1 ev1_1 pv1_1 => ?_)
  obtain ⟨lv1_1, uv1_1⟩ := pv1_1
  have f2 : ((400 : Int32)).toInt = 400 := rfl
  refine jok_le (fun c3 => ?_) (fun c3 => ?_)
  · exact jok_s w
  · refine jok_b2 (t_gI w ta0 rfl rfl) (fun v11_4 ev11_4 pv11_4 => ?_)
    obtain ⟨lv11_4, uv11_4⟩ := pv11_4
    have f5 : ((0 : Int32)).toInt = 0 := rfl
    refine jok_le (fun c6 => ?_) (fun c6 => ?_)
    · exact jok_s w
    · refine jok_b (t_gR w ta0 rfl rfl) (fun p18_7 tp18_7 => ?_)
      refine jok_r ev1_1 ?_
      refine jok_b (t_as w tp18_7 rfl (by omega) (by omega) trivial (fun q => by cases q)) (fun h26_9 wh26_9 => ?_)
      obtain ⟨wh26_9, rh26_9⟩ := wh26_9
      refine jok_r (fI (rh26_9 _ _ _) ev1_1) ?_
      have f12 : ((1 : Int32)).toInt = 1 := rfl
      have f13 : ((v1_1 + (1 : Int32))).toInt = (v1_1).toInt + ((1 : Int32)).toInt := jadd (by omega) (by omega)
      refine jok_b (t_pI wh26_9 ta0 rfl rfl (show jI 0 400 (v1_1 + (1 : Int32)) from ⟨by omega, by omega⟩)) (fun h34_11 wh34_11 => ?_)
      obtain ⟨wh34_11, jh34_11, rh34_11⟩ := wh34_11
      refine jok_b (t_gR wh34_11 ta0 rfl rfl) (fun p38_14 tp38_14 => ?_)
      refine jok_r (fI (rh34_11 _ _ _ (Or.inr (by decide))) (fI (rh26_9 _ _ _) ev11_4)) ?_
      refine jok_r (fJ jh34_11) ?_
      have f18 : ((v11_4 - (1 : Int32))).toInt = (v11_4).toInt - ((1 : Int32)).toInt := jsub (by omega) (by omega)
      refine jok_b (t_as wh34_11 tp38_14 rfl (by omega) (by omega) (show jI 0 400 (v1_1 + (1 : Int32)) from ⟨by omega, by omega⟩) (fun q => by cases q)) (fun h51_17 wh51_17 => ?_)
      obtain ⟨wh51_17, rh51_17⟩ := wh51_17
      exact jok_s wh51_17
set_option maxHeartbeats 1000000 in
theorem S_X10_kind {g : jGh} {Γ : Nat → Option Nat} {n : Nat} {a0 : Nat} {h : jH} (hn : 6000 ≤ n) (hg : jgok g) (w : jW (jKd g) Γ h) (ta0 : Γ a0 = some 10) : jok (F_X10_kind n a0 h) (fun v => True) := by
  unfold F_X10_kind
  refine jok_b2 (t_gI w ta0 rfl rfl) (fun v1_1 ev1_1 pv1_1 => ?_)
  obtain ⟨lv1_1, uv1_1⟩ := pv1_1
  refine jok_b2 (t_gI w ta0 rfl rfl) (fun v5_2 ev5_2 pv5_2 => ?_)
  obtain ⟨lv5_2, uv5_2⟩ := pv5_2
  refine jok_le (fun c3 => ?_) (fun c3 => ?_)
  · exact jok_s trivial
  · refine jok_b (t_gR w ta0 rfl rfl) (fun p12_4 tp12_4 => ?_)
    refine jok_r ev1_1 ?_
    refine jok_b (t_al w tp12_4 rfl (by omega) (by omega)) (fun v19_6 pv19_6 => ?_)
    exact jok_s trivial
set_option maxHeartbeats 1000000 in
theorem S_X10_skip {g : jGh} {Γ : Nat → Option Nat} {n : Nat} {a0 : Nat} {h : jH} (hn : 6000 ≤ n) (hg : jgok g) (w : jW (jKd g) Γ h) (ta0 : Γ a0 = some 10) : jok (F_X10_skip n a0 h) (fun q => jW (jKd g) Γ q) := by
  unfold F_X10_skip
  refine jok_b2 (t_gI w ta0 rfl rfl) (fun v1_1 ev1_1 pv1_1 => ?_)
  obtain ⟨lv1_1, uv1_1⟩ := pv1_1
  refine jok_b2 (t_gI w ta0 rfl rfl) (fun v5_2 ev5_2 pv5_2 => ?_)
  obtain ⟨lv5_2, uv5_2⟩ := pv5_2
  refine jok_le (fun c3 => ?_) (fun c3 => ?_)
  · exact jok_s w
  · refine jok_r ev1_1 ?_
    have f6 : ((1 : Int32)).toInt = 1 := rfl
    have f7 : ((v1_1 + (1 : Int32))).toInt = (v1_1).toInt + ((1 : Int32)).toInt := jadd (by omega) (by omega)
    refine jok_b (t_pI w ta0 rfl rfl (show jI 0 400 (v1_1 + (1 : Int32)) from ⟨by omega, by omega⟩)) (fun h18_5 wh18_5 => ?_)
    obtain ⟨wh18_5, jh18_5, rh18_5⟩ := wh18_5
    exact jok_s wh18_5
set_option maxHeartbeats 1000000 in
theorem S_X10_takeNumber {g : jGh} {Γ : Nat → Option Nat} {n : Nat} {a0 : Nat} {x1 : Int32} {x2 : Int32} {h : jH} (hn : 6000 ≤ n) (hg : jgok g) (w : jW (jKd g) Γ h) (ta0 : Γ a0 = some 10) : jok (F_X10_takeNumber n a0 x1 x2 h) (fun q => jW (jKd g) Γ q.2 ∧ (fun v : Int32 => True) q.1) := by
  unfold F_X10_takeNumber
  refine jok_b2 (t_gI w ta0 rfl rfl) (fun v1_1 ev1_1 pv1_1 => ?_)
  obtain ⟨lv1_1, uv1_1⟩ := pv1_1
  refine jok_b2 (t_gI w ta0 rfl rfl) (fun v5_2 ev5_2 pv5_2 => ?_)
  obtain ⟨lv5_2, uv5_2⟩ := pv5_2
  refine jok_le (fun c3 => ?_) (fun c3 => ?_)
  · exact jok_s ⟨w, trivial⟩
  · refine jok_b (t_gR w ta0 rfl rfl) (fun p12_4 tp12_4 => ?_)
    refine jok_r ev1_1 ?_
    refine jok_b (t_al w tp12_4 rfl (by omega) (by omega)) (fun v19_6 pv19_6 => ?_)
    have f7 : ((-3 : Int32)).toInt = -3 := rfl
    refine jok_eq (fun c8 d8 => ?_) (fun c8 => ?_)
    · refine jok_b (t_gR w ta0 rfl rfl) (fun p26_9 tp26_9 => ?_)
      refine jok_r ev1_1 ?_
      refine jok_b (t_al w tp26_9 rfl (by omega) (by omega)) (fun v33_11 pv33_11 => ?_)
      refine jok_lt (fun c12 => ?_) (fun c12 => ?_)
      · exact jok_s ⟨w, trivial⟩
      · refine jok_b (t_gR w ta0 rfl rfl) (fun p39_13 tp39_13 => ?_)
        refine jok_r ev1_1 ?_
        refine jok_b (t_al w tp39_13 rfl (by omega) (by omega)) (fun v46_15 pv46_15 => ?_)
        refine jok_le (fun c16 => ?_) (fun c16 => ?_)
        · refine jok_r ev1_1 ?_
          have f19 : ((1 : Int32)).toInt = 1 := rfl
          have f20 : ((v1_1 + (1 : Int32))).toInt = (v1_1).toInt + ((1 : Int32)).toInt := jadd (by omega) (by omega)
          refine jok_b (t_pI w ta0 rfl rfl (show jI 0 400 (v1_1 + (1 : Int32)) from ⟨by omega, by omega⟩)) (fun h60_18 wh60_18 => ?_)
          obtain ⟨wh60_18, jh60_18, rh60_18⟩ := wh60_18
          refine jok_b (t_gR wh60_18 ta0 rfl rfl) (fun p64_21 tp64_21 => ?_)
          refine jok_r (fJ jh60_18) ?_
          have f24 : (((v1_1 + (1 : Int32)) - (1 : Int32))).toInt = ((v1_1 + (1 : Int32))).toInt - ((1 : Int32)).toInt := jsub (by omega) (by omega)
          refine jok_b (t_al wh60_18 tp64_21 rfl (by omega) (by omega)) (fun v73_23 pv73_23 => ?_)
          exact jok_s ⟨wh60_18, trivial⟩
        · exact jok_s ⟨w, trivial⟩
    · exact jok_s ⟨w, trivial⟩
set_option maxHeartbeats 1000000 in
theorem S_X10_take {g : jGh} {Γ : Nat → Option Nat} {n : Nat} {a0 : Nat} {x1 : Int32} {h : jH} (hn : 6000 ≤ n) (hg : jgok g) (w : jW (jKd g) Γ h) (ta0 : Γ a0 = some 10) : jok (F_X10_take n a0 x1 h) (fun q => jW (jKd g) Γ q.2 ∧ (fun v : Int32 => 0 ≤ v.toInt ∧ v.toInt ≤ 1) q.1) := by
  unfold F_X10_take
  refine jok_b2 (t_gI w ta0 rfl rfl) (fun v1_1 ev1_1 pv1_1 => ?_)
  obtain ⟨lv1_1, uv1_1⟩ := pv1_1
  refine jok_b2 (t_gI w ta0 rfl rfl) (fun v5_2 ev5_2 pv5_2 => ?_)
  obtain ⟨lv5_2, uv5_2⟩ := pv5_2
  refine jok_le (fun c3 => ?_) (fun c3 => ?_)
  · have f4 : ((0 : Int32)).toInt = 0 := rfl
    exact jok_s ⟨w, (show jI 0 1 (0 : Int32) from ⟨by omega, by omega⟩)⟩
  · refine jok_b (t_gR w ta0 rfl rfl) (fun p12_5 tp12_5 => ?_)
    refine jok_r ev1_1 ?_
    refine jok_b (t_al w tp12_5 rfl (by omega) (by omega)) (fun v19_7 pv19_7 => ?_)
    refine jok_eq (fun c8 d8 => ?_) (fun c8 => ?_)
    · refine jok_r ev1_1 ?_
      have f11 : ((1 : Int32)).toInt = 1 := rfl
      have f12 : ((v1_1 + (1 : Int32))).toInt = (v1_1).toInt + ((1 : Int32)).toInt := jadd (by omega) (by omega)
      refine jok_b (t_pI w ta0 rfl rfl (show jI 0 400 (v1_1 + (1 : Int32)) from ⟨by omega, by omega⟩)) (fun h33_10 wh33_10 => ?_)
      obtain ⟨wh33_10, jh33_10, rh33_10⟩ := wh33_10
      exact jok_s ⟨wh33_10, (show jI 0 1 (1 : Int32) from ⟨by omega, by omega⟩)⟩
    · have f13 : ((0 : Int32)).toInt = 0 := rfl
      exact jok_s ⟨w, (show jI 0 1 (0 : Int32) from ⟨by omega, by omega⟩)⟩
set_option maxHeartbeats 1000000 in
theorem S_X3_readSum_4 {g : jGh} {Γ : Nat → Option Nat} {n : Nat} (hn : 6000 ≤ n) (hg : jgok g)  (k : Nat) : ∀ {a0 : Nat} {x1 : Int32} {x2 : Int32} {h : jH}, jW (jKd g) Γ h → (Γ a0 = some 14) → (0 ≤ x1.toInt) → (x1.toInt ≤ 1) → (0 ≤ x2.toInt) → (x2.toInt ≤ 400) → (400 : Int) - x2.toInt < (k : Int) → jok (F_X3_readSum_4 n k a0 x1 x2 h) (fun q => jW (jKd g) Γ q.2 ∧ (fun v : Int32 => 0 ≤ v.toInt ∧ v.toInt ≤ 1) q.1) := by
  induction k with
  | zero =>
    intro a0 x1 x2 h w ta0 lx1 ux1 lx2 ux2 mk
    omega
  | succ k ih =>
    intro a0 x1 x2 h w ta0 lx1 ux1 lx2 ux2 mk
    show jok (F_X3_readSum_4_b n (F_X3_readSum_4 n k) a0 x1 x2 h) _
    unfold F_X3_readSum_4_b
    have f1 : ((400 : Int32)).toInt = 400 := rfl
    refine jok_le (fun c2 => ?_) (fun c2 => ?_)
    · have f3 : ((0 : Int32)).toInt = 0 := rfl
      exact jok_s ⟨w, (show jI 0 1 (0 : Int32) from ⟨by omega, by omega⟩)⟩
    · refine jok_b (t_gR w ta0 rfl rfl) (fun p12_4 tp12_4 => ?_)
      try rw [t_cv w tp12_4 rfl]
      refine jok_b (S_X10_kind hn hg w tp12_4) (fun v15_5 pv15_5 => ?_)
      have f6 : ((0 : Int32)).toInt = 0 := rfl
      refine jok_lt (fun c7 => ?_) (fun c7 => ?_)
      · unfold F_X3_readSum_47
        refine jok_b (t_gR w ta0 rfl rfl) (fun p48_8 tp48_8 => ?_)
        try rw [t_cv w tp48_8 rfl]
        refine jok_b (S_X10_takeNumber hn hg w tp48_8) (fun q55_9 wq55_9 => ?_)
        obtain ⟨wq55_9, pq55_9⟩ := wq55_9
        have f10 : ((-1 : Int32)).toInt = -1 := rfl
        refine jok_eq (fun c11 d11 => ?_) (fun c11 => ?_)
        · exact jok_s ⟨wq55_9, (show jI 0 1 (0 : Int32) from ⟨by omega, by omega⟩)⟩
        · refine jok_b (t_gR wq55_9 ta0 rfl rfl) (fun p69_12 tp69_12 => ?_)
          try rw [t_cv wq55_9 tp69_12 rfl]
          refine jok_b (S_X2_addCode hn hg wq55_9 tp69_12) (fun h78_13 wh78_13 => ?_)
          unfold F_X3_readSum_81
          refine jok_eq (fun c14 d14 => ?_) (fun c14 => ?_)
          · unfold F_X3_readSum_94
            refine jok_b (t_gR wh78_13 ta0 rfl rfl) (fun p95_15 tp95_15 => ?_)
            try rw [t_cv wh78_13 tp95_15 rfl]
            refine jok_b (S_X10_take hn hg wh78_13 tp95_15) (fun q100_16 wq100_16 => ?_)
            obtain ⟨wq100_16, pq100_16⟩ := wq100_16
            obtain ⟨lq100_16, uq100_16⟩ := pq100_16
            refine jok_eq (fun c17 d17 => ?_) (fun c17 => ?_)
            · have f18 : ((1 : Int32)).toInt = 1 := rfl
              exact jok_s ⟨wq100_16, (show jI 0 1 (1 : Int32) from ⟨by omega, by omega⟩)⟩
            · have f19 : ((1 : Int32)).toInt = 1 := rfl
              have f20 : ((x2 + (1 : Int32))).toInt = (x2).toInt + ((1 : Int32)).toInt := jadd (by omega) (by omega)
              exact ih wq100_16 ta0 (by omega) (by omega) (by omega) (by omega) (by omega)
          · refine jok_b (t_gR wh78_13 ta0 rfl rfl) (fun p86_21 tp86_21 => ?_)
            try rw [t_cv wh78_13 tp86_21 rfl]
            refine jok_b (S_X2_addCode hn hg wh78_13 tp86_21) (fun h91_22 wh91_22 => ?_)
            unfold F_X3_readSum_94
            refine jok_b (t_gR wh91_22 ta0 rfl rfl) (fun p95_23 tp95_23 => ?_)
            try rw [t_cv wh91_22 tp95_23 rfl]
            refine jok_b (S_X10_take hn hg wh91_22 tp95_23) (fun q100_24 wq100_24 => ?_)
            obtain ⟨wq100_24, pq100_24⟩ := wq100_24
            obtain ⟨lq100_24, uq100_24⟩ := pq100_24
            refine jok_eq (fun c25 d25 => ?_) (fun c25 => ?_)
            · have f26 : ((1 : Int32)).toInt = 1 := rfl
              exact jok_s ⟨wq100_24, (show jI 0 1 (1 : Int32) from ⟨by omega, by omega⟩)⟩
            · have f27 : ((1 : Int32)).toInt = 1 := rfl
              have f28 : ((x2 + (1 : Int32))).toInt = (x2).toInt + ((1 : Int32)).toInt := jadd (by omega) (by omega)
              exact ih wq100_24 ta0 (by omega) (by omega) (by omega) (by omega) (by omega)
      · have f29 : ((6 : Int32)).toInt = 6 := rfl
        refine jok_lt (fun c30 => ?_) (fun c30 => ?_)
        · unfold F_X3_readSum_47
          refine jok_b (t_gR w ta0 rfl rfl) (fun p48_31 tp48_31 => ?_)
          try rw [t_cv w tp48_31 rfl]
          refine jok_b (S_X10_takeNumber hn hg w tp48_31) (fun q55_32 wq55_32 => ?_)
          obtain ⟨wq55_32, pq55_32⟩ := wq55_32
          have f33 : ((-1 : Int32)).toInt = -1 := rfl
          refine jok_eq (fun c34 d34 => ?_) (fun c34 => ?_)
          · exact jok_s ⟨wq55_32, (show jI 0 1 (0 : Int32) from ⟨by omega, by omega⟩)⟩
          · refine jok_b (t_gR wq55_32 ta0 rfl rfl) (fun p69_35 tp69_35 => ?_)
            try rw [t_cv wq55_32 tp69_35 rfl]
            refine jok_b (S_X2_addCode hn hg wq55_32 tp69_35) (fun h78_36 wh78_36 => ?_)
            unfold F_X3_readSum_81
            refine jok_eq (fun c37 d37 => ?_) (fun c37 => ?_)
            · unfold F_X3_readSum_94
              refine jok_b (t_gR wh78_36 ta0 rfl rfl) (fun p95_38 tp95_38 => ?_)
              try rw [t_cv wh78_36 tp95_38 rfl]
              refine jok_b (S_X10_take hn hg wh78_36 tp95_38) (fun q100_39 wq100_39 => ?_)
              obtain ⟨wq100_39, pq100_39⟩ := wq100_39
              obtain ⟨lq100_39, uq100_39⟩ := pq100_39
              refine jok_eq (fun c40 d40 => ?_) (fun c40 => ?_)
              · have f41 : ((1 : Int32)).toInt = 1 := rfl
                exact jok_s ⟨wq100_39, (show jI 0 1 (1 : Int32) from ⟨by omega, by omega⟩)⟩
              · have f42 : ((1 : Int32)).toInt = 1 := rfl
                have f43 : ((x2 + (1 : Int32))).toInt = (x2).toInt + ((1 : Int32)).toInt := jadd (by omega) (by omega)
                exact ih wq100_39 ta0 (by omega) (by omega) (by omega) (by omega) (by omega)
            · refine jok_b (t_gR wh78_36 ta0 rfl rfl) (fun p86_44 tp86_44 => ?_)
              try rw [t_cv wh78_36 tp86_44 rfl]
              refine jok_b (S_X2_addCode hn hg wh78_36 tp86_44) (fun h91_45 wh91_45 => ?_)
              unfold F_X3_readSum_94
              refine jok_b (t_gR wh91_45 ta0 rfl rfl) (fun p95_46 tp95_46 => ?_)
              try rw [t_cv wh91_45 tp95_46 rfl]
              refine jok_b (S_X10_take hn hg wh91_45 tp95_46) (fun q100_47 wq100_47 => ?_)
              obtain ⟨wq100_47, pq100_47⟩ := wq100_47
              obtain ⟨lq100_47, uq100_47⟩ := pq100_47
              refine jok_eq (fun c48 d48 => ?_) (fun c48 => ?_)
              · have f49 : ((1 : Int32)).toInt = 1 := rfl
                exact jok_s ⟨wq100_47, (show jI 0 1 (1 : Int32) from ⟨by omega, by omega⟩)⟩
              · have f50 : ((1 : Int32)).toInt = 1 := rfl
                have f51 : ((x2 + (1 : Int32))).toInt = (x2).toInt + ((1 : Int32)).toInt := jadd (by omega) (by omega)
                exact ih wq100_47 ta0 (by omega) (by omega) (by omega) (by omega) (by omega)
        · refine jok_b (t_gR w ta0 rfl rfl) (fun p30_52 tp30_52 => ?_)
          try rw [t_cv w tp30_52 rfl]
          refine jok_b (S_X10_skip hn hg w tp30_52) (fun h33_53 wh33_53 => ?_)
          refine jok_b (t_gR wh33_53 ta0 rfl rfl) (fun p37_54 tp37_54 => ?_)
          try rw [t_cv wh33_53 tp37_54 rfl]
          refine jok_b (S_X2_addCode hn hg wh33_53 tp37_54) (fun h41_55 wh41_55 => ?_)
          unfold F_X3_readSum_81
          refine jok_eq (fun c56 d56 => ?_) (fun c56 => ?_)
          · unfold F_X3_readSum_94
            refine jok_b (t_gR wh41_55 ta0 rfl rfl) (fun p95_57 tp95_57 => ?_)
            try rw [t_cv wh41_55 tp95_57 rfl]
            refine jok_b (S_X10_take hn hg wh41_55 tp95_57) (fun q100_58 wq100_58 => ?_)
            obtain ⟨wq100_58, pq100_58⟩ := wq100_58
            obtain ⟨lq100_58, uq100_58⟩ := pq100_58
            refine jok_eq (fun c59 d59 => ?_) (fun c59 => ?_)
            · have f60 : ((1 : Int32)).toInt = 1 := rfl
              exact jok_s ⟨wq100_58, (show jI 0 1 (1 : Int32) from ⟨by omega, by omega⟩)⟩
            · have f61 : ((1 : Int32)).toInt = 1 := rfl
              have f62 : ((x2 + (1 : Int32))).toInt = (x2).toInt + ((1 : Int32)).toInt := jadd (by omega) (by omega)
              exact ih wq100_58 ta0 (by omega) (by omega) (by omega) (by omega) (by omega)
          · refine jok_b (t_gR wh41_55 ta0 rfl rfl) (fun p86_63 tp86_63 => ?_)
            try rw [t_cv wh41_55 tp86_63 rfl]
            refine jok_b (S_X2_addCode hn hg wh41_55 tp86_63) (fun h91_64 wh91_64 => ?_)
            unfold F_X3_readSum_94
            refine jok_b (t_gR wh91_64 ta0 rfl rfl) (fun p95_65 tp95_65 => ?_)
            try rw [t_cv wh91_64 tp95_65 rfl]
            refine jok_b (S_X10_take hn hg wh91_64 tp95_65) (fun q100_66 wq100_66 => ?_)
            obtain ⟨wq100_66, pq100_66⟩ := wq100_66
            obtain ⟨lq100_66, uq100_66⟩ := pq100_66
            refine jok_eq (fun c67 d67 => ?_) (fun c67 => ?_)
            · have f68 : ((1 : Int32)).toInt = 1 := rfl
              exact jok_s ⟨wq100_66, (show jI 0 1 (1 : Int32) from ⟨by omega, by omega⟩)⟩
            · have f69 : ((1 : Int32)).toInt = 1 := rfl
              have f70 : ((x2 + (1 : Int32))).toInt = (x2).toInt + ((1 : Int32)).toInt := jadd (by omega) (by omega)
              exact ih wq100_66 ta0 (by omega) (by omega) (by omega) (by omega) (by omega)
set_option maxHeartbeats 1000000 in
theorem S_X3_readSum {g : jGh} {Γ : Nat → Option Nat} {n : Nat} {a0 : Nat} {h : jH} (hn : 6000 ≤ n) (hg : jgok g) (w : jW (jKd g) Γ h) (ta0 : Γ a0 = some 14) : jok (F_X3_readSum n a0 h) (fun q => jW (jKd g) Γ q.2 ∧ (fun v : Int32 => 0 ≤ v.toInt ∧ v.toInt ≤ 1) q.1) := by
  unfold F_X3_readSum
  have f1 : ((0 : Int32)).toInt = 0 := rfl
  exact S_X3_readSum_4 hn hg  n w ta0 (by omega) (by omega) (by omega) (by omega) (by omega)
set_option maxHeartbeats 1000000 in
theorem S_X3_readComparison {g : jGh} {Γ : Nat → Option Nat} {n : Nat} {a0 : Nat} {h : jH} (hn : 6000 ≤ n) (hg : jgok g) (w : jW (jKd g) Γ h) (ta0 : Γ a0 = some 14) : jok (F_X3_readComparison n a0 h) (fun q => jW (jKd g) Γ q.2 ∧ (fun v : Int32 => 0 ≤ v.toInt ∧ v.toInt ≤ 1) q.1) := by
  unfold F_X3_readComparison
  try rw [t_cv w ta0 rfl]
  refine jok_b (S_X3_readSum hn hg w ta0) (fun q1_1 wq1_1 => ?_)
  obtain ⟨wq1_1, pq1_1⟩ := wq1_1
  obtain ⟨lq1_1, uq1_1⟩ := pq1_1
  have f2 : ((0 : Int32)).toInt = 0 := rfl
  refine jok_eq (fun c3 d3 => ?_) (fun c3 => ?_)
  · exact jok_s ⟨wq1_1, (show jI 0 1 (0 : Int32) from ⟨by omega, by omega⟩)⟩
  · refine jok_b (t_gR wq1_1 ta0 rfl rfl) (fun p10_4 tp10_4 => ?_)
    try rw [t_cv wq1_1 tp10_4 rfl]
    refine jok_b (S_X10_kind hn hg wq1_1 tp10_4) (fun v13_5 pv13_5 => ?_)
    refine jok_b (t_gR wq1_1 ta0 rfl rfl) (fun p18_6 tp18_6 => ?_)
    try rw [t_cv wq1_1 tp18_6 rfl]
    refine jok_b (S_X10_take hn hg wq1_1 tp18_6) (fun q23_7 wq23_7 => ?_)
    obtain ⟨wq23_7, pq23_7⟩ := wq23_7
    obtain ⟨lq23_7, uq23_7⟩ := pq23_7
    refine jok_eq (fun c8 d8 => ?_) (fun c8 => ?_)
    · refine jok_b (t_gR wq23_7 ta0 rfl rfl) (fun p30_9 tp30_9 => ?_)
      try rw [t_cv wq23_7 tp30_9 rfl]
      refine jok_b (S_X10_take hn hg wq23_7 tp30_9) (fun q35_10 wq35_10 => ?_)
      obtain ⟨wq35_10, pq35_10⟩ := wq35_10
      obtain ⟨lq35_10, uq35_10⟩ := pq35_10
      refine jok_eq (fun c11 d11 => ?_) (fun c11 => ?_)
      · exact jok_s ⟨wq35_10, (show jI 0 1 (0 : Int32) from ⟨by omega, by omega⟩)⟩
      · unfold F_X3_readComparison_43
        try rw [t_cv wq35_10 ta0 rfl]
        refine jok_b (S_X3_readSum hn hg wq35_10 ta0) (fun q44_12 wq44_12 => ?_)
        obtain ⟨wq44_12, pq44_12⟩ := wq44_12
        obtain ⟨lq44_12, uq44_12⟩ := pq44_12
        refine jok_b (t_gR wq44_12 ta0 rfl rfl) (fun p49_13 tp49_13 => ?_)
        try rw [t_cv wq44_12 tp49_13 rfl]
        refine jok_b (S_X2_addCode hn hg wq44_12 tp49_13) (fun h53_14 wh53_14 => ?_)
        rw [if_pos (show q44_12.1 = 0 ∨ q44_12.1 = 1 from j01 (by omega) (by omega))]
        exact jok_s ⟨wh53_14, (show jI 0 1 q44_12.1 from ⟨by omega, by omega⟩)⟩
    · unfold F_X3_readComparison_43
      try rw [t_cv wq23_7 ta0 rfl]
      refine jok_b (S_X3_readSum hn hg wq23_7 ta0) (fun q44_15 wq44_15 => ?_)
      obtain ⟨wq44_15, pq44_15⟩ := wq44_15
      obtain ⟨lq44_15, uq44_15⟩ := pq44_15
      refine jok_b (t_gR wq44_15 ta0 rfl rfl) (fun p49_16 tp49_16 => ?_)
      try rw [t_cv wq44_15 tp49_16 rfl]
      refine jok_b (S_X2_addCode hn hg wq44_15 tp49_16) (fun h53_17 wh53_17 => ?_)
      rw [if_pos (show q44_15.1 = 0 ∨ q44_15.1 = 1 from j01 (by omega) (by omega))]
      exact jok_s ⟨wh53_17, (show jI 0 1 q44_15.1 from ⟨by omega, by omega⟩)⟩
def jfm (x0 x1 : Int32) : Option Int32 :=
  if x1 = 0 then none else
  if 0 ≤ (x0 ^^^ x1) then (some (x0 - x0 / x1 * x1))
  else (if (x0 - x0 / x1 * x1) = 0 then (some (x0 - x0 / x1 * x1))
  else (some ((x0 - x0 / x1 * x1) + x1)))
theorem jfm_ok : ∀ j : Nat, j < 201 → (jfm (Int32.ofInt ((j : Int) - 100)) 60).any (fun v => decide (0 ≤ v.toInt ∧ v.toInt ≤ 59)) = true := by decide +kernel
theorem S_J9_floorMod_7cf53 {g : jGh} {Γ : Nat → Option Nat} {n : Nat} {x0 x1 : Int32} {h : jH} (hn : 6000 ≤ n) (hg : jgok g) (w : jW (jKd g) Γ h) (l0 : -100 ≤ x0.toInt) (u0 : x0.toInt ≤ 100) (l1 : 60 ≤ x1.toInt) (u1 : x1.toInt ≤ 60) : jok (F_J9_floorMod_7cf53 n x0 x1 h) (fun v => 0 ≤ v.toInt ∧ v.toInt ≤ 59) := by
  have e1 : x1 = 60 := Int32.toInt_inj.mp (by have : (60 : Int32).toInt = 60 := rfl
                                              omega)
  subst e1
  obtain ⟨j, hj⟩ := Int.eq_ofNat_of_zero_le (show 0 ≤ x0.toInt + 100 by omega)
  have e0 : x0 = Int32.ofInt ((j : Int) - 100) := by
    rw [show (j : Int) - 100 = x0.toInt by omega, Int32.ofInt_toInt]
  have h9 := jfm_ok j (by omega)
  rw [← e0] at h9
  show jok (jfm x0 60) _
  cases q : jfm x0 60 with
  | none => rw [q] at h9; cases h9
  | some v => rw [q] at h9; exact ⟨v, rfl, by simpa using h9⟩
set_option maxHeartbeats 1000000 in
theorem S_X5_read {g : jGh} {Γ : Nat → Option Nat} {n : Nat} {a0 : Nat} {x1 : Int32} {x2 : Int32} {h : jH} (hn : 6000 ≤ n) (hg : jgok g) (w : jW (jKd g) Γ h) (ta0 : Γ a0 = some 2) : jok (F_X5_read n a0 x1 x2 h) (fun v => True) := by
  unfold F_X5_read
  have f1 : ((0 : Int32)).toInt = 0 := rfl
  refine jok_lt (fun c2 => ?_) (fun c2 => ?_)
  · exact jok_s trivial
  · refine jok_b2 (t_gI w ta0 rfl rfl) (fun v6_3 ev6_3 pv6_3 => ?_)
    obtain ⟨lv6_3, uv6_3⟩ := pv6_3
    refine jok_le (fun c4 => ?_) (fun c4 => ?_)
    · exact jok_s trivial
    · refine jok_lt (fun c5 => ?_) (fun c5 => ?_)
      · exact jok_s trivial
      · have f6 : ((6 : Int32)).toInt = 6 := rfl
        refine jok_lt (fun c7 => ?_) (fun c7 => ?_)
        · refine jok_b (t_gR w ta0 rfl rfl) (fun p25_8 tp25_8 => ?_)
          refine jok_b2 (t_gI w ta0 rfl rfl) (fun v29_9 ev29_9 pv29_9 => ?_)
          obtain ⟨lv29_9, uv29_9⟩ := pv29_9
          have f11 : ((1 : Int32)).toInt = 1 := rfl
          have f12 : ((v29_9 - (1 : Int32))).toInt = (v29_9).toInt - ((1 : Int32)).toInt := jsub (by omega) (by omega)
          have f13 : (((v29_9 - (1 : Int32)) - x1)).toInt = ((v29_9 - (1 : Int32))).toInt - (x1).toInt := jsub (by omega) (by omega)
          have f14 : ((60 : Int32)).toInt = 60 := rfl
          refine jok_b (S_J9_floorMod_7cf53 hn hg w (by omega) (by omega) (by omega) (by omega)) (fun v38_10 pv38_10 => ?_)
          obtain ⟨lv38_10, uv38_10⟩ := pv38_10
          refine jok_b (t_al w tp25_8 rfl (by omega) (by omega)) (fun v41_15 pv41_15 => ?_)
          rw [if_neg (show ¬ (x2 < 0 ∨ 6 ≤ (x2).toNatClampNeg) from jnoob (by omega) (by omega))]
          rw [if_neg (show ¬ (x2 < 0 ∨ 6 ≤ (x2).toNatClampNeg) from jnoob (by omega) (by omega))]
          exact jok_s trivial
        · exact jok_s trivial
set_option maxHeartbeats 1000000 in
theorem S_X5_rowsOf_4 {g : jGh} {Γ : Nat → Option Nat} {n : Nat} (hn : 6000 ≤ n) (hg : jgok g)  (k : Nat) : ∀ {a0 : Nat} {x1 : Int32} {x2 : Int32} {x3 : Int32} {h : jH}, jW (jKd g) Γ h → (Γ a0 = some 2) → (0 ≤ x3.toInt) → (x3.toInt ≤ 60) → (60 : Int) - x3.toInt < (k : Int) → jok (F_X5_rowsOf_4 n k a0 x1 x2 x3 h) (fun v => True) := by
  induction k with
  | zero =>
    intro a0 x1 x2 x3 h w ta0 lx3 ux3 mk
    omega
  | succ k ih =>
    intro a0 x1 x2 x3 h w ta0 lx3 ux3 mk
    show jok (F_X5_rowsOf_4_b n (F_X5_rowsOf_4 n k) a0 x1 x2 x3 h) _
    unfold F_X5_rowsOf_4_b
    refine jok_b2 (t_gI w ta0 rfl rfl) (fun v6_1 ev6_1 pv6_1 => ?_)
    obtain ⟨lv6_1, uv6_1⟩ := pv6_1
    refine jok_le (fun c2 => ?_) (fun c2 => ?_)
    · exact jok_s trivial
    · try rw [t_cv w ta0 rfl]
      refine jok_b (S_X5_read hn hg w ta0) (fun v15_3 pv15_3 => ?_)
      refine jok_eq (fun c4 d4 => ?_) (fun c4 => ?_)
      · have f5 : ((1 : Int32)).toInt = 1 := rfl
        have f6 : ((x3 + (1 : Int32))).toInt = (x3).toInt + ((1 : Int32)).toInt := jadd (by omega) (by omega)
        exact ih w ta0 (by omega) (by omega) (by omega)
      · have f7 : ((1 : Int32)).toInt = 1 := rfl
        have f8 : ((x3 + (1 : Int32))).toInt = (x3).toInt + ((1 : Int32)).toInt := jadd (by omega) (by omega)
        exact ih w ta0 (by omega) (by omega) (by omega)
set_option maxHeartbeats 1000000 in
theorem S_X5_rowsOf {g : jGh} {Γ : Nat → Option Nat} {n : Nat} {a0 : Nat} {x1 : Int32} {h : jH} (hn : 6000 ≤ n) (hg : jgok g) (w : jW (jKd g) Γ h) (ta0 : Γ a0 = some 2) : jok (F_X5_rowsOf n a0 x1 h) (fun v => True) := by
  unfold F_X5_rowsOf
  have f1 : ((0 : Int32)).toInt = 0 := rfl
  exact S_X5_rowsOf_4 hn hg  n w ta0 (by omega) (by omega) (by omega)
set_option maxHeartbeats 1000000 in
theorem S_X5_latestPlace_2 {g : jGh} {Γ : Nat → Option Nat} {n : Nat} (hn : 6000 ≤ n) (hg : jgok g)  (k : Nat) : ∀ {a0 : Nat} {x1 : Int32} {x2 : Int32} {h : jH}, jW (jKd g) Γ h → (Γ a0 = some 2) → (0 ≤ x2.toInt) → (x2.toInt ≤ 60) → (60 : Int) - x2.toInt < (k : Int) → jok (F_X5_latestPlace_2 n k a0 x1 x2 h) (fun v => True) := by
  induction k with
  | zero =>
    intro a0 x1 x2 h w ta0 lx2 ux2 mk
    omega
  | succ k ih =>
    intro a0 x1 x2 h w ta0 lx2 ux2 mk
    show jok (F_X5_latestPlace_2_b n (F_X5_latestPlace_2 n k) a0 x1 x2 h) _
    unfold F_X5_latestPlace_2_b
    refine jok_b2 (t_gI w ta0 rfl rfl) (fun v4_1 ev4_1 pv4_1 => ?_)
    obtain ⟨lv4_1, uv4_1⟩ := pv4_1
    refine jok_le (fun c2 => ?_) (fun c2 => ?_)
    · exact jok_s trivial
    · try rw [t_cv w ta0 rfl]
      refine jok_b (S_X5_read hn hg w ta0) (fun v13_3 pv13_3 => ?_)
      refine jok_eq (fun c4 d4 => ?_) (fun c4 => ?_)
      · try rw [t_cv w ta0 rfl]
        refine jok_b (S_X5_read hn hg w ta0) (fun v23_5 pv23_5 => ?_)
        exact jok_s trivial
      · have f6 : ((1 : Int32)).toInt = 1 := rfl
        have f7 : ((x2 + (1 : Int32))).toInt = (x2).toInt + ((1 : Int32)).toInt := jadd (by omega) (by omega)
        exact ih w ta0 (by omega) (by omega) (by omega)
set_option maxHeartbeats 1000000 in
theorem S_X5_latestPlace {g : jGh} {Γ : Nat → Option Nat} {n : Nat} {a0 : Nat} {x1 : Int32} {h : jH} (hn : 6000 ≤ n) (hg : jgok g) (w : jW (jKd g) Γ h) (ta0 : Γ a0 = some 2) : jok (F_X5_latestPlace n a0 x1 h) (fun v => True) := by
  unfold F_X5_latestPlace
  have f1 : ((0 : Int32)).toInt = 0 := rfl
  exact S_X5_latestPlace_2 hn hg  n w ta0 (by omega) (by omega) (by omega)
set_option maxHeartbeats 1000000 in
theorem S_X6_hangsBy_22 {g : jGh} {Γ : Nat → Option Nat} {n : Nat} (hn : 6000 ≤ n) (hg : jgok g)  (k : Nat) : ∀ {a0 : Nat} {x1 : Int32} {x2 : Int32} {x3 : Int32} {x4 : Int32} {h : jH}, jW (jKd g) Γ h → (Γ a0 = some 3) → (0 ≤ x1.toInt) → (x1.toInt ≤ 7) → (0 ≤ x4.toInt) → (x4.toInt ≤ 8) → (8 : Int) - x4.toInt < (k : Int) → jok (F_X6_hangsBy_22 n k a0 x1 x2 x3 x4 h) (fun v => True) := by
  induction k with
  | zero =>
    intro a0 x1 x2 x3 x4 h w ta0 lx1 ux1 lx4 ux4 mk
    omega
  | succ k ih =>
    intro a0 x1 x2 x3 x4 h w ta0 lx1 ux1 lx4 ux4 mk
    show jok (F_X6_hangsBy_22_b n (F_X6_hangsBy_22 n k) a0 x1 x2 x3 x4 h) _
    unfold F_X6_hangsBy_22_b
    refine jok_b2 (t_gI w ta0 rfl rfl) (fun v25_1 ev25_1 pv25_1 => ?_)
    obtain ⟨lv25_1, uv25_1⟩ := pv25_1
    refine jok_le (fun c2 => ?_) (fun c2 => ?_)
    · exact jok_s trivial
    · refine jok_b (t_gR w ta0 rfl rfl) (fun p32_3 tp32_3 => ?_)
      refine jok_b (t_al w tp32_3 rfl (by omega) (by omega)) (fun v37_4 pv37_4 => ?_)
      refine jok_b (t_gR w ta0 rfl rfl) (fun p39_5 tp39_5 => ?_)
      refine jok_b (t_al w tp39_5 rfl (by omega) (by omega)) (fun v43_6 pv43_6 => ?_)
      refine jok_b2 (t_gI w ta0 rfl rfl) (fun v51_7 ev51_7 pv51_7 => ?_)
      refine jok_b (S_X11_bit hn hg w) (fun v56_8 pv56_8 => ?_)
      obtain ⟨lv56_8, uv56_8⟩ := pv56_8
      have f9 : ((1 : Int32)).toInt = 1 := rfl
      refine jok_eq (fun c10 d10 => ?_) (fun c10 => ?_)
      · have f11 : ((0 : Int32)).toInt = 0 := rfl
        refine jok_le (fun c12 => ?_) (fun c12 => ?_)
        · have f13 : ((x4 + (1 : Int32))).toInt = (x4).toInt + ((1 : Int32)).toInt := jadd (by omega) (by omega)
          exact ih w ta0 (by omega) (by omega) (by omega) (by omega) (by omega)
        · have f14 : ((x4 + (1 : Int32))).toInt = (x4).toInt + ((1 : Int32)).toInt := jadd (by omega) (by omega)
          exact ih w ta0 (by omega) (by omega) (by omega) (by omega) (by omega)
      · have f15 : ((x4 + (1 : Int32))).toInt = (x4).toInt + ((1 : Int32)).toInt := jadd (by omega) (by omega)
        exact ih w ta0 (by omega) (by omega) (by omega) (by omega) (by omega)
set_option maxHeartbeats 1000000 in
theorem S_X6_hangsBy {g : jGh} {Γ : Nat → Option Nat} {n : Nat} {a0 : Nat} {x1 : Int32} {h : jH} (hn : 6000 ≤ n) (hg : jgok g) (w : jW (jKd g) Γ h) (ta0 : Γ a0 = some 3) (lx1 : 0 ≤ x1.toInt) (ux1 : x1.toInt ≤ 7) : jok (F_X6_hangsBy n a0 x1 h) (fun v => True) := by
  unfold F_X6_hangsBy
  refine jok_b2 (t_gI w ta0 rfl rfl) (fun v1_1 ev1_1 pv1_1 => ?_)
  refine jok_b (S_X11_bit hn hg w) (fun v5_2 pv5_2 => ?_)
  obtain ⟨lv5_2, uv5_2⟩ := pv5_2
  have f3 : ((1 : Int32)).toInt = 1 := rfl
  refine jok_eq (fun c4 d4 => ?_) (fun c4 => ?_)
  · exact jok_s trivial
  · have f5 : ((0 : Int32)).toInt = 0 := rfl
    exact S_X6_hangsBy_22 hn hg  n w ta0 (by omega) (by omega) (by omega) (by omega) (by omega)
set_option maxHeartbeats 1000000 in
theorem S_X6_share {g : jGh} {Γ : Nat → Option Nat} {n : Nat} {a0 : Nat} {x1 : Int32} {h : jH} (hn : 6000 ≤ n) (hg : jgok g) (w : jW (jKd g) Γ h) (ta0 : Γ a0 = some 3) (lx1 : 0 ≤ x1.toInt) (ux1 : x1.toInt ≤ 7) : jok (F_X6_share n a0 x1 h) (fun v => True) := by
  unfold F_X6_share
  try rw [t_cv w ta0 rfl]
  refine jok_b (S_X8_allFades hn hg w ta0) (fun v1_1 pv1_1 => ?_)
  have f2 : ((0 : Int32)).toInt = 0 := rfl
  refine jok_eq (fun c3 d3 => ?_) (fun c3 => ?_)
  · exact jok_s trivial
  · refine jok_b (t_gR w ta0 rfl rfl) (fun p16_4 tp16_4 => ?_)
    refine jok_b (t_al w tp16_4 rfl (by omega) (by omega)) (fun v20_5 pv20_5 => ?_)
    rw [if_neg (show ¬ (v1_1 = 0) from jne (by omega))]
    exact jok_s trivial
set_option maxHeartbeats 1000000 in
theorem S_X6_isInOrder_4 {g : jGh} {Γ : Nat → Option Nat} {n : Nat} (hn : 6000 ≤ n) (hg : jgok g)  (k : Nat) : ∀ {a0 : Nat} {x1 : Int32} {x2 : Int32} {x3 : Int32} {h : jH}, jW (jKd g) Γ h → (Γ a0 = some 3) → (0 ≤ x3.toInt) → (x3.toInt ≤ 8) → (8 : Int) - x3.toInt < (k : Int) → jok (F_X6_isInOrder_4 n k a0 x1 x2 x3 h) (fun v => 0 ≤ v.toInt ∧ v.toInt ≤ 1) := by
  induction k with
  | zero =>
    intro a0 x1 x2 x3 h w ta0 lx3 ux3 mk
    omega
  | succ k ih =>
    intro a0 x1 x2 x3 h w ta0 lx3 ux3 mk
    show jok (F_X6_isInOrder_4_b n (F_X6_isInOrder_4 n k) a0 x1 x2 x3 h) _
    unfold F_X6_isInOrder_4_b
    refine jok_b2 (t_gI w ta0 rfl rfl) (fun v6_1 ev6_1 pv6_1 => ?_)
    obtain ⟨lv6_1, uv6_1⟩ := pv6_1
    refine jok_le (fun c2 => ?_) (fun c2 => ?_)
    · have f3 : ((1 : Int32)).toInt = 1 := rfl
      exact jok_s (show jI 0 1 (1 : Int32) from ⟨by omega, by omega⟩)
    · refine jok_b (S_X11_bit hn hg w) (fun v14_4 pv14_4 => ?_)
      obtain ⟨lv14_4, uv14_4⟩ := pv14_4
      have f5 : ((1 : Int32)).toInt = 1 := rfl
      refine jok_eq (fun c6 d6 => ?_) (fun c6 => ?_)
      · refine jok_b (t_gR w ta0 rfl rfl) (fun p22_7 tp22_7 => ?_)
        refine jok_b (t_al w tp22_7 rfl (by omega) (by omega)) (fun v26_8 pv26_8 => ?_)
        refine jok_le (fun c9 => ?_) (fun c9 => ?_)
        · refine jok_b (t_gR w ta0 rfl rfl) (fun p34_10 tp34_10 => ?_)
          refine jok_b (t_al w tp34_10 rfl (by omega) (by omega)) (fun v38_11 pv38_11 => ?_)
          have f12 : ((x3 + (1 : Int32))).toInt = (x3).toInt + ((1 : Int32)).toInt := jadd (by omega) (by omega)
          exact ih w ta0 (by omega) (by omega) (by omega)
        · have f13 : ((0 : Int32)).toInt = 0 := rfl
          exact jok_s (show jI 0 1 (0 : Int32) from ⟨by omega, by omega⟩)
      · have f14 : ((x3 + (1 : Int32))).toInt = (x3).toInt + ((1 : Int32)).toInt := jadd (by omega) (by omega)
        exact ih w ta0 (by omega) (by omega) (by omega)
set_option maxHeartbeats 1000000 in
theorem S_X6_isInOrder {g : jGh} {Γ : Nat → Option Nat} {n : Nat} {a0 : Nat} {x1 : Int32} {h : jH} (hn : 6000 ≤ n) (hg : jgok g) (w : jW (jKd g) Γ h) (ta0 : Γ a0 = some 3) : jok (F_X6_isInOrder n a0 x1 h) (fun v => 0 ≤ v.toInt ∧ v.toInt ≤ 1) := by
  unfold F_X6_isInOrder
  have f1 : ((0 : Int32)).toInt = 0 := rfl
  exact S_X6_isInOrder_4 hn hg  n w ta0 (by omega) (by omega) (by omega)
theorem S_J6_bitCount_0f7a4 {g : jGh} {Γ : Nat → Option Nat} {n : Nat} {x0 : Int32} {h : jH} (hn : 6000 ≤ n) (hg : jgok g) (w : jW (jKd g) Γ h) : jok (F_J6_bitCount_0f7a4 n x0 h) (fun v => True) := ⟨_, rfl, trivial⟩
set_option maxHeartbeats 1000000 in
theorem S_X6_outOfOrder_4 {g : jGh} {Γ : Nat → Option Nat} {n : Nat} (hn : 6000 ≤ n) (hg : jgok g)  (k : Nat) : ∀ {a0 : Nat} {x1 : Int32} {x2 : Int32} {h : jH}, jW (jKd g) Γ h → (Γ a0 = some 3) → (0 ≤ x2.toInt) → (x2.toInt ≤ 256) → (256 : Int) - x2.toInt < (k : Int) → jok (F_X6_outOfOrder_4 n k a0 x1 x2 h) (fun v => True) := by
  induction k with
  | zero =>
    intro a0 x1 x2 h w ta0 lx2 ux2 mk
    omega
  | succ k ih =>
    intro a0 x1 x2 h w ta0 lx2 ux2 mk
    show jok (F_X6_outOfOrder_4_b n (F_X6_outOfOrder_4 n k) a0 x1 x2 h) _
    unfold F_X6_outOfOrder_4_b
    refine jok_b2 (t_gI w ta0 rfl rfl) (fun v7_1 ev7_1 pv7_1 => ?_)
    obtain ⟨lv7_1, uv7_1⟩ := pv7_1
    have f2 := jshl1 (v := v7_1) (k := 8) (by omega) (by omega) (by decide)
    refine jok_le (fun c3 => ?_) (fun c3 => ?_)
    · refine jok_r ev7_1 ?_
      exact jok_s trivial
    · refine jok_b (S_X6_isInOrder hn hg w ta0) (fun v16_5 pv16_5 => ?_)
      obtain ⟨lv16_5, uv16_5⟩ := pv16_5
      have f6 : ((0 : Int32)).toInt = 0 := rfl
      refine jok_eq (fun c7 d7 => ?_) (fun c7 => ?_)
      · have f8 : ((1 : Int32)).toInt = 1 := rfl
        have f9 : ((x2 + (1 : Int32))).toInt = (x2).toInt + ((1 : Int32)).toInt := jadd (by omega) (by omega)
        exact ih w ta0 (by omega) (by omega) (by omega)
      · refine jok_b (S_J6_bitCount_0f7a4 hn hg w) (fun v24_10 pv24_10 => ?_)
        have f11 : ((1 : Int32)).toInt = 1 := rfl
        have f12 : ((x2 + (1 : Int32))).toInt = (x2).toInt + ((1 : Int32)).toInt := jadd (by omega) (by omega)
        exact ih w ta0 (by omega) (by omega) (by omega)
set_option maxHeartbeats 1000000 in
theorem S_X6_outOfOrder {g : jGh} {Γ : Nat → Option Nat} {n : Nat} {a0 : Nat} {h : jH} (hn : 6000 ≤ n) (hg : jgok g) (w : jW (jKd g) Γ h) (ta0 : Γ a0 = some 3) : jok (F_X6_outOfOrder n a0 h) (fun v => True) := by
  unfold F_X6_outOfOrder
  have f1 : ((0 : Int32)).toInt = 0 := rfl
  exact S_X6_outOfOrder_4 hn hg  n w ta0 (by omega) (by omega) (by omega)
set_option maxHeartbeats 1000000 in
theorem S_X6_tightest_8 {g : jGh} {Γ : Nat → Option Nat} {n : Nat} (hn : 6000 ≤ n) (hg : jgok g)  (k : Nat) : ∀ {a0 : Nat} {x1 : Int32} {x2 : Int32} {x3 : Int32} {x4 : Int32} {h : jH}, jW (jKd g) Γ h → (Γ a0 = some 3) → (2 ≤ x1.toInt) → (x1.toInt ≤ 8) → (0 ≤ x4.toInt) → (x4.toInt ≤ 8) → (8 : Int) - x4.toInt < (k : Int) → jok (F_X6_tightest_8 n k a0 x1 x2 x3 x4 h) (fun v => True) := by
  induction k with
  | zero =>
    intro a0 x1 x2 x3 x4 h w ta0 lx1 ux1 lx4 ux4 mk
    omega
  | succ k ih =>
    intro a0 x1 x2 x3 x4 h w ta0 lx1 ux1 lx4 ux4 mk
    show jok (F_X6_tightest_8_b n (F_X6_tightest_8 n k) a0 x1 x2 x3 x4 h) _
    unfold F_X6_tightest_8_b
    refine jok_b2 (t_gI w ta0 rfl rfl) (fun v13_1 ev13_1 pv13_1 => ?_)
    obtain ⟨lv13_1, uv13_1⟩ := pv13_1
    have f2 : ((x4 + x1)).toInt = (x4).toInt + (x1).toInt := jadd (by omega) (by omega)
    refine jok_lt (fun c3 => ?_) (fun c3 => ?_)
    · exact jok_s trivial
    · refine jok_b (t_gR w ta0 rfl rfl) (fun p20_4 tp20_4 => ?_)
      have f6 : ((1 : Int32)).toInt = 1 := rfl
      have f7 : (((x4 + x1) - (1 : Int32))).toInt = ((x4 + x1)).toInt - ((1 : Int32)).toInt := jsub (by omega) (by omega)
      refine jok_b (t_al w tp20_4 rfl (by omega) (by omega)) (fun v29_5 pv29_5 => ?_)
      refine jok_b (t_gR w ta0 rfl rfl) (fun p31_8 tp31_8 => ?_)
      refine jok_b (t_al w tp31_8 rfl (by omega) (by omega)) (fun v36_9 pv36_9 => ?_)
      refine jok_le (fun c10 => ?_) (fun c10 => ?_)
      · have f11 : ((x4 + (1 : Int32))).toInt = (x4).toInt + ((1 : Int32)).toInt := jadd (by omega) (by omega)
        exact ih w ta0 (by omega) (by omega) (by omega) (by omega) (by omega)
      · have f12 : ((x4 + (1 : Int32))).toInt = (x4).toInt + ((1 : Int32)).toInt := jadd (by omega) (by omega)
        exact ih w ta0 (by omega) (by omega) (by omega) (by omega) (by omega)
set_option maxHeartbeats 1000000 in
theorem S_X6_tightest {g : jGh} {Γ : Nat → Option Nat} {n : Nat} {a0 : Nat} {x1 : Int32} {h : jH} (hn : 6000 ≤ n) (hg : jgok g) (w : jW (jKd g) Γ h) (ta0 : Γ a0 = some 3) (lx1 : 2 ≤ x1.toInt) (ux1 : x1.toInt ≤ 8) : jok (F_X6_tightest n a0 x1 h) (fun v => True) := by
  unfold F_X6_tightest
  have f1 : ((0 : Int32)).toInt = 0 := rfl
  exact S_X6_tightest_8 hn hg  n w ta0 (by omega) (by omega) (by omega) (by omega) (by omega)
set_option maxHeartbeats 1000000 in
theorem S_X6_spareCloth_4 {g : jGh} {Γ : Nat → Option Nat} {n : Nat} (hn : 6000 ≤ n) (hg : jgok g)  (k : Nat) : ∀ {a0 : Nat} {x1 : Int32} {x2 : Int32} {h : jH}, jW (jKd g) Γ h → (Γ a0 = some 3) → (0 ≤ x2.toInt) → (x2.toInt ≤ 8) → (8 : Int) - x2.toInt < (k : Int) → jok (F_X6_spareCloth_4 n k a0 x1 x2 h) (fun v => True) := by
  induction k with
  | zero =>
    intro a0 x1 x2 h w ta0 lx2 ux2 mk
    omega
  | succ k ih =>
    intro a0 x1 x2 h w ta0 lx2 ux2 mk
    show jok (F_X6_spareCloth_4_b n (F_X6_spareCloth_4 n k) a0 x1 x2 h) _
    unfold F_X6_spareCloth_4_b
    refine jok_b2 (t_gI w ta0 rfl rfl) (fun v8_1 ev8_1 pv8_1 => ?_)
    obtain ⟨lv8_1, uv8_1⟩ := pv8_1
    have f2 : ((1 : Int32)).toInt = 1 := rfl
    have f3 : ((x2 + (1 : Int32))).toInt = (x2).toInt + ((1 : Int32)).toInt := jadd (by omega) (by omega)
    refine jok_le (fun c4 => ?_) (fun c4 => ?_)
    · exact jok_s trivial
    · refine jok_b (t_gR w ta0 rfl rfl) (fun p16_5 tp16_5 => ?_)
      refine jok_b (t_al w tp16_5 rfl (by omega) (by omega)) (fun v20_6 pv20_6 => ?_)
      try rw [t_cv w ta0 rfl]
      refine jok_b (S_X8_gap hn hg w ta0) (fun v24_7 pv24_7 => ?_)
      exact ih w ta0 (by omega) (by omega) (by omega)
set_option maxHeartbeats 1000000 in
theorem S_X6_spareCloth {g : jGh} {Γ : Nat → Option Nat} {n : Nat} {a0 : Nat} {h : jH} (hn : 6000 ≤ n) (hg : jgok g) (w : jW (jKd g) Γ h) (ta0 : Γ a0 = some 3) : jok (F_X6_spareCloth n a0 h) (fun v => True) := by
  unfold F_X6_spareCloth
  have f1 : ((0 : Int32)).toInt = 0 := rfl
  exact S_X6_spareCloth_4 hn hg  n w ta0 (by omega) (by omega) (by omega)
set_option maxHeartbeats 1000000 in
theorem S_X6_tautRings_4 {g : jGh} {Γ : Nat → Option Nat} {n : Nat} (hn : 6000 ≤ n) (hg : jgok g)  (k : Nat) : ∀ {a0 : Nat} {x1 : Int32} {x2 : Int32} {h : jH}, jW (jKd g) Γ h → (Γ a0 = some 3) → (0 ≤ x2.toInt) → (x2.toInt ≤ 8) → (8 : Int) - x2.toInt < (k : Int) → jok (F_X6_tautRings_4 n k a0 x1 x2 h) (fun v => True) := by
  induction k with
  | zero =>
    intro a0 x1 x2 h w ta0 lx2 ux2 mk
    omega
  | succ k ih =>
    intro a0 x1 x2 h w ta0 lx2 ux2 mk
    show jok (F_X6_tautRings_4_b n (F_X6_tautRings_4 n k) a0 x1 x2 h) _
    unfold F_X6_tautRings_4_b
    refine jok_b2 (t_gI w ta0 rfl rfl) (fun v8_1 ev8_1 pv8_1 => ?_)
    obtain ⟨lv8_1, uv8_1⟩ := pv8_1
    have f2 : ((1 : Int32)).toInt = 1 := rfl
    have f3 : ((x2 + (1 : Int32))).toInt = (x2).toInt + ((1 : Int32)).toInt := jadd (by omega) (by omega)
    refine jok_le (fun c4 => ?_) (fun c4 => ?_)
    · exact jok_s trivial
    · try rw [t_cv w ta0 rfl]
      refine jok_b (S_X8_gap hn hg w ta0) (fun v19_5 pv19_5 => ?_)
      refine jok_b (t_gR w ta0 rfl rfl) (fun p23_6 tp23_6 => ?_)
      refine jok_b (t_al w tp23_6 rfl (by omega) (by omega)) (fun v27_7 pv27_7 => ?_)
      refine jok_eq (fun c8 d8 => ?_) (fun c8 => ?_)
      · unfold F_X6_tautRings_36
        refine jok_b (S_X11_withBit hn hg w) (fun v36_9 pv36_9 => ?_)
        exact ih w ta0 (by omega) (by omega) (by omega)
      · unfold F_X6_tautRings_36
        refine jok_b (S_X11_withBit hn hg w) (fun v36_10 pv36_10 => ?_)
        exact ih w ta0 (by omega) (by omega) (by omega)
set_option maxHeartbeats 1000000 in
theorem S_X6_tautRings {g : jGh} {Γ : Nat → Option Nat} {n : Nat} {a0 : Nat} {h : jH} (hn : 6000 ≤ n) (hg : jgok g) (w : jW (jKd g) Γ h) (ta0 : Γ a0 = some 3) : jok (F_X6_tautRings n a0 h) (fun v => True) := by
  unfold F_X6_tautRings
  have f1 : ((0 : Int32)).toInt = 0 := rfl
  exact S_X6_tautRings_4 hn hg  n w ta0 (by omega) (by omega) (by omega)
set_option maxHeartbeats 1000000 in
theorem S_X6_litRings_4 {g : jGh} {Γ : Nat → Option Nat} {n : Nat} (hn : 6000 ≤ n) (hg : jgok g)  (k : Nat) : ∀ {a0 : Nat} {x1 : Int32} {x2 : Int32} {x3 : Int32} {h : jH}, jW (jKd g) Γ h → (Γ a0 = some 3) → (0 ≤ x3.toInt) → (x3.toInt ≤ 8) → (8 : Int) - x3.toInt < (k : Int) → jok (F_X6_litRings_4 n k a0 x1 x2 x3 h) (fun v => True) := by
  induction k with
  | zero =>
    intro a0 x1 x2 x3 h w ta0 lx3 ux3 mk
    omega
  | succ k ih =>
    intro a0 x1 x2 x3 h w ta0 lx3 ux3 mk
    show jok (F_X6_litRings_4_b n (F_X6_litRings_4 n k) a0 x1 x2 x3 h) _
    unfold F_X6_litRings_4_b
    refine jok_b2 (t_gI w ta0 rfl rfl) (fun v6_1 ev6_1 pv6_1 => ?_)
    obtain ⟨lv6_1, uv6_1⟩ := pv6_1
    refine jok_le (fun c2 => ?_) (fun c2 => ?_)
    · exact jok_s trivial
    · try rw [t_cv w ta0 rfl]
      refine jok_b (S_X8_isLit hn hg w ta0 (by omega) (by omega)) (fun v17_3 pv17_3 => ?_)
      obtain ⟨lv17_3, uv17_3⟩ := pv17_3
      refine jok_b (S_X11_withBit hn hg w) (fun v20_4 pv20_4 => ?_)
      have f5 : ((1 : Int32)).toInt = 1 := rfl
      have f6 : ((x3 + (1 : Int32))).toInt = (x3).toInt + ((1 : Int32)).toInt := jadd (by omega) (by omega)
      exact ih w ta0 (by omega) (by omega) (by omega)
set_option maxHeartbeats 1000000 in
theorem S_X6_litRings {g : jGh} {Γ : Nat → Option Nat} {n : Nat} {a0 : Nat} {x1 : Int32} {h : jH} (hn : 6000 ≤ n) (hg : jgok g) (w : jW (jKd g) Γ h) (ta0 : Γ a0 = some 3) : jok (F_X6_litRings n a0 x1 h) (fun v => True) := by
  unfold F_X6_litRings
  have f1 : ((0 : Int32)).toInt = 0 := rfl
  exact S_X6_litRings_4 hn hg  n w ta0 (by omega) (by omega) (by omega)
set_option maxHeartbeats 1000000 in
theorem S_X6_litHours_4 {g : jGh} {Γ : Nat → Option Nat} {n : Nat} (hn : 6000 ≤ n) (hg : jgok g)  (k : Nat) : ∀ {a0 : Nat} {x1 : Int32} {x2 : Int32} {x3 : Int32} {h : jH}, jW (jKd g) Γ h → (Γ a0 = some 3) → (0 ≤ x1.toInt) → (x1.toInt ≤ 7) → (0 ≤ x3.toInt) → (x3.toInt ≤ 8) → (8 : Int) - x3.toInt < (k : Int) → jok (F_X6_litHours_4 n k a0 x1 x2 x3 h) (fun v => True) := by
  induction k with
  | zero =>
    intro a0 x1 x2 x3 h w ta0 lx1 ux1 lx3 ux3 mk
    omega
  | succ k ih =>
    intro a0 x1 x2 x3 h w ta0 lx1 ux1 lx3 ux3 mk
    show jok (F_X6_litHours_4_b n (F_X6_litHours_4 n k) a0 x1 x2 x3 h) _
    unfold F_X6_litHours_4_b
    have f1 : ((8 : Int32)).toInt = 8 := rfl
    refine jok_le (fun c2 => ?_) (fun c2 => ?_)
    · exact jok_s trivial
    · try rw [t_cv w ta0 rfl]
      refine jok_b (S_X8_isLit hn hg w ta0 (by omega) (by omega)) (fun v13_3 pv13_3 => ?_)
      obtain ⟨lv13_3, uv13_3⟩ := pv13_3
      have f4 : ((0 : Int32)).toInt = 0 := rfl
      refine jok_eq (fun c5 d5 => ?_) (fun c5 => ?_)
      · have f6 : ((1 : Int32)).toInt = 1 := rfl
        have f7 : ((x3 + (1 : Int32))).toInt = (x3).toInt + ((1 : Int32)).toInt := jadd (by omega) (by omega)
        exact ih w ta0 (by omega) (by omega) (by omega) (by omega) (by omega)
      · have f8 : ((1 : Int32)).toInt = 1 := rfl
        have f9 : ((x3 + (1 : Int32))).toInt = (x3).toInt + ((1 : Int32)).toInt := jadd (by omega) (by omega)
        exact ih w ta0 (by omega) (by omega) (by omega) (by omega) (by omega)
set_option maxHeartbeats 1000000 in
theorem S_X6_litHours {g : jGh} {Γ : Nat → Option Nat} {n : Nat} {a0 : Nat} {x1 : Int32} {h : jH} (hn : 6000 ≤ n) (hg : jgok g) (w : jW (jKd g) Γ h) (ta0 : Γ a0 = some 3) (lx1 : 0 ≤ x1.toInt) (ux1 : x1.toInt ≤ 7) : jok (F_X6_litHours n a0 x1 h) (fun v => True) := by
  unfold F_X6_litHours
  have f1 : ((0 : Int32)).toInt = 0 := rfl
  exact S_X6_litHours_4 hn hg  n w ta0 (by omega) (by omega) (by omega) (by omega) (by omega)
set_option maxHeartbeats 1000000 in
theorem S_X6_sunniest_6 {g : jGh} {Γ : Nat → Option Nat} {n : Nat} (hn : 6000 ≤ n) (hg : jgok g)  (k : Nat) : ∀ {a0 : Nat} {x1 : Int32} {x2 : Int32} {x3 : Int32} {h : jH}, jW (jKd g) Γ h → (Γ a0 = some 3) → (0 ≤ x3.toInt) → (x3.toInt ≤ 8) → (8 : Int) - x3.toInt < (k : Int) → jok (F_X6_sunniest_6 n k a0 x1 x2 x3 h) (fun v => True) := by
  induction k with
  | zero =>
    intro a0 x1 x2 x3 h w ta0 lx3 ux3 mk
    omega
  | succ k ih =>
    intro a0 x1 x2 x3 h w ta0 lx3 ux3 mk
    show jok (F_X6_sunniest_6_b n (F_X6_sunniest_6 n k) a0 x1 x2 x3 h) _
    unfold F_X6_sunniest_6_b
    refine jok_b2 (t_gI w ta0 rfl rfl) (fun v8_1 ev8_1 pv8_1 => ?_)
    obtain ⟨lv8_1, uv8_1⟩ := pv8_1
    refine jok_le (fun c2 => ?_) (fun c2 => ?_)
    · exact jok_s trivial
    · refine jok_b (S_X6_litHours hn hg w ta0 (by omega) (by omega)) (fun v16_3 pv16_3 => ?_)
      refine jok_le (fun c4 => ?_) (fun c4 => ?_)
      · have f5 : ((1 : Int32)).toInt = 1 := rfl
        have f6 : ((x3 + (1 : Int32))).toInt = (x3).toInt + ((1 : Int32)).toInt := jadd (by omega) (by omega)
        exact ih w ta0 (by omega) (by omega) (by omega)
      · have f7 : ((1 : Int32)).toInt = 1 := rfl
        have f8 : ((x3 + (1 : Int32))).toInt = (x3).toInt + ((1 : Int32)).toInt := jadd (by omega) (by omega)
        exact ih w ta0 (by omega) (by omega) (by omega)
set_option maxHeartbeats 1000000 in
theorem S_X6_sunniest {g : jGh} {Γ : Nat → Option Nat} {n : Nat} {a0 : Nat} {h : jH} (hn : 6000 ≤ n) (hg : jgok g) (w : jW (jKd g) Γ h) (ta0 : Γ a0 = some 3) : jok (F_X6_sunniest n a0 h) (fun v => True) := by
  unfold F_X6_sunniest
  have f1 : ((0 : Int32)).toInt = 0 := rfl
  exact S_X6_sunniest_6 hn hg  n w ta0 (by omega) (by omega) (by omega)
set_option maxHeartbeats 1000000 in
theorem S_X6_evenLength_14 {g : jGh} {Γ : Nat → Option Nat} {n : Nat} (hn : 6000 ≤ n) (hg : jgok g)  (k : Nat) : ∀ {a0 : Nat} {x1 : Int32} {x2 : Int32} {x3 : Int32} {x4 : Int32} {h : jH}, jW (jKd g) Γ h → (Γ a0 = some 3) → (0 ≤ x4.toInt) → (x4.toInt ≤ 8) → (8 : Int) - x4.toInt < (k : Int) → (∀ v, jgI 6 h a0 5 = some v → ¬ v.toInt = 0) → jok (F_X6_evenLength_14 n k a0 x1 x2 x3 x4 h) (fun v => True) := by
  induction k with
  | zero =>
    intro a0 x1 x2 x3 x4 h w ta0 lx4 ux4 mk hz
    omega
  | succ k ih =>
    intro a0 x1 x2 x3 x4 h w ta0 lx4 ux4 mk hz
    show jok (F_X6_evenLength_14_b n (F_X6_evenLength_14 n k) a0 x1 x2 x3 x4 h) _
    unfold F_X6_evenLength_14_b
    refine jok_b2 (t_gI w ta0 rfl rfl) (fun v17_1 ev17_1 pv17_1 => ?_)
    obtain ⟨lv17_1, uv17_1⟩ := pv17_1
    have hz1 := hz _ ev17_1
    refine jok_le (fun c2 => ?_) (fun c2 => ?_)
    · refine jok_r ev17_1 ?_
      have f5 : ((0 : Int32)).toInt = 0 := rfl
      rw [if_neg (show ¬ (v17_1 = 0) from jne (by omega))]
      refine jok_r ev17_1 ?_
      rw [if_neg (show ¬ (v17_1 = 0) from jne (by omega))]
      refine jok_le (fun c8 => ?_) (fun c8 => ?_)
      · unfold F_X6_evenLength_67
        refine jok_le (fun c9 => ?_) (fun c9 => ?_)
        · refine jok_le (fun c10 => ?_) (fun c10 => ?_)
          · exact jok_s trivial
          · exact jok_s trivial
        · exact jok_s trivial
      · unfold F_X6_evenLength_67
        have f11 : ((1 : Int32)).toInt = 1 := rfl
        refine jok_le (fun c12 => ?_) (fun c12 => ?_)
        · refine jok_le (fun c13 => ?_) (fun c13 => ?_)
          · exact jok_s trivial
          · exact jok_s trivial
        · exact jok_s trivial
    · refine jok_b (t_gR w ta0 rfl rfl) (fun p25_14 tp25_14 => ?_)
      refine jok_b (t_al w tp25_14 rfl (by omega) (by omega)) (fun v30_15 pv30_15 => ?_)
      have f16 : ((1 : Int32)).toInt = 1 := rfl
      have f17 : ((x4 + (1 : Int32))).toInt = (x4).toInt + ((1 : Int32)).toInt := jadd (by omega) (by omega)
      exact ih w ta0 (by omega) (by omega) (by omega) hz
set_option maxHeartbeats 1000000 in
theorem S_X6_evenLength {g : jGh} {Γ : Nat → Option Nat} {n : Nat} {a0 : Nat} {x1 : Int32} {x2 : Int32} {h : jH} (hn : 6000 ≤ n) (hg : jgok g) (w : jW (jKd g) Γ h) (ta0 : Γ a0 = some 3) : jok (F_X6_evenLength n a0 x1 x2 h) (fun v => True) := by
  unfold F_X6_evenLength
  refine jok_b2 (t_gI w ta0 rfl rfl) (fun v1_1 ev1_1 pv1_1 => ?_)
  obtain ⟨lv1_1, uv1_1⟩ := pv1_1
  have f2 : ((0 : Int32)).toInt = 0 := rfl
  refine jok_eq (fun c3 d3 => ?_) (fun c3 => ?_)
  · exact jok_s trivial
  · exact S_X6_evenLength_14 hn hg  n w ta0 (by omega) (by omega) (by omega) (fun v q => by cases ev1_1.symm.trans q; omega)
set_option maxHeartbeats 1000000 in
theorem S_X6_enviousPairs_4 {g : jGh} {Γ : Nat → Option Nat} {n : Nat} (hn : 6000 ≤ n) (hg : jgok g)  (k : Nat) : ∀ {a0 : Nat} {x1 : Int32} {x2 : Int32} {h : jH}, jW (jKd g) Γ h → (Γ a0 = some 3) → (0 ≤ x2.toInt) → (x2.toInt ≤ 8) → (8 : Int) - x2.toInt < (k : Int) → jok (F_X6_enviousPairs_4 n k a0 x1 x2 h) (fun v => True) := by
  induction k with
  | zero =>
    intro a0 x1 x2 h w ta0 lx2 ux2 mk
    omega
  | succ k ih =>
    intro a0 x1 x2 h w ta0 lx2 ux2 mk
    show jok (F_X6_enviousPairs_4_b n (F_X6_enviousPairs_4 n k) a0 x1 x2 h) _
    unfold F_X6_enviousPairs_4_b
    refine jok_b2 (t_gI w ta0 rfl rfl) (fun v8_1 ev8_1 pv8_1 => ?_)
    obtain ⟨lv8_1, uv8_1⟩ := pv8_1
    have f2 : ((1 : Int32)).toInt = 1 := rfl
    have f3 : ((x2 + (1 : Int32))).toInt = (x2).toInt + ((1 : Int32)).toInt := jadd (by omega) (by omega)
    refine jok_le (fun c4 => ?_) (fun c4 => ?_)
    · exact jok_s trivial
    · refine jok_b (t_gR w ta0 rfl rfl) (fun p15_5 tp15_5 => ?_)
      refine jok_b (t_al w tp15_5 rfl (by omega) (by omega)) (fun v19_6 pv19_6 => ?_)
      refine jok_b (t_gR w ta0 rfl rfl) (fun p21_7 tp21_7 => ?_)
      refine jok_b (t_al w tp21_7 rfl (by omega) (by omega)) (fun v27_8 pv27_8 => ?_)
      have f9 : ((0 : Int32)).toInt = 0 := rfl
      have f10 : ((2 : Int32)).toInt = 2 := rfl
      refine jok_lt (fun c11 => ?_) (fun c11 => ?_)
      · exact ih w ta0 (by omega) (by omega) (by omega)
      · exact ih w ta0 (by omega) (by omega) (by omega)
set_option maxHeartbeats 1000000 in
theorem S_X6_enviousPairs {g : jGh} {Γ : Nat → Option Nat} {n : Nat} {a0 : Nat} {h : jH} (hn : 6000 ≤ n) (hg : jgok g) (w : jW (jKd g) Γ h) (ta0 : Γ a0 = some 3) : jok (F_X6_enviousPairs n a0 h) (fun v => True) := by
  unfold F_X6_enviousPairs
  have f1 : ((0 : Int32)).toInt = 0 := rfl
  exact S_X6_enviousPairs_4 hn hg  n w ta0 (by omega) (by omega) (by omega)
set_option maxHeartbeats 1000000 in
theorem S_X6_gain {g : jGh} {Γ : Nat → Option Nat} {n : Nat} {a0 : Nat} {x1 : Int32} {x2 : Int32} {h : jH} (hn : 6000 ≤ n) (hg : jgok g) (w : jW (jKd g) Γ h) (ta0 : Γ a0 = some 3) : jok (F_X6_gain n a0 x1 x2 h) (fun v => True) := by
  unfold F_X6_gain
  have f1 : ((1 : Int32)).toInt = 1 := rfl
  refine jok_eq (fun c2 d2 => ?_) (fun c2 => ?_)
  · refine jok_b2 (t_gI w ta0 rfl rfl) (fun v29_3 ev29_3 pv29_3 => ?_)
    refine jok_b (S_X11_bit hn hg w) (fun v33_4 pv33_4 => ?_)
    obtain ⟨lv33_4, uv33_4⟩ := pv33_4
    refine jok_eq (fun c5 d5 => ?_) (fun c5 => ?_)
    · exact jok_s trivial
    · exact jok_s trivial
  · have f6 : ((2 : Int32)).toInt = 2 := rfl
    refine jok_eq (fun c7 d7 => ?_) (fun c7 => ?_)
    · try rw [t_cv w ta0 rfl]
      refine jok_b (S_X8_gap hn hg w ta0) (fun v50_8 pv50_8 => ?_)
      exact jok_s trivial
    · exact jok_s trivial
set_option maxHeartbeats 1000000 in
theorem S_X6_restingChoices_16 {g : jGh} {Γ : Nat → Option Nat} {n : Nat} (hn : 6000 ≤ n) (hg : jgok g)  (k : Nat) : ∀ {a0 : Nat} {x1 : Int32} {x2 : Int32} {x3 : Int32} {h : jH}, jW (jKd g) Γ h → (Γ a0 = some 3) → (0 ≤ x3.toInt) → (x3.toInt ≤ 4) → (4 : Int) - x3.toInt < (k : Int) → jok (F_X6_restingChoices_16 n k a0 x1 x2 x3 h) (fun v => True) := by
  induction k with
  | zero =>
    intro a0 x1 x2 x3 h w ta0 lx3 ux3 mk
    omega
  | succ k ih =>
    intro a0 x1 x2 x3 h w ta0 lx3 ux3 mk
    show jok (F_X6_restingChoices_16_b n (F_X6_restingChoices_16 n k) a0 x1 x2 x3 h) _
    unfold F_X6_restingChoices_16_b
    have f1 : ((4 : Int32)).toInt = 4 := rfl
    refine jok_le (fun c2 => ?_) (fun c2 => ?_)
    · exact jok_s trivial
    · refine jok_b (S_X6_gain hn hg w ta0) (fun v24_3 pv24_3 => ?_)
      refine jok_b (S_X6_gain hn hg w ta0) (fun v38_4 pv38_4 => ?_)
      refine jok_lt (fun c5 => ?_) (fun c5 => ?_)
      · unfold F_X6_restingChoices_62
        refine jok_b (S_X11_withBit hn hg w) (fun v62_6 pv62_6 => ?_)
        have f7 : ((1 : Int32)).toInt = 1 := rfl
        have f8 : ((x3 + (1 : Int32))).toInt = (x3).toInt + ((1 : Int32)).toInt := jadd (by omega) (by omega)
        exact ih w ta0 (by omega) (by omega) (by omega)
      · refine jok_b (S_X6_gain hn hg w ta0) (fun v51_9 pv51_9 => ?_)
        refine jok_lt (fun c10 => ?_) (fun c10 => ?_)
        · unfold F_X6_restingChoices_62
          refine jok_b (S_X11_withBit hn hg w) (fun v62_11 pv62_11 => ?_)
          have f12 : ((1 : Int32)).toInt = 1 := rfl
          have f13 : ((x3 + (1 : Int32))).toInt = (x3).toInt + ((1 : Int32)).toInt := jadd (by omega) (by omega)
          exact ih w ta0 (by omega) (by omega) (by omega)
        · unfold F_X6_restingChoices_62
          refine jok_b (S_X11_withBit hn hg w) (fun v62_14 pv62_14 => ?_)
          have f15 : ((1 : Int32)).toInt = 1 := rfl
          have f16 : ((x3 + (1 : Int32))).toInt = (x3).toInt + ((1 : Int32)).toInt := jadd (by omega) (by omega)
          exact ih w ta0 (by omega) (by omega) (by omega)
set_option maxHeartbeats 1000000 in
theorem S_X6_restingChoices {g : jGh} {Γ : Nat → Option Nat} {n : Nat} {a0 : Nat} {x1 : Int32} {h : jH} (hn : 6000 ≤ n) (hg : jgok g) (w : jW (jKd g) Γ h) (ta0 : Γ a0 = some 3) : jok (F_X6_restingChoices n a0 x1 h) (fun v => True) := by
  unfold F_X6_restingChoices
  refine jok_b2 (t_gI w ta0 rfl rfl) (fun v2_1 ev2_1 pv2_1 => ?_)
  obtain ⟨lv2_1, uv2_1⟩ := pv2_1
  have f2 : ((1 : Int32)).toInt = 1 := rfl
  have f3 : ((v2_1 - (1 : Int32))).toInt = (v2_1).toInt - ((1 : Int32)).toInt := jsub (by omega) (by omega)
  refine jok_lt (fun c4 => ?_) (fun c4 => ?_)
  · have f5 : ((0 : Int32)).toInt = 0 := rfl
    exact S_X6_restingChoices_16 hn hg  n w ta0 (by omega) (by omega) (by omega)
  · exact jok_s trivial
set_option maxHeartbeats 1000000 in
theorem S_X6_largestBunch_6 {g : jGh} {Γ : Nat → Option Nat} {n : Nat} (hn : 6000 ≤ n) (hg : jgok g)  (k : Nat) : ∀ {a0 : Nat} {x1 : Int32} {x2 : Int32} {x3 : Int32} {h : jH}, jW (jKd g) Γ h → (Γ a0 = some 3) → (0 ≤ x3.toInt) → (x3.toInt ≤ 8) → (8 : Int) - x3.toInt < (k : Int) → jok (F_X6_largestBunch_6 n k a0 x1 x2 x3 h) (fun v => True) := by
  induction k with
  | zero =>
    intro a0 x1 x2 x3 h w ta0 lx3 ux3 mk
    omega
  | succ k ih =>
    intro a0 x1 x2 x3 h w ta0 lx3 ux3 mk
    show jok (F_X6_largestBunch_6_b n (F_X6_largestBunch_6 n k) a0 x1 x2 x3 h) _
    unfold F_X6_largestBunch_6_b
    refine jok_b2 (t_gI w ta0 rfl rfl) (fun v8_1 ev8_1 pv8_1 => ?_)
    obtain ⟨lv8_1, uv8_1⟩ := pv8_1
    refine jok_le (fun c2 => ?_) (fun c2 => ?_)
    · exact jok_s trivial
    · try rw [t_cv w ta0 rfl]
      refine jok_b (S_X8_gap hn hg w ta0) (fun v19_3 pv19_3 => ?_)
      have f4 : ((1 : Int32)).toInt = 1 := rfl
      refine jok_eq (fun c5 d5 => ?_) (fun c5 => ?_)
      · unfold F_X6_largestBunch_33
        have f6 : ((x3 + (1 : Int32))).toInt = (x3).toInt + ((1 : Int32)).toInt := jadd (by omega) (by omega)
        exact ih w ta0 (by omega) (by omega) (by omega)
      · unfold F_X6_largestBunch_33
        have f7 : ((x3 + (1 : Int32))).toInt = (x3).toInt + ((1 : Int32)).toInt := jadd (by omega) (by omega)
        exact ih w ta0 (by omega) (by omega) (by omega)
set_option maxHeartbeats 1000000 in
theorem S_X6_largestBunch {g : jGh} {Γ : Nat → Option Nat} {n : Nat} {a0 : Nat} {h : jH} (hn : 6000 ≤ n) (hg : jgok g) (w : jW (jKd g) Γ h) (ta0 : Γ a0 = some 3) : jok (F_X6_largestBunch n a0 h) (fun v => True) := by
  unfold F_X6_largestBunch
  have f1 : ((0 : Int32)).toInt = 0 := rfl
  exact S_X6_largestBunch_6 hn hg  n w ta0 (by omega) (by omega) (by omega)
set_option maxHeartbeats 1000000 in
theorem S_X6_thickBeyondJoin_4 {g : jGh} {Γ : Nat → Option Nat} {n : Nat} (hn : 6000 ≤ n) (hg : jgok g)  (k : Nat) : ∀ {a0 : Nat} {x1 : Int32} {x2 : Int32} {h : jH}, jW (jKd g) Γ h → (Γ a0 = some 3) → (0 ≤ x2.toInt) → (x2.toInt ≤ 8) → (8 : Int) - x2.toInt < (k : Int) → jok (F_X6_thickBeyondJoin_4 n k a0 x1 x2 h) (fun v => True) := by
  induction k with
  | zero =>
    intro a0 x1 x2 h w ta0 lx2 ux2 mk
    omega
  | succ k ih =>
    intro a0 x1 x2 h w ta0 lx2 ux2 mk
    show jok (F_X6_thickBeyondJoin_4_b n (F_X6_thickBeyondJoin_4 n k) a0 x1 x2 h) _
    unfold F_X6_thickBeyondJoin_4_b
    refine jok_b2 (t_gI w ta0 rfl rfl) (fun v6_1 ev6_1 pv6_1 => ?_)
    obtain ⟨lv6_1, uv6_1⟩ := pv6_1
    refine jok_le (fun c2 => ?_) (fun c2 => ?_)
    · exact jok_s trivial
    · refine jok_b2 (t_gI w ta0 rfl rfl) (fun v15_3 ev15_3 pv15_3 => ?_)
      refine jok_b (S_X11_bit hn hg w) (fun v19_4 pv19_4 => ?_)
      obtain ⟨lv19_4, uv19_4⟩ := pv19_4
      have f5 : ((1 : Int32)).toInt = 1 := rfl
      refine jok_eq (fun c6 d6 => ?_) (fun c6 => ?_)
      · refine jok_b (t_gR w ta0 rfl rfl) (fun p27_7 tp27_7 => ?_)
        refine jok_b (t_al w tp27_7 rfl (by omega) (by omega)) (fun v31_8 pv31_8 => ?_)
        refine jok_b2 (t_gI w ta0 rfl rfl) (fun v33_9 ev33_9 pv33_9 => ?_)
        refine jok_lt (fun c10 => ?_) (fun c10 => ?_)
        · unfold F_X6_thickBeyondJoin_44
          refine jok_b (S_X11_withBit hn hg w) (fun v44_11 pv44_11 => ?_)
          have f12 : ((x2 + (1 : Int32))).toInt = (x2).toInt + ((1 : Int32)).toInt := jadd (by omega) (by omega)
          exact ih w ta0 (by omega) (by omega) (by omega)
        · unfold F_X6_thickBeyondJoin_44
          refine jok_b (S_X11_withBit hn hg w) (fun v44_13 pv44_13 => ?_)
          have f14 : ((x2 + (1 : Int32))).toInt = (x2).toInt + ((1 : Int32)).toInt := jadd (by omega) (by omega)
          exact ih w ta0 (by omega) (by omega) (by omega)
      · unfold F_X6_thickBeyondJoin_44
        refine jok_b (S_X11_withBit hn hg w) (fun v44_15 pv44_15 => ?_)
        have f16 : ((x2 + (1 : Int32))).toInt = (x2).toInt + ((1 : Int32)).toInt := jadd (by omega) (by omega)
        exact ih w ta0 (by omega) (by omega) (by omega)
set_option maxHeartbeats 1000000 in
theorem S_X6_thickBeyondJoin {g : jGh} {Γ : Nat → Option Nat} {n : Nat} {a0 : Nat} {h : jH} (hn : 6000 ≤ n) (hg : jgok g) (w : jW (jKd g) Γ h) (ta0 : Γ a0 = some 3) : jok (F_X6_thickBeyondJoin n a0 h) (fun v => True) := by
  unfold F_X6_thickBeyondJoin
  have f1 : ((0 : Int32)).toInt = 0 := rfl
  exact S_X6_thickBeyondJoin_4 hn hg  n w ta0 (by omega) (by omega) (by omega)
set_option maxHeartbeats 1000000 in
theorem S_X6_likePairs_16 {g : jGh} {Γ : Nat → Option Nat} {n : Nat} (hn : 6000 ≤ n) (hg : jgok g) {k4 : Nat} {rc4 : Nat → Int32 → Int32 → jH → Option Int32} (k : Nat) : ∀ {a0 : Nat} {x1 : Int32} {x2 : Int32} {x3 : Int32} {h : jH}, jW (jKd g) Γ h → (Γ a0 = some 3) → (0 ≤ x2.toInt) → (x2.toInt ≤ 7) → (0 ≤ x3.toInt) → (x3.toInt ≤ 8) → (8 : Int) - x3.toInt < (k : Int) → (∀ {a0 : Nat} {x1 : Int32} {x2 : Int32} {h : jH}, jW (jKd g) Γ h → (Γ a0 = some 3) → (0 ≤ x2.toInt) → (x2.toInt ≤ 8) → (8 : Int) - x2.toInt < (k4 : Int) → jok (rc4 a0 x1 x2 h) (fun v => True)) → ((8 : Int) - x2.toInt ≤ (k4 : Int)) → jok (F_X6_likePairs_16 n rc4 k a0 x1 x2 x3 h) (fun v => True) := by
  induction k with
  | zero =>
    intro a0 x1 x2 x3 h w ta0 lx2 ux2 lx3 ux3 mk hrc4 m4
    omega
  | succ k ih =>
    intro a0 x1 x2 x3 h w ta0 lx2 ux2 lx3 ux3 mk hrc4 m4
    show jok (F_X6_likePairs_16_b n rc4 (F_X6_likePairs_16 n rc4 k) a0 x1 x2 x3 h) _
    unfold F_X6_likePairs_16_b
    refine jok_b2 (t_gI w ta0 rfl rfl) (fun v18_1 ev18_1 pv18_1 => ?_)
    obtain ⟨lv18_1, uv18_1⟩ := pv18_1
    refine jok_le (fun c2 => ?_) (fun c2 => ?_)
    · have f3 : ((1 : Int32)).toInt = 1 := rfl
      have f4 : ((x2 + (1 : Int32))).toInt = (x2).toInt + ((1 : Int32)).toInt := jadd (by omega) (by omega)
      exact hrc4 w ta0 (by omega) (by omega) (by omega)
    · refine jok_b (t_gR w ta0 rfl rfl) (fun p25_5 tp25_5 => ?_)
      refine jok_b (t_al w tp25_5 rfl (by omega) (by omega)) (fun v29_6 pv29_6 => ?_)
      refine jok_b (t_gR w ta0 rfl rfl) (fun p31_7 tp31_7 => ?_)
      refine jok_b (t_al w tp31_7 rfl (by omega) (by omega)) (fun v35_8 pv35_8 => ?_)
      refine jok_eq (fun c9 d9 => ?_) (fun c9 => ?_)
      · refine jok_b (t_gR w ta0 rfl rfl) (fun p40_10 tp40_10 => ?_)
        refine jok_b (t_al w tp40_10 rfl (by omega) (by omega)) (fun v44_11 pv44_11 => ?_)
        refine jok_b (t_gR w ta0 rfl rfl) (fun p46_12 tp46_12 => ?_)
        refine jok_b (t_al w tp46_12 rfl (by omega) (by omega)) (fun v50_13 pv50_13 => ?_)
        refine jok_eq (fun c14 d14 => ?_) (fun c14 => ?_)
        · refine jok_b (t_gR w ta0 rfl rfl) (fun p55_15 tp55_15 => ?_)
          refine jok_b (t_al w tp55_15 rfl (by omega) (by omega)) (fun v59_16 pv59_16 => ?_)
          refine jok_b (t_gR w ta0 rfl rfl) (fun p61_17 tp61_17 => ?_)
          refine jok_b (t_al w tp61_17 rfl (by omega) (by omega)) (fun v65_18 pv65_18 => ?_)
          refine jok_eq (fun c19 d19 => ?_) (fun c19 => ?_)
          · have f20 : ((1 : Int32)).toInt = 1 := rfl
            have f21 : ((x3 + (1 : Int32))).toInt = (x3).toInt + ((1 : Int32)).toInt := jadd (by omega) (by omega)
            exact ih w ta0 (by omega) (by omega) (by omega) (by omega) (by omega) hrc4 (by omega)
          · have f22 : ((1 : Int32)).toInt = 1 := rfl
            have f23 : ((x3 + (1 : Int32))).toInt = (x3).toInt + ((1 : Int32)).toInt := jadd (by omega) (by omega)
            exact ih w ta0 (by omega) (by omega) (by omega) (by omega) (by omega) hrc4 (by omega)
        · have f24 : ((1 : Int32)).toInt = 1 := rfl
          have f25 : ((x3 + (1 : Int32))).toInt = (x3).toInt + ((1 : Int32)).toInt := jadd (by omega) (by omega)
          exact ih w ta0 (by omega) (by omega) (by omega) (by omega) (by omega) hrc4 (by omega)
      · have f26 : ((1 : Int32)).toInt = 1 := rfl
        have f27 : ((x3 + (1 : Int32))).toInt = (x3).toInt + ((1 : Int32)).toInt := jadd (by omega) (by omega)
        exact ih w ta0 (by omega) (by omega) (by omega) (by omega) (by omega) hrc4 (by omega)
set_option maxHeartbeats 1000000 in
theorem S_X6_likePairs_4 {g : jGh} {Γ : Nat → Option Nat} {n : Nat} (hn : 6000 ≤ n) (hg : jgok g)  (k : Nat) : ∀ {a0 : Nat} {x1 : Int32} {x2 : Int32} {h : jH}, jW (jKd g) Γ h → (Γ a0 = some 3) → (0 ≤ x2.toInt) → (x2.toInt ≤ 8) → (8 : Int) - x2.toInt < (k : Int) → jok (F_X6_likePairs_4 n k a0 x1 x2 h) (fun v => True) := by
  induction k with
  | zero =>
    intro a0 x1 x2 h w ta0 lx2 ux2 mk
    omega
  | succ k ih =>
    intro a0 x1 x2 h w ta0 lx2 ux2 mk
    show jok (F_X6_likePairs_4_b n (F_X6_likePairs_4 n k) a0 x1 x2 h) _
    unfold F_X6_likePairs_4_b
    refine jok_b2 (t_gI w ta0 rfl rfl) (fun v6_1 ev6_1 pv6_1 => ?_)
    obtain ⟨lv6_1, uv6_1⟩ := pv6_1
    refine jok_le (fun c2 => ?_) (fun c2 => ?_)
    · exact jok_s trivial
    · have f3 : ((1 : Int32)).toInt = 1 := rfl
      have f4 : ((x2 + (1 : Int32))).toInt = (x2).toInt + ((1 : Int32)).toInt := jadd (by omega) (by omega)
      exact S_X6_likePairs_16 hn hg  n w ta0 (by omega) (by omega) (by omega) (by omega) (by omega) ih (by omega)
set_option maxHeartbeats 1000000 in
theorem S_X6_likePairs {g : jGh} {Γ : Nat → Option Nat} {n : Nat} {a0 : Nat} {h : jH} (hn : 6000 ≤ n) (hg : jgok g) (w : jW (jKd g) Γ h) (ta0 : Γ a0 = some 3) : jok (F_X6_likePairs n a0 h) (fun v => True) := by
  unfold F_X6_likePairs
  have f1 : ((0 : Int32)).toInt = 0 := rfl
  exact S_X6_likePairs_4 hn hg  n w ta0 (by omega) (by omega) (by omega)
set_option maxHeartbeats 1000000 in
theorem S_X8_shadow_4 {g : jGh} {Γ : Nat → Option Nat} {n : Nat} (hn : 6000 ≤ n) (hg : jgok g)  (k : Nat) : ∀ {a0 : Nat} {x1 : Int32} {x2 : Int32} {h : jH}, jW (jKd g) Γ h → (Γ a0 = some 3) → (0 ≤ x2.toInt) → (x2.toInt ≤ 8) → (8 : Int) - x2.toInt < (k : Int) → jok (F_X8_shadow_4 n k a0 x1 x2 h) (fun v => True) := by
  induction k with
  | zero =>
    intro a0 x1 x2 h w ta0 lx2 ux2 mk
    omega
  | succ k ih =>
    intro a0 x1 x2 h w ta0 lx2 ux2 mk
    show jok (F_X8_shadow_4_b n (F_X8_shadow_4 n k) a0 x1 x2 h) _
    unfold F_X8_shadow_4_b
    refine jok_b2 (t_gI w ta0 rfl rfl) (fun v8_1 ev8_1 pv8_1 => ?_)
    obtain ⟨lv8_1, uv8_1⟩ := pv8_1
    have f2 : ((1 : Int32)).toInt = 1 := rfl
    have f3 : ((x2 + (1 : Int32))).toInt = (x2).toInt + ((1 : Int32)).toInt := jadd (by omega) (by omega)
    refine jok_le (fun c4 => ?_) (fun c4 => ?_)
    · exact jok_s trivial
    · refine jok_b2 (t_gI w ta0 rfl rfl) (fun v15_5 ev15_5 pv15_5 => ?_)
      refine jok_b (S_X11_bit hn hg w) (fun v19_6 pv19_6 => ?_)
      obtain ⟨lv19_6, uv19_6⟩ := pv19_6
      refine jok_eq (fun c7 d7 => ?_) (fun c7 => ?_)
      · refine jok_r ev15_5 ?_
        refine jok_b (S_X11_bit hn hg w) (fun v33_9 pv33_9 => ?_)
        obtain ⟨lv33_9, uv33_9⟩ := pv33_9
        refine jok_eq (fun c10 d10 => ?_) (fun c10 => ?_)
        · refine jok_b (t_gR w ta0 rfl rfl) (fun p43_11 tp43_11 => ?_)
          refine jok_b (t_al w tp43_11 rfl (by omega) (by omega)) (fun v47_12 pv47_12 => ?_)
          refine jok_b (t_gR w ta0 rfl rfl) (fun p53_13 tp53_13 => ?_)
          refine jok_b (t_al w tp53_13 rfl (by omega) (by omega)) (fun v59_14 pv59_14 => ?_)
          exact ih w ta0 (by omega) (by omega) (by omega)
        · exact ih w ta0 (by omega) (by omega) (by omega)
      · exact ih w ta0 (by omega) (by omega) (by omega)
set_option maxHeartbeats 1000000 in
theorem S_X8_shadow {g : jGh} {Γ : Nat → Option Nat} {n : Nat} {a0 : Nat} {h : jH} (hn : 6000 ≤ n) (hg : jgok g) (w : jW (jKd g) Γ h) (ta0 : Γ a0 = some 3) : jok (F_X8_shadow n a0 h) (fun v => True) := by
  unfold F_X8_shadow
  have f1 : ((0 : Int32)).toInt = 0 := rfl
  exact S_X8_shadow_4 hn hg  n w ta0 (by omega) (by omega) (by omega)
set_option maxHeartbeats 1000000 in
theorem S_X8_shadedChairs {g : jGh} {Γ : Nat → Option Nat} {n : Nat} {a0 : Nat} {h : jH} (hn : 6000 ≤ n) (hg : jgok g) (w : jW (jKd g) Γ h) (ta0 : Γ a0 = some 3) : jok (F_X8_shadedChairs n a0 h) (fun v => True) := by
  unfold F_X8_shadedChairs
  refine jok_b2 (t_gI w ta0 rfl rfl) (fun v1_1 ev1_1 pv1_1 => ?_)
  try rw [t_cv w ta0 rfl]
  refine jok_b (S_X8_shadow hn hg w ta0) (fun v5_2 pv5_2 => ?_)
  refine jok_b (S_J6_bitCount_0f7a4 hn hg w) (fun v9_3 pv9_3 => ?_)
  exact jok_s trivial
set_option maxHeartbeats 1000000 in
theorem S_X8_goTogether {g : jGh} {Γ : Nat → Option Nat} {n : Nat} {a0 : Nat} {x1 : Int32} {x2 : Int32} {h : jH} (hn : 6000 ≤ n) (hg : jgok g) (w : jW (jKd g) Γ h) (ta0 : Γ a0 = some 3) (lx1 : 0 ≤ x1.toInt) (ux1 : x1.toInt ≤ 6) : jok (F_X8_goTogether n a0 x1 x2 h) (fun v => 0 ≤ v.toInt ∧ v.toInt ≤ 1) := by
  unfold F_X8_goTogether
  refine jok_b (t_gR w ta0 rfl rfl) (fun p1_1 tp1_1 => ?_)
  have f3 : ((1 : Int32)).toInt = 1 := rfl
  have f4 : ((x1 + (1 : Int32))).toInt = (x1).toInt + ((1 : Int32)).toInt := jadd (by omega) (by omega)
  refine jok_b (t_al w tp1_1 rfl (by omega) (by omega)) (fun v7_2 pv7_2 => ?_)
  refine jok_b (t_gR w ta0 rfl rfl) (fun p9_5 tp9_5 => ?_)
  refine jok_b (t_al w tp9_5 rfl (by omega) (by omega)) (fun v13_6 pv13_6 => ?_)
  refine jok_b2 (t_gI w ta0 rfl rfl) (fun v17_7 ev17_7 pv17_7 => ?_)
  have f8 := jandR (x := (jushr v17_7 x1)) (y := (1 : Int32)) (c := 1) rfl (by decide)
  refine jok_eq (fun c9 d9 => ?_) (fun c9 => ?_)
  · exact jok_s (show jI 0 1 (1 : Int32) from ⟨by omega, by omega⟩)
  · have f10 : ((0 : Int32)).toInt = 0 := rfl
    refine jok_eq (fun c11 d11 => ?_) (fun c11 => ?_)
    · refine jok_b (t_gR w ta0 rfl rfl) (fun p44_12 tp44_12 => ?_)
      refine jok_b (t_al w tp44_12 rfl (by omega) (by omega)) (fun v48_13 pv48_13 => ?_)
      refine jok_le (fun c14 => ?_) (fun c14 => ?_)
      · exact jok_s (show jI 0 1 (0 : Int32) from ⟨by omega, by omega⟩)
      · exact jok_s (show jI 0 1 (1 : Int32) from ⟨by omega, by omega⟩)
    · refine jok_eq (fun c15 d15 => ?_) (fun c15 => ?_)
      · exact jok_s (show jI 0 1 (1 : Int32) from ⟨by omega, by omega⟩)
      · exact jok_s (show jI 0 1 (0 : Int32) from ⟨by omega, by omega⟩)
set_option maxHeartbeats 1000000 in
theorem S_X8_isStopped {g : jGh} {Γ : Nat → Option Nat} {n : Nat} {a0 : Nat} {x1 : Int32} {x2 : Int32} {h : jH} (hn : 6000 ≤ n) (hg : jgok g) (w : jW (jKd g) Γ h) (ta0 : Γ a0 = some 3) (lx1 : 0 ≤ x1.toInt) (ux1 : x1.toInt ≤ 7) : jok (F_X8_isStopped n a0 x1 x2 h) (fun v => 0 ≤ v.toInt ∧ v.toInt ≤ 1) := by
  unfold F_X8_isStopped
  refine jok_b (t_gR w ta0 rfl rfl) (fun p1_1 tp1_1 => ?_)
  refine jok_b (t_al w tp1_1 rfl (by omega) (by omega)) (fun v5_2 pv5_2 => ?_)
  have f3 : ((0 : Int32)).toInt = 0 := rfl
  refine jok_eq (fun c4 d4 => ?_) (fun c4 => ?_)
  · unfold F_X8_isStopped_16
    refine jok_eq (fun c5 d5 => ?_) (fun c5 => ?_)
    · have f6 : ((1 : Int32)).toInt = 1 := rfl
      exact jok_s (show jI 0 1 (1 : Int32) from ⟨by omega, by omega⟩)
    · refine jok_b2 (t_gI w ta0 rfl rfl) (fun v22_7 ev22_7 pv22_7 => ?_)
      have f8 := jandR (x := (jushr v22_7 x1)) (y := (1 : Int32)) (c := 1) rfl (by decide)
      have f9 : ((1 : Int32)).toInt = 1 := rfl
      refine jok_eq (fun c10 d10 => ?_) (fun c10 => ?_)
      · refine jok_b (t_gR w ta0 rfl rfl) (fun p34_11 tp34_11 => ?_)
        refine jok_b (t_al w tp34_11 rfl (by omega) (by omega)) (fun v38_12 pv38_12 => ?_)
        refine jok_eq (fun c13 d13 => ?_) (fun c13 => ?_)
        · refine jok_b2 (t_gI w ta0 rfl rfl) (fun v53_14 ev53_14 pv53_14 => ?_)
          refine jok_eq (fun c15 d15 => ?_) (fun c15 => ?_)
          · exact jok_s (show jI 0 1 (1 : Int32) from ⟨by omega, by omega⟩)
          · exact jok_s (show jI 0 1 (0 : Int32) from ⟨by omega, by omega⟩)
        · refine jok_b2 (t_gI w ta0 rfl rfl) (fun v44_16 ev44_16 pv44_16 => ?_)
          refine jok_eq (fun c17 d17 => ?_) (fun c17 => ?_)
          · exact jok_s (show jI 0 1 (1 : Int32) from ⟨by omega, by omega⟩)
          · exact jok_s (show jI 0 1 (0 : Int32) from ⟨by omega, by omega⟩)
      · exact jok_s (show jI 0 1 (0 : Int32) from ⟨by omega, by omega⟩)
  · unfold F_X8_isStopped_16
    have f18 : ((31 : Int32)).toInt = 31 := rfl
    refine jok_eq (fun c19 d19 => ?_) (fun c19 => ?_)
    · have f20 : ((1 : Int32)).toInt = 1 := rfl
      exact jok_s (show jI 0 1 (1 : Int32) from ⟨by omega, by omega⟩)
    · refine jok_b2 (t_gI w ta0 rfl rfl) (fun v22_21 ev22_21 pv22_21 => ?_)
      have f22 := jandR (x := (jushr v22_21 x1)) (y := (1 : Int32)) (c := 1) rfl (by decide)
      have f23 : ((1 : Int32)).toInt = 1 := rfl
      refine jok_eq (fun c24 d24 => ?_) (fun c24 => ?_)
      · refine jok_b (t_gR w ta0 rfl rfl) (fun p34_25 tp34_25 => ?_)
        refine jok_b (t_al w tp34_25 rfl (by omega) (by omega)) (fun v38_26 pv38_26 => ?_)
        refine jok_eq (fun c27 d27 => ?_) (fun c27 => ?_)
        · refine jok_b2 (t_gI w ta0 rfl rfl) (fun v53_28 ev53_28 pv53_28 => ?_)
          refine jok_eq (fun c29 d29 => ?_) (fun c29 => ?_)
          · exact jok_s (show jI 0 1 (1 : Int32) from ⟨by omega, by omega⟩)
          · exact jok_s (show jI 0 1 (0 : Int32) from ⟨by omega, by omega⟩)
        · refine jok_b2 (t_gI w ta0 rfl rfl) (fun v44_30 ev44_30 pv44_30 => ?_)
          refine jok_eq (fun c31 d31 => ?_) (fun c31 => ?_)
          · exact jok_s (show jI 0 1 (1 : Int32) from ⟨by omega, by omega⟩)
          · exact jok_s (show jI 0 1 (0 : Int32) from ⟨by omega, by omega⟩)
      · exact jok_s (show jI 0 1 (0 : Int32) from ⟨by omega, by omega⟩)
set_option maxHeartbeats 1000000 in
theorem S_X8_goers_64 {g : jGh} {Γ : Nat → Option Nat} {n : Nat} (hn : 6000 ≤ n) (hg : jgok g)  (k : Nat) : ∀ {a0 : Nat} {x2 : Int32} {x3 : Int32} {x4 : Int32} {x5 : Int32} {h : jH}, jW (jKd g) Γ h → (Γ a0 = some 3) → (0 ≤ x3.toInt) → (x3.toInt ≤ 7) → (0 ≤ x4.toInt) → (x4.toInt ≤ 7) → (0 ≤ x5.toInt) → (x5.toInt ≤ 8) → (8 : Int) - x5.toInt < (k : Int) → jok (F_X8_goers_64 n k a0 x2 x3 x4 x5 h) (fun v => True) := by
  induction k with
  | zero =>
    intro a0 x2 x3 x4 x5 h w ta0 lx3 ux3 lx4 ux4 lx5 ux5 mk
    omega
  | succ k ih =>
    intro a0 x2 x3 x4 x5 h w ta0 lx3 ux3 lx4 ux4 lx5 ux5 mk
    show jok (F_X8_goers_64_b n (F_X8_goers_64 n k) a0 x2 x3 x4 x5 h) _
    unfold F_X8_goers_64_b
    refine jok_lt (fun c1 => ?_) (fun c1 => ?_)
    · exact jok_s trivial
    · try rw [t_cv w ta0 rfl]
      refine jok_b (S_X8_isStopped hn hg w ta0 (by omega) (by omega)) (fun v75_2 pv75_2 => ?_)
      obtain ⟨lv75_2, uv75_2⟩ := pv75_2
      have f3 : ((0 : Int32)).toInt = 0 := rfl
      refine jok_eq (fun c4 d4 => ?_) (fun c4 => ?_)
      · have f5 : ((1 : Int32)).toInt = 1 := rfl
        have f6 : ((x5 + (1 : Int32))).toInt = (x5).toInt + ((1 : Int32)).toInt := jadd (by omega) (by omega)
        exact ih w ta0 (by omega) (by omega) (by omega) (by omega) (by omega) (by omega) (by omega)
      · exact jok_s trivial
set_option maxHeartbeats 1000000 in
theorem S_X8_goers_32 {g : jGh} {Γ : Nat → Option Nat} {n : Nat} (hn : 6000 ≤ n) (hg : jgok g)  (k : Nat) : ∀ {a0 : Nat} {x2 : Int32} {x3 : Int32} {x4 : Int32} {h : jH}, jW (jKd g) Γ h → (Γ a0 = some 3) → (0 ≤ x3.toInt) → (x3.toInt ≤ 7) → (0 ≤ x4.toInt) → (x4.toInt ≤ 7) → x3.toInt - (0 : Int) < (k : Int) → jok (F_X8_goers_32 n k a0 x2 x3 x4 h) (fun v => True) := by
  induction k with
  | zero =>
    intro a0 x2 x3 x4 h w ta0 lx3 ux3 lx4 ux4 mk
    omega
  | succ k ih =>
    intro a0 x2 x3 x4 h w ta0 lx3 ux3 lx4 ux4 mk
    show jok (F_X8_goers_32_b n (F_X8_goers_32 n k) a0 x2 x3 x4 h) _
    unfold F_X8_goers_32_b
    have f1 : ((0 : Int32)).toInt = 0 := rfl
    refine jok_le (fun c2 => ?_) (fun c2 => ?_)
    · exact S_X8_goers_64 hn hg  n w ta0 (by omega) (by omega) (by omega) (by omega) (by omega) (by omega) (by omega)
    · refine jok_eq (fun c3 d3 => ?_) (fun c3 => ?_)
      · unfold F_X8_goers_49
        try rw [t_cv w ta0 rfl]
        have f5 : ((1 : Int32)).toInt = 1 := rfl
        have f6 : ((x3 - (1 : Int32))).toInt = (x3).toInt - ((1 : Int32)).toInt := jsub (by omega) (by omega)
        refine jok_b (S_X8_goTogether hn hg w ta0 (by omega) (by omega)) (fun v49_4 pv49_4 => ?_)
        obtain ⟨lv49_4, uv49_4⟩ := pv49_4
        refine jok_eq (fun c7 d7 => ?_) (fun c7 => ?_)
        · exact S_X8_goers_64 hn hg  n w ta0 (by omega) (by omega) (by omega) (by omega) (by omega) (by omega) (by omega)
        · obtain ⟨y8, hy8⟩ : ∃ y : Int32, y = (x3 + (-1 : Int32)) := ⟨_, rfl⟩
          have fy8 : (y8).toInt = (x3).toInt - 1 := by rw [hy8]; exact jaddN rfl (by omega) (by omega)
          try rw [← hy8]
          exact ih w ta0 (by omega) (by omega) (by omega) (by omega) (by omega)
      · unfold F_X8_goers_49
        try rw [t_cv w ta0 rfl]
        have f10 : ((1 : Int32)).toInt = 1 := rfl
        have f11 : ((x3 - (1 : Int32))).toInt = (x3).toInt - ((1 : Int32)).toInt := jsub (by omega) (by omega)
        refine jok_b (S_X8_goTogether hn hg w ta0 (by omega) (by omega)) (fun v49_9 pv49_9 => ?_)
        obtain ⟨lv49_9, uv49_9⟩ := pv49_9
        refine jok_eq (fun c12 d12 => ?_) (fun c12 => ?_)
        · exact S_X8_goers_64 hn hg  n w ta0 (by omega) (by omega) (by omega) (by omega) (by omega) (by omega) (by omega)
        · obtain ⟨y13, hy13⟩ : ∃ y : Int32, y = (x3 + (-1 : Int32)) := ⟨_, rfl⟩
          have fy13 : (y13).toInt = (x3).toInt - 1 := by rw [hy13]; exact jaddN rfl (by omega) (by omega)
          try rw [← hy13]
          exact ih w ta0 (by omega) (by omega) (by omega) (by omega) (by omega)
set_option maxHeartbeats 1000000 in
theorem S_X8_goers_5 {g : jGh} {Γ : Nat → Option Nat} {n : Nat} (hn : 6000 ≤ n) (hg : jgok g)  (k : Nat) : ∀ {a0 : Nat} {x2 : Int32} {x3 : Int32} {x4 : Int32} {h : jH}, jW (jKd g) Γ h → (Γ a0 = some 3) → (0 ≤ x3.toInt) → (x3.toInt ≤ 7) → (0 ≤ x4.toInt) → (x4.toInt ≤ 7) → (7 : Int) - x4.toInt < (k : Int) → jok (F_X8_goers_5 n k a0 x2 x3 x4 h) (fun v => True) := by
  induction k with
  | zero =>
    intro a0 x2 x3 x4 h w ta0 lx3 ux3 lx4 ux4 mk
    omega
  | succ k ih =>
    intro a0 x2 x3 x4 h w ta0 lx3 ux3 lx4 ux4 mk
    show jok (F_X8_goers_5_b n (F_X8_goers_5 n k) a0 x2 x3 x4 h) _
    unfold F_X8_goers_5_b
    refine jok_b2 (t_gI w ta0 rfl rfl) (fun v10_1 ev10_1 pv10_1 => ?_)
    obtain ⟨lv10_1, uv10_1⟩ := pv10_1
    have f2 : ((1 : Int32)).toInt = 1 := rfl
    have f3 : ((x4 + (1 : Int32))).toInt = (x4).toInt + ((1 : Int32)).toInt := jadd (by omega) (by omega)
    refine jok_le (fun c4 => ?_) (fun c4 => ?_)
    · exact S_X8_goers_32 hn hg  n w ta0 (by omega) (by omega) (by omega) (by omega) (by omega)
    · try rw [t_cv w ta0 rfl]
      refine jok_b (S_X8_goTogether hn hg w ta0 (by omega) (by omega)) (fun v20_5 pv20_5 => ?_)
      obtain ⟨lv20_5, uv20_5⟩ := pv20_5
      have f6 : ((0 : Int32)).toInt = 0 := rfl
      refine jok_eq (fun c7 d7 => ?_) (fun c7 => ?_)
      · exact S_X8_goers_32 hn hg  n w ta0 (by omega) (by omega) (by omega) (by omega) (by omega)
      · exact ih w ta0 (by omega) (by omega) (by omega) (by omega) (by omega)
set_option maxHeartbeats 1000000 in
theorem S_X8_goers {g : jGh} {Γ : Nat → Option Nat} {n : Nat} {a0 : Nat} {x1 : Int32} {x2 : Int32} {h : jH} (hn : 6000 ≤ n) (hg : jgok g) (w : jW (jKd g) Γ h) (ta0 : Γ a0 = some 3) (lx1 : 0 ≤ x1.toInt) (ux1 : x1.toInt ≤ 7) : jok (F_X8_goers n a0 x1 x2 h) (fun v => True) := by
  unfold F_X8_goers
  exact S_X8_goers_5 hn hg  n w ta0 (by omega) (by omega) (by omega) (by omega) (by omega)
set_option maxHeartbeats 1000000 in
theorem S_X8_move_28 {g : jGh} {Γ : Nat → Option Nat} {n : Nat} (hn : 6000 ≤ n) (hg : jgok g) {k3 : Nat} {rc3 : Nat → Int32 → Int32 → Int32 → Int32 → jH → Option (Int32 × jH)} (k : Nat) : ∀ {a0 : Nat} {x1 : Int32} {x2 : Int32} {x3 : Int32} {x4 : Int32} {x5 : Int32} {x6 : Int32} {h : jH}, jW (jKd g) Γ h → (Γ a0 = some 3) → (0 ≤ x1.toInt) → (x1.toInt ≤ 7) → (0 ≤ x3.toInt) → (x3.toInt ≤ 31) → (0 ≤ x4.toInt) → (x4.toInt ≤ 30) → (0 ≤ x6.toInt) → (x6.toInt ≤ 8) → (8 : Int) - x6.toInt < (k : Int) → (∀ {a0 : Nat} {x1 : Int32} {x2 : Int32} {x3 : Int32} {x4 : Int32} {h : jH}, jW (jKd g) Γ h → (Γ a0 = some 3) → (0 ≤ x1.toInt) → (x1.toInt ≤ 7) → (0 ≤ x3.toInt) → (x3.toInt ≤ 31) → (0 ≤ x4.toInt) → (x4.toInt ≤ 31) → (31 : Int) - x4.toInt < (k3 : Int) → jok (rc3 a0 x1 x2 x3 x4 h) (fun q => jW (jKd g) Γ q.2 ∧ (fun v : Int32 => 0 ≤ v.toInt ∧ v.toInt ≤ 31) q.1)) → ((31 : Int) - x4.toInt ≤ (k3 : Int)) → jok (F_X8_move_28 n rc3 k a0 x1 x2 x3 x4 x5 x6 h) (fun q => jW (jKd g) Γ q.2 ∧ (fun v : Int32 => 0 ≤ v.toInt ∧ v.toInt ≤ 31) q.1) := by
  induction k with
  | zero =>
    intro a0 x1 x2 x3 x4 x5 x6 h w ta0 lx1 ux1 lx3 ux3 lx4 ux4 lx6 ux6 mk hrc3 m3
    omega
  | succ k ih =>
    intro a0 x1 x2 x3 x4 x5 x6 h w ta0 lx1 ux1 lx3 ux3 lx4 ux4 lx6 ux6 mk hrc3 m3
    show jok (F_X8_move_28_b n rc3 (F_X8_move_28 n rc3 k) a0 x1 x2 x3 x4 x5 x6 h) _
    unfold F_X8_move_28_b
    refine jok_b2 (t_gI w ta0 rfl rfl) (fun v31_1 ev31_1 pv31_1 => ?_)
    obtain ⟨lv31_1, uv31_1⟩ := pv31_1
    refine jok_le (fun c2 => ?_) (fun c2 => ?_)
    · refine jok_b2 (t_gI w ta0 rfl rfl) (fun v78_3 ev78_3 pv78_3 => ?_)
      refine jok_b2 (t_gI w ta0 rfl rfl) (fun v84_4 ev84_4 pv84_4 => ?_)
      refine jok_b (S_J6_bitCount_0f7a4 hn hg w) (fun v90_5 pv90_5 => ?_)
      have f7 : ((9999 : Int32)).toInt = 9999 := rfl
      refine jok_b (t_pI w ta0 rfl rfl trivial) (fun h97_6 wh97_6 => ?_)
      obtain ⟨wh97_6, jh97_6, rh97_6⟩ := wh97_6
      have f8 : ((1 : Int32)).toInt = 1 := rfl
      have f9 : ((x4 + (1 : Int32))).toInt = (x4).toInt + ((1 : Int32)).toInt := jadd (by omega) (by omega)
      exact hrc3 wh97_6 ta0 (by omega) (by omega) (by omega) (by omega) (by omega) (by omega) (by omega)
    · refine jok_b (S_X11_bit hn hg w) (fun v41_10 pv41_10 => ?_)
      obtain ⟨lv41_10, uv41_10⟩ := pv41_10
      have f11 : ((1 : Int32)).toInt = 1 := rfl
      refine jok_eq (fun c12 d12 => ?_) (fun c12 => ?_)
      · refine jok_b (t_gR w ta0 rfl rfl) (fun p49_13 tp49_13 => ?_)
        refine jok_b (t_al w tp49_13 rfl (by omega) (by omega)) (fun v55_14 pv55_14 => ?_)
        have f15 : ((0 : Int32)).toInt = 0 := rfl
        refine jok_eq (fun c16 d16 => ?_) (fun c16 => ?_)
        · refine jok_b (t_as w tp49_13 rfl (by omega) (by omega) trivial (fun q => by cases q)) (fun h66_17 wh66_17 => ?_)
          obtain ⟨wh66_17, rh66_17⟩ := wh66_17
          have f18 : ((x6 + (1 : Int32))).toInt = (x6).toInt + ((1 : Int32)).toInt := jadd (by omega) (by omega)
          exact ih wh66_17 ta0 (by omega) (by omega) (by omega) (by omega) (by omega) (by omega) (by omega) (by omega) (by omega) hrc3 (by omega)
        · refine jok_b (t_as w tp49_13 rfl (by omega) (by omega) trivial (fun q => by cases q)) (fun h66_19 wh66_19 => ?_)
          obtain ⟨wh66_19, rh66_19⟩ := wh66_19
          have f20 : ((x6 + (1 : Int32))).toInt = (x6).toInt + ((1 : Int32)).toInt := jadd (by omega) (by omega)
          exact ih wh66_19 ta0 (by omega) (by omega) (by omega) (by omega) (by omega) (by omega) (by omega) (by omega) (by omega) hrc3 (by omega)
      · have f21 : ((x6 + (1 : Int32))).toInt = (x6).toInt + ((1 : Int32)).toInt := jadd (by omega) (by omega)
        exact ih w ta0 (by omega) (by omega) (by omega) (by omega) (by omega) (by omega) (by omega) (by omega) (by omega) hrc3 (by omega)
set_option maxHeartbeats 1000000 in
theorem S_X8_move_3 {g : jGh} {Γ : Nat → Option Nat} {n : Nat} (hn : 6000 ≤ n) (hg : jgok g)  (k : Nat) : ∀ {a0 : Nat} {x1 : Int32} {x2 : Int32} {x3 : Int32} {x4 : Int32} {h : jH}, jW (jKd g) Γ h → (Γ a0 = some 3) → (0 ≤ x1.toInt) → (x1.toInt ≤ 7) → (0 ≤ x3.toInt) → (x3.toInt ≤ 31) → (0 ≤ x4.toInt) → (x4.toInt ≤ 31) → (31 : Int) - x4.toInt < (k : Int) → jok (F_X8_move_3 n k a0 x1 x2 x3 x4 h) (fun q => jW (jKd g) Γ q.2 ∧ (fun v : Int32 => 0 ≤ v.toInt ∧ v.toInt ≤ 31) q.1) := by
  induction k with
  | zero =>
    intro a0 x1 x2 x3 x4 h w ta0 lx1 ux1 lx3 ux3 lx4 ux4 mk
    omega
  | succ k ih =>
    intro a0 x1 x2 x3 x4 h w ta0 lx1 ux1 lx3 ux3 lx4 ux4 mk
    show jok (F_X8_move_3_b n (F_X8_move_3 n k) a0 x1 x2 x3 x4 h) _
    unfold F_X8_move_3_b
    refine jok_le (fun c1 => ?_) (fun c1 => ?_)
    · exact jok_s ⟨w, (show jI 0 31 x3 from ⟨by omega, by omega⟩)⟩
    · try rw [t_cv w ta0 rfl]
      refine jok_b (S_X8_goers hn hg w ta0 (by omega) (by omega)) (fun v12_2 pv12_2 => ?_)
      have f3 : ((0 : Int32)).toInt = 0 := rfl
      refine jok_eq (fun c4 d4 => ?_) (fun c4 => ?_)
      · exact jok_s ⟨w, (show jI 0 31 x4 from ⟨by omega, by omega⟩)⟩
      · exact S_X8_move_28 hn hg  n w ta0 (by omega) (by omega) (by omega) (by omega) (by omega) (by omega) (by omega) (by omega) (by omega) ih (by omega)
set_option maxHeartbeats 1000000 in
theorem S_X8_move {g : jGh} {Γ : Nat → Option Nat} {n : Nat} {a0 : Nat} {x1 : Int32} {x2 : Int32} {x3 : Int32} {h : jH} (hn : 6000 ≤ n) (hg : jgok g) (w : jW (jKd g) Γ h) (ta0 : Γ a0 = some 3) (lx1 : 0 ≤ x1.toInt) (ux1 : x1.toInt ≤ 7) (lx3 : 0 ≤ x3.toInt) (ux3 : x3.toInt ≤ 31) : jok (F_X8_move n a0 x1 x2 x3 h) (fun q => jW (jKd g) Γ q.2 ∧ (fun v : Int32 => 0 ≤ v.toInt ∧ v.toInt ≤ 31) q.1) := by
  unfold F_X8_move
  have f1 : ((0 : Int32)).toInt = 0 := rfl
  exact S_X8_move_3 hn hg  n w ta0 (by omega) (by omega) (by omega) (by omega) (by omega) (by omega) (by omega)
set_option maxHeartbeats 1000000 in
theorem S_X7_farWith {g : jGh} {Γ : Nat → Option Nat} {n : Nat} {a0 : Nat} {a1 : Nat} {x2 : Int32} {x3 : Int32} {x4 : Int32} {x5 : Int32} {h : jH} (hn : 6000 ≤ n) (hg : jgok g) (w : jW (jKd g) Γ h) (ta0 : Γ a0 = some 18) (ta1 : Γ a1 = some 3) (lx3 : 0 ≤ x3.toInt) (ux3 : x3.toInt ≤ 7) (lx5 : 0 ≤ x5.toInt) (ux5 : x5.toInt ≤ 31) : jok (F_X7_farWith n a0 a1 x2 x3 x4 x5 h) (fun q => jW (jKd g) Γ q.2 ∧ (fun v : Int32 => 0 ≤ v.toInt ∧ v.toInt ≤ 31) q.1) := by
  unfold F_X7_farWith
  refine jok_b (t_gR w ta0 rfl rfl) (fun p1_1 tp1_1 => ?_)
  try rw [t_cv w tp1_1 rfl]
  refine jok_b (S_X8_hangAs hn hg w tp1_1 ta1) (fun h5_2 wh5_2 => ?_)
  refine jok_b (t_gR wh5_2 ta0 rfl rfl) (fun p9_3 tp9_3 => ?_)
  refine jok_b (t_pI wh5_2 tp9_3 rfl rfl trivial) (fun h13_4 wh13_4 => ?_)
  obtain ⟨wh13_4, jh13_4, rh13_4⟩ := wh13_4
  refine jok_b (t_gR wh13_4 ta0 rfl rfl) (fun p17_5 tp17_5 => ?_)
  try rw [t_cv wh13_4 tp17_5 rfl]
  refine jok_b (S_X8_move hn hg wh13_4 tp17_5 (by omega) (by omega) (by omega) (by omega)) (fun q25_6 wq25_6 => ?_)
  obtain ⟨wq25_6, pq25_6⟩ := wq25_6
  obtain ⟨lq25_6, uq25_6⟩ := pq25_6
  exact jok_s ⟨wq25_6, (show jI 0 31 q25_6.1 from ⟨by omega, by omega⟩)⟩
set_option maxHeartbeats 1000000 in
theorem S_X7_shadiest_40 {g : jGh} {Γ : Nat → Option Nat} {n : Nat} (hn : 6000 ≤ n) (hg : jgok g) {k18 : Nat} {rc18 : Nat → Nat → Int32 → Int32 → Int32 → jH → Option (Int32 × jH)} (k : Nat) : ∀ {a0 : Nat} {a1 : Nat} {x2 : Int32} {x3 : Int32} {x4 : Int32} {x5 : Int32} {h : jH}, jW (jKd g) Γ h → (Γ a0 = some 18) → (Γ a1 = some 3) → (0 ≤ x4.toInt) → (x4.toInt ≤ 15) → (0 ≤ x5.toInt) → (x5.toInt ≤ 32) → (32 : Int) - x5.toInt < (k : Int) → (∀ {a0 : Nat} {a1 : Nat} {x2 : Int32} {x3 : Int32} {x4 : Int32} {h : jH}, jW (jKd g) Γ h → (Γ a0 = some 18) → (Γ a1 = some 3) → (0 ≤ x4.toInt) → (x4.toInt ≤ 16) → (16 : Int) - x4.toInt < (k18 : Int) → jok (rc18 a0 a1 x2 x3 x4 h) (fun q => jW (jKd g) Γ q.2 ∧ (fun v : Int32 => True) q.1)) → ((16 : Int) - x4.toInt ≤ (k18 : Int)) → jok (F_X7_shadiest_40 n rc18 k a0 a1 x2 x3 x4 x5 h) (fun q => jW (jKd g) Γ q.2 ∧ (fun v : Int32 => True) q.1) := by
  induction k with
  | zero =>
    intro a0 a1 x2 x3 x4 x5 h w ta0 ta1 lx4 ux4 lx5 ux5 mk hrc18 m18
    omega
  | succ k ih =>
    intro a0 a1 x2 x3 x4 x5 h w ta0 ta1 lx4 ux4 lx5 ux5 mk hrc18 m18
    show jok (F_X7_shadiest_40_b n rc18 (F_X7_shadiest_40 n rc18 k) a0 a1 x2 x3 x4 x5 h) _
    unfold F_X7_shadiest_40_b
    have f1 : ((31 : Int32)).toInt = 31 := rfl
    refine jok_lt (fun c2 => ?_) (fun c2 => ?_)
    · have f3 : ((1 : Int32)).toInt = 1 := rfl
      have f4 : ((x4 + (1 : Int32))).toInt = (x4).toInt + ((1 : Int32)).toInt := jadd (by omega) (by omega)
      exact hrc18 w ta0 ta1 (by omega) (by omega) (by omega)
    · refine jok_b (t_gR w ta0 rfl rfl) (fun p48_5 tp48_5 => ?_)
      have f6 : ((2 : Int32)).toInt = 2 := rfl
      have f7 : ((x4 / (2 : Int32))).toInt = (x4).toInt / 2 := jdivL (c := 2) (by omega) rfl (by decide)
      have f8 : (((x4 / (2 : Int32)) * (2 : Int32))).toInt = 2 * ((x4 / (2 : Int32))).toInt := jmulR (c := 2) (by omega) (by omega) (by omega)
      have f9 : ((x4 - ((x4 / (2 : Int32)) * (2 : Int32)))).toInt = (x4).toInt - (((x4 / (2 : Int32)) * (2 : Int32))).toInt := jsub (by omega) (by omega)
      have f10 : ((1 : Int32)).toInt = 1 := rfl
      refine jok_eq (fun c11 d11 => ?_) (fun c11 => ?_)
      · unfold F_X7_shadiest_68
        try rw [t_cv w tp48_5 rfl]
        refine jok_b (S_X8_move hn hg w tp48_5 (by omega) (by omega) (by omega) (by omega)) (fun q69_12 wq69_12 => ?_)
        obtain ⟨wq69_12, pq69_12⟩ := wq69_12
        obtain ⟨lq69_12, uq69_12⟩ := pq69_12
        refine jok_eq (fun c13 d13 => ?_) (fun c13 => ?_)
        · refine jok_b (t_gR wq69_12 ta0 rfl rfl) (fun p77_14 tp77_14 => ?_)
          try rw [t_cv wq69_12 tp77_14 rfl]
          refine jok_b (S_X8_shadedChairs hn hg wq69_12 tp77_14) (fun v80_15 pv80_15 => ?_)
          refine jok_le (fun c16 => ?_) (fun c16 => ?_)
          · have f17 : ((x5 + (1 : Int32))).toInt = (x5).toInt + ((1 : Int32)).toInt := jadd (by omega) (by omega)
            exact ih wq69_12 ta0 ta1 (by omega) (by omega) (by omega) (by omega) (by omega) hrc18 (by omega)
          · have f18 : ((x5 + (1 : Int32))).toInt = (x5).toInt + ((1 : Int32)).toInt := jadd (by omega) (by omega)
            exact ih wq69_12 ta0 ta1 (by omega) (by omega) (by omega) (by omega) (by omega) hrc18 (by omega)
        · have f19 : ((x4 + (1 : Int32))).toInt = (x4).toInt + ((1 : Int32)).toInt := jadd (by omega) (by omega)
          exact hrc18 wq69_12 ta0 ta1 (by omega) (by omega) (by omega)
      · unfold F_X7_shadiest_68
        try rw [t_cv w tp48_5 rfl]
        refine jok_b (S_X8_move hn hg w tp48_5 (by omega) (by omega) (by omega) (by omega)) (fun q69_20 wq69_20 => ?_)
        obtain ⟨wq69_20, pq69_20⟩ := wq69_20
        obtain ⟨lq69_20, uq69_20⟩ := pq69_20
        refine jok_eq (fun c21 d21 => ?_) (fun c21 => ?_)
        · refine jok_b (t_gR wq69_20 ta0 rfl rfl) (fun p77_22 tp77_22 => ?_)
          try rw [t_cv wq69_20 tp77_22 rfl]
          refine jok_b (S_X8_shadedChairs hn hg wq69_20 tp77_22) (fun v80_23 pv80_23 => ?_)
          refine jok_le (fun c24 => ?_) (fun c24 => ?_)
          · have f25 : ((x5 + (1 : Int32))).toInt = (x5).toInt + ((1 : Int32)).toInt := jadd (by omega) (by omega)
            exact ih wq69_20 ta0 ta1 (by omega) (by omega) (by omega) (by omega) (by omega) hrc18 (by omega)
          · have f26 : ((x5 + (1 : Int32))).toInt = (x5).toInt + ((1 : Int32)).toInt := jadd (by omega) (by omega)
            exact ih wq69_20 ta0 ta1 (by omega) (by omega) (by omega) (by omega) (by omega) hrc18 (by omega)
        · have f27 : ((x4 + (1 : Int32))).toInt = (x4).toInt + ((1 : Int32)).toInt := jadd (by omega) (by omega)
          exact hrc18 wq69_20 ta0 ta1 (by omega) (by omega) (by omega)
set_option maxHeartbeats 1000000 in
theorem S_X7_shadiest_18 {g : jGh} {Γ : Nat → Option Nat} {n : Nat} (hn : 6000 ≤ n) (hg : jgok g)  (k : Nat) : ∀ {a0 : Nat} {a1 : Nat} {x2 : Int32} {x3 : Int32} {x4 : Int32} {h : jH}, jW (jKd g) Γ h → (Γ a0 = some 18) → (Γ a1 = some 3) → (0 ≤ x4.toInt) → (x4.toInt ≤ 16) → (16 : Int) - x4.toInt < (k : Int) → jok (F_X7_shadiest_18 n k a0 a1 x2 x3 x4 h) (fun q => jW (jKd g) Γ q.2 ∧ (fun v : Int32 => True) q.1) := by
  induction k with
  | zero =>
    intro a0 a1 x2 x3 x4 h w ta0 ta1 lx4 ux4 mk
    omega
  | succ k ih =>
    intro a0 a1 x2 x3 x4 h w ta0 ta1 lx4 ux4 mk
    show jok (F_X7_shadiest_18_b n (F_X7_shadiest_18 n k) a0 a1 x2 x3 x4 h) _
    unfold F_X7_shadiest_18_b
    refine jok_b2 (t_gI w ta1 rfl rfl) (fun v22_1 ev22_1 pv22_1 => ?_)
    obtain ⟨lv22_1, uv22_1⟩ := pv22_1
    have f2 : ((2 : Int32)).toInt = 2 := rfl
    have f3 : (((2 : Int32) * v22_1)).toInt = 2 * (v22_1).toInt := jmulL (c := 2) (by omega) (by omega) (by omega)
    refine jok_le (fun c4 => ?_) (fun c4 => ?_)
    · exact jok_s ⟨w, trivial⟩
    · refine jok_b (t_gR w ta0 rfl rfl) (fun p30_5 tp30_5 => ?_)
      try rw [t_cv w tp30_5 rfl]
      refine jok_b (S_X8_hangAs hn hg w tp30_5 ta1) (fun h34_6 wh34_6 => ?_)
      have f7 : ((1 : Int32)).toInt = 1 := rfl
      exact S_X7_shadiest_40 hn hg  n wh34_6 ta0 ta1 (by omega) (by omega) (by omega) (by omega) (by omega) ih (by omega)
set_option maxHeartbeats 1000000 in
theorem S_X7_shadiest {g : jGh} {Γ : Nat → Option Nat} {n : Nat} {a0 : Nat} {a1 : Nat} {h : jH} (hn : 6000 ≤ n) (hg : jgok g) (w : jW (jKd g) Γ h) (ta0 : Γ a0 = some 18) (ta1 : Γ a1 = some 3) : jok (F_X7_shadiest n a0 a1 h) (fun q => jW (jKd g) Γ q.2 ∧ (fun v : Int32 => True) q.1) := by
  unfold F_X7_shadiest
  refine jok_b (t_gR w ta0 rfl rfl) (fun p1_1 tp1_1 => ?_)
  try rw [t_cv w tp1_1 rfl]
  refine jok_b (S_X8_copyFrom hn hg w tp1_1 ta1) (fun h5_2 wh5_2 => ?_)
  try rw [t_cv wh5_2 ta1 rfl]
  refine jok_b (S_X8_shadedChairs hn hg wh5_2 ta1) (fun v9_3 pv9_3 => ?_)
  have f4 : ((0 : Int32)).toInt = 0 := rfl
  exact S_X7_shadiest_18 hn hg  n wh5_2 ta0 ta1 (by omega) (by omega) (by omega)
end
