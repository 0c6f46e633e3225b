/-! typed heaps: what is there at each address, by kind; every method keeps the kinds and never fails -/
abbrev jI (lo hi : Int) (x : Int32) : Prop := lo ≤ x.toInt ∧ x.toInt ≤ hi
abbrev jAny (_ : Int32) : Prop := True
/-- a field: a number, a reference of a kind, a reference of a kind or null -/
abbrev jF : Type := (Int32 → Prop) ⊕ (Nat ⊕ Nat)
/-- a kind: an array of numbers, an array of references, an object -/
abbrev jD : Type := (Nat × Nat × (Nat → Int32 → Prop)) ⊕ ((Nat × Nat) ⊕ (Nat × List jF))
/-- what changes by plan alone: the tape's length and bytes, the reference's tape's length, its world from 435 on (law and draft), the laws of 'earlier' and of 'image' -/
abbrev jGh : Type := Int × (Nat → Int32) × Int × (Nat → Int32) × (Nat → Int32) × (Nat → Int32) × Int32 × Int32 × Int32
/-- heights of the stack that a line's codes come to, from s on -/
def jhgt (c : Nat → Int32) (s : Nat) : Nat → Option Nat
  | 0 => some 0
  | l + 1 => (jhgt c s l).bind fun t => if (c (484 + 2 * (s + l))).toInt ≤ 11 then some (t + 1) else if (c (484 + 2 * (s + l))).toInt = 15 then (if 1 ≤ t then some t else none) else (if 2 ≤ t then some (t - 1) else none)
/-- a law that can be run: its lines' codes never take from an empty stack -/
def jlawOK (c : Nat → Int32) : Prop := 0 ≤ (c 435).toInt ∧ (c 435).toInt ≤ 12 ∧ ∀ i : Nat, (i : Int) < (c 435).toInt → 0 ≤ (c (438 + 4 * i)).toInt ∧ (c (438 + 4 * i)).toInt ≤ (c (439 + 4 * i)).toInt ∧ (c (439 + 4 * i)).toInt ≤ 400 ∧ (jhgt c (c (438 + 4 * i)).toInt.toNat ((c (439 + 4 * i)).toInt.toNat - (c (438 + 4 * i)).toInt.toNat)).isSome = true
abbrev jgok (g : jGh) : Prop := (0 ≤ g.1 ∧ g.1 ≤ 400) ∧ 0 ≤ g.2.2.1 ∧ g.2.2.1 ≤ 400 ∧ jlawOK g.2.2.2.1
/-- what stands in a place of the reference's world -/
def jR3 (k : Nat) (x : Int32) : Prop := (k ≠ 0 ∨ (0 ≤ x.toInt ∧ x.toInt ≤ 8)) ∧ (k ≠ 9 ∨ (0 ≤ x.toInt ∧ x.toInt ≤ 60)) ∧ (k < 11 ∨ 75 ≤ k ∨ (k - 11) % 8 ≠ 0 ∨ (0 ≤ x.toInt ∧ x.toInt ≤ 31))
def jRw (g : jGh) (k : Nat) (x : Int32) : Prop := jR3 k x ∧ (k < 435 ∨ x = g.2.2.2.1 k)
def jok {α : Type} (o : Option α) (P : α → Prop) : Prop := ∃ v, o = some v ∧ P v
theorem jok_s {α : Type} {v : α} {P : α → Prop} (h : P v) : jok (some v) P := ⟨v, rfl, h⟩
theorem jok_b {α β : Type} {o : Option α} {f : α → Option β} {R : α → Prop} {P : β → Prop} (h : jok o R) (k : ∀ v, R v → jok (f v) P) : jok (o.bind f) P := by
  obtain ⟨v, rfl, hv⟩ := h
  exact k v hv
theorem jok_b2 {α β : Type} {o : Option α} {f : α → Option β} {R : α → Prop} {P : β → Prop} (h : jok o R) (k : ∀ v, o = some v → R v → jok (f v) P) : jok (o.bind f) P := by
  obtain ⟨v, rfl, hv⟩ := h
  exact k v rfl hv
theorem jok_r {α β : Type} {o : Option α} {f : α → Option β} {v : α} {P : β → Prop} (h : o = some v) (k : jok (f v) P) : jok (o.bind f) P := by
  rw [h]
  exact k
theorem jok_w {α : Type} {o : Option α} {P Q : α → Prop} (h : jok o P) (k : ∀ v, P v → Q v) : jok o Q := by
  obtain ⟨v, e, hv⟩ := h
  exact ⟨v, e, k v hv⟩
theorem jok_if {α : Type} {c : Prop} [Decidable c] {a b : Option α} {P : α → Prop} (ht : c → jok a P) (hf : ¬ c → jok b P) : jok (if c then a else b) P := by
  by_cases h : c
  · rw [if_pos h]; exact ht h
  · rw [if_neg h]; exact hf h
theorem jok_le {α : Type} {x y : Int32} {a b : Option α} {P : α → Prop} (ht : x.toInt ≤ y.toInt → jok a P) (hf : y.toInt < x.toInt → jok b P) : jok (if x ≤ y then a else b) P :=
  jok_if (fun c => ht (Int32.le_iff_toInt_le.mp c)) (fun c => hf (Int.not_le.mp fun q => c (Int32.le_iff_toInt_le.mpr q)))
theorem jok_lt {α : Type} {x y : Int32} {a b : Option α} {P : α → Prop} (ht : x.toInt < y.toInt → jok a P) (hf : y.toInt ≤ x.toInt → jok b P) : jok (if x < y then a else b) P :=
  jok_if (fun c => ht (Int32.lt_iff_toInt_lt.mp c)) (fun c => hf (Int.not_lt.mp fun q => c (Int32.lt_iff_toInt_lt.mpr q)))
theorem jok_eq {α : Type} {x y : Int32} {a b : Option α} {P : α → Prop} (ht : x.toInt = y.toInt → x = y → jok a P) (hf : ¬ x.toInt = y.toInt → jok b P) : jok (if x = y then a else b) P :=
  jok_if (fun c => ht (by rw [c]) c) (fun c => hf fun q => c (Int32.toInt_inj.mp q))
theorem jne {x y : Int32} (h : x.toInt ≠ y.toInt) : ¬ x = y := fun q => h (by rw [q])
theorem j01 {x : Int32} (h0 : 0 ≤ x.toInt) (h1 : x.toInt ≤ 1) : x = 0 ∨ x = 1 := by
  rcases (show x.toInt = 0 ∨ x.toInt = 1 by omega) with h | h
  · exact Or.inl (Int32.toInt_inj.mp h)
  · exact Or.inr (Int32.toInt_inj.mp h)
theorem jnoob {x : Int32} {n : Nat} (h0 : 0 ≤ x.toInt) (h1 : x.toInt < (n : Int)) : ¬ (x < 0 ∨ n ≤ x.toNatClampNeg) := by
  rintro (h | h)
  · have := Int32.lt_iff_toInt_lt.mp h
    have h9 : (0 : Int32).toInt = 0 := rfl
    omega
  · have h9 : x.toNatClampNeg = x.toInt.toNat := rfl
    omega
/-! numbers -/
theorem jadd {x y : Int32} (h1 : -2147483648 ≤ x.toInt + y.toInt) (h2 : x.toInt + y.toInt ≤ 2147483647) : (x + y).toInt = x.toInt + y.toInt := by
  rw [Int32.toInt_add, Int.bmod_eq_of_le (by omega) (by omega)]
theorem jsub {x y : Int32} (h1 : -2147483648 ≤ x.toInt - y.toInt) (h2 : x.toInt - y.toInt ≤ 2147483647) : (x - y).toInt = x.toInt - y.toInt := by
  rw [Int32.toInt_sub, Int.bmod_eq_of_le (by omega) (by omega)]
theorem jaddN {x y : Int32} {d : Int} (hd : y.toInt = -d) (h1 : -2147483648 ≤ x.toInt - d) (h2 : x.toInt - d ≤ 2147483647) : (x + y).toInt = x.toInt - d := by
  rw [Int32.toInt_add, hd, Int.bmod_eq_of_le (by omega) (by omega)]
  omega
theorem jmulL {x y : Int32} {c : Int} (hc : x.toInt = c) (h1 : -2147483648 ≤ c * y.toInt) (h2 : c * y.toInt ≤ 2147483647) : (x * y).toInt = c * y.toInt := by
  rw [Int32.toInt_mul, hc, Int.bmod_eq_of_le (by omega) (by omega)]
theorem jmulR {x y : Int32} {c : Int} (hc : y.toInt = c) (h1 : -2147483648 ≤ c * x.toInt) (h2 : c * x.toInt ≤ 2147483647) : (x * y).toInt = c * x.toInt := by
  rw [Int32.toInt_mul, hc, Int.mul_comm, Int.bmod_eq_of_le (by omega) (by omega)]
theorem jdivL {x y : Int32} {c : Int} (hx : 0 ≤ x.toInt) (hc : y.toInt = c) (h0 : 0 < c) : (x / y).toInt = x.toInt / c := by
  have hb : x.toInt ≤ 2147483647 := by have := Int32.toInt_lt x; omega
  have h2 : 0 ≤ x.toInt / c := Int.ediv_nonneg hx (Int.le_of_lt h0)
  have h3 : x.toInt / c ≤ x.toInt := Int.ediv_le_self _ hx
  rw [Int32.toInt_div, hc, Int.tdiv_eq_ediv_of_nonneg hx, Int.bmod_eq_of_le (by omega) (by omega)]
theorem jand_nat {x y : Int32} {c : Nat} (hc : y.toInt = (c : Int)) : 0 ≤ (x &&& y).toInt ∧ (x &&& y).toInt ≤ (c : Int) := by
  have h1 : (x &&& y).toInt = (x.toBitVec &&& y.toBitVec).toInt := by rw [← Int32.toBitVec_and]; rfl
  have h2 : y.toBitVec.toInt = (c : Int) := hc
  have h3 : (x.toBitVec &&& y.toBitVec).toNat ≤ y.toBitVec.toNat := by rw [BitVec.toNat_and]; exact Nat.and_le_right
  have h4 := y.toBitVec.isLt
  rw [h1]
  rw [BitVec.toInt_eq_toNat_cond] at h2 ⊢
  split at h2
  · rw [if_pos (by omega)]
    omega
  · omega
theorem jandR {x y : Int32} {c : Int} (hc : y.toInt = c) (h0 : 0 ≤ c) : 0 ≤ (x &&& y).toInt ∧ (x &&& y).toInt ≤ c := by
  obtain ⟨k, rfl⟩ := Int.eq_ofNat_of_zero_le h0
  exact jand_nat hc
theorem jandL {x y : Int32} {c : Int} (hc : x.toInt = c) (h0 : 0 ≤ c) : 0 ≤ (x &&& y).toInt ∧ (x &&& y).toInt ≤ c := by
  rw [Int32.and_comm]
  exact jandR hc h0
theorem jshl1_all : ∀ k : Nat, k < 9 → ∀ j : Nat, j < k + 1 → 1 ≤ ((1 : Int32) <<< (Int32.ofNat j &&& 31)).toInt ∧ ((1 : Int32) <<< (Int32.ofNat j &&& 31)).toInt ≤ (2 : Int) ^ k := by decide +kernel
theorem jshl1 {v : Int32} {k : Nat} (h0 : 0 ≤ v.toInt) (h1 : v.toInt ≤ (k : Int)) (hk : k ≤ 8) : 1 ≤ ((1 : Int32) <<< (v &&& 31)).toInt ∧ ((1 : Int32) <<< (v &&& 31)).toInt ≤ (2 : Int) ^ k := by
  obtain ⟨j, hj⟩ := Int.eq_ofNat_of_zero_le h0
  have e : v = Int32.ofNat j := Int32.toInt_inj.mp (by rw [hj]; exact (Int32.toInt_ofNat_of_lt (by omega)).symm)
  rw [e]
  exact jshl1_all k (by omega) j (by omega)
theorem jor255 {x y : Int32} (h0 : 0 ≤ x.toInt) (h1 : x.toInt ≤ 255) (h2 : 0 ≤ y.toInt) (h3 : y.toInt ≤ 255) : 0 ≤ (x ||| y).toInt ∧ (x ||| y).toInt ≤ 255 := by
  have e : (x ||| y).toInt = (x.toBitVec ||| y.toBitVec).toInt := by rw [← Int32.toBitVec_or]; rfl
  have a : x.toBitVec.toInt = x.toInt := rfl
  have b : y.toBitVec.toInt = y.toInt := rfl
  have hx := x.toBitVec.isLt
  have hy := y.toBitVec.isLt
  rw [BitVec.toInt_eq_toNat_cond] at a b
  have hx2 : x.toBitVec.toNat < 2 ^ 8 := by split at a <;> omega
  have hy2 : y.toBitVec.toNat < 2 ^ 8 := by split at b <;> omega
  have h9 : (x.toBitVec ||| y.toBitVec).toNat < 2 ^ 8 := by rw [BitVec.toNat_or]; exact Nat.or_lt_two_pow hx2 hy2
  rw [e, BitVec.toInt_eq_toNat_cond]
  split <;> omega
theorem jif_lt {x y a b : Int32} {lo hi : Int} (ht : x.toInt < y.toInt → lo ≤ a.toInt ∧ a.toInt ≤ hi) (hf : y.toInt ≤ x.toInt → lo ≤ b.toInt ∧ b.toInt ≤ hi) : lo ≤ (if x < y then a else b).toInt ∧ (if x < y then a else b).toInt ≤ hi := by
  by_cases h : x < y
  · rw [if_pos h]; exact ht (Int32.lt_iff_toInt_lt.mp h)
  · rw [if_neg h]; exact hf (Int.not_lt.mp fun q => h (Int32.lt_iff_toInt_lt.mpr q))
theorem jif_le {x y a b : Int32} {lo hi : Int} (ht : x.toInt ≤ y.toInt → lo ≤ a.toInt ∧ a.toInt ≤ hi) (hf : y.toInt < x.toInt → lo ≤ b.toInt ∧ b.toInt ≤ hi) : lo ≤ (if x ≤ y then a else b).toInt ∧ (if x ≤ y then a else b).toInt ≤ hi := by
  by_cases h : x ≤ y
  · rw [if_pos h]; exact ht (Int32.le_iff_toInt_le.mp h)
  · rw [if_neg h]; exact hf (Int.not_le.mp fun q => h (Int32.le_iff_toInt_le.mpr q))
theorem jif_eq {x y a b : Int32} {lo hi : Int} (ht : x.toInt = y.toInt → lo ≤ a.toInt ∧ a.toInt ≤ hi) (hf : ¬ x.toInt = y.toInt → lo ≤ b.toInt ∧ b.toInt ≤ hi) : lo ≤ (if x = y then a else b).toInt ∧ (if x = y then a else b).toInt ≤ hi := by
  by_cases h : x = y
  · rw [if_pos h]; exact ht (by rw [h])
  · rw [if_neg h]; exact hf fun q => h (Int32.toInt_inj.mp q)
theorem jmin31 {x : Int32} : (if x < (31 : Int32) then x else (31 : Int32)).toInt ≤ 31 := by
  have e : (31 : Int32).toInt = 31 := rfl
  by_cases h : x < 31
  · rw [if_pos h]
    have := Int32.lt_iff_toInt_lt.mp h
    omega
  · rw [if_neg h, e]
    omega
/-! the kinds at their addresses -/
def okV (Γ : Nat → Option Nat) (F : jF) (v : Value) : Prop := match F with
  | .inl P => ∃ x, v = .int x ∧ P x
  | .inr (.inl c) => ∃ a, v = .ref a ∧ Γ a = some c
  | .inr (.inr c) => v = .null ∨ ∃ a, v = .ref a ∧ Γ a = some c
def okE (Γ : Nat → Option Nat) (D : jD) (e : Option jE) : Prop := match D with
  | .inl q => ∃ f : Nat → Int32, e = some (.inr (.inl (q.1, q.2.1, f))) ∧ ∀ k, k < q.2.1 → q.2.2 k (f k)
  | .inr (.inl q) => if q.2 = 1000 then ∃ f : Nat → Int64, e = some (.inr (.inr (.inr (q.1, f)))) else ∃ f : Nat → Option Nat, e = some (.inr (.inr (.inl (q.1, f)))) ∧ ∀ k a, f k = some a → Γ a = some q.2
  | .inr (.inr q) => ∃ vs : List Value, e = some (.inl (q.1, vs)) ∧ vs.length = q.2.length ∧ ∀ (k : Nat) (F : jF), q.2[k]? = some F → ∃ v : Value, vs[k]? = some v ∧ okV Γ F v
def jW (Θ : Nat → jD) (Γ : Nat → Option Nat) (h : jH) : Prop := ∀ a c, Γ a = some c → a < h.1 ∧ okE Γ (Θ c) (h.2 a)
section JSAFE
variable {Θ : Nat → jD} {Γ : Nat → Option Nat} {h : jH} {a c k ci t N : Nat} {Fs : List jF} {P : Int32 → Prop} {R : Nat → Int32 → Prop} {i x : Int32}
theorem t_obj (w : jW Θ Γ h) (ha : Γ a = some c) (hc : Θ c = .inr (.inr (ci, Fs))) : ∃ vs : List Value, h.2 a = some (.inl (ci, vs)) ∧ vs.length = Fs.length ∧ ∀ (k : Nat) (F : jF), Fs[k]? = some F → ∃ v : Value, vs[k]? = some v ∧ okV Γ F v := by
  have h2 := (w a c ha).2
  rw [hc] at h2
  exact h2
theorem t_arr (w : jW Θ Γ h) (ha : Γ a = some c) (hc : Θ c = .inl (t, N, R)) : ∃ f : Nat → Int32, h.2 a = some (.inr (.inl (t, N, f))) ∧ ∀ k, k < N → R k (f k) := by
  have h2 := (w a c ha).2
  rw [hc] at h2
  exact h2
theorem t_gf (w : jW Θ Γ h) (ha : Γ a = some c) (hc : Θ c = .inr (.inr (ci, Fs))) {F : jF} (hk : Fs[k]? = some F) : ∃ v, jgf ci h a k = some v ∧ okV Γ F v := by
  obtain ⟨vs, e1, -, e3⟩ := t_obj w ha hc
  obtain ⟨v, f1, f2⟩ := e3 k F hk
  refine ⟨v, ?_, f2⟩
  unfold jgf
  rw [e1]
  dsimp only
  rw [if_pos rfl]
  exact f1
theorem t_gI (w : jW Θ Γ h) (ha : Γ a = some c) (hc : Θ c = .inr (.inr (ci, Fs))) (hk : Fs[k]? = some (.inl P)) : jok (jgI ci h a k) P := by
  obtain ⟨v, e, x, rfl, hx⟩ := t_gf w ha hc hk
  exact ⟨x, by unfold jgI; rw [e], hx⟩
theorem t_gR {c2 : Nat} (w : jW Θ Γ h) (ha : Γ a = some c) (hc : Θ c = .inr (.inr (ci, Fs))) (hk : Fs[k]? = some (.inr (.inl c2))) : jok (jgR ci h a k) (fun b => Γ b = some c2) := by
  obtain ⟨v, e, b, rfl, hx⟩ := t_gf w ha hc hk
  exact ⟨b, by unfold jgR; rw [e], hx⟩
theorem t_gQ {c2 : Nat} (w : jW Θ Γ h) (ha : Γ a = some c) (hc : Θ c = .inr (.inr (ci, Fs))) (hk : Fs[k]? = some (.inr (.inr c2))) : jok (jgQ ci h a k) (fun o => ∀ b, o = some b → Γ b = some c2) := by
  obtain ⟨v, e, hv⟩ := t_gf w ha hc hk
  rcases hv with rfl | ⟨b, rfl, hb⟩
  · exact ⟨none, by unfold jgQ; rw [e], fun b q => by cases q⟩
  · exact ⟨some b, by unfold jgQ; rw [e], fun b2 q => by cases q; exact hb⟩
theorem t_cv {α : Type} {e : Option α} (w : jW Θ Γ h) (ha : Γ a = some c) (hc : Θ c = .inr (.inr (ci, Fs))) : jcv ci h a e = e := by
  obtain ⟨vs, e1, -, -⟩ := t_obj w ha hc
  unfold jcv
  rw [e1]
  simp
/-- one entry is put anew, of the same kind -/
theorem t_put (w : jW Θ Γ h) {e : jE} (he : ∀ c, Γ a = some c → okE Γ (Θ c) (some e)) : jW Θ Γ (jup h a e) := by
  intro b c hb
  refine ⟨(w b c hb).1, ?_⟩
  show okE Γ (Θ c) (if b = a then some e else h.2 b)
  by_cases hq : b = a
  · subst hq; rw [if_pos rfl]; exact he c hb
  · rw [if_neg hq]; exact (w b c hb).2
/-- behind a write to a field; behind a write to an array: what the fields are -/
def jfr (h h1 : jH) (a k : Nat) : Prop := ∀ ci2 b k2 : Nat, (b ≠ a ∨ k2 ≠ k) → jgf ci2 h1 b k2 = jgf ci2 h b k2
def jfa (h h1 : jH) : Prop := ∀ ci2 b k2 : Nat, jgf ci2 h1 b k2 = jgf ci2 h b k2
theorem fI {h h1 : jH} {ci b k : Nat} {v : Int32} (e : jgf ci h1 b k = jgf ci h b k) (q : jgI ci h b k = some v) : jgI ci h1 b k = some v := by
  unfold jgI at q ⊢
  rw [e]
  exact q
theorem fJ {h : jH} {ci b k : Nat} {v : Int32} (e : jgf ci h b k = some (.int v)) : jgI ci h b k = some v := by
  unfold jgI
  rw [e]
theorem jneq {Γ : Nat → Option Nat} {a b c d : Nat} (ha : Γ a = some c) (hb : Γ b = some d) (h : c ≠ d) : a ≠ b := by
  intro q
  subst q
  exact h (Option.some.inj (ha.symm.trans hb))
theorem jfr_up {h : jH} {a k ci : Nat} {vs : List Value} {v : Value} (e1 : h.2 a = some (.inl (ci, vs))) : jfr h (jup h a (.inl (ci, vs.set k v))) a k := by
  intro ci2 b k2 hq
  unfold jgf
  show (match (if b = a then some _ else h.2 b) with | some (.inl o) => if o.1 = ci2 then o.2[k2]? else none | _ => none) = _
  by_cases hb : b = a
  · subst hb
    rw [if_pos rfl, e1]
    dsimp only
    rcases hq with hq | hq
    · exact absurd rfl hq
    · rw [List.getElem?_set_ne (Ne.symm hq)]
  · rw [if_neg hb]
    rfl
theorem jfa_up {h : jH} {a : Nat} {x y : (Nat × Nat × (Nat → Int32)) ⊕ (Nat × (Nat → Option Nat)) ⊕ (Nat × (Nat → Int64))} (e1 : h.2 a = some (.inr x)) : jfa h (jup h a (.inr y)) := by
  intro ci2 b k2
  unfold jgf
  show (match (if b = a then some _ else h.2 b) with | some (.inl o) => if o.1 = ci2 then o.2[k2]? else none | _ => none) = _
  by_cases hb : b = a
  · subst hb
    rw [if_pos rfl, e1]
  · rw [if_neg hb]
    rfl
theorem t_pf (w : jW Θ Γ h) (ha : Γ a = some c) (hc : Θ c = .inr (.inr (ci, Fs))) {F : jF} {v : Value} (hk : Fs[k]? = some F) (hv : okV Γ F v) : jok (jpf ci h a k v) (fun h1 => jW Θ Γ h1 ∧ jgf ci h1 a k = some v ∧ jfr h h1 a k) := by
  obtain ⟨vs, e1, e2, e3⟩ := t_obj w ha hc
  have hlt : k < vs.length := by rw [e2]; exact (List.getElem?_eq_some_iff.mp hk).1
  refine ⟨jup h a (.inl (ci, vs.set k v)), ?_, t_put w (fun c9 h9 => ?_), ?_, jfr_up e1⟩
  · unfold jpf
    rw [e1]
    dsimp only
    rw [if_pos ⟨rfl, hlt⟩]
  · cases ha.symm.trans h9
    rw [hc]
    refine ⟨vs.set k v, rfl, by rw [List.length_set]; exact e2, fun j F9 hj => ?_⟩
    by_cases hq : j = k
    · subst hq
      cases hk.symm.trans hj
      exact ⟨v, by rw [List.getElem?_set_self hlt], hv⟩
    · obtain ⟨v9, f1, f2⟩ := e3 j F9 hj
      exact ⟨v9, by rw [List.getElem?_set_ne (Ne.symm hq)]; exact f1, f2⟩
  · unfold jgf
    show (match (if a = a then some _ else h.2 a) with | some (.inl o) => if o.1 = ci then o.2[k]? else none | _ => none) = _
    rw [if_pos rfl]
    dsimp only
    rw [if_pos rfl, List.getElem?_set_self hlt]
theorem t_pI (w : jW Θ Γ h) (ha : Γ a = some c) (hc : Θ c = .inr (.inr (ci, Fs))) (hk : Fs[k]? = some (.inl P)) (hp : P x) : jok (jpf ci h a k (.int x)) (fun h1 => jW Θ Γ h1 ∧ jgf ci h1 a k = some (.int x) ∧ jfr h h1 a k) := t_pf w ha hc hk ⟨x, rfl, hp⟩
theorem t_pR {c2 b : Nat} (w : jW Θ Γ h) (ha : Γ a = some c) (hc : Θ c = .inr (.inr (ci, Fs))) (hk : Fs[k]? = some (.inr (.inl c2))) (hb : Γ b = some c2) : jok (jpf ci h a k (.ref b)) (fun h1 => jW Θ Γ h1 ∧ jgf ci h1 a k = some (.ref b) ∧ jfr h h1 a k) := t_pf w ha hc hk ⟨b, rfl, hb⟩
theorem t_pQ {c2 b : Nat} (w : jW Θ Γ h) (ha : Γ a = some c) (hc : Θ c = .inr (.inr (ci, Fs))) (hk : Fs[k]? = some (.inr (.inr c2))) (hb : Γ b = some c2) : jok (jpf ci h a k (.ref b)) (fun h1 => jW Θ Γ h1 ∧ jgf ci h1 a k = some (.ref b) ∧ jfr h h1 a k) := t_pf w ha hc hk (Or.inr ⟨b, rfl, hb⟩)
theorem t_al (w : jW Θ Γ h) (ha : Γ a = some c) (hc : Θ c = .inl (t, N, R)) (h0 : 0 ≤ i.toInt) (h1 : i.toInt < (N : Int)) : jok (jal t h a i) (fun x => R i.toInt.toNat x) := by
  obtain ⟨f, e1, e2⟩ := t_arr w ha hc
  refine ⟨f i.toNatClampNeg, ?_, e2 _ (by have : i.toNatClampNeg = i.toInt.toNat := rfl; omega)⟩
  unfold jal
  rw [e1]
  dsimp only
  rw [if_pos ⟨rfl, jnoob h0 h1⟩]
theorem t_as (w : jW Θ Γ h) (ha : Γ a = some c) (hc : Θ c = .inl (t, N, R)) (h0 : 0 ≤ i.toInt) (h1 : i.toInt < (N : Int)) (hr : R i.toInt.toNat (jnar t x)) (h2 : t = 2 → x = 0 ∨ x = 1) : jok (jas t h a i x) (fun h1 => jW Θ Γ h1 ∧ jfa h h1) := by
  obtain ⟨f, e1, e2⟩ := t_arr w ha hc
  refine ⟨jup h a (.inr (.inl (t, N, upd f i.toNatClampNeg (jnar t x)))), ?_, t_put w (fun c9 h9 => ?_), jfa_up e1⟩
  · unfold jas
    rw [e1]
    dsimp only
    rw [if_pos ⟨rfl, jnoob h0 h1, h2⟩]
  · cases ha.symm.trans h9
    rw [hc]
    refine ⟨_, rfl, fun k hk => ?_⟩
    by_cases hq : k = i.toNatClampNeg
    · rw [hq]; simp only [upd, if_pos]; exact hr
    · simp only [upd, if_neg hq]; exact e2 k hk
theorem t_len (w : jW Θ Γ h) (ha : Γ a = some c) (hc : Θ c = .inl (t, N, R)) (ht : t < 3) : jok (jlen h a) (fun x => x = Int32.ofNat N) := by
  obtain ⟨f, e1, e2⟩ := t_arr w ha hc
  refine ⟨_, ?_, rfl⟩
  unfold jlen
  rw [e1]
  dsimp only
  rw [if_pos ht]
theorem t_cp {a0 c0 n0 n : Nat} {R0 : Nat → Int32 → Prop} {sp dp m : Int32} (w : jW Θ Γ h) (h0 : Γ a0 = some c0) (ha : Γ a = some c) (hc0 : Θ c0 = .inl (0, n0, R0)) (hc : Θ c = .inl (0, N, R)) (hs : sp = 0) (hd : dp = 0) (hm : m = Int32.ofNat n) (hn0 : n ≤ n0 ∧ n < 2147483648) (hn : n ≤ N) (hr : ∀ k v, R0 k v → R k v) : jok (jcp h a0 sp a dp m) (fun h1 => jW Θ Γ h1 ∧ jfa h h1) := by
  obtain ⟨f, e1, e2⟩ := t_arr w h0 hc0
  obtain ⟨f1, e3, e4⟩ := t_arr w ha hc
  subst hs hd hm
  have q0 : ¬ (0 : Int32) < 0 := by decide
  have q1 : ¬ Int32.ofNat n < 0 := jix_nn hn0.2
  have q2 : (Int32.ofNat n).toNatClampNeg = n := jix_nat hn0.2
  have q3 : (0 : Int32).toNatClampNeg = 0 := rfl
  refine ⟨jup h a (.inr (.inl (0, N, va_cpy f f1 0 0 n))), ?_, t_put w (fun c9 h9 => ?_), jfa_up e3⟩
  · unfold jcp
    rw [e1, e3]
    dsimp only
    rw [if_pos ⟨rfl, rfl, q0, q0, q1, by rw [q2, q3]; omega, by rw [q2, q3]; omega⟩, q2, q3]
  · cases ha.symm.trans h9
    rw [hc]
    refine ⟨_, rfl, fun k hk => ?_⟩
    unfold va_cpy
    split
    · rename_i hq
      refine hr _ _ ?_
      have hk9 : 0 + (k - 0) = k := by omega
      first | (rw [hk9]; exact e2 k (by omega)) | exact e2 _ (by omega)
    · exact e4 k hk
theorem t_qar {n c2 : Nat} (w : jW Θ Γ h) (ha : Γ a = some c) (hc : Θ c = .inr (.inl (n, c2))) (hne : c2 ≠ 1000) : ∃ f : Nat → Option Nat, h.2 a = some (.inr (.inr (.inl (n, f)))) ∧ ∀ k a, f k = some a → Γ a = some c2 := by
  have h2 := (w a c ha).2
  rw [hc] at h2
  have h3 : (if c2 = 1000 then ∃ f : Nat → Int64, h.2 a = some (.inr (.inr (.inr (n, f)))) else ∃ f : Nat → Option Nat, h.2 a = some (.inr (.inr (.inl (n, f)))) ∧ ∀ k a, f k = some a → Γ a = some c2) := h2
  rw [if_neg hne] at h3
  exact h3
theorem t_alq {n c2 : Nat} (w : jW Θ Γ h) (ha : Γ a = some c) (hc : Θ c = .inr (.inl (n, c2))) (hne : c2 ≠ 1000) (h0 : 0 ≤ i.toInt) (h1 : i.toInt < (n : Int)) : jok (jalq h a i) (fun o => ∀ b, o = some b → Γ b = some c2) := by
  obtain ⟨f, e1, e2⟩ := t_qar w ha hc hne
  refine ⟨f i.toNatClampNeg, ?_, fun b hb => e2 _ b hb⟩
  unfold jalq
  rw [e1]
  dsimp only
  rw [if_pos (jnoob h0 h1)]
theorem t_asq {n c2 v : Nat} (w : jW Θ Γ h) (ha : Γ a = some c) (hc : Θ c = .inr (.inl (n, c2))) (hne : c2 ≠ 1000) (hv : Γ v = some c2) (hc2 : Θ c2 = .inr (.inr (ci, Fs))) (h0 : 0 ≤ i.toInt) (h1 : i.toInt < (n : Int)) : jok (jasq ci h a i v) (fun h1 => jW Θ Γ h1 ∧ jfa h h1 ∧ jalq h1 a i = some (some v)) := by
  obtain ⟨f, e1, e2⟩ := t_qar w ha hc hne
  obtain ⟨vs, e3, -, -⟩ := t_obj w hv hc2
  refine ⟨jup h a (.inr (.inr (.inl (n, va_up f i.toNatClampNeg (some v))))), ?_, t_put w (fun c9 h9 => ?_), jfa_up e1, ?_⟩
  · unfold jasq
    rw [e1, e3]
    dsimp only
    rw [if_pos ⟨jnoob h0 h1, rfl⟩]
  · cases ha.symm.trans h9
    rw [hc]
    show (if c2 = 1000 then _ else _)
    rw [if_neg hne]
    refine ⟨_, rfl, fun k b hb => ?_⟩
    by_cases hq : k = i.toNatClampNeg
    · rw [hq] at hb
      simp only [va_up, if_pos] at hb
      cases hb
      exact hv
    · simp only [va_up, if_neg hq] at hb
      exact e2 k b hb
  · unfold jalq
    show (match (if a = a then some _ else h.2 a) with | some (.inr (.inr (.inl x))) => if ¬ (i < 0 ∨ x.1 ≤ i.toNatClampNeg) then some (x.2 i.toNatClampNeg) else none | _ => none) = _
    rw [if_pos rfl]
    dsimp only
    rw [if_pos (jnoob h0 h1), va_up_self]
end JSAFE
/-- ends of methods that may throw: the exceptions that they may throw -/
def jXok (ex : List Nat) (R : Int32 → Prop) (r : jR) : Prop := match r with
  | .inl v => R v
  | .inr k => k ∈ ex
theorem jX_l {ex : List Nat} {R : Int32 → Prop} {v : Int32} (h : R v) : jXok ex R (.inl v) := h
theorem jX_r {ex : List Nat} {R : Int32 → Prop} {k : Nat} (h : k ∈ ex) : jXok ex R (.inr k) := h
theorem jsub9 {ex ex2 : List Nat} {k : Nat} (h : k ∈ ex) (hs : ∀ k ∈ ex, k ∈ ex2) : k ∈ ex2 := hs k h
theorem jok_t {ex : List Nat} {R : Int32 → Prop} {q : jR × jH} {f : Int32 → jH → Option (jR × jH)} {P : jR × jH → Prop} (p : jXok ex R q.1) (he : ∀ k, k ∈ ex → P (.inr k, q.2)) (kv : ∀ v, R v → jok (f v q.2) P) : jok (jthen q f) P := by
  obtain ⟨r, h⟩ := q
  cases r with
  | inl v => exact kv v p
  | inr k => exact ⟨(.inr k, h), rfl, he k p⟩
/-- the tape is the one of its kind: its length anew -/
theorem t_tl {t n : Nat} (ht : t < 36) (hl : (jtb t).length = n ∧ n < 1000) : jok (jtl t) (fun v => v.toInt = (n : Int)) := by
  refine ⟨nI (jtb t).length, by unfold jtl; rw [if_pos ht], ?_⟩
  rw [hl.1]
  exact Int32.toInt_ofNat_of_lt (by omega)
theorem t_tc {t n : Nat} {i : Int32} (hl : (jtb t).length = n) (h0 : 0 ≤ i.toInt) (h1 : i.toInt < (n : Int)) : jok (jtc t i) (fun _ => True) := by
  unfold jtc
  rw [hl, if_neg (jnoob h0 h1)]
  exact ⟨_, rfl, trivial⟩
/-- kinds that are new: rods' and laws' alone -/
def jle (Γ Γ2 : Nat → Option Nat) : Prop := (∀ a c, Γ a = some c → Γ2 a = some c) ∧ ∀ a c, 9 ≤ c → Γ2 a = some c → Γ a = some c
theorem jle_rfl {Γ : Nat → Option Nat} : jle Γ Γ := ⟨fun _ _ h => h, fun _ _ _ h => h⟩
theorem jle_tr {Γ Γ2 Γ3 : Nat → Option Nat} (h : jle Γ Γ2) (h2 : jle Γ2 Γ3) : jle Γ Γ3 := ⟨fun a c q => h2.1 a c (h.1 a c q), fun a c k q => h.2 a c k (h2.2 a c k q)⟩
/-- the kinds: of the class 0 to 19, of the reference 20 to 31 -/
def jKd (g : jGh) : Nat → jD
  | 0 => .inl (0, 8, fun _ => jAny)
  | 1 => .inl (0, 60, fun _ => jAny)
  | 2 => .inr (.inr (4, [.inr (.inl 1), .inl (jI 0 60), .inl (jI 0 59)]))
  | 3 => .inr (.inr (6, [.inr (.inl 0), .inr (.inl 0), .inr (.inl 0), .inr (.inl 0), .inr (.inl 2), .inl (jI 0 8), .inl (jAny), .inl (jAny), .inl (jAny), .inl (jAny), .inl (jAny), .inl (jAny), .inl (jAny), .inl (jAny), .inl (jAny), .inl (jAny), .inl (jAny), .inl (jAny)]))
  | 4 => .inl (0, 12, fun _ => jAny)
  | 5 => .inl (0, 12, fun _ => jI 0 400)
  | 6 => .inl (0, 400, fun _ => jAny)
  | 7 => .inl (0, 24, fun _ => jAny)
  | 8 => .inr (.inr (2, [.inr (.inl 4), .inr (.inl 4), .inr (.inl 5), .inr (.inl 6), .inr (.inl 7), .inl (jI 0 24), .inl (jI 0 400), .inl (jI 0 1), .inl (jI 0 12)]))
  | 9 => .inl (1, 400, fun k x => x = g.2.1 k)
  | 10 => .inr (.inr (8, [.inr (.inl 9), .inr (.inl 6), .inr (.inl 6), .inr (.inl 6), .inl (jI 0 400), .inl (jI 0 400), .inl (fun x => x.toInt = g.1)]))
  | 11 => .inr (.inl (12, 3))
  | 12 => .inr (.inr (0, [.inr (.inl 11), .inl (jI 0 11), .inl (jI 0 12)]))
  | 13 => .inr (.inr (7, [.inr (.inl 10), .inl (jI 14 14), .inr (.inl 3)]))
  | 14 => .inr (.inr (3, [.inr (.inl 10), .inl (jI 12 12), .inr (.inl 8)]))
  | 15 => .inr (.inr (1, [.inr (.inl 8), .inr (.inl 3)]))
  | 16 => .inl (0, 128, fun _ => jAny)
  | 17 => .inl (0, 32, fun _ => jAny)
  | 18 => .inr (.inr (5, [.inr (.inl 10), .inr (.inl 3), .inr (.inl 16), .inr (.inl 17), .inl (jI 0 128), .inl (jAny), .inl (jAny)]))
  | 19 => .inr (.inr (9, [.inr (.inl 10), .inr (.inl 3), .inr (.inl 8), .inr (.inl 12), .inr (.inl 3), .inr (.inl 8), .inr (.inl 13), .inr (.inl 14), .inr (.inl 15), .inr (.inl 18), .inr (if g.2.2.2.2.2.2.1 = 0 then .inr 41 else .inl 3), .inr (if g.2.2.2.2.2.2.2.1 = 0 then .inr 41 else .inl 8), .inl (jAny)]))
  | 20 => .inr (.inr (10, [.inl (jAny), .inr (.inl 21), .inr (.inl 22), .inr (.inl 23), .inr (.inl 24), .inr (.inl 25), .inl (fun x => x = g.2.2.2.2.2.2.2.2 ∧ (x.toInt = 0 ∨ jlawOK g.2.2.2.2.2.1)), .inl (jI 0 12), .inr (.inl 26), .inl (fun x => x.toInt = g.2.2.1), .inl (jI 0 400), .inl (jI 0 400), .inl (jI 0 400), .inl (jAny), .inl (jAny), .inr (.inl 27), .inl (jI 0 400), .inr (.inl 28), .inl (jAny), .inr (.inl 29), .inr (.inl 30), .inr (.inl 31)]))
  | 21 => .inl (0, 2133, fun k x => jRw g k x)
  | 22 => .inl (0, 1284, fun k x => jR3 k x ∧ (k < 435 ∨ x = g.2.2.2.2.2.1 k))
  | 23 => .inl (0, 1284, fun k x => jR3 k x ∧ (k < 435 ∨ x = g.2.2.2.2.1 k))
  | 24 => .inl (0, 435, fun k x => jR3 k x)
  | 25 => .inl (0, 5220, fun k x => jR3 (k % 435) x)
  | 26 => .inl (1, 400, fun _ => jI (-128) 127)
  | 27 => .inl (0, 5, fun _ => jAny)
  | 28 => .inl (0, 400, fun _ => jAny)
  | 29 => .inl (2, 256, fun _ => jAny)
  | 30 => .inl (0, 32, fun _ => jAny)
  | 31 => .inl (0, 8, fun _ => jAny)
  | 40 => .inr (.inl (1, 1000))
  | _ => .inl (9, 0, fun _ _ => False)
theorem jKd_L {g : jGh} {x : Int} {c : Nat} (hc : c ≠ 10) : jKd (x, g.2) c = jKd g c := by
  unfold jKd
  split <;> first | rfl | exact absurd rfl hc
theorem t_pL {g : jGh} {Γ : Nat → Option Nat} {h : jH} {a : Nat} {x : Int32} (w : jW (jKd g) Γ h) (hu : ∀ a b, Γ a = some 10 → Γ b = some 10 → a = b) (ha : Γ a = some 10) : jok (jpf 8 h a 6 (.int x)) (fun h1 => jW (jKd (x.toInt, g.2)) Γ h1 ∧ jgf 8 h1 a 6 = some (.int x) ∧ jfr h h1 a 6) := by
  obtain ⟨vs, e1, e2, e3⟩ := t_obj w ha rfl
  have hlt : 6 < vs.length := by rw [e2]; exact Nat.le_of_ble_eq_true rfl
  refine ⟨jup h a (.inl (8, vs.set 6 (.int x))), ?_, ?_, ?_, jfr_up e1⟩
  · unfold jpf
    rw [e1]
    dsimp only
    rw [if_pos ⟨rfl, hlt⟩]
  · intro b c hb
    refine ⟨(w b c hb).1, ?_⟩
    show okE Γ (jKd (x.toInt, g.2) c) (if b = a then some _ else h.2 b)
    by_cases hq : b = a
    · subst hq
      cases ha.symm.trans hb
      rw [if_pos rfl]
      refine ⟨_, rfl, by rw [List.length_set]; exact e2, fun j F9 hj => ?_⟩
      by_cases hq : j = 6
      · subst hq
        cases hj
        exact ⟨.int x, by rw [List.getElem?_set_self hlt], x, rfl, rfl⟩
      · have hj2 : (match jKd g 10 with | .inr (.inr q) => q.2 | _ => [])[j]? = some F9 := by
          match j, hq, hj with
          | 0, _, hj => exact hj
          | 1, _, hj => exact hj
          | 2, _, hj => exact hj
          | 3, _, hj => exact hj
          | 4, _, hj => exact hj
          | 5, _, hj => exact hj
          | j + 7, _, hj => cases hj
        obtain ⟨v9, f1, f2⟩ := e3 j F9 hj2
        exact ⟨v9, by rw [List.getElem?_set_ne (Ne.symm hq)]; exact f1, f2⟩
    · rw [if_neg hq]
      have hc : c ≠ 10 := fun q => hq (hu b a (by rw [hb, q]) ha)
      have h9 := (w b c hb).2
      have hk : jKd (x.toInt, g.2) c = jKd g c := jKd_L hc
      rw [hk]
      exact h9
  · unfold jgf
    show (match (if a = a then some _ else h.2 a) with | some (.inl o) => if o.1 = 8 then o.2[6]? else none | _ => none) = _
    rw [if_pos rfl]
    dsimp only
    rw [if_pos rfl, List.getElem?_set_self hlt]
