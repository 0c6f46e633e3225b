/-! what a ring fades, catches and falls by, of a world -/
def litW (W : jWd) (i : Nat) (hr : Int32) : Int32 := if (4 : Int32) * hr ≤ W (11 + 8 * i) ∧ W (11 + 8 * i) ≤ (4 : Int32) * hr + W 6 then 1 else 0
def gapW (W : jWd) (i : Nat) (last : Int32) : Int32 := if (i : Int) + 1 < (W 0).toInt then W (11 + 8 * (i + 1)) - W (11 + 8 * i) else last
def factW (W : jWd) (i : Nat) (s n : Int32) : Int32 := if s = 0 then nI i else if s = 1 then W (11 + 8 * i) else if s = 2 then gapW W i 99 else if s = 3 then W (15 + 8 * i) else if s = 4 then W (16 + 8 * i) else if s = 5 then W 3 else if s = 6 then W 4 else if s = 7 then W (14 + 8 * i) else if s = 8 then W (13 + 8 * i) else if s = 9 then litW W i (W 3) else if s = 10 then W (17 + 8 * i) else n
def opW (s a b : Int32) : Int32 := if s = 12 then a + b else if (if s = 13 then decide (a < b) else if s = 14 then decide (b < a) else if s = 16 then decide (a + b = 2) else decide (0 < a + b)) = true then 1 else 0
/-- one step of a condition on the values so far, the latest first -/
def stpC (W : jWd) (i : Nat) (s n : Int32) (st : List Int32) : List Int32 := if s.toInt ≤ 11 then factW W i s n :: st else if s = 15 then (match st with | a :: t => (1 - a) :: t | [] => []) else (match st with | b :: a :: t => opW s a b :: t | _ => [])
def runC (W : jWd) (i a : Nat) : Nat → List Int32
  | 0 => []
  | k + 1 => stpC W i (W (484 + 2 * (a + k))) (W (485 + 2 * (a + k))) (runC W i a k)
/-- kinds of the values so far: true of one that is 0 or 1 -/
def tyC (s : Int32) (ty : List Bool) : Option (List Bool) := if s.toInt ≤ 11 then (if ty.length ≤ 22 then some ((decide (7 ≤ s.toInt) && decide (s.toInt ≤ 10)) :: ty) else none) else if s = 15 then (match ty with | true :: t => some (true :: t) | _ => none) else if s = 12 then (match ty with | false :: false :: t => some (false :: t) | _ => none) else if s = 13 ∨ s = 14 then (match ty with | false :: false :: t => some (true :: t) | _ => none) else if s = 16 ∨ s = 17 then (match ty with | true :: true :: t => some (true :: t) | _ => none) else none
def tyR (W : jWd) (a : Nat) : Nat → Option (List Bool)
  | 0 => some []
  | k + 1 => (tyR W a k).bind fun ty => tyC (W (484 + 2 * (a + k))) ty
/-- values of their kinds -/
def tyV : List Bool → List Int32 → Prop
  | [], [] => True
  | b :: t, v :: u => (b = true → v = 0 ∨ v = 1) ∧ tyV t u
  | _, _ => False
theorem tyV_len : ∀ {t : List Bool} {u : List Int32}, tyV t u → t.length = u.length
  | [], [], _ => rfl
  | _ :: _, _ :: _, h => congrArg (· + 1) (tyV_len h.2)
  | [], _ :: _, h => h.elim
  | _ :: _, [], h => h.elim
theorem litW_01 {W : jWd} {i : Nat} {h : Int32} : litW W i h = 0 ∨ litW W i h = 1 := by
  unfold litW
  split
  · exact Or.inr rfl
  · exact Or.inl rfl
theorem opW_01 {s a b : Int32} (h : s ≠ 12) : opW s a b = 0 ∨ opW s a b = 1 := by
  unfold opW
  rw [if_neg h]
  by_cases q : (if s = 13 then decide (a < b) else if s = 14 then decide (b < a) else if s = 16 then decide (a + b = 2) else decide (0 < a + b)) = true
  · rw [if_pos q]; exact Or.inr rfl
  · rw [if_neg q]; exact Or.inl rfl
theorem fact_01 {W : jWd} {i : Nat} {s n : Int32} (K : wOK W) (hi : (i : Int) < (W 0).toInt) (h7 : 7 ≤ s.toInt) (h10 : s.toInt ≤ 10) : factW W i s n = 0 ∨ factW W i s n = 1 := by
  obtain ⟨-, -, f2, f3, -, -, f6, -⟩ := K.2.1 i hi
  have l : ∀ k : Int32, s = k → s.toInt = k.toInt := fun k h => by rw [h]
  have c : s = 7 ∨ s = 8 ∨ s = 9 ∨ s = 10 := by
    have : s.toInt = 7 ∨ s.toInt = 8 ∨ s.toInt = 9 ∨ s.toInt = 10 := by omega
    rcases this with h | h | h | h
    · exact Or.inl (i_eq.mpr h)
    · exact Or.inr (Or.inl (i_eq.mpr h))
    · exact Or.inr (Or.inr (Or.inl (i_eq.mpr h)))
    · exact Or.inr (Or.inr (Or.inr (i_eq.mpr h)))
  rcases c with rfl | rfl | rfl | rfl
  · exact f3
  · exact f2
  · exact litW_01
  · exact f6
/-- a step keeps the kinds -/
theorem tyC_ok {W : jWd} {i : Nat} {s n : Int32} {ty ty2 : List Bool} {st : List Int32} (K : wOK W) (hi : (i : Int) < (W 0).toInt) (h : tyV ty st) (e : tyC s ty = some ty2) : tyV ty2 (stpC W i s n st) := by
  unfold tyC at e
  unfold stpC
  by_cases c : s.toInt ≤ 11
  · rw [if_pos c] at e ⊢
    split at e
    · cases e
      refine ⟨fun z => ?_, h⟩
      rw [Bool.and_eq_true, decide_eq_true_iff, decide_eq_true_iff] at z
      exact fact_01 K hi z.1 z.2
    · cases e
  rw [if_neg c] at e ⊢
  by_cases c15 : s = 15
  · rw [if_pos c15] at e ⊢
    match ty, st, h, e with
    | true :: t, v :: u, h, e =>
      cases e
      refine ⟨fun _ => ?_, h.2⟩
      rcases h.1 rfl with q | q <;> subst q
      · exact Or.inr (by decide)
      · exact Or.inl (by decide)
    | false :: t, v :: u, h, e => cases e
    | [], [], h, e => cases e
  rw [if_neg c15] at e ⊢
  by_cases c12 : s = 12
  · rw [if_pos c12] at e
    match ty, st, h, e with
    | false :: false :: t, b :: a :: u, h, e =>
      cases e
      exact ⟨fun z => (by cases z), h.2.2⟩
    | true :: t, _, h, e => cases e
    | [], _, h, e => cases e
    | [false], _, h, e => cases e
    | false :: true :: t, _, h, e => cases e
  rw [if_neg c12] at e
  by_cases c13 : s = 13 ∨ s = 14
  · rw [if_pos c13] at e
    match ty, st, h, e with
    | false :: false :: t, b :: a :: u, h, e =>
      cases e
      exact ⟨fun _ => opW_01 c12, h.2.2⟩
    | true :: t, _, h, e => cases e
    | [], _, h, e => cases e
    | [false], _, h, e => cases e
    | false :: true :: t, _, h, e => cases e
  rw [if_neg c13] at e
  by_cases c16 : s = 16 ∨ s = 17
  · rw [if_pos c16] at e
    match ty, st, h, e with
    | true :: true :: t, b :: a :: u, h, e =>
      cases e
      exact ⟨fun _ => opW_01 c12, h.2.2⟩
    | false :: t, _, h, e => cases e
    | [], _, h, e => cases e
    | [true], _, h, e => cases e
    | true :: false :: t, _, h, e => cases e
  · rw [if_neg c16] at e
    cases e
theorem tyR_ok {W : jWd} {i a : Nat} (K : wOK W) (hi : (i : Int) < (W 0).toInt) : ∀ (k : Nat) {ty : List Bool}, tyR W a k = some ty → tyV ty (runC W i a k)
  | 0, ty, e => by cases e; trivial
  | k + 1, ty, e => by
    unfold tyR at e
    obtain ⟨t0, e0, e1⟩ := jbind e
    exact tyC_ok K hi (tyR_ok K hi k e0) e1
def holdsW (W : jWd) (i n : Nat) : Prop := (runC W i (W (438 + 4 * n)).toInt.toNat ((W (439 + 4 * n)).toInt.toNat - (W (438 + 4 * n)).toInt.toNat)).headD 1 = 1
noncomputable def sumW (W : jWd) (kind : Int32) (i : Nat) : Nat → Int32
  | 0 => 0
  | n + 1 => @ite _ (W (436 + 4 * n) = kind ∧ holdsW W i n) (Classical.propDecidable _) (sumW W kind i n + W (437 + 4 * n)) (sumW W kind i n)
/-- what ring i fades, catches, falls by -/
noncomputable def byW (W : jWd) (kind : Int32) (i : Nat) : Int32 := if W 2 = 1 then sumW W kind i (W 435).toInt.toNat else if kind = 0 then litW W i (W 3) else if kind = 1 then 10 else 0
/-- a code of the class, and the reference's two numbers -/
def codeR (c s n : Int32) : Prop := (0 ≤ s.toInt ∧ s.toInt ≤ 10 ∧ c = s) ∨ (s = 11 ∧ 0 ≤ n.toInt ∧ n.toInt ≤ 999 ∧ c.toInt = 256 + n.toInt) ∨ (s = 12 ∧ c = 43) ∨ (s = 13 ∧ c = 60) ∨ (s = 14 ∧ c = 62) ∨ (s = 15 ∧ c = 11) ∨ (s = 16 ∧ c = 12) ∨ (s = 17 ∧ c = 13)
def lawS (O : jO) (l : Nat) : Prop := O l 0 = .ref (l + 1) ∧ O l 1 = .ref (l + 2) ∧ O l 2 = .ref (l + 3) ∧ O l 3 = .ref (l + 4) ∧ O l 4 = .ref (l + 5)
/-- the lines of a law, n of them, and their codes -/
def linE (O : jO) (l : Nat) (W : jWd) (n : Nat) : Prop := ∀ i : Nat, i < n → oi O (l + 1) i = W (436 + 4 * i) ∧ oi O (l + 2) i = W (437 + 4 * i) ∧ oi O (l + 3) i = W (439 + 4 * i) ∧ W (438 + 4 * i) = (if i = 0 then 0 else W (439 + 4 * (i - 1))) ∧ 0 ≤ (W (438 + 4 * i)).toInt ∧ (W (438 + 4 * i)).toInt ≤ (W (439 + 4 * i)).toInt ∧ (W (439 + 4 * i)).toInt ≤ 400 ∧ 0 ≤ (W (437 + 4 * i)).toInt ∧ (W (437 + 4 * i)).toInt ≤ 100 ∧
  (∀ j : Nat, (W (438 + 4 * i)).toInt ≤ (j : Int) → (j : Int) < (W (439 + 4 * i)).toInt → codeR (oi O (l + 4) j) (W (484 + 2 * j)) (W (485 + 2 * j))) ∧
  (∃ ty, tyR W (W (438 + 4 * i)).toInt.toNat ((W (439 + 4 * i)).toInt.toNat - (W (438 + 4 * i)).toInt.toNat) = some ty ∧ (ty = [] ∨ ty = [true]))
def lawE (O : jO) (l : Nat) (W : jWd) : Prop := lawS O l ∧ oi O l 7 = W 2 ∧ (W 2 = 0 ∨ W 2 = 1) ∧ (W 2 = 1 → oi O l 8 = W 435 ∧ (0 ≤ (W 435).toInt ∧ (W 435).toInt ≤ 12) ∧ linE O l W (W 435).toInt.toNat)
