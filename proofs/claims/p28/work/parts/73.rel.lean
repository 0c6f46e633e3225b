/-! worlds: what both sides tell of the rod, in the reference's own places; and the class's rod that tells the same -/
abbrev jWd : Type := Nat → Int32
/-- what always holds of a world's rod -/
def wOK (W : jWd) : Prop :=
  (0 ≤ (W 0).toInt ∧ (W 0).toInt ≤ 8) ∧
  (∀ i : Nat, (i : Int) < (W 0).toInt → (0 ≤ (W (11 + 8 * i)).toInt ∧ (W (11 + 8 * i)).toInt ≤ 31) ∧ (1 ≤ (W (12 + 8 * i)).toInt ∧ (W (12 + 8 * i)).toInt ≤ 9) ∧ (W (13 + 8 * i) = 0 ∨ W (13 + 8 * i) = 1) ∧ (W (14 + 8 * i) = 0 ∨ W (14 + 8 * i) = 1) ∧ (0 ≤ (W (15 + 8 * i)).toInt ∧ (W (15 + 8 * i)).toInt ≤ 99) ∧ (0 ≤ (W (16 + 8 * i)).toInt ∧ (W (16 + 8 * i)).toInt ≤ 9) ∧ (W (17 + 8 * i) = 0 ∨ W (17 + 8 * i) = 1) ∧ (W (18 + 8 * i) = 0 ∨ W (18 + 8 * i) = 1)) ∧
  (∀ i : Nat, (i : Int) + 1 < (W 0).toInt → (W (11 + 8 * i)).toInt < (W (11 + 8 * (i + 1))).toInt) ∧
  (∀ i : Nat, (i : Int) + 1 = (W 0).toInt → W (18 + 8 * i) = 0) ∧
  (0 ≤ (W 3).toInt ∧ (W 3).toInt ≤ 7) ∧ (0 ≤ (W 4).toInt ∧ (W 4).toInt ≤ 9999) ∧ (1 ≤ (W 5).toInt ∧ (W 5).toInt ≤ 31) ∧ (0 ≤ (W 6).toInt ∧ (W 6).toInt ≤ 31) ∧ (0 ≤ (W 8).toInt ∧ (W 8).toInt ≤ 9999) ∧ (0 ≤ (W 9).toInt ∧ (W 9).toInt ≤ 60) ∧ (0 ≤ (W 1).toInt ∧ (W 1).toInt ≤ 12)
/-- the class's rod at r: its parts lie behind it -/
def rodS (O : jO) (r : Nat) : Prop := O r 0 = .ref (r + 1) ∧ O r 1 = .ref (r + 2) ∧ O r 2 = .ref (r + 3) ∧ O r 3 = .ref (r + 4) ∧ O r 4 = .ref (r + 5) ∧ O (r + 5) 0 = .ref (r + 6)
/-- the log's rows of the class, at l, are those of the world -/
def logE (O : jO) (l : Nat) (W : jWd) : Prop :=
  oi O l 1 = W 9 ∧ (0 ≤ (oi O l 2).toInt ∧ (oi O l 2).toInt ≤ 59) ∧ ∀ a : Nat, (a : Int) < (W 9).toInt →
    ∃ d q i k f p : Nat, d < 16384 ∧ q < 8 ∧ i < 8 ∧ k < 4 ∧ f < 32 ∧ p < 32 ∧ oi O (l + 1) (((oi O l 2).toInt + 59 - (a : Int)) % 60).toNat = nI (((((d * 8 + q) * 8 + i) * 4 + k) * 32 + f) * 32 + p) ∧
      W (75 + 6 * a) = nI d ∧ W (76 + 6 * a) = nI q ∧ W (77 + 6 * a) = nI i ∧ W (78 + 6 * a) = nI k ∧ W (79 + 6 * a) = nI f ∧ W (80 + 6 * a) = nI p
/-- the class's rod at r tells what the world tells -/
def rodE (O : jO) (r : Nat) (W : jWd) : Prop :=
  rodS O r ∧ (oi O r 5 = W 0 ∧ oi O r 10 = W 7 ∧ oi O r 11 = W 5 ∧ oi O r 12 = W 6 ∧ oi O r 13 = W 3 ∧ oi O r 14 = W 4 ∧ oi O r 15 = W 8 ∧ oi O r 16 = W 10 ∧ oi O r 17 = W 1) ∧
  (∀ i : Nat, (i : Int) < (W 0).toInt → oi O (r + 1) i = W (11 + 8 * i) ∧ oi O (r + 2) i = W (12 + 8 * i) ∧ (bt (oi O r 6) i = true ↔ W (13 + 8 * i) = 1) ∧ (bt (oi O r 7) i = true ↔ W (14 + 8 * i) = 1) ∧ oi O (r + 3) i = W (15 + 8 * i) ∧ oi O (r + 4) i = W (16 + 8 * i) ∧ (bt (oi O r 8) i = true ↔ W (17 + 8 * i) = 1) ∧ (bt (oi O r 9) i = true ↔ W (18 + 8 * i) = 1)) ∧
  (∀ i : Nat, (W 0).toInt ≤ (i : Int) → i < 32 → bt (oi O r 7) i = false ∧ bt (oi O r 9) i = false) ∧ logE O (r + 5) W
/-- one ring and the next one go together; d: the other one is ahead -/
def tog (W : jWd) (i : Nat) (d : Bool) : Prop := W (18 + 8 * i) = 1 ∨ (if d = true then (W (11 + 8 * (i + 1))).toInt - (W (11 + 8 * i)).toInt = 1 else (W (12 + 8 * i)).toInt ≤ (W (11 + 8 * (i + 1))).toInt - (W (11 + 8 * i)).toInt)
/-- a ring can't go -/
def stp (W : jWd) (i : Nat) (d : Bool) : Prop := (W (11 + 8 * i)).toInt = (if d = true then 31 else 0) ∨ (W (13 + 8 * i) = 1 ∧ (W (11 + 8 * i)).toInt = (if d = true then (W 5).toInt - 1 else (W 5).toInt))
/-- who goes along by a step of ring r -/
def gos (W : jWd) (r : Nat) (d : Bool) (i : Nat) : Prop := (i : Int) < (W 0).toInt ∧ ((r ≤ i ∧ ∀ j, r ≤ j → j < i → tog W j d) ∨ (i ≤ r ∧ ∀ j, i ≤ j → j < r → tog W j (!d)))
def goB (W : jWd) (r : Nat) (d : Bool) (v : Int32) : Prop := ∀ i, i < 32 → (bt v i = true ↔ (gos W r d i ∧ ∀ j, gos W r d j → ¬ stp W j d))
theorem goB_u {W : jWd} {r : Nat} {d : Bool} {v w : Int32} (a : goB W r d v) (b : goB W r d w) : v = w := by
  refine b_ext fun i hi => ?_
  have h := (a i hi).trans (b i hi).symm
  cases h1 : bt v i <;> cases h2 : bt w i <;> simp_all
/-- a side, as an int -/
def dI (d : Bool) : Int32 := if d = true then 1 else 0
