/-! a step of the rod, in the world's places -/
theorem mod_lem {k i : Nat} (h : k = 11 + 8 * i) : (k - 11) % 8 = 0 ∧ (k - 11) / 8 = i ∧ 11 ≤ k := by omega
/-- the first i rings' places behind a step of the set v to the side d -/
def stW (W : jWd) (v : Int32) (d : Bool) (i : Nat) : jWd := fun k => if 11 ≤ k ∧ (k - 11) % 8 = 0 ∧ (k - 11) / 8 < i ∧ bt v ((k - 11) / 8) = true then W k + (if d = true then 1 else -1) else W k
theorem stW_pl {W : jWd} {v : Int32} {d : Bool} {i j : Nat} : stW W v d i (11 + 8 * j) = if j < i ∧ bt v j = true then W (11 + 8 * j) + (if d = true then 1 else -1) else W (11 + 8 * j) := by
  unfold stW
  have a : (11 + 8 * j - 11) % 8 = 0 := by omega
  have b : (11 + 8 * j - 11) / 8 = j := by omega
  rw [a, b]
  by_cases q : j < i ∧ bt v j = true
  · rw [if_pos ⟨by omega, rfl, q⟩, if_pos q]
  · rw [if_neg (fun z => q z.2.2), if_neg q]
theorem stW_ot {W : jWd} {v : Int32} {d : Bool} {i k : Nat} (h : k < 11 ∨ (k - 11) % 8 ≠ 0) : stW W v d i k = W k := by
  unfold stW
  rw [if_neg (fun z => h.elim (fun q => by omega) (fun q => q z.2.1))]
theorem stW_0 {W : jWd} {v : Int32} {d : Bool} : stW W v d 0 = W := by
  funext k
  unfold stW
  rw [if_neg (fun z => by omega)]
theorem stW_s {W : jWd} {v : Int32} {d : Bool} {i : Nat} (h : bt v i = true) : stW W v d (i + 1) = upd (stW W v d i) (11 + 8 * i) (stW W v d i (11 + 8 * i) + (if d = true then 1 else -1)) := by
  funext k
  by_cases q : k = 11 + 8 * i
  · subst q
    rw [upd_eq, stW_pl, stW_pl, if_pos (show i < i + 1 ∧ bt v i = true from ⟨by omega, h⟩), if_neg (show ¬ (i < i ∧ bt v i = true) from fun z => by omega)]
  · rw [upd_ne q]
    unfold stW
    by_cases z : 11 ≤ k ∧ (k - 11) % 8 = 0 ∧ (k - 11) / 8 < i ∧ bt v ((k - 11) / 8) = true
    · rw [if_pos z, if_pos ⟨z.1, z.2.1, by omega, z.2.2.2⟩]
    · rw [if_neg z, if_neg (fun y => z ⟨y.1, y.2.1, by omega, y.2.2.2⟩)]
theorem stW_n {W : jWd} {v : Int32} {d : Bool} {i : Nat} (h : bt v i = false) : stW W v d (i + 1) = stW W v d i := by
  funext k
  unfold stW
  by_cases z : 11 ≤ k ∧ (k - 11) % 8 = 0 ∧ (k - 11) / 8 < i ∧ bt v ((k - 11) / 8) = true
  · rw [if_pos z, if_pos ⟨z.1, z.2.1, by omega, z.2.2.2⟩]
  · rw [if_neg z, if_neg (fun y => ?_)]
    by_cases q : (k - 11) / 8 = i
    · rw [q, h] at y; exact absurd y.2.2.2 (by decide)
    · exact z ⟨y.1, y.2.1, by omega, y.2.2.2⟩
theorem stW_all {W : jWd} {v : Int32} {d : Bool} {i j : Nat} (h : ∀ k, i ≤ k → k < j → bt v k = false) : ∀ m, i ≤ m → m ≤ j → stW W v d m = stW W v d i := by
  intro m
  induction m with
  | zero => intro a b; rw [show i = 0 by omega]
  | succ m ih =>
    intro a b
    by_cases q : i = m + 1
    · rw [q]
    · rw [stW_n (h m (by omega) (by omega)), ih (by omega) (by omega)]
/-- how many of the set that are not of wood -/
def ncnt (W : jWd) (v : Int32) : Nat → Nat
  | 0 => 0
  | i + 1 => ncnt W v i + if bt v i = true ∧ W (14 + 8 * i) ≠ 1 then 1 else 0
noncomputable def gv (W : jWd) (r : Nat) (d : Bool) : Int32 := Classical.epsilon (fun v => goB W r d v)
theorem gv_of {W : jWd} {r : Nat} {d : Bool} {v : Int32} (h : goB W r d v) : gv W r d = v := goB_u (Classical.epsilon_spec (p := fun v => goB W r d v) ⟨v, h⟩) h
noncomputable def mvO (W : jWd) (r : Nat) (d : Bool) : Nat → jWd
  | 0 => W
  | t + 1 => stW (mvO W r d t) (gv (mvO W r d t) r d) d 8
noncomputable def mvS (W : jWd) (r : Nat) (d : Bool) : Nat → Nat
  | 0 => 0
  | t + 1 => mvS W r d t + ncnt (mvO W r d t) (gv (mvO W r d t) r d) 8
noncomputable def nzc (W : jWd) (s : Nat) : Int32 := if (W 8).toInt + (s : Int) < 9999 then W 8 + nI s else 9999
/-- the world behind a pull of f steps -/
noncomputable def plW (W : jWd) (r : Nat) (d : Bool) (f : Nat) : jWd := upd (mvO W r d f) 8 (nzc W (mvS W r d f))
theorem goB_8 {W : jWd} {x : Int32} {r : Nat} {d : Bool} {v : Int32} : goB (upd W 8 x) r d v ↔ goB W r d v := by
  have e0 : upd W 8 x 0 = W 0 := upd_ne (by decide)
  have e5 : upd W 8 x 5 = W 5 := upd_ne (by decide)
  have e1 : ∀ i, upd W 8 x (11 + 8 * i) = W (11 + 8 * i) := fun i => upd_ne (by omega)
  have e2 : ∀ i, upd W 8 x (12 + 8 * i) = W (12 + 8 * i) := fun i => upd_ne (by omega)
  have e3 : ∀ i, upd W 8 x (13 + 8 * i) = W (13 + 8 * i) := fun i => upd_ne (by omega)
  have e4 : ∀ i, upd W 8 x (18 + 8 * i) = W (18 + 8 * i) := fun i => upd_ne (by omega)
  unfold goB gos stp tog
  simp only [e0, e5, e1, e2, e3, e4]
theorem gv_8 {W : jWd} {x : Int32} {r : Nat} {d : Bool} : gv (upd W 8 x) r d = gv W r d := by
  unfold gv
  rw [show (fun v => goB (upd W 8 x) r d v) = (fun v => goB W r d v) from funext fun v => propext goB_8]
theorem stW_8 {W : jWd} {x : Int32} {v : Int32} {d : Bool} {i : Nat} : stW (upd W 8 x) v d i = upd (stW W v d i) 8 x := by
  funext k
  by_cases q : k = 8
  · subst q; rw [upd_eq, stW_ot (Or.inl (by decide)), upd_eq]
  · rw [upd_ne q]
    unfold stW
    rw [upd_ne q]
theorem mvO_ot {W : jWd} {r : Nat} {d : Bool} {k : Nat} (h : k < 11 ∨ (k - 11) % 8 ≠ 0) : ∀ t, mvO W r d t k = W k
  | 0 => rfl
  | t + 1 => (stW_ot h).trans (mvO_ot h t)
theorem plW_0 {W : jWd} {r : Nat} {d : Bool} (K : wOK W) : plW W r d 0 = W := by
  funext k
  unfold plW
  by_cases q : k = 8
  · subst q
    rw [upd_eq]
    obtain ⟨-, -, -, -, -, -, -, -, k8, -⟩ := K
    unfold nzc mvS
    have l9 : (9999 : Int32).toInt = 9999 := rfl
    by_cases z : (W 8).toInt + ((0 : Nat) : Int) < 9999
    · rw [if_pos z]; exact Int32.add_zero _
    · rw [if_neg z]; exact i_eq.mpr (by omega)
  · rw [upd_ne q]; rfl
theorem ncnt_le {W : jWd} {v : Int32} : ∀ i, ncnt W v i ≤ i
  | 0 => Nat.le_refl _
  | i + 1 => by
    have := ncnt_le (W := W) (v := v) i
    unfold ncnt
    split <;> omega
theorem mvS_le {W : jWd} {r : Nat} {d : Bool} : ∀ t, mvS W r d t ≤ 8 * t
  | 0 => Nat.le_refl _
  | t + 1 => by
    have a := mvS_le (W := W) (r := r) (d := d) t
    have b := ncnt_le (W := mvO W r d t) (v := gv (mvO W r d t) r d) 8
    show mvS W r d t + ncnt (mvO W r d t) (gv (mvO W r d t) r d) 8 ≤ 8 * (t + 1)
    omega
theorem nzc_i {W : jWd} (K : wOK W) {s : Nat} (hs : s < 100000) : (nzc W s).toInt = (if (W 8).toInt + (s : Int) < 9999 then (W 8).toInt + (s : Int) else 9999) := by
  obtain ⟨-, -, -, -, -, -, -, -, k8, -⟩ := K
  unfold nzc
  split
  · rw [jadd (by rw [nI_toInt (by omega)]; omega) (by rw [nI_toInt (by omega)]; omega), nI_toInt (by omega)]
  · rfl
/-- noise by one step more -/
theorem nzc_s {W : jWd} (K : wOK W) {s m : Nat} (hs : s < 5000) (hm : m < 100) : (if nzc W s + nI m < (9999 : Int32) then nzc W s + nI m else (9999 : Int32)) = nzc W (s + m) := by
  have a := nzc_i K (s := s) (by omega)
  have b := nzc_i K (s := s + m) (by omega)
  obtain ⟨-, -, -, -, -, -, -, -, k8, -⟩ := K
  have l9 : (9999 : Int32).toInt = 9999 := rfl
  have e : (nzc W s + nI m).toInt = (nzc W s).toInt + (m : Int) := by
    rw [jadd (by rw [nI_toInt (by omega), a]; split <;> omega) (by rw [nI_toInt (by omega), a]; split <;> omega), nI_toInt (by omega)]
  apply i_eq.mpr
  rw [b]
  by_cases q : nzc W s + nI m < (9999 : Int32)
  · rw [if_pos q, e, a]
    rw [Int32.lt_iff_toInt_lt, e, a] at q
    split at q <;> (split <;> first | omega | (split <;> omega))
  · rw [if_neg q, l9]
    rw [Int32.lt_iff_toInt_lt, e, a] at q
    split at q <;> (split <;> omega)
