/-! what a heap shows: the value in each place of each cell -/
def oc (h : jH) (a k : Nat) : Value := match h.2 a with
  | some (.inl o) => o.2.getD k .null
  | some (.inr (.inl y)) => .int (y.2.2 k)
  | some (.inr (.inr (.inl z))) => va_rf (z.2 k)
  | _ => .null
abbrev jO : Type := Nat → Nat → Value
def u2 (O : jO) (a k : Nat) (v : Value) : jO := fun b j => if b = a ∧ j = k then v else O b j
def vi (v : Value) : Int32 := match v with | .int x => x | _ => 0
def oi (O : jO) (a k : Nat) : Int32 := vi (O a k)
theorem u2_ne {O : jO} {a k b j : Nat} {v : Value} (h : b ≠ a ∨ j ≠ k) : u2 O a k v b j = O b j := by
  unfold u2
  rw [if_neg (fun q => h.elim (fun z => z q.1) (fun z => z q.2))]
theorem u2_eq {O : jO} {a k : Nat} {v : Value} : u2 O a k v a k = v := by
  unfold u2
  rw [if_pos ⟨rfl, rfl⟩]
theorem oi_ne {O : jO} {a k b j : Nat} {v : Value} (h : b ≠ a ∨ j ≠ k) : oi (u2 O a k v) b j = oi O b j := by
  unfold oi
  rw [u2_ne h]
theorem oi_eq {O : jO} {a k : Nat} {x : Int32} : oi (u2 O a k (.int x)) a k = x := by
  unfold oi
  rw [u2_eq]
  rfl
theorem oc_gf {ci : Nat} {h : jH} {a k : Nat} {v : Value} (e : jgf ci h a k = some v) : oc h a k = v := by
  obtain ⟨fs, e1, e2⟩ := jgf_o e
  unfold oc
  rw [e1]
  show fs.getD k .null = v
  rw [List.getD_eq_getElem?_getD, e2]
  rfl
theorem oc_gI {ci : Nat} {h : jH} {a k : Nat} {x : Int32} (e : jgI ci h a k = some x) : oi (oc h) a k = x := by
  unfold oi
  rw [oc_gf (jgI_f e)]
  rfl
theorem oc_gR {ci : Nat} {h : jH} {a k b : Nat} (e : jgR ci h a k = some b) : oc h a k = .ref b := oc_gf (jgR_f e)
theorem oc_gQ {ci : Nat} {h : jH} {a k : Nat} {b : Option Nat} (e : jgQ ci h a k = some b) : oc h a k = va_rf b := oc_gf (jgQ_f e)
theorem oc_al {t : Nat} {h : jH} {a : Nat} {i x : Int32} (e : jal t h a i = some x) : oi (oc h) a i.toNatClampNeg = x ∧ 0 ≤ i.toInt := by
  obtain ⟨n, f, e1, e2, e3⟩ := jal_o e
  refine ⟨?_, ?_⟩
  · unfold oi oc
    rw [e1]
    exact e3.symm
  · have h1 : ¬ i < 0 := fun q => e2 (Or.inl q)
    have h2 := Int.not_lt.mp (fun q => h1 (Int32.lt_iff_toInt_lt.mpr q))
    exact h2
theorem oc_alq {h : jH} {a : Nat} {i : Int32} {x : Option Nat} (e : jalq h a i = some x) : oc h a i.toNatClampNeg = va_rf x := by
  obtain ⟨n, f, e1, -, e3⟩ := jalq_o e
  unfold oc
  rw [e1, e3]
theorem oc_up_ne {h : jH} {a b k : Nat} {e : jE} (hb : b ≠ a) : oc (jup h a e) b k = oc h b k := by
  unfold oc
  show (match (if b = a then some e else h.2 b) with | some (.inl o) => o.2.getD k .null | some (.inr (.inl y)) => .int (y.2.2 k) | some (.inr (.inr (.inl z))) => va_rf (z.2 k) | _ => .null) = _
  rw [if_neg hb]
theorem oc_up_eq {h : jH} {a k : Nat} {e : jE} : oc (jup h a e) a k = (match e with | .inl o => o.2.getD k .null | .inr (.inl y) => .int (y.2.2 k) | .inr (.inr (.inl z)) => va_rf (z.2 k) | _ => .null) := by
  unfold oc
  show (match (if a = a then some e else h.2 a) with | some (.inl o) => o.2.getD k .null | some (.inr (.inl y)) => .int (y.2.2 k) | some (.inr (.inr (.inl z))) => va_rf (z.2 k) | _ => .null) = _
  rw [if_pos rfl]
  rcases e with o | y | z | w <;> rfl
theorem oc_pf {ci : Nat} {h h1 : jH} {a k : Nat} {v : Value} (e : jpf ci h a k v = some h1) : oc h1 = u2 (oc h) a k v ∧ h1.1 = h.1 := by
  obtain ⟨fs, e1, e2, rfl⟩ := jpf_o e
  refine ⟨funext fun b => funext fun j => ?_, rfl⟩
  by_cases hb : b = a
  · subst hb
    rw [oc_up_eq]
    show (fs.set k v).getD j .null = _
    by_cases hj : j = k
    · subst hj
      rw [u2_eq, List.getD_eq_getElem?_getD, List.getElem?_set_self e2]
      rfl
    · rw [u2_ne (Or.inr hj), List.getD_eq_getElem?_getD, List.getElem?_set_ne (Ne.symm hj)]
      unfold oc
      rw [e1]
      show _ = fs.getD j .null
      rw [List.getD_eq_getElem?_getD]
  · rw [oc_up_ne hb, u2_ne (Or.inl hb)]
theorem oc_as {t : Nat} {h h1 : jH} {a : Nat} {i x : Int32} (e : jas t h a i x = some h1) : oc h1 = u2 (oc h) a i.toNatClampNeg (.int (jnar t x)) ∧ h1.1 = h.1 ∧ 0 ≤ i.toInt := by
  obtain ⟨n, f, e1, e2, -, rfl⟩ := jas_o e
  refine ⟨funext fun b => funext fun j => ?_, rfl, ?_⟩
  · by_cases hb : b = a
    · subst hb
      rw [oc_up_eq]
      show Value.int (upd f i.toNatClampNeg (jnar t x) j) = _
      by_cases hj : j = i.toNatClampNeg
      · subst hj
        rw [u2_eq]
        simp only [upd, if_pos]
      · rw [u2_ne (Or.inr hj)]
        simp only [upd, if_neg hj]
        unfold oc
        rw [e1]
    · rw [oc_up_ne hb, u2_ne (Or.inl hb)]
  · have h1 : ¬ i < 0 := fun q => e2 (Or.inl q)
    exact Int.not_lt.mp (fun q => h1 (Int32.lt_iff_toInt_lt.mpr q))
theorem oc_asq {ci : Nat} {h h1 : jH} {a v : Nat} {i : Int32} (e : jasq ci h a i v = some h1) : oc h1 = u2 (oc h) a i.toNatClampNeg (.ref v) ∧ h1.1 = h.1 := by
  obtain ⟨n, f, fs, e1, -, -, rfl⟩ := jasq_o e
  refine ⟨funext fun b => funext fun j => ?_, rfl⟩
  by_cases hb : b = a
  · subst hb
    rw [oc_up_eq]
    show va_rf (va_up f i.toNatClampNeg (some v) j) = _
    by_cases hj : j = i.toNatClampNeg
    · subst hj
      rw [u2_eq]
      simp only [va_up, if_pos]
      rfl
    · rw [u2_ne (Or.inr hj)]
      simp only [va_up, if_neg hj]
      unfold oc
      rw [e1]
  · rw [oc_up_ne hb, u2_ne (Or.inl hb)]
/-- n places of a0 from s on into a from d on -/
def ucp (O : jO) (a0 s a d n : Nat) : jO := fun b j => if b = a ∧ d ≤ j ∧ j < d + n then O a0 (s + (j - d)) else O b j
theorem oc_cp {h h1 : jH} {a0 a : Nat} {sp dp n : Int32} (e : jcp h a0 sp a dp n = some h1) : oc h1 = ucp (oc h) a0 sp.toNatClampNeg a dp.toNatClampNeg n.toNatClampNeg ∧ h1.1 = h.1 := by
  obtain ⟨n0, f, n1, g, e0, e1, -, -, -, -, -, rfl⟩ := jcp_o e
  refine ⟨funext fun b => funext fun j => ?_, rfl⟩
  unfold ucp
  by_cases hb : b = a
  · subst hb
    rw [oc_up_eq]
    show Value.int (va_cpy f g sp.toNatClampNeg dp.toNatClampNeg n.toNatClampNeg j) = _
    unfold va_cpy
    by_cases hj : dp.toNatClampNeg ≤ j ∧ j < dp.toNatClampNeg + n.toNatClampNeg
    · rw [if_pos hj, if_pos ⟨rfl, hj⟩]
      unfold oc
      rw [e0]
    · rw [if_neg hj, if_neg (fun q => hj q.2)]
      unfold oc
      rw [e1]
  · rw [oc_up_ne hb, if_neg (fun q => hb q.1)]
theorem oc_new {h : jH} {e : jE} {b k : Nat} (hb : b ≠ h.1) : oc (jnew h e) b k = oc h b k := by
  unfold oc
  show (match (if b = h.1 then some e else h.2 b) with | some (.inl o) => o.2.getD k .null | some (.inr (.inl y)) => .int (y.2.2 k) | some (.inr (.inr (.inl z))) => va_rf (z.2 k) | _ => .null) = _
  rw [if_neg hb]
/-- heaps whose first free place alone differs show the same -/
theorem oc_z {h : jH} {z : Nat} : oc (z, h.2) = oc h := rfl
theorem jnar0 {x : Int32} : jnar 0 x = x := rfl
theorem jnar2 {x : Int32} : jnar 2 x = x := rfl
theorem jite {α : Type} {c : Prop} [Decidable c] {a b : Option α} {r : α} (h : (if c then a else b) = some r) : (c ∧ a = some r) ∨ (¬ c ∧ b = some r) := by
  by_cases q : c
  · rw [if_pos q] at h; exact Or.inl ⟨q, h⟩
  · rw [if_neg q] at h; exact Or.inr ⟨q, h⟩
