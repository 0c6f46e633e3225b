/-! the first heap is of its kinds -/
theorem jR3_0 {k : Nat} : jR3 k 0 := ⟨Or.inr ⟨by decide, by decide⟩, Or.inr ⟨by decide, by decide⟩, Or.inr (Or.inr (Or.inr ⟨by decide, by decide⟩))⟩
theorem jR_w0 {g : jGh} {k : Nat} (hlw : ∀ k, g.2.2.2.1 k = 0) : jRw g k (upd (upd (upd (fun _ => 0) (5 : Int32).toNatClampNeg 16) (6 : Int32).toNatClampNeg 8) (10 : Int32).toNatClampNeg 1 k) := by
  have e5 : (5 : Int32).toNatClampNeg = 5 := rfl
  have e6 : (6 : Int32).toNatClampNeg = 6 := rfl
  have e10 : (10 : Int32).toNatClampNeg = 10 := rfl
  rw [e5, e6, e10]
  by_cases q : k = 5 ∨ k = 6 ∨ k = 10
  · rcases q with rfl | rfl | rfl <;> exact ⟨⟨Or.inl (by omega), Or.inl (by omega), Or.inl (by omega)⟩, Or.inl (by omega)⟩
  · have e : upd (upd (upd (fun _ => (0 : Int32)) 5 16) 6 8) 10 1 k = 0 := by
      simp only [upd]
      rw [if_neg (by omega), if_neg (by omega), if_neg (by omega)]
    rw [e]
    exact ⟨jR3_0, Or.inr (hlw k).symm⟩
/-- entries from z on, of the kinds ks -/
def jchk (g : jGh) (Γ : Nat → Option Nat) (Es : List jE) (ks : List Nat) : Prop := ks.length = Es.length ∧ ∀ (i : Nat) (e : jE) (c : Nat), Es[i]? = some e → ks[i]? = some c → okE Γ (jKd g c) (some e)
theorem jchk_app {g : jGh} {Γ : Nat → Option Nat} {Es Fs : List jE} {ks ls : List Nat} (a : jchk g Γ Es ks) (b : jchk g Γ Fs ls) : jchk g Γ (Es ++ Fs) (ks ++ ls) := by
  obtain ⟨a1, a2⟩ := a
  obtain ⟨b1, b2⟩ := b
  refine ⟨by rw [List.length_append, List.length_append, a1, b1], fun i e c he hc => ?_⟩
  by_cases q : i < Es.length
  · rw [List.getElem?_append_left q] at he
    rw [List.getElem?_append_left (by omega)] at hc
    exact a2 i e c he hc
  · rw [List.getElem?_append_right (by omega)] at he
    rw [List.getElem?_append_right (by omega), a1] at hc
    exact b2 _ e c he hc
theorem jchk_cons {g : jGh} {Γ : Nat → Option Nat} {e : jE} {c : Nat} {Fs : List jE} {ls : List Nat} (a : okE Γ (jKd g c) (some e)) (b : jchk g Γ Fs ls) : jchk g Γ (e :: Fs) (c :: ls) := by
  refine ⟨by rw [List.length_cons, List.length_cons, b.1], fun i e2 c2 he hc => ?_⟩
  cases i with
  | zero => cases he; cases hc; exact a
  | succ i => exact b.2 i e2 c2 he hc
/-- the kinds of the addresses: those from z on by the list -/
def jext (Γ : Nat → Option Nat) (z : Nat) (ks : List Nat) : Nat → Option Nat := fun q => if q < z then Γ q else ks[q - z]?
theorem jext_at {Γ : Nat → Option Nat} {z i c : Nat} {ks : List Nat} (h : ks[i]? = some c) : jext Γ z ks (z + i) = some c := by
  unfold jext
  rw [if_neg (by omega), show z + i - z = i by omega]
  exact h
theorem okV_mono {Γ Γ2 : Nat → Option Nat} {F : jF} {v : Value} (hm : ∀ a c, Γ a = some c → Γ2 a = some c) (h : okV Γ F v) : okV Γ2 F v := by
  rcases F with P | c | c
  · exact h
  · obtain ⟨a, e, ha⟩ := h
    exact ⟨a, e, hm a c ha⟩
  · rcases h with h | ⟨a, e, ha⟩
    · exact Or.inl h
    · exact Or.inr ⟨a, e, hm a c ha⟩
theorem okE_mono {Γ Γ2 : Nat → Option Nat} {D : jD} {e : Option jE} (hm : ∀ a c, Γ a = some c → Γ2 a = some c) (h : okE Γ D e) : okE Γ2 D e := by
  rcases D with q | q | q
  · exact h
  · show (if q.2 = 1000 then _ else _)
    have h2 : (if q.2 = 1000 then ∃ f : Nat → Int64, e = some (.inr (.inr (.inr (q.1, f)))) else ∃ f : Nat → Option Nat, e = some (.inr (.inr (.inl (q.1, f)))) ∧ ∀ k a, f k = some a → Γ a = some q.2) := h
    by_cases hq : q.2 = 1000
    · rw [if_pos hq] at h2 ⊢
      exact h2
    · rw [if_neg hq] at h2 ⊢
      obtain ⟨f, e1, e2⟩ := h2
      exact ⟨f, e1, fun k a hk => hm a _ (e2 k a hk)⟩
  · obtain ⟨vs, e1, e2, e3⟩ := h
    refine ⟨vs, e1, e2, fun k F hk => ?_⟩
    obtain ⟨v, f1, f2⟩ := e3 k F hk
    exact ⟨v, f1, okV_mono hm f2⟩
theorem okE_q {Γ : Nat → Option Nat} {n c : Nat} {f : Nat → Option Nat} (hc : c ≠ 1000) (h : ∀ k a, f k = some a → Γ a = some c) : okE Γ (.inr (.inl (n, c))) (some (.inr (.inr (.inl (n, f))))) := by
  show (if c = 1000 then ∃ f9 : Nat → Int64, (some (.inr (.inr (.inl (n, f)))) : Option jE) = some (.inr (.inr (.inr (n, f9)))) else ∃ f9 : Nat → Option Nat, (some (.inr (.inr (.inl (n, f)))) : Option jE) = some (.inr (.inr (.inl (n, f9)))) ∧ ∀ k a, f9 k = some a → Γ a = some c)
  rw [if_neg hc]
  exact ⟨f, rfl, h⟩
/-- a heap that grew by entries of their kinds -/
theorem jx_jW {g : jGh} {Γ : Nat → Option Nat} {z : Nat} {Es : List jE} {ks : List Nat} {h0 h : jH} (j : jx z Es h0 h) (hz : h0.1 = z) (w : jW (jKd g) Γ h0) (hc : jchk g (jext Γ z ks) Es ks) : jW (jKd g) (jext Γ z ks) h ∧ (∀ a c, Γ a = some c → jext Γ z ks a = some c) := by
  obtain ⟨j1, j2, j3⟩ := j
  have hm : ∀ a c, Γ a = some c → jext Γ z ks a = some c := by
    intro a c ha
    have := (w a c ha).1
    unfold jext
    rw [if_pos (by omega)]
    exact ha
  refine ⟨fun a c ha => ?_, hm⟩
  by_cases q : a < z
  · have ha2 : Γ a = some c := by
      unfold jext at ha
      rw [if_pos q] at ha
      exact ha
    refine ⟨by omega, ?_⟩
    rw [j2 a q]
    exact okE_mono hm (w a c ha2).2
  · unfold jext at ha
    rw [if_neg q] at ha
    have hlt : a - z < ks.length := (List.getElem?_eq_some_iff.mp ha).1
    have hlt2 : a - z < Es.length := by rw [← hc.1]; exact hlt
    refine ⟨by omega, ?_⟩
    have e := j3 (a - z) _ (List.getElem?_eq_getElem hlt2)
    rw [show z + (a - z) = a by omega] at e
    rw [e]
    exact hc.2 (a - z) _ c (List.getElem?_eq_getElem hlt2) ha
def kX10_init : List Nat := [10, 9, 6, 6, 6]
theorem chkX10_init {g : jGh} {Γ : Nat → Option Nat} {z : Nat}  (hL : g.1 = 0) (hb : ∀ k, g.2.1 k = 0) (hΓ : ∀ i c, kX10_init[i]? = some c → Γ (z + i) = some c)  : jchk g Γ (eX10_init z ) kX10_init := by
  refine ⟨rfl, fun i e c he hc => ?_⟩
  match i, he, hc with
  | 0, he, hc =>
    cases he; cases hc
    refine ⟨_, rfl, rfl, fun k F hk => ?_⟩
    match k, hk with
    | 0, hk => cases hk; exact ⟨_, rfl, _, rfl, hΓ 1 _ rfl⟩
    | 1, hk => cases hk; exact ⟨_, rfl, _, rfl, hΓ 2 _ rfl⟩
    | 2, hk => cases hk; exact ⟨_, rfl, _, rfl, hΓ 3 _ rfl⟩
    | 3, hk => cases hk; exact ⟨_, rfl, _, rfl, hΓ 4 _ rfl⟩
    | 4, hk => cases hk; exact ⟨_, rfl, _, rfl, ⟨by decide, by decide⟩⟩
    | 5, hk => cases hk; exact ⟨_, rfl, _, rfl, ⟨by decide, by decide⟩⟩
    | 6, hk => cases hk; exact ⟨_, rfl, _, rfl, (show (0 : Int32).toInt = g.1 from by rw [hL]; rfl)⟩
    | k + 7, hk => cases hk
  | 1, he, hc =>
    cases he; cases hc
    exact ⟨_, rfl, fun k hk => (show (0 : Int32) = g.2.1 k from (hb k).symm)⟩
  | 2, he, hc =>
    cases he; cases hc
    exact ⟨_, rfl, fun k hk => trivial⟩
  | 3, he, hc =>
    cases he; cases hc
    exact ⟨_, rfl, fun k hk => trivial⟩
  | 4, he, hc =>
    cases he; cases hc
    exact ⟨_, rfl, fun k hk => trivial⟩
  | i + 5, he, hc => cases he
def kX8_init : List Nat := [3, 0, 0, 0, 0, 2, 1]
theorem chkX8_init {g : jGh} {Γ : Nat → Option Nat} {z : Nat}  (hΓ : ∀ i c, kX8_init[i]? = some c → Γ (z + i) = some c)  : jchk g Γ (eX8_init z ) kX8_init := by
  refine ⟨rfl, fun i e c he hc => ?_⟩
  match i, he, hc with
  | 0, he, hc =>
    cases he; cases hc
    refine ⟨_, rfl, rfl, fun k F hk => ?_⟩
    match k, hk with
    | 0, hk => cases hk; exact ⟨_, rfl, _, rfl, hΓ 1 _ rfl⟩
    | 1, hk => cases hk; exact ⟨_, rfl, _, rfl, hΓ 2 _ rfl⟩
    | 2, hk => cases hk; exact ⟨_, rfl, _, rfl, hΓ 3 _ rfl⟩
    | 3, hk => cases hk; exact ⟨_, rfl, _, rfl, hΓ 4 _ rfl⟩
    | 4, hk => cases hk; exact ⟨_, rfl, _, rfl, hΓ 5 _ rfl⟩
    | 5, hk => cases hk; exact ⟨_, rfl, _, rfl, ⟨by decide, by decide⟩⟩
    | 6, hk => cases hk; exact ⟨_, rfl, _, rfl, trivial⟩
    | 7, hk => cases hk; exact ⟨_, rfl, _, rfl, trivial⟩
    | 8, hk => cases hk; exact ⟨_, rfl, _, rfl, trivial⟩
    | 9, hk => cases hk; exact ⟨_, rfl, _, rfl, trivial⟩
    | 10, hk => cases hk; exact ⟨_, rfl, _, rfl, trivial⟩
    | 11, hk => cases hk; exact ⟨_, rfl, _, rfl, trivial⟩
    | 12, hk => cases hk; exact ⟨_, rfl, _, rfl, trivial⟩
    | 13, hk => cases hk; exact ⟨_, rfl, _, rfl, trivial⟩
    | 14, hk => cases hk; exact ⟨_, rfl, _, rfl, trivial⟩
    | 15, hk => cases hk; exact ⟨_, rfl, _, rfl, trivial⟩
    | 16, hk => cases hk; exact ⟨_, rfl, _, rfl, trivial⟩
    | 17, hk => cases hk; exact ⟨_, rfl, _, rfl, trivial⟩
    | k + 18, hk => cases hk
  | 1, he, hc =>
    cases he; cases hc
    exact ⟨_, rfl, fun k hk => trivial⟩
  | 2, he, hc =>
    cases he; cases hc
    exact ⟨_, rfl, fun k hk => trivial⟩
  | 3, he, hc =>
    cases he; cases hc
    exact ⟨_, rfl, fun k hk => trivial⟩
  | 4, he, hc =>
    cases he; cases hc
    exact ⟨_, rfl, fun k hk => trivial⟩
  | 5, he, hc =>
    cases he; cases hc
    refine ⟨_, rfl, rfl, fun k F hk => ?_⟩
    match k, hk with
    | 0, hk => cases hk; exact ⟨_, rfl, _, rfl, hΓ 6 _ rfl⟩
    | 1, hk => cases hk; exact ⟨_, rfl, _, rfl, ⟨by decide, by decide⟩⟩
    | 2, hk => cases hk; exact ⟨_, rfl, _, rfl, ⟨by decide, by decide⟩⟩
    | k + 3, hk => cases hk
  | 6, he, hc =>
    cases he; cases hc
    exact ⟨_, rfl, fun k hk => trivial⟩
  | i + 7, he, hc => cases he
def kX2_init : List Nat := [8, 4, 4, 5, 6, 7]
theorem chkX2_init {g : jGh} {Γ : Nat → Option Nat} {z : Nat}  (hΓ : ∀ i c, kX2_init[i]? = some c → Γ (z + i) = some c)  : jchk g Γ (eX2_init z ) kX2_init := by
  refine ⟨rfl, fun i e c he hc => ?_⟩
  match i, he, hc with
  | 0, he, hc =>
    cases he; cases hc
    refine ⟨_, rfl, rfl, fun k F hk => ?_⟩
    match k, hk with
    | 0, hk => cases hk; exact ⟨_, rfl, _, rfl, hΓ 1 _ rfl⟩
    | 1, hk => cases hk; exact ⟨_, rfl, _, rfl, hΓ 2 _ rfl⟩
    | 2, hk => cases hk; exact ⟨_, rfl, _, rfl, hΓ 3 _ rfl⟩
    | 3, hk => cases hk; exact ⟨_, rfl, _, rfl, hΓ 4 _ rfl⟩
    | 4, hk => cases hk; exact ⟨_, rfl, _, rfl, hΓ 5 _ rfl⟩
    | 5, hk => cases hk; exact ⟨_, rfl, _, rfl, ⟨by decide, by decide⟩⟩
    | 6, hk => cases hk; exact ⟨_, rfl, _, rfl, ⟨by decide, by decide⟩⟩
    | 7, hk => cases hk; exact ⟨_, rfl, _, rfl, ⟨by decide, by decide⟩⟩
    | 8, hk => cases hk; exact ⟨_, rfl, _, rfl, ⟨by decide, by decide⟩⟩
    | k + 9, hk => cases hk
  | 1, he, hc =>
    cases he; cases hc
    exact ⟨_, rfl, fun k hk => trivial⟩
  | 2, he, hc =>
    cases he; cases hc
    exact ⟨_, rfl, fun k hk => trivial⟩
  | 3, he, hc =>
    cases he; cases hc
    exact ⟨_, rfl, fun k hk => ⟨by decide, by decide⟩⟩
  | 4, he, hc =>
    cases he; cases hc
    exact ⟨_, rfl, fun k hk => trivial⟩
  | 5, he, hc =>
    cases he; cases hc
    exact ⟨_, rfl, fun k hk => trivial⟩
  | i + 6, he, hc => cases he
def kX0_init : List Nat := [12, 11]
theorem chkX0_init {g : jGh} {Γ : Nat → Option Nat} {z : Nat}  (hΓ : ∀ i c, kX0_init[i]? = some c → Γ (z + i) = some c)  : jchk g Γ (eX0_init z ) kX0_init := by
  refine ⟨rfl, fun i e c he hc => ?_⟩
  match i, he, hc with
  | 0, he, hc =>
    cases he; cases hc
    refine ⟨_, rfl, rfl, fun k F hk => ?_⟩
    match k, hk with
    | 0, hk => cases hk; exact ⟨_, rfl, _, rfl, hΓ 1 _ rfl⟩
    | 1, hk => cases hk; exact ⟨_, rfl, _, rfl, ⟨by decide, by decide⟩⟩
    | 2, hk => cases hk; exact ⟨_, rfl, _, rfl, ⟨by decide, by decide⟩⟩
    | k + 3, hk => cases hk
  | 1, he, hc =>
    cases he; cases hc
    exact okE_q (by decide) (fun k a h => by cases h)
  | i + 2, he, hc => cases he
def kX9_init : List Nat := [13]
theorem chkX9_init {g : jGh} {Γ : Nat → Option Nat} {z : Nat} {a1 : Nat} {a2 : Nat} (hΓ : ∀ i c, kX9_init[i]? = some c → Γ (z + i) = some c) (ha1 : Γ a1 = some 10) (ha2 : Γ a2 = some 3) : jchk g Γ (eX9_init z a1 a2) kX9_init := by
  refine ⟨rfl, fun i e c he hc => ?_⟩
  match i, he, hc with
  | 0, he, hc =>
    cases he; cases hc
    refine ⟨_, rfl, rfl, fun k F hk => ?_⟩
    match k, hk with
    | 0, hk => cases hk; exact ⟨_, rfl, _, rfl, ha1⟩
    | 1, hk => cases hk; exact ⟨_, rfl, _, rfl, ⟨by decide, by decide⟩⟩
    | 2, hk => cases hk; exact ⟨_, rfl, _, rfl, ha2⟩
    | k + 3, hk => cases hk
  | i + 1, he, hc => cases he
def kX3_init : List Nat := [14]
theorem chkX3_init {g : jGh} {Γ : Nat → Option Nat} {z : Nat} {a1 : Nat} {a2 : Nat} (hΓ : ∀ i c, kX3_init[i]? = some c → Γ (z + i) = some c) (ha1 : Γ a1 = some 10) (ha2 : Γ a2 = some 8) : jchk g Γ (eX3_init z a1 a2) kX3_init := by
  refine ⟨rfl, fun i e c he hc => ?_⟩
  match i, he, hc with
  | 0, he, hc =>
    cases he; cases hc
    refine ⟨_, rfl, rfl, fun k F hk => ?_⟩
    match k, hk with
    | 0, hk => cases hk; exact ⟨_, rfl, _, rfl, ha1⟩
    | 1, hk => cases hk; exact ⟨_, rfl, _, rfl, ⟨by decide, by decide⟩⟩
    | 2, hk => cases hk; exact ⟨_, rfl, _, rfl, ha2⟩
    | k + 3, hk => cases hk
  | i + 1, he, hc => cases he
def kX1_init : List Nat := [15]
theorem chkX1_init {g : jGh} {Γ : Nat → Option Nat} {z : Nat} {a1 : Nat} {a2 : Nat} (hΓ : ∀ i c, kX1_init[i]? = some c → Γ (z + i) = some c) (ha1 : Γ a1 = some 8) (ha2 : Γ a2 = some 3) : jchk g Γ (eX1_init z a1 a2) kX1_init := by
  refine ⟨rfl, fun i e c he hc => ?_⟩
  match i, he, hc with
  | 0, he, hc =>
    cases he; cases hc
    refine ⟨_, rfl, rfl, fun k F hk => ?_⟩
    match k, hk with
    | 0, hk => cases hk; exact ⟨_, rfl, _, rfl, ha1⟩
    | 1, hk => cases hk; exact ⟨_, rfl, _, rfl, ha2⟩
    | k + 2, hk => cases hk
  | i + 1, he, hc => cases he
def kX7_init : List Nat := [18, 16, 17]
theorem chkX7_init {g : jGh} {Γ : Nat → Option Nat} {z : Nat} {a1 : Nat} {a2 : Nat} (hΓ : ∀ i c, kX7_init[i]? = some c → Γ (z + i) = some c) (ha1 : Γ a1 = some 10) (ha2 : Γ a2 = some 3) : jchk g Γ (eX7_init z a1 a2) kX7_init := by
  refine ⟨rfl, fun i e c he hc => ?_⟩
  match i, he, hc with
  | 0, he, hc =>
    cases he; cases hc
    refine ⟨_, rfl, rfl, fun k F hk => ?_⟩
    match k, hk with
    | 0, hk => cases hk; exact ⟨_, rfl, _, rfl, ha1⟩
    | 1, hk => cases hk; exact ⟨_, rfl, _, rfl, ha2⟩
    | 2, hk => cases hk; exact ⟨_, rfl, _, rfl, hΓ 1 _ rfl⟩
    | 3, hk => cases hk; exact ⟨_, rfl, _, rfl, hΓ 2 _ rfl⟩
    | 4, hk => cases hk; exact ⟨_, rfl, _, rfl, ⟨by decide, by decide⟩⟩
    | 5, hk => cases hk; exact ⟨_, rfl, _, rfl, trivial⟩
    | 6, hk => cases hk; exact ⟨_, rfl, _, rfl, trivial⟩
    | k + 7, hk => cases hk
  | 1, he, hc =>
    cases he; cases hc
    exact ⟨_, rfl, fun k hk => trivial⟩
  | 2, he, hc =>
    cases he; cases hc
    exact ⟨_, rfl, fun k hk => trivial⟩
  | i + 3, he, hc => cases he
def kX12_init : List Nat := [20, 21, 22, 23, 24, 25, 26, 27, 28, 29, 30, 31]
theorem chkX12_init {g : jGh} {Γ : Nat → Option Nat} {z : Nat}  (hL2 : g.2.2.1 = 0) (hlw : ∀ k, g.2.2.2.1 k = 0) (h4 : ∀ k, g.2.2.2.2.1 k = 0) (h5 : ∀ k, g.2.2.2.2.2.1 k = 0) (h6 : g.2.2.2.2.2.2.2.2 = 0) (hΓ : ∀ i c, kX12_init[i]? = some c → Γ (z + i) = some c)  : jchk g Γ (eX12_init z ) kX12_init := by
  refine ⟨rfl, fun i e c he hc => ?_⟩
  match i, he, hc with
  | 0, he, hc =>
    cases he; cases hc
    refine ⟨_, rfl, rfl, fun k F hk => ?_⟩
    match k, hk with
    | 0, hk => cases hk; exact ⟨_, rfl, _, rfl, trivial⟩
    | 1, hk => cases hk; exact ⟨_, rfl, _, rfl, hΓ 1 _ rfl⟩
    | 2, hk => cases hk; exact ⟨_, rfl, _, rfl, hΓ 2 _ rfl⟩
    | 3, hk => cases hk; exact ⟨_, rfl, _, rfl, hΓ 3 _ rfl⟩
    | 4, hk => cases hk; exact ⟨_, rfl, _, rfl, hΓ 4 _ rfl⟩
    | 5, hk => cases hk; exact ⟨_, rfl, _, rfl, hΓ 5 _ rfl⟩
    | 6, hk => cases hk; exact ⟨_, rfl, _, rfl, ⟨h6.symm, Or.inl rfl⟩⟩
    | 7, hk => cases hk; exact ⟨_, rfl, _, rfl, ⟨by decide, by decide⟩⟩
    | 8, hk => cases hk; exact ⟨_, rfl, _, rfl, hΓ 6 _ rfl⟩
    | 9, hk => cases hk; exact ⟨_, rfl, _, rfl, (show (0 : Int32).toInt = g.2.2.1 from by rw [hL2]; rfl)⟩
    | 10, hk => cases hk; exact ⟨_, rfl, _, rfl, ⟨by decide, by decide⟩⟩
    | 11, hk => cases hk; exact ⟨_, rfl, _, rfl, ⟨by decide, by decide⟩⟩
    | 12, hk => cases hk; exact ⟨_, rfl, _, rfl, ⟨by decide, by decide⟩⟩
    | 13, hk => cases hk; exact ⟨_, rfl, _, rfl, trivial⟩
    | 14, hk => cases hk; exact ⟨_, rfl, _, rfl, trivial⟩
    | 15, hk => cases hk; exact ⟨_, rfl, _, rfl, hΓ 7 _ rfl⟩
    | 16, hk => cases hk; exact ⟨_, rfl, _, rfl, ⟨by decide, by decide⟩⟩
    | 17, hk => cases hk; exact ⟨_, rfl, _, rfl, hΓ 8 _ rfl⟩
    | 18, hk => cases hk; exact ⟨_, rfl, _, rfl, trivial⟩
    | 19, hk => cases hk; exact ⟨_, rfl, _, rfl, hΓ 9 _ rfl⟩
    | 20, hk => cases hk; exact ⟨_, rfl, _, rfl, hΓ 10 _ rfl⟩
    | 21, hk => cases hk; exact ⟨_, rfl, _, rfl, hΓ 11 _ rfl⟩
    | k + 22, hk => cases hk
  | 1, he, hc =>
    cases he; cases hc
    exact ⟨_, rfl, fun k hk => jR_w0 hlw⟩
  | 2, he, hc =>
    cases he; cases hc
    exact ⟨_, rfl, fun k hk => ⟨jR3_0, Or.inr (h5 k).symm⟩⟩
  | 3, he, hc =>
    cases he; cases hc
    exact ⟨_, rfl, fun k hk => ⟨jR3_0, Or.inr (h4 k).symm⟩⟩
  | 4, he, hc =>
    cases he; cases hc
    exact ⟨_, rfl, fun k hk => jR3_0⟩
  | 5, he, hc =>
    cases he; cases hc
    exact ⟨_, rfl, fun k hk => jR3_0⟩
  | 6, he, hc =>
    cases he; cases hc
    exact ⟨_, rfl, fun k hk => ⟨by decide, by decide⟩⟩
  | 7, he, hc =>
    cases he; cases hc
    exact ⟨_, rfl, fun k hk => trivial⟩
  | 8, he, hc =>
    cases he; cases hc
    exact ⟨_, rfl, fun k hk => trivial⟩
  | 9, he, hc =>
    cases he; cases hc
    exact ⟨_, rfl, fun k hk => trivial⟩
  | 10, he, hc =>
    cases he; cases hc
    exact ⟨_, rfl, fun k hk => trivial⟩
  | 11, he, hc =>
    cases he; cases hc
    exact ⟨_, rfl, fun k hk => trivial⟩
  | i + 12, he, hc => cases he
/-! the first heap -/
def kX11_init : List Nat := 19 :: ((((((((((kX10_init) ++ kX8_init) ++ kX2_init) ++ kX0_init) ++ kX8_init) ++ kX2_init) ++ kX9_init) ++ kX3_init) ++ kX1_init) ++ kX7_init)
theorem jbeg_sub {Γ : Nat → Option Nat} {z b : Nat} {ks ls : List Nat} (hΓ : ∀ i c, ks[i]? = some c → Γ (z + i) = some c) (hs : ∀ i c, ls[i]? = some c → ks[b + i]? = some c) : ∀ i c, ls[i]? = some c → Γ (z + b + i) = some c := fun i c h => by
  rw [Nat.add_assoc]
  exact hΓ (b + i) c (hs i c h)
theorem jsubl {ks ls : List Nat} {b : Nat} (h : (ks.drop b).take ls.length = ls) : ∀ i c, ls[i]? = some c → ks[b + i]? = some c := fun i c hi => by
  have hlt : i < ls.length := (List.getElem?_eq_some_iff.mp hi).1
  rw [← h, List.getElem?_take_of_lt hlt, List.getElem?_drop] at hi
  exact hi
theorem chkX11_init {g : jGh} {Γ : Nat → Option Nat} {z : Nat} (hL : g.1 = 0) (hb : ∀ k, g.2.1 k = 0) (hu0 : g.2.2.2.2.2.2.1 = 0) (hv0 : g.2.2.2.2.2.2.2.1 = 0) (hΓ : ∀ i c, kX11_init[i]? = some c → Γ (z + i) = some c) : jchk g Γ (eX11_init z) kX11_init := by
  have s1 := jbeg_sub (b := 1) hΓ (jsubl (ls := kX10_init) (by decide))
  have s6 := jbeg_sub (b := 6) hΓ (jsubl (ls := kX8_init) (by decide))
  have s13 := jbeg_sub (b := 13) hΓ (jsubl (ls := kX2_init) (by decide))
  have s19 := jbeg_sub (b := 19) hΓ (jsubl (ls := kX0_init) (by decide))
  have s21 := jbeg_sub (b := 21) hΓ (jsubl (ls := kX8_init) (by decide))
  have s28 := jbeg_sub (b := 28) hΓ (jsubl (ls := kX2_init) (by decide))
  have s34 := jbeg_sub (b := 34) hΓ (jsubl (ls := kX9_init) (by decide))
  have s35 := jbeg_sub (b := 35) hΓ (jsubl (ls := kX3_init) (by decide))
  have s36 := jbeg_sub (b := 36) hΓ (jsubl (ls := kX1_init) (by decide))
  have s37 := jbeg_sub (b := 37) hΓ (jsubl (ls := kX7_init) (by decide))
  have a1 : Γ (z + 1) = some 10 := s1 0 _ rfl
  have a13 : Γ (z + 13) = some 8 := s13 0 _ rfl
  have a21 : Γ (z + 21) = some 3 := s21 0 _ rfl
  have a28 : Γ (z + 28) = some 8 := s28 0 _ rfl
  refine jchk_cons ?_ (jchk_app (jchk_app (jchk_app (jchk_app (jchk_app (jchk_app (jchk_app (jchk_app (jchk_app (chkX10_init hL hb s1) (chkX8_init s6)) (chkX2_init s13)) (chkX0_init s19)) (chkX8_init s21)) (chkX2_init s28)) (chkX9_init s34 a1 a21)) (chkX3_init s35 a1 a28)) (chkX1_init s36 a13 a21)) (chkX7_init s37 a1 a21))
  refine ⟨_, rfl, rfl, fun k F hk => ?_⟩
  match k, hk with
  | 0, hk => cases hk; exact ⟨_, rfl, _, rfl, a1⟩
  | 1, hk => cases hk; exact ⟨_, rfl, _, rfl, hΓ 6 _ rfl⟩
  | 2, hk => cases hk; exact ⟨_, rfl, _, rfl, a13⟩
  | 3, hk => cases hk; exact ⟨_, rfl, _, rfl, hΓ 19 _ rfl⟩
  | 4, hk => cases hk; exact ⟨_, rfl, _, rfl, a21⟩
  | 5, hk => cases hk; exact ⟨_, rfl, _, rfl, a28⟩
  | 6, hk => cases hk; exact ⟨_, rfl, _, rfl, hΓ 34 _ rfl⟩
  | 7, hk => cases hk; exact ⟨_, rfl, _, rfl, hΓ 35 _ rfl⟩
  | 8, hk => cases hk; exact ⟨_, rfl, _, rfl, hΓ 36 _ rfl⟩
  | 9, hk => cases hk; exact ⟨_, rfl, _, rfl, hΓ 37 _ rfl⟩
  | 10, hk => cases hk; exact ⟨_, rfl, by rw [if_pos hu0]; exact Or.inl rfl⟩
  | 11, hk => cases hk; exact ⟨_, rfl, by rw [if_pos hv0]; exact Or.inl rfl⟩
  | 12, hk => cases hk; exact ⟨_, rfl, _, rfl, trivial⟩
  | k + 13, hk => cases hk
theorem okE_l {Γ : Nat → Option Nat} {n : Nat} {f : Nat → Int64} : okE Γ (.inr (.inl (n, 1000))) (some (.inr (.inr (.inr (n, f))))) := by
  show (if (1000 : Nat) = 1000 then ∃ f9 : Nat → Int64, (some (.inr (.inr (.inr (n, f)))) : Option jE) = some (.inr (.inr (.inr (n, f9)))) else ∃ f9 : Nat → Option Nat, (some (.inr (.inr (.inr (n, f)))) : Option jE) = some (.inr (.inr (.inl (n, f9)))) ∧ ∀ k a, f9 k = some a → Γ a = some 1000)
  rw [if_pos rfl]
  exact ⟨f, rfl⟩
/-- an image is kept by both sides, or by neither -/
def jIm (g : jGh) : Prop := (g.2.2.2.2.2.2.1 = 0 ↔ g.2.2.2.2.2.2.2.2 = 0) ∧ (g.2.2.2.2.2.2.2.1 = 0 ↔ g.2.2.2.2.2.2.2.2 = 0)
/-- the invariant of the law's loop: both sides' heaps of their kinds, both tapes of one length -/
def jInv (x m out : Nat) (h : jH) : Prop := ∃ (g : jGh) (Γ : Nat → Option Nat), jgok g ∧ jW (jKd g) Γ h ∧ Γ x = some 19 ∧ Γ m = some 20 ∧ Γ out = some 40 ∧ (∀ a b c : Nat, 9 ≤ c → Γ a = some c → Γ b = some c → a = b) ∧ (∀ b, Γ b ≠ some 41) ∧ g.1 = g.2.2.1 ∧ jIm g
def jg0 : jGh := (0, fun _ => 0, 0, fun _ => 0, fun _ => 0, fun _ => 0, 0, 0, 0)
theorem jlaw0 : jlawOK (fun _ => 0) := by
  refine ⟨by show (0 : Int) ≤ (0 : Int32).toInt; decide, by show (0 : Int32).toInt ≤ 12; decide, fun i hi => ?_⟩
  have hi : (i : Int) < (0 : Int32).toInt := hi
  have e : (0 : Int32).toInt = 0 := rfl
  omega
theorem jg0_ok : jgok jg0 := ⟨⟨by decide, by decide⟩, by decide, by decide, jlaw0⟩
def jks : List Nat := kX11_init ++ (kX12_init ++ [40])
theorem juniq : ∀ i j c : Nat, 9 ≤ c → jks[i]? = some c → jks[j]? = some c → i = j := by
  have h : ∀ i, i < jks.length → ∀ j, j < jks.length → 9 ≤ jks.getD i 0 → jks.getD i 0 = jks.getD j 0 → i = j := by decide +kernel
  intro i j c hc hi hj
  have h1 := (List.getElem?_eq_some_iff.mp hi).1
  have h2 := (List.getElem?_eq_some_iff.mp hj).1
  have e1 : jks.getD i 0 = c := by rw [List.getD_eq_getElem?_getD, hi]; rfl
  have e2 : jks.getD j 0 = c := by rw [List.getD_eq_getElem?_getD, hj]; rfl
  exact h i h1 j h2 (by rw [e1]; exact hc) (by rw [e1, e2])
theorem jbegin_ok {n z : Nat} : jBegin n (z, fun _ => none) jInv := by
  obtain ⟨h1, e1, j1⟩ := I_X11_init (n := n) (h := (z, fun _ => none))
  obtain ⟨h2, e2, j2⟩ := I_X12_init (n := n) (h := h1)
  refine ⟨h1, e1, h2, e2, jg0, jext (fun _ => none) z jks, jg0_ok, ?_, ?_, ?_, ?_, ?_, ?_, rfl, Iff.rfl, Iff.rfl⟩
  · have hz : h1.1 = z + (eX11_init z).length := j1.1
    have j2' : jx (z + (eX11_init z).length) (eX12_init (z + 40)) h1 h2 := by
      have j3 := j2
      rw [hz] at j3
      exact j3
    have j4 := jx_nw (jx_cat j1 j2') (.inr (.inr (.inr (1, fun _ => 0))))
    rw [List.append_assoc] at j4
    refine (jx_jW (ks := jks) j4 rfl (fun a c h => by cases h) ?_).1
    have hΓ : ∀ i c, jks[i]? = some c → jext (fun _ => none) z jks (z + i) = some c := fun i c h => jext_at h
    refine jchk_app (chkX11_init rfl (fun _ => rfl) rfl rfl (fun i c h => hΓ i c (by unfold jks; rw [List.getElem?_append_left (List.getElem?_eq_some_iff.mp h).1]; exact h))) (jchk_app (chkX12_init rfl (fun _ => rfl) (fun _ => rfl) (fun _ => rfl) rfl (jbeg_sub (b := 40) hΓ (jsubl (by decide)))) ?_)
    refine jchk_cons ?_ ⟨rfl, fun i e c he _ => by cases he⟩
    exact okE_l
  · exact jext_at (i := 0) rfl
  · have hz : h1.1 = z + 40 := j1.1
    rw [hz]
    exact jext_at (i := 40) rfl
  · have hz : h1.1 = z + 40 := j1.1
    have hz2 : h2.1 = z + 52 := by rw [j2.1, hz]; rfl
    rw [hz2]
    exact jext_at (i := 52) rfl
  · intro a b c hc ha hb
    unfold jext at ha hb
    by_cases qa : a < z
    · rw [if_pos qa] at ha; cases ha
    · by_cases qb : b < z
      · rw [if_pos qb] at hb; cases hb
      · rw [if_neg qa] at ha
        rw [if_neg qb] at hb
        have := juniq _ _ c hc ha hb
        omega
  · intro b q
    unfold jext at q
    by_cases qb : b < z
    · rw [if_pos qb] at q; cases q
    · rw [if_neg qb] at q
      have h9 : ∀ i, i < jks.length → jks.getD i 0 ≠ 41 := by decide +kernel
      have h1 := (List.getElem?_eq_some_iff.mp q).1
      exact h9 _ h1 (by rw [List.getD_eq_getElem?_getD, q]; rfl)
