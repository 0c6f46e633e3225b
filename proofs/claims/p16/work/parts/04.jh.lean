section
/-! reading and writing pure heaps -/
def jgf (ci : Nat) (h : jH) (a k : Nat) : Option Value := match h.2 a with
  | some (.inl o) => if o.1 = ci then o.2[k]? else none
  | _ => none
def jgI (ci : Nat) (h : jH) (a k : Nat) : Option Int32 := match jgf ci h a k with
  | some (.int x) => some x
  | _ => none
def jgR (ci : Nat) (h : jH) (a k : Nat) : Option Nat := match jgf ci h a k with
  | some (.ref x) => some x
  | _ => none
/-- a reference or null -/
def jgQ (ci : Nat) (h : jH) (a k : Nat) : Option (Option Nat) := match jgf ci h a k with
  | some (.ref x) => some (some x)
  | some .null => some none
  | _ => none
def jpf (ci : Nat) (h : jH) (a k : Nat) (v : Value) : Option jH := match h.2 a with
  | some (.inl o) => if o.1 = ci ∧ k < o.2.length then some (jup h a (.inl (o.1, o.2.set k v))) else none
  | _ => none
def jal (t : Nat) (h : jH) (a : Nat) (i : Int32) : Option Int32 := match h.2 a with
  | some (.inr (.inl x)) => if x.1 = t ∧ ¬ (i < 0 ∨ x.2.1 ≤ i.toNatClampNeg) then some (x.2.2 i.toNatClampNeg) else none
  | _ => none
def jnar (t : Nat) (x : Int32) : Int32 := if t = 1 then x.toInt8.toInt32 else x
def jas (t : Nat) (h : jH) (a : Nat) (i x : Int32) : Option jH := match h.2 a with
  | some (.inr (.inl y)) => if y.1 = t ∧ ¬ (i < 0 ∨ y.2.1 ≤ i.toNatClampNeg) ∧ (t = 2 → x = 0 ∨ x = 1) then some (jup h a (.inr (.inl (t, y.2.1, upd y.2.2 i.toNatClampNeg (jnar t x))))) else none
  | _ => none
def jlen (h : jH) (a : Nat) : Option Int32 := match h.2 a with
  | some (.inr (.inl x)) => if x.1 < 3 then some (Int32.ofNat x.2.1) else none
  | _ => none
def jalq (h : jH) (a : Nat) (i : Int32) : Option (Option Nat) := match h.2 a with
  | some (.inr (.inr (.inl x))) => if ¬ (i < 0 ∨ x.1 ≤ i.toNatClampNeg) then some (x.2 i.toNatClampNeg) else none
  | _ => none
def jasq (ci : Nat) (h : jH) (a : Nat) (i : Int32) (v : Nat) : Option jH := match h.2 a, h.2 v with
  | some (.inr (.inr (.inl x))), some (.inl o) => if ¬ (i < 0 ∨ x.1 ≤ i.toNatClampNeg) ∧ o.1 = ci then some (jup h a (.inr (.inr (.inl (x.1, va_up x.2 i.toNatClampNeg (some v)))))) else none
  | _, _ => none
def jall_ (h : jH) (a : Nat) (i : Int32) : Option Int64 := match h.2 a with
  | some (.inr (.inr (.inr x))) => if ¬ (i < 0 ∨ x.1 ≤ i.toNatClampNeg) then some (x.2 i.toNatClampNeg) else none
  | _ => none
def jasl (h : jH) (a : Nat) (i : Int32) (v : Int64) : Option jH := match h.2 a with
  | some (.inr (.inr (.inr x))) => if ¬ (i < 0 ∨ x.1 ≤ i.toNatClampNeg) then some (jup h a (.inr (.inr (.inr (x.1, vp_updL x.2 i.toNatClampNeg v))))) else none
  | _ => none
/-- System.arraycopy of ints -/
def jcp (h : jH) (a0 : Nat) (sp : Int32) (a : Nat) (dp n : Int32) : Option jH := match h.2 a0, h.2 a with
  | some (.inr (.inl x)), some (.inr (.inl y)) =>
    if x.1 = 0 ∧ y.1 = 0 ∧ ¬ sp < 0 ∧ ¬ dp < 0 ∧ ¬ n < 0 ∧ sp.toNatClampNeg + n.toNatClampNeg ≤ x.2.1 ∧ dp.toNatClampNeg + n.toNatClampNeg ≤ y.2.1 then some (jup h a (.inr (.inl (0, y.2.1, va_cpy x.2.2 y.2.2 sp.toNatClampNeg dp.toNatClampNeg n.toNatClampNeg)))) else none
  | _, _ => none
theorem jgI_f {ci : Nat} {h : jH} {a k : Nat} {x : Int32} (e : jgI ci h a k = some x) : jgf ci h a k = some (.int x) := by
  unfold jgI at e
  split at e
  · cases e; assumption
  · cases e
theorem jgR_f {ci : Nat} {h : jH} {a k x : Nat} (e : jgR ci h a k = some x) : jgf ci h a k = some (.ref x) := by
  unfold jgR at e
  split at e
  · cases e; assumption
  · cases e
theorem jgQ_f {ci : Nat} {h : jH} {a k : Nat} {x : Option Nat} (e : jgQ ci h a k = some x) : jgf ci h a k = some (va_rf x) := by
  unfold jgQ at e
  split at e
  · cases e; assumption
  · cases e; assumption
  · cases e
theorem jgf_o {ci : Nat} {h : jH} {a k : Nat} {v : Value} (e : jgf ci h a k = some v) : ∃ fs, h.2 a = some (.inl (ci, fs)) ∧ fs[k]? = some v := by
  unfold jgf at e
  split at e
  · rename_i o ho
    split at e
    · rename_i hc
      exact ⟨o.2, by rw [ho, ← hc], e⟩
    · cases e
  · cases e
theorem jpf_o {ci : Nat} {h h1 : jH} {a k : Nat} {v : Value} (e : jpf ci h a k v = some h1) : ∃ fs, h.2 a = some (.inl (ci, fs)) ∧ k < fs.length ∧ h1 = jup h a (.inl (ci, fs.set k v)) := by
  unfold jpf at e
  split at e
  · rename_i o ho
    split at e
    · rename_i hc
      cases e
      exact ⟨o.2, by rw [ho, ← hc.1], hc.2, by rw [← hc.1]⟩
    · cases e
  · cases e
theorem jal_o {t : Nat} {h : jH} {a : Nat} {i x : Int32} (e : jal t h a i = some x) : ∃ n f, h.2 a = some (.inr (.inl (t, n, f))) ∧ vp_in i n ∧ x = f i.toNatClampNeg := by
  unfold jal at e
  split at e
  · rename_i y hy
    split at e
    · rename_i hc
      cases e
      exact ⟨y.2.1, y.2.2, by rw [hy, ← hc.1], hc.2, rfl⟩
    · cases e
  · cases e
theorem jas_o {t : Nat} {h h1 : jH} {a : Nat} {i x : Int32} (e : jas t h a i x = some h1) : ∃ n f, h.2 a = some (.inr (.inl (t, n, f))) ∧ vp_in i n ∧ (t = 2 → x = 0 ∨ x = 1) ∧ h1 = jup h a (.inr (.inl (t, n, upd f i.toNatClampNeg (jnar t x)))) := by
  unfold jas at e
  split at e
  · rename_i y hy
    split at e
    · rename_i hc
      cases e
      exact ⟨y.2.1, y.2.2, by rw [hy, ← hc.1], hc.2.1, hc.2.2, rfl⟩
    · cases e
  · cases e
theorem jlen_o {h : jH} {a : Nat} {x : Int32} (e : jlen h a = some x) : ∃ t n f, h.2 a = some (.inr (.inl (t, n, f))) ∧ t < 3 ∧ x = Int32.ofNat n := by
  unfold jlen at e
  split at e
  · rename_i y hy
    split at e
    · rename_i hc
      cases e
      exact ⟨y.1, y.2.1, y.2.2, hy, hc, rfl⟩
    · cases e
  · cases e
theorem jalq_o {h : jH} {a : Nat} {i : Int32} {x : Option Nat} (e : jalq h a i = some x) : ∃ n f, h.2 a = some (.inr (.inr (.inl (n, f)))) ∧ vp_in i n ∧ x = f i.toNatClampNeg := by
  unfold jalq at e
  split at e
  · rename_i y hy
    split at e
    · rename_i hc
      cases e
      exact ⟨y.1, y.2, hy, hc, rfl⟩
    · cases e
  · cases e
theorem jasq_o {ci : Nat} {h h1 : jH} {a v : Nat} {i : Int32} (e : jasq ci h a i v = some h1) : ∃ n f fs, h.2 a = some (.inr (.inr (.inl (n, f)))) ∧ h.2 v = some (.inl (ci, fs)) ∧ vp_in i n ∧ h1 = jup h a (.inr (.inr (.inl (n, va_up f i.toNatClampNeg (some v))))) := by
  unfold jasq at e
  split at e
  · rename_i y o hy ho
    split at e
    · rename_i hc
      cases e
      exact ⟨y.1, y.2, o.2, hy, by rw [ho, ← hc.2], hc.1, rfl⟩
    · cases e
  · cases e
theorem jall_o {h : jH} {a : Nat} {i : Int32} {x : Int64} (e : jall_ h a i = some x) : ∃ n f, h.2 a = some (.inr (.inr (.inr (n, f)))) ∧ vp_in i n ∧ x = f i.toNatClampNeg := by
  unfold jall_ at e
  split at e
  · rename_i y hy
    split at e
    · rename_i hc
      cases e
      exact ⟨y.1, y.2, hy, hc, rfl⟩
    · cases e
  · cases e
theorem jasl_o {h h1 : jH} {a : Nat} {i : Int32} {v : Int64} (e : jasl h a i v = some h1) : ∃ n f, h.2 a = some (.inr (.inr (.inr (n, f)))) ∧ vp_in i n ∧ h1 = jup h a (.inr (.inr (.inr (n, vp_updL f i.toNatClampNeg v)))) := by
  unfold jasl at e
  split at e
  · rename_i y hy
    split at e
    · rename_i hc
      cases e
      exact ⟨y.1, y.2, hy, hc, rfl⟩
    · cases e
  · cases e
theorem jcp_o {h h1 : jH} {a0 a : Nat} {sp dp n : Int32} (e : jcp h a0 sp a dp n = some h1) : ∃ n0 f n1 g, h.2 a0 = some (.inr (.inl (0, n0, f))) ∧ h.2 a = some (.inr (.inl (0, n1, g))) ∧ ¬ sp < 0 ∧ ¬ dp < 0 ∧ ¬ n < 0 ∧ sp.toNatClampNeg + n.toNatClampNeg ≤ n0 ∧ dp.toNatClampNeg + n.toNatClampNeg ≤ n1 ∧ h1 = jup h a (.inr (.inl (0, n1, va_cpy f g sp.toNatClampNeg dp.toNatClampNeg n.toNatClampNeg))) := by
  unfold jcp at e
  split at e
  · rename_i x y hx hy
    split at e
    · rename_i hc
      obtain ⟨c1, c2, c3, c4, c5, c6, c7⟩ := hc
      cases e
      exact ⟨x.2.1, x.2.2, y.2.1, y.2.2, by rw [hx, ← c1], by rw [hy, ← c2], c3, c4, c5, c6, c7, rfl⟩
    · cases e
  · cases e
/-! what a place in the code must link: a field read, a field written -/
def jFg (own : String) (idx ci k : Nat) : Prop := ∃ (C : String) (T : u_T) (N : Nat) (ref : String), vwCl[ci]? = some (C, T, N) ∧ (∀ w ∈ u_ws C T N, w ∈ lw_tbl) ∧ k < N ∧ Cond.fieldLink own idx ref (T k).2.1 (T k).2.2.1 ∈ jall ∧ ((T k).1 = ref ∨ Cond.sameField ref (T k).1 (T k).2.1 (T k).2.2.1 ∈ jall)
def jFp (own : String) (idx ci k : Nat) (fin : Bool) (ty : FieldType) : Prop := ∃ (C : String) (T : u_T) (N : Nat) (ty0 : Nat → FieldType), vwCl[ci]? = some (C, T, N) ∧ (∀ w ∈ u_ws C T N, w ∈ lw_tbl) ∧ (∀ k, k < N → parseFieldDescriptor (T k).2.2.1 = some (ty0 k)) ∧ (∀ a, a < N → ∀ b, b < N → a ≠ b → (T a).2.1 ≠ (T b).2.1) ∧ k < N ∧ Cond.fieldLink own idx (T k).1 (T k).2.1 (T k).2.2.1 ∈ jall ∧ (T k).2.2.2 = fin ∧ parseFieldDescriptor (T k).2.2.1 = some ty ∧ (fin = true → (T k).1 = own)
/-- an object is made: its class, its fields as they are born -/
def jFn (own : String) (idx ci N : Nat) (fs : List Value) : Prop := ∃ (C : String) (T : u_T) (ty0 : Nat → FieldType), vwCl[ci]? = some (C, T, N) ∧ (∀ w ∈ u_ws C T N, w ∈ lw_tbl) ∧ (∀ k, k < N → parseFieldDescriptor (T k).2.2.1 = some (ty0 k)) ∧ Cond.classLink own idx C ∈ jall ∧ Cond.instantiable C N ∈ jall ∧ Cond.initialized C ∈ jall ∧ ∀ j, j < N → defaultValue (ty0 j) = vp_V fs j
theorem u_ws_good (C : String) (T : u_T) (N : Nat) : ∀ w ∈ u_ws C T N, goodWord w = true := by
  intro w hw
  obtain ⟨k, -, rfl⟩ := List.mem_map.mp hw
  unfold u_lay
  split <;> rfl
theorem u_ws_all {C : String} {T : u_T} {N : Nat} (h : ∀ w ∈ u_ws C T N, w ∈ lw_tbl) : ∀ w ∈ u_ws C T N, w ∈ jall := fun w hw => jall_in (h w hw) (u_ws_good C T N w hw)
theorem jRep.at {G : jG} {h : jH} {H : Heap} {a : Nat} {e : jE} (hR : jRep G h H) (he : h.2 a = some e) : va_P G.1 vwCl [(a, jtr G.2.1 e)] H := by
  intro k q hk
  cases k with
  | zero => cases hk; exact (hR.2 a e he).2
  | succ k => cases hk
theorem jRep.dom {G : jG} {h : jH} {H : Heap} {a : Nat} {e : jE} (hR : jRep G h H) (he : h.2 a = some e) : va_D (jA G) [(a, jtr G.2.1 e)] := by
  refine ⟨fun i j x y hi hj _ => ?_, fun k q hk => ?_⟩
  · have h1 : i < 1 := (List.getElem?_eq_some_iff.mp hi).1
    have h2 : j < 1 := (List.getElem?_eq_some_iff.mp hj).1
    omega
  · cases k with
    | zero => cases hk; exact (hR.2 a e he).1
    | succ k => cases hk
section JH
variable {G : jG} {l : Launch} {M : jM} {dep : Nat} {X : jX} {h h1 : jH} {kc ks pc : Nat} {L : List (Option Value)} {st : List Value} {a k i0 : Nat} {x i : Int32}
theorem jr_getf (K : jOK G l M dep X) {index ci : Nat} {v : Value} (hd : decode M.2.1 pc = .ok (.getfield index, 3)) (hf : jFg M.1.cls index ci k) (hg : jgf ci h a k = some v) (kk : jJ G X h kc ks (pc + 3) L (v :: st)) : jJ G X h kc ks pc L (.ref a :: st) := by
  obtain ⟨p, l9, e, R, s, m, args, below, meth, c, mc, ms, Q⟩ := X
  obtain ⟨hx, hb, hml, hr, hown, hts, hlk, hin, hE, hbs, hd1, hd2, hd3, hd4, rfl, hxt⟩ := K
  intro H locs cells slots ls hR hS hc1 hc2 hc hl
  obtain ⟨C, T, N, ref, f1, f2, f3, f4, f5⟩ := hf
  obtain ⟨fs, g1, g2⟩ := jgf_o hg
  refine va_get hx hb hts (u_ws_all f2) hown hE.1 (hR.at g1) 0 rfl f1 k f3 (hts _ f4) ?_ g2 hd (kk H locs cells slots ls hR hS hc1 hc2 hc hl)
  rcases f5 with f5 | f5
  · intro y hy; rw [← f5]; exact hy
  · exact fun y hy => u_same (hts _ f5) y hy
theorem jr_getI (K : jOK G l M dep X) {index ci : Nat} (hd : decode M.2.1 pc = .ok (.getfield index, 3)) (hf : jFg M.1.cls index ci k) (hg : jgI ci h a k = some x) (kk : jJ G X h kc ks (pc + 3) L (.int x :: st)) : jJ G X h kc ks pc L (.ref a :: st) := jr_getf K hd hf (jgI_f hg) kk
theorem jr_getR (K : jOK G l M dep X) {index ci y : Nat} (hd : decode M.2.1 pc = .ok (.getfield index, 3)) (hf : jFg M.1.cls index ci k) (hg : jgR ci h a k = some y) (kk : jJ G X h kc ks (pc + 3) L (.ref y :: st)) : jJ G X h kc ks pc L (.ref a :: st) := jr_getf K hd hf (jgR_f hg) kk
theorem jr_getQ (K : jOK G l M dep X) {index ci : Nat} {y : Option Nat} (hd : decode M.2.1 pc = .ok (.getfield index, 3)) (hf : jFg M.1.cls index ci k) (hg : jgQ ci h a k = some y) (kk : jJ G X h kc ks (pc + 3) L (va_rf y :: st)) : jJ G X h kc ks pc L (.ref a :: st) := jr_getf K hd hf (jgQ_f hg) kk
theorem jr_put (K : jOK G l M dep X) {index ci : Nat} {fin : Bool} {ty : FieldType} {v : Value} (hd : decode M.2.1 pc = .ok (.putfield index, 3)) (hf : jFp M.1.cls index ci k fin ty) (hfi : fin = false ∨ M.1.name = "<init>") (hn : narrow ty v = v) (hfit : fits ty v = true) (hg : jpf ci h a k v = some h1) (kk : jJ G X h1 kc ks (pc + 3) L st) : jJ G X h kc ks pc L (v :: .ref a :: st) := by
  obtain ⟨p, l9, e, R, s, m, args, below, meth, c, mc, ms, Q⟩ := X
  obtain ⟨hx, hb, hml, hr, hown, hts, hlk, hin, hE, hbs, hd1, hd2, hd3, hd4, rfl, hxt⟩ := K
  intro H locs cells slots ls hR hS hc1 hc2 hc hl
  obtain ⟨C, T, N, ty0, f1, f2, f3, f4, f5, f6, f7, f8, f9⟩ := hf
  obtain ⟨fs, g1, g2, rfl⟩ := jpf_o hg
  have hap := va_apart (own := M.1.cls) hts (u_ws_all f2) ty0 f3 f4 hE.1 f1
  obtain ⟨r, h8, cell, q1, q2, q3, q4⟩ := (hR.2 a _ g1).2
  have hr : r = (C, T, N) := Option.some.inj (h8.symm.trans f1)
  subst hr
  obtain ⟨hS9, hfc, kC, hkC, hkind⟩ := hE.1.1 ci _ f1
  obtain ⟨cf, kf, fi, f, hi, hsl⟩ := hS9 k f5
  have hlay := hts _ (u_ws_all f2 _ (u_in_lay f5))
  unfold u_lay at hlay
  have hst := (u_facts hfc hkC (u_lays hts (u_ws_all f2) f5) hi).1
  have key : ∀ (H' : Heap), H'[a]? = some (cell.setSlot f.slot v) → H'.size = H.size → (∀ q, q ≠ a → H'[q]? = H[q]?) → jRep G (jup h a (.inl (ci, fs.set k v))) H' ∧ va_S (jA G) s.heap H' (locs ++ [⟨a, f.slot⟩]) := by
    intro H' e1 e2 e3
    rw [hsl] at e1
    exact ⟨hR.put g1 ⟨_, f1, t_OB.to (V := updV (vp_V fs) k v) ⟨_, e1, q2, q3, t_set q4 hap f5 v⟩ (fun j _ => vp_updV_set g2 v j)⟩ e2 e3, hS.put e2 e3 (hR.2 a _ g1).1⟩
  cases fin with
  | false =>
    rw [if_neg (by rw [f7]; decide)] at hlay
    have h6 := u_store hfc hkC hkind hlay hi f8 hn hfit
    refine W.putK hx hb (f := f) ⟨hown, hts _ f6, ⟨_, _, _, hi⟩, hst⟩ (by rw [q2]; exact h6) q1 q3 (by rw [hsl]; exact k2_hasslot (q4 k f5)) rfl rfl hd fun H' e1 e2 e3 => ?_
    obtain ⟨r1, r2⟩ := key H' e1 e2 e3
    exact kk H' _ cells slots ls r1 r2 hc1 hc2 hc hl
  | true =>
    rw [if_pos f7] at hlay
    have hcf : m.cls = cf := by
      obtain ⟨_, _, c', _, _, _, -, -, hf', -, -, -, hown2, -⟩ := Cond.laysFinal_spec hlay
      have e1 : c' = cf := by have := hi.symm.trans hf'; simp at this; exact this.1.symm
      rw [f9 rfl] at hown2
      rw [← e1]; exact Option.some.inj (hown.symm.trans hown2)
    have hin2 : meth.name = "<init>" := by
      rcases hfi with q | q
      · cases q
      · rw [hin]; exact q
    have h6 := u_fits hfc hkC hkind (Or.inr hlay) hi f8 hn hfit
    refine W.putFinK hx hb hown (hts _ f6) hi hst hcf hin2 (by rw [q2]; exact h6) q1 q3 (by rw [hsl]; exact k2_hasslot (q4 k f5)) rfl rfl hd fun H' e1 e2 e3 => ?_
    obtain ⟨r1, r2⟩ := key H' e1 e2 e3
    exact kk H' _ cells slots ls r1 r2 hc1 hc2 hc hl
theorem jr_putI (K : jOK G l M dep X) {index ci : Nat} {fin : Bool} (hd : decode M.2.1 pc = .ok (.putfield index, 3)) (hf : jFp M.1.cls index ci k fin .int) (hfi : fin = false ∨ M.1.name = "<init>") (hg : jpf ci h a k (.int x) = some h1) (kk : jJ G X h1 kc ks (pc + 3) L st) : jJ G X h kc ks pc L (.int x :: .ref a :: st) := jr_put K hd hf hfi rfl rfl hg kk
theorem jr_putZ (K : jOK G l M dep X) {index ci : Nat} {fin : Bool} (hd : decode M.2.1 pc = .ok (.putfield index, 3)) (hf : jFp M.1.cls index ci k fin .boolean) (hfi : fin = false ∨ M.1.name = "<init>") (hz : x = 0 ∨ x = 1) (hg : jpf ci h a k (.int x) = some h1) (kk : jJ G X h1 kc ks (pc + 3) L st) : jJ G X h kc ks pc L (.int x :: .ref a :: st) := jr_put K hd hf hfi (by rcases hz with rfl | rfl <;> rfl) (by rcases hz with rfl | rfl <;> rfl) hg kk
theorem jr_putR (K : jOK G l M dep X) {index ci y : Nat} {fin : Bool} {C : String} (hd : decode M.2.1 pc = .ok (.putfield index, 3)) (hf : jFp M.1.cls index ci k fin (.object C)) (hfi : fin = false ∨ M.1.name = "<init>") (hg : jpf ci h a k (.ref y) = some h1) (kk : jJ G X h1 kc ks (pc + 3) L st) : jJ G X h kc ks pc L (.ref y :: .ref a :: st) := jr_put K hd hf hfi rfl rfl hg kk
theorem jr_putA (K : jOK G l M dep X) {index ci y : Nat} {fin : Bool} {C : FieldType} (hd : decode M.2.1 pc = .ok (.putfield index, 3)) (hf : jFp M.1.cls index ci k fin (.array C)) (hfi : fin = false ∨ M.1.name = "<init>") (hg : jpf ci h a k (.ref y) = some h1) (kk : jJ G X h1 kc ks (pc + 3) L st) : jJ G X h kc ks pc L (.ref y :: .ref a :: st) := jr_put K hd hf hfi rfl rfl hg kk
theorem jr_iald (K : jOK G l M dep X) (hd : decode M.2.1 pc = .ok (.iaload, 1)) (hg : jal 0 h a i = some x) (kk : jJ G X h kc ks (pc + 1) L (.int x :: st)) : jJ G X h kc ks pc L (.int i :: .ref a :: st) := by
  obtain ⟨p, l9, e, R, s, m, args, below, meth, c, mc, ms, Q⟩ := X
  obtain ⟨hx, hb, hml, hr, hown, hts, hlk, hin, hE, hbs, hd1, hd2, hd3, hd4, rfl, hxt⟩ := K
  intro H locs cells slots ls hR hS hc1 hc2 hc hl
  obtain ⟨n, f, g1, g2, rfl⟩ := jal_o hg
  exact va_iald hx hb hE.1 (hR.at g1) 0 0 rfl rfl g2 hd (kk H locs cells slots ls hR hS hc1 hc2 hc hl)
theorem jr_bald (K : jOK G l M dep X) (hd : decode M.2.1 pc = .ok (.baload, 1)) (hg : jal 1 h a i = some x) (kk : jJ G X h kc ks (pc + 1) L (.int x :: st)) : jJ G X h kc ks pc L (.int i :: .ref a :: st) := by
  obtain ⟨p, l9, e, R, s, m, args, below, meth, c, mc, ms, Q⟩ := X
  obtain ⟨hx, hb, hml, hr, hown, hts, hlk, hin, hE, hbs, hd1, hd2, hd3, hd4, rfl, hxt⟩ := K
  intro H locs cells slots ls hR hS hc1 hc2 hc hl
  obtain ⟨n, f, g1, g2, rfl⟩ := jal_o hg
  exact va_bald hx hb hE.1 (hR.at g1) 0 1 rfl rfl g2 hd (kk H locs cells slots ls hR hS hc1 hc2 hc hl)
theorem jr_zald (K : jOK G l M dep X) (hd : decode M.2.1 pc = .ok (.baload, 1)) (hg : jal 2 h a i = some x) (kk : jJ G X h kc ks (pc + 1) L (.int x :: st)) : jJ G X h kc ks pc L (.int i :: .ref a :: st) := by
  obtain ⟨p, l9, e, R, s, m, args, below, meth, c, mc, ms, Q⟩ := X
  obtain ⟨hx, hb, hml, hr, hown, hts, hlk, hin, hE, hbs, hd1, hd2, hd3, hd4, rfl, hxt⟩ := K
  intro H locs cells slots ls hR hS hc1 hc2 hc hl
  obtain ⟨n, f, g1, g2, rfl⟩ := jal_o hg
  exact va_zald hx hb hE.1 (hR.at g1) 0 2 rfl rfl g2 hd (kk H locs cells slots ls hR hS hc1 hc2 hc hl)
theorem jr_lald (K : jOK G l M dep X) {v : Int64} (hd : decode M.2.1 pc = .ok (.laload, 1)) (hg : jall_ h a i = some v) (kk : jJ G X h kc ks (pc + 1) L (.long v :: st)) : jJ G X h kc ks pc L (.int i :: .ref a :: st) := by
  obtain ⟨p, l9, e, R, s, m, args, below, meth, c, mc, ms, Q⟩ := X
  obtain ⟨hx, hb, hml, hr, hown, hts, hlk, hin, hE, hbs, hd1, hd2, hd3, hd4, rfl, hxt⟩ := K
  intro H locs cells slots ls hR hS hc1 hc2 hc hl
  obtain ⟨n, f, g1, g2, rfl⟩ := jall_o hg
  exact va_lald hx hb hE.1 (hR.at g1) 0 3 rfl rfl g2 hd (kk H locs cells slots ls hR hS hc1 hc2 hc hl)
theorem jr_aald (K : jOK G l M dep X) {y : Option Nat} (hd : decode M.2.1 pc = .ok (.aaload, 1)) (hg : jalq h a i = some y) (kk : jJ G X h kc ks (pc + 1) L (va_rf y :: st)) : jJ G X h kc ks pc L (.int i :: .ref a :: st) := by
  obtain ⟨p, l9, e, R, s, m, args, below, meth, c, mc, ms, Q⟩ := X
  obtain ⟨hx, hb, hml, hr, hown, hts, hlk, hin, hE, hbs, hd1, hd2, hd3, hd4, rfl, hxt⟩ := K
  intro H locs cells slots ls hR hS hc1 hc2 hc hl
  obtain ⟨n, f, g1, g2, rfl⟩ := jalq_o hg
  exact va_aldq hx hb hE.1 (hR.at g1) 0 4 rfl rfl g2 hd (kk H locs cells slots ls hR hS hc1 hc2 hc hl)
theorem jr_alen (K : jOK G l M dep X) (hd : decode M.2.1 pc = .ok (.arraylength, 1)) (hg : jlen h a = some x) (kk : jJ G X h kc ks (pc + 1) L (.int x :: st)) : jJ G X h kc ks pc L (.ref a :: st) := by
  obtain ⟨p, l9, e, R, s, m, args, below, meth, c, mc, ms, Q⟩ := X
  obtain ⟨hx, hb, hml, hr, hown, hts, hlk, hin, hE, hbs, hd1, hd2, hd3, hd4, rfl, hxt⟩ := K
  intro H locs cells slots ls hR hS hc1 hc2 hc hl
  obtain ⟨t, n, f, g1, g2, rfl⟩ := jlen_o hg
  have k0 := kk H locs cells slots ls hR hS hc1 hc2 hc hl
  match t, g2, g1 with
  | 0, _, g1 => exact va_alen hx hb hE.1 (hR.at g1) 0 0 rfl rfl rfl hd k0
  | 1, _, g1 => exact va_alen hx hb hE.1 (hR.at g1) 0 1 rfl rfl rfl hd k0
  | 2, _, g1 => exact va_alen hx hb hE.1 (hR.at g1) 0 2 rfl rfl rfl hd k0
theorem jr_iast (K : jOK G l M dep X) (hd : decode M.2.1 pc = .ok (.iastore, 1)) (hg : jas 0 h a i x = some h1) (kk : jJ G X h1 kc ks (pc + 1) L st) : jJ G X h kc ks pc L (.int x :: .int i :: .ref a :: st) := by
  obtain ⟨p, l9, e, R, s, m, args, below, meth, c, mc, ms, Q⟩ := X
  obtain ⟨hx, hb, hml, hr, hown, hts, hlk, hin, hE, hbs, hd1, hd2, hd3, hd4, rfl, hxt⟩ := K
  intro H locs cells slots ls hR hS hc1 hc2 hc hl
  obtain ⟨n, f, g1, g2, -, rfl⟩ := jas_o hg
  refine W.iast hx hb (hR.2 a _ g1).2 ((hE.1.2 0 _ rfl).1 n (fun j => .int (f j))) (fun q => by cases q) (by show ¬ (i < 0 ∨ (arrV _ _ _).slots.size ≤ _); rw [arrV_size]; exact g2) rfl rfl hd fun H1 e z oq => ?_
  refine kk H1 _ cells slots ls (hR.put g1 ?_ z oq) (hS.put z oq (hR.2 a _ g1).1) hc1 hc2 hc hl
  show H1[a]? = some (vp_cell _ _)
  rw [e]
  show some (_ : Cell) = some (vp_cell (G.2.1 0) (n, Sum.inl (upd f i.toNatClampNeg (jnar 0 x))))
  rw [show (jtr G.2.1 (.inr (.inl (0, n, f)))) = .inl (G.2.1 0, n, .inl f) from rfl] at *
  rw [vp_cell_i, vp_cell_i, arrV_store]
  congr 2
  funext q
  by_cases hq : q = i.toNatClampNeg
  · subst hq
    simp [updV, upd, jnar]
  · simp [updV, upd, hq]
end JH
end
section
/-! more rows over pure heaps: stores of bytes, booleans, longs, references; what is made; static rows; Math; arraycopy; ends; calls; throws -/
section JC
variable {G : jG} {l : Launch} {M : jM} {dep : Nat} {X : jX} {h h1 : jH} {kc ks pc : Nat} {L : List (Option Value)} {st : List Value} {a k i0 : Nat} {x i : Int32}
theorem jr_bast (K : jOK G l M dep X) (hd : decode M.2.1 pc = .ok (.bastore, 1)) (hg : jas 1 h a i x = some h1) (kk : jJ G X h1 kc ks (pc + 1) L st) : jJ G X h kc ks pc L (.int x :: .int i :: .ref a :: st) := by
  obtain ⟨p, l9, e, R, s, m, args, below, meth, c, mc, ms, Q⟩ := X
  obtain ⟨hx, hb, hml, hr, hown, hts, hlk, hin, hE, hbs, hd1, hd2, hd3, hd4, rfl, hxt⟩ := K
  intro H locs cells slots ls hR hS hc1 hc2 hc hl
  obtain ⟨n, f, g1, g2, -, rfl⟩ := jas_o hg
  have g3 : H[a]? = some (vp_cell (G.2.1 1) (n, .inl f)) := (hR.2 a _ g1).2
  refine W.bast hx hb g3 ((hE.1.2 1 _ rfl).1 n (fun j => .int (f j))) (fun q => by cases q) (by show ¬ (i < 0 ∨ (arrV _ _ _).slots.size ≤ _); rw [arrV_size]; exact g2) rfl rfl hd fun H1 e z oq => ?_
  refine kk H1 _ cells slots ls (hR.put g1 ?_ z oq) (hS.put z oq (hR.2 a _ g1).1) hc1 hc2 hc hl
  show H1[a]? = some (vp_cell (G.2.1 1) (n, .inl (upd f i.toNatClampNeg (jnar 1 x))))
  rw [e]
  rw [vp_cell_i, vp_cell_i, arrV_store]
  congr 2
  funext q
  by_cases hq : q = i.toNatClampNeg
  · subst hq
    simp [updV, upd, jnar]
    try rfl
  · simp [updV, upd, hq]
theorem jr_zast (K : jOK G l M dep X) (hd : decode M.2.1 pc = .ok (.bastore, 1)) (hg : jas 2 h a i x = some h1) (kk : jJ G X h1 kc ks (pc + 1) L st) : jJ G X h kc ks pc L (.int x :: .int i :: .ref a :: st) := by
  obtain ⟨p, l9, e, R, s, m, args, below, meth, c, mc, ms, Q⟩ := X
  obtain ⟨hx, hb, hml, hr, hown, hts, hlk, hin, hE, hbs, hd1, hd2, hd3, hd4, rfl, hxt⟩ := K
  intro H locs cells slots ls hR hS hc1 hc2 hc hl
  obtain ⟨n, f, g1, g2, gz, rfl⟩ := jas_o hg
  have g3 : H[a]? = some (vp_cell (G.2.1 2) (n, .inl f)) := (hR.2 a _ g1).2
  refine W.zast hx hb g3 ((hE.1.2 2 _ rfl).1 n (fun j => .int (f j))) (fun q => by cases q) (by show ¬ (i < 0 ∨ (arrV _ _ _).slots.size ≤ _); rw [arrV_size]; exact g2) rfl rfl hd fun H1 e z oq => ?_
  refine kk H1 _ cells slots ls (hR.put g1 ?_ z oq) (hS.put z oq (hR.2 a _ g1).1) hc1 hc2 hc hl
  show H1[a]? = some (vp_cell (G.2.1 2) (n, .inl (upd f i.toNatClampNeg (jnar 2 x))))
  rw [e]
  rw [vp_cell_i, vp_cell_i, arrV_store]
  congr 2
  funext q
  have hnz : narrow .boolean (.int x) = .int x := by rcases gz rfl with rfl | rfl <;> rfl
  by_cases hq : q = i.toNatClampNeg
  · subst hq
    simp [updV, upd, jnar, hnz]
  · simp [updV, upd, hq]
theorem jr_last (K : jOK G l M dep X) {v : Int64} (hd : decode M.2.1 pc = .ok (.lastore, 1)) (hg : jasl h a i v = some h1) (kk : jJ G X h1 kc ks (pc + 1) L st) : jJ G X h kc ks pc L (.long v :: .int i :: .ref a :: st) := by
  obtain ⟨p, l9, e, R, s, m, args, below, meth, c, mc, ms, Q⟩ := X
  obtain ⟨hx, hb, hml, hr, hown, hts, hlk, hin, hE, hbs, hd1, hd2, hd3, hd4, rfl, hxt⟩ := K
  intro H locs cells slots ls hR hS hc1 hc2 hc hl
  obtain ⟨n, f, g1, g2, rfl⟩ := jasl_o hg
  have g3 : H[a]? = some (vp_cell (G.2.1 3) (n, .inr (.inl f))) := (hR.2 a _ g1).2
  refine W.last hx hb g3 ((hE.1.2 3 _ rfl).1 n (fun j => .long (f j))) (fun q => by cases q) (by show ¬ (i < 0 ∨ (arrV _ _ _).slots.size ≤ _); rw [arrV_size]; exact g2) rfl rfl hd fun H1 e z oq => ?_
  refine kk H1 _ cells slots ls (hR.put g1 ?_ z oq) (hS.put z oq (hR.2 a _ g1).1) hc1 hc2 hc hl
  show H1[a]? = some (vp_cell (G.2.1 3) (n, .inr (.inl (vp_updL f i.toNatClampNeg v))))
  rw [e]
  rw [vp_cell_l, vp_cell_l, arrV_store]
  congr 2
  funext q
  by_cases hq : q = i.toNatClampNeg
  · subst hq
    simp [updV, vp_updL]
  · simp [updV, vp_updL, hq]
theorem jr_aast (K : jOK G l M dep X) {v : Nat} (hd : decode M.2.1 pc = .ok (.aastore, 1)) (hg : jasq 6 h a i v = some h1) (kk : jJ G X h1 kc ks (pc + 1) L st) : jJ G X h kc ks pc L (.ref v :: .int i :: .ref a :: st) := by
  obtain ⟨p, l9, e, R, s, m, args, below, meth, c, mc, ms, Q⟩ := X
  obtain ⟨hx, hb, hml, hr, hown, hts, hlk, hin, hE, hbs, hd1, hd2, hd3, hd4, rfl, hxt⟩ := K
  intro H locs cells slots ls hR hS hc1 hc2 hc hl
  obtain ⟨n, f, fs, g1, gv, g2, rfl⟩ := jasq_o hg
  have g3 : H[a]? = some (vp_cell (G.2.1 4) (n, .inr (.inr (.inr (.inr f))))) := (hR.2 a _ g1).2
  have hlt : i.toNatClampNeg < n := Nat.not_le.mp fun q => g2 (Or.inr q)
  have h0 : ¬ i < 0 := fun q => g2 (Or.inl q)
  obtain ⟨r', hr', cellV, q1, q2, q3, -⟩ := (hR.2 v _ gv).2
  have hcr : r' = (RX8, TX8, 18) := (Option.some.inj hr').symm
  subst hcr
  have hcls := (hE.1.1 6 _ rfl).2
  obtain ⟨kA, comp, k1, k2, k3, -⟩ := (hE.1.2 4 _ rfl).2
  have hcomp : comp = G.1.1 6 := Option.some.inj (k3.symm.trans hcls.1)
  subst hcomp
  obtain ⟨kC, hkC, -⟩ := hcls.2
  refine W.aast hx hb g3 (fun q h => by cases h) (fun h => by cases h) k1 k2 rfl hkC ⟨h0, by show _ < (arrV _ _ _).slots.size; rw [arrV_size]; exact hlt⟩ q1 (fun q h => by rw [q3] at h; cases h) (by rw [q2]; exact hkC) (by rw [q2]; exact va_assign hcls) rfl rfl hd fun H1 e z oq => ?_
  refine kk H1 _ cells slots ls (hR.put g1 ?_ z oq) (hS.put z oq (hR.2 a _ g1).1) hc1 hc2 hc hl
  show H1[a]? = some (vp_cell (G.2.1 4) (n, .inr (.inr (.inr (.inr (va_up f i.toNatClampNeg (some v)))))))
  rw [e]
  rw [vp_cell_q, vp_cell_q, arrV_store]
  congr 2
  funext q
  by_cases hq : q = i.toNatClampNeg
  · subst hq
    simp [updV, va_up, va_rf]
  · simp [updV, va_up, hq]
theorem va_S.push9 {A : Nat → Prop} {H0 H H1 : Heap} {locs : List Loc} (h : va_S A H0 H locs) (z : H1.size = H.size + 1) (oq : ∀ q : Nat, q < H.size → H1[q]? = H[q]?) : va_S A H0 H1 locs :=
  ⟨Nat.le_trans h.1 (by omega), fun q h1 h2 => (oq q (Nat.lt_of_lt_of_le h1 h.1)).trans (h.2.1 q h1 h2), h.2.2⟩
/-- new C: the cell of the next number -/
theorem jr_new (K : jOK G l M dep X) {index ci N : Nat} {fs : List Value} (hd : decode M.2.1 pc = .ok (.new index, 3)) (hf : jFn M.1.cls index ci N fs) (kk : jJ G X (jnew h (.inl (ci, fs))) kc ks (pc + 3) L (.ref h.1 :: st)) : jJ G X h (kc + 1) (ks + N) pc L st := by
  obtain ⟨p, l9, e, R, s, m, args, below, meth, c, mc, ms, Q⟩ := X
  obtain ⟨hx, hb, hml, hr, hown, hts, hlk, hin, hE, hbs, hd1, hd2, hd3, hd4, rfl, hxt⟩ := K
  intro H locs cells slots ls hR hS hc1 hc2 hc hl
  obtain ⟨C, T, ty0, f1, f2, f3, f4, f5, f6, f7⟩ := hf
  have hKn := hE.1.1 ci _ f1
  refine W.newcK hx hb hown (hts _ f4) (hts _ f5) (hts _ f6) rfl hd (by omega) (by omega) hKn.2.1 rfl fun H1 kC hkC e1 z1 o1 => ?_
  have key := kk H1 locs (cells + 1) (slots + N) ls (hR.mk (Nat.le_trans hbs hS.1) ⟨_, f1, (u_born ty0 hts (u_ws_all f2) hKn hkC e1 f3).to f7⟩ z1 o1) (hS.push9 z1 o1) (by omega) (by omega) hc hl
  rw [hR.1]
  exact key
/-- new int[n], byte[n], boolean[n], long[n] -/
theorem jr_newI (K : jOK G l M dep X) {N : Nat} {n : Int32} (hd : decode M.2.1 pc = .ok (.newarray .int, 2)) (hw : Cond.arrayClass .int ∈ jall) (hn : ¬ n < 0) (hN : n.toNatClampNeg = N) (hN2 : N * 4 ≤ 536870912) (kk : jJ G X (jnew h (.inr (.inl (0, N, fun _ => 0)))) kc ks (pc + 2) L (.ref h.1 :: st)) : jJ G X h (kc + 1) (ks + N) pc L (.int n :: st) := by
  obtain ⟨p, l9, e, R, s, m, args, below, meth, c, mc, ms, Q⟩ := X
  obtain ⟨hx, hb, hml, hr, hown, hts, hlk, hin, hE, hbs, hd1, hd2, hd3, hd4, rfl, hxt⟩ := K
  intro H locs cells slots ls hR hS hc1 hc2 hc hl
  refine va_newaK (atype := .int) hx hb (hts _ hw) rfl hd rfl hn hN hN2 (by omega) (by omega) rfl fun H1 cA e1 z1 o1 hAr hNm => ?_
  have hcA : cA = G.2.1 0 := Option.some.inj (hNm.symm.trans (hE.1.2 0 _ rfl).2)
  subst hcA
  have key := kk H1 locs (cells + 1) (slots + N) ls (hR.mk (Nat.le_trans hbs hS.1) (by show H1[H.size]? = some (vp_cell _ _); rw [vp_cell_i]; exact e1) z1 o1) (hS.push9 z1 o1) (by omega) (by omega) hc hl
  rw [hR.1]
  exact key
theorem jr_newB (K : jOK G l M dep X) {N : Nat} {n : Int32} (hd : decode M.2.1 pc = .ok (.newarray .byte, 2)) (hw : Cond.arrayClass .byte ∈ jall) (hn : ¬ n < 0) (hN : n.toNatClampNeg = N) (hN2 : N * 1 ≤ 536870912) (kk : jJ G X (jnew h (.inr (.inl (1, N, fun _ => 0)))) kc ks (pc + 2) L (.ref h.1 :: st)) : jJ G X h (kc + 1) (ks + N) pc L (.int n :: st) := by
  obtain ⟨p, l9, e, R, s, m, args, below, meth, c, mc, ms, Q⟩ := X
  obtain ⟨hx, hb, hml, hr, hown, hts, hlk, hin, hE, hbs, hd1, hd2, hd3, hd4, rfl, hxt⟩ := K
  intro H locs cells slots ls hR hS hc1 hc2 hc hl
  refine va_newaK (atype := .byte) hx hb (hts _ hw) rfl hd rfl hn hN hN2 (by omega) (by omega) rfl fun H1 cA e1 z1 o1 hAr hNm => ?_
  have hcA : cA = G.2.1 1 := Option.some.inj (hNm.symm.trans (hE.1.2 1 _ rfl).2)
  subst hcA
  have key := kk H1 locs (cells + 1) (slots + N) ls (hR.mk (Nat.le_trans hbs hS.1) (by show H1[H.size]? = some (vp_cell _ _); rw [vp_cell_i]; exact e1) z1 o1) (hS.push9 z1 o1) (by omega) (by omega) hc hl
  rw [hR.1]
  exact key
theorem jr_newZ (K : jOK G l M dep X) {N : Nat} {n : Int32} (hd : decode M.2.1 pc = .ok (.newarray .boolean, 2)) (hw : Cond.arrayClass .boolean ∈ jall) (hn : ¬ n < 0) (hN : n.toNatClampNeg = N) (hN2 : N * 1 ≤ 536870912) (kk : jJ G X (jnew h (.inr (.inl (2, N, fun _ => 0)))) kc ks (pc + 2) L (.ref h.1 :: st)) : jJ G X h (kc + 1) (ks + N) pc L (.int n :: st) := by
  obtain ⟨p, l9, e, R, s, m, args, below, meth, c, mc, ms, Q⟩ := X
  obtain ⟨hx, hb, hml, hr, hown, hts, hlk, hin, hE, hbs, hd1, hd2, hd3, hd4, rfl, hxt⟩ := K
  intro H locs cells slots ls hR hS hc1 hc2 hc hl
  refine va_newaK (atype := .boolean) hx hb (hts _ hw) rfl hd rfl hn hN hN2 (by omega) (by omega) rfl fun H1 cA e1 z1 o1 hAr hNm => ?_
  have hcA : cA = G.2.1 2 := Option.some.inj (hNm.symm.trans (hE.1.2 2 _ rfl).2)
  subst hcA
  have key := kk H1 locs (cells + 1) (slots + N) ls (hR.mk (Nat.le_trans hbs hS.1) (by show H1[H.size]? = some (vp_cell _ _); rw [vp_cell_i]; exact e1) z1 o1) (hS.push9 z1 o1) (by omega) (by omega) hc hl
  rw [hR.1]
  exact key
theorem jr_newL (K : jOK G l M dep X) {N : Nat} {n : Int32} (hd : decode M.2.1 pc = .ok (.newarray .long, 2)) (hw : Cond.arrayClass .long ∈ jall) (hn : ¬ n < 0) (hN : n.toNatClampNeg = N) (hN2 : N * 8 ≤ 536870912) (kk : jJ G X (jnew h (.inr (.inr (.inr (N, fun _ => 0))))) kc ks (pc + 2) L (.ref h.1 :: st)) : jJ G X h (kc + 1) (ks + N) pc L (.int n :: st) := by
  obtain ⟨p, l9, e, R, s, m, args, below, meth, c, mc, ms, Q⟩ := X
  obtain ⟨hx, hb, hml, hr, hown, hts, hlk, hin, hE, hbs, hd1, hd2, hd3, hd4, rfl, hxt⟩ := K
  intro H locs cells slots ls hR hS hc1 hc2 hc hl
  refine va_newaK (atype := .long) hx hb (hts _ hw) rfl hd rfl hn hN hN2 (by omega) (by omega) rfl fun H1 cA e1 z1 o1 hAr hNm => ?_
  have hcA : cA = G.2.1 3 := Option.some.inj (hNm.symm.trans (hE.1.2 3 _ rfl).2)
  subst hcA
  have key := kk H1 locs (cells + 1) (slots + N) ls (hR.mk (Nat.le_trans hbs hS.1) (by show H1[H.size]? = some (vp_cell _ _); rw [vp_cell_l]; exact e1) z1 o1) (hS.push9 z1 o1) (by omega) (by omega) hc hl
  rw [hR.1]
  exact key
/-- new Rod[n] -/
theorem jr_newQ (K : jOK G l M dep X) {N index : Nat} {n : Int32} (hd : decode M.2.1 pc = .ok (.anewarray index, 3)) (hw : Cond.classLink M.1.cls index "RodRings$Rod" ∈ jall) (hn : ¬ n < 0) (hN : n.toNatClampNeg = N) (hN2 : N * 4 ≤ 536870912) (kk : jJ G X (jnew h (.inr (.inr (.inl (N, fun _ => none))))) kc ks (pc + 3) L (.ref h.1 :: st)) : jJ G X h (kc + 1) (ks + N) pc L (.int n :: st) := by
  obtain ⟨p, l9, e, R, s, m, args, below, meth, c, mc, ms, Q⟩ := X
  obtain ⟨hx, hb, hml, hr, hown, hts, hlk, hin, hE, hbs, hd1, hd2, hd3, hd4, rfl, hxt⟩ := K
  intro H locs cells slots ls hR hS hc1 hc2 hc hl
  subst hN
  refine W.anew hx hb hown (hts _ hw) (va_AO.use hE.2.2.2.2.2.2.2.2.2.1.1) rfl hd rfl hn hN2 (by omega) (by omega) fun cA kA comp f1 f2 f3 f4 => ?_
  have hcA : cA = G.2.1 4 := by
    obtain ⟨kA9, comp9, _, _, _, j4⟩ := (hE.1.2 4 _ rfl).2
    exact Option.some.inj (f1.symm.trans j4)
  subst hcA
  generalize hH1 : H.push ({ cls := G.2.1 4, slots := Array.replicate n.toNatClampNeg .null, vm := .none } : Cell) = H1
  have z1 : H1.size = H.size + 1 := by rw [← hH1, Array.size_push]
  have e1 : H1[H.size]? = some (arrV (G.2.1 4) n.toNatClampNeg (fun _ => .null)) := by rw [← hH1, Array.getElem?_push_size, ← arrV_new]
  have o1 : ∀ q : Nat, q < H.size → H1[q]? = H[q]? := fun q hq => by rw [← hH1, Array.getElem?_push, if_neg (Nat.ne_of_lt hq)]
  have key := kk H1 locs (cells + 1) (slots + n.toNatClampNeg) ls (hR.mk (Nat.le_trans hbs hS.1) (by show H1[H.size]? = some (vp_cell _ _); rw [vp_cell_q]; exact e1) z1 o1) (hS.push9 z1 o1) (by omega) (by omega) hc hl
  rw [hR.1]
  exact key
/-- Log's two static rows: the reference, and a place read -/
theorem jr_shf (K : jOK G l M dep X) {index : Nat} (hd : decode M.2.1 pc = .ok (.getstatic index, 3)) (hw : Cond.fieldLink M.1.cls index "RodRings$Log" "SHIFTS" "[I" ∈ jall) (kk : jJ G X h kc ks (pc + 3) L (.ref (G.2.2.2 0) :: st)) : jJ G X h kc ks pc L st := by
  obtain ⟨p, l9, e, R, s, m, args, below, meth, c, mc, ms, Q⟩ := X
  obtain ⟨hx, hb, hml, hr, hown, hts, hlk, hin, hE, hbs, hd1, hd2, hd3, hd4, rfl, hxt⟩ := K
  intro H locs cells slots ls hR hS hc1 hc2 hc hl
  exact va_gets hx hb hE.2.2.2.1 hS hown (hts _ hw) (fun _ q => q) hd (kk H locs cells slots ls hR hS hc1 hc2 hc hl)
theorem jr_msk (K : jOK G l M dep X) {index : Nat} (hd : decode M.2.1 pc = .ok (.getstatic index, 3)) (hw : Cond.fieldLink M.1.cls index "RodRings$Log" "MASKS" "[I" ∈ jall) (kk : jJ G X h kc ks (pc + 3) L (.ref (G.2.2.2 1) :: st)) : jJ G X h kc ks pc L st := by
  obtain ⟨p, l9, e, R, s, m, args, below, meth, c, mc, ms, Q⟩ := X
  obtain ⟨hx, hb, hml, hr, hown, hts, hlk, hin, hE, hbs, hd1, hd2, hd3, hd4, rfl, hxt⟩ := K
  intro H locs cells slots ls hR hS hc1 hc2 hc hl
  exact va_gets hx hb hE.2.2.2.2.2.1 hS hown (hts _ hw) (fun _ q => q) hd (kk H locs cells slots ls hR hS hc1 hc2 hc hl)
theorem jr_stald {f : Nat → Int32} {t n : Nat} (K : jOK G l M dep X) (hT : ∀ U H, jSt G U H → va_T .int t n (fun j => .int (f j)) (jA G) U H) (hd : decode M.2.1 pc = .ok (.iaload, 1)) (hi : ¬ (i < 0 ∨ n ≤ i.toNatClampNeg)) (kk : jJ G X h kc ks (pc + 1) L (.int (f i.toNatClampNeg) :: st)) : jJ G X h kc ks pc L (.int i :: .ref t :: st) := by
  obtain ⟨p, l9, e, R, s, m, args, below, meth, c, mc, ms, Q⟩ := X
  obtain ⟨hx, hb, hml, hr, hown, hts, hlk, hin, hE, hbs, hd1, hd2, hd3, hd4, rfl, hxt⟩ := K
  intro H locs cells slots ls hR hS hc1 hc2 hc hl
  obtain ⟨cell, q1, q2, q3, q4, q5, q6, q7⟩ := hT s s.heap hE.2
  have hlt : i.toNatClampNeg < n := Nat.not_le.mp fun q => hi (Or.inr q)
  exact W.iald (v := .int (f i.toNatClampNeg)) hx hb (by rw [hS.2.1 t (Array.getElem?_eq_some_iff.mp q1).1 q7]; exact q1) q2 q3 (fun q => q.elim (fun q => hi (Or.inl q)) (fun q => by omega)) (q6 _ hlt) rfl rfl hd (kk H locs cells slots ls hR hS hc1 hc2 hc hl)
theorem jT_shf : ∀ U H, jSt G U H → va_T .int (G.2.2.2 0) 6 (fun j => .int (jshf.getD j 0)) (jA G) U H := fun _ _ q => q.2.2.2.1
theorem jT_msk : ∀ U H, jSt G U H → va_T .int (G.2.2.2 1) 6 (fun j => .int (jmsk.getD j 0)) (jA G) U H := fun _ _ q => q.2.2.2.2.2.1
/-- a text -/
theorem jr_ldcS (K : jOK G l M dep X) {index i : Nat} {tx : String} {bs : List Int32} (hd : decode M.2.1 pc = .ok (.ldc index, 2)) (hx9 : jtxt[i]? = some (M.1.cls, index, tx, bs)) (kk : jJ G X h kc ks (pc + 2) L (.ref (G.2.2.2 (10 + 2 * i)) :: st)) : jJ G X h kc ks pc L st := by
  obtain ⟨p, l9, e, R, s, m, args, below, meth, c, mc, ms, Q⟩ := X
  obtain ⟨hx, hb, hml, hr, hown, hts, hlk, hin, hE, hbs, hd1, hd2, hd3, hd4, rfl, hxt⟩ := K
  intro H locs cells slots ls hR hS hc1 hc2 hc hl
  exact va_ldcS hx hb hown (hE.2.2.2.2.2.2.2.2.2.2 i _ hx9).1 hd (kk H locs cells slots ls hR hS hc1 hc2 hc hl)
theorem jr_min (K : jOK G l M (dep + 1) X) {index : Nat} {x y : Int32} (hd : decode M.2.1 pc = .ok (.invokestatic index, 3)) (hw : Cond.methodLink M.1.cls index Lib.Math.min.name ∈ jall ∧ Cond.static Lib.Math.min.name ∈ jall ∧ Cond.initialized "java/lang/Math" ∈ jall ∧ Cond.code Lib.Math.min.name Lib.Math.min.code 2 (some .int) ∈ jall) (hrm : (st.map fun v => v.category).sum ≤ 8) (kk : jJ G X h kc ks (pc + 3) L (.int (if y < x then y else x) :: st)) : jJ G X h kc ks pc L (.int y :: .int x :: st) := by
  obtain ⟨p, l9, e, R, s, m, args, below, meth, c, mc, ms, Q⟩ := X
  obtain ⟨hx, hb, hml, hr, hown, hts, hlk, hin, hE, hbs, hd1, hd2, hd3, hd4, rfl, hxt⟩ := K
  intro H locs cells slots ls hR hS hc1 hc2 hc hl
  exact va_mmin hx hb hl.1.symm hown (hts _ hw.1) (hts _ hw.2.1) (hts _ hw.2.2.1) (hts _ hw.2.2.2) (by omega) (by omega) (by omega) (by omega) hd (kk H locs cells slots ls hR hS hc1 hc2 hc hl)
theorem jr_max (K : jOK G l M (dep + 1) X) {index : Nat} {x y : Int32} (hd : decode M.2.1 pc = .ok (.invokestatic index, 3)) (hw : Cond.methodLink M.1.cls index Lib.Math.max.name ∈ jall ∧ Cond.static Lib.Math.max.name ∈ jall ∧ Cond.initialized "java/lang/Math" ∈ jall ∧ Cond.code Lib.Math.max.name Lib.Math.max.code 2 (some .int) ∈ jall) (hrm : (st.map fun v => v.category).sum ≤ 8) (kk : jJ G X h kc ks (pc + 3) L (.int (if x < y then y else x) :: st)) : jJ G X h kc ks pc L (.int y :: .int x :: st) := by
  obtain ⟨p, l9, e, R, s, m, args, below, meth, c, mc, ms, Q⟩ := X
  obtain ⟨hx, hb, hml, hr, hown, hts, hlk, hin, hE, hbs, hd1, hd2, hd3, hd4, rfl, hxt⟩ := K
  intro H locs cells slots ls hR hS hc1 hc2 hc hl
  exact va_mmax hx hb hl.1.symm hown (hts _ hw.1) (hts _ hw.2.1) (hts _ hw.2.2.1) (hts _ hw.2.2.2) (by omega) (by omega) (by omega) (by omega) hd (kk H locs cells slots ls hR hS hc1 hc2 hc hl)
theorem jr_abs (K : jOK G l M (dep + 1) X) {index : Nat} {x : Int32} (hd : decode M.2.1 pc = .ok (.invokestatic index, 3)) (hw : Cond.methodLink M.1.cls index Lib.Math.abs.name ∈ jall ∧ Cond.static Lib.Math.abs.name ∈ jall ∧ Cond.initialized "java/lang/Math" ∈ jall ∧ Cond.code Lib.Math.abs.name Lib.Math.abs.code 1 (some .int) ∈ jall) (hrm : (st.map fun v => v.category).sum ≤ 8) (kk : jJ G X h kc ks (pc + 3) L (.int (if 0 ≤ x then x else 0 - x) :: st)) : jJ G X h kc ks pc L (.int x :: st) := by
  obtain ⟨p, l9, e, R, s, m, args, below, meth, c, mc, ms, Q⟩ := X
  obtain ⟨hx, hb, hml, hr, hown, hts, hlk, hin, hE, hbs, hd1, hd2, hd3, hd4, rfl, hxt⟩ := K
  intro H locs cells slots ls hR hS hc1 hc2 hc hl
  exact va_mabs hx hb hl.1.symm hown (hts _ hw.1) (hts _ hw.2.1) (hts _ hw.2.2.1) (hts _ hw.2.2.2) (by omega) (by omega) (by omega) (by omega) hd (kk H locs cells slots ls hR hS hc1 hc2 hc hl)
theorem jr_objInit (K : jOK G l M (dep + 1) X) {index : Nat} {a : Nat} (hd : decode M.2.1 pc = .ok (.invokespecial index, 3)) (hw : Cond.methodLink M.1.cls index Lib.objectInit ∈ jall ∧ Cond.instanceMethod Lib.objectInit ∈ jall ∧ Cond.code Lib.objectInit ⟨#[0xb1]⟩ 1 none ∈ jall) (hrm : (st.map fun v => v.category).sum ≤ 8) (kk : jJ G X h kc ks (pc + 3) L st) : jJ G X h kc ks pc L (.ref a :: st) := by
  obtain ⟨p, l9, e, R, s, m, args, below, meth, c, mc, ms, Q⟩ := X
  obtain ⟨hx, hb, hml, hr, hown, hts, hlk, hin, hE, hbs, hd1, hd2, hd3, hd4, rfl, hxt⟩ := K
  intro H locs cells slots ls hR hS hc1 hc2 hc hl
  exact W.objInit hx hb hown (hts _ hw.1) (hts _ hw.2.1) (hts _ hw.2.2) rfl hl.1 rfl hd (by omega) (by show 2 * 0 + _ + 12 ≤ _; omega) (kk H locs cells slots ls hR hS hc1 hc2 hc hl)
end JC
end
section
/-! arraycopy, ends, contracts, calls, throws -/
section JD
variable {G : jG} {l : Launch} {M : jM} {dep : Nat} {X : jX} {h h1 : jH} {kc ks pc : Nat} {L : List (Option Value)} {st : List Value} {a k i0 : Nat} {x i : Int32}
theorem jr_copy (K : jOK G l M (dep + 1) X) {index a0 : Nat} {sp dp n : Int32} (hd : decode M.2.1 pc = .ok (.invokestatic index, 3)) (hw : Cond.methodLink M.1.cls index arraycopyName ∈ jall ∧ Cond.native arraycopyName ∈ jall ∧ Cond.static arraycopyName ∈ jall ∧ Cond.initialized "java/lang/System" ∈ jall) (hrm : (st.map fun v => v.category).sum ≤ 8) (hg : jcp h a0 sp a dp n = some h1) (kk : jJ G X h1 kc ks (pc + 3) L st) : jJ G X h kc ks pc L (.int n :: .int dp :: .ref a :: .int sp :: .ref a0 :: st) := by
  obtain ⟨p, l9, e, R, s, m, args, below, meth, c, mc, ms, Q⟩ := X
  obtain ⟨hx, hb, hml, hr, hown, hts, hlk, hin, hE, hbs, hd1, hd2, hd3, hd4, rfl, hxt⟩ := K
  intro H locs cells slots ls hR hS hc1 hc2 hc hl
  obtain ⟨n0, f, n1, g, g0, g1, q1, q2, q3, q4, q5, rfl⟩ := jcp_o hg
  have nn : ∀ z : Int32, ¬ z < 0 → z.toInt = (z.toNatClampNeg : Int) := by
    intro z hz
    have hz0 : (0 : Int) ≤ z.toInt := by
      have := Int32.not_lt.mp hz
      simpa using Int32.le_iff_toInt_le.mp this
    show z.toInt = ((z.toInt.toNat : Nat) : Int)
    omega
  intro T hT X
  have hc0 : H[a0]? = some (vp_cell (G.2.1 0) (n0, .inl f)) := (hR.2 a0 _ g0).2
  have hcc1 : H[a]? = some (vp_cell (G.2.1 0) (n1, .inl g)) := (hR.2 a _ g1).2
  obtain ⟨-, k0, hk0, cm0, hkk0⟩ := (hE.1.2 0 _ rfl).1 n0 (fun j => .int (f j))
  obtain ⟨-, k1, hk1, cm1, hkk1⟩ := (hE.1.2 0 _ rfl).1 n1 (fun j => .int (g j))
  obtain ⟨vm', X', step⟩ := X.arraycopy hx hown (hts _ hw.1) (hts _ hw.2.1) (hts _ hw.2.2.1) (hts _ hw.2.2.2) (src := a0) (dst := a) (cs := vp_cell (G.2.1 0) (n0, .inl f)) (cd := vp_cell (G.2.1 0) (n1, .inl g)) (srcPos := sp) (destPos := dp) (n := n) (by rw [hT]; exact hc0) (by rw [hT]; exact hcc1)
    (fun _ h => by cases h) (fun _ h => by cases h) (fun h => by cases h) (fun h => by cases h) hk0 hk1 hkk0 hkk1 (by simp) q1 q2 q3
    (by rw [nn sp q1, nn n q3]; show ¬ _ > ((arrV (G.2.1 0) n0 (fun j => .int (f j))).slots.size : Int); rw [arrV_size]; omega)
    (by rw [nn dp q2, nn n q3]; show ¬ _ > ((arrV (G.2.1 0) n1 (fun j => .int (g j))).slots.size : Int); rw [arrV_size]; omega)
    (fun vm₁ _ i hi => by
      have e : (vp_cell (G.2.1 0) (n0, .inl f)).slots.getD (sp.toNatClampNeg + i) .null = .int (f (sp.toNatClampNeg + i)) := by
        show (arrV (G.2.1 0) n0 (fun j => .int (f j))).slots.getD _ _ = _
        rw [Array.getD_eq_getD_getElem?, arrV_read _ _ (by omega)]
        rfl
      refine ⟨?_, ?_⟩
      · rw [e]; rfl
      · rw [e]; exact trivial)
    (g := F0 m pc ls (.int n :: .int dp :: .ref a :: .int sp :: .ref a0 :: st)) rfl hl.1 (rest := st) rfl (by rw [hb]; exact hd) (by omega) (by
      have hnw : nativeFrameWords "java/lang/System" "arraycopy" 5 + 11 ≤ 70 := by decide
      show 2 * 0 + _ + _ ≤ _; omega)
  have e1 : copied (vp_cell (G.2.1 0) (n0, .inl f)) (vp_cell (G.2.1 0) (n1, .inl g)) sp dp n = vp_cell (G.2.1 0) (n1, .inl (va_cpy f g sp.toNatClampNeg dp.toNatClampNeg n.toNatClampNeg)) := va_copied (fun z => .int z) (G.2.1 0) (G.2.1 0) f g q4
  rw [e1] at X' step
  have hlt : a < H.size := (Array.getElem?_eq_some_iff.mp hcc1).1
  have hheap : ((T.setVm vm').setCell a (vp_cell (G.2.1 0) (n1, .inl (va_cpy f g sp.toNatClampNeg dp.toNatClampNeg n.toNatClampNeg)))).heap = H.setIfInBounds a (vp_cell (G.2.1 0) (n1, .inl (va_cpy f g sp.toNatClampNeg dp.toNatClampNeg n.toNatClampNeg))) := by rw [← hT]; rfl
  have oq : ∀ q : Nat, q ≠ a → (H.setIfInBounds a (vp_cell (G.2.1 0) (n1, .inl (va_cpy f g sp.toNatClampNeg dp.toNatClampNeg n.toNatClampNeg))))[q]? = H[q]? := fun q hq => by simp [Array.getElem?_setIfInBounds, Ne.symm hq]
  have hA : jA G a := (hR.2 a _ g1).1
  obtain ⟨t, a1, b1⟩ := kk _ _ cells slots ls (hR.put (e := .inr (.inl (0, n1, va_cpy f g sp.toNatClampNeg dp.toNatClampNeg n.toNatClampNeg))) g1 (show (H.setIfInBounds a _)[a]? = some _ by simp [Array.getElem?_setIfInBounds, hlt, jtr]) (by simp) oq) ⟨by simp; exact hS.1, fun q j1 j2 => by
      rw [oq q (fun e => j2 (by rw [e]; exact hA))]
      exact hS.2.1 q j1 j2, fun q hq => by
      rcases List.mem_append.mp hq with h | h
      · exact hS.2.2 q h
      · obtain ⟨z, -, hz⟩ := List.mem_map.mp h
        rw [← hz]
        exact hA⟩ hc1 hc2 hc hl _ hheap X'
  exact ⟨t, step t a1, b1⟩
/-- the end that a contract asks -/
def jEnd (G : jG) (M : jM) (P : jR → jH → Prop) : jX → Prop
  | (_, _, _, _, s, _, args, below, _, _, mc, ms, Q) => Q = vx_MQ below (jQc G M.2.2.2.1 P) (jXC G P) args s mc ms (jA G)
theorem va_S.F9 {A : Nat → Prop} {H : Heap} {locs : List Loc} {s t : State} (h : va_S A s.heap H locs) (ht : t.heap = H) : va_F A s t := by
  rw [va_F, ht]
  exact ⟨h.1, h.2.1⟩
theorem jr_iret (K : jOK G l M dep X) {P : jR → jH → Prop} (E : jEnd G M P X) (hd : decode M.2.1 pc = .ok (.ireturn, 1)) (ht : M.2.2.2.1 = some .int) (hP : P (.inl x) h) : jJ G X h kc ks pc L [.int x] := by
  obtain ⟨p, l9, e, R, s, m, args, below, meth, c, mc, ms, Q⟩ := X
  obtain ⟨hx, hb, hml, hr, hown, hts, hlk, hin, hE, hbs, hd1, hd2, hd3, hd4, rfl, hxt⟩ := K
  subst E
  intro H locs cells slots ls hR hS hc1 hc2 hc hl
  refine W.widen (k := mc) (n := ms) (by omega) (by omega) (vx_ret ?_)
  refine W.iret hx hb (hr.trans ht) (fun t ht9 hW => ⟨⟨x, h, by rw [ht]; rfl, hP, by rw [ht9]; exact hR⟩, hS.F9 ht9⟩) hS.2.2 hd (hlocks := hlk)
theorem jr_zret (K : jOK G l M dep X) {P : jR → jH → Prop} (E : jEnd G M P X) (hd : decode M.2.1 pc = .ok (.ireturn, 1)) (ht : M.2.2.2.1 = some .boolean) (hz : x = 0 ∨ x = 1) (hP : P (.inl x) h) : jJ G X h kc ks pc L [.int x] := by
  obtain ⟨p, l9, e, R, s, m, args, below, meth, c, mc, ms, Q⟩ := X
  obtain ⟨hx, hb, hml, hr, hown, hts, hlk, hin, hE, hbs, hd1, hd2, hd3, hd4, rfl, hxt⟩ := K
  subst E
  intro H locs cells slots ls hR hS hc1 hc2 hc hl
  refine W.widen (k := mc) (n := ms) (by omega) (by omega) (vx_ret ?_)
  refine W.zret (ty := .boolean) hx hb (hr.trans ht) (by rcases hz with rfl | rfl <;> rfl) (fun t ht9 hW => ⟨⟨x, h, by rw [ht]; rfl, hP, by rw [ht9]; exact hR⟩, hS.F9 ht9⟩) hS.2.2 hd (hlocks := hlk)
theorem jr_cret (K : jOK G l M dep X) {P : jR → jH → Prop} {ty : FieldType} (E : jEnd G M P X) (hd : decode M.2.1 pc = .ok (.ireturn, 1)) (ht : M.2.2.2.1 = some ty) (hz : narrow ty (.int x) = .int x) (hP : P (.inl x) h) : jJ G X h kc ks pc L [.int x] := by
  obtain ⟨p, l9, e, R, s, m, args, below, meth, c, mc, ms, Q⟩ := X
  obtain ⟨hx, hb, hml, hr, hown, hts, hlk, hin, hE, hbs, hd1, hd2, hd3, hd4, rfl, hxt⟩ := K
  subst E
  intro H locs cells slots ls hR hS hc1 hc2 hc hl
  refine W.widen (k := mc) (n := ms) (by omega) (by omega) (vx_ret ?_)
  refine W.zret (ty := ty) hx hb (hr.trans ht) hz (fun t ht9 hW => ⟨⟨x, h, by rw [ht]; rfl, hP, by rw [ht9]; exact hR⟩, hS.F9 ht9⟩) hS.2.2 hd (hlocks := hlk)
theorem jr_vret (K : jOK G l M dep X) {P : jR → jH → Prop} (E : jEnd G M P X) (hd : decode M.2.1 pc = .ok (.return_, 1)) (ht : M.2.2.2.1 = none) (hP : P (.inl 0) h) : jJ G X h kc ks pc L [] := by
  obtain ⟨p, l9, e, R, s, m, args, below, meth, c, mc, ms, Q⟩ := X
  obtain ⟨hx, hb, hml, hr, hown, hts, hlk, hin, hE, hbs, hd1, hd2, hd3, hd4, rfl, hxt⟩ := K
  subst E
  intro H locs cells slots ls hR hS hc1 hc2 hc hl
  refine W.widen (k := mc) (n := ms) (by omega) (by omega) (vx_ret ?_)
  refine W.vret hx hb (hr.trans ht) (fun t ht9 hW => ⟨⟨0, h, by rw [ht]; rfl, hP, by rw [ht9]; exact hR⟩, hS.F9 ht9⟩) hS.2.2 hd (hlocks := hlk)
/-- the first locals: what is passed -/
def jL0 (n : Nat) (av : List Value) : List (Option Value) := av.map some ++ List.replicate (n - av.length) none
theorem jlv_app : ∀ (av : List Value) (k m : Nat), (∀ v ∈ av, v.category = 1) → jlv k (av.map some ++ List.replicate m none) = lv_args k av := by
  intro av
  induction av with
  | nil =>
    intro k m _
    have : ∀ (m k : Nat), jlv k (List.replicate m (none : Option Value)) = [] := by
      intro m
      induction m with
      | zero => intro k; rfl
      | succ m ih => intro k; rw [List.replicate_succ]; exact ih (k + 1)
    simp [this, lv_args]
  | cons v av ih =>
    intro k m hv
    have h1 : v.category = 1 := hv v List.mem_cons_self
    show (k, v) :: jlv (k + 1) (av.map some ++ List.replicate m none) = (k, v) :: lv_args (if v.category = 2 then k + 2 else k + 1) av
    rw [ih (k + 1) m (fun w hw => hv w (List.mem_cons_of_mem _ hw)), h1]
    rfl
theorem lg_sl1 : ∀ (av : List Value), (∀ v ∈ av, v.category = 1) → (lg_sl av).length = av.length := by
  intro av
  induction av with
  | nil => intro _; rfl
  | cons v av ih =>
    intro hv
    have h1 : v.category = 1 := hv v List.mem_cons_self
    have h2 := ih (fun w hw => hv w (List.mem_cons_of_mem _ hw))
    simp only [lg_sl, List.flatMap_cons, List.length_append, List.length_cons] at h2 ⊢
    rw [h2, h1]
    simp
    omega
theorem jcat_L0 {n : Nat} {av : List Value} (hv : ∀ v ∈ av, v.category = 1) : jcat (jL0 n av) := by
  intro i v h
  unfold jL0 at h
  rcases List.mem_append.mp (List.mem_of_getElem? h) with h | h
  · obtain ⟨w, hw, e⟩ := List.mem_map.mp h
    cases e
    exact hv _ hw
  · have := List.eq_of_mem_replicate h
    cases this
/-- A CONTRACT out of a run from the entry: any machine, any caller -/
theorem jC.of {mc ms : Nat} {av : List Value} {P : jR → jH → Prop} (hy : plainName M.1.cls = true) (hcat : ∀ v ∈ av, v.category = 1) (hlen : av.length ≤ M.2.2.1)
    (body : ∀ X : jX, jOK G l M dep X → jEnd G M P X → jJ G X h mc ms 0 (jL0 M.2.2.1 av) []) : jC G l M dep mc ms av h P := by
  obtain ⟨y, cc, nL, ret, hh⟩ := M
  have key : ∀ (p : Program) (e : Env) (s : State) (m : MethodId) (args : Array Value) (below : List Frame) (meth : Method) (c : Code) (s₁ : State), BodyLoose p l y (headSpec (jws (y, cc, nL, ret, hh)) (jrm dep mc ms)) cc nL ret e s m args below meth c s₁ → c.maxLocals = nL → c.exceptionTable.toList = tableOf hh → va_Pc av (fun U => jRep G h U.heap ∧ jEF G U U.heap ∧ G.2.2.1 ≤ U.heap.size) args s →
      W p l e (jrm dep mc ms) s m args below meth c s.heap [] 0 0 (vx_MQ below (jQc G ret P) (jXC G P) args s mc ms (jA G)) (entryFrame m args nL) := by
    intro p e s m args below meth c s₁ B hml hxt hv
    obtain ⟨rfl, hR, hE, hbase⟩ := hv
    have hws := atoms_spec (ws := jws (y, cc, nL, ret, hh)) B.pre
    rw [lg_entry_eq]
    have hl := lv_entry av (n := nL) (by rw [lg_sl1 av hcat]; exact hlen)
    generalize (lg_sl av ++ List.replicate (nL - (lg_sl av).length) Slot.unset).toArray = ls at hl ⊢
    rw [← jlv_app av 0 (nL - av.length) hcat] at hl
    exact body (p, l, e, jrm dep mc ms, s, m, av.toArray, below, meth, c, mc, ms, _) ⟨B.exec, B.bytes, hml, B.returns, findClass_of_methodNamed B.named, fun w hw => hws w (List.mem_cons_of_mem _ hw), B.notSynchronized, (name_of_methodNamed B.named B.method).1, hE, hbase, Nat.le_refl _, Nat.le_refl _, Nat.le_refl _, Nat.le_refl _, rfl, hxt⟩ rfl
      s.heap [] 0 0 ls hR va_S.rf (by omega) (by omega) (jcat_L0 hcat) (by rw [hml]; exact hl)
  cases hh with
  | nil =>
    refine vx_ofW (cc := cc) (maxL := nL) (ret := ret) (ws' := jall) hy rfl ?_
    intro p e s m args below meth c s₁ B hml ht hv
    refine key p e s m args below meth c s₁ B hml ?_ hv
    cases hq : c.exceptionTable.toList with
    | nil => rfl
    | cons z zs => exact (ht z (by rw [hq]; exact List.mem_cons_self)).elim
  | cons q hh =>
    refine vx_ofWH (cc := cc) (maxL := nL) (ret := ret) (hh := q :: hh) (ws' := jall) hy rfl ?_
    intro p e s m args below meth c s₁ B hml hv
    refine key p e s m args below meth c s₁ B hml ?_ hv
    exact vx_table (x := y) B (atoms_spec (ws := jws (y, cc, nL, ret, q :: hh)) B.pre _ List.mem_cons_self)
theorem jC.weaken {mc ms : Nat} {av : List Value} {P P2 : jR → jH → Prop} (hC : jC G l M dep mc ms av h P) (hPP : ∀ r h1, P r h1 → P2 r h1) : jC G l M dep mc ms av h P2 := by
  intro p e ha hc hk s m args below hf happ hpre hK
  obtain ⟨n, o, h1, h2, h3, h4⟩ := hC p e ha hc hk s m args below hf happ hpre hK
  refine ⟨n, o, h1, h2, h3, ?_⟩
  rcases h4 with ⟨⟨⟨r, h9, q1, q2, q3⟩, q4⟩, q5⟩ | ⟨q, q1, E, ce, L, ⟨⟨k, z, h9, q2, q3, q4, q5⟩, q6⟩, q7⟩
  · exact Or.inl ⟨⟨⟨r, h9, q1, hPP _ _ q2, q3⟩, q4⟩, q5⟩
  · exact Or.inr ⟨q, q1, E, ce, L, ⟨⟨k, z, h9, q2, q3, hPP _ _ q4, q5⟩, q6⟩, q7⟩
theorem jC.met {mc ms : Nat} {av : List Value} {P : jR → jH → Prop} (hC : jC G l M dep mc ms av h P) (hnt : ∀ k h1, ¬ P (.inr k) h1) : Met l M.1 (jws M) (jrm dep mc ms) (va_Pc av (fun U => jRep G h U.heap ∧ jEF G U U.heap ∧ G.2.2.1 ≤ U.heap.size)) (jQc G M.2.2.2.1 P) mc ms (jA G) := by
  intro p e ha hc hk s m args below hf happ hpre hK
  obtain ⟨n, o, h1, h2, h3, h4⟩ := hC p e ha hc hk s m args below hf happ hpre hK
  refine ⟨n, o, h1, h2, h3, ?_⟩
  rcases h4 with h4 | ⟨q, q1, E, ce, L, ⟨⟨k, z, h9, q2, q3, q4, q5⟩, q6⟩, q7⟩
  · exact h4
  · exact (hnt _ _ q4).elim
theorem jPc_blind {av : List Value} : FrameBlind (va_Pc av (fun U => jRep G h U.heap ∧ jEF G U U.heap ∧ G.2.2.1 ≤ U.heap.size)) := fun _ U g mk q => ⟨q.1, q.2.1, jEF.same (s := U) (U := U.calling g mk _) (H := U.heap) rfl q.2.2.1, q.2.2.2⟩
theorem jPc_at {av : List Value} {H : Heap} {s U : State} {locs : List Loc} (hR : jRep G h H) (hS : va_S (jA G) s.heap H locs) (hE : jEF G s s.heap) (hbs : G.2.2.1 ≤ s.heap.size) (hU : U.heap = H) (hW : s.WarmedH U.vm) : va_Pc av (fun U => jRep G h U.heap ∧ jEF G U U.heap ∧ G.2.2.1 ≤ U.heap.size) av.toArray U := by
  refine ⟨rfl, by rw [hU]; exact hR, ?_, by rw [hU]; exact Nat.le_trans hbs hS.1⟩
  rw [hU]
  exact (hE.kept hS.2.1).warm hW
theorem jws_good {Y : jM} (hY : jcode Y ∈ jall) : GoodIn jall (jws Y) := jall_good fun w hw => (List.mem_cons.mp hw).elim (fun e => by rw [e]; exact hY) id
end JD
end
