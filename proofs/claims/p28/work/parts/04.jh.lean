/-! reading and writing pure heaps -/
def jgf (ci : Nat) (h : jH) (a k : Nat) : Option Value := match h.2 a with
  | some (.inl o) => if o.1 = ci then o.2[k]? else none
  | _ => none
def jgI (ci : Nat) (h : jH) (a k : Nat) : Option Int32 := match jgf ci h a k with
  | some (.int x) => some x
  | _ => none
def jgR (ci : Nat) (h : jH) (a k : Nat) : Option Nat := match jgf ci h a k with
  | some (.ref x) => some x
  | _ => none
/-- a reference or null -/
def jgQ (ci : Nat) (h : jH) (a k : Nat) : Option (Option Nat) := match jgf ci h a k with
  | some (.ref x) => some (some x)
  | some .null => some none
  | _ => none
def jpf (ci : Nat) (h : jH) (a k : Nat) (v : Value) : Option jH := match h.2 a with
  | some (.inl o) => if o.1 = ci ∧ k < o.2.length then some (jup h a (.inl (o.1, o.2.set k v))) else none
  | _ => none
def jal (t : Nat) (h : jH) (a : Nat) (i : Int32) : Option Int32 := match h.2 a with
  | some (.inr (.inl x)) => if x.1 = t ∧ ¬ (i < 0 ∨ x.2.1 ≤ i.toNatClampNeg) then some (x.2.2 i.toNatClampNeg) else none
  | _ => none
def jnar (t : Nat) (x : Int32) : Int32 := if t = 1 then x.toInt8.toInt32 else x
def jas (t : Nat) (h : jH) (a : Nat) (i x : Int32) : Option jH := match h.2 a with
  | some (.inr (.inl y)) => if y.1 = t ∧ ¬ (i < 0 ∨ y.2.1 ≤ i.toNatClampNeg) ∧ (t = 2 → x = 0 ∨ x = 1) then some (jup h a (.inr (.inl (t, y.2.1, upd y.2.2 i.toNatClampNeg (jnar t x))))) else none
  | _ => none
def jlen (h : jH) (a : Nat) : Option Int32 := match h.2 a with
  | some (.inr (.inl x)) => if x.1 < 3 then some (Int32.ofNat x.2.1) else none
  | _ => none
def jalq (h : jH) (a : Nat) (i : Int32) : Option (Option Nat) := match h.2 a with
  | some (.inr (.inr (.inl x))) => if ¬ (i < 0 ∨ x.1 ≤ i.toNatClampNeg) then some (x.2 i.toNatClampNeg) else none
  | _ => none
def jasq (ci : Nat) (h : jH) (a : Nat) (i : Int32) (v : Nat) : Option jH := match h.2 a, h.2 v with
  | some (.inr (.inr (.inl x))), some (.inl o) => if ¬ (i < 0 ∨ x.1 ≤ i.toNatClampNeg) ∧ o.1 = ci then some (jup h a (.inr (.inr (.inl (x.1, va_up x.2 i.toNatClampNeg (some v)))))) else none
  | _, _ => none
def jall_ (h : jH) (a : Nat) (i : Int32) : Option Int64 := match h.2 a with
  | some (.inr (.inr (.inr x))) => if ¬ (i < 0 ∨ x.1 ≤ i.toNatClampNeg) then some (x.2 i.toNatClampNeg) else none
  | _ => none
def jasl (h : jH) (a : Nat) (i : Int32) (v : Int64) : Option jH := match h.2 a with
  | some (.inr (.inr (.inr x))) => if ¬ (i < 0 ∨ x.1 ≤ i.toNatClampNeg) then some (jup h a (.inr (.inr (.inr (x.1, vp_updL x.2 i.toNatClampNeg v))))) else none
  | _ => none
/-- System.arraycopy of ints -/
def jcp (h : jH) (a0 : Nat) (sp : Int32) (a : Nat) (dp n : Int32) : Option jH := match h.2 a0, h.2 a with
  | some (.inr (.inl x)), some (.inr (.inl y)) =>
    if x.1 = 0 ∧ y.1 = 0 ∧ ¬ sp < 0 ∧ ¬ dp < 0 ∧ ¬ n < 0 ∧ sp.toNatClampNeg + n.toNatClampNeg ≤ x.2.1 ∧ dp.toNatClampNeg + n.toNatClampNeg ≤ y.2.1 then some (jup h a (.inr (.inl (0, y.2.1, va_cpy x.2.2 y.2.2 sp.toNatClampNeg dp.toNatClampNeg n.toNatClampNeg)))) else none
  | _, _ => none
theorem jgI_f {ci : Nat} {h : jH} {a k : Nat} {x : Int32} (e : jgI ci h a k = some x) : jgf ci h a k = some (.int x) := by
  unfold jgI at e
  split at e
  · cases e; assumption
  · cases e
theorem jgR_f {ci : Nat} {h : jH} {a k x : Nat} (e : jgR ci h a k = some x) : jgf ci h a k = some (.ref x) := by
  unfold jgR at e
  split at e
  · cases e; assumption
  · cases e
theorem jgQ_f {ci : Nat} {h : jH} {a k : Nat} {x : Option Nat} (e : jgQ ci h a k = some x) : jgf ci h a k = some (va_rf x) := by
  unfold jgQ at e
  split at e
  · cases e; assumption
  · cases e; assumption
  · cases e
theorem jgf_o {ci : Nat} {h : jH} {a k : Nat} {v : Value} (e : jgf ci h a k = some v) : ∃ fs, h.2 a = some (.inl (ci, fs)) ∧ fs[k]? = some v := by
  unfold jgf at e
  split at e
  · rename_i o ho
    split at e
    · rename_i hc
      exact ⟨o.2, by rw [ho, ← hc], e⟩
    · cases e
  · cases e
theorem jpf_o {ci : Nat} {h h1 : jH} {a k : Nat} {v : Value} (e : jpf ci h a k v = some h1) : ∃ fs, h.2 a = some (.inl (ci, fs)) ∧ k < fs.length ∧ h1 = jup h a (.inl (ci, fs.set k v)) := by
  unfold jpf at e
  split at e
  · rename_i o ho
    split at e
    · rename_i hc
      cases e
      exact ⟨o.2, by rw [ho, ← hc.1], hc.2, by rw [← hc.1]⟩
    · cases e
  · cases e
theorem jal_o {t : Nat} {h : jH} {a : Nat} {i x : Int32} (e : jal t h a i = some x) : ∃ n f, h.2 a = some (.inr (.inl (t, n, f))) ∧ vp_in i n ∧ x = f i.toNatClampNeg := by
  unfold jal at e
  split at e
  · rename_i y hy
    split at e
    · rename_i hc
      cases e
      exact ⟨y.2.1, y.2.2, by rw [hy, ← hc.1], hc.2, rfl⟩
    · cases e
  · cases e
theorem jas_o {t : Nat} {h h1 : jH} {a : Nat} {i x : Int32} (e : jas t h a i x = some h1) : ∃ n f, h.2 a = some (.inr (.inl (t, n, f))) ∧ vp_in i n ∧ (t = 2 → x = 0 ∨ x = 1) ∧ h1 = jup h a (.inr (.inl (t, n, upd f i.toNatClampNeg (jnar t x)))) := by
  unfold jas at e
  split at e
  · rename_i y hy
    split at e
    · rename_i hc
      cases e
      exact ⟨y.2.1, y.2.2, by rw [hy, ← hc.1], hc.2.1, hc.2.2, rfl⟩
    · cases e
  · cases e
theorem jlen_o {h : jH} {a : Nat} {x : Int32} (e : jlen h a = some x) : ∃ t n f, h.2 a = some (.inr (.inl (t, n, f))) ∧ t < 3 ∧ x = Int32.ofNat n := by
  unfold jlen at e
  split at e
  · rename_i y hy
    split at e
    · rename_i hc
      cases e
      exact ⟨y.1, y.2.1, y.2.2, hy, hc, rfl⟩
    · cases e
  · cases e
theorem jalq_o {h : jH} {a : Nat} {i : Int32} {x : Option Nat} (e : jalq h a i = some x) : ∃ n f, h.2 a = some (.inr (.inr (.inl (n, f)))) ∧ vp_in i n ∧ x = f i.toNatClampNeg := by
  unfold jalq at e
  split at e
  · rename_i y hy
    split at e
    · rename_i hc
      cases e
      exact ⟨y.1, y.2, hy, hc, rfl⟩
    · cases e
  · cases e
theorem jasq_o {ci : Nat} {h h1 : jH} {a v : Nat} {i : Int32} (e : jasq ci h a i v = some h1) : ∃ n f fs, h.2 a = some (.inr (.inr (.inl (n, f)))) ∧ h.2 v = some (.inl (ci, fs)) ∧ vp_in i n ∧ h1 = jup h a (.inr (.inr (.inl (n, va_up f i.toNatClampNeg (some v))))) := by
  unfold jasq at e
  split at e
  · rename_i y o hy ho
    split at e
    · rename_i hc
      cases e
      exact ⟨y.1, y.2, o.2, hy, by rw [ho, ← hc.2], hc.1, rfl⟩
    · cases e
  · cases e
theorem jall_o {h : jH} {a : Nat} {i : Int32} {x : Int64} (e : jall_ h a i = some x) : ∃ n f, h.2 a = some (.inr (.inr (.inr (n, f)))) ∧ vp_in i n ∧ x = f i.toNatClampNeg := by
  unfold jall_ at e
  split at e
  · rename_i y hy
    split at e
    · rename_i hc
      cases e
      exact ⟨y.1, y.2, hy, hc, rfl⟩
    · cases e
  · cases e
theorem jasl_o {h h1 : jH} {a : Nat} {i : Int32} {v : Int64} (e : jasl h a i v = some h1) : ∃ n f, h.2 a = some (.inr (.inr (.inr (n, f)))) ∧ vp_in i n ∧ h1 = jup h a (.inr (.inr (.inr (n, vp_updL f i.toNatClampNeg v)))) := by
  unfold jasl at e
  split at e
  · rename_i y hy
    split at e
    · rename_i hc
      cases e
      exact ⟨y.1, y.2, hy, hc, rfl⟩
    · cases e
  · cases e
theorem jcp_o {h h1 : jH} {a0 a : Nat} {sp dp n : Int32} (e : jcp h a0 sp a dp n = some h1) : ∃ n0 f n1 g, h.2 a0 = some (.inr (.inl (0, n0, f))) ∧ h.2 a = some (.inr (.inl (0, n1, g))) ∧ ¬ sp < 0 ∧ ¬ dp < 0 ∧ ¬ n < 0 ∧ sp.toNatClampNeg + n.toNatClampNeg ≤ n0 ∧ dp.toNatClampNeg + n.toNatClampNeg ≤ n1 ∧ h1 = jup h a (.inr (.inl (0, n1, va_cpy f g sp.toNatClampNeg dp.toNatClampNeg n.toNatClampNeg))) := by
  unfold jcp at e
  split at e
  · rename_i x y hx hy
    split at e
    · rename_i hc
      obtain ⟨c1, c2, c3, c4, c5, c6, c7⟩ := hc
      cases e
      exact ⟨x.2.1, x.2.2, y.2.1, y.2.2, by rw [hx, ← c1], by rw [hy, ← c2], c3, c4, c5, c6, c7, rfl⟩
    · cases e
  · cases e
/-! what a place in the code must link: a field read, a field written -/
def jFg (own : String) (idx ci k : Nat) : Prop := ∃ (C : String) (T : u_T) (N : Nat) (ref : String), vwCl[ci]? = some (C, T, N) ∧ (∀ w ∈ u_ws C T N, w ∈ lw_tbl) ∧ k < N ∧ Cond.fieldLink own idx ref (T k).2.1 (T k).2.2.1 ∈ jall ∧ ((T k).1 = ref ∨ Cond.sameField ref (T k).1 (T k).2.1 (T k).2.2.1 ∈ jall)
def jFp (own : String) (idx ci k : Nat) (fin : Bool) (ty : FieldType) : Prop := ∃ (C : String) (T : u_T) (N : Nat) (ty0 : Nat → FieldType), vwCl[ci]? = some (C, T, N) ∧ (∀ w ∈ u_ws C T N, w ∈ lw_tbl) ∧ (∀ k, k < N → parseFieldDescriptor (T k).2.2.1 = some (ty0 k)) ∧ (∀ a, a < N → ∀ b, b < N → a ≠ b → (T a).2.1 ≠ (T b).2.1) ∧ k < N ∧ Cond.fieldLink own idx (T k).1 (T k).2.1 (T k).2.2.1 ∈ jall ∧ (T k).2.2.2 = fin ∧ parseFieldDescriptor (T k).2.2.1 = some ty ∧ (fin = true → (T k).1 = own)
/-- an object is made: its class, its fields as they are born -/
def jFn (own : String) (idx ci N : Nat) (fs : List Value) : Prop := ∃ (C : String) (T : u_T) (ty0 : Nat → FieldType), vwCl[ci]? = some (C, T, N) ∧ (∀ w ∈ u_ws C T N, w ∈ lw_tbl) ∧ (∀ k, k < N → parseFieldDescriptor (T k).2.2.1 = some (ty0 k)) ∧ Cond.classLink own idx C ∈ jall ∧ Cond.instantiable C N ∈ jall ∧ Cond.initialized C ∈ jall ∧ ∀ j, j < N → defaultValue (ty0 j) = vp_V fs j
theorem u_ws_good (C : String) (T : u_T) (N : Nat) : ∀ w ∈ u_ws C T N, goodWord w = true := by
  intro w hw
  obtain ⟨k, -, rfl⟩ := List.mem_map.mp hw
  unfold u_lay
  split <;> rfl
theorem u_ws_all {C : String} {T : u_T} {N : Nat} (h : ∀ w ∈ u_ws C T N, w ∈ lw_tbl) : ∀ w ∈ u_ws C T N, w ∈ jall := fun w hw => jall_in (h w hw) (u_ws_good C T N w hw)
theorem jRep.at {G : jG} {h : jH} {H : Heap} {a : Nat} {e : jE} (hR : jRep G h H) (he : h.2 a = some e) : va_P G.1 vwCl [(a, jtr G.2.1 e)] H := by
  intro k q hk
  cases k with
  | zero => cases hk; exact (hR.2 a e he).2
  | succ k => cases hk
theorem jRep.dom {G : jG} {h : jH} {H : Heap} {a : Nat} {e : jE} (hR : jRep G h H) (he : h.2 a = some e) : va_D (jA G) [(a, jtr G.2.1 e)] := by
  refine ⟨fun i j x y hi hj _ => ?_, fun k q hk => ?_⟩
  · have h1 : i < 1 := (List.getElem?_eq_some_iff.mp hi).1
    have h2 : j < 1 := (List.getElem?_eq_some_iff.mp hj).1
    omega
  · cases k with
    | zero => cases hk; exact (hR.2 a e he).1
    | succ k => cases hk
section JH
variable {G : jG} {l : Launch} {M : jM} {dep : Nat} {X : jX} {h h1 : jH} {kc ks pc : Nat} {L : List (Option Value)} {st : List Value} {a k i0 : Nat} {x i : Int32}
theorem jr_getf (K : jOK G l M dep X) {index ci : Nat} {v : Value} (hd : decode M.2.1 pc = .ok (.getfield index, 3)) (hf : jFg M.1.cls index ci k) (hg : jgf ci h a k = some v) (kk : jJ G X h kc ks (pc + 3) L (v :: st)) : jJ G X h kc ks pc L (.ref a :: st) := by
  obtain ⟨p, l9, e, R, s, m, args, below, meth, c, mc, ms, Q⟩ := X
  obtain ⟨hx, hb, hml, hr, hown, hts, hlk, hin, hE, hbs, hd1, hd2, hd3, hd4, rfl, hxt⟩ := K
  intro H locs cells slots ls hR hS hc1 hc2 hc hl
  obtain ⟨C, T, N, ref, f1, f2, f3, f4, f5⟩ := hf
  obtain ⟨fs, g1, g2⟩ := jgf_o hg
  refine va_get hx hb hts (u_ws_all f2) hown hE.1 (hR.at g1) 0 rfl f1 k f3 (hts _ f4) ?_ g2 hd (kk H locs cells slots ls hR hS hc1 hc2 hc hl)
  rcases f5 with f5 | f5
  · intro y hy; rw [← f5]; exact hy
  · exact fun y hy => u_same (hts _ f5) y hy
theorem jr_getI (K : jOK G l M dep X) {index ci : Nat} (hd : decode M.2.1 pc = .ok (.getfield index, 3)) (hf : jFg M.1.cls index ci k) (hg : jgI ci h a k = some x) (kk : jJ G X h kc ks (pc + 3) L (.int x :: st)) : jJ G X h kc ks pc L (.ref a :: st) := jr_getf K hd hf (jgI_f hg) kk
theorem jr_getR (K : jOK G l M dep X) {index ci y : Nat} (hd : decode M.2.1 pc = .ok (.getfield index, 3)) (hf : jFg M.1.cls index ci k) (hg : jgR ci h a k = some y) (kk : jJ G X h kc ks (pc + 3) L (.ref y :: st)) : jJ G X h kc ks pc L (.ref a :: st) := jr_getf K hd hf (jgR_f hg) kk
theorem jr_getQ (K : jOK G l M dep X) {index ci : Nat} {y : Option Nat} (hd : decode M.2.1 pc = .ok (.getfield index, 3)) (hf : jFg M.1.cls index ci k) (hg : jgQ ci h a k = some y) (kk : jJ G X h kc ks (pc + 3) L (va_rf y :: st)) : jJ G X h kc ks pc L (.ref a :: st) := jr_getf K hd hf (jgQ_f hg) kk
theorem jr_put (K : jOK G l M dep X) {index ci : Nat} {fin : Bool} {ty : FieldType} {v : Value} (hd : decode M.2.1 pc = .ok (.putfield index, 3)) (hf : jFp M.1.cls index ci k fin ty) (hfi : fin = false ∨ M.1.name = "<init>") (hn : narrow ty v = v) (hfit : fits ty v = true) (hg : jpf ci h a k v = some h1) (kk : jJ G X h1 kc ks (pc + 3) L st) : jJ G X h kc ks pc L (v :: .ref a :: st) := by
  obtain ⟨p, l9, e, R, s, m, args, below, meth, c, mc, ms, Q⟩ := X
  obtain ⟨hx, hb, hml, hr, hown, hts, hlk, hin, hE, hbs, hd1, hd2, hd3, hd4, rfl, hxt⟩ := K
  intro H locs cells slots ls hR hS hc1 hc2 hc hl
  obtain ⟨C, T, N, ty0, f1, f2, f3, f4, f5, f6, f7, f8, f9⟩ := hf
  obtain ⟨fs, g1, g2, rfl⟩ := jpf_o hg
  have hap := va_apart (own := M.1.cls) hts (u_ws_all f2) ty0 f3 f4 hE.1 f1
  obtain ⟨r, h8, cell, q1, q2, q3, q4⟩ := (hR.2 a _ g1).2
  have hr : r = (C, T, N) := Option.some.inj (h8.symm.trans f1)
  subst hr
  obtain ⟨hS9, hfc, kC, hkC, hkind⟩ := hE.1.1 ci _ f1
  obtain ⟨cf, kf, fi, f, hi, hsl⟩ := hS9 k f5
  have hlay := hts _ (u_ws_all f2 _ (u_in_lay f5))
  unfold u_lay at hlay
  have hst := (u_facts hfc hkC (u_lays hts (u_ws_all f2) f5) hi).1
  have key : ∀ (H' : Heap), H'[a]? = some (cell.setSlot f.slot v) → H'.size = H.size → (∀ q, q ≠ a → H'[q]? = H[q]?) → jRep G (jup h a (.inl (ci, fs.set k v))) H' ∧ va_S (jA G) s.heap H' (locs ++ [⟨a, f.slot⟩]) := by
    intro H' e1 e2 e3
    rw [hsl] at e1
    exact ⟨hR.put g1 ⟨_, f1, t_OB.to (V := updV (vp_V fs) k v) ⟨_, e1, q2, q3, t_set q4 hap f5 v⟩ (fun j _ => vp_updV_set g2 v j)⟩ e2 e3, hS.put e2 e3 (hR.2 a _ g1).1⟩
  cases fin with
  | false =>
    rw [if_neg (by rw [f7]; decide)] at hlay
    have h6 := u_store hfc hkC hkind hlay hi f8 hn hfit
    refine W.putK hx hb (f := f) ⟨hown, hts _ f6, ⟨_, _, _, hi⟩, hst⟩ (by rw [q2]; exact h6) q1 q3 (by rw [hsl]; exact k2_hasslot (q4 k f5)) rfl rfl hd fun H' e1 e2 e3 => ?_
    obtain ⟨r1, r2⟩ := key H' e1 e2 e3
    exact kk H' _ cells slots ls r1 r2 hc1 hc2 hc hl
  | true =>
    rw [if_pos f7] at hlay
    have hcf : m.cls = cf := by
      obtain ⟨_, _, c', _, _, _, -, -, hf', -, -, -, hown2, -⟩ := Cond.laysFinal_spec hlay
      have e1 : c' = cf := by have := hi.symm.trans hf'; simp at this; exact this.1.symm
      rw [f9 rfl] at hown2
      rw [← e1]; exact Option.some.inj (hown.symm.trans hown2)
    have hin2 : meth.name = "<init>" := by
      rcases hfi with q | q
      · cases q
      · rw [hin]; exact q
    have h6 := u_fits hfc hkC hkind (Or.inr hlay) hi f8 hn hfit
    refine W.putFinK hx hb hown (hts _ f6) hi hst hcf hin2 (by rw [q2]; exact h6) q1 q3 (by rw [hsl]; exact k2_hasslot (q4 k f5)) rfl rfl hd fun H' e1 e2 e3 => ?_
    obtain ⟨r1, r2⟩ := key H' e1 e2 e3
    exact kk H' _ cells slots ls r1 r2 hc1 hc2 hc hl
theorem jr_putI (K : jOK G l M dep X) {index ci : Nat} {fin : Bool} (hd : decode M.2.1 pc = .ok (.putfield index, 3)) (hf : jFp M.1.cls index ci k fin .int) (hfi : fin = false ∨ M.1.name = "<init>") (hg : jpf ci h a k (.int x) = some h1) (kk : jJ G X h1 kc ks (pc + 3) L st) : jJ G X h kc ks pc L (.int x :: .ref a :: st) := jr_put K hd hf hfi rfl rfl hg kk
theorem jr_putZ (K : jOK G l M dep X) {index ci : Nat} {fin : Bool} (hd : decode M.2.1 pc = .ok (.putfield index, 3)) (hf : jFp M.1.cls index ci k fin .boolean) (hfi : fin = false ∨ M.1.name = "<init>") (hz : x = 0 ∨ x = 1) (hg : jpf ci h a k (.int x) = some h1) (kk : jJ G X h1 kc ks (pc + 3) L st) : jJ G X h kc ks pc L (.int x :: .ref a :: st) := jr_put K hd hf hfi (by rcases hz with rfl | rfl <;> rfl) (by rcases hz with rfl | rfl <;> rfl) hg kk
theorem jr_putR (K : jOK G l M dep X) {index ci y : Nat} {fin : Bool} {C : String} (hd : decode M.2.1 pc = .ok (.putfield index, 3)) (hf : jFp M.1.cls index ci k fin (.object C)) (hfi : fin = false ∨ M.1.name = "<init>") (hg : jpf ci h a k (.ref y) = some h1) (kk : jJ G X h1 kc ks (pc + 3) L st) : jJ G X h kc ks pc L (.ref y :: .ref a :: st) := jr_put K hd hf hfi rfl rfl hg kk
theorem jr_putA (K : jOK G l M dep X) {index ci y : Nat} {fin : Bool} {C : FieldType} (hd : decode M.2.1 pc = .ok (.putfield index, 3)) (hf : jFp M.1.cls index ci k fin (.array C)) (hfi : fin = false ∨ M.1.name = "<init>") (hg : jpf ci h a k (.ref y) = some h1) (kk : jJ G X h1 kc ks (pc + 3) L st) : jJ G X h kc ks pc L (.ref y :: .ref a :: st) := jr_put K hd hf hfi rfl rfl hg kk
theorem jr_iald (K : jOK G l M dep X) (hd : decode M.2.1 pc = .ok (.iaload, 1)) (hg : jal 0 h a i = some x) (kk : jJ G X h kc ks (pc + 1) L (.int x :: st)) : jJ G X h kc ks pc L (.int i :: .ref a :: st) := by
  obtain ⟨p, l9, e, R, s, m, args, below, meth, c, mc, ms, Q⟩ := X
  obtain ⟨hx, hb, hml, hr, hown, hts, hlk, hin, hE, hbs, hd1, hd2, hd3, hd4, rfl, hxt⟩ := K
  intro H locs cells slots ls hR hS hc1 hc2 hc hl
  obtain ⟨n, f, g1, g2, rfl⟩ := jal_o hg
  exact va_iald hx hb hE.1 (hR.at g1) 0 0 rfl rfl g2 hd (kk H locs cells slots ls hR hS hc1 hc2 hc hl)
theorem jr_bald (K : jOK G l M dep X) (hd : decode M.2.1 pc = .ok (.baload, 1)) (hg : jal 1 h a i = some x) (kk : jJ G X h kc ks (pc + 1) L (.int x :: st)) : jJ G X h kc ks pc L (.int i :: .ref a :: st) := by
  obtain ⟨p, l9, e, R, s, m, args, below, meth, c, mc, ms, Q⟩ := X
  obtain ⟨hx, hb, hml, hr, hown, hts, hlk, hin, hE, hbs, hd1, hd2, hd3, hd4, rfl, hxt⟩ := K
  intro H locs cells slots ls hR hS hc1 hc2 hc hl
  obtain ⟨n, f, g1, g2, rfl⟩ := jal_o hg
  exact va_bald hx hb hE.1 (hR.at g1) 0 1 rfl rfl g2 hd (kk H locs cells slots ls hR hS hc1 hc2 hc hl)
theorem jr_zald (K : jOK G l M dep X) (hd : decode M.2.1 pc = .ok (.baload, 1)) (hg : jal 2 h a i = some x) (kk : jJ G X h kc ks (pc + 1) L (.int x :: st)) : jJ G X h kc ks pc L (.int i :: .ref a :: st) := by
  obtain ⟨p, l9, e, R, s, m, args, below, meth, c, mc, ms, Q⟩ := X
  obtain ⟨hx, hb, hml, hr, hown, hts, hlk, hin, hE, hbs, hd1, hd2, hd3, hd4, rfl, hxt⟩ := K
  intro H locs cells slots ls hR hS hc1 hc2 hc hl
  obtain ⟨n, f, g1, g2, rfl⟩ := jal_o hg
  exact va_zald hx hb hE.1 (hR.at g1) 0 2 rfl rfl g2 hd (kk H locs cells slots ls hR hS hc1 hc2 hc hl)
theorem jr_lald (K : jOK G l M dep X) {v : Int64} (hd : decode M.2.1 pc = .ok (.laload, 1)) (hg : jall_ h a i = some v) (kk : jJ G X h kc ks (pc + 1) L (.long v :: st)) : jJ G X h kc ks pc L (.int i :: .ref a :: st) := by
  obtain ⟨p, l9, e, R, s, m, args, below, meth, c, mc, ms, Q⟩ := X
  obtain ⟨hx, hb, hml, hr, hown, hts, hlk, hin, hE, hbs, hd1, hd2, hd3, hd4, rfl, hxt⟩ := K
  intro H locs cells slots ls hR hS hc1 hc2 hc hl
  obtain ⟨n, f, g1, g2, rfl⟩ := jall_o hg
  exact va_lald hx hb hE.1 (hR.at g1) 0 3 rfl rfl g2 hd (kk H locs cells slots ls hR hS hc1 hc2 hc hl)
theorem jr_aald (K : jOK G l M dep X) {y : Option Nat} (hd : decode M.2.1 pc = .ok (.aaload, 1)) (hg : jalq h a i = some y) (kk : jJ G X h kc ks (pc + 1) L (va_rf y :: st)) : jJ G X h kc ks pc L (.int i :: .ref a :: st) := by
  obtain ⟨p, l9, e, R, s, m, args, below, meth, c, mc, ms, Q⟩ := X
  obtain ⟨hx, hb, hml, hr, hown, hts, hlk, hin, hE, hbs, hd1, hd2, hd3, hd4, rfl, hxt⟩ := K
  intro H locs cells slots ls hR hS hc1 hc2 hc hl
  obtain ⟨n, f, g1, g2, rfl⟩ := jalq_o hg
  exact va_aldq hx hb hE.1 (hR.at g1) 0 4 rfl rfl g2 hd (kk H locs cells slots ls hR hS hc1 hc2 hc hl)
theorem jr_alen (K : jOK G l M dep X) (hd : decode M.2.1 pc = .ok (.arraylength, 1)) (hg : jlen h a = some x) (kk : jJ G X h kc ks (pc + 1) L (.int x :: st)) : jJ G X h kc ks pc L (.ref a :: st) := by
  obtain ⟨p, l9, e, R, s, m, args, below, meth, c, mc, ms, Q⟩ := X
  obtain ⟨hx, hb, hml, hr, hown, hts, hlk, hin, hE, hbs, hd1, hd2, hd3, hd4, rfl, hxt⟩ := K
  intro H locs cells slots ls hR hS hc1 hc2 hc hl
  obtain ⟨t, n, f, g1, g2, rfl⟩ := jlen_o hg
  have k0 := kk H locs cells slots ls hR hS hc1 hc2 hc hl
  match t, g2, g1 with
  | 0, _, g1 => exact va_alen hx hb hE.1 (hR.at g1) 0 0 rfl rfl rfl hd k0
  | 1, _, g1 => exact va_alen hx hb hE.1 (hR.at g1) 0 1 rfl rfl rfl hd k0
  | 2, _, g1 => exact va_alen hx hb hE.1 (hR.at g1) 0 2 rfl rfl rfl hd k0
theorem jr_iast (K : jOK G l M dep X) (hd : decode M.2.1 pc = .ok (.iastore, 1)) (hg : jas 0 h a i x = some h1) (kk : jJ G X h1 kc ks (pc + 1) L st) : jJ G X h kc ks pc L (.int x :: .int i :: .ref a :: st) := by
  obtain ⟨p, l9, e, R, s, m, args, below, meth, c, mc, ms, Q⟩ := X
  obtain ⟨hx, hb, hml, hr, hown, hts, hlk, hin, hE, hbs, hd1, hd2, hd3, hd4, rfl, hxt⟩ := K
  intro H locs cells slots ls hR hS hc1 hc2 hc hl
  obtain ⟨n, f, g1, g2, -, rfl⟩ := jas_o hg
  refine W.iast hx hb (hR.2 a _ g1).2 ((hE.1.2 0 _ rfl).1 n (fun j => .int (f j))) (fun q => by cases q) (by show ¬ (i < 0 ∨ (arrV _ _ _).slots.size ≤ _); rw [arrV_size]; exact g2) rfl rfl hd fun H1 e z oq => ?_
  refine kk H1 _ cells slots ls (hR.put g1 ?_ z oq) (hS.put z oq (hR.2 a _ g1).1) hc1 hc2 hc hl
  show H1[a]? = some (vp_cell _ _)
  rw [e]
  show some (_ : Cell) = some (vp_cell (G.2.1 0) (n, Sum.inl (upd f i.toNatClampNeg (jnar 0 x))))
  rw [show (jtr G.2.1 (.inr (.inl (0, n, f)))) = .inl (G.2.1 0, n, .inl f) from rfl] at *
  rw [vp_cell_i, vp_cell_i, arrV_store]
  congr 2
  funext q
  by_cases hq : q = i.toNatClampNeg
  · subst hq
    simp [updV, upd, jnar]
  · simp [updV, upd, hq]
end JH
