/-! arraycopy, ends, contracts, calls, throws -/
section JD
variable {G : jG} {l : Launch} {M : jM} {dep : Nat} {X : jX} {h h1 : jH} {kc ks pc : Nat} {L : List (Option Value)} {st : List Value} {a k i0 : Nat} {x i : Int32}
theorem jr_copy (K : jOK G l M (dep + 1) X) {index a0 : Nat} {sp dp n : Int32} (hd : decode M.2.1 pc = .ok (.invokestatic index, 3)) (hw : Cond.methodLink M.1.cls index arraycopyName ∈ jall ∧ Cond.native arraycopyName ∈ jall ∧ Cond.static arraycopyName ∈ jall ∧ Cond.initialized "java/lang/System" ∈ jall) (hrm : (st.map fun v => v.category).sum ≤ 8) (hg : jcp h a0 sp a dp n = some h1) (kk : jJ G X h1 kc ks (pc + 3) L st) : jJ G X h kc ks pc L (.int n :: .int dp :: .ref a :: .int sp :: .ref a0 :: st) := by
  obtain ⟨p, l9, e, R, s, m, args, below, meth, c, mc, ms, Q⟩ := X
  obtain ⟨hx, hb, hml, hr, hown, hts, hlk, hin, hE, hbs, hd1, hd2, hd3, hd4, rfl, hxt⟩ := K
  intro H locs cells slots ls hR hS hc1 hc2 hc hl
  obtain ⟨n0, f, n1, g, g0, g1, q1, q2, q3, q4, q5, rfl⟩ := jcp_o hg
  have nn : ∀ z : Int32, ¬ z < 0 → z.toInt = (z.toNatClampNeg : Int) := by
    intro z hz
    have hz0 : (0 : Int) ≤ z.toInt := by
      have := Int32.not_lt.mp hz
      simpa using Int32.le_iff_toInt_le.mp this
    show z.toInt = ((z.toInt.toNat : Nat) : Int)
    omega
  intro T hT X
  have hc0 : H[a0]? = some (vp_cell (G.2.1 0) (n0, .inl f)) := (hR.2 a0 _ g0).2
  have hcc1 : H[a]? = some (vp_cell (G.2.1 0) (n1, .inl g)) := (hR.2 a _ g1).2
  obtain ⟨-, k0, hk0, cm0, hkk0⟩ := (hE.1.2 0 _ rfl).1 n0 (fun j => .int (f j))
  obtain ⟨-, k1, hk1, cm1, hkk1⟩ := (hE.1.2 0 _ rfl).1 n1 (fun j => .int (g j))
  obtain ⟨vm', X', step⟩ := X.arraycopy hx hown (hts _ hw.1) (hts _ hw.2.1) (hts _ hw.2.2.1) (hts _ hw.2.2.2) (src := a0) (dst := a) (cs := vp_cell (G.2.1 0) (n0, .inl f)) (cd := vp_cell (G.2.1 0) (n1, .inl g)) (srcPos := sp) (destPos := dp) (n := n) (by rw [hT]; exact hc0) (by rw [hT]; exact hcc1)
    (fun _ h => by cases h) (fun _ h => by cases h) (fun h => by cases h) (fun h => by cases h) hk0 hk1 hkk0 hkk1 (by simp) q1 q2 q3
    (by rw [nn sp q1, nn n q3]; show ¬ _ > ((arrV (G.2.1 0) n0 (fun j => .int (f j))).slots.size : Int); rw [arrV_size]; omega)
    (by rw [nn dp q2, nn n q3]; show ¬ _ > ((arrV (G.2.1 0) n1 (fun j => .int (g j))).slots.size : Int); rw [arrV_size]; omega)
    (fun vm₁ _ i hi => by
      have e : (vp_cell (G.2.1 0) (n0, .inl f)).slots.getD (sp.toNatClampNeg + i) .null = .int (f (sp.toNatClampNeg + i)) := by
        show (arrV (G.2.1 0) n0 (fun j => .int (f j))).slots.getD _ _ = _
        rw [Array.getD_eq_getD_getElem?, arrV_read _ _ (by omega)]
        rfl
      refine ⟨?_, ?_⟩
      · rw [e]; rfl
      · rw [e]; exact trivial)
    (g := F0 m pc ls (.int n :: .int dp :: .ref a :: .int sp :: .ref a0 :: st)) rfl hl.1 (rest := st) rfl (by rw [hb]; exact hd) (by omega) (by
      have hnw : nativeFrameWords "java/lang/System" "arraycopy" 5 + 11 ≤ 70 := by decide
      show 2 * 0 + _ + _ ≤ _; omega)
  have e1 : copied (vp_cell (G.2.1 0) (n0, .inl f)) (vp_cell (G.2.1 0) (n1, .inl g)) sp dp n = vp_cell (G.2.1 0) (n1, .inl (va_cpy f g sp.toNatClampNeg dp.toNatClampNeg n.toNatClampNeg)) := va_copied (fun z => .int z) (G.2.1 0) (G.2.1 0) f g q4
  rw [e1] at X' step
  have hlt : a < H.size := (Array.getElem?_eq_some_iff.mp hcc1).1
  have hheap : ((T.setVm vm').setCell a (vp_cell (G.2.1 0) (n1, .inl (va_cpy f g sp.toNatClampNeg dp.toNatClampNeg n.toNatClampNeg)))).heap = H.setIfInBounds a (vp_cell (G.2.1 0) (n1, .inl (va_cpy f g sp.toNatClampNeg dp.toNatClampNeg n.toNatClampNeg))) := by rw [← hT]; rfl
  have oq : ∀ q : Nat, q ≠ a → (H.setIfInBounds a (vp_cell (G.2.1 0) (n1, .inl (va_cpy f g sp.toNatClampNeg dp.toNatClampNeg n.toNatClampNeg))))[q]? = H[q]? := fun q hq => by simp [Array.getElem?_setIfInBounds, Ne.symm hq]
  have hA : jA G a := (hR.2 a _ g1).1
  obtain ⟨t, a1, b1⟩ := kk _ _ cells slots ls (hR.put (e := .inr (.inl (0, n1, va_cpy f g sp.toNatClampNeg dp.toNatClampNeg n.toNatClampNeg))) g1 (show (H.setIfInBounds a _)[a]? = some _ by simp [Array.getElem?_setIfInBounds, hlt, jtr]) (by simp) oq) ⟨by simp; exact hS.1, fun q j1 j2 => by
      rw [oq q (fun e => j2 (by rw [e]; exact hA))]
      exact hS.2.1 q j1 j2, fun q hq => by
      rcases List.mem_append.mp hq with h | h
      · exact hS.2.2 q h
      · obtain ⟨z, -, hz⟩ := List.mem_map.mp h
        rw [← hz]
        exact hA⟩ hc1 hc2 hc hl _ hheap X'
  exact ⟨t, step t a1, b1⟩
/-- the end that a contract asks -/
def jEnd (G : jG) (M : jM) (P : jR → jH → Prop) : jX → Prop
  | (_, _, _, _, s, _, args, below, _, _, mc, ms, Q) => Q = vx_MQ below (jQc G M.2.2.2.1 P) (jXC G P) args s mc ms (jA G)
theorem va_S.F9 {A : Nat → Prop} {H : Heap} {locs : List Loc} {s t : State} (h : va_S A s.heap H locs) (ht : t.heap = H) : va_F A s t := by
  rw [va_F, ht]
  exact ⟨h.1, h.2.1⟩
theorem jr_iret (K : jOK G l M dep X) {P : jR → jH → Prop} (E : jEnd G M P X) (hd : decode M.2.1 pc = .ok (.ireturn, 1)) (ht : M.2.2.2.1 = some .int) (hP : P (.inl x) h) : jJ G X h kc ks pc L [.int x] := by
  obtain ⟨p, l9, e, R, s, m, args, below, meth, c, mc, ms, Q⟩ := X
  obtain ⟨hx, hb, hml, hr, hown, hts, hlk, hin, hE, hbs, hd1, hd2, hd3, hd4, rfl, hxt⟩ := K
  subst E
  intro H locs cells slots ls hR hS hc1 hc2 hc hl
  refine W.widen (k := mc) (n := ms) (by omega) (by omega) (vx_ret ?_)
  refine W.iret hx hb (hr.trans ht) (fun t ht9 hW => ⟨⟨x, h, by rw [ht]; rfl, hP, by rw [ht9]; exact hR⟩, hS.F9 ht9⟩) hS.2.2 hd (hlocks := hlk)
theorem jr_zret (K : jOK G l M dep X) {P : jR → jH → Prop} (E : jEnd G M P X) (hd : decode M.2.1 pc = .ok (.ireturn, 1)) (ht : M.2.2.2.1 = some .boolean) (hz : x = 0 ∨ x = 1) (hP : P (.inl x) h) : jJ G X h kc ks pc L [.int x] := by
  obtain ⟨p, l9, e, R, s, m, args, below, meth, c, mc, ms, Q⟩ := X
  obtain ⟨hx, hb, hml, hr, hown, hts, hlk, hin, hE, hbs, hd1, hd2, hd3, hd4, rfl, hxt⟩ := K
  subst E
  intro H locs cells slots ls hR hS hc1 hc2 hc hl
  refine W.widen (k := mc) (n := ms) (by omega) (by omega) (vx_ret ?_)
  refine W.zret (ty := .boolean) hx hb (hr.trans ht) (by rcases hz with rfl | rfl <;> rfl) (fun t ht9 hW => ⟨⟨x, h, by rw [ht]; rfl, hP, by rw [ht9]; exact hR⟩, hS.F9 ht9⟩) hS.2.2 hd (hlocks := hlk)
theorem jr_cret (K : jOK G l M dep X) {P : jR → jH → Prop} {ty : FieldType} (E : jEnd G M P X) (hd : decode M.2.1 pc = .ok (.ireturn, 1)) (ht : M.2.2.2.1 = some ty) (hz : narrow ty (.int x) = .int x) (hP : P (.inl x) h) : jJ G X h kc ks pc L [.int x] := by
  obtain ⟨p, l9, e, R, s, m, args, below, meth, c, mc, ms, Q⟩ := X
  obtain ⟨hx, hb, hml, hr, hown, hts, hlk, hin, hE, hbs, hd1, hd2, hd3, hd4, rfl, hxt⟩ := K
  subst E
  intro H locs cells slots ls hR hS hc1 hc2 hc hl
  refine W.widen (k := mc) (n := ms) (by omega) (by omega) (vx_ret ?_)
  refine W.zret (ty := ty) hx hb (hr.trans ht) hz (fun t ht9 hW => ⟨⟨x, h, by rw [ht]; rfl, hP, by rw [ht9]; exact hR⟩, hS.F9 ht9⟩) hS.2.2 hd (hlocks := hlk)
theorem jr_vret (K : jOK G l M dep X) {P : jR → jH → Prop} (E : jEnd G M P X) (hd : decode M.2.1 pc = .ok (.return_, 1)) (ht : M.2.2.2.1 = none) (hP : P (.inl 0) h) : jJ G X h kc ks pc L [] := by
  obtain ⟨p, l9, e, R, s, m, args, below, meth, c, mc, ms, Q⟩ := X
  obtain ⟨hx, hb, hml, hr, hown, hts, hlk, hin, hE, hbs, hd1, hd2, hd3, hd4, rfl, hxt⟩ := K
  subst E
  intro H locs cells slots ls hR hS hc1 hc2 hc hl
  refine W.widen (k := mc) (n := ms) (by omega) (by omega) (vx_ret ?_)
  refine W.vret hx hb (hr.trans ht) (fun t ht9 hW => ⟨⟨0, h, by rw [ht]; rfl, hP, by rw [ht9]; exact hR⟩, hS.F9 ht9⟩) hS.2.2 hd (hlocks := hlk)
/-- the first locals: what is passed -/
def jL0 (n : Nat) (av : List Value) : List (Option Value) := av.map some ++ List.replicate (n - av.length) none
theorem jlv_app : ∀ (av : List Value) (k m : Nat), (∀ v ∈ av, v.category = 1) → jlv k (av.map some ++ List.replicate m none) = lv_args k av := by
  intro av
  induction av with
  | nil =>
    intro k m _
    have : ∀ (m k : Nat), jlv k (List.replicate m (none : Option Value)) = [] := by
      intro m
      induction m with
      | zero => intro k; rfl
      | succ m ih => intro k; rw [List.replicate_succ]; exact ih (k + 1)
    simp [this, lv_args]
  | cons v av ih =>
    intro k m hv
    have h1 : v.category = 1 := hv v List.mem_cons_self
    show (k, v) :: jlv (k + 1) (av.map some ++ List.replicate m none) = (k, v) :: lv_args (if v.category = 2 then k + 2 else k + 1) av
    rw [ih (k + 1) m (fun w hw => hv w (List.mem_cons_of_mem _ hw)), h1]
    rfl
theorem lg_sl1 : ∀ (av : List Value), (∀ v ∈ av, v.category = 1) → (lg_sl av).length = av.length := by
  intro av
  induction av with
  | nil => intro _; rfl
  | cons v av ih =>
    intro hv
    have h1 : v.category = 1 := hv v List.mem_cons_self
    have h2 := ih (fun w hw => hv w (List.mem_cons_of_mem _ hw))
    simp only [lg_sl, List.flatMap_cons, List.length_append, List.length_cons] at h2 ⊢
    rw [h2, h1]
    simp
    omega
theorem jcat_L0 {n : Nat} {av : List Value} (hv : ∀ v ∈ av, v.category = 1) : jcat (jL0 n av) := by
  intro i v h
  unfold jL0 at h
  rcases List.mem_append.mp (List.mem_of_getElem? h) with h | h
  · obtain ⟨w, hw, e⟩ := List.mem_map.mp h
    cases e
    exact hv _ hw
  · have := List.eq_of_mem_replicate h
    cases this
/-- A CONTRACT out of a run from the entry: any machine, any caller -/
theorem jC.of {mc ms : Nat} {av : List Value} {P : jR → jH → Prop} (hy : plainName M.1.cls = true) (hcat : ∀ v ∈ av, v.category = 1) (hlen : av.length ≤ M.2.2.1)
    (body : ∀ X : jX, jOK G l M dep X → jEnd G M P X → jJ G X h mc ms 0 (jL0 M.2.2.1 av) []) : jC G l M dep mc ms av h P := by
  obtain ⟨y, cc, nL, ret, hh⟩ := M
  have key : ∀ (p : Program) (e : Env) (s : State) (m : MethodId) (args : Array Value) (below : List Frame) (meth : Method) (c : Code) (s₁ : State), BodyLoose p l y (headSpec (jws (y, cc, nL, ret, hh)) (jrm dep mc ms)) cc nL ret e s m args below meth c s₁ → c.maxLocals = nL → c.exceptionTable.toList = tableOf hh → va_Pc av (fun U => jRep G h U.heap ∧ jEF G U U.heap ∧ G.2.2.1 ≤ U.heap.size) args s →
      W p l e (jrm dep mc ms) s m args below meth c s.heap [] 0 0 (vx_MQ below (jQc G ret P) (jXC G P) args s mc ms (jA G)) (entryFrame m args nL) := by
    intro p e s m args below meth c s₁ B hml hxt hv
    obtain ⟨rfl, hR, hE, hbase⟩ := hv
    have hws := atoms_spec (ws := jws (y, cc, nL, ret, hh)) B.pre
    rw [lg_entry_eq]
    have hl := lv_entry av (n := nL) (by rw [lg_sl1 av hcat]; exact hlen)
    generalize (lg_sl av ++ List.replicate (nL - (lg_sl av).length) Slot.unset).toArray = ls at hl ⊢
    rw [← jlv_app av 0 (nL - av.length) hcat] at hl
    exact body (p, l, e, jrm dep mc ms, s, m, av.toArray, below, meth, c, mc, ms, _) ⟨B.exec, B.bytes, hml, B.returns, findClass_of_methodNamed B.named, fun w hw => hws w (List.mem_cons_of_mem _ hw), B.notSynchronized, (name_of_methodNamed B.named B.method).1, hE, hbase, Nat.le_refl _, Nat.le_refl _, Nat.le_refl _, Nat.le_refl _, rfl, hxt⟩ rfl
      s.heap [] 0 0 ls hR va_S.rf (by omega) (by omega) (jcat_L0 hcat) (by rw [hml]; exact hl)
  cases hh with
  | nil =>
    refine vx_ofW (cc := cc) (maxL := nL) (ret := ret) (ws' := jall) hy rfl ?_
    intro p e s m args below meth c s₁ B hml ht hv
    refine key p e s m args below meth c s₁ B hml ?_ hv
    cases hq : c.exceptionTable.toList with
    | nil => rfl
    | cons z zs => exact (ht z (by rw [hq]; exact List.mem_cons_self)).elim
  | cons q hh =>
    refine vx_ofWH (cc := cc) (maxL := nL) (ret := ret) (hh := q :: hh) (ws' := jall) hy rfl ?_
    intro p e s m args below meth c s₁ B hml hv
    refine key p e s m args below meth c s₁ B hml ?_ hv
    exact vx_table (x := y) B (atoms_spec (ws := jws (y, cc, nL, ret, q :: hh)) B.pre _ List.mem_cons_self)
theorem jC.weaken {mc ms : Nat} {av : List Value} {P P2 : jR → jH → Prop} (hC : jC G l M dep mc ms av h P) (hPP : ∀ r h1, P r h1 → P2 r h1) : jC G l M dep mc ms av h P2 := by
  intro p e ha hc hk s m args below hf happ hpre hK
  obtain ⟨n, o, h1, h2, h3, h4⟩ := hC p e ha hc hk s m args below hf happ hpre hK
  refine ⟨n, o, h1, h2, h3, ?_⟩
  rcases h4 with ⟨⟨⟨r, h9, q1, q2, q3⟩, q4⟩, q5⟩ | ⟨q, q1, E, ce, L, ⟨⟨k, z, h9, q2, q3, q4, q5⟩, q6⟩, q7⟩
  · exact Or.inl ⟨⟨⟨r, h9, q1, hPP _ _ q2, q3⟩, q4⟩, q5⟩
  · exact Or.inr ⟨q, q1, E, ce, L, ⟨⟨k, z, h9, q2, q3, hPP _ _ q4, q5⟩, q6⟩, q7⟩
theorem jC.met {mc ms : Nat} {av : List Value} {P : jR → jH → Prop} (hC : jC G l M dep mc ms av h P) (hnt : ∀ k h1, ¬ P (.inr k) h1) : Met l M.1 (jws M) (jrm dep mc ms) (va_Pc av (fun U => jRep G h U.heap ∧ jEF G U U.heap ∧ G.2.2.1 ≤ U.heap.size)) (jQc G M.2.2.2.1 P) mc ms (jA G) := by
  intro p e ha hc hk s m args below hf happ hpre hK
  obtain ⟨n, o, h1, h2, h3, h4⟩ := hC p e ha hc hk s m args below hf happ hpre hK
  refine ⟨n, o, h1, h2, h3, ?_⟩
  rcases h4 with h4 | ⟨q, q1, E, ce, L, ⟨⟨k, z, h9, q2, q3, q4, q5⟩, q6⟩, q7⟩
  · exact h4
  · exact (hnt _ _ q4).elim
theorem jPc_blind {av : List Value} : FrameBlind (va_Pc av (fun U => jRep G h U.heap ∧ jEF G U U.heap ∧ G.2.2.1 ≤ U.heap.size)) := fun _ U g mk q => ⟨q.1, q.2.1, jEF.same (s := U) (U := U.calling g mk _) (H := U.heap) rfl q.2.2.1, q.2.2.2⟩
theorem jPc_at {av : List Value} {H : Heap} {s U : State} {locs : List Loc} (hR : jRep G h H) (hS : va_S (jA G) s.heap H locs) (hE : jEF G s s.heap) (hbs : G.2.2.1 ≤ s.heap.size) (hU : U.heap = H) (hW : s.WarmedH U.vm) : va_Pc av (fun U => jRep G h U.heap ∧ jEF G U U.heap ∧ G.2.2.1 ≤ U.heap.size) av.toArray U := by
  refine ⟨rfl, by rw [hU]; exact hR, ?_, by rw [hU]; exact Nat.le_trans hbs hS.1⟩
  rw [hU]
  exact (hE.kept hS.2.1).warm hW
theorem jws_good {Y : jM} (hY : jcode Y ∈ jall) : GoodIn jall (jws Y) := jall_good fun w hw => (List.mem_cons.mp hw).elim (fun e => by rw [e]; exact hY) id
end JD
