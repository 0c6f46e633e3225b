section
/-! calls -/
/-- something was thrown over the frame: the k-th class of jexn -/
def jJx (G : jG) : jX → jH → Nat → Nat → Nat → List (Option Value) → Nat → Prop
  | (p, l, e, R, s, m, args, below, meth, c, mc, ms, Q), h, kc, ks, pc, L, k =>
    ∀ (H : Heap) (locs : List Loc) (cells slots : Nat) (ls : Array Slot) (st : List Value) (q : Addr) (ce : Cell) (E : String), jRep G h H → va_S (jA G) s.heap H locs → cells + kc ≤ mc → slots + ks ≤ ms → jcat L → lv_has ls c.maxLocals (jlv 0 L) → jexn[k]? = some E → H[q]? = some ce → ce.vm = .none → s.vm.findClass E = some ce.cls →
      vx_W p l e R s m args below meth c H locs cells slots Q (F0 m pc ls st) q
/-- what a call's place must link: of an object's own method, of a static one, of a constructor -/
abbrev jSY (Y : jM) (n : Nat) : Prop := jcode Y ∈ jall ∧ Cond.initialized Y.1.cls ∈ jall ∧ (Y.1.cls ≠ "java/lang/invoke/MethodHandle" ∧ Y.1.cls ≠ "java/lang/invoke/VarHandle" ∧ (parseMethodDescriptor Y.1.desc).map (fun d => d.parameters.length) = some n) ∧ 19 + Y.2.2.1 ≤ 80
def jSv (own : String) (idx : Nat) (Y : jM) (n : Nat) : Prop := Cond.methodLink own idx Y.1 ∈ jall ∧ Cond.instanceMethod Y.1 ∈ jall ∧ Cond.selects Y.1.cls Y.1 Y.1 ∈ jall ∧ jSY Y n
def jSs (own : String) (idx : Nat) (Y : jM) (n : Nat) : Prop := Cond.methodLink own idx Y.1 ∈ jall ∧ Cond.static Y.1 ∈ jall ∧ jSY Y n
def jSi (own : String) (idx : Nat) (Y : jM) (n : Nat) : Prop := Cond.methodLink own idx Y.1 ∈ jall ∧ Cond.instanceMethod Y.1 ∈ jall ∧ Y.1.name = "<init>" ∧ jSY Y n
/-- the same of a nest mate's private ones -/
def jSsN (own : String) (idx : Nat) (Y : jM) (n : Nat) : Prop := Cond.methodLinkNest own idx Y.1 "RodRings" ∈ jnest ∧ Cond.static Y.1 ∈ jall ∧ jSY Y n
def jSiN (own : String) (idx : Nat) (Y : jM) (n : Nat) : Prop := Cond.methodLinkNest own idx Y.1 "RodRings" ∈ jnest ∧ Cond.instanceMethod Y.1 ∈ jall ∧ Y.1.name = "<init>" ∧ jSY Y n
/-- a method named x, inherited or abstract there, that is Y in the class C -/
def jSu (own : String) (idx : Nat) (C owner : String) (x : MethodName) (Y : jM) (n : Nat) : Prop := Cond.methodLink own idx x ∈ jall ∧ Cond.sameMethod x.cls owner x.name x.desc ∈ jall ∧ Cond.selects C x Y.1 ∈ jall ∧ Cond.instanceMethod Y.1 ∈ jall ∧ Cond.declares ⟨owner, x.name, x.desc⟩ ∈ jnest ∧ (owner ≠ "java/lang/invoke/MethodHandle" ∧ owner ≠ "java/lang/invoke/VarHandle" ∧ (parseMethodDescriptor x.desc).map (fun d => d.parameters.length) = some n) ∧ jSY Y n
section JE0
variable {p : Program} {l : Launch} {e : Env} {R : Room} {s : State} {m : MethodId} {args : Array Value} {below : List Frame} {meth : Method} {c : Code} {H : Heap} {locs : List Loc} {cells slots : Nat} {Q : State → Prop}
variable {G : jG} {P : jR → jH → Prop} {ret : Option FieldType} {mc ms pc : Nat} {a : Array Value} {ls : Array Slot} {st0 rest : List Value}
theorem jr_backX (hr : vx_Run p l e R s m args below meth c H locs cells slots mc ms (F0 m pc ls st0) rest (jQc G ret P a) (jXC G P) (jA G)) (hS : va_S (jA G) s.heap H locs)
    (kx : ∀ (E : String) (k z : Nat) (h1 : jH) (ce : Cell) (q9 : Addr) (H1 : Heap) (locs1 : List Loc), jexn[k]? = some E → h1.1 ≤ z → P (.inr k) h1 → jRep G (z, h1.2) H1 → va_S (jA G) s.heap H1 locs1 → H1[q9]? = some ce → ce.vm = .none → s.vm.findClass E = some ce.cls → vx_W p l e R s m args below meth c H1 locs1 (cells + mc) (slots + ms) Q (F0 m pc ls rest) q9)
    (kk : ∀ (r : Int32) (h1 : jH) (H1 : Heap) (locs1 : List Loc), P (.inl r) h1 → jRep G h1 H1 → va_S (jA G) s.heap H1 locs1 → W p l e R s m args below meth c H1 locs1 (cells + mc) (slots + ms) Q (F0 m (pc + 3) ls ((jval ret r).toList ++ rest))) : W p l e R s m args below meth c H locs cells slots Q (F0 m pc ls st0) := by
  intro T hT X
  rcases hr T hT X with ⟨v, st₀, t, T', L, h0, X', hL, e1, e2, ⟨⟨r, h1, hv, hp, hb⟩, hF⟩, st⟩ | ⟨q, st₀, t, T', L, E, ce, h0, X', hL, e1, e2, ⟨⟨k, z, h1, hk, hz, hp, hb⟩, hF⟩, hce, hcv, hcl, st⟩
  · cases hv
    obtain ⟨k1, k2, k3⟩ := vx_keep h0 e1 hS (fun _ _ q => q) (fun _ q => q) hL hF
    obtain ⟨t2, a1, b1⟩ := kk r h1 T'.heap (locs ++ L) hp (by rw [e1]; exact hb) k3 T' rfl X'
    exact ⟨t2, st t2 a1, b1⟩
  · obtain ⟨k1, k2, k3⟩ := vx_keep h0 e1 hS (fun _ _ q => q) (fun _ q => q) hL hF
    obtain ⟨t2, a1, b1⟩ := kx E k z h1 ce q T'.heap (locs ++ L) hk hz hp (by rw [e1]; exact hb) k3 (by rw [e1]; exact hce) hcv hcl T' rfl X'
    exact ⟨t2, st.trans a1, b1⟩
theorem jr_backM (hr : va_Run p l e R s m args below meth c H locs cells slots mc ms (F0 m pc ls st0) rest (jQc G ret P a) (jA G)) (hS : va_S (jA G) s.heap H locs)
    (kk : ∀ (r : Int32) (h1 : jH) (H1 : Heap) (locs1 : List Loc), P (.inl r) h1 → jRep G h1 H1 → va_S (jA G) s.heap H1 locs1 → W p l e R s m args below meth c H1 locs1 (cells + mc) (slots + ms) Q (F0 m (pc + 3) ls ((jval ret r).toList ++ rest))) : W p l e R s m args below meth c H locs cells slots Q (F0 m pc ls st0) := by
  intro T hT X
  obtain ⟨v, st₀, t, T', L, h0, X', hL, e1, e2, ⟨⟨r, h1, hv, hp, hb⟩, hF⟩, st⟩ := hr T hT X
  cases hv
  obtain ⟨k1, k2, k3⟩ := vx_keep h0 e1 hS (fun _ _ q => q) (fun _ q => q) hL hF
  obtain ⟨t2, a1, b1⟩ := kk r h1 T'.heap (locs ++ L) hp (by rw [e1]; exact hb) k3 T' rfl X'
  exact ⟨t2, st t2 a1, b1⟩
end JE0
section JE
variable {G : jG} {l : Launch} {M : jM} {dep : Nat} {X : jX} {h : jH} {kc ks pc : Nat} {L : List (Option Value)} {st stk : List Value} {P : jR → jH → Prop} {index n mc2 ms2 b : Nat} {As : List Value} {y : MethodName} {cc : ByteArray} {nL : Nat} {ret : Option FieldType} {kc2 ks2 : Nat}
theorem jrecv {H : Heap} {s : State} {ci : Nat} {fs : List Value} {C : String} {T : u_T} {N : Nat} (hK : va_K G.1 vwCl (jtys G) s) (hR : jRep G h H) (he : h.2 b = some (.inl (ci, fs))) (hc : vwCl[ci]? = some (C, T, N)) : ∃ cell : Cell, H[b]? = some cell ∧ cell.vm.isStatics = false ∧ s.vm.findClass C = some cell.cls :=
  va_recv hK (hR.at he) hc (q0 := 0) rfl
/-- an object's own method; kx: where it throws -/
theorem jr_callVx (K : jOK G l M (dep + 1) X) (hC : jC G l (y, cc, nL, ret, []) dep mc2 ms2 (.ref b :: As) h P) (hd : decode M.2.1 pc = .ok (.invokevirtual index, 3)) (hs : jSv M.1.cls index (y, cc, nL, ret, []) n) {ci : Nat} {T : u_T} {N : Nat} (hci : vwCl[ci]? = some (y.cls, T, N)) (hrc : ∃ fs, h.2 b = some (.inl (ci, fs))) (hn : As.length = n) (hstk : stk = As.reverse ++ .ref b :: st) (hrm : (st.map fun v => v.category).sum ≤ 8) (hk1 : kc2 + mc2 = kc) (hk2 : ks2 + ms2 = ks)
    (kx : ∀ k z h1, P (.inr k) h1 → h1.1 ≤ z → jJx G X (z, h1.2) kc2 ks2 pc L k) (kk : ∀ r h1, P (.inl r) h1 → jJ G X h1 kc2 ks2 (pc + 3) L ((jval ret r).toList ++ st)) : jJ G X h kc ks pc L stk := by
  obtain ⟨p, l9, e, R, s, m, args, below, meth, c, mc, ms, Q⟩ := X
  obtain ⟨hx, hb, hml, hr, hown, hts, hlk, hin, hE, hbs, hd1, hd2, hd3, hd4, rfl, hxt⟩ := K
  subst hstk
  subst hk1 hk2
  intro H locs cells slots ls hR hS hc1 hc2 hc hl
  obtain ⟨s1, s2, s3, s4, s5, s6, s7⟩ := hs
  obtain ⟨fs, hfs⟩ := hrc
  have cb := callB_of (own := M.1.cls) (index := index) (y := y) (bytes := cc) (maxL := nL) (ret := ret) (ws := jws (y, cc, nL, ret, [])) (ws' := jall) (rm := jrm dep mc2 ms2) (mc := mc2) (ms := ms2) (R := R) (s := s) (args := args) n hts (jws_good s4) rfl rfl rfl (hts _ s5) (hts _ s1) s6 ⟨by show dep + 1 ≤ R.frames; omega, by show 8 + (nL + 11) + 80 * dep ≤ R.locals; have s8 : 19 + nL ≤ 80 := s7; omega⟩
  refine jr_backX (vx_runV (As := As) (rest := st) (C := y.cls) ⟨hx, hb, rfl, hown, hts⟩ hC ⟨cb, hts _ s2, hts _ s3⟩ ⟨jPc_blind, jrecv hE.1 hR hfs hci, fun U hU hW => jPc_at hR hS hE hbs hU hW⟩ rfl hn hl.1 rfl (lv_room hrm) hd ⟨by omega, by omega⟩) hS (fun E k z h1 ce q9 H1 locs1 g1 g2 g3 g4 g5 g6 g7 g8 => ?_) (fun r h1 H1 locs1 g1 g2 g3 => ?_)
  · exact kx k z h1 g3 g2 H1 locs1 (cells + mc2) (slots + ms2) ls st q9 ce E g4 g5 (by omega) (by omega) hc hl g1 g6 g7 g8
  · exact kk r h1 g1 H1 locs1 (cells + mc2) (slots + ms2) ls g2 g3 (by omega) (by omega) hc hl
theorem jr_callV (K : jOK G l M (dep + 1) X) (hC : jC G l (y, cc, nL, ret, []) dep mc2 ms2 (.ref b :: As) h P) (hd : decode M.2.1 pc = .ok (.invokevirtual index, 3)) (hs : jSv M.1.cls index (y, cc, nL, ret, []) n) {ci : Nat} {T : u_T} {N : Nat} (hci : vwCl[ci]? = some (y.cls, T, N)) (hrc : ∃ fs, h.2 b = some (.inl (ci, fs))) (hn : As.length = n) (hstk : stk = As.reverse ++ .ref b :: st) (hrm : (st.map fun v => v.category).sum ≤ 8) (hk1 : kc2 + mc2 = kc) (hk2 : ks2 + ms2 = ks)
    (hnt : ∀ k h1, ¬ P (.inr k) h1) (kk : ∀ r h1, P (.inl r) h1 → jJ G X h1 kc2 ks2 (pc + 3) L ((jval ret r).toList ++ st)) : jJ G X h kc ks pc L stk :=
  jr_callVx K hC hd hs hci hrc hn hstk hrm hk1 hk2 (fun k z h1 q => (hnt k h1 q).elim) kk
theorem jr_callSx (K : jOK G l M (dep + 1) X) (hC : jC G l (y, cc, nL, ret, []) dep mc2 ms2 As h P) (hd : decode M.2.1 pc = .ok (.invokestatic index, 3)) (hs : jSs M.1.cls index (y, cc, nL, ret, []) n) (hn : As.length = n) (hstk : stk = As.reverse ++ st) (hrm : (st.map fun v => v.category).sum ≤ 8) (hk1 : kc2 + mc2 = kc) (hk2 : ks2 + ms2 = ks)
    (kx : ∀ k z h1, P (.inr k) h1 → h1.1 ≤ z → jJx G X (z, h1.2) kc2 ks2 pc L k) (kk : ∀ r h1, P (.inl r) h1 → jJ G X h1 kc2 ks2 (pc + 3) L ((jval ret r).toList ++ st)) : jJ G X h kc ks pc L stk := by
  obtain ⟨p, l9, e, R, s, m, args, below, meth, c, mc, ms, Q⟩ := X
  obtain ⟨hx, hb, hml, hr, hown, hts, hlk, hin, hE, hbs, hd1, hd2, hd3, hd4, rfl, hxt⟩ := K
  subst hstk
  subst hk1 hk2
  intro H locs cells slots ls hR hS hc1 hc2 hc hl
  obtain ⟨s1, s2, s4, s5, s6, s7⟩ := hs
  have cb := callB_of (own := M.1.cls) (index := index) (y := y) (bytes := cc) (maxL := nL) (ret := ret) (ws := jws (y, cc, nL, ret, [])) (ws' := jall) (rm := jrm dep mc2 ms2) (mc := mc2) (ms := ms2) (R := R) (s := s) (args := args) n hts (jws_good s4) rfl rfl rfl (hts _ s5) (hts _ s1) s6 ⟨by show dep + 1 ≤ R.frames; omega, by show 8 + (nL + 11) + 80 * dep ≤ R.locals; have s8 : 19 + nL ≤ 80 := s7; omega⟩
  refine jr_backX (vx_runS (As := As) (rest := st) ⟨hx, hb, rfl, hown, hts⟩ hC ⟨cb, hts _ s2⟩ ⟨jPc_blind, fun U hU hW => jPc_at hR hS hE hbs hU hW⟩ rfl hn hl.1 rfl (lv_room hrm) hd ⟨by omega, by omega⟩) hS (fun E k z h1 ce q9 H1 locs1 g1 g2 g3 g4 g5 g6 g7 g8 => ?_) (fun r h1 H1 locs1 g1 g2 g3 => ?_)
  · exact kx k z h1 g3 g2 H1 locs1 (cells + mc2) (slots + ms2) ls st q9 ce E g4 g5 (by omega) (by omega) hc hl g1 g6 g7 g8
  · exact kk r h1 g1 H1 locs1 (cells + mc2) (slots + ms2) ls g2 g3 (by omega) (by omega) hc hl
theorem jr_callS (K : jOK G l M (dep + 1) X) (hC : jC G l (y, cc, nL, ret, []) dep mc2 ms2 As h P) (hd : decode M.2.1 pc = .ok (.invokestatic index, 3)) (hs : jSs M.1.cls index (y, cc, nL, ret, []) n) (hn : As.length = n) (hstk : stk = As.reverse ++ st) (hrm : (st.map fun v => v.category).sum ≤ 8) (hk1 : kc2 + mc2 = kc) (hk2 : ks2 + ms2 = ks)
    (hnt : ∀ k h1, ¬ P (.inr k) h1) (kk : ∀ r h1, P (.inl r) h1 → jJ G X h1 kc2 ks2 (pc + 3) L ((jval ret r).toList ++ st)) : jJ G X h kc ks pc L stk :=
  jr_callSx K hC hd hs hn hstk hrm hk1 hk2 (fun k z h1 q => (hnt k h1 q).elim) kk
/-- a static method with a table of its own (the law's) -/
theorem jr_callSW {q : Nat × Nat × Nat × Nat} {hh : List (Nat × Nat × Nat × Nat)} (K : jOK G l M (dep + 1) X) (hC : jC G l (y, cc, nL, ret, q :: hh) dep mc2 ms2 As h P) (hd : decode M.2.1 pc = .ok (.invokestatic index, 3)) (hs : jSs M.1.cls index (y, cc, nL, ret, q :: hh) n) (hn : As.length = n) (hstk : stk = As.reverse ++ st) (hrm : (st.map fun v => v.category).sum ≤ 8) (hk1 : kc2 + mc2 = kc) (hk2 : ks2 + ms2 = ks)
    (hnt : ∀ k h1, ¬ P (.inr k) h1) (kk : ∀ r h1, P (.inl r) h1 → jJ G X h1 kc2 ks2 (pc + 3) L ((jval ret r).toList ++ st)) : jJ G X h kc ks pc L stk := by
  obtain ⟨p, l9, e, R, s, m, args, below, meth, c, mc, ms, Q⟩ := X
  obtain ⟨hx, hb, hml, hr, hown, hts, hlk, hin, hE, hbs, hd1, hd2, hd3, hd4, rfl, hxt⟩ := K
  subst hstk
  subst hk1 hk2
  intro H locs cells slots ls hR hS hc1 hc2 hc hl
  obtain ⟨s1, s2, s4, s5, s6, s7⟩ := hs
  have hG := jws_good s4
  have hcw : Cond.codeWith y cc nL ret (q :: hh) ∈ jws (y, cc, nL, ret, q :: hh) := List.mem_cons_self
  have cb : vx_CSW R s args M.1.cls index y cc nL ret (q :: hh) (jws (y, cc, nL, ret, q :: hh)) (jrm dep mc2 ms2) mc2 ms2 n := by
    refine ⟨⟨rfl, rfl, by show dep + 1 ≤ R.frames; omega, by show 8 + (nL + 11) + 80 * dep ≤ R.locals; have s8 : 19 + nL ≤ 80 := s7; omega, pay_in hts hG, hcw⟩, hts _ (hG _ hcw).1, hts _ s5, ⟨s6.1, s6.2.1⟩, fun sig h9 => ?_, hts _ s1, hts _ s2⟩
    have h2 := s6.2.2
    rw [h9] at h2
    exact (Option.some.inj h2).symm
  refine jr_backX (vx_runSX (As := As) (rest := st) ⟨hx, hb, rfl, hown, hts⟩ hC cb ⟨jPc_blind, fun U hU hW => jPc_at hR hS hE hbs hU hW⟩ rfl hn hl.1 rfl (lv_room hrm) hd ⟨by omega, by omega⟩) hS (fun E k z h1 ce q9 H1 locs1 g1 g2 g3 g4 g5 g6 g7 g8 => ?_) (fun r h1 H1 locs1 g1 g2 g3 => ?_)
  · exact (hnt k h1 g3).elim
  · exact kk r h1 g1 H1 locs1 (cells + mc2) (slots + ms2) ls g2 g3 (by omega) (by omega) hc hl
/-- a nest mate's private static method -/
theorem jr_callSN (K : jOK G l M (dep + 1) X) (hC : jC G l (y, cc, nL, ret, []) dep mc2 ms2 As h P) (hd : decode M.2.1 pc = .ok (.invokestatic index, 3)) (hs : jSsN M.1.cls index (y, cc, nL, ret, []) n) (hn : As.length = n) (hstk : stk = As.reverse ++ st) (hrm : (st.map fun v => v.category).sum ≤ 8) (hk1 : kc2 + mc2 = kc) (hk2 : ks2 + ms2 = ks)
    (hnt : ∀ k h1, ¬ P (.inr k) h1) (kk : ∀ r h1, P (.inl r) h1 → jJ G X h1 kc2 ks2 (pc + 3) L ((jval ret r).toList ++ st)) : jJ G X h kc ks pc L stk := by
  obtain ⟨p, l9, e, R, s, m, args, below, meth, c, mc, ms, Q⟩ := X
  obtain ⟨hx, hb, hml, hr, hown, hts, hlk, hin, hE, hbs, hd1, hd2, hd3, hd4, rfl, hxt⟩ := K
  subst hstk
  subst hk1 hk2
  intro H locs cells slots ls hR hS hc1 hc2 hc hl
  obtain ⟨s1, s2, s4, s5, s6, s7⟩ := hs
  have hnw := hE.2.2.2.2.2.2.2.2.2.1.2.1
  have cb := va_cnB (own := M.1.cls) (host := "RodRings") (index := index) (y := y) (bytes := cc) (maxL := nL) (ret := ret) (ws := jws (y, cc, nL, ret, [])) (ws' := jall) (rm := jrm dep mc2 ms2) (mc := mc2) (ms := ms2) (R := R) (s := s) (args := args) n hts (jws_good s4) rfl rfl rfl (hnw _ s1) (hts _ s5) s6 ⟨by show dep + 1 ≤ R.frames; omega, by show 8 + (nL + 11) + 80 * dep ≤ R.locals; have s8 : 19 + nL ≤ 80 := s7; omega⟩
  exact jr_backM (va_runSN (As := As) (rest := st) ⟨hx, hb, rfl, hown, hts⟩ (hC.met hnt) ⟨cb, hts _ s2, trivial⟩ ⟨jPc_blind, fun U hU hW => jPc_at hR hS hE hbs hU hW⟩ rfl hn hl.1 rfl (lv_room hrm) hd ⟨by omega, by omega⟩) hS (fun r h1 H1 locs1 g1 g2 g3 => kk r h1 g1 H1 locs1 (cells + mc2) (slots + ms2) ls g2 g3 (by omega) (by omega) hc hl)
/-- constructors: of a class of the same package, or a nest mate's private one -/
theorem jr_callI (K : jOK G l M (dep + 1) X) (hC : jC G l (y, cc, nL, none, []) dep mc2 ms2 (.ref b :: As) h P) (hd : decode M.2.1 pc = .ok (.invokespecial index, 3)) (hs : jSi M.1.cls index (y, cc, nL, none, []) n) (hn : As.length = n) (hstk : stk = As.reverse ++ .ref b :: st) (hrm : (st.map fun v => v.category).sum ≤ 8) (hk1 : kc2 + mc2 = kc) (hk2 : ks2 + ms2 = ks)
    (hnt : ∀ k h1, ¬ P (.inr k) h1) (kk : ∀ r h1, P (.inl r) h1 → jJ G X h1 kc2 ks2 (pc + 3) L st) : jJ G X h kc ks pc L stk := by
  obtain ⟨p, l9, e, R, s, m, args, below, meth, c, mc, ms, Q⟩ := X
  obtain ⟨hx, hb, hml, hr, hown, hts, hlk, hin, hE, hbs, hd1, hd2, hd3, hd4, rfl, hxt⟩ := K
  subst hstk
  subst hk1 hk2
  intro H locs cells slots ls hR hS hc1 hc2 hc hl
  obtain ⟨s1, s2, s3, s4, s5, s6, s7⟩ := hs
  have cb := callB_of (own := M.1.cls) (index := index) (y := y) (bytes := cc) (maxL := nL) (ret := none) (ws := jws (y, cc, nL, none, [])) (ws' := jall) (rm := jrm dep mc2 ms2) (mc := mc2) (ms := ms2) (R := R) (s := s) (args := args) n hts (jws_good s4) rfl rfl rfl (hts _ s5) (hts _ s1) s6 ⟨by show dep + 1 ≤ R.frames; omega, by show 8 + (nL + 11) + 80 * dep ≤ R.locals; have s8 : 19 + nL ≤ 80 := s7; omega⟩
  exact jr_backM (ret := none) (va_runI (As := As) (rest := st) ⟨hx, hb, rfl, hown, hts⟩ (hC.met hnt) ⟨cb, s3, hts _ s2⟩ ⟨jPc_blind, fun U hU hW => jPc_at hR hS hE hbs hU hW⟩ rfl hn hl.1 rfl (lv_room hrm) hd ⟨by omega, by omega⟩) hS (fun r h1 H1 locs1 g1 g2 g3 => kk r h1 g1 H1 locs1 (cells + mc2) (slots + ms2) ls g2 g3 (by omega) (by omega) hc hl)
theorem jr_callIN (K : jOK G l M (dep + 1) X) (hC : jC G l (y, cc, nL, none, []) dep mc2 ms2 (.ref b :: As) h P) (hd : decode M.2.1 pc = .ok (.invokespecial index, 3)) (hs : jSiN M.1.cls index (y, cc, nL, none, []) n) (hn : As.length = n) (hstk : stk = As.reverse ++ .ref b :: st) (hrm : (st.map fun v => v.category).sum ≤ 8) (hk1 : kc2 + mc2 = kc) (hk2 : ks2 + ms2 = ks)
    (hnt : ∀ k h1, ¬ P (.inr k) h1) (kk : ∀ r h1, P (.inl r) h1 → jJ G X h1 kc2 ks2 (pc + 3) L st) : jJ G X h kc ks pc L stk := by
  obtain ⟨p, l9, e, R, s, m, args, below, meth, c, mc, ms, Q⟩ := X
  obtain ⟨hx, hb, hml, hr, hown, hts, hlk, hin, hE, hbs, hd1, hd2, hd3, hd4, rfl, hxt⟩ := K
  subst hstk
  subst hk1 hk2
  intro H locs cells slots ls hR hS hc1 hc2 hc hl
  obtain ⟨s1, s2, s3, s4, s5, s6, s7⟩ := hs
  have hnw := hE.2.2.2.2.2.2.2.2.2.1.2.1
  have cb := va_cnB (own := M.1.cls) (host := "RodRings") (index := index) (y := y) (bytes := cc) (maxL := nL) (ret := none) (ws := jws (y, cc, nL, none, [])) (ws' := jall) (rm := jrm dep mc2 ms2) (mc := mc2) (ms := ms2) (R := R) (s := s) (args := args) n hts (jws_good s4) rfl rfl rfl (hnw _ s1) (hts _ s5) s6 ⟨by show dep + 1 ≤ R.frames; omega, by show 8 + (nL + 11) + 80 * dep ≤ R.locals; have s8 : 19 + nL ≤ 80 := s7; omega⟩
  exact jr_backM (ret := none) (va_runIN (As := As) (rest := st) ⟨hx, hb, rfl, hown, hts⟩ (hC.met hnt) ⟨cb, s3, hts _ s2⟩ ⟨jPc_blind, fun U hU hW => jPc_at hR hS hE hbs hU hW⟩ rfl hn hl.1 rfl (lv_room hrm) hd ⟨by omega, by omega⟩) hS (fun r h1 H1 locs1 g1 g2 g3 => kk r h1 g1 H1 locs1 (cells + mc2) (slots + ms2) ls g2 g3 (by omega) (by omega) hc hl)
/-- an inherited method, or one that is abstract where it is named -/
theorem jr_callU {x : MethodName} {owner C : String} (K : jOK G l M (dep + 1) X) (hC : jC G l (y, cc, nL, ret, []) dep mc2 ms2 (.ref b :: As) h P) (hd : decode M.2.1 pc = .ok (.invokevirtual index, 3)) (hs : jSu M.1.cls index C owner x (y, cc, nL, ret, []) n) {ci : Nat} {T : u_T} {N : Nat} (hci : vwCl[ci]? = some (C, T, N)) (hrc : ∃ fs, h.2 b = some (.inl (ci, fs))) (hn : As.length = n) (hstk : stk = As.reverse ++ .ref b :: st) (hrm : (st.map fun v => v.category).sum ≤ 8) (hk1 : kc2 + mc2 = kc) (hk2 : ks2 + ms2 = ks)
    (hnt : ∀ k h1, ¬ P (.inr k) h1) (kk : ∀ r h1, P (.inl r) h1 → jJ G X h1 kc2 ks2 (pc + 3) L ((jval ret r).toList ++ st)) : jJ G X h kc ks pc L stk := by
  obtain ⟨p, l9, e, R, s, m, args, below, meth, c, mc, ms, Q⟩ := X
  obtain ⟨hx, hb, hml, hr, hown, hts, hlk, hin, hE, hbs, hd1, hd2, hd3, hd4, rfl, hxt⟩ := K
  subst hstk
  subst hk1 hk2
  intro H locs cells slots ls hR hS hc1 hc2 hc hl
  obtain ⟨u1, u2, u3, u4, u5, u6, s4, s5, s6, s7⟩ := hs
  obtain ⟨fs, hfs⟩ := hrc
  have hnw := hE.2.2.2.2.2.2.2.2.2.1.2.1
  have hG : GoodIn jall (va_wsU M.1.cls index C owner x y (jws (y, cc, nL, ret, []))) := by
    refine jall_good fun w hw => ?_
    unfold va_wsU at hw
    rcases List.mem_append.mp hw with hw | hw
    · simp only [List.mem_cons, List.not_mem_nil, or_false] at hw
      rcases hw with rfl | rfl | rfl | rfl | rfl
      · exact u1
      · exact u2
      · exact u3
      · exact u4
      · exact s5
    · exact (List.mem_cons.mp hw).elim (fun e => by rw [e]; exact s4) id
  have cb := va_cwA (own := M.1.cls) (C := C) (owner := owner) (index := index) (x := x) (y := y) (bytes := cc) (maxL := nL) (ret := ret) (ws := jws (y, cc, nL, ret, [])) (ws' := jall) (rm := jrm dep mc2 ms2) (mc := mc2) (ms := ms2) (R := R) (s := s) (args := args) n hts hG rfl rfl rfl (hnw _ u5) u6 ⟨by show dep + 1 ≤ R.frames; omega, by show 8 + (nL + 11) + 80 * dep ≤ R.locals; have s8 : 19 + nL ≤ 80 := s7; omega⟩
  exact jr_backM (va_runU (As := As) (rest := st) ⟨hx, hb, rfl, hown, hts⟩ (hC.met hnt) cb ⟨jPc_blind, jrecv hE.1 hR hfs hci, fun U hU hW => jPc_at hR hS hE hbs hU hW⟩ rfl hn hl.1 rfl (lv_room hrm) hd ⟨by omega, by omega⟩) hS (fun r h1 H1 locs1 g1 g2 g3 => kk r h1 g1 H1 locs1 (cells + mc2) (slots + ms2) ls g2 g3 (by omega) (by omega) hc hl)
/-- thrown on: no handlers here -/
theorem jr_out {P : jR → jH → Prop} {k z : Nat} {h1 : jH} (K : jOK G l M dep X) (E : jEnd G M P X) (hh : M.2.2.2.2 = []) (hz : h1.1 ≤ z) (hP : P (.inr k) h1) : jJx G X (z, h1.2) kc ks pc L k := by
  obtain ⟨p, l9, e, R, s, m, args, below, meth, c, mc, ms, Q⟩ := X
  obtain ⟨hx, hb, hml, hr, hown, hts, hlk, hin, hE, hbs, hd1, hd2, hd3, hd4, rfl, hxt⟩ := K
  subst E
  intro H locs cells slots ls st q ce E hR hS hc1 hc2 hc hl hk g6 g7 g8
  refine vx_out (fun x hx9 => ?_) hlk g6 g7 g8 (fun t ht hv => ⟨⟨k, z, h1, hk, hz, hP, by rw [ht]; exact hR⟩, hS.F9 ht⟩) hS.2.2 (by omega) (by omega)
  rw [hxt, hh] at hx9
  cases hx9
theorem jr_mask {L2 : List (Option Value)} (hm : L2.length = L.length ∧ ∀ (i : Nat) (v : Value), L2[i]? = some (some v) → L[i]? = some (some v)) (k : jJ G X h kc ks pc L2 st) : jJ G X h kc ks pc L st := by
  obtain ⟨p, l, e, R, s, m, args, below, meth, c, mc, ms, Q⟩ := X
  intro H locs cells slots ls hR hS hc1 hc2 hc hl
  exact k H locs cells slots ls hR hS hc1 hc2 (fun i v q => hc i v (hm.2 i v q)) (jlv_sub hl fun q hq => by
    obtain ⟨i, h1, h2⟩ := (jlv_mem _ _ _).mp hq
    exact (jlv_mem _ _ _).mpr ⟨i, h1, hm.2 i q.2 h2⟩)
/-- which locals are still spoken of -/
def jmask : List Bool → List (Option Value) → List (Option Value)
  | [], l => l
  | _, [] => []
  | true :: bs, x :: l => x :: jmask bs l
  | false :: bs, _ :: l => none :: jmask bs l
theorem jmask_ok : ∀ (bs : List Bool) (L : List (Option Value)), (jmask bs L).length = L.length ∧ ∀ (i : Nat) (v : Value), (jmask bs L)[i]? = some (some v) → L[i]? = some (some v)
  | [], L => by cases L <;> exact ⟨rfl, fun _ _ h => h⟩
  | b :: bs, [] => by cases b <;> exact ⟨rfl, fun _ _ h => h⟩
  | true :: bs, x :: L => by
    obtain ⟨h1, h2⟩ := jmask_ok bs L
    refine ⟨by show _ + 1 = _ + 1; rw [h1], fun i v h => ?_⟩
    cases i with
    | zero => exact h
    | succ i => exact h2 i v (by simpa [jmask] using h)
  | false :: bs, x :: L => by
    obtain ⟨h1, h2⟩ := jmask_ok bs L
    refine ⟨by show _ + 1 = _ + 1; rw [h1], fun i v h => ?_⟩
    cases i with
    | zero => simp [jmask] at h
    | succ i => exact h2 i v (by simpa [jmask] using h)
theorem jr_keep (bs : List Bool) (k : jJ G X h kc ks pc (jmask bs L) st) : jJ G X h kc ks pc L st := jr_mask (jmask_ok bs L) k
end JE
theorem jbind {α β : Type} {a : Option α} {f : α → Option β} {r : β} (h : a.bind f = some r) : ∃ x, a = some x ∧ f x = some r := Option.bind_eq_some_iff.mp h
/-- a call of an object's own method: the object must be one -/
def jcv {α : Type} (ci : Nat) (h : jH) (b : Nat) (e : Option α) : Option α := match h.2 b with
  | some (.inl o) => if o.1 = ci then e else none
  | _ => none
theorem jcv_o {α : Type} {ci : Nat} {h : jH} {b : Nat} {e : Option α} {r : α} (q : jcv ci h b e = some r) : (∃ fs, h.2 b = some (.inl (ci, fs))) ∧ e = some r := by
  unfold jcv at q
  split at q
  · rename_i o ho
    split at q
    · rename_i hc
      exact ⟨⟨o.2, by rw [ho, ← hc]⟩, q⟩
    · cases q
  · cases q
/-- go on behind a call that may throw -/
def jthen (q : jR × jH) (k : Int32 → jH → Option (jR × jH)) : Option (jR × jH) := match q.1 with
  | .inl r => k r q.2
  | .inr e => some (.inr e, q.2)
theorem D_at {b : ByteArray} {T : List (Nat × Instr × Nat)} (D : ∀ q ∈ T, decode b q.1 = .ok q.2) (k : Nat) {pc n : Nat} {i : Instr} (h : T[k]? = some (pc, i, n)) : decode b pc = .ok (i, n) := D (pc, i, n) (List.mem_of_getElem? h)
theorem jw_at {ws : List (Nat × Cond)} (h : ∀ q ∈ ws, lw_tbl[q.1]? = some q.2) (j : Nat) {i : Nat} {w : Cond} (hj : ws[j]? = some (i, w)) (g : goodWord w = true) : w ∈ jall := jall_of (h (i, w) (List.mem_of_getElem? hj)) g
theorem jn_at {ws : List (Nat × Cond)} (h : ∀ q ∈ ws, lw_tbl[q.1]? = some q.2) (j : Nat) {i : Nat} {w : Cond} (hj : ws[j]? = some (i, w)) (g : jnk w = true) : w ∈ jnest := jnest_of (h (i, w) (List.mem_of_getElem? hj)) g
end
section
/-! throws and catches -/
def jnms : List String := ["java/lang/RuntimeException", "java/lang/Exception"]
def jTh (own : String) (ik ic : Nat) (E : String) : Prop := Cond.classLink own ik E ∈ jall ∧ Cond.initialized E ∈ jall ∧ (∀ w ∈ vx_atS own ic E jnms, w ∈ jall ∨ w ∈ jnest) ∧ (∀ w ∈ Cond.classLink own ik E :: Cond.initialized E :: vx_atS own ic E jnms, vx_ot w = true) ∧ Bundle.fit E = true
section JF
variable {G : jG} {l : Launch} {M : jM} {dep : Nat} {X : jX} {h : jH} {kc ks pc : Nat} {L : List (Option Value)} {st : List Value} {P : jR → jH → Prop}
theorem jtab {G : jG} {s : State} {args : Array Value} {w : Cond} (hts : ∀ w ∈ jall, w.before args s = true) (hE : jEF G s s.heap) (h : w ∈ jall ∨ w ∈ jnest) : w.before args s = true := by
  rcases h with h | h
  · exact hts w h
  · exact va_Nw.use (jnest_on h) (hE.2.2.2.2.2.2.2.2.2.1.2.1 w h)
theorem jthrown {G : jG} {P : jR → jH → Prop} {s : State} {H : Heap} {locs : List Loc} {h : jH} {k : Nat} {E : String} (hR : jRep G h H) (hS : va_S (jA G) s.heap H locs) (hk : jexn[k]? = some E) (hP : P (.inr k) h) : ∀ t : State, s.vm.Alike t.vm → H.size ≤ t.heap.size → (∀ q : Nat, q < H.size → t.heap[q]? = H[q]?) → jXC G P E s t := by
  intro t _ hz hq
  refine ⟨⟨k, t.heap.size, h, hk, by rw [← hR.1]; exact hz, hP, rfl, fun a e he => ⟨(hR.2 a e he).1, (hR.2 a e he).2.kept (hq a (hR.2 a e he).2.lt)⟩⟩, Nat.le_trans hS.1 hz, fun q h1 h2 => (hq q (Nat.lt_of_lt_of_le h1 hS.1)).trans (hS.2.1 q h1 h2)⟩
/-- throw new E("text") -/
theorem jr_throw (hst : l.stackTraces = false) (K : jOK G l M (dep + 6) X) (En : jEnd G M P X) {ik is ic i k : Nat} {E tx : String} {bs : List Int32} (d0 : decode M.2.1 pc = .ok (.new ik, 3)) (d3 : decode M.2.1 (pc + 3) = .ok (.dup, 1)) (d4 : decode M.2.1 (pc + 4) = .ok (.ldc is, 2)) (d6 : decode M.2.1 (pc + 6) = .ok (.invokespecial ic, 3)) (d9 : decode M.2.1 (pc + 9) = .ok (.athrow, 1))
    (hT : jTh M.1.cls ik ic E) (hx9 : jtxt[i]? = some (M.1.cls, is, tx, bs)) (hh : M.2.2.2.2 = []) (hk : jexn[k]? = some E) (hrm : (st.map fun v => v.category).sum ≤ 8) (hkc : 1 ≤ kc) (hks : 6 ≤ ks) (hP : P (.inr k) h) : jJ G X h kc ks pc L st := by
  obtain ⟨p, l9, e, R, s, m, args, below, meth, c, mc, ms, Q⟩ := X
  obtain ⟨hx, hb, hml, hr, hown, hts, hlk, hin, hE, hbs, hd1, hd2, hd3, hd4, rfl, hxt⟩ := K
  subst En
  intro H locs cells slots ls hR hS hc1 hc2 hc hl
  obtain ⟨t1, t2, t3, t4, t5⟩ := hT
  have hn2 : jnms.length = 2 := rfl
  exact vx_throwS (names := jnms) (A := jA G) hx hb hst hown t5 (by decide) (hts _ t1) (hts _ t2) (hE.2.2.2.2.2.2.2.2.2.2 i _ hx9).1 (fun w hw => jtab hts hE (t3 w hw)) t4 hE.2.1 hE.2.2.1 hS hl.1 d0 d3 d4 d6 d9 (by rw [hxt, hh]; intro x hx; cases hx) (by rw [hn2]; omega) (by rw [hn2]; omega) (by omega) (by omega) hlk (jthrown hR hS hk hP) hS.2.2 (by omega) (by omega)
theorem jr_throwW (hst : l.stackTraces = false) (K : jOK G l M (dep + 6) X) (En : jEnd G M P X) {ik is ic i k : Nat} {E tx : String} {bs : List Int32} (d0 : decode M.2.1 pc = .ok (.new ik, 3)) (d3 : decode M.2.1 (pc + 3) = .ok (.dup, 1)) (d4 : decode M.2.1 (pc + 4) = .ok (.ldc_w is, 3)) (d6 : decode M.2.1 (pc + 7) = .ok (.invokespecial ic, 3)) (d9 : decode M.2.1 (pc + 10) = .ok (.athrow, 1))
    (hT : jTh M.1.cls ik ic E) (hx9 : jtxt[i]? = some (M.1.cls, is, tx, bs)) (hh : M.2.2.2.2 = []) (hk : jexn[k]? = some E) (hrm : (st.map fun v => v.category).sum ≤ 8) (hkc : 1 ≤ kc) (hks : 6 ≤ ks) (hP : P (.inr k) h) : jJ G X h kc ks pc L st := by
  obtain ⟨p, l9, e, R, s, m, args, below, meth, c, mc, ms, Q⟩ := X
  obtain ⟨hx, hb, hml, hr, hown, hts, hlk, hin, hE, hbs, hd1, hd2, hd3, hd4, rfl, hxt⟩ := K
  subst En
  intro H locs cells slots ls hR hS hc1 hc2 hc hl
  obtain ⟨t1, t2, t3, t4, t5⟩ := hT
  have hn2 : jnms.length = 2 := rfl
  exact vx_throwSW (names := jnms) (A := jA G) hx hb hst hown t5 (by decide) (hts _ t1) (hts _ t2) (hE.2.2.2.2.2.2.2.2.2.2 i _ hx9).1 (fun w hw => jtab hts hE (t3 w hw)) t4 hE.2.1 hE.2.2.1 hS hl.1 d0 d3 d4 d6 d9 (by rw [hxt, hh]; intro x hx; cases hx) (by rw [hn2]; omega) (by rw [hn2]; omega) (by omega) (by omega) hlk (jthrown hR hS hk hP) hS.2.2 (by omega) (by omega)
/-- caught by the row x of this method's table; the rows ahead don't take it -/
theorem jr_catch (K : jOK G l M dep X) {k : Nat} {E nm : String} (pre : List ExceptionTableEntry) (x : ExceptionTableEntry) (suf : List ExceptionTableEntry) (hsplit : tableOf M.2.2.2.2 = pre ++ x :: suf) (hpass : ∀ z ∈ pre, covers z pc = false ∨ (z.catchType ≠ 0 ∧ ∃ nm : String, Cond.classLink M.1.cls z.catchType nm ∈ jall ∧ (E, nm) ∈ jncs)) (hx : covers x pc = true) (h0 : x.catchType ≠ 0) (hlink : Cond.classLink M.1.cls x.catchType nm ∈ jall) (hcast : Cond.castable E nm ∈ jnest) (hk : jexn[k]? = some E) (kk : ∀ q : Nat, jJ G X h kc ks x.handlerPc L [.ref q]) : jJx G X h kc ks pc L k := by
  obtain ⟨p, l9, e, R, s, m, args, below, meth, c, mc, ms, Q⟩ := X
  obtain ⟨hx9, hb, hml, hr, hown, hts, hlk, hin, hE, hbs, hd1, hd2, hd3, hd4, rfl, hxt⟩ := K
  intro H locs cells slots ls st q ce E9 hR hS hc1 hc2 hc hl hk9 g6 g7 g8
  cases Option.some.inj (hk.symm.trans hk9)
  refine vx_catch (name := nm) hown pre x suf (hxt.trans hsplit) (fun z hz => ?_) hx h0 (hts _ hlink) (jtab hts hE (Or.inr hcast)) g6 g7 g8 (kk q H locs cells slots ls hR hS hc1 hc2 hc hl)
  rcases hpass z hz with g | ⟨g1, nm9, g2, g3⟩
  · exact Or.inl g
  · exact Or.inr ⟨g1, nm9, hts _ g2, hE.2.2.2.2.2.2.2.2.2.1.2.2 _ g3⟩
end JF
end
section
theorem jin_1 {w : Cond} (h : w ∈ tables_1_1) : w ∈ lw_tbl := List.mem_append_right _ (List.mem_append_left _ h)
theorem jw_1 {w : Cond} (j : Nat) (hj : tables_1_1[j]? = some w) (g : goodWord w = true) : w ∈ jall := jall_in (jin_1 (List.mem_of_getElem? hj)) g
theorem jn_1 {w : Cond} (j : Nat) (hj : tables_1_1[j]? = some w) (g : jnk w = true) : w ∈ jnest := List.mem_filter.mpr ⟨jin_1 (List.mem_of_getElem? hj), g⟩
theorem jin_2 {w : Cond} (h : w ∈ tables_1_2) : w ∈ lw_tbl := List.mem_append_right _ (List.mem_append_right _ (List.mem_append_left _ h))
theorem jw_2 {w : Cond} (j : Nat) (hj : tables_1_2[j]? = some w) (g : goodWord w = true) : w ∈ jall := jall_in (jin_2 (List.mem_of_getElem? hj)) g
theorem jn_2 {w : Cond} (j : Nat) (hj : tables_1_2[j]? = some w) (g : jnk w = true) : w ∈ jnest := List.mem_filter.mpr ⟨jin_2 (List.mem_of_getElem? hj), g⟩
theorem jin_3 {w : Cond} (h : w ∈ tables_1_3) : w ∈ lw_tbl := List.mem_append_right _ (List.mem_append_right _ (List.mem_append_right _ (List.mem_append_left _ h)))
theorem jw_3 {w : Cond} (j : Nat) (hj : tables_1_3[j]? = some w) (g : goodWord w = true) : w ∈ jall := jall_in (jin_3 (List.mem_of_getElem? hj)) g
theorem jn_3 {w : Cond} (j : Nat) (hj : tables_1_3[j]? = some w) (g : jnk w = true) : w ∈ jnest := List.mem_filter.mpr ⟨jin_3 (List.mem_of_getElem? hj), g⟩
theorem jin_4 {w : Cond} (h : w ∈ tables_1_4) : w ∈ lw_tbl := List.mem_append_right _ (List.mem_append_right _ (List.mem_append_right _ (List.mem_append_right _ (List.mem_append_left _ h))))
theorem jw_4 {w : Cond} (j : Nat) (hj : tables_1_4[j]? = some w) (g : goodWord w = true) : w ∈ jall := jall_in (jin_4 (List.mem_of_getElem? hj)) g
theorem jn_4 {w : Cond} (j : Nat) (hj : tables_1_4[j]? = some w) (g : jnk w = true) : w ∈ jnest := List.mem_filter.mpr ⟨jin_4 (List.mem_of_getElem? hj), g⟩
theorem jin_5 {w : Cond} (h : w ∈ tables_1_5) : w ∈ lw_tbl := List.mem_append_right _ (List.mem_append_right _ (List.mem_append_right _ (List.mem_append_right _ (List.mem_append_right _ (List.mem_append_left _ h)))))
theorem jw_5 {w : Cond} (j : Nat) (hj : tables_1_5[j]? = some w) (g : goodWord w = true) : w ∈ jall := jall_in (jin_5 (List.mem_of_getElem? hj)) g
theorem jn_5 {w : Cond} (j : Nat) (hj : tables_1_5[j]? = some w) (g : jnk w = true) : w ∈ jnest := List.mem_filter.mpr ⟨jin_5 (List.mem_of_getElem? hj), g⟩
theorem jin_6 {w : Cond} (h : w ∈ tables_1_6) : w ∈ lw_tbl := List.mem_append_right _ (List.mem_append_right _ (List.mem_append_right _ (List.mem_append_right _ (List.mem_append_right _ (List.mem_append_right _ (List.mem_append_left _ h))))))
theorem jw_6 {w : Cond} (j : Nat) (hj : tables_1_6[j]? = some w) (g : goodWord w = true) : w ∈ jall := jall_in (jin_6 (List.mem_of_getElem? hj)) g
theorem jn_6 {w : Cond} (j : Nat) (hj : tables_1_6[j]? = some w) (g : jnk w = true) : w ∈ jnest := List.mem_filter.mpr ⟨jin_6 (List.mem_of_getElem? hj), g⟩
theorem jin_7 {w : Cond} (h : w ∈ tables_1_7) : w ∈ lw_tbl := List.mem_append_right _ (List.mem_append_right _ (List.mem_append_right _ (List.mem_append_right _ (List.mem_append_right _ (List.mem_append_right _ (List.mem_append_right _ (List.mem_append_left _ h)))))))
theorem jw_7 {w : Cond} (j : Nat) (hj : tables_1_7[j]? = some w) (g : goodWord w = true) : w ∈ jall := jall_in (jin_7 (List.mem_of_getElem? hj)) g
theorem jn_7 {w : Cond} (j : Nat) (hj : tables_1_7[j]? = some w) (g : jnk w = true) : w ∈ jnest := List.mem_filter.mpr ⟨jin_7 (List.mem_of_getElem? hj), g⟩
theorem jin_8 {w : Cond} (h : w ∈ tables_1_8) : w ∈ lw_tbl := List.mem_append_right _ (List.mem_append_right _ (List.mem_append_right _ (List.mem_append_right _ (List.mem_append_right _ (List.mem_append_right _ (List.mem_append_right _ (List.mem_append_right _ (List.mem_append_left _ h))))))))
theorem jw_8 {w : Cond} (j : Nat) (hj : tables_1_8[j]? = some w) (g : goodWord w = true) : w ∈ jall := jall_in (jin_8 (List.mem_of_getElem? hj)) g
theorem jn_8 {w : Cond} (j : Nat) (hj : tables_1_8[j]? = some w) (g : jnk w = true) : w ∈ jnest := List.mem_filter.mpr ⟨jin_8 (List.mem_of_getElem? hj), g⟩
theorem jin_9 {w : Cond} (h : w ∈ tables_1_9) : w ∈ lw_tbl := List.mem_append_right _ (List.mem_append_right _ (List.mem_append_right _ (List.mem_append_right _ (List.mem_append_right _ (List.mem_append_right _ (List.mem_append_right _ (List.mem_append_right _ (List.mem_append_right _ (h)))))))))
theorem jw_9 {w : Cond} (j : Nat) (hj : tables_1_9[j]? = some w) (g : goodWord w = true) : w ∈ jall := jall_in (jin_9 (List.mem_of_getElem? hj)) g
theorem jn_9 {w : Cond} (j : Nat) (hj : tables_1_9[j]? = some w) (g : jnk w = true) : w ∈ jnest := List.mem_filter.mpr ⟨jin_9 (List.mem_of_getElem? hj), g⟩
theorem js_1 {q : MethodName × Nat} (j : Nat) (hj : lw_privs_1[j]? = some q) : Cond.selects q.1.cls q.1 q.1 ∈ jall := by
  have h := List.mem_of_getElem? hj
  have h2 : q ∈ lw_privs := List.mem_append_left _ h
  exact jall_in (List.mem_append_left _ (List.mem_map.mpr ⟨q, h2, rfl⟩)) rfl
theorem js_2 {q : MethodName × Nat} (j : Nat) (hj : lw_privs_2[j]? = some q) : Cond.selects q.1.cls q.1 q.1 ∈ jall := by
  have h := List.mem_of_getElem? hj
  have h2 : q ∈ lw_privs := List.mem_append_right _ (List.mem_append_left _ h)
  exact jall_in (List.mem_append_left _ (List.mem_map.mpr ⟨q, h2, rfl⟩)) rfl
theorem js_3 {q : MethodName × Nat} (j : Nat) (hj : lw_privs_3[j]? = some q) : Cond.selects q.1.cls q.1 q.1 ∈ jall := by
  have h := List.mem_of_getElem? hj
  have h2 : q ∈ lw_privs := List.mem_append_right _ (List.mem_append_right _ (List.mem_append_left _ h))
  exact jall_in (List.mem_append_left _ (List.mem_map.mpr ⟨q, h2, rfl⟩)) rfl
theorem js_4 {q : MethodName × Nat} (j : Nat) (hj : lw_privs_4[j]? = some q) : Cond.selects q.1.cls q.1 q.1 ∈ jall := by
  have h := List.mem_of_getElem? hj
  have h2 : q ∈ lw_privs := List.mem_append_right _ (List.mem_append_right _ (List.mem_append_right _ (List.mem_append_left _ h)))
  exact jall_in (List.mem_append_left _ (List.mem_map.mpr ⟨q, h2, rfl⟩)) rfl
theorem js_5 {q : MethodName × Nat} (j : Nat) (hj : lw_privs_5[j]? = some q) : Cond.selects q.1.cls q.1 q.1 ∈ jall := by
  have h := List.mem_of_getElem? hj
  have h2 : q ∈ lw_privs := List.mem_append_right _ (List.mem_append_right _ (List.mem_append_right _ (List.mem_append_right _ (List.mem_append_left _ h))))
  exact jall_in (List.mem_append_left _ (List.mem_map.mpr ⟨q, h2, rfl⟩)) rfl
theorem js_6 {q : MethodName × Nat} (j : Nat) (hj : lw_privs_6[j]? = some q) : Cond.selects q.1.cls q.1 q.1 ∈ jall := by
  have h := List.mem_of_getElem? hj
  have h2 : q ∈ lw_privs := List.mem_append_right _ (List.mem_append_right _ (List.mem_append_right _ (List.mem_append_right _ (List.mem_append_right _ (List.mem_append_left _ h)))))
  exact jall_in (List.mem_append_left _ (List.mem_map.mpr ⟨q, h2, rfl⟩)) rfl
theorem js_7 {q : MethodName × Nat} (j : Nat) (hj : lw_privs_7[j]? = some q) : Cond.selects q.1.cls q.1 q.1 ∈ jall := by
  have h := List.mem_of_getElem? hj
  have h2 : q ∈ lw_privs := List.mem_append_right _ (List.mem_append_right _ (List.mem_append_right _ (List.mem_append_right _ (List.mem_append_right _ (List.mem_append_right _ (h))))))
  exact jall_in (List.mem_append_left _ (List.mem_map.mpr ⟨q, h2, rfl⟩)) rfl
def jtabs : Nat → List Cond
  | 1 => tables_1_1
  | 2 => tables_1_2
  | 3 => tables_1_3
  | 4 => tables_1_4
  | 5 => tables_1_5
  | 6 => tables_1_6
  | 7 => tables_1_7
  | 8 => tables_1_8
  | _ => tables_1_9
def jtw (q : Nat × Nat) : Option Cond := (jtabs q.1)[q.2]?
theorem jtw_in {js : List (Nat × Nat)} : ∀ w ∈ js.filterMap jtw, w ∈ lw_tbl := by
  intro w hw
  obtain ⟨q, -, hq⟩ := List.mem_filterMap.mp hw
  have h := List.mem_of_getElem? hq
  unfold jtabs at h
  split at h
  · exact jin_1 h
  · exact jin_2 h
  · exact jin_3 h
  · exact jin_4 h
  · exact jin_5 h
  · exact jin_6 h
  · exact jin_7 h
  · exact jin_8 h
  · exact jin_9 h
/-! what the printed functions and proofs stand on -/
theorem jcats {av : List Value} (h : av.all (fun v => v.category == 1) = true) : ∀ v ∈ av, v.category = 1 := fun v hv => by
  have := List.all_eq_true.mp h v hv
  simpa using this
theorem jno {α : Type} {P : Prop} {r : α} (h : (none : Option α) = some r) : P := by cases h
def jPR (h : jH) (v : Int32) : jR → jH → Prop := fun r h1 => r = .inl v ∧ h1 = h
def jPW (q : Int32 × jH) : jR → jH → Prop := fun r h1 => r = .inl q.1 ∧ h1 = q.2
def jPV (q : jH) : jR → jH → Prop := fun r h1 => r = .inl 0 ∧ h1 = q
def jPX (q : jR × jH) : jR → jH → Prop := fun r h1 => r = q.1 ∧ h1 = q.2
theorem jthen_r {q : jR × jH} {k : Int32 → jH → Option (jR × jH)} {e : Nat} (h : q.1 = .inr e) : jthen q k = some (.inr e, q.2) := by unfold jthen; rw [h]
theorem jthen_l {q : jR × jH} {k : Int32 → jH → Option (jR × jH)} {r : Int32} (h : q.1 = .inl r) : jthen q k = k r q.2 := by unfold jthen; rw [h]
theorem jinc {x a b : Int32} (h : a = b) : x + a = x + b := by rw [h]
def jushr (x y : Int32) : Int32 := (x.toUInt32 >>> (y.toUInt32 &&& Int32.toUInt32 31)).toInt32
def jnw (h : jH) (e : jE) : Option jH := some (jnew h e)
theorem jC_le {G : jG} {l : Launch} {M : jM} {D k mc ms : Nat} {av : List Value} {h : jH} {P : jR → jH → Prop} (hk : k ≤ D) (f : ∀ d, jC G l M (d + k) mc ms av h P) : jC G l M D mc ms av h P := by
  have := f (D - k)
  rwa [Nat.sub_add_cancel hk] at this
theorem jTh_of {own E : String} {ik ic : Nat} {js : List (Nat × Nat)} (h1 : vx_atS own ic E jnms = js.filterMap jtw) (h2 : Cond.classLink own ik E ∈ jall) (h3 : Cond.initialized E ∈ jall) (h4 : (vx_atS own ic E jnms).all (fun w => goodWord w || jnk w) = true ∧ (Cond.classLink own ik E :: Cond.initialized E :: vx_atS own ic E jnms).all vx_ot = true) (h5 : Bundle.fit E = true) : jTh own ik ic E := by
  refine ⟨h2, h3, fun w hw => ?_, List.all_eq_true.mp h4.2, h5⟩
  have h := List.all_eq_true.mp h4.1 w hw
  rw [h1] at hw
  rcases Bool.or_eq_true_iff.mp h with g | g
  · exact Or.inl (jall_in (jtw_in w hw) g)
  · exact Or.inr (List.mem_filter.mpr ⟨jtw_in w hw, g⟩)
/-- NoSuchElementException's own constructor names Throwable's chain by another entry -/
def jnsi : ByteArray := ⟨#[0x2a, 0x2b, 0xb7, 0x00, 0x0d, 0xb1]⟩
def jatN0 (own : String) (ic : Nat) (E : String) : List Cond :=
  Bundle.throwableAtoms ++ Bundle.throwableSAtoms ++ (Bundle.passSAtoms E "java/lang/RuntimeException" 13 jnsi ++ Bundle.chainSAtoms "java/lang/RuntimeException" ["java/lang/Exception"]) ++
  [.methodLink own ic (Bundle.initS E), .instantiable E 6, .castable E E, .selects E Bundle.tFill0 Bundle.tFill0, .selects E Bundle.tFill Bundle.tFill,
   .lays E Bundle.tN "cause" "Ljava/lang/Throwable;", .lays E Bundle.tN "stackTrace" Bundle.steD, .lays E Bundle.tN "suppressedExceptions" Bundle.listD, .lays E Bundle.tN "detailMessage" "Ljava/lang/String;",
   .isRef (.static Bundle.tN "UNASSIGNED_STACK" Bundle.steD), .isRef (.static Bundle.tN "SUPPRESSED_SENTINEL" Bundle.listD),
   .fieldLink Bundle.tN 198 Bundle.tN "backtrace" "Ljava/lang/Object;", .lays Bundle.tN Bundle.tN "backtrace" "Ljava/lang/Object;", .lays E Bundle.tN "backtrace" "Ljava/lang/Object;"]
def jatN (own : String) (ic : Nat) (E : String) : List Cond := (jatN0 own ic E).filter vx_no
def jThN (own : String) (ik ic : Nat) (E : String) : Prop := Cond.classLink own ik E ∈ jall ∧ Cond.initialized E ∈ jall ∧ (∀ w ∈ jatN own ic E, w ∈ jall ∨ w ∈ jnest) ∧ (∀ w ∈ Cond.classLink own ik E :: Cond.initialized E :: jatN own ic E, vx_ot w = true) ∧ Bundle.fit E = true
theorem jThN_of {own E : String} {ik ic : Nat} {js : List (Nat × Nat)} (h1 : jatN own ic E = js.filterMap jtw) (h2 : Cond.classLink own ik E ∈ jall) (h3 : Cond.initialized E ∈ jall) (h4 : (jatN own ic E).all (fun w => goodWord w || jnk w) = true ∧ (Cond.classLink own ik E :: Cond.initialized E :: jatN own ic E).all vx_ot = true) (h5 : Bundle.fit E = true) : jThN own ik ic E := by
  refine ⟨h2, h3, fun w hw => ?_, List.all_eq_true.mp h4.2, h5⟩
  have h := List.all_eq_true.mp h4.1 w hw
  rw [h1] at hw
  rcases Bool.or_eq_true_iff.mp h with g | g
  · exact Or.inl (jall_in (jtw_in w hw) g)
  · exact Or.inr (List.mem_filter.mpr ⟨jtw_in w hw, g⟩)
/-! texts: length() and charAt -/
def jtb (t : Nat) : List Int32 := (jtxt.getD t ("", 0, "", [])).2.2.2
def jtl (t : Nat) : Option Int32 := if t < 36 then some (nI (jtb t).length) else none
def jtc (t : Nat) (i : Int32) : Option Int32 := if i < 0 ∨ (jtb t).length ≤ i.toNatClampNeg then none else some ((jtb t).getD i.toNatClampNeg 0)
section JG
variable {G : jG} {l : Launch} {M : jM} {dep : Nat} {X : jX} {h h1 : jH} {kc ks pc : Nat} {L : List (Option Value)} {st : List Value}
theorem jr_newE (K : jOK G l M dep X) {index ci N : Nat} {fs : List Value} (hd : decode M.2.1 pc = .ok (.new index, 3)) (hf : jFn M.1.cls index ci N fs) (e : jnw h (.inl (ci, fs)) = some h1) (kk : jJ G X h1 kc ks (pc + 3) L (.ref h.1 :: st)) : jJ G X h (kc + 1) (ks + N) pc L st := by
  cases e
  exact jr_new K hd hf kk
theorem jr_newIE (K : jOK G l M dep X) {N : Nat} {n : Int32} (hd : decode M.2.1 pc = .ok (.newarray .int, 2)) (hw : Cond.arrayClass .int ∈ jall) (hn : ¬ n < 0) (hN : n.toNatClampNeg = N) (hN2 : N * 4 ≤ 536870912) (e : jnw h (.inr (.inl (0, N, fun _ => 0))) = some h1) (kk : jJ G X h1 kc ks (pc + 2) L (.ref h.1 :: st)) : jJ G X h (kc + 1) (ks + N) pc L (.int n :: st) := by
  cases e
  exact jr_newI K hd hw hn hN hN2 kk
theorem jr_newBE (K : jOK G l M dep X) {N : Nat} {n : Int32} (hd : decode M.2.1 pc = .ok (.newarray .byte, 2)) (hw : Cond.arrayClass .byte ∈ jall) (hn : ¬ n < 0) (hN : n.toNatClampNeg = N) (hN2 : N * 1 ≤ 536870912) (e : jnw h (.inr (.inl (1, N, fun _ => 0))) = some h1) (kk : jJ G X h1 kc ks (pc + 2) L (.ref h.1 :: st)) : jJ G X h (kc + 1) (ks + N) pc L (.int n :: st) := by
  cases e
  exact jr_newB K hd hw hn hN hN2 kk
theorem jr_newZE (K : jOK G l M dep X) {N : Nat} {n : Int32} (hd : decode M.2.1 pc = .ok (.newarray .boolean, 2)) (hw : Cond.arrayClass .boolean ∈ jall) (hn : ¬ n < 0) (hN : n.toNatClampNeg = N) (hN2 : N * 1 ≤ 536870912) (e : jnw h (.inr (.inl (2, N, fun _ => 0))) = some h1) (kk : jJ G X h1 kc ks (pc + 2) L (.ref h.1 :: st)) : jJ G X h (kc + 1) (ks + N) pc L (.int n :: st) := by
  cases e
  exact jr_newZ K hd hw hn hN hN2 kk
theorem jr_newQE (K : jOK G l M dep X) {N index : Nat} {n : Int32} (hd : decode M.2.1 pc = .ok (.anewarray index, 3)) (hw : Cond.classLink M.1.cls index "RodRings$Rod" ∈ jall) (hn : ¬ n < 0) (hN : n.toNatClampNeg = N) (hN2 : N * 4 ≤ 536870912) (e : jnw h (.inr (.inr (.inl (N, fun _ => none)))) = some h1) (kk : jJ G X h1 kc ks (pc + 3) L (.ref h.1 :: st)) : jJ G X h (kc + 1) (ks + N) pc L (.int n :: st) := by
  cases e
  exact jr_newQ K hd hw hn hN hN2 kk
end JG
end
