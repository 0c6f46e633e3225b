/-! calls -/
/-- something was thrown over the frame: the k-th class of jexn -/
def jJx (G : jG) : jX → jH → Nat → Nat → Nat → List (Option Value) → Nat → Prop
  | (p, l, e, R, s, m, args, below, meth, c, mc, ms, Q), h, kc, ks, pc, L, k =>
    ∀ (H : Heap) (locs : List Loc) (cells slots : Nat) (ls : Array Slot) (st : List Value) (q : Addr) (ce : Cell) (E : String), jRep G h H → va_S (jA G) s.heap H locs → cells + kc ≤ mc → slots + ks ≤ ms → jcat L → lv_has ls c.maxLocals (jlv 0 L) → jexn[k]? = some E → H[q]? = some ce → ce.vm = .none → s.vm.findClass E = some ce.cls →
      vx_W p l e R s m args below meth c H locs cells slots Q (F0 m pc ls st) q
/-- what a call's place must link: of an object's own method, of a static one, of a constructor -/
abbrev jSY (Y : jM) (n : Nat) : Prop := jcode Y ∈ jall ∧ Cond.initialized Y.1.cls ∈ jall ∧ (Y.1.cls ≠ "java/lang/invoke/MethodHandle" ∧ Y.1.cls ≠ "java/lang/invoke/VarHandle" ∧ (parseMethodDescriptor Y.1.desc).map (fun d => d.parameters.length) = some n) ∧ 19 + Y.2.2.1 ≤ 80
def jSv (own : String) (idx : Nat) (Y : jM) (n : Nat) : Prop := Cond.methodLink own idx Y.1 ∈ jall ∧ Cond.instanceMethod Y.1 ∈ jall ∧ Cond.selects Y.1.cls Y.1 Y.1 ∈ jall ∧ jSY Y n
def jSs (own : String) (idx : Nat) (Y : jM) (n : Nat) : Prop := Cond.methodLink own idx Y.1 ∈ jall ∧ Cond.static Y.1 ∈ jall ∧ jSY Y n
def jSi (own : String) (idx : Nat) (Y : jM) (n : Nat) : Prop := Cond.methodLink own idx Y.1 ∈ jall ∧ Cond.instanceMethod Y.1 ∈ jall ∧ Y.1.name = "<init>" ∧ jSY Y n
/-- the same of a nest mate's private ones -/
def jSsN (own : String) (idx : Nat) (Y : jM) (n : Nat) : Prop := Cond.methodLinkNest own idx Y.1 "RodRings" ∈ jnest ∧ Cond.static Y.1 ∈ jall ∧ jSY Y n
def jSiN (own : String) (idx : Nat) (Y : jM) (n : Nat) : Prop := Cond.methodLinkNest own idx Y.1 "RodRings" ∈ jnest ∧ Cond.instanceMethod Y.1 ∈ jall ∧ Y.1.name = "<init>" ∧ jSY Y n
/-- a method named x, inherited or abstract there, that is Y in the class C -/
def jSu (own : String) (idx : Nat) (C owner : String) (x : MethodName) (Y : jM) (n : Nat) : Prop := Cond.methodLink own idx x ∈ jall ∧ Cond.sameMethod x.cls owner x.name x.desc ∈ jall ∧ Cond.selects C x Y.1 ∈ jall ∧ Cond.instanceMethod Y.1 ∈ jall ∧ Cond.declares ⟨owner, x.name, x.desc⟩ ∈ jnest ∧ (owner ≠ "java/lang/invoke/MethodHandle" ∧ owner ≠ "java/lang/invoke/VarHandle" ∧ (parseMethodDescriptor x.desc).map (fun d => d.parameters.length) = some n) ∧ jSY Y n
section JE0
variable {p : Program} {l : Launch} {e : Env} {R : Room} {s : State} {m : MethodId} {args : Array Value} {below : List Frame} {meth : Method} {c : Code} {H : Heap} {locs : List Loc} {cells slots : Nat} {Q : State → Prop}
variable {G : jG} {P : jR → jH → Prop} {ret : Option FieldType} {mc ms pc : Nat} {a : Array Value} {ls : Array Slot} {st0 rest : List Value}
theorem jr_backX (hr : vx_Run p l e R s m args below meth c H locs cells slots mc ms (F0 m pc ls st0) rest (jQc G ret P a) (jXC G P) (jA G)) (hS : va_S (jA G) s.heap H locs)
    (kx : ∀ (E : String) (k z : Nat) (h1 : jH) (ce : Cell) (q9 : Addr) (H1 : Heap) (locs1 : List Loc), jexn[k]? = some E → h1.1 ≤ z → P (.inr k) h1 → jRep G (z, h1.2) H1 → va_S (jA G) s.heap H1 locs1 → H1[q9]? = some ce → ce.vm = .none → s.vm.findClass E = some ce.cls → vx_W p l e R s m args below meth c H1 locs1 (cells + mc) (slots + ms) Q (F0 m pc ls rest) q9)
    (kk : ∀ (r : Int32) (h1 : jH) (H1 : Heap) (locs1 : List Loc), P (.inl r) h1 → jRep G h1 H1 → va_S (jA G) s.heap H1 locs1 → W p l e R s m args below meth c H1 locs1 (cells + mc) (slots + ms) Q (F0 m (pc + 3) ls ((jval ret r).toList ++ rest))) : W p l e R s m args below meth c H locs cells slots Q (F0 m pc ls st0) := by
  intro T hT X
  rcases hr T hT X with ⟨v, st₀, t, T', L, h0, X', hL, e1, e2, ⟨⟨r, h1, hv, hp, hb⟩, hF⟩, st⟩ | ⟨q, st₀, t, T', L, E, ce, h0, X', hL, e1, e2, ⟨⟨k, z, h1, hk, hz, hp, hb⟩, hF⟩, hce, hcv, hcl, st⟩
  · cases hv
    obtain ⟨k1, k2, k3⟩ := vx_keep h0 e1 hS (fun _ _ q => q) (fun _ q => q) hL hF
    obtain ⟨t2, a1, b1⟩ := kk r h1 T'.heap (locs ++ L) hp (by rw [e1]; exact hb) k3 T' rfl X'
    exact ⟨t2, st t2 a1, b1⟩
  · obtain ⟨k1, k2, k3⟩ := vx_keep h0 e1 hS (fun _ _ q => q) (fun _ q => q) hL hF
    obtain ⟨t2, a1, b1⟩ := kx E k z h1 ce q T'.heap (locs ++ L) hk hz hp (by rw [e1]; exact hb) k3 (by rw [e1]; exact hce) hcv hcl T' rfl X'
    exact ⟨t2, st.trans a1, b1⟩
theorem jr_backM (hr : va_Run p l e R s m args below meth c H locs cells slots mc ms (F0 m pc ls st0) rest (jQc G ret P a) (jA G)) (hS : va_S (jA G) s.heap H locs)
    (kk : ∀ (r : Int32) (h1 : jH) (H1 : Heap) (locs1 : List Loc), P (.inl r) h1 → jRep G h1 H1 → va_S (jA G) s.heap H1 locs1 → W p l e R s m args below meth c H1 locs1 (cells + mc) (slots + ms) Q (F0 m (pc + 3) ls ((jval ret r).toList ++ rest))) : W p l e R s m args below meth c H locs cells slots Q (F0 m pc ls st0) := by
  intro T hT X
  obtain ⟨v, st₀, t, T', L, h0, X', hL, e1, e2, ⟨⟨r, h1, hv, hp, hb⟩, hF⟩, st⟩ := hr T hT X
  cases hv
  obtain ⟨k1, k2, k3⟩ := vx_keep h0 e1 hS (fun _ _ q => q) (fun _ q => q) hL hF
  obtain ⟨t2, a1, b1⟩ := kk r h1 T'.heap (locs ++ L) hp (by rw [e1]; exact hb) k3 T' rfl X'
  exact ⟨t2, st t2 a1, b1⟩
end JE0
section JE
variable {G : jG} {l : Launch} {M : jM} {dep : Nat} {X : jX} {h : jH} {kc ks pc : Nat} {L : List (Option Value)} {st stk : List Value} {P : jR → jH → Prop} {index n mc2 ms2 b : Nat} {As : List Value} {y : MethodName} {cc : ByteArray} {nL : Nat} {ret : Option FieldType} {kc2 ks2 : Nat}
theorem jrecv {H : Heap} {s : State} {ci : Nat} {fs : List Value} {C : String} {T : u_T} {N : Nat} (hK : va_K G.1 vwCl (jtys G) s) (hR : jRep G h H) (he : h.2 b = some (.inl (ci, fs))) (hc : vwCl[ci]? = some (C, T, N)) : ∃ cell : Cell, H[b]? = some cell ∧ cell.vm.isStatics = false ∧ s.vm.findClass C = some cell.cls :=
  va_recv hK (hR.at he) hc (q0 := 0) rfl
/-- an object's own method; kx: where it throws -/
theorem jr_callVx (K : jOK G l M (dep + 1) X) (hC : jC G l (y, cc, nL, ret, []) dep mc2 ms2 (.ref b :: As) h P) (hd : decode M.2.1 pc = .ok (.invokevirtual index, 3)) (hs : jSv M.1.cls index (y, cc, nL, ret, []) n) {ci : Nat} {T : u_T} {N : Nat} (hci : vwCl[ci]? = some (y.cls, T, N)) (hrc : ∃ fs, h.2 b = some (.inl (ci, fs))) (hn : As.length = n) (hstk : stk = As.reverse ++ .ref b :: st) (hrm : (st.map fun v => v.category).sum ≤ 8) (hk1 : kc2 + mc2 = kc) (hk2 : ks2 + ms2 = ks)
    (kx : ∀ k z h1, P (.inr k) h1 → h1.1 ≤ z → jJx G X (z, h1.2) kc2 ks2 pc L k) (kk : ∀ r h1, P (.inl r) h1 → jJ G X h1 kc2 ks2 (pc + 3) L ((jval ret r).toList ++ st)) : jJ G X h kc ks pc L stk := by
  obtain ⟨p, l9, e, R, s, m, args, below, meth, c, mc, ms, Q⟩ := X
  obtain ⟨hx, hb, hml, hr, hown, hts, hlk, hin, hE, hbs, hd1, hd2, hd3, hd4, rfl, hxt⟩ := K
  subst hstk
  subst hk1 hk2
  intro H locs cells slots ls hR hS hc1 hc2 hc hl
  obtain ⟨s1, s2, s3, s4, s5, s6, s7⟩ := hs
  obtain ⟨fs, hfs⟩ := hrc
  have cb := callB_of (own := M.1.cls) (index := index) (y := y) (bytes := cc) (maxL := nL) (ret := ret) (ws := jws (y, cc, nL, ret, [])) (ws' := jall) (rm := jrm dep mc2 ms2) (mc := mc2) (ms := ms2) (R := R) (s := s) (args := args) n hts (jws_good s4) rfl rfl rfl (hts _ s5) (hts _ s1) s6 ⟨by show dep + 1 ≤ R.frames; omega, by show 8 + (nL + 11) + 80 * dep ≤ R.locals; have s8 : 19 + nL ≤ 80 := s7; omega⟩
  refine jr_backX (vx_runV (As := As) (rest := st) (C := y.cls) ⟨hx, hb, rfl, hown, hts⟩ hC ⟨cb, hts _ s2, hts _ s3⟩ ⟨jPc_blind, jrecv hE.1 hR hfs hci, fun U hU hW => jPc_at hR hS hE hbs hU hW⟩ rfl hn hl.1 rfl (lv_room hrm) hd ⟨by omega, by omega⟩) hS (fun E k z h1 ce q9 H1 locs1 g1 g2 g3 g4 g5 g6 g7 g8 => ?_) (fun r h1 H1 locs1 g1 g2 g3 => ?_)
  · exact kx k z h1 g3 g2 H1 locs1 (cells + mc2) (slots + ms2) ls st q9 ce E g4 g5 (by omega) (by omega) hc hl g1 g6 g7 g8
  · exact kk r h1 g1 H1 locs1 (cells + mc2) (slots + ms2) ls g2 g3 (by omega) (by omega) hc hl
theorem jr_callV (K : jOK G l M (dep + 1) X) (hC : jC G l (y, cc, nL, ret, []) dep mc2 ms2 (.ref b :: As) h P) (hd : decode M.2.1 pc = .ok (.invokevirtual index, 3)) (hs : jSv M.1.cls index (y, cc, nL, ret, []) n) {ci : Nat} {T : u_T} {N : Nat} (hci : vwCl[ci]? = some (y.cls, T, N)) (hrc : ∃ fs, h.2 b = some (.inl (ci, fs))) (hn : As.length = n) (hstk : stk = As.reverse ++ .ref b :: st) (hrm : (st.map fun v => v.category).sum ≤ 8) (hk1 : kc2 + mc2 = kc) (hk2 : ks2 + ms2 = ks)
    (hnt : ∀ k h1, ¬ P (.inr k) h1) (kk : ∀ r h1, P (.inl r) h1 → jJ G X h1 kc2 ks2 (pc + 3) L ((jval ret r).toList ++ st)) : jJ G X h kc ks pc L stk :=
  jr_callVx K hC hd hs hci hrc hn hstk hrm hk1 hk2 (fun k z h1 q => (hnt k h1 q).elim) kk
theorem jr_callSx (K : jOK G l M (dep + 1) X) (hC : jC G l (y, cc, nL, ret, []) dep mc2 ms2 As h P) (hd : decode M.2.1 pc = .ok (.invokestatic index, 3)) (hs : jSs M.1.cls index (y, cc, nL, ret, []) n) (hn : As.length = n) (hstk : stk = As.reverse ++ st) (hrm : (st.map fun v => v.category).sum ≤ 8) (hk1 : kc2 + mc2 = kc) (hk2 : ks2 + ms2 = ks)
    (kx : ∀ k z h1, P (.inr k) h1 → h1.1 ≤ z → jJx G X (z, h1.2) kc2 ks2 pc L k) (kk : ∀ r h1, P (.inl r) h1 → jJ G X h1 kc2 ks2 (pc + 3) L ((jval ret r).toList ++ st)) : jJ G X h kc ks pc L stk := by
  obtain ⟨p, l9, e, R, s, m, args, below, meth, c, mc, ms, Q⟩ := X
  obtain ⟨hx, hb, hml, hr, hown, hts, hlk, hin, hE, hbs, hd1, hd2, hd3, hd4, rfl, hxt⟩ := K
  subst hstk
  subst hk1 hk2
  intro H locs cells slots ls hR hS hc1 hc2 hc hl
  obtain ⟨s1, s2, s4, s5, s6, s7⟩ := hs
  have cb := callB_of (own := M.1.cls) (index := index) (y := y) (bytes := cc) (maxL := nL) (ret := ret) (ws := jws (y, cc, nL, ret, [])) (ws' := jall) (rm := jrm dep mc2 ms2) (mc := mc2) (ms := ms2) (R := R) (s := s) (args := args) n hts (jws_good s4) rfl rfl rfl (hts _ s5) (hts _ s1) s6 ⟨by show dep + 1 ≤ R.frames; omega, by show 8 + (nL + 11) + 80 * dep ≤ R.locals; have s8 : 19 + nL ≤ 80 := s7; omega⟩
  refine jr_backX (vx_runS (As := As) (rest := st) ⟨hx, hb, rfl, hown, hts⟩ hC ⟨cb, hts _ s2⟩ ⟨jPc_blind, fun U hU hW => jPc_at hR hS hE hbs hU hW⟩ rfl hn hl.1 rfl (lv_room hrm) hd ⟨by omega, by omega⟩) hS (fun E k z h1 ce q9 H1 locs1 g1 g2 g3 g4 g5 g6 g7 g8 => ?_) (fun r h1 H1 locs1 g1 g2 g3 => ?_)
  · exact kx k z h1 g3 g2 H1 locs1 (cells + mc2) (slots + ms2) ls st q9 ce E g4 g5 (by omega) (by omega) hc hl g1 g6 g7 g8
  · exact kk r h1 g1 H1 locs1 (cells + mc2) (slots + ms2) ls g2 g3 (by omega) (by omega) hc hl
theorem jr_callS (K : jOK G l M (dep + 1) X) (hC : jC G l (y, cc, nL, ret, []) dep mc2 ms2 As h P) (hd : decode M.2.1 pc = .ok (.invokestatic index, 3)) (hs : jSs M.1.cls index (y, cc, nL, ret, []) n) (hn : As.length = n) (hstk : stk = As.reverse ++ st) (hrm : (st.map fun v => v.category).sum ≤ 8) (hk1 : kc2 + mc2 = kc) (hk2 : ks2 + ms2 = ks)
    (hnt : ∀ k h1, ¬ P (.inr k) h1) (kk : ∀ r h1, P (.inl r) h1 → jJ G X h1 kc2 ks2 (pc + 3) L ((jval ret r).toList ++ st)) : jJ G X h kc ks pc L stk :=
  jr_callSx K hC hd hs hn hstk hrm hk1 hk2 (fun k z h1 q => (hnt k h1 q).elim) kk
/-- a static method with a table of its own (the law's) -/
theorem jr_callSW {q : Nat × Nat × Nat × Nat} {hh : List (Nat × Nat × Nat × Nat)} (K : jOK G l M (dep + 1) X) (hC : jC G l (y, cc, nL, ret, q :: hh) dep mc2 ms2 As h P) (hd : decode M.2.1 pc = .ok (.invokestatic index, 3)) (hs : jSs M.1.cls index (y, cc, nL, ret, q :: hh) n) (hn : As.length = n) (hstk : stk = As.reverse ++ st) (hrm : (st.map fun v => v.category).sum ≤ 8) (hk1 : kc2 + mc2 = kc) (hk2 : ks2 + ms2 = ks)
    (hnt : ∀ k h1, ¬ P (.inr k) h1) (kk : ∀ r h1, P (.inl r) h1 → jJ G X h1 kc2 ks2 (pc + 3) L ((jval ret r).toList ++ st)) : jJ G X h kc ks pc L stk := by
  obtain ⟨p, l9, e, R, s, m, args, below, meth, c, mc, ms, Q⟩ := X
  obtain ⟨hx, hb, hml, hr, hown, hts, hlk, hin, hE, hbs, hd1, hd2, hd3, hd4, rfl, hxt⟩ := K
  subst hstk
  subst hk1 hk2
  intro H locs cells slots ls hR hS hc1 hc2 hc hl
  obtain ⟨s1, s2, s4, s5, s6, s7⟩ := hs
  have hG := jws_good s4
  have hcw : Cond.codeWith y cc nL ret (q :: hh) ∈ jws (y, cc, nL, ret, q :: hh) := List.mem_cons_self
  have cb : vx_CSW R s args M.1.cls index y cc nL ret (q :: hh) (jws (y, cc, nL, ret, q :: hh)) (jrm dep mc2 ms2) mc2 ms2 n := by
    refine ⟨⟨rfl, rfl, by show dep + 1 ≤ R.frames; omega, by show 8 + (nL + 11) + 80 * dep ≤ R.locals; have s8 : 19 + nL ≤ 80 := s7; omega, pay_in hts hG, hcw⟩, hts _ (hG _ hcw).1, hts _ s5, ⟨s6.1, s6.2.1⟩, fun sig h9 => ?_, hts _ s1, hts _ s2⟩
    have h2 := s6.2.2
    rw [h9] at h2
    exact (Option.some.inj h2).symm
  refine jr_backX (vx_runSX (As := As) (rest := st) ⟨hx, hb, rfl, hown, hts⟩ hC cb ⟨jPc_blind, fun U hU hW => jPc_at hR hS hE hbs hU hW⟩ rfl hn hl.1 rfl (lv_room hrm) hd ⟨by omega, by omega⟩) hS (fun E k z h1 ce q9 H1 locs1 g1 g2 g3 g4 g5 g6 g7 g8 => ?_) (fun r h1 H1 locs1 g1 g2 g3 => ?_)
  · exact (hnt k h1 g3).elim
  · exact kk r h1 g1 H1 locs1 (cells + mc2) (slots + ms2) ls g2 g3 (by omega) (by omega) hc hl
/-- a nest mate's private static method -/
theorem jr_callSN (K : jOK G l M (dep + 1) X) (hC : jC G l (y, cc, nL, ret, []) dep mc2 ms2 As h P) (hd : decode M.2.1 pc = .ok (.invokestatic index, 3)) (hs : jSsN M.1.cls index (y, cc, nL, ret, []) n) (hn : As.length = n) (hstk : stk = As.reverse ++ st) (hrm : (st.map fun v => v.category).sum ≤ 8) (hk1 : kc2 + mc2 = kc) (hk2 : ks2 + ms2 = ks)
    (hnt : ∀ k h1, ¬ P (.inr k) h1) (kk : ∀ r h1, P (.inl r) h1 → jJ G X h1 kc2 ks2 (pc + 3) L ((jval ret r).toList ++ st)) : jJ G X h kc ks pc L stk := by
  obtain ⟨p, l9, e, R, s, m, args, below, meth, c, mc, ms, Q⟩ := X
  obtain ⟨hx, hb, hml, hr, hown, hts, hlk, hin, hE, hbs, hd1, hd2, hd3, hd4, rfl, hxt⟩ := K
  subst hstk
  subst hk1 hk2
  intro H locs cells slots ls hR hS hc1 hc2 hc hl
  obtain ⟨s1, s2, s4, s5, s6, s7⟩ := hs
  have hnw := hE.2.2.2.2.2.2.2.2.2.1.2.1
  have cb := va_cnB (own := M.1.cls) (host := "RodRings") (index := index) (y := y) (bytes := cc) (maxL := nL) (ret := ret) (ws := jws (y, cc, nL, ret, [])) (ws' := jall) (rm := jrm dep mc2 ms2) (mc := mc2) (ms := ms2) (R := R) (s := s) (args := args) n hts (jws_good s4) rfl rfl rfl (hnw _ s1) (hts _ s5) s6 ⟨by show dep + 1 ≤ R.frames; omega, by show 8 + (nL + 11) + 80 * dep ≤ R.locals; have s8 : 19 + nL ≤ 80 := s7; omega⟩
  exact jr_backM (va_runSN (As := As) (rest := st) ⟨hx, hb, rfl, hown, hts⟩ (hC.met hnt) ⟨cb, hts _ s2, trivial⟩ ⟨jPc_blind, fun U hU hW => jPc_at hR hS hE hbs hU hW⟩ rfl hn hl.1 rfl (lv_room hrm) hd ⟨by omega, by omega⟩) hS (fun r h1 H1 locs1 g1 g2 g3 => kk r h1 g1 H1 locs1 (cells + mc2) (slots + ms2) ls g2 g3 (by omega) (by omega) hc hl)
/-- constructors: of a class of the same package, or a nest mate's private one -/
theorem jr_callI (K : jOK G l M (dep + 1) X) (hC : jC G l (y, cc, nL, none, []) dep mc2 ms2 (.ref b :: As) h P) (hd : decode M.2.1 pc = .ok (.invokespecial index, 3)) (hs : jSi M.1.cls index (y, cc, nL, none, []) n) (hn : As.length = n) (hstk : stk = As.reverse ++ .ref b :: st) (hrm : (st.map fun v => v.category).sum ≤ 8) (hk1 : kc2 + mc2 = kc) (hk2 : ks2 + ms2 = ks)
    (hnt : ∀ k h1, ¬ P (.inr k) h1) (kk : ∀ r h1, P (.inl r) h1 → jJ G X h1 kc2 ks2 (pc + 3) L st) : jJ G X h kc ks pc L stk := by
  obtain ⟨p, l9, e, R, s, m, args, below, meth, c, mc, ms, Q⟩ := X
  obtain ⟨hx, hb, hml, hr, hown, hts, hlk, hin, hE, hbs, hd1, hd2, hd3, hd4, rfl, hxt⟩ := K
  subst hstk
  subst hk1 hk2
  intro H locs cells slots ls hR hS hc1 hc2 hc hl
  obtain ⟨s1, s2, s3, s4, s5, s6, s7⟩ := hs
  have cb := callB_of (own := M.1.cls) (index := index) (y := y) (bytes := cc) (maxL := nL) (ret := none) (ws := jws (y, cc, nL, none, [])) (ws' := jall) (rm := jrm dep mc2 ms2) (mc := mc2) (ms := ms2) (R := R) (s := s) (args := args) n hts (jws_good s4) rfl rfl rfl (hts _ s5) (hts _ s1) s6 ⟨by show dep + 1 ≤ R.frames; omega, by show 8 + (nL + 11) + 80 * dep ≤ R.locals; have s8 : 19 + nL ≤ 80 := s7; omega⟩
  exact jr_backM (ret := none) (va_runI (As := As) (rest := st) ⟨hx, hb, rfl, hown, hts⟩ (hC.met hnt) ⟨cb, s3, hts _ s2⟩ ⟨jPc_blind, fun U hU hW => jPc_at hR hS hE hbs hU hW⟩ rfl hn hl.1 rfl (lv_room hrm) hd ⟨by omega, by omega⟩) hS (fun r h1 H1 locs1 g1 g2 g3 => kk r h1 g1 H1 locs1 (cells + mc2) (slots + ms2) ls g2 g3 (by omega) (by omega) hc hl)
theorem jr_callIN (K : jOK G l M (dep + 1) X) (hC : jC G l (y, cc, nL, none, []) dep mc2 ms2 (.ref b :: As) h P) (hd : decode M.2.1 pc = .ok (.invokespecial index, 3)) (hs : jSiN M.1.cls index (y, cc, nL, none, []) n) (hn : As.length = n) (hstk : stk = As.reverse ++ .ref b :: st) (hrm : (st.map fun v => v.category).sum ≤ 8) (hk1 : kc2 + mc2 = kc) (hk2 : ks2 + ms2 = ks)
    (hnt : ∀ k h1, ¬ P (.inr k) h1) (kk : ∀ r h1, P (.inl r) h1 → jJ G X h1 kc2 ks2 (pc + 3) L st) : jJ G X h kc ks pc L stk := by
  obtain ⟨p, l9, e, R, s, m, args, below, meth, c, mc, ms, Q⟩ := X
  obtain ⟨hx, hb, hml, hr, hown, hts, hlk, hin, hE, hbs, hd1, hd2, hd3, hd4, rfl, hxt⟩ := K
  subst hstk
  subst hk1 hk2
  intro H locs cells slots ls hR hS hc1 hc2 hc hl
  obtain ⟨s1, s2, s3, s4, s5, s6, s7⟩ := hs
  have hnw := hE.2.2.2.2.2.2.2.2.2.1.2.1
  have cb := va_cnB (own := M.1.cls) (host := "RodRings") (index := index) (y := y) (bytes := cc) (maxL := nL) (ret := none) (ws := jws (y, cc, nL, none, [])) (ws' := jall) (rm := jrm dep mc2 ms2) (mc := mc2) (ms := ms2) (R := R) (s := s) (args := args) n hts (jws_good s4) rfl rfl rfl (hnw _ s1) (hts _ s5) s6 ⟨by show dep + 1 ≤ R.frames; omega, by show 8 + (nL + 11) + 80 * dep ≤ R.locals; have s8 : 19 + nL ≤ 80 := s7; omega⟩
  exact jr_backM (ret := none) (va_runIN (As := As) (rest := st) ⟨hx, hb, rfl, hown, hts⟩ (hC.met hnt) ⟨cb, s3, hts _ s2⟩ ⟨jPc_blind, fun U hU hW => jPc_at hR hS hE hbs hU hW⟩ rfl hn hl.1 rfl (lv_room hrm) hd ⟨by omega, by omega⟩) hS (fun r h1 H1 locs1 g1 g2 g3 => kk r h1 g1 H1 locs1 (cells + mc2) (slots + ms2) ls g2 g3 (by omega) (by omega) hc hl)
/-- an inherited method, or one that is abstract where it is named -/
theorem jr_callU {x : MethodName} {owner C : String} (K : jOK G l M (dep + 1) X) (hC : jC G l (y, cc, nL, ret, []) dep mc2 ms2 (.ref b :: As) h P) (hd : decode M.2.1 pc = .ok (.invokevirtual index, 3)) (hs : jSu M.1.cls index C owner x (y, cc, nL, ret, []) n) {ci : Nat} {T : u_T} {N : Nat} (hci : vwCl[ci]? = some (C, T, N)) (hrc : ∃ fs, h.2 b = some (.inl (ci, fs))) (hn : As.length = n) (hstk : stk = As.reverse ++ .ref b :: st) (hrm : (st.map fun v => v.category).sum ≤ 8) (hk1 : kc2 + mc2 = kc) (hk2 : ks2 + ms2 = ks)
    (hnt : ∀ k h1, ¬ P (.inr k) h1) (kk : ∀ r h1, P (.inl r) h1 → jJ G X h1 kc2 ks2 (pc + 3) L ((jval ret r).toList ++ st)) : jJ G X h kc ks pc L stk := by
  obtain ⟨p, l9, e, R, s, m, args, below, meth, c, mc, ms, Q⟩ := X
  obtain ⟨hx, hb, hml, hr, hown, hts, hlk, hin, hE, hbs, hd1, hd2, hd3, hd4, rfl, hxt⟩ := K
  subst hstk
  subst hk1 hk2
  intro H locs cells slots ls hR hS hc1 hc2 hc hl
  obtain ⟨u1, u2, u3, u4, u5, u6, s4, s5, s6, s7⟩ := hs
  obtain ⟨fs, hfs⟩ := hrc
  have hnw := hE.2.2.2.2.2.2.2.2.2.1.2.1
  have hG : GoodIn jall (va_wsU M.1.cls index C owner x y (jws (y, cc, nL, ret, []))) := by
    refine jall_good fun w hw => ?_
    unfold va_wsU at hw
    rcases List.mem_append.mp hw with hw | hw
    · simp only [List.mem_cons, List.not_mem_nil, or_false] at hw
      rcases hw with rfl | rfl | rfl | rfl | rfl
      · exact u1
      · exact u2
      · exact u3
      · exact u4
      · exact s5
    · exact (List.mem_cons.mp hw).elim (fun e => by rw [e]; exact s4) id
  have cb := va_cwA (own := M.1.cls) (C := C) (owner := owner) (index := index) (x := x) (y := y) (bytes := cc) (maxL := nL) (ret := ret) (ws := jws (y, cc, nL, ret, [])) (ws' := jall) (rm := jrm dep mc2 ms2) (mc := mc2) (ms := ms2) (R := R) (s := s) (args := args) n hts hG rfl rfl rfl (hnw _ u5) u6 ⟨by show dep + 1 ≤ R.frames; omega, by show 8 + (nL + 11) + 80 * dep ≤ R.locals; have s8 : 19 + nL ≤ 80 := s7; omega⟩
  exact jr_backM (va_runU (As := As) (rest := st) ⟨hx, hb, rfl, hown, hts⟩ (hC.met hnt) cb ⟨jPc_blind, jrecv hE.1 hR hfs hci, fun U hU hW => jPc_at hR hS hE hbs hU hW⟩ rfl hn hl.1 rfl (lv_room hrm) hd ⟨by omega, by omega⟩) hS (fun r h1 H1 locs1 g1 g2 g3 => kk r h1 g1 H1 locs1 (cells + mc2) (slots + ms2) ls g2 g3 (by omega) (by omega) hc hl)
/-- thrown on: no handlers here -/
theorem jr_out {P : jR → jH → Prop} {k z : Nat} {h1 : jH} (K : jOK G l M dep X) (E : jEnd G M P X) (hh : M.2.2.2.2 = []) (hz : h1.1 ≤ z) (hP : P (.inr k) h1) : jJx G X (z, h1.2) kc ks pc L k := by
  obtain ⟨p, l9, e, R, s, m, args, below, meth, c, mc, ms, Q⟩ := X
  obtain ⟨hx, hb, hml, hr, hown, hts, hlk, hin, hE, hbs, hd1, hd2, hd3, hd4, rfl, hxt⟩ := K
  subst E
  intro H locs cells slots ls st q ce E hR hS hc1 hc2 hc hl hk g6 g7 g8
  refine vx_out (fun x hx9 => ?_) hlk g6 g7 g8 (fun t ht hv => ⟨⟨k, z, h1, hk, hz, hP, by rw [ht]; exact hR⟩, hS.F9 ht⟩) hS.2.2 (by omega) (by omega)
  rw [hxt, hh] at hx9
  cases hx9
theorem jr_mask {L2 : List (Option Value)} (hm : L2.length = L.length ∧ ∀ (i : Nat) (v : Value), L2[i]? = some (some v) → L[i]? = some (some v)) (k : jJ G X h kc ks pc L2 st) : jJ G X h kc ks pc L st := by
  obtain ⟨p, l, e, R, s, m, args, below, meth, c, mc, ms, Q⟩ := X
  intro H locs cells slots ls hR hS hc1 hc2 hc hl
  exact k H locs cells slots ls hR hS hc1 hc2 (fun i v q => hc i v (hm.2 i v q)) (jlv_sub hl fun q hq => by
    obtain ⟨i, h1, h2⟩ := (jlv_mem _ _ _).mp hq
    exact (jlv_mem _ _ _).mpr ⟨i, h1, hm.2 i q.2 h2⟩)
/-- which locals are still spoken of -/
def jmask : List Bool → List (Option Value) → List (Option Value)
  | [], l => l
  | _, [] => []
  | true :: bs, x :: l => x :: jmask bs l
  | false :: bs, _ :: l => none :: jmask bs l
theorem jmask_ok : ∀ (bs : List Bool) (L : List (Option Value)), (jmask bs L).length = L.length ∧ ∀ (i : Nat) (v : Value), (jmask bs L)[i]? = some (some v) → L[i]? = some (some v)
  | [], L => by cases L <;> exact ⟨rfl, fun _ _ h => h⟩
  | b :: bs, [] => by cases b <;> exact ⟨rfl, fun _ _ h => h⟩
  | true :: bs, x :: L => by
    obtain ⟨h1, h2⟩ := jmask_ok bs L
    refine ⟨by show _ + 1 = _ + 1; rw [h1], fun i v h => ?_⟩
    cases i with
    | zero => exact h
    | succ i => exact h2 i v (by simpa [jmask] using h)
  | false :: bs, x :: L => by
    obtain ⟨h1, h2⟩ := jmask_ok bs L
    refine ⟨by show _ + 1 = _ + 1; rw [h1], fun i v h => ?_⟩
    cases i with
    | zero => simp [jmask] at h
    | succ i => exact h2 i v (by simpa [jmask] using h)
theorem jr_keep (bs : List Bool) (k : jJ G X h kc ks pc (jmask bs L) st) : jJ G X h kc ks pc L st := jr_mask (jmask_ok bs L) k
end JE
theorem jbind {α β : Type} {a : Option α} {f : α → Option β} {r : β} (h : a.bind f = some r) : ∃ x, a = some x ∧ f x = some r := Option.bind_eq_some_iff.mp h
/-- a call of an object's own method: the object must be one -/
def jcv {α : Type} (ci : Nat) (h : jH) (b : Nat) (e : Option α) : Option α := match h.2 b with
  | some (.inl o) => if o.1 = ci then e else none
  | _ => none
theorem jcv_o {α : Type} {ci : Nat} {h : jH} {b : Nat} {e : Option α} {r : α} (q : jcv ci h b e = some r) : (∃ fs, h.2 b = some (.inl (ci, fs))) ∧ e = some r := by
  unfold jcv at q
  split at q
  · rename_i o ho
    split at q
    · rename_i hc
      exact ⟨⟨o.2, by rw [ho, ← hc]⟩, q⟩
    · cases q
  · cases q
/-- go on behind a call that may throw -/
def jthen (q : jR × jH) (k : Int32 → jH → Option (jR × jH)) : Option (jR × jH) := match q.1 with
  | .inl r => k r q.2
  | .inr e => some (.inr e, q.2)
theorem D_at {b : ByteArray} {T : List (Nat × Instr × Nat)} (D : ∀ q ∈ T, decode b q.1 = .ok q.2) (k : Nat) {pc n : Nat} {i : Instr} (h : T[k]? = some (pc, i, n)) : decode b pc = .ok (i, n) := D (pc, i, n) (List.mem_of_getElem? h)
theorem jw_at {ws : List (Nat × Cond)} (h : ∀ q ∈ ws, lw_tbl[q.1]? = some q.2) (j : Nat) {i : Nat} {w : Cond} (hj : ws[j]? = some (i, w)) (g : goodWord w = true) : w ∈ jall := jall_of (h (i, w) (List.mem_of_getElem? hj)) g
theorem jn_at {ws : List (Nat × Cond)} (h : ∀ q ∈ ws, lw_tbl[q.1]? = some q.2) (j : Nat) {i : Nat} {w : Cond} (hj : ws[j]? = some (i, w)) (g : jnk w = true) : w ∈ jnest := jnest_of (h (i, w) (List.mem_of_getElem? hj)) g
