section
/-! throw new NoSuchElementException("text"): her own constructor stands at another entry -/
section JTN
variable {p : Program} {l : Launch} {e : Env} {R : Room} {s : State} {m₀ : MethodId} {args : Array Value} {below : List Frame} {meth : Method} {c : Code} {W9 : State} {locs : List Loc} {cells slots : Nat}
theorem jnsi_0 : decode jnsi 0 = .ok (.aload_n 0, 1) := by decide +kernel
theorem jnsi_1 : decode jnsi 1 = .ok (.aload_n 1, 1) := by decide +kernel
theorem jnsi_2 : decode jnsi 2 = .ok (.invokespecial 13, 3) := by decide +kernel
theorem jnsi_5 : decode jnsi 5 = .ok (.return_, 1) := by decide +kernel
set_option maxHeartbeats 1000000 in
theorem jctorN (X : Stand p l e R s m₀ args below meth c W9 locs cells slots) (hexec : p.tables.exec = Jvm.exec) (htr : e.platform.stackTraces = false) {own cls : String} {ic : Nat}
    (hown : s.vm.findClass own = some m₀.cls) (hcls : Bundle.fit cls = true) (h : ∀ a ∈ jatN0 own ic cls, a.before args s = true)
    (hlocs : ∀ x ∈ locs, ∀ cell, s.heap[x.base]? = some cell → cell.vm.isStatics = false)
    {a : Addr} {cX : ClassId} {kX : Class} (hfoundX : s.vm.findClass cls = some cX) (hkX : s.vm.classes[cX]? = some kX) (hcell : W9.heap[a]? = some (freshCell cX kX)) (hnew : s.heap.size ≤ a)
    {msg : Value} (hmsg : msg.isRef = true)
    {g : JFrame} (hg : g.method = m₀) (hsize : g.locals.size = c.maxLocals) (hlocked : g.locked = none) (hentered : g.entered = []) {rest : List Value} (hstack : g.stack = msg :: .ref a :: .ref a :: rest)
    (hd6 : decode c.code g.pc = .ok (.invokespecial ic, 3)) (hd9 : decode c.code (g.pc + 3) = .ok (.athrow, 1)) (hout : ∀ x ∈ c.exceptionTable.toList, covers x (g.pc + 3) = false)
    (hRframes : 5 < R.frames) (hRlocals : 2 * g.monitorRoom + ((Value.ref a :: rest).map fun v => v.category).sum + 81 ≤ R.locals) (hlocks : meth.locks = false) :
    ∃ U : State, Steps p.tables e below (W9.setTop g) U ∧ U.status = .running ∧ Ended U below (.threw a) ∧ s.WarmedH U.vm ∧ s.sameButNew ({ U with vm := s.vm } : State) locs cells slots ∧
      ∃ ce, U.heap[a]? = some ce ∧ s.vm.findClass cls = some ce.cls ∧ ce.vm = .none := by
  have howns : e.platform.frameOwnsMonitors = true := by rw [X.admits.platform]
  have hfin : e.platform.finalization = false := by rw [X.admits.platform]
  have hpl : e.platform.magicAccessors = ({} : Platform).magicAccessors := by rw [X.admits.platform]
  have a' : ∀ x, x ∈ jatN0 own ic cls → x.holds args s none s [] = true := fun x hx => h x hx
  obtain ⟨T, Z0, L, -, Y⟩ := ThrowableC.of_atoms (args := args) howns hfin hpl (fun x hx => h x (by simp [jatN0, hx]))
  obtain ⟨Z, M, LZ, LM, hnZ⟩ := Init0T.ofS_atoms (args := args) hpl L Y (fun x hx => h x (by simp [jatN0, hx]))
  obtain ⟨P1, L1, hP1m, hs1⟩ := PassC.ofS_atoms (args := args) (s := s) hpl (X := cls) (Y := "java/lang/RuntimeException") (Bundle.fit_spec hcls).1 (by decide) jnsi_0 jnsi_1 jnsi_2 jnsi_5 (fun x hx => h x (by simp [jatN0, hx]))
  obtain ⟨P2, Ps, hlen, L2, hL, hP2m, hsup, hpass⟩ := Bundle.chainS (args := args) hpl hnZ ["java/lang/Exception"] "java/lang/RuntimeException" (by decide +kernel) (by decide +kernel) (fun x hx => h x (by simp [jatN0, hx]))
  have hlink1 := Option.some.inj (hs1.symm.trans hP2m)
  have hlen1 : Ps.length = 1 := hlen
  have hfound : s.vm.findClass cls = some P1.m.cls := findClass_of_methodNamed hP1m
  cases Option.some.inj (hfoundX.symm.trans hfound)
  obtain ⟨c1, kX', hc1, hk, hord, -, -, hn6⟩ := Cond.instantiable_spec (a' (.instantiable cls 6) (by simp [jatN0]))
  cases Option.some.inj (hc1.symm.trans hfound)
  cases Option.some.inj (hkX.symm.trans hk)
  have hsel0 : selectMethod e.platform s.vm P1.m.cls T.fill0 = .method T.fill0 := by
    obtain ⟨c2, r2, m2, q1, q2, q3, q4, -⟩ := Cond.selects_spec (a' (.selects cls Bundle.tFill0 Bundle.tFill0) (by simp [jatN0]))
    cases Option.some.inj (q1.symm.trans hfound)
    cases Option.some.inj (q2.symm.trans (State.methodFound?_of_named Y.fill0 (by decide)))
    cases Option.some.inj (q3.symm.trans Y.fill0)
    rw [Launch.admits_selectMethod X.admits]; exact q4
  have hselF : selectMethod e.platform s.vm P1.m.cls T.fill = .method T.fill := by
    obtain ⟨c2, r2, m2, q1, q2, q3, q4, -⟩ := Cond.selects_spec (a' (.selects cls Bundle.tFill Bundle.tFill) (by simp [jatN0]))
    cases Option.some.inj (q1.symm.trans hfound)
    cases Option.some.inj (q2.symm.trans (State.methodFound?_of_named Y.fill (by decide)))
    cases Option.some.inj (q3.symm.trans Y.fill)
    rw [Launch.admits_selectMethod X.admits]; exact q4
  obtain ⟨cellS0, hcS0, hiss⟩ := Y.statics
  obtain ⟨u0, hu0⟩ := Cond.staticRefV Y.unassigned L.unassignedStatic L.statics hcS0 hiss (a' (.isRef (.static Bundle.tN "UNASSIGNED_STACK" Bundle.steD)) (by simp [jatN0]))
  obtain ⟨sen, hsen⟩ := Cond.staticRefV Y.sentinel L.sentinelStatic L.statics hcS0 hiss (a' (.isRef (.static Bundle.tN "SUPPRESSED_SENTINEL" Bundle.listD)) (by simp [jatN0]))
  obtain ⟨ci198, i198, fB, hk198, hg198, ha198, hsB, -, hnB, htB, hffB⟩ := Cond.ownField (t := .object "java/lang/Object") Y.found L.cls (by decide +kernel) (a' (.fieldLink Bundle.tN 198 Bundle.tN "backtrace" "Ljava/lang/Object;") (by simp [jatN0])) (a' (.lays Bundle.tN Bundle.tN "backtrace" "Ljava/lang/Object;") (by simp [jatN0])) e.platform hpl
  obtain ⟨cellS, hcS', heS, -, hkeep⟩ := X.same.2.2.2.2.2 T.aS cellS0 hcS0
  have hcellS : W9.heap[T.aS]? = some cellS := hcS'
  have hout' : ∀ i, (⟨T.aS, i⟩ : Loc) ∉ locs := fun i hmem => by
    have := hlocs _ hmem cellS0 hcS0
    rw [hiss] at this; cases this
  have hknownS : cellS.vm ≠ .unknown := by
    rw [heS]; intro hu
    rw [show cellS0.vm = .unknown from hu] at hiss
    cases hiss
  have hneS : T.aS ≠ a := Nat.ne_of_lt (Nat.lt_of_lt_of_le (Array.getElem?_eq_some_iff.mp hcS0).1 hnew)
  obtain ⟨iM, hffM⟩ := Y.msg
  obtain ⟨tyC, dC, hdC, hdnC⟩ := Cond.laysAt hfound hk Y.cause (a' (.lays cls Bundle.tN "cause" "Ljava/lang/Throwable;") (by simp [jatN0]))
  obtain ⟨tyS, dS, hdS, hdnS⟩ := Cond.laysAt hfound hk Y.stack (a' (.lays cls Bundle.tN "stackTrace" Bundle.steD) (by simp [jatN0]))
  obtain ⟨tyP, dP, hdP, hdnP⟩ := Cond.laysAt hfound hk Y.supp (a' (.lays cls Bundle.tN "suppressedExceptions" Bundle.listD) (by simp [jatN0]))
  obtain ⟨tyM, dM, hdM, hdnM⟩ := Cond.laysAt hfound hk hffM (a' (.lays cls Bundle.tN "detailMessage" "Ljava/lang/String;") (by simp [jatN0]))
  obtain ⟨tyB, dB, hdB, hdnB⟩ := Cond.laysAt hfound hk hffB (a' (.lays cls Bundle.tN "backtrace" "Ljava/lang/Object;") (by simp [jatN0]))
  have bC := Cond.laysApart hdB hdC hdnB hdnC (by rw [hnB, Y.causeName]; decide)
  have bS := Cond.laysApart hdB hdS hdnB hdnS (by rw [hnB, Y.stackName]; decide)
  have bP := Cond.laysApart hdB hdP hdnB hdnP (by rw [hnB, Y.suppName]; decide)
  have hskip : SkipFacts T e.platform s (fun u => u) u0 ((preparedCellV T.toThrowableT (freshCell P1.m.cls kX) a u0 sen).withEntry W9.cur) :=
    ⟨{ ci198 := ci198, i198 := i198, fBack := fB }, ⟨hk198, hg198, ha198, hsB⟩, by
      have := fresh_default (c := P1.m.cls) tyB
      rw [htB] at this
      simpa [preparedCellV, Cell.setSlot, Cell.withEntry, Array.getElem?_setIfInBounds, bC, bS, bP, bC.symm, bS.symm, bP.symm, defaultValue] using this, fun _ _ => rfl⟩
  obtain ⟨tm, methC, cdC, kC, vm₁, hnC, -, -, -, -, -, -, -, hW₁, st1⟩ := Steps.initColdS (tb := p.tables) (e := e) (below := below) (s := s) (U := W9) X.here hexec X.warmed hpl hown (t := Bundle.initS cls) rfl rfl (Bundle.fit_spec hcls).2
    (a' (.methodLink own ic (Bundle.initS cls)) (by simp [jatN0])) (h (.instanceMethod (Bundle.initS cls)) (by simp [jatN0, Bundle.passSAtoms])) (bytes := jnsi) (maxL := 2) (h (.code (Bundle.initS cls) jnsi 2 none) (by simp [jatN0, Bundle.passSAtoms]))
    (f := g) hg (a := a) (msg := msg) (rest := .ref a :: rest) hstack hd6
  cases Option.some.inj (hnC.symm.trans hP1m)
  have X₁ := X.noted hW₁
  obtain ⟨vm₂, X₂, st2⟩ := X₁.ctorMessageOffV hexec (g := { g with stack := .ref a :: rest }) hg hsize T L Z LZ M LM (P1 :: P2 :: Ps)
    (fun P hP => by
      rcases List.mem_cons.mp hP with rfl | hP
      · exact L1
      · rcases List.mem_cons.mp hP with rfl | hP
        · exact L2
        · exact hL P hP) ⟨hlink1, hsup, hpass⟩ (u0 := u0) (sen := sen) (self := a) hmsg (cell := freshCell P1.m.cls kX) (cellS := cellS)
    hcell (fun _ => by simp) (by simp) rfl rfl hsel0 hselF hcellS hneS hknownS (by rw [hkeep _ (hout' _)]; exact hu0) (by rw [hkeep _ (hout' _)]; exact hsen)
    (Takes.of_laid hk hord tyC (by rw [Y.causeType]; rfl)) (Takes.of_laid hk hord tyS (by rw [Y.stackType]; exact fits_refV_array _ u0)) (Takes.of_laid hk hord tyP (by rw [Y.suppType]; exact fits_refV_object _ sen))
    (Takes.of_laid hk hord tyM (by rw [Y.msgType]; exact fits_refV_object _ ⟨msg, hmsg⟩)) Y.objLocals hskip htr [] hd6
    (by simp only [List.length_cons, hlen1]; omega) (by simp only [List.length_cons, hlen1]; exact hRlocals)
  obtain ⟨hwalk, hrun, hended, hWU, hsame⟩ := X₂.athrowLeaves hexec (g := { g with stack := .ref a :: rest, pc := g.pc + 3 }) hg hlocked hentered hout (a := a) (rest := rest) rfl hd9
  have hlt : a < ((W9.setVm vm₁).setVm vm₂).heap.size := (Array.getElem?_eq_some_iff.mp hcell).1
  have hU := heapAt_setCell_self (s := (W9.setVm vm₁).setVm vm₂) (plainBareV T.toThrowableT (freshCell P1.m.cls kX) a u0 sen msg) hlt
  refine ⟨_, st1 _ (fun acts => ?_), hrun, hended, hWU, hsame.weaken (fun y hy hlt' => ?_) (Nat.le_refl _) (Nat.le_refl _), _, hU, hfound, rfl⟩
  · rw [doInvoke_state]
    exact st2 _ hwalk
  · rcases List.mem_append.mp hy with h1 | h1
    · exact h1
    · exfalso
      have hb : y.base = a := by
        simp only [List.mem_cons, List.not_mem_nil, or_false] at h1
        rcases h1 with rfl | rfl | rfl | rfl | rfl <;> rfl
      rw [hb] at hlt'
      exact Nat.not_lt.mpr hnew hlt'
end JTN
/-! the rows -/
section JTM
variable {p : Program} {l : Launch} {e : Env} {R : Room} {s : State} {m : MethodId} {args : Array Value} {below : List Frame} {meth : Method} {c : Code} {H : Heap} {locs : List Loc} {cells slots : Nat} {Qc : Array Value → State → Outcome → State → Prop} {XC : String → State → State → Prop} {free : Addr → Prop} {cc : ByteArray} {pc : Nat} {ls : Array Slot} {rest : List Value}
theorem jx_throwN (hexec : p.tables.exec = Jvm.exec) (hb : c.code = cc) (hl : l.stackTraces = false) {own cls text : String} {ik is ic mc ms sa : Nat} {A : Nat → Prop}
    (hown : s.vm.findClass own = some m.cls) (hcls : Bundle.fit cls = true)
    (hk : (Cond.classLink own ik cls).before args s = true) (hini : (Cond.initialized cls).before args s = true) (hstr : vk_R own is text sa s) (hat : ∀ w ∈ jatN own ic cls, w.before args s = true)
    (hgood : ∀ w ∈ Cond.classLink own ik cls :: Cond.initialized cls :: jatN own ic cls, vx_ot w = true)
    (hU : vx_Zq Bundle.tN "UNASSIGNED_STACK" Bundle.steD A s s.heap) (hN : vx_Zq Bundle.tN "SUPPRESSED_SENTINEL" Bundle.listD A s s.heap) (hS : va_S A s.heap H locs) (hsize : ls.size = c.maxLocals)
    (d0 : decode cc pc = .ok (.new ik, 3)) (d3 : decode cc (pc + 3) = .ok (.dup, 1)) (d4 : decode cc (pc + 4) = .ok (.ldc is, 2)) (d6 : decode cc (pc + 6) = .ok (.invokespecial ic, 3)) (d9 : decode cc (pc + 9) = .ok (.athrow, 1))
    (hout : ∀ x ∈ c.exceptionTable.toList, covers x (pc + 9) = false)
    (hRframes : 5 < R.frames) (hRlocals : (rest.map fun v => v.category).sum + 82 ≤ R.locals) (hRcells : cells + 1 ≤ R.cells) (hRslots : slots + 6 ≤ R.slots) (hlocks : meth.locks = false)
    (hx : ∀ t : State, s.vm.Alike t.vm → H.size ≤ t.heap.size → (∀ q : Nat, q < H.size → t.heap[q]? = H[q]?) → XC cls s t)
    (hf : ∀ z ∈ locs, free z.base) (hc : cells + 1 ≤ mc) (hs : slots + 6 ≤ ms) :
    W p l e R s m args below meth c H locs cells slots (vx_MQ below Qc XC args s mc ms free) (F0 m pc ls rest) := by
  intro T hT X
  have htr : e.platform.stackTraces = false := (show e.platform.stackTraces = l.stackTraces by rw [X.admits.platform]).trans hl
  have Y := vx_rebase X (R' := { frames := R.frames, locals := R.locals, cells := 1, slots := 6 }) (Nat.le_refl _) (Nat.le_refl _) hRcells hRslots
  obtain ⟨s', hA⟩ : ∃ z, z = (T.setVm s.vm).setFrames (.invoking m args :: below) := ⟨_, rfl⟩
  rw [← hA] at Y
  have hvm : s'.vm = s.vm := by rw [hA]; rfl
  have hhp : s'.heap = H := by rw [hA]; exact hT
  have hW0 : s.WarmedH s'.vm := by rw [hvm]; exact State.WarmedH.refl s
  have hat' : ∀ w ∈ (jatN0 own ic cls).filter vx_no, w.before args s' = true := fun w hw => vx_ot_at hW0 hvm.symm (hgood w (List.mem_cons_of_mem _ (List.mem_cons_of_mem _ hw))) (hat w hw)
  have hk' : (Cond.classLink own ik cls).before args s' = true := vx_ot_at hW0 hvm.symm (hgood _ List.mem_cons_self) hk
  have hini' : (Cond.initialized cls).before args s' = true := vx_ot_at hW0 hvm.symm (hgood _ (List.mem_cons_of_mem _ List.mem_cons_self)) hini
  have hU' : vx_Zq Bundle.tN "UNASSIGNED_STACK" Bundle.steD A s' s'.heap := by rw [hhp]; exact vx_Zq.moved hW0.alike (hU.kept hS.2.1)
  have hN' : vx_Zq Bundle.tN "SUPPRESSED_SENTINEL" Bundle.listD A s' s'.heap := by rw [hhp]; exact vx_Zq.moved hW0.alike (hN.kept hS.2.1)
  have h : ∀ w ∈ jatN0 own ic cls, w.before args s' = true := vx_own hat' (vx_isRefq hU'.1) (vx_isRefq hN'.1) hU'.2.word hN'.2.word
  have hown' : s'.vm.findClass own = some m.cls := by rw [hvm]; exact hown
  have hins : (Cond.instantiable cls 6).before args s' = true := h _ (by simp [jatN0])
  obtain ⟨vm₁, cX, kX, hfX, hkX, -, -, X₁, st1⟩ := Y.newCold hexec (own := own) (C := cls) (index := ik) (n := 6) hown' hk' hins hini'
    (g := F0 m pc ls rest) rfl (by rw [hb]; exact d0) (Nat.le_refl _) (Nat.le_refl _)
  generalize hT1 : (T.setVm vm₁).pushCell { cls := cX, slots := kX.instanceTypes.map defaultValue, vm := .none } = T1 at X₁ st1
  have hcat : (Value.ref T.heap.size).category = 1 := rfl
  have hcellA : T1.heap[T.heap.size]? = some (freshCell cX kX) := by rw [← hT1]; exact State.heap_pushCell_size _ _
  have d3' : decode c.code (pc + 3) = .ok (.dup, 1) := by rw [hb]; exact d3
  have d4' : decode c.code (pc + 4) = .ok (.ldc is, 2) := by rw [hb]; exact d4
  have hstr' : vk_R own is text sa s' := vk_R.warm hW0 hstr
  obtain ⟨U, hsteps, hrun, hend, hW, hsame, ce, hce, hcl0, hcv⟩ := jctorN X₁ hexec htr (own := own) (cls := cls) (ic := ic) hown' hcls h (fun x hx => nomatch hx) hfX hkX hcellA (by rw [hhp, hT]; exact Nat.le_refl _) (msg := .ref sa) rfl
    (g := { method := m, pc := pc + 6, locals := ls, stack := .ref sa :: .ref T.heap.size :: .ref T.heap.size :: rest, locked := none }) rfl hsize rfl rfl (rest := rest) rfl
    (by rw [hb]; exact d6) (by rw [hb]; exact d9) hout hRframes (by simp only [List.map_cons, List.sum_cons, hcat]; omega) hlocks
  obtain ⟨f1, f2⟩ := vx_frame hsame
  rw [hhp] at f1 f2
  have hWs : s.WarmedH U.vm := State.WarmedH.trans hW0 hW
  have hcl : s.vm.findClass cls = some ce.cls := by
    rw [hvm] at hcl0
    exact hcl0
  have hall : s.sameButNew ({ U with vm := s.vm } : State) locs mc ms := by
    subst hA
    obtain ⟨e1, e2⟩ := hsame
    rw [State.setFrames_setFrames] at e1
    have h2 : (T.setVm s.vm).sameButNew ({ U with vm := s.vm } : State) [] (0 + 1) (0 + 6) := ⟨e1, e2⟩
    have h3 := X.same.trans h2
    rw [List.append_nil] at h3
    exact h3.mono hc hs
  refine ⟨U, ?_, .threw T.heap.size, hrun, hend, Or.inr ⟨T.heap.size, rfl, cls, ce, locs, hx U hWs.alike f1 (fun q hq => f2 q hq (fun z hz => nomatch hz)), hce, hcv, hcl, hWs, hall, hf⟩⟩
  refine st1 _ ?_
  show Steps p.tables e below (T1.setTop { method := m, pc := pc + 3, locals := ls, stack := .ref T.heap.size :: rest, locked := none }) _
  jvm_step X₁.here [X₁.here.top, hexec, d3', Value.category]
  exact X₁.ldcString hexec (own := own) (text := text) (index := is) (a := sa) hown' hstr'.1 hstr'.2
    (g := { method := m, pc := pc + 4, locals := ls, stack := .ref T.heap.size :: .ref T.heap.size :: rest, locked := none }) rfl d4' _ hsteps
theorem jx_throwNW (hexec : p.tables.exec = Jvm.exec) (hb : c.code = cc) (hl : l.stackTraces = false) {own cls text : String} {ik is ic mc ms sa : Nat} {A : Nat → Prop}
    (hown : s.vm.findClass own = some m.cls) (hcls : Bundle.fit cls = true)
    (hk : (Cond.classLink own ik cls).before args s = true) (hini : (Cond.initialized cls).before args s = true) (hstr : vk_R own is text sa s) (hat : ∀ w ∈ jatN own ic cls, w.before args s = true)
    (hgood : ∀ w ∈ Cond.classLink own ik cls :: Cond.initialized cls :: jatN own ic cls, vx_ot w = true)
    (hU : vx_Zq Bundle.tN "UNASSIGNED_STACK" Bundle.steD A s s.heap) (hN : vx_Zq Bundle.tN "SUPPRESSED_SENTINEL" Bundle.listD A s s.heap) (hS : va_S A s.heap H locs) (hsize : ls.size = c.maxLocals)
    (d0 : decode cc pc = .ok (.new ik, 3)) (d3 : decode cc (pc + 3) = .ok (.dup, 1)) (d4 : decode cc (pc + 4) = .ok (.ldc_w is, 3)) (d6 : decode cc (pc + 7) = .ok (.invokespecial ic, 3)) (d9 : decode cc (pc + 10) = .ok (.athrow, 1))
    (hout : ∀ x ∈ c.exceptionTable.toList, covers x (pc + 10) = false)
    (hRframes : 5 < R.frames) (hRlocals : (rest.map fun v => v.category).sum + 82 ≤ R.locals) (hRcells : cells + 1 ≤ R.cells) (hRslots : slots + 6 ≤ R.slots) (hlocks : meth.locks = false)
    (hx : ∀ t : State, s.vm.Alike t.vm → H.size ≤ t.heap.size → (∀ q : Nat, q < H.size → t.heap[q]? = H[q]?) → XC cls s t)
    (hf : ∀ z ∈ locs, free z.base) (hc : cells + 1 ≤ mc) (hs : slots + 6 ≤ ms) :
    W p l e R s m args below meth c H locs cells slots (vx_MQ below Qc XC args s mc ms free) (F0 m pc ls rest) := by
  intro T hT X
  have htr : e.platform.stackTraces = false := (show e.platform.stackTraces = l.stackTraces by rw [X.admits.platform]).trans hl
  have Y := vx_rebase X (R' := { frames := R.frames, locals := R.locals, cells := 1, slots := 6 }) (Nat.le_refl _) (Nat.le_refl _) hRcells hRslots
  obtain ⟨s', hA⟩ : ∃ z, z = (T.setVm s.vm).setFrames (.invoking m args :: below) := ⟨_, rfl⟩
  rw [← hA] at Y
  have hvm : s'.vm = s.vm := by rw [hA]; rfl
  have hhp : s'.heap = H := by rw [hA]; exact hT
  have hW0 : s.WarmedH s'.vm := by rw [hvm]; exact State.WarmedH.refl s
  have hat' : ∀ w ∈ (jatN0 own ic cls).filter vx_no, w.before args s' = true := fun w hw => vx_ot_at hW0 hvm.symm (hgood w (List.mem_cons_of_mem _ (List.mem_cons_of_mem _ hw))) (hat w hw)
  have hk' : (Cond.classLink own ik cls).before args s' = true := vx_ot_at hW0 hvm.symm (hgood _ List.mem_cons_self) hk
  have hini' : (Cond.initialized cls).before args s' = true := vx_ot_at hW0 hvm.symm (hgood _ (List.mem_cons_of_mem _ List.mem_cons_self)) hini
  have hU' : vx_Zq Bundle.tN "UNASSIGNED_STACK" Bundle.steD A s' s'.heap := by rw [hhp]; exact vx_Zq.moved hW0.alike (hU.kept hS.2.1)
  have hN' : vx_Zq Bundle.tN "SUPPRESSED_SENTINEL" Bundle.listD A s' s'.heap := by rw [hhp]; exact vx_Zq.moved hW0.alike (hN.kept hS.2.1)
  have h : ∀ w ∈ jatN0 own ic cls, w.before args s' = true := vx_own hat' (vx_isRefq hU'.1) (vx_isRefq hN'.1) hU'.2.word hN'.2.word
  have hown' : s'.vm.findClass own = some m.cls := by rw [hvm]; exact hown
  have hins : (Cond.instantiable cls 6).before args s' = true := h _ (by simp [jatN0])
  obtain ⟨vm₁, cX, kX, hfX, hkX, -, -, X₁, st1⟩ := Y.newCold hexec (own := own) (C := cls) (index := ik) (n := 6) hown' hk' hins hini'
    (g := F0 m pc ls rest) rfl (by rw [hb]; exact d0) (Nat.le_refl _) (Nat.le_refl _)
  generalize hT1 : (T.setVm vm₁).pushCell { cls := cX, slots := kX.instanceTypes.map defaultValue, vm := .none } = T1 at X₁ st1
  have hcat : (Value.ref T.heap.size).category = 1 := rfl
  have hcellA : T1.heap[T.heap.size]? = some (freshCell cX kX) := by rw [← hT1]; exact State.heap_pushCell_size _ _
  have d3' : decode c.code (pc + 3) = .ok (.dup, 1) := by rw [hb]; exact d3
  have d4' : decode c.code (pc + 4) = .ok (.ldc_w is, 3) := by rw [hb]; exact d4
  have hstr' : vk_R own is text sa s' := vk_R.warm hW0 hstr
  obtain ⟨U, hsteps, hrun, hend, hW, hsame, ce, hce, hcl0, hcv⟩ := jctorN X₁ hexec htr (own := own) (cls := cls) (ic := ic) hown' hcls h (fun x hx => nomatch hx) hfX hkX hcellA (by rw [hhp, hT]; exact Nat.le_refl _) (msg := .ref sa) rfl
    (g := { method := m, pc := pc + 7, locals := ls, stack := .ref sa :: .ref T.heap.size :: .ref T.heap.size :: rest, locked := none }) rfl hsize rfl rfl (rest := rest) rfl
    (by rw [hb]; exact d6) (by rw [hb]; exact d9) hout hRframes (by simp only [List.map_cons, List.sum_cons, hcat]; omega) hlocks
  obtain ⟨f1, f2⟩ := vx_frame hsame
  rw [hhp] at f1 f2
  have hWs : s.WarmedH U.vm := State.WarmedH.trans hW0 hW
  have hcl : s.vm.findClass cls = some ce.cls := by
    rw [hvm] at hcl0
    exact hcl0
  have hall : s.sameButNew ({ U with vm := s.vm } : State) locs mc ms := by
    subst hA
    obtain ⟨e1, e2⟩ := hsame
    rw [State.setFrames_setFrames] at e1
    have h2 : (T.setVm s.vm).sameButNew ({ U with vm := s.vm } : State) [] (0 + 1) (0 + 6) := ⟨e1, e2⟩
    have h3 := X.same.trans h2
    rw [List.append_nil] at h3
    exact h3.mono hc hs
  refine ⟨U, ?_, .threw T.heap.size, hrun, hend, Or.inr ⟨T.heap.size, rfl, cls, ce, locs, hx U hWs.alike f1 (fun q hq => f2 q hq (fun z hz => nomatch hz)), hce, hcv, hcl, hWs, hall, hf⟩⟩
  refine st1 _ ?_
  show Steps p.tables e below (T1.setTop { method := m, pc := pc + 3, locals := ls, stack := .ref T.heap.size :: rest, locked := none }) _
  jvm_step X₁.here [X₁.here.top, hexec, d3', Value.category]
  exact X₁.ldcStringW hexec (own := own) (text := text) (index := is) (a := sa) hown' hstr'.1 hstr'.2
    (g := { method := m, pc := pc + 4, locals := ls, stack := .ref T.heap.size :: .ref T.heap.size :: rest, locked := none }) rfl d4' _ hsteps
end JTM
section JGN
variable {G : jG} {l : Launch} {M : jM} {dep : Nat} {X : jX} {h : jH} {kc ks pc : Nat} {L : List (Option Value)} {st : List Value} {P : jR → jH → Prop}
theorem jr_throwN (hst : l.stackTraces = false) (K : jOK G l M (dep + 6) X) (En : jEnd G M P X) {ik is ic i k : Nat} {E tx : String} {bs : List Int32} (d0 : decode M.2.1 pc = .ok (.new ik, 3)) (d3 : decode M.2.1 (pc + 3) = .ok (.dup, 1)) (d4 : decode M.2.1 (pc + 4) = .ok (.ldc is, 2)) (d6 : decode M.2.1 (pc + 6) = .ok (.invokespecial ic, 3)) (d9 : decode M.2.1 (pc + 9) = .ok (.athrow, 1))
    (hT : jThN M.1.cls ik ic E) (hx9 : jtxt[i]? = some (M.1.cls, is, tx, bs)) (hh : M.2.2.2.2 = []) (hk : jexn[k]? = some E) (hrm : (st.map fun v => v.category).sum ≤ 8) (hkc : 1 ≤ kc) (hks : 6 ≤ ks) (hP : P (.inr k) h) : jJ G X h kc ks pc L st := by
  obtain ⟨p, l9, e, R, s, m, args, below, meth, c, mc, ms, Q⟩ := X
  obtain ⟨hx, hb, hml, hr, hown, hts, hlk, hin, hE, hbs, hd1, hd2, hd3, hd4, rfl, hxt⟩ := K
  subst En
  intro H locs cells slots ls hR hS hc1 hc2 hc hl
  obtain ⟨t1, t2, t3, t4, t5⟩ := hT
  exact jx_throwN (A := jA G) hx hb hst hown t5 (hts _ t1) (hts _ t2) (hE.2.2.2.2.2.2.2.2.2.2 i _ hx9).1 (fun w hw => jtab hts hE (t3 w hw)) t4 hE.2.1 hE.2.2.1 hS hl.1 d0 d3 d4 d6 d9 (by rw [hxt, hh]; intro x hx; cases hx) (by omega) (by omega) (by omega) (by omega) hlk (jthrown hR hS hk hP) hS.2.2 (by omega) (by omega)
theorem jr_throwNW (hst : l.stackTraces = false) (K : jOK G l M (dep + 6) X) (En : jEnd G M P X) {ik is ic i k : Nat} {E tx : String} {bs : List Int32} (d0 : decode M.2.1 pc = .ok (.new ik, 3)) (d3 : decode M.2.1 (pc + 3) = .ok (.dup, 1)) (d4 : decode M.2.1 (pc + 4) = .ok (.ldc_w is, 3)) (d6 : decode M.2.1 (pc + 7) = .ok (.invokespecial ic, 3)) (d9 : decode M.2.1 (pc + 10) = .ok (.athrow, 1))
    (hT : jThN M.1.cls ik ic E) (hx9 : jtxt[i]? = some (M.1.cls, is, tx, bs)) (hh : M.2.2.2.2 = []) (hk : jexn[k]? = some E) (hrm : (st.map fun v => v.category).sum ≤ 8) (hkc : 1 ≤ kc) (hks : 6 ≤ ks) (hP : P (.inr k) h) : jJ G X h kc ks pc L st := by
  obtain ⟨p, l9, e, R, s, m, args, below, meth, c, mc, ms, Q⟩ := X
  obtain ⟨hx, hb, hml, hr, hown, hts, hlk, hin, hE, hbs, hd1, hd2, hd3, hd4, rfl, hxt⟩ := K
  subst En
  intro H locs cells slots ls hR hS hc1 hc2 hc hl
  obtain ⟨t1, t2, t3, t4, t5⟩ := hT
  exact jx_throwNW (A := jA G) hx hb hst hown t5 (hts _ t1) (hts _ t2) (hE.2.2.2.2.2.2.2.2.2.2 i _ hx9).1 (fun w hw => jtab hts hE (t3 w hw)) t4 hE.2.1 hE.2.2.1 hS hl.1 d0 d3 d4 d6 d9 (by rw [hxt, hh]; intro x hx; cases hx) (by omega) (by omega) (by omega) (by omega) hlk (jthrown hR hS hk hP) hS.2.2 (by omega) (by omega)
end JGN
end
section
/-! a method of a class that has entries, itself none -/
section JF
variable {G : jG} {l : Launch} {dep : Nat} {h : jH}
theorem jx_ofF {y : MethodName} {ws ws' : List Cond} {rm : Room} {Pc : Array Value → State → Prop} {Qc : Array Value → State → Outcome → State → Prop} {XC : String → State → State → Prop} {mc ms : Nat} {free : Addr → Prop} {cc : ByteArray} {maxL : Nat} {ret : Option FieldType}
    (hy : plainFor y = true) (hw : ws = Cond.code y cc maxL ret :: ws')
    (body : ∀ p e s m args below meth c s₁, BodyLoose p l y (headSpec ws rm) cc maxL ret e s m args below meth c s₁ → c.maxLocals = maxL → (∀ x ∈ c.exceptionTable.toList, False) → Pc args s →
      W p l e (headSpec ws rm).room s m args below meth c s.heap [] 0 0 (vx_MQ below Qc XC args s mc ms free) (entryFrame m args maxL)) : vx_Met l y ws rm Pc Qc XC mc ms free := by
  refine MetFree.of_bodySF (code := cc) (maxLocals := maxL) (ret := ret) hy ?_ ?_
  · intro args s m h hn
    obtain ⟨meth, c, h1, h2, h3, h4, h5, h6, -, -⟩ := Cond.code_spec hn (atoms_spec (ws := ws) h _ (by rw [hw]; exact List.mem_cons_self))
    exact ⟨meth, c, h1, h2, h3, h4, h5, h6⟩
  · intro p e s m args below meth c s₁ B hml hP _
    have hh0 : s₁.heap = s.heap := by rw [B.state]; rfl
    have ht : ∀ x ∈ c.exceptionTable.toList, False := by
      obtain ⟨meth9, c9, h1, h2, -, -, -, -, h7, -⟩ := Cond.code_spec B.named (atoms_spec (ws := ws) B.pre _ (by rw [hw]; exact List.mem_cons_self))
      cases Option.some.inj (h1.symm.trans B.method)
      cases Option.some.inj (h2.symm.trans (Stand.of_body B).code)
      intro x hx
      rw [Array.isEmpty_iff.mp h7] at hx
      cases hx
    obtain ⟨t, a1, o, b1, b2, b3⟩ := body p e s m args below meth c s₁ B hml ht hP s₁ hh0 (Stand.of_body B)
    exact ⟨t, o, a1, b1, b2, b3⟩
theorem jC.ofF {y : MethodName} {cc : ByteArray} {nL : Nat} {ret : Option FieldType} {mc ms : Nat} {av : List Value} {P : jR → jH → Prop} (hy : plainFor y = true) (hcat : ∀ v ∈ av, v.category = 1) (hlen : av.length ≤ nL)
    (body : ∀ X : jX, jOK G l (y, cc, nL, ret, []) dep X → jEnd G (y, cc, nL, ret, []) P X → jJ G X h mc ms 0 (jL0 nL av) []) : jC G l (y, cc, nL, ret, []) dep mc ms av h P := by
  refine jx_ofF (cc := cc) (maxL := nL) (ret := ret) (ws' := jall) hy rfl ?_
  intro p e s m args below meth c s₁ B hml ht hv
  have hxt : c.exceptionTable.toList = tableOf [] := by
    cases hq : c.exceptionTable.toList with
    | nil => rfl
    | cons z zs => exact (ht z (by rw [hq]; exact List.mem_cons_self)).elim
  obtain ⟨rfl, hR, hE, hbase⟩ := hv
  have hws := atoms_spec (ws := jws (y, cc, nL, ret, [])) B.pre
  rw [lg_entry_eq]
  have hl := lv_entry av (n := nL) (by rw [lg_sl1 av hcat]; exact hlen)
  generalize (lg_sl av ++ List.replicate (nL - (lg_sl av).length) Slot.unset).toArray = ls at hl ⊢
  rw [← jlv_app av 0 (nL - av.length) hcat] at hl
  exact body (p, l, e, jrm dep mc ms, s, m, av.toArray, below, meth, c, mc, ms, _) ⟨B.exec, B.bytes, hml, B.returns, findClass_of_methodNamed B.named, fun w hw => hws w (List.mem_cons_of_mem _ hw), B.notSynchronized, (name_of_methodNamed B.named B.method).1, hE, hbase, Nat.le_refl _, Nat.le_refl _, Nat.le_refl _, Nat.le_refl _, rfl, hxt⟩ rfl
    s.heap [] 0 0 ls hR va_S.rf (by omega) (by omega) (jcat_L0 hcat) (by rw [hml]; exact hl)
end JF
/-! length() and charAt of a text -/
theorem jchr {v : Int32} (h0 : 0 ≤ v) (h1 : v < 128) : v &&& 255 = v ∧ narrow .char (.int v) = .int v ∧ (v.toUInt32 % 65536).toInt32 = v := by
  have h : ∀ n : Fin 128, (Int32.ofNat n.val) &&& 255 = Int32.ofNat n.val ∧ narrow .char (.int (Int32.ofNat n.val)) = .int (Int32.ofNat n.val) ∧ ((Int32.ofNat n.val).toUInt32 % 65536).toInt32 = Int32.ofNat n.val := by decide +kernel
  have e : v = Int32.ofNat v.toInt.toNat := by
    rw [Int32.le_iff_toInt_le] at h0
    have h3 : (0 : Int32).toInt = 0 := rfl
    apply Int32.toInt_inj.mp
    have h4 : v.toInt < 128 := by
      rw [Int32.lt_iff_toInt_lt] at h1
      exact h1
    rw [Int32.toInt_ofNat_of_lt (by omega), Int.toNat_of_nonneg (by omega)]
  have h2 : v.toInt.toNat < 128 := by
    rw [Int32.lt_iff_toInt_lt] at h1
    have : (128 : Int32).toInt = 128 := rfl
    omega
  have := h ⟨_, h2⟩
  rw [← e] at this
  exact this
section JX
variable {G : jG} {l : Launch} {M : jM} {dep : Nat} {X : jX} {h h1 : jH} {kc ks pc : Nat} {L : List (Option Value)} {st : List Value}
theorem jtxt_get {t : Nat} (ht : t < 36) : ∃ x, jtxt[t]? = some x ∧ x.2.2.2 = jtb t := by
  have h : t < jtxt.length := ht
  exact ⟨jtxt[t], List.getElem?_eq_getElem h, by unfold jtb; rw [List.getD_eq_getElem?_getD, List.getElem?_eq_getElem h]; rfl⟩
theorem jr_tval (K : jOK G l M dep X) {index t : Nat} (hd : decode M.2.1 pc = .ok (.getfield index, 3)) (hw : Cond.fieldLink M.1.cls index "java/lang/String" "value" "[B" ∈ jall) (ht : t < 36) (kk : jJ G X h kc ks (pc + 3) L (.ref (G.2.2.2 (11 + 2 * t)) :: st)) : jJ G X h kc ks pc L (.ref (G.2.2.2 (10 + 2 * t)) :: st) := by
  obtain ⟨x, hx9, -⟩ := jtxt_get ht
  obtain ⟨p, l9, e, R, s, m, args, below, meth, c, mc, ms, Q⟩ := X
  obtain ⟨hx, hb, hml, hr, hown, hts, hlk, hin, hE, hbs, hd1, hd2, hd3, hd4, rfl, hxt⟩ := K
  intro H locs cells slots ls hR hS hc1 hc2 hc hl
  exact vk_getf hx hb ((hE.2.2.2.2.2.2.2.2.2.2 t _ hx9).2.1 0 Nat.one_pos).2.2.1 hS hown (hts _ hw) (fun _ q => q) hd (kk H locs cells slots ls hR hS hc1 hc2 hc hl)
theorem jr_tcod (K : jOK G l M dep X) {index t : Nat} (hd : decode M.2.1 pc = .ok (.getfield index, 3)) (hw : Cond.fieldLink M.1.cls index "java/lang/String" "coder" "B" ∈ jall) (ht : t < 36) (kk : jJ G X h kc ks (pc + 3) L (.int 0 :: st)) : jJ G X h kc ks pc L (.ref (G.2.2.2 (10 + 2 * t)) :: st) := by
  obtain ⟨x, hx9, -⟩ := jtxt_get ht
  obtain ⟨p, l9, e, R, s, m, args, below, meth, c, mc, ms, Q⟩ := X
  obtain ⟨hx, hb, hml, hr, hown, hts, hlk, hin, hE, hbs, hd1, hd2, hd3, hd4, rfl, hxt⟩ := K
  intro H locs cells slots ls hR hS hc1 hc2 hc hl
  exact vk_getf hx hb ((hE.2.2.2.2.2.2.2.2.2.2 t _ hx9).2.1 0 Nat.one_pos).2.1 hS hown (hts _ hw) (fun _ q => q) hd (kk H locs cells slots ls hR hS hc1 hc2 hc hl)
theorem jr_tcs (K : jOK G l M dep X) {index : Nat} (hd : decode M.2.1 pc = .ok (.getstatic index, 3)) (hw : Cond.fieldLink M.1.cls index "java/lang/String" "COMPACT_STRINGS" "Z" ∈ jall) (kk : jJ G X h kc ks (pc + 3) L (.int 1 :: st)) : jJ G X h kc ks pc L st := by
  obtain ⟨p, l9, e, R, s, m, args, below, meth, c, mc, ms, Q⟩ := X
  obtain ⟨hx, hb, hml, hr, hown, hts, hlk, hin, hE, hbs, hd1, hd2, hd3, hd4, rfl, hxt⟩ := K
  intro H locs cells slots ls hR hS hc1 hc2 hc hl
  exact va_gets hx hb hE.2.2.2.2.2.2.2.1 hS hown (hts _ hw) (fun _ q => q) hd (kk H locs cells slots ls hR hS hc1 hc2 hc hl)
theorem jr_tfm (K : jOK G l M dep X) {index : Nat} (hd : decode M.2.1 pc = .ok (.getstatic index, 3)) (hw : Cond.fieldLink M.1.cls index "jdk/internal/util/Preconditions" "SIOOBE_FORMATTER" "Ljava/util/function/BiFunction;" ∈ jall) (kk : ∀ v : Value, (v = .null ∨ ∃ a, v = .ref a) → jJ G X h kc ks (pc + 3) L (v :: st)) : jJ G X h kc ks pc L st := by
  obtain ⟨p, l9, e, R, s, m, args, below, meth, c, mc, ms, Q⟩ := X
  obtain ⟨hx, hb, hml, hr, hown, hts, hlk, hin, hE, hbs, hd1, hd2, hd3, hd4, rfl, hxt⟩ := K
  intro H locs cells slots ls hR hS hc1 hc2 hc hl
  rcases hE.2.2.2.2.2.2.2.2.1 with q | ⟨a, q⟩
  · exact va_gets hx hb q hS hown (hts _ hw) (fun _ q => q) hd (kk _ (Or.inl rfl) H locs cells slots ls hR hS hc1 hc2 hc hl)
  · exact va_gets hx hb q hS hown (hts _ hw) (fun _ q => q) hd (kk _ (Or.inr ⟨a, rfl⟩) H locs cells slots ls hR hS hc1 hc2 hc hl)
theorem jr_tlen (K : jOK G l M dep X) {t : Nat} (hd : decode M.2.1 pc = .ok (.arraylength, 1)) (ht : t < 36) (kk : jJ G X h kc ks (pc + 1) L (.int (nI (jtb t).length) :: st)) : jJ G X h kc ks pc L (.ref (G.2.2.2 (11 + 2 * t)) :: st) := by
  obtain ⟨x, hx9, hx8⟩ := jtxt_get ht
  obtain ⟨p, l9, e, R, s, m, args, below, meth, c, mc, ms, Q⟩ := X
  obtain ⟨hx, hb, hml, hr, hown, hts, hlk, hin, hE, hbs, hd1, hd2, hd3, hd4, rfl, hxt⟩ := K
  intro H locs cells slots ls hR hS hc1 hc2 hc hl
  obtain ⟨cell, q1, q2, q3, q4, q5, q6, q7⟩ := ((hE.2.2.2.2.2.2.2.2.2.2 t _ hx9).2.1 0 Nat.one_pos).2.2.2
  rw [← hx8] at kk
  exact W.alen (n := Int32.ofNat _) hx hb (by rw [hS.2.1 _ (Array.getElem?_eq_some_iff.mp q1).1 q7]; exact q1) q2 q5 rfl rfl hd (kk H locs cells slots ls hR hS hc1 hc2 hc hl)
theorem jr_tald (K : jOK G l M dep X) {t : Nat} {i : Int32} (hd : decode M.2.1 pc = .ok (.baload, 1)) (ht : t < 36) (hi : ¬ (i < 0 ∨ (jtb t).length ≤ i.toNatClampNeg)) (kk : jJ G X h kc ks (pc + 1) L (.int ((jtb t).getD i.toNatClampNeg 0) :: st)) : jJ G X h kc ks pc L (.int i :: .ref (G.2.2.2 (11 + 2 * t)) :: st) := by
  obtain ⟨x, hx9, hx8⟩ := jtxt_get ht
  obtain ⟨p, l9, e, R, s, m, args, below, meth, c, mc, ms, Q⟩ := X
  obtain ⟨hx, hb, hml, hr, hown, hts, hlk, hin, hE, hbs, hd1, hd2, hd3, hd4, rfl, hxt⟩ := K
  intro H locs cells slots ls hR hS hc1 hc2 hc hl
  obtain ⟨cell, q1, q2, q3, q4, q5, q6, q7⟩ := ((hE.2.2.2.2.2.2.2.2.2.2 t _ hx9).2.1 0 Nat.one_pos).2.2.2
  rw [← hx8] at kk hi
  have hlt : i.toNatClampNeg < x.2.2.2.length := Nat.not_le.mp fun q => hi (Or.inr q)
  exact W.bald (v := .int (x.2.2.2.getD i.toNatClampNeg 0)) hx hb (by rw [hS.2.1 _ (Array.getElem?_eq_some_iff.mp q1).1 q7]; exact q1) q2 q3 (fun q => q.elim (fun q => hi (Or.inl q)) (fun q => by have q9 : x.2.2.2.length ≤ cell.slots.size := q4; omega)) (q6 _ hlt) rfl rfl hd (kk H locs cells slots ls hR hS hc1 hc2 hc hl)
theorem jr_callT (K : jOK G l M (dep + 1) X) {P : jR → jH → Prop} {index n t : Nat} {As stk : List Value} {y : MethodName} {cc : ByteArray} {nL : Nat} {ret : Option FieldType} (ht : t < 36) (hC : jC G l (y, cc, nL, ret, []) dep 0 0 (.ref (G.2.2.2 (10 + 2 * t)) :: As) h P) (hd : decode M.2.1 pc = .ok (.invokevirtual index, 3)) (hs : jSv M.1.cls index (y, cc, nL, ret, []) n) (hy : y.cls = "java/lang/String") (hn : As.length = n) (hstk : stk = As.reverse ++ .ref (G.2.2.2 (10 + 2 * t)) :: st) (hrm : (st.map fun v => v.category).sum ≤ 8)
    (hnt : ∀ k h1, ¬ P (.inr k) h1) (kk : ∀ r h1, P (.inl r) h1 → jJ G X h1 kc ks (pc + 3) L ((jval ret r).toList ++ st)) : jJ G X h kc ks pc L stk := by
  obtain ⟨x, hx9, -⟩ := jtxt_get ht
  obtain ⟨p, l9, e, R, s, m, args, below, meth, c, mc, ms, Q⟩ := X
  obtain ⟨hx, hb, hml, hr, hown, hts, hlk, hin, hE, hbs, hd1, hd2, hd3, hd4, rfl, hxt⟩ := K
  subst hstk
  intro H locs cells slots ls hR hS hc1 hc2 hc hl
  obtain ⟨s1, s2, s3, s4, s5, s6, s7⟩ := hs
  have cb := callB_of (own := M.1.cls) (index := index) (y := y) (bytes := cc) (maxL := nL) (ret := ret) (ws := jws (y, cc, nL, ret, [])) (ws' := jall) (rm := jrm dep 0 0) (mc := 0) (ms := 0) (R := R) (s := s) (args := args) n hts (jws_good s4) rfl rfl rfl (hts _ s5) (hts _ s1) s6 ⟨by show dep + 1 ≤ R.frames; omega, by show 8 + (nL + 11) + 80 * dep ≤ R.locals; have s8 : 19 + nL ≤ 80 := s7; omega⟩
  refine jr_backX (vx_runV (As := As) (rest := st) (C := y.cls) ⟨hx, hb, rfl, hown, hts⟩ hC ⟨cb, hts _ s2, hts _ s3⟩ ⟨jPc_blind, by rw [hy]; exact vk_recv (i := 0) (hE.2.2.2.2.2.2.2.2.2.2 t _ hx9).2 Nat.one_pos hS, fun U hU hW => jPc_at hR hS hE hbs hU hW⟩ rfl hn hl.1 rfl (lv_room hrm) hd ⟨by omega, by omega⟩) hS (fun E k z h1 ce q9 H1 locs1 g1 g2 g3 g4 g5 g6 g7 g8 => absurd g3 (hnt _ _)) (fun r h1 H1 locs1 g1 g2 g3 => ?_)
  exact kk r h1 g1 H1 locs1 (cells + 0) (slots + 0) ls g2 g3 (by omega) (by omega) hc hl
end JX
section JY
variable {G : jG} {l : Launch} {h : jH}
theorem jsh0 (x : Int32) : x >>> ((0 : Int32) &&& 31) = x := by
  show x >>> (0 : Int32) = x
  simp
theorem C_Jcoder (d : Nat) {t : Nat} (ht : t < 36) : jC G l mJ0_coder_7d493 d 0 0 [.ref (G.2.2.2 (10 + 2 * t))] h (jPR h 0) :=
  jC.of (by decide +kernel) (jcats rfl) (Nat.le_of_ble_eq_true rfl) (fun X K E => by
    refine jr_tcs K (D_at DJ0_coder_7d493_q0 0 rfl) (jw_3_14 15 rfl rfl) ?_
    refine jr_if_eq K (D_at DJ0_coder_7d493_q0 1 rfl) (tgt := 13) (by decide) (fun c => absurd c (by decide)) (fun _ => ?_)
    refine jr_aload_n K (D_at DJ0_coder_7d493_q0 2 rfl) rfl rfl ?_
    refine jr_tcod K (D_at DJ0_coder_7d493_q0 3 rfl) (jw_9_6 1 rfl rfl) ht ?_
    refine jr_goto K (D_at DJ0_coder_7d493_q0 4 rfl) (tgt := 14) (by decide) ?_
    exact jr_cret K E (D_at DJ0_coder_7d493_q0 6 rfl) rfl rfl ⟨rfl, rfl⟩)
theorem C_Jlat (d : Nat) {t : Nat} (ht : t < 36) : jC G l mJ0_isLatin1_aae02 d 0 0 [.ref (G.2.2.2 (10 + 2 * t))] h (jPR h 1) :=
  jC.of (by decide +kernel) (jcats rfl) (Nat.le_of_ble_eq_true rfl) (fun X K E => by
    refine jr_tcs K (D_at DJ0_isLatin1_aae02_q0 0 rfl) (jw_3_14 15 rfl rfl) ?_
    refine jr_if_eq K (D_at DJ0_isLatin1_aae02_q0 1 rfl) (tgt := 17) (by decide) (fun c => absurd c (by decide)) (fun _ => ?_)
    refine jr_aload_n K (D_at DJ0_isLatin1_aae02_q0 2 rfl) rfl rfl ?_
    refine jr_tcod K (D_at DJ0_isLatin1_aae02_q0 3 rfl) (jw_9_6 1 rfl rfl) ht ?_
    refine jr_if_ne K (D_at DJ0_isLatin1_aae02_q0 4 rfl) (tgt := 17) (by decide) (fun c => absurd rfl c) (fun _ => ?_)
    refine jr_iconst K (D_at DJ0_isLatin1_aae02_q0 5 rfl) (v := (1 : Int32)) (by decide) ?_
    refine jr_goto K (D_at DJ0_isLatin1_aae02_q0 6 rfl) (tgt := 18) (by decide) ?_
    exact jr_zret K E (D_at DJ0_isLatin1_aae02_q0 8 rfl) rfl (Or.inr rfl) ⟨rfl, rfl⟩)
theorem C_Jlen (d : Nat) {t : Nat} (ht : t < 36) : jC G l mJ0_length_8abf5 (d + 1) 0 0 [.ref (G.2.2.2 (10 + 2 * t))] h (jPR h (nI (jtb t).length)) :=
  jC.of (by decide +kernel) (jcats rfl) (Nat.le_of_ble_eq_true rfl) (fun X K E => by
    refine jr_aload_n K (D_at DJ0_length_8abf5_q0 0 rfl) rfl rfl ?_
    refine jr_tval K (D_at DJ0_length_8abf5_q0 1 rfl) (jw_9_6 0 rfl rfl) ht ?_
    refine jr_tlen K (D_at DJ0_length_8abf5_q0 2 rfl) ht ?_
    refine jr_aload_n K (D_at DJ0_length_8abf5_q0 3 rfl) rfl rfl ?_
    refine jr_callT K ht (C_Jcoder d ht) (D_at DJ0_length_8abf5_q0 4 rfl) cv_J0_335_J0_coder_7d493 rfl (As := []) rfl rfl (by exact Nat.le_of_ble_eq_true rfl) (fun k9 h9 w9 => by cases w9.1) (fun r9 h9 w9 => ?_)
    obtain ⟨w1, w2⟩ := w9
    subst h9
    cases w1
    show jJ G X h 0 0 _ _ (.int 0 :: _)
    refine jr_ishr K (D_at DJ0_length_8abf5_q0 5 rfl) ?_
    rw [jsh0]
    exact jr_iret K E (D_at DJ0_length_8abf5_q0 6 rfl) rfl ⟨rfl, rfl⟩)
theorem C_Jpre (d : Nat) {i n : Int32} {v : Value} (hv : v = .null ∨ ∃ a, v = .ref a) (h1 : ¬ i < 0) (h2 : i < n) : jC G l mJ3_checkIndex_8e157 d 0 0 [.int i, .int n, v] h (jPR h i) :=
  jC.of (by decide +kernel) (jcats (by rcases hv with rfl | ⟨a, rfl⟩ <;> rfl)) (Nat.le_of_ble_eq_true rfl) (fun X K E => by
    refine jr_iload_n K (D_at DJ3_checkIndex_8e157_q0 0 rfl) rfl rfl ?_
    refine jr_if_lt K (D_at DJ3_checkIndex_8e157_q0 1 rfl) (tgt := 9) (by decide) (fun c => absurd c h1) (fun _ => ?_)
    refine jr_iload_n K (D_at DJ3_checkIndex_8e157_q0 2 rfl) rfl rfl ?_
    refine jr_iload_n K (D_at DJ3_checkIndex_8e157_q0 3 rfl) rfl rfl ?_
    refine jr_icmp_lt K (D_at DJ3_checkIndex_8e157_q0 4 rfl) (tgt := 16) (by decide) (fun _ => ?_) (fun c => absurd h2 (by exact c))
    refine jr_iload_n K (D_at DJ3_checkIndex_8e157_q0 10 rfl) rfl rfl ?_
    exact jr_iret K E (D_at DJ3_checkIndex_8e157_q0 11 rfl) rfl ⟨rfl, rfl⟩)
theorem C_Jchk (d : Nat) {i n : Int32} (h1 : ¬ i < 0) (h2 : i < n) : jC G l mJ0_checkIndex_df160 (d + 1) 0 0 [.int i, .int n] h (jPV h) :=
  jC.of (by decide +kernel) (jcats rfl) (Nat.le_of_ble_eq_true rfl) (fun X K E => by
    refine jr_iload_n K (D_at DJ0_checkIndex_df160_q0 0 rfl) rfl rfl ?_
    refine jr_iload_n K (D_at DJ0_checkIndex_df160_q0 1 rfl) rfl rfl ?_
    refine jr_tfm K (D_at DJ0_checkIndex_df160_q0 2 rfl) (jw_4_0 15 rfl rfl) (fun v hv => ?_)
    refine jr_callS K (C_Jpre d hv h1 h2) (D_at DJ0_checkIndex_df160_q0 3 rfl) cs_J0_1059_J3_checkIndex_8e157 (As := [.int i, .int n, v]) rfl rfl (by exact Nat.le_of_ble_eq_true rfl) (kc2 := 0) (ks2 := 0) rfl rfl (fun k9 h9 w9 => by cases w9.1) (fun r9 h9 w9 => ?_)
    obtain ⟨w1, w2⟩ := w9
    subst h9
    cases w1
    show jJ G X h 0 0 _ _ (.int i :: [])
    refine jr_pop K (D_at DJ0_checkIndex_df160_q0 4 rfl) rfl ?_
    exact jr_vret K E (D_at DJ0_checkIndex_df160_q0 5 rfl) rfl ⟨rfl, rfl⟩)
theorem jtlt (t : Nat) (ht : t < 36) : (jtb t).length < 2 ^ 20 ∧ (jtb t).all (fun v => decide (0 ≤ v) && decide (v < 128)) = true := by
  have : ∀ t : Fin 36, (jtb t.val).length < 2 ^ 20 ∧ (jtb t.val).all (fun v => decide (0 ≤ v) && decide (v < 128)) = true := by decide +kernel
  exact this ⟨t, ht⟩
theorem jidx {i : Int32} {n : Nat} (hn : n < 2 ^ 20) (h : ¬ (i < 0 ∨ n ≤ i.toNatClampNeg)) : i < nI n := by
  have h0 : ¬ i < 0 := fun q => h (Or.inl q)
  have h1 : i.toNatClampNeg < n := Nat.not_le.mp fun q => h (Or.inr q)
  rw [Int32.lt_iff_toInt_lt] at h0 ⊢
  have h2 : (nI n).toInt = n := by
    show (Int32.ofNat n).toInt = n
    exact Int32.toInt_ofNat_of_lt (by omega)
  have h3 : i.toNatClampNeg = i.toInt.toNat := rfl
  rw [h2]
  have h4 : (0 : Int32).toInt = 0 := rfl
  omega
theorem C_Jlc (d : Nat) {t : Nat} {i v : Int32} (ht : t < 36) (e : jtc t i = some v) : jC G l mJ1_charAt_3b067 (d + 2) 0 0 [.ref (G.2.2.2 (11 + 2 * t)), .int i] h (jPR h v) :=
  jC.of (by decide +kernel) (jcats rfl) (Nat.le_of_ble_eq_true rfl) (fun X K E => by
    unfold jtc at e
    split at e
    · cases e
    · rename_i hc
      cases e
      have hv : ∃ v, (jtb t).getD i.toNatClampNeg 0 = v ∧ v &&& 255 = v ∧ narrow .char (.int v) = .int v ∧ (v.toUInt32 % 65536).toInt32 = v := by
        refine ⟨_, rfl, ?_⟩
        generalize hg : (jtb t).getD i.toNatClampNeg 0 = v
        have hr : 0 ≤ v ∧ v < 128 := by
          have h1 : i.toNatClampNeg < (jtb t).length := Nat.not_le.mp fun q => hc (Or.inr q)
          have h2 := List.all_eq_true.mp (jtlt t ht).2 v (by rw [← hg, List.getD_eq_getElem?_getD, List.getElem?_eq_getElem h1]; exact List.getElem_mem h1)
          simpa using h2
        exact jchr hr.1 hr.2
      obtain ⟨v, hv1, hv2, hv3, hv4⟩ := hv
      have E2 : jEnd G mJ1_charAt_3b067 (jPR h v) X := hv1 ▸ E
      refine jr_iload_n K (D_at DJ1_charAt_3b067_q0 0 rfl) rfl rfl ?_
      refine jr_aload_n K (D_at DJ1_charAt_3b067_q0 1 rfl) rfl rfl ?_
      refine jr_tlen K (D_at DJ1_charAt_3b067_q0 2 rfl) ht ?_
      refine jr_callS K (C_Jchk d (fun q => hc (Or.inl q)) (jidx (jtlt t ht).1 hc)) (D_at DJ1_charAt_3b067_q0 3 rfl) cs_J1_9_J0_checkIndex_df160 (As := [.int i, .int (nI (jtb t).length)]) rfl rfl (by exact Nat.le_of_ble_eq_true rfl) (kc2 := 0) (ks2 := 0) rfl rfl (fun k9 h9 w9 => by cases w9.1) (fun r9 h9 w9 => ?_)
      obtain ⟨w1, w2⟩ := w9
      subst h9
      cases w1
      show jJ G X h 0 0 _ _ []
      refine jr_aload_n K (D_at DJ1_charAt_3b067_q0 4 rfl) rfl rfl ?_
      refine jr_iload_n K (D_at DJ1_charAt_3b067_q0 5 rfl) rfl rfl ?_
      refine jr_tald K (D_at DJ1_charAt_3b067_q0 6 rfl) ht hc ?_
      rw [hv1]
      refine jr_sipush K (D_at DJ1_charAt_3b067_q0 7 rfl) (v := (255 : Int32)) (by decide) ?_
      refine jr_iand K (D_at DJ1_charAt_3b067_q0 8 rfl) ?_
      rw [hv2]
      refine jr_i2c K (D_at DJ1_charAt_3b067_q0 9 rfl) (v := v) hv4 ?_
      exact jr_cret K E2 (D_at DJ1_charAt_3b067_q0 10 rfl) rfl hv3 ⟨rfl, rfl⟩)
theorem C_Jchar (d : Nat) {t : Nat} {i v : Int32} (ht : t < 36) (e : jtc t i = some v) : jC G l mJ0_charAt_5068e (d + 3) 0 0 [.ref (G.2.2.2 (10 + 2 * t)), .int i] h (jPR h v) :=
  jC.of (by decide +kernel) (jcats rfl) (Nat.le_of_ble_eq_true rfl) (fun X K E => by
    have hv3 : narrow .char (.int v) = .int v := by
      unfold jtc at e
      split at e
      · cases e
      · rename_i hc
        have h1 : i.toNatClampNeg < (jtb t).length := Nat.not_le.mp fun q => hc (Or.inr q)
        have e2 := Option.some.inj e
        have h2 := List.all_eq_true.mp (jtlt t ht).2 v (by rw [← e2, List.getD_eq_getElem?_getD, List.getElem?_eq_getElem h1]; exact List.getElem_mem h1)
        have h3 : 0 ≤ v ∧ v < 128 := by simpa using h2
        exact (jchr h3.1 h3.2).2.1
    refine jr_aload_n K (D_at DJ0_charAt_5068e_q0 0 rfl) rfl rfl ?_
    refine jr_callT K ht (C_Jlat (d + 2) ht) (D_at DJ0_charAt_5068e_q0 1 rfl) cv_J0_492_J0_isLatin1_aae02 rfl (As := []) rfl rfl (by exact Nat.le_of_ble_eq_true rfl) (fun k9 h9 w9 => by cases w9.1) (fun r9 h9 w9 => ?_)
    obtain ⟨w1, w2⟩ := w9
    subst h9
    cases w1
    show jJ G X h 0 0 _ _ (.int 1 :: [])
    refine jr_if_eq K (D_at DJ0_charAt_5068e_q0 2 rfl) (tgt := 16) (by decide) (fun c => absurd c (by decide)) (fun _ => ?_)
    refine jr_aload_n K (D_at DJ0_charAt_5068e_q0 3 rfl) rfl rfl ?_
    refine jr_tval K (D_at DJ0_charAt_5068e_q0 4 rfl) (jw_9_6 0 rfl rfl) ht ?_
    refine jr_iload_n K (D_at DJ0_charAt_5068e_q0 5 rfl) rfl rfl ?_
    refine jr_callS K (C_Jlc d ht e) (D_at DJ0_charAt_5068e_q0 6 rfl) cs_J0_495_J1_charAt_3b067 (As := [.ref (G.2.2.2 (11 + 2 * t)), .int i]) rfl rfl (by exact Nat.le_of_ble_eq_true rfl) (kc2 := 0) (ks2 := 0) rfl rfl (fun k9 h9 w9 => by cases w9.1) (fun r9 h9 w9 => ?_)
    obtain ⟨w1, w2⟩ := w9
    subst h9
    cases w1
    show jJ G X h 0 0 _ _ (.int v :: [])
    exact jr_cret K E (D_at DJ0_charAt_5068e_q0 7 rfl) rfl hv3 ⟨rfl, rfl⟩)
variable {M : jM} {dep : Nat} {X : jX} {kc ks pc : Nat} {L : List (Option Value)} {st : List Value}
theorem jr_slen (K : jOK G l M (dep + 6) X) {index t : Nat} {v : Int32} (hd : decode M.2.1 pc = .ok (.invokevirtual index, 3)) (hs : jSv M.1.cls index mJ0_length_8abf5 0) (hrm : (st.map fun v => v.category).sum ≤ 8) (e : jtl t = some v) (kk : jJ G X h kc ks (pc + 3) L (.int v :: st)) : jJ G X h kc ks pc L (.ref (G.2.2.2 (10 + 2 * t)) :: st) := by
  unfold jtl at e
  split at e
  · rename_i ht
    cases e
    refine jr_callT K ht (C_Jlen (dep + 4) ht) hd hs rfl (As := []) rfl rfl hrm (fun k9 h9 w9 => by cases w9.1) (fun r9 h9 w9 => ?_)
    obtain ⟨w1, w2⟩ := w9
    subst h9
    cases w1
    exact kk
  · cases e
theorem jr_schar (K : jOK G l M (dep + 6) X) {index t : Nat} {i v : Int32} (hd : decode M.2.1 pc = .ok (.invokevirtual index, 3)) (hs : jSv M.1.cls index mJ0_charAt_5068e 1) (hrm : (st.map fun v => v.category).sum ≤ 8) (e : jtc t i = some v) (kk : jJ G X h kc ks (pc + 3) L (.int v :: st)) : jJ G X h kc ks pc L (.int i :: .ref (G.2.2.2 (10 + 2 * t)) :: st) := by
  have ht : t < 36 := by
    by_cases ht : t < 36
    · exact ht
    · have h1 : jtxt.length ≤ t := Nat.not_lt.mp ht
      have h2 : (jtb t).length = 0 := by
        unfold jtb
        rw [List.getD_eq_getElem?_getD, List.getElem?_eq_none h1]
        rfl
      unfold jtc at e
      rw [if_pos (Or.inr (by omega))] at e
      cases e
  refine jr_callT K ht (C_Jchar (dep + 2) ht e) hd hs rfl (As := [.int i]) rfl rfl hrm (fun k9 h9 w9 => by cases w9.1) (fun r9 h9 w9 => ?_)
  obtain ⟨w1, w2⟩ := w9
  subst h9
  cases w1
  exact kk
end JY
end
