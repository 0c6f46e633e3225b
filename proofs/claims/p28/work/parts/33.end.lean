def R_law : String := "RodRingsLaw"
def lw_P (b : Addr) (xs : List Int32) (args : Array Value) (s : State) : Prop := args = #[.ref b] ∧ s.IntsAt b xs ∧ xs.length ≤ 3072 ∧ (Jvm.Cond.and given_1 narrow_1).before args s = true
def lw_Q (_ : Array Value) (s : State) (o : Outcome) (t : State) : Prop := o = .returned (some (.int 1)) ∧ Framed s o t [] 601024 7293034
def lw_Z (below : List Frame) (a : Array Value) (s : State) : State → Prop := fun t => ∃ o, t.status = .running ∧ Ended t below o ∧ lw_Q a s o t
/-- the law's own end, with 1 on the stack, nothing written that was there before, its room as the claim has it -/
theorem lw_ret {p : Program} {l : Launch} {e : Env} {s : State} {m : MethodId} {below : List Frame} {meth : Method} {c : Code} {b : Nat} (hx : p.tables.exec = Jvm.exec) (hb : c.code = code) (hr : meth.sig.returnType = ret) (hlocks : meth.locks = false) {pc : Nat} {H : Heap} {ls : Array Slot} (hdg : decode code pc = .ok (.ireturn, 1)) : W p l e room_1 s m #[Value.ref b] below meth c H [] 601024 7293034 (lw_Z below #[Value.ref b] s) (F0 m pc ls [.int 1]) := by
  intro T hT X
  obtain ⟨fs, hret, hrun, hended, hW, hframe⟩ := X.leave (v := some (.int 1)) (hlocks := hlocks) (fun h => by rw [hr] at h; cases h)
  have hmeth' : T.vm.method? m = some meth := X.method'
  refine ⟨T.setFrames fs, ?_, .returned (some (.int 1)), hrun, hended, rfl, ⟨_, rfl⟩, hW, hframe⟩
  jvm_step X.here [X.here.top, hx, hb, hdg, hmeth', hr, ret, narrow_b1]
  (try refine ⟨rfl, ?_⟩); (try refine ⟨rfl, ?_⟩)
  first | (intro acts; rw [hret _ acts rfl rfl rfl]) | rw [hret _ _ rfl rfl rfl]
  exact Steps.refl _
/-- what holds at the law's entry: the machine, the code, the tables' words (any of lw_tbl by 'hts w (by decide +kernel)'), the script of L ints xs at the cell b, what the Statement gives of the start (any of its parts by flat_of_before) -/
def lw_At (p : Program) (s : State) (m : MethodId) (meth : Method) (c : Code) (b L : Nat) (xs : Nat → Int32) : Prop :=
  p.tables.exec = Jvm.exec ∧ c.code = code ∧ meth.sig.returnType = ret ∧ c.maxLocals = 7 ∧ s.vm.findClass R_law = some m.cls ∧ (∀ w ∈ lw_tbl, w.before #[Value.ref b] s = true) ∧ va_X b L xs s s.heap ∧ b < s.heap.size ∧ meth.locks = false ∧ (Jvm.Cond.and given_1 narrow_1).before #[Value.ref b] s = true
def jfl : List Cond := flatC (Jvm.Cond.and given_1 narrow_1)
def jtw9 (x : String × Nat × String × List Int32) : List Cond :=
  .exactly (.string x.1 x.2.1) "java/lang/String" :: .eq (.field (.string x.1 x.2.1) "java/lang/String" "coder" "B") (.int 0) :: .arrayOf (.field (.string x.1 x.2.1) "java/lang/String" "value" "[B") .byte ::
  .eq (.length (.field (.string x.1 x.2.1) "java/lang/String" "value" "[B")) (.int (Int32.ofNat x.2.2.2.length)) ::
  (List.range x.2.2.2.length).map (fun j => .eq (.elem (.field (.string x.1 x.2.1) "java/lang/String" "value" "[B") (.int (Int32.ofNat j))) (.int (x.2.2.2.getD j 0)))
def jst9 (tm : Term) (vs : List Int32) : List Cond :=
  .arrayOf tm .int :: .eq (.length tm) (.int (Int32.ofNat vs.length)) :: (List.range vs.length).map (fun j => .eq (.elem tm (.int (Int32.ofNat j))) (.int (vs.getD j 0)))
set_option maxRecDepth 100000 in
theorem jfl_tx : (jfl.drop 104).take (jtxt.flatMap jtw9).length = jtxt.flatMap jtw9 := by decide +kernel
set_option maxRecDepth 100000 in
theorem jfl_sh : (jfl.drop 12).take 8 = jst9 (.static "RodRings$Log" "SHIFTS" "[I") jshf := by decide +kernel
set_option maxRecDepth 100000 in
theorem jfl_ms : (jfl.drop 21).take 8 = jst9 (.static "RodRings$Log" "MASKS" "[I") jmsk := by decide +kernel
set_option maxRecDepth 100000 in
theorem jfl_nc : jncs.map (fun x => some (Cond.not (.castable x.1 x.2))) = [100, 70, 55, 85, 43, 73, 58, 88, 41, 102, 56, 87, 40, 101, 71, 86, 42, 103, 72, 57].map (fun i => jfl[i]?) := by decide +kernel
theorem jfl_nc_in {x : String × String} (h : x ∈ jncs) : Cond.not (.castable x.1 x.2) ∈ jfl := by
  have h1 : some (Cond.not (.castable x.1 x.2)) ∈ jncs.map (fun x => some (Cond.not (.castable x.1 x.2))) := List.mem_map.mpr ⟨x, h, rfl⟩
  rw [jfl_nc] at h1
  obtain ⟨i, -, hi⟩ := List.mem_map.mp h1
  exact List.mem_of_getElem? hi
theorem jfl_txin {x : String × Nat × String × List Int32} (h : x ∈ jtxt) {w : Cond} (hw : w ∈ jtw9 x) : w ∈ jfl := by
  have : w ∈ (jfl.drop 104).take (jtxt.flatMap jtw9).length := by rw [jfl_tx]; exact List.mem_flatMap.mpr ⟨x, h, hw⟩
  exact List.mem_of_mem_drop (List.mem_of_mem_take this)
set_option maxRecDepth 100000 in
theorem jtr_tx : jtxt.map (fun x => some (Cond.stringRef x.1 x.2.1 x.2.2.1)) = [(3, 230), (4, 182), (4, 217), (5, 20), (5, 49), (5, 67), (5, 99), (5, 114), (5, 133), (5, 136), (5, 229), (6, 39), (6, 147), (7, 39), (7, 54), (7, 83), (7, 84), (7, 89), (7, 90), (7, 91), (7, 96), (7, 101), (7, 106), (7, 111), (7, 112), (7, 113), (7, 118), (7, 119), (7, 120), (7, 137), (7, 146), (7, 147), (7, 160), (7, 161), (7, 162), (7, 163)].map jtw := by decide +kernel
theorem jtr_in {x : String × Nat × String × List Int32} (h : x ∈ jtxt) : Cond.stringRef x.1 x.2.1 x.2.2.1 ∈ lw_tbl := by
  have h1 : some (Cond.stringRef x.1 x.2.1 x.2.2.1) ∈ jtxt.map (fun x => some (Cond.stringRef x.1 x.2.1 x.2.2.1)) := List.mem_map.mpr ⟨x, h, rfl⟩
  rw [jtr_tx] at h1
  obtain ⟨q, hq, hi⟩ := List.mem_map.mp h1
  exact jtw_in _ (List.mem_filterMap.mpr ⟨q, hq, hi⟩)
theorem jtx_len : ∀ x ∈ jtxt, x.2.2.2.length < 1000 := by decide +kernel
theorem jtxt_of {args : Array Value} {s : State} {A : Nat → Prop} (hs : ∀ w ∈ jfl, w.before args s = true) (hts : ∀ w ∈ lw_tbl, w.before args s = true) (hA : ∀ a : Nat, a < s.heap.size → ¬ A a) {x : String × Nat × String × List Int32} (h : x ∈ jtxt) :
    ∃ q : Nat × Nat, vk_R x.1 x.2.1 x.2.2.1 q.1 s ∧ vk_S 1 [x.2.2.2.length] [x.2.2.2] (fun _ => q.1) (fun _ => q.2) A s s.heap := by
  have hw := fun (w : Cond) (hw : w ∈ jtw9 x) => hs w (jfl_txin h hw)
  obtain ⟨adK, adV, h1, h2⟩ := vk_Sof (args := args) (s := s) (N := 1) (tm := fun _ => .string x.1 x.2.1) (len := [x.2.2.2.length]) (byt := [x.2.2.2]) (A := A)
    (fun i hi => by have e : i = 0 := by omega
                    subst e
                    have := jtx_len x h
                    show x.2.2.2.length < 2 ^ 31
                    omega)
    (fun i hi => hw _ List.mem_cons_self)
    (fun i hi => hw _ (List.mem_cons_of_mem _ List.mem_cons_self))
    (fun i hi => hw _ (List.mem_cons_of_mem _ (List.mem_cons_of_mem _ List.mem_cons_self)))
    (fun i hi => by have e : i = 0 := by omega
                    subst e
                    exact hw _ (List.mem_cons_of_mem _ (List.mem_cons_of_mem _ (List.mem_cons_of_mem _ List.mem_cons_self))))
    (fun i hi j hj => by have e : i = 0 := by omega
                         subst e
                         exact hw _ (List.mem_cons_of_mem _ (List.mem_cons_of_mem _ (List.mem_cons_of_mem _ (List.mem_cons_of_mem _ (List.mem_map.mpr ⟨j, List.mem_range.mpr hj, rfl⟩))))))
    (fun i j hi hj hij => absurd (show i = j by omega) hij) hA
  refine ⟨(adK 0, adV 0), vk_R.of (hts _ (jtr_in h)) (h2 0 (by omega)), fun i hi => ?_, fun i j hi hj _ => by omega⟩
  have e : i = 0 := by omega
  subst e
  exact h1.1 0 hi
theorem jst_of {args : Array Value} {s : State} {A : Nat → Prop} {C n : String} {vs : List Int32} (hl : (Cond.laysStatic C n "[I").before args s = true) (hini : (Cond.initialized C).before args s = true) (hw : ∀ w ∈ jst9 (.static C n "[I") vs, w.before args s = true) (hA : ∀ a : Nat, a < s.heap.size → ¬ A a) (hn : vs.length < 1000) :
    ∃ t : Nat, va_Z C n "[I" (.ref t) A s s.heap ∧ va_T .int t vs.length (fun j => .int (vs.getD j 0)) A s s.heap := by
  obtain ⟨t, h1, h2⟩ := va_Tof (args := args) (s := s) (tm := .static C n "[I") (ty := .int) (N := vs.length) (f := fun j => .int (vs.getD j 0)) (A := A) (by omega) (hw _ List.mem_cons_self)
    (va_eqt (hw _ (List.mem_cons_of_mem _ List.mem_cons_self)))
    (fun j hj => va_eqt (hw _ (List.mem_cons_of_mem _ (List.mem_cons_of_mem _ (List.mem_map.mpr ⟨j, List.mem_range.mpr hj, rfl⟩))))) hA
  exact ⟨t, va_Zof hl hini h1 hA, h2⟩
theorem jar_of {args : Array Value} {s : State} {ty : FieldType} (h : (Cond.arrayClass ty).before args s = true) : ∃ cA : ClassId, s.vm.findClass ("[" ++ ty.toString) = some cA ∧ ArrOfT s cA ty := by
  obtain ⟨cA, kA, comp, f1, f2, f3⟩ := Cond.arrayClass_spec h
  exact ⟨cA, f1, fun n z => ⟨fun k h => (by cases h), kA, f2, comp, f3⟩⟩
/-- what the law's walk asks of the pure side -/
def jPO : Prop := ∃ n : Nat, ∀ z : Nat, ∃ I : Nat → Nat → Nat → jH → Prop, jBegin n (z, fun _ => none) I ∧ ∀ (x m out : Nat) (h : jH) (a : Nat → Int32), I x m out h → jStep n x m out a h (I x m out)
set_option maxHeartbeats 4000000 in
set_option maxRecDepth 100000 in
theorem law_start (po : jPO) {p : Program} {e : Env} {s : State} {m : MethodId} {below : List Frame} {meth : Method} {c : Code} (l : Launch) (hflags : l.flags = flags0) {b L : Nat} {xs : Nat → Int32} (hL : L ≤ 3072) (C0 : lw_At p s m meth c b L xs) : W p l e room_1 s m #[Value.ref b] below meth c s.heap [] 0 0 (lw_Z below #[Value.ref b] s) (entryFrame m ([Value.ref b] : List Value).toArray 7) := by
  obtain ⟨hx, hb, hr, hml, hown, hts, hX, hbl, hlocks, hgv⟩ := id C0
  obtain ⟨n, po⟩ := po
  have hst : l.stackTraces = false := by unfold Launch.stackTraces; rw [hflags]; decide
  have hs : ∀ w ∈ jfl, w.before #[Value.ref b] s = true := flat_of_before _ hgv
  have hA : ∀ a : Nat, a < s.heap.size → ¬ (fun q : Nat => s.heap.size ≤ q) a := fun a h1 h2 => Nat.not_lt.mpr h2 h1
  obtain ⟨c0, iS0, hKn0⟩ := u_known (C := RX0) (T := TX0) (N := 3) (n := 3) hts wsX00_tb (hts _ (jin_2 (List.mem_of_getElem? (i := 3) rfl)))
  obtain ⟨c1, iS1, hKn1⟩ := u_known (C := RX1) (T := TX1) (N := 2) (n := 2) hts wsX10_tb (hts _ (jin_2 (List.mem_of_getElem? (i := 57) rfl)))
  obtain ⟨c2, iS2, hKn2⟩ := u_known (C := RX2) (T := TX2) (N := 9) (n := 9) hts wsX20_tb (hts _ (jin_1 (List.mem_of_getElem? (i := 207) rfl)))
  obtain ⟨c3, iS3, hKn3⟩ := u_known (C := RX3) (T := TX3) (N := 3) (n := 3) hts wsX30_tb (hts _ (jin_2 (List.mem_of_getElem? (i := 45) rfl)))
  obtain ⟨c4, iS4, hKn4⟩ := u_known (C := RX5) (T := TX5) (N := 3) (n := 3) hts wsX50_tb (hts _ (jin_1 (List.mem_of_getElem? (i := 76) rfl)))
  obtain ⟨c5, iS5, hKn5⟩ := u_known (C := RX7) (T := TX7) (N := 7) (n := 7) hts wsX70_tb (hts _ (jin_2 (List.mem_of_getElem? (i := 70) rfl)))
  obtain ⟨c6, iS6, hKn6⟩ := u_known (C := RX8) (T := TX8) (N := 18) (n := 18) hts wsX80_tb (hts _ (jin_1 (List.mem_of_getElem? (i := 70) rfl)))
  obtain ⟨c7, iS7, hKn7⟩ := u_known (C := RX9) (T := TX9) (N := 3) (n := 3) hts wsX90_tb (hts _ (jin_2 (List.mem_of_getElem? (i := 22) rfl)))
  obtain ⟨c8, iS8, hKn8⟩ := u_known (C := RX10) (T := TX10) (N := 7) (n := 7) hts wsX100_tb (hts _ (jin_1 (List.mem_of_getElem? (i := 38) rfl)))
  obtain ⟨c9, iS9, hKn9⟩ := u_known (C := RX11) (T := TX11) (N := 13) (n := 13) hts wsX110_tb (hts _ (jin_1 (List.mem_of_getElem? (i := 30) rfl)))
  obtain ⟨c10, iS10, hKn10⟩ := u_known (C := RX12) (T := TX12) (N := 22) (n := 22) hts wsX120_tb (hts _ (jin_6 (List.mem_of_getElem? (i := 150) rfl)))
  obtain ⟨k0, a0, b0⟩ := jar_of (ty := .int) (hts _ (jin_1 (List.mem_of_getElem? (i := 68) rfl)))
  obtain ⟨k1, a1, b1⟩ := jar_of (ty := .byte) (hts _ (jin_1 (List.mem_of_getElem? (i := 67) rfl)))
  obtain ⟨k2, a2, b2⟩ := jar_of (ty := .boolean) (hts _ (jin_6 (List.mem_of_getElem? (i := 222) rfl)))
  obtain ⟨k3, a3, b3⟩ := jar_of (ty := .long) (hts _ (jin_9 (List.mem_of_getElem? (i := 72) rfl)))
  have hao : (Cond.arrayOver (.object "RodRings$Rod")).before #[Value.ref b] s = true := (hts _ (jin_2 (List.mem_of_getElem? (i := 9) rfl)))
  obtain ⟨comp, k4, kA, f1, f2, f3, f4, f5⟩ := Cond.arrayOver_spec hao
  obtain ⟨tS, zS, vS⟩ := jst_of (A := fun q : Nat => s.heap.size ≤ q) (vs := jshf) (hts _ (jin_5 (List.mem_of_getElem? (i := 80) rfl))) (hts _ (jin_1 (List.mem_of_getElem? (i := 4) rfl))) (fun w hw => hs w (by rw [← jfl_sh] at hw; exact List.mem_of_mem_drop (List.mem_of_mem_take hw))) hA (by decide)
  obtain ⟨tM, zM, vM⟩ := jst_of (A := fun q : Nat => s.heap.size ≤ q) (vs := jmsk) (hts _ (jin_6 (List.mem_of_getElem? (i := 135) rfl))) (hts _ (jin_1 (List.mem_of_getElem? (i := 4) rfl))) (fun w hw => hs w (by rw [← jfl_ms] at hw; exact List.mem_of_mem_drop (List.mem_of_mem_take hw))) hA (by decide)
  have htx : ∀ i : Nat, ∃ q : Nat × Nat, ∀ x, jtxt[i]? = some x → vk_R x.1 x.2.1 x.2.2.1 q.1 s ∧ vk_S 1 [x.2.2.2.length] [x.2.2.2] (fun _ => q.1) (fun _ => q.2) (fun q : Nat => s.heap.size ≤ q) s s.heap := by
    intro i
    cases hi : jtxt[i]? with
    | none => exact ⟨(0, 0), fun x h => by cases h⟩
    | some x =>
      obtain ⟨q, h1, h2⟩ := jtxt_of (A := fun q : Nat => s.heap.size ≤ q) hs hts hA (List.mem_of_getElem? hi)
      exact ⟨q, fun y hy => by cases hy; exact ⟨h1, h2⟩⟩
  obtain ⟨ad, had⟩ := Classical.axiomOfChoice htx
  generalize hG : (((fun k => if k = 0 then c0 else if k = 1 then c1 else if k = 2 then c2 else if k = 3 then c3 else if k = 4 then c4 else if k = 5 then c5 else if k = 6 then c6 else if k = 7 then c7 else if k = 8 then c8 else if k = 9 then c9 else c10, fun k => if k = 0 then iS0 else if k = 1 then iS1 else if k = 2 then iS2 else if k = 3 then iS3 else if k = 4 then iS4 else if k = 5 then iS5 else if k = 6 then iS6 else if k = 7 then iS7 else if k = 8 then iS8 else if k = 9 then iS9 else iS10), fun k => if k = 0 then k0 else if k = 1 then k1 else if k = 2 then k2 else if k = 3 then k3 else k4, s.heap.size, fun k => if k = 0 then tS else if k = 1 then tM else if k % 2 = 0 then (ad ((k - 10) / 2)).1 else (ad ((k - 11) / 2)).2) : jG) = G
  have hEF : jEF G s s.heap := by
    subst hG
    refine ⟨⟨fun k q hq => ?_, fun k q hq => ?_⟩, ?_⟩
    · match k, hq with
      | 0, hq => cases hq; exact hKn0
      | 1, hq => cases hq; exact hKn1
      | 2, hq => cases hq; exact hKn2
      | 3, hq => cases hq; exact hKn3
      | 4, hq => cases hq; exact hKn4
      | 5, hq => cases hq; exact hKn5
      | 6, hq => cases hq; exact hKn6
      | 7, hq => cases hq; exact hKn7
      | 8, hq => cases hq; exact hKn8
      | 9, hq => cases hq; exact hKn9
      | 10, hq => cases hq; exact hKn10
      | k + 11, hq => simp [vwCl] at hq
    · match k, hq with
      | 0, hq => cases hq; exact ⟨b0, a0⟩
      | 1, hq => cases hq; exact ⟨b1, a1⟩
      | 2, hq => cases hq; exact ⟨b2, a2⟩
      | 3, hq => cases hq; exact ⟨b3, a3⟩
      | 4, hq => cases hq; exact ⟨fun N z => ⟨fun k h => (by cases h), kA, f3, comp, f4⟩, kA, comp, f3, f4, f1, f5⟩
      | k + 5, hq => simp [jtys] at hq
    · refine ⟨vx_Zqof (hts _ (jin_4 (List.mem_of_getElem? (i := 166) rfl))) (hts _ (jin_1 (List.mem_of_getElem? (i := 19) rfl))) (hs _ (List.mem_of_getElem? (i := 9) (by decide +kernel))) hA, vx_Zqof (hts _ (jin_4 (List.mem_of_getElem? (i := 168) rfl))) (hts _ (jin_1 (List.mem_of_getElem? (i := 19) rfl))) (hs _ (List.mem_of_getElem? (i := 10) (by decide +kernel))) hA, zS, vS, zM, vM, va_Zof (hts _ (jin_4 (List.mem_of_getElem? (i := 0) rfl))) (hts _ (jin_1 (List.mem_of_getElem? (i := 14) rfl))) (va_eqt (hs _ (List.mem_of_getElem? (i := 4) (by decide +kernel)))) hA, va_Zqof (hts _ (jin_4 (List.mem_of_getElem? (i := 16) rfl))) (hts _ (jin_1 (List.mem_of_getElem? (i := 16) rfl))) (hs _ (List.mem_of_getElem? (i := 5) (by decide +kernel))) hA, ⟨va_AO.of hao, fun w hw => va_Nw.of (jnest_on hw) (hts w (List.mem_filter.mp hw).1), fun x hx => va_Nc.of (hs _ (jfl_nc_in hx))⟩, fun i x hx => ?_⟩
      have e1 : (if 10 + 2 * i = 0 then tS else if 10 + 2 * i = 1 then tM else if (10 + 2 * i) % 2 = 0 then (ad ((10 + 2 * i - 10) / 2)).1 else (ad ((10 + 2 * i - 11) / 2)).2) = (ad i).1 := by
        rw [if_neg (by omega), if_neg (by omega), if_pos (by omega), show (10 + 2 * i - 10) / 2 = i by omega]
      have e2 : (if 11 + 2 * i = 0 then tS else if 11 + 2 * i = 1 then tM else if (11 + 2 * i) % 2 = 0 then (ad ((11 + 2 * i - 10) / 2)).1 else (ad ((11 + 2 * i - 11) / 2)).2) = (ad i).2 := by
        rw [if_neg (by omega), if_neg (by omega), if_neg (by omega), show (11 + 2 * i - 11) / 2 = i by omega]
      dsimp only
      rw [e1, e2]
      exact had i x hx
  have hG1 : G.2.2.1 = s.heap.size := by rw [← hG]
  clear hG
  obtain ⟨I, hB, hI⟩ := po s.heap.size
  have hl := lv_entry ([.ref b]) (n := 7) (Nat.le_of_ble_eq_true rfl)
  rw [lg_entry_eq]
  generalize (lg_sl ([.ref b]) ++ List.replicate (7 - (lg_sl ([.ref b])).length) Slot.unset).toArray = ls at hl ⊢
  have hl : lv_has ls 7 [(0, .ref b)] := hl
  let X : jX := (p, l, e, room_1, s, m, #[Value.ref b], below, meth, c, 601024, 7293034, lw_Z below #[Value.ref b] s)
  have K : jOK G l (mlw meth.name (c.exceptionTable.toList.map fun h => (h.startPc, h.endPc, h.handlerPc, h.catchType))) (0 + 70) X :=
    ⟨hx, hb, hml, hr, hown, fun w hw => hts w (List.mem_filter.mp hw).1, hlocks, rfl, hEF, Nat.le_of_eq hG1, Nat.le_of_ble_eq_true rfl, Nat.le_of_ble_eq_true rfl, Nat.le_of_ble_eq_true rfl, Nat.le_of_ble_eq_true rfl, rfl, (table_eq _).symm⟩
  have S : jScr G b L xs X := ⟨hX, hbl, by rw [hG1]; exact hbl⟩
  have key : jJ G X (s.heap.size, fun _ => none) (13 * 512 + 53) (582 * 512 + 14454) 0 [some (.ref b), none, none, none, none, none, none] [] := by
    refine JL_begin K n hB (fun x mm out h1 hh1 => ?_)
    refine JL_loop hst K S hL n (hI := fun h a hh => hI x mm out h a hh) (fun h i => ?_) 512 0 h1 (by omega) (by omega) hh1
    refine jr_iconst K (D_at DL_law__16_q5 3 rfl) (v := (1 : Int32)) (by decide) ?_
    intro H locs cells slots ls hR hS hc1 hc2 hc hl
    refine va_forget (fun q hq => ?_) ?_
    · have := hS.2.2 q hq
      rw [← hG1]
      exact this
    · refine W.widen (k := 601024) (n := 7293034) hc1 hc2 ?_
      exact lw_ret hx hb hr hlocks (D_at DL_law__17_q0 0 rfl)
  exact key s.heap [] 0 0 ls ⟨rfl, fun a e h => by cases h⟩ va_S.rf (by exact Nat.le_of_ble_eq_true rfl) (by exact Nat.le_of_ble_eq_true rfl) (by intro i v h; match i, h with
    | 0, h => cases h; rfl
    | 1, h => cases h
    | 2, h => cases h
    | 3, h => cases h
    | 4, h => cases h
    | 5, h => cases h
    | 6, h => cases h
    | k + 7, h => simp at h) (by rw [hml]; exact hl)
