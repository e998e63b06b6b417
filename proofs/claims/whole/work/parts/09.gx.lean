/-! THROWS: made here, passed on, caught. The class that is thrown calls its superclass's constructor by its entry 13 (the library's rows for such a throw want 7): nx_ctor, nx_throw go the same way as ctorThrowS, vx_throwS with that one entry. -/
def nxB : ByteArray := prog_20_method_4_code
def nxAt (own : String) (ic : Nat) : List Cond := Bundle.throwableAtoms ++ Bundle.throwableSAtoms ++ Bundle.passSAtoms nse "java/lang/RuntimeException" 13 nxB ++ Bundle.chainSAtoms "java/lang/RuntimeException" ["java/lang/Exception"] ++
  [.methodLink own ic (Bundle.initS nse), .instantiable nse 6, .castable nse nse, .selects nse Bundle.tFill0 Bundle.tFill0, .selects nse Bundle.tFill Bundle.tFill,
   .lays nse Bundle.tN "cause" "Ljava/lang/Throwable;", .lays nse Bundle.tN "stackTrace" Bundle.steD, .lays nse Bundle.tN "suppressedExceptions" Bundle.listD, .lays nse Bundle.tN "detailMessage" "Ljava/lang/String;",
   .isRef (.static Bundle.tN "UNASSIGNED_STACK" Bundle.steD), .isRef (.static Bundle.tN "SUPPRESSED_SENTINEL" Bundle.listD),
   .fieldLink Bundle.tN 198 Bundle.tN "backtrace" "Ljava/lang/Object;", .lays Bundle.tN Bundle.tN "backtrace" "Ljava/lang/Object;", .lays nse Bundle.tN "backtrace" "Ljava/lang/Object;"]
theorem nxB_0 : decode nxB 0 = .ok (.aload_n 0, 1) := by decide +kernel
theorem nxB_1 : decode nxB 1 = .ok (.aload_n 1, 1) := by decide +kernel
theorem nxB_2 : decode nxB 2 = .ok (.invokespecial 13, 3) := by decide +kernel
theorem nxB_5 : decode nxB 5 = .ok (.return_, 1) := by decide +kernel
theorem x_fit : Bundle.fit nse = true ∧ Bundle.fit "java/lang/RuntimeException" = true ∧ ∀ n ∈ ["java/lang/Exception"], Bundle.fit n = true := by decide +kernel
section NX
variable {p : Program} {l : Launch} {e : Env} {R : Room} {s : State} {m₀ : MethodId} {args : Array Value} {below : List Frame} {meth : Method} {c : Code} {W : State} {locs : List Loc} {cells slots : Nat}
set_option maxHeartbeats 1000000 in
theorem nx_ctor (X : Stand p l e R s m₀ args below meth c W locs cells slots) (hexec : p.tables.exec = Jvm.exec) (htr : e.platform.stackTraces = false) {own : String} {ic : Nat}
    (hown : s.vm.findClass own = some m₀.cls) (h : ∀ a ∈ nxAt own ic, a.before args s = true)
    (hlocs : ∀ x ∈ locs, ∀ cell, s.heap[x.base]? = some cell → cell.vm.isStatics = false)
    {a : Addr} {cX : ClassId} {kX : Class} (hfoundX : s.vm.findClass nse = some cX) (hkX : s.vm.classes[cX]? = some kX) (hcell : W.heap[a]? = some (freshCell cX kX)) (hnew : s.heap.size ≤ a)
    {msg : Value} (hmsg : msg.isRef = true)
    {g : JFrame} (hg : g.method = m₀) (hsize : g.locals.size = c.maxLocals) (hlocked : g.locked = none) (hentered : g.entered = []) {rest : List Value} (hstack : g.stack = msg :: .ref a :: .ref a :: rest)
    (hd6 : decode c.code g.pc = .ok (.invokespecial ic, 3)) (hd9 : decode c.code (g.pc + 3) = .ok (.athrow, 1)) (hout : ∀ x ∈ c.exceptionTable.toList, covers x (g.pc + 3) = false)
    (hRframes : 5 < R.frames) (hRlocals : 2 * g.monitorRoom + ((Value.ref a :: rest).map fun v => v.category).sum + 81 ≤ R.locals) (hlocks : meth.locks = false) :
    ∃ U : State, Steps p.tables e below (W.setTop g) U ∧ U.status = .running ∧ Ended U below (.threw a) ∧ s.WarmedH U.vm ∧ s.sameButNew ({ U with vm := s.vm } : State) locs cells slots ∧
      ∃ ce, U.heap[a]? = some ce ∧ ce.vm = .none ∧ s.vm.findClass nse = some ce.cls := by
  have howns : e.platform.frameOwnsMonitors = true := by rw [X.admits.platform]
  have hfin : e.platform.finalization = false := by rw [X.admits.platform]
  have hpl : e.platform.magicAccessors = ({} : Platform).magicAccessors := by rw [X.admits.platform]
  have a' : ∀ x, x ∈ nxAt own ic → x.holds args s none s [] = true := fun x hx => h x hx
  obtain ⟨T, Z0, L, -, Y⟩ := ThrowableC.of_atoms (args := args) howns hfin hpl (fun x hx => h x (by simp [nxAt, hx]))
  obtain ⟨Z, M, LZ, LM, hnZ⟩ := Init0T.ofS_atoms (args := args) hpl L Y (fun x hx => h x (by simp [nxAt, hx]))
  obtain ⟨P1, L1, hP1m, hs1⟩ := PassC.ofS_atoms (args := args) (s := s) hpl (X := nse) (Y := "java/lang/RuntimeException") (Bundle.fit_spec x_fit.1).1 (Bundle.fit_spec x_fit.2.1).2 nxB_0 nxB_1 nxB_2 nxB_5 (fun x hx => h x (by simp [nxAt, hx]))
  obtain ⟨P2, Ps2, hlen2, L2, hL2, hP2m, hlink2, hlink3⟩ := Bundle.chainS (args := args) hpl hnZ ["java/lang/Exception"] "java/lang/RuntimeException" x_fit.2.1 x_fit.2.2 (fun x hx => h x (by simp [nxAt, hx]))
  have hlink1 : P1.sup = firstOf (Z.m T.toThrowableT) ((P2 :: Ps2).map (·.toPassT)) := Option.some.inj (hs1.symm.trans hP2m)
  have hfound : s.vm.findClass nse = some P1.m.cls := findClass_of_methodNamed hP1m
  cases Option.some.inj (hfoundX.symm.trans hfound)
  obtain ⟨c1, kX', hc1, hk, hord, -, -, hn6⟩ := Cond.instantiable_spec (a' (.instantiable nse 6) (by simp [nxAt]))
  cases Option.some.inj (hc1.symm.trans hfound)
  cases Option.some.inj (hkX.symm.trans hk)
  have hsel0 : selectMethod e.platform s.vm P1.m.cls T.fill0 = .method T.fill0 := by
    obtain ⟨c2, r2, m2, q1, q2, q3, q4, -⟩ := Cond.selects_spec (a' (.selects nse Bundle.tFill0 Bundle.tFill0) (by simp [nxAt]))
    cases Option.some.inj (q1.symm.trans hfound)
    cases Option.some.inj (q2.symm.trans (State.methodFound?_of_named Y.fill0 (by decide)))
    cases Option.some.inj (q3.symm.trans Y.fill0)
    rw [Launch.admits_selectMethod X.admits]; exact q4
  have hselF : selectMethod e.platform s.vm P1.m.cls T.fill = .method T.fill := by
    obtain ⟨c2, r2, m2, q1, q2, q3, q4, -⟩ := Cond.selects_spec (a' (.selects nse Bundle.tFill Bundle.tFill) (by simp [nxAt]))
    cases Option.some.inj (q1.symm.trans hfound)
    cases Option.some.inj (q2.symm.trans (State.methodFound?_of_named Y.fill (by decide)))
    cases Option.some.inj (q3.symm.trans Y.fill)
    rw [Launch.admits_selectMethod X.admits]; exact q4
  obtain ⟨cellS0, hcS0, hiss⟩ := Y.statics
  obtain ⟨u0, hu0⟩ := Cond.staticRefV Y.unassigned L.unassignedStatic L.statics hcS0 hiss (a' (.isRef (.static Bundle.tN "UNASSIGNED_STACK" Bundle.steD)) (by simp [nxAt]))
  obtain ⟨sen, hsen⟩ := Cond.staticRefV Y.sentinel L.sentinelStatic L.statics hcS0 hiss (a' (.isRef (.static Bundle.tN "SUPPRESSED_SENTINEL" Bundle.listD)) (by simp [nxAt]))
  obtain ⟨ci198, i198, fB, hk198, hg198, ha198, hsB, -, hnB, htB, hffB⟩ := Cond.ownField (t := .object "java/lang/Object") Y.found L.cls (by decide +kernel) (a' (.fieldLink Bundle.tN 198 Bundle.tN "backtrace" "Ljava/lang/Object;") (by simp [nxAt])) (a' (.lays Bundle.tN Bundle.tN "backtrace" "Ljava/lang/Object;") (by simp [nxAt])) e.platform hpl
  obtain ⟨cellS, hcS', heS, -, hkeep⟩ := X.same.2.2.2.2.2 T.aS cellS0 hcS0
  have hcellS : W.heap[T.aS]? = some cellS := hcS'
  have hout' : ∀ i, (⟨T.aS, i⟩ : Loc) ∉ locs := fun i hmem => by
    have := hlocs _ hmem cellS0 hcS0
    rw [hiss] at this; cases this
  have hknownS : cellS.vm ≠ .unknown := by
    rw [heS]; intro hu
    rw [show cellS0.vm = .unknown from hu] at hiss
    cases hiss
  have hneS : T.aS ≠ a := Nat.ne_of_lt (Nat.lt_of_lt_of_le (Array.getElem?_eq_some_iff.mp hcS0).1 hnew)
  obtain ⟨iM, hffM⟩ := Y.msg
  obtain ⟨tyC, dC, hdC, hdnC⟩ := Cond.laysAt hfound hk Y.cause (a' (.lays nse Bundle.tN "cause" "Ljava/lang/Throwable;") (by simp [nxAt]))
  obtain ⟨tyS, dS, hdS, hdnS⟩ := Cond.laysAt hfound hk Y.stack (a' (.lays nse Bundle.tN "stackTrace" Bundle.steD) (by simp [nxAt]))
  obtain ⟨tyP, dP, hdP, hdnP⟩ := Cond.laysAt hfound hk Y.supp (a' (.lays nse Bundle.tN "suppressedExceptions" Bundle.listD) (by simp [nxAt]))
  obtain ⟨tyM, dM, hdM, hdnM⟩ := Cond.laysAt hfound hk hffM (a' (.lays nse Bundle.tN "detailMessage" "Ljava/lang/String;") (by simp [nxAt]))
  obtain ⟨tyB, dB, hdB, hdnB⟩ := Cond.laysAt hfound hk hffB (a' (.lays nse Bundle.tN "backtrace" "Ljava/lang/Object;") (by simp [nxAt]))
  have bC := Cond.laysApart hdB hdC hdnB hdnC (by rw [hnB, Y.causeName]; decide)
  have bS := Cond.laysApart hdB hdS hdnB hdnS (by rw [hnB, Y.stackName]; decide)
  have bP := Cond.laysApart hdB hdP hdnB hdnP (by rw [hnB, Y.suppName]; decide)
  have hskip : SkipFacts T e.platform s (fun u => u) u0 ((preparedCellV T.toThrowableT (freshCell P1.m.cls kX) a u0 sen).withEntry W.cur) :=
    ⟨{ ci198 := ci198, i198 := i198, fBack := fB }, ⟨hk198, hg198, ha198, hsB⟩, by
      have := fresh_default (c := P1.m.cls) tyB
      rw [htB] at this
      simpa [preparedCellV, Cell.setSlot, Cell.withEntry, Array.getElem?_setIfInBounds, bC, bS, bP, bC.symm, bS.symm, bP.symm, defaultValue] using this, fun _ _ => rfl⟩
  obtain ⟨tm, methC, cdC, kC, vm₁, hnC, -, -, -, -, -, -, -, hW₁, st1⟩ := Steps.initColdS (tb := p.tables) (e := e) (below := below) (s := s) (U := W) X.here hexec X.warmed hpl hown (t := Bundle.initS nse) rfl rfl (Bundle.fit_spec x_fit.1).2
    (a' (.methodLink own ic (Bundle.initS nse)) (by simp [nxAt])) (h (.instanceMethod (Bundle.initS nse)) (by simp [nxAt, Bundle.passSAtoms])) (bytes := nxB) (maxL := 2) (h (.code (Bundle.initS nse) nxB 2 none) (by simp [nxAt, Bundle.passSAtoms]))
    (f := g) hg (a := a) (msg := msg) (rest := .ref a :: rest) hstack hd6
  cases Option.some.inj (hnC.symm.trans hP1m)
  have X₁ := X.noted hW₁
  obtain ⟨vm₂, X₂, st2⟩ := X₁.ctorMessageOffV hexec (g := { g with stack := .ref a :: rest }) hg hsize T L Z LZ M LM (P1 :: P2 :: Ps2)
    (fun P hP => by
      rcases List.mem_cons.mp hP with rfl | hP
      · exact L1
      · rcases List.mem_cons.mp hP with rfl | hP
        · exact L2
        · exact hL2 P hP) ⟨hlink1, hlink2, hlink3⟩ (u0 := u0) (sen := sen) (self := a) hmsg (cell := freshCell P1.m.cls kX) (cellS := cellS)
    hcell (fun _ => by simp) (by simp) rfl rfl hsel0 hselF hcellS hneS hknownS (by rw [hkeep _ (hout' _)]; exact hu0) (by rw [hkeep _ (hout' _)]; exact hsen)
    (Takes.of_laid hk hord tyC (by rw [Y.causeType]; rfl)) (Takes.of_laid hk hord tyS (by rw [Y.stackType]; exact fits_refV_array _ u0)) (Takes.of_laid hk hord tyP (by rw [Y.suppType]; exact fits_refV_object _ sen))
    (Takes.of_laid hk hord tyM (by rw [Y.msgType]; exact fits_refV_object _ ⟨msg, hmsg⟩)) Y.objLocals hskip htr [] hd6
    (by simp only [List.length_cons, hlen2]; simp; omega) (by simp only [List.length_cons, hlen2]; simp at hRlocals ⊢; omega)
  obtain ⟨hwalk, hrun, hended, hWU, hsame⟩ := X₂.athrowLeaves hexec (g := { g with stack := .ref a :: rest, pc := g.pc + 3 }) hg hlocked hentered hout (a := a) (rest := rest) rfl hd9
  have hlt : a < ((W.setVm vm₁).setVm vm₂).heap.size := (Array.getElem?_eq_some_iff.mp hcell).1
  have hU := heapAt_setCell_self (s := (W.setVm vm₁).setVm vm₂) (plainBareV T.toThrowableT (freshCell P1.m.cls kX) a u0 sen msg) hlt
  refine ⟨_, st1 _ (fun acts => ?_), hrun, hended, hWU, hsame.weaken (fun y hy hlt' => ?_) (Nat.le_refl _) (Nat.le_refl _), _, hU, rfl, hfound⟩
  · rw [doInvoke_state]
    exact st2 _ hwalk
  · rcases List.mem_append.mp hy with h1 | h1
    · exact h1
    · exfalso
      have hb : y.base = a := by
        simp only [List.mem_cons, List.not_mem_nil, or_false] at h1
        rcases h1 with rfl | rfl | rfl | rfl | rfl <;> rfl
      rw [hb] at hlt'
      exact Nat.not_lt.mpr hnew hlt'
end NX
def nxS (own : String) (ic : Nat) : List Cond := (nxAt own ic).filter vx_no
section NXT
variable {p : Program} {l : Launch} {e : Env} {R : Room} {s : State} {m : MethodId} {args : Array Value} {below : List Frame} {meth : Method} {c : Code} {H : Heap} {locs : List Loc} {cells slots mc ms : Nat} {ls : Array Slot} {rest : List Value} {free : Addr → Prop}
variable {Qc : Array Value → State → Outcome → State → Prop} {XC : String → State → State → Prop}
theorem nx_throw {cc : ByteArray} {pc : Nat} (hexec : p.tables.exec = Jvm.exec) (hb : c.code = cc) (hl : l.stackTraces = false) {own text : String} {ik is ic sa : Nat} {A : Nat → Prop}
    (hown : s.vm.findClass own = some m.cls)
    (hk : (Cond.classLink own ik nse).before args s = true) (hini : (Cond.initialized nse).before args s = true) (hstr : vk_R own is text sa s) (hat : ∀ w ∈ nxS own ic, w.before args s = true)
    (hgood : ∀ w ∈ Cond.classLink own ik nse :: Cond.initialized nse :: nxS own ic, vx_ot w = true)
    (hU : vx_Zq Bundle.tN "UNASSIGNED_STACK" Bundle.steD A s s.heap) (hN : vx_Zq Bundle.tN "SUPPRESSED_SENTINEL" Bundle.listD A s s.heap) (hS : va_S A s.heap H locs) (hsize : ls.size = c.maxLocals)
    (d0 : decode cc pc = .ok (.new ik, 3)) (d3 : decode cc (pc + 3) = .ok (.dup, 1)) (d4 : decode cc (pc + 3 + 1) = .ok (.ldc is, 2)) (d6 : decode cc (pc + 3 + 1 + 2) = .ok (.invokespecial ic, 3)) (d9 : decode cc (pc + 3 + 1 + 2 + 3) = .ok (.athrow, 1))
    (hout : ∀ x ∈ c.exceptionTable.toList, False)
    (hRframes : 5 < R.frames) (hRlocals : (rest.map fun v => v.category).sum + 82 ≤ R.locals) (hRcells : cells + 1 ≤ R.cells) (hRslots : slots + 6 ≤ R.slots) (hlocks : meth.locks = false)
    (hx : ∀ t : State, s.vm.Alike t.vm → H.size ≤ t.heap.size → (∀ q : Nat, q < H.size → t.heap[q]? = H[q]?) → XC nse s t)
    (hf : ∀ z ∈ locs, free z.base) (hc : cells + 1 ≤ mc) (hs : slots + 6 ≤ ms) :
    W p l e R s m args below meth c H locs cells slots (vx_MQ below Qc XC args s mc ms free) (F0 m pc ls rest) := by
  intro T hT X
  have htr : e.platform.stackTraces = false := (show e.platform.stackTraces = l.stackTraces by rw [X.admits.platform]).trans hl
  have Y := vx_rebase X (R' := { frames := R.frames, locals := R.locals, cells := 1, slots := 6 }) (Nat.le_refl _) (Nat.le_refl _) hRcells hRslots
  obtain ⟨s', hA⟩ : ∃ z, z = (T.setVm s.vm).setFrames (.invoking m args :: below) := ⟨_, rfl⟩
  rw [← hA] at Y
  have hvm : s'.vm = s.vm := by rw [hA]; rfl
  have hhp : s'.heap = H := by rw [hA]; exact hT
  have hW0 : s.WarmedH s'.vm := by rw [hvm]; exact State.WarmedH.refl s
  have hat' : ∀ w ∈ nxS own ic, w.before args s' = true := fun w hw => vx_ot_at hW0 hvm.symm (hgood w (List.mem_cons_of_mem _ (List.mem_cons_of_mem _ hw))) (hat w hw)
  have hk' : (Cond.classLink own ik nse).before args s' = true := vx_ot_at hW0 hvm.symm (hgood _ List.mem_cons_self) hk
  have hini' : (Cond.initialized nse).before args s' = true := vx_ot_at hW0 hvm.symm (hgood _ (List.mem_cons_of_mem _ List.mem_cons_self)) hini
  have hU' : vx_Zq Bundle.tN "UNASSIGNED_STACK" Bundle.steD A s' s'.heap := by rw [hhp]; exact vx_Zq.moved hW0.alike (hU.kept hS.2.1)
  have hN' : vx_Zq Bundle.tN "SUPPRESSED_SENTINEL" Bundle.listD A s' s'.heap := by rw [hhp]; exact vx_Zq.moved hW0.alike (hN.kept hS.2.1)
  have h : ∀ w ∈ nxAt own ic, w.before args s' = true := vx_own hat' (vx_isRefq hU'.1) (vx_isRefq hN'.1) hU'.2.word hN'.2.word
  have hown' : s'.vm.findClass own = some m.cls := by rw [hvm]; exact hown
  have hins : (Cond.instantiable nse 6).before args s' = true := h _ (by simp [nxAt])
  obtain ⟨vm₁, cX, kX, hfX, hkX, -, -, X₁, st1⟩ := Y.newCold hexec (own := own) (C := nse) (index := ik) (n := 6) hown' hk' hins hini'
    (g := F0 m pc ls rest) rfl (by rw [hb]; exact d0) (Nat.le_refl _) (Nat.le_refl _)
  generalize hT1 : (T.setVm vm₁).pushCell { cls := cX, slots := kX.instanceTypes.map defaultValue, vm := .none } = T1 at X₁ st1
  have hcat : (Value.ref T.heap.size).category = 1 := rfl
  have hcellA : T1.heap[T.heap.size]? = some (freshCell cX kX) := by rw [← hT1]; exact State.heap_pushCell_size _ _
  have d3' : decode c.code (pc + 3) = .ok (.dup, 1) := by rw [hb]; exact d3
  have d4' : decode c.code (pc + 4) = .ok (.ldc is, 2) := by rw [hb]; exact d4
  have hstr' : vk_R own is text sa s' := vk_R.warm hW0 hstr
  obtain ⟨U, hsteps, hrun, hend, hW, hsame, ce, hce, hO, hO2⟩ := nx_ctor X₁ hexec htr (own := own) (ic := ic) hown' h (fun x hx => nomatch hx) hfX hkX hcellA (by rw [hhp, hT]; exact Nat.le_refl _) (msg := .ref sa) rfl
    (g := { method := m, pc := pc + 6, locals := ls, stack := .ref sa :: .ref T.heap.size :: .ref T.heap.size :: rest, locked := none }) rfl hsize rfl rfl (rest := rest) rfl
    (by rw [hb]; exact d6) (by rw [hb]; exact d9) (fun x hx => (hout x hx).elim) hRframes (by simp only [List.map_cons, List.sum_cons, hcat]; show 2 * 0 + _ + _ ≤ _; omega) hlocks
  obtain ⟨f1, f2⟩ := vx_frame hsame
  rw [hhp] at f1 f2
  have hWs : s.WarmedH U.vm := State.WarmedH.trans hW0 hW
  have hcl : s.vm.findClass nse = some ce.cls := by
    rw [hvm] at hO2
    exact hO2
  have hall : s.sameButNew ({ U with vm := s.vm } : State) locs mc ms := by
    subst hA
    obtain ⟨e1, e2⟩ := hsame
    rw [State.setFrames_setFrames] at e1
    have h2 : (T.setVm s.vm).sameButNew ({ U with vm := s.vm } : State) [] (0 + 1) (0 + 6) := ⟨e1, e2⟩
    have h3 := X.same.trans h2
    rw [List.append_nil] at h3
    exact h3.mono hc hs
  refine ⟨U, ?_, .threw T.heap.size, hrun, hend, Or.inr ⟨T.heap.size, rfl, nse, ce, locs, hx U hWs.alike f1 (fun q hq => f2 q hq (fun z hz => nomatch hz)), hce, hO, hcl, hWs, hall, hf⟩⟩
  refine st1 _ ?_
  show Steps p.tables e below (T1.setTop { method := m, pc := pc + 3, locals := ls, stack := .ref T.heap.size :: rest, locked := none }) _
  jvm_step X₁.here [X₁.here.top, hexec, d3', Value.category]
  exact X₁.ldcString hexec (own := own) (text := text) (index := is) (a := sa) hown' hstr'.1 hstr'.2
    (g := { method := m, pc := pc + 4, locals := ls, stack := .ref T.heap.size :: .ref T.heap.size :: rest, locked := none }) rfl d4' _ hsteps
end NXT
set_option maxRecDepth 100000 in
theorem x_good : ∀ w ∈ (nxS "GroundPlan" 113).filter goodWord, w ∈ lw_tbl := by decide +kernel
set_option maxRecDepth 100000 in
theorem x_hard : ∀ w ∈ (nxS "GroundPlan" 113).filter (fun w => !goodWord w), w ∈ lw_tbl ∧ hardW w = true := by decide +kernel
set_option maxRecDepth 100000 in
theorem x_ot : ∀ w ∈ Cond.classLink "GroundPlan" 109 nse :: Cond.initialized nse :: nxS "GroundPlan" 113, vx_ot w = true := by decide +kernel
theorem x_link : Cond.classLink "GroundPlan" 109 nse ∈ lw_tbl ∧ Cond.initialized nse ∈ lw_tbl := by decide +kernel
section GThrow
variable {K : Kx} {cc : ByteArray} {own : String} {d mc ms : Nat} {cs : Nat × Nat} {pc len q tgt : Nat} {lv : List (Nat × Value)} {rest : List Value} {M : Mm}
theorem x_rq {w : Cond} (h : w ∈ lw_tbl) (g : goodWord w = true) : w ∈ RQ := List.mem_filter.mpr ⟨h, g⟩
theorem g_throw {is q1 q2 q3 q4 q5 t1 t2 t3 t4 t5 : Nat} {text : String} (C : Cx K cc "GroundPlan" d) (d0 : dC cc pc (.new 109) 3 q1 t1) (d1 : dC cc q1 .dup 1 q2 t2) (d2 : dC cc q2 (.ldc is) 2 q3 t3) (d3 : dC cc q3 (.invokespecial 113) 3 q4 t4) (d4 : dC cc q4 .athrow 1 q5 t5)
    (hs : (is, text) ∈ SS) (hT : ∀ x ∈ K.1.c.exceptionTable.toList, False) (hX : Xv K mc ms M) (h6 : 6 ≤ d) (hr : (rest.map fun v => v.category).sum ≤ 20) (hc : cs.1 + 1 ≤ mc ∧ cs.2 + 6 ≤ ms) (hR : mc ≤ K.1.R.cells ∧ ms ≤ K.1.R.slots) : G K cs pc lv rest M := by
  obtain ⟨a0, rfl, -⟩ := d0
  obtain ⟨a1, rfl, -⟩ := d1
  obtain ⟨a2, rfl, -⟩ := d2
  obtain ⟨a3, rfl, -⟩ := d3
  obtain ⟨a4, rfl, -⟩ := d4
  have hfr := C.fr; have hlo := C.lo
  obtain ⟨sa, hsa⟩ := C.iv.2.2.2.2.2.2.2 _ hs
  have hat : ∀ w ∈ nxS "GroundPlan" 113, w.before K.1.args K.1.s = true := by
    intro w hw
    by_cases g : goodWord w = true
    · exact C.rq _ (x_rq (x_good w (List.mem_filter.mpr ⟨hw, g⟩)) g)
    · obtain ⟨h1, h2⟩ := x_hard w (List.mem_filter.mpr ⟨hw, by simpa using g⟩)
      exact va_Nw.use (hard_tab h2) (C.iv.2.1 w (List.mem_filter.mpr ⟨h1, h2⟩))
  intro H locs ls hP hS hl
  have hA : 5 < K.1.R.frames := by omega
  have hB : (rest.map fun v => v.category).sum + 82 ≤ K.1.R.locals := by omega
  refine W_mono hX (nx_throw (Qc := fun _ _ _ _ => False) (XC := Xq K.2.1 M) (text := text) (sa := sa) C.ex C.by C.tr C.ow (C.rq _ (x_rq x_link.1 rfl)) (C.rq _ (x_rq x_link.2 rfl)) hsa hat x_ot C.iv.2.2.2.2.2.1 C.iv.2.2.2.2.2.2.1 hS (hl.1.trans C.ml.symm)
    a0 a1 a2 a3 a4 hT hA hB (by omega) (by omega) C.lk ?_ hS.2.2 hc.1 hc.2)
  intro t hal hz hk
  refine ⟨rfl, hP.kept (fun k z hz2 => hk _ (hP k z hz2).lt), ⟨Nat.le_trans hS.1 hz, fun z h1 h2 => ?_⟩⟩
  rw [hk z (Nat.lt_of_lt_of_le h1 hS.1)]
  exact hS.2.1 z h1 h2
theorem g_finX {H : Heap} {locs : List Loc} {mc' ms' : Nat} {o : Option (Option Value)} {M' : Mm} {av : Array Value} {ls : Array Slot} {st : List Value} (C : Cx K cc own d)
    (hr : vx_Run K.1.p K.1.l K.1.e K.1.R K.1.s K.1.m K.1.args K.1.below K.1.meth K.1.c H locs cs.1 cs.2 mc' ms' (F0 K.1.m pc ls st) rest (QvX K.2.1 o M' av) (XvX K.2.1 o M') (zA K.2.1)) (hS : va_S (zA K.2.1) K.1.s.heap H locs) (hl : lv_has ls K.2.2.1 lv)
    (hT : ∀ x ∈ K.1.c.exceptionTable.toList, False) (hX : o = none → Xv K mc ms M') (hc : cs.1 + mc' ≤ mc ∧ cs.2 + ms' ≤ ms)
    (h : ∀ v, o = some v → G K (cs.1 + mc', cs.2 + ms') (pc + 3) lv (v.toList ++ rest) M') : W0 K H locs cs (F0 K.1.m pc ls st) := by
  intro T hT2 X
  rcases hr T hT2 X with ⟨v, st₀, t, T', L, h0, X', hL, e1, e2, ⟨w, hov, hv, hP1, hz, hk⟩, hst⟩ | ⟨qq, st₀, t, T', L, Ec, ce, h0, X', hL, e1, e2, ⟨hov, rfl, hP1, hz, hk⟩, hce, hcv, hcl, hst⟩
  · cases hv
    rw [h0] at hz hk
    have hS1 : va_S (zA K.2.1) K.1.s.heap T'.heap (locs ++ L) := ⟨Nat.le_trans hS.1 (by rw [e1]; exact hz), fun z h1 h2 => by rw [e1, hk z (Nat.lt_of_lt_of_le h1 hS.1) h2]; exact hS.2.1 z h1 h2, fun z hz => by
      rcases List.mem_append.mp hz with h | h
      · exact hS.2.2 z h
      · exact hL z h⟩
    obtain ⟨t2, a1, b1⟩ := h _ hov T'.heap (locs ++ L) ls (by rw [e1]; exact hP1) hS1 hl T' rfl X'
    exact ⟨t2, hst t2 a1, b1⟩
  · rw [h0] at hz hk
    have hS1 : va_S (zA K.2.1) K.1.s.heap T'.heap (locs ++ L) := ⟨Nat.le_trans hS.1 (by rw [e1]; exact hz), fun z h1 h2 => by rw [e1, hk z (Nat.lt_of_lt_of_le h1 hS.1) h2]; exact hS.2.1 z h1 h2, fun z hz => by
      rcases List.mem_append.mp hz with h | h
      · exact hS.2.2 z h
      · exact hL z h⟩
    have hP2 : va_P (zD K.2.1) vwCl (WD K.2.1 M') T'.heap := by rw [e1]; exact hP1
    have key := vxW_mono (hX hov) (vx_out (Qc := fun _ _ _ _ => False) (XC := Xq K.2.1 M') (pc := pc) (ls := ls) (rest := rest) (E := nse) (ce := ce) (q := qq) (H := T'.heap) (locs := locs ++ L) (cells := cs.1 + mc') (slots := cs.2 + ms') (mc := mc) (ms := ms) (p := K.1.p) (l := K.1.l) (e := K.1.e) (R := K.1.R) (m := K.1.m) (args := K.1.args) (below := K.1.below)
      (fun x hx => (hT x hx).elim) C.lk (by rw [e1]; exact hce) hcv hcl (fun t2 ht2 _ => ⟨rfl, by rw [ht2]; exact hP2, hS1.F ht2⟩) hS1.2.2 hc.1 hc.2)
    obtain ⟨t2, a1, b1⟩ := key T' rfl X'
    exact ⟨t2, hst.trans a1, b1⟩
end GThrow
section GCallX
variable {K : Kx} {cc : ByteArray} {own : String} {d mc ms : Nat} {cs : Nat × Nat} {pc len q tgt : Nat} {lv : List (Nat × Value)} {st : List Value} {M M' : Mm} {y : MethodName} {bytes : ByteArray} {maxL n d' mc' ms' ix : Nat} {ret : Option FieldType} {o : Option (Option Value)}
theorem g_cVX {k ci : Nat} {z : List (Nat × Nat)} (As rest : List Value) (C : Cx K cc own d) (hd : dC cc pc (.invokevirtual ix) 3 q tgt) (hV : VK own ix ci y bytes maxL ret n) (hM : CX K.2.1 K.1.l d' mc' ms' y bytes maxL ret (.ref (K.2.1.1 + k) :: As) M o M') (hk : LT[k]? = some (4, ci, z))
    (hst : st = As.reverse ++ .ref (K.2.1.1 + k) :: rest) (hn : As.length = n) (hW : (rest.map fun v => v.category).sum ≤ 8) (hdd : d' < d) (hc : cs.1 + mc' ≤ mc ∧ cs.2 + ms' ≤ ms) (hR : mc ≤ K.1.R.cells ∧ ms ≤ K.1.R.slots)
    (hT : ∀ x ∈ K.1.c.exceptionTable.toList, False) (hX : o = none → Xv K mc ms M')
    (h : ∀ v, o = some v → G K (cs.1 + mc', cs.2 + ms') q lv (v.toList ++ rest) M') : G K cs pc lv st M := by
  obtain ⟨e1, rfl, -⟩ := hd
  obtain ⟨Cn, T, N, v1, v2, v3, v4, v5, v6, v7, v8, v9, v10⟩ := hV
  have hfr := C.fr; have hlo := C.lo
  intro H locs ls hP hS hl
  refine g_finX C (vx_runV (C := Cn) (As := As) (rest := rest) (b := K.2.1.1 + k) (n := n) ⟨C.ex, C.by, C.ml, C.ow, C.rq⟩ hM (cwV n C.rq (RQ_gi v3 v4 v5 v6 v7 (fun _ h => h)) rfl rfl rfl ⟨v2, v8.1, v8.2, v9⟩ ⟨?_, ?_⟩) ⟨Pv.blind, ?_, g_pre C hP hS⟩ rfl hn hl.1 hst (by simpa using hW) e1 ⟨Nat.le_trans hc.1 hR.1, Nat.le_trans hc.2 hR.2⟩) hS hl hT hX hc h
  · show d' + 1 ≤ K.1.R.frames
    omega
  · show 8 + (maxL + 11) + (64 * d' + 100) ≤ K.1.R.locals
    omega
  · exact va_recv C.iv.1 hP v1 (WD_get hk)
theorem g_cSX (As rest : List Value) (C : Cx K cc own d) (hd : dC cc pc (.invokestatic ix) 3 q tgt) (hV : SK own ix y bytes maxL ret n) (hM : CX K.2.1 K.1.l d' mc' ms' y bytes maxL ret As M o M')
    (hst : st = As.reverse ++ rest) (hn : As.length = n) (hW : (rest.map fun v => v.category).sum ≤ 8) (hdd : d' < d) (hc : cs.1 + mc' ≤ mc ∧ cs.2 + ms' ≤ ms) (hR : mc ≤ K.1.R.cells ∧ ms ≤ K.1.R.slots)
    (hT : ∀ x ∈ K.1.c.exceptionTable.toList, False) (hX : o = none → Xv K mc ms M')
    (h : ∀ v, o = some v → G K (cs.1 + mc', cs.2 + ms') q lv (v.toList ++ rest) M') : G K cs pc lv st M := by
  obtain ⟨e1, rfl, -⟩ := hd
  obtain ⟨v3, v4, v6, v7, v8, v9, v10⟩ := hV
  have hfr := C.fr; have hlo := C.lo
  intro H locs ls hP hS hl
  refine g_finX C (vx_runS (As := As) (rest := rest) (n := n) ⟨C.ex, C.by, C.ml, C.ow, C.rq⟩ hM (va_cwS n C.rq (RQ_gi3 v3 v4 v6 v7 (fun _ h => h)) rfl rfl rfl ⟨v8.1, v8.2, v9⟩ ⟨?_, ?_⟩) ⟨Pv.blind, g_pre C hP hS⟩ rfl hn hl.1 hst (by simpa using hW) e1 ⟨Nat.le_trans hc.1 hR.1, Nat.le_trans hc.2 hR.2⟩) hS hl hT hX hc h
  · show d' + 1 ≤ K.1.R.frames
    omega
  · show 8 + (maxL + 11) + (64 * d' + 100) ≤ K.1.R.locals
    omega
end GCallX
