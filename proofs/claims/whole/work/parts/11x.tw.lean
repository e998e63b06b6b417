section NXW
variable {p : Program} {l : Launch} {e : Env} {R : Room} {s : State} {m : MethodId} {args : Array Value} {below : List Frame} {meth : Method} {c : Code} {H : Heap} {locs : List Loc} {cells slots mc ms : Nat} {ls : Array Slot} {rest : List Value} {free : Addr → Prop}
variable {Qc : Array Value → State → Outcome → State → Prop} {XC : String → State → State → Prop}
theorem nx_throwW {cc : ByteArray} {pc : Nat} (hexec : p.tables.exec = Jvm.exec) (hb : c.code = cc) (hl : l.stackTraces = false) {own text : String} {ik is ic sa : Nat} {A : Nat → Prop}
    (hown : s.vm.findClass own = some m.cls)
    (hk : (Cond.classLink own ik nse).before args s = true) (hini : (Cond.initialized nse).before args s = true) (hstr : vk_R own is text sa s) (hat : ∀ w ∈ nxS own ic, w.before args s = true)
    (hgood : ∀ w ∈ Cond.classLink own ik nse :: Cond.initialized nse :: nxS own ic, vx_ot w = true)
    (hU : vx_Zq Bundle.tN "UNASSIGNED_STACK" Bundle.steD A s s.heap) (hN : vx_Zq Bundle.tN "SUPPRESSED_SENTINEL" Bundle.listD A s s.heap) (hS : va_S A s.heap H locs) (hsize : ls.size = c.maxLocals)
    (d0 : decode cc pc = .ok (.new ik, 3)) (d3 : decode cc (pc + 3) = .ok (.dup, 1)) (d4 : decode cc (pc + 3 + 1) = .ok (.ldc_w is, 3)) (d6 : decode cc (pc + 3 + 1 + 3) = .ok (.invokespecial ic, 3)) (d9 : decode cc (pc + 3 + 1 + 3 + 3) = .ok (.athrow, 1))
    (hout : ∀ x ∈ c.exceptionTable.toList, False)
    (hRframes : 5 < R.frames) (hRlocals : (rest.map fun v => v.category).sum + 82 ≤ R.locals) (hRcells : cells + 1 ≤ R.cells) (hRslots : slots + 6 ≤ R.slots) (hlocks : meth.locks = false)
    (hx : ∀ t : State, s.vm.Alike t.vm → H.size ≤ t.heap.size → (∀ q : Nat, q < H.size → t.heap[q]? = H[q]?) → XC nse s t)
    (hf : ∀ z ∈ locs, free z.base) (hc : cells + 1 ≤ mc) (hs : slots + 6 ≤ ms) :
    W p l e R s m args below meth c H locs cells slots (vx_MQ below Qc XC args s mc ms free) (F0 m pc ls rest) := by
  intro T hT X
  have htr : e.platform.stackTraces = false := (show e.platform.stackTraces = l.stackTraces by rw [X.admits.platform]).trans hl
  have Y := vx_rebase X (R' := { frames := R.frames, locals := R.locals, cells := 1, slots := 6 }) (Nat.le_refl _) (Nat.le_refl _) hRcells hRslots
  obtain ⟨s', hA⟩ : ∃ z, z = (T.setVm s.vm).setFrames (.invoking m args :: below) := ⟨_, rfl⟩
  rw [← hA] at Y
  have hvm : s'.vm = s.vm := by rw [hA]; rfl
  have hhp : s'.heap = H := by rw [hA]; exact hT
  have hW0 : s.WarmedH s'.vm := by rw [hvm]; exact State.WarmedH.refl s
  have hat' : ∀ w ∈ nxS own ic, w.before args s' = true := fun w hw => vx_ot_at hW0 hvm.symm (hgood w (List.mem_cons_of_mem _ (List.mem_cons_of_mem _ hw))) (hat w hw)
  have hk' : (Cond.classLink own ik nse).before args s' = true := vx_ot_at hW0 hvm.symm (hgood _ List.mem_cons_self) hk
  have hini' : (Cond.initialized nse).before args s' = true := vx_ot_at hW0 hvm.symm (hgood _ (List.mem_cons_of_mem _ List.mem_cons_self)) hini
  have hU' : vx_Zq Bundle.tN "UNASSIGNED_STACK" Bundle.steD A s' s'.heap := by rw [hhp]; exact vx_Zq.moved hW0.alike (hU.kept hS.2.1)
  have hN' : vx_Zq Bundle.tN "SUPPRESSED_SENTINEL" Bundle.listD A s' s'.heap := by rw [hhp]; exact vx_Zq.moved hW0.alike (hN.kept hS.2.1)
  have h : ∀ w ∈ nxAt own ic, w.before args s' = true := vx_own hat' (vx_isRefq hU'.1) (vx_isRefq hN'.1) hU'.2.word hN'.2.word
  have hown' : s'.vm.findClass own = some m.cls := by rw [hvm]; exact hown
  have hins : (Cond.instantiable nse 6).before args s' = true := h _ (by simp [nxAt])
  obtain ⟨vm₁, cX, kX, hfX, hkX, -, -, X₁, st1⟩ := Y.newCold hexec (own := own) (C := nse) (index := ik) (n := 6) hown' hk' hins hini'
    (g := F0 m pc ls rest) rfl (by rw [hb]; exact d0) (Nat.le_refl _) (Nat.le_refl _)
  generalize hT1 : (T.setVm vm₁).pushCell { cls := cX, slots := kX.instanceTypes.map defaultValue, vm := .none } = T1 at X₁ st1
  have hcat : (Value.ref T.heap.size).category = 1 := rfl
  have hcellA : T1.heap[T.heap.size]? = some (freshCell cX kX) := by rw [← hT1]; exact State.heap_pushCell_size _ _
  have d3' : decode c.code (pc + 3) = .ok (.dup, 1) := by rw [hb]; exact d3
  have d4' : decode c.code (pc + 4) = .ok (.ldc_w is, 3) := by rw [hb]; exact d4
  have hstr' : vk_R own is text sa s' := vk_R.warm hW0 hstr
  obtain ⟨U, hsteps, hrun, hend, hW, hsame, ce, hce, hO, hO2⟩ := nx_ctor X₁ hexec htr (own := own) (ic := ic) hown' h (fun x hx => nomatch hx) hfX hkX hcellA (by rw [hhp, hT]; exact Nat.le_refl _) (msg := .ref sa) rfl
    (g := { method := m, pc := pc + 7, locals := ls, stack := .ref sa :: .ref T.heap.size :: .ref T.heap.size :: rest, locked := none }) rfl hsize rfl rfl (rest := rest) rfl
    (by rw [hb]; exact d6) (by rw [hb]; exact d9) (fun x hx => (hout x hx).elim) hRframes (by simp only [List.map_cons, List.sum_cons, hcat]; show 2 * 0 + _ + _ ≤ _; omega) hlocks
  obtain ⟨f1, f2⟩ := vx_frame hsame
  rw [hhp] at f1 f2
  have hWs : s.WarmedH U.vm := State.WarmedH.trans hW0 hW
  have hcl : s.vm.findClass nse = some ce.cls := by
    rw [hvm] at hO2
    exact hO2
  have hall : s.sameButNew ({ U with vm := s.vm } : State) locs mc ms := by
    subst hA
    obtain ⟨e1, e2⟩ := hsame
    rw [State.setFrames_setFrames] at e1
    have h2 : (T.setVm s.vm).sameButNew ({ U with vm := s.vm } : State) [] (0 + 1) (0 + 6) := ⟨e1, e2⟩
    have h3 := X.same.trans h2
    rw [List.append_nil] at h3
    exact h3.mono hc hs
  refine ⟨U, ?_, .threw T.heap.size, hrun, hend, Or.inr ⟨T.heap.size, rfl, nse, ce, locs, hx U hWs.alike f1 (fun q hq => f2 q hq (fun z hz => nomatch hz)), hce, hO, hcl, hWs, hall, hf⟩⟩
  refine st1 _ ?_
  show Steps p.tables e below (T1.setTop { method := m, pc := pc + 3, locals := ls, stack := .ref T.heap.size :: rest, locked := none }) _
  jvm_step X₁.here [X₁.here.top, hexec, d3', Value.category]
  exact X₁.ldcStringW hexec (own := own) (text := text) (index := is) (a := sa) hown' hstr'.1 hstr'.2
    (g := { method := m, pc := pc + 4, locals := ls, stack := .ref T.heap.size :: .ref T.heap.size :: rest, locked := none }) rfl d4' _ hsteps
end NXW
section GThrowW
variable {K : Kx} {cc : ByteArray} {own : String} {d mc ms : Nat} {cs : Nat × Nat} {pc len q tgt : Nat} {lv : List (Nat × Value)} {rest : List Value} {M : Mm}
theorem g_throwW {is q1 q2 q3 q4 q5 t1 t2 t3 t4 t5 : Nat} {text : String} (C : Cx K cc "GroundPlan" d) (d0 : dC cc pc (.new 109) 3 q1 t1) (d1 : dC cc q1 .dup 1 q2 t2) (d2 : dC cc q2 (.ldc_w is) 3 q3 t3) (d3 : dC cc q3 (.invokespecial 113) 3 q4 t4) (d4 : dC cc q4 .athrow 1 q5 t5)
    (hs : (is, text) ∈ SS) (hT : ∀ x ∈ K.1.c.exceptionTable.toList, False) (hX : Xv K mc ms M) (h6 : 6 ≤ d) (hr : (rest.map fun v => v.category).sum ≤ 20) (hc : cs.1 + 1 ≤ mc ∧ cs.2 + 6 ≤ ms) (hR : mc ≤ K.1.R.cells ∧ ms ≤ K.1.R.slots) : G K cs pc lv rest M := by
  obtain ⟨a0, rfl, -⟩ := d0
  obtain ⟨a1, rfl, -⟩ := d1
  obtain ⟨a2, rfl, -⟩ := d2
  obtain ⟨a3, rfl, -⟩ := d3
  obtain ⟨a4, rfl, -⟩ := d4
  have hfr := C.fr; have hlo := C.lo
  obtain ⟨sa, hsa⟩ := C.iv.2.2.2.2.2.2.2 _ hs
  have hat : ∀ w ∈ nxS "GroundPlan" 113, w.before K.1.args K.1.s = true := by
    intro w hw
    by_cases g : goodWord w = true
    · exact C.rq _ (x_rq (x_good w (List.mem_filter.mpr ⟨hw, g⟩)) g)
    · obtain ⟨h1, h2⟩ := x_hard w (List.mem_filter.mpr ⟨hw, by simpa using g⟩)
      exact va_Nw.use (hard_tab h2) (C.iv.2.1 w (List.mem_filter.mpr ⟨h1, h2⟩))
  intro H locs ls hP hS hl
  have hA : 5 < K.1.R.frames := by omega
  have hB : (rest.map fun v => v.category).sum + 82 ≤ K.1.R.locals := by omega
  refine W_mono hX (nx_throwW (Qc := fun _ _ _ _ => False) (XC := Xq K.2.1 M) (text := text) (sa := sa) C.ex C.by C.tr C.ow (C.rq _ (x_rq x_link.1 rfl)) (C.rq _ (x_rq x_link.2 rfl)) hsa hat x_ot C.iv.2.2.2.2.2.1 C.iv.2.2.2.2.2.2.1 hS (hl.1.trans C.ml.symm)
    a0 a1 a2 a3 a4 hT hA hB (by omega) (by omega) C.lk ?_ hS.2.2 hc.1 hc.2)
  intro t hal hz hk
  refine ⟨rfl, hP.kept (fun k z hz2 => hk _ (hP k z hz2).lt), ⟨Nat.le_trans hS.1 hz, fun z h1 h2 => ?_⟩⟩
  rw [hk z (Nat.lt_of_lt_of_le h1 hS.1)]
  exact hS.2.1 z h1 h2
end GThrowW
theorem nz_e {v : Int32} (h : decide (v = 0 ∨ v = 1) = true) : narrow .boolean (.int v) = .int v := by
  rcases of_decide_eq_true h with rfl | rfl <;> rfl
