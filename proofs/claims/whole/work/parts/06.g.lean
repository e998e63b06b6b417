/-! THE MACHINE OVER THE WORLD: G K cs pc lv st M: from pc, with the locals lv, the stack st and the memory M, the method K comes to its end -/
def offOf : Instr → Option Int
  | .goto o => some o
  | .ifCond _ o => some o
  | .if_icmp _ o => some o
  | _ => none
def dC (cc : ByteArray) (pc : Nat) (i : Instr) (len q tgt : Nat) : Prop := decode cc pc = .ok (i, len) ∧ pc + len = q ∧ ∀ o, offOf i = some o → (pc : Int) + o = (tgt : Int)
def ckD (cc : ByteArray) (L : List (Nat × Instr × Nat × Nat × Nat)) : Bool := L.all fun x => decide (decode cc x.1 = .ok (x.2.1, x.2.2.1)) && (decide (x.1 + x.2.2.1 = x.2.2.2.1) && (match offOf x.2.1 with | some o => decide ((x.1 : Int) + o = (x.2.2.2.2 : Int)) | none => true))
theorem ckD_get {cc : ByteArray} {L : List (Nat × Instr × Nat × Nat × Nat)} (h : ckD cc L = true) (j : Nat) {pc : Nat} {i : Instr} {len q tgt : Nat} (hj : L[j]? = some (pc, i, len, q, tgt)) : dC cc pc i len q tgt := by
  have h1 := List.all_eq_true.mp h _ (List.mem_of_getElem? hj)
  simp only [Bool.and_eq_true, decide_eq_true_eq] at h1
  refine ⟨h1.1, h1.2.1, fun o ho => ?_⟩
  have h2 := h1.2.2
  rw [ho] at h2
  simpa using h2
def RQ : List Cond := lw_tbl.filter goodWord
def hardW : Cond → Bool
  | .methodLinkNest .. => true
  | .castable .. => true
  | .declares .. => true
  | _ => false
def HWs : List Cond := lw_tbl.filter hardW
theorem RQ_in {w : Cond} (i : Nat) (h : lw_tbl[i]? = some w) (hg : goodWord w = true) : w ∈ RQ := List.mem_filter.mpr ⟨List.mem_of_getElem? h, hg⟩
theorem HW_in {w : Cond} (i : Nat) (h : lw_tbl[i]? = some w) (hg : hardW w = true) : w ∈ HWs := List.mem_filter.mpr ⟨List.mem_of_getElem? h, hg⟩
theorem hard_warm {w : Cond} (h : hardW w = true) {s U : State} (hW : s.WarmedH U.vm) (hZ : va_Nw w s) : va_Nw w U := by
  cases w <;> first | (simp [hardW] at h; done) | exact va_Nw.warmM hW hZ | exact va_Nw.warmC hW hZ | exact va_tabs rfl (rfl : (s.setVm U.vm).vm = U.vm) (by rw [Cond.declares_setVm hW.alike]; exact hZ)
theorem hard_tab {w : Cond} (h : hardW w = true) : w.onTables = true := by
  cases w <;> first | (simp [hardW] at h; done) | rfl
def sF : Nat → Value := fun j => .long (([1, 1, 2, 6, 24, 120, 720, 5040, 40320, 362880, 3628800, 39916800, 479001600] : List Int64).getD j 0)
def sC : Nat → Value := fun j => .long (([0, 1, 2, 6, 22, 90, 394, 1806, 8558, 41586, 206098] : List Int64).getD j 0)
def sT : Nat → Value := fun j => .long (([0, 1, 2, 5, 14, 42, 132, 429, 1430, 4862, 16796] : List Int64).getD j 0)
abbrev nse : String := "java/util/NoSuchElementException"
def SS : List (Nat × String) := [(111, "no such side"), (116, "no such net"), (186, "nothing such about a laying"), (193, "nothing such of a block"), (225, "nothing such is told"), (234, "no such way to slide"), (262, "no such side of a shape"), (311, "no such block"), (313, "there is no laying"), (315, "the laying is not of that kind"), (317, "no such kind"), (319, "no such shape")]
/-- what every state of a run keeps -/
def Iv (E : Ev) (U : State) : Prop :=
  va_K (zD E) vwCl (zT E) U ∧ (∀ w ∈ HWs, va_Nw w U) ∧
  (va_Z "GroundPlan" "FACTORIALS" "[J" (.ref (E.2.2.2.2 0)) (zA E) U U.heap ∧ va_T .long (E.2.2.2.2 0) 13 sF (zA E) U U.heap) ∧
  (va_Z "GroundPlan" "CUT_FORMS" "[J" (.ref (E.2.2.2.2 1)) (zA E) U U.heap ∧ va_T .long (E.2.2.2.2 1) 11 sC (zA E) U U.heap) ∧
  (va_Z "GroundPlan" "TREE_FORMS" "[J" (.ref (E.2.2.2.2 2)) (zA E) U U.heap ∧ va_T .long (E.2.2.2.2 2) 11 sT (zA E) U U.heap) ∧
  vx_Zq Bundle.tN "UNASSIGNED_STACK" Bundle.steD (zA E) U U.heap ∧ vx_Zq Bundle.tN "SUPPRESSED_SENTINEL" Bundle.listD (zA E) U U.heap ∧
  ∀ q ∈ SS, ∃ sa, vk_R "GroundPlan" q.1 q.2 sa U
theorem Iv.same {E : Ev} {u U : State} (hv : U.vm = u.vm) (hh : U.heap = u.heap) (h : Iv E u) : Iv E U := by
  obtain ⟨h1, h2, ⟨h3, h3'⟩, ⟨h4, h4'⟩, ⟨h5, h5'⟩, h6, h7, h8⟩ := h
  have ha : u.vm.Alike U.vm := by rw [hv]; exact Vm.Alike.refl _
  refine ⟨va_K.moved ha h1, fun w hw => va_Nw.same (hard_tab (List.mem_filter.mp hw).2) hv.symm (h2 w hw), ⟨?_, ?_⟩, ⟨?_, ?_⟩, ⟨?_, ?_⟩, ?_, ?_, fun q hq => ?_⟩
  · rw [hh]; exact va_Z.moved ha h3
  · rw [hh]; exact va_T.moved ha h3'
  · rw [hh]; exact va_Z.moved ha h4
  · rw [hh]; exact va_T.moved ha h4'
  · rw [hh]; exact va_Z.moved ha h5
  · rw [hh]; exact va_T.moved ha h5'
  · rw [hh]; exact vx_Zq.moved ha h6
  · rw [hh]; exact vx_Zq.moved ha h7
  · obtain ⟨sa, hs⟩ := h8 q hq
    exact ⟨sa, vk_R.same hv hs⟩
theorem Iv.warm {E : Ev} {s U : State} (hW : s.WarmedH U.vm) (hq : ∀ a : Nat, a < s.heap.size → ¬ zA E a → U.heap[a]? = s.heap[a]?) (h : Iv E s) : Iv E U := by
  obtain ⟨h1, h2, ⟨h3, h3'⟩, ⟨h4, h4'⟩, ⟨h5, h5'⟩, h6, h7, h8⟩ := h
  have ha : s.vm.Alike U.vm := hW.alike
  refine ⟨va_K.moved ha h1, fun w hw => hard_warm (List.mem_filter.mp hw).2 hW (h2 w hw), ⟨?_, ?_⟩, ⟨?_, ?_⟩, ⟨?_, ?_⟩, ?_, ?_, fun q hq => ?_⟩
  · exact va_Z.moved ha (h3.kept hq)
  · exact va_T.moved ha (h3'.kept hq)
  · exact va_Z.moved ha (h4.kept hq)
  · exact va_T.moved ha (h4'.kept hq)
  · exact va_Z.moved ha (h5.kept hq)
  · exact va_T.moved ha (h5'.kept hq)
  · exact vx_Zq.moved ha (h6.kept hq)
  · exact vx_Zq.moved ha (h7.kept hq)
  · obtain ⟨sa, hs⟩ := h8 q hq
    exact ⟨sa, vk_R.warm hW hs⟩
abbrev Gm : Type := Program × Launch × Env × Room × State × MethodId × Array Value × List Frame × Method × Code
abbrev Gm.p (Γ : Gm) : Program := Γ.1
abbrev Gm.l (Γ : Gm) : Launch := Γ.2.1
abbrev Gm.e (Γ : Gm) : Env := Γ.2.2.1
abbrev Gm.R (Γ : Gm) : Room := Γ.2.2.2.1
abbrev Gm.s (Γ : Gm) : State := Γ.2.2.2.2.1
abbrev Gm.m (Γ : Gm) : MethodId := Γ.2.2.2.2.2.1
abbrev Gm.args (Γ : Gm) : Array Value := Γ.2.2.2.2.2.2.1
abbrev Gm.below (Γ : Gm) : List Frame := Γ.2.2.2.2.2.2.2.1
abbrev Gm.meth (Γ : Gm) : Method := Γ.2.2.2.2.2.2.2.2.1
abbrev Gm.c (Γ : Gm) : Code := Γ.2.2.2.2.2.2.2.2.2
/-- a method under way: the machine, the world's numbers, how many locals, what is owed at its end -/
abbrev Kx : Type := Gm × Ev × Nat × (State → Prop)
def W0 (K : Kx) (H : Heap) (locs : List Loc) (cs : Nat × Nat) (g : JFrame) : Prop := W K.1.p K.1.l K.1.e K.1.R K.1.s K.1.m K.1.args K.1.below K.1.meth K.1.c H locs cs.1 cs.2 K.2.2.2 g
def G (K : Kx) (cs : Nat × Nat) (pc : Nat) (lv : List (Nat × Value)) (st : List Value) (M : Mm) : Prop :=
  ∀ (H : Heap) (locs : List Loc) (ls : Array Slot), va_P (zD K.2.1) vwCl (WD K.2.1 M) H → va_S (zA K.2.1) K.1.s.heap H locs → lv_has ls K.2.2.1 lv → W0 K H locs cs (F0 K.1.m pc ls st)
/-- the world of a start: what a call may count on -/
def Wv (E : Ev) (M : Mm) (U : State) : Prop := Iv E U ∧ E.1 ≤ U.heap.size ∧ va_P (zD E) vwCl (WD E M) U.heap
def Cx (K : Kx) (cc : ByteArray) (own : String) (d : Nat) : Prop :=
  K.1.p.tables.exec = Jvm.exec ∧ K.1.c.code = cc ∧ K.1.c.maxLocals = K.2.2.1 ∧ K.1.s.vm.findClass own = some K.1.m.cls ∧ (∀ w ∈ RQ, w.before K.1.args K.1.s = true) ∧ K.1.meth.locks = false ∧ Iv K.2.1 K.1.s ∧ K.2.1.1 ≤ K.1.s.heap.size ∧
  d ≤ K.1.R.frames ∧ 64 * d + 100 ≤ K.1.R.locals ∧ K.1.l.stackTraces = false
theorem Cx.ex {K : Kx} {cc : ByteArray} {own : String} {d : Nat} (C : Cx K cc own d) : K.1.p.tables.exec = Jvm.exec := C.1
theorem Cx.by {K : Kx} {cc : ByteArray} {own : String} {d : Nat} (C : Cx K cc own d) : K.1.c.code = cc := C.2.1
theorem Cx.ml {K : Kx} {cc : ByteArray} {own : String} {d : Nat} (C : Cx K cc own d) : K.1.c.maxLocals = K.2.2.1 := C.2.2.1
theorem Cx.ow {K : Kx} {cc : ByteArray} {own : String} {d : Nat} (C : Cx K cc own d) : K.1.s.vm.findClass own = some K.1.m.cls := C.2.2.2.1
theorem Cx.rq {K : Kx} {cc : ByteArray} {own : String} {d : Nat} (C : Cx K cc own d) : ∀ w ∈ RQ, w.before K.1.args K.1.s = true := C.2.2.2.2.1
theorem Cx.lk {K : Kx} {cc : ByteArray} {own : String} {d : Nat} (C : Cx K cc own d) : K.1.meth.locks = false := C.2.2.2.2.2.1
theorem Cx.iv {K : Kx} {cc : ByteArray} {own : String} {d : Nat} (C : Cx K cc own d) : Iv K.2.1 K.1.s := C.2.2.2.2.2.2.1
theorem Cx.sz {K : Kx} {cc : ByteArray} {own : String} {d : Nat} (C : Cx K cc own d) : K.2.1.1 ≤ K.1.s.heap.size := C.2.2.2.2.2.2.2.1
theorem Cx.fr {K : Kx} {cc : ByteArray} {own : String} {d : Nat} (C : Cx K cc own d) : d ≤ K.1.R.frames := C.2.2.2.2.2.2.2.2.1
theorem Cx.lo {K : Kx} {cc : ByteArray} {own : String} {d : Nat} (C : Cx K cc own d) : 64 * d + 100 ≤ K.1.R.locals := C.2.2.2.2.2.2.2.2.2.1
theorem Cx.tr {K : Kx} {cc : ByteArray} {own : String} {d : Nat} (C : Cx K cc own d) : K.1.l.stackTraces = false := C.2.2.2.2.2.2.2.2.2.2
section GRows
variable {K : Kx} {cc : ByteArray} {own : String} {d : Nat} {cs : Nat × Nat} {pc len q tgt : Nat} {lv : List (Nat × Value)} {rest : List Value} {M : Mm}
theorem G.sub {lv' : List (Nat × Value)} (ks : List Nat) (hl : lv_pick lv ks = lv') (h : G K cs pc lv' rest M) : G K cs pc lv rest M := fun H locs ls hP hS hv => h H locs ls hP hS (lv_sub hv ks hl)
theorem G.wid {cs' : Nat × Nat} (h1 : cs.1 ≤ cs'.1) (h2 : cs.2 ≤ cs'.2) (h : G K cs' pc lv rest M) : G K cs pc lv rest M := fun H locs ls hP hS hv => W.widen h1 h2 (h H locs ls hP hS hv)

theorem g_iadd {x y : Int32} (C : Cx K cc own d) (hd : dC cc pc (.iadd) 1 q tgt)  (h : G K cs q lv (.int (x + y) :: rest) M) : G K cs pc lv (.int y :: .int x :: rest) M := by
  obtain ⟨e1, rfl, -⟩ := hd
  intro H locs ls hP hS hl
  exact lv_iadd C.ex C.by e1  (h H locs ls hP hS hl)
theorem g_isub {x y : Int32} (C : Cx K cc own d) (hd : dC cc pc (.isub) 1 q tgt)  (h : G K cs q lv (.int (x - y) :: rest) M) : G K cs pc lv (.int y :: .int x :: rest) M := by
  obtain ⟨e1, rfl, -⟩ := hd
  intro H locs ls hP hS hl
  exact lv_isub C.ex C.by e1  (h H locs ls hP hS hl)
theorem g_imul {x y : Int32} (C : Cx K cc own d) (hd : dC cc pc (.imul) 1 q tgt)  (h : G K cs q lv (.int (x * y) :: rest) M) : G K cs pc lv (.int y :: .int x :: rest) M := by
  obtain ⟨e1, rfl, -⟩ := hd
  intro H locs ls hP hS hl
  exact lv_imul C.ex C.by e1  (h H locs ls hP hS hl)
theorem g_iand {x y : Int32} (C : Cx K cc own d) (hd : dC cc pc (.iand) 1 q tgt)  (h : G K cs q lv (.int (x &&& y) :: rest) M) : G K cs pc lv (.int y :: .int x :: rest) M := by
  obtain ⟨e1, rfl, -⟩ := hd
  intro H locs ls hP hS hl
  exact lv_iand C.ex C.by e1  (h H locs ls hP hS hl)
theorem g_ior {x y : Int32} (C : Cx K cc own d) (hd : dC cc pc (.ior) 1 q tgt)  (h : G K cs q lv (.int (x ||| y) :: rest) M) : G K cs pc lv (.int y :: .int x :: rest) M := by
  obtain ⟨e1, rfl, -⟩ := hd
  intro H locs ls hP hS hl
  exact lv_ior C.ex C.by e1  (h H locs ls hP hS hl)
theorem g_ixor {x y : Int32} (C : Cx K cc own d) (hd : dC cc pc (.ixor) 1 q tgt)  (h : G K cs q lv (.int (x ^^^ y) :: rest) M) : G K cs pc lv (.int y :: .int x :: rest) M := by
  obtain ⟨e1, rfl, -⟩ := hd
  intro H locs ls hP hS hl
  exact lv_ixor C.ex C.by e1  (h H locs ls hP hS hl)
theorem g_ishl {x y : Int32} (C : Cx K cc own d) (hd : dC cc pc (.ishl) 1 q tgt)  (h : G K cs q lv (.int (x <<< (y &&& 31)) :: rest) M) : G K cs pc lv (.int y :: .int x :: rest) M := by
  obtain ⟨e1, rfl, -⟩ := hd
  intro H locs ls hP hS hl
  exact lv_ishl C.ex C.by e1  (h H locs ls hP hS hl)
theorem g_ishr {x y : Int32} (C : Cx K cc own d) (hd : dC cc pc (.ishr) 1 q tgt)  (h : G K cs q lv (.int (x >>> (y &&& 31)) :: rest) M) : G K cs pc lv (.int y :: .int x :: rest) M := by
  obtain ⟨e1, rfl, -⟩ := hd
  intro H locs ls hP hS hl
  exact lv_ishr C.ex C.by e1  (h H locs ls hP hS hl)
theorem g_idiv {x y : Int32} (C : Cx K cc own d) (hd : dC cc pc (.idiv) 1 q tgt) (hne : ¬ y = 0) (h : G K cs q lv (.int (x / y) :: rest) M) : G K cs pc lv (.int y :: .int x :: rest) M := by
  obtain ⟨e1, rfl, -⟩ := hd
  intro H locs ls hP hS hl
  exact lv_idiv C.ex C.by e1 hne (h H locs ls hP hS hl)
theorem g_irem {x y : Int32} (C : Cx K cc own d) (hd : dC cc pc (.irem) 1 q tgt) (hne : ¬ y = 0) (h : G K cs q lv (.int (x - x / y * y) :: rest) M) : G K cs pc lv (.int y :: .int x :: rest) M := by
  obtain ⟨e1, rfl, -⟩ := hd
  intro H locs ls hP hS hl
  exact lv_irem C.ex C.by e1 hne (h H locs ls hP hS hl)
theorem g_ladd {x y : Int64} (C : Cx K cc own d) (hd : dC cc pc (.ladd) 1 q tgt)  (h : G K cs q lv (.long (x + y) :: rest) M) : G K cs pc lv (.long y :: .long x :: rest) M := by
  obtain ⟨e1, rfl, -⟩ := hd
  intro H locs ls hP hS hl
  exact lv_ladd C.ex C.by e1  (h H locs ls hP hS hl)
theorem g_lsub {x y : Int64} (C : Cx K cc own d) (hd : dC cc pc (.lsub) 1 q tgt)  (h : G K cs q lv (.long (x - y) :: rest) M) : G K cs pc lv (.long y :: .long x :: rest) M := by
  obtain ⟨e1, rfl, -⟩ := hd
  intro H locs ls hP hS hl
  exact lv_lsub C.ex C.by e1  (h H locs ls hP hS hl)
theorem g_lmul {x y : Int64} (C : Cx K cc own d) (hd : dC cc pc (.lmul) 1 q tgt)  (h : G K cs q lv (.long (x * y) :: rest) M) : G K cs pc lv (.long y :: .long x :: rest) M := by
  obtain ⟨e1, rfl, -⟩ := hd
  intro H locs ls hP hS hl
  exact lv_lmul C.ex C.by e1  (h H locs ls hP hS hl)
theorem g_land {x y : Int64} (C : Cx K cc own d) (hd : dC cc pc (.land) 1 q tgt)  (h : G K cs q lv (.long (x &&& y) :: rest) M) : G K cs pc lv (.long y :: .long x :: rest) M := by
  obtain ⟨e1, rfl, -⟩ := hd
  intro H locs ls hP hS hl
  exact lv_land C.ex C.by e1  (h H locs ls hP hS hl)
theorem g_lor {x y : Int64} (C : Cx K cc own d) (hd : dC cc pc (.lor) 1 q tgt)  (h : G K cs q lv (.long (x ||| y) :: rest) M) : G K cs pc lv (.long y :: .long x :: rest) M := by
  obtain ⟨e1, rfl, -⟩ := hd
  intro H locs ls hP hS hl
  exact lv_lor C.ex C.by e1  (h H locs ls hP hS hl)
theorem g_lxor {x y : Int64} (C : Cx K cc own d) (hd : dC cc pc (.lxor) 1 q tgt)  (h : G K cs q lv (.long (x ^^^ y) :: rest) M) : G K cs pc lv (.long y :: .long x :: rest) M := by
  obtain ⟨e1, rfl, -⟩ := hd
  intro H locs ls hP hS hl
  exact lv_lxor C.ex C.by e1  (h H locs ls hP hS hl)
theorem g_ldiv {x y : Int64} (C : Cx K cc own d) (hd : dC cc pc (.ldiv) 1 q tgt) (hne : ¬ y = 0) (h : G K cs q lv (.long (x / y) :: rest) M) : G K cs pc lv (.long y :: .long x :: rest) M := by
  obtain ⟨e1, rfl, -⟩ := hd
  intro H locs ls hP hS hl
  exact lv_ldiv C.ex C.by e1 hne (h H locs ls hP hS hl)
theorem g_lrem {x y : Int64} (C : Cx K cc own d) (hd : dC cc pc (.lrem) 1 q tgt) (hne : ¬ y = 0) (h : G K cs q lv (.long (x - x / y * y) :: rest) M) : G K cs pc lv (.long y :: .long x :: rest) M := by
  obtain ⟨e1, rfl, -⟩ := hd
  intro H locs ls hP hS hl
  exact lv_lrem C.ex C.by e1 hne (h H locs ls hP hS hl)
theorem g_lshl {x : Int64} {y : Int32} (C : Cx K cc own d) (hd : dC cc pc (.lshl) 1 q tgt)  (h : G K cs q lv (.long (x <<< (y.toInt64 &&& 63)) :: rest) M) : G K cs pc lv (.int y :: .long x :: rest) M := by
  obtain ⟨e1, rfl, -⟩ := hd
  intro H locs ls hP hS hl
  exact lv_lshl C.ex C.by e1 rfl (h H locs ls hP hS hl)
theorem g_lshr {x : Int64} {y : Int32} (C : Cx K cc own d) (hd : dC cc pc (.lshr) 1 q tgt)  (h : G K cs q lv (.long (x >>> (y.toInt64 &&& 63)) :: rest) M) : G K cs pc lv (.int y :: .long x :: rest) M := by
  obtain ⟨e1, rfl, -⟩ := hd
  intro H locs ls hP hS hl
  exact lv_lshr C.ex C.by e1 rfl (h H locs ls hP hS hl)
theorem g_iushr {x y : Int32} (C : Cx K cc own d) (hd : dC cc pc (.iushr) 1 q tgt)  (h : G K cs q lv (.int ((x.toUInt32 >>> (y.toUInt32 &&& Int32.toUInt32 31)).toInt32) :: rest) M) : G K cs pc lv (.int y :: .int x :: rest) M := by
  obtain ⟨e1, rfl, -⟩ := hd
  intro H locs ls hP hS hl
  exact lv_iushr C.ex C.by e1 rfl (h H locs ls hP hS hl)
theorem g_i2l {x : Int32} (C : Cx K cc own d) (hd : dC cc pc (.i2l) 1 q tgt)  (h : G K cs q lv (.long (x.toInt64) :: rest) M) : G K cs pc lv (.int x :: rest) M := by
  obtain ⟨e1, rfl, -⟩ := hd
  intro H locs ls hP hS hl
  exact lv_i2l C.ex C.by e1 rfl (h H locs ls hP hS hl)
theorem g_l2i {x : Int64} (C : Cx K cc own d) (hd : dC cc pc (.l2i) 1 q tgt)  (h : G K cs q lv (.int (x.toInt32) :: rest) M) : G K cs pc lv (.long x :: rest) M := by
  obtain ⟨e1, rfl, -⟩ := hd
  intro H locs ls hP hS hl
  exact lv_l2i C.ex C.by e1 rfl (h H locs ls hP hS hl)
theorem g_lcmp {x y : Int64} (C : Cx K cc own d) (hd : dC cc pc (.lcmp) 1 q tgt)  (h : G K cs q lv (.int (lg_cmp x y) :: rest) M) : G K cs pc lv (.long y :: .long x :: rest) M := by
  obtain ⟨e1, rfl, -⟩ := hd
  intro H locs ls hP hS hl
  exact W.lcmp C.ex C.by e1  (h H locs ls hP hS hl)
theorem g_dup {va : Value} (C : Cx K cc own d) (hd : dC cc pc (.dup) 1 q tgt) (hva : va.category = 1) (h : G K cs q lv (va :: va :: rest) M) : G K cs pc lv (va :: rest) M := by
  obtain ⟨e1, rfl, -⟩ := hd
  intro H locs ls hP hS hl
  exact lv_dup C.ex C.by e1 hva (h H locs ls hP hS hl)
theorem g_dup2 {va vb : Value} (C : Cx K cc own d) (hd : dC cc pc (.dup2) 1 q tgt) (hva : va.category = 1) (hvb : vb.category = 1) (h : G K cs q lv (va :: vb :: va :: vb :: rest) M) : G K cs pc lv (va :: vb :: rest) M := by
  obtain ⟨e1, rfl, -⟩ := hd
  intro H locs ls hP hS hl
  exact lv_dup2_11 C.ex C.by e1 hva hvb (h H locs ls hP hS hl)
theorem g_dup2l {va : Value} (C : Cx K cc own d) (hd : dC cc pc (.dup2) 1 q tgt) (hva : va.category = 2) (h : G K cs q lv (va :: va :: rest) M) : G K cs pc lv (va :: rest) M := by
  obtain ⟨e1, rfl, -⟩ := hd
  intro H locs ls hP hS hl
  exact lv_dup2_2 C.ex C.by e1 hva (h H locs ls hP hS hl)
theorem g_dup_x1 {va vb : Value} (C : Cx K cc own d) (hd : dC cc pc (.dup_x1) 1 q tgt) (hva : va.category = 1) (hvb : vb.category = 1) (h : G K cs q lv (va :: vb :: va :: rest) M) : G K cs pc lv (va :: vb :: rest) M := by
  obtain ⟨e1, rfl, -⟩ := hd
  intro H locs ls hP hS hl
  exact lv_dup_x1 C.ex C.by e1 hva hvb (h H locs ls hP hS hl)
theorem g_pop {va : Value} (C : Cx K cc own d) (hd : dC cc pc (.pop) 1 q tgt) (hva : va.category = 1) (h : G K cs q lv (rest) M) : G K cs pc lv (va :: rest) M := by
  obtain ⟨e1, rfl, -⟩ := hd
  intro H locs ls hP hS hl
  exact lv_pop C.ex C.by e1 hva (h H locs ls hP hS hl)
theorem g_iconst {n : Int} {v : Int32} (C : Cx K cc own d) (hd : dC cc pc (.iconst n) 1 q tgt) (hv : Int32.ofInt n = v) (h : G K cs q lv (.int v :: rest) M) : G K cs pc lv (rest) M := by
  obtain ⟨e1, rfl, -⟩ := hd
  intro H locs ls hP hS hl
  exact lv_iconst C.ex C.by e1 hv (h H locs ls hP hS hl)
theorem g_bipush {n : Int} {v : Int32} (C : Cx K cc own d) (hd : dC cc pc (.bipush n) 2 q tgt) (hv : (Int8.ofInt n).toInt32 = v) (h : G K cs q lv (.int v :: rest) M) : G K cs pc lv (rest) M := by
  obtain ⟨e1, rfl, -⟩ := hd
  intro H locs ls hP hS hl
  exact lv_bipush C.ex C.by e1 hv (h H locs ls hP hS hl)
theorem g_sipush {n : Int} {v : Int32} (C : Cx K cc own d) (hd : dC cc pc (.sipush n) 3 q tgt) (hv : (Int16.ofInt n).toInt32 = v) (h : G K cs q lv (.int v :: rest) M) : G K cs pc lv (rest) M := by
  obtain ⟨e1, rfl, -⟩ := hd
  intro H locs ls hP hS hl
  exact lv_sipush C.ex C.by e1 hv (h H locs ls hP hS hl)
theorem g_lconst {n : Fin 2} {v : Int64} (C : Cx K cc own d) (hd : dC cc pc (.lconst n) 1 q tgt) (hv : Int64.ofNat (n : Nat) = v) (h : G K cs q lv (.long v :: rest) M) : G K cs pc lv (rest) M := by
  obtain ⟨e1, rfl, -⟩ := hd
  intro H locs ls hP hS hl
  exact lv_lconst C.ex C.by e1 hv (h H locs ls hP hS hl)
theorem g_ldc {k : Nat} {v : Int32} (C : Cx K cc own d) (hd : dC cc pc (.ldc k) 2 q tgt) (hw : Cond.constant own k v ∈ RQ) (h : G K cs q lv (.int v :: rest) M) : G K cs pc lv rest M := by
  obtain ⟨e1, rfl, -⟩ := hd
  intro H locs ls hP hS hl
  exact lv_ldc C.ex C.by C.ow (C.rq _ hw) e1 (h H locs ls hP hS hl)
theorem g_ldcw {k : Nat} {v : Int32} (C : Cx K cc own d) (hd : dC cc pc (.ldc_w k) 3 q tgt) (hw : Cond.constant own k v ∈ RQ) (h : G K cs q lv (.int v :: rest) M) : G K cs pc lv rest M := by
  obtain ⟨e1, rfl, -⟩ := hd
  intro H locs ls hP hS hl
  exact lv_ldcw C.ex C.by C.ow (C.rq _ hw) e1 (h H locs ls hP hS hl)
theorem g_ldc2 {k : Nat} {v : Int64} (C : Cx K cc own d) (hd : dC cc pc (.ldc2_w k) 3 q tgt) (hw : Cond.constantLong own k v ∈ RQ) (h : G K cs q lv (.long v :: rest) M) : G K cs pc lv rest M := by
  obtain ⟨e1, rfl, -⟩ := hd
  intro H locs ls hP hS hl
  exact lv_ldc2 C.ex C.by C.ow (C.rq _ hw) e1 (h H locs ls hP hS hl)
theorem g_iload_n {k : Fin 4} {i : Nat} {x : Int32} (j : Nat) (C : Cx K cc own d) (hd : dC cc pc (.iload_n k) 1 q tgt) (hj : lv[j]? = some (i, .int x)) (hi : (k : Nat) = i) (h : G K cs q lv (.int x :: rest) M) : G K cs pc lv rest M := by
  obtain ⟨e1, rfl, -⟩ := hd
  intro H locs ls hP hS hl
  exact lv_iload_n C.ex C.by e1 hi (lv_at hl j hj) (h H locs ls hP hS hl)
theorem g_iload {i : Nat} {x : Int32} (j : Nat) (C : Cx K cc own d) (hd : dC cc pc (.iload i) 2 q tgt) (hj : lv[j]? = some (i, .int x)) (h : G K cs q lv (.int x :: rest) M) : G K cs pc lv rest M := by
  obtain ⟨e1, rfl, -⟩ := hd
  intro H locs ls hP hS hl
  exact lv_iload C.ex C.by e1 (lv_at hl j hj) (h H locs ls hP hS hl)
theorem g_istore_n {k : Fin 4} {i : Nat} {x : Int32} {lv' : List (Nat × Value)} (C : Cx K cc own d) (hd : dC cc pc (.istore_n k) 1 q tgt) (hi : (k : Nat) = i) (hn : i < K.2.2.1) (hl : (i, Value.int x) :: lv.filter (fun q => !(q.1 == i) && !(q.1 + 1 == i && q.2.category == 2)) = lv') (h : G K cs q lv' rest M) : G K cs pc lv (.int x :: rest) M := by
  obtain ⟨e1, rfl, -⟩ := hd
  intro H locs ls hP hS hv
  exact lv_istore_n C.ex C.by e1 hi hv hn hl (fun ls2 hv2 => h H locs ls2 hP hS hv2)
theorem g_istore {i : Nat} {x : Int32} {lv' : List (Nat × Value)} (C : Cx K cc own d) (hd : dC cc pc (.istore i) 2 q tgt) (hn : i < K.2.2.1) (hl : (i, Value.int x) :: lv.filter (fun q => !(q.1 == i) && !(q.1 + 1 == i && q.2.category == 2)) = lv') (h : G K cs q lv' rest M) : G K cs pc lv (.int x :: rest) M := by
  obtain ⟨e1, rfl, -⟩ := hd
  intro H locs ls hP hS hv
  exact lv_istore C.ex C.by e1 hv hn hl (fun ls2 hv2 => h H locs ls2 hP hS hv2)
theorem g_lload_n {k : Fin 4} {i : Nat} {x : Int64} (j : Nat) (C : Cx K cc own d) (hd : dC cc pc (.lload_n k) 1 q tgt) (hj : lv[j]? = some (i, .long x)) (hi : (k : Nat) = i) (h : G K cs q lv (.long x :: rest) M) : G K cs pc lv rest M := by
  obtain ⟨e1, rfl, -⟩ := hd
  intro H locs ls hP hS hl
  exact lv_lload_n C.ex C.by e1 hi (lv_at hl j hj) (h H locs ls hP hS hl)
theorem g_lload {i : Nat} {x : Int64} (j : Nat) (C : Cx K cc own d) (hd : dC cc pc (.lload i) 2 q tgt) (hj : lv[j]? = some (i, .long x)) (h : G K cs q lv (.long x :: rest) M) : G K cs pc lv rest M := by
  obtain ⟨e1, rfl, -⟩ := hd
  intro H locs ls hP hS hl
  exact lv_lload C.ex C.by e1 (lv_at hl j hj) (h H locs ls hP hS hl)
theorem g_lstore_n {k : Fin 4} {i : Nat} {x : Int64} {lv' : List (Nat × Value)} (C : Cx K cc own d) (hd : dC cc pc (.lstore_n k) 1 q tgt) (hi : (k : Nat) = i) (hn : i + 1 < K.2.2.1) (hl : (i, Value.long x) :: lv.filter (fun q => !(q.1 == i) && (!(q.1 == i + 1) && !(q.1 + 1 == i && q.2.category == 2))) = lv') (h : G K cs q lv' rest M) : G K cs pc lv (.long x :: rest) M := by
  obtain ⟨e1, rfl, -⟩ := hd
  intro H locs ls hP hS hv
  exact lv_lstore_n C.ex C.by e1 hi hv hn hl (fun ls2 hv2 => h H locs ls2 hP hS hv2)
theorem g_lstore {i : Nat} {x : Int64} {lv' : List (Nat × Value)} (C : Cx K cc own d) (hd : dC cc pc (.lstore i) 2 q tgt) (hn : i + 1 < K.2.2.1) (hl : (i, Value.long x) :: lv.filter (fun q => !(q.1 == i) && (!(q.1 == i + 1) && !(q.1 + 1 == i && q.2.category == 2))) = lv') (h : G K cs q lv' rest M) : G K cs pc lv (.long x :: rest) M := by
  obtain ⟨e1, rfl, -⟩ := hd
  intro H locs ls hP hS hv
  exact lv_lstore C.ex C.by e1 hv hn hl (fun ls2 hv2 => h H locs ls2 hP hS hv2)
theorem g_aload_n {k : Fin 4} {i : Nat} {x : Nat} (j : Nat) (C : Cx K cc own d) (hd : dC cc pc (.aload_n k) 1 q tgt) (hj : lv[j]? = some (i, .ref x)) (hi : (k : Nat) = i) (h : G K cs q lv (.ref x :: rest) M) : G K cs pc lv rest M := by
  obtain ⟨e1, rfl, -⟩ := hd
  intro H locs ls hP hS hl
  exact lv_aload_n C.ex C.by e1 hi (lv_at hl j hj) (h H locs ls hP hS hl)
theorem g_aload {i : Nat} {x : Nat} (j : Nat) (C : Cx K cc own d) (hd : dC cc pc (.aload i) 2 q tgt) (hj : lv[j]? = some (i, .ref x)) (h : G K cs q lv (.ref x :: rest) M) : G K cs pc lv rest M := by
  obtain ⟨e1, rfl, -⟩ := hd
  intro H locs ls hP hS hl
  exact lv_aload C.ex C.by e1 (lv_at hl j hj) (h H locs ls hP hS hl)
theorem g_astore_n {k : Fin 4} {i : Nat} {x : Nat} {lv' : List (Nat × Value)} (C : Cx K cc own d) (hd : dC cc pc (.astore_n k) 1 q tgt) (hi : (k : Nat) = i) (hn : i < K.2.2.1) (hl : (i, Value.ref x) :: lv.filter (fun q => !(q.1 == i) && !(q.1 + 1 == i && q.2.category == 2)) = lv') (h : G K cs q lv' rest M) : G K cs pc lv (.ref x :: rest) M := by
  obtain ⟨e1, rfl, -⟩ := hd
  intro H locs ls hP hS hv
  exact lv_astore_n C.ex C.by e1 hi hv hn hl (fun ls2 hv2 => h H locs ls2 hP hS hv2)
theorem g_astore {i : Nat} {x : Nat} {lv' : List (Nat × Value)} (C : Cx K cc own d) (hd : dC cc pc (.astore i) 2 q tgt) (hn : i < K.2.2.1) (hl : (i, Value.ref x) :: lv.filter (fun q => !(q.1 == i) && !(q.1 + 1 == i && q.2.category == 2)) = lv') (h : G K cs q lv' rest M) : G K cs pc lv (.ref x :: rest) M := by
  obtain ⟨e1, rfl, -⟩ := hd
  intro H locs ls hP hS hv
  exact lv_astore C.ex C.by e1 hv hn hl (fun ls2 hv2 => h H locs ls2 hP hS hv2)
theorem g_iinc {i : Nat} {n : Int} {x v : Int32} {lv' : List (Nat × Value)} (j : Nat) (C : Cx K cc own d) (hd : dC cc pc (.iinc i n) 3 q tgt) (hj : lv[j]? = some (i, .int x)) (hv : x + Int32.ofInt n = v) (hn : i < K.2.2.1) (hl : (i, Value.int v) :: lv.filter (fun q => !(q.1 == i) && !(q.1 + 1 == i && q.2.category == 2)) = lv') (h : G K cs q lv' rest M) : G K cs pc lv rest M := by
  obtain ⟨e1, rfl, -⟩ := hd
  intro H locs ls hP hS hw
  exact lv_iinc C.ex C.by e1 hw hj hv hn hl (fun ls2 hv2 => h H locs ls2 hP hS hv2)
theorem g_if_eq {x : Int32} {o : Int} (C : Cx K cc own d) (hd : dC cc pc (.ifCond .eq o) 3 q tgt) (kt : x = 0 → G K cs tgt lv rest M) (kf : ¬ x = 0 → G K cs q lv rest M) : G K cs pc lv (.int x :: rest) M := by
  obtain ⟨e1, rfl, e3⟩ := hd
  intro H locs ls hP hS hl
  exact lv_if_eq C.ex C.by e1 (e3 _ rfl) (fun z => kt z H locs ls hP hS hl) (fun z => kf z H locs ls hP hS hl)
theorem g_if_ne {x : Int32} {o : Int} (C : Cx K cc own d) (hd : dC cc pc (.ifCond .ne o) 3 q tgt) (kt : ¬ x = 0 → G K cs tgt lv rest M) (kf : x = 0 → G K cs q lv rest M) : G K cs pc lv (.int x :: rest) M := by
  obtain ⟨e1, rfl, e3⟩ := hd
  intro H locs ls hP hS hl
  exact lv_if_ne C.ex C.by e1 (e3 _ rfl) (fun z => kt z H locs ls hP hS hl) (fun z => kf z H locs ls hP hS hl)
theorem g_if_lt {x : Int32} {o : Int} (C : Cx K cc own d) (hd : dC cc pc (.ifCond .lt o) 3 q tgt) (kt : x < 0 → G K cs tgt lv rest M) (kf : ¬ x < 0 → G K cs q lv rest M) : G K cs pc lv (.int x :: rest) M := by
  obtain ⟨e1, rfl, e3⟩ := hd
  intro H locs ls hP hS hl
  exact lv_if_lt C.ex C.by e1 (e3 _ rfl) (fun z => kt z H locs ls hP hS hl) (fun z => kf z H locs ls hP hS hl)
theorem g_if_ge {x : Int32} {o : Int} (C : Cx K cc own d) (hd : dC cc pc (.ifCond .ge o) 3 q tgt) (kt : 0 ≤ x → G K cs tgt lv rest M) (kf : ¬ 0 ≤ x → G K cs q lv rest M) : G K cs pc lv (.int x :: rest) M := by
  obtain ⟨e1, rfl, e3⟩ := hd
  intro H locs ls hP hS hl
  exact lv_if_ge C.ex C.by e1 (e3 _ rfl) (fun z => kt z H locs ls hP hS hl) (fun z => kf z H locs ls hP hS hl)
theorem g_if_gt {x : Int32} {o : Int} (C : Cx K cc own d) (hd : dC cc pc (.ifCond .gt o) 3 q tgt) (kt : 0 < x → G K cs tgt lv rest M) (kf : ¬ 0 < x → G K cs q lv rest M) : G K cs pc lv (.int x :: rest) M := by
  obtain ⟨e1, rfl, e3⟩ := hd
  intro H locs ls hP hS hl
  exact lv_if_gt C.ex C.by e1 (e3 _ rfl) (fun z => kt z H locs ls hP hS hl) (fun z => kf z H locs ls hP hS hl)
theorem g_if_le {x : Int32} {o : Int} (C : Cx K cc own d) (hd : dC cc pc (.ifCond .le o) 3 q tgt) (kt : x ≤ 0 → G K cs tgt lv rest M) (kf : ¬ x ≤ 0 → G K cs q lv rest M) : G K cs pc lv (.int x :: rest) M := by
  obtain ⟨e1, rfl, e3⟩ := hd
  intro H locs ls hP hS hl
  exact lv_if_le C.ex C.by e1 (e3 _ rfl) (fun z => kt z H locs ls hP hS hl) (fun z => kf z H locs ls hP hS hl)
theorem g_icmp_eq {x y : Int32} {o : Int} (C : Cx K cc own d) (hd : dC cc pc (.if_icmp .eq o) 3 q tgt) (kt : x = y → G K cs tgt lv rest M) (kf : ¬ x = y → G K cs q lv rest M) : G K cs pc lv (.int y :: .int x :: rest) M := by
  obtain ⟨e1, rfl, e3⟩ := hd
  intro H locs ls hP hS hl
  exact lv_icmp_eq C.ex C.by e1 (e3 _ rfl) (fun z => kt z H locs ls hP hS hl) (fun z => kf z H locs ls hP hS hl)
theorem g_icmp_ne {x y : Int32} {o : Int} (C : Cx K cc own d) (hd : dC cc pc (.if_icmp .ne o) 3 q tgt) (kt : ¬ x = y → G K cs tgt lv rest M) (kf : x = y → G K cs q lv rest M) : G K cs pc lv (.int y :: .int x :: rest) M := by
  obtain ⟨e1, rfl, e3⟩ := hd
  intro H locs ls hP hS hl
  exact lv_icmp_ne C.ex C.by e1 (e3 _ rfl) (fun z => kt z H locs ls hP hS hl) (fun z => kf z H locs ls hP hS hl)
theorem g_icmp_lt {x y : Int32} {o : Int} (C : Cx K cc own d) (hd : dC cc pc (.if_icmp .lt o) 3 q tgt) (kt : x < y → G K cs tgt lv rest M) (kf : ¬ x < y → G K cs q lv rest M) : G K cs pc lv (.int y :: .int x :: rest) M := by
  obtain ⟨e1, rfl, e3⟩ := hd
  intro H locs ls hP hS hl
  exact lv_icmp_lt C.ex C.by e1 (e3 _ rfl) (fun z => kt z H locs ls hP hS hl) (fun z => kf z H locs ls hP hS hl)
theorem g_icmp_ge {x y : Int32} {o : Int} (C : Cx K cc own d) (hd : dC cc pc (.if_icmp .ge o) 3 q tgt) (kt : y ≤ x → G K cs tgt lv rest M) (kf : ¬ y ≤ x → G K cs q lv rest M) : G K cs pc lv (.int y :: .int x :: rest) M := by
  obtain ⟨e1, rfl, e3⟩ := hd
  intro H locs ls hP hS hl
  exact lv_icmp_ge C.ex C.by e1 (e3 _ rfl) (fun z => kt z H locs ls hP hS hl) (fun z => kf z H locs ls hP hS hl)
theorem g_icmp_gt {x y : Int32} {o : Int} (C : Cx K cc own d) (hd : dC cc pc (.if_icmp .gt o) 3 q tgt) (kt : y < x → G K cs tgt lv rest M) (kf : ¬ y < x → G K cs q lv rest M) : G K cs pc lv (.int y :: .int x :: rest) M := by
  obtain ⟨e1, rfl, e3⟩ := hd
  intro H locs ls hP hS hl
  exact lv_icmp_gt C.ex C.by e1 (e3 _ rfl) (fun z => kt z H locs ls hP hS hl) (fun z => kf z H locs ls hP hS hl)
theorem g_icmp_le {x y : Int32} {o : Int} (C : Cx K cc own d) (hd : dC cc pc (.if_icmp .le o) 3 q tgt) (kt : x ≤ y → G K cs tgt lv rest M) (kf : ¬ x ≤ y → G K cs q lv rest M) : G K cs pc lv (.int y :: .int x :: rest) M := by
  obtain ⟨e1, rfl, e3⟩ := hd
  intro H locs ls hP hS hl
  exact lv_icmp_le C.ex C.by e1 (e3 _ rfl) (fun z => kt z H locs ls hP hS hl) (fun z => kf z H locs ls hP hS hl)
theorem g_goto {o : Int} (C : Cx K cc own d) (hd : dC cc pc (.goto o) 3 q tgt) (h : G K cs tgt lv rest M) : G K cs pc lv rest M := by
  obtain ⟨e1, -, e3⟩ := hd
  intro H locs ls hP hS hl
  exact lv_goto C.ex C.by e1 (e3 _ rfl) (h H locs ls hP hS hl)
end GRows
