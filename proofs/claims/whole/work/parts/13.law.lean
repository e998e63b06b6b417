/-! THE LAW'S OWN METHODS: a call within a try, and calls of methods with a table -/
def CW (E : Ev) (l : Launch) (d mc ms : Nat) (y : MethodName) (cc : ByteArray) (maxL : Nat) (ret : Option FieldType) (hh : List (Nat × Nat × Nat × Nat)) (av : List Value) (M : Mm) (out : Option Value) (M' : Mm) : Prop :=
  vx_Met l y (Cond.codeWith y cc maxL ret hh :: RQ) (rmD d mc ms) (Pv E av M) (QvX E (some out) M') (XvX E (some out) M') mc ms (zA E)
theorem CW.of {E : Ev} {l : Launch} {d mc ms : Nat} {y : MethodName} {cc : ByteArray} {maxL : Nat} {ret : Option FieldType} {hh : List (Nat × Nat × Nat × Nat)} {av : List Value} {M : Mm} {out : Option Value} {M' : Mm} (htr : l.stackTraces = false) (hy : plainName y.cls = true) (hav : (lg_sl av).length ≤ maxL)
    (body : ∀ K : Kx, K.2.1 = E → K.2.2.1 = maxL → K.1.l = l → K.1.R = rmD d mc ms → Cx K cc y.cls d → K.1.meth.sig.returnType = ret → K.1.c.exceptionTable.toList = tableOf hh → Rv K mc ms out M' → G K (0, 0) 0 (lv_args 0 av) [] M) : CW E l d mc ms y cc maxL ret hh av M out M' := by
  refine vx_ofWH (cc := cc) (maxL := maxL) (ret := ret) (hh := hh) hy rfl ?_
  intro p e s m args below meth c s₁ B hml hv
  obtain ⟨rfl, hI, hsz, hP⟩ := hv
  have hts := atoms_spec (ws := Cond.codeWith y cc maxL ret hh :: RQ) B.pre
  have htab := vx_table (x := y) B (hts _ List.mem_cons_self)
  have hown : s.vm.findClass y.cls = some m.cls := findClass_of_methodNamed B.named
  have hl := lv_entry av (n := maxL) hav
  rw [lg_entry_eq]
  refine body ((p, l, e, rmD d mc ms, s, m, av.toArray, below, meth, c), E, maxL, vx_MQ below (QvX E (some out) M') (XvX E (some out) M') av.toArray s mc ms (zA E)) rfl rfl rfl rfl
    ⟨B.exec, B.bytes, hml, hown, fun w hw => hts w (List.mem_cons_of_mem _ hw), B.notSynchronized, hI, hsz, Nat.le_refl _, Nat.le_refl _, htr⟩ B.returns htab ?_ s.heap [] _ hP va_S.rf hl
  intro t ⟨oc, h1, h2, ⟨h3, h4, h5⟩, h6⟩
  exact ⟨oc, h1, h2, Or.inl ⟨⟨out, rfl, h3, h4, h5⟩, h6⟩⟩
section GLaw
variable {K : Kx} {cc : ByteArray} {own : String} {d : Nat} {cs : Nat × Nat} {pc len q tgt : Nat} {lv : List (Nat × Value)} {st : List Value} {M M' : Mm} {y : MethodName} {bytes : ByteArray} {maxL n d' mc' ms' ix : Nat} {ret : Option FieldType} {o : Option (Option Value)}
theorem g_finC {H : Heap} {locs : List Loc} {av : Array Value} {ls : Array Slot} {rest : List Value} {h0 h1 h2 h3 : Nat} (C : Cx K cc own d)
    (hr : vx_Run K.1.p K.1.l K.1.e K.1.R K.1.s K.1.m K.1.args K.1.below K.1.meth K.1.c H locs cs.1 cs.2 mc' ms' (F0 K.1.m pc ls st) rest (QvX K.2.1 o M' av) (XvX K.2.1 o M') (zA K.2.1)) (hS : va_S (zA K.2.1) K.1.s.heap H locs) (hl : lv_has ls K.2.2.1 lv)
    (hT : K.1.c.exceptionTable.toList = tableOf [(h0, h1, h2, h3)]) (hcov : covers (⟨h0, h1, h2, h3⟩ : ExceptionTableEntry) pc = true) (hn0 : h3 ≠ 0) (hlink : Cond.classLink own h3 nse ∈ RQ) (hcast : Cond.castable nse nse ∈ HWs)
    (hx : o = none → ∀ qq : Nat, G K (cs.1 + mc', cs.2 + ms') h2 lv [.ref qq] M')
    (h : ∀ v, o = some v → G K (cs.1 + mc', cs.2 + ms') (pc + 3) lv (v.toList ++ rest) M') : W0 K H locs cs (F0 K.1.m pc ls st) := by
  intro T hT2 X
  rcases hr T hT2 X with ⟨v, st₀, t, T', L, h0, X', hL, e1, e2, ⟨w, hov, hv, hP1, hz, hk⟩, hst⟩ | ⟨qq, st₀, t, T', L, Ec, ce, h0, X', hL, e1, e2, ⟨hov, rfl, hP1, hz, hk⟩, hce, hcv, hcl, hst⟩
  · cases hv
    rw [h0] at hz hk
    have hS1 : va_S (zA K.2.1) K.1.s.heap T'.heap (locs ++ L) := ⟨Nat.le_trans hS.1 (by rw [e1]; exact hz), fun z h1 h2 => by rw [e1, hk z (Nat.lt_of_lt_of_le h1 hS.1) h2]; exact hS.2.1 z h1 h2, fun z hz => by
      rcases List.mem_append.mp hz with h | h
      · exact hS.2.2 z h
      · exact hL z h⟩
    obtain ⟨t2, a1, b1⟩ := h _ hov T'.heap (locs ++ L) ls (by rw [e1]; exact hP1) hS1 hl T' rfl X'
    exact ⟨t2, hst t2 a1, b1⟩
  · rw [h0] at hz hk
    have hS1 : va_S (zA K.2.1) K.1.s.heap T'.heap (locs ++ L) := ⟨Nat.le_trans hS.1 (by rw [e1]; exact hz), fun z h1 h2 => by rw [e1, hk z (Nat.lt_of_lt_of_le h1 hS.1) h2]; exact hS.2.1 z h1 h2, fun z hz => by
      rcases List.mem_append.mp hz with h | h
      · exact hS.2.2 z h
      · exact hL z h⟩
    have hP2 : va_P (zD K.2.1) vwCl (WD K.2.1 M') T'.heap := by rw [e1]; exact hP1
    have key := vx_catch (own := own) (name := nse) (E := nse) (ce := ce) (q := qq) (H := T'.heap) (locs := locs ++ L) (cells := cs.1 + mc') (slots := cs.2 + ms') (p := K.1.p) (l := K.1.l) (e := K.1.e) (R := K.1.R) (m := K.1.m) (args := K.1.args) (below := K.1.below) (Q := K.2.2.2) (ls := ls) (rest := rest) (pc := pc) (meth := K.1.meth)
      C.ow [] _ [] hT (fun z hz => by cases hz) hcov hn0 (C.rq _ hlink) (va_Nw.use rfl (C.iv.2.1 _ hcast)) (by rw [e1]; exact hce) hcv hcl (hx hov qq T'.heap (locs ++ L) ls hP2 hS1 hl)
    obtain ⟨t2, a1, b1⟩ := key T' rfl X'
    exact ⟨t2, hst.trans a1, b1⟩
theorem g_cVC {k ci : Nat} {z : List (Nat × Nat)} {h0 h1 h2 h3 : Nat} (As rest : List Value) (C : Cx K cc own d) (hd : dC cc pc (.invokevirtual ix) 3 q tgt) (hV : VK own ix ci y bytes maxL ret n) (hM : CX K.2.1 K.1.l d' mc' ms' y bytes maxL ret (.ref (K.2.1.1 + k) :: As) M o M') (hk : LT[k]? = some (4, ci, z))
    (hst : st = As.reverse ++ .ref (K.2.1.1 + k) :: rest) (hn : As.length = n) (hW : (rest.map fun v => v.category).sum ≤ 8) (hdd : d' < d) (hc : cs.1 + mc' ≤ K.1.R.cells ∧ cs.2 + ms' ≤ K.1.R.slots)
    (hT : K.1.c.exceptionTable.toList = tableOf [(h0, h1, h2, h3)]) (hcov : covers (⟨h0, h1, h2, h3⟩ : ExceptionTableEntry) pc = true) (hn0 : h3 ≠ 0) (hlink : Cond.classLink own h3 nse ∈ RQ) (hcast : Cond.castable nse nse ∈ HWs)
    (hx : o = none → ∀ qq : Nat, G K (cs.1 + mc', cs.2 + ms') h2 lv [.ref qq] M')
    (h : ∀ v, o = some v → G K (cs.1 + mc', cs.2 + ms') q lv (v.toList ++ rest) M') : G K cs pc lv st M := by
  obtain ⟨e1, rfl, -⟩ := hd
  obtain ⟨Cn, T, N, v1, v2, v3, v4, v5, v6, v7, v8, v9, v10⟩ := hV
  have hfr := C.fr; have hlo := C.lo
  intro H locs ls hP hS hl
  refine g_finC C (vx_runV (C := Cn) (As := As) (rest := rest) (b := K.2.1.1 + k) (n := n) ⟨C.ex, C.by, C.ml, C.ow, C.rq⟩ hM (cwV n C.rq (RQ_gi v3 v4 v5 v6 v7 (fun _ h => h)) rfl rfl rfl ⟨v2, v8.1, v8.2, v9⟩ ⟨?_, ?_⟩) ⟨Pv.blind, ?_, g_pre C hP hS⟩ rfl hn hl.1 hst (by simpa using hW) e1 hc) hS hl hT hcov hn0 hlink hcast hx h
  · show d' + 1 ≤ K.1.R.frames
    omega
  · show 8 + (maxL + 11) + (64 * d' + 100) ≤ K.1.R.locals
    omega
  · exact va_recv C.iv.1 hP v1 (WD_get hk)
theorem n_cVCt {k ci : Nat} {z : List (Nat × Nat)} {h0 h1 h2 h3 : Nat} (As rest : List Value) (C : Cx K cc own d) (hd : dC cc pc (.invokevirtual ix) 3 q tgt) (hV : VK own ix ci y bytes maxL ret n) (hM : CX K.2.1 K.1.l d' mc' ms' y bytes maxL ret (.ref (K.2.1.1 + k) :: As) M o M') (hk : LT[k]? = some (4, ci, z))
    (hst : st = As.reverse ++ .ref (K.2.1.1 + k) :: rest) (hn : As.length = n) (hW : (rest.map fun v => v.category).sum ≤ 8) (hdd : d' < d) (hc : cs.1 + mc' ≤ K.1.R.cells ∧ cs.2 + ms' ≤ K.1.R.slots)
    (hT : K.1.c.exceptionTable.toList = tableOf [(h0, h1, h2, h3)]) (hcov : covers (⟨h0, h1, h2, h3⟩ : ExceptionTableEntry) pc = true) (hn0 : h3 ≠ 0) (hlink : Cond.classLink own h3 nse ∈ RQ) (hcast : Cond.castable nse nse ∈ HWs) (ho : o = none)
    (hx : ∀ qq : Nat, G K (cs.1 + mc', cs.2 + ms') h2 lv [.ref qq] M') : G K cs pc lv st M := g_cVC As rest C hd hV hM hk hst hn hW hdd hc hT hcov hn0 hlink hcast (fun _ => hx) (fun v hv => by rw [ho] at hv; cases hv)
theorem n_cVCr {k ci : Nat} {z : List (Nat × Nat)} {h0 h1 h2 h3 : Nat} {v : Option Value} {st' : List Value} (As rest : List Value) (C : Cx K cc own d) (hd : dC cc pc (.invokevirtual ix) 3 q tgt) (hV : VK own ix ci y bytes maxL ret n) (hM : CX K.2.1 K.1.l d' mc' ms' y bytes maxL ret (.ref (K.2.1.1 + k) :: As) M o M') (hk : LT[k]? = some (4, ci, z))
    (hst : st = As.reverse ++ .ref (K.2.1.1 + k) :: rest) (hn : As.length = n) (hW : (rest.map fun v => v.category).sum ≤ 8) (hdd : d' < d) (hc : cs.1 + mc' ≤ K.1.R.cells ∧ cs.2 + ms' ≤ K.1.R.slots)
    (hT : K.1.c.exceptionTable.toList = tableOf [(h0, h1, h2, h3)]) (hcov : covers (⟨h0, h1, h2, h3⟩ : ExceptionTableEntry) pc = true) (hn0 : h3 ≠ 0) (hlink : Cond.classLink own h3 nse ∈ RQ) (hcast : Cond.castable nse nse ∈ HWs) (ho : o = some v) (hs : st' = v.toList ++ rest)
    (h : G K (cs.1 + mc', cs.2 + ms') q lv st' M') : G K cs pc lv st M := g_cVC As rest C hd hV hM hk hst hn hW hdd hc hT hcov hn0 hlink hcast (fun e => by rw [ho] at e; cases e) (fun w hw => by rw [ho] at hw; cases hw; exact hs ▸ h)
def WK (own : String) (ix : Nat) (y : MethodName) (bytes : ByteArray) (maxL : Nat) (ret : Option FieldType) (hh : List (Nat × Nat × Nat × Nat)) (n : Nat) : Prop := Cond.methodLink own ix y ∈ RQ ∧ Cond.static y ∈ RQ ∧ Cond.initialized y.cls ∈ RQ ∧ Cond.codeWith y bytes maxL ret hh ∈ RQ ∧
  (y.cls ≠ "java/lang/invoke/MethodHandle" ∧ y.cls ≠ "java/lang/invoke/VarHandle") ∧ (parseMethodDescriptor y.desc).map (fun d => d.parameters.length) = some n ∧ maxL ≤ 40
theorem g_cSW {hh : List (Nat × Nat × Nat × Nat)} {out : Option Value} {st' : List Value} (As rest : List Value) (C : Cx K cc own d) (hd : dC cc pc (.invokestatic ix) 3 q tgt) (hV : WK own ix y bytes maxL ret hh n) (hM : CW K.2.1 K.1.l d' mc' ms' y bytes maxL ret hh As M out M')
    (hst : st = As.reverse ++ rest) (hn : As.length = n) (hW : (rest.map fun v => v.category).sum ≤ 8) (hdd : d' < d) (hc : cs.1 + mc' ≤ K.1.R.cells ∧ cs.2 + ms' ≤ K.1.R.slots) (ho : st' = out.toList ++ rest)
    (h : G K (cs.1 + mc', cs.2 + ms') q lv st' M') : G K cs pc lv st M := by
  obtain ⟨e1, rfl, -⟩ := hd
  obtain ⟨v3, v4, v6, v7, v8, v9, v10⟩ := hV
  have hfr := C.fr; have hlo := C.lo
  intro H locs ls hP hS hl
  have hR1 : (rmD d' mc' ms').frames + 1 ≤ K.1.R.frames := by show d' + 1 ≤ K.1.R.frames; omega
  have hR2 : 8 + (maxL + 11) + (rmD d' mc' ms').locals ≤ K.1.R.locals := by show 8 + (maxL + 11) + (64 * d' + 100) ≤ K.1.R.locals; omega
  have hr := vx_runSX (hh := hh) (As := As) (rest := rest) (n := n) (g := F0 K.1.m pc ls st) (H := H) (locs := locs) (cells := cs.1) (slots := cs.2) (e := K.1.e) (R := K.1.R) (below := K.1.below) (meth := K.1.meth) ⟨C.ex, C.by, C.ml, C.ow, C.rq⟩ hM (vx_cwSW n C.rq (RQ_gi3 v3 v4 v6 v7 (fun _ h => h)) rfl rfl rfl ⟨v8.1, v8.2, v9⟩ ⟨hR1, hR2⟩) ⟨Pv.blind, g_pre C hP hS⟩ rfl hn hl.1 hst (by simpa using hW) e1 hc
  intro T hT2 X
  rcases hr T hT2 X with ⟨v, st₀, t, T', L, h0, X', hL, e1, e2, ⟨w, hov, hv, hP1, hz, hk⟩, hst⟩ | ⟨qq, st₀, t, T', L, Ec, ce, h0, X', hL, e1, e2, ⟨hov, -⟩, -⟩
  · cases hv
    cases hov
    rw [h0] at hz hk
    have hS1 : va_S (zA K.2.1) K.1.s.heap T'.heap (locs ++ L) := ⟨Nat.le_trans hS.1 (by rw [e1]; exact hz), fun z h1 h2 => by rw [e1, hk z (Nat.lt_of_lt_of_le h1 hS.1) h2]; exact hS.2.1 z h1 h2, fun z hz => by
      rcases List.mem_append.mp hz with h | h
      · exact hS.2.2 z h
      · exact hL z h⟩
    obtain ⟨t2, a1, b1⟩ := (ho ▸ h) T'.heap (locs ++ L) ls (by rw [e1]; exact hP1) hS1 hl T' rfl X'
    exact ⟨t2, hst t2 a1, b1⟩
  · cases hov
end GLaw
