/-! CONTRACTS: what a method answers at these arguments and this memory; calls, ends -/
def rmD (d mc ms : Nat) : Room := { frames := d, cells := mc, slots := ms, locals := 64 * d + 100 }
def Pv (E : Ev) (av : List Value) (M : Mm) : Array Value → State → Prop := va_Pc av (Wv E M)
def Qv (E : Ev) (out : Option Value) (M' : Mm) : Array Value → State → Outcome → State → Prop := fun _ st o t => o = .returned out ∧ va_P (zD E) vwCl (WD E M') t.heap ∧ va_F (zA E) st t
def CM (E : Ev) (l : Launch) (d mc ms : Nat) (y : MethodName) (cc : ByteArray) (maxL : Nat) (ret : Option FieldType) (av : List Value) (M : Mm) (out : Option Value) (M' : Mm) : Prop :=
  Met l y (Cond.code y cc maxL ret :: RQ) (rmD d mc ms) (Pv E av M) (Qv E out M') mc ms (zA E)
def QvX (E : Ev) (o : Option (Option Value)) (M' : Mm) : Array Value → State → Outcome → State → Prop := fun _ st oc t => ∃ v, o = some v ∧ oc = .returned v ∧ va_P (zD E) vwCl (WD E M') t.heap ∧ va_F (zA E) st t
def XvX (E : Ev) (o : Option (Option Value)) (M' : Mm) : String → State → State → Prop := fun Ec st t => o = none ∧ Ec = nse ∧ va_P (zD E) vwCl (WD E M') t.heap ∧ va_F (zA E) st t
/-- .. of one that may throw: none is the throw -/
def CX (E : Ev) (l : Launch) (d mc ms : Nat) (y : MethodName) (cc : ByteArray) (maxL : Nat) (ret : Option FieldType) (av : List Value) (M : Mm) (o : Option (Option Value)) (M' : Mm) : Prop :=
  vx_Met l y (Cond.code y cc maxL ret :: RQ) (rmD d mc ms) (Pv E av M) (QvX E o M') (XvX E o M') mc ms (zA E)
theorem Pv.blind {E : Ev} {av : List Value} {M : Mm} : FrameBlind (Pv E av M) := fun _ U _ _ h => ⟨h.1, Iv.same (u := U) rfl rfl h.2.1, h.2.2.1, h.2.2.2⟩
def Rv (K : Kx) (mc ms : Nat) (out : Option Value) (M' : Mm) : Prop := ∀ t : State, MQ K.1.below (Qv K.2.1 out M') K.1.args K.1.s mc ms (zA K.2.1) t → K.2.2.2 t
def Xq (E : Ev) (M' : Mm) : String → State → State → Prop := fun Ec st t => Ec = nse ∧ va_P (zD E) vwCl (WD E M') t.heap ∧ va_F (zA E) st t
def Xv (K : Kx) (mc ms : Nat) (M' : Mm) : Prop := ∀ t : State, vx_MQ K.1.below (fun _ _ _ _ => False) (Xq K.2.1 M') K.1.args K.1.s mc ms (zA K.2.1) t → K.2.2.2 t
theorem W_mono {p : Program} {l : Launch} {e : Env} {R : Room} {s : State} {m : MethodId} {args : Array Value} {below : List Frame} {meth : Method} {c : Code} {H : Heap} {locs : List Loc} {cells slots : Nat} {Q Q' : State → Prop} {g : JFrame} (hQ : ∀ t, Q t → Q' t)
    (h : W p l e R s m args below meth c H locs cells slots Q g) : W p l e R s m args below meth c H locs cells slots Q' g := by
  intro T hT X
  obtain ⟨t, a, b⟩ := h T hT X
  exact ⟨t, a, hQ t b⟩
theorem vxW_mono {p : Program} {l : Launch} {e : Env} {R : Room} {s : State} {m : MethodId} {args : Array Value} {below : List Frame} {meth : Method} {c : Code} {H : Heap} {locs : List Loc} {cells slots : Nat} {Q Q' : State → Prop} {g : JFrame} {q : Addr} (hQ : ∀ t, Q t → Q' t)
    (h : vx_W p l e R s m args below meth c H locs cells slots Q g q) : vx_W p l e R s m args below meth c H locs cells slots Q' g q := by
  intro T hT X
  obtain ⟨t, a, b⟩ := h T hT X
  exact ⟨t, a, hQ t b⟩
section GEnd
variable {K : Kx} {cc : ByteArray} {own : String} {d mc ms : Nat} {cs : Nat × Nat} {pc len q tgt : Nat} {lv : List (Nat × Value)} {rest : List Value} {M : Mm}
theorem g_iret {v : Int32} (C : Cx K cc own d) (hd : dC cc pc .ireturn 1 q tgt) (hr : K.1.meth.sig.returnType = some .int) (hR : Rv K mc ms (some (.int v)) M) (hc : cs.1 ≤ mc) (hs : cs.2 ≤ ms) : G K cs pc lv [.int v] M := by
  obtain ⟨e1, -, -⟩ := hd
  intro H locs ls hP hS hl
  exact W.widen hc hs (W_mono hR (W.iret C.ex C.by hr (fun t ht hW => ⟨rfl, by rw [ht]; exact hP, hS.F ht⟩) hS.2.2 e1 (hlocks := C.lk)))
theorem g_zret {v : Int32} (C : Cx K cc own d) (hd : dC cc pc .ireturn 1 q tgt) (hr : K.1.meth.sig.returnType = some .boolean) (hn : narrow .boolean (.int v) = .int v) (hR : Rv K mc ms (some (.int v)) M) (hc : cs.1 ≤ mc) (hs : cs.2 ≤ ms) : G K cs pc lv [.int v] M := by
  obtain ⟨e1, -, -⟩ := hd
  intro H locs ls hP hS hl
  exact W.widen hc hs (W_mono hR (W.zret C.ex C.by hr hn (fun t ht hW => ⟨rfl, by rw [ht]; exact hP, hS.F ht⟩) hS.2.2 e1 (hlocks := C.lk)))
theorem g_lret {v : Int64} (C : Cx K cc own d) (hd : dC cc pc .lreturn 1 q tgt) (hr : K.1.meth.sig.returnType = some .long) (hR : Rv K mc ms (some (.long v)) M) (hc : cs.1 ≤ mc) (hs : cs.2 ≤ ms) : G K cs pc lv [.long v] M := by
  obtain ⟨e1, -, -⟩ := hd
  intro H locs ls hP hS hl
  exact W.widen hc hs (W_mono hR (W.lret C.ex C.by hr (fun t ht hW => ⟨rfl, by rw [ht]; exact hP, hS.F ht⟩) hS.2.2 e1 (hlocks := C.lk)))
theorem g_vret (C : Cx K cc own d) (hd : dC cc pc .return_ 1 q tgt) (hr : K.1.meth.sig.returnType = none) (hR : Rv K mc ms none M) (hc : cs.1 ≤ mc) (hs : cs.2 ≤ ms) : G K cs pc lv [] M := by
  obtain ⟨e1, -, -⟩ := hd
  intro H locs ls hP hS hl
  exact W.widen hc hs (W_mono hR (W.vret C.ex C.by hr (fun t ht hW => ⟨rfl, by rw [ht]; exact hP, hS.F ht⟩) hS.2.2 e1 (hlocks := C.lk)))
theorem g_aret {a : Nat} {nm : String} (C : Cx K cc own d) (hd : dC cc pc .areturn 1 q tgt) (hr : K.1.meth.sig.returnType = some (.object nm)) (hR : Rv K mc ms (some (.ref a)) M) (hc : cs.1 ≤ mc) (hs : cs.2 ≤ ms) : G K cs pc lv [.ref a] M := by
  obtain ⟨e1, -, -⟩ := hd
  intro H locs ls hP hS hl
  exact W.widen hc hs (W_mono hR (W.aret C.ex C.by hr (Or.inl ⟨nm, rfl⟩) (Or.inr ⟨a, rfl⟩) (fun t ht hW => ⟨rfl, by rw [ht]; exact hP, hS.F ht⟩) hS.2.2 e1 (hlocks := C.lk)))
/-- the start of a call, out of this point -/
theorem g_pre {H : Heap} {locs : List Loc} {As : List Value} (C : Cx K cc own d) (hP : va_P (zD K.2.1) vwCl (WD K.2.1 M) H) (hS : va_S (zA K.2.1) K.1.s.heap H locs) : ∀ U : State, U.heap = H → K.1.s.WarmedH U.vm → Pv K.2.1 As M As.toArray U := by
  intro U hU hW
  refine ⟨rfl, Iv.warm hW (fun a h1 h2 => by rw [hU]; exact hS.2.1 a h1 h2) C.iv, ?_, by rw [hU]; exact hP⟩
  rw [hU]
  exact Nat.le_trans C.sz hS.1
theorem g_fin {H : Heap} {locs : List Loc} {mc' ms' : Nat} {out : Option Value} {M' : Mm} {av : Array Value} {ls : Array Slot} {st : List Value}
    (hr : va_Run K.1.p K.1.l K.1.e K.1.R K.1.s K.1.m K.1.args K.1.below K.1.meth K.1.c H locs cs.1 cs.2 mc' ms' (F0 K.1.m pc ls st) rest (Qv K.2.1 out M' av) (zA K.2.1)) (hS : va_S (zA K.2.1) K.1.s.heap H locs) (hl : lv_has ls K.2.2.1 lv)
    (h : G K (cs.1 + mc', cs.2 + ms') (pc + 3) lv (out.toList ++ rest) M') : W0 K H locs cs (F0 K.1.m pc ls st) := by
  intro T hT X
  obtain ⟨v, st₀, t, T', L, h0, X', hL, e1, e2, ⟨hv, hP1, hz, hk⟩, hst⟩ := hr T hT X
  cases hv
  rw [h0] at hz hk
  have hS1 : va_S (zA K.2.1) K.1.s.heap T'.heap (locs ++ L) := ⟨Nat.le_trans hS.1 (by rw [e1]; exact hz), fun z h1 h2 => by rw [e1, hk z (Nat.lt_of_lt_of_le h1 hS.1) h2]; exact hS.2.1 z h1 h2, fun z hz => by
    rcases List.mem_append.mp hz with h | h
    · exact hS.2.2 z h
    · exact hL z h⟩
  obtain ⟨t2, a1, b1⟩ := h T'.heap (locs ++ L) ls (by rw [e1]; exact hP1) hS1 hl T' rfl X'
  exact ⟨t2, hst t2 a1, b1⟩
end GEnd
/-- a call by a name of the class own: which method it is -/
def VK (own : String) (ix ci : Nat) (y : MethodName) (bytes : ByteArray) (maxL : Nat) (ret : Option FieldType) (n : Nat) : Prop := ∃ (Cn : String) (T : u_T) (N : Nat), vwCl[ci]? = some (Cn, T, N) ∧ y.cls = Cn ∧ Cond.methodLink own ix y ∈ RQ ∧ Cond.instanceMethod y ∈ RQ ∧ Cond.selects Cn y y ∈ RQ ∧ Cond.initialized Cn ∈ RQ ∧ Cond.code y bytes maxL ret ∈ RQ ∧
  (y.cls ≠ "java/lang/invoke/MethodHandle" ∧ y.cls ≠ "java/lang/invoke/VarHandle") ∧ (parseMethodDescriptor y.desc).map (fun d => d.parameters.length) = some n ∧ maxL ≤ 40
def SK (own : String) (ix : Nat) (y : MethodName) (bytes : ByteArray) (maxL : Nat) (ret : Option FieldType) (n : Nat) : Prop := Cond.methodLink own ix y ∈ RQ ∧ Cond.static y ∈ RQ ∧ Cond.initialized y.cls ∈ RQ ∧ Cond.code y bytes maxL ret ∈ RQ ∧
  (y.cls ≠ "java/lang/invoke/MethodHandle" ∧ y.cls ≠ "java/lang/invoke/VarHandle") ∧ (parseMethodDescriptor y.desc).map (fun d => d.parameters.length) = some n ∧ maxL ≤ 40
/-- .. of a nest mate -/
def NK (own : String) (ix : Nat) (y : MethodName) (host : String) (bytes : ByteArray) (maxL : Nat) (ret : Option FieldType) (n : Nat) : Prop := Cond.methodLinkNest own ix y host ∈ HWs ∧ Cond.static y ∈ RQ ∧ Cond.initialized y.cls ∈ RQ ∧ Cond.code y bytes maxL ret ∈ RQ ∧
  (y.cls ≠ "java/lang/invoke/MethodHandle" ∧ y.cls ≠ "java/lang/invoke/VarHandle") ∧ (parseMethodDescriptor y.desc).map (fun d => d.parameters.length) = some n ∧ maxL ≤ 40
/-- .. of a method x that Telling only declares -/
def UK (own : String) (ix ci : Nat) (x y : MethodName) (bytes : ByteArray) (maxL : Nat) (ret : Option FieldType) (n : Nat) : Prop := ∃ (Cn : String) (T : u_T) (N : Nat), vwCl[ci]? = some (Cn, T, N) ∧ Cond.methodLink own ix x ∈ RQ ∧ Cond.sameMethod x.cls x.cls x.name x.desc ∈ RQ ∧ Cond.selects Cn x y ∈ RQ ∧ Cond.instanceMethod y ∈ RQ ∧ Cond.initialized y.cls ∈ RQ ∧ Cond.code y bytes maxL ret ∈ RQ ∧ Cond.declares ⟨x.cls, x.name, x.desc⟩ ∈ HWs ∧
  (x.cls ≠ "java/lang/invoke/MethodHandle" ∧ x.cls ≠ "java/lang/invoke/VarHandle") ∧ (parseMethodDescriptor x.desc).map (fun d => d.parameters.length) = some n ∧ maxL ≤ 40
theorem RQ_gi {a b c e f : Cond} {ws : List Cond} (ha : a ∈ RQ) (hb : b ∈ RQ) (hc : c ∈ RQ) (he : e ∈ RQ) (hf : f ∈ RQ) (hw : ∀ w ∈ ws, w ∈ RQ) : GoodIn RQ (([a, b, c, e] : List Cond) ++ f :: ws) := by
  intro w h
  have : w ∈ RQ := by
    simp only [List.cons_append, List.nil_append, List.mem_cons] at h
    rcases h with rfl | rfl | rfl | rfl | rfl | h
    · exact ha
    · exact hb
    · exact hc
    · exact he
    · exact hf
    · exact hw _ h
  exact ⟨this, good_of_word (List.mem_filter.mp this).2⟩
theorem RQ_gi3 {a b c f : Cond} {ws : List Cond} (ha : a ∈ RQ) (hb : b ∈ RQ) (hc : c ∈ RQ) (hf : f ∈ RQ) (hw : ∀ w ∈ ws, w ∈ RQ) : GoodIn RQ (([a, b, c] : List Cond) ++ f :: ws) := by
  intro w h
  have : w ∈ RQ := by
    simp only [List.cons_append, List.nil_append, List.mem_cons] at h
    rcases h with rfl | rfl | rfl | rfl | h
    · exact ha
    · exact hb
    · exact hc
    · exact hf
    · exact hw _ h
  exact ⟨this, good_of_word (List.mem_filter.mp this).2⟩
theorem RQ_gi5 {a b c e x f : Cond} {ws : List Cond} (ha : a ∈ RQ) (hb : b ∈ RQ) (hc : c ∈ RQ) (he : e ∈ RQ) (hx : x ∈ RQ) (hf : f ∈ RQ) (hw : ∀ w ∈ ws, w ∈ RQ) : GoodIn RQ (([a, b, c, e, x] : List Cond) ++ f :: ws) := by
  intro w h
  have : w ∈ RQ := by
    simp only [List.cons_append, List.nil_append, List.mem_cons] at h
    rcases h with rfl | rfl | rfl | rfl | rfl | rfl | h
    · exact ha
    · exact hb
    · exact hc
    · exact he
    · exact hx
    · exact hf
    · exact hw _ h
  exact ⟨this, good_of_word (List.mem_filter.mp this).2⟩
theorem RQ_gi1 {f : Cond} {ws : List Cond} (hf : f ∈ RQ) (hw : ∀ w ∈ ws, w ∈ RQ) : GoodIn RQ (f :: ws) := by
  intro w h
  have : w ∈ RQ := by
    rcases List.mem_cons.mp h with rfl | h
    · exact hf
    · exact hw _ h
  exact ⟨this, good_of_word (List.mem_filter.mp this).2⟩
section GCall
variable {K : Kx} {cc : ByteArray} {own : String} {d : Nat} {cs : Nat × Nat} {pc len q tgt : Nat} {lv : List (Nat × Value)} {st : List Value} {M M' : Mm} {y : MethodName} {bytes : ByteArray} {maxL n d' mc' ms' ix : Nat} {ret : Option FieldType} {out : Option Value}
theorem g_cV {k ci : Nat} {z : List (Nat × Nat)} (As rest : List Value) (C : Cx K cc own d) (hd : dC cc pc (.invokevirtual ix) 3 q tgt) (hV : VK own ix ci y bytes maxL ret n) (hM : CM K.2.1 K.1.l d' mc' ms' y bytes maxL ret (.ref (K.2.1.1 + k) :: As) M out M') (hk : LT[k]? = some (4, ci, z))
    (hst : st = As.reverse ++ .ref (K.2.1.1 + k) :: rest) (hn : As.length = n) (hW : (rest.map fun v => v.category).sum ≤ 8) (hdd : d' < d) (hc : cs.1 + mc' ≤ K.1.R.cells ∧ cs.2 + ms' ≤ K.1.R.slots)
    (h : G K (cs.1 + mc', cs.2 + ms') q lv (out.toList ++ rest) M') : G K cs pc lv st M := by
  obtain ⟨e1, rfl, -⟩ := hd
  obtain ⟨Cn, T, N, v1, v2, v3, v4, v5, v6, v7, v8, v9, v10⟩ := hV
  have hfr := C.fr; have hlo := C.lo
  intro H locs ls hP hS hl
  refine g_fin (va_runV (C := Cn) (As := As) (rest := rest) (b := K.2.1.1 + k) (n := n) ⟨C.ex, C.by, C.ml, C.ow, C.rq⟩ hM (cwV n C.rq (RQ_gi v3 v4 v5 v6 v7 (fun _ h => h)) rfl rfl rfl ⟨v2, v8.1, v8.2, v9⟩ ⟨?_, ?_⟩) ⟨Pv.blind, ?_, g_pre C hP hS⟩ rfl hn hl.1 hst (by simpa using hW) e1 hc) hS hl h
  · show d' + 1 ≤ K.1.R.frames
    omega
  · show 8 + (maxL + 11) + (64 * d' + 100) ≤ K.1.R.locals
    omega
  · exact va_recv C.iv.1 hP v1 (WD_get hk)
theorem g_cS (As rest : List Value) (C : Cx K cc own d) (hd : dC cc pc (.invokestatic ix) 3 q tgt) (hV : SK own ix y bytes maxL ret n) (hM : CM K.2.1 K.1.l d' mc' ms' y bytes maxL ret As M out M')
    (hst : st = As.reverse ++ rest) (hn : As.length = n) (hW : (rest.map fun v => v.category).sum ≤ 8) (hdd : d' < d) (hc : cs.1 + mc' ≤ K.1.R.cells ∧ cs.2 + ms' ≤ K.1.R.slots)
    (h : G K (cs.1 + mc', cs.2 + ms') q lv (out.toList ++ rest) M') : G K cs pc lv st M := by
  obtain ⟨e1, rfl, -⟩ := hd
  obtain ⟨v3, v4, v6, v7, v8, v9, v10⟩ := hV
  have hfr := C.fr; have hlo := C.lo
  intro H locs ls hP hS hl
  refine g_fin (va_runS (As := As) (rest := rest) (n := n) ⟨C.ex, C.by, C.ml, C.ow, C.rq⟩ hM (va_cwS n C.rq (RQ_gi3 v3 v4 v6 v7 (fun _ h => h)) rfl rfl rfl ⟨v8.1, v8.2, v9⟩ ⟨?_, ?_⟩) ⟨Pv.blind, g_pre C hP hS⟩ rfl hn hl.1 hst (by simpa using hW) e1 hc) hS hl h
  · show d' + 1 ≤ K.1.R.frames
    omega
  · show 8 + (maxL + 11) + (64 * d' + 100) ≤ K.1.R.locals
    omega
theorem g_cN {host : String} (As rest : List Value) (C : Cx K cc own d) (hd : dC cc pc (.invokestatic ix) 3 q tgt) (hV : NK own ix y host bytes maxL ret n) (hM : CM K.2.1 K.1.l d' mc' ms' y bytes maxL ret As M out M')
    (hst : st = As.reverse ++ rest) (hn : As.length = n) (hW : (rest.map fun v => v.category).sum ≤ 8) (hdd : d' < d) (hc : cs.1 + mc' ≤ K.1.R.cells ∧ cs.2 + ms' ≤ K.1.R.slots)
    (h : G K (cs.1 + mc', cs.2 + ms') q lv (out.toList ++ rest) M') : G K cs pc lv st M := by
  obtain ⟨e1, rfl, -⟩ := hd
  obtain ⟨v3, v4, v6, v7, v8, v9, v10⟩ := hV
  have hfr := C.fr; have hlo := C.lo
  intro H locs ls hP hS hl
  refine g_fin (va_runSN (As := As) (rest := rest) (n := n) ⟨C.ex, C.by, C.ml, C.ow, C.rq⟩ hM ⟨va_cnB n C.rq (RQ_gi1 v7 (fun _ h => h)) rfl rfl rfl (C.iv.2.1 _ v3) (C.rq _ v6) ⟨v8.1, v8.2, v9⟩ ⟨?_, ?_⟩, C.rq _ v4, trivial⟩ ⟨Pv.blind, g_pre C hP hS⟩ rfl hn hl.1 hst (by simpa using hW) e1 hc) hS hl h
  · show d' + 1 ≤ K.1.R.frames
    omega
  · show 8 + (maxL + 11) + (64 * d' + 100) ≤ K.1.R.locals
    omega
theorem g_cU {x : MethodName} {k ci : Nat} {z : List (Nat × Nat)} (As rest : List Value) (C : Cx K cc own d) (hd : dC cc pc (.invokevirtual ix) 3 q tgt) (hV : UK own ix ci x y bytes maxL ret n) (hM : CM K.2.1 K.1.l d' mc' ms' y bytes maxL ret (.ref (K.2.1.1 + k) :: As) M out M') (hk : LT[k]? = some (4, ci, z))
    (hst : st = As.reverse ++ .ref (K.2.1.1 + k) :: rest) (hn : As.length = n) (hW : (rest.map fun v => v.category).sum ≤ 8) (hdd : d' < d) (hc : cs.1 + mc' ≤ K.1.R.cells ∧ cs.2 + ms' ≤ K.1.R.slots)
    (h : G K (cs.1 + mc', cs.2 + ms') q lv (out.toList ++ rest) M') : G K cs pc lv st M := by
  obtain ⟨e1, rfl, -⟩ := hd
  obtain ⟨Cn, T, N, v1, v3, v4, v5, v6, v7, v11, v12, v8, v9, v10⟩ := hV
  have hfr := C.fr; have hlo := C.lo
  intro H locs ls hP hS hl
  refine g_fin (va_runU (C := Cn) (owner := x.cls) (As := As) (rest := rest) (b := K.2.1.1 + k) (n := n) ⟨C.ex, C.by, C.ml, C.ow, C.rq⟩ hM (va_cwA n C.rq (RQ_gi5 v3 v4 v5 v6 v7 v11 (fun _ h => h)) rfl rfl rfl (C.iv.2.1 _ v12) ⟨v8.1, v8.2, v9⟩ ⟨?_, ?_⟩) ⟨Pv.blind, ?_, g_pre C hP hS⟩ rfl hn hl.1 hst (by simpa using hW) e1 hc) hS hl h
  · show d' + 1 ≤ K.1.R.frames
    omega
  · show 8 + (maxL + 11) + (64 * d' + 100) ≤ K.1.R.locals
    omega
  · exact va_recv C.iv.1 hP v1 (WD_get hk)
end GCall
/-- a contract out of a walk -/
theorem CM.of {E : Ev} {l : Launch} {d mc ms : Nat} {y : MethodName} {cc : ByteArray} {maxL : Nat} {ret : Option FieldType} {av : List Value} {M : Mm} {out : Option Value} {M' : Mm} (htr : l.stackTraces = false) (hy : plainName y.cls = true) (hav : (lg_sl av).length ≤ maxL)
    (body : ∀ K : Kx, K.2.1 = E → K.2.2.1 = maxL → K.1.l = l → K.1.R = rmD d mc ms → Cx K cc y.cls d → K.1.meth.sig.returnType = ret → Rv K mc ms out M' → G K (0, 0) 0 (lv_args 0 av) [] M) : CM E l d mc ms y cc maxL ret av M out M' := by
  refine Met.ofW (cc := cc) (maxL := maxL) (ret := ret) hy rfl ?_
  intro p e s m args below meth c s₁ B hml hv
  obtain ⟨rfl, hI, hsz, hP⟩ := hv
  have hts := atoms_spec (ws := Cond.code y cc maxL ret :: RQ) B.pre
  have hown : s.vm.findClass y.cls = some m.cls := findClass_of_methodNamed B.named
  have hl := lv_entry av (n := maxL) hav
  rw [lg_entry_eq]
  exact body ((p, l, e, rmD d mc ms, s, m, av.toArray, below, meth, c), E, maxL, MQ below (Qv E out M') av.toArray s mc ms (zA E)) rfl rfl rfl rfl
    ⟨B.exec, B.bytes, hml, hown, fun w hw => hts w (List.mem_cons_of_mem _ hw), B.notSynchronized, hI, hsz, Nat.le_refl _, Nat.le_refl _, htr⟩ B.returns (fun t h => h) s.heap [] _ hP va_S.rf hl
theorem CX.of {E : Ev} {l : Launch} {d mc ms : Nat} {y : MethodName} {cc : ByteArray} {maxL : Nat} {ret : Option FieldType} {av : List Value} {M : Mm} {o : Option (Option Value)} {M' : Mm} (htr : l.stackTraces = false) (hy : plainName y.cls = true) (hav : (lg_sl av).length ≤ maxL)
    (body : ∀ K : Kx, K.2.1 = E → K.2.2.1 = maxL → K.1.l = l → K.1.R = rmD d mc ms → Cx K cc y.cls d → K.1.meth.sig.returnType = ret → (∀ x ∈ K.1.c.exceptionTable.toList, False) → (∀ v, o = some v → Rv K mc ms v M') → (o = none → Xv K mc ms M') → G K (0, 0) 0 (lv_args 0 av) [] M) : CX E l d mc ms y cc maxL ret av M o M' := by
  refine vx_ofW (cc := cc) (maxL := maxL) (ret := ret) hy rfl ?_
  intro p e s m args below meth c s₁ B hml htab hv
  obtain ⟨rfl, hI, hsz, hP⟩ := hv
  have hts := atoms_spec (ws := Cond.code y cc maxL ret :: RQ) B.pre
  have hown : s.vm.findClass y.cls = some m.cls := findClass_of_methodNamed B.named
  have hl := lv_entry av (n := maxL) hav
  rw [lg_entry_eq]
  refine body ((p, l, e, rmD d mc ms, s, m, av.toArray, below, meth, c), E, maxL, vx_MQ below (QvX E o M') (XvX E o M') av.toArray s mc ms (zA E)) rfl rfl rfl rfl
    ⟨B.exec, B.bytes, hml, hown, fun w hw => hts w (List.mem_cons_of_mem _ hw), B.notSynchronized, hI, hsz, Nat.le_refl _, Nat.le_refl _, htr⟩ B.returns htab ?_ ?_ s.heap [] _ hP va_S.rf hl
  · intro v hov t ⟨oc, h1, h2, ⟨h3, h4, h5⟩, h6⟩
    exact ⟨oc, h1, h2, Or.inl ⟨⟨v, hov, h3, h4, h5⟩, h6⟩⟩
  · intro hov t ⟨oc, h1, h2, h3⟩
    refine ⟨oc, h1, h2, ?_⟩
    rcases h3 with ⟨h, -⟩ | ⟨qq, h4, Ec, ce, L, ⟨h5, h6, h7⟩, h8⟩
    · exact h.elim
    · exact Or.inr ⟨qq, h4, Ec, ce, L, ⟨hov, h5, h6, h7⟩, h8⟩
