/-! FIELDS, ARRAYS, CALLS, ENDS over the world -/
theorem fvs_at {E : Ev} {r : Nat → Int32} {t : Nat → Int64} {z : List (Nat × Nat)} {i : Nat} {f : Nat × Nat} (h : z[i]? = some f) : (fvs E r t 0 z)[i]? = some (fv E r t i f) := by
  rw [fvs_get, h, Nat.zero_add, Option.map_some]
/-- a field by an entry of the class own: which field of which sort it is -/
def FK (own : String) (ix ci i : Nat) (ty : FieldType) (fin : Bool) : Prop := ∃ (Cn : String) (T : u_T) (N : Nat) (ty0 : Nat → FieldType), vwCl[ci]? = some (Cn, T, N) ∧ i < N ∧ (∀ w ∈ u_ws Cn T N, w ∈ RQ) ∧ Cond.fieldLink own ix (T i).1 (T i).2.1 (T i).2.2.1 ∈ RQ ∧
  (∀ k, k < N → parseFieldDescriptor (T k).2.2.1 = some (ty0 k)) ∧ (∀ a, a < N → ∀ b, b < N → a ≠ b → (T a).2.1 ≠ (T b).2.1) ∧ (T i).2.2.2 = fin ∧ parseFieldDescriptor (T i).2.2.1 = some ty
section GMem
variable {K : Kx} {cc : ByteArray} {own : String} {d : Nat} {cs : Nat × Nat} {pc len q tgt : Nat} {lv : List (Nat × Value)} {rest : List Value} {M : Mm}
theorem g_getf {k ci i ix : Nat} {z : List (Nat × Nat)} {f : Nat × Nat} {ty : FieldType} {fin : Bool} (C : Cx K cc own d) (hd : dC cc pc (.getfield ix) 3 q tgt) (hk : LT[k]? = some (4, ci, z)) (hi : z[i]? = some f) (hF : FK own ix ci i ty fin)
    (h : G K cs q lv (fv K.2.1 (M.1 k) (M.2 k) i f :: rest) M) : G K cs pc lv (.ref (K.2.1.1 + k) :: rest) M := by
  obtain ⟨e1, rfl, -⟩ := hd
  obtain ⟨Cn, T, N, ty0, f1, f2, f3, f4, -, -, -, -⟩ := hF
  intro H locs ls hP hS hl
  exact va_get C.ex C.by C.rq f3 C.ow C.iv.1 hP k (WD_get hk) f1 i f2 (C.rq _ f4) (fun _ x => x) (fvs_at hi) e1 (h H locs ls hP hS hl)
theorem g_getI {k ci i ix b : Nat} {z : List (Nat × Nat)} {ty : FieldType} {fin : Bool} (C : Cx K cc own d) (hd : dC cc pc (.getfield ix) 3 q tgt) (hF : FK own ix ci i ty fin) (hk : LT[k]? = some (4, ci, z)) (hi : z[i]? = some (0, b))
    (h : G K cs q lv (.int (M.1 k i) :: rest) M) : G K cs pc lv (.ref (K.2.1.1 + k) :: rest) M := g_getf C hd hk hi hF h
theorem g_getL {k ci i ix b : Nat} {z : List (Nat × Nat)} {ty : FieldType} {fin : Bool} (C : Cx K cc own d) (hd : dC cc pc (.getfield ix) 3 q tgt) (hF : FK own ix ci i ty fin) (hk : LT[k]? = some (4, ci, z)) (hi : z[i]? = some (1, b))
    (h : G K cs q lv (.long (M.2 k i) :: rest) M) : G K cs pc lv (.ref (K.2.1.1 + k) :: rest) M := g_getf C hd hk hi hF h
theorem g_getR {k ci i ix b : Nat} {z : List (Nat × Nat)} {ty : FieldType} {fin : Bool} (C : Cx K cc own d) (hd : dC cc pc (.getfield ix) 3 q tgt) (hF : FK own ix ci i ty fin) (hk : LT[k]? = some (4, ci, z)) (hi : z[i]? = some (2, b))
    (h : G K cs q lv (.ref (K.2.1.1 + b) :: rest) M) : G K cs pc lv (.ref (K.2.1.1 + k) :: rest) M := g_getf C hd hk hi hF h
theorem g_getV {k ci i ix b : Nat} {z : List (Nat × Nat)} {ty : FieldType} {fin : Bool} (C : Cx K cc own d) (hd : dC cc pc (.getfield ix) 3 q tgt) (hF : FK own ix ci i ty fin) (hk : LT[k]? = some (4, ci, z)) (hi : z[i]? = some (3, b))
    (h : G K cs q lv (.ref (K.2.1.1 + (M.1 k i).toNatClampNeg) :: rest) M) : G K cs pc lv (.ref (K.2.1.1 + k) :: rest) M := g_getf C hd hk hi hF h
theorem g_putf {k ci i ix : Nat} {z : List (Nat × Nat)} {v : Value} {M' : Mm} {ty : FieldType} (C : Cx K cc own d) (hd : dC cc pc (.putfield ix) 3 q tgt) (hF : FK own ix ci i ty false) (hk : LT[k]? = some (4, ci, z)) (hi : i < z.length) (hn : narrow ty v = v) (hfit : fits ty v = true)
    (hM : (WD K.2.1 M).set k (K.2.1.1 + k, .inr (ci, (fvs K.2.1 (M.1 k) (M.2 k) 0 z).set i v)) = WD K.2.1 M')
    (h : G K cs q lv rest M') : G K cs pc lv (v :: .ref (K.2.1.1 + k) :: rest) M := by
  obtain ⟨e1, rfl, -⟩ := hd
  obtain ⟨Cn, T, N, ty0, f1, f2, f3, f4, f5, f6, f7, f8⟩ := hF
  intro H locs ls hP hS hl
  refine va_put C.ex C.by C.rq f3 ty0 f5 f6 C.ow C.iv.1 hP (WD_D K.2.1 M) hS k (WD_get hk) f1 i f2 (C.rq _ f4) (fun _ x => x) f7 f8 hn hfit (by rw [fvs_len]; exact hi) e1 (fun H1 locs1 hP1 _ hS1 => ?_)
  have hP2 : va_P (zD K.2.1) vwCl ((WD K.2.1 M).set k (K.2.1.1 + k, .inr (ci, (fvs K.2.1 (M.1 k) (M.2 k) 0 z).set i v))) H1 := hP1
  rw [hM] at hP2
  exact h H1 locs1 ls hP2 hS1 hl
theorem g_putI {k ci i ix b : Nat} {z : List (Nat × Nat)} {x : Int32} (C : Cx K cc own d) (hd : dC cc pc (.putfield ix) 3 q tgt) (hF : FK own ix ci i .int false) (hk : LT[k]? = some (4, ci, z)) (hi : z[i]? = some (0, b))
    (h : G K cs q lv rest (wi M k i x)) : G K cs pc lv (.int x :: .ref (K.2.1.1 + k) :: rest) M :=
  g_putf C hd hF hk (List.getElem?_eq_some_iff.mp hi).1 rfl rfl (WD_fi hk hi) h
theorem g_putL {k ci i ix b : Nat} {z : List (Nat × Nat)} {x : Int64} (C : Cx K cc own d) (hd : dC cc pc (.putfield ix) 3 q tgt) (hF : FK own ix ci i .long false) (hk : LT[k]? = some (4, ci, z)) (hi : z[i]? = some (1, b))
    (h : G K cs q lv rest (wl M k i x)) : G K cs pc lv (.long x :: .ref (K.2.1.1 + k) :: rest) M :=
  g_putf C hd hF hk (List.getElem?_eq_some_iff.mp hi).1 rfl rfl (WD_fl hk hi) h
theorem g_putV {k ci i ix b j : Nat} {z : List (Nat × Nat)} {nm : String} (C : Cx K cc own d) (hd : dC cc pc (.putfield ix) 3 q tgt) (hF : FK own ix ci i (.object nm) false) (hk : LT[k]? = some (4, ci, z)) (hi : z[i]? = some (3, b)) (hj : j < 200)
    (h : G K cs q lv rest (wi M k i (Int32.ofNat j))) : G K cs pc lv (.ref (K.2.1.1 + j) :: .ref (K.2.1.1 + k) :: rest) M :=
  g_putf C hd hF hk (List.getElem?_eq_some_iff.mp hi).1 rfl rfl (WD_fr hk hi hj) h
theorem g_iald {k n : Nat} {z : List (Nat × Nat)} {i : Int32} (C : Cx K cc own d) (hd : dC cc pc .iaload 1 q tgt) (hk : LT[k]? = some (0, n, z)) (hin : vp_in i n)
    (h : G K cs q lv (.int (M.1 k i.toNatClampNeg) :: rest) M) : G K cs pc lv (.int i :: .ref (K.2.1.1 + k) :: rest) M := by
  obtain ⟨e1, rfl, -⟩ := hd
  intro H locs ls hP hS hl
  exact va_iald C.ex C.by C.iv.1 hP k 0 (WD_get hk) rfl hin e1 (h H locs ls hP hS hl)
theorem g_zald {k n : Nat} {z : List (Nat × Nat)} {i : Int32} (C : Cx K cc own d) (hd : dC cc pc .baload 1 q tgt) (hk : LT[k]? = some (2, n, z)) (hin : vp_in i n)
    (h : G K cs q lv (.int (M.1 k i.toNatClampNeg) :: rest) M) : G K cs pc lv (.int i :: .ref (K.2.1.1 + k) :: rest) M := by
  obtain ⟨e1, rfl, -⟩ := hd
  intro H locs ls hP hS hl
  exact va_zald C.ex C.by C.iv.1 hP k 2 (WD_get hk) rfl hin e1 (h H locs ls hP hS hl)
theorem g_lald {k n : Nat} {z : List (Nat × Nat)} {i : Int32} (C : Cx K cc own d) (hd : dC cc pc .laload 1 q tgt) (hk : LT[k]? = some (1, n, z)) (hin : vp_in i n)
    (h : G K cs q lv (.long (M.2 k i.toNatClampNeg) :: rest) M) : G K cs pc lv (.int i :: .ref (K.2.1.1 + k) :: rest) M := by
  obtain ⟨e1, rfl, -⟩ := hd
  intro H locs ls hP hS hl
  exact va_lald C.ex C.by C.iv.1 hP k 1 (WD_get hk) rfl hin e1 (h H locs ls hP hS hl)
theorem g_aald {k n : Nat} {z : List (Nat × Nat)} {i : Int32} (C : Cx K cc own d) (hd : dC cc pc .aaload 1 q tgt) (hk : LT[k]? = some (3, n, z)) (hin : vp_in i n)
    (h : G K cs q lv (.ref (K.2.1.1 + (65 + i.toNatClampNeg)) :: rest) M) : G K cs pc lv (.int i :: .ref (K.2.1.1 + k) :: rest) M := by
  obtain ⟨e1, rfl, -⟩ := hd
  intro H locs ls hP hS hl
  exact va_aldq (C := "GroundPlan$Found") C.ex C.by C.iv.1 hP k 3 (WD_get hk) rfl hin e1 (h H locs ls hP hS hl)
theorem g_iast {k n : Nat} {z : List (Nat × Nat)} {i x : Int32} (C : Cx K cc own d) (hd : dC cc pc .iastore 1 q tgt) (hk : LT[k]? = some (0, n, z)) (hin : vp_in i n)
    (h : G K cs q lv rest (wi M k i.toNatClampNeg x)) : G K cs pc lv (.int x :: .int i :: .ref (K.2.1.1 + k) :: rest) M := by
  obtain ⟨e1, rfl, -⟩ := hd
  intro H locs ls hP hS hl
  refine va_iast C.ex C.by C.iv.1 hP (WD_D K.2.1 M) hS k 0 (WD_get hk) rfl hin e1 (fun H1 locs1 hP1 _ hS1 => ?_)
  have hP2 : va_P (zD K.2.1) vwCl ((WD K.2.1 M).set k (K.2.1.1 + k, .inl (K.2.1.2.2.2.1 0, n, .inl (upd (M.1 k) i.toNatClampNeg x)))) H1 := hP1
  rw [WD_wi hk] at hP2
  exact h H1 locs1 ls hP2 hS1 hl
theorem g_zast {k n : Nat} {z : List (Nat × Nat)} {i x : Int32} (C : Cx K cc own d) (hd : dC cc pc .bastore 1 q tgt) (hk : LT[k]? = some (2, n, z)) (hin : vp_in i n)
    (h : G K cs q lv rest (wi M k i.toNatClampNeg (vp_nar .boolean x))) : G K cs pc lv (.int x :: .int i :: .ref (K.2.1.1 + k) :: rest) M := by
  obtain ⟨e1, rfl, -⟩ := hd
  intro H locs ls hP hS hl
  refine va_zast C.ex C.by C.iv.1 hP (WD_D K.2.1 M) hS k 2 (WD_get hk) rfl hin e1 (fun H1 locs1 hP1 _ hS1 => ?_)
  have hP2 : va_P (zD K.2.1) vwCl ((WD K.2.1 M).set k (K.2.1.1 + k, .inl (K.2.1.2.2.2.1 2, n, .inl (upd (M.1 k) i.toNatClampNeg (vp_nar .boolean x))))) H1 := hP1
  rw [WD_wz hk] at hP2
  exact h H1 locs1 ls hP2 hS1 hl
theorem g_last {k n : Nat} {z : List (Nat × Nat)} {i : Int32} {x : Int64} (C : Cx K cc own d) (hd : dC cc pc .lastore 1 q tgt) (hk : LT[k]? = some (1, n, z)) (hin : vp_in i n)
    (h : G K cs q lv rest (wl M k i.toNatClampNeg x)) : G K cs pc lv (.long x :: .int i :: .ref (K.2.1.1 + k) :: rest) M := by
  obtain ⟨e1, rfl, -⟩ := hd
  intro H locs ls hP hS hl
  refine va_last C.ex C.by C.iv.1 hP (WD_D K.2.1 M) hS k 1 (WD_get hk) rfl hin e1 (fun H1 locs1 hP1 _ hS1 => ?_)
  have hP2 : va_P (zD K.2.1) vwCl ((WD K.2.1 M).set k (K.2.1.1 + k, .inl (K.2.1.2.2.2.1 1, n, .inr (.inl (vp_updL (M.2 k) i.toNatClampNeg x))))) H1 := hP1
  rw [WD_wl hk] at hP2
  exact h H1 locs1 ls hP2 hS1 hl
theorem g_alen {k n : Nat} {z : List (Nat × Nat)} {v : Int32} (C : Cx K cc own d) (hd : dC cc pc .arraylength 1 q tgt) (hk : LT[k]? = some (0, n, z)) (hv : Int32.ofNat n = v)
    (h : G K cs q lv (.int v :: rest) M) : G K cs pc lv (.ref (K.2.1.1 + k) :: rest) M := by
  obtain ⟨e1, rfl, -⟩ := hd
  intro H locs ls hP hS hl
  exact va_alen C.ex C.by C.iv.1 hP k 0 (ty := .int) (WD_get hk) rfl hv e1 (h H locs ls hP hS hl)
/-- the three rows of numbers of the class -/
theorem g_gets {n : String} {ix j : Nat} (C : Cx K cc own d) (hd : dC cc pc (.getstatic ix) 3 q tgt) (hZ : va_Z "GroundPlan" n "[J" (.ref (K.2.1.2.2.2.2 j)) (zA K.2.1) K.1.s K.1.s.heap) (hw : Cond.fieldLink own ix "GroundPlan" n "[J" ∈ RQ)
    (h : G K cs q lv (.ref (K.2.1.2.2.2.2 j) :: rest) M) : G K cs pc lv rest M := by
  obtain ⟨e1, rfl, -⟩ := hd
  intro H locs ls hP hS hl
  exact va_gets C.ex C.by hZ hS C.ow (C.rq _ hw) (fun _ x => x) e1 (h H locs ls hP hS hl)
theorem g_tl {j N : Nat} {f : Nat → Value} {i : Int32} {v : Int64} (C : Cx K cc own d) (hd : dC cc pc .laload 1 q tgt) (hT : va_T .long (K.2.1.2.2.2.2 j) N f (zA K.2.1) K.1.s K.1.s.heap) (hin : vp_in i N) (hv : f i.toNatClampNeg = .long v)
    (h : G K cs q lv (.long v :: rest) M) : G K cs pc lv (.int i :: .ref (K.2.1.2.2.2.2 j) :: rest) M := by
  obtain ⟨e1, rfl, -⟩ := hd
  intro H locs ls hP hS hl
  exact va_tl C.ex C.by hT hS hin hv e1 (h H locs ls hP hS hl)
theorem g_tlen {j N : Nat} {f : Nat → Value} {v : Int32} (C : Cx K cc own d) (hd : dC cc pc .arraylength 1 q tgt) (hT : va_T .long (K.2.1.2.2.2.2 j) N f (zA K.2.1) K.1.s K.1.s.heap) (hv : Int32.ofNat N = v)
    (h : G K cs q lv (.int v :: rest) M) : G K cs pc lv (.ref (K.2.1.2.2.2.2 j) :: rest) M := by
  obtain ⟨e1, rfl, -⟩ := hd
  intro H locs ls hP hS hl
  exact va_tlen C.ex C.by hT hS hv e1 (h H locs ls hP hS hl)
theorem g_mmax {ix : Nat} {x y : Int32} (C : Cx K cc own d) (hd : dC cc pc (.invokestatic ix) 3 q tgt) (w : Cond.methodLink own ix Lib.Math.max.name ∈ RQ ∧ Cond.static Lib.Math.max.name ∈ RQ ∧ Cond.initialized "java/lang/Math" ∈ RQ ∧ Cond.code Lib.Math.max.name Lib.Math.max.code 2 (some .int) ∈ RQ) (h0 : 0 < d) (hr : (rest.map fun v => v.category).sum ≤ 20) (hc : cs.1 ≤ K.1.R.cells ∧ cs.2 ≤ K.1.R.slots)
    (h : G K cs q lv (.int (if x < y then y else x) :: rest) M) : G K cs pc lv (.int y :: .int x :: rest) M := by
  obtain ⟨e1, rfl, -⟩ := hd
  intro H locs ls hP hS hl
  have := C.fr; have := C.lo
  have hA : 1 ≤ K.1.R.frames := by omega
  have hB : (rest.map fun v => v.category).sum + 13 ≤ K.1.R.locals := by omega
  exact va_mmax C.ex C.by (C.ml.trans hl.1.symm) C.ow (C.rq _ w.1) (C.rq _ w.2.1) (C.rq _ w.2.2.1) (C.rq _ w.2.2.2) hA hB hc.1 hc.2 e1 (h H locs ls hP hS hl)
theorem g_mmin {ix : Nat} {x y : Int32} (C : Cx K cc own d) (hd : dC cc pc (.invokestatic ix) 3 q tgt) (w : Cond.methodLink own ix Lib.Math.min.name ∈ RQ ∧ Cond.static Lib.Math.min.name ∈ RQ ∧ Cond.initialized "java/lang/Math" ∈ RQ ∧ Cond.code Lib.Math.min.name Lib.Math.min.code 2 (some .int) ∈ RQ) (h0 : 0 < d) (hr : (rest.map fun v => v.category).sum ≤ 20) (hc : cs.1 ≤ K.1.R.cells ∧ cs.2 ≤ K.1.R.slots)
    (h : G K cs q lv (.int (if y < x then y else x) :: rest) M) : G K cs pc lv (.int y :: .int x :: rest) M := by
  obtain ⟨e1, rfl, -⟩ := hd
  intro H locs ls hP hS hl
  have := C.fr; have := C.lo
  have hA : 1 ≤ K.1.R.frames := by omega
  have hB : (rest.map fun v => v.category).sum + 13 ≤ K.1.R.locals := by omega
  exact va_mmin C.ex C.by (C.ml.trans hl.1.symm) C.ow (C.rq _ w.1) (C.rq _ w.2.1) (C.rq _ w.2.2.1) (C.rq _ w.2.2.2) hA hB hc.1 hc.2 e1 (h H locs ls hP hS hl)
/-- the row k1 becomes cpy -/
def wr (M : Mm) (k : Nat) (f : Nat → Int32) : Mm := (fun k' => if k' = k then f else M.1 k', M.2)
theorem WD_wr {E : Ev} {M : Mm} {k n : Nat} {f : Nat → Int32} {z : List (Nat × Nat)} (hk : LT[k]? = some (0, n, z)) : (WD E M).set k (E.1 + k, .inl (E.2.2.2.1 0, n, .inl f)) = WD E (wr M k f) :=
  WD_set hk (by simp [wr]; rfl) (fun j h => by simp [wr, h]) (fun _ _ => rfl)
theorem g_copy {ix k0 k1 n0 n1 : Nat} {z0 z1 : List (Nat × Nat)} {sp dp n : Int32} (C : Cx K cc own d) (hd : dC cc pc (.invokestatic ix) 3 q tgt) (w : Cond.methodLink own ix arraycopyName ∈ RQ ∧ Cond.native arraycopyName ∈ RQ ∧ Cond.static arraycopyName ∈ RQ ∧ Cond.initialized "java/lang/System" ∈ RQ)
    (hk0 : LT[k0]? = some (0, n0, z0)) (hk1 : LT[k1]? = some (0, n1, z1)) (h1 : ¬ sp < 0) (h2 : ¬ dp < 0) (h3 : ¬ n < 0) (h4 : sp.toNatClampNeg + n.toNatClampNeg ≤ n0) (h5 : dp.toNatClampNeg + n.toNatClampNeg ≤ n1) (h0 : 0 < d) (hr : (rest.map fun v => v.category).sum ≤ 20)
    (h : G K cs q lv rest (wr M k1 (va_cpy (M.1 k0) (M.1 k1) sp.toNatClampNeg dp.toNatClampNeg n.toNatClampNeg))) : G K cs pc lv (.int n :: .int dp :: .ref (K.2.1.1 + k1) :: .int sp :: .ref (K.2.1.1 + k0) :: rest) M := by
  obtain ⟨e1, rfl, -⟩ := hd
  intro H locs ls hP hS hl
  have := C.fr; have := C.lo
  have hA : 1 ≤ K.1.R.frames := by omega
  have h6 : nativeFrameWords "java/lang/System" "arraycopy" 5 ≤ 60 := by decide +kernel
  have hB : (rest.map fun v => v.category).sum + (nativeFrameWords "java/lang/System" "arraycopy" 5 + 11) ≤ K.1.R.locals := by omega
  refine va_copyi C.ex C.by (C.ml.trans hl.1.symm) C.ow (C.rq _ w.1) (C.rq _ w.2.1) (C.rq _ w.2.2.1) (C.rq _ w.2.2.2) C.iv.1 hP (WD_D K.2.1 M) hS k0 k1 0 0 (ty := .int) (WD_get hk0) (WD_get hk1) rfl rfl rfl h1 h2 h3 h4 h5 (fun _ _ => rfl) hA hB e1 (fun H1 locs1 hP1 _ hS1 => ?_)
  have hP2 : va_P (zD K.2.1) vwCl ((WD K.2.1 M).set k1 (K.2.1.1 + k1, .inl (K.2.1.2.2.2.1 0, n1, .inl (va_cpy (M.1 k0) (M.1 k1) sp.toNatClampNeg dp.toNatClampNeg n.toNatClampNeg)))) H1 := hP1
  rw [WD_wr hk1] at hP2
  exact h H1 locs1 ls hP2 hS1 hl
theorem g_tabIn {dflt lo hi : Int} {offs : Array Int} {x : Int32} {off : Int} (C : Cx K cc own d) (hd : dC cc pc (.tableswitch dflt lo hi offs) len q tgt) (h1 : ¬ x.toInt < lo) (h2 : ¬ hi < x.toInt) (ho : offs[(x.toInt - lo).toNat]? = some off) {t : Nat} (ht : (pc : Int) + off = (t : Int))
    (h : G K cs t lv rest M) : G K cs pc lv (.int x :: rest) M := by
  obtain ⟨e1, -, -⟩ := hd
  intro H locs ls hP hS hl
  exact lv_tableIn C.ex C.by e1 h1 h2 ho ht (h H locs ls hP hS hl)
theorem g_tabOut {dflt lo hi : Int} {offs : Array Int} {x : Int32} (C : Cx K cc own d) (hd : dC cc pc (.tableswitch dflt lo hi offs) len q tgt) (h1 : x.toInt < lo ∨ hi < x.toInt) {t : Nat} (ht : (pc : Int) + dflt = (t : Int))
    (h : G K cs t lv rest M) : G K cs pc lv (.int x :: rest) M := by
  obtain ⟨e1, -, -⟩ := hd
  intro H locs ls hP hS hl
  exact lv_tableOut C.ex C.by e1 h1 ht (h H locs ls hP hS hl)
theorem g_look {dflt : Int} {ps : Array (Int × Int)} {x : Int32} {off : Int} (C : Cx K cc own d) (hd : dC cc pc (.lookupswitch dflt ps) len q tgt) (hp : (ps.toList.zip (ps.toList.drop 1)).all (fun (a, next) => a.1 < next.1) = true) (ho : Op.lookupswitch.offset ps.toList dflt x.toInt = off) {t : Nat} (ht : (pc : Int) + off = (t : Int))
    (h : G K cs t lv rest M) : G K cs pc lv (.int x :: rest) M := by
  obtain ⟨e1, -, -⟩ := hd
  intro H locs ls hP hS hl
  exact lv_lookup C.ex C.by e1 hp ho ht (h H locs ls hP hS hl)
end GMem
