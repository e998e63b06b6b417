/-! CONSTRUCTORS: the cells made so far, up to the heap's end -/
abbrev fnd : String := "GroundPlan$Found"
def BP (E : Ev) (L : va_W) (H : Heap) : Prop := va_P (zD E) vwCl L H ∧ H.size = E.1 + L.length ∧ ∀ (k : Nat) (q : Nat × va_E), L[k]? = some q → q.1 = E.1 + k
theorem BP.D {E : Ev} {L : va_W} {H : Heap} (h : BP E L H) : va_D (zA E) L := by
  refine ⟨fun i j p q hi hj hpq => ?_, fun k q hk => ?_⟩
  · have a := h.2.2 i p hi
    have b := h.2.2 j q hj
    omega
  · show E.1 ≤ q.1
    rw [h.2.2 k q hk]
    omega
theorem BP.push {E : Ev} {L : va_W} {H H1 : Heap} {x : va_E} (h : BP E L H) (z : H1.size = H.size + 1) (o : ∀ q : Nat, q < H.size → H1[q]? = H[q]?) (hx : va_at (zD E) vwCl (E.1 + L.length, x) H1) : BP E (L ++ [(E.1 + L.length, x)]) H1 := by
  have hk : ∀ (k : Nat) (y : Nat × va_E), L[k]? = some y → H1[y.1]? = H[y.1]? := fun k y hy => o y.1 ((h.1 k y hy).lt)
  refine ⟨(h.1.kept hk).app (fun k y hy => ?_), ?_, fun k y hy => ?_⟩
  · have hz : k < 1 := (List.getElem?_eq_some_iff.mp hy).1
    rw [show k = 0 by omega] at hy
    cases hy
    exact hx
  · rw [z, h.2.1, List.length_append]
    simp
    omega
  · by_cases hl : k < L.length
    · rw [List.getElem?_append_left hl] at hy
      exact h.2.2 k y hy
    · rw [List.getElem?_append_right (by omega)] at hy
      have hz : k - L.length < 1 := (List.getElem?_eq_some_iff.mp hy).1
      rw [show k - L.length = 0 by omega] at hy
      cases hy
      show E.1 + L.length = E.1 + k
      omega
theorem BP.set {E : Ev} {L : va_W} {H H1 : Heap} {k : Nat} {a : Nat} {x y : va_E} (h : BP E L H) (hk : L[k]? = some (a, y)) (z : H1.size = H.size) (hP : va_P (zD E) vwCl (L.set k (a, x)) H1) : BP E (L.set k (a, x)) H1 := by
  refine ⟨hP, by rw [z, h.2.1, List.length_set], fun j q hq => ?_⟩
  by_cases hj : j = k
  · subst hj
    have hl : j < L.length := (List.getElem?_eq_some_iff.mp hk).1
    rw [List.getElem?_set_self hl] at hq
    cases hq
    have e := h.2.2 j (a, y) hk
    exact e
  · rw [List.getElem?_set_ne (Ne.symm hj)] at hq
    exact h.2.2 j q hq
theorem va_S.sz {A : Nat → Prop} {H0 H : Heap} {locs : List Loc} (h : va_S A H0 H locs) : H0.size ≤ H.size := h.1
def Cy (K : Kx) (cc : ByteArray) (own : String) (d : Nat) : Prop := Cx K cc own d ∧ va_AO fnd K.1.s ∧ (∀ w ∈ RQ, w.before K.1.args K.1.s = true)
def B (K : Kx) (cs : Nat × Nat) (pc : Nat) (lv : List (Nat × Value)) (st : List Value) (L0 R : va_W) : Prop :=
  ∀ (H : Heap) (locs : List Loc) (ls : Array Slot), BP K.2.1 (L0 ++ R) H → va_S (zA K.2.1) K.1.s.heap H locs → lv_has ls K.2.2.1 lv → W0 K H locs cs (F0 K.1.m pc ls st)
def arI (E : Ev) (n : Nat) : va_E := .inl (E.2.2.2.1 0, n, .inl (fun _ => 0))
def arL (E : Ev) (n : Nat) : va_E := .inl (E.2.2.2.1 1, n, .inr (.inl (fun _ => 0)))
def arZ (E : Ev) (n : Nat) : va_E := .inl (E.2.2.2.1 2, n, .inl (fun _ => 0))
def arF (E : Ev) (n : Nat) (f : Nat → Option Nat) : va_E := .inl (E.2.2.2.1 3, n, .inr (.inr (.inr (.inr f))))
theorem app_at {L0 R : va_W} {n j : Nat} (hn : L0.length = n) : (L0 ++ R)[n + j]? = R[j]? := by
  rw [List.getElem?_append_right (by omega)]
  congr 1
  omega
theorem app_set {L0 R : va_W} {n j : Nat} {x : Nat × va_E} (hn : L0.length = n) : (L0 ++ R).set (n + j) x = L0 ++ R.set j x := by
  rw [List.set_append_right _ _ (by omega)]
  congr 2
  omega
section BRows
variable {K : Kx} {cc : ByteArray} {own : String} {d n : Nat} {cs : Nat × Nat} {pc len q tgt : Nat} {lv : List (Nat × Value)} {rest : List Value} {L0 R : va_W}
theorem b_dup {a : Nat} (C : Cy K cc own d) (hd : dC cc pc (.dup) 1 q tgt) (h : B K cs q lv (.ref a :: .ref a :: rest) L0 R) : B K cs pc lv (.ref a :: rest) L0 R := by
  obtain ⟨e1, rfl, -⟩ := hd
  intro H locs ls hP hS hl
  exact lv_dup C.1.ex C.1.by e1 rfl (h H locs ls hP hS hl)
theorem b_iconst {n : Int} {v : Int32} (C : Cy K cc own d) (hd : dC cc pc (.iconst n) 1 q tgt) (hv : Int32.ofInt n = v) (h : B K cs q lv (.int v :: rest) L0 R) : B K cs pc lv (rest) L0 R := by
  obtain ⟨e1, rfl, -⟩ := hd
  intro H locs ls hP hS hl
  exact lv_iconst C.1.ex C.1.by e1 hv (h H locs ls hP hS hl)
theorem b_bipush {n : Int} {v : Int32} (C : Cy K cc own d) (hd : dC cc pc (.bipush n) 2 q tgt) (hv : (Int8.ofInt n).toInt32 = v) (h : B K cs q lv (.int v :: rest) L0 R) : B K cs pc lv (rest) L0 R := by
  obtain ⟨e1, rfl, -⟩ := hd
  intro H locs ls hP hS hl
  exact lv_bipush C.1.ex C.1.by e1 hv (h H locs ls hP hS hl)
theorem b_sipush {n : Int} {v : Int32} (C : Cy K cc own d) (hd : dC cc pc (.sipush n) 3 q tgt) (hv : (Int16.ofInt n).toInt32 = v) (h : B K cs q lv (.int v :: rest) L0 R) : B K cs pc lv (rest) L0 R := by
  obtain ⟨e1, rfl, -⟩ := hd
  intro H locs ls hP hS hl
  exact lv_sipush C.1.ex C.1.by e1 hv (h H locs ls hP hS hl)
theorem b_aload_n {k : Fin 4} {i : Nat} {x : Nat} (j : Nat) (C : Cy K cc own d) (hd : dC cc pc (.aload_n k) 1 q tgt) (hj : lv[j]? = some (i, .ref x)) (hi : (k : Nat) = i) (h : B K cs q lv (.ref x :: rest) L0 R) : B K cs pc lv rest L0 R := by
  obtain ⟨e1, rfl, -⟩ := hd
  intro H locs ls hP hS hl
  exact lv_aload_n C.1.ex C.1.by e1 hi (lv_at hl j hj) (h H locs ls hP hS hl)
theorem b_iload_n {k : Fin 4} {i : Nat} {x : Int32} (j : Nat) (C : Cy K cc own d) (hd : dC cc pc (.iload_n k) 1 q tgt) (hj : lv[j]? = some (i, .int x)) (hi : (k : Nat) = i) (h : B K cs q lv (.int x :: rest) L0 R) : B K cs pc lv rest L0 R := by
  obtain ⟨e1, rfl, -⟩ := hd
  intro H locs ls hP hS hl
  exact lv_iload_n C.1.ex C.1.by e1 hi (lv_at hl j hj) (h H locs ls hP hS hl)
theorem b_istore_n {k : Fin 4} {i : Nat} {x : Int32} {lv' : List (Nat × Value)} (C : Cy K cc own d) (hd : dC cc pc (.istore_n k) 1 q tgt) (hi : (k : Nat) = i) (hn : i < K.2.2.1) (hl : (i, Value.int x) :: lv.filter (fun q => !(q.1 == i) && !(q.1 + 1 == i && q.2.category == 2)) = lv') (h : B K cs q lv' rest L0 R) : B K cs pc lv (.int x :: rest) L0 R := by
  obtain ⟨e1, rfl, -⟩ := hd
  intro H locs ls hP hS hv
  exact lv_istore_n C.1.ex C.1.by e1 hi hv hn hl (fun ls2 hv2 => h H locs ls2 hP hS hv2)
theorem b_istore {i : Nat} {x : Int32} {lv' : List (Nat × Value)} (C : Cy K cc own d) (hd : dC cc pc (.istore i) 2 q tgt) (hn : i < K.2.2.1) (hl : (i, Value.int x) :: lv.filter (fun q => !(q.1 == i) && !(q.1 + 1 == i && q.2.category == 2)) = lv') (h : B K cs q lv' rest L0 R) : B K cs pc lv (.int x :: rest) L0 R := by
  obtain ⟨e1, rfl, -⟩ := hd
  intro H locs ls hP hS hv
  exact lv_istore C.1.ex C.1.by e1 hv hn hl (fun ls2 hv2 => h H locs ls2 hP hS hv2)
theorem b_astore_n {k : Fin 4} {i : Nat} {x : Nat} {lv' : List (Nat × Value)} (C : Cy K cc own d) (hd : dC cc pc (.astore_n k) 1 q tgt) (hi : (k : Nat) = i) (hn : i < K.2.2.1) (hl : (i, Value.ref x) :: lv.filter (fun q => !(q.1 == i) && !(q.1 + 1 == i && q.2.category == 2)) = lv') (h : B K cs q lv' rest L0 R) : B K cs pc lv (.ref x :: rest) L0 R := by
  obtain ⟨e1, rfl, -⟩ := hd
  intro H locs ls hP hS hv
  exact lv_astore_n C.1.ex C.1.by e1 hi hv hn hl (fun ls2 hv2 => h H locs ls2 hP hS hv2)
theorem b_iinc {i : Nat} {n : Int} {x v : Int32} {lv' : List (Nat × Value)} (j : Nat) (C : Cy K cc own d) (hd : dC cc pc (.iinc i n) 3 q tgt) (hj : lv[j]? = some (i, .int x)) (hv : x + Int32.ofInt n = v) (hn : i < K.2.2.1) (hl : (i, Value.int v) :: lv.filter (fun q => !(q.1 == i) && !(q.1 + 1 == i && q.2.category == 2)) = lv') (h : B K cs q lv' rest L0 R) : B K cs pc lv rest L0 R := by
  obtain ⟨e1, rfl, -⟩ := hd
  intro H locs ls hP hS hw
  exact lv_iinc C.1.ex C.1.by e1 hw hj hv hn hl (fun ls2 hv2 => h H locs ls2 hP hS hv2)
theorem b_icmp_gt {x y : Int32} {o : Int} (C : Cy K cc own d) (hd : dC cc pc (.if_icmp .gt o) 3 q tgt) (kt : y < x → B K cs tgt lv rest L0 R) (kf : ¬ y < x → B K cs q lv rest L0 R) : B K cs pc lv (.int y :: .int x :: rest) L0 R := by
  obtain ⟨e1, rfl, e3⟩ := hd
  intro H locs ls hP hS hl
  exact lv_icmp_gt C.1.ex C.1.by e1 (e3 _ rfl) (fun z => kt z H locs ls hP hS hl) (fun z => kf z H locs ls hP hS hl)
theorem b_goto {o : Int} (C : Cy K cc own d) (hd : dC cc pc (.goto o) 3 q tgt) (h : B K cs tgt lv rest L0 R) : B K cs pc lv rest L0 R := by
  obtain ⟨e1, -, e3⟩ := hd
  intro H locs ls hP hS hl
  exact lv_goto C.1.ex C.1.by e1 (e3 _ rfl) (h H locs ls hP hS hl)
theorem b_obj {ix a : Nat} (C : Cy K cc own d) (hd : dC cc pc (.invokespecial ix) 3 q tgt) (w : Cond.methodLink own ix Lib.objectInit ∈ RQ ∧ Cond.instanceMethod Lib.objectInit ∈ RQ ∧ Cond.code Lib.objectInit ⟨#[0xb1]⟩ 1 none ∈ RQ) (h0 : 0 < d) (hr : rest = []) (h : B K cs q lv rest L0 R) : B K cs pc lv (.ref a :: rest) L0 R := by
  obtain ⟨e1, rfl, -⟩ := hd
  subst hr
  have := C.1.fr; have := C.1.lo
  intro H locs ls hP hS hl
  exact W.objInit C.1.ex C.1.by C.1.ow (C.1.rq _ w.1) (C.1.rq _ w.2.1) (C.1.rq _ w.2.2) (g := F0 K.1.m pc ls [.ref a]) rfl (hl.1.trans C.1.ml.symm) rfl e1 (by omega) (by show 2 * 0 + 0 + 12 ≤ _; omega) (h H locs ls hP hS hl)
theorem b_newI {N : Nat} {x : Int32} {j : Nat} {R' : va_W} (C : Cy K cc own d) (hn : L0.length = n) (hd : dC cc pc (.newarray .int) 2 q tgt) (w : Cond.arrayClass .int ∈ RQ) (hx : ¬ x < 0) (hN : x.toNatClampNeg = N) (hb : N ≤ 5000) (hc : cs.1 + 1 ≤ K.1.R.cells ∧ cs.2 + N ≤ K.1.R.slots) (hj : R.length = j) (hR : R ++ [(K.2.1.1 + (n + j), arI K.2.1 N)] = R')
    (h : B K (cs.1 + 1, cs.2 + N) q lv (.ref (K.2.1.1 + (n + j)) :: rest) L0 R') : B K cs pc lv (.int x :: rest) L0 R := by
  obtain ⟨e1, rfl, -⟩ := hd
  intro H locs ls hP hS hl
  have hlen : (L0 ++ R).length = n + j := by rw [List.length_append, hn, hj]
  refine va_newaK (g := F0 K.1.m pc ls (.int x :: rest)) C.1.ex C.1.by (atype := .int) (C.1.rq _ w) rfl e1 rfl hx hN ?_ hc.1 hc.2 hP.2.1 fun H1 cA f1 z1 o1 hAr hNm => ?_
  · show N * 4 ≤ _
    omega
  · have hc0 := (C.1.iv.1.2 0 _ rfl).2
    have hcc : cA = K.2.1.2.2.2.1 0 := Option.some.inj (hNm.symm.trans hc0)
    subst hcc
    have o2 : ∀ q : Nat, q < H.size → H1[q]? = H[q]? := fun q hq => o1 q (by rw [← hP.2.1]; exact hq)
    have hB : BP K.2.1 (L0 ++ R ++ [(K.2.1.1 + (L0 ++ R).length, arI K.2.1 N)]) H1 := hP.push (by rw [z1, hP.2.1]) o2 f1
    rw [hlen, List.append_assoc, hR] at hB
    have e : K.2.1.1 + (L0 ++ R).length = K.2.1.1 + (n + j) := by rw [hlen]
    rw [e]
    exact h H1 locs ls hB ⟨Nat.le_trans hS.1 (by rw [z1, ← hP.2.1]; omega), fun x h1 h2 => (o2 x (Nat.lt_of_lt_of_le h1 hS.1)).trans (hS.2.1 x h1 h2), hS.2.2⟩ hl
theorem b_newL {N : Nat} {x : Int32} {j : Nat} {R' : va_W} (C : Cy K cc own d) (hn : L0.length = n) (hd : dC cc pc (.newarray .long) 2 q tgt) (w : Cond.arrayClass .long ∈ RQ) (hx : ¬ x < 0) (hN : x.toNatClampNeg = N) (hb : N ≤ 5000) (hc : cs.1 + 1 ≤ K.1.R.cells ∧ cs.2 + N ≤ K.1.R.slots) (hj : R.length = j) (hR : R ++ [(K.2.1.1 + (n + j), arL K.2.1 N)] = R')
    (h : B K (cs.1 + 1, cs.2 + N) q lv (.ref (K.2.1.1 + (n + j)) :: rest) L0 R') : B K cs pc lv (.int x :: rest) L0 R := by
  obtain ⟨e1, rfl, -⟩ := hd
  intro H locs ls hP hS hl
  have hlen : (L0 ++ R).length = n + j := by rw [List.length_append, hn, hj]
  refine va_newaK (g := F0 K.1.m pc ls (.int x :: rest)) C.1.ex C.1.by (atype := .long) (C.1.rq _ w) rfl e1 rfl hx hN ?_ hc.1 hc.2 hP.2.1 fun H1 cA f1 z1 o1 hAr hNm => ?_
  · show N * 8 ≤ _
    omega
  · have hc0 := (C.1.iv.1.2 1 _ rfl).2
    have hcc : cA = K.2.1.2.2.2.1 1 := Option.some.inj (hNm.symm.trans hc0)
    subst hcc
    have o2 : ∀ q : Nat, q < H.size → H1[q]? = H[q]? := fun q hq => o1 q (by rw [← hP.2.1]; exact hq)
    have hB : BP K.2.1 (L0 ++ R ++ [(K.2.1.1 + (L0 ++ R).length, arL K.2.1 N)]) H1 := hP.push (by rw [z1, hP.2.1]) o2 f1
    rw [hlen, List.append_assoc, hR] at hB
    have e : K.2.1.1 + (L0 ++ R).length = K.2.1.1 + (n + j) := by rw [hlen]
    rw [e]
    exact h H1 locs ls hB ⟨Nat.le_trans hS.1 (by rw [z1, ← hP.2.1]; omega), fun x h1 h2 => (o2 x (Nat.lt_of_lt_of_le h1 hS.1)).trans (hS.2.1 x h1 h2), hS.2.2⟩ hl
theorem b_newZ {N : Nat} {x : Int32} {j : Nat} {R' : va_W} (C : Cy K cc own d) (hn : L0.length = n) (hd : dC cc pc (.newarray .boolean) 2 q tgt) (w : Cond.arrayClass .boolean ∈ RQ) (hx : ¬ x < 0) (hN : x.toNatClampNeg = N) (hb : N ≤ 5000) (hc : cs.1 + 1 ≤ K.1.R.cells ∧ cs.2 + N ≤ K.1.R.slots) (hj : R.length = j) (hR : R ++ [(K.2.1.1 + (n + j), arZ K.2.1 N)] = R')
    (h : B K (cs.1 + 1, cs.2 + N) q lv (.ref (K.2.1.1 + (n + j)) :: rest) L0 R') : B K cs pc lv (.int x :: rest) L0 R := by
  obtain ⟨e1, rfl, -⟩ := hd
  intro H locs ls hP hS hl
  have hlen : (L0 ++ R).length = n + j := by rw [List.length_append, hn, hj]
  refine va_newaK (g := F0 K.1.m pc ls (.int x :: rest)) C.1.ex C.1.by (atype := .boolean) (C.1.rq _ w) rfl e1 rfl hx hN ?_ hc.1 hc.2 hP.2.1 fun H1 cA f1 z1 o1 hAr hNm => ?_
  · show N * 1 ≤ _
    omega
  · have hc0 := (C.1.iv.1.2 2 _ rfl).2
    have hcc : cA = K.2.1.2.2.2.1 2 := Option.some.inj (hNm.symm.trans hc0)
    subst hcc
    have o2 : ∀ q : Nat, q < H.size → H1[q]? = H[q]? := fun q hq => o1 q (by rw [← hP.2.1]; exact hq)
    have hB : BP K.2.1 (L0 ++ R ++ [(K.2.1.1 + (L0 ++ R).length, arZ K.2.1 N)]) H1 := hP.push (by rw [z1, hP.2.1]) o2 f1
    rw [hlen, List.append_assoc, hR] at hB
    have e : K.2.1.1 + (L0 ++ R).length = K.2.1.1 + (n + j) := by rw [hlen]
    rw [e]
    exact h H1 locs ls hB ⟨Nat.le_trans hS.1 (by rw [z1, ← hP.2.1]; omega), fun x h1 h2 => (o2 x (Nat.lt_of_lt_of_le h1 hS.1)).trans (hS.2.1 x h1 h2), hS.2.2⟩ hl
theorem b_newF {N : Nat} {ix : Nat} {x : Int32} {j : Nat} {R' : va_W} (C : Cy K cc own d) (hn : L0.length = n) (hd : dC cc pc (.anewarray ix) 3 q tgt) (w : Cond.classLink own ix fnd ∈ RQ) (hx : ¬ x < 0) (hN : x.toNatClampNeg = N) (hb : N ≤ 5000) (hc : cs.1 + 1 ≤ K.1.R.cells ∧ cs.2 + N ≤ K.1.R.slots) (hj : R.length = j) (hR : R ++ [(K.2.1.1 + (n + j), arF K.2.1 N (fun _ => none))] = R')
    (h : B K (cs.1 + 1, cs.2 + N) q lv (.ref (K.2.1.1 + (n + j)) :: rest) L0 R') : B K cs pc lv (.int x :: rest) L0 R := by
  obtain ⟨e1, rfl, -⟩ := hd
  intro H locs ls hP hS hl
  have hlen : (L0 ++ R).length = n + j := by rw [List.length_append, hn, hj]
  subst hN
  refine W.anew C.1.ex C.1.by C.1.ow (C.1.rq _ w) (va_AO.use C.2.1) (g := F0 K.1.m pc ls (.int x :: rest)) rfl e1 rfl hx (by omega) hc.1 hc.2 fun cA kA comp f1 f2 f3 f4 => ?_
  generalize hH1 : H.push ({ cls := cA, slots := Array.replicate x.toNatClampNeg .null, vm := .none } : Cell) = H1
  have z1 : H1.size = H.size + 1 := by rw [← hH1, Array.size_push]
  have g1 : H1[H.size]? = some (arrV cA x.toNatClampNeg (fun _ => .null)) := by rw [← hH1, Array.getElem?_push_size, ← arrV_new]
  have o2 : ∀ q : Nat, q < H.size → H1[q]? = H[q]? := fun q hq => by rw [← hH1, Array.getElem?_push, if_neg (Nat.ne_of_lt hq)]
  obtain ⟨_, _, -, -, -, hc0⟩ := (C.1.iv.1.2 3 _ rfl).2
  have hcc : cA = K.2.1.2.2.2.1 3 := Option.some.inj (f1.symm.trans hc0)
  subst hcc
  have hB : BP K.2.1 (L0 ++ R ++ [(K.2.1.1 + (L0 ++ R).length, arF K.2.1 x.toNatClampNeg (fun _ => none))]) H1 := hP.push z1 o2 (by
    show H1[K.2.1.1 + (L0 ++ R).length]? = some (vp_cell _ _)
    rw [vp_cell_q, ← hP.2.1]
    exact g1)
  rw [hlen, List.append_assoc, hR] at hB
  have e : H.size = K.2.1.1 + (n + j) := by rw [hP.2.1, hlen]
  rw [e]
  exact h H1 locs ls hB ⟨Nat.le_trans hS.1 (by rw [z1]; omega), fun x h1 h2 => (o2 x (Nat.lt_of_lt_of_le h1 hS.1)).trans (hS.2.1 x h1 h2), hS.2.2⟩ hl
/-- a class that may be made by an entry of own -/
def MK (own : String) (ix ci N : Nat) (fs : List Value) : Prop := ∃ (Cn : String) (T : u_T) (ty : Nat → FieldType), vwCl[ci]? = some (Cn, T, N) ∧ (∀ w ∈ u_ws Cn T N, w ∈ RQ) ∧ (∀ k, k < N → parseFieldDescriptor (T k).2.2.1 = some (ty k)) ∧ Cond.classLink own ix Cn ∈ RQ ∧ Cond.instantiable Cn N ∈ RQ ∧ Cond.initialized Cn ∈ RQ ∧ ∀ j, j < N → defaultValue (ty j) = vp_V fs j
theorem b_new {ix ci N : Nat} {fs : List Value} {j : Nat} {R' : va_W} (C : Cy K cc own d) (hn : L0.length = n) (hd : dC cc pc (.new ix) 3 q tgt) (w : MK own ix ci N fs) (hc : cs.1 + 1 ≤ K.1.R.cells ∧ cs.2 + N ≤ K.1.R.slots) (hj : R.length = j) (hR : R ++ [(K.2.1.1 + (n + j), .inr (ci, fs))] = R')
    (h : B K (cs.1 + 1, cs.2 + N) q lv (.ref (K.2.1.1 + (n + j)) :: rest) L0 R') : B K cs pc lv rest L0 R := by
  obtain ⟨e1, rfl, -⟩ := hd
  obtain ⟨Cn, T, ty, w1, w2, w3, w4, w5, w6, w7⟩ := w
  intro H locs ls hP hS hl
  have hlen : (L0 ++ R).length = n + j := by rw [List.length_append, hn, hj]
  have hKn := C.1.iv.1.1 ci _ w1
  refine W.newcK C.1.ex C.1.by C.1.ow (C.1.rq _ w4) (C.1.rq _ w5) (C.1.rq _ w6) (g := F0 K.1.m pc ls rest) rfl e1 hc.1 hc.2 hKn.2.1 hP.2.1 fun H1 kC hkC f1 z1 o1 => ?_
  have o2 : ∀ q : Nat, q < H.size → H1[q]? = H[q]? := fun q hq => o1 q (by rw [← hP.2.1]; exact hq)
  have hB : BP K.2.1 (L0 ++ R ++ [(K.2.1.1 + (L0 ++ R).length, .inr (ci, fs))]) H1 := hP.push (by rw [z1, hP.2.1]) o2 ⟨_, w1, (u_born ty C.1.rq w2 hKn hkC f1 w3).to w7⟩
  rw [hlen, List.append_assoc, hR] at hB
  have e : K.2.1.1 + (L0 ++ R).length = K.2.1.1 + (n + j) := by rw [hlen]
  rw [e]
  exact h H1 locs ls hB ⟨Nat.le_trans hS.1 (by rw [z1, ← hP.2.1]; omega), fun x h1 h2 => (o2 x (Nat.lt_of_lt_of_le h1 hS.1)).trans (hS.2.1 x h1 h2), hS.2.2⟩ hl
theorem b_get {ci i ix j a : Nat} {fs : List Value} {v : Value} {ty : FieldType} {fin : Bool} (C : Cy K cc own d) (hn : L0.length = n) (hd : dC cc pc (.getfield ix) 3 q tgt) (hF : FK own ix ci i ty fin) (hk : R[j]? = some (a, .inr (ci, fs))) (hi : fs[i]? = some v)
    (h : B K cs q lv (v :: rest) L0 R) : B K cs pc lv (.ref a :: rest) L0 R := by
  obtain ⟨e1, rfl, -⟩ := hd
  obtain ⟨Cn, T, N, ty0, f1, f2, f3, f4, -, -, -, -⟩ := hF
  intro H locs ls hP hS hl
  exact va_get C.1.ex C.1.by C.1.rq f3 C.1.ow C.1.iv.1 hP.1 (n + j) (by rw [app_at hn]; exact hk) f1 i f2 (C.1.rq _ f4) (fun _ x => x) hi e1 (h H locs ls hP hS hl)
theorem b_put {ci i ix j a : Nat} {fs : List Value} {v : Value} {ty : FieldType} {R' : va_W} (C : Cy K cc own d) (hn : L0.length = n) (hd : dC cc pc (.putfield ix) 3 q tgt) (hF : FK own ix ci i ty false) (hk : R[j]? = some (a, .inr (ci, fs))) (hi : i < fs.length) (hnv : narrow ty v = v) (hfit : fits ty v = true) (hR : R.set j (a, .inr (ci, fs.set i v)) = R')
    (h : B K cs q lv rest L0 R') : B K cs pc lv (v :: .ref a :: rest) L0 R := by
  obtain ⟨e1, rfl, -⟩ := hd
  obtain ⟨Cn, T, N, ty0, f1, f2, f3, f4, f5, f6, f7, f8⟩ := hF
  intro H locs ls hP hS hl
  have hk2 : (L0 ++ R)[n + j]? = some (a, .inr (ci, fs)) := by rw [app_at hn]; exact hk
  obtain ⟨r, h1, cell, q1, q2, q3, q4⟩ := hP.1 (n + j) _ hk2
  have hr : r = (Cn, T, N) := Option.some.inj (h1.symm.trans f1)
  subst hr
  obtain ⟨hS1, hfc, kC, hkC, hkind⟩ := C.1.iv.1.1 ci _ f1
  obtain ⟨cf, kf, fi, f, hi2, hsl⟩ := hS1 i f2
  have hlay := C.1.rq _ (f3 _ (u_in_lay f2))
  unfold u_lay at hlay
  rw [if_neg (by rw [f7]; simp)] at hlay
  have hst := (u_facts hfc hkC (u_lays C.1.rq f3 f2) hi2).1
  have h6 := u_store hfc hkC hkind hlay hi2 f8 hnv hfit
  have hap := va_apart (own := own) C.1.rq f3 ty0 f5 f6 C.1.iv.1 f1
  refine W.putK C.1.ex C.1.by (f := f) ⟨C.1.ow, C.1.rq _ f4, ⟨_, _, _, hi2⟩, hst⟩ (by rw [q2]; exact h6) q1 q3 (by rw [hsl]; exact k2_hasslot (q4 i f2)) (g := F0 K.1.m pc ls (v :: .ref a :: rest)) rfl rfl e1 fun H' g1 g2 g3 => ?_
  rw [hsl] at g1 ⊢
  have hB := hP.set hk2 g2 (hP.1.set hP.D hk2 (e := .inr (ci, fs.set i v)) ⟨_, f1, t_OB.to (V := updV (vp_V fs) i v) ⟨_, g1, q2, q3, t_set q4 hap f2 v⟩ (fun j _ => vp_updV_set hi v j)⟩ g3)
  rw [app_set hn, hR] at hB
  exact h H' _ ls hB (hS.put g2 g3 (hP.D.2 _ _ hk2)) hl
theorem b_putF {ci i ix j a : Nat} {fs : List Value} {v : Value} {ty : FieldType} {R' : va_W} (C : Cy K cc own d) (hn : L0.length = n) (hin : K.1.meth.name = "<init>") (hd : dC cc pc (.putfield ix) 3 q tgt) (hF : FK own ix ci i ty true) (hdecl : ∃ (Cn : String) (T : u_T) (N : Nat), vwCl[ci]? = some (Cn, T, N) ∧ (T i).1 = own) (hk : R[j]? = some (a, .inr (ci, fs))) (hi : i < fs.length) (hnv : narrow ty v = v) (hfit : fits ty v = true) (hR : R.set j (a, .inr (ci, fs.set i v)) = R')
    (h : B K cs q lv rest L0 R') : B K cs pc lv (v :: .ref a :: rest) L0 R := by
  obtain ⟨e1, rfl, -⟩ := hd
  obtain ⟨Cn, T, N, ty0, f1, f2, f3, f4, f5, f6, f7, f8⟩ := hF
  obtain ⟨Cn', T', N', f1', hdecl⟩ := hdecl
  have hrr : (Cn', T', N') = (Cn, T, N) := Option.some.inj (f1'.symm.trans f1)
  cases hrr
  intro H locs ls hP hS hl
  have hk2 : (L0 ++ R)[n + j]? = some (a, .inr (ci, fs)) := by rw [app_at hn]; exact hk
  obtain ⟨r, h1, cell, q1, q2, q3, q4⟩ := hP.1 (n + j) _ hk2
  have hr : r = (Cn, T, N) := Option.some.inj (h1.symm.trans f1)
  subst hr
  obtain ⟨hS1, hfc, kC, hkC, hkind⟩ := C.1.iv.1.1 ci _ f1
  obtain ⟨cf, kf, fi, f, hi2, hsl⟩ := hS1 i f2
  have hlay := C.1.rq _ (f3 _ (u_in_lay f2))
  unfold u_lay at hlay
  rw [if_pos f7] at hlay
  have hst := (u_facts hfc hkC (u_lays C.1.rq f3 f2) hi2).1
  have hcf : K.1.m.cls = cf := by
    obtain ⟨_, _, c', _, _, _, -, -, hf', -, -, -, hown2, -⟩ := Cond.laysFinal_spec hlay
    have e1 : c' = cf := by have := hi2.symm.trans hf'; simp at this; exact this.1.symm
    rw [hdecl] at hown2
    rw [← e1]; exact Option.some.inj (C.1.ow.symm.trans hown2)
  have h6 := u_fits hfc hkC hkind (Or.inr hlay) hi2 f8 hnv hfit
  have hap := va_apart (own := own) C.1.rq f3 ty0 f5 f6 C.1.iv.1 f1
  refine W.putFinK C.1.ex C.1.by C.1.ow (C.1.rq _ f4) hi2 hst hcf hin (by rw [q2]; exact h6) q1 q3 (by rw [hsl]; exact k2_hasslot (q4 i f2)) (g := F0 K.1.m pc ls (v :: .ref a :: rest)) rfl rfl e1 fun H' g1 g2 g3 => ?_
  rw [hsl] at g1 ⊢
  have hB := hP.set hk2 g2 (hP.1.set hP.D hk2 (e := .inr (ci, fs.set i v)) ⟨_, f1, t_OB.to (V := updV (vp_V fs) i v) ⟨_, g1, q2, q3, t_set q4 hap f2 v⟩ (fun j _ => vp_updV_set hi v j)⟩ g3)
  rw [app_set hn, hR] at hB
  exact h H' _ ls hB (hS.put g2 g3 (hP.D.2 _ _ hk2)) hl
theorem b_aald {j a N : Nat} {f : Nat → Option Nat} {i : Int32} {v : Nat} (C : Cy K cc own d) (hn : L0.length = n) (hd : dC cc pc .aaload 1 q tgt) (hk : R[j]? = some (a, arF K.2.1 N f)) (hin : vp_in i N) (hv : f i.toNatClampNeg = some v)
    (h : B K cs q lv (.ref v :: rest) L0 R) : B K cs pc lv (.int i :: .ref a :: rest) L0 R := by
  obtain ⟨e1, rfl, -⟩ := hd
  intro H locs ls hP hS hl
  refine va_aldq (C := fnd) C.1.ex C.1.by C.1.iv.1 hP.1 (n + j) 3 (f := f) (by rw [app_at hn]; exact hk) rfl hin e1 ?_
  rw [hv]
  exact h H locs ls hP hS hl
theorem b_aast {j jj a v N : Nat} {fs : List Value} {f : Nat → Option Nat} {i : Int32} {R' : va_W} (C : Cy K cc own d) (hn : L0.length = n) (hd : dC cc pc .aastore 1 q tgt) (hk : R[j]? = some (a, arF K.2.1 N f)) (hv : R[jj]? = some (v, .inr (1, fs))) (hin : vp_in i N) (hR : R.set j (a, arF K.2.1 N (va_up f i.toNatClampNeg (some v))) = R')
    (h : B K cs q lv rest L0 R') : B K cs pc lv (.ref v :: .int i :: .ref a :: rest) L0 R := by
  obtain ⟨e1, rfl, -⟩ := hd
  intro H locs ls hP hS hl
  have hk2 : (L0 ++ R)[n + j]? = some (a, arF K.2.1 N f) := by rw [app_at hn]; exact hk
  have hv2 : (L0 ++ R)[n + jj]? = some (v, .inr (1, fs)) := by rw [app_at hn]; exact hv
  have hlt : i.toNatClampNeg < N := Nat.not_le.mp fun q => hin (Or.inr q)
  have h0 : ¬ i < 0 := fun q => hin (Or.inl q)
  obtain ⟨r', hr', cellV, g1, g2, g3, -⟩ := hP.1 (n + jj) _ hv2
  have hcls := (C.1.iv.1.1 1 _ rfl).2
  obtain ⟨kA, comp, k1, k2, k3, -⟩ := (C.1.iv.1.2 3 _ rfl).2
  have hcomp : comp = (zD K.2.1).1 1 := Option.some.inj (k3.symm.trans hcls.1)
  subst hcomp
  obtain ⟨kC, hkC, hkO⟩ := hcls.2
  refine W.aast C.1.ex C.1.by (hP.1 (n + j) _ hk2) (fun q h => by cases h) (fun h => by cases h) k1 k2 (g := F0 K.1.m pc ls (.ref v :: .int i :: .ref a :: rest)) rfl hkC ⟨h0, by show _ < (arrV _ _ _).slots.size; rw [arrV_size]; exact hlt⟩ g1 (fun q h => by rw [g3] at h; cases h) (by rw [g2]; exact hkC) (by rw [g2]; exact va_assign ⟨hcls.1, kC, hkC, hkO⟩) rfl rfl e1 fun H1 e z oq => ?_
  have hB := hP.set hk2 z (hP.1.set hP.D hk2 (e := arF K.2.1 N (va_up f i.toNatClampNeg (some v))) (by
    show H1[a]? = some (vp_cell _ _)
    rw [e]
    rw [vp_cell_q, vp_cell_q, arrV_store]
    congr 2
    funext q
    by_cases hq : q = i.toNatClampNeg
    · subst hq
      simp [updV, va_up, va_rf]
    · simp [updV, va_up, hq]) oq)
  rw [app_set hn, hR] at hB
  exact h H1 _ ls hB (hS.put z oq (hP.D.2 _ _ hk2)) hl
end BRows
/-- what a constructor may count on, what it leaves -/
def PvB (E : Ev) (av : List Value) (L : va_W) : Array Value → State → Prop := va_Pc av (fun U => Iv E U ∧ va_AO fnd U ∧ BP E L U.heap)
def QvB (E : Ev) (L' : va_W) : Array Value → State → Outcome → State → Prop := fun _ st o t => o = .returned none ∧ BP E L' t.heap ∧ va_F (zA E) st t
def CB (E : Ev) (l : Launch) (d mc ms : Nat) (y : MethodName) (cc : ByteArray) (maxL : Nat) (av : List Value) (L L' : va_W) : Prop :=
  Met l y (Cond.code y cc maxL none :: RQ) (rmD d mc ms) (PvB E av L) (QvB E L') mc ms (zA E)
theorem PvB.blind {E : Ev} {av : List Value} {L : va_W} : FrameBlind (PvB E av L) := fun _ U _ _ h => ⟨h.1, Iv.same (u := U) rfl rfl h.2.1, va_AO.moved (u := U) (Vm.Alike.refl _) h.2.2.1, h.2.2.2⟩
theorem CB.of {E : Ev} {l : Launch} {d mc ms : Nat} {y : MethodName} {cc : ByteArray} {maxL : Nat} {av : List Value} {L0 R R' L L' : va_W} (htr : l.stackTraces = false) (hy : plainName y.cls = true) (hyn : y.name = "<init>") (hav : (lg_sl av).length ≤ maxL) (hL : L = L0 ++ R) (hL' : L' = L0 ++ R')
    (body : ∀ K : Kx, K.2.1 = E → K.2.2.1 = maxL → K.1.l = l → K.1.R = rmD d mc ms → Cy K cc y.cls d → K.1.meth.sig.returnType = none → K.1.meth.name = "<init>" → K.2.2.2 = MQ K.1.below (QvB E (L0 ++ R')) K.1.args K.1.s mc ms (zA E) → B K (0, 0) 0 (lv_args 0 av) [] L0 R) : CB E l d mc ms y cc maxL av L L' := by
  subst hL; subst hL'
  refine Met.ofW (cc := cc) (maxL := maxL) (ret := none) hy rfl ?_
  intro p e s m args below meth c s₁ B hml hv
  obtain ⟨rfl, hI, hao, hP⟩ := hv
  have hts := atoms_spec (ws := Cond.code y cc maxL none :: RQ) B.pre
  have hown : s.vm.findClass y.cls = some m.cls := findClass_of_methodNamed B.named
  have hl := lv_entry av (n := maxL) hav
  rw [lg_entry_eq]
  exact body ((p, l, e, rmD d mc ms, s, m, av.toArray, below, meth, c), E, maxL, MQ below (QvB E (L0 ++ R')) av.toArray s mc ms (zA E)) rfl rfl rfl rfl
    ⟨⟨B.exec, B.bytes, hml, hown, fun w hw => hts w (List.mem_cons_of_mem _ hw), B.notSynchronized, hI, by show E.1 ≤ s.heap.size; rw [hP.2.1]; omega, Nat.le_refl _, Nat.le_refl _, htr⟩, hao, fun w hw => hts w (List.mem_cons_of_mem _ hw)⟩ B.returns ((name_of_methodNamed B.named B.method).1.trans hyn) rfl s.heap [] _ hP va_S.rf hl
section BCall
variable {K : Kx} {cc : ByteArray} {own : String} {d n : Nat} {cs : Nat × Nat} {pc len q tgt : Nat} {lv : List (Nat × Value)} {rest st : List Value} {L0 R R' : va_W} {y : MethodName} {bytes : ByteArray} {maxL nn d' mc' ms' ix : Nat}
theorem b_ret {mc ms : Nat} {E : Ev} (C : Cy K cc own d) (hE : K.2.1 = E) (hd : dC cc pc .return_ 1 q tgt) (hr : K.1.meth.sig.returnType = none) (hQ : K.2.2.2 = MQ K.1.below (QvB E (L0 ++ R)) K.1.args K.1.s mc ms (zA E)) (hc : cs.1 ≤ mc) (hs : cs.2 ≤ ms) : B K cs pc lv [] L0 R := by
  obtain ⟨e1, -, -⟩ := hd
  subst hE
  intro H locs ls hP hS hl
  unfold W0
  rw [hQ]
  exact W.widen hc hs (W.vret C.1.ex C.1.by hr (fun t ht hW => ⟨rfl, by rw [ht]; exact hP, hS.F ht⟩) hS.2.2 e1 (hlocks := C.1.lk))
theorem b_pre {H : Heap} {locs : List Loc} {As : List Value} (C : Cy K cc own d) (hP : BP K.2.1 (L0 ++ R) H) (hS : va_S (zA K.2.1) K.1.s.heap H locs) : ∀ U : State, U.heap = H → K.1.s.WarmedH U.vm → PvB K.2.1 As (L0 ++ R) As.toArray U := by
  intro U hU hW
  exact ⟨rfl, Iv.warm hW (fun a h1 h2 => by rw [hU]; exact hS.2.1 a h1 h2) C.1.iv, va_AO.moved hW.alike C.2.1, by rw [hU]; exact hP⟩
theorem b_fin {H : Heap} {locs : List Loc} {av : Array Value} {ls : Array Slot} {st : List Value}
    (hr : va_Run K.1.p K.1.l K.1.e K.1.R K.1.s K.1.m K.1.args K.1.below K.1.meth K.1.c H locs cs.1 cs.2 mc' ms' (F0 K.1.m pc ls st) rest (QvB K.2.1 (L0 ++ R') av) (zA K.2.1)) (hS : va_S (zA K.2.1) K.1.s.heap H locs) (hl : lv_has ls K.2.2.1 lv)
    (h : B K (cs.1 + mc', cs.2 + ms') (pc + 3) lv rest L0 R') : W0 K H locs cs (F0 K.1.m pc ls st) := by
  intro T hT X
  obtain ⟨v, st₀, t, T', L, h0, X', hL, e1, e2, ⟨hv, hP1, hz, hk⟩, hst⟩ := hr T hT X
  cases hv
  rw [h0] at hz hk
  have hS1 : va_S (zA K.2.1) K.1.s.heap T'.heap (locs ++ L) := ⟨Nat.le_trans hS.1 (by rw [e1]; exact hz), fun z h1 h2 => by rw [e1, hk z (Nat.lt_of_lt_of_le h1 hS.1) h2]; exact hS.2.1 z h1 h2, fun z hz => by
    rcases List.mem_append.mp hz with h | h
    · exact hS.2.2 z h
    · exact hL z h⟩
  obtain ⟨t2, a1, b1⟩ := h T'.heap (locs ++ L) ls (by rw [e1]; exact hP1) hS1 hl T' rfl X'
  exact ⟨t2, hst t2 a1, b1⟩
/-- a constructor of a nest mate -/
def IKN (own : String) (ix : Nat) (y : MethodName) (host : String) (bytes : ByteArray) (maxL nn : Nat) : Prop := Cond.methodLinkNest own ix y host ∈ HWs ∧ Cond.instanceMethod y ∈ RQ ∧ Cond.initialized y.cls ∈ RQ ∧ Cond.code y bytes maxL none ∈ RQ ∧ y.name = "<init>" ∧
  (y.cls ≠ "java/lang/invoke/MethodHandle" ∧ y.cls ≠ "java/lang/invoke/VarHandle") ∧ (parseMethodDescriptor y.desc).map (fun d => d.parameters.length) = some nn ∧ maxL ≤ 40
def IKI (own : String) (ix : Nat) (y : MethodName) (bytes : ByteArray) (maxL nn : Nat) : Prop := Cond.methodLink own ix y ∈ RQ ∧ Cond.instanceMethod y ∈ RQ ∧ Cond.initialized y.cls ∈ RQ ∧ Cond.code y bytes maxL none ∈ RQ ∧ y.name = "<init>" ∧
  (y.cls ≠ "java/lang/invoke/MethodHandle" ∧ y.cls ≠ "java/lang/invoke/VarHandle") ∧ (parseMethodDescriptor y.desc).map (fun d => d.parameters.length) = some nn ∧ maxL ≤ 40
theorem b_cN {host : String} {a : Nat} (As rest : List Value) (C : Cy K cc own d) (hd : dC cc pc (.invokespecial ix) 3 q tgt) (hV : IKN own ix y host bytes maxL nn) (hM : CB K.2.1 K.1.l d' mc' ms' y bytes maxL (.ref a :: As) (L0 ++ R) (L0 ++ R'))
    (hst : st = As.reverse ++ .ref a :: rest) (hnn : As.length = nn) (hW : (rest.map fun v => v.category).sum ≤ 8) (hdd : d' < d) (hc : cs.1 + mc' ≤ K.1.R.cells ∧ cs.2 + ms' ≤ K.1.R.slots)
    (h : B K (cs.1 + mc', cs.2 + ms') q lv rest L0 R') : B K cs pc lv st L0 R := by
  obtain ⟨e1, rfl, -⟩ := hd
  obtain ⟨v3, v4, v6, v7, v5, v8, v9, v10⟩ := hV
  have hfr := C.1.fr; have hlo := C.1.lo
  intro H locs ls hP hS hl
  refine b_fin (va_runIN (As := As) (rest := rest) (b := a) (n := nn) ⟨C.1.ex, C.1.by, C.1.ml, C.1.ow, C.1.rq⟩ hM ⟨va_cnB nn C.1.rq (RQ_gi1 v7 (fun _ h => h)) rfl rfl rfl (C.1.iv.2.1 _ v3) (C.1.rq _ v6) ⟨v8.1, v8.2, v9⟩ ⟨?_, ?_⟩, v5, C.1.rq _ v4⟩ ⟨PvB.blind, b_pre C hP hS⟩ rfl hnn hl.1 hst (by simpa using hW) e1 hc) hS hl h
  · show d' + 1 ≤ K.1.R.frames
    omega
  · show 8 + (maxL + 11) + (64 * d' + 100) ≤ K.1.R.locals
    omega
theorem b_cI {a : Nat} (As rest : List Value) (C : Cy K cc own d) (hd : dC cc pc (.invokespecial ix) 3 q tgt) (hV : IKI own ix y bytes maxL nn) (hM : CB K.2.1 K.1.l d' mc' ms' y bytes maxL (.ref a :: As) (L0 ++ R) (L0 ++ R'))
    (hst : st = As.reverse ++ .ref a :: rest) (hnn : As.length = nn) (hW : (rest.map fun v => v.category).sum ≤ 8) (hdd : d' < d) (hc : cs.1 + mc' ≤ K.1.R.cells ∧ cs.2 + ms' ≤ K.1.R.slots)
    (h : B K (cs.1 + mc', cs.2 + ms') q lv rest L0 R') : B K cs pc lv st L0 R := by
  obtain ⟨e1, rfl, -⟩ := hd
  obtain ⟨v3, v4, v6, v7, v5, v8, v9, v10⟩ := hV
  have hfr := C.1.fr; have hlo := C.1.lo
  intro H locs ls hP hS hl
  refine b_fin (va_runI (As := As) (rest := rest) (b := a) (n := nn) ⟨C.1.ex, C.1.by, C.1.ml, C.1.ow, C.1.rq⟩ hM (cwI nn C.1.rq (RQ_gi1 v7 (fun _ h => h)) rfl rfl rfl (C.1.rq _ v6) (C.1.rq _ v3) (C.1.rq _ v4) v5 ⟨v8.1, v8.2, v9⟩ ⟨?_, ?_⟩) ⟨PvB.blind, b_pre C hP hS⟩ rfl hnn hl.1 hst (by simpa using hW) e1 hc) hS hl h
  · show d' + 1 ≤ K.1.R.frames
    omega
  · show 8 + (maxL + 11) + (64 * d' + 100) ≤ K.1.R.locals
    omega
end BCall
