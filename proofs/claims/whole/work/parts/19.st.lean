/-! THE START: what the law's entry knows makes Iv -/
theorem tb_RQ {w : Cond} (h : w ∈ RQ) : w ∈ lw_tbl := (List.mem_filter.mp h).1
theorem MK.known {own : String} {ix ci N : Nat} {fs : List Value} {s : State} {args : Array Value} (h : MK own ix ci N fs) (hts : ∀ w ∈ lw_tbl, w.before args s = true) : ∃ (cC : ClassId) (iS : Nat → Nat), ∀ q, vwCl[ci]? = some q → u_Kn s q.1 q.2.1 q.2.2 cC iS := by
  obtain ⟨Cn, T, ty, w1, w2, w3, w4, w5, w6, w7⟩ := h
  obtain ⟨cC, iS, hK⟩ := u_known (ws := RQ) (fun w hw => hts w (tb_RQ hw)) w2 (hts _ (tb_RQ w5))
  refine ⟨cC, iS, fun q hq => ?_⟩
  rw [w1] at hq
  cases hq
  exact hK
theorem known_all {s : State} {args : Array Value} (hts : ∀ w ∈ lw_tbl, w.before args s = true) : ∀ ci : Nat, ∃ (cC : ClassId) (iS : Nat → Nat), ∀ q, vwCl[ci]? = some q → u_Kn s q.1 q.2.1 q.2.2 cC iS := by
  intro ci
  match ci with
  | 0 => exact mk_X9_7.known hts
  | 1 => exact mk_X7_9.known hts
  | 2 => exact mk_X9_20.known hts
  | 3 => exact mk_X9_41.known hts
  | 4 => exact mk_X9_27.known hts
  | 5 => exact mk_X9_48.known hts
  | 6 => exact mk_X9_34.known hts
  | 7 => exact mk_X9_55.known hts
  | 8 => exact mk_L_8.known hts
  | 9 => exact mk_L_68.known hts
  | k + 10 => exact ⟨0, fun _ => 0, fun q hq => by
      have hl : vwCl.length = 10 := rfl
      have := (List.getElem?_eq_some_iff.mp hq).1
      omega⟩
theorem arrs_all {s : State} {args : Array Value} (hts : ∀ w ∈ lw_tbl, w.before args s = true) : ∃ cy : Nat → ClassId, ∀ (k : Nat) (q : ClassId × FieldType), ([(cy 0, .int), (cy 1, .long), (cy 2, .boolean), (cy 3, .object fnd)] : List (ClassId × FieldType))[k]? = some q → ArrOfT s q.1 q.2 ∧ va_RA s q.1 q.2 := by
  obtain ⟨c0, k0, p0, a0, b0, d0⟩ := Cond.arrayClass_spec (hts (.arrayClass .int) (by decide +kernel))
  obtain ⟨c1, k1, p1, a1, b1, d1⟩ := Cond.arrayClass_spec (hts (.arrayClass .long) (by decide +kernel))
  obtain ⟨c2, k2, p2, a2, b2, d2⟩ := Cond.arrayClass_spec (hts (.arrayClass .boolean) (by decide +kernel))
  obtain ⟨comp, c3, k3, h1, h2, h3, h4, h5⟩ := Cond.arrayOver_spec (hts (.arrayOver (.object fnd)) (by decide +kernel))
  refine ⟨fun j => match j with | 0 => c0 | 1 => c1 | 2 => c2 | _ => c3, fun k q hq => ?_⟩
  match k with
  | 0 => cases hq; exact ⟨fun n z => ⟨fun k h => (by cases h), k0, b0, p0, d0⟩, a0⟩
  | 1 => cases hq; exact ⟨fun n z => ⟨fun k h => (by cases h), k1, b1, p1, d1⟩, a1⟩
  | 2 => cases hq; exact ⟨fun n z => ⟨fun k h => (by cases h), k2, b2, p2, d2⟩, a2⟩
  | 3 => cases hq; exact ⟨fun n z => ⟨fun k h => (by cases h), k3, h3, comp, h4⟩, k3, comp, h3, h4, h1, h5⟩
  | k + 4 => simp at hq
theorem tab_all {s : State} {args : Array Value} {A : Nat → Prop} {n : String} {N : Nat} {L : List Int64} (hgv : (Jvm.Cond.and given_1 narrow_1).before args s = true) (hl : (Cond.laysStatic "GroundPlan" n "[J").before args s = true) (hini : (Cond.initialized "GroundPlan").before args s = true) (hA : ∀ a : Nat, a < s.heap.size → ¬ A a) (hN : N < 2 ^ 31)
    (h1 : Cond.arrayOf (.static "GroundPlan" n "[J") .long ∈ flatC (Jvm.Cond.and given_1 narrow_1)) (h2 : Cond.eq (.length (.static "GroundPlan" n "[J")) (.int (Int32.ofNat N)) ∈ flatC (Jvm.Cond.and given_1 narrow_1))
    (h3 : ∀ j, j < N → Cond.eq (.elem (.static "GroundPlan" n "[J") (.int (Int32.ofNat j))) (.long (L.getD j 0)) ∈ flatC (Jvm.Cond.and given_1 narrow_1)) :
    ∃ t : Nat, va_Z "GroundPlan" n "[J" (.ref t) A s s.heap ∧ va_T .long t N (fun j => .long (L.getD j 0)) A s s.heap := by
  have hs := flat_of_before _ hgv
  obtain ⟨t, ht, hT⟩ := va_Tof (tm := .static "GroundPlan" n "[J") (f := fun j => .long (L.getD j 0)) hN (hs _ h1) (va_eqt (hs _ h2)) (fun j hj => va_eqtl (hs _ (h3 j hj))) hA
  exact ⟨t, va_Zref hl hini ht hA, hT⟩
theorem Iv_start {s : State} {b : Nat} (hts : ∀ w ∈ lw_tbl, w.before #[Value.ref b] s = true) (hgv : (Jvm.Cond.and given_1 narrow_1).before #[Value.ref b] s = true) : ∃ E : Ev, E.1 = s.heap.size ∧ Iv E s := by
  have hk := known_all hts
  obtain ⟨cy, hcy⟩ := arrs_all hts
  have hA : ∀ a : Nat, a < s.heap.size → ¬ (s.heap.size ≤ a) := fun a h => by omega
  have hg : (Cond.initialized "GroundPlan").before #[Value.ref b] s = true := hts _ (by decide +kernel)
  have ht : (Cond.initialized Bundle.tN).before #[Value.ref b] s = true := hts _ (by decide +kernel)
  obtain ⟨t0, z0, y0⟩ := tab_all (L := [1, 1, 2, 6, 24, 120, 720, 5040, 40320, 362880, 3628800, 39916800, 479001600]) (N := 13) (A := fun q => s.heap.size ≤ q) (n := "FACTORIALS") hgv (hts _ (by decide +kernel)) hg hA (by decide) (by decide +kernel) (by decide +kernel) (by decide +kernel)
  obtain ⟨t1, z1, y1⟩ := tab_all (L := [0, 1, 2, 6, 22, 90, 394, 1806, 8558, 41586, 206098]) (N := 11) (A := fun q => s.heap.size ≤ q) (n := "CUT_FORMS") hgv (hts _ (by decide +kernel)) hg hA (by decide) (by decide +kernel) (by decide +kernel) (by decide +kernel)
  obtain ⟨t2, z2, y2⟩ := tab_all (L := [0, 1, 2, 5, 14, 42, 132, 429, 1430, 4862, 16796]) (N := 11) (A := fun q => s.heap.size ≤ q) (n := "TREE_FORMS") hgv (hts _ (by decide +kernel)) hg hA (by decide) (by decide +kernel) (by decide +kernel) (by decide +kernel)
  have hs := flat_of_before _ hgv
  refine ⟨(s.heap.size, fun ci => Classical.choose (hk ci), fun ci => Classical.choose (Classical.choose_spec (hk ci)), cy, fun j => match j with | 0 => t0 | 1 => t1 | _ => t2), rfl, ⟨fun c q hq => Classical.choose_spec (Classical.choose_spec (hk c)) q hq, hcy⟩, fun w hw => ?_, ⟨z0, y0⟩, ⟨z1, y1⟩, ⟨z2, y2⟩, ?_, ?_, ?_⟩
  · exact (va_tabs (A := #[Value.ref b]) (u := s) (U := s) (hard_tab (List.mem_filter.mp hw).2) rfl (hts w (List.mem_filter.mp hw).1) : _)
  · exact vx_Zqof (hts _ (by decide +kernel)) ht (hs _ (by decide +kernel)) hA
  · exact vx_Zqof (hts _ (by decide +kernel)) ht (hs _ (by decide +kernel)) hA
  · have hcur : ∃ cur, s.vm.findClass "GroundPlan" = some cur := by
      obtain ⟨cC, iS, h⟩ := hk 8
      exact ⟨cC, (h _ rfl).2.1⟩
    obtain ⟨cur, hcur⟩ := hcur
    have hS : ∀ q ∈ SS, Cond.stringRef "GroundPlan" q.1 q.2 ∈ lw_tbl := by decide +kernel
    intro q hq
    obtain ⟨k, cf, i, a, -, -, -, -, -, hev⟩ := Cond.stringRef_spec hcur (hts _ (hS q hq))
    exact ⟨a, vk_R.of (hts _ (hS q hq)) hev⟩
