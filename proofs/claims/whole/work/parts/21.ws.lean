def R_law : String := "GroundPlanLaw"
def lw_P (b : Addr) (xs : List Int32) (args : Array Value) (s : State) : Prop := args = #[.ref b] ∧ s.IntsAt b xs ∧ xs.length ≤ 3584 ∧ (Jvm.Cond.and given_1 narrow_1).before args s = true
def lw_Q (_ : Array Value) (s : State) (o : Outcome) (t : State) : Prop := o = .returned (some (.int 1)) ∧ Framed s o t [] 601024 7293034
def lw_Z (below : List Frame) (a : Array Value) (s : State) : State → Prop := fun t => ∃ o, t.status = .running ∧ Ended t below o ∧ lw_Q a s o t
/-- the law's own end, with 1 on the stack, nothing written that was there before, its room as the claim has it -/
theorem lw_ret {p : Program} {l : Launch} {e : Env} {s : State} {m : MethodId} {below : List Frame} {meth : Method} {c : Code} {b : Nat} (hx : p.tables.exec = Jvm.exec) (hb : c.code = code) (hr : meth.sig.returnType = ret) (hlocks : meth.locks = false) {pc : Nat} {H : Heap} {ls : Array Slot} (hdg : decode code pc = .ok (.ireturn, 1)) : W p l e room_1 s m #[Value.ref b] below meth c H [] 601024 7293034 (lw_Z below #[Value.ref b] s) (F0 m pc ls [.int 1]) := by
  intro T hT X
  obtain ⟨fs, hret, hrun, hended, hW, hframe⟩ := X.leave (v := some (.int 1)) (hlocks := hlocks) (fun h => by rw [hr] at h; cases h)
  have hmeth' : T.vm.method? m = some meth := X.method'
  refine ⟨T.setFrames fs, ?_, .returned (some (.int 1)), hrun, hended, rfl, ⟨_, rfl⟩, hW, hframe⟩
  jvm_step X.here [X.here.top, hx, hb, hdg, hmeth', hr, ret, narrow_b1]
  (try refine ⟨rfl, ?_⟩); (try refine ⟨rfl, ?_⟩)
  first | (intro acts; rw [hret _ acts rfl rfl rfl]) | rw [hret _ _ rfl rfl rfl]
  exact Steps.refl _
/-- what holds at the law's entry: the machine, the code, the tables' words (any of lw_tbl by 'hts w (by decide +kernel)'), the script of L ints xs at the cell b, what the Statement gives of the start (any of its parts by flat_of_before) -/
def lw_At (p : Program) (s : State) (m : MethodId) (meth : Method) (c : Code) (b L : Nat) (xs : Nat → Int32) : Prop :=
  p.tables.exec = Jvm.exec ∧ c.code = code ∧ meth.sig.returnType = ret ∧ c.maxLocals = 8 ∧ s.vm.findClass R_law = some m.cls ∧ (∀ w ∈ lw_tbl, w.before #[Value.ref b] s = true) ∧ va_X b L xs s s.heap ∧ b < s.heap.size ∧ meth.locks = false ∧ (Jvm.Cond.and given_1 narrow_1).before #[Value.ref b] s = true
theorem i32_ofNat {n : Nat} (h : n < 2147483648) : (Int32.ofNat n).toInt = n := by
  rw [Int32.toInt_ofNat']
  unfold Int.bmod
  simp
  omega
theorem law_done {xs : Nat → Int32} {L n : Nat} {M : Mm} (hL : L ≤ 3584) (hn : n ≤ 4000) (h : L < n + 7) : f_turn xs L (Int32.ofNat n) M = some none := by
  unfold f_turn
  rw [if_pos]
  rw [Int32.lt_iff_toInt_lt, Int32.toInt_sub, i32_ofNat (by omega), i32_ofNat (by omega)]
  have : (7 : Int32).toInt = 7 := rfl
  rw [this]
  unfold Int.bmod
  simp
  omega
/-- a promise of one turn, over what every memory between turns keeps -/
def TurnOk (Inv : Mm → Prop) : Prop := ∀ (xs : Nat → Int32) (L n : Nat) (M : Mm), L ≤ 3584 → n + 7 ≤ L → Inv M → ∃ M', f_turn xs L (Int32.ofNat n) M = some (some (Int32.ofNat (n + 7), M')) ∧ Inv M'
theorem law_loop {Inv : Mm → Prop} (hst : TurnOk Inv) {K : Kx} {b L : Nat} {xs : Nat → Int32} (C : Cx K cL_law RL 124) (hmL : K.2.2.1 = 8) (hX : Sx K b L xs) (hL : L ≤ 3584) (hR : 106 + 8 * 600 ≤ K.1.R.cells ∧ 10000 + 48 * 600 ≤ K.1.R.slots)
    (hx : ∀ (cs : Nat × Nat) (i : Int32) (M : Mm), cs.1 ≤ 106 + 8 * 600 → cs.2 ≤ 10000 + 48 * 600 → G K cs 1696 [(0, .ref b), (1, .ref (K.2.1.1 + 0)), (2, .ref (K.2.1.1 + 69)), (3, .ref (K.2.1.1 + 105)), (4, .int i)] [] M) :
    ∀ (m k : Nat) (M : Mm), k + m = 530 → Inv M → L + 7 ≤ 7 * k + 7 * m → 7 * k ≤ L → G K (106 + 8 * k, 10000 + 48 * k) 23 [(0, .ref b), (1, .ref (K.2.1.1 + 0)), (2, .ref (K.2.1.1 + 69)), (3, .ref (K.2.1.1 + 105)), (4, .int (Int32.ofNat (7 * k)))] [] M := by
  have hR1 := hR.1
  have hR2 := hR.2
  intro m
  induction m with
  | zero => intro k M h1 h2 h3 h4; omega
  | succ m ih =>
    intro k M h1 h2 h3 h4
    by_cases hd : L < 7 * k + 7
    · refine law_turn C hmL hX _ M _ _ ⟨by omega, by omega⟩ none (law_done hL (by omega) hd) (fun i' M' h => by cases h) (fun _ => hx _ _ _ (by show 106 + 8 * k ≤ _; omega) (by show 10000 + 48 * k ≤ _; omega))
    · obtain ⟨M', hf, hI⟩ := hst xs L (7 * k) M hL (by omega) h2
      refine law_turn C hmL hX _ M _ _ ⟨by omega, by omega⟩ _ hf (fun i' M'' h => ?_) (fun h => by cases h)
      cases h
      exact ih (k + 1) M' (by omega) hI (by omega) (by omega)
theorem law_out {K : Kx} {b : Nat} (C : Cx K cL_law RL 124) (hs : K.1.s.heap.size = K.2.1.1) (hR : K.1.R = room_1) (ha : K.1.args = #[Value.ref b]) (hQ : K.2.2.2 = lw_Z K.1.below #[Value.ref b] K.1.s) (hr : K.1.meth.sig.returnType = ret) (cs : Nat × Nat) (lv : List (Nat × Value)) (M : Mm) (h1 : cs.1 ≤ 601024) (h2 : cs.2 ≤ 7293034) : G K cs 1696 lv [] M := by
  refine g_iconst (v := (1 : Int32)) C (ckD_get k_L_law_26 7 rfl) (by decide) ?_
  obtain ⟨e1, -, -⟩ := (ckD_get k_L_law_26 8 rfl : dC cL_law 1697 .ireturn 1 1698 0)
  intro H locs ls hP hS hl
  refine W.widen h1 h2 (va_forget (fun q hq => ?_) ?_)
  · have := hS.2.2 q hq
    rw [hs]
    exact this
  · rw [hQ, hR, ha]
    exact lw_ret C.ex C.by hr C.lk e1
theorem whole_walk {Inv : Mm → Prop} (hst : TurnOk Inv) (h0 : Inv M0) {p : Program} {e : Env} {s : State} {m : MethodId} {below : List Frame} {meth : Method} {c : Code} (l : Launch) (htr : l.stackTraces = false) {b L : Nat} {xs : Nat → Int32} (hL : L ≤ 3584) (C0 : lw_At p s m meth c b L xs) : W p l e room_1 s m #[Value.ref b] below meth c s.heap [] 0 0 (lw_Z below #[Value.ref b] s) (entryFrame m ([Value.ref b] : List Value).toArray 8) := by
  obtain ⟨hx, hb, hr, hml, hown, hts, hX, hbl, hlk, hgv⟩ := C0
  obtain ⟨E, hE, hI⟩ := Iv_start hts hgv
  have hao : va_AO fnd s := va_AO.of (hts _ (by decide +kernel))
  have hrq : ∀ w ∈ RQ, w.before #[Value.ref b] s = true := fun w hw => hts w (tb_RQ hw)
  rw [lg_entry_eq]
  have C : Cx ((p, l, e, room_1, s, m, #[Value.ref b], below, meth, c), E, 8, lw_Z below #[Value.ref b] s) cL_law RL 124 := ⟨hx, hb, hml, hown, hrq, hlk, hI, by show E.1 ≤ s.heap.size; omega, by show 124 ≤ room_1.frames; decide, by show 64 * 124 + 100 ≤ room_1.locals; decide, htr⟩
  have hSx : Sx ((p, l, e, room_1, s, m, #[Value.ref b], below, meth, c), E, 8, lw_Z below #[Value.ref b] s) b L xs := ⟨hX, hbl, by show ¬ E.1 ≤ b; omega⟩
  have hG := law_loop hst C rfl hSx hL ⟨by show _ ≤ room_1.cells; decide, by show _ ≤ room_1.slots; decide⟩ (fun cs i M h1 h2 => law_out C hE.symm rfl rfl rfl hr cs _ M (by omega) (by omega)) 530 0 M0 rfl h0 (by omega) (by omega)
  exact law_entry ⟨C, hao, hrq⟩ rfl ⟨by show _ ≤ room_1.cells; decide, by show _ ≤ room_1.slots; decide⟩ hG s.heap [] _ ⟨fun k q hq => by simp at hq, by show s.heap.size = E.1 + 0; omega, fun k q hq => by simp at hq⟩ va_S.rf (lv_entry [Value.ref b] (n := 8) (Nat.le_of_ble_eq_true rfl))
