/-! THE METHODS AS FUNCTIONS: words of which they are made -/
def FU : Nat := 1000000000000
def rdI {α : Type} (n : Nat) (M : Mm) (k : Nat) (i : Int32) (f : Int32 → Option α) : Option α := if ¬ (i < 0 ∨ n ≤ i.toNatClampNeg) then f (M.1 k i.toNatClampNeg) else none
def rdL {α : Type} (n : Nat) (M : Mm) (k : Nat) (i : Int32) (f : Int64 → Option α) : Option α := if ¬ (i < 0 ∨ n ≤ i.toNatClampNeg) then f (M.2 k i.toNatClampNeg) else none
def wrI {α : Type} (n : Nat) (M : Mm) (k : Nat) (i : Int32) (v : Int32) (f : Mm → Option α) : Option α := if ¬ (i < 0 ∨ n ≤ i.toNatClampNeg) then f (wi M k i.toNatClampNeg v) else none
def wrL {α : Type} (n : Nat) (M : Mm) (k : Nat) (i : Int32) (v : Int64) (f : Mm → Option α) : Option α := if ¬ (i < 0 ∨ n ≤ i.toNatClampNeg) then f (wl M k i.toNatClampNeg v) else none
def rdS {α : Type} (L : List Int64) (i : Int32) (f : Int64 → Option α) : Option α := if ¬ (i < 0 ∨ L.length ≤ i.toNatClampNeg) then f (L.getD i.toNatClampNeg 0) else none
def gd {α : Type} (b : Bool) (x : Option α) : Option α := if b = true then x else none
def lt1 {α β : Type} (x : α) (f : α → β) : β := f x
def jn {α β γ : Type} (f : α → β) (g : (α → β) → γ) : γ := g f
def loop {V X : Type} (step : V → Option (V ⊕ X)) : Nat → V → Option X
  | 0, _ => none
  | n + 1, v => match step v with
    | none => none
    | some (.inl w) => loop step n w
    | some (.inr x) => some x
abbrev FA1 : List Int64 := [1, 1, 2, 6, 24, 120, 720, 5040, 40320, 362880, 3628800, 39916800, 479001600]
abbrev FA2 : List Int64 := [0, 1, 2, 6, 22, 90, 394, 1806, 8558, 41586, 206098]
abbrev FA3 : List Int64 := [0, 1, 2, 5, 14, 42, 132, 429, 1430, 4862, 16796]
theorem rdI_e {α : Type} {n : Nat} {M : Mm} {k : Nat} {i : Int32} {f : Int32 → Option α} {r : α} (h : rdI n M k i f = some r) : ∃ v, vp_in i n ∧ M.1 k i.toNatClampNeg = v ∧ f v = some r := by
  unfold rdI at h
  split at h
  · rename_i c
    exact ⟨_, c, rfl, h⟩
  · cases h
theorem rdL_e {α : Type} {n : Nat} {M : Mm} {k : Nat} {i : Int32} {f : Int64 → Option α} {r : α} (h : rdL n M k i f = some r) : ∃ v, vp_in i n ∧ M.2 k i.toNatClampNeg = v ∧ f v = some r := by
  unfold rdL at h
  split at h
  · rename_i c
    exact ⟨_, c, rfl, h⟩
  · cases h
theorem wrI_e {α : Type} {n : Nat} {M : Mm} {k : Nat} {i v : Int32} {f : Mm → Option α} {r : α} (h : wrI n M k i v f = some r) : ∃ M', vp_in i n ∧ wi M k i.toNatClampNeg v = M' ∧ f M' = some r := by
  unfold wrI at h
  split at h
  · rename_i c
    exact ⟨_, c, rfl, h⟩
  · cases h
theorem wrL_e {α : Type} {n : Nat} {M : Mm} {k : Nat} {i : Int32} {v : Int64} {f : Mm → Option α} {r : α} (h : wrL n M k i v f = some r) : ∃ M', vp_in i n ∧ wl M k i.toNatClampNeg v = M' ∧ f M' = some r := by
  unfold wrL at h
  split at h
  · rename_i c
    exact ⟨_, c, rfl, h⟩
  · cases h
theorem rdS_e {α : Type} {L : List Int64} {i : Int32} {f : Int64 → Option α} {r : α} (h : rdS L i f = some r) : ∃ v, vp_in i L.length ∧ Value.long (L.getD i.toNatClampNeg 0) = .long v ∧ f v = some r := by
  unfold rdS at h
  split at h
  · rename_i c
    exact ⟨_, c, rfl, h⟩
  · cases h
theorem gd_e {α : Type} {b : Bool} {x : Option α} {r : α} (h : gd b x = some r) : b = true ∧ x = some r := by
  unfold gd at h
  split at h
  · rename_i c
    exact ⟨c, h⟩
  · cases h
theorem lt_e {α β : Type} {x : α} {f : α → β} {r : β} (h : lt1 x f = r) : ∃ v, x = v ∧ f v = r := ⟨x, rfl, h⟩
theorem bd_e {α β : Type} {x : Option α} {f : α → Option β} {r : β} (h : x.bind f = some r) : ∃ y, x = some y ∧ f y = some r := by
  cases x with
  | none => cases h
  | some y => exact ⟨y, rfl, h⟩
theorem if_t {α : Sort _} {c : Prop} {d : Decidable c} {a b r : α} (h : (if c then a else b) = r) (hc : c) : a = r := by rw [if_pos hc] at h; exact h
theorem if_f {α : Sort _} {c : Prop} {d : Decidable c} {a b r : α} (h : (if c then a else b) = r) (hc : ¬ c) : b = r := by rw [if_neg hc] at h; exact h
theorem jn_e {α β γ : Type} {f : α → β} {g : (α → β) → γ} {r : γ} {s : β} {P : α → Prop} {Q : Prop} (h : jn f g = r) (h1 : ∀ a, f a = s → P a) (h2 : ∀ k, (∀ a, k a = s → P a) → g k = r → Q) : Q := h2 f h1 h
theorem loop_e {V X : Type} {step : V → Option (V ⊕ X)} {x : X} {P : V → Prop} (hs : ∀ v r, step v = some r → (∀ w, r = .inl w → P w) → (∀ z, r = .inr z → z = x) → P v) : ∀ n v, loop step n v = some x → P v := by
  intro n
  induction n with
  | zero => intro v h; cases h
  | succ n ih =>
    intro v h
    cases e : step v with
    | none => simp [loop, e] at h
    | some r =>
      refine hs v r e (fun w hw => ?_) (fun z hz => ?_)
      · subst hw
        simp only [loop, e] at h
        exact ih w h
      · subst hz
        simp only [loop, e] at h
        cases h
        rfl
section GNames
variable {K : Kx} {cc : ByteArray} {own : String} {d : Nat} {cs : Nat × Nat} {pc len q tgt : Nat} {lv : List (Nat × Value)} {rest : List Value} {M : Mm}
theorem topI {x y : Int32} (h : x = y) (k : G K cs pc lv (.int y :: rest) M) : G K cs pc lv (.int x :: rest) M := by rw [h]; exact k
theorem topL {x y : Int64} (h : x = y) (k : G K cs pc lv (.long y :: rest) M) : G K cs pc lv (.long x :: rest) M := by rw [h]; exact k
theorem memI {M' : Mm} {st : List Value} (h : M = M') (k : G K cs pc lv st M') : G K cs pc lv st M := by rw [h]; exact k
theorem n_iald {k n : Nat} {z : List (Nat × Nat)} {i v : Int32} (C : Cx K cc own d) (hd : dC cc pc .iaload 1 q tgt) (hk : LT[k]? = some (0, n, z)) (hin : vp_in i n) (hv : M.1 k i.toNatClampNeg = v)
    (h : G K cs q lv (.int v :: rest) M) : G K cs pc lv (.int i :: .ref (K.2.1.1 + k) :: rest) M := g_iald C hd hk hin (by rw [hv]; exact h)
theorem n_zald {k n : Nat} {z : List (Nat × Nat)} {i v : Int32} (C : Cx K cc own d) (hd : dC cc pc .baload 1 q tgt) (hk : LT[k]? = some (2, n, z)) (hin : vp_in i n) (hv : M.1 k i.toNatClampNeg = v)
    (h : G K cs q lv (.int v :: rest) M) : G K cs pc lv (.int i :: .ref (K.2.1.1 + k) :: rest) M := g_zald C hd hk hin (by rw [hv]; exact h)
theorem n_lald {k n : Nat} {z : List (Nat × Nat)} {i : Int32} {v : Int64} (C : Cx K cc own d) (hd : dC cc pc .laload 1 q tgt) (hk : LT[k]? = some (1, n, z)) (hin : vp_in i n) (hv : M.2 k i.toNatClampNeg = v)
    (h : G K cs q lv (.long v :: rest) M) : G K cs pc lv (.int i :: .ref (K.2.1.1 + k) :: rest) M := g_lald C hd hk hin (by rw [hv]; exact h)
theorem n_iast {k n : Nat} {z : List (Nat × Nat)} {i x : Int32} {M' : Mm} (C : Cx K cc own d) (hd : dC cc pc .iastore 1 q tgt) (hk : LT[k]? = some (0, n, z)) (hin : vp_in i n) (hv : wi M k i.toNatClampNeg x = M')
    (h : G K cs q lv rest M') : G K cs pc lv (.int x :: .int i :: .ref (K.2.1.1 + k) :: rest) M := g_iast C hd hk hin (by rw [hv]; exact h)
theorem n_zast {k n : Nat} {z : List (Nat × Nat)} {i x : Int32} {M' : Mm} (C : Cx K cc own d) (hd : dC cc pc .bastore 1 q tgt) (hk : LT[k]? = some (2, n, z)) (hin : vp_in i n) (hv : wi M k i.toNatClampNeg (vp_nar .boolean x) = M')
    (h : G K cs q lv rest M') : G K cs pc lv (.int x :: .int i :: .ref (K.2.1.1 + k) :: rest) M := g_zast C hd hk hin (by rw [hv]; exact h)
theorem n_last {k n : Nat} {z : List (Nat × Nat)} {i : Int32} {x : Int64} {M' : Mm} (C : Cx K cc own d) (hd : dC cc pc .lastore 1 q tgt) (hk : LT[k]? = some (1, n, z)) (hin : vp_in i n) (hv : wl M k i.toNatClampNeg x = M')
    (h : G K cs q lv rest M') : G K cs pc lv (.long x :: .int i :: .ref (K.2.1.1 + k) :: rest) M := g_last C hd hk hin (by rw [hv]; exact h)
end GNames
section GC2
variable {K : Kx} {cc : ByteArray} {own : String} {d : Nat} {cs : Nat × Nat} {pc len q tgt : Nat} {lv : List (Nat × Value)} {st : List Value} {M M' : Mm} {y : MethodName} {bytes : ByteArray} {maxL n d' ix : Nat} {ret : Option FieldType}
theorem n_cV {k ci : Nat} {z : List (Nat × Nat)} {out : Option Value} {st' : List Value} (As rest : List Value) (C : Cx K cc own d) (hd : dC cc pc (.invokevirtual ix) 3 q tgt) (hV : VK own ix ci y bytes maxL ret n) (hM : CM K.2.1 K.1.l d' 0 0 y bytes maxL ret (.ref (K.2.1.1 + k) :: As) M out M') (hk : LT[k]? = some (4, ci, z))
    (hst : st = As.reverse ++ .ref (K.2.1.1 + k) :: rest) (hn : As.length = n) (hW : (rest.map fun v => v.category).sum ≤ 8) (hdd : d' < d) (hc : cs.1 ≤ K.1.R.cells ∧ cs.2 ≤ K.1.R.slots) (ho : st' = out.toList ++ rest)
    (h : G K cs q lv st' M') : G K cs pc lv st M := g_cV As rest C hd hV hM hk hst hn hW hdd hc (ho ▸ h)
theorem n_cU {x : MethodName} {k ci : Nat} {z : List (Nat × Nat)} {out : Option Value} {st' : List Value} (As rest : List Value) (C : Cx K cc own d) (hd : dC cc pc (.invokevirtual ix) 3 q tgt) (hV : UK own ix ci x y bytes maxL ret n) (hM : CM K.2.1 K.1.l d' 0 0 y bytes maxL ret (.ref (K.2.1.1 + k) :: As) M out M') (hk : LT[k]? = some (4, ci, z))
    (hst : st = As.reverse ++ .ref (K.2.1.1 + k) :: rest) (hn : As.length = n) (hW : (rest.map fun v => v.category).sum ≤ 8) (hdd : d' < d) (hc : cs.1 ≤ K.1.R.cells ∧ cs.2 ≤ K.1.R.slots) (ho : st' = out.toList ++ rest)
    (h : G K cs q lv st' M') : G K cs pc lv st M := g_cU As rest C hd hV hM hk hst hn hW hdd hc (ho ▸ h)
theorem n_cS {out : Option Value} {st' : List Value} (As rest : List Value) (C : Cx K cc own d) (hd : dC cc pc (.invokestatic ix) 3 q tgt) (hV : SK own ix y bytes maxL ret n) (hM : CM K.2.1 K.1.l d' 0 0 y bytes maxL ret As M out M')
    (hst : st = As.reverse ++ rest) (hn : As.length = n) (hW : (rest.map fun v => v.category).sum ≤ 8) (hdd : d' < d) (hc : cs.1 ≤ K.1.R.cells ∧ cs.2 ≤ K.1.R.slots) (ho : st' = out.toList ++ rest)
    (h : G K cs q lv st' M') : G K cs pc lv st M := g_cS As rest C hd hV hM hst hn hW hdd hc (ho ▸ h)
theorem n_cN {host : String} {out : Option Value} {st' : List Value} (As rest : List Value) (C : Cx K cc own d) (hd : dC cc pc (.invokestatic ix) 3 q tgt) (hV : NK own ix y host bytes maxL ret n) (hM : CM K.2.1 K.1.l d' 0 0 y bytes maxL ret As M out M')
    (hst : st = As.reverse ++ rest) (hn : As.length = n) (hW : (rest.map fun v => v.category).sum ≤ 8) (hdd : d' < d) (hc : cs.1 ≤ K.1.R.cells ∧ cs.2 ≤ K.1.R.slots) (ho : st' = out.toList ++ rest)
    (h : G K cs q lv st' M') : G K cs pc lv st M := g_cN As rest C hd hV hM hst hn hW hdd hc (ho ▸ h)
end GC2
theorem rq_sub (ws : List Cond) (ps : List Nat) (hp : ws = ps.filterMap (fun i => lw_tbl[i]?)) (h : ws.all goodWord = true) : ∀ w ∈ ws, w ∈ RQ := by
  intro w hw
  have h1 := List.all_eq_true.mp h w hw
  rw [hp] at hw
  obtain ⟨i, -, hi⟩ := List.mem_filterMap.mp hw
  exact RQ_in i hi h1
def bd2 {α β γ : Type} (x : Option (α × β)) (f : α → β → Option γ) : Option γ := x.bind fun y => f y.1 y.2
theorem bd2_e {α β γ : Type} {x : Option (α × β)} {f : α → β → Option γ} {r : γ} (h : bd2 x f = some r) : ∃ a b, x = some (a, b) ∧ f a b = some r := by
  obtain ⟨y, h1, h2⟩ := bd_e h
  exact ⟨y.1, y.2, h1, h2⟩
def tr1 {α β : Type} (x : Option α) (t : β) (f : α → β) : β := match x with
  | none => t
  | some a => f a
theorem tr_n {α β : Type} {x : Option α} {t : β} {f : α → β} {r : β} (h : tr1 x t f = r) (hx : x = none) : t = r := by subst hx; exact h
theorem tr_s {α β : Type} {x : Option α} {t : β} {f : α → β} {r : β} {a : α} (h : tr1 x t f = r) (hx : x = some a) : f a = r := by subst hx; exact h
section GR2
variable {K : Kx} {cc : ByteArray} {own : String} {d mc ms : Nat} {cs : Nat × Nat} {pc len q tgt : Nat} {lv : List (Nat × Value)} {st rest : List Value} {M M' : Mm} {y : MethodName} {bytes : ByteArray} {maxL n d' mc' ms' ix : Nat} {ret : Option FieldType}
theorem topR {a b : Nat} (h : a = b) (k : G K cs pc lv (.ref (K.2.1.1 + b) :: rest) M) : G K cs pc lv (.ref (K.2.1.1 + a) :: rest) M := by rw [h]; exact k
theorem n_cVXt {k ci : Nat} {z : List (Nat × Nat)} {o : Option (Option Value)} (As rest : List Value) (C : Cx K cc own d) (hd : dC cc pc (.invokevirtual ix) 3 q tgt) (hV : VK own ix ci y bytes maxL ret n) (hM : CX K.2.1 K.1.l d' mc' ms' y bytes maxL ret (.ref (K.2.1.1 + k) :: As) M o M') (hk : LT[k]? = some (4, ci, z))
    (hst : st = As.reverse ++ .ref (K.2.1.1 + k) :: rest) (hn : As.length = n) (hW : (rest.map fun v => v.category).sum ≤ 8) (hdd : d' < d) (hc : cs.1 + mc' ≤ mc ∧ cs.2 + ms' ≤ ms) (hR : mc ≤ K.1.R.cells ∧ ms ≤ K.1.R.slots)
    (hT : ∀ x ∈ K.1.c.exceptionTable.toList, False) (ho : o = none) (hX : Xv K mc ms M') : G K cs pc lv st M := g_cVX As rest C hd hV hM hk hst hn hW hdd hc hR hT (fun _ => hX) (fun v hv => by rw [ho] at hv; cases hv)
theorem n_cVXr {k ci : Nat} {z : List (Nat × Nat)} {o : Option (Option Value)} {v : Option Value} {st' : List Value} (As rest : List Value) (C : Cx K cc own d) (hd : dC cc pc (.invokevirtual ix) 3 q tgt) (hV : VK own ix ci y bytes maxL ret n) (hM : CX K.2.1 K.1.l d' mc' ms' y bytes maxL ret (.ref (K.2.1.1 + k) :: As) M o M') (hk : LT[k]? = some (4, ci, z))
    (hst : st = As.reverse ++ .ref (K.2.1.1 + k) :: rest) (hn : As.length = n) (hW : (rest.map fun v => v.category).sum ≤ 8) (hdd : d' < d) (hc : cs.1 + mc' ≤ mc ∧ cs.2 + ms' ≤ ms) (hR : mc ≤ K.1.R.cells ∧ ms ≤ K.1.R.slots)
    (hT : ∀ x ∈ K.1.c.exceptionTable.toList, False) (ho : o = some v) (hs : st' = v.toList ++ rest) (h : G K (cs.1 + mc', cs.2 + ms') q lv st' M') : G K cs pc lv st M := g_cVX As rest C hd hV hM hk hst hn hW hdd hc hR hT (fun e => by rw [ho] at e; cases e) (fun w hw => by rw [ho] at hw; cases hw; exact hs ▸ h)
theorem n_cSXt {o : Option (Option Value)} (As rest : List Value) (C : Cx K cc own d) (hd : dC cc pc (.invokestatic ix) 3 q tgt) (hV : SK own ix y bytes maxL ret n) (hM : CX K.2.1 K.1.l d' mc' ms' y bytes maxL ret As M o M')
    (hst : st = As.reverse ++ rest) (hn : As.length = n) (hW : (rest.map fun v => v.category).sum ≤ 8) (hdd : d' < d) (hc : cs.1 + mc' ≤ mc ∧ cs.2 + ms' ≤ ms) (hR : mc ≤ K.1.R.cells ∧ ms ≤ K.1.R.slots)
    (hT : ∀ x ∈ K.1.c.exceptionTable.toList, False) (ho : o = none) (hX : Xv K mc ms M') : G K cs pc lv st M := g_cSX As rest C hd hV hM hst hn hW hdd hc hR hT (fun _ => hX) (fun v hv => by rw [ho] at hv; cases hv)
theorem n_cSXr {o : Option (Option Value)} {v : Option Value} {st' : List Value} (As rest : List Value) (C : Cx K cc own d) (hd : dC cc pc (.invokestatic ix) 3 q tgt) (hV : SK own ix y bytes maxL ret n) (hM : CX K.2.1 K.1.l d' mc' ms' y bytes maxL ret As M o M')
    (hst : st = As.reverse ++ rest) (hn : As.length = n) (hW : (rest.map fun v => v.category).sum ≤ 8) (hdd : d' < d) (hc : cs.1 + mc' ≤ mc ∧ cs.2 + ms' ≤ ms) (hR : mc ≤ K.1.R.cells ∧ ms ≤ K.1.R.slots)
    (hT : ∀ x ∈ K.1.c.exceptionTable.toList, False) (ho : o = some v) (hs : st' = v.toList ++ rest) (h : G K (cs.1 + mc', cs.2 + ms') q lv st' M') : G K cs pc lv st M := g_cSX As rest C hd hV hM hst hn hW hdd hc hR hT (fun e => by rw [ho] at e; cases e) (fun w hw => by rw [ho] at hw; cases hw; exact hs ▸ h)
end GR2
theorem i32_ne {x c : Int32} {n : Int} (h : ¬ x = c) (hc : c.toInt = n) : x.toInt ≠ n := fun e => h (Int32.toInt_inj.mp (e.trans hc.symm))
theorem LT_Fd {k : Nat} (h : decide (65 ≤ k ∧ k < 69) = true) : LT[k]? = some (4, 1, [(0, 0), (0, 0), (1, 0), (1, 0), (0, 0)]) := by
  have h := of_decide_eq_true h
  have : k = 65 ∨ k = 66 ∨ k = 67 ∨ k = 68 := by omega
  rcases this with rfl | rfl | rfl | rfl <;> rfl
def isOr (k : Nat) : Prop := k = 11 ∨ k = 42
def isGr (k : Nat) : Prop := k = 5 ∨ k = 36
def isRo (k : Nat) : Prop := k = 17 ∨ k = 48
def isKi (k : Nat) : Prop := k = 23 ∨ k = 54
def isOu (k : Nat) : Prop := k = 28 ∨ k = 59
theorem T0 : LT[0]? = some (4, 8, [(2, 1), (2, 4), (2, 5), (2, 11), (2, 17), (2, 23), (2, 28), (2, 34), (0, 0), (0, 0)]) := rfl
theorem T1 : LT[1]? = some (4, 0, [(2, 2), (2, 3), (0, 0), (0, 0)]) := rfl
theorem T2 : LT[2]? = some (0, 12, []) := rfl
theorem T3 : LT[3]? = some (0, 12, []) := rfl
theorem T4 : LT[4]? = some (0, 20, []) := rfl
theorem T5 : LT[5]? = some (4, 2, [(2, 6), (2, 7), (2, 8), (2, 9), (2, 10), (0, 0), (0, 0)]) := rfl
theorem T6 : LT[6]? = some (0, 12, []) := rfl
theorem T7 : LT[7]? = some (0, 12, []) := rfl
theorem T8 : LT[8]? = some (0, 12, []) := rfl
theorem T9 : LT[9]? = some (0, 12, []) := rfl
theorem T10 : LT[10]? = some (0, 13, []) := rfl
theorem T11 : LT[11]? = some (4, 4, [(2, 12), (2, 13), (2, 14), (2, 15), (2, 16), (0, 0)]) := rfl
theorem T12 : LT[12]? = some (0, 12, []) := rfl
theorem T13 : LT[13]? = some (0, 12, []) := rfl
theorem T14 : LT[14]? = some (0, 12, []) := rfl
theorem T15 : LT[15]? = some (0, 12, []) := rfl
theorem T16 : LT[16]? = some (0, 12, []) := rfl
theorem T17 : LT[17]? = some (4, 6, [(2, 18), (2, 19), (2, 20), (2, 21), (2, 22), (0, 0)]) := rfl
theorem T18 : LT[18]? = some (0, 23, []) := rfl
theorem T19 : LT[19]? = some (0, 23, []) := rfl
theorem T20 : LT[20]? = some (0, 12, []) := rfl
theorem T21 : LT[21]? = some (0, 12, []) := rfl
theorem T22 : LT[22]? = some (0, 12, []) := rfl
theorem T23 : LT[23]? = some (4, 3, [(2, 24), (2, 25), (2, 26), (2, 27), (0, 0), (0, 0)]) := rfl
theorem T24 : LT[24]? = some (0, 12, []) := rfl
theorem T25 : LT[25]? = some (0, 12, []) := rfl
theorem T26 : LT[26]? = some (0, 24, []) := rfl
theorem T27 : LT[27]? = some (0, 12, []) := rfl
theorem T28 : LT[28]? = some (4, 5, [(2, 29), (2, 30), (2, 31), (2, 32), (2, 33), (0, 0)]) := rfl
theorem T29 : LT[29]? = some (0, 26, []) := rfl
theorem T30 : LT[30]? = some (0, 26, []) := rfl
theorem T31 : LT[31]? = some (0, 26, []) := rfl
theorem T32 : LT[32]? = some (0, 26, []) := rfl
theorem T33 : LT[33]? = some (0, 13, []) := rfl
theorem T34 : LT[34]? = some (4, 7, [(2, 1), (2, 35), (2, 36), (2, 42), (2, 48), (2, 54), (2, 59), (3, 65), (0, 0), (0, 0), (0, 0)]) := rfl
theorem T35 : LT[35]? = some (3, 4, [(2, 65), (2, 66), (2, 67), (2, 68)]) := rfl
theorem T36 : LT[36]? = some (4, 2, [(2, 37), (2, 38), (2, 39), (2, 40), (2, 41), (0, 0), (0, 0)]) := rfl
theorem T37 : LT[37]? = some (0, 12, []) := rfl
theorem T38 : LT[38]? = some (0, 12, []) := rfl
theorem T39 : LT[39]? = some (0, 12, []) := rfl
theorem T40 : LT[40]? = some (0, 12, []) := rfl
theorem T41 : LT[41]? = some (0, 13, []) := rfl
theorem T42 : LT[42]? = some (4, 4, [(2, 43), (2, 44), (2, 45), (2, 46), (2, 47), (0, 0)]) := rfl
theorem T43 : LT[43]? = some (0, 12, []) := rfl
theorem T44 : LT[44]? = some (0, 12, []) := rfl
theorem T45 : LT[45]? = some (0, 12, []) := rfl
theorem T46 : LT[46]? = some (0, 12, []) := rfl
theorem T47 : LT[47]? = some (0, 12, []) := rfl
theorem T48 : LT[48]? = some (4, 6, [(2, 49), (2, 50), (2, 51), (2, 52), (2, 53), (0, 0)]) := rfl
theorem T49 : LT[49]? = some (0, 23, []) := rfl
theorem T50 : LT[50]? = some (0, 23, []) := rfl
theorem T51 : LT[51]? = some (0, 12, []) := rfl
theorem T52 : LT[52]? = some (0, 12, []) := rfl
theorem T53 : LT[53]? = some (0, 12, []) := rfl
theorem T54 : LT[54]? = some (4, 3, [(2, 55), (2, 56), (2, 57), (2, 58), (0, 0), (0, 0)]) := rfl
theorem T55 : LT[55]? = some (0, 12, []) := rfl
theorem T56 : LT[56]? = some (0, 12, []) := rfl
theorem T57 : LT[57]? = some (0, 24, []) := rfl
theorem T58 : LT[58]? = some (0, 12, []) := rfl
theorem T59 : LT[59]? = some (4, 5, [(2, 60), (2, 61), (2, 62), (2, 63), (2, 64), (0, 0)]) := rfl
theorem T60 : LT[60]? = some (0, 26, []) := rfl
theorem T61 : LT[61]? = some (0, 26, []) := rfl
theorem T62 : LT[62]? = some (0, 26, []) := rfl
theorem T63 : LT[63]? = some (0, 26, []) := rfl
theorem T64 : LT[64]? = some (0, 13, []) := rfl
theorem T65 : LT[65]? = some (4, 1, [(0, 0), (0, 0), (1, 0), (1, 0), (0, 0)]) := rfl
theorem T66 : LT[66]? = some (4, 1, [(0, 0), (0, 0), (1, 0), (1, 0), (0, 0)]) := rfl
theorem T67 : LT[67]? = some (4, 1, [(0, 0), (0, 0), (1, 0), (1, 0), (0, 0)]) := rfl
theorem T68 : LT[68]? = some (4, 1, [(0, 0), (0, 0), (1, 0), (1, 0), (0, 0)]) := rfl
theorem T69 : LT[69]? = some (4, 9, [(0, 0), (0, 0), (2, 70), (2, 71), (2, 72), (2, 73), (0, 0), (0, 0), (0, 0), (2, 74), (2, 75), (2, 76), (2, 77), (2, 78), (2, 79), (2, 80), (2, 81), (2, 82), (2, 83), (2, 84), (2, 85), (0, 0), (0, 0), (2, 86), (2, 87), (2, 88), (2, 89), (2, 90), (2, 91), (2, 92), (2, 93), (2, 94), (2, 95), (2, 96), (0, 0), (0, 0), (0, 0), (2, 97), (0, 0), (0, 0), (0, 0), (0, 0), (2, 98), (2, 99), (2, 100), (2, 101), (2, 102), (0, 0), (2, 103), (2, 104)]) := rfl
theorem T70 : LT[70]? = some (0, 12, []) := rfl
theorem T71 : LT[71]? = some (0, 12, []) := rfl
theorem T72 : LT[72]? = some (0, 20, []) := rfl
theorem T73 : LT[73]? = some (2, 12, []) := rfl
theorem T74 : LT[74]? = some (0, 12, []) := rfl
theorem T75 : LT[75]? = some (0, 12, []) := rfl
theorem T76 : LT[76]? = some (0, 12, []) := rfl
theorem T77 : LT[77]? = some (0, 12, []) := rfl
theorem T78 : LT[78]? = some (0, 23, []) := rfl
theorem T79 : LT[79]? = some (0, 12, []) := rfl
theorem T80 : LT[80]? = some (0, 12, []) := rfl
theorem T81 : LT[81]? = some (0, 12, []) := rfl
theorem T82 : LT[82]? = some (0, 12, []) := rfl
theorem T83 : LT[83]? = some (0, 23, []) := rfl
theorem T84 : LT[84]? = some (0, 4096, []) := rfl
theorem T85 : LT[85]? = some (0, 4096, []) := rfl
theorem T86 : LT[86]? = some (0, 12, []) := rfl
theorem T87 : LT[87]? = some (0, 23, []) := rfl
theorem T88 : LT[88]? = some (0, 23, []) := rfl
theorem T89 : LT[89]? = some (0, 23, []) := rfl
theorem T90 : LT[90]? = some (0, 23, []) := rfl
theorem T91 : LT[91]? = some (0, 23, []) := rfl
theorem T92 : LT[92]? = some (0, 23, []) := rfl
theorem T93 : LT[93]? = some (0, 23, []) := rfl
theorem T94 : LT[94]? = some (0, 23, []) := rfl
theorem T95 : LT[95]? = some (0, 12, []) := rfl
theorem T96 : LT[96]? = some (0, 12, []) := rfl
theorem T97 : LT[97]? = some (0, 12, []) := rfl
theorem T98 : LT[98]? = some (0, 23, []) := rfl
theorem T99 : LT[99]? = some (0, 12, []) := rfl
theorem T100 : LT[100]? = some (0, 12, []) := rfl
theorem T101 : LT[101]? = some (0, 24, []) := rfl
theorem T102 : LT[102]? = some (0, 12, []) := rfl
theorem T103 : LT[103]? = some (1, 11, []) := rfl
theorem T104 : LT[104]? = some (1, 11, []) := rfl
theorem T105 : LT[105]? = some (1, 1, []) := rfl
theorem T_Gr {k : Nat} (h : isGr k) : LT[k]? = some (4, 2, [(2, k + 1), (2, k + 2), (2, k + 3), (2, k + 4), (2, k + 5), (0, 0), (0, 0)]) := by rcases h with rfl | rfl <;> rfl
theorem T_Gr1 {k : Nat} (h : isGr k) : LT[k + 1]? = some (0, 12, []) := by rcases h with rfl | rfl <;> rfl
theorem T_Gr2 {k : Nat} (h : isGr k) : LT[k + 2]? = some (0, 12, []) := by rcases h with rfl | rfl <;> rfl
theorem T_Gr3 {k : Nat} (h : isGr k) : LT[k + 3]? = some (0, 12, []) := by rcases h with rfl | rfl <;> rfl
theorem T_Gr4 {k : Nat} (h : isGr k) : LT[k + 4]? = some (0, 12, []) := by rcases h with rfl | rfl <;> rfl
theorem T_Gr5 {k : Nat} (h : isGr k) : LT[k + 5]? = some (0, 13, []) := by rcases h with rfl | rfl <;> rfl
theorem T_Or {k : Nat} (h : isOr k) : LT[k]? = some (4, 4, [(2, k + 1), (2, k + 2), (2, k + 3), (2, k + 4), (2, k + 5), (0, 0)]) := by rcases h with rfl | rfl <;> rfl
theorem T_Or1 {k : Nat} (h : isOr k) : LT[k + 1]? = some (0, 12, []) := by rcases h with rfl | rfl <;> rfl
theorem T_Or2 {k : Nat} (h : isOr k) : LT[k + 2]? = some (0, 12, []) := by rcases h with rfl | rfl <;> rfl
theorem T_Or3 {k : Nat} (h : isOr k) : LT[k + 3]? = some (0, 12, []) := by rcases h with rfl | rfl <;> rfl
theorem T_Or4 {k : Nat} (h : isOr k) : LT[k + 4]? = some (0, 12, []) := by rcases h with rfl | rfl <;> rfl
theorem T_Or5 {k : Nat} (h : isOr k) : LT[k + 5]? = some (0, 12, []) := by rcases h with rfl | rfl <;> rfl
theorem T_Ro {k : Nat} (h : isRo k) : LT[k]? = some (4, 6, [(2, k + 1), (2, k + 2), (2, k + 3), (2, k + 4), (2, k + 5), (0, 0)]) := by rcases h with rfl | rfl <;> rfl
theorem T_Ro1 {k : Nat} (h : isRo k) : LT[k + 1]? = some (0, 23, []) := by rcases h with rfl | rfl <;> rfl
theorem T_Ro2 {k : Nat} (h : isRo k) : LT[k + 2]? = some (0, 23, []) := by rcases h with rfl | rfl <;> rfl
theorem T_Ro3 {k : Nat} (h : isRo k) : LT[k + 3]? = some (0, 12, []) := by rcases h with rfl | rfl <;> rfl
theorem T_Ro4 {k : Nat} (h : isRo k) : LT[k + 4]? = some (0, 12, []) := by rcases h with rfl | rfl <;> rfl
theorem T_Ro5 {k : Nat} (h : isRo k) : LT[k + 5]? = some (0, 12, []) := by rcases h with rfl | rfl <;> rfl
theorem T_Ki {k : Nat} (h : isKi k) : LT[k]? = some (4, 3, [(2, k + 1), (2, k + 2), (2, k + 3), (2, k + 4), (0, 0), (0, 0)]) := by rcases h with rfl | rfl <;> rfl
theorem T_Ki1 {k : Nat} (h : isKi k) : LT[k + 1]? = some (0, 12, []) := by rcases h with rfl | rfl <;> rfl
theorem T_Ki2 {k : Nat} (h : isKi k) : LT[k + 2]? = some (0, 12, []) := by rcases h with rfl | rfl <;> rfl
theorem T_Ki3 {k : Nat} (h : isKi k) : LT[k + 3]? = some (0, 24, []) := by rcases h with rfl | rfl <;> rfl
theorem T_Ki4 {k : Nat} (h : isKi k) : LT[k + 4]? = some (0, 12, []) := by rcases h with rfl | rfl <;> rfl
theorem T_Ou {k : Nat} (h : isOu k) : LT[k]? = some (4, 5, [(2, k + 1), (2, k + 2), (2, k + 3), (2, k + 4), (2, k + 5), (0, 0)]) := by rcases h with rfl | rfl <;> rfl
theorem T_Ou1 {k : Nat} (h : isOu k) : LT[k + 1]? = some (0, 26, []) := by rcases h with rfl | rfl <;> rfl
theorem T_Ou2 {k : Nat} (h : isOu k) : LT[k + 2]? = some (0, 26, []) := by rcases h with rfl | rfl <;> rfl
theorem T_Ou3 {k : Nat} (h : isOu k) : LT[k + 3]? = some (0, 26, []) := by rcases h with rfl | rfl <;> rfl
theorem T_Ou4 {k : Nat} (h : isOu k) : LT[k + 4]? = some (0, 26, []) := by rcases h with rfl | rfl <;> rfl
theorem T_Ou5 {k : Nat} (h : isOu k) : LT[k + 5]? = some (0, 13, []) := by rcases h with rfl | rfl <;> rfl
def jmax (x y : Int32) : Int32 := if x < y then y else x
def jmin (x y : Int32) : Int32 := if y < x then y else x
section GMM
variable {K : Kx} {cc : ByteArray} {own : String} {d : Nat} {cs : Nat × Nat} {pc len q tgt : Nat} {lv : List (Nat × Value)} {rest : List Value} {M : Mm}
theorem n_mmax {ix : Nat} {x y : Int32} (C : Cx K cc own d) (hd : dC cc pc (.invokestatic ix) 3 q tgt) (w : Cond.methodLink own ix Lib.Math.max.name ∈ RQ ∧ Cond.static Lib.Math.max.name ∈ RQ ∧ Cond.initialized "java/lang/Math" ∈ RQ ∧ Cond.code Lib.Math.max.name Lib.Math.max.code 2 (some .int) ∈ RQ) (h0 : 0 < d) (hr : (rest.map fun v => v.category).sum ≤ 20) (hc : cs.1 ≤ K.1.R.cells ∧ cs.2 ≤ K.1.R.slots)
    (h : G K cs q lv (.int (jmax x y) :: rest) M) : G K cs pc lv (.int y :: .int x :: rest) M := g_mmax C hd w h0 hr hc h
theorem n_mmin {ix : Nat} {x y : Int32} (C : Cx K cc own d) (hd : dC cc pc (.invokestatic ix) 3 q tgt) (w : Cond.methodLink own ix Lib.Math.min.name ∈ RQ ∧ Cond.static Lib.Math.min.name ∈ RQ ∧ Cond.initialized "java/lang/Math" ∈ RQ ∧ Cond.code Lib.Math.min.name Lib.Math.min.code 2 (some .int) ∈ RQ) (h0 : 0 < d) (hr : (rest.map fun v => v.category).sum ≤ 20) (hc : cs.1 ≤ K.1.R.cells ∧ cs.2 ≤ K.1.R.slots)
    (h : G K cs q lv (.int (jmin x y) :: rest) M) : G K cs pc lv (.int y :: .int x :: rest) M := g_mmin C hd w h0 hr hc h
end GMM
