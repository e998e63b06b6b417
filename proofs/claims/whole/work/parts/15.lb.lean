/-! THE LAW'S BODY: one turn of its loop as a function of the script and the memory (none: it doesn't end well) -/
def rdX {α : Type} (L : Nat) (xs : Nat → Int32) (i : Int32) (f : Int32 → Option α) : Option α := if ¬ (i < 0 ∨ L ≤ i.toNatClampNeg) then f (xs i.toNatClampNeg) else none
theorem rdX_e {α : Type} {L : Nat} {xs : Nat → Int32} {i : Int32} {f : Int32 → Option α} {r : α} (h : rdX L xs i f = some r) : ∃ v, vp_in i L ∧ xs i.toNatClampNeg = v ∧ f v = some r := by
  unfold rdX at h
  split at h
  · rename_i c
    exact ⟨_, c, rfl, h⟩
  · cases h
section GScript
variable {K : Kx} {cc : ByteArray} {own : String} {d : Nat} {cs : Nat × Nat} {pc len q tgt : Nat} {lv : List (Nat × Value)} {rest : List Value} {M : Mm} {b L : Nat} {xs : Nat → Int32}
/-- the script lies where nobody writes -/
def Sx (K : Kx) (b L : Nat) (xs : Nat → Int32) : Prop := va_X b L xs K.1.s K.1.s.heap ∧ b < K.1.s.heap.size ∧ ¬ zA K.2.1 b
theorem g_sld {i v : Int32} (hX : Sx K b L xs) (C : Cx K cc own d) (hd : dC cc pc .iaload 1 q tgt) (hin : vp_in i L) (hv : xs i.toNatClampNeg = v) (h : G K cs q lv (.int v :: rest) M) : G K cs pc lv (.int i :: .ref b :: rest) M := by
  obtain ⟨e1, rfl, -⟩ := hd
  intro H locs ls hP hS hl
  exact va_sld C.ex C.by hX.1 hX.2.1 hX.2.2 hS hin e1 (by rw [hv]; exact h H locs ls hP hS hl)
theorem g_slen (hX : Sx K b L xs) (C : Cx K cc own d) (hd : dC cc pc .arraylength 1 q tgt) (h : G K cs q lv (.int (Int32.ofNat L) :: rest) M) : G K cs pc lv (.ref b :: rest) M := by
  obtain ⟨e1, rfl, -⟩ := hd
  intro H locs ls hP hS hl
  exact va_slen C.ex C.by hX.1 hX.2.1 hX.2.2 hS e1 (h H locs ls hP hS hl)
end GScript
