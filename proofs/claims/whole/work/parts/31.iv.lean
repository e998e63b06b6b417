/-! THE INVARIANT: what class and reference keep between calls -/
abbrev Abs : Type := Nat × Nat × Nat × Nat × Nat × Int32 × (Nat → Nat) × (Nat → Nat) × (Nat → Nat) × (Nat → Nat) × (Nat → Nat) × (Nat → Nat) × (Nat → Nat) × (Nat → Nat) × (Nat → Nat) × (Nat → Nat)
abbrev Abs.n (A : Abs) : Nat := A.1
abbrev Abs.tb (A : Abs) : Nat := A.2.1
abbrev Abs.td (A : Abs) : Nat := A.2.2.1
abbrev Abs.s (A : Abs) : Nat := A.2.2.2.1
abbrev Abs.ro (A : Abs) : Nat := A.2.2.2.2.1
abbrev Abs.kd (A : Abs) : Int32 := A.2.2.2.2.2.1
abbrev Abs.w (A : Abs) : Nat → Nat := A.2.2.2.2.2.2.1
abbrev Abs.h (A : Abs) : Nat → Nat := A.2.2.2.2.2.2.2.1
abbrev Abs.nt (A : Abs) : Nat → Nat := A.2.2.2.2.2.2.2.2.1
abbrev Abs.x (A : Abs) : Nat → Nat := A.2.2.2.2.2.2.2.2.2.1
abbrev Abs.y (A : Abs) : Nat → Nat := A.2.2.2.2.2.2.2.2.2.2.1
abbrev Abs.one (A : Abs) : Nat → Nat := A.2.2.2.2.2.2.2.2.2.2.2.1
abbrev Abs.two (A : Abs) : Nat → Nat := A.2.2.2.2.2.2.2.2.2.2.2.2.1
abbrev Abs.tk (A : Abs) : Nat → Nat := A.2.2.2.2.2.2.2.2.2.2.2.2.2.1
abbrev Abs.lf (A : Abs) : Nat → Nat := A.2.2.2.2.2.2.2.2.2.2.2.2.2.2.1
abbrev Abs.rt (A : Abs) : Nat → Nat := A.2.2.2.2.2.2.2.2.2.2.2.2.2.2.2
def mkA (n tb td s ro : Nat) (kd : Int32) (w h nt x y one two tk lf rt : Nat → Nat) : Abs := (n, tb, td, s, ro, kd, w, h, nt, x, y, one, two, tk, lf, rt)
def PermN (n : Nat) (a : Nat → Nat) : Prop := (∀ i, i < n → a i < n) ∧ ∀ i j, i < n → j < n → a i = a j → i = j
/-- a row of cuts as a tree: a leaf is a block, a branch a joint -/
abbrev Ex : Type := Lean.RArray Nat
def Ex.post : Ex → List Nat
  | .leaf b => [b]
  | .branch t a b => Ex.post a ++ Ex.post b ++ [t]
def Ex.lvs : Ex → List Nat
  | .leaf b => [b]
  | .branch _ a b => Ex.lvs a ++ Ex.lvs b
def Ex.ok : Ex → Prop
  | .leaf b => b < 12
  | .branch t a b => (t = 12 ∨ t = 13) ∧ Ex.ok a ∧ Ex.ok b
def fnl (f : Nat → Nat) (n : Nat) : List Nat := (List.range n).map f
def RowE (n : Nat) (tk : Nat → Nat) (e : Ex) : Prop := Ex.ok e ∧ Ex.post e = fnl tk (2 * n - 1) ∧ (Ex.lvs e).Nodup ∧ (∀ b ∈ Ex.lvs e, b < n) ∧ (Ex.lvs e).length = n
def RowOK (n : Nat) (tk : Nat → Nat) : Prop := ∃ e, RowE n tk e
/-- sides as they lie -/
def swd (w h : Nat → Nat) (td b : Nat) : Nat := if td.testBit b then h b else w b
def AOK (A : Abs) : Prop :=
  (A.n ≤ 12) ∧
  (∀ b, b < A.n → 1 ≤ A.w b ∧ A.w b ≤ 200) ∧
  (∀ b, b < A.n → 1 ≤ A.h b ∧ A.h b ≤ 200) ∧
  (A.tb < 2 ^ A.n) ∧
  (∀ k, k < 20 → A.nt k < 2 ^ A.n) ∧
  (A.s ≤ 60) ∧
  (A.kd = -1 ∨ A.kd = 0 ∨ A.kd = 1 ∨ A.kd = 2 ∨ A.kd = 3) ∧
  (A.kd ≠ -1 → 1 ≤ A.n ∧ A.td &&& A.tb = A.td ∧ (∀ b, b < A.n → A.x b ≤ 10000) ∧ ∀ b, b < A.n → A.y b ≤ 10000) ∧
  (A.kd = 1 → PermN A.n A.one ∧ PermN A.n A.two) ∧
  (A.kd = 2 → RowOK A.n A.tk) ∧
  (A.kd = 3 → A.ro < A.n ∧ ∀ b, b < A.n → (A.lf b < A.n ∨ A.lf b = 15) ∧ (A.rt b < A.n ∨ A.rt b = 15))
theorem AOK.n {A : Abs} (hh_ : AOK A) : A.n ≤ 12 := hh_.1
theorem AOK.w {A : Abs} (hh_ : AOK A) : ∀ b, b < A.n → 1 ≤ A.w b ∧ A.w b ≤ 200 := hh_.2.1
theorem AOK.h {A : Abs} (hh_ : AOK A) : ∀ b, b < A.n → 1 ≤ A.h b ∧ A.h b ≤ 200 := hh_.2.2.1
theorem AOK.tb {A : Abs} (hh_ : AOK A) : A.tb < 2 ^ A.n := hh_.2.2.2.1
theorem AOK.nt {A : Abs} (hh_ : AOK A) : ∀ k, k < 20 → A.nt k < 2 ^ A.n := hh_.2.2.2.2.1
theorem AOK.s {A : Abs} (hh_ : AOK A) : A.s ≤ 60 := hh_.2.2.2.2.2.1
theorem AOK.kd {A : Abs} (hh_ : AOK A) : A.kd = -1 ∨ A.kd = 0 ∨ A.kd = 1 ∨ A.kd = 2 ∨ A.kd = 3 := hh_.2.2.2.2.2.2.1
theorem AOK.ly {A : Abs} (hh_ : AOK A) : A.kd ≠ -1 → 1 ≤ A.n ∧ A.td &&& A.tb = A.td ∧ (∀ b, b < A.n → A.x b ≤ 10000) ∧ ∀ b, b < A.n → A.y b ≤ 10000 := hh_.2.2.2.2.2.2.2.1
theorem AOK.k1 {A : Abs} (hh_ : AOK A) : A.kd = 1 → PermN A.n A.one ∧ PermN A.n A.two := hh_.2.2.2.2.2.2.2.2.1
theorem AOK.k2 {A : Abs} (hh_ : AOK A) : A.kd = 2 → RowOK A.n A.tk := hh_.2.2.2.2.2.2.2.2.2.1
theorem AOK.k3 {A : Abs} (hh_ : AOK A) : A.kd = 3 → A.ro < A.n ∧ ∀ b, b < A.n → (A.lf b < A.n ∨ A.lf b = 15) ∧ (A.rt b < A.n ∨ A.rt b = 15) := hh_.2.2.2.2.2.2.2.2.2.2
def CI (F : Abs → Nat → Mm → Prop) (M : Mm) (A : Abs) : Prop :=
  (M.1 0 8 = A.kd) ∧
  (M.1 0 9 = nI A.s) ∧
  (M.1 1 3 = nI A.n) ∧
  (M.1 1 2 = nI A.tb) ∧
  (IA M 2 A.n A.w) ∧
  (IA M 3 A.n A.h) ∧
  (IA M 4 20 A.nt) ∧
  (A.kd ≠ -1 → M.1 5 6 = nI A.n ∧ M.1 5 5 = nI A.td ∧ IA M 6 A.n A.x ∧ IA M 7 A.n A.y ∧ IA M 8 A.n (swd A.w A.h A.td) ∧ IA M 9 A.n (swd A.h A.w A.td)) ∧
  (A.kd = 1 → M.1 11 5 = nI A.n ∧ IA M 12 A.n A.one ∧ IA M 13 A.n A.two ∧ ∀ i, i < A.n → M.1 14 (A.one i) = nI i) ∧
  (A.kd = 2 → M.1 17 5 = nI (2 * A.n - 1) ∧ IA M 18 (2 * A.n - 1) A.tk) ∧
  (A.kd = 3 → M.1 23 5 = nI A.n ∧ M.1 23 4 = nI A.ro ∧ IA M 24 A.n A.lf ∧ IA M 25 A.n A.rt) ∧
  (∀ k, k < 4 → M.1 (65 + k) 0 = 0 ∨ F A k M)
theorem CI.kd {F : Abs → Nat → Mm → Prop} {M : Mm} {A : Abs} (hh_ : CI F M A) : M.1 0 8 = A.kd := hh_.1
theorem CI.s {F : Abs → Nat → Mm → Prop} {M : Mm} {A : Abs} (hh_ : CI F M A) : M.1 0 9 = nI A.s := hh_.2.1
theorem CI.n {F : Abs → Nat → Mm → Prop} {M : Mm} {A : Abs} (hh_ : CI F M A) : M.1 1 3 = nI A.n := hh_.2.2.1
theorem CI.tb {F : Abs → Nat → Mm → Prop} {M : Mm} {A : Abs} (hh_ : CI F M A) : M.1 1 2 = nI A.tb := hh_.2.2.2.1
theorem CI.w {F : Abs → Nat → Mm → Prop} {M : Mm} {A : Abs} (hh_ : CI F M A) : IA M 2 A.n A.w := hh_.2.2.2.2.1
theorem CI.h {F : Abs → Nat → Mm → Prop} {M : Mm} {A : Abs} (hh_ : CI F M A) : IA M 3 A.n A.h := hh_.2.2.2.2.2.1
theorem CI.nt {F : Abs → Nat → Mm → Prop} {M : Mm} {A : Abs} (hh_ : CI F M A) : IA M 4 20 A.nt := hh_.2.2.2.2.2.2.1
theorem CI.gd {F : Abs → Nat → Mm → Prop} {M : Mm} {A : Abs} (hh_ : CI F M A) : A.kd ≠ -1 → M.1 5 6 = nI A.n ∧ M.1 5 5 = nI A.td ∧ IA M 6 A.n A.x ∧ IA M 7 A.n A.y ∧ IA M 8 A.n (swd A.w A.h A.td) ∧ IA M 9 A.n (swd A.h A.w A.td) := hh_.2.2.2.2.2.2.2.1
theorem CI.k1 {F : Abs → Nat → Mm → Prop} {M : Mm} {A : Abs} (hh_ : CI F M A) : A.kd = 1 → M.1 11 5 = nI A.n ∧ IA M 12 A.n A.one ∧ IA M 13 A.n A.two ∧ ∀ i, i < A.n → M.1 14 (A.one i) = nI i := hh_.2.2.2.2.2.2.2.2.1
theorem CI.k2 {F : Abs → Nat → Mm → Prop} {M : Mm} {A : Abs} (hh_ : CI F M A) : A.kd = 2 → M.1 17 5 = nI (2 * A.n - 1) ∧ IA M 18 (2 * A.n - 1) A.tk := hh_.2.2.2.2.2.2.2.2.2.1
theorem CI.k3 {F : Abs → Nat → Mm → Prop} {M : Mm} {A : Abs} (hh_ : CI F M A) : A.kd = 3 → M.1 23 5 = nI A.n ∧ M.1 23 4 = nI A.ro ∧ IA M 24 A.n A.lf ∧ IA M 25 A.n A.rt := hh_.2.2.2.2.2.2.2.2.2.2.1
theorem CI.fn {F : Abs → Nat → Mm → Prop} {M : Mm} {A : Abs} (hh_ : CI F M A) : ∀ k, k < 4 → M.1 (65 + k) 0 = 0 ∨ F A k M := hh_.2.2.2.2.2.2.2.2.2.2.2
def RI (M : Mm) (A : Abs) : Prop :=
  (M.1 69 6 = A.kd) ∧
  (M.1 69 41 = nI A.s) ∧
  (M.1 69 1 = nI A.n) ∧
  (IA M 70 A.n A.w) ∧
  (IA M 71 A.n A.h) ∧
  (IA M 73 A.n (fun b => (A.tb.testBit b).toNat)) ∧
  (IA M 72 20 A.nt) ∧
  (A.kd ≠ -1 → M.1 69 7 = nI A.td ∧ IA M 74 A.n A.x ∧ IA M 75 A.n A.y) ∧
  (A.kd = 1 → IA M 76 A.n A.one ∧ IA M 77 A.n A.two) ∧
  (A.kd = 2 → IA M 78 (2 * A.n - 1) A.tk) ∧
  (A.kd = 3 → M.1 69 8 = nI A.ro ∧ ∀ b, b < A.n → M.1 79 b = (if A.lf b = 15 then -1 else nI (A.lf b)) ∧ M.1 80 b = (if A.rt b = 15 then -1 else nI (A.rt b)))
theorem RI.kd {M : Mm} {A : Abs} (hh_ : RI M A) : M.1 69 6 = A.kd := hh_.1
theorem RI.s {M : Mm} {A : Abs} (hh_ : RI M A) : M.1 69 41 = nI A.s := hh_.2.1
theorem RI.n {M : Mm} {A : Abs} (hh_ : RI M A) : M.1 69 1 = nI A.n := hh_.2.2.1
theorem RI.w {M : Mm} {A : Abs} (hh_ : RI M A) : IA M 70 A.n A.w := hh_.2.2.2.1
theorem RI.h {M : Mm} {A : Abs} (hh_ : RI M A) : IA M 71 A.n A.h := hh_.2.2.2.2.1
theorem RI.tb {M : Mm} {A : Abs} (hh_ : RI M A) : IA M 73 A.n (fun b => (A.tb.testBit b).toNat) := hh_.2.2.2.2.2.1
theorem RI.nt {M : Mm} {A : Abs} (hh_ : RI M A) : IA M 72 20 A.nt := hh_.2.2.2.2.2.2.1
theorem RI.gd {M : Mm} {A : Abs} (hh_ : RI M A) : A.kd ≠ -1 → M.1 69 7 = nI A.td ∧ IA M 74 A.n A.x ∧ IA M 75 A.n A.y := hh_.2.2.2.2.2.2.2.1
theorem RI.k1 {M : Mm} {A : Abs} (hh_ : RI M A) : A.kd = 1 → IA M 76 A.n A.one ∧ IA M 77 A.n A.two := hh_.2.2.2.2.2.2.2.2.1
theorem RI.k2 {M : Mm} {A : Abs} (hh_ : RI M A) : A.kd = 2 → IA M 78 (2 * A.n - 1) A.tk := hh_.2.2.2.2.2.2.2.2.2.1
theorem RI.k3 {M : Mm} {A : Abs} (hh_ : RI M A) : A.kd = 3 → M.1 69 8 = nI A.ro ∧ ∀ b, b < A.n → M.1 79 b = (if A.lf b = 15 then -1 else nI (A.lf b)) ∧ M.1 80 b = (if A.rt b = 15 then -1 else nI (A.rt b)) := hh_.2.2.2.2.2.2.2.2.2.2
/-- what a find says depends on the blocks and its own cell alone -/
def FOK (F : Abs → Nat → Mm → Prop) : Prop := ∀ (A A' : Abs) (k : Nat) (M M' : Mm), k < 4 → F A k M → A'.n = A.n → A'.tb = A.tb → A'.w = A.w → A'.h = A.h → M'.1 (65 + k) = M.1 (65 + k) → M'.2 (65 + k) = M.2 (65 + k) → F A' k M'
def SC (k : Nat) : Prop := k < 69
def SR (k : Nat) : Prop := 69 ≤ k ∧ k ≤ 104
def SO (k : Nat) : Prop := k = 105
theorem RI.fr {S : Nat → Prop} {M M' : Mm} {A : Abs} (h : RI M A) (hf : Fr S M M') (hs : ∀ k, S k → ¬ SR k) : RI M' A := by
  have e : ∀ k, 69 ≤ k → k ≤ 104 → M'.1 k = M.1 k := fun k h1 h2 => hf.1 k (fun hk => hs k hk ⟨h1, h2⟩)
  refine ⟨?_, ?_, ?_, h.w.eq (e _ (by decide) (by decide)), h.h.eq (e _ (by decide) (by decide)), h.tb.eq (e _ (by decide) (by decide)), h.nt.eq (e _ (by decide) (by decide)), fun hk => ?_, fun hk => ?_, fun hk => ?_, fun hk => ?_⟩
  · rw [e 69 (by decide) (by decide)]; exact h.kd
  · rw [e 69 (by decide) (by decide)]; exact h.s
  · rw [e 69 (by decide) (by decide)]; exact h.n
  · rw [e 69 (by decide) (by decide)]; exact ⟨(h.gd hk).1, (h.gd hk).2.1.eq (e _ (by decide) (by decide)), (h.gd hk).2.2.eq (e _ (by decide) (by decide))⟩
  · exact ⟨(h.k1 hk).1.eq (e _ (by decide) (by decide)), (h.k1 hk).2.eq (e _ (by decide) (by decide))⟩
  · exact (h.k2 hk).eq (e _ (by decide) (by decide))
  · rw [e 69 (by decide) (by decide), e 79 (by decide) (by decide), e 80 (by decide) (by decide)]; exact h.k3 hk
theorem CI.fr {F : Abs → Nat → Mm → Prop} (hF : FOK F) {S : Nat → Prop} {M M' : Mm} {A : Abs} (h : CI F M A) (hf : Fr S M M') (hs : ∀ k, S k → ¬ SC k) : CI F M' A := by
  have e : ∀ k, k < 69 → M'.1 k = M.1 k := fun k h1 => hf.1 k (fun hk => hs k hk h1)
  have e2 : ∀ k, k < 69 → M'.2 k = M.2 k := fun k h1 => hf.2 k (fun hk => hs k hk h1)
  refine ⟨?_, ?_, ?_, ?_, h.w.eq (e _ (by decide)), h.h.eq (e _ (by decide)), h.nt.eq (e _ (by decide)), fun hk => ?_, fun hk => ?_, fun hk => ?_, fun hk => ?_, fun k hk => ?_⟩
  · rw [e 0 (by decide)]; exact h.kd
  · rw [e 0 (by decide)]; exact h.s
  · rw [e 1 (by decide)]; exact h.n
  · rw [e 1 (by decide)]; exact h.tb
  · obtain ⟨a, b, c, d, f, g⟩ := h.gd hk
    rw [e 5 (by decide)]; exact ⟨a, b, c.eq (e _ (by decide)), d.eq (e _ (by decide)), f.eq (e _ (by decide)), g.eq (e _ (by decide))⟩
  · obtain ⟨a, b, c, d⟩ := h.k1 hk
    rw [e 11 (by decide), e 14 (by decide)]; exact ⟨a, b.eq (e _ (by decide)), c.eq (e _ (by decide)), d⟩
  · obtain ⟨a, b⟩ := h.k2 hk
    rw [e 17 (by decide)]; exact ⟨a, b.eq (e _ (by decide))⟩
  · obtain ⟨a, b, c, d⟩ := h.k3 hk
    rw [e 23 (by decide)]; exact ⟨a, b, c.eq (e _ (by decide)), d.eq (e _ (by decide))⟩
  · rw [e (65 + k) (by omega)]
    rcases h.fn k hk with h1 | h1
    · exact Or.inl h1
    · exact Or.inr (hF A A k M M' hk h1 rfl rfl rfl rfl (e _ (by omega)) (e2 _ (by omega)))
