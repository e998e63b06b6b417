/-! trees grown from an order and a form -/
abbrev Gz : Type := Nat × (Nat → Nat) × (Nat → Nat) × (Nat → Nat)
def gat (i b : Nat) (z : Gz) : Option Gz := if i = 0 then some z else if z.1 = 0 then none else if z.2.1 (z.1 - 1) % 2 = 0 then some (z.1 - 1, z.2.1, fset z.2.2.1 (z.2.1 (z.1 - 1) / 2) b, z.2.2.2) else some (z.1 - 1, z.2.1, z.2.2.1, fset z.2.2.2 (z.2.1 (z.1 - 1) / 2) b)
def gp1 (c b : Nat) (z : Gz) : Gz := if c = 0 ∨ c = 2 then (z.1 + 1, fset z.2.1 z.1 (2 * b + 1), z.2.2) else z
def gp2 (c b : Nat) (z : Gz) : Gz := if c = 0 ∨ c = 1 then (z.1 + 1, fset z.2.1 z.1 (2 * b), z.2.2) else z
def cdF (n f i : Nat) : Nat := f / 4 ^ (n - 1 - i) % 4
def gst (n f : Nat) (ord : Nat → Nat) : Nat → Option Gz
  | 0 => some (0, fun _ => 0, fun _ => 15, fun _ => 15)
  | i + 1 => (gst n f ord i).bind fun z => (gat i (ord i) z).bind fun y => some (gp2 (cdF n f i) (ord i) (gp1 (cdF n f i) (ord i) y))
def gck (n o f : Nat) : Bool := match gst n f (ordN n o) n with
  | none => true
  | some z => if z.1 = 0 then decide ((∀ b, b < n → (z.2.2.1 b < n ∨ z.2.2.1 b = 15) ∧ (z.2.2.2 b < n ∨ z.2.2.2 b = 15)) ∧ (dfs z.2.2.1 z.2.2.2 30 (ordN n o 0) 0).2 = 0 ∧ bcn (dfs z.2.2.1 z.2.2.2 30 (ordN n o 0) 0).1 n = n) else true
set_option maxRecDepth 100000 in
theorem gck_tab : ∀ n, n < 5 → 1 ≤ n → ∀ o, o < fac n → ∀ f, f < 4 ^ n → gck n o f = true := by decide +kernel
theorem gck_ok {n o f : Nat} {z : Gz} (h1 : 1 ≤ n) (h4 : n ≤ 4) (ho : o < fac n) (hf : f < 4 ^ n) (hz : gst n f (ordN n o) n = some z) (h0 : z.1 = 0) : TOK n (ordN n o 0) z.2.2.1 z.2.2.2 := by
  have := gck_tab n (by omega) h1 o ho f hf
  unfold gck at this
  rw [hz] at this
  have this : (if z.1 = 0 then decide ((∀ b, b < n → (z.2.2.1 b < n ∨ z.2.2.1 b = 15) ∧ (z.2.2.2 b < n ∨ z.2.2.2 b = 15)) ∧ (dfs z.2.2.1 z.2.2.2 30 (ordN n o 0) 0).2 = 0 ∧ bcn (dfs z.2.2.1 z.2.2.2 30 (ordN n o 0) 0).1 n = n) else true) = true := this
  rw [if_pos h0] at this
  have q := of_decide_eq_true this
  exact q
def GIv (n : Nat) (ord : Nat → Nat) (i : Nat) (z : Gz) : Prop :=
  (z.1 ≤ i + 1) ∧
  (∀ j, j < z.1 → ∃ k, k < i ∧ z.2.1 j / 2 = ord k) ∧
  (∀ k, i ≤ k → k < n → z.2.2.1 (ord k) = 15 ∧ z.2.2.2 (ord k) = 15) ∧
  (∀ b, z.2.2.1 b < 16 ∧ z.2.2.2 b < 16)
theorem GIv.s {n : Nat} {ord : Nat → Nat} {i : Nat} {z : Gz} (hh_ : GIv n ord i z) : z.1 ≤ i + 1 := hh_.1
theorem GIv.op {n : Nat} {ord : Nat → Nat} {i : Nat} {z : Gz} (hh_ : GIv n ord i z) : ∀ j, j < z.1 → ∃ k, k < i ∧ z.2.1 j / 2 = ord k := hh_.2.1
theorem GIv.un {n : Nat} {ord : Nat → Nat} {i : Nat} {z : Gz} (hh_ : GIv n ord i z) : ∀ k, i ≤ k → k < n → z.2.2.1 (ord k) = 15 ∧ z.2.2.2 (ord k) = 15 := hh_.2.2.1
theorem GIv.bd {n : Nat} {ord : Nat → Nat} {i : Nat} {z : Gz} (hh_ : GIv n ord i z) : ∀ b, z.2.2.1 b < 16 ∧ z.2.2.2 b < 16 := hh_.2.2.2
/-- .. behind the attaching at i -/
def GIw (n : Nat) (ord : Nat → Nat) (i : Nat) (z : Gz) : Prop :=
  (z.1 ≤ i) ∧
  (∀ j, j < z.1 → ∃ k, k < i ∧ z.2.1 j / 2 = ord k) ∧
  (∀ k, i ≤ k → k < n → z.2.2.1 (ord k) = 15 ∧ z.2.2.2 (ord k) = 15) ∧
  (∀ b, z.2.2.1 b < 16 ∧ z.2.2.2 b < 16)
theorem GIw.s {n : Nat} {ord : Nat → Nat} {i : Nat} {z : Gz} (hh_ : GIw n ord i z) : z.1 ≤ i := hh_.1
theorem GIw.op {n : Nat} {ord : Nat → Nat} {i : Nat} {z : Gz} (hh_ : GIw n ord i z) : ∀ j, j < z.1 → ∃ k, k < i ∧ z.2.1 j / 2 = ord k := hh_.2.1
theorem GIw.un {n : Nat} {ord : Nat → Nat} {i : Nat} {z : Gz} (hh_ : GIw n ord i z) : ∀ k, i ≤ k → k < n → z.2.2.1 (ord k) = 15 ∧ z.2.2.2 (ord k) = 15 := hh_.2.2.1
theorem GIw.bd {n : Nat} {ord : Nat → Nat} {i : Nat} {z : Gz} (hh_ : GIw n ord i z) : ∀ b, z.2.2.1 b < 16 ∧ z.2.2.2 b < 16 := hh_.2.2.2
theorem gat_iv {n : Nat} {ord : Nat → Nat} {i : Nat} {z y : Gz} (hp : PermN n ord) (hn : n ≤ 4) (hi : i < n) (h : GIv n ord i z) (h0 : i = 0 → z.1 = 0) (e : gat i (ord i) z = some y) : GIw n ord i y := by
  unfold gat at e
  have hb := hp.1 i hi
  by_cases q : i = 0
  · rw [if_pos q] at e
    cases e
    exact ⟨by have := h0 q; omega, h.op, h.un, h.bd⟩
  · rw [if_neg q] at e
    by_cases q2 : z.1 = 0
    · rw [if_pos q2] at e; cases e
    · rw [if_neg q2] at e
      obtain ⟨k, hk, ek⟩ := h.op (z.1 - 1) (by omega)
      have hs := h.s
      rw [ek] at e
      by_cases q3 : z.2.1 (z.1 - 1) % 2 = 0
      · rw [if_pos q3] at e
        cases e
        refine ⟨by show z.1 - 1 ≤ i; omega, fun j hj => h.op j (by have : j < z.1 - 1 := hj; omega), fun k' h1 h2 => ⟨?_, (h.un k' h1 h2).2⟩, fun b => ⟨?_, (h.bd b).2⟩⟩
        · show fset z.2.2.1 (ord k) (ord i) (ord k') = 15
          rw [fset_ne (fun z => by have := hp.2 k' k h2 (by omega) z; omega)]
          exact (h.un k' h1 h2).1
        · show fset z.2.2.1 (ord k) (ord i) b < 16
          unfold fset
          split
          · omega
          · exact (h.bd b).1
      · rw [if_neg q3] at e
        cases e
        refine ⟨by show z.1 - 1 ≤ i; omega, fun j hj => h.op j (by have : j < z.1 - 1 := hj; omega), fun k' h1 h2 => ⟨(h.un k' h1 h2).1, ?_⟩, fun b => ⟨(h.bd b).1, ?_⟩⟩
        · show fset z.2.2.2 (ord k) (ord i) (ord k') = 15
          rw [fset_ne (fun z => by have := hp.2 k' k h2 (by omega) z; omega)]
          exact (h.un k' h1 h2).2
        · show fset z.2.2.2 (ord k) (ord i) b < 16
          unfold fset
          split
          · omega
          · exact (h.bd b).2
theorem gp_iv {n : Nat} {ord : Nat → Nat} {i c : Nat} {y : Gz} (h : GIw n ord i y) : GIv n ord (i + 1) (gp2 c (ord i) (gp1 c (ord i) y)) := by
  have hs := h.s
  have g1 : ∀ j, j < (gp1 c (ord i) y).1 → ∃ k, k < i + 1 ∧ (gp1 c (ord i) y).2.1 j / 2 = ord k := by
    intro j hj
    unfold gp1 at hj ⊢
    by_cases q : c = 0 ∨ c = 2
    · rw [if_pos q] at hj ⊢
      have hj : j < y.1 + 1 := hj
      show ∃ k, k < i + 1 ∧ fset y.2.1 y.1 (2 * ord i + 1) j / 2 = ord k
      by_cases e : j = y.1
      · rw [e, fset_eq]; exact ⟨i, by omega, by omega⟩
      · rw [fset_ne e]
        obtain ⟨k, k1, k2⟩ := h.op j (by omega)
        exact ⟨k, by omega, k2⟩
    · rw [if_neg q] at hj ⊢
      obtain ⟨k, k1, k2⟩ := h.op j hj
      exact ⟨k, by omega, k2⟩
  have e1 : (gp1 c (ord i) y).2.2 = y.2.2 := by unfold gp1; split <;> rfl
  have e2 : (gp2 c (ord i) (gp1 c (ord i) y)).2.2 = y.2.2 := by unfold gp2; split <;> exact e1
  have s1 : (gp1 c (ord i) y).1 ≤ y.1 + 1 := by unfold gp1; split <;> simp
  refine ⟨?_, ?_, fun k h1 h2 => ?_, fun b => ?_⟩
  · unfold gp2
    split
    · show (gp1 c (ord i) y).1 + 1 ≤ i + 1 + 1; omega
    · omega
  · intro j hj
    unfold gp2 at hj ⊢
    by_cases q : c = 0 ∨ c = 1
    · rw [if_pos q] at hj ⊢
      have hj : j < (gp1 c (ord i) y).1 + 1 := hj
      show ∃ k, k < i + 1 ∧ fset (gp1 c (ord i) y).2.1 (gp1 c (ord i) y).1 (2 * ord i) j / 2 = ord k
      by_cases e : j = (gp1 c (ord i) y).1
      · rw [e, fset_eq]; exact ⟨i, by omega, by omega⟩
      · rw [fset_ne e]; exact g1 j (by omega)
    · rw [if_neg q] at hj ⊢
      exact g1 j hj
  · rw [e2]; exact h.un k (by omega) h2
  · rw [e2]; exact h.bd b
theorem g0_iv {n : Nat} {ord : Nat → Nat} : GIv n ord 0 (0, fun _ => 0, fun _ => 15, fun _ => 15) := ⟨Nat.zero_le _, fun j hj => by have : j < 0 := hj; omega, fun _ _ _ => ⟨rfl, rfl⟩, fun _ => ⟨by show 15 < 16; omega, by show 15 < 16; omega⟩⟩
/-! numbers -/
theorem cd_tab : ∀ f, f < 256 → ∀ k, k < 4 → (nI f >>> (nI (2 * k) &&& 31)) &&& nI 3 = nI (f / 4 ^ k % 4) := by decide +kernel
theorem cd_ok {n f i : Nat} (h4 : n ≤ 4) (hf : f < 4 ^ n) (hi : i < n) : (nI f >>> ((nI 2 * ((nI n - nI 1) - nI i)) &&& 31)) &&& nI 3 = nI (cdF n f i) := by
  have hp : 4 ^ n ≤ 4 ^ 4 := Nat.pow_le_pow_right (by decide) h4
  rw [pz_sub (by omega), pz_sub (by omega), pz_mul]
  exact cd_tab f (by omega) (n - 1 - i) (by omega)
theorem sh_tab : ∀ b, b < 12 → nI b <<< (nI 1 &&& 31) = nI (2 * b) ∧ (nI b <<< (nI 1 &&& 31)) ||| nI 1 = nI (2 * b + 1) := by decide +kernel
theorem at_tab : ∀ s, s < 24 → nI s >>> (nI 1 &&& 31) = nI (s / 2) ∧ nI s &&& nI 1 = nI (s % 2) ∧ nI s - nI s / nI 2 * nI 2 = nI (s % 2) ∧ nI s / nI 2 = nI (s / 2) := by decide +kernel
/-! the class grows a tree -/
def CGr (n f : Nat) (ord : Nat → Nat) (M0 : Mm) (i : Nat) (z : Gz) (M : Mm) : Prop :=
  (∀ j, j < z.1 → M.1 57 j = nI (z.2.1 j)) ∧
  (∀ k, k < i → M.1 55 (ord k) = nI (z.2.2.1 (ord k)) ∧ M.1 56 (ord k) = nI (z.2.2.2 (ord k))) ∧
  (M.1 54 5 = nI n) ∧
  (M.1 54 4 = nI (ord 0)) ∧
  (Fr (SB 54 57) M0 M)
theorem CGr.op {n f : Nat} {ord : Nat → Nat} {M0 : Mm} {i : Nat} {z : Gz} {M : Mm} (hh_ : CGr n f ord M0 i z M) : ∀ j, j < z.1 → M.1 57 j = nI (z.2.1 j) := hh_.1
theorem CGr.lr {n f : Nat} {ord : Nat → Nat} {M0 : Mm} {i : Nat} {z : Gz} {M : Mm} (hh_ : CGr n f ord M0 i z M) : ∀ k, k < i → M.1 55 (ord k) = nI (z.2.2.1 (ord k)) ∧ M.1 56 (ord k) = nI (z.2.2.2 (ord k)) := hh_.2.1
theorem CGr.h5 {n f : Nat} {ord : Nat → Nat} {M0 : Mm} {i : Nat} {z : Gz} {M : Mm} (hh_ : CGr n f ord M0 i z M) : M.1 54 5 = nI n := hh_.2.2.1
theorem CGr.h4 {n f : Nat} {ord : Nat → Nat} {M0 : Mm} {i : Nat} {z : Gz} {M : Mm} (hh_ : CGr n f ord M0 i z M) : M.1 54 4 = nI (ord 0) := hh_.2.2.2.1
theorem CGr.fr {n f : Nat} {ord : Nat → Nat} {M0 : Mm} {i : Nat} {z : Gz} {M : Mm} (hh_ : CGr n f ord M0 i z M) : Fr (SB 54 57) M0 M := hh_.2.2.2.2
theorem j79_ok {n f i : Nat} {ord : Nat → Nat} {M0 M : Mm} {y : Gz} (hp : PermN n ord) (h4 : n ≤ 4) (hf : f < 4 ^ n) (hi : i < n) (w : GIw n ord i y) (g : CGr n f ord M0 (i + 1) y M) :
    Wp (f_X3_grow_J79 54 (nI f) (nI i) (nI (ord i)) (nI y.1) M) (fun r => ∃ M', r = .inl (nI (gp2 (cdF n f i) (ord i) (gp1 (cdF n f i) (ord i) y)).1, nI (i + 1), M') ∧ CGr n f ord M0 (i + 1) (gp2 (cdF n f i) (ord i) (gp1 (cdF n f i) (ord i) y)) M') := by
  have hs := w.s
  have hb := hp.1 i hi
  have st := sh_tab (ord i) (by omega)
  have cl : cdF n f i < 4 := Nat.mod_lt _ (by omega)
  have J148 : ∀ (s : Nat) (N : Mm), f_X3_grow_J148 (nI i) (nI s) N = some (.inl (nI s, nI (i + 1), N)) := fun s N => by
    unfold f_X3_grow_J148; rw [pz_lt1, pz_1, pz_add]
  -- second push
  have p2 : ∀ (z : Gz) (N : Mm), z.1 ≤ i + 1 → CGr n f ord M0 (i + 1) z N → Wp (f_X3_grow_J123 54 (nI i) (nI (ord i)) (nI (cdF n f i)) (nI z.1) N) (fun r => ∃ M', r = .inl (nI (gp2 (cdF n f i) (ord i) z).1, nI (i + 1), M') ∧ CGr n f ord M0 (i + 1) (gp2 (cdF n f i) (ord i) z) M') := by
    intro z N hz gz
    unfold f_X3_grow_J123 gp2
    have push : f_X3_grow_J134 54 (nI i) (nI (ord i)) (nI z.1) N () = some (.inl (nI (z.1 + 1), nI (i + 1), wi N 57 z.1 (nI (2 * ord i)))) := by
      unfold f_X3_grow_J134
      rw [pz_1, pz_add, st.1, pz_lt1, pz_wr (by omega) (by omega), J148]
    have res : CGr n f ord M0 (i + 1) (z.1 + 1, fset z.2.1 z.1 (2 * ord i), z.2.2) (wi N 57 z.1 (nI (2 * ord i))) := by
      refine ⟨fun j hj => ?_, fun k hk => ?_, gz.h5, gz.h4, gz.fr.w ⟨by omega, by omega⟩⟩
      · have hj : j < z.1 + 1 := hj
        show (wi N 57 z.1 (nI (2 * ord i))).1 57 j = nI (fset z.2.1 z.1 (2 * ord i) j)
        rw [wi_at]
        by_cases e : j = z.1
        · rw [if_pos e, e, fset_eq]
        · rw [if_neg e, fset_ne e]; exact gz.op j (by omega)
      · rw [wi_n _ _ _ (show 55 ≠ 57 by omega), wi_n _ _ _ (show 56 ≠ 57 by omega)]; exact gz.lr k hk
    rw [push, J148, pz_0, pz_1]
    by_cases q0 : cdF n f i = 0
    · rw [if_pos (by rw [q0]), if_pos (Or.inl q0)]
      exact wp_s ⟨_, rfl, res⟩
    · rw [if_neg (by rw [pz_eq (by omega) (by omega)]; exact q0)]
      by_cases q1 : cdF n f i = 1
      · rw [if_pos (by rw [q1]), if_pos (Or.inr q1)]
        exact wp_s ⟨_, rfl, res⟩
      · rw [if_neg (by rw [pz_eq (by omega) (by omega)]; exact q1), if_neg (by omega)]
        exact wp_s ⟨_, rfl, gz⟩
  unfold f_X3_grow_J79
  rw [g.h5, pz_1, pz_2, pz_3, cd_ok h4 hf hi, pz_lt1]
  have res : CGr n f ord M0 (i + 1) (y.1 + 1, fset y.2.1 y.1 (2 * ord i + 1), y.2.2) (wi M 57 y.1 (nI (2 * ord i + 1))) := by
    refine ⟨fun j hj => ?_, fun k hk => ?_, g.h5, g.h4, g.fr.w ⟨by omega, by omega⟩⟩
    · have hj : j < y.1 + 1 := hj
      show (wi M 57 y.1 (nI (2 * ord i + 1))).1 57 j = nI (fset y.2.1 y.1 (2 * ord i + 1) j)
      rw [wi_at]
      by_cases e : j = y.1
      · rw [if_pos e, e, fset_eq]
      · rw [if_neg e, fset_ne e]; exact g.op j (by omega)
    · rw [wi_n _ _ _ (show 55 ≠ 57 by omega), wi_n _ _ _ (show 56 ≠ 57 by omega)]; exact g.lr k hk
  have push : f_X3_grow_J107 54 (nI i) (nI (ord i)) (nI y.1) M (nI (cdF n f i)) () = f_X3_grow_J123 54 (nI i) (nI (ord i)) (nI (cdF n f i)) (nI (y.1 + 1)) (wi M 57 y.1 (nI (2 * ord i + 1))) := by
    unfold f_X3_grow_J107
    rw [pz_1, pz_add, st.2, pz_lt1, pz_wr (by omega) (by omega)]
  rw [push, pz_0]
  by_cases q0 : cdF n f i = 0 ∨ cdF n f i = 2
  · have e1 : gp1 (cdF n f i) (ord i) y = (y.1 + 1, fset y.2.1 y.1 (2 * ord i + 1), y.2.2) := if_pos q0
    have := p2 (y.1 + 1, fset y.2.1 y.1 (2 * ord i + 1), y.2.2) _ (by show y.1 + 1 ≤ i + 1; omega) res
    rw [e1]
    rcases q0 with q0 | q0
    · rw [if_pos (by rw [q0])]; exact this
    · rw [if_neg (by rw [q0]; decide), if_pos (by rw [q0])]; exact this
  · have e1 : gp1 (cdF n f i) (ord i) y = y := if_neg q0
    rw [e1, if_neg (by rw [pz_eq (by omega) (by omega)]; omega), if_neg (by rw [pz_eq (by omega) (by omega)]; omega)]
    exact p2 y M (by omega) g
theorem cgw_ok {M : Mm} {n f : Nat} {ord : Nat → Nat} (h1 : 1 ≤ n) (h4 : n ≤ 4) (hf : f < 4 ^ n) (hp : PermN n ord) (o : IA M 43 n ord) :
    Wp (f_X3_grow 54 43 (nI n) (nI f) M) (fun r => Fr (SB 54 57) M r.2 ∧ ((r.1 = nI 1 ∧ ∃ z, gst n f ord n = some z ∧ z.1 = 0 ∧ GIv n ord n z ∧ CGr n f ord M n z r.2) ∨ (r.1 = nI 0 ∧ ∀ z, gst n f ord n = some z → z.1 ≠ 0))) := by
  unfold f_X3_grow
  rw [pz_lt1, pz_0, pz_rd (by omega) (by omega), wi_n _ _ _ (show 43 ≠ 54 by omega), o 0 (by omega), pz_lt1]
  refine wp_b (P := fun x => (∃ z N, x = .inl (nI z.1, N) ∧ gst n f ord n = some z ∧ GIv n ord n z ∧ CGr n f ord M n z N) ∨ (∃ N, x = .inr (nI 0, N) ∧ gst n f ord n = none ∧ Fr (SB 54 57) M N)) ?_ ?_
  · refine wp_l (fun i (v : Int32 × Int32 × Mm) => ∃ z, v.1 = nI z.1 ∧ v.2.1 = nI i ∧ gst n f ord i = some z ∧ (i = 0 → z.1 = 0) ∧ GIv n ord i z ∧ CGr n f ord M i z v.2.2) n (fu_lt (by omega)) ?_ ?_ ⟨(0, fun _ => 0, fun _ => 15, fun _ => 15), rfl, rfl, rfl, fun _ => rfl, g0_iv, ⟨fun j hj => by have : j < 0 := hj; omega, fun k hk => by omega, by rw [wi_1, if_neg (by omega), wi_at, if_pos rfl], by rw [wi_at, if_pos rfl], (Fr.rf.w ⟨by omega, by omega⟩).w ⟨by omega, by omega⟩⟩⟩
    · rintro i ⟨x4, x5, M1⟩ hi ⟨z, a1, a2, a3, a0, a4, a5⟩
      have a1 : x4 = nI z.1 := a1
      have a2 : x5 = nI i := a2
      subst a1 a2
      have a5 : CGr n f ord M i z M1 := a5
      have hb := hp.1 i hi
      have hs := a4.s
      have gs : gst n f ord (i + 1) = (gat i (ord i) z).bind fun y => some (gp2 (cdF n f i) (ord i) (gp1 (cdF n f i) (ord i) y)) := by
        show (gst n f ord i).bind _ = _
        rw [a3]; rfl
      show Wp (f_X3_grow_L18 54 43 (nI f) (nI z.1) (nI i) M1) _
      unfold f_X3_grow_L18
      have o1 : M1.1 43 i = nI (ord i) := by rw [a5.fr.1 43 (fun h => by unfold SB at h; omega)]; exact o i hi
      rw [a5.h5, if_neg (by rw [pz_le (by omega) (by omega)]; omega), pz_rd (by omega) (by omega), o1, pz_15, pz_wr (by omega) (by omega), pz_wr (by omega) (by omega), pz_0]
      have un := a4.un i (Nat.le_refl _) hi
      have ne : ∀ k, k < i → ord k ≠ ord i := fun k hk e => by have := hp.2 k i (by omega) hi e; omega
      have g2 : CGr n f ord M (i + 1) z (wi (wi M1 55 (ord i) (nI 15)) 56 (ord i) (nI 15)) := by
        refine ⟨fun j hj => a5.op j hj, fun k hk => ?_, a5.h5, a5.h4, (a5.fr.w ⟨by omega, by omega⟩).w ⟨by omega, by omega⟩⟩
        by_cases e : k = i
        · subst e
          rw [un.1, un.2]
          exact ⟨by rw [wi_n _ _ _ (by omega), wi_at, if_pos rfl], by rw [wi_at, if_pos rfl]⟩
        · have nk := ne k (by omega)
          have := a5.lr k (by omega)
          exact ⟨by rw [wi_n _ _ _ (by omega), wi_at, if_neg nk]; exact this.1, by rw [wi_at, if_neg nk, wi_n _ _ _ (by omega)]; exact this.2⟩
      generalize wi (wi M1 55 (ord i) (nI 15)) 56 (ord i) (nI 15) = M2 at g2
      have fin : ∀ (y : Gz) (N : Mm), gat i (ord i) z = some y → CGr n f ord M (i + 1) y N → Wp (f_X3_grow_J79 54 (nI f) (nI i) (nI (ord i)) (nI y.1) N) (fun r => (∃ w, r = .inl w ∧ ∃ z, w.1 = nI z.1 ∧ w.2.1 = nI (i + 1) ∧ gst n f ord (i + 1) = some z ∧ (i + 1 = 0 → z.1 = 0) ∧ GIv n ord (i + 1) z ∧ CGr n f ord M (i + 1) z w.2.2) ∨ ∃ x, r = .inr x ∧ ((∃ z N, x = .inl (nI z.1, N) ∧ gst n f ord n = some z ∧ GIv n ord n z ∧ CGr n f ord M n z N) ∨ (∃ N, x = .inr (nI 0, N) ∧ gst n f ord n = none ∧ Fr (SB 54 57) M N))) := by
        intro y N ey gy
        have w := gat_iv hp h4 hi a4 a0 ey
        refine wp_m (j79_ok hp h4 hf hi w gy) ?_
        rintro r ⟨M', rfl, g'⟩
        refine Or.inl ⟨_, rfl, _, rfl, rfl, ?_, fun h => by omega, gp_iv w, g'⟩
        rw [gs, ey]; rfl
      by_cases q : i = 0
      · rw [if_pos (by rw [q]; decide)]
        exact fin z M2 (if_pos q) g2
      · rw [if_neg (by rw [pz_le (by omega) (by omega)]; omega)]
        by_cases q2 : z.1 = 0
        · rw [if_pos (by rw [q2])]
          have gn : gst n f ord (i + 1) = none := by
            rw [gs]
            unfold gat
            rw [if_neg q, if_pos q2]; rfl
          have gnn : ∀ m, gst n f ord (i + 1 + m) = none := by
            intro m
            induction m with
            | zero => exact gn
            | succ m ih =>
              show (gst n f ord (i + 1 + m)).bind _ = none
              rw [ih]; rfl
          have := gnn (n - (i + 1))
          rw [show i + 1 + (n - (i + 1)) = n by omega] at this
          exact wp_s (Or.inr ⟨_, rfl, Or.inr ⟨M2, rfl, this, g2.fr⟩⟩)
        · rw [if_neg (by rw [pz_eq (by omega) (by omega)]; exact q2), pz_n1, pz_dec (by omega), pz_lt1, pz_rd (by omega) (by omega), g2.op (z.1 - 1) (by omega)]
          obtain ⟨k, hk, ek⟩ := a4.op (z.1 - 1) (by omega)
          have hkn := hp.1 k (by omega)
          have tt := at_tab (z.2.1 (z.1 - 1)) (by omega)
          unfold f_X3_attach
          rw [pz_1, pz_0, tt.1, tt.2.1, pz_lt1, ek]
          have ee : gat i (ord i) z = if z.2.1 (z.1 - 1) % 2 = 0 then some (z.1 - 1, z.2.1, fset z.2.2.1 (ord k) (ord i), z.2.2.2) else some (z.1 - 1, z.2.1, z.2.2.1, fset z.2.2.2 (ord k) (ord i)) := by
            unfold gat
            rw [if_neg q, if_neg q2, ek]
          by_cases q3 : z.2.1 (z.1 - 1) % 2 = 0
          · rw [if_pos (by rw [q3]), pz_wr (by omega) (by omega), pz_bd]
            rw [if_pos q3] at ee
            refine fin (z.1 - 1, z.2.1, fset z.2.2.1 (ord k) (ord i), z.2.2.2) (wi M2 55 (ord k) (nI (ord i))) ee ⟨fun j hj => g2.op j (by have : j < z.1 - 1 := hj; omega), fun k' hk' => ⟨?_, ?_⟩, g2.h5, g2.h4, g2.fr.w ⟨by omega, by omega⟩⟩
            · show (wi M2 55 (ord k) (nI (ord i))).1 55 (ord k') = nI (fset z.2.2.1 (ord k) (ord i) (ord k'))
              rw [wi_at]
              by_cases e : ord k' = ord k
              · rw [if_pos e, e, fset_eq]
              · rw [if_neg e, fset_ne e]; exact (g2.lr k' hk').1
            · rw [wi_n _ _ _ (by omega)]; exact (g2.lr k' hk').2
          · rw [if_neg (by rw [pz_eq (by omega) (by omega)]; exact q3), pz_wr (by omega) (by omega), pz_bd]
            rw [if_neg q3] at ee
            refine fin (z.1 - 1, z.2.1, z.2.2.1, fset z.2.2.2 (ord k) (ord i)) (wi M2 56 (ord k) (nI (ord i))) ee ⟨fun j hj => g2.op j (by have : j < z.1 - 1 := hj; omega), fun k' hk' => ⟨?_, ?_⟩, g2.h5, g2.h4, g2.fr.w ⟨by omega, by omega⟩⟩
            · rw [wi_n _ _ _ (by omega)]; exact (g2.lr k' hk').1
            · show (wi M2 56 (ord k) (nI (ord i))).1 56 (ord k') = nI (fset z.2.2.2 (ord k) (ord i) (ord k'))
              rw [wi_at]
              by_cases e : ord k' = ord k
              · rw [if_pos e, e, fset_eq]
              · rw [if_neg e, fset_ne e]; exact (g2.lr k' hk').2
    · rintro ⟨x4, x5, M1⟩ ⟨z, a1, a2, a3, a0, a4, a5⟩
      have a1 : x4 = nI z.1 := a1
      have a2 : x5 = nI n := a2
      subst a1 a2
      have a5 : CGr n f ord M n z M1 := a5
      show Wp (f_X3_grow_L18 54 43 (nI f) (nI z.1) (nI n) M1) _
      unfold f_X3_grow_L18
      rw [a5.h5, if_pos ((nI_leI (by omega) (by omega)).mpr (Nat.le_refl _))]
      exact wp_s ⟨_, rfl, Or.inl ⟨z, M1, rfl, a3, a4, a5⟩⟩
  · rintro x (⟨z, N, rfl, a3, a4, a5⟩ | ⟨N, rfl, a3, a4⟩)
    · show Wp (f_X3_grow_A18 (nI z.1) N) _
      unfold f_X3_grow_A18
      have hs := a4.s
      rw [pz_0, pz_1]
      by_cases q : z.1 = 0
      · rw [if_pos (by rw [q])]
        exact wp_s ⟨a5.fr, Or.inl ⟨rfl, z, a3, q, a4, a5⟩⟩
      · rw [if_neg (by rw [pz_eq (by omega) (by omega)]; exact q)]
        refine wp_s ⟨a5.fr, Or.inr ⟨rfl, fun z' hz' => ?_⟩⟩
        rw [a3] at hz'
        cases hz'
        exact q
    · refine wp_s ⟨a4, Or.inr ⟨rfl, fun z' hz' => ?_⟩⟩
      rw [a3] at hz'
      cases hz'
