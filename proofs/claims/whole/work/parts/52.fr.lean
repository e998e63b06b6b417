/-! from: the two orders read off a ground without clash -/
theorem min_ex (f : Nat → Int) (P : Nat → Prop) : ∀ n, (∃ b, b < n ∧ P b) → ∃ b, b < n ∧ P b ∧ ∀ c, c < n → P c → f b ≤ f c
  | 0, ⟨b, hb, _⟩ => by omega
  | n + 1, h => by
    by_cases q : ∃ b, b < n ∧ P b
    · obtain ⟨b, h1, h2, h3⟩ := min_ex f P n q
      by_cases hn : P n ∧ f n < f b
      · refine ⟨n, by omega, hn.1, fun c hc hp => ?_⟩
        by_cases e : c = n
        · rw [e]; exact Int.le_refl _
        · have := h3 c (by omega) hp
          omega
      · refine ⟨b, by omega, h2, fun c hc hp => ?_⟩
        by_cases e : c = n
        · subst e
          have : ¬ f c < f b := fun q => hn ⟨hp, q⟩
          omega
        · exact h3 c (by omega) hp
    · obtain ⟨b, h1, h2⟩ := h
      have : b = n := by
        by_cases e : b = n
        · exact e
        · exact absurd ⟨b, by omega, h2⟩ q
      subst this
      refine ⟨b, by omega, h2, fun c hc hp => ?_⟩
      by_cases e : c = b
      · rw [e]; exact Int.le_refl _
      · exact absurd ⟨c, by omega, hp⟩ q
/-- without a clash one is always free -/
theorem free_ex {n : Nat} {S : Nat → Prop} {xl xh yl yh : Nat → Int} (hx : ∀ b, b < n → xl b < xh b) (hy : ∀ b, b < n → yl b < yh b) (hc : ∀ a b, a < n → b < n → a ≠ b → xh a ≤ xl b ∨ xh b ≤ xl a ∨ yh a ≤ yl b ∨ yh b ≤ yl a) (hne : ∃ b, b < n ∧ S b) :
    ∃ b, b < n ∧ S b ∧ ∀ a, a < n → S a → ¬ ((xh a ≤ xl b ∨ yh a ≤ yl b) ∧ ¬ xh b ≤ xl a ∧ ¬ yh b ≤ yl a) := by
  have h1 : ∃ b, b < n ∧ (S b ∧ ∀ a, a < n → S a → ¬ (xh a ≤ xl b ∧ ¬ yh b ≤ yl a)) := by
    obtain ⟨b, b1, b2, b3⟩ := min_ex xl S n hne
    refine ⟨b, b1, b2, fun a ha sa q => ?_⟩
    have := b3 a ha sa
    have := hx a ha
    omega
  obtain ⟨b, b1, ⟨b2, b3⟩, b4⟩ := min_ex yl _ n h1
  refine ⟨b, b1, b2, fun a ha sa q => ?_⟩
  have h2 : ∃ a, a < n ∧ (S a ∧ yh a ≤ yl b ∧ ¬ xh b ≤ xl a) := by
    refine ⟨a, ha, sa, ?_, q.2.1⟩
    rcases q.1 with q1 | q1
    · exact absurd ⟨q1, q.2.2⟩ (b3 a ha sa)
    · exact q1
  obtain ⟨a, a1, ⟨a2, a3, a4⟩, a5⟩ := min_ex xl _ n h2
  have hya := hy a a1
  have a6 : ¬ (S a ∧ ∀ c, c < n → S c → ¬ (xh c ≤ xl a ∧ ¬ yh a ≤ yl c)) := fun q => by
    have := b4 a a1 q
    omega
  have a7 : ∃ c, c < n ∧ S c ∧ xh c ≤ xl a ∧ ¬ yh a ≤ yl c := by
    refine Classical.byContradiction fun no => a6 ⟨a2, fun c c1 c2 c3 => no ⟨c, c1, c2, c3⟩⟩
  obtain ⟨c, c1, c2, c3, c4⟩ := a7
  have hxc := hx c c1
  have hyb := hy b b1
  have hxb := hx b b1
  have hcb : c ≠ b := fun e => by
    subst e
    omega
  have h3 := hc c b c1 b1 hcb
  have h4 := b3 c c1 c2
  have h5 := a5 c c1
  have h6 : ¬ (S c ∧ yh c ≤ yl b ∧ ¬ xh b ≤ xl c) := fun q => by
    have := h5 q
    omega
  have h7 : ¬ (yh c ≤ yl b ∧ ¬ xh b ≤ xl c) := fun q => h6 ⟨c2, q⟩
  omega
def Ah1 (x y w h : Nat → Nat) (a b : Nat) : Prop := (x a + w a ≤ x b ∨ y b + h b ≤ y a) ∧ ¬ y a + h a ≤ y b ∧ ¬ x b + w b ≤ x a
def Ah2 (x y w h : Nat → Nat) (a b : Nat) : Prop := (x a + w a ≤ x b ∨ y a + h a ≤ y b) ∧ ¬ x b + w b ≤ x a ∧ ¬ y b + h b ≤ y a
/-- b is free among m -/
def Fre (Ah : Nat → Nat → Prop) (n m b : Nat) : Prop := m.testBit b = true ∧ ∀ a, a < n → m.testBit a = true → ¬ Ah a b
def FF (Ah : Nat → Nat → Prop) (n m b : Nat) : Prop := b < n ∧ Fre Ah n m b ∧ ∀ c, c < b → ¬ Fre Ah n m c
def AlF (Ah : Nat → Nat → Prop) (n : Nat) : Prop := ∀ m, (∃ b, b < n ∧ m.testBit b = true) → ∃ b, b < n ∧ Fre Ah n m b
theorem al2 {n td : Nat} {w h x y : Nat → Nat} (hw : ∀ b, b < n → 1 ≤ w b) (hh : ∀ b, b < n → 1 ≤ h b) (hc : NC n (Cl x y w h)) : AlF (Ah2 x y w h) n := by
  intro m hm
  obtain ⟨b, b1, b2, b3⟩ := free_ex (n := n) (S := fun b => m.testBit b = true) (xl := fun b => (x b : Int)) (xh := fun b => (x b + w b : Int)) (yl := fun b => (y b : Int)) (yh := fun b => (y b + h b : Int)) (fun b hb => by have := hw b hb; show (x b : Int) < x b + w b; omega) (fun b hb => by have := hh b hb; show (y b : Int) < y b + h b; omega) (fun a b ha hb hne => by
    have q : ¬ Cl x y w h a b := by
      rcases Nat.lt_or_ge a b with q | q
      · exact hc a b q hb
      · intro c
        exact hc b a (by omega) ha ⟨c.2.1, c.1, c.2.2.2, c.2.2.1⟩
    unfold Cl at q
    show (x a + w a : Int) ≤ x b ∨ (x b + w b : Int) ≤ x a ∨ (y a + h a : Int) ≤ y b ∨ (y b + h b : Int) ≤ y a
    omega) hm
  refine ⟨b, b1, b2, fun a ha sa q => b3 a ha sa ?_⟩
  unfold Ah2 at q
  show ((x a + w a : Int) ≤ x b ∨ (y a + h a : Int) ≤ y b) ∧ ¬ (x b + w b : Int) ≤ x a ∧ ¬ (y b + h b : Int) ≤ y a
  omega
theorem al1 {n td : Nat} {w h x y : Nat → Nat} (hw : ∀ b, b < n → 1 ≤ w b) (hh : ∀ b, b < n → 1 ≤ h b) (hc : NC n (Cl x y w h)) : AlF (Ah1 x y w h) n := by
  intro m hm
  obtain ⟨b, b1, b2, b3⟩ := free_ex (n := n) (S := fun b => m.testBit b = true) (xl := fun b => (x b : Int)) (xh := fun b => (x b + w b : Int)) (yl := fun b => -(y b + h b : Int)) (yh := fun b => -(y b : Int)) (fun b hb => by have := hw b hb; show (x b : Int) < x b + w b; omega) (fun b hb => by have := hh b hb; show -(y b + h b : Int) < -(y b : Int); omega) (fun a b ha hb hne => by
    have q : ¬ Cl x y w h a b := by
      rcases Nat.lt_or_ge a b with q | q
      · exact hc a b q hb
      · intro c
        exact hc b a (by omega) ha ⟨c.2.1, c.1, c.2.2.2, c.2.2.1⟩
    unfold Cl at q
    show (x a + w a : Int) ≤ x b ∨ (x b + w b : Int) ≤ x a ∨ -(y a : Int) ≤ -(y b + h b : Int) ∨ -(y b : Int) ≤ -(y a + h a : Int)
    omega) hm
  refine ⟨b, b1, b2, fun a ha sa q => b3 a ha sa ?_⟩
  unfold Ah1 at q
  show ((x a + w a : Int) ≤ x b ∨ -(y a : Int) ≤ -(y b + h b : Int)) ∧ ¬ (x b + w b : Int) ≤ x a ∧ ¬ -(y b : Int) ≤ -(y a + h a : Int)
  omega
theorem ff_ex {Ah : Nat → Nat → Prop} {n m : Nat} (hA : AlF Ah n) (hm : ∃ b, b < n ∧ m.testBit b = true) : ∃ b, FF Ah n m b := by
  obtain ⟨b, b1, b2, b3⟩ := min_ex (fun b => (b : Int)) (Fre Ah n m) n (hA m hm)
  refine ⟨b, b1, b2, fun c hc q => ?_⟩
  have : (b : Int) ≤ c := b3 c (by omega) q
  omega
theorem FF.un {Ah : Nat → Nat → Prop} {n m b c : Nat} (h1 : FF Ah n m b) (h2 : FF Ah n m c) : b = c := by
  rcases Nat.lt_trichotomy b c with q | q | q
  · exact absurd h1.2.1 (h2.2.2 b q)
  · exact q
  · exact absurd h2.2.1 (h1.2.2 c q)
/-- the sorting of all blocks -/
def SoO (Ah : Nat → Nat → Prop) (n : Nat) (o mk : Nat → Nat) (i : Nat) : Prop := mk 0 = 2 ^ n - 1 ∧ ∀ k, k < i → FF Ah n (mk k) (o k) ∧ mk (k + 1) = clr (mk k) (2 ^ o k)
theorem SoO.un {Ah : Nat → Nat → Prop} {n : Nat} {o mk o' mk' : Nat → Nat} (h1 : SoO Ah n o mk n) (h2 : SoO Ah n o' mk' n) : ∀ i, i < n → o i = o' i := by
  have key : ∀ i, i ≤ n → mk i = mk' i := by
    intro i
    induction i with
    | zero => intro _; rw [h1.1, h2.1]
    | succ i ih =>
      intro hi
      have e := ih (by omega)
      have q1 := h1.2 i (by omega)
      have q2 := h2.2 i (by omega)
      rw [e] at q1
      have := q1.1.un q2.1
      rw [q1.2, q2.2, this]
  intro i hi
  have q1 := (h1.2 i hi).1
  rw [key i (by omega)] at q1
  exact q1.un (h2.2 i hi).1
theorem SoO.cnt {Ah : Nat → Nat → Prop} {n i : Nat} {o mk : Nat → Nat} (h : SoO Ah n o mk i) (hi : i ≤ n) : ∀ k, k ≤ i → bcn (mk k) n = n - k ∧ mk k < 2 ^ n := by
  intro k
  induction k with
  | zero =>
    intro _
    rw [h.1]
    exact ⟨bcn_full n n (Nat.le_refl _), by have := Nat.two_pow_pos n; omega⟩
  | succ k ih =>
    intro hk
    obtain ⟨a, b⟩ := ih (by omega)
    obtain ⟨c, d⟩ := h.2 k (by omega)
    have := bcn_clr c.2.1.1 c.1
    rw [d]
    exact ⟨by omega, clr_lt b⟩
theorem SoO.ne {Ah : Nat → Nat → Prop} {n i : Nat} {o mk : Nat → Nat} (h : SoO Ah n o mk i) (hi : i < n) : ∃ b, b < n ∧ (mk i).testBit b = true := by
  have := (h.cnt (by omega) i (Nat.le_refl _)).1
  obtain ⟨b, b1, b2, _⟩ := nth_ex (m := mk i) (s := 0) (n := n) (by omega)
  exact ⟨b, b1, b2⟩
theorem SoO.gone {Ah : Nat → Nat → Prop} {n i : Nat} {o mk : Nat → Nat} (h : SoO Ah n o mk n) : ∀ {j}, i < j → j ≤ n → (mk j).testBit (o i) = false
  | 0, q, _ => by omega
  | j + 1, q, hj => by
    rw [(h.2 j (by omega)).2, clr_bit]
    by_cases e : i = j
    · subst e
      rw [Nat.testBit_two_pow]; simp
    · rw [h.gone (j := j) (by omega) (by omega)]; rfl
theorem SoO.perm {Ah : Nat → Nat → Prop} {n : Nat} {o mk : Nat → Nat} (h : SoO Ah n o mk n) : PermN n o := by
  refine ⟨fun i hi => (h.2 i hi).1.1, fun i j hi hj e => ?_⟩
  rcases Nat.lt_trichotomy i j with q | q | q
  · have h1 := h.gone (i := i) q (by omega)
    rw [e, (h.2 j hj).1.2.1.1] at h1
    cases h1
  · exact q
  · have h1 := h.gone (i := j) q (by omega)
    rw [← e, (h.2 i hi).1.2.1.1] at h1
    cases h1
theorem SoO.ext {Ah : Nat → Nat → Prop} {n i b : Nat} {o mk : Nat → Nat} (h : SoO Ah n o mk i) (hb : FF Ah n (mk i) b) : SoO Ah n (fset o i b) (fset mk (i + 1) (clr (mk i) (2 ^ b))) (i + 1) := by
  refine ⟨?_, fun k hk => ?_⟩
  · rw [fset_ne (by omega)]; exact h.1
  · by_cases e : k = i
    · subst e
      rw [fset_eq, fset_eq, fset_ne (by omega)]
      exact ⟨hb, rfl⟩
    · rw [fset_ne e, fset_ne (by omega), fset_ne (by omega)]
      exact h.2 k (by omega)
/-! the class: who is ahead -/
/-- a mask of those ahead of b -/
def AhM (Ah : Nat → Nat → Prop) (n b : Nat) (i m : Nat) : Prop := m < 2 ^ n ∧ ∀ a, m.testBit a = true ↔ a < i ∧ Ah a b
theorem AhM.z {Ah : Nat → Nat → Prop} {n b : Nat} : AhM Ah n b 0 0 := ⟨Nat.two_pow_pos n, fun a => by rw [Nat.zero_testBit]; exact ⟨fun h => absurd h (by decide), fun h => by omega⟩⟩
theorem AhM.y {Ah : Nat → Nat → Prop} {n b i m : Nat} (h : AhM Ah n b i m) (hi : i < n) (q : Ah i b) : AhM Ah n b (i + 1) (m ||| 2 ^ i) := by
  refine ⟨or_lt h.1 (Nat.pow_lt_pow_right (by omega) hi), fun a => ?_⟩
  rw [Nat.testBit_or, Nat.testBit_two_pow, Bool.or_eq_true, h.2 a, decide_eq_true_iff]
  constructor
  · rintro (⟨h1, h2⟩ | h1)
    · exact ⟨by omega, h2⟩
    · subst h1; exact ⟨by omega, q⟩
  · rintro ⟨h1, h2⟩
    by_cases e : i = a
    · exact Or.inr e
    · exact Or.inl ⟨by omega, h2⟩
theorem AhM.n {Ah : Nat → Nat → Prop} {n b i m : Nat} (h : AhM Ah n b i m) (q : ¬ Ah i b) : AhM Ah n b (i + 1) m := by
  refine ⟨h.1, fun a => ?_⟩
  rw [h.2 a]
  constructor
  · rintro ⟨h1, h2⟩; exact ⟨by omega, h2⟩
  · rintro ⟨h1, h2⟩
    by_cases e : a = i
    · subst e; exact absurd h2 q
    · exact ⟨by omega, h2⟩
theorem CG.fr {M M' : Mm} {k0 n td : Nat} {w h x y : Nat → Nat} (c : CG M k0 n td w h x y) {S : Nat → Prop} (hf : Fr S M M') (hs : ∀ k, S k → k < k0 ∨ k0 + 4 < k) : CG M' k0 n td w h x y := by
  have q : ∀ k, k0 ≤ k → k ≤ k0 + 4 → M'.1 k = M.1 k := fun k h1 h2 => hf.1 k (fun h => by have := hs k h; omega)
  exact ⟨by rw [q _ (by omega) (by omega)]; exact c.n, by rw [q _ (by omega) (by omega)]; exact c.td, c.x.eq (q _ (by omega) (by omega)), c.y.eq (q _ (by omega) (by omega)), c.w.eq (q _ (by omega) (by omega)), c.h.eq (q _ (by omega) (by omega))⟩
theorem na1_s {M : Mm} {k0 k1 n td a b s : Nat} {w h x y : Nat → Nat} (g : GB n td w h x y) (c : CG M k1 n td w h x y) (h5 : M.1 k0 5 = nI n) (ha : a < n) (hb : b < n) (e : M.1 (k0 + 5) b = nI s) :
    (Ah1 x y (swd w h td) (swd h w td) a b → f_X4_noteAheadInOne_L19 k0 k1 (nI b) (nI a) M = some (.inl (nI (a + 1), wi M (k0 + 5) b (nI (s ||| 2 ^ a))))) ∧ (¬ Ah1 x y (swd w h td) (swd h w td) a b → f_X4_noteAheadInOne_L19 k0 k1 (nI b) (nI a) M = some (.inl (nI (a + 1), M))) := by
  have hn := g.n
  unfold f_X4_noteAheadInOne_L19 f_X4_noteAheadInOne_J45 f_X4_noteAheadInOne_J50 f_X4_noteAheadInOne_J87 Ah1
  rw [h5, if_neg (by rw [pz_le (by omega) (by omega)]; omega), il_ok c.x c.w hn ha hb g.x (fun b hb => g.sw hb), il_ok c.x c.w hn hb ha g.x (fun b hb => g.sw hb), ib_ok c.y c.h hn ha hb g.y (fun b hb => g.sh hb), ib_ok c.y c.h hn hb ha g.y (fun b hb => g.sh hb)]
  have e1 : ¬ nI 1 = nI 0 := by decide
  by_cases p1 : x a + swd w h td a ≤ x b <;> by_cases p2 : y b + swd h w td b ≤ y a <;> by_cases p3 : y a + swd h w td a ≤ y b <;> by_cases p4 : x b + swd w h td b ≤ x a <;> simp (disch := omega) only [pz_bd, pz_0, pz_1, pz_d0, p1, p2, p3, p4, e1, pz_lt1, pz_rd, pz_wr, e, pz_shl, pz_or, pz_add, not_true_eq_false, not_false_eq_true, if_true, if_false, true_or, or_true, or_false, false_or, true_and, and_true, false_and, and_false, or_self, and_self, false_implies, true_implies, implies_true]
theorem na2_s {M : Mm} {k0 k1 n td a b s : Nat} {w h x y : Nat → Nat} (g : GB n td w h x y) (c : CG M k1 n td w h x y) (h5 : M.1 k0 5 = nI n) (ha : a < n) (hb : b < n) (e : M.1 (k0 + 5) b = nI s) :
    (Ah2 x y (swd w h td) (swd h w td) a b → f_X4_noteAheadInTwo_L19 k0 k1 (nI b) (nI a) M = some (.inl (nI (a + 1), wi M (k0 + 5) b (nI (s ||| 2 ^ a))))) ∧ (¬ Ah2 x y (swd w h td) (swd h w td) a b → f_X4_noteAheadInTwo_L19 k0 k1 (nI b) (nI a) M = some (.inl (nI (a + 1), M))) := by
  have hn := g.n
  unfold f_X4_noteAheadInTwo_L19 f_X4_noteAheadInTwo_J45 f_X4_noteAheadInTwo_J50 f_X4_noteAheadInTwo_J87 Ah2
  rw [h5, if_neg (by rw [pz_le (by omega) (by omega)]; omega), il_ok c.x c.w hn ha hb g.x (fun b hb => g.sw hb), il_ok c.x c.w hn hb ha g.x (fun b hb => g.sw hb), ib_ok c.y c.h hn ha hb g.y (fun b hb => g.sh hb), ib_ok c.y c.h hn hb ha g.y (fun b hb => g.sh hb)]
  have e1 : ¬ nI 1 = nI 0 := by decide
  by_cases p1 : x a + swd w h td a ≤ x b <;> by_cases p2 : y b + swd h w td b ≤ y a <;> by_cases p3 : y a + swd h w td a ≤ y b <;> by_cases p4 : x b + swd w h td b ≤ x a <;> simp (disch := omega) only [pz_bd, pz_0, pz_1, pz_d0, p1, p2, p3, p4, e1, pz_lt1, pz_rd, pz_wr, e, pz_shl, pz_or, pz_add, not_true_eq_false, not_false_eq_true, if_true, if_false, true_or, or_true, or_false, false_or, true_and, and_true, false_and, and_false, or_self, and_self, false_implies, true_implies, implies_true]
theorem ra1_s {M : Mm} {n td a b : Nat} {w h x y : Nat → Nat} (g : GB n td w h x y) (c : RG M n td w h x y) (ha : a < n) (hb : b < n) :
    (Ah1 x y (swd w h td) (swd h w td) a b → f_X10_ahead (nI a) (nI b) (nI 1) M = some (nI 1)) ∧ (¬ Ah1 x y (swd w h td) (swd h w td) a b → f_X10_ahead (nI a) (nI b) (nI 1) M = some (nI 0)) := by
  unfold f_X10_ahead f_X10_ahead_J22 Ah1
  rw [rl_ok g c ha hb, rl_ok g c hb ha, rb_ok g c ha hb, rb_ok g c hb ha]
  have e1 : ¬ nI 1 = nI 0 := by decide
  by_cases p1 : x a + swd w h td a ≤ x b <;> by_cases p2 : y b + swd h w td b ≤ y a <;> by_cases p3 : y a + swd h w td a ≤ y b <;> by_cases p4 : x b + swd w h td b ≤ x a <;> simp (disch := omega) only [pz_bd, pz_0, pz_1, pz_d0, p1, p2, p3, p4, e1, not_true_eq_false, not_false_eq_true, if_true, if_false, true_or, or_true, or_false, false_or, true_and, and_true, false_and, and_false, or_self, and_self, false_implies, true_implies, implies_true]
theorem ra2_s {M : Mm} {n td a b : Nat} {w h x y : Nat → Nat} (g : GB n td w h x y) (c : RG M n td w h x y) (ha : a < n) (hb : b < n) :
    (Ah2 x y (swd w h td) (swd h w td) a b → f_X10_ahead (nI a) (nI b) (nI 0) M = some (nI 1)) ∧ (¬ Ah2 x y (swd w h td) (swd h w td) a b → f_X10_ahead (nI a) (nI b) (nI 0) M = some (nI 0)) := by
  unfold f_X10_ahead f_X10_ahead_J64 Ah2
  rw [rl_ok g c ha hb, rl_ok g c hb ha, rb_ok g c ha hb, rb_ok g c hb ha]
  have e1 : ¬ nI 1 = nI 0 := by decide
  by_cases p1 : x a + swd w h td a ≤ x b <;> by_cases p2 : y b + swd h w td b ≤ y a <;> by_cases p3 : y a + swd h w td a ≤ y b <;> by_cases p4 : x b + swd w h td b ≤ x a <;> simp (disch := omega) only [pz_bd, pz_0, pz_1, pz_d0, p1, p2, p3, p4, e1, not_true_eq_false, not_false_eq_true, if_true, if_false, true_or, or_true, or_false, false_or, true_and, and_true, false_and, and_false, or_self, and_self, false_implies, true_implies, implies_true]
