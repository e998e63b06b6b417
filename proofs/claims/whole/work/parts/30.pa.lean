/-! PURE SIDE: numbers, bits, arrays, loops -/
theorem pz_0 : (0 : Int32) = nI 0 := Int32.toInt_inj.mp (by decide)
theorem pz_1 : (1 : Int32) = nI 1 := Int32.toInt_inj.mp (by decide)
theorem pz_2 : (2 : Int32) = nI 2 := Int32.toInt_inj.mp (by decide)
theorem pz_3 : (3 : Int32) = nI 3 := Int32.toInt_inj.mp (by decide)
theorem pz_4 : (4 : Int32) = nI 4 := Int32.toInt_inj.mp (by decide)
theorem pz_7 : (7 : Int32) = nI 7 := Int32.toInt_inj.mp (by decide)
theorem pz_10 : (10 : Int32) = nI 10 := Int32.toInt_inj.mp (by decide)
theorem pz_11 : (11 : Int32) = nI 11 := Int32.toInt_inj.mp (by decide)
theorem pz_12 : (12 : Int32) = nI 12 := Int32.toInt_inj.mp (by decide)
theorem pz_13 : (13 : Int32) = nI 13 := Int32.toInt_inj.mp (by decide)
theorem pz_15 : (15 : Int32) = nI 15 := Int32.toInt_inj.mp (by decide)
theorem pz_16 : (16 : Int32) = nI 16 := Int32.toInt_inj.mp (by decide)
theorem pz_20 : (20 : Int32) = nI 20 := Int32.toInt_inj.mp (by decide)
theorem pz_23 : (23 : Int32) = nI 23 := Int32.toInt_inj.mp (by decide)
theorem pz_24 : (24 : Int32) = nI 24 := Int32.toInt_inj.mp (by decide)
theorem pz_26 : (26 : Int32) = nI 26 := Int32.toInt_inj.mp (by decide)
theorem pz_60 : (60 : Int32) = nI 60 := Int32.toInt_inj.mp (by decide)
theorem pz_100 : (100 : Int32) = nI 100 := Int32.toInt_inj.mp (by decide)
theorem pz_200 : (200 : Int32) = nI 200 := Int32.toInt_inj.mp (by decide)
def m1 : Int32 := -1
theorem pz_n1 : (-1 : Int32) = m1 := Int32.toInt_inj.mp (by decide)
theorem pz_add (a b : Nat) : nI a + nI b = nI (a + b) := nI_add a b
theorem pz_mul (a b : Nat) : nI a * nI b = nI (a * b) := (Int32.ofNat_mul a b).symm
theorem pz_sub {a b : Nat} (h : b ≤ a) : nI a - nI b = nI (a - b) := by
  have : a = (a - b) + b := by omega
  rw [this, ← pz_add]
  simp
theorem pz_le {a b : Nat} (ha : a < 2147483648) (hb : b < 2147483648) : (nI a ≤ nI b) = (a ≤ b) := propext (nI_leI ha hb)
theorem pz_lt {a b : Nat} (ha : a < 2147483648) (hb : b < 2147483648) : (nI a < nI b) = (a < b) := propext (nI_ltI ha hb)
theorem pz_eq {a b : Nat} (ha : a < 2147483648) (hb : b < 2147483648) : (nI a = nI b) = (a = b) := propext (nI_eq ha hb)
theorem pz_eq0 {a : Nat} (ha : a < 2147483648) : (nI a = 0) = (a = 0) := propext (nI_eq (b := 0) ha (by decide))
theorem pz_lt0 {a : Nat} (ha : a < 2147483648) : (nI a < 0) = False := by
  rw [pz_0, pz_lt ha (by omega)]; simp
theorem pz_le0 {a : Nat} (ha : a < 2147483648) : (0 ≤ nI a) = True := by
  rw [pz_0, pz_le (by omega) ha]; simp
theorem pz_m1 {a : Nat} (ha : a < 2147483648) : (nI a = -1) = False := by
  apply propext; constructor
  · intro h
    have := congrArg Int32.toInt h
    rw [nI_toInt ha] at this
    have e : (-1 : Int32).toInt = -1 := rfl
    omega
  · exact False.elim
theorem pz_mm {a : Nat} (ha : a < 2147483648) : (nI a = m1) = False := pz_m1 ha
theorem pz_mm' : (m1 = m1) = True := eq_self m1
theorem pz_max {a b : Nat} (ha : a < 2147483648) (hb : b < 2147483648) : jmax (nI a) (nI b) = nI (max a b) := by
  unfold jmax
  simp only [pz_lt ha hb]
  split <;> congr 1 <;> omega
theorem pz_min {a b : Nat} (ha : a < 2147483648) (hb : b < 2147483648) : jmin (nI a) (nI b) = nI (min a b) := by
  unfold jmin
  simp only [pz_lt hb ha]
  split <;> congr 1 <;> omega
theorem pz_cl {a : Nat} (ha : a < 2147483648) : (nI a).toNatClampNeg = a := nI_clamp ha
theorem pz_rd {α : Type} {n : Nat} {M : Mm} {k i : Nat} {f : Int32 → Option α} (hi : i < n) (hn : n < 2147483648) : rdI n M k (nI i) f = f (M.1 k i) := by
  unfold rdI
  rw [if_pos (nI_in hi hn), pz_cl (by omega)]
theorem pz_rdL {α : Type} {n : Nat} {M : Mm} {k i : Nat} {f : Int64 → Option α} (hi : i < n) (hn : n < 2147483648) : rdL n M k (nI i) f = f (M.2 k i) := by
  unfold rdL
  rw [if_pos (nI_in hi hn), pz_cl (by omega)]
theorem pz_wr {α : Type} {n : Nat} {M : Mm} {k i : Nat} {v : Int32} {f : Mm → Option α} (hi : i < n) (hn : n < 2147483648) : wrI n M k (nI i) v f = f (wi M k i v) := by
  unfold wrI
  rw [if_pos (nI_in hi hn), pz_cl (by omega)]
theorem pz_wrL {α : Type} {n : Nat} {M : Mm} {k i : Nat} {v : Int64} {f : Mm → Option α} (hi : i < n) (hn : n < 2147483648) : wrL n M k (nI i) v f = f (wl M k i v) := by
  unfold wrL
  rw [if_pos (nI_in hi hn), pz_cl (by omega)]
theorem pz_rdS {α : Type} {L : List Int64} {i : Nat} {f : Int64 → Option α} (hi : i < L.length) (hn : L.length < 2147483648) : rdS L (nI i) f = f (L.getD i 0) := by
  unfold rdS
  rw [if_pos (nI_in hi hn), pz_cl (by omega)]
theorem pz_in {i n : Nat} (hi : i < n) (hn : n < 2147483648) : (¬ (nI i < 0 ∨ n ≤ (nI i).toNatClampNeg)) = True := by
  apply propext; constructor
  · intro _; trivial
  · intro _; exact nI_in hi hn
theorem pz_lt1 {α β : Type} (x : α) (f : α → β) : lt1 x f = f x := rfl
theorem pz_bd {α β : Type} (x : α) (f : α → Option β) : (some x).bind f = f x := rfl
theorem pz_bd2 {α β γ : Type} (x : α) (y : β) (f : α → β → Option γ) : bd2 (some (x, y)) f = f x y := rfl
theorem pz_gd {α : Type} {c : Prop} [Decidable c] {x : Option α} (h : c) : gd (decide c) x = x := by unfold gd; rw [decide_eq_true h]; rfl
theorem pz_tn {α β : Type} (t : β) (f : α → β) : tr1 (none : Option α) t f = t := rfl
theorem pz_ts {α β : Type} (a : α) (t : β) (f : α → β) : tr1 (some a) t f = f a := rfl
/-- any int that is a number below n -/
theorem pz_of {x : Int32} {n : Nat} (h0 : ¬ x < 0) (h : ¬ nI n ≤ x) (hn : n < 2147483648) : ∃ b, b < n ∧ x = nI b := by
  obtain ⟨j, hj, rfl⟩ := nI_of h0
  rw [pz_le hn hj] at h
  exact ⟨j, by omega, rfl⟩
/-! bits -/
def bt (x : Int32) (i : Nat) : Bool := x.toBitVec.getLsbD i
theorem b_ext {x y : Int32} (h : ∀ i, i < 32 → bt x i = bt y i) : x = y := Int32.toBitVec_inj.mp (BitVec.eq_of_getLsbD_eq (fun i hi => h i hi))
theorem b_or (x y : Int32) (i : Nat) : bt (x ||| y) i = (bt x i || bt y i) := by unfold bt; rw [Int32.toBitVec_or, BitVec.getLsbD_or]
theorem b_and (x y : Int32) (i : Nat) : bt (x &&& y) i = (bt x i && bt y i) := by unfold bt; rw [Int32.toBitVec_and, BitVec.getLsbD_and]
theorem b_xor (x y : Int32) (i : Nat) : bt (x ^^^ y) i = (bt x i ^^ bt y i) := by unfold bt; rw [Int32.toBitVec_xor, BitVec.getLsbD_xor]
theorem b_m1 : ∀ i, i < 32 → bt (-1) i = true := by decide +kernel
theorem s_l : ∀ n, n < 32 → ((nI n &&& 31).toBitVec.smod 32).toNat = n := by decide +kernel
theorem b_shl (n : Nat) (hn : n < 32) (x : Int32) {i : Nat} (hi : i < 32) : bt (x <<< (nI n &&& 31)) i = (decide (n ≤ i) && bt x (i - n)) := by
  unfold bt
  rw [Int32.toBitVec_shiftLeft]
  show (x.toBitVec <<< ((nI n &&& 31).toBitVec.smod 32).toNat).getLsbD i = _
  rw [s_l n hn, BitVec.getLsbD_shiftLeft]
  rcases Nat.lt_or_ge i n with h | h
  · simp [h, Nat.not_le.mpr h]
  · simp [hi, h, Nat.not_lt.mpr h]
theorem b_sshr (n : Nat) (hn : n < 32) (x : Int32) {i : Nat} (hi : i < 32) : bt (x >>> (nI n &&& 31)) i = if n + i < 32 then bt x (n + i) else bt x 31 := by
  unfold bt
  rw [Int32.toBitVec_shiftRight]
  show (x.toBitVec.sshiftRight ((nI n &&& 31).toBitVec.smod 32).toNat).getLsbD i = _
  rw [s_l n hn, BitVec.getLsbD_sshiftRight, BitVec.msb_eq_getLsbD_last]
  simp [hi]
theorem bt_nI (a i : Nat) (hi : i < 32) : bt (nI a) i = a.testBit i := by
  show (BitVec.ofNat 32 a).getLsbD i = _
  rw [BitVec.getLsbD_ofNat]
  simp [hi]
theorem pz_and (a b : Nat) : nI a &&& nI b = nI (a &&& b) := by
  apply b_ext; intro i hi
  rw [b_and, bt_nI _ _ hi, bt_nI _ _ hi, bt_nI _ _ hi, Nat.testBit_and]
theorem pz_or (a b : Nat) : nI a ||| nI b = nI (a ||| b) := by
  apply b_ext; intro i hi
  rw [b_or, bt_nI _ _ hi, bt_nI _ _ hi, bt_nI _ _ hi, Nat.testBit_or]
theorem tb_lt {a n i : Nat} (h : a < 2 ^ n) (hi : n ≤ i) : a.testBit i = false := Nat.testBit_lt_two_pow (Nat.lt_of_lt_of_le h (Nat.pow_le_pow_right (by decide) hi))
theorem pz_bit {a b : Nat} (ha : a < 2147483648) (hb : b < 31) : f_X9_bitOf (nI a) (nI b) = nI (a.testBit b).toNat := by
  unfold f_X9_bitOf
  have h31 : a.testBit 31 = false := Nat.testBit_lt_two_pow ha
  apply b_ext; intro i hi
  rw [b_and, b_sshr b (by omega) _ hi, bt_nI _ 31 (by omega), pz_1, bt_nI _ _ hi, bt_nI _ _ hi]
  by_cases h0 : i = 0
  · subst h0
    rw [if_pos (by omega), bt_nI _ _ (by omega)]
    cases a.testBit (b + 0) <;> simp_all
  · have e1 : Nat.testBit 1 i = false := Nat.testBit_lt_two_pow (show 1 < 2 ^ i from Nat.one_lt_two_pow h0)
    have e2 : (a.testBit b).toNat.testBit i = false := by
      cases a.testBit b
      · simp
      · exact e1
    rw [e1, e2, Bool.and_false]
theorem pz_shl1 {b : Nat} (hb : b < 31) : (1 : Int32) <<< (nI b &&& 31) = nI (2 ^ b) := by
  apply b_ext; intro i hi
  rw [b_shl b (by omega) _ hi, pz_1, bt_nI _ _ (by omega), bt_nI _ _ hi, Nat.testBit_two_pow]
  by_cases h : b = i
  · subst h; simp
  · by_cases h2 : b ≤ i
    · have : Nat.testBit 1 (i - b) = false := Nat.testBit_lt_two_pow (show 1 < 2 ^ (i - b) from Nat.one_lt_two_pow (by omega))
      simp [this, h]
    · simp [h, h2]
/-- a without the bits of m -/
def clr (a m : Nat) : Nat := a ^^^ (a &&& m)
theorem clr_bit (a m i : Nat) : (clr a m).testBit i = (a.testBit i && !m.testBit i) := by
  unfold clr
  rw [Nat.testBit_xor, Nat.testBit_and]
  cases a.testBit i <;> cases m.testBit i <;> rfl
theorem pz_clr (a m : Nat) : nI a &&& (nI m ^^^ m1) = nI (clr a m) := by
  unfold m1
  apply b_ext; intro i hi
  rw [b_and, b_xor, bt_nI _ _ hi, bt_nI _ _ hi, bt_nI _ _ hi, b_m1 i hi, clr_bit]
  cases m.testBit i <;> rfl
theorem lt_of_bits {a n : Nat} (h : ∀ i, n ≤ i → a.testBit i = false) : a < 2 ^ n := by
  refine Nat.lt_pow_two_of_testBit a ?_
  exact h
theorem clr_lt {a m n : Nat} (h : a < 2 ^ n) : clr a m < 2 ^ n := lt_of_bits fun i hi => by rw [clr_bit, tb_lt h hi]; rfl
theorem and_lt {a m n : Nat} (h : a < 2 ^ n) : a &&& m < 2 ^ n := lt_of_bits fun i hi => by rw [Nat.testBit_and, tb_lt h hi]; rfl
theorem and_lt' {a m n : Nat} (h : m < 2 ^ n) : a &&& m < 2 ^ n := lt_of_bits fun i hi => by rw [Nat.testBit_and, tb_lt h hi]; simp
theorem or_lt {a m n : Nat} (h : a < 2 ^ n) (h2 : m < 2 ^ n) : a ||| m < 2 ^ n := lt_of_bits fun i hi => by rw [Nat.testBit_or, tb_lt h hi, tb_lt h2 hi]; rfl
theorem pow_lt31 {n : Nat} (h : n ≤ 12) : 2 ^ n ≤ 4096 := Nat.pow_le_pow_right (n := 2) (by decide) h
theorem bits_ext {a b n : Nat} (ha : a < 2 ^ n) (hb : b < 2 ^ n) (h : ∀ i, i < n → a.testBit i = b.testBit i) : a = b := by
  apply Nat.eq_of_testBit_eq
  intro i
  rcases Nat.lt_or_ge i n with hi | hi
  · exact h i hi
  · rw [tb_lt ha hi, tb_lt hb hi]
/-! loops -/
theorem lp_n {V X : Type} {step : V → Option (V ⊕ X)} (st : Nat → V) (n : Nat) {x : X} (hn : n < FU) (h : ∀ i, i < n → step (st i) = some (.inl (st (i + 1)))) (hx : step (st n) = some (.inr x)) : loop step FU (st 0) = some x := by
  have key : ∀ m i, i + m = n → ∀ f, m < f → loop step f (st i) = some x := by
    intro m
    induction m with
    | zero =>
      intro i hi f hf
      obtain ⟨f, rfl⟩ : ∃ g, f = g + 1 := ⟨f - 1, by omega⟩
      have : i = n := by omega
      subst this
      simp only [loop, hx]
    | succ m ih =>
      intro i hi f hf
      obtain ⟨f, rfl⟩ : ∃ g, f = g + 1 := ⟨f - 1, by omega⟩
      simp only [loop, h i (by omega)]
      exact ih (i + 1) (by omega) f (by omega)
  exact key n 0 (by omega) FU hn
def Wp {α : Type} (x : Option α) (Q : α → Prop) : Prop := ∃ a, x = some a ∧ Q a
theorem wp_s {α : Type} {a : α} {Q : α → Prop} (h : Q a) : Wp (some a) Q := ⟨a, rfl, h⟩
theorem wp_e {α : Type} {x : Option α} {a : α} {Q : α → Prop} (e : x = some a) (h : Q a) : Wp x Q := ⟨a, e, h⟩
theorem wp_b {α β : Type} {x : Option α} {f : α → Option β} {Q : β → Prop} {P : α → Prop} (h : Wp x P) (h2 : ∀ a, P a → Wp (f a) Q) : Wp (x.bind f) Q := by
  obtain ⟨a, rfl, ha⟩ := h
  exact h2 a ha
theorem wp_b2 {α β γ : Type} {x : Option (α × β)} {f : α → β → Option γ} {Q : γ → Prop} {P : α × β → Prop} (h : Wp x P) (h2 : ∀ a b, P (a, b) → Wp (f a b) Q) : Wp (bd2 x f) Q := by
  obtain ⟨a, rfl, ha⟩ := h
  exact h2 a.1 a.2 ha
theorem wp_m {α : Type} {x : Option α} {P Q : α → Prop} (h : Wp x P) (h2 : ∀ a, P a → Q a) : Wp x Q := by
  obtain ⟨a, rfl, ha⟩ := h
  exact ⟨a, rfl, h2 a ha⟩
/-- a loop by an invariant that counts its turns; it may leave at any turn -/
theorem wp_l {V X : Type} {step : V → Option (V ⊕ X)} {Q : X → Prop} (I : Nat → V → Prop) (n : Nat) (hn : n < FU)
    (h : ∀ i v, i < n → I i v → Wp (step v) (fun r => (∃ w, r = .inl w ∧ I (i + 1) w) ∨ ∃ x, r = .inr x ∧ Q x)) (hx : ∀ v, I n v → Wp (step v) (fun r => ∃ x, r = .inr x ∧ Q x)) {v : V} (h0 : I 0 v) : Wp (loop step FU v) Q := by
  have key : ∀ m i v, i + m = n → I i v → ∀ f, m < f → Wp (loop step f v) Q := by
    intro m
    induction m with
    | zero =>
      intro i v hi hI f hf
      obtain ⟨f, rfl⟩ : ∃ g, f = g + 1 := ⟨f - 1, by omega⟩
      have : i = n := by omega
      subst this
      obtain ⟨r, e, x, rfl, hq⟩ := hx v hI
      simp only [loop, e]
      exact wp_s hq
    | succ m ih =>
      intro i v hi hI f hf
      obtain ⟨f, rfl⟩ : ∃ g, f = g + 1 := ⟨f - 1, by omega⟩
      obtain ⟨r, e, hr⟩ := h i v (by omega) hI
      rcases hr with ⟨w, rfl, hw⟩ | ⟨x, rfl, hq⟩
      · simp only [loop, e]
        exact ih (i + 1) w (by omega) hw f (by omega)
      · simp only [loop, e]
        exact wp_s hq
  exact key n 0 v (by omega) h0 FU hn
/-- .. by a measure that falls -/
theorem wp_f {V X : Type} {step : V → Option (V ⊕ X)} {Q : X → Prop} (I : V → Prop) (m : V → Nat) (h : ∀ v, I v → Wp (step v) (fun r => (∃ w, r = .inl w ∧ I w ∧ m w < m v) ∨ ∃ x, r = .inr x ∧ Q x)) {v : V} (h0 : I v) (hm : m v < FU) : Wp (loop step FU v) Q := by
  have key : ∀ f v, I v → m v < f → Wp (loop step f v) Q := by
    intro f
    induction f with
    | zero => intro v _ h; omega
    | succ f ih =>
      intro v hI hf
      obtain ⟨r, e, hr⟩ := h v hI
      rcases hr with ⟨w, rfl, hw, hlt⟩ | ⟨x, rfl, hq⟩
      · simp only [loop, e]
        exact ih w hw (by omega)
      · simp only [loop, e]
        exact wp_s hq
  exact key FU v h0 hm
theorem fu_lt {n : Nat} (h : n < 1000000) : n < FU := by unfold FU; omega
/-! arrays of a memory -/
def IA (M : Mm) (k n : Nat) (a : Nat → Nat) : Prop := ∀ j, j < n → M.1 k j = nI (a j)
theorem IA.at {M : Mm} {k n : Nat} {a : Nat → Nat} (h : IA M k n a) {j : Nat} (hj : j < n) : M.1 k j = nI (a j) := h j hj
theorem IA.eq {M M' : Mm} {k n : Nat} {a : Nat → Nat} (h : IA M k n a) (e : M'.1 k = M.1 k) : IA M' k n a := fun j hj => by rw [e]; exact h j hj
theorem IA.cg {M : Mm} {k n : Nat} {a b : Nat → Nat} (h : IA M k n a) (e : ∀ j, j < n → a j = b j) : IA M k n b := fun j hj => by rw [h j hj, e j hj]
theorem wi_at (M : Mm) (k i : Nat) (v : Int32) (j : Nat) : (wi M k i v).1 k j = if j = i then v else M.1 k j := by rw [wi_k]; rfl
theorem wi_1 (M : Mm) (k i : Nat) (v : Int32) (k' j : Nat) : (wi M k i v).1 k' j = if k' = k ∧ j = i then v else M.1 k' j := by
  by_cases h : k' = k
  · subst h; rw [wi_at]; simp
  · rw [wi_n M i v h]; simp [h]
/-- only cells of S are written -/
def Fr (S : Nat → Prop) (M M' : Mm) : Prop := (∀ k, ¬ S k → M'.1 k = M.1 k) ∧ (∀ k, ¬ S k → M'.2 k = M.2 k)
theorem Fr.rf {S : Nat → Prop} {M : Mm} : Fr S M M := ⟨fun _ _ => rfl, fun _ _ => rfl⟩
theorem Fr.tr {S : Nat → Prop} {M M' M'' : Mm} (h : Fr S M M') (h2 : Fr S M' M'') : Fr S M M'' := ⟨fun k hk => (h2.1 k hk).trans (h.1 k hk), fun k hk => (h2.2 k hk).trans (h.2 k hk)⟩
theorem Fr.w {S : Nat → Prop} {M M' : Mm} (h : Fr S M M') {k i : Nat} {v : Int32} (hk : S k) : Fr S M (wi M' k i v) := ⟨fun j hj => by rw [wi_n M' i v (show j ≠ k from fun e => hj (by rw [e]; exact hk))]; exact h.1 j hj, h.2⟩
theorem Fr.l {S : Nat → Prop} {M M' : Mm} (h : Fr S M M') {k i : Nat} {v : Int64} (hk : S k) : Fr S M (wl M' k i v) := ⟨h.1, fun j hj => by rw [wl_n M' i v (show j ≠ k from fun e => hj (by rw [e]; exact hk))]; exact h.2 j hj⟩
theorem Fr.mono {S T : Nat → Prop} {M M' : Mm} (h : Fr S M M') (hs : ∀ k, S k → T k) : Fr T M M' := ⟨fun k hk => h.1 k (fun hh => hk (hs k hh)), fun k hk => h.2 k (fun hh => hk (hs k hh))⟩
theorem IA.fr {S : Nat → Prop} {M M' : Mm} {k n : Nat} {a : Nat → Nat} (h : IA M k n a) (hf : Fr S M M') (hk : ¬ S k) : IA M' k n a := h.eq (hf.1 k hk)
theorem IA.w {M : Mm} {k n i x : Nat} {a : Nat → Nat} (h : IA M k n a) : IA (wi M k i (nI x)) k n (fun j => if j = i then x else a j) := fun j hj => by
  rw [wi_at]
  by_cases e : j = i
  · simp [e]
  · simp [e]; exact h j hj
theorem IA.wn {M : Mm} {k k' n i : Nat} {v : Int32} {a : Nat → Nat} (h : IA M k n a) (hk : k ≠ k') : IA (wi M k' i v) k n a := fun j hj => by rw [wi_n M i v hk]; exact h j hj
/-- the greatest of f below n, 0 if there is none -/
def mxn (f : Nat → Nat) : Nat → Nat
  | 0 => 0
  | n + 1 => max (mxn f n) (f n)
theorem mxn_le {f : Nat → Nat} {B : Nat} : ∀ {n : Nat}, (∀ i, i < n → f i ≤ B) → mxn f n ≤ B
  | 0, _ => Nat.zero_le _
  | n + 1, h => Nat.max_le.mpr ⟨mxn_le (fun i hi => h i (by omega)), h n (by omega)⟩
theorem mxn_ge {f : Nat → Nat} : ∀ {n i : Nat}, i < n → f i ≤ mxn f n
  | n + 1, i, h => by
    show f i ≤ max (mxn f n) (f n)
    by_cases e : i = n
    · subst e; omega
    · have := mxn_ge (f := f) (show i < n by omega); omega
theorem mxn_cg {f g : Nat → Nat} : ∀ {n : Nat}, (∀ i, i < n → f i = g i) → mxn f n = mxn g n
  | 0, _ => rfl
  | n + 1, h => by show max (mxn f n) (f n) = max (mxn g n) (g n); rw [mxn_cg (fun i hi => h i (by omega)), h n (by omega)]
def smn (f : Nat → Nat) : Nat → Nat
  | 0 => 0
  | n + 1 => smn f n + f n
theorem smn_le {f : Nat → Nat} {B : Nat} : ∀ {n : Nat}, (∀ i, i < n → f i ≤ B) → smn f n ≤ n * B
  | 0, _ => Nat.zero_le _
  | n + 1, h => by
    have h1 := smn_le (fun i hi => h i (show i < n + 1 by omega)) (n := n)
    have h2 := h n (by omega)
    show smn f n + f n ≤ (n + 1) * B
    rw [Nat.succ_mul]; omega
theorem smn_cg {f g : Nat → Nat} : ∀ {n : Nat}, (∀ i, i < n → f i = g i) → smn f n = smn g n
  | 0, _ => rfl
  | n + 1, h => by show smn f n + f n = smn g n + g n; rw [smn_cg (fun i hi => h i (by omega)), h n (by omega)]
