/-! the next order -/
def tlF (a : Nat → Nat) : Nat → Nat
  | 0 => 0
  | s + 1 => if a s ≤ a (s + 1) then s + 1 else tlF a s
def otF (a : Nat → Nat) (t : Nat) : Nat → Nat
  | 0 => 0
  | s + 1 => if s + 1 ≤ t then s + 1 else if a (t - 1) ≤ a (s + 1) then s + 1 else otF a t s
def rvF : Nat → (Nat → Nat) → Nat → Nat → (Nat → Nat)
  | 0, a, _, _ => a
  | f + 1, a, i, l => if l ≤ i then a else rvF f (exS a i l) (i + 1) (l - 1)
def nxF (n : Nat) (a : Nat → Nat) : Nat → Nat := rvF n (if tlF a (n - 1) = 0 then a else exS a (tlF a (n - 1) - 1) (otF a (tlF a (n - 1)) (n - 1))) (tlF a (n - 1)) (n - 1)
theorem tl_p (a : Nat → Nat) : ∀ s, tlF a s ≤ s ∧ (tlF a s ≠ 0 → a (tlF a s - 1) ≤ a (tlF a s))
  | 0 => ⟨Nat.le_refl _, fun h => absurd rfl h⟩
  | s + 1 => by
    have ih := tl_p a s
    show (if a s ≤ a (s + 1) then s + 1 else tlF a s) ≤ s + 1 ∧ ((if a s ≤ a (s + 1) then s + 1 else tlF a s) ≠ 0 → a ((if a s ≤ a (s + 1) then s + 1 else tlF a s) - 1) ≤ a (if a s ≤ a (s + 1) then s + 1 else tlF a s))
    by_cases q : a s ≤ a (s + 1)
    · rw [if_pos q]; exact ⟨Nat.le_refl _, fun _ => q⟩
    · rw [if_neg q]; exact ⟨by omega, ih.2⟩
theorem ot_p (a : Nat → Nat) (t : Nat) : ∀ s, t ≤ s → t ≤ otF a t s ∧ otF a t s ≤ s
  | 0, h => ⟨by show t ≤ 0; omega, Nat.le_refl _⟩
  | s + 1, h => by
    show t ≤ (if s + 1 ≤ t then s + 1 else if a (t - 1) ≤ a (s + 1) then s + 1 else otF a t s) ∧ (if s + 1 ≤ t then s + 1 else if a (t - 1) ≤ a (s + 1) then s + 1 else otF a t s) ≤ s + 1
    by_cases q : s + 1 ≤ t
    · rw [if_pos q]; omega
    · rw [if_neg q]
      split
      · omega
      · have := ot_p a t s (by omega); omega
theorem tl_lp {M : Mm} {k1 n : Nat} {a : Nat → Nat} (hn : n ≤ 12) (e : IA M k1 n a) (ha : ∀ i, i < n → a i < 12) : ∀ s f, s < n → s < f → loop (fun v => f_X7_nextOrder_L7 k1 M v) f (nI s) = some (nI (tlF a s))
  | 0, f, _, hf => by
    obtain ⟨f, rfl⟩ : ∃ g, f = g + 1 := ⟨f - 1, by omega⟩
    have st : f_X7_nextOrder_L7 k1 M (nI 0) = some (.inr (nI 0)) := by
      unfold f_X7_nextOrder_L7
      rw [pz_0, if_pos (by decide)]
    simp only [loop, st]
    rfl
  | s + 1, f, hs, hf => by
    obtain ⟨f, rfl⟩ : ∃ g, f = g + 1 := ⟨f - 1, by omega⟩
    have a1 := ha s (by omega)
    have a2 := ha (s + 1) hs
    have st : f_X7_nextOrder_L7 k1 M (nI (s + 1)) = if a s ≤ a (s + 1) then some (.inr (nI (s + 1))) else some (.inl (nI s)) := by
      unfold f_X7_nextOrder_L7
      rw [pz_0, if_neg (by rw [pz_le (by omega) (by omega)]; omega), pz_1, pz_sub (by omega), show s + 1 - 1 = s by omega, pz_rd (by omega) (by omega), e s (by omega), pz_rd (by omega) (by omega), e (s + 1) hs, pz_lt1]
      rw [show nI (s + 1) + -nI 1 = nI s from (by rw [show (-nI 1 : Int32) = m1 from by decide, pz_dec (by omega)]; rfl)]
      simp only [pz_le (show a s < 2147483648 by omega) (show a (s + 1) < 2147483648 by omega)]
    by_cases q : a s ≤ a (s + 1)
    · rw [if_pos q] at st
      simp only [loop, st]
      show _ = some (nI (if a s ≤ a (s + 1) then s + 1 else tlF a s))
      rw [if_pos q]
    · rw [if_neg q] at st
      simp only [loop, st]
      show _ = some (nI (if a s ≤ a (s + 1) then s + 1 else tlF a s))
      rw [if_neg q]
      exact tl_lp hn e ha s f (by omega) (by omega)
theorem ot_lp {M : Mm} {k1 n t : Nat} {a : Nat → Nat} (hn : n ≤ 12) (e : IA M k1 n a) (ha : ∀ i, i < n → a i < 12) (ht : 1 ≤ t) (htn : t < n) : ∀ s f, t ≤ s → s < n → s < f → loop (fun v => f_X7_nextOrder_L39 k1 M (nI t) v) f (nI s) = some (nI (otF a t s))
  | 0, f, h, _, hf => by omega
  | s + 1, f, h, hs, hf => by
    obtain ⟨f, rfl⟩ : ∃ g, f = g + 1 := ⟨f - 1, by omega⟩
    have a1 := ha (t - 1) (by omega)
    have a2 := ha (s + 1) hs
    have st : f_X7_nextOrder_L39 k1 M (nI t) (nI (s + 1)) = if s + 1 ≤ t then some (.inr (nI (s + 1))) else if a (t - 1) ≤ a (s + 1) then some (.inr (nI (s + 1))) else some (.inl (nI s)) := by
      unfold f_X7_nextOrder_L39
      rw [pz_1, pz_sub (by omega), pz_rd (by omega) (by omega), e (s + 1) hs, pz_rd (by omega) (by omega), e (t - 1) (by omega), pz_lt1]
      rw [show nI (s + 1) + -nI 1 = nI s from (by rw [show (-nI 1 : Int32) = m1 from by decide, pz_dec (by omega)]; rfl)]
      simp only [pz_le (show s + 1 < 2147483648 by omega) (show t < 2147483648 by omega), pz_le (show a (t - 1) < 2147483648 by omega) (show a (s + 1) < 2147483648 by omega)]
    show _ = some (nI (if s + 1 ≤ t then s + 1 else if a (t - 1) ≤ a (s + 1) then s + 1 else otF a t s))
    by_cases q : s + 1 ≤ t
    · rw [if_pos q] at st
      simp only [loop, st]
      rw [if_pos q]
    · rw [if_neg q] at st
      rw [if_neg q]
      by_cases q2 : a (t - 1) ≤ a (s + 1)
      · rw [if_pos q2] at st
        simp only [loop, st]
        rw [if_pos q2]
      · rw [if_neg q2] at st
        simp only [loop, st]
        rw [if_neg q2]
        exact ot_lp hn e ha ht htn s f (by omega) (by omega) (by omega)
theorem rv_lp {k1 n : Nat} (hn : n ≤ 12) : ∀ (g : Nat) (a : Nat → Nat) (i l : Nat) (M : Mm) (f : Nat), IA M k1 n a → l < n → l ≤ i + g → i ≤ 12 → g < f → Wp (loop (fun v => f_X7_nextOrder_L79 k1 v.1 v.2.1 v.2.2) f (nI l, nI i, M)) (fun M' => IA M' k1 n (rvF g a i l) ∧ Fr (SB k1 k1) M M')
  | 0, a, i, l, M, f, e, hl, hg, hi, hf => by
    obtain ⟨f, rfl⟩ : ∃ g, f = g + 1 := ⟨f - 1, by omega⟩
    have st : f_X7_nextOrder_L79 k1 (nI l) (nI i) M = some (.inr M) := by
      unfold f_X7_nextOrder_L79
      rw [if_pos (by rw [pz_le (by omega) (by omega)]; omega)]
    simp only [loop, st]
    exact wp_s ⟨e, Fr.rf⟩
  | g + 1, a, i, l, M, f, e, hl, hg, hi, hf => by
    obtain ⟨f, rfl⟩ : ∃ g, f = g + 1 := ⟨f - 1, by omega⟩
    show Wp _ (fun M' => IA M' k1 n (if l ≤ i then a else rvF g (exS a i l) (i + 1) (l - 1)) ∧ Fr (SB k1 k1) M M')
    by_cases q : l ≤ i
    · have st : f_X7_nextOrder_L79 k1 (nI l) (nI i) M = some (.inr M) := by
        unfold f_X7_nextOrder_L79
        rw [if_pos (by rw [pz_le (by omega) (by omega)]; omega)]
      simp only [loop, st]
      rw [if_pos q]
      exact wp_s ⟨e, Fr.rf⟩
    · obtain ⟨M1, e1, e2, e3⟩ := xc_ok hn e (show i < n by omega) hl
      have st : f_X7_nextOrder_L79 k1 (nI l) (nI i) M = some (.inl (nI (l - 1), nI (i + 1), M1)) := by
        unfold f_X7_nextOrder_L79
        rw [if_neg (by rw [pz_le (by omega) (by omega)]; omega), e1, pz_bd, pz_lt1, pz_lt1, pz_n1, pz_dec (by omega), pz_1, pz_add]
      simp only [loop, st]
      rw [if_neg q]
      refine wp_m (rv_lp hn g (exS a i l) (i + 1) (l - 1) M1 f e2 (by omega) (by omega) (by omega) (by omega)) ?_
      rintro M2 ⟨b1, b2⟩
      exact ⟨b1, e3.tr b2⟩
theorem nxo_ok {M : Mm} {k1 n : Nat} {a : Nat → Nat} (h1n : 1 ≤ n) (hn : n ≤ 12) (hk : k1 ≠ 34) (h8 : M.1 34 8 = nI n) (e : IA M k1 n a) (ha : ∀ i, i < n → a i < 12) : Wp (f_X7_nextOrder k1 M) (fun M' => IA M' k1 n (nxF n a) ∧ Fr (SB k1 k1) M M') := by
  unfold f_X7_nextOrder
  rw [h8, pz_1, pz_sub h1n, pz_lt1, tl_lp hn e ha (n - 1) FU (by omega) (fu_lt (by omega)), pz_bd]
  have tp := tl_p a (n - 1)
  unfold f_X7_nextOrder_A7 nxF
  generalize ht : tlF a (n - 1) = t at *
  have fin : ∀ (b : Nat → Nat) (M1 : Mm), IA M1 k1 n b → Fr (SB k1 k1) M M1 → Wp (f_X7_nextOrder_J69 k1 (nI t) M1) (fun M' => IA M' k1 n (rvF n b t (n - 1)) ∧ Fr (SB k1 k1) M M') := by
    intro b M1 b1 b2
    unfold f_X7_nextOrder_J69
    rw [b2.1 34 (fun h => by unfold SB at h; omega), h8, pz_1, pz_sub h1n, pz_lt1]
    refine wp_b (rv_lp hn n b t (n - 1) M1 FU b1 (by omega) (by omega) (by omega) (fu_lt (by omega))) ?_
    rintro M2 ⟨c1, c2⟩
    exact wp_s ⟨c1, b2.tr c2⟩
  by_cases q : t = 0
  · rw [pz_0, if_pos (by rw [q]; decide), if_pos q]
    exact fin a M e Fr.rf
  · rw [pz_0, if_neg (by rw [pz_le (by omega) (by omega)]; omega), if_neg q, h8, pz_1, pz_sub h1n, pz_lt1, ot_lp hn e ha (by omega) (by omega) (n - 1) FU (by omega) (by omega) (fu_lt (by omega)), pz_bd]
    unfold f_X7_nextOrder_A39
    have op := ot_p a t (n - 1) (by omega)
    obtain ⟨M1, e1, e2, e3⟩ := xc_ok hn e (show t - 1 < n by omega) (show otF a t (n - 1) < n by omega)
    rw [pz_1, pz_sub (by omega), e1, pz_bd]
    exact fin _ M1 e2 e3
/-! .. the reference's -/
def pd (s : Nat) : Int32 := if s = 0 then m1 else nI (s - 1)
theorem pd_s (s : Nat) : pd (s + 1) = nI s := rfl
theorem rtl_lp {M : Mm} {k1 n : Nat} {a : Nat → Nat} (hn : n ≤ 12) (e : IA M k1 n a) (ha : ∀ i, i < n → a i < 12) : ∀ s f, s < n → s < f → loop (fun v => f_X10_next_L4 k1 M v) f (pd s) = some (pd (tlF a s))
  | 0, f, _, hf => by
    obtain ⟨f, rfl⟩ : ∃ g, f = g + 1 := ⟨f - 1, by omega⟩
    have st : f_X10_next_L4 k1 M (pd 0) = some (.inr (pd 0)) := by
      unfold f_X10_next_L4
      rw [pz_0, if_pos (by decide)]
    simp only [loop, st]
    rfl
  | s + 1, f, hs, hf => by
    obtain ⟨f, rfl⟩ : ∃ g, f = g + 1 := ⟨f - 1, by omega⟩
    have a1 := ha s (by omega)
    have a2 := ha (s + 1) hs
    have nx : nI s + m1 = pd s := by
      unfold pd
      by_cases q : s = 0
      · rw [if_pos q, q]; decide
      · rw [if_neg q, pz_dec (by omega)]
    have st : f_X10_next_L4 k1 M (pd (s + 1)) = if a s ≤ a (s + 1) then some (.inr (pd (s + 1))) else some (.inl (pd s)) := by
      unfold f_X10_next_L4
      rw [pd_s, pz_0, if_neg (by rw [pz_lt (by omega) (by omega)]; omega), pz_n1, nx, pz_1, pz_add, pz_rd (by omega) (by omega), e s (by omega), pz_rd (by omega) (by omega), e (s + 1) hs, pz_lt1]
      simp only [pz_le (show a s < 2147483648 by omega) (show a (s + 1) < 2147483648 by omega)]
    by_cases q : a s ≤ a (s + 1)
    · rw [if_pos q] at st
      simp only [loop, st]
      show _ = some (pd (if a s ≤ a (s + 1) then s + 1 else tlF a s))
      rw [if_pos q]
    · rw [if_neg q] at st
      simp only [loop, st]
      show _ = some (pd (if a s ≤ a (s + 1) then s + 1 else tlF a s))
      rw [if_neg q]
      exact rtl_lp hn e ha s f (by omega) (by omega)
theorem rot_lp {M : Mm} {k1 n t : Nat} {a : Nat → Nat} (hn : n ≤ 12) (e : IA M k1 n a) (ha : ∀ i, i < n → a i < 12) (ht : 1 ≤ t) (htn : t < n) (hat : a (t - 1) ≤ a t) : ∀ s f, t ≤ s → s < n → s < f → loop (fun v => f_X10_next_L35 k1 M (nI (t - 1)) v) f (nI s) = some (nI (otF a t s))
  | 0, f, h, _, hf => by omega
  | s + 1, f, h, hs, hf => by
    obtain ⟨f, rfl⟩ : ∃ g, f = g + 1 := ⟨f - 1, by omega⟩
    have a1 := ha (t - 1) (by omega)
    have a2 := ha (s + 1) hs
    have st : f_X10_next_L35 k1 M (nI (t - 1)) (nI (s + 1)) = if a (t - 1) ≤ a (s + 1) then some (.inr (nI (s + 1))) else some (.inl (nI s)) := by
      unfold f_X10_next_L35
      rw [pz_n1, pz_dec (by omega), show s + 1 - 1 = s by omega, pz_rd (by omega) (by omega), e (s + 1) hs, pz_rd (by omega) (by omega), e (t - 1) (by omega), pz_lt1]
      simp only [pz_le (show a (t - 1) < 2147483648 by omega) (show a (s + 1) < 2147483648 by omega)]
    show _ = some (nI (if s + 1 ≤ t then s + 1 else if a (t - 1) ≤ a (s + 1) then s + 1 else otF a t s))
    by_cases q : s + 1 ≤ t
    · have q3 : s + 1 = t := by omega
      rw [if_pos (by rw [q3]; exact hat)] at st
      simp only [loop, st]
      rw [if_pos q]
    · rw [if_neg q]
      by_cases q2 : a (t - 1) ≤ a (s + 1)
      · rw [if_pos q2] at st
        simp only [loop, st]
        rw [if_pos q2]
      · rw [if_neg q2] at st
        simp only [loop, st]
        rw [if_neg q2]
        exact rot_lp hn e ha ht htn hat s f (by omega) (by omega) (by omega)
theorem rrv_lp {k1 n : Nat} (hn : n ≤ 12) : ∀ (g : Nat) (a : Nat → Nat) (i l : Nat) (M : Mm) (f : Nat), IA M k1 n a → l < n → l ≤ i + g → i ≤ 12 → g < f → Wp (loop (fun v => f_X10_next_L76 k1 v.1 v.2.1 v.2.2) f (nI i, nI l, M)) (fun M' => IA M' k1 n (rvF g a i l) ∧ Fr (SB k1 k1) M M')
  | 0, a, i, l, M, f, e, hl, hg, hi, hf => by
    obtain ⟨f, rfl⟩ : ∃ g, f = g + 1 := ⟨f - 1, by omega⟩
    have st : f_X10_next_L76 k1 (nI i) (nI l) M = some (.inr M) := by
      unfold f_X10_next_L76
      rw [if_pos (by rw [pz_le (by omega) (by omega)]; omega)]
    simp only [loop, st]
    exact wp_s ⟨e, Fr.rf⟩
  | g + 1, a, i, l, M, f, e, hl, hg, hi, hf => by
    obtain ⟨f, rfl⟩ : ∃ g, f = g + 1 := ⟨f - 1, by omega⟩
    show Wp _ (fun M' => IA M' k1 n (if l ≤ i then a else rvF g (exS a i l) (i + 1) (l - 1)) ∧ Fr (SB k1 k1) M M')
    by_cases q : l ≤ i
    · have st : f_X10_next_L76 k1 (nI i) (nI l) M = some (.inr M) := by
        unfold f_X10_next_L76
        rw [if_pos (by rw [pz_le (by omega) (by omega)]; omega)]
      simp only [loop, st]
      rw [if_pos q]
      exact wp_s ⟨e, Fr.rf⟩
    · have st : f_X10_next_L76 k1 (nI i) (nI l) M = some (.inl (nI (i + 1), nI (l - 1), wi (wi M k1 i (nI (a l))) k1 l (nI (a i)))) := by
        unfold f_X10_next_L76
        rw [if_neg (by rw [pz_le (by omega) (by omega)]; omega), pz_n1, pz_dec (by omega), pz_rd (by omega) (by omega), e i (by omega), pz_rd (by omega) (by omega), e l hl, pz_wr (by omega) (by omega), pz_wr (by omega) (by omega), pz_lt1, pz_lt1, pz_1, pz_add]
      have fr1 : Fr (SB k1 k1) M (wi (wi M k1 i (nI (a l))) k1 l (nI (a i))) := (Fr.rf.w ⟨Nat.le_refl _, Nat.le_refl _⟩).w ⟨Nat.le_refl _, Nat.le_refl _⟩
      simp only [loop, st]
      rw [if_neg q]
      refine wp_m (rrv_lp hn g (exS a i l) (i + 1) (l - 1) (wi (wi M k1 i (nI (a l))) k1 l (nI (a i))) f e.set.set (by omega) (by omega) (by omega) (by omega)) ?_
      rintro M2 ⟨b1, b2⟩
      exact ⟨b1, fr1.tr b2⟩
theorem rnx_ok {M : Mm} {k1 n : Nat} {a : Nat → Nat} (h1n : 1 ≤ n) (hn : n ≤ 12) (e : IA M k1 n a) (ha : ∀ i, i < n → a i < 12) : (tlF a (n - 1) ≠ 0 → Wp (f_X10_next k1 (nI n) M) (fun r => r.1 = nI 1 ∧ IA r.2 k1 n (nxF n a) ∧ Fr (SB k1 k1) M r.2)) ∧ (tlF a (n - 1) = 0 → f_X10_next k1 (nI n) M = some (nI 0, M)) := by
  have s2 : nI n - nI 2 = pd (n - 1) := by
    unfold pd
    by_cases q : n = 1
    · rw [if_pos (by omega), q]; decide
    · rw [if_neg (by omega), pz_sub (by omega)]; rfl
  have tp := tl_p a (n - 1)
  have lp := rtl_lp hn e ha (n - 1) FU (by omega) (fu_lt (by omega))
  unfold f_X10_next f_X10_next_A4 nxF
  generalize ht : tlF a (n - 1) = t at *
  rw [pz_2, s2, pz_lt1, lp, pz_bd]
  constructor
  · intro q
    have pt : pd t = nI (t - 1) := if_neg q
    rw [pt, pz_0, if_pos (by rw [pz_le (by omega) (by omega)]; omega), pz_1, pz_sub h1n, pz_lt1, rot_lp hn e ha (by omega) (by omega) (tp.2 q) (n - 1) FU (by omega) (by omega) (fu_lt (by omega)), pz_bd, if_neg q]
    have op := ot_p a t (n - 1) (by omega)
    unfold f_X10_next_A35 f_X10_next_A76
    rw [pz_rd (by omega) (by omega), e (t - 1) (by omega), pz_rd (by omega) (by omega), e _ (show otF a t (n - 1) < n by omega), pz_wr (by omega) (by omega), pz_wr (by omega) (by omega), pz_1, pz_add, pz_lt1, pz_sub h1n, pz_lt1, show t - 1 + 1 = t by omega]
    have fr1 : Fr (SB k1 k1) M (wi (wi M k1 (t - 1) (nI (a (otF a t (n - 1))))) k1 (otF a t (n - 1)) (nI (a (t - 1)))) := (Fr.rf.w ⟨Nat.le_refl _, Nat.le_refl _⟩).w ⟨Nat.le_refl _, Nat.le_refl _⟩
    refine wp_b (rrv_lp hn n (exS a (t - 1) (otF a t (n - 1))) t (n - 1) _ FU e.set.set (by omega) (by omega) (by omega) (fu_lt (by omega))) ?_
    rintro M2 ⟨c1, c2⟩
    exact wp_s ⟨rfl, c1, fr1.tr c2⟩
  · intro q
    have pt : pd t = m1 := if_pos q
    rw [pt, pz_0, if_neg (by decide)]
set_option maxRecDepth 100000 in
theorem nx_tab : ∀ n, n < 5 → 1 ≤ n → ∀ i, i < fac n → (∀ j, j < n → nxF n (ordN n i) j = ordN n (if i + 1 = fac n then 0 else i + 1) j) ∧ (tlF (ordN n i) (n - 1) = 0 ↔ i + 1 = fac n) := by decide +kernel
set_option maxRecDepth 100000 in
theorem fi_tab : ∀ n, n < 5 → 1 ≤ n → (∀ j, j < n → ordN n 0 j = j) ∧ ∀ i, i < fac n → ∀ k, k < fac n → ordN n i 0 < ordN n k 0 → i < k := by decide +kernel
def rvi (n i : Nat) : Nat := rks (fun k => ordN n i (n - 1 - k)) n n
set_option maxRecDepth 100000 in
theorem rv_tab : ∀ n, n < 5 → 1 ≤ n → ∀ i, i < fac n → rvi n i < fac n ∧ ∀ k, k < n → ordN n (rvi n i) k = ordN n i (n - 1 - k) := by decide +kernel
