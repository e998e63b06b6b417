/-! trees: walks from the root -/
def chC (c : Nat) : Nat := if c = 15 then 0 else 1
def dfs (lf rt : Nat → Nat) : Nat → Nat → Nat → Nat × Nat
  | 0, _, m => (m, 1)
  | k + 1, c, m => if c = 15 then (m, 0) else if m.testBit c = true then (m, 1) else ((dfs lf rt k (rt c) (dfs lf rt k (lf c) (m ||| 2 ^ c)).1).1, (dfs lf rt k (lf c) (m ||| 2 ^ c)).2 + (dfs lf rt k (rt c) (dfs lf rt k (lf c) (m ||| 2 ^ c)).1).2)
def Clo (lf rt : Nat → Nat) (n C : Nat) : Prop := ∀ b, b < n → C.testBit b = true → (lf b < n → C.testBit (lf b) = true) ∧ (rt b < n → C.testBit (rt b) = true)
/-- child pointers out of a set -/
def odn (lf rt : Nat → Nat) (m : Nat) (n : Nat) : Nat := smn (fun b => if m.testBit b = true then chC (lf b) + chC (rt b) else 0) n
theorem smn_add1 {f g : Nat → Nat} {c d : Nat} : ∀ {n}, c < n → (∀ i, i < n → i ≠ c → g i = f i) → g c = f c + d → smn g n = smn f n + d
  | 0, h, _, _ => by omega
  | n + 1, h, q, e => by
    show smn g n + g n = smn f n + f n + d
    by_cases z : c = n
    · subst z
      rw [e, smn_cg (fun i hi => q i (by omega) (by omega))]; omega
    · rw [smn_add1 (f := f) (g := g) (n := n) (by omega) (fun i hi h2 => q i (by omega) h2) e, q n (by omega) (fun h => z h.symm)]; omega
theorem or_bit' {m c a : Nat} : (m ||| 2 ^ c).testBit a = true ↔ m.testBit a = true ∨ a = c := by
  rw [Nat.testBit_or, Nat.testBit_two_pow, Bool.or_eq_true, decide_eq_true_iff]
  constructor
  · rintro (h | h)
    · exact Or.inl h
    · exact Or.inr h.symm
  · rintro (h | h)
    · exact Or.inl h
    · exact Or.inr h.symm
theorem bcn_or {m c n : Nat} (hc : c < n) (h : ¬ m.testBit c = true) : bcn (m ||| 2 ^ c) n = bcn m n + 1 := by
  refine smn_add1 hc (fun i hi hne => ?_) ?_
  · have : (m ||| 2 ^ c).testBit i = m.testBit i := by
      rw [Nat.testBit_or, Nat.testBit_two_pow]
      simp [show ¬ c = i from fun e => hne e.symm]
    show ((m ||| 2 ^ c).testBit i).toNat = (m.testBit i).toNat
    rw [this]
  · show ((m ||| 2 ^ c).testBit c).toNat = (m.testBit c).toNat + 1
    rw [or_bit'.mpr (Or.inr rfl), Bool.not_eq_true _ |>.mp h]; rfl
theorem odn_or {lf rt : Nat → Nat} {m c n : Nat} (hc : c < n) (h : ¬ m.testBit c = true) : odn lf rt (m ||| 2 ^ c) n = odn lf rt m n + (chC (lf c) + chC (rt c)) := by
  refine smn_add1 hc (fun i hi hne => ?_) ?_
  · have : (m ||| 2 ^ c).testBit i = m.testBit i := by
      rw [Nat.testBit_or, Nat.testBit_two_pow]
      simp [show ¬ c = i from fun e => hne e.symm]
    show (if (m ||| 2 ^ c).testBit i = true then _ else 0) = (if m.testBit i = true then _ else 0)
    rw [this]
  · show (if (m ||| 2 ^ c).testBit c = true then _ else 0) = (if m.testBit c = true then _ else 0) + _
    rw [if_pos (or_bit'.mpr (Or.inr rfl)), if_neg h, Nat.zero_add]
def DfP (lf rt : Nat → Nat) (n c m m' rev : Nat) : Prop :=
  (∀ a, m.testBit a = true → m'.testBit a = true) ∧
  (m' < 2 ^ n) ∧
  (c ≠ 15 → m'.testBit c = true) ∧
  (∀ b, m'.testBit b = true → ¬ m.testBit b = true → b < n ∧ (lf b ≠ 15 → m'.testBit (lf b) = true) ∧ (rt b ≠ 15 → m'.testBit (rt b) = true)) ∧
  (chC c + odn lf rt m' n + bcn m n = odn lf rt m n + bcn m' n + rev) ∧
  (∀ C, Clo lf rt n C → (∀ a, m.testBit a = true → C.testBit a = true) → (c ≠ 15 → C.testBit c = true) → ∀ a, m'.testBit a = true → C.testBit a = true)
theorem DfP.s {lf rt : Nat → Nat} {n c m m' rev : Nat} (hh_ : DfP lf rt n c m m' rev) : ∀ a, m.testBit a = true → m'.testBit a = true := hh_.1
theorem DfP.l {lf rt : Nat → Nat} {n c m m' rev : Nat} (hh_ : DfP lf rt n c m m' rev) : m' < 2 ^ n := hh_.2.1
theorem DfP.c {lf rt : Nat → Nat} {n c m m' rev : Nat} (hh_ : DfP lf rt n c m m' rev) : c ≠ 15 → m'.testBit c = true := hh_.2.2.1
theorem DfP.k {lf rt : Nat → Nat} {n c m m' rev : Nat} (hh_ : DfP lf rt n c m m' rev) : ∀ b, m'.testBit b = true → ¬ m.testBit b = true → b < n ∧ (lf b ≠ 15 → m'.testBit (lf b) = true) ∧ (rt b ≠ 15 → m'.testBit (rt b) = true) := hh_.2.2.2.1
theorem DfP.e {lf rt : Nat → Nat} {n c m m' rev : Nat} (hh_ : DfP lf rt n c m m' rev) : chC c + odn lf rt m' n + bcn m n = odn lf rt m n + bcn m' n + rev := hh_.2.2.2.2.1
theorem DfP.m {lf rt : Nat → Nat} {n c m m' rev : Nat} (hh_ : DfP lf rt n c m m' rev) : ∀ C, Clo lf rt n C → (∀ a, m.testBit a = true → C.testBit a = true) → (c ≠ 15 → C.testBit c = true) → ∀ a, m'.testBit a = true → C.testBit a = true := hh_.2.2.2.2.2
theorem dfs_ok {lf rt : Nat → Nat} {n : Nat} (hv : ∀ b, b < n → (lf b < n ∨ lf b = 15) ∧ (rt b < n ∨ rt b = 15)) (hn : n ≤ 12) : ∀ (k c m : Nat), m < 2 ^ n → (c < n ∨ c = 15) → n + 1 ≤ k + bcn m n → DfP lf rt n c m (dfs lf rt k c m).1 (dfs lf rt k c m).2
  | 0, c, m, hm, hc, hk => by have := bcn_le m n; omega
  | k + 1, c, m, hm, hc, hk => by
    unfold dfs
    by_cases h15 : c = 15
    · rw [if_pos h15]
      refine ⟨fun a h => h, hm, fun h => absurd h15 h, fun b h1 h2 => absurd h1 h2, ?_, fun C _ h _ a ha => h a ha⟩
      show chC c + odn lf rt m n + bcn m n = odn lf rt m n + bcn m n + 0
      unfold chC
      rw [if_pos h15]; omega
    · rw [if_neg h15]
      have hcn : c < n := by omega
      by_cases hb : m.testBit c = true
      · rw [if_pos hb]
        refine ⟨fun a h => h, hm, fun _ => hb, fun b h1 h2 => absurd h1 h2, ?_, fun C _ h _ a ha => h a ha⟩
        show chC c + odn lf rt m n + bcn m n = odn lf rt m n + bcn m n + 1
        unfold chC
        rw [if_neg h15]; omega
      · rw [if_neg hb]
        have hv' := hv c hcn
        have b1 := bcn_or hcn hb
        have o1 := odn_or (lf := lf) (rt := rt) hcn hb
        have m1 : m ||| 2 ^ c < 2 ^ n := or_lt hm (Nat.pow_lt_pow_right (by omega) hcn)
        have d1 := dfs_ok hv hn k (lf c) (m ||| 2 ^ c) m1 hv'.1 (by omega)
        generalize hq1 : dfs lf rt k (lf c) (m ||| 2 ^ c) = q1 at d1
        have bm : bcn (m ||| 2 ^ c) n ≤ bcn q1.1 n := by
          have : ∀ j, bcn (m ||| 2 ^ c) j ≤ bcn q1.1 j := by
            intro j
            induction j with
            | zero => exact Nat.le_refl _
            | succ j ih =>
              rw [bcn_s, bcn_s]
              have := d1.s j
              cases e1 : (m ||| 2 ^ c).testBit j
              · show _ + 0 ≤ _; omega
              · rw [this e1]; omega
          exact this n
        have d2 := dfs_ok hv hn k (rt c) q1.1 d1.l hv'.2 (by omega)
        generalize hq2 : dfs lf rt k (rt c) q1.1 = q2 at d2
        refine ⟨fun a h => d2.s a (d1.s a (or_bit'.mpr (Or.inl h))), d2.l, fun _ => d2.s c (d1.s c (or_bit'.mpr (Or.inr rfl))), fun b h1 h2 => ?_, ?_, fun C hC h1 h2 a ha => ?_⟩
        · by_cases z1 : q1.1.testBit b = true
          · by_cases z2 : (m ||| 2 ^ c).testBit b = true
            · have : b = c := by
                rcases or_bit'.mp z2 with z | z
                · exact absurd z h2
                · exact z
              subst this
              exact ⟨hcn, fun z => d2.s _ (d1.c z), fun z => d2.c z⟩
            · have := d1.k b z1 z2
              exact ⟨this.1, fun z => d2.s _ (this.2.1 z), fun z => d2.s _ (this.2.2 z)⟩
          · exact d2.k b h1 z1
        · have e1 := d1.e
          have e2 := d2.e
          show chC c + odn lf rt q2.1 n + bcn m n = odn lf rt m n + bcn q2.1 n + (q1.2 + q2.2)
          have : chC c = 1 := by unfold chC; rw [if_neg h15]
          omega
        · have cc := hC c hcn (h2 h15)
          have s1 : ∀ a, (m ||| 2 ^ c).testBit a = true → C.testBit a = true := fun a ha => by
            rcases or_bit'.mp ha with z | z
            · exact h1 a z
            · rw [z]; exact h2 h15
          have s2 := d1.m C hC s1 (fun z => cc.1 (by have := hv'.1; omega))
          exact d2.m C hC s2 (fun z => cc.2 (by have := hv'.2; omega)) a ha
/-! the class's test -/
theorem mf1 {lf rt : Nat → Nat} {n r m : Nat} {a b : Int64} (hn : n ≤ 12) (hv : ∀ b, b < n → (lf b < n ∨ lf b = 15) ∧ (rt b < n ∨ rt b = 15)) (el : ∀ i, i < n → nib a i = lf i) (er : ∀ i, i < n → nib b i = rt i) (hm : m < 2 ^ n) :
    Wp (loop (fun v => f_X3_metFrom_L18 a b (nI n) v.1 v.2) FU (nI m, nI 0)) (fun x => ∃ s, x = nI s ∧ s < 2 ^ 16 ∧ (∀ c, m.testBit c = true → s.testBit c = true) ∧ (∀ c, c < n → m.testBit c = true → s.testBit (lf c) = true ∧ s.testBit (rt c) = true) ∧ ∀ C, Clo lf rt n C → (∀ c, m.testBit c = true → C.testBit c = true) → ∀ c, c < n → s.testBit c = true → C.testBit c = true) := by
  refine wp_l (fun i (v : Int32 × Int32) => v.2 = nI i ∧ ∃ s, v.1 = nI s ∧ s < 2 ^ 16 ∧ (∀ c, m.testBit c = true → s.testBit c = true) ∧ (∀ c, c < i → m.testBit c = true → s.testBit (lf c) = true ∧ s.testBit (rt c) = true) ∧ ∀ C, Clo lf rt n C → (∀ c, m.testBit c = true → C.testBit c = true) → ∀ c, c < n → s.testBit c = true → C.testBit c = true) n (fu_lt (by omega)) ?_ ?_ ⟨rfl, m, rfl, Nat.lt_of_lt_of_le hm (Nat.pow_le_pow_right (by omega) (by omega)), fun _ h => h, fun c hc => by omega, fun C _ h c _ hc => h c hc⟩
  · rintro i ⟨x6, x8⟩ hi ⟨a1, s, a2, a3, a4, a5, a6⟩
    have a1 : x8 = nI i := a1
    have a2 : x6 = nI s := a2
    subst a1 a2
    show Wp (f_X3_metFrom_L18 a b (nI n) (nI s) (nI i)) _
    unfold f_X3_metFrom_L18 f_X3_metFrom_J58
    have hvi := hv i hi
    have a3' : s < 65536 := a3
    rw [if_neg (by rw [pz_le (by omega) (by omega)]; omega), pz_bit (by omega) (by omega), pz_1, nib_e, nib_e, el i hi, er i hi, pz_shl (by omega), pz_shl (by omega), pz_or, pz_or, pz_lt1, pz_lt1, pz_lt1, pz_add]
    by_cases hb : s.testBit i = true
    · rw [if_pos (by rw [hb]; rfl)]
      have bits : ∀ c, (s ||| (2 ^ lf i ||| 2 ^ rt i)).testBit c = true ↔ s.testBit c = true ∨ c = lf i ∨ c = rt i := fun c => by
        rw [Nat.testBit_or, Nat.testBit_or, Nat.testBit_two_pow, Nat.testBit_two_pow, Bool.or_eq_true, Bool.or_eq_true, decide_eq_true_iff, decide_eq_true_iff]
        constructor
        · rintro (h | h | h)
          · exact Or.inl h
          · exact Or.inr (Or.inl h.symm)
          · exact Or.inr (Or.inr h.symm)
        · rintro (h | h | h)
          · exact Or.inl h
          · exact Or.inr (Or.inl h.symm)
          · exact Or.inr (Or.inr h.symm)
      refine wp_s (Or.inl ⟨_, rfl, rfl, _, rfl, or_lt a3 (or_lt (Nat.pow_lt_pow_right (by omega) (by omega)) (Nat.pow_lt_pow_right (by omega) (by omega))), fun c hc => (bits c).mpr (Or.inl (a4 c hc)), fun c hc hmc => ?_, fun C hC h c hcn hc => ?_⟩)
      · by_cases e : c = i
        · subst e
          exact ⟨(bits _).mpr (Or.inr (Or.inl rfl)), (bits _).mpr (Or.inr (Or.inr rfl))⟩
        · have := a5 c (by omega) hmc
          exact ⟨(bits _).mpr (Or.inl this.1), (bits _).mpr (Or.inl this.2)⟩
      · have cc := hC i hi (a6 C hC h i hi hb)
        rcases (bits c).mp hc with z | z | z
        · exact a6 C hC h c hcn z
        · rw [z]; exact cc.1 (by omega)
        · rw [z]; exact cc.2 (by omega)
    · rw [if_neg (by rw [pz_b1]; exact hb)]
      refine wp_s (Or.inl ⟨_, rfl, rfl, s, rfl, a3, a4, fun c hc hmc => ?_, a6⟩)
      by_cases e : c = i
      · subst e; exact absurd (a4 c hmc) hb
      · exact a5 c (by omega) hmc
  · rintro ⟨x6, x8⟩ ⟨a1, s, a2, a3, a4, a5, a6⟩
    have a1 : x8 = nI n := a1
    have a2 : x6 = nI s := a2
    subst a1 a2
    show Wp (f_X3_metFrom_L18 a b (nI n) (nI s) (nI n)) _
    unfold f_X3_metFrom_L18
    rw [if_pos ((nI_leI (by omega) (by omega)).mpr (Nat.le_refl _))]
    exact wp_s ⟨_, rfl, s, rfl, a3, a4, a5, a6⟩
theorem bcn_lt {m s n : Nat} (h : ∀ c, m.testBit c = true → s.testBit c = true) : ∀ k, bcn m k ≤ bcn s k ∧ (∀ c, c < k → s.testBit c = true → ¬ m.testBit c = true → bcn m k < bcn s k)
  | 0 => ⟨Nat.le_refl _, fun c hc => by omega⟩
  | k + 1 => by
    have ih := bcn_lt (n := n) h k
    have hk := h k
    rw [bcn_s, bcn_s]
    refine ⟨?_, fun c hc h1 h2 => ?_⟩
    · cases e1 : m.testBit k
      · show _ + 0 ≤ _; omega
      · rw [hk e1]; omega
    · by_cases e : c = k
      · subst e
        rw [h1, Bool.not_eq_true _ |>.mp h2]
        show bcn m c + 0 < bcn s c + 1
        omega
      · have := ih.2 c (by omega) h1 h2
        cases e1 : m.testBit k
        · show _ + 0 < _; omega
        · rw [hk e1]; omega
theorem mf_ok' {lf rt : Nat → Nat} {n r : Nat} {a b : Int64} (hn : n ≤ 12) (hr : r < n) (hv : ∀ b, b < n → (lf b < n ∨ lf b = 15) ∧ (rt b < n ∨ rt b = 15)) (el : ∀ i, i < n → nib a i = lf i) (er : ∀ i, i < n → nib b i = rt i) :
    Wp (f_X3_metFrom (nI r) a b (nI n)) (fun x => ∃ s, x = nI s ∧ s < 2 ^ n ∧ s.testBit r = true ∧ Clo lf rt n s ∧ ∀ C, Clo lf rt n C → C.testBit r = true → ∀ c, s.testBit c = true → C.testBit c = true) := by
  have hp := Nat.two_pow_pos n
  unfold f_X3_metFrom f_X3_metFrom_A8
  rw [pz_lt1, pz_1, pz_shl (by omega)]
  refine wp_b (P := fun x => ∃ s, x = nI s ∧ s < 2 ^ n ∧ s.testBit r = true ∧ Clo lf rt n s ∧ ∀ C, Clo lf rt n C → C.testBit r = true → ∀ c, s.testBit c = true → C.testBit c = true) ?_ (fun x h => wp_s h)
  refine wp_l (fun i (v : Int32 × Int32) => v.2 = nI (1 + i) ∧ ∃ s, v.1 = nI s ∧ s < 2 ^ n ∧ s.testBit r = true ∧ (Clo lf rt n s ∨ i + 1 ≤ bcn s n) ∧ ∀ C, Clo lf rt n C → C.testBit r = true → ∀ c, s.testBit c = true → C.testBit c = true) (n - 1) (fu_lt (by omega)) ?_ ?_ ⟨rfl, 2 ^ r, rfl, Nat.pow_lt_pow_right (by omega) hr, by rw [Nat.testBit_two_pow]; simp, Or.inr ?_, fun C _ h c hc => ?_⟩
  · rintro i ⟨x6, x7⟩ hi ⟨a1, m, a2, a3, a4, a5, a6⟩
    have a1 : x7 = nI (1 + i) := a1
    have a2 : x6 = nI m := a2
    subst a1 a2
    show Wp (f_X3_metFrom_L8 a b (nI n) (nI m) (nI (1 + i))) _
    unfold f_X3_metFrom_L8
    rw [if_neg (by rw [pz_le (by omega) (by omega)]; omega), pz_0]
    refine wp_b (mf1 (r := r) hn hv el er a3) ?_
    rintro x ⟨s, rfl, b1, b2, b3, b4⟩
    unfold f_X3_metFrom_A18
    rw [mask_of (M := M0) hn, pz_and, pz_lt1, pz_lt1, pz_1, pz_add]
    have bits : ∀ c, (s &&& (2 ^ n - 1)).testBit c = true ↔ s.testBit c = true ∧ c < n := fun c => by
      rw [Nat.testBit_and, Nat.testBit_two_pow_sub_one, Bool.and_eq_true, decide_eq_true_iff]
    have hmn : ∀ c, m.testBit c = true → c < n := fun c hc => by
      refine Classical.byContradiction fun q => ?_
      rw [tb_lt a3 (by omega : n ≤ c)] at hc
      cases hc
    have sub : ∀ c, m.testBit c = true → (s &&& (2 ^ n - 1)).testBit c = true := fun c hc => (bits c).mpr ⟨b2 c hc, hmn c hc⟩
    refine wp_s (Or.inl ⟨_, rfl, by show nI (1 + i + 1) = _; rw [Nat.add_assoc], _, rfl, and_mask_lt _ _, sub r a4, ?_, fun C hC h c hc => b4 C hC (a6 C hC h) c ((bits c).mp hc).2 ((bits c).mp hc).1⟩)
    by_cases hcl : Clo lf rt n m
    · left
      have e : s &&& (2 ^ n - 1) = m := by
        refine bits_ext (and_mask_lt _ _) a3 fun c hc => ?_
        cases e1 : m.testBit c
        · cases e2 : (s &&& (2 ^ n - 1)).testBit c
          · rfl
          · have := b4 m hcl (fun _ h => h) c hc ((bits c).mp e2).1
            rw [e1] at this; cases this
        · exact sub c e1
      rw [e]; exact hcl
    · right
      have h5 : i + 1 ≤ bcn m n := by
        rcases a5 with z | z
        · exact absurd z hcl
        · exact z
      have : ∃ c, c < n ∧ (s &&& (2 ^ n - 1)).testBit c = true ∧ ¬ m.testBit c = true := by
        refine Classical.byContradiction fun no => hcl fun c hc hmc => ⟨fun z => ?_, fun z => ?_⟩
        · refine Classical.byContradiction fun q => no ⟨lf c, z, (bits _).mpr ⟨(b3 c hc hmc).1, z⟩, q⟩
        · refine Classical.byContradiction fun q => no ⟨rt c, z, (bits _).mpr ⟨(b3 c hc hmc).2, z⟩, q⟩
      obtain ⟨c, c1, c2, c3⟩ := this
      have := (bcn_lt (n := n) sub n).2 c c1 c2 c3
      omega
  · rintro ⟨x6, x7⟩ ⟨a1, m, a2, a3, a4, a5, a6⟩
    have a1 : x7 = nI (1 + (n - 1)) := a1
    have a2 : x6 = nI m := a2
    subst a1 a2
    show Wp (f_X3_metFrom_L8 a b (nI n) (nI m) (nI (1 + (n - 1)))) _
    unfold f_X3_metFrom_L8
    rw [if_pos ((nI_leI (by omega) (by omega)).mpr (by omega))]
    refine wp_s ⟨_, rfl, m, rfl, a3, a4, ?_, a6⟩
    rcases a5 with z | z
    · exact z
    · have hall : m = 2 ^ n - 1 := by
        have hsub : ∀ c, m.testBit c = true → (2 ^ n - 1).testBit c = true := fun c hc => by
          rw [Nat.testBit_two_pow_sub_one, decide_eq_true_iff]
          refine Classical.byContradiction fun q => ?_
          rw [tb_lt a3 (by omega : n ≤ c)] at hc
          cases hc
        refine bits_ext a3 (by omega) fun c hc => ?_
        cases e1 : m.testBit c
        · have := (bcn_lt (n := n) hsub n).2 c hc (by rw [Nat.testBit_two_pow_sub_one]; simp [hc]) (by rw [e1]; decide)
          rw [bcn_full n n (Nat.le_refl _)] at this
          omega
        · rw [hsub c e1]
      rw [hall]
      intro c hc _
      constructor
      · intro z; rw [Nat.testBit_two_pow_sub_one]; simp [z]
      · intro z; rw [Nat.testBit_two_pow_sub_one]; simp [z]
  · have := bcn_pos (m := 2 ^ r) (n := n) (Nat.pow_lt_pow_right (by omega) hr) (by have := Nat.two_pow_pos r; omega)
    omega
  · rw [Nat.testBit_two_pow, decide_eq_true_iff] at hc
    rw [← hc]; exact h
