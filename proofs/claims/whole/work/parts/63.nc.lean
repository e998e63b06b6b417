/-! normal: the class -/
theorem ft_ok {M : Mm} {k0 L : Nat} {tk : Nat → Nat} (hL : L ≤ 23) (h1L : 1 ≤ L) (h5 : M.1 k0 5 = nI L) (ht : IA M (k0 + 1) L tk) (hl : ∀ i, i < L → tk i < 14) : Wp (f_X6_firstTwice k0 M) (fun r => (r = m1 ∧ ∀ f, f + 1 < L → ¬ (12 ≤ tk (f + 1) ∧ tk f = tk (f + 1))) ∨ ∃ f, r = nI f ∧ f + 1 < L ∧ 12 ≤ tk (f + 1) ∧ tk f = tk (f + 1)) := by
  unfold f_X6_firstTwice
  refine wp_b (P := fun r => (r = .inl () ∧ ∀ f, f + 1 < L → ¬ (12 ≤ tk (f + 1) ∧ tk f = tk (f + 1))) ∨ ∃ f, r = .inr (nI f) ∧ f + 1 < L ∧ 12 ≤ tk (f + 1) ∧ tk f = tk (f + 1)) ?_ ?_
  · refine wp_l (fun i (v : Int32) => v = nI (1 + i) ∧ ∀ f, f < i → ¬ (12 ≤ tk (f + 1) ∧ tk f = tk (f + 1))) (L - 1) (fu_lt (by omega)) ?_ ?_ ⟨pz_1, fun f hf => by omega⟩
    · rintro i v hi ⟨rfl, a1⟩
      show Wp (f_X6_firstTwice_L2 k0 M (nI (1 + i))) _
      unfold f_X6_firstTwice_L2 f_X6_firstTwice_J42
      have t1 := hl (1 + i) (by omega)
      have t2 := hl i (by omega)
      have go : ¬ (12 ≤ tk (i + 1) ∧ tk i = tk (i + 1)) → Wp (some (Sum.inl (nI (1 + i + 1))) : Option (Int32 ⊕ (Unit ⊕ Int32))) (fun r => (∃ w, r = .inl w ∧ w = nI (1 + (i + 1)) ∧ ∀ f, f < i + 1 → ¬ (12 ≤ tk (f + 1) ∧ tk f = tk (f + 1))) ∨ ∃ x, r = .inr x ∧ ((x = .inl () ∧ ∀ f, f + 1 < L → ¬ (12 ≤ tk (f + 1) ∧ tk f = tk (f + 1))) ∨ ∃ f, x = .inr (nI f) ∧ f + 1 < L ∧ 12 ≤ tk (f + 1) ∧ tk f = tk (f + 1))) := by
        intro q
        refine wp_s (Or.inl ⟨_, rfl, by rw [Nat.add_assoc], fun f hf => ?_⟩)
        by_cases e : f = i
        · rw [e]; exact q
        · exact a1 f (by omega)
      rw [h5, if_neg (by rw [pz_le (by omega) (by omega)]; omega), pz_rd (by omega) (by omega), ht _ (by omega), pz_12, pz_1, pz_lt1, pz_add]
      have e1 : 1 + i = i + 1 := by omega
      by_cases q : tk (1 + i) < 12
      · rw [if_pos (by rw [pz_lt (by omega) (by omega)]; exact q)]
        exact go (fun z => by rw [← e1] at z; omega)
      · rw [if_neg (by rw [pz_lt (by omega) (by omega)]; exact q), pz_rd (by omega) (by omega), ht _ (by omega), pz_sub (by omega), pz_rd (by omega) (by omega), show 1 + i - 1 = i by omega, ht i (by omega)]
        by_cases e : tk (1 + i) = tk i
        · rw [if_pos (by rw [e])]
          rw [e1] at e q
          exact wp_s (Or.inr ⟨_, rfl, Or.inr ⟨i, rfl, by omega, by omega, e.symm⟩⟩)
        · rw [if_neg (by rw [pz_eq (by omega) (by omega)]; exact e)]
          exact go (fun z => e (by rw [e1]; exact z.2.symm))
    · rintro v ⟨rfl, a1⟩
      show Wp (f_X6_firstTwice_L2 k0 M (nI (1 + (L - 1)))) _
      unfold f_X6_firstTwice_L2
      rw [h5, if_pos ((nI_leI (by omega) (by omega)).mpr (by omega))]
      exact wp_s ⟨_, rfl, Or.inl ⟨rfl, fun f hf => a1 f (by omega)⟩⟩
  · rintro r (⟨rfl, h⟩ | ⟨f, rfl, h⟩)
    · exact wp_s (Or.inl ⟨pz_n1, h⟩)
    · exact wp_s (Or.inr ⟨f, rfl, h⟩)
theorem sop_seg {M : Mm} {k0 L : Nat} {tk : Nat → Nat} (hL : L ≤ 23) (ht : IA M (k0 + 1) L tk) : ∀ (R : Ex) (lo w : Nat), Ex.ok R → exA tk lo R → lo + exz R ≤ L → w + exz R < 1000 →
    stp (fun v : Int32 × Int32 => f_X6_startOfPart_L4 k0 M v.1 v.2) (exz R) (nI (w + 2), nI (lo + exz R - 1)) (nI (w + 1), nI lo + m1)
  | .leaf b, lo, w, ho, hx, hl, hw => by
    have hw : w + 1 < 1000 := hw
    have hx : tk lo = b := hx
    have ho : b < 12 := ho
    have hl : lo + 1 ≤ L := hl
    refine stp_1 ?_
    show f_X6_startOfPart_L4 k0 M (nI (w + 2)) (nI lo) = _
    unfold f_X6_startOfPart_L4 f_X6_startOfPart_J25
    rw [pz_0, if_neg (by rw [pz_lt (by omega) (by omega)]; omega), pz_rd (by omega) (by omega), ht lo (by omega), hx, pz_12, if_neg (by rw [pz_le (by omega) (by omega)]; omega), pz_n1, pz_lt1, pz_dec (by omega), show w + 2 - 1 = w + 1 by omega, if_neg (by rw [pz_eq (by omega) (by omega)]; omega), pz_lt1]
  | .branch t a b, lo, w, ho, hx, hl, hw => by
    have hl : lo + (exz a + exz b + 1) ≤ L := hl
    have hw : w + (exz a + exz b + 1) < 1000 := hw
    obtain ⟨x1, x2, x3⟩ := hx
    have za := exz_pos a
    have zb := exz_pos b
    have s1 : stp (fun v : Int32 × Int32 => f_X6_startOfPart_L4 k0 M v.1 v.2) 1 (nI (w + 2), nI (lo + exz a + exz b)) (nI (w + 1 + 2), nI (lo + exz a + exz b - 1)) := by
      refine stp_1 ?_
      show f_X6_startOfPart_L4 k0 M (nI (w + 2)) (nI (lo + exz a + exz b)) = _
      unfold f_X6_startOfPart_L4 f_X6_startOfPart_J25
      have h12 := ho.1
      rw [pz_0, if_neg (by rw [pz_lt (by omega) (by omega)]; omega), pz_rd (by omega) (by omega), ht _ (by omega), x3, pz_12, if_pos (by rw [pz_le (by omega) (by omega)]; omega), pz_n1, pz_1, pz_lt1, pz_add, if_neg (by rw [pz_eq (by omega) (by omega)]; omega), pz_lt1, pz_dec (by omega)]
    have s2 := sop_seg hL ht b (lo + exz a) (w + 1) ho.2.2 x2 (by omega) (by omega)
    have s3 := sop_seg hL ht a lo w ho.2.1 x1 (by omega) (by omega)
    rw [pz_dec (by omega)] at s2
    have := stp_tr (stp_tr s1 s2) s3
    rw [show lo + exz (Lean.RArray.branch t a b) - 1 = lo + exz a + exz b by show lo + (exz a + exz b + 1) - 1 = _; omega, show exz (Lean.RArray.branch t a b) = 1 + exz b + exz a by show exz a + exz b + 1 = _; omega]
    exact this
theorem sop_end {M : Mm} {k0 L : Nat} {tk : Nat → Nat} (hL : L ≤ 23) (ht : IA M (k0 + 1) L tk) : ∀ (R : Ex) (lo : Nat), Ex.ok R → exA tk lo R → lo + exz R ≤ L → ∃ m v, m ≤ exz R ∧ stp (fun v : Int32 × Int32 => f_X6_startOfPart_L4 k0 M v.1 v.2) m (nI 1, nI (lo + exz R - 1)) v ∧ f_X6_startOfPart_L4 k0 M v.1 v.2 = some (.inr (.inr (nI lo)))
  | .leaf b, lo, ho, hx, hl => by
    have hx : tk lo = b := hx
    have ho : b < 12 := ho
    have hl : lo + 1 ≤ L := hl
    refine ⟨0, (nI 1, nI lo), Nat.zero_le _, rfl, ?_⟩
    show f_X6_startOfPart_L4 k0 M (nI 1) (nI lo) = _
    unfold f_X6_startOfPart_L4 f_X6_startOfPart_J25
    rw [pz_0, if_neg (by rw [pz_lt (by omega) (by omega)]; omega), pz_rd (by omega) (by omega), ht lo (by omega), hx, pz_12, if_neg (by rw [pz_le (by omega) (by omega)]; omega), pz_n1, pz_lt1, pz_dec (by omega), if_pos rfl]
  | .branch t a b, lo, ho, hx, hl => by
    have hl : lo + (exz a + exz b + 1) ≤ L := hl
    obtain ⟨x1, x2, x3⟩ := hx
    have za := exz_pos a
    have zb := exz_pos b
    have s1 : stp (fun v : Int32 × Int32 => f_X6_startOfPart_L4 k0 M v.1 v.2) 1 (nI 1, nI (lo + exz a + exz b)) (nI (0 + 2), nI (lo + exz a + exz b - 1)) := by
      refine stp_1 ?_
      show f_X6_startOfPart_L4 k0 M (nI 1) (nI (lo + exz a + exz b)) = _
      unfold f_X6_startOfPart_L4 f_X6_startOfPart_J25
      have h12 := ho.1
      rw [pz_0, if_neg (by rw [pz_lt (by omega) (by omega)]; omega), pz_rd (by omega) (by omega), ht _ (by omega), x3, pz_12, if_pos (by rw [pz_le (by omega) (by omega)]; omega), pz_n1, pz_1, pz_lt1, pz_add, if_neg (by rw [pz_eq (by omega) (by omega)]; omega), pz_lt1, pz_dec (by omega)]
    have s2 := sop_seg hL ht b (lo + exz a) 0 ho.2.2 x2 (by omega) (by omega)
    obtain ⟨m, v, hm, s3, e3⟩ := sop_end hL ht a lo ho.2.1 x1 (by omega)
    rw [pz_dec (by omega)] at s2
    refine ⟨1 + exz b + m, v, by show 1 + exz b + m ≤ exz a + exz b + 1; omega, ?_, e3⟩
    rw [show lo + exz (Lean.RArray.branch t a b) - 1 = lo + exz a + exz b by show lo + (exz a + exz b + 1) - 1 = _; omega]
    exact stp_tr (stp_tr s1 s2) s3
theorem sop_ok {M : Mm} {k0 L lo : Nat} {tk : Nat → Nat} {R : Ex} (hL : L ≤ 23) (ht : IA M (k0 + 1) L tk) (ho : Ex.ok R) (hx : exA tk lo R) (hl : lo + exz R ≤ L) : f_X6_startOfPart k0 (nI (lo + exz R - 1)) M = some (nI lo) := by
  obtain ⟨m, v, hm, s, e⟩ := sop_end hL ht R lo ho hx hl
  unfold f_X6_startOfPart
  rw [pz_1, stp_end e s (fu_lt (by omega))]
  rfl
theorem mf_ok {M : Mm} {k0 L f s : Nat} {tk : Nat → Nat} (hL : L ≤ 23) (ht : IA M (k0 + 1) L tk) (hs : s ≤ f) (hf : f < L) : Wp (f_X6_moveForward k0 (nI f) (nI s) M) (fun M' => IA M' (k0 + 1) L (mvt tk f s) ∧ Fr (SB (k0 + 1) (k0 + 1)) M M') := by
  unfold f_X6_moveForward f_X6_moveForward_A10
  rw [pz_rd (by omega) (by omega), ht f hf]
  refine wp_b (P := fun M' => (∀ j, j < L → j ≠ s → M'.1 (k0 + 1) j = nI (mvt tk f s j)) ∧ Fr (SB (k0 + 1) (k0 + 1)) M M') ?_ ?_
  · refine wp_l (fun i (v : Int32 × Mm) => v.1 = nI (f - i) ∧ (∀ j, j < L → v.2.1 (k0 + 1) j = nI (if f - i < j ∧ j ≤ f then tk (j - 1) else tk j)) ∧ Fr (SB (k0 + 1) (k0 + 1)) M v.2) (f - s) (fu_lt (by omega)) ?_ ?_ ⟨rfl, fun j hj => by rw [if_neg (by omega)]; exact ht j hj, Fr.rf⟩
    · rintro i ⟨v, M1⟩ hi ⟨a1, a2, a3⟩
      have a1 : v = nI (f - i) := a1
      subst a1
      have a2 : ∀ j, j < L → M1.1 (k0 + 1) j = nI (if f - i < j ∧ j ≤ f then tk (j - 1) else tk j) := a2
      show Wp (f_X6_moveForward_L10 k0 (nI s) (nI (f - i)) M1) _
      unfold f_X6_moveForward_L10
      have e1 := a2 (f - i - 1) (by omega)
      rw [if_neg (by omega)] at e1
      rw [if_neg (by rw [pz_le (by omega) (by omega)]; omega), pz_n1, pz_1, pz_sub (by omega), pz_rd (by omega) (by omega), e1, pz_wr (by omega) (by omega), pz_lt1, pz_dec (by omega)]
      refine wp_s (Or.inl ⟨_, rfl, by show nI (f - i - 1) = nI (f - (i + 1)); rw [Nat.sub_sub], fun j hj => ?_, Fr.w a3 ⟨by omega, by omega⟩⟩)
      show (wi M1 (k0 + 1) (f - i) _).1 (k0 + 1) j = _
      rw [wi_at]
      by_cases e : j = f - i
      · rw [if_pos e, if_pos (by omega), e]
      · rw [if_neg e, a2 j hj]
        by_cases z : f - i < j ∧ j ≤ f
        · rw [if_pos z, if_pos (by omega)]
        · rw [if_neg z, if_neg (by omega)]
    · rintro ⟨v, M1⟩ ⟨a1, a2, a3⟩
      have a1 : v = nI (f - (f - s)) := a1
      subst a1
      show Wp (f_X6_moveForward_L10 k0 (nI s) (nI (f - (f - s))) M1) _
      unfold f_X6_moveForward_L10
      rw [if_pos ((nI_leI (by omega) (by omega)).mpr (by omega))]
      refine wp_s ⟨_, rfl, fun j hj hne => ?_, a3⟩
      have := a2 j hj
      have this : M1.1 (k0 + 1) j = _ := this
      rw [this]
      unfold mvt
      rw [if_neg hne, show f - (f - s) = s by omega]
  · rintro M1 ⟨a1, a2⟩
    rw [pz_wr (by omega) (by omega)]
    refine wp_s ⟨fun j hj => ?_, a2.w ⟨by omega, by omega⟩⟩
    rw [wi_at]
    by_cases e : j = s
    · rw [if_pos e, e, mvt_s]
    · rw [if_neg e]; exact a1 j hj e
def chg (f g : Nat → Nat) (n : Nat) : Nat := smn (fun i => if f i = g i then 0 else 1) n
theorem chg_le (f g : Nat → Nat) : ∀ n, chg f g n ≤ n
  | 0 => Nat.le_refl _
  | n + 1 => by
    have := chg_le f g n
    show chg f g n + (if f n = g n then 0 else 1) ≤ n + 1
    split <;> omega
theorem cc_ok {M : Mm} {k0 L : Nat} {f g : Nat → Nat} (hL : L ≤ 23) (h5 : M.1 k0 5 = nI L) (hf : IA M (k0 + 1) L f) (hg : IA M (k0 + 2) L g) (bf : ∀ i, i < L → f i < 16) (bg : ∀ i, i < L → g i < 16) : f_X6_countChanged k0 M = some (nI (chg f g L)) := by
  unfold f_X6_countChanged f_X6_countChanged_A4
  have lp : loop (fun v => f_X6_countChanged_L4 k0 M v.1 v.2) FU (nI 0, nI 0) = some (nI (chg f g L)) := by
    refine lp_n (fun i => (nI (chg f g i), nI i)) L (fu_lt (by omega)) (fun i hi => ?_) ?_
    · show f_X6_countChanged_L4 k0 M (nI (chg f g i)) (nI i) = some (Sum.inl (nI (chg f g i + if f i = g i then 0 else 1), nI (i + 1)))
      unfold f_X6_countChanged_L4 f_X6_countChanged_J30
      have b1 := bf i hi
      have b2 := bg i hi
      rw [h5, if_neg (by rw [pz_le (by omega) (by omega)]; omega), pz_rd (by omega) (by omega), hf i hi, pz_rd (by omega) (by omega), hg i hi, pz_lt1, pz_lt1, pz_lt1, pz_1, pz_add, pz_add]
      by_cases e : f i = g i
      · rw [if_pos (by rw [e]), if_pos e]; rfl
      · rw [if_neg (by rw [pz_eq (by omega) (by omega)]; exact e), if_neg e]
    · show f_X6_countChanged_L4 k0 M (nI (chg f g L)) (nI L) = _
      unfold f_X6_countChanged_L4
      rw [h5, if_pos ((nI_leI (by omega) (by omega)).mpr (Nat.le_refl _))]
  rw [pz_0, lp]; rfl
/-- what a normal row is -/
def tpF (e : Ex) (j : Nat) : Nat := (tp e).getD j 0
theorem mn_ok {M : Mm} {k0 n : Nat} {tk : Nat → Nat} {e : Ex} (hn : n ≤ 12) (h1n : 1 ≤ n) (hR : RowE n tk e) (h5 : M.1 k0 5 = nI (2 * n - 1)) (ht : IA M (k0 + 1) (2 * n - 1) tk) :
    ∃ e', RowE n (tpF e) e' ∧ Wp (f_X6_makeNormal k0 M) (fun r => r.1 = nI (chg (tpF e) tk (2 * n - 1)) ∧ IA r.2 (k0 + 1) (2 * n - 1) (tpF e) ∧ Fr (SB (k0 + 1) (k0 + 2)) M r.2) := by
  obtain ⟨hat, hz⟩ := hR.rat
  have hl : (Ex.lvs e).length = n := hR.2.2.2.2
  have tl : ∀ i, i < 2 * n - 1 → tk i < 14 := fun i hi => exA_tl hat hR.1 i (by omega) (by omega)
  have key : Wp (f_X6_makeNormal k0 M) (fun r => ∃ e' tk', RowE n tk' e' ∧ NTr e' ∧ tp e' = tp e ∧ r.1 = nI (chg tk' tk (2 * n - 1)) ∧ IA r.2 (k0 + 1) (2 * n - 1) tk' ∧ Fr (SB (k0 + 1) (k0 + 2)) M r.2) := by
    unfold f_X6_makeNormal f_X6_makeNormal_A23
    rw [h5, pz_gd ⟨⟨by decide, by decide, by rw [pz_0, pz_lt (by omega) (by omega)]; omega⟩, by rw [pz_0, pz_cl (by omega), pz_cl (by omega)]; omega, by rw [pz_0, pz_cl (by omega), pz_cl (by omega)]; omega⟩, pz_lt1]
    generalize hM1 : wr M (k0 + 2) (va_cpy (M.1 (k0 + 1)) (M.1 (k0 + 2)) ((0 : Int32)).toNatClampNeg ((0 : Int32)).toNatClampNeg ((nI (2 * n - 1))).toNatClampNeg) = M1
    have w1 : ∀ k, k ≠ k0 + 2 → M1.1 k = M.1 k := fun k hk => by subst hM1; show (if k = k0 + 2 then _ else M.1 k) = _; rw [if_neg hk]
    have w2 : IA M1 (k0 + 2) (2 * n - 1) tk := fun j hj => by
      subst hM1
      show (if k0 + 2 = k0 + 2 then va_cpy (M.1 (k0 + 1)) (M.1 (k0 + 2)) ((0 : Int32)).toNatClampNeg ((0 : Int32)).toNatClampNeg ((nI (2 * n - 1))).toNatClampNeg else M.1 (k0 + 2)) j = _
      rw [if_pos rfl, pz_0, pz_cl (by omega), pz_cl (by omega)]
      unfold va_cpy
      rw [if_pos (by omega), show 0 + (j - 0) = j by omega]
      exact ht j hj
    have wf : Fr (SB (k0 + 1) (k0 + 2)) M M1 := ⟨fun k hk => w1 k (fun q => hk ⟨by omega, by omega⟩), fun k _ => by subst hM1; rfl⟩
    rw [pz_0]
    refine wp_b (P := fun M2 => ∃ e' tk', RowE n tk' e' ∧ NTr e' ∧ tp e' = tp e ∧ IA M2 (k0 + 1) (2 * n - 1) tk' ∧ IA M2 (k0 + 2) (2 * n - 1) tk ∧ M2.1 k0 5 = nI (2 * n - 1) ∧ Fr (SB (k0 + 1) (k0 + 2)) M M2) ?_ ?_
    · refine wp_l (fun i (v : Int32 × Mm) => v.1 = nI i ∧ ∃ e' tk', RowE n tk' e' ∧ (∀ z g, tc e' z g = tc e z g) ∧ xmu e' + i ≤ 144 ∧ IA v.2 (k0 + 1) (2 * n - 1) tk' ∧ IA v.2 (k0 + 2) (2 * n - 1) tk ∧ v.2.1 k0 5 = nI (2 * n - 1) ∧ Fr (SB (k0 + 1) (k0 + 2)) M v.2) 145 (fu_lt (by omega)) ?_ ?_ ⟨rfl, e, tk, hR, fun _ _ => rfl, ?_, ht.eq (w1 _ (by omega)), w2, by rw [w1 _ (by omega)]; exact h5, wf⟩
      · rintro i ⟨v, M2⟩ hi ⟨a1, e', tk', a2, a3, a4, a5, a6, a7, a8⟩
        have a1 : v = nI i := a1
        subst a1
        have a5 : IA M2 (k0 + 1) (2 * n - 1) tk' := a5
        have a6 : IA M2 (k0 + 2) (2 * n - 1) tk := a6
        have a7 : M2.1 k0 5 = nI (2 * n - 1) := a7
        have a8 : Fr (SB (k0 + 1) (k0 + 2)) M M2 := a8
        obtain ⟨hat', hz'⟩ := a2.rat
        have tl' : ∀ i, i < 2 * n - 1 → tk' i < 14 := fun i hi => exA_tl hat' a2.1 i (by omega) (by omega)
        show Wp (f_X6_makeNormal_L23 k0 (nI i) M2) _
        unfold f_X6_makeNormal_L23
        have p529 : (529 : Int32) = nI 529 := Int32.toInt_inj.mp (by decide)
        rw [p529, if_neg (by rw [pz_le (by omega) (by omega)]; omega)]
        refine wp_b (ft_ok (by omega) (by omega) a7 a5 tl') ?_
        rintro r (⟨rfl, q⟩ | ⟨f, rfl, f1, f2, f3⟩)
        · rw [pz_n1, if_pos rfl]
          refine wp_s (Or.inr ⟨_, rfl, e', tk', a2, nt_of e' 0 a2.1 hat' (fun f _ hf => q f (by omega)), a3 99 true, a5, a6, a7, a8⟩)
        · obtain ⟨s, R, e2, r1, r2, r3, r4, r5, r6, r7, r8, r9, r10⟩ := tw e' 0 f a2.1 hat' (by omega) (by omega) f2 f3
          have zR := exz_pos R
          have so := sop_ok (k0 := k0) (R := R) (lo := s) (show 2 * n - 1 ≤ 23 by omega) a5 r3 r4 (by omega)
          rw [r1] at so
          rw [pz_n1, if_neg (by rw [pz_mm (by omega)]; exact id), pz_1, pz_sub (by omega), so, pz_bd]
          refine wp_b (mf_ok (by omega) a5 (show s ≤ f by omega) (by omega)) ?_
          rintro M3 ⟨b1, b2⟩
          have q3 : ∀ k, k ≠ k0 + 1 → M3.1 k = M2.1 k := fun k hk => b2.1 k (fun h => by unfold SB at h; omega)
          rw [pz_lt1, pz_add]
          refine wp_s (Or.inl ⟨_, rfl, rfl, e2, mvt tk' f s, RowE.of r5 r8 (by rw [r6]; exact a2.2.2.1) (by rw [r6]; exact a2.2.2.2.1) (by rw [r6]; exact a2.2.2.2.2), fun z g => (r9 z g).trans (a3 z g), by omega, b1, a6.eq (q3 _ (by omega)), by rw [q3 _ (by omega)]; exact a7, a8.tr (b2.mono (fun k h => ⟨h.1, Nat.le_trans h.2 (by omega)⟩))⟩)
      · rintro ⟨v, M2⟩ ⟨a1, e', tk', a2, a3, a4, a5, a6, a7, a8⟩
        omega
      · have := xmu_le e
        rw [hl] at this
        have h12 : n * n ≤ 12 * 12 := Nat.mul_le_mul hn hn
        omega
    · rintro M2 ⟨e', tk', a2, a3, a4, a5, a6, a7, a8⟩
      obtain ⟨hat', hz'⟩ := a2.rat
      have tl' : ∀ i, i < 2 * n - 1 → tk' i < 14 := fun i hi => exA_tl hat' a2.1 i (by omega) (by omega)
      rw [cc_ok (by omega) a7 a5 a6 (fun i hi => by have := tl' i hi; omega) (fun i hi => by have := tl i hi; omega), pz_bd]
      exact wp_s ⟨e', tk', a2, a3, a4, rfl, a5, a8⟩
  obtain ⟨⟨v, M2⟩, e1, e', tk', a2, a3, a4, a5, a6, a7⟩ := key
  have a5 : v = _ := a5
  have a6 : IA M2 (k0 + 1) (2 * n - 1) tk' := a6
  obtain ⟨hat', hz'⟩ := a2.rat
  have et : ∀ j, j < 2 * n - 1 → tk' j = tpF e j := fun j hj => by
    have h1 := post_of e' 0 hat' j (by omega)
    rw [Nat.zero_add] at h1
    have h2 := (tc_nt e' a2.1 a3).1 99
    have h2 : tp e' = Ex.post e' := h2
    unfold tpF
    rw [← a4, h2, List.getD_eq_getElem?_getD, h1]; rfl
  refine ⟨e', RowE.of a2.1 (exA_cg e' 0 0 (fun j hj => by rw [Nat.zero_add]; exact (et j (by omega)).symm) hat') a2.2.2.1 a2.2.2.2.1 a2.2.2.2.2, wp_e e1 ⟨?_, a6.cg et, a7⟩⟩
  show v = _
  rw [a5]
  congr 1
  exact smn_cg (fun i hi => by rw [et i hi])
