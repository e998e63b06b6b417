/-! from: the class's and the reference's sorting -/
theorem nah_ok {M : Mm} {k0 k1 n : Nat} {Ah : Nat → Nat → Prop} {L19 : Int32 → Int32 → Mm → Option ((Int32 × Mm) ⊕ Mm)} (hn : n ≤ 12) (h5 : M.1 k0 5 = nI n)
    (hst : ∀ M1 a b s, Fr (SB (k0 + 5) (k0 + 5)) M M1 → a < n → b < n → M1.1 (k0 + 5) b = nI s → (Ah a b → L19 (nI b) (nI a) M1 = some (.inl (nI (a + 1), wi M1 (k0 + 5) b (nI (s ||| 2 ^ a))))) ∧ (¬ Ah a b → L19 (nI b) (nI a) M1 = some (.inl (nI (a + 1), M1))))
    (hex : ∀ M1 b, Fr (SB (k0 + 5) (k0 + 5)) M M1 → L19 (nI b) (nI n) M1 = some (.inr M1)) :
    Wp (loop (fun v : Int32 × Mm => if (v.2.1 k0 5) ≤ v.1 then some (.inr v.2) else wrI 12 v.2 (k0 + 5) v.1 (nI 0) fun M_5 => (loop (fun u => L19 v.1 u.1 u.2) FU (nI 0, M_5)).bind fun z => lt1 (v.1 + 1) fun x2_10 => some (.inl (x2_10, z))) FU (nI 0, M)) (fun M' => (∃ f, IA M' (k0 + 5) n f ∧ ∀ b, b < n → AhM Ah n b n (f b)) ∧ Fr (SB (k0 + 5) (k0 + 5)) M M') := by
  refine wp_for (fun i M' => (∃ f, IA M' (k0 + 5) i f ∧ ∀ b, b < i → AhM Ah n b n (f b)) ∧ Fr (SB (k0 + 5) (k0 + 5)) M M') n (by omega) ?_ ?_ ⟨⟨fun _ => 0, IA.nil, fun b hb => by omega⟩, Fr.rf⟩
  · rintro i M1 hi ⟨⟨f, a1, a2⟩, a3⟩
    have c5 : M1.1 k0 5 = nI n := by rw [a3.1 k0 (fun h => by unfold SB at h; omega)]; exact h5
    show Wp (if M1.1 k0 5 ≤ nI i then (some (Sum.inr M1) : Option ((Int32 × Mm) ⊕ Mm)) else wrI 12 M1 (k0 + 5) (nI i) (nI 0) fun M_5 => (loop (fun u => L19 (nI i) u.1 u.2) FU (nI 0, M_5)).bind fun z => lt1 (nI i + 1) fun x2_10 => some (Sum.inl (x2_10, z))) _
    rw [c5, if_neg (by rw [pz_le (by omega) (by omega)]; omega), pz_wr (by omega) (by omega)]
    refine wp_b (wp_for (step := fun u => L19 (nI i) u.1 u.2) (fun a M' => (∃ s, M'.1 (k0 + 5) i = nI s ∧ AhM Ah n i a s) ∧ IA M' (k0 + 5) i f ∧ Fr (SB (k0 + 5) (k0 + 5)) M M') n (by omega) ?_ ?_ ⟨⟨0, by rw [wi_at, if_pos rfl], AhM.z⟩, ?_, a3.w ⟨by omega, by omega⟩⟩) ?_
    · rintro a M2 ha ⟨⟨s, b1, b2⟩, b3, b4⟩
      show Wp (L19 (nI i) (nI a) M2) _
      by_cases q : Ah a i
      · rw [(hst M2 a i s b4 ha hi b1).1 q]
        refine wp_s ⟨_, rfl, ⟨_, by rw [wi_at, if_pos rfl], b2.y ha q⟩, fun j hj => ?_, b4.w ⟨by omega, by omega⟩⟩
        rw [wi_at, if_neg (by omega)]; exact b3 j hj
      · rw [(hst M2 a i s b4 ha hi b1).2 q]
        exact wp_s ⟨_, rfl, ⟨s, b1, b2.n q⟩, b3, b4⟩
    · rintro M2 ⟨b1, b3, b4⟩
      exact hex M2 i b4
    · intro j hj
      rw [wi_at, if_neg (by omega)]; exact a1 j hj
    · rintro M2 ⟨⟨s, b1, b2⟩, b3, b4⟩
      rw [pz_lt1, pz_1, pz_add]
      refine wp_s ⟨_, rfl, ⟨fset f i s, fun j hj => ?_, fun b hb => ?_⟩, b4⟩
      · by_cases e : j = i
        · rw [e, fset_eq]; exact b1
        · rw [fset_ne e]; exact b3 j (by omega)
      · by_cases e : b = i
        · rw [e, fset_eq]; exact b2
        · rw [fset_ne e]; exact a2 b (by omega)
  · rintro M1 ⟨_, a3⟩
    have c5 : M1.1 k0 5 = nI n := by rw [a3.1 k0 (fun h => by unfold SB at h; omega)]; exact h5
    show (if M1.1 k0 5 ≤ nI n then (some (Sum.inr M1) : Option ((Int32 × Mm) ⊕ Mm)) else _) = _
    rw [c5, if_pos ((nI_leI (by omega) (by omega)).mpr (Nat.le_refl _))]
theorem nao_ok {M : Mm} {k0 k1 n td : Nat} {w h x y : Nat → Nat} (g : GB n td w h x y) (c : CG M k1 n td w h x y) (hk : k1 + 4 < k0 + 5) (h5 : M.1 k0 5 = nI n) : Wp (f_X4_noteAheadInOne k0 k1 M) (fun M' => (∃ f, IA M' (k0 + 5) n f ∧ ∀ b, b < n → AhM (Ah1 x y (swd w h td) (swd h w td)) n b n (f b)) ∧ Fr (SB (k0 + 5) (k0 + 5)) M M') := by
  have hn := g.n
  unfold f_X4_noteAheadInOne f_X4_noteAheadInOne_A2 f_X4_noteAheadInOne_L2 f_X4_noteAheadInOne_A19
  rw [pz_0]
  refine wp_b (nah_ok (L19 := f_X4_noteAheadInOne_L19 k0 k1) (k1 := k1) hn h5 (fun M1 a b s hf ha hb e => na1_s g (c.fr hf (fun k h => by unfold SB at h; omega)) (by rw [hf.1 k0 (fun h => by unfold SB at h; omega)]; exact h5) ha hb e) (fun M1 b hf => ?_)) (fun M' h => wp_s h)
  unfold f_X4_noteAheadInOne_L19
  rw [hf.1 k0 (fun h => by unfold SB at h; omega), h5, if_pos ((nI_leI (by omega) (by omega)).mpr (Nat.le_refl _))]
theorem nat_ok {M : Mm} {k0 k1 n td : Nat} {w h x y : Nat → Nat} (g : GB n td w h x y) (c : CG M k1 n td w h x y) (hk : k1 + 4 < k0 + 5) (h5 : M.1 k0 5 = nI n) : Wp (f_X4_noteAheadInTwo k0 k1 M) (fun M' => (∃ f, IA M' (k0 + 5) n f ∧ ∀ b, b < n → AhM (Ah2 x y (swd w h td) (swd h w td)) n b n (f b)) ∧ Fr (SB (k0 + 5) (k0 + 5)) M M') := by
  have hn := g.n
  unfold f_X4_noteAheadInTwo f_X4_noteAheadInTwo_A2 f_X4_noteAheadInTwo_L2 f_X4_noteAheadInTwo_A19
  rw [pz_0]
  refine wp_b (nah_ok (L19 := f_X4_noteAheadInTwo_L19 k0 k1) (k1 := k1) hn h5 (fun M1 a b s hf ha hb e => na2_s g (c.fr hf (fun k h => by unfold SB at h; omega)) (by rw [hf.1 k0 (fun h => by unfold SB at h; omega)]; exact h5) ha hb e) (fun M1 b hf => ?_)) (fun M' h => wp_s h)
  unfold f_X4_noteAheadInTwo_L19
  rw [hf.1 k0 (fun h => by unfold SB at h; omega), h5, if_pos ((nI_leI (by omega) (by omega)).mpr (Nat.le_refl _))]
theorem ahm_free {Ah : Nat → Nat → Prop} {n b m f : Nat} (h : AhM Ah n b n f) (hm : m < 2 ^ n) (hb : m.testBit b = true) : f &&& m = 0 ↔ Fre Ah n m b := by
  constructor
  · intro e
    refine ⟨hb, fun a ha hma hA => ?_⟩
    have := congrArg (·.testBit a) e
    simp only [Nat.testBit_and, Nat.zero_testBit, hma, (h.2 a).mpr ⟨ha, hA⟩] at this
    cases this
  · intro q
    apply Nat.eq_of_testBit_eq
    intro i
    rw [Nat.testBit_and, Nat.zero_testBit]
    cases e1 : f.testBit i
    · rfl
    · cases e2 : m.testBit i
      · rfl
      · obtain ⟨i1, i2⟩ := (h.2 i).mp e1
        exact absurd i2 (q.2 i i1 e2)
theorem ff_ok {M : Mm} {k0 n m b : Nat} {Ah : Nat → Nat → Prop} {f : Nat → Nat} (hn : n ≤ 12) (h5 : M.1 k0 5 = nI n) (ef : IA M (k0 + 5) n f) (hf : ∀ b, b < n → AhM Ah n b n (f b)) (hm : m < 2 ^ n) (hb : FF Ah n m b) : f_X4_firstFree k0 (nI m) M = some (nI b) := by
  unfold f_X4_firstFree
  have hm2 := p12 hm hn
  have lp : loop (fun v => f_X4_firstFree_L2 k0 (nI m) M v) FU (nI 0) = some (.inr (nI b)) := by
    refine lp_n (fun i => nI i) b (fu_lt (by have := hb.1; omega)) (fun i hi => ?_) ?_
    · show f_X4_firstFree_L2 k0 (nI m) M (nI i) = _
      unfold f_X4_firstFree_L2 f_X4_firstFree_J32
      have hin : i < n := by have := hb.1; omega
      have q1 : ¬ n ≤ i := by omega
      have q2 := p12 (and_lt (m := m) (hf i hin).1) hn
      simp (disch := first | assumption | omega) only [↓pz_n1, pz_mm, pz_mm', ↓pz_lt1, ↓pz_bd, ↓pz_bd2, ↓pz_tn, ↓pz_ts, pz_0, pz_1, pz_2, pz_3, pz_4, pz_12, pz_13, pz_15, pz_16, pz_20, pz_23, pz_24, pz_200, ↓pz_rd, ↓pz_wr, pz_add, pz_mul, pz_sub, pz_le, pz_lt, pz_eq, pz_max, pz_min, pz_cl, pz_and, pz_or, pz_shl, pz_clr, pz_bit, pz_ff, pz_tt, pz_5, pz_6, pz_7, pz_10000, pz_sb, pz_b0, pz_b1, h5, q1, ef i hin]
      by_cases q : m.testBit i = true
      · rw [if_pos q, if_neg (fun e => hb.2.2 i hi ((ahm_free (hf i hin) hm q).mp e))]
      · rw [if_neg q]
    · show f_X4_firstFree_L2 k0 (nI m) M (nI b) = _
      unfold f_X4_firstFree_L2
      have q1 : ¬ n ≤ b := by have := hb.1; omega
      have q2 := p12 (and_lt (m := m) (hf b hb.1).1) hn
      have q3 := hb.1
      simp (disch := first | assumption | omega) only [↓pz_n1, pz_mm, pz_mm', ↓pz_lt1, ↓pz_bd, ↓pz_bd2, ↓pz_tn, ↓pz_ts, pz_0, pz_1, pz_2, pz_3, pz_4, pz_12, pz_13, pz_15, pz_16, pz_20, pz_23, pz_24, pz_200, ↓pz_rd, ↓pz_wr, pz_add, pz_mul, pz_sub, pz_le, pz_lt, pz_eq, pz_max, pz_min, pz_cl, pz_and, pz_or, pz_shl, pz_clr, pz_bit, pz_ff, pz_tt, pz_5, pz_6, pz_7, pz_10000, pz_sb, pz_b0, pz_b1, h5, q1, ef b hb.1, hb.2.1.1]
      rw [if_pos ((ahm_free (hf b hb.1) hm hb.2.1.1).mpr hb.2.1)]
  rw [pz_0, lp]; rfl
theorem IA.fx {M : Mm} {k n x : Nat} {a : Nat → Nat} (h : IA M k n a) : IA (wi M k n (nI x)) k (n + 1) (fset a n x) := h.ext
theorem so_ok {M : Mm} {k0 k1 n : Nat} {Ah : Nat → Nat → Prop} {f : Nat → Nat} (hn : n ≤ 12) (hk : k1 ≠ k0 ∧ k1 ≠ k0 + 5) (h5 : M.1 k0 5 = nI n) (ef : IA M (k0 + 5) n f) (hf : ∀ b, b < n → AhM Ah n b n (f b)) (hA : AlF Ah n) : Wp (f_X4_sortOut k0 k1 M) (fun M' => (∃ o mk, IA M' k1 n o ∧ SoO Ah n o mk n) ∧ Fr (SB k1 k1) M M') := by
  unfold f_X4_sortOut f_X4_sortOut_A11
  rw [h5, mask_of (M := M) hn, pz_lt1, pz_0]
  refine wp_b (P := fun M' => (∃ o mk, IA M' k1 n o ∧ SoO Ah n o mk n) ∧ Fr (SB k1 k1) M M') ?_ (fun M' h => wp_s h)
  refine wp_l (fun i (v : Int32 × Int32 × Mm) => v.2.1 = nI i ∧ (∃ o mk, v.1 = nI (mk i) ∧ IA v.2.2 k1 i o ∧ SoO Ah n o mk i) ∧ Fr (SB k1 k1) M v.2.2) n (fu_lt (by omega)) ?_ ?_ ⟨rfl, ⟨fun _ => 0, fun _ => 2 ^ n - 1, rfl, IA.nil, rfl, fun k hk => by omega⟩, Fr.rf⟩
  · rintro i ⟨x2, x3, M1⟩ hi ⟨a1, ⟨o, mk, a2, a3, a4⟩, a5⟩
    have a1 : x3 = nI i := a1
    have a2 : x2 = nI (mk i) := a2
    subst a1 a2
    have a3 : IA M1 k1 i o := a3
    have a5 : Fr (SB k1 k1) M M1 := a5
    have c5 : M1.1 k0 5 = nI n := by rw [a5.1 k0 (fun h => by unfold SB at h; omega)]; exact h5
    have cf : IA M1 (k0 + 5) n f := ef.eq (a5.1 _ (fun h => by unfold SB at h; omega))
    have hm := (a4.cnt (by omega) i (Nat.le_refl _)).2
    obtain ⟨b, hb⟩ := ff_ex hA (a4.ne hi)
    have hbn := hb.1
    show Wp (f_X4_sortOut_L11 k0 k1 (nI (mk i)) (nI i) M1) _
    unfold f_X4_sortOut_L11
    rw [c5, if_neg (by rw [pz_le (by omega) (by omega)]; omega), ff_ok hn c5 cf hf hm hb, pz_bd, pz_wr (by omega) (by omega), pz_rd (by omega) (by omega), wi_at, if_pos rfl, pz_lt1, pz_lt1, pz_n1, pz_1, pz_shl (by omega), pz_clr, pz_add]
    refine wp_s (Or.inl ⟨_, rfl, rfl, ⟨fset o i b, fset mk (i + 1) (clr (mk i) (2 ^ b)), ?_, a3.fx, a4.ext hb⟩, a5.w ⟨by omega, by omega⟩⟩)
    show nI (clr (mk i) (2 ^ b)) = _
    rw [fset_eq]
  · rintro ⟨x2, x3, M1⟩ ⟨a1, ⟨o, mk, a2, a3, a4⟩, a5⟩
    have a1 : x3 = nI n := a1
    subst a1
    have a5 : Fr (SB k1 k1) M M1 := a5
    have c5 : M1.1 k0 5 = nI n := by rw [a5.1 k0 (fun h => by unfold SB at h; omega)]; exact h5
    show Wp (f_X4_sortOut_L11 k0 k1 x2 (nI n) M1) _
    unfold f_X4_sortOut_L11
    rw [c5, if_pos ((nI_leI (by omega) (by omega)).mpr (Nat.le_refl _))]
    exact wp_s ⟨_, rfl, ⟨o, mk, a3, a4⟩, a5⟩
/-! the reference's sorting -/
theorem rs_in {M : Mm} {n m b t : Nat} {Ah : Nat → Nat → Prop} (hn : n ≤ 12) (h1 : M.1 69 1 = nI n) (hb : b < n) (hm : m < 4096) (hself : ¬ Ah b b) (hev : ∀ a, a < n → (Ah a b → f_X10_ahead (nI a) (nI b) (nI t) M = some (nI 1)) ∧ (¬ Ah a b → f_X10_ahead (nI a) (nI b) (nI t) M = some (nI 0))) :
    Wp (loop (fun v => f_X10_sort_L57 (nI t) (nI m) M (nI b) v.1 v.2) FU (nI 1, nI 0)) (fun r => (r = nI 1 ∧ ∀ a, a < n → m.testBit a = true → ¬ Ah a b) ∨ (r = nI 0 ∧ ¬ ∀ a, a < n → m.testBit a = true → ¬ Ah a b)) := by
  refine wp_l (fun a (v : Int32 × Int32) => v.2 = nI a ∧ ((v.1 = nI 1 ∧ ∀ c, c < a → m.testBit c = true → ¬ Ah c b) ∨ (v.1 = nI 0 ∧ ¬ ∀ a, a < n → m.testBit a = true → ¬ Ah a b))) n (fu_lt (by omega)) ?_ ?_ ⟨rfl, Or.inl ⟨rfl, fun c hc => by omega⟩⟩
  · rintro a ⟨x7, x8⟩ ha ⟨a1, a2⟩
    have a1 : x8 = nI a := a1
    subst a1
    show Wp (f_X10_sort_L57 (nI t) (nI m) M (nI b) x7 (nI a)) _
    unfold f_X10_sort_L57 f_X10_sort_J99 f_X10_sort_J104
    have q1 : ¬ n ≤ a := by omega
    rcases a2 with ⟨a2, a3⟩ | ⟨a2, a3⟩
    · have a2 : x7 = nI 1 := a2
      subst a2
      have go : (m.testBit a = true → ¬ Ah a b) → Wp (some (Sum.inl (nI 1, nI (a + 1))) : Option ((Int32 × Int32) ⊕ Int32)) (fun r => (∃ w, r = .inl w ∧ w.2 = nI (a + 1) ∧ ((w.1 = nI 1 ∧ ∀ c, c < a + 1 → m.testBit c = true → ¬ Ah c b) ∨ (w.1 = nI 0 ∧ ¬ ∀ a, a < n → m.testBit a = true → ¬ Ah a b))) ∨ ∃ x, r = .inr x ∧ ((x = nI 1 ∧ ∀ a, a < n → m.testBit a = true → ¬ Ah a b) ∨ (x = nI 0 ∧ ¬ ∀ a, a < n → m.testBit a = true → ¬ Ah a b))) := by
        intro q
        refine wp_s (Or.inl ⟨_, rfl, rfl, Or.inl ⟨rfl, fun c hc hmc => ?_⟩⟩)
        by_cases e : c = a
        · subst e; exact q hmc
        · exact a3 c (by omega) hmc
      simp (disch := first | assumption | omega) only [↓pz_n1, pz_mm, pz_mm', ↓pz_lt1, ↓pz_bd, ↓pz_bd2, ↓pz_tn, ↓pz_ts, pz_0, pz_1, pz_2, pz_3, pz_4, pz_12, pz_13, pz_15, pz_16, pz_20, pz_23, pz_24, pz_200, ↓pz_rd, ↓pz_wr, pz_add, pz_mul, pz_sub, pz_le, pz_lt, pz_eq, pz_max, pz_min, pz_cl, pz_and, pz_or, pz_shl, pz_clr, pz_bit, pz_ff, pz_tt, pz_5, pz_6, pz_7, pz_10000, pz_sb, pz_b0, pz_b1, h1, q1, pz_e10]
      by_cases e : a = b
      · rw [if_pos e]
        exact go (fun _ => by rw [e]; exact hself)
      · rw [if_neg e]
        by_cases hma : m.testBit a = true
        · rw [if_neg (by rw [hma]; decide)]
          by_cases hA : Ah a b
          · rw [(hev a ha).1 hA]
            simp (disch := first | assumption | omega) only [↓pz_n1, pz_mm, pz_mm', ↓pz_lt1, ↓pz_bd, ↓pz_bd2, ↓pz_tn, ↓pz_ts, pz_0, pz_1, pz_2, pz_3, pz_4, pz_12, pz_13, pz_15, pz_16, pz_20, pz_23, pz_24, pz_200, ↓pz_rd, ↓pz_wr, pz_add, pz_mul, pz_sub, pz_le, pz_lt, pz_eq, pz_max, pz_min, pz_cl, pz_and, pz_or, pz_shl, pz_clr, pz_bit, pz_ff, pz_tt, pz_5, pz_6, pz_7, pz_10000, pz_sb, pz_b0, pz_b1, pz_e10]
            exact wp_s (Or.inl ⟨_, rfl, rfl, Or.inr ⟨rfl, fun q => q a ha hma hA⟩⟩)
          · rw [(hev a ha).2 hA]
            simp (disch := first | assumption | omega) only [↓pz_n1, pz_mm, pz_mm', ↓pz_lt1, ↓pz_bd, ↓pz_bd2, ↓pz_tn, ↓pz_ts, pz_0, pz_1, pz_2, pz_3, pz_4, pz_12, pz_13, pz_15, pz_16, pz_20, pz_23, pz_24, pz_200, ↓pz_rd, ↓pz_wr, pz_add, pz_mul, pz_sub, pz_le, pz_lt, pz_eq, pz_max, pz_min, pz_cl, pz_and, pz_or, pz_shl, pz_clr, pz_bit, pz_ff, pz_tt, pz_5, pz_6, pz_7, pz_10000, pz_sb, pz_b0, pz_b1]
            exact go (fun _ => hA)
        · rw [if_pos (by rw [Bool.not_eq_true] at hma; exact hma)]
          exact go (fun q => absurd q hma)
    · have a2 : x7 = nI 0 := a2
      subst a2
      simp (disch := first | assumption | omega) only [↓pz_n1, pz_mm, pz_mm', ↓pz_lt1, ↓pz_bd, ↓pz_bd2, ↓pz_tn, ↓pz_ts, pz_0, pz_1, pz_2, pz_3, pz_4, pz_12, pz_13, pz_15, pz_16, pz_20, pz_23, pz_24, pz_200, ↓pz_rd, ↓pz_wr, pz_add, pz_mul, pz_sub, pz_le, pz_lt, pz_eq, pz_max, pz_min, pz_cl, pz_and, pz_or, pz_shl, pz_clr, pz_bit, pz_ff, pz_tt, pz_5, pz_6, pz_7, pz_10000, pz_sb, pz_b0, pz_b1, h1, q1]
      exact wp_s (Or.inr ⟨_, rfl, Or.inr ⟨rfl, a3⟩⟩)
  · rintro ⟨x7, x8⟩ ⟨a1, a2⟩
    have a1 : x8 = nI n := a1
    subst a1
    show Wp (f_X10_sort_L57 (nI t) (nI m) M (nI b) x7 (nI n)) _
    unfold f_X10_sort_L57
    rw [h1, if_pos ((nI_leI (by omega) (by omega)).mpr (Nat.le_refl _))]
    exact wp_s ⟨_, rfl, a2⟩
theorem rs_ff {M : Mm} {n m b t : Nat} {Ah : Nat → Nat → Prop} (hn : n ≤ 12) (h1n : 1 ≤ n) (h1 : M.1 69 1 = nI n) (hm : m < 4096) (hself : ∀ b, b < n → ¬ Ah b b) (hev : ∀ a b, a < n → b < n → (Ah a b → f_X10_ahead (nI a) (nI b) (nI t) M = some (nI 1)) ∧ (¬ Ah a b → f_X10_ahead (nI a) (nI b) (nI t) M = some (nI 0))) (hb : FF Ah n m b) :
    loop (fun v => f_X10_sort_L32 (nI t) (nI m) M v.1 v.2) FU (m1, nI (n - 1)) = some (nI b) := by
  have key : Wp (loop (fun v => f_X10_sort_L32 (nI t) (nI m) M v.1 v.2) FU (m1, nI (n - 1))) (fun r => r = nI b) := by
    refine wp_l (fun s (v : Int32 × Int32) => v.2 = dn n s ∧ ((v.1 = m1 ∧ ∀ c, n - s ≤ c → c < n → ¬ Fre Ah n m c) ∨ ∃ c, v.1 = nI c ∧ n - s ≤ c ∧ c < n ∧ Fre Ah n m c ∧ ∀ d, n - s ≤ d → d < c → ¬ Fre Ah n m d)) n (fu_lt (by omega)) ?_ ?_ ⟨by rw [dn_y (by omega)]; rfl, Or.inl ⟨rfl, fun c h1 h2 => by omega⟩⟩
    · rintro s ⟨x5, x6⟩ hs ⟨a1, a2⟩
      have a1 : x6 = dn n s := a1
      rw [dn_y hs] at a1
      subst a1
      show Wp (f_X10_sort_L32 (nI t) (nI m) M x5 (nI (n - 1 - s))) _
      unfold f_X10_sort_L32 f_X10_sort_J52 f_X10_sort_A57 f_X10_sort_J121
      have hc : n - 1 - s < n := by omega
      have z0 : ¬ n - 1 - s < 0 := by omega
      have keep : ¬ Fre Ah n m (n - 1 - s) → Wp (some (Sum.inl (x5, nI (n - 1 - s) + m1)) : Option ((Int32 × Int32) ⊕ Int32)) (fun r => (∃ w, r = .inl w ∧ w.2 = dn n (s + 1) ∧ ((w.1 = m1 ∧ ∀ c, n - (s + 1) ≤ c → c < n → ¬ Fre Ah n m c) ∨ ∃ c, w.1 = nI c ∧ n - (s + 1) ≤ c ∧ c < n ∧ Fre Ah n m c ∧ ∀ d, n - (s + 1) ≤ d → d < c → ¬ Fre Ah n m d)) ∨ ∃ x, r = .inr x ∧ x = nI b) := by
        intro q
        refine wp_s (Or.inl ⟨_, rfl, dn_s hs, ?_⟩)
        rcases a2 with ⟨e1, e2⟩ | ⟨c, e1, e2, e3, e4, e5⟩
        · refine Or.inl ⟨e1, fun d d1 d2 => ?_⟩
          by_cases e : d = n - 1 - s
          · rw [e]; exact q
          · exact e2 d (by omega) d2
        · refine Or.inr ⟨c, e1, by omega, e3, e4, fun d d1 d2 => ?_⟩
          by_cases e : d = n - 1 - s
          · rw [e]; exact q
          · exact e5 d (by omega) d2
      simp (disch := first | assumption | omega) only [↓pz_n1, pz_mm, pz_mm', ↓pz_lt1, ↓pz_bd, ↓pz_bd2, ↓pz_tn, ↓pz_ts, pz_0, pz_1, pz_2, pz_3, pz_4, pz_12, pz_13, pz_15, pz_16, pz_20, pz_23, pz_24, pz_200, ↓pz_rd, ↓pz_wr, pz_add, pz_mul, pz_sub, pz_le, pz_lt, pz_eq, pz_max, pz_min, pz_cl, pz_and, pz_or, pz_shl, pz_clr, pz_bit, pz_ff, pz_tt, pz_5, pz_6, pz_7, pz_10000, pz_sb, pz_b0, pz_b1, z0]
      by_cases hmc : m.testBit (n - 1 - s) = true
      · rw [if_pos hmc]
        refine wp_b (rs_in hn h1 hc hm (hself _ hc) (fun a ha => hev a _ ha hc)) ?_
        rintro r (⟨rfl, h⟩ | ⟨rfl, h⟩)
        · simp (disch := first | assumption | omega) only [↓pz_n1, pz_mm, pz_mm', ↓pz_lt1, ↓pz_bd, ↓pz_bd2, ↓pz_tn, ↓pz_ts, pz_0, pz_1, pz_2, pz_3, pz_4, pz_12, pz_13, pz_15, pz_16, pz_20, pz_23, pz_24, pz_200, ↓pz_rd, ↓pz_wr, pz_add, pz_mul, pz_sub, pz_le, pz_lt, pz_eq, pz_max, pz_min, pz_cl, pz_and, pz_or, pz_shl, pz_clr, pz_bit, pz_ff, pz_tt, pz_5, pz_6, pz_7, pz_10000, pz_sb, pz_b0, pz_b1, pz_e10]
          refine wp_s (Or.inl ⟨_, rfl, dn_s hs, Or.inr ⟨n - 1 - s, rfl, by omega, hc, ⟨hmc, h⟩, fun d d1 d2 => by omega⟩⟩)
        · simp (disch := first | assumption | omega) only [↓pz_n1, pz_mm, pz_mm', ↓pz_lt1, ↓pz_bd, ↓pz_bd2, ↓pz_tn, ↓pz_ts, pz_0, pz_1, pz_2, pz_3, pz_4, pz_12, pz_13, pz_15, pz_16, pz_20, pz_23, pz_24, pz_200, ↓pz_rd, ↓pz_wr, pz_add, pz_mul, pz_sub, pz_le, pz_lt, pz_eq, pz_max, pz_min, pz_cl, pz_and, pz_or, pz_shl, pz_clr, pz_bit, pz_ff, pz_tt, pz_5, pz_6, pz_7, pz_10000, pz_sb, pz_b0, pz_b1]
          exact keep (fun q => h q.2)
      · rw [if_neg hmc]
        have lp : loop (fun v => f_X10_sort_L57 (nI t) (nI m) M (nI (n - 1 - s)) v.1 v.2) FU (nI 0, nI 0) = some (nI 0) := by
          refine lp_n (step := fun v => f_X10_sort_L57 (nI t) (nI m) M (nI (n - 1 - s)) v.1 v.2) (fun _ => (nI 0, nI 0)) 0 (fu_lt (by omega)) (fun i hi => by omega) ?_
          show f_X10_sort_L57 (nI t) (nI m) M (nI (n - 1 - s)) (nI 0) (nI 0) = _
          unfold f_X10_sort_L57
          rw [h1, if_neg (by rw [pz_le (by omega) (by omega)]; omega), pz_0, if_pos rfl]
        rw [lp]
        simp (disch := first | assumption | omega) only [↓pz_n1, pz_mm, pz_mm', ↓pz_lt1, ↓pz_bd, ↓pz_bd2, ↓pz_tn, ↓pz_ts, pz_0, pz_1, pz_2, pz_3, pz_4, pz_12, pz_13, pz_15, pz_16, pz_20, pz_23, pz_24, pz_200, ↓pz_rd, ↓pz_wr, pz_add, pz_mul, pz_sub, pz_le, pz_lt, pz_eq, pz_max, pz_min, pz_cl, pz_and, pz_or, pz_shl, pz_clr, pz_bit, pz_ff, pz_tt, pz_5, pz_6, pz_7, pz_10000, pz_sb, pz_b0, pz_b1]
        exact keep (fun q => hmc q.1)
    · rintro ⟨x5, x6⟩ ⟨a1, a2⟩
      have a1 : x6 = dn n n := a1
      rw [dn_n] at a1
      subst a1
      show Wp (f_X10_sort_L32 (nI t) (nI m) M x5 m1) _
      unfold f_X10_sort_L32
      rw [pz_0, if_pos (by decide)]
      refine wp_s ⟨_, rfl, ?_⟩
      rcases a2 with ⟨_, e2⟩ | ⟨c, e1, e2, e3, e4, e5⟩
      · exact absurd hb.2.1 (e2 b (by omega) hb.1)
      · have e1 : x5 = nI c := e1
        have hcb : FF Ah n m c := ⟨e3, e4, fun d hd => e5 d (by omega) hd⟩
        rw [e1, hcb.un hb]
  obtain ⟨r, e, h⟩ := key
  rw [e, h]
theorem rso_ok {M : Mm} {n k2 t : Nat} {Ah : Nat → Nat → Prop} (hn : n ≤ 12) (h1n : 1 ≤ n) (hk : 81 ≤ k2 ∧ k2 ≤ 104) (h1 : M.1 69 1 = nI n) (hself : ∀ b, b < n → ¬ Ah b b) (hev : ∀ M', Scr M M' → ∀ a b, a < n → b < n → (Ah a b → f_X10_ahead (nI a) (nI b) (nI t) M' = some (nI 1)) ∧ (¬ Ah a b → f_X10_ahead (nI a) (nI b) (nI t) M' = some (nI 0))) (hA : AlF Ah n) :
    Wp (f_X10_sort (nI t) k2 M) (fun r => r.1 = nI 1 ∧ (∃ o mk, IA r.2 k2 n o ∧ SoO Ah n o mk n) ∧ Fr (SB k2 k2) M r.2) := by
  unfold f_X10_sort
  rw [h1, mask_of (M := M) hn, pz_lt1, pz_0]
  refine wp_b (P := fun r => ∃ M', r = .inl M' ∧ (∃ o mk, IA M' k2 n o ∧ SoO Ah n o mk n) ∧ Fr (SB k2 k2) M M') ?_ ?_
  · refine wp_l (fun i (v : Int32 × Int32 × Mm) => v.2.1 = nI i ∧ (∃ o mk, v.1 = nI (mk i) ∧ IA v.2.2 k2 i o ∧ SoO Ah n o mk i) ∧ Fr (SB k2 k2) M v.2.2) n (fu_lt (by omega)) ?_ ?_ ⟨rfl, ⟨fun _ => 0, fun _ => 2 ^ n - 1, rfl, IA.nil, rfl, fun k hk => by omega⟩, Fr.rf⟩
    · rintro i ⟨x3, x4, M1⟩ hi ⟨a1, ⟨o, mk, a2, a3, a4⟩, a5⟩
      have a1 : x4 = nI i := a1
      have a2 : x3 = nI (mk i) := a2
      subst a1 a2
      have a3 : IA M1 k2 i o := a3
      have a5 : Fr (SB k2 k2) M M1 := a5
      have c1 : M1.1 69 1 = nI n := by rw [a5.1 69 (fun h => by unfold SB at h; omega)]; exact h1
      have hm := (a4.cnt (by omega) i (Nat.le_refl _)).2
      obtain ⟨b, hb⟩ := ff_ex hA (a4.ne hi)
      have hbn := hb.1
      show Wp (f_X10_sort_L12 (nI t) k2 (nI (mk i)) (nI i) M1) _
      unfold f_X10_sort_L12 f_X10_sort_A32
      rw [c1, if_neg (by rw [pz_le (by omega) (by omega)]; omega), pz_lt1, pz_n1, pz_1, pz_sub (by omega), rs_ff hn h1n c1 (p12 hm hn) hself (hev M1 (scr_of a5 hk)) hb, pz_bd, if_neg (by rw [pz_mm (by omega)]; exact id), pz_wr (by omega) (by omega), pz_lt1, pz_lt1, pz_shl (by omega), pz_clr, pz_add]
      refine wp_s (Or.inl ⟨_, rfl, rfl, ⟨fset o i b, fset mk (i + 1) (clr (mk i) (2 ^ b)), ?_, a3.fx, a4.ext hb⟩, a5.w ⟨by omega, by omega⟩⟩)
      show nI (clr (mk i) (2 ^ b)) = _
      rw [fset_eq]
    · rintro ⟨x3, x4, M1⟩ ⟨a1, ⟨o, mk, a2, a3, a4⟩, a5⟩
      have a1 : x4 = nI n := a1
      subst a1
      have a5 : Fr (SB k2 k2) M M1 := a5
      have c1 : M1.1 69 1 = nI n := by rw [a5.1 69 (fun h => by unfold SB at h; omega)]; exact h1
      show Wp (f_X10_sort_L12 (nI t) k2 x3 (nI n) M1) _
      unfold f_X10_sort_L12
      rw [c1, if_pos ((nI_leI (by omega) (by omega)).mpr (Nat.le_refl _))]
      exact wp_s ⟨_, rfl, M1, rfl, ⟨o, mk, a3, a4⟩, a5⟩
  · rintro r ⟨M', rfl, h, h2⟩
    exact wp_s ⟨pz_1, h, h2⟩
theorem ah1_self {x y w h : Nat → Nat} {b : Nat} (hw : 1 ≤ w b) (hh : 1 ≤ h b) : ¬ Ah1 x y w h b b := by unfold Ah1; omega
theorem ah2_self {x y w h : Nat → Nat} {b : Nat} (hw : 1 ≤ w b) (hh : 1 ≤ h b) : ¬ Ah2 x y w h b b := by unfold Ah2; omega
