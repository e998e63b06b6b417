/-! orders: the pigeons, places in an order -/
theorem inj_le {n : Nat} : ∀ {m : Nat} {f : Nat → Nat}, (∀ i, i < m → f i < n) → (∀ i j, i < m → j < m → f i = f j → i = j) → m ≤ n := by
  induction n with
  | zero =>
    intro m f h1 _
    rcases Nat.eq_zero_or_pos m with h | h
    · omega
    · have := h1 0 h; omega
  | succ n ih =>
    intro m f h1 h2
    by_cases hx : ∃ i, i < m ∧ f i = n
    · obtain ⟨i, hi, hfi⟩ := hx
      have := ih (m := m - 1) (f := fun j => f (if j = i then m - 1 else j)) ?_ ?_
      · omega
      · intro j hj
        show f (if j = i then m - 1 else j) < n
        have hlt := h1 (if j = i then m - 1 else j) (by split <;> omega)
        have hne : f (if j = i then m - 1 else j) ≠ n := fun e => by
          have := h2 _ i (by split <;> omega) hi (e.trans hfi.symm)
          split at this <;> omega
        omega
      · intro a b ha hb e
        have := h2 (if a = i then m - 1 else a) (if b = i then m - 1 else b) (by split <;> omega) (by split <;> omega) e
        by_cases qa : a = i
        · by_cases qb : b = i
          · omega
          · rw [if_pos qa, if_neg qb] at this; omega
        · by_cases qb : b = i
          · rw [if_neg qa, if_pos qb] at this; omega
          · rw [if_neg qa, if_neg qb] at this; omega
    · have := ih (m := m) (f := f) (fun i hi => by
        have := h1 i hi
        have : f i ≠ n := fun e => hx ⟨i, hi, e⟩
        omega) h2
      omega
theorem PermN.sur {n : Nat} {f : Nat → Nat} (h : PermN n f) {b : Nat} (hb : b < n) : ∃ i, i < n ∧ f i = b := by
  refine Classical.byContradiction fun hno => ?_
  have hne : ∀ i, i < n → f i ≠ b := fun i hi e => hno ⟨i, hi, e⟩
  have := inj_le (n := n - 1) (m := n) (f := fun i => if f i = n - 1 then b else f i) ?_ ?_
  · omega
  · intro i hi
    have h1 := h.1 i hi
    have h2 := hne i hi
    show (if f i = n - 1 then b else f i) < n - 1
    split <;> omega
  · intro i j hi hj e
    have h1 := hne i hi
    have h2 := hne j hj
    refine h.2 i j hi hj ?_
    have e : (if f i = n - 1 then b else f i) = (if f j = n - 1 then b else f j) := e
    split at e <;> split at e <;> omega
/-- the place of b in an order -/
def ps (f : Nat → Nat) (b : Nat) : Nat → Nat
  | 0 => 0
  | n + 1 => if f n = b then n else ps f b n
theorem ps_ok {f : Nat → Nat} {b : Nat} : ∀ {n : Nat}, (∃ i, i < n ∧ f i = b) → ps f b n < n ∧ f (ps f b n) = b
  | 0, h => by obtain ⟨i, hi, _⟩ := h; omega
  | n + 1, h => by
    show (if f n = b then n else ps f b n) < n + 1 ∧ f (if f n = b then n else ps f b n) = b
    by_cases e : f n = b
    · rw [if_pos e]; exact ⟨by omega, e⟩
    · rw [if_neg e]
      obtain ⟨i, hi, hf⟩ := h
      have : i ≠ n := fun q => e (by rw [← q]; exact hf)
      have := ps_ok (f := f) (b := b) (n := n) ⟨i, by omega, hf⟩
      exact ⟨by omega, this.2⟩
theorem PermN.pl {n : Nat} {f : Nat → Nat} (h : PermN n f) {b : Nat} (hb : b < n) : ps f b n < n ∧ f (ps f b n) = b := ps_ok (h.sur hb)
theorem PermN.pse {n : Nat} {f : Nat → Nat} (h : PermN n f) {i : Nat} (hi : i < n) : ps f (f i) n = i := by
  have := h.pl (h.1 i hi)
  exact h.2 _ _ this.1 hi this.2
theorem PermN.of_sur {n : Nat} {f : Nat → Nat} (h1 : ∀ i, i < n → f i < n) (h2 : ∀ b, b < n → ∃ i, i < n ∧ f i = b) : PermN n f := by
  have hg : PermN n (fun b => ps f b n) := ⟨fun b hb => (ps_ok (h2 b hb)).1, fun a b ha hb e => by
    have e : ps f a n = ps f b n := e
    have q1 := (ps_ok (h2 a ha)).2
    have q2 := (ps_ok (h2 b hb)).2
    rw [← q1, ← q2, e]⟩
  refine ⟨h1, fun i j hi hj e => ?_⟩
  obtain ⟨a, ha, ea⟩ := hg.sur hi
  obtain ⟨b, hb, eb⟩ := hg.sur hj
  have ea : ps f a n = i := ea
  have eb : ps f b n = j := eb
  have q1 := (ps_ok (h2 a ha)).2
  have q2 := (ps_ok (h2 b hb)).2
  rw [ea] at q1
  rw [eb] at q2
  have : a = b := by rw [← q1, ← q2, e]
  rw [← ea, ← eb, this]
/-- what a pair lays -/
def lpx (W two pos : Nat → Nat) (lf : Bool) : Nat → Nat → Nat
  | 0 => fun _ => 0
  | j + 1 => fset (lpx W two pos lf j) (two j) (mxn (fun i => if decide (pos (two i) < pos (two j)) = lf then lpx W two pos lf j (two i) + W (two i) else 0) j)
def lpf (W two pos : Nat → Nat) (lf : Bool) (j i : Nat) : Nat := if decide (pos (two i) < pos (two j)) = lf then lpx W two pos lf j (two i) + W (two i) else 0
theorem lpx_s (W two pos : Nat → Nat) (lf : Bool) (j : Nat) : lpx W two pos lf (j + 1) = fset (lpx W two pos lf j) (two j) (mxn (lpf W two pos lf j) j) := rfl
theorem lpx_le {W two pos : Nat → Nat} {lf : Bool} : ∀ {j : Nat}, (∀ i, i < j → W (two i) ≤ 200) → ∀ b, lpx W two pos lf j b ≤ 200 * j
  | 0, _, b => Nat.zero_le _
  | j + 1, h, b => by
    have ih := lpx_le (W := W) (two := two) (pos := pos) (lf := lf) (j := j) (fun i hi => h i (by omega))
    rw [lpx_s]
    unfold fset
    split
    · refine mxn_le fun i hi => ?_
      unfold lpf
      have := ih (two i)
      have := h i (by omega)
      split <;> omega
    · have := ih b; omega
theorem lpf_le {W two pos : Nat → Nat} {lf : Bool} {j i : Nat} (h : ∀ i, i < j → W (two i) ≤ 200) (hi : i < j) : lpf W two pos lf j i ≤ 200 * j + 200 := by
  have := lpx_le (W := W) (two := two) (pos := pos) (lf := lf) (j := j) h (two i)
  have := h i hi
  unfold lpf
  split <;> omega
theorem lpf_m {W two pos : Nat → Nat} {lf : Bool} {j i : Nat} (h : ∀ i, i < j → W (two i) ≤ 200) (hi : i ≤ j) : mxn (lpf W two pos lf j) i ≤ 200 * j + 200 := mxn_le fun k hk => lpf_le h (by omega)
theorem lpf_y {W two pos : Nat → Nat} {j i : Nat} (h : pos (two i) < pos (two j)) : lpf W two pos true j i = lpx W two pos true j (two i) + W (two i) ∧ lpf W two pos false j i = 0 := by
  unfold lpf
  rw [decide_eq_true h]
  exact ⟨if_pos rfl, if_neg (by decide)⟩
theorem lpf_n {W two pos : Nat → Nat} {j i : Nat} (h : ¬ pos (two i) < pos (two j)) : lpf W two pos false j i = lpx W two pos false j (two i) + W (two i) ∧ lpf W two pos true j i = 0 := by
  unfold lpf
  rw [decide_eq_false h]
  exact ⟨if_pos rfl, if_neg (by decide)⟩
theorem mxn_s (f : Nat → Nat) (i : Nat) : mxn f (i + 1) = max (mxn f i) (f i) := rfl
theorem lay_ok {M : Mm} {k0 k1 n : Nat} {two pos W H : Nat → Nat} (hn : n ≤ 12) (hk : k1 + 5 < k0) (h5 : M.1 k0 5 = nI n) (e2 : IA M (k0 + 2) n two) (ht : PermN n two) (ep : IA M (k0 + 3) n pos) (hp : ∀ b, b < n → pos b < 12) (eW : IA M (k1 + 3) n W) (eH : IA M (k1 + 4) n H) (hW : ∀ b, b < n → 1 ≤ W b ∧ W b ≤ 200) (hH : ∀ b, b < n → 1 ≤ H b ∧ H b ≤ 200) :
    Wp (f_X4_lay k0 k1 M) (fun M' => IA M' (k1 + 1) n (lpx W two pos true n) ∧ IA M' (k1 + 2) n (lpx H two pos false n) ∧ Fr (SB (k1 + 1) (k1 + 2)) M M') := by
  unfold f_X4_lay f_X4_lay_A2
  simp (disch := first | assumption | omega) only [↓pz_n1, pz_mm, pz_mm', ↓pz_lt1, ↓pz_bd, ↓pz_bd2, ↓pz_tn, ↓pz_ts, pz_0, pz_1, pz_2, pz_3, pz_4, pz_12, pz_13, pz_15, pz_16, pz_20, pz_23, pz_24, pz_200, ↓pz_rd, ↓pz_wr, pz_add, pz_mul, pz_sub, pz_le, pz_lt, pz_eq, pz_max, pz_min, pz_cl, pz_and, pz_or, pz_shl, pz_clr, pz_bit, pz_ff, pz_tt, pz_5, pz_6, pz_7, pz_10000, pz_sb, pz_b0, pz_b1]
  refine wp_b (wp_for (step := fun v => f_X4_lay_L2 k0 k1 v.1 v.2) (fun j M' => (∀ i, i < j → M'.1 (k1 + 1) (two i) = nI (lpx W two pos true j (two i))) ∧ (∀ i, i < j → M'.1 (k1 + 2) (two i) = nI (lpx H two pos false j (two i))) ∧ Fr (SB (k1 + 1) (k1 + 2)) M M') n (by omega) ?_ ?_ ⟨fun i hi => by omega, fun i hi => by omega, Fr.rf⟩) ?_
  · rintro j M1 hj ⟨a1, a2, a3⟩
    show Wp (f_X4_lay_L2 k0 k1 (nI j) M1) _
    have q : ∀ k, k < k1 + 1 ∨ k1 + 2 < k → M1.1 k = M.1 k := fun k hk => a3.1 k (fun h => by unfold SB at h; omega)
    have c5 : M1.1 k0 5 = nI n := by rw [q _ (by omega)]; exact h5
    have c2 : IA M1 (k0 + 2) n two := e2.eq (q _ (by omega))
    have c3 : IA M1 (k0 + 3) n pos := ep.eq (q _ (by omega))
    have cW : IA M1 (k1 + 3) n W := eW.eq (q _ (by omega))
    have cH : IA M1 (k1 + 4) n H := eH.eq (q _ (by omega))
    have bj := ht.1 j hj
    have bp := hp _ bj
    have hW2 : ∀ i, i < j → W (two i) ≤ 200 := fun i hi => (hW _ (ht.1 i (by omega))).2
    have hH2 : ∀ i, i < j → H (two i) ≤ 200 := fun i hi => (hH _ (ht.1 i (by omega))).2
    have lp : loop (fun v => f_X4_lay_L26 k0 k1 (nI j) M1 (nI (two j)) v.1 v.2.1 v.2.2) FU (nI 0, nI 0, nI 0) = some (nI (mxn (lpf W two pos true j) j), nI (mxn (lpf H two pos false j) j)) := by
      refine lp_n (fun i => (nI (mxn (lpf W two pos true j) i), nI (mxn (lpf H two pos false j) i), nI i)) j (fu_lt (by omega)) (fun i hi => ?_) ?_
      · show f_X4_lay_L26 k0 k1 (nI j) M1 (nI (two j)) (nI (mxn (lpf W two pos true j) i)) (nI (mxn (lpf H two pos false j) i)) (nI i) = _
        unfold f_X4_lay_L26 f_X4_lay_J104
        have h1 : ¬ j ≤ i := by omega
        have bi := ht.1 i (by omega)
        have bpi := hp _ bi
        have b1 := lpf_m (W := W) (two := two) (pos := pos) (lf := true) hW2 (show i ≤ j by omega)
        have b2 := lpf_m (W := H) (two := two) (pos := pos) (lf := false) hH2 (show i ≤ j by omega)
        have b3 := lpx_le (W := W) (two := two) (pos := pos) (lf := true) (j := j) hW2 (two i)
        have b4 := lpx_le (W := H) (two := two) (pos := pos) (lf := false) (j := j) hH2 (two i)
        have b5 := hW2 i hi
        have b6 := hH2 i hi
        have r1 := a1 i hi
        have r2 := a2 i hi
        show _ = some (Sum.inl (nI (max (mxn (lpf W two pos true j) i) (lpf W two pos true j i)), nI (max (mxn (lpf H two pos false j) i) (lpf H two pos false j i)), nI (i + 1)))
        by_cases hlt : pos (two i) < pos (two j)
        · have h2 : ¬ pos (two j) ≤ pos (two i) := by omega
          rw [(lpf_y hlt).1, (lpf_y hlt).2, Nat.max_zero]
          simp (disch := first | assumption | omega) only [↓pz_n1, pz_mm, pz_mm', ↓pz_lt1, ↓pz_bd, ↓pz_bd2, ↓pz_tn, ↓pz_ts, pz_0, pz_1, pz_2, pz_3, pz_4, pz_12, pz_13, pz_15, pz_16, pz_20, pz_23, pz_24, pz_200, ↓pz_rd, ↓pz_wr, pz_add, pz_mul, pz_sub, pz_le, pz_lt, pz_eq, pz_max, pz_min, pz_cl, pz_and, pz_or, pz_shl, pz_clr, pz_bit, pz_ff, pz_tt, pz_5, pz_6, pz_7, pz_10000, pz_sb, pz_b0, pz_b1, h1, c2 i (by omega), c3 _ bi, c3 _ bj, h2, r1, cW _ bi]
        · have h2 : pos (two j) ≤ pos (two i) := by omega
          rw [(lpf_n hlt).1, (lpf_n hlt).2, Nat.max_zero]
          simp (disch := first | assumption | omega) only [↓pz_n1, pz_mm, pz_mm', ↓pz_lt1, ↓pz_bd, ↓pz_bd2, ↓pz_tn, ↓pz_ts, pz_0, pz_1, pz_2, pz_3, pz_4, pz_12, pz_13, pz_15, pz_16, pz_20, pz_23, pz_24, pz_200, ↓pz_rd, ↓pz_wr, pz_add, pz_mul, pz_sub, pz_le, pz_lt, pz_eq, pz_max, pz_min, pz_cl, pz_and, pz_or, pz_shl, pz_clr, pz_bit, pz_ff, pz_tt, pz_5, pz_6, pz_7, pz_10000, pz_sb, pz_b0, pz_b1, h1, c2 i (by omega), c3 _ bi, c3 _ bj, h2, r2, cH _ bi]
      · show f_X4_lay_L26 k0 k1 (nI j) M1 (nI (two j)) (nI (mxn (lpf W two pos true j) j)) (nI (mxn (lpf H two pos false j) j)) (nI j) = _
        unfold f_X4_lay_L26
        rw [if_pos ((nI_leI (by omega) (by omega)).mpr (Nat.le_refl _))]
    unfold f_X4_lay_L2 f_X4_lay_A26
    have h1 : ¬ n ≤ j := by omega
    simp (disch := first | assumption | omega) only [↓pz_n1, pz_mm, pz_mm', ↓pz_lt1, ↓pz_bd, ↓pz_bd2, ↓pz_tn, ↓pz_ts, pz_0, pz_1, pz_2, pz_3, pz_4, pz_12, pz_13, pz_15, pz_16, pz_20, pz_23, pz_24, pz_200, ↓pz_rd, ↓pz_wr, pz_add, pz_mul, pz_sub, pz_le, pz_lt, pz_eq, pz_max, pz_min, pz_cl, pz_and, pz_or, pz_shl, pz_clr, pz_bit, pz_ff, pz_tt, pz_5, pz_6, pz_7, pz_10000, pz_sb, pz_b0, pz_b1, c5, h1, c2 j hj]
    rw [lp]
    simp (disch := first | assumption | omega) only [↓pz_n1, pz_mm, pz_mm', ↓pz_lt1, ↓pz_bd, ↓pz_bd2, ↓pz_tn, ↓pz_ts, pz_0, pz_1, pz_2, pz_3, pz_4, pz_12, pz_13, pz_15, pz_16, pz_20, pz_23, pz_24, pz_200, ↓pz_rd, ↓pz_wr, pz_add, pz_mul, pz_sub, pz_le, pz_lt, pz_eq, pz_max, pz_min, pz_cl, pz_and, pz_or, pz_shl, pz_clr, pz_bit, pz_ff, pz_tt, pz_5, pz_6, pz_7, pz_10000, pz_sb, pz_b0, pz_b1]
    have r1 : k1 + 1 ≠ k1 + 2 := by omega
    refine wp_s ⟨_, rfl, fun i hi => ?_, fun i hi => ?_, (a3.w ⟨by omega, by omega⟩).w ⟨by omega, by omega⟩⟩
    · rw [wi_n _ _ _ r1, wi_at, lpx_s]
      unfold fset
      by_cases e : two i = two j
      · rw [if_pos e, if_pos e]
      · rw [if_neg e, if_neg e]
        exact a1 i (by have : i ≠ j := fun q => e (by rw [q]); omega)
    · rw [wi_at, lpx_s]
      unfold fset
      by_cases e : two i = two j
      · rw [if_pos e, if_pos e]
      · rw [if_neg e, if_neg e, wi_n _ _ _ (Ne.symm r1)]
        exact a2 i (by have : i ≠ j := fun q => e (by rw [q]); omega)
  · rintro M1 ⟨a1, a2, a3⟩
    show f_X4_lay_L2 k0 k1 (nI n) M1 = _
    unfold f_X4_lay_L2
    have c5 : M1.1 k0 5 = nI n := by rw [a3.1 _ (fun h => by unfold SB at h; omega)]; exact h5
    rw [c5, if_pos ((nI_leI (by omega) (by omega)).mpr (Nat.le_refl _))]
  · rintro M1 ⟨a1, a2, a3⟩
    refine wp_s ⟨fun b hb => ?_, fun b hb => ?_, a3⟩
    · obtain ⟨i, hi, rfl⟩ := ht.sur hb
      exact a1 i hi
    · obtain ⟨i, hi, rfl⟩ := ht.sur hb
      exact a2 i hi
/-! the reference's laying of a pair -/
theorem pin_ok {M : Mm} {k n b : Nat} {f : Nat → Nat} (hn : n ≤ 12) (e : IA M k n f) (hf : PermN n f) (hb : b < n) : f_X10_placeIn k (nI b) M = some (nI (ps f b n)) := by
  have hp := hf.pl hb
  unfold f_X10_placeIn f_X10_placeIn_A2
  have lp : loop (fun v => f_X10_placeIn_L2 k (nI b) M v) FU (nI 0) = some (nI (ps f b n)) := by
    refine lp_n (fun i => nI i) (ps f b n) (fu_lt (by omega)) (fun i hi => ?_) ?_
    · show f_X10_placeIn_L2 k (nI b) M (nI i) = _
      unfold f_X10_placeIn_L2
      have h1 : ¬ f i = b := fun q => by
        have := hf.2 i _ (by omega) hp.1 (q.trans hp.2.symm)
        omega
      have h2 := hf.1 i (by omega)
      simp (disch := first | assumption | omega) only [↓pz_n1, pz_mm, pz_mm', ↓pz_lt1, ↓pz_bd, ↓pz_bd2, ↓pz_tn, ↓pz_ts, pz_0, pz_1, pz_2, pz_3, pz_4, pz_12, pz_13, pz_15, pz_16, pz_20, pz_23, pz_24, pz_200, ↓pz_rd, ↓pz_wr, pz_add, pz_mul, pz_sub, pz_le, pz_lt, pz_eq, pz_max, pz_min, pz_cl, pz_and, pz_or, pz_shl, pz_clr, pz_bit, pz_ff, pz_tt, pz_5, pz_6, pz_7, pz_10000, pz_sb, pz_b0, pz_b1, e i (by omega), h1]
    · show f_X10_placeIn_L2 k (nI b) M (nI (ps f b n)) = _
      unfold f_X10_placeIn_L2
      simp (disch := first | assumption | omega) only [↓pz_n1, pz_mm, pz_mm', ↓pz_lt1, ↓pz_bd, ↓pz_bd2, ↓pz_tn, ↓pz_ts, pz_0, pz_1, pz_2, pz_3, pz_4, pz_12, pz_13, pz_15, pz_16, pz_20, pz_23, pz_24, pz_200, ↓pz_rd, ↓pz_wr, pz_add, pz_mul, pz_sub, pz_le, pz_lt, pz_eq, pz_max, pz_min, pz_cl, pz_and, pz_or, pz_shl, pz_clr, pz_bit, pz_ff, pz_tt, pz_5, pz_6, pz_7, pz_10000, pz_sb, pz_b0, pz_b1, e _ hp.1, hp.2]
  rw [pz_0, lp]; rfl
theorem must_ok {M : Mm} {n i j t : Nat} {one two : Nat → Nat} (hn : n ≤ 12) (e1 : IA M 76 n one) (e2 : IA M 77 n two) (h1 : PermN n one) (h2 : PermN n two) (hij : i < j) (hj : j < n) (ht : t < 2) : f_X10_must (nI (two i)) (nI (two j)) (nI t) M = some (nI (if (decide (ps one (two i) n < ps one (two j) n)).toNat = t then 1 else 0)) := by
  have bi := h2.1 i (by omega)
  have bj := h2.1 j hj
  have pi := (h1.pl bi).1
  have pj := (h1.pl bj).1
  unfold f_X10_must f_X10_must_J24 f_X10_must_J50
  rw [pin_ok hn e1 h1 bi, pin_ok hn e1 h1 bj, pin_ok hn e2 h2 bi, pin_ok hn e2 h2 bj, h2.pse (by omega), h2.pse hj]
  have q1 : ¬ j ≤ i := by omega
  simp (disch := first | assumption | omega) only [↓pz_n1, pz_mm, pz_mm', ↓pz_lt1, ↓pz_bd, ↓pz_bd2, ↓pz_tn, ↓pz_ts, pz_0, pz_1, pz_2, pz_3, pz_4, pz_12, pz_13, pz_15, pz_16, pz_20, pz_23, pz_24, pz_200, ↓pz_rd, ↓pz_wr, pz_add, pz_mul, pz_sub, pz_le, pz_lt, pz_eq, pz_max, pz_min, pz_cl, pz_and, pz_or, pz_shl, pz_clr, pz_bit, pz_ff, pz_tt, pz_5, pz_6, pz_7, pz_10000, pz_sb, pz_b0, pz_b1, q1]
  by_cases hlt : ps one (two i) n < ps one (two j) n
  · have q2 : ¬ ps one (two j) n ≤ ps one (two i) n := by omega
    rw [if_neg q2, decide_eq_true hlt]
    show _ = some (nI (if 1 = t then 1 else 0))
    rw [if_neg (by omega)]
    by_cases e : 1 = t
    · rw [if_pos e, if_pos e]
    · rw [if_neg e, if_neg e]
  · have q2 : ps one (two j) n ≤ ps one (two i) n := by omega
    rw [if_pos q2, decide_eq_false hlt]
    show _ = some (nI (if 0 = t then 1 else 0))
    rw [if_neg (by omega)]
    by_cases e : 0 = t
    · rw [if_pos e, if_pos e]
    · rw [if_neg e, if_neg e]
