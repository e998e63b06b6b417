/-! arms of the law -/
def Inv (F : Abs → Nat → Mm → Prop) (M : Mm) : Prop := ∃ A, AOK A ∧ CI F M A ∧ RI M A
/-- a turn that comes through -/
def Nx (F : Abs → Nat → Mm → Prop) (n : Nat) (x : Option (Option (Int32 × Mm))) : Prop := ∃ M', x = some (some (nI (n + 7), M')) ∧ Inv F M'
theorem pz_rdX {α : Type} {L : Nat} {xs : Nat → Int32} {m : Nat} {f : Int32 → Option α} (h : m < L) (hL : L ≤ 3584) : rdX L xs (nI m) f = f (xs m) := by
  unfold rdX
  rw [if_pos (nI_in h (by omega)), pz_cl (by omega)]
theorem nx_end {F : Abs → Nat → Mm → Prop} {n : Nat} {M : Mm} (h : Inv F M) : Nx F n (f_law_J1690 (nI n) M) := by
  refine ⟨M, ?_, h⟩
  unfold f_law_J1690
  show some (some (nI n + 7, M)) = _
  rw [pz_7, pz_add]
theorem fr_apart {k : Nat} (h : SC k) : ¬ SR k := fun h2 => by unfold SC at h; unfold SR at h2; omega
theorem fr_apart' {k : Nat} (h : SR k) : ¬ SC k := fun h2 => by unfold SR at h; unfold SC at h2; omega
/-- class and reference step from the same to the same -/
theorem inv_step {F : Abs → Nat → Mm → Prop} (hF : FOK F) {M1 M2 : Mm} {A' : Abs} (hA : AOK A') (h1 : CI F M1 A') (h2 : RI M2 A') (hf : Fr SR M1 M2) : Inv F M2 := ⟨A', hA, h1.fr hF hf (fun _ h => fr_apart' h), h2⟩
theorem AOK.non {A : Abs} (hk : A.kd = -1) (n : A.n ≤ 12) (w : ∀ b, b < A.n → 1 ≤ A.w b ∧ A.w b ≤ 200) (h : ∀ b, b < A.n → 1 ≤ A.h b ∧ A.h b ≤ 200) (tb : A.tb < 2 ^ A.n) (nt : ∀ k, k < 20 → A.nt k < 2 ^ A.n) (s : A.s ≤ 60) : AOK A :=
  ⟨n, w, h, tb, nt, s, Or.inl hk, fun q => absurd hk q, fun q => by rw [hk] at q; exact absurd q (by decide), fun q => by rw [hk] at q; exact absurd q (by decide), fun q => by rw [hk] at q; exact absurd q (by decide)⟩
theorem AOK.blk {A : Abs} (hA : AOK A) {u v t : Nat} (hn : A.n < 12) (hu1 : 1 ≤ u) (hu2 : u ≤ 200) (hv1 : 1 ≤ v) (hv2 : v ≤ 200) (ht : t < 2) : AOK (blk A u v t) := by
  have hp : 2 ^ A.n < 2 ^ (A.n + 1) := Nat.pow_lt_pow_right (by decide) (by omega)
  refine AOK.non rfl (by show A.n + 1 ≤ 12; omega) (fun b hb => ?_) (fun b hb => ?_) ?_ (fun k hk => Nat.lt_trans (hA.nt k hk) hp) hA.s
  · show 1 ≤ fset A.w A.n u b ∧ fset A.w A.n u b ≤ 200
    by_cases e : b = A.n
    · rw [e, fset_eq]; exact ⟨hu1, hu2⟩
    · rw [fset_ne e]; exact hA.w b (by have : b < A.n + 1 := hb; omega)
  · show 1 ≤ fset A.h A.n v b ∧ fset A.h A.n v b ≤ 200
    by_cases e : b = A.n
    · rw [e, fset_eq]; exact ⟨hv1, hv2⟩
    · rw [fset_ne e]; exact hA.h b (by have : b < A.n + 1 := hb; omega)
  · show A.tb ||| t * 2 ^ A.n < 2 ^ (A.n + 1)
    refine or_lt (Nat.lt_trans hA.tb hp) ?_
    rcases (by omega : t = 0 ∨ t = 1) with rfl | rfl
    · rw [Nat.zero_mul]; exact Nat.two_pow_pos _
    · rw [Nat.one_mul]; exact hp
theorem RI.code {M : Mm} {A : Abs} (h : RI M A) (v : Int32) : RI (wi M 69 0 v) A := ⟨h.kd, h.s, h.n, h.w.eq rfl, h.h.eq rfl, h.tb.eq rfl, h.nt.eq rfl, fun k => ⟨(h.gd k).1, (h.gd k).2.1.eq rfl, (h.gd k).2.2.eq rfl⟩, fun k => ⟨(h.k1 k).1.eq rfl, (h.k1 k).2.eq rfl⟩, fun k => (h.k2 k).eq rfl, fun k => h.k3 k⟩
theorem fr69 {M : Mm} {i : Nat} {v : Int32} : Fr SR M (wi M 69 i v) := Fr.rf.w ⟨by decide, by decide⟩
theorem arm_0 {F : Abs → Nat → Mm → Prop} (hF : FOK F) {xs : Nat → Int32} {L n : Nat} {M : Mm} (hL : L ≤ 3584) (hn : n + 7 ≤ L) (hI : Inv F M) : Nx F n (f_arm_0 xs L (nI n) M) := by
  obtain ⟨A, hA, hC, hR⟩ := hI
  have key : ∀ t, t < 2 → (t = 0 ↔ xs (n + 3) = nI 0) → Nx F n (f_law_J183 xs L M (nI n) (xs (n + 1)) (xs (n + 2)) (nI t)) := by
    intro t ht he
    unfold f_law_J183
    simp (disch := first | assumption | omega) only [↓pz_n1, pz_mm, pz_mm', pz_lt1, pz_bd, pz_bd2, pz_tn, pz_ts, pz_0, pz_1, pz_2, pz_3, pz_4, pz_12, pz_13, pz_15, pz_16, pz_20, pz_23, pz_24, pz_200, pz_rd, pz_wr, pz_add, pz_mul, pz_sub, pz_le, pz_lt, pz_eq, pz_max, pz_min, pz_cl, pz_and, pz_or, pz_shl, pz_clr, pz_bit, pz_ff, pz_tt, pz_rdX]
    have h2 : ∀ M10 r11, f_X9_block (xs (n + 1)) (xs (n + 2)) (nI t) M = some (r11, M10) → Nx F n (f_law_J213 (nI n) M10 r11 (xs (n + 1)) (xs (n + 2)) (nI t)) → Nx F n (bd2 (f_X9_block (xs (n + 1)) (xs (n + 2)) (nI t) M) fun r_11 M_10 => if xs (n + 3) = nI 0 then f_law_J213 (nI n) M_10 r_11 (xs (n + 1)) (xs (n + 2)) (nI 0) else f_law_J213 (nI n) M_10 r_11 (xs (n + 1)) (xs (n + 2)) (nI 1)) := by
      intro M10 r11 e h
      rw [e]
      simp (disch := first | assumption | omega) only [↓pz_n1, pz_mm, pz_mm', pz_lt1, pz_bd, pz_bd2, pz_tn, pz_ts, pz_0, pz_1, pz_2, pz_3, pz_4, pz_12, pz_13, pz_15, pz_16, pz_20, pz_23, pz_24, pz_200, pz_rd, pz_wr, pz_add, pz_mul, pz_sub, pz_le, pz_lt, pz_eq, pz_max, pz_min, pz_cl, pz_and, pz_or, pz_shl, pz_clr, pz_bit, pz_ff, pz_tt]
      rcases (by omega : t = 0 ∨ t = 1) with rfl | rfl
      · rw [if_pos (he.mp rfl)]; exact h
      · rw [if_neg (fun q => by have := he.mpr q; omega)]; exact h
    by_cases hno : A.n = 12 ∨ sideNo (xs (n + 1)) ∨ sideNo (xs (n + 2))
    · refine h2 M m1 ((c_block hA hC _ _ t ht).1 hno) ?_
      unfold f_law_J213
      rw [(r_block hA hR _ _ t ht).1 hno]
      simp (disch := first | assumption | omega) only [↓pz_n1, pz_mm, pz_mm', pz_lt1, pz_bd, pz_bd2, pz_tn, pz_ts, pz_0, pz_1, pz_2, pz_3, pz_4, pz_12, pz_13, pz_15, pz_16, pz_20, pz_23, pz_24, pz_200, pz_rd, pz_wr, pz_add, pz_mul, pz_sub, pz_le, pz_lt, pz_eq, pz_max, pz_min, pz_cl, pz_and, pz_or, pz_shl, pz_clr, pz_bit, pz_ff, pz_tt]
      exact nx_end ⟨A, hA, hC.fr hF (S := SR) fr69 (fun _ h => fr_apart' h), hR.code _⟩
    · obtain ⟨u, hu1, hu2, hu⟩ := side_of (a := xs (n + 1)) (fun h => hno (Or.inr (Or.inl h)))
      obtain ⟨v, hv1, hv2, hv⟩ := side_of (a := xs (n + 2)) (fun h => hno (Or.inr (Or.inr h)))
      have h12 : A.n < 12 := by have := hA.n; have : A.n ≠ 12 := fun h => hno (Or.inl h); omega
      obtain ⟨⟨r1, M1⟩, e1, hr1, hC1, hf1⟩ := (c_block hA hC (nI 0) (nI 0) t ht).2 u v h12 hu1 hu2 hv1 hv2
      have hR1 := hR.fr hf1 (fun _ h => fr_apart h)
      obtain ⟨⟨r2, M2⟩, e2, hr2, hR2, hf2⟩ := (r_block hA hR1 (nI 0) (nI 0) t ht).2 u v h12 hu1 hu2 hv1 hv2
      refine h2 M1 r1 (by rw [hu, hv]; exact e1) ?_
      unfold f_law_J213
      rw [hu, hv, e2]
      simp (disch := first | assumption | omega) only [↓pz_n1, pz_mm, pz_mm', pz_lt1, pz_bd, pz_bd2, pz_tn, pz_ts, pz_0, pz_1, pz_2, pz_3, pz_4, pz_12, pz_13, pz_15, pz_16, pz_20, pz_23, pz_24, pz_200, pz_rd, pz_wr, pz_add, pz_mul, pz_sub, pz_le, pz_lt, pz_eq, pz_max, pz_min, pz_cl, pz_and, pz_or, pz_shl, pz_clr, pz_bit, pz_ff, pz_tt]
      rw [if_pos (hr1.trans hr2.symm)]
      exact nx_end (inv_step hF (hA.blk h12 hu1 hu2 hv1 hv2 ht) hC1 hR2 hf2)
  unfold f_arm_0
  simp (disch := first | assumption | omega) only [↓pz_n1, pz_mm, pz_mm', pz_lt1, pz_bd, pz_bd2, pz_tn, pz_ts, pz_0, pz_1, pz_2, pz_3, pz_4, pz_12, pz_13, pz_15, pz_16, pz_20, pz_23, pz_24, pz_200, pz_rd, pz_wr, pz_add, pz_mul, pz_sub, pz_le, pz_lt, pz_eq, pz_max, pz_min, pz_cl, pz_and, pz_or, pz_shl, pz_clr, pz_bit, pz_ff, pz_tt, pz_rdX]
  by_cases h0 : xs (n + 3) = nI 0
  · rw [if_pos h0]; exact key 0 (by omega) ⟨fun _ => h0, fun _ => rfl⟩
  · rw [if_neg h0]; exact key 1 (by omega) ⟨fun h => by omega, fun h => absurd h h0⟩
