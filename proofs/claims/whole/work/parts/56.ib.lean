/-! isCut: the class's list of groups, the reference's descent, the arm -/
theorem bit1 {m n : Nat} (h : m < 2 ^ n) (hn : n ≤ 12) : ((nI m &&& (nI m - nI 1)) = nI 0) ↔ bcn m n ≤ 1 := by
  have h1 := p12 h hn
  have h2 := bit1_tab (m / 64) (by omega) (m % 64) (by omega)
  rw [Nat.div_add_mod, bcn_ext h 12 hn] at h2
  exact h2
theorem smn_ge {f : Nat → Nat} : ∀ {n : Nat}, (∀ i, i < n → 1 ≤ f i) → n ≤ smn f n
  | 0, _ => Nat.le_refl _
  | n + 1, h => by
    have := smn_ge (f := f) (n := n) (fun i hi => h i (by omega))
    have := h n (by omega)
    show n + 1 ≤ smn f n + f n
    omega
theorem cbp_ok {M : Mm} {k0 n td : Nat} {w h x y : Nat → Nat} (g : GB n td w h x y) (h1n : 1 ≤ n) (c : CG M k0 n td w h x y) :
    Wp (f_X2_canBeParted k0 M) (fun r => r.1 = nI (PT x y (swd w h td) (swd h w td) n 30 (2 ^ n - 1)).toNat ∧ Fr (SB (k0 + 5) (k0 + 5)) M r.2) := by
  have hn := g.n
  have hp := Nat.two_pow_pos n
  have hp2 := pow_lt31 hn
  generalize hP : PT x y (swd w h td) (swd h w td) n 30 = P
  have Pe : ∀ m, m < 2 ^ n → P m = if bcn m n ≤ 1 then true else if spl x y (swd w h td) (swd h w td) n m = 0 then false else P (spl x y (swd w h td) (swd h w td) n m) && P (clr m (spl x y (swd w h td) (swd h w td) n m)) := by
    intro m hm
    have := bcn_le m n
    subst hP
    rw [PT_s hm (by omega) (by omega)]
    rfl
  unfold f_X2_canBeParted
  rw [c.n, mask_of (M := M) hn, pz_0, pz_wr (by omega) (by omega), pz_1]
  refine wp_b (P := fun r => (∃ M', r = .inl M' ∧ P (2 ^ n - 1) = true ∧ Fr (SB (k0 + 5) (k0 + 5)) M M') ∨ ∃ M', r = .inr (nI 0, M') ∧ P (2 ^ n - 1) = false ∧ Fr (SB (k0 + 5) (k0 + 5)) M M') ?_ ?_
  · refine wp_l (fun s (v : Int32 × Int32 × Mm) => v.2.1 = nI s ∧ ∃ op st, v.1 = nI op ∧ IA v.2.2 (k0 + 5) op st ∧ (∀ i, i < op → st i < 2 ^ n ∧ 1 ≤ bcn (st i) n) ∧ smn (fun i => bcn (st i) n) op ≤ n ∧ s + smn (fun i => 2 * bcn (st i) n - 1) op = 2 * n - 1 ∧ (P (2 ^ n - 1) = true ↔ ∀ i, i < op → P (st i) = true) ∧ Fr (SB (k0 + 5) (k0 + 5)) M v.2.2) (2 * n - 1) (fu_lt (by omega)) ?_ ?_ ?_
    · rintro s ⟨x1, x2, M1⟩ hs ⟨a1, op, st, a2, a3, a4, a5, a6, a7, a8⟩
      have a1 : x2 = nI s := a1
      have a2 : x1 = nI op := a2
      subst a1 a2
      have a3 : IA M1 (k0 + 5) op st := a3
      have a8 : Fr (SB (k0 + 5) (k0 + 5)) M M1 := a8
      have hop : op ≤ n := Nat.le_trans (smn_ge (fun i hi => (a4 i hi).2)) a5
      have c' := c.fr a8 (fun k h => by unfold SB at h; omega)
      obtain ⟨o, rfl⟩ : ∃ o, op = o + 1 := by
        rcases Nat.eq_zero_or_pos op with q | q
        · subst q
          have : s + 0 = 2 * n - 1 := a6
          omega
        · exact ⟨op - 1, by omega⟩
      have b5 : smn (fun i => bcn (st i) n) o + bcn (st o) n ≤ n := a5
      have b6 : s + (smn (fun i => 2 * bcn (st i) n - 1) o + (2 * bcn (st o) n - 1)) = 2 * n - 1 := a6
      have ho : o ≤ smn (fun i => bcn (st i) n) o := smn_ge (fun i hi => (a4 i (by omega)).2)
      obtain ⟨g1, g2⟩ := a4 o (by omega)
      have gb := bcn_le (st o) n
      have g12 := p12 g1 hn
      show Wp (f_X2_canBeParted_L18 k0 (nI (o + 1)) (nI s) M1) _
      unfold f_X2_canBeParted_L18 f_X2_canBeParted_J96
      have e1 : nI (o + 1) + m1 = nI o := by rw [pz_dec (by omega)]; rfl
      rw [pz_24, if_neg (by rw [pz_le (by omega) (by omega)]; omega), pz_0, if_neg (by rw [pz_le (by omega) (by omega)]; omega), pz_lt1, pz_n1, e1, pz_rd (by omega) (by omega), a3 o (by omega), pz_bc g1 hn, pz_1]
      by_cases hb : bcn (st o) n ≤ 1
      · rw [if_pos (by rw [pz_le (by omega) (by omega)]; exact hb), pz_lt1, pz_add]
        refine wp_s (Or.inl ⟨_, rfl, rfl, o, st, rfl, a3.sub (by omega), fun i hi => a4 i (by omega), by omega, by omega, ?_, a8⟩)
        rw [a7]
        constructor
        · intro q i hi; exact q i (by omega)
        · intro q i hi
          by_cases e : i = o
          · rw [e, Pe _ g1, if_pos hb]
          · exact q i (by omega)
      · rw [if_neg (by rw [pz_le (by omega) (by omega)]; exact hb), pof_ok g c' g1, pz_bd]
        have pe := Pe _ g1
        rw [if_neg hb] at pe
        by_cases h0 : spl x y (swd w h td) (swd h w td) n (st o) = 0
        · rw [h0, if_pos rfl]
          rw [if_pos h0] at pe
          refine wp_s (Or.inr ⟨_, rfl, Or.inr ⟨M1, rfl, ?_, a8⟩⟩)
          cases e : P (2 ^ n - 1)
          · rfl
          · have := a7.mp e o (by omega)
            rw [pe] at this; exact absurd this (by decide)
        · rw [if_neg h0] at pe
          obtain ⟨d1, d2, d3, d4, d5⟩ := spl_ok g1 h0
          have d6 := p12 d1 hn
          rw [if_neg (by rw [pz_eq (by omega) (by omega)]; exact h0), pz_2, pz_13, pz_add, if_pos (by rw [pz_le (by omega) (by omega)]; omega), pz_wr (by omega) (by omega), pz_add, pz_clr, pz_wr (by omega) (by omega), pz_lt1, pz_lt1, pz_add]
          have hsum : ∀ G : Nat → Nat, smn (fun i => G (fset (fset st o (spl x y (swd w h td) (swd h w td) n (st o))) (o + 1) (clr (st o) (spl x y (swd w h td) (swd h w td) n (st o))) i)) (o + 2) = smn (fun i => G (st i)) o + G (spl x y (swd w h td) (swd h w td) n (st o)) + G (clr (st o) (spl x y (swd w h td) (swd h w td) n (st o))) := by
            intro G
            show smn (fun i => G (fset (fset st o (spl x y (swd w h td) (swd h w td) n (st o))) (o + 1) (clr (st o) (spl x y (swd w h td) (swd h w td) n (st o))) i)) o + G (fset (fset st o (spl x y (swd w h td) (swd h w td) n (st o))) (o + 1) (clr (st o) (spl x y (swd w h td) (swd h w td) n (st o))) o) + G (fset (fset st o (spl x y (swd w h td) (swd h w td) n (st o))) (o + 1) (clr (st o) (spl x y (swd w h td) (swd h w td) n (st o))) (o + 1)) = _
            rw [fset_eq, fset_ne (show o ≠ o + 1 by omega), fset_eq, smn_cg (g := fun i => G (st i)) (fun i hi => by rw [fset_ne (by omega), fset_ne (by omega)])]
          have hs1 := hsum (fun m => bcn m n)
          have hs2 := hsum (fun m => 2 * bcn m n - 1)
          refine wp_s (Or.inl ⟨_, rfl, rfl, o + 2, fset (fset st o (spl x y (swd w h td) (swd h w td) n (st o))) (o + 1) (clr (st o) (spl x y (swd w h td) (swd h w td) n (st o))), rfl, ?_, fun i hi => ?_, ?_, ?_, ?_, (a8.w ⟨by omega, by omega⟩).w ⟨by omega, by omega⟩⟩)
          · exact IA.ext (IA.ext (a3.sub (by omega)))
          · by_cases e : i = o + 1
            · rw [e, fset_eq]; exact ⟨d5, d4⟩
            · rw [fset_ne e]
              by_cases e2 : i = o
              · rw [e2, fset_eq]; exact ⟨d1, d3⟩
              · rw [fset_ne e2]; exact a4 i (by omega)
          · rw [hs1]
            show smn (fun i => bcn (st i) n) o + bcn _ n + bcn _ n ≤ n
            omega
          · rw [hs2]
            show s + 1 + (smn (fun i => 2 * bcn (st i) n - 1) o + (2 * bcn _ n - 1) + (2 * bcn _ n - 1)) = _
            omega
          · rw [a7]
            constructor
            · intro q i hi
              have qo := q o (by omega)
              rw [pe, Bool.and_eq_true] at qo
              by_cases e : i = o + 1
              · rw [e, fset_eq]; exact qo.2
              · rw [fset_ne e]
                by_cases e2 : i = o
                · rw [e2, fset_eq]; exact qo.1
                · rw [fset_ne e2]; exact q i (by omega)
            · intro q i hi
              by_cases e : i = o
              · rw [e, pe, Bool.and_eq_true]
                have q1 := q o (by omega)
                have q2 := q (o + 1) (by omega)
                rw [fset_ne (show o ≠ o + 1 by omega), fset_eq] at q1
                rw [fset_eq] at q2
                exact ⟨q1, q2⟩
              · have := q i (by omega)
                rw [fset_ne (by omega), fset_ne e] at this
                exact this
    · rintro ⟨x1, x2, M1⟩ ⟨a1, op, st, a2, a3, a4, a5, a6, a7, a8⟩
      have a1 : x2 = nI (2 * n - 1) := a1
      have a2 : x1 = nI op := a2
      subst a1 a2
      have hop : op = 0 := by
        have : op ≤ smn (fun i => 2 * bcn (st i) n - 1) op := smn_ge (fun i hi => by have := (a4 i hi).2; omega)
        omega
      subst hop
      show Wp (f_X2_canBeParted_L18 k0 (nI 0) (nI (2 * n - 1)) M1) _
      unfold f_X2_canBeParted_L18
      rw [pz_24, if_neg (by rw [pz_le (by omega) (by omega)]; omega), pz_0, if_pos ((nI_leI (by omega) (by omega)).mpr (Nat.le_refl _))]
      exact wp_s ⟨_, rfl, Or.inl ⟨M1, rfl, a7.mpr (fun i hi => by omega), a8⟩⟩
    · refine ⟨rfl, 1, fun _ => 2 ^ n - 1, rfl, fun j hj => ?_, fun i hi => ⟨by show 2 ^ n - 1 < 2 ^ n; omega, by show 1 ≤ bcn (2 ^ n - 1) n; rw [bcn_full n n (Nat.le_refl _)]; exact h1n⟩, ?_, ?_, ?_, Fr.rf.w ⟨by omega, by omega⟩⟩
      · have : j = 0 := by omega
        subst this
        show (wi M (k0 + 5) 0 _).1 (k0 + 5) 0 = _
        rw [wi_at, if_pos rfl]
      · show 0 + bcn (2 ^ n - 1) n ≤ n
        rw [bcn_full n n (Nat.le_refl _)]; omega
      · show 0 + (0 + (2 * bcn (2 ^ n - 1) n - 1)) = _
        rw [bcn_full n n (Nat.le_refl _)]; omega
      · constructor
        · intro q i _; exact q
        · intro q; exact q 0 (by omega)
  · rintro r (⟨M', rfl, h1, h2⟩ | ⟨M', rfl, h1, h2⟩)
    · refine wp_s ⟨?_, h2⟩
      rw [h1]; exact pz_1
    · refine wp_s ⟨?_, h2⟩
      rw [h1]; rfl
/-! the reference's parts -/
theorem rlow_ok {M : Mm} {n td m line t : Nat} {w h x y : Nat → Nat} (g : GB n td w h x y) (r : RG M n td w h x y) (hm : m < 2 ^ n) (hl : line ≤ 20000) (ht : t < 2) :
    loop (fun v => f_X10_parts_L80 (nI m) M (nI t) (nI line) v.1 v.2.1 v.2.2) FU (nI 0, nI 0, nI 0) = some (nI (lowN (if t = 0 then x else y) (if t = 0 then swd w h td else swd h w td) m line n), nI (thrN (if t = 0 then x else y) (if t = 0 then swd w h td else swd h w td) m line n).toNat) := by
  have hn := g.n
  have hm2 := p12 hm hn
  generalize hpl : (if t = 0 then x else y) = pl
  generalize hln : (if t = 0 then swd w h td else swd h w td) = ln
  have hp : ∀ b, b < n → pl b ≤ 10000 := fun b hb => by
    subst hpl; split
    · exact g.x b hb
    · exact g.y b hb
  have hq : ∀ b, b < n → 1 ≤ ln b ∧ ln b ≤ 200 := fun b hb => by
    subst hln; split
    · exact g.sw hb
    · exact g.sh hb
  refine lp_n (fun i => (nI (lowN pl ln m line i), nI (thrN pl ln m line i).toNat, nI i)) n (fu_lt (by omega)) (fun i hi => ?_) ?_
  · show f_X10_parts_L80 (nI m) M (nI t) (nI line) (nI (lowN pl ln m line i)) (nI (thrN pl ln m line i).toNat) (nI i) = some (Sum.inl (nI (if m.testBit i = true ∧ pl i + ln i ≤ line then lowN pl ln m line i ||| 2 ^ i else lowN pl ln m line i), nI (thrN pl ln m line i || (m.testBit i && decide (line < pl i + ln i) && decide (pl i < line))).toNat, nI (i + 1)))
    have q2 := hp i hi
    have q3 := hq i hi
    have J : m.testBit i = true → f_X10_parts_J145 (nI line) (nI (lowN pl ln m line i)) (nI (thrN pl ln m line i).toNat) (nI i) (nI (pl i)) (nI (ln i)) = some (Sum.inl (nI (if m.testBit i = true ∧ pl i + ln i ≤ line then lowN pl ln m line i ||| 2 ^ i else lowN pl ln m line i), nI (thrN pl ln m line i || (m.testBit i && decide (line < pl i + ln i) && decide (pl i < line))).toNat, nI (i + 1))) := by
      intro hb
      unfold f_X10_parts_J145 f_X10_parts_J177
      simp (disch := first | assumption | omega) only [↓pz_n1, pz_mm, pz_mm', ↓pz_lt1, ↓pz_bd, ↓pz_bd2, ↓pz_tn, ↓pz_ts, pz_0, pz_1, pz_2, pz_3, pz_4, pz_12, pz_13, pz_15, pz_16, pz_20, pz_23, pz_24, pz_200, ↓pz_rd, ↓pz_wr, pz_add, pz_mul, pz_sub, pz_le, pz_lt, pz_eq, pz_max, pz_min, pz_cl, pz_and, pz_or, pz_shl, pz_clr, pz_bit, pz_ff, pz_tt, pz_5, pz_6, pz_7, pz_10000, pz_sb, pz_b0, pz_b1]
      by_cases h1 : line < pl i + ln i
      · rw [if_pos h1]
        have hno : ¬ (m.testBit i = true ∧ pl i + ln i ≤ line) := fun q => by have := q.2; omega
        by_cases h2 : line ≤ pl i
        · rw [if_pos h2, if_neg hno, hb, decide_eq_true h1, decide_eq_false (by omega)]
          simp
        · rw [if_neg h2, if_neg hno, hb, decide_eq_true h1, decide_eq_true (by omega)]
          simp
      · rw [if_neg h1, if_pos ⟨hb, by omega⟩, decide_eq_false h1]
        simp
    unfold f_X10_parts_L80 f_X10_parts_J122 f_X10_parts_J177
    rw [r.n, if_neg (by rw [pz_le (by omega) (by omega)]; omega), pz_1, pz_sb (by omega) (by omega), pz_0]
    by_cases hb : m.testBit i = true
    · rw [if_neg (by rw [hb]; decide)]
      rcases (by omega : t = 0 ∨ t = 1) with rfl | rfl
      · rw [if_pos rfl] at hpl hln
        subst hpl hln
        rw [if_pos rfl, pz_rd (by omega) (by omega), r.x i hi, if_pos rfl, pz_rw r.td g.td r.w r.h hi hn, pz_bd]
        exact J hb
      · rw [if_neg (by decide)] at hpl hln
        subst hpl hln
        rw [if_neg (by decide), pz_rd (by omega) (by omega), r.y i hi, if_neg (by decide), pz_rh r.td g.td r.w r.h hi hn, pz_bd]
        exact J hb
    · rw [Bool.not_eq_true] at hb
      rw [hb, if_pos (show nI false.toNat = nI 0 from rfl), pz_lt1, pz_add]
      simp
  · show f_X10_parts_L80 (nI m) M (nI t) (nI line) (nI (lowN pl ln m line n)) (nI (thrN pl ln m line n).toNat) (nI n) = _
    unfold f_X10_parts_L80
    rw [r.n, if_pos ((nI_leI (by omega) (by omega)).mpr (Nat.le_refl _))]
theorem rpt_ok {M : Mm} {n td : Nat} {w h x y : Nat → Nat} (g : GB n td w h x y) (r : RG M n td w h x y) : ∀ k m, m < 2 ^ n → 1 ≤ k → bcn m n ≤ k → f_X10_parts k (nI m) M = some (nI (PT x y (swd w h td) (swd h w td) n k m).toNat)
  | 0, m, _, h, _ => by omega
  | k + 1, m, hm, _, hb => by
    have hn := g.n
    have hm2 := p12 hm hn
    have ih := fun m => rpt_ok g r k m
    generalize hR : (PT x y (swd w h td) (swd h w td) n (k + 1) m) = R
    have hR' : R = if bcn m n ≤ 1 then true else if spl x y (swd w h td) (swd h w td) n m = 0 then false else PT x y (swd w h td) (swd h w td) n k (spl x y (swd w h td) (swd h w td) n m) && PT x y (swd w h td) (swd h w td) n k (clr m (spl x y (swd w h td) (swd h w td) n m)) := by rw [← hR]; rfl
    show f_X10_parts_B (f_X10_parts k) (nI m) M = _
    unfold f_X10_parts_B
    rw [pz_0, pz_1]
    by_cases h1 : bcn m n ≤ 1
    · rw [if_pos ((bit1 hm hn).mpr h1), hR', if_pos h1]; rfl
    · rw [if_neg (fun q => h1 ((bit1 hm hn).mp q))]
      rw [if_neg h1] at hR'
      generalize hf : spb x y (swd w h td) (swd h w td) n m = f
      have es : spl x y (swd w h td) (swd h w td) n m = fstv f n := by unfold spl; rw [hf]
      rw [es] at hR'
      have key : Wp ((loop (fun v => f_X10_parts_L12 (nI m) M (f_X10_parts k) v) FU (nI 0)).bind fun x => Sum.elim (fun z => f_X10_parts_A12) (fun o => some o) x) (fun v => v = nI R.toNat) := by
        refine wp_b (P := fun v => (v = .inl () ∧ fstv f n = 0) ∨ (v = .inr (nI R.toNat))) ?_ ?_
        · refine wp_l (fun i (v : Int32) => v = nI i ∧ fstv f i = 0) n (fu_lt (by omega)) ?_ ?_ ⟨rfl, rfl⟩
          · rintro i v hi ⟨rfl, a1⟩
            show Wp (f_X10_parts_L12 (nI m) M (f_X10_parts k) (nI i)) _
            unfold f_X10_parts_L12 f_X10_parts_J228
            have q2 := g.x i hi
            have q3 := g.y i hi
            have q4 := g.sw hi
            have q5 := g.sh hi
            have e1 : fstv f (i + 1) = f i := by
              show (if fstv f i = 0 then f i else fstv f i) = _
              rw [if_pos a1]
            have e2 : f i = if m.testBit i = true then (if sp1 x (swd w h td) m (x i + swd w h td i) n = 0 then sp1 y (swd h w td) m (y i + swd h w td i) n else sp1 x (swd w h td) m (x i + swd w h td i) n) else 0 := by rw [← hf]; rfl
            rw [r.n, if_neg (by rw [pz_le (by omega) (by omega)]; omega), pz_1, pz_sb (by omega) (by omega), pz_0]
            by_cases hb : m.testBit i = true
            · rw [if_neg (by rw [hb]; decide)]
              rw [if_pos hb] at e2
              -- what a line found does
              have found : ∀ s, s ≠ 0 → f i = s → s < 2 ^ n → Wp ((f_X10_parts k (nI s) M).bind fun r_18 => if r_18 = nI 0 then some (Sum.inr (Sum.inr (nI 0))) else (f_X10_parts k (nI m &&& (nI s ^^^ m1)) M).bind fun r_21 => if r_21 = nI 0 then some (Sum.inr (Sum.inr (nI 0))) else (some (Sum.inr (Sum.inr (nI 1))) : Option (Int32 ⊕ (Unit ⊕ Int32)))) (fun z => z = .inr (.inr (nI R.toNat))) := by
                intro s hs0 es2 hs
                have e3 : fstv f n = s := by rw [fstv_up (i := i + 1) (by omega) (by rw [e1, es2]; exact hs0), e1, es2]
                have h0 : spl x y (swd w h td) (swd h w td) n m ≠ 0 := by rw [es, e3]; exact hs0
                obtain ⟨d1, d2, d3, d4, d5⟩ := spl_ok hm h0
                rw [es, e3] at d1 d2 d3 d4 d5
                rw [e3, if_neg hs0] at hR'
                rw [ih s d1 (by omega) (by omega), pz_bd, pz_clr, ih _ d5 (by omega) (by omega), pz_bd, hR']
                cases PT x y (swd w h td) (swd h w td) n k s
                · rw [if_pos (show nI false.toNat = nI 0 from rfl)]; exact wp_s rfl
                · rw [if_neg (by decide)]
                  cases PT x y (swd w h td) (swd h w td) n k (clr m s)
                  · rw [if_pos (show nI false.toNat = nI 0 from rfl)]; exact wp_s rfl
                  · rw [if_neg (by decide)]; exact wp_s rfl
              have lowlt : ∀ pl ln line, lowN pl ln m line n < 4096 := fun pl ln line => p12 (lowN_lt (Nat.le_refl n)) hn
              -- one line
              have one : ∀ (pl ln : Nat → Nat) (line t : Nat), t < 2 → pl i + ln i = line → loop (fun v => f_X10_parts_L80 (nI m) M (nI t) (nI line) v.1 v.2.1 v.2.2) FU (nI 0, nI 0, nI 0) = some (nI (lowN pl ln m line n), nI (thrN pl ln m line n).toNat) → (sp1 pl ln m line n ≠ 0 → f i = sp1 pl ln m line n) → Wp (f_X10_parts_J69 (nI m) M (f_X10_parts k) (nI t) (nI line)) (fun z => (z = .inl (nI (t + 1)) ∧ sp1 pl ln m line n = 0) ∨ z = .inr (.inr (nI R.toNat))) := by
                intro pl ln line t ht hli lp hfi
                unfold f_X10_parts_J69 f_X10_parts_A80 f_X10_parts_J222
                rw [pz_0, lp, pz_bd, pz_n1, pz_1]
                show Wp (if nI (thrN pl ln m line n).toNat = nI 0 then (if nI (lowN pl ln m line n) = nI m then _ else _) else _) _
                by_cases h2 : thrN pl ln m line n = true
                · rw [h2, if_neg (by decide), pz_lt1, pz_add]
                  refine wp_s (Or.inl ⟨rfl, ?_⟩)
                  unfold sp1; rw [if_pos h2]
                · rw [if_pos (by rw [Bool.not_eq_true] at h2; rw [h2]; rfl)]
                  by_cases h3 : lowN pl ln m line n = m
                  · rw [if_pos (by rw [h3]), pz_lt1, pz_add]
                    refine wp_s (Or.inl ⟨rfl, ?_⟩)
                    unfold sp1; rw [if_neg h2, if_pos h3]
                  · have hl := lowlt pl ln line
                    rw [if_neg (by rw [pz_eq (by omega) (by omega)]; exact h3)]
                    have hs : sp1 pl ln m line n = lowN pl ln m line n := by unfold sp1; rw [if_neg h2, if_neg h3]
                    have hne : lowN pl ln m line n ≠ 0 := fun q => by
                      have := lowN_bit (pl := pl) (ln := ln) (m := m) (line := line) (i := n) i
                      rw [q, Nat.zero_testBit, hb, decide_eq_true hi, decide_eq_true (by omega)] at this
                      exact absurd this (by decide)
                    rw [hs] at hfi
                    exact wp_m (found _ hne (hfi hne) (lowN_lt (Nat.le_refl n))) (fun z hz => Or.inr hz)
              refine wp_b (P := fun z => (z = .inl () ∧ f i = 0) ∨ z = .inr (nI R.toNat)) ?_ ?_
              · refine wp_l (fun t (v : Int32) => v = nI t ∧ (1 ≤ t → sp1 x (swd w h td) m (x i + swd w h td i) n = 0) ∧ (2 ≤ t → f i = 0)) 2 (fu_lt (by omega)) ?_ ?_ ⟨rfl, fun q => by omega, fun q => by omega⟩
                · rintro t v ht ⟨rfl, b1, b2⟩
                  show Wp (f_X10_parts_L33 (nI m) M (f_X10_parts k) (nI i) (nI t)) _
                  unfold f_X10_parts_L33
                  rw [pz_2, if_neg (by rw [pz_le (by omega) (by omega)]; omega), pz_0]
                  rcases (by omega : t = 0 ∨ t = 1) with rfl | rfl
                  · rw [if_pos rfl, pz_rd (by omega) (by omega), r.x i hi, pz_rw r.td g.td r.w r.h hi hn, pz_bd, pz_add]
                    refine wp_m (one x (swd w h td) _ 0 (by omega) rfl (rlow_ok (t := 0) g r hm (by omega) (by omega)) (fun q => by rw [e2, if_neg q])) ?_
                    rintro z (⟨rfl, q⟩ | rfl)
                    · exact Or.inl ⟨_, rfl, rfl, fun _ => q, fun q => by omega⟩
                    · exact Or.inr ⟨_, rfl, Or.inr rfl⟩
                  · rw [if_neg (by decide), pz_rd (by omega) (by omega), r.y i hi, pz_rh r.td g.td r.w r.h hi hn, pz_bd, pz_add]
                    have b1 := b1 (by omega)
                    refine wp_m (one y (swd h w td) _ 1 (by omega) rfl (rlow_ok (t := 1) g r hm (by omega) (by omega)) (fun q => by rw [e2, if_pos b1])) ?_
                    rintro z (⟨rfl, q⟩ | rfl)
                    · exact Or.inl ⟨_, rfl, rfl, fun _ => b1, fun _ => by rw [e2, if_pos b1, q]⟩
                    · exact Or.inr ⟨_, rfl, Or.inr rfl⟩
                · rintro v ⟨rfl, b1, b2⟩
                  show Wp (f_X10_parts_L33 (nI m) M (f_X10_parts k) (nI i) (nI 2)) _
                  unfold f_X10_parts_L33
                  rw [pz_2, if_pos ((nI_leI (by omega) (by omega)).mpr (Nat.le_refl _))]
                  exact wp_s ⟨_, rfl, Or.inl ⟨rfl, b2 (by omega)⟩⟩
              · rintro z (⟨rfl, q⟩ | rfl)
                · show Wp (f_X10_parts_A33 (nI i)) _
                  unfold f_X10_parts_A33 f_X10_parts_J228
                  rw [pz_lt1, pz_1, pz_add]
                  exact wp_s (Or.inl ⟨_, rfl, rfl, by rw [e1, q]⟩)
                · exact wp_s (Or.inr ⟨_, rfl, Or.inr rfl⟩)
            · rw [if_neg hb] at e2
              rw [Bool.not_eq_true] at hb
              rw [hb, if_pos (show nI false.toNat = nI 0 from rfl), pz_lt1, pz_add]
              exact wp_s (Or.inl ⟨_, rfl, rfl, by rw [e1, e2]⟩)
          · rintro v ⟨rfl, a1⟩
            show Wp (f_X10_parts_L12 (nI m) M (f_X10_parts k) (nI n)) _
            unfold f_X10_parts_L12
            rw [r.n, if_pos ((nI_leI (by omega) (by omega)).mpr (Nat.le_refl _))]
            exact wp_s ⟨_, rfl, Or.inl ⟨rfl, a1⟩⟩
        · rintro v (⟨rfl, q⟩ | rfl)
          · refine wp_s ?_
            rw [hR', if_pos q]; exact pz_0
          · exact wp_s rfl
      obtain ⟨v, e, hv⟩ := key
      rw [e, hv]
theorem ccut_eq (M : Mm) : f_L_isCut M = bd2 (f_X9_isCut M) fun o_2 M3 => tr1 o_2 (some ((1 : Int32), M3)) fun r => wrL 1 M3 105 (0 : Int32) (cb r) fun M5 => some ((0 : Int32), M5) := by
  unfold f_L_isCut f_L_isCut_J14 cb
  congr 1
  funext o M3
  cases o with
  | none => rfl
  | some r =>
    rw [pz_ts, pz_ts, ← pz_0]
    split <;> rfl
theorem lcut_eq (i : Int32) (M : Mm) : f_arm_15 (fun _ => 0) 0 i M = bd2 (f_L_isCut M) fun r M1 => bd2 (f_X10_isCut M1) fun r2 M2 => if f_X10_thrown M2 = r then (if r = nI 0 then rdL 1 M2 105 (nI 0) fun v => if lg_cmp v (cb r2) = nI 0 then f_law_J1203 i M2 () else none else f_law_J1203 i M2 ()) else none := by
  unfold f_arm_15 f_law_J1197 cb
  congr 1
  funext r M1
  congr 1
  funext r2 M2
  rw [← pz_0]
  congr 1
  congr 1
  congr 1
  funext v
  split <;> rfl
theorem arm_15 {F : Abs → Nat → Mm → Prop} (hF : FOK F) {xs : Nat → Int32} {L n : Nat} {M : Mm} (hI : Inv F M) : Nx F n (f_arm_15 xs L (nI n) M) := by
  obtain ⟨A, hA, hC, hR⟩ := hI
  have hn12 := hA.n
  have key : ∃ o, Wp (f_X9_isCut M) (fun r => r.1 = o ∧ CI F r.2 A ∧ Fr SC M r.2) ∧ ∀ M1, RI M1 A → RQr M1 A o (f_X10_isCut M1) := by
    unfold f_X9_isCut f_X10_isCut f_X10_fail
    have ek : ∀ M1, RI M1 A → (wi M1 69 0 (nI 0)).1 69 6 = A.kd := fun M1 h => h.kd
    have s1 : ∀ M1, Scr M1 (wi M1 69 0 (nI 0)) := fun M1 => Scr.rf.w (by omega)
    by_cases hk : A.kd = -1
    · refine ⟨none, ?_, fun M1 h => ?_⟩
      · rw [nl_n (hC.kd.trans hk)]
        exact wp_s ⟨rfl, hC, Fr.rf⟩
      · rw [pz_0, pz_lt1, ek M1 h, if_pos hk]
        exact rq_fail h _
    · rw [nl_y (by rw [hC.kd]; exact hk)]
      have g := hA.gb hk
      have cg := hC.cg hk
      have l1 := (hA.ly hk).1
      have hp := Nat.two_pow_pos A.n
      obtain ⟨fr, fe, fh⟩ := fc_ok g cg
      rw [pz_lt1, pz_ts, fe, pz_bd]
      rcases fh with ⟨f1, f2⟩ | ⟨a, b, f1, f2⟩
      · rw [f1, if_pos pz_n1.symm]
        obtain ⟨⟨v, M2⟩, e2, h2, fr2⟩ := cbp_ok g l1 cg
        have h2 : v = _ := h2
        refine ⟨some (nI (PT A.x A.y (swd A.w A.h A.td) (swd A.h A.w A.td) A.n 30 (2 ^ A.n - 1)).toNat), ?_, fun M1 h => ?_⟩
        · rw [e2, pz_bd2, h2]
          have fin : CI F M2 A ∧ Fr SC M M2 := ⟨hC.k15 hF fr2 (fun k h => by unfold SB at h; omega), fr2.mono (fun k h => by unfold SB at h; unfold SC; omega)⟩
          cases PT A.x A.y (swd A.w A.h A.td) (swd A.h A.w A.td) A.n 30 (2 ^ A.n - 1)
          · exact wp_s ⟨rfl, fin⟩
          · exact wp_s ⟨rfl, fin⟩
        · rw [pz_0, pz_lt1, ek M1 h, if_neg hk]
          have rg := (h.rg hk).scr (s1 M1)
          obtain ⟨⟨r, M3⟩, e3, s3, z3, h3⟩ := rcs_ok g rg
          have sc3 : Scr M1 M3 := (s1 M1).tr s3
          have r3 : r = nI 0 := by
            rcases h3 with ⟨b1, _⟩ | ⟨_, b4⟩
            · exact b1
            · obtain ⟨_, _, _, _, b5⟩ := b4
              exact (b5.nc f2).elim
          have rg3 := (h.rg hk).scr sc3
          rw [e3, pz_bd2, r3, if_pos rfl, rg3.n, mask_of (M := M) hn12, rpt_ok g rg3 30 (2 ^ A.n - 1) (by omega) (by omega) (by rw [bcn_full A.n A.n (Nat.le_refl _)]; omega), pz_bd]
          have fin : ∀ v : Int32, RQr M1 A (some v) (some (v, M3)) := fun v => wp_s ⟨h.scr sc3, sc3.fr, Or.inr ⟨v, rfl, z3.trans rfl, rfl⟩⟩
          cases PT A.x A.y (swd A.w A.h A.td) (swd A.h A.w A.td) A.n 30 (2 ^ A.n - 1)
          · exact fin _
          · exact fin _
      · have q1 := f2.1
        have q2 := f2.2.1
        rw [f1, if_neg (show ¬ ck a b = -1 from (ck_ok a (by omega) b (by omega)).1)]
        refine ⟨some (nI 0), wp_s ⟨rfl, hC, Fr.rf⟩, fun M1 h => ?_⟩
        rw [pz_0, pz_lt1, ek M1 h, if_neg hk]
        have rg := (h.rg hk).scr (s1 M1)
        obtain ⟨⟨r, M3⟩, e3, s3, z3, h3⟩ := rcs_ok g rg
        have sc3 : Scr M1 M3 := (s1 M1).tr s3
        have r3 : r = nI 1 := by
          rcases h3 with ⟨_, _, _, b1⟩ | ⟨b1, _⟩
          · exact (f2.nc b1).elim
          · exact b1
        rw [e3, pz_bd2, r3, if_neg (by decide)]
        exact wp_s ⟨h.scr sc3, sc3.fr, Or.inr ⟨_, rfl, z3.trans rfl, rfl⟩⟩
  obtain ⟨o, h1, h2⟩ := key
  have h3 := arm_w hF cb o (n := n) hA hR (lq_m hF cb h1) h2 (J := f_law_J1203 (nI n)) (fun _ => rfl)
  show Nx F n (f_arm_15 (fun _ => 0) 0 (nI n) M)
  rw [lcut_eq, ccut_eq]
  exact h3
