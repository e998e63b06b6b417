/-! trees: the class lays, the reference lays -/
theorem cty_ok {M : Mm} {k0 k1 n r : Nat} {lf rt P X Y W H : Nat → Nat} {e : Ex} (t : TLy n lf rt P X Y W H) (hk : k1 + 5 < k0) (hr : r < n) (hT : TR lf rt e r) (hP : Pt P 0 e) (hX : Xt X W 0 e) (hl : (nd e).length = n) (hm : ∀ d ∈ nd e, d < n) (h4 : M.1 k0 4 = nI r) (h5 : M.1 k0 5 = nI n) (el : IA M (k0 + 1) n lf) (er : IA M (k0 + 2) n rt) (eW : IA M (k1 + 3) n W) (eH : IA M (k1 + 4) n H) :
    Wp (f_X3_lay k0 k1 M) (fun M' => IA M' (k1 + 1) n X ∧ IA M' (k1 + 2) n Y ∧ Fr (STl k0 k1) M M') := by
  have hn := t.n
  unfold f_X3_lay f_X3_lay_A24
  have e4 : ∀ v, (wi M (k0 + 3) 0 v).1 k0 4 = nI r := fun v => by rw [wi_n _ _ _ (by omega)]; exact h4
  rw [h4, pz_0, pz_wr (by omega) (by omega), e4, pz_wr (by omega) (by omega), pz_1]
  generalize hM1 : wi (wi M (k0 + 3) 0 (nI r)) (k1 + 1) r (nI 0) = M1
  have f1 : Fr (STl k0 k1) M M1 := by subst hM1; exact (Fr.rf.w (by unfold STl; omega)).w (by unfold STl; omega)
  have q1 : ∀ k, ¬ STl k0 k1 k → M1.1 k = M.1 k := fun k hk => f1.1 k hk
  obtain ⟨M2, s2, d2, _, _, f2⟩ := clt_seg t hk e r 0 0 0 M1 hT (Or.inl hr) hP hX (by omega) (by omega) hm (by rw [q1 _ (by unfold STl; omega)]; exact h5) (el.eq (q1 _ (by unfold STl; omega))) (er.eq (q1 _ (by unfold STl; omega))) (eW.eq (q1 _ (by unfold STl; omega))) (eH.eq (q1 _ (by unfold STl; omega))) ⟨fun j hj => by omega, fun j hj => by omega, fun j hj => by omega⟩ (fun _ => ⟨by subst hM1; rw [wi_n _ _ _ (by omega), wi_at, if_pos rfl], by subst hM1; rw [wi_at, if_pos rfl]⟩)
  have cc : chC r = 1 := by unfold chC; rw [if_neg (by omega)]
  rw [hl, cc] at s2
  rw [hl] at d2
  have h5' : M2.1 k0 5 = nI n := by rw [f2.1 _ (by unfold STl; omega), q1 _ (by unfold STl; omega)]; exact h5
  have lp : loop (fun v : Int32 × Int32 × Mm => f_X3_lay_L24 k0 k1 v.1 v.2.1 v.2.2) FU (nI 1, nI 0, M1) = some M2 := by
    refine stp_end (w := (nI 0, nI (0 + n), M2)) ?_ s2 (fu_lt (by omega))
    show f_X3_lay_L24 k0 k1 (nI 0) (nI (0 + n)) M2 = _
    unfold f_X3_lay_L24
    rw [h5', if_pos ((nI_leI (by omega) (by omega)).mpr (by omega))]
  rw [lp]
  refine wp_s ⟨fun b hb => ?_, fun b hb => ?_, f1.tr f2⟩
  · obtain ⟨j, hj, rfl⟩ := t.P.sur hb
    exact d2.x j (by omega)
  · obtain ⟨j, hj, rfl⟩ := t.P.sur hb
    exact d2.y j (by omega)
/-! the reference -/
def RLd (P X Y : Nat → Nat) (i : Nat) (M : Mm) : Prop :=
  (M.1 69 22 = nI i) ∧
  (∀ j, j < i → M.1 86 j = nI (P j)) ∧
  (∀ j, j < i → M.1 74 (P j) = nI (X (P j))) ∧
  (∀ j, j < i → M.1 75 (P j) = nI (Y (P j)))
theorem RLd.c {P X Y : Nat → Nat} {i : Nat} {M : Mm} (hh_ : RLd P X Y i M) : M.1 69 22 = nI i := hh_.1
theorem RLd.l {P X Y : Nat → Nat} {i : Nat} {M : Mm} (hh_ : RLd P X Y i M) : ∀ j, j < i → M.1 86 j = nI (P j) := hh_.2.1
theorem RLd.x {P X Y : Nat → Nat} {i : Nat} {M : Mm} (hh_ : RLd P X Y i M) : ∀ j, j < i → M.1 74 (P j) = nI (X (P j)) := hh_.2.2.1
theorem RLd.y {P X Y : Nat → Nat} {i : Nat} {M : Mm} (hh_ : RLd P X Y i M) : ∀ j, j < i → M.1 75 (P j) = nI (Y (P j)) := hh_.2.2.2
def KpT (M M' : Mm) : Prop := (∀ k, k ≠ 69 → k ≠ 74 → k ≠ 75 → k ≠ 86 → M'.1 k = M.1 k) ∧ (∀ j, j ≠ 22 → M'.1 69 j = M.1 69 j) ∧ M'.2 = M.2
theorem KpT.tr {M M' M'' : Mm} (h : KpT M M') (h2 : KpT M' M'') : KpT M M'' := ⟨fun k a b c d => (h2.1 k a b c d).trans (h.1 k a b c d), fun j hj => (h2.2.1 j hj).trans (h.2.1 j hj), h2.2.2.trans h.2.2⟩
theorem rlu_lp {M : Mm} {n td i x0 : Nat} {w h lf rt P X Y : Nat → Nat} (t : TLy n lf rt P X Y (swd w h td) (swd h w td)) (htd : td < 4096) (hi : i < n) (r7 : M.1 69 7 = nI td) (r70 : IA M 70 n w) (r71 : IA M 71 n h) (hd : RLd P X Y i M) (hx0 : X (P i) = x0) (hx : M.1 74 (P i) = nI x0) (hy : M.1 75 (P i) = nI 0) :
    Wp (loop (fun v => f_X10_layUnder_L22 (nI (P i)) (nI x0) v.1 v.2) FU (nI 0, M)) (fun M' => RLd P X Y i M' ∧ M'.1 74 (P i) = nI x0 ∧ M'.1 75 (P i) = nI (Y (P i)) ∧ KpT M M') := by
  have hn := t.n
  have bi := t.P.1 i hi
  have xi := t.X _ bi
  have wi' := t.W _ bi
  rw [t.Y i hi]
  generalize hW : swd w h td = W at *
  generalize hH : swd h w td = H at *
  refine wp_for (step := fun v => f_X10_layUnder_L22 (nI (P i)) (nI x0) v.1 v.2) (fun j M' => RLd P X Y i M' ∧ M'.1 74 (P i) = nI x0 ∧ M'.1 75 (P i) = nI (mxn (yf P X W H Y i) j) ∧ KpT M M') i (by omega) ?_ ?_ ⟨hd, hx, hy, fun _ _ _ _ _ => rfl, fun _ _ => rfl, rfl⟩
  · rintro j M1 hj ⟨a1, a2, a3, a4⟩
    have bj := t.P.1 j (by omega)
    have xj := t.X _ bj
    have wj := t.W _ bj
    have hj' := t.H _ bj
    have yj := t.y (show j < n by omega)
    have mm := yf_m t hi (show j ≤ i by omega)
    have d7 : M1.1 69 7 = nI td := by rw [a4.2.1 7 (by omega)]; exact r7
    have d70 : IA M1 70 n w := r70.eq (a4.1 70 (by omega) (by omega) (by omega) (by omega))
    have d71 : IA M1 71 n h := r71.eq (a4.1 71 (by omega) (by omega) (by omega) (by omega))
    have ewi := pz_rw d7 htd d70 d71 bi hn
    have ewj := pz_rw d7 htd d70 d71 bj hn
    have ehj := pz_rh d7 htd d70 d71 bj hn
    rw [hW] at ewi ewj
    rw [hH] at ehj
    have ey : yf P X W H Y i j = if X (P j) + W (P j) ≤ X (P i) then 0 else if X (P i) + W (P i) ≤ X (P j) then 0 else Y (P j) + H (P j) := rfl
    rw [hx0] at ey xi
    have hne : ∀ k, k < i → P k ≠ P i := fun k hk e => by have := t.P.2 k i (by omega) hi e; omega
    have skip : yf P X W H Y i j = 0 → Wp (some (Sum.inl (nI (j + 1), M1)) : Option ((Int32 × Mm) ⊕ Mm)) (fun r => ∃ M', r = .inl (nI (j + 1), M') ∧ RLd P X Y i M' ∧ M'.1 74 (P i) = nI x0 ∧ M'.1 75 (P i) = nI (mxn (yf P X W H Y i) (j + 1)) ∧ KpT M M') := fun z => wp_s ⟨M1, rfl, a1, a2, by rw [mxn_s, z, Nat.max_zero]; exact a3, a4⟩
    show Wp (f_X10_layUnder_L22 (nI (P i)) (nI x0) (nI j) M1) _
    unfold f_X10_layUnder_L22 f_X10_layUnder_J102
    rw [a1.c, if_neg (by rw [pz_le (by omega) (by omega)]; omega), pz_rd (by omega) (by omega), a1.l j hj, pz_rd (by omega) (by omega), a1.x j hj, ewi, pz_bd, pz_add, pz_lt1, pz_1, pz_add]
    by_cases q2 : x0 + W (P i) ≤ X (P j)
    · rw [if_pos (by rw [pz_le (by omega) (by omega)]; exact q2)]
      exact skip (by rw [ey, if_pos q2]; split <;> rfl)
    · rw [if_neg (by rw [pz_le (by omega) (by omega)]; exact q2), pz_rd (by omega) (by omega), a1.x j hj, ewj, pz_bd, pz_add]
      by_cases q1 : X (P j) + W (P j) ≤ x0
      · rw [if_pos (by rw [pz_le (by omega) (by omega)]; exact q1)]
        exact skip (by rw [ey, if_pos q1])
      · rw [if_neg (by rw [pz_le (by omega) (by omega)]; exact q1), pz_rd (by omega) (by omega), a3, pz_rd (by omega) (by omega), a1.y j hj, ehj, pz_bd, pz_add, pz_max (by omega) (by omega), pz_wr (by omega) (by omega), pz_lt1]
        refine wp_s ⟨_, rfl, ⟨a1.c, a1.l, a1.x, fun k hk => ?_⟩, a2, ?_, a4.tr ⟨fun k _ _ k3 _ => wi_n _ _ _ k3, fun _ _ => rfl, rfl⟩⟩
        · rw [wi_at, if_neg (hne k hk)]; exact a1.y k hk
        · rw [wi_at, if_pos rfl, mxn_s, ey, if_neg q1, if_neg q2]
  · rintro M1 ⟨a1, _⟩
    show f_X10_layUnder_L22 (nI (P i)) (nI x0) (nI i) M1 = _
    unfold f_X10_layUnder_L22
    rw [a1.c, if_pos ((nI_leI (by omega) (by omega)).mpr (Nat.le_refl _))]
theorem rlu_ok {n td : Nat} {w h lf rt P X Y : Nat → Nat} (t : TLy n lf rt P X Y (swd w h td) (swd h w td)) (htd : td < 4096) : ∀ (e : Ex) (fu c i x0 : Nat) (M : Mm), TR lf rt e c → (c < n ∨ c = 15) → Pt P i e → Xt X (swd w h td) x0 e → i + (nd e).length ≤ n → (nd e).length + 1 ≤ fu → x0 ≤ 100000 → M.1 69 7 = nI td → IA M 70 n w → IA M 71 n h → (∀ b, b < n → M.1 79 b = cv (lf b)) → (∀ b, b < n → M.1 80 b = cv (rt b)) → RLd P X Y i M →
    Wp (f_X10_layUnder fu (cv c) (nI x0) M) (fun M' => RLd P X Y (i + (nd e).length) M' ∧ KpT M M')
  | .leaf _, fu, c, i, x0, M, hT, _, _, _, _, hfu, _, _, _, _, _, _, hd => by
    have hT : c = 15 := hT
    obtain ⟨g, rfl⟩ : ∃ g, fu = g + 1 := ⟨fu - 1, by omega⟩
    show Wp (f_X10_layUnder_B (f_X10_layUnder g) (cv c) (nI x0) M) _
    unfold f_X10_layUnder_B
    rw [show cv c = -1 by unfold cv; rw [if_pos hT], if_pos rfl]
    exact wp_s ⟨hd, fun _ _ _ _ _ => rfl, fun _ _ => rfl, rfl⟩
  | .branch b l r, fu, c, i, x0, M, hT, hc, hP, hX, hi, hfu, hx0, r7, r70, r71, e79, e80, hd => by
    obtain ⟨g, rfl⟩ : ∃ g, fu = g + 1 := ⟨fu - 1, by omega⟩
    obtain ⟨rfl, h15, tl, tr⟩ := hT
    obtain ⟨p1, p2, p3⟩ := hP
    obtain ⟨x1, x2, x3⟩ := hX
    have hi : i + (c :: (nd l ++ nd r)).length ≤ n := hi
    have hfu : (c :: (nd l ++ nd r)).length + 1 ≤ g + 1 := hfu
    rw [List.length_cons, List.length_append] at hi hfu
    have hn := t.n
    have hcn : c < n := by omega
    have vi := t.v c hcn
    have wc := t.W c hcn
    have xc := t.X c hcn
    have hin : i < n := by omega
    show Wp (f_X10_layUnder_B (f_X10_layUnder g) (cv c) (nI x0) M) _
    unfold f_X10_layUnder_B
    rw [show cv c = nI c by unfold cv; rw [if_neg h15], if_neg (by rw [pz_m1 (by omega)]; exact id), pz_wr (by omega) (by omega), pz_0, pz_wr (by omega) (by omega)]
    have hne : ∀ k, k < i → P k ≠ c := fun k hk e => by have := t.P.2 k i (by omega) hin (by rw [p1]; exact e); omega
    generalize hM1 : wi (wi M 74 c (nI x0)) 75 c (nI 0) = M1
    have k1 : KpT M M1 := by subst hM1; exact ⟨fun k _ k2 k3 _ => by rw [wi_n _ _ _ k3, wi_n _ _ _ k2], fun _ _ => rfl, rfl⟩
    have d1 : RLd P X Y i M1 := by
      subst hM1
      refine ⟨hd.c, hd.l, fun j hj => ?_, fun j hj => ?_⟩
      · rw [wi_n _ _ _ (by omega), wi_at, if_neg (hne j hj)]; exact hd.x j hj
      · rw [wi_at, if_neg (hne j hj), wi_n _ _ _ (by omega)]; exact hd.y j hj
    have lp := rlu_lp (M := M1) (x0 := x0) t htd hin (by rw [k1.2.1 7 (by omega)]; exact r7) (r70.eq (k1.1 70 (by omega) (by omega) (by omega) (by omega))) (r71.eq (k1.1 71 (by omega) (by omega) (by omega) (by omega))) d1 (by rw [p1]; exact x1) (by rw [p1]; subst hM1; rw [wi_n _ _ _ (by omega), wi_at, if_pos rfl]) (by rw [p1]; subst hM1; rw [wi_at, if_pos rfl])
    rw [p1] at lp
    refine wp_b lp ?_
    rintro M2 ⟨d2, x2', y2', k2⟩
    have kk2 := k1.tr k2
    unfold f_X10_layUnder_A22
    rw [d2.c, pz_wr (by omega) (by omega), pz_lt1, show (wi M2 86 i (nI c)).1 69 22 = nI i from d2.c, pz_1, pz_add]
    generalize hM3 : wi (wi M2 86 i (nI c)) 69 22 (nI (i + 1)) = M3
    have k3 : KpT M2 M3 := by subst hM3; exact ⟨fun k k1 _ _ k4 => by rw [wi_n _ _ _ k1, wi_n _ _ _ k4], fun j hj => by rw [wi_at, if_neg hj, wi_n _ _ _ (by omega)], rfl⟩
    have kk3 := kk2.tr k3
    have d3 : RLd P X Y (i + 1) M3 := by
      subst hM3
      refine ⟨rfl, fun j hj => ?_, fun j hj => ?_, fun j hj => ?_⟩
      · rw [wi_n _ _ _ (by omega), wi_at]
        by_cases e : j = i
        · rw [if_pos e, e, p1]
        · rw [if_neg e]; exact d2.l j (by omega)
      · show M2.1 74 (P j) = _
        by_cases e : j = i
        · rw [e, p1, x2', x1]
        · exact d2.x j (by omega)
      · show M2.1 75 (P j) = _
        by_cases e : j = i
        · rw [e, p1, y2']
        · exact d2.y j (by omega)
    have z7 : ∀ M', KpT M M' → M'.1 69 7 = nI td := fun M' hk => by rw [hk.2.1 7 (by omega)]; exact r7
    have z70 : ∀ M', KpT M M' → IA M' 70 n w := fun M' hk => r70.eq (hk.1 70 (by omega) (by omega) (by omega) (by omega))
    have z71 : ∀ M', KpT M M' → IA M' 71 n h := fun M' hk => r71.eq (hk.1 71 (by omega) (by omega) (by omega) (by omega))
    have z79 : ∀ M', KpT M M' → ∀ b, b < n → M'.1 79 b = cv (lf b) := fun M' hk b hb => by rw [hk.1 79 (by omega) (by omega) (by omega) (by omega)]; exact e79 b hb
    have z80 : ∀ M', KpT M M' → ∀ b, b < n → M'.1 80 b = cv (rt b) := fun M' hk b hb => by rw [hk.1 80 (by omega) (by omega) (by omega) (by omega)]; exact e80 b hb
    rw [pz_rd (by omega) (by omega), z79 M3 kk3 c hcn, pz_rw (z7 M3 kk3) htd (z70 M3 kk3) (z71 M3 kk3) hcn hn, pz_bd, pz_add]
    refine wp_b (rlu_ok t htd l g (lf c) (i + 1) (x0 + swd w h td c) M3 tl vi.1 p2 x2 (by omega) (by omega) (by omega) (z7 M3 kk3) (z70 M3 kk3) (z71 M3 kk3) (z79 M3 kk3) (z80 M3 kk3) d3) ?_
    rintro M4 ⟨d4, k4⟩
    have kk4 := kk3.tr k4
    rw [pz_rd (by omega) (by omega), z80 M4 kk4 c hcn]
    refine wp_b (rlu_ok t htd r g (rt c) (i + 1 + (nd l).length) x0 M4 tr vi.2 p3 x3 (by omega) (by omega) hx0 (z7 M4 kk4) (z70 M4 kk4) (z71 M4 kk4) (z79 M4 kk4) (z80 M4 kk4) d4) ?_
    rintro M5 ⟨d5, k5⟩
    refine wp_s ⟨?_, kk4.tr k5⟩
    rw [show i + (nd (Lean.RArray.branch c l r)).length = i + 1 + (nd l).length + (nd r).length by show i + (c :: (nd l ++ nd r)).length = _; rw [List.length_cons, List.length_append]; omega]
    exact d5
