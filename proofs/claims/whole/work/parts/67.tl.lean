/-! trees laid -/
def Pt (P : Nat → Nat) : Nat → Ex → Prop
  | _, .leaf _ => True
  | i, .branch b l r => P i = b ∧ Pt P (i + 1) l ∧ Pt P (i + 1 + (nd l).length) r
def Xt (X W : Nat → Nat) : Nat → Ex → Prop
  | _, .leaf _ => True
  | x, .branch b l r => X b = x ∧ Xt X W (x + W b) l ∧ Xt X W x r
def ov (X W : Nat → Nat) (a b : Nat) : Prop := ¬ X a + W a ≤ X b ∧ ¬ X b + W b ≤ X a
theorem ov_dec (X W : Nat → Nat) (a b : Nat) : ov X W a b ∨ ¬ ov X W a b := Classical.em _
def yf (P X W H Y : Nat → Nat) (j i : Nat) : Nat := if X (P i) + W (P i) ≤ X (P j) then 0 else if X (P j) + W (P j) ≤ X (P i) then 0 else Y (P i) + H (P i)
def YE (P X W H Y : Nat → Nat) (n : Nat) : Prop := ∀ j, j < n → Y (P j) = mxn (yf P X W H Y j) j
def lty (P X W H : Nat → Nat) : Nat → Nat → Nat
  | 0 => fun _ => 0
  | j + 1 => fset (lty P X W H j) (P j) (mxn (yf P X W H (lty P X W H j) j) j)
theorem lty_st {P X W H : Nat → Nat} {n : Nat} (hP : PermN n P) {i : Nat} : ∀ {j}, i < j → j ≤ n → lty P X W H j (P i) = lty P X W H (i + 1) (P i)
  | 0, h, _ => by omega
  | j + 1, h, hj => by
    by_cases e : i = j
    · rw [e]
    · show fset (lty P X W H j) (P j) _ (P i) = _
      rw [fset_ne (fun q => e (hP.2 i j (by omega) (by omega) q)), lty_st hP (j := j) (by omega) (by omega)]
theorem lty_ye {P X W H : Nat → Nat} {n : Nat} (hP : PermN n P) : YE P X W H (lty P X W H n) n := by
  intro j hj
  rw [lty_st hP hj (Nat.le_refl _)]
  show fset (lty P X W H j) (P j) (mxn (yf P X W H (lty P X W H j) j) j) (P j) = _
  rw [fset_eq]
  refine mxn_cg fun i hi => ?_
  unfold yf
  rw [lty_st hP (i := i) (j := j) hi (by omega), lty_st hP (i := i) (j := n) (by omega) (Nat.le_refl _)]
theorem ye_le {P X W H Y : Nat → Nat} {n : Nat} (h : YE P X W H Y n) (hH : ∀ j, j < n → H (P j) ≤ 200) : ∀ j, j < n → Y (P j) ≤ 200 * j := by
  intro j
  induction j using Nat.strongRecOn with
  | ind j ih =>
    intro hj
    rw [h j hj]
    refine mxn_le fun i hi => ?_
    have := ih i hi (by omega)
    have := hH i (by omega)
    unfold yf
    split
    · omega
    · split <;> omega
def txf (W : Nat → Nat) : Ex → Nat → (Nat → Nat) → Nat → Nat
  | .leaf _, _, f => f
  | .branch b l r, x, f => txf W r x (txf W l (x + W b) (fset f b x))
theorem txf_o {W : Nat → Nat} : ∀ (e : Ex) (x : Nat) (f : Nat → Nat) (c : Nat), ¬ c ∈ nd e → txf W e x f c = f c
  | .leaf _, _, _, _, _ => rfl
  | .branch b l r, x, f, c, h => by
    have h : ¬ c ∈ b :: (nd l ++ nd r) := h
    rw [List.mem_cons, List.mem_append] at h
    show txf W r x (txf W l (x + W b) (fset f b x)) c = f c
    rw [txf_o r _ _ c (fun q => h (Or.inr (Or.inr q))), txf_o l _ _ c (fun q => h (Or.inr (Or.inl q))), fset_ne (fun q => h (Or.inl q))]
theorem Xt_cg {X X' W : Nat → Nat} : ∀ (e : Ex) (x : Nat), (∀ c ∈ nd e, X' c = X c) → Xt X W x e → Xt X' W x e
  | .leaf _, _, _, _ => trivial
  | .branch b l r, x, q, h => by
    have q : ∀ c ∈ b :: (nd l ++ nd r), X' c = X c := q
    exact ⟨(q b (List.mem_cons.mpr (Or.inl rfl))).trans h.1, Xt_cg l _ (fun c hc => q c (List.mem_cons.mpr (Or.inr (List.mem_append.mpr (Or.inl hc))))) h.2.1, Xt_cg r _ (fun c hc => q c (List.mem_cons.mpr (Or.inr (List.mem_append.mpr (Or.inr hc))))) h.2.2⟩
theorem txf_ok {W : Nat → Nat} : ∀ (e : Ex) (x : Nat) (f : Nat → Nat), (nd e).Nodup → Xt (txf W e x f) W x e
  | .leaf _, _, _, _ => trivial
  | .branch b l r, x, f, h => by
    have h : (b :: (nd l ++ nd r)).Nodup := h
    obtain ⟨h1, h2⟩ := List.nodup_cons.mp h
    obtain ⟨h3, h4, h5⟩ := List.nodup_append.mp h2
    rw [List.mem_append] at h1
    show txf W r x (txf W l (x + W b) (fset f b x)) b = x ∧ Xt (txf W r x (txf W l (x + W b) (fset f b x))) W (x + W b) l ∧ Xt (txf W r x (txf W l (x + W b) (fset f b x))) W x r
    refine ⟨?_, ?_, txf_ok r x _ h4⟩
    · rw [txf_o r _ _ b (fun q => h1 (Or.inr q)), txf_o l _ _ b (fun q => h1 (Or.inl q)), fset_eq]
    · exact Xt_cg l _ (fun c hc => txf_o r _ _ c (fun q => h5 c hc c q rfl)) (txf_ok l (x + W b) _ h3)
theorem Xt_le {X W : Nat → Nat} : ∀ (e : Ex) (x : Nat), Xt X W x e → (∀ c ∈ nd e, W c ≤ 200) → ∀ c ∈ nd e, X c ≤ x + 200 * (nd e).length
  | .leaf _, _, _, _, c, hc => by cases hc
  | .branch b l r, x, h, hw, c, hc => by
    have hw : ∀ c ∈ b :: (nd l ++ nd r), W c ≤ 200 := hw
    have hc : c ∈ b :: (nd l ++ nd r) := hc
    have wb := hw b (List.mem_cons.mpr (Or.inl rfl))
    show X c ≤ x + 200 * (b :: (nd l ++ nd r)).length
    rw [List.length_cons, List.length_append]
    rcases List.mem_cons.mp hc with q | q
    · rw [q, h.1]; omega
    · rcases List.mem_append.mp q with q | q
      · have := Xt_le l _ h.2.1 (fun c hc => hw c (List.mem_cons.mpr (Or.inr (List.mem_append.mpr (Or.inl hc))))) c q
        omega
      · have := Xt_le r _ h.2.2 (fun c hc => hw c (List.mem_cons.mpr (Or.inr (List.mem_append.mpr (Or.inr hc))))) c q
        omega
theorem Pt_of {P : Nat → Nat} : ∀ (e : Ex) (i : Nat), (∀ j, j < (nd e).length → (nd e)[j]? = some (P (i + j))) → Pt P i e
  | .leaf _, _, _ => trivial
  | .branch b l r, i, h => by
    have h : ∀ j, j < (b :: (nd l ++ nd r)).length → (b :: (nd l ++ nd r))[j]? = some (P (i + j)) := h
    rw [List.length_cons, List.length_append] at h
    refine ⟨?_, Pt_of l (i + 1) fun j hj => ?_, Pt_of r (i + 1 + (nd l).length) fun j hj => ?_⟩
    · have : (some b : Option Nat) = some (P (i + 0)) := h 0 (by omega)
      exact (Option.some.inj this).symm
    · have := h (j + 1) (by omega)
      rw [List.getElem?_cons_succ, List.getElem?_append_left hj] at this
      rw [this]; congr 2; omega
    · have := h (j + (nd l).length + 1) (by omega)
      rw [List.getElem?_cons_succ, List.getElem?_append_right (by omega), show j + (nd l).length - (nd l).length = j by omega] at this
      rw [this]; congr 2; omega
/-- all that a laying of a tree rests on -/
def TLy (n : Nat) (lf rt P X Y W H : Nat → Nat) : Prop :=
  (n ≤ 12) ∧
  (PermN n P) ∧
  (YE P X W H Y n) ∧
  (∀ b, b < n → 1 ≤ W b ∧ W b ≤ 200) ∧
  (∀ b, b < n → 1 ≤ H b ∧ H b ≤ 200) ∧
  (∀ b, b < n → X b ≤ 2400) ∧
  (TVa lf rt n)
theorem TLy.n {n : Nat} {lf rt P X Y W H : Nat → Nat} (hh_ : TLy n lf rt P X Y W H) : n ≤ 12 := hh_.1
theorem TLy.P {n : Nat} {lf rt P X Y W H : Nat → Nat} (hh_ : TLy n lf rt P X Y W H) : PermN n P := hh_.2.1
theorem TLy.Y {n : Nat} {lf rt P X Y W H : Nat → Nat} (hh_ : TLy n lf rt P X Y W H) : YE P X W H Y n := hh_.2.2.1
theorem TLy.W {n : Nat} {lf rt P X Y W H : Nat → Nat} (hh_ : TLy n lf rt P X Y W H) : ∀ b, b < n → 1 ≤ W b ∧ W b ≤ 200 := hh_.2.2.2.1
theorem TLy.H {n : Nat} {lf rt P X Y W H : Nat → Nat} (hh_ : TLy n lf rt P X Y W H) : ∀ b, b < n → 1 ≤ H b ∧ H b ≤ 200 := hh_.2.2.2.2.1
theorem TLy.X {n : Nat} {lf rt P X Y W H : Nat → Nat} (hh_ : TLy n lf rt P X Y W H) : ∀ b, b < n → X b ≤ 2400 := hh_.2.2.2.2.2.1
theorem TLy.v {n : Nat} {lf rt P X Y W H : Nat → Nat} (hh_ : TLy n lf rt P X Y W H) : TVa lf rt n := hh_.2.2.2.2.2.2
theorem TLy.y {n : Nat} {lf rt P X Y W H : Nat → Nat} (t : TLy n lf rt P X Y W H) {j : Nat} (hj : j < n) : Y (P j) ≤ 2400 := by
  have := ye_le t.Y (fun j hj => (t.H _ (t.P.1 j hj)).2) j hj
  have := t.n
  omega
theorem il_pt {M : Mm} {k0 a b xa wa xb : Nat} (ha : a < 12) (hb : b < 12) (e1 : M.1 (k0 + 1) a = nI xa) (e2 : M.1 (k0 + 3) a = nI wa) (e3 : M.1 (k0 + 1) b = nI xb) (h1 : xa ≤ 2400) (h2 : wa ≤ 200) (h3 : xb ≤ 2400) : (xa + wa ≤ xb → f_X2_isLeft k0 (nI a) (nI b) M = some (nI 1)) ∧ (¬ xa + wa ≤ xb → f_X2_isLeft k0 (nI a) (nI b) M = some (nI 0)) := by
  unfold f_X2_isLeft
  rw [pz_rd (by omega) (by omega), e1, pz_rd (by omega) (by omega), e2, pz_rd (by omega) (by omega), e3, pz_add, pz_0, pz_1]
  constructor
  · intro q
    rw [if_neg (by rw [pz_lt (by omega) (by omega)]; omega)]
  · intro q
    rw [if_pos (by rw [pz_lt (by omega) (by omega)]; omega)]
theorem yf_m {n : Nat} {lf rt P X Y W H : Nat → Nat} (t : TLy n lf rt P X Y W H) {j i : Nat} (hj : j < n) (hi : i ≤ j) : mxn (yf P X W H Y j) i ≤ 2600 := mxn_le fun k hk => by
  have := t.y (show k < n by omega)
  have := (t.H _ (t.P.1 k (by omega))).2
  unfold yf
  split
  · omega
  · split <;> omega
theorem tu_ok {M : Mm} {k0 k1 n i : Nat} {lf rt P X Y W H : Nat → Nat} (t : TLy n lf rt P X Y W H) (hi : i < n) (hl : ∀ j, j < i → M.1 (k0 + 4) j = nI (P j)) (hx : ∀ j, j < i → M.1 (k1 + 1) (P j) = nI (X (P j))) (hy : ∀ j, j < i → M.1 (k1 + 2) (P j) = nI (Y (P j))) (hxi : M.1 (k1 + 1) (P i) = nI (X (P i))) (eW : IA M (k1 + 3) n W) (eH : IA M (k1 + 4) n H) : f_X3_topUnder k0 k1 (nI (P i)) (nI i) M = some (nI (Y (P i))) := by
  have hn := t.n
  unfold f_X3_topUnder f_X3_topUnder_A6
  have bi := t.P.1 i hi
  have xi := t.X _ bi
  have wi' := t.W _ bi
  have lp : loop (fun v => f_X3_topUnder_L6 k0 k1 (nI (P i)) (nI i) M v.1 v.2) FU (nI 0, nI 0) = some (nI (mxn (yf P X W H Y i) i)) := by
    refine lp_n (fun j => (nI (mxn (yf P X W H Y i) j), nI j)) i (fu_lt (by omega)) (fun j hj => ?_) ?_
    · show f_X3_topUnder_L6 k0 k1 (nI (P i)) (nI i) M (nI (mxn (yf P X W H Y i) j)) (nI j) = some (Sum.inl (nI (max (mxn (yf P X W H Y i) j) (yf P X W H Y i j)), nI (j + 1)))
      unfold f_X3_topUnder_L6 f_X3_topUnder_J63
      have bj := t.P.1 j (by omega)
      have xj := t.X _ bj
      have wj := t.W _ bj
      have hj' := t.H _ bj
      have yj := t.y (show j < n by omega)
      have mm := yf_m t hi (show j ≤ i by omega)
      have l1 := il_pt (k0 := k1) (show P j < 12 by omega) (show P i < 12 by omega) (hx j hj) (eW _ bj) hxi xj wj.2 xi
      have l2 := il_pt (k0 := k1) (show P i < 12 by omega) (show P j < 12 by omega) hxi (eW _ bi) (hx j hj) xi wi'.2 xj
      have ey : yf P X W H Y i j = if X (P j) + W (P j) ≤ X (P i) then 0 else if X (P i) + W (P i) ≤ X (P j) then 0 else Y (P j) + H (P j) := rfl
      rw [if_neg (by rw [pz_le (by omega) (by omega)]; omega), pz_rd (by omega) (by omega), hl j hj, pz_0, pz_lt1, pz_1, pz_add]
      by_cases q1 : X (P j) + W (P j) ≤ X (P i)
      · rw [l1.1 q1, pz_bd, if_neg (by decide), ey, if_pos q1, Nat.max_zero]
      · rw [l1.2 q1, pz_bd, if_pos rfl]
        by_cases q2 : X (P i) + W (P i) ≤ X (P j)
        · rw [l2.1 q2, pz_bd, if_neg (by decide), ey, if_neg q1, if_pos q2, Nat.max_zero]
        · rw [l2.2 q2, pz_bd, if_pos rfl, pz_rd (by omega) (by omega), hy j hj, pz_rd (by omega) (by omega), eH _ bj, pz_add, pz_lt1, pz_max (by omega) (by omega), pz_lt1, ey, if_neg q1, if_neg q2]
    · show f_X3_topUnder_L6 k0 k1 (nI (P i)) (nI i) M (nI (mxn (yf P X W H Y i) i)) (nI i) = _
      unfold f_X3_topUnder_L6
      rw [if_pos ((nI_leI (by omega) (by omega)).mpr (Nat.le_refl _))]
  rw [pz_0, lp, ← t.Y i hi]; rfl
def STl (k0 k1 k : Nat) : Prop := k = k0 + 3 ∨ k = k0 + 4 ∨ k = k1 + 1 ∨ k = k1 + 2
/-- laid so far -/
def TLd (k0 k1 : Nat) (P X Y : Nat → Nat) (i : Nat) (M : Mm) : Prop :=
  (∀ j, j < i → M.1 (k0 + 4) j = nI (P j)) ∧
  (∀ j, j < i → M.1 (k1 + 1) (P j) = nI (X (P j))) ∧
  (∀ j, j < i → M.1 (k1 + 2) (P j) = nI (Y (P j)))
theorem TLd.l {k0 k1 : Nat} {P X Y : Nat → Nat} {i : Nat} {M : Mm} (hh_ : TLd k0 k1 P X Y i M) : ∀ j, j < i → M.1 (k0 + 4) j = nI (P j) := hh_.1
theorem TLd.x {k0 k1 : Nat} {P X Y : Nat → Nat} {i : Nat} {M : Mm} (hh_ : TLd k0 k1 P X Y i M) : ∀ j, j < i → M.1 (k1 + 1) (P j) = nI (X (P j)) := hh_.2.1
theorem TLd.y {k0 k1 : Nat} {P X Y : Nat → Nat} {i : Nat} {M : Mm} (hh_ : TLd k0 k1 P X Y i M) : ∀ j, j < i → M.1 (k1 + 2) (P j) = nI (Y (P j)) := hh_.2.2
theorem j117 {M : Mm} {k0 k1 b p i lb xb wb : Nat} (hk : k1 + 5 < k0) (hb : b < 12) (hp : p < 24) (hl : lb < 12 ∨ lb = 15) (el : M.1 (k0 + 1) b = nI lb) (ex : M.1 (k1 + 1) b = nI xb) (ew : M.1 (k1 + 3) b = nI wb) :
    ∃ M', f_X3_lay_J117 k0 k1 (nI i) (nI b) (nI p) M = some (.inl (nI (p + chC lb), nI (i + 1), M')) ∧ (lb ≠ 15 → M'.1 (k0 + 3) p = nI lb ∧ M'.1 (k1 + 1) lb = nI (xb + wb)) ∧ (∀ j, j ≠ p → M'.1 (k0 + 3) j = M.1 (k0 + 3) j) ∧ (∀ d, d ≠ lb → M'.1 (k1 + 1) d = M.1 (k1 + 1) d) ∧ (∀ k, k ≠ k0 + 3 → k ≠ k1 + 1 → M'.1 k = M.1 k) ∧ M'.2 = M.2 := by
  unfold f_X3_lay_J117 f_X3_lay_J172 chC
  rw [pz_rd (by omega) (by omega), el, pz_15]
  by_cases z : lb = 15
  · rw [if_pos (by rw [z]), if_pos z, pz_lt1, pz_1, pz_add]
    exact ⟨M, rfl, fun h => absurd z h, fun _ _ => rfl, fun _ _ => rfl, fun _ _ _ => rfl, rfl⟩
  · rw [if_neg (by rw [pz_eq (by omega) (by omega)]; exact z), if_neg z, pz_rd (by omega) (by omega), el, pz_rd (by omega) (by omega), ex, pz_rd (by omega) (by omega), ew, pz_add, pz_wr (by omega) (by omega), pz_lt1, pz_rd (by omega) (by omega), wi_n _ _ _ (by omega), el, pz_wr (by omega) (by omega), pz_lt1, pz_1, pz_add, pz_add]
    refine ⟨_, rfl, fun _ => ⟨?_, ?_⟩, fun j hj => ?_, fun d hd => ?_, fun k h1 h2 => ?_, rfl⟩
    · rw [wi_at, if_pos rfl]
    · rw [wi_n _ _ _ (by omega), wi_at, if_pos rfl]
    · rw [wi_at, if_neg hj, wi_n _ _ _ (by omega)]
    · rw [wi_n _ _ _ (by omega), wi_at, if_neg hd]
    · rw [wi_n _ _ _ h1, wi_n _ _ _ h2]
theorem clt_st {M : Mm} {k0 k1 n i w : Nat} {lf rt P X Y W H : Nat → Nat} (t : TLy n lf rt P X Y W H) (hk : k1 + 5 < k0) (hi : i < n) (hw : w + 2 ≤ 24) (h5 : M.1 k0 5 = nI n) (el : IA M (k0 + 1) n lf) (er : IA M (k0 + 2) n rt) (eW : IA M (k1 + 3) n W) (eH : IA M (k1 + 4) n H) (hd : TLd k0 k1 P X Y i M) (ho : M.1 (k0 + 3) w = nI (P i)) (hx : M.1 (k1 + 1) (P i) = nI (X (P i)))
    (hl : ∀ j, j ≤ i → lf (P i) ≠ P j) (hr : ∀ j, j ≤ i → rt (P i) ≠ P j) (hlr : lf (P i) ≠ 15 → lf (P i) ≠ rt (P i)) :
    ∃ M', f_X3_lay_L24 k0 k1 (nI (w + 1)) (nI i) M = some (.inl (nI (w + chC (rt (P i)) + chC (lf (P i))), nI (i + 1), M')) ∧ TLd k0 k1 P X Y (i + 1) M' ∧ (rt (P i) ≠ 15 → M'.1 (k0 + 3) w = nI (rt (P i)) ∧ M'.1 (k1 + 1) (rt (P i)) = nI (X (P i))) ∧ (lf (P i) ≠ 15 → M'.1 (k0 + 3) (w + chC (rt (P i))) = nI (lf (P i)) ∧ M'.1 (k1 + 1) (lf (P i)) = nI (X (P i) + W (P i))) ∧ (∀ j, j < w → M'.1 (k0 + 3) j = M.1 (k0 + 3) j) ∧ (∀ d, d ≠ lf (P i) → d ≠ rt (P i) → M'.1 (k1 + 1) d = M.1 (k1 + 1) d) ∧ Fr (STl k0 k1) M M' := by
  have hn := t.n
  have bi := t.P.1 i hi
  have vi := t.v _ bi
  have xi := t.X _ bi
  have wi' := t.W _ bi
  have tu := tu_ok (k0 := k0) (k1 := k1) t hi hd.l hd.x hd.y hx eW eH
  have nl := hl i (Nat.le_refl _)
  have nr := hr i (Nat.le_refl _)
  generalize hb : P i = b at *
  unfold f_X3_lay_L24
  rw [h5, if_neg (by rw [pz_le (by omega) (by omega)]; omega), pz_0, if_neg (by rw [pz_le (by omega) (by omega)]; omega), pz_lt1, pz_n1, pz_dec (by omega), show w + 1 - 1 = w by omega, pz_rd (by omega) (by omega), ho, tu, pz_bd, pz_wr (by omega) (by omega), pz_wr (by omega) (by omega), pz_rd (by omega) (by omega), wi_n _ _ _ (by omega), wi_n _ _ _ (by omega), er _ bi, pz_15]
  generalize hM1 : wi (wi M (k1 + 2) b (nI (Y b))) (k0 + 4) i (nI b) = M1
  have q1 : ∀ k, k ≠ k1 + 2 → k ≠ k0 + 4 → M1.1 k = M.1 k := fun k h1 h2 => by subst hM1; rw [wi_n _ _ _ h2, wi_n _ _ _ h1]
  have y1 : ∀ j, M1.1 (k1 + 2) j = if j = b then nI (Y b) else M.1 (k1 + 2) j := fun j => by subst hM1; rw [wi_n _ _ _ (by omega), wi_at]
  have l1 : ∀ j, M1.1 (k0 + 4) j = if j = i then nI b else M.1 (k0 + 4) j := fun j => by subst hM1; rw [wi_at, wi_n _ _ _ (by omega)]
  have f1 : Fr (STl k0 k1) M M1 := by subst hM1; exact (Fr.rf.w (by unfold STl; omega)).w (by unfold STl; omega)
  have base : ∀ M', (∀ d, d ≠ lf b → d ≠ rt b → M'.1 (k1 + 1) d = M.1 (k1 + 1) d) → M'.1 (k1 + 2) = M1.1 (k1 + 2) → M'.1 (k0 + 4) = M1.1 (k0 + 4) → TLd k0 k1 P X Y (i + 1) M' := by
    intro M' a1 a2 a3
    refine ⟨fun j hj => ?_, fun j hj => ?_, fun j hj => ?_⟩
    · rw [a3, l1]
      by_cases e : j = i
      · rw [if_pos e, e, hb]
      · rw [if_neg e]; exact hd.l j (by omega)
    · rw [a1 _ (fun z => hl j (by omega) z.symm) (fun z => hr j (by omega) z.symm)]
      by_cases e : j = i
      · rw [e, hb]; exact hx
      · exact hd.x j (by omega)
    · rw [a2, y1]
      by_cases e : j = i
      · rw [e, hb, if_pos rfl]
      · rw [if_neg (fun z => e (t.P.2 j i (by omega) hi (by rw [hb]; exact z)))]; exact hd.y j (by omega)
  have x1 : M1.1 (k1 + 1) b = nI (X b) := by rw [q1 _ (by omega) (by omega)]; exact hx
  by_cases z2 : rt b = 15
  · rw [if_pos (by rw [z2])]
    obtain ⟨M', e', c1, c2, c3, c4, c5⟩ := j117 (M := M1) (k0 := k0) (k1 := k1) (b := b) (p := w) (i := i) (lb := lf b) (xb := X b) (wb := W b) hk (by omega) (by omega) (by omega) (by rw [q1 _ (by omega) (by omega)]; exact el _ bi) x1 (by rw [q1 _ (by omega) (by omega)]; exact eW _ bi)
    have cr : chC (rt b) = 0 := by unfold chC; rw [if_pos z2]
    rw [cr, Nat.add_zero]
    refine ⟨M', e', base M' (fun d h1 _ => by rw [c3 d h1, q1 _ (by omega) (by omega)]) (c4 _ (by omega) (by omega)) (c4 _ (by omega) (by omega)), fun h => absurd z2 h, c1, fun j hj => by rw [c2 j (by omega), q1 _ (by omega) (by omega)], fun d h1 _ => by rw [c3 d h1, q1 _ (by omega) (by omega)], f1.tr ⟨fun k hk => c4 k (fun e => hk (by unfold STl; omega)) (fun e => hk (by unfold STl; omega)), fun k _ => by rw [c5]⟩⟩
  · have cr : chC (rt b) = 1 := by unfold chC; rw [if_neg z2]
    rw [if_neg (by rw [pz_eq (by omega) (by omega)]; exact z2), pz_rd (by omega) (by omega), show M1.1 (k0 + 2) b = nI (rt b) by rw [q1 _ (by omega) (by omega)]; exact er _ bi, pz_rd (by omega) (by omega), x1, pz_wr (by omega) (by omega), pz_lt1, pz_rd (by omega) (by omega), wi_n _ _ _ (by omega), show M1.1 (k0 + 2) b = nI (rt b) by rw [q1 _ (by omega) (by omega)]; exact er _ bi, pz_wr (by omega) (by omega), pz_1, pz_add]
    generalize hM2 : wi (wi M1 (k1 + 1) (rt b) (nI (X b))) (k0 + 3) w (nI (rt b)) = M2
    have q2 : ∀ k, k ≠ k1 + 1 → k ≠ k0 + 3 → M2.1 k = M1.1 k := fun k h1 h2 => by subst hM2; rw [wi_n _ _ _ h2, wi_n _ _ _ h1]
    have x2 : ∀ d, M2.1 (k1 + 1) d = if d = rt b then nI (X b) else M1.1 (k1 + 1) d := fun d => by subst hM2; rw [wi_n _ _ _ (by omega), wi_at]
    have o2 : ∀ j, M2.1 (k0 + 3) j = if j = w then nI (rt b) else M1.1 (k0 + 3) j := fun j => by subst hM2; rw [wi_at, wi_n _ _ _ (by omega)]
    obtain ⟨M', e', c1, c2, c3, c4, c5⟩ := j117 (M := M2) (k0 := k0) (k1 := k1) (b := b) (p := w + 1) (i := i) (lb := lf b) (xb := X b) (wb := W b) hk (by omega) (by omega) (by omega) (by rw [q2 _ (by omega) (by omega), q1 _ (by omega) (by omega)]; exact el _ bi) (by rw [x2, if_neg (fun z => nr z.symm)]; exact x1) (by rw [q2 _ (by omega) (by omega), q1 _ (by omega) (by omega)]; exact eW _ bi)
    rw [cr]
    have xr : M'.1 (k1 + 1) (rt b) = nI (X b) := by
      by_cases zl : lf b = 15
      · rw [c3 _ (by omega), x2, if_pos rfl]
      · rw [c3 _ (fun z => hlr zl z.symm), x2, if_pos rfl]
    refine ⟨M', e', base M' (fun d h1 h2 => by rw [c3 d h1, x2, if_neg h2, q1 _ (by omega) (by omega)]) (by rw [c4 _ (by omega) (by omega), q2 _ (by omega) (by omega)]) (by rw [c4 _ (by omega) (by omega), q2 _ (by omega) (by omega)]), fun _ => ⟨by rw [c2 w (by omega), o2, if_pos rfl], xr⟩, c1, fun j hj => by rw [c2 j (by omega), o2, if_neg (by omega), q1 _ (by omega) (by omega)], fun d h1 h2 => by rw [c3 d h1, x2, if_neg h2, q1 _ (by omega) (by omega)], ?_⟩
    have f2 : Fr (STl k0 k1) M M2 := by subst hM2; exact (f1.w (by unfold STl; omega)).w (by unfold STl; omega)
    exact f2.tr ⟨fun k hk => c4 k (fun e => hk (by unfold STl; omega)) (fun e => hk (by unfold STl; omega)), fun k _ => by rw [c5]⟩
theorem Pt_mem {P : Nat → Nat} : ∀ (e : Ex) (i : Nat), Pt P i e → ∀ c ∈ nd e, ∃ j, i ≤ j ∧ j < i + (nd e).length ∧ c = P j
  | .leaf _, _, _, c, hc => by cases hc
  | .branch b l r, i, h, c, hc => by
    have hc : c ∈ b :: (nd l ++ nd r) := hc
    show ∃ j, i ≤ j ∧ j < i + (b :: (nd l ++ nd r)).length ∧ c = P j
    rw [List.length_cons, List.length_append]
    rcases List.mem_cons.mp hc with q | q
    · exact ⟨i, by omega, by omega, q.trans h.1.symm⟩
    · rcases List.mem_append.mp q with q | q
      · obtain ⟨j, j1, j2, j3⟩ := Pt_mem l _ h.2.1 c q
        exact ⟨j, by omega, by omega, j3⟩
      · obtain ⟨j, j1, j2, j3⟩ := Pt_mem r _ h.2.2 c q
        exact ⟨j, by omega, by omega, j3⟩
/-- the root of a part of a tree stands in it -/
theorem TR_mem {lf rt : Nat → Nat} {e : Ex} {c : Nat} (h : TR lf rt e c) (hc : c ≠ 15) : c ∈ nd e := by
  cases e with
  | leaf _ => exact absurd h hc
  | branch b l r => rw [h.1]; exact List.mem_cons.mpr (Or.inl rfl)
theorem clt_seg {k0 k1 n : Nat} {lf rt P X Y W H : Nat → Nat} (t : TLy n lf rt P X Y W H) (hk : k1 + 5 < k0) : ∀ (e : Ex) (c i w x0 : Nat) (M : Mm), TR lf rt e c → (c < n ∨ c = 15) → Pt P i e → Xt X W x0 e → i + (nd e).length ≤ n → w + 2 * (nd e).length ≤ 24 → (∀ d ∈ nd e, d < n) → M.1 k0 5 = nI n → IA M (k0 + 1) n lf → IA M (k0 + 2) n rt → IA M (k1 + 3) n W → IA M (k1 + 4) n H → TLd k0 k1 P X Y i M → (c ≠ 15 → M.1 (k0 + 3) w = nI c ∧ M.1 (k1 + 1) c = nI x0) →
    ∃ M', stp (fun v : Int32 × Int32 × Mm => f_X3_lay_L24 k0 k1 v.1 v.2.1 v.2.2) (nd e).length (nI (w + chC c), nI i, M) (nI w, nI (i + (nd e).length), M') ∧ TLd k0 k1 P X Y (i + (nd e).length) M' ∧ (∀ j, j < w → M'.1 (k0 + 3) j = M.1 (k0 + 3) j) ∧ (∀ d, d < 15 → ¬ d ∈ nd e → M'.1 (k1 + 1) d = M.1 (k1 + 1) d) ∧ Fr (STl k0 k1) M M'
  | .leaf _, c, i, w, x0, M, hT, _, _, _, _, _, _, _, _, _, _, _, hd, _ => by
    have hT : c = 15 := hT
    subst hT
    exact ⟨M, rfl, hd, fun _ _ => rfl, fun _ _ _ => rfl, Fr.rf⟩
  | .branch b l r, c, i, w, x0, M, hT, hc, hP, hX, hi, hw, hm, h5, el, er, eW, eH, hd, ho => by
    obtain ⟨rfl, h15, tl, tr⟩ := hT
    obtain ⟨p1, p2, p3⟩ := hP
    obtain ⟨x1, x2, x3⟩ := hX
    have hi : i + (c :: (nd l ++ nd r)).length ≤ n := hi
    have hw : w + 2 * (c :: (nd l ++ nd r)).length ≤ 24 := hw
    rw [List.length_cons, List.length_append] at hi hw
    have hm : ∀ d ∈ c :: (nd l ++ nd r), d < n := hm
    have hcn : c < n := by omega
    have vi := t.v c hcn
    obtain ⟨o1, o2⟩ := ho h15
    have inl : ∀ d ∈ nd l, ∃ j, i + 1 ≤ j ∧ j < i + 1 + (nd l).length ∧ d = P j := Pt_mem l _ p2
    have inr : ∀ d ∈ nd r, ∃ j, i + 1 + (nd l).length ≤ j ∧ j < i + 1 + (nd l).length + (nd r).length ∧ d = P j := Pt_mem r _ p3
    have hl : ∀ j, j ≤ i → lf (P i) ≠ P j := fun j hj z => by
      rw [p1] at z
      by_cases q : lf c = 15
      · have := t.P.1 j (by omega)
        have := t.n
        omega
      · obtain ⟨j', a1, a2, a3⟩ := inl _ (TR_mem tl q)
        rw [a3] at z
        have := t.P.2 j' j (by omega) (by omega) z
        omega
    have hr : ∀ j, j ≤ i → rt (P i) ≠ P j := fun j hj z => by
      rw [p1] at z
      by_cases q : rt c = 15
      · have := t.P.1 j (by omega)
        have := t.n
        omega
      · obtain ⟨j', a1, a2, a3⟩ := inr _ (TR_mem tr q)
        rw [a3] at z
        have := t.P.2 j' j (by omega) (by omega) z
        omega
    have hlr : lf (P i) ≠ 15 → lf (P i) ≠ rt (P i) := fun q z => by
      rw [p1] at q z
      obtain ⟨j', a1, a2, a3⟩ := inl _ (TR_mem tl q)
      obtain ⟨j2, b1, b2, b3⟩ := inr _ (TR_mem tr (by rw [← z]; exact q))
      rw [a3, b3] at z
      have := t.P.2 j' j2 (by omega) (by omega) z
      omega
    obtain ⟨M1, e1, d1, r1, l1, s1, k1', f1⟩ := clt_st (w := w) t hk (show i < n by omega) (by omega) h5 el er eW eH hd (by rw [p1]; exact o1) (by rw [p1, x1]; exact o2) hl hr hlr
    rw [p1] at e1 r1 l1 k1'
    rw [x1] at r1 l1
    have q1 : ∀ k, ¬ STl k0 k1 k → M1.1 k = M.1 k := fun k hk => f1.1 k hk
    have ch := chC_lt (rt c)
    have lnr : rt c ≠ 15 → 1 ≤ (nd r).length := fun q => List.length_pos_of_mem (TR_mem tr q)
    have chr : chC (rt c) ≤ (nd r).length := by
      unfold chC
      split
      · omega
      · rename_i q; exact lnr q
    obtain ⟨M2, e2, d2, s2, k2', f2⟩ := clt_seg t hk l (lf c) (i + 1) (w + chC (rt c)) (x0 + W c) M1 tl vi.1 p2 x2 (by omega) (by omega) (fun d hd => hm d (List.mem_cons.mpr (Or.inr (List.mem_append.mpr (Or.inl hd))))) (by rw [q1 _ (by unfold STl; omega)]; exact h5) (el.eq (q1 _ (by unfold STl; omega))) (er.eq (q1 _ (by unfold STl; omega))) (eW.eq (q1 _ (by unfold STl; omega))) (eH.eq (q1 _ (by unfold STl; omega))) d1 l1
    have q2 : ∀ k, ¬ STl k0 k1 k → M2.1 k = M.1 k := fun k hk => (f2.1 k hk).trans (q1 k hk)
    have rnl : rt c ≠ 15 → ¬ rt c ∈ nd l := fun q z => by
      obtain ⟨j', a1, a2, a3⟩ := inl _ z
      obtain ⟨j2, b1, b2, b3⟩ := inr _ (TR_mem tr q)
      rw [a3] at b3
      have := t.P.2 j' j2 (by omega) (by omega) b3
      omega
    have chr1 : rt c ≠ 15 → chC (rt c) = 1 := fun q => by unfold chC; rw [if_neg q]
    obtain ⟨M3, e3, d3, s3, k3', f3⟩ := clt_seg t hk r (rt c) (i + 1 + (nd l).length) w x0 M2 tr vi.2 p3 x3 (by omega) (by omega) (fun d hd => hm d (List.mem_cons.mpr (Or.inr (List.mem_append.mpr (Or.inr hd))))) (by rw [q2 _ (by unfold STl; omega)]; exact h5) (el.eq (q2 _ (by unfold STl; omega))) (er.eq (q2 _ (by unfold STl; omega))) (eW.eq (q2 _ (by unfold STl; omega))) (eH.eq (q2 _ (by unfold STl; omega))) d2 (fun q => ⟨by rw [s2 w (by rw [chr1 q]; omega)]; exact (r1 q).1, by rw [k2' _ (by have := t.n; omega) (rnl q)]; exact (r1 q).2⟩)
    have hlen : (nd (.branch c l r)).length = 1 + (nd l).length + (nd r).length := by
      show (c :: (nd l ++ nd r)).length = _
      rw [List.length_cons, List.length_append]; omega
    have cc : chC c = 1 := by unfold chC; rw [if_neg h15]
    rw [hlen, cc]
    refine ⟨M3, ?_, by rw [show i + (1 + (nd l).length + (nd r).length) = i + 1 + (nd l).length + (nd r).length by omega]; exact d3, fun j hj => by rw [s3 j hj, s2 j (by omega), s1 j hj], fun d h15d hd => ?_, (f1.tr f2).tr f3⟩
    · rw [show i + (1 + (nd l).length + (nd r).length) = i + 1 + (nd l).length + (nd r).length by omega]
      exact stp_tr (stp_tr (stp_1 e1) e2) e3
    · have hd : ¬ d ∈ c :: (nd l ++ nd r) := hd
      rw [List.mem_cons, List.mem_append] at hd
      rw [k3' d h15d (fun z => hd (Or.inr (Or.inr z))), k2' d h15d (fun z => hd (Or.inr (Or.inl z))), k1' d (fun z => hd (Or.inr (Or.inl (by rw [z]; exact TR_mem tl (by omega))))) (fun z => hd (Or.inr (Or.inr (by rw [z]; exact TR_mem tr (by omega)))))]
