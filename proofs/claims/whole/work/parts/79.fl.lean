/-! the floor: blocks that don't clash need at least their own ground -/
theorem smn_0 : ∀ n, smn (fun _ => 0) n = 0
  | 0 => rfl
  | n + 1 => by show smn (fun _ => 0) n + 0 = 0; rw [smn_0 n]
theorem smn_ad (f g : Nat → Nat) : ∀ n, smn (fun i => f i + g i) n = smn f n + smn g n
  | 0 => rfl
  | n + 1 => by
    show smn (fun i => f i + g i) n + (f n + g n) = smn f n + f n + (smn g n + g n)
    rw [smn_ad f g n]; omega
theorem smn_sw (f : Nat → Nat → Nat) (m : Nat) : ∀ n, smn (fun i => smn (f i) m) n = smn (fun j => smn (fun i => f i j) n) m
  | 0 => (smn_0 m).symm
  | n + 1 => by
    show smn (fun i => smn (f i) m) n + smn (f n) m = smn (fun j => smn (fun i => f i j) n + f n j) m
    rw [smn_sw f m n, smn_ad]
theorem smn_mul (c : Nat) (f : Nat → Nat) : ∀ n, smn (fun i => c * f i) n = c * smn f n
  | 0 => rfl
  | n + 1 => by
    show smn (fun i => c * f i) n + c * f n = c * (smn f n + f n)
    rw [smn_mul c f n, Nat.mul_add]
def ind (x w X : Nat) : Nat := if x ≤ X ∧ X < x + w then 1 else 0
theorem smn_ind (x w : Nat) : ∀ N, smn (ind x w) N = min (N - x) w
  | 0 => by show 0 = _; omega
  | N + 1 => by
    show smn (ind x w) N + ind x w N = _
    rw [smn_ind x w N]
    unfold ind
    split <;> omega
theorem smn_1 {f : Nat → Nat} : ∀ {n}, (∀ i, i < n → f i ≤ 1) → (∀ i j, i < n → j < n → f i = 1 → f j = 1 → i = j) → smn f n ≤ 1
  | 0, _, _ => Nat.zero_le _
  | n + 1, h1, h2 => by
    show smn f n + f n ≤ 1
    have ih := smn_1 (f := f) (n := n) (fun i hi => h1 i (by omega)) (fun i j hi hj => h2 i j (by omega) (by omega))
    have hn := h1 n (by omega)
    by_cases e : f n = 1
    · have : smn f n = smn (fun _ => 0) n := smn_cg fun i hi => by
        have a := h1 i (by omega)
        by_cases q : f i = 1
        · have := h2 i n (by omega) (by omega) q e
          omega
        · omega
      rw [this, smn_0]; omega
    · omega
theorem area_le {n XX YY : Nat} {x y W H : Nat → Nat} (hx : ∀ b, b < n → x b + W b ≤ XX) (hy : ∀ b, b < n → y b + H b ≤ YY) (nc : ∀ a b, a < n → b < n → a ≠ b → ¬ Cl x y W H a b) : smn (fun b => W b * H b) n ≤ XX * YY := by
  have e1 : smn (fun b => W b * H b) n = smn (fun b => smn (fun X => smn (fun Y => ind (x b) (W b) X * ind (y b) (H b) Y) YY) XX) n := smn_cg fun b hb => by
    have a := hx b hb
    have c := hy b hb
    have : smn (fun X => smn (fun Y => ind (x b) (W b) X * ind (y b) (H b) Y) YY) XX = smn (fun X => H b * ind (x b) (W b) X) XX := smn_cg fun X _ => by
      rw [smn_mul, smn_ind, show min (YY - y b) (H b) = H b by omega, Nat.mul_comm]
    rw [this, smn_mul, smn_ind, show min (XX - x b) (W b) = W b by omega, Nat.mul_comm]
  rw [e1, smn_sw (fun b X => smn (fun Y => ind (x b) (W b) X * ind (y b) (H b) Y) YY)]
  refine smn_le fun X hX => ?_
  show smn (fun b => smn (fun Y => ind (x b) (W b) X * ind (y b) (H b) Y) YY) n ≤ YY
  rw [smn_sw (fun b Y => ind (x b) (W b) X * ind (y b) (H b) Y)]
  refine Nat.le_trans (smn_le (B := 1) fun Y hY => ?_) (by omega)
  have i1 : ∀ x w X, ind x w X = 0 ∨ (ind x w X = 1 ∧ x ≤ X ∧ X < x + w) := fun x w X => by
    unfold ind
    split
    · rename_i h; exact Or.inr ⟨rfl, h⟩
    · exact Or.inl rfl
  refine smn_1 (fun b hb => ?_) (fun a b ha hb qa qb => ?_)
  · rcases i1 (x b) (W b) X with h | ⟨h, _⟩ <;> rcases i1 (y b) (H b) Y with k | ⟨k, _⟩ <;> rw [h, k] <;> decide
  · have get : ∀ b, ind (x b) (W b) X * ind (y b) (H b) Y = 1 → (x b ≤ X ∧ X < x b + W b) ∧ y b ≤ Y ∧ Y < y b + H b := fun b q => by
      rcases i1 (x b) (W b) X with h | ⟨h, h'⟩
      · rw [h, Nat.zero_mul] at q; omega
      · rcases i1 (y b) (H b) Y with k | ⟨k, k'⟩
        · rw [k, Nat.mul_zero] at q; omega
        · exact ⟨h', k'⟩
    have ga := get a qa
    have gb := get b qb
    refine Classical.byContradiction fun e => nc a b ha hb e ?_
    unfold Cl
    omega
theorem swd_mul (w h : Nat → Nat) (u b : Nat) : swd w h u b * swd h w u b = w b * h b := by
  unfold swd
  split
  · rw [Nat.mul_comm]
  · rfl
theorem bar_swd (w h : Nat → Nat) (u n : Nat) : smn (fun b => swd w h u b * swd h w u b) n = bar w h n := smn_cg fun b _ => swd_mul w h u b
/-- .. of pairs -/
theorem gp_fl {n : Nat} {one two W H : Nat → Nat} (p1 : PermN n one) (p2 : PermN n two) : smn (fun b => W b * H b) n ≤ gp one two n W H := by
  unfold gp
  refine area_le (x := lpx W two (fun b => ps one b n) true n) (y := lpx H two (fun b => ps one b n) false n) (fun b hb => mxn_ge (f := fun b => lpx W two (fun b => ps one b n) true n b + W b) hb) (fun b hb => mxn_ge (f := fun b => lpx H two (fun b => ps one b n) false n b + H b) hb) (fun a b ha hb e hc => ?_)
  unfold Cl at hc
  have key : ∀ a b, a < n → b < n → ps two a n < ps two b n → lpx W two (fun b => ps one b n) true n a + W a ≤ lpx W two (fun b => ps one b n) true n b ∨ lpx H two (fun b => ps one b n) false n a + H a ≤ lpx H two (fun b => ps one b n) false n b := by
    intro a b ha hb q
    by_cases z : ps one a n < ps one b n
    · exact Or.inl (lp_hx p2 a b ha hb ⟨q, decide_eq_true z⟩)
    · exact Or.inr (lp_hx p2 a b ha hb ⟨q, decide_eq_false z⟩)
  rcases Nat.lt_or_ge (ps two a n) (ps two b n) with q | q
  · have := key a b ha hb q; omega
  · have := key b a hb ha (by have := ps_ne p2 ha hb e; omega); omega
/-- .. of cuts -/
theorem ex_nc {W H : Nat → Nat} : ∀ (e : Ex), (Ex.lvs e).Nodup → ∀ c d, c ∈ Ex.lvs e → d ∈ Ex.lvs e → c ≠ d → ¬ Cl (fun c => exx W H c e) (fun c => exy W H c e) W H c d
  | .leaf b, _, c, d, hc, hd, hne => absurd ((List.mem_singleton.mp hc).trans (List.mem_singleton.mp hd).symm) hne
  | .branch t a b, nd_, c, d, hc, hd, hne => by
    obtain ⟨n1, n2, n3⟩ := List.nodup_append.mp (show (Ex.lvs a ++ Ex.lvs b).Nodup from nd_)
    have ex : ∀ c, exx W H c (.branch t a b) = if c ∈ Ex.lvs a then exx W H c a else exx W H c b + (if t = 12 then exw W H a else 0) := fun c => rfl
    have ey : ∀ c, exy W H c (.branch t a b) = if c ∈ Ex.lvs a then exy W H c a else exy W H c b + (if t = 12 then 0 else exh W H a) := fun c => rfl
    have cross : ∀ c d, c ∈ Ex.lvs a → d ∈ Ex.lvs b → exx W H c (.branch t a b) + W c ≤ exx W H d (.branch t a b) ∨ exy W H c (.branch t a b) + H c ≤ exy W H d (.branch t a b) := by
      intro c d hc hd
      have hda : ¬ d ∈ Ex.lvs a := fun q => n3 d q d hd rfl
      rw [ex, ex, ey, ey, if_pos hc, if_pos hc, if_neg hda, if_neg hda]
      have := exx_le (W := W) (H := H) a hc
      have := exy_le (W := W) (H := H) a hc
      by_cases z : t = 12
      · rw [if_pos z]; omega
      · rw [if_neg z, if_neg z]; omega
    unfold Cl
    show ¬ (¬ exx W H c (.branch t a b) + W c ≤ exx W H d (.branch t a b) ∧ ¬ exx W H d (.branch t a b) + W d ≤ exx W H c (.branch t a b) ∧ ¬ exy W H c (.branch t a b) + H c ≤ exy W H d (.branch t a b) ∧ ¬ exy W H d (.branch t a b) + H d ≤ exy W H c (.branch t a b))
    rcases List.mem_append.mp hc with hc' | hc' <;> rcases List.mem_append.mp hd with hd' | hd'
    · have := ex_nc (W := W) (H := H) a n1 c d hc' hd' hne
      unfold Cl at this
      have this : ¬ (¬ exx W H c a + W c ≤ exx W H d a ∧ ¬ exx W H d a + W d ≤ exx W H c a ∧ ¬ exy W H c a + H c ≤ exy W H d a ∧ ¬ exy W H d a + H d ≤ exy W H c a) := this
      rw [ex, ex, ey, ey, if_pos hc', if_pos hc', if_pos hd', if_pos hd']
      exact this
    · have := cross c d hc' hd'; omega
    · have := cross d c hd' hc'; omega
    · have := ex_nc (W := W) (H := H) b n2 c d hc' hd' hne
      unfold Cl at this
      have this : ¬ (¬ exx W H c b + W c ≤ exx W H d b ∧ ¬ exx W H d b + W d ≤ exx W H c b ∧ ¬ exy W H c b + H c ≤ exy W H d b ∧ ¬ exy W H d b + H d ≤ exy W H c b) := this
      have hca : ¬ c ∈ Ex.lvs a := fun q => n3 c q c hc' rfl
      have hda : ¬ d ∈ Ex.lvs a := fun q => n3 d q d hd' rfl
      rw [ex, ex, ey, ey, if_neg hca, if_neg hca, if_neg hda, if_neg hda]
      omega
theorem exx_at {W H : Nat → Nat} : ∀ (e : Ex), (Ex.lvs e).Nodup → ∃ c, c ∈ Ex.lvs e ∧ exx W H c e + W c = exw W H e
  | .leaf b, _ => ⟨b, List.mem_singleton.mpr rfl, by show 0 + W b = W b; omega⟩
  | .branch t a b, nd_ => by
    obtain ⟨n1, n2, n3⟩ := List.nodup_append.mp (show (Ex.lvs a ++ Ex.lvs b).Nodup from nd_)
    obtain ⟨c, c1, c2⟩ := exx_at (W := W) (H := H) a n1
    obtain ⟨d, d1, d2⟩ := exx_at (W := W) (H := H) b n2
    have ex : ∀ c, exx W H c (.branch t a b) = if c ∈ Ex.lvs a then exx W H c a else exx W H c b + (if t = 12 then exw W H a else 0) := fun c => rfl
    have ew : exw W H (.branch t a b) = if t = 12 then exw W H a + exw W H b else max (exw W H a) (exw W H b) := rfl
    have hda : ¬ d ∈ Ex.lvs a := fun q => n3 d q d d1 rfl
    by_cases z : t = 12
    · refine ⟨d, List.mem_append.mpr (Or.inr d1), ?_⟩
      rw [ex, ew, if_neg hda, if_pos z, if_pos z]; omega
    · by_cases q : exw W H a ≤ exw W H b
      · refine ⟨d, List.mem_append.mpr (Or.inr d1), ?_⟩
        rw [ex, ew, if_neg hda, if_neg z, if_neg z]; omega
      · refine ⟨c, List.mem_append.mpr (Or.inl c1), ?_⟩
        rw [ex, ew, if_pos c1, if_neg z]; omega
theorem exy_at {W H : Nat → Nat} : ∀ (e : Ex), (Ex.lvs e).Nodup → ∃ c, c ∈ Ex.lvs e ∧ exy W H c e + H c = exh W H e
  | .leaf b, _ => ⟨b, List.mem_singleton.mpr rfl, by show 0 + H b = H b; omega⟩
  | .branch t a b, nd_ => by
    obtain ⟨n1, n2, n3⟩ := List.nodup_append.mp (show (Ex.lvs a ++ Ex.lvs b).Nodup from nd_)
    obtain ⟨c, c1, c2⟩ := exy_at (W := W) (H := H) a n1
    obtain ⟨d, d1, d2⟩ := exy_at (W := W) (H := H) b n2
    have ex : ∀ c, exy W H c (.branch t a b) = if c ∈ Ex.lvs a then exy W H c a else exy W H c b + (if t = 12 then 0 else exh W H a) := fun c => rfl
    have ew : exh W H (.branch t a b) = if t = 12 then max (exh W H a) (exh W H b) else exh W H a + exh W H b := rfl
    have hda : ¬ d ∈ Ex.lvs a := fun q => n3 d q d d1 rfl
    by_cases z : t = 12
    · by_cases q : exh W H a ≤ exh W H b
      · refine ⟨d, List.mem_append.mpr (Or.inr d1), ?_⟩
        rw [ex, ew, if_neg hda, if_pos z, if_pos z]; omega
      · refine ⟨c, List.mem_append.mpr (Or.inl c1), ?_⟩
        rw [ex, ew, if_pos c1, if_pos z]; omega
    · refine ⟨d, List.mem_append.mpr (Or.inr d1), ?_⟩
      rw [ex, ew, if_neg hda, if_neg z, if_neg z]; omega
theorem RowE.gw {n : Nat} {tk W H : Nat → Nat} {e : Ex} (h : RowE n tk e) : rch (fun c => exx W H c e) W n = exw W H e ∧ rch (fun c => exy W H c e) H n = exh W H e := by
  have hm := h.2.2.2.1
  obtain ⟨c, c1, c2⟩ := exx_at (W := W) (H := H) e h.2.2.1
  obtain ⟨d, d1, d2⟩ := exy_at (W := W) (H := H) e h.2.2.1
  constructor
  · refine Nat.le_antisymm (mxn_le fun b hb => exx_le e (h.mem hb)) ?_
    rw [← c2]
    exact mxn_ge (f := fun b => exx W H b e + W b) (hm c c1)
  · refine Nat.le_antisymm (mxn_le fun b hb => exy_le e (h.mem hb)) ?_
    rw [← d2]
    exact mxn_ge (f := fun b => exy W H b e + H b) (hm d d1)
theorem gc_fl {n : Nat} {tk W H : Nat → Nat} {e : Ex} (h : RowE n tk e) : smn (fun b => W b * H b) n ≤ exw W H e * exh W H e :=
  area_le (x := fun c => exx W H c e) (y := fun c => exy W H c e) (fun b hb => exx_le e (h.mem hb)) (fun b hb => exy_le e (h.mem hb)) (fun a b ha hb q => ex_nc e h.2.2.1 a b (h.mem ha) (h.mem hb) q)
/-- .. of trees -/
def gt (n : Nat) (e : Ex) (W H : Nat → Nat) : Nat := rch (tX W e) W n * rch (tY W H e n) H n
theorem gt_fl {n r : Nat} {lf rt W H : Nat → Nat} {e : Ex} (h : TrE n r lf rt e) : smn (fun b => W b * H b) n ≤ gt n e W H := by
  refine area_le (x := tX W e) (y := tY W H e n) (fun b hb => mxn_ge (f := fun b => tX W e b + W b) hb) (fun b hb => mxn_ge (f := fun b => tY W H e n b + H b) hb) (fun a b ha hb hne hc => ?_)
  have hP := h.perm
  have hY : YE (tP e) (tX W e) W H (tY W H e n) n := lty_ye hP
  unfold Cl at hc
  have key : ∀ i j, i < j → j < n → ¬ tX W e (tP e i) + W (tP e i) ≤ tX W e (tP e j) → ¬ tX W e (tP e j) + W (tP e j) ≤ tX W e (tP e i) → tY W H e n (tP e i) + H (tP e i) ≤ tY W H e n (tP e j) := by
    intro i j hij hj q1 q2
    rw [hY j hj]
    refine Nat.le_trans ?_ (mxn_ge (i := i) hij)
    unfold yf
    rw [if_neg q1, if_neg q2]
    exact Nat.le_refl _
  obtain ⟨i, hi, rfl⟩ := hP.sur ha
  obtain ⟨j, hj, rfl⟩ := hP.sur hb
  rcases Nat.lt_trichotomy i j with q | q | q
  · have := key i j q hj hc.1 hc.2.1; omega
  · exact hne (by rw [q])
  · have := key j i q hi hc.2.1 hc.1; omega
