/-! rows of cuts, all of them -/
def rowF (r : List Nat) (i : Nat) : Nat := r.getD i 0
def enC (n : Nat) : Nat → List Nat → Nat → Nat → List (List Nat)
  | 0, _, _, _ => []
  | k + 1, pre, us, p => if 2 * n - 1 ≤ pre.length then [pre] else
      (if p ≤ 2 * n - 1 - 1 - pre.length then (List.range n).flatMap (fun b => if us.testBit b = true then [] else enC n k (pre ++ [b]) (us ||| 2 ^ b) (p + 1)) else []) ++
      (if 1 < p then (List.range 2).flatMap (fun i => if rowF pre (pre.length - 1) = 12 + i then [] else enC n k (pre ++ [12 + i]) us (p - 1)) else [])
def enA (n : Nat) : Nat → List Nat → Nat → Nat → List (List Nat)
  | 0, _, _, _ => []
  | k + 1, pre, us, p => if 2 * n - 1 - pre.length + 1 < p then [] else if 2 * n - 1 ≤ pre.length then (if p = 1 then [pre] else []) else
      (List.range n).flatMap (fun b => if us.testBit b = true then [] else enA n k (pre ++ [b]) (us ||| 2 ^ b) (p + 1)) ++
      (if 1 < p then (List.range 2).flatMap (fun i => enA n k (pre ++ [12 + i]) us (p - 1)) else [])
def nst (tk : Nat → Nat) : Nat → Option (Nat × (Nat → Nat))
  | 0 => some (0, fun _ => 0)
  | i + 1 => (nst tk i).bind fun z => if tk i < 12 then some (z.1 + 1, fset z.2 z.1 0) else if z.2 (z.1 - 1) = tk i then none else some (z.1 - 1, fset z.2 (z.1 - 1 - 1) (tk i))
def nrmB (n : Nat) (r : List Nat) : Bool := (nst (rowF r) (2 * n - 1)).isSome
def NA (n : Nat) : List (List Nat) := enA n 30 [] 0 0
def NR (n : Nat) : List (List Nat) := enC n 30 [] 0 0
set_option maxRecDepth 100000 in
theorem nr_tab : ∀ n, n < 5 → 1 ≤ n → NR n = (NA n).filter (nrmB n) := by decide +kernel
def rck (n : Nat) (r : List Nat) : Bool := decide (r.length = 2 * n - 1) && decide (rst n (rowF r) (2 * n - 1) = some (2 ^ n - 1, 1)) && r.all (fun t => decide (t < 14))
set_option maxRecDepth 100000 in
theorem na_tab : ∀ n, n < 5 → 1 ≤ n → (NA n).all (rck n) = true := by decide +kernel
set_option maxRecDepth 100000 in
theorem nr_ne : ∀ n, n < 5 → 1 ≤ n → ¬ NR n = [] := by decide +kernel
theorem NA_ok {n : Nat} (h1 : 1 ≤ n) (h4 : n ≤ 4) {r : List Nat} (hr : r ∈ NA n) : r.length = 2 * n - 1 ∧ rst n (rowF r) (2 * n - 1) = some (2 ^ n - 1, 1) ∧ (∀ i, i < 2 * n - 1 → rowF r i < 14) ∧ ∃ e, RowE n (rowF r) e := by
  have := List.all_eq_true.mp (na_tab n (by omega) h1) r hr
  unfold rck at this
  rw [Bool.and_eq_true, Bool.and_eq_true] at this
  obtain ⟨⟨a, b⟩, c⟩ := this
  have a := of_decide_eq_true a
  have b := of_decide_eq_true b
  refine ⟨a, b, fun i hi => ?_, rst_row (by omega) h1 b⟩
  have hm : rowF r i ∈ r := by
    unfold rowF
    rw [List.getD_eq_getElem?_getD, List.getElem?_eq_getElem (by omega)]
    exact List.getElem_mem _
  exact of_decide_eq_true (List.all_eq_true.mp c _ hm)
theorem NR_mem {n : Nat} (h1 : 1 ≤ n) (h4 : n ≤ 4) {r : List Nat} (hr : r ∈ NR n) : r ∈ NA n := by
  rw [nr_tab n (by omega) h1] at hr
  exact (List.mem_filter.mp hr).1
noncomputable def rE (n : Nat) (r : List Nat) : Ex := @Classical.epsilon Ex ⟨.leaf 0⟩ (fun e => RowE n (rowF r) e)
theorem rE_ok {n : Nat} (h1 : 1 ≤ n) (h4 : n ≤ 4) {r : List Nat} (hr : r ∈ NA n) : RowE n (rowF r) (rE n r) := Classical.epsilon_spec (NA_ok h1 h4 hr).2.2.2
noncomputable def gC (n : Nat) (w h : Nat → Nat) (r : List Nat) (u : Nat) : Nat := exw (swd w h u) (swd h w u) (rE n r) * exh (swd w h u) (swd h w u) (rE n r)
theorem ex_bd {n : Nat} {tk W H : Nat → Nat} {e : Ex} (hn : n ≤ 12) (hE : RowE n tk e) (hW : ∀ b, b < n → 1 ≤ W b ∧ W b ≤ 200) (hH : ∀ b, b < n → 1 ≤ H b ∧ H b ≤ 200) : exw W H e ≤ 2400 ∧ exh W H e ≤ 2400 ∧ (∀ b, b < n → exx W H b e ≤ 10000) ∧ (∀ b, b < n → exy W H b e ≤ 10000) ∧ exw W H e * exh W H e < 2147483647 := by
  have hl : (Ex.lvs e).length = n := hE.2.2.2.2
  have bw := exw_le (W := W) (H := H) e (fun c hc => hW c (hE.2.2.2.1 c hc))
  have bh := exh_le (W := W) (H := H) e (fun c hc => hH c (hE.2.2.2.1 c hc))
  refine ⟨by omega, by omega, fun b hb => ?_, fun b hb => ?_, mul_bd (by omega) (by omega)⟩
  · have := exx_le (W := W) (H := H) e (hE.mem hb)
    omega
  · have := exy_le (W := W) (H := H) e (hE.mem hb)
    omega
/-! the least of an outline -/
def mnn (f : Nat → Nat) : Nat → Nat
  | 0 => 2147483647
  | i + 1 => min (mnn f i) (f i)
theorem mnn_le {f : Nat → Nat} : ∀ {n i : Nat}, i < n → mnn f n ≤ f i
  | n + 1, i, h => by
    show min (mnn f n) (f n) ≤ f i
    by_cases e : i = n
    · subst e; omega
    · have := mnn_le (f := f) (show i < n by omega); omega
theorem mnn_at {f : Nat → Nat} : ∀ {n : Nat}, (∀ i, i < n → f i ≤ 2147483647) → 1 ≤ n → ∃ i, i < n ∧ mnn f n = f i
  | n + 1, hb, _ => by
    show ∃ i, i < n + 1 ∧ min (mnn f n) (f n) = f i
    have hn := hb n (by omega)
    by_cases q : f n ≤ mnn f n
    · exact ⟨n, by omega, by omega⟩
    · by_cases h0 : n = 0
      · subst h0
        have : mnn f 0 = 2147483647 := rfl
        omega
      · obtain ⟨i, hi, e⟩ := mnn_at (f := f) (n := n) (fun i hi => hb i (by omega)) (by omega)
        exact ⟨i, by omega, by omega⟩
theorem mnn_b {f : Nat → Nat} : ∀ n, mnn f n ≤ 2147483647
  | 0 => Nat.le_refl _
  | n + 1 => by
    show min (mnn f n) (f n) ≤ _
    have := mnn_b (f := f) n
    omega
def arS (L : List Sh) (i : Nat) : Nat := (L.getD i (0, 0)).1 * (L.getD i (0, 0)).2
theorem la_ok {M : Mm} {k0 : Nat} {L : List Sh} (h5 : M.1 k0 5 = nI L.length) (a : ARl M (k0 + 1) (k0 + 2) 0 L) (hb : LBd L) (hl : L.length ≤ 26) : f_X5_leastArea k0 M = some (nI (mnn (arS L) L.length)) := by
  unfold f_X5_leastArea
  have e : loop (fun v => f_X5_leastArea_L5 k0 M v.1 v.2) FU (nI 2147483647, nI 0) = some (nI (mnn (arS L) L.length)) := by
    refine lp_n (fun i => (nI (mnn (arS L) i), nI i)) L.length (fu_lt (by omega)) (fun i hi => ?_) ?_
    · show f_X5_leastArea_L5 k0 M (nI (mnn (arS L) i)) (nI i) = _
      unfold f_X5_leastArea_L5
      have g := a.get hi
      rw [Nat.zero_add] at g
      have bq := hb _ (getD_mem hi)
      have hm : (L.getD i (0, 0)).1 * (L.getD i (0, 0)).2 < 2147483647 := mul_bd (by omega) (by omega)
      have := mnn_b (f := arS L) i
      rw [h5, if_neg (by rw [pz_le (by omega) (by omega)]; omega), pz_rd (by omega) (by omega), g.1, pz_rd (by omega) (by omega), g.2, pz_mul, pz_min (by omega) (by omega), pz_lt1, pz_lt1, pz_1, pz_add]
      rfl
    · show f_X5_leastArea_L5 k0 M (nI (mnn (arS L) L.length)) (nI L.length) = _
      unfold f_X5_leastArea_L5
      rw [h5, if_pos ((nI_leI (by omega) (by omega)).mpr (Nat.le_refl _))]
  rw [pz_B, pz_0, e]
  rfl
/-- the least of an outline is the least of all ways to turn -/
theorem la_fm {n tc : Nat} {w h tk : Nat → Nat} {e : Ex} (hn : n ≤ 12) (hE : RowE n tk e) (hw : ∀ b, b < n → 1 ≤ w b ∧ w b ≤ 200) (hh : ∀ b, b < n → 1 ≤ h b ∧ h b ≤ 200) : ∃ u, FM (fun u => exw (swd w h u) (swd h w u) e * exh (swd w h u) (swd h w u) e) tc u ∧ mnn (arS (lc w h tc 0 e)) (lc w h tc 0 e).length = exw (swd w h u) (swd h w u) e * exh (swd w h u) (swd h w u) e := by
  have hl : (Ex.lvs e).length = n := hE.2.2.2.2
  have fr := lc_frn (w := w) (h := h) (op := tc) (td := 0) e hE.2.2.1
  have ln := lc_len (w := w) (h := h) (op := tc) (td := 0) e hE.2.2.1
  have bd := lc_bd (op := tc) (td := 0) hE.2.2.1 (by omega) hE.2.2.2.1 hw hh
  obtain ⟨u, hu⟩ := FM.ex (fun u => exw (swd w h u) (swd h w u) e * exh (swd w h u) (swd h w u) e) tc
  refine ⟨u, hu, Nat.le_antisymm ?_ ?_⟩
  · obtain ⟨p, p1, p2⟩ := fr.2.2 (shp w h e u) ((shs_sub _).mpr ⟨u, by have := sub_le hu.1; omega, hu.1, rfl⟩)
    obtain ⟨i, hi, ei⟩ := List.mem_iff_getElem.mp p1
    have : arS (lc w h tc 0 e) i = p.1 * p.2 := by
      unfold arS
      rw [List.getD_eq_getElem?_getD, List.getElem?_eq_getElem hi, ei]; rfl
    refine Nat.le_trans (mnn_le hi) ?_
    rw [this]
    exact Nat.mul_le_mul p2.1 p2.2
  · obtain ⟨i, hi, ei⟩ := mnn_at (f := arS (lc w h tc 0 e)) (fun i hi => by
      have bq := bd _ (getD_mem hi)
      exact Nat.le_of_lt (mul_bd (by omega) (by omega))) ln.1
    rw [ei]
    obtain ⟨v, _, v1, v2⟩ := (shs_sub _).mp (fr.2.1 _ (getD_mem hi))
    unfold arS
    rw [v2]
    exact (hu.2 v v1).1
