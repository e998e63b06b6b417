/-! rows of cuts as trees; loops by stretches -/
def stp {V X : Type} (step : V → Option (V ⊕ X)) : Nat → V → V → Prop
  | 0, v, w => v = w
  | m + 1, v, w => ∃ u, step v = some (.inl u) ∧ stp step m u w
theorem stp_tr {V X : Type} {step : V → Option (V ⊕ X)} {k : Nat} {v w : V} : ∀ {m u}, stp step m u v → stp step k v w → stp step (m + k) u w
  | 0, u, h1, h2 => by
    have h1 : u = v := h1
    subst h1
    rw [Nat.zero_add]; exact h2
  | m + 1, u, h1, h2 => by
    obtain ⟨z, e, h1⟩ := h1
    rw [show m + 1 + k = (m + k) + 1 by omega]
    exact ⟨z, e, stp_tr h1 h2⟩
theorem stp_1 {V X : Type} {step : V → Option (V ⊕ X)} {v w : V} (h : step v = some (.inl w)) : stp step 1 v w := ⟨w, h, rfl⟩
theorem stp_end {V X : Type} {step : V → Option (V ⊕ X)} {w : V} {x : X} (hx : step w = some (.inr x)) : ∀ {m f v}, stp step m v w → m < f → loop step f v = some x
  | 0, f, v, h, hf => by
    have h : v = w := h
    subst h
    obtain ⟨f, rfl⟩ : ∃ g, f = g + 1 := ⟨f - 1, by omega⟩
    simp only [loop, hx]
  | m + 1, f, v, h, hf => by
    obtain ⟨u, e, h⟩ := h
    obtain ⟨f, rfl⟩ : ∃ g, f = g + 1 := ⟨f - 1, by omega⟩
    simp only [loop, e]
    exact stp_end hx h (by omega)
def exz : Ex → Nat
  | .leaf _ => 1
  | .branch _ a b => exz a + exz b + 1
def exA (tk : Nat → Nat) : Nat → Ex → Prop
  | lo, .leaf b => tk lo = b
  | lo, .branch t a b => exA tk lo a ∧ exA tk (lo + exz a) b ∧ tk (lo + exz a + exz b) = t
def exw (W H : Nat → Nat) : Ex → Nat
  | .leaf b => W b
  | .branch t a b => if t = 12 then exw W H a + exw W H b else max (exw W H a) (exw W H b)
def exh (W H : Nat → Nat) : Ex → Nat
  | .leaf b => H b
  | .branch t a b => if t = 12 then max (exh W H a) (exh W H b) else exh W H a + exh W H b
def exm : Ex → Nat
  | .leaf b => 2 ^ b
  | .branch _ a b => exm a ||| exm b
def exx (W H : Nat → Nat) (c : Nat) : Ex → Nat
  | .leaf _ => 0
  | .branch t a b => if c ∈ Ex.lvs a then exx W H c a else exx W H c b + (if t = 12 then exw W H a else 0)
def exy (W H : Nat → Nat) (c : Nat) : Ex → Nat
  | .leaf _ => 0
  | .branch t a b => if c ∈ Ex.lvs a then exy W H c a else exy W H c b + (if t = 12 then 0 else exh W H a)
theorem exz_lvs : ∀ e : Ex, exz e + 1 = 2 * (Ex.lvs e).length
  | .leaf _ => rfl
  | .branch _ a b => by
    have h1 := exz_lvs a
    have h2 := exz_lvs b
    show exz a + exz b + 1 + 1 = 2 * (Ex.lvs a ++ Ex.lvs b).length
    rw [List.length_append]; omega
theorem exz_post : ∀ e : Ex, (Ex.post e).length = exz e
  | .leaf _ => rfl
  | .branch _ a b => by
    have h1 := exz_post a
    have h2 := exz_post b
    show (Ex.post a ++ Ex.post b ++ [_]).length = exz a + exz b + 1
    rw [List.length_append, List.length_append, h1, h2]; rfl
theorem exz_pos (e : Ex) : 1 ≤ exz e := by cases e <;> unfold exz <;> omega
theorem exm_bit : ∀ (e : Ex) (c : Nat), (exm e).testBit c = decide (c ∈ Ex.lvs e)
  | .leaf b, c => by
    show (2 ^ b).testBit c = decide (c ∈ [b])
    rw [Nat.testBit_two_pow]
    exact decide_eq_decide.mpr (by rw [List.mem_singleton]; exact eq_comm)
  | .branch _ a b, c => by
    show (exm a ||| exm b).testBit c = decide (c ∈ Ex.lvs a ++ Ex.lvs b)
    rw [Nat.testBit_or, exm_bit a c, exm_bit b c, ← Bool.decide_or]
    exact decide_eq_decide.mpr List.mem_append.symm
theorem exm_lt {e : Ex} {n : Nat} (h : ∀ b ∈ Ex.lvs e, b < n) : exm e < 2 ^ n := lt_of_bits fun c hc => by
  rw [exm_bit]
  exact decide_eq_false (fun q => by have := h c q; omega)
theorem exw_le {W H : Nat → Nat} : ∀ e : Ex, (∀ b ∈ Ex.lvs e, 1 ≤ W b ∧ W b ≤ 200) → 1 ≤ exw W H e ∧ exw W H e ≤ 200 * (Ex.lvs e).length
  | .leaf b, h => by
    have := h b (List.mem_singleton.mpr rfl)
    show 1 ≤ W b ∧ W b ≤ 200 * 1
    omega
  | .branch t a b, h => by
    have h1 := exw_le (W := W) (H := H) a (fun c hc => h c (List.mem_append.mpr (Or.inl hc)))
    have h2 := exw_le (W := W) (H := H) b (fun c hc => h c (List.mem_append.mpr (Or.inr hc)))
    show 1 ≤ (if t = 12 then exw W H a + exw W H b else max (exw W H a) (exw W H b)) ∧ (if t = 12 then exw W H a + exw W H b else max (exw W H a) (exw W H b)) ≤ 200 * (Ex.lvs a ++ Ex.lvs b).length
    rw [List.length_append]
    split <;> omega
theorem exh_le {W H : Nat → Nat} : ∀ e : Ex, (∀ b ∈ Ex.lvs e, 1 ≤ H b ∧ H b ≤ 200) → 1 ≤ exh W H e ∧ exh W H e ≤ 200 * (Ex.lvs e).length
  | .leaf b, h => by
    have := h b (List.mem_singleton.mpr rfl)
    show 1 ≤ H b ∧ H b ≤ 200 * 1
    omega
  | .branch t a b, h => by
    have h1 := exh_le (W := W) (H := H) a (fun c hc => h c (List.mem_append.mpr (Or.inl hc)))
    have h2 := exh_le (W := W) (H := H) b (fun c hc => h c (List.mem_append.mpr (Or.inr hc)))
    show 1 ≤ (if t = 12 then max (exh W H a) (exh W H b) else exh W H a + exh W H b) ∧ (if t = 12 then max (exh W H a) (exh W H b) else exh W H a + exh W H b) ≤ 200 * (Ex.lvs a ++ Ex.lvs b).length
    rw [List.length_append]
    split <;> omega
theorem exx_le {W H : Nat → Nat} {c : Nat} : ∀ e : Ex, c ∈ Ex.lvs e → exx W H c e + W c ≤ exw W H e
  | .leaf b, h => by
    have : c = b := List.mem_singleton.mp h
    subst this
    show 0 + W c ≤ W c
    omega
  | .branch t a b, h => by
    show (if c ∈ Ex.lvs a then exx W H c a else exx W H c b + (if t = 12 then exw W H a else 0)) + W c ≤ (if t = 12 then exw W H a + exw W H b else max (exw W H a) (exw W H b))
    by_cases q : c ∈ Ex.lvs a
    · have := exx_le (W := W) (H := H) a q
      rw [if_pos q]
      split <;> omega
    · have hb : c ∈ Ex.lvs b := by
        rcases List.mem_append.mp h with h | h
        · exact absurd h q
        · exact h
      have := exx_le (W := W) (H := H) b hb
      rw [if_neg q]
      split <;> omega
theorem exy_le {W H : Nat → Nat} {c : Nat} : ∀ e : Ex, c ∈ Ex.lvs e → exy W H c e + H c ≤ exh W H e
  | .leaf b, h => by
    have : c = b := List.mem_singleton.mp h
    subst this
    show 0 + H c ≤ H c
    omega
  | .branch t a b, h => by
    show (if c ∈ Ex.lvs a then exy W H c a else exy W H c b + (if t = 12 then 0 else exh W H a)) + H c ≤ (if t = 12 then max (exh W H a) (exh W H b) else exh W H a + exh W H b)
    by_cases q : c ∈ Ex.lvs a
    · have := exy_le (W := W) (H := H) a q
      rw [if_pos q]
      split <;> omega
    · have hb : c ∈ Ex.lvs b := by
        rcases List.mem_append.mp h with h | h
        · exact absurd h q
        · exact h
      have := exy_le (W := W) (H := H) b hb
      rw [if_neg q]
      split <;> omega
theorem exA_of {tk : Nat → Nat} : ∀ (e : Ex) (lo : Nat), (∀ j, j < exz e → (Ex.post e)[j]? = some (tk (lo + j))) → exA tk lo e
  | .leaf b, lo, h => by
    have := h 0 (by show 0 < 1; omega)
    have e : (some b : Option Nat) = some (tk (lo + 0)) := this
    exact (Option.some.inj e).symm
  | .branch t a b, lo, h => by
    have la := exz_post a
    have lb := exz_post b
    have h : ∀ j, j < exz a + exz b + 1 → (Ex.post a ++ Ex.post b ++ [t])[j]? = some (tk (lo + j)) := h
    refine ⟨exA_of a lo fun j hj => ?_, exA_of b (lo + exz a) fun j hj => ?_, ?_⟩
    · have := h j (by omega)
      rw [List.getElem?_append_left (by rw [List.length_append]; omega), List.getElem?_append_left (by omega)] at this
      exact this
    · have := h (exz a + j) (by omega)
      rw [List.getElem?_append_left (by rw [List.length_append]; omega), List.getElem?_append_right (by omega)] at this
      rw [show exz a + j - (Ex.post a).length = j by omega] at this
      rw [Nat.add_assoc]; exact this
    · have := h (exz a + exz b) (by omega)
      rw [List.getElem?_append_right (by rw [List.length_append]; omega)] at this
      rw [show exz a + exz b - (Ex.post a ++ Ex.post b).length = 0 by rw [List.length_append]; omega] at this
      have e : (some t : Option Nat) = some (tk (lo + (exz a + exz b))) := this
      rw [Nat.add_assoc]; exact (Option.some.inj e).symm
theorem post_of {tk : Nat → Nat} : ∀ (e : Ex) (lo : Nat), exA tk lo e → ∀ j, j < exz e → (Ex.post e)[j]? = some (tk (lo + j))
  | .leaf b, lo, h, j, hj => by
    have hj : j < 1 := hj
    have : j = 0 := by omega
    subst this
    have h : tk lo = b := h
    show (some b : Option Nat) = some (tk lo)
    rw [h]
  | .branch t a b, lo, h, j, hj => by
    obtain ⟨h1, h2, h3⟩ := h
    have la := exz_post a
    have lb := exz_post b
    have hj : j < exz a + exz b + 1 := hj
    show (Ex.post a ++ Ex.post b ++ [t])[j]? = _
    by_cases q1 : j < exz a
    · rw [List.getElem?_append_left (by rw [List.length_append]; omega), List.getElem?_append_left (by omega)]
      exact post_of a lo h1 j q1
    · by_cases q2 : j < exz a + exz b
      · rw [List.getElem?_append_left (by rw [List.length_append]; omega), List.getElem?_append_right (by omega), la]
        have := post_of b (lo + exz a) h2 (j - exz a) (by omega)
        rw [this, show lo + exz a + (j - exz a) = lo + j by omega]
      · have e : j = exz a + exz b := by omega
        subst e
        rw [List.getElem?_append_right (by rw [List.length_append]; omega), show exz a + exz b - (Ex.post a ++ Ex.post b).length = 0 by rw [List.length_append]; omega]
        show some t = _
        rw [← h3, Nat.add_assoc]
theorem fnl_get (tk : Nat → Nat) {n j : Nat} (h : j < n) : (fnl tk n)[j]? = some (tk j) := by
  unfold fnl
  rw [List.getElem?_map, List.getElem?_range h]; rfl
theorem RowE.rat {n : Nat} {tk : Nat → Nat} {e : Ex} (h : RowE n tk e) : exA tk 0 e ∧ exz e = 2 * n - 1 := by
  obtain ⟨h1, h2, h3, h4, h5⟩ := h
  have hz := exz_lvs e
  have hz : exz e = 2 * n - 1 := by omega
  refine ⟨exA_of e 0 fun j hj => ?_, hz⟩
  rw [h2, fnl_get tk (by omega), Nat.zero_add]
theorem RowE.of {n : Nat} {tk : Nat → Nat} {e : Ex} (h1 : Ex.ok e) (h2 : exA tk 0 e) (h3 : (Ex.lvs e).Nodup) (h4 : ∀ b ∈ Ex.lvs e, b < n) (h5 : (Ex.lvs e).length = n) : RowE n tk e := by
  refine ⟨h1, ?_, h3, h4, h5⟩
  have hz := exz_lvs e
  have hl := exz_post e
  have hz : exz e = 2 * n - 1 := by omega
  apply List.ext_getElem?
  intro j
  by_cases q : j < exz e
  · rw [post_of e 0 h2 j q, fnl_get tk (by omega), Nat.zero_add]
  · rw [List.getElem?_eq_none (by omega), List.getElem?_eq_none (by unfold fnl; rw [List.length_map, List.length_range]; omega)]
/-- all blocks stand in a row -/
theorem RowE.mem {n : Nat} {tk : Nat → Nat} {e : Ex} (h : RowE n tk e) {b : Nat} (hb : b < n) : b ∈ Ex.lvs e := by
  obtain ⟨h1, h2, h3, h4, h5⟩ := h
  have hp : PermN n (fun i => (Ex.lvs e).getD i 0) := by
    refine ⟨fun i hi => ?_, fun i j hi hj q => ?_⟩
    · have : (Ex.lvs e).getD i 0 = (Ex.lvs e)[i] := by rw [List.getD_eq_getElem?_getD, List.getElem?_eq_getElem (by omega)]; rfl
      show (Ex.lvs e).getD i 0 < n
      rw [this]
      exact h4 _ (List.getElem_mem _)
    · have e1 : (Ex.lvs e).getD i 0 = (Ex.lvs e)[i] := by rw [List.getD_eq_getElem?_getD, List.getElem?_eq_getElem (by omega)]; rfl
      have e2 : (Ex.lvs e).getD j 0 = (Ex.lvs e)[j] := by rw [List.getD_eq_getElem?_getD, List.getElem?_eq_getElem (by omega)]; rfl
      have q : (Ex.lvs e).getD i 0 = (Ex.lvs e).getD j 0 := q
      rw [e1, e2] at q
      have hpw := List.pairwise_iff_getElem.mp h3
      rcases Nat.lt_trichotomy i j with z | z | z
      · exact absurd q (hpw i j (by omega) (by omega) z)
      · exact z
      · exact absurd q.symm (hpw j i (by omega) (by omega) z)
  obtain ⟨i, hi, e1⟩ := hp.sur hb
  have e1 : (Ex.lvs e).getD i 0 = b := e1
  have e2 : (Ex.lvs e).getD i 0 = (Ex.lvs e)[i] := by rw [List.getD_eq_getElem?_getD, List.getElem?_eq_getElem (by omega)]; rfl
  rw [← e1, e2]
  exact List.getElem_mem _
