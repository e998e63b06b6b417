/-! normal rows -/
def tc : Ex → Nat → Bool → List Nat
  | .leaf b, t, f => [b] ++ (if f = true then [] else [t])
  | .branch s a b, t, f => if s = t then tc a t f ++ tc b t false else (tc a s true ++ tc b s false) ++ (if f = true then [] else [t])
/-- the normal row of the same tree -/
def tp (e : Ex) : List Nat := tc e 99 true
theorem tc_len : ∀ (e : Ex) (t : Nat) (f : Bool), (tc e t f).length = exz e + (if f = true then 0 else 1)
  | .leaf b, t, f => by cases f <;> rfl
  | .branch s a b, t, f => by
    have h1 := tc_len a
    have h2 := tc_len b
    show (if s = t then tc a t f ++ tc b t false else (tc a s true ++ tc b s false) ++ (if f = true then [] else [t])).length = exz a + exz b + 1 + (if f = true then 0 else 1)
    split
    · rw [List.length_append, h1, h2]
      cases f
      · show exz a + 1 + (exz b + 1) = _; simp; omega
      · show exz a + 0 + (exz b + 1) = _; simp; omega
    · rw [List.length_append, List.length_append, h1, h2]
      cases f
      · show exz a + 0 + (exz b + 1) + 1 = _; simp; omega
      · show exz a + 0 + (exz b + 1) + 0 = _; simp; omega
theorem tc_rot (t : Nat) (P Q R : Ex) (s : Nat) (f : Bool) : tc (.branch t (.branch t P Q) R) s f = tc (.branch t P (.branch t Q R)) s f := by
  show (if t = s then (if t = s then tc P s f ++ tc Q s false else (tc P t true ++ tc Q t false) ++ (if f = true then [] else [s])) ++ tc R s false else ((if t = t then tc P t true ++ tc Q t false else (tc P t true ++ tc Q t false) ++ (if true = true then [] else [t])) ++ tc R t false) ++ (if f = true then [] else [s])) = (if t = s then tc P s f ++ (if t = s then tc Q s false ++ tc R s false else (tc Q t true ++ tc R t false) ++ (if false = true then [] else [s])) else (tc P t true ++ (if t = t then tc Q t false ++ tc R t false else (tc Q t true ++ tc R t false) ++ (if false = true then [] else [t]))) ++ (if f = true then [] else [s]))
  by_cases e : t = s
  · rw [if_pos e, if_pos e, if_pos e, if_pos e, List.append_assoc]
  · rw [if_neg e, if_neg e, if_pos rfl, if_pos rfl, List.append_assoc (tc P t true)]
def xrt : Ex → Nat
  | .leaf b => b
  | .branch t _ _ => t
/-- no joint twice in succession -/
def NTr : Ex → Prop
  | .leaf _ => True
  | .branch t a b => NTr a ∧ NTr b ∧ xrt b ≠ t
theorem tc_nt : ∀ (e : Ex), Ex.ok e → NTr e → (∀ s, tc e s true = Ex.post e) ∧ ∀ s, xrt e ≠ s → tc e s false = Ex.post e ++ [s]
  | .leaf b, _, _ => ⟨fun s => rfl, fun s _ => rfl⟩
  | .branch t a b, ho, h => by
    obtain ⟨h1, h2, h3⟩ := h
    have ia := tc_nt a ho.2.1 h1
    have ib := tc_nt b ho.2.2 h2
    have key : tc a t true ++ tc b t false = Ex.post a ++ Ex.post b ++ [t] := by
      rw [ia.1 t, ib.2 t h3, List.append_assoc]
    refine ⟨fun s => ?_, fun s hne => ?_⟩
    · show (if t = s then tc a s true ++ tc b s false else (tc a t true ++ tc b t false) ++ []) = Ex.post a ++ Ex.post b ++ [t]
      by_cases e : t = s
      · subst e; rw [if_pos rfl, key]
      · rw [if_neg e, key, List.append_nil]
    · show (if t = s then tc a s false ++ tc b s false else (tc a t true ++ tc b t false) ++ [s]) = Ex.post a ++ Ex.post b ++ [t] ++ [s]
      have hne : ¬ t = s := hne
      rw [if_neg hne, key]
def xmu : Ex → Nat
  | .leaf _ => 0
  | .branch _ a b => xmu a + xmu b + (Ex.lvs b).length
theorem xmu_le : ∀ e : Ex, xmu e ≤ (Ex.lvs e).length * (Ex.lvs e).length
  | .leaf _ => Nat.zero_le _
  | .branch t a b => by
    have h1 := xmu_le a
    have h2 := xmu_le b
    have l1 := lvs_pos a
    have l2 := lvs_pos b
    show xmu a + xmu b + (Ex.lvs b).length ≤ (Ex.lvs a ++ Ex.lvs b).length * (Ex.lvs a ++ Ex.lvs b).length
    rw [List.length_append, Nat.add_mul, Nat.mul_add, Nat.mul_add]
    have : 1 * (Ex.lvs b).length ≤ (Ex.lvs a).length * (Ex.lvs b).length := Nat.mul_le_mul_right _ l1
    omega
theorem exA_cg {tk tk' : Nat → Nat} : ∀ (e : Ex) (lo lo' : Nat), (∀ j, j < exz e → tk' (lo' + j) = tk (lo + j)) → exA tk lo e → exA tk' lo' e
  | .leaf b, lo, lo', q, h => by
    have := q 0 (by show 0 < 1; omega)
    exact this.trans h
  | .branch t a b, lo, lo', q, h => by
    have q : ∀ j, j < exz a + exz b + 1 → tk' (lo' + j) = tk (lo + j) := q
    obtain ⟨h1, h2, h3⟩ := h
    refine ⟨exA_cg a lo lo' (fun j hj => q j (by omega)) h1, exA_cg b (lo + exz a) (lo' + exz a) (fun j hj => ?_) h2, ?_⟩
    · rw [Nat.add_assoc, Nat.add_assoc]; exact q (exz a + j) (by omega)
    · have := q (exz a + exz b) (by omega)
      rw [← Nat.add_assoc, ← Nat.add_assoc] at this
      exact this.trans h3
/-- the last token of a part is its root, the first one a block -/
theorem exA_last {tk : Nat → Nat} : ∀ {e : Ex} {lo : Nat}, exA tk lo e → tk (lo + exz e - 1) = xrt e
  | .leaf b, lo, h => h
  | .branch t a b, lo, h => by
    show tk (lo + (exz a + exz b + 1) - 1) = t
    rw [show lo + (exz a + exz b + 1) - 1 = lo + exz a + exz b by omega]
    exact h.2.2
theorem exA_first {tk : Nat → Nat} : ∀ {e : Ex} {lo : Nat}, Ex.ok e → exA tk lo e → tk lo < 12
  | .leaf b, lo, h, q => by
    have q : tk lo = b := q
    have h : b < 12 := h
    omega
  | .branch t a b, lo, h, q => exA_first h.2.1 q.1
theorem exA_tl {tk : Nat → Nat} {e : Ex} {lo : Nat} (h : exA tk lo e) (ho : Ex.ok e) : ∀ j, lo ≤ j → j < lo + exz e → tk j < 14 := fun j h1 h2 => by
  have := post_of e lo h (j - lo) (by omega)
  rw [show lo + (j - lo) = j by omega] at this
  exact post_lt ho _ (List.mem_of_getElem? this)
/-- token f moved forward to s -/
def mvt (tk : Nat → Nat) (f s k : Nat) : Nat := if k = s then tk f else if s < k ∧ k ≤ f then tk (k - 1) else tk k
theorem mvt_o {tk : Nat → Nat} {f s k : Nat} (hs : s ≤ f) (h : k < s ∨ f < k) : mvt tk f s k = tk k := by
  unfold mvt
  rw [if_neg (by omega), if_neg (by omega)]
theorem mvt_s (tk : Nat → Nat) (f s : Nat) : mvt tk f s s = tk f := if_pos rfl
theorem mvt_i {tk : Nat → Nat} {f s k : Nat} (h1 : s < k) (h2 : k ≤ f) : mvt tk f s k = tk (k - 1) := by
  unfold mvt
  rw [if_neg (by omega), if_pos ⟨h1, h2⟩]
theorem tw {tk : Nat → Nat} : ∀ (e : Ex) (lo f : Nat), Ex.ok e → exA tk lo e → lo ≤ f → f + 1 < lo + exz e → 12 ≤ tk (f + 1) → tk f = tk (f + 1) →
    ∃ s R e', s + exz R = f ∧ lo ≤ s ∧ Ex.ok R ∧ exA tk s R ∧ Ex.ok e' ∧ Ex.lvs e' = Ex.lvs e ∧ exz e' = exz e ∧ exA (mvt tk f s) lo e' ∧ (∀ z g, tc e' z g = tc e z g) ∧ xmu e' < xmu e
  | .leaf b, lo, f, _, _, h1, h2, _, _ => by
    have h2 : f + 1 < lo + 1 := h2
    omega
  | .branch t a b, lo, f, ho, hx, h1, h2, h3, h4 => by
    have h2 : f + 1 < lo + (exz a + exz b + 1) := h2
    obtain ⟨x1, x2, x3⟩ := hx
    have za := exz_pos a
    have zb := exz_pos b
    by_cases q1 : f + 1 = lo + exz a + exz b
    · have lb := exA_last x2
      rw [show lo + exz a + exz b - 1 = f by omega] at lb
      rw [q1, x3] at h3 h4
      rw [h4] at lb
      match b, ho, x2, x3, zb, q1, lb with
      | .leaf c, ho, _, _, _, _, lb =>
        have lb : t = c := lb
        have : c < 12 := ho.2.2
        omega
      | .branch u Q R, ho, x2, x3, zb, q1, lb =>
        have lb : t = u := lb
        subst lb
        obtain ⟨y1, y2, y3⟩ := x2
        have zQ := exz_pos Q
        have zR := exz_pos R
        have e0 : exz (Lean.RArray.branch t Q R) = exz Q + exz R + 1 := rfl
        rw [e0] at q1 x3
        refine ⟨lo + exz a + exz Q, R, .branch t (.branch t a Q) R, by omega, by omega, ho.2.2.2.2, y2, ⟨ho.1, ⟨ho.1, ho.2.1, ho.2.2.2.1⟩, ho.2.2.2.2⟩, ?_, ?_, ⟨⟨exA_cg a lo lo (fun j hj => mvt_o (by omega) (by omega)) x1, exA_cg Q (lo + exz a) (lo + exz a) (fun j hj => mvt_o (by omega) (by omega)) y1, ?_⟩, ?_, ?_⟩, tc_rot t a Q R, ?_⟩
        · show Ex.lvs a ++ Ex.lvs Q ++ Ex.lvs R = Ex.lvs a ++ (Ex.lvs Q ++ Ex.lvs R)
          rw [List.append_assoc]
        · show exz a + exz Q + 1 + exz R + 1 = exz a + (exz Q + exz R + 1) + 1
          omega
        · rw [mvt_s]; exact h4
        · refine exA_cg R (lo + exz a + exz Q) _ (fun j hj => ?_) y2
          rw [show lo + exz (Lean.RArray.branch t a Q) + j = lo + exz a + exz Q + j + 1 by show lo + (exz a + exz Q + 1) + j = _; omega, mvt_i (by omega) (by omega)]
          rfl
        · rw [show lo + exz (Lean.RArray.branch t a Q) + exz R = f + 1 by show lo + (exz a + exz Q + 1) + exz R = _; omega, mvt_o (by omega) (by omega), q1]
          exact x3
        · have lR := lvs_pos R
          show xmu a + xmu Q + (Ex.lvs Q).length + xmu R + (Ex.lvs R).length < xmu a + (xmu Q + xmu R + (Ex.lvs R).length) + (Ex.lvs Q ++ Ex.lvs R).length
          rw [List.length_append]; omega
    · by_cases q2 : lo + exz a ≤ f
      · obtain ⟨s, R, e', r1, r2, r3, r4, r5, r6, r7, r8, r9, r10⟩ := tw b (lo + exz a) f ho.2.2 x2 q2 (by omega) h3 h4
        have zR := exz_pos R
        refine ⟨s, R, .branch t a e', r1, by omega, r3, r4, ⟨ho.1, ho.2.1, r5⟩, ?_, ?_, ⟨exA_cg a lo lo (fun j hj => mvt_o (by omega) (by omega)) x1, r8, ?_⟩, fun z g => ?_, ?_⟩
        · show Ex.lvs a ++ Ex.lvs e' = Ex.lvs a ++ Ex.lvs b
          rw [r6]
        · show exz a + exz e' + 1 = exz a + exz b + 1
          rw [r7]
        · rw [r7, mvt_o (by omega) (by omega)]; exact x3
        · show (if t = z then tc a z g ++ tc e' z false else (tc a t true ++ tc e' t false) ++ (if g = true then [] else [z])) = (if t = z then tc a z g ++ tc b z false else (tc a t true ++ tc b t false) ++ (if g = true then [] else [z]))
          rw [r9, r9]
        · show xmu a + xmu e' + (Ex.lvs e').length < xmu a + xmu b + (Ex.lvs b).length
          rw [r6]; omega
      · by_cases q3 : f + 1 = lo + exz a
        · have := exA_first ho.2.2 x2
          rw [← q3] at this
          omega
        · obtain ⟨s, R, e', r1, r2, r3, r4, r5, r6, r7, r8, r9, r10⟩ := tw a lo f ho.2.1 x1 h1 (by omega) h3 h4
          have zR := exz_pos R
          refine ⟨s, R, .branch t e' b, r1, r2, r3, r4, ⟨ho.1, r5, ho.2.2⟩, ?_, ?_, ⟨r8, ?_, ?_⟩, fun z g => ?_, ?_⟩
          · show Ex.lvs e' ++ Ex.lvs b = Ex.lvs a ++ Ex.lvs b
            rw [r6]
          · show exz e' + exz b + 1 = exz a + exz b + 1
            rw [r7]
          · rw [r7]
            exact exA_cg b _ _ (fun j hj => mvt_o (by omega) (by omega)) x2
          · rw [r7, mvt_o (by omega) (by omega)]; exact x3
          · show (if t = z then tc e' z g ++ tc b z false else (tc e' t true ++ tc b t false) ++ (if g = true then [] else [z])) = (if t = z then tc a z g ++ tc b z false else (tc a t true ++ tc b t false) ++ (if g = true then [] else [z]))
            rw [r9, r9]
          · show xmu e' + xmu b + (Ex.lvs b).length < xmu a + xmu b + (Ex.lvs b).length
            omega
/-- without twins a row is normal -/
theorem nt_of {tk : Nat → Nat} : ∀ (e : Ex) (lo : Nat), Ex.ok e → exA tk lo e → (∀ f, lo ≤ f → f + 1 < lo + exz e → ¬ (12 ≤ tk (f + 1) ∧ tk f = tk (f + 1))) → NTr e
  | .leaf b, _, _, _, _ => trivial
  | .branch t a b, lo, ho, hx, q => by
    have q : ∀ f, lo ≤ f → f + 1 < lo + (exz a + exz b + 1) → ¬ (12 ≤ tk (f + 1) ∧ tk f = tk (f + 1)) := q
    obtain ⟨x1, x2, x3⟩ := hx
    have za := exz_pos a
    have zb := exz_pos b
    refine ⟨nt_of a lo ho.2.1 x1 (fun f f1 f2 => q f f1 (by omega)), nt_of b (lo + exz a) ho.2.2 x2 (fun f f1 f2 => q f (by omega) (by omega)), fun e => ?_⟩
    have lb := exA_last x2
    refine q (lo + exz a + exz b - 1) (by omega) (by omega) ?_
    rw [show lo + exz a + exz b - 1 + 1 = lo + exz a + exz b by omega, x3, lb, e]
    exact ⟨by have := ho.1; omega, rfl⟩
