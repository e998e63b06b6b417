/-! THE WORLD: the cells of the class, of the reference and of the law, in the order in which they are made; their numbers as two memories -/
abbrev Ev : Type := Nat × (Nat → ClassId) × (Nat → Nat → Nat) × (Nat → ClassId) × (Nat → Nat)
abbrev Mm : Type := (Nat → Nat → Int32) × (Nat → Nat → Int64)
/-- a cell: kind (0 ints, 1 longs, 2 booleans, 3 finds, 4 an object), length or number of its sort, fields (0 int, 1 long, 2 a fixed cell, 3 a cell by number) -/
abbrev Ly : Type := Nat × Nat × List (Nat × Nat)
def LT : List Ly := [(4, 8, [(2, 1), (2, 4), (2, 5), (2, 11), (2, 17), (2, 23), (2, 28), (2, 34), (0, 0), (0, 0)]), (4, 0, [(2, 2), (2, 3), (0, 0), (0, 0)]), (0, 12, []), (0, 12, []), (0, 20, []), (4, 2, [(2, 6), (2, 7), (2, 8), (2, 9), (2, 10), (0, 0), (0, 0)]), (0, 12, []), (0, 12, []), (0, 12, []), (0, 12, []), (0, 13, []), (4, 4, [(2, 12), (2, 13), (2, 14), (2, 15), (2, 16), (0, 0)]), (0, 12, []), (0, 12, []), (0, 12, []), (0, 12, []), (0, 12, []), (4, 6, [(2, 18), (2, 19), (2, 20), (2, 21), (2, 22), (0, 0)]), (0, 23, []), (0, 23, []), (0, 12, []), (0, 12, []), (0, 12, []), (4, 3, [(2, 24), (2, 25), (2, 26), (2, 27), (0, 0), (0, 0)]), (0, 12, []), (0, 12, []), (0, 24, []), (0, 12, []), (4, 5, [(2, 29), (2, 30), (2, 31), (2, 32), (2, 33), (0, 0)]), (0, 26, []), (0, 26, []), (0, 26, []), (0, 26, []), (0, 13, []), (4, 7, [(2, 1), (2, 35), (2, 36), (2, 42), (2, 48), (2, 54), (2, 59), (3, 65), (0, 0), (0, 0), (0, 0)]), (3, 4, [(2, 65), (2, 66), (2, 67), (2, 68)]), (4, 2, [(2, 37), (2, 38), (2, 39), (2, 40), (2, 41), (0, 0), (0, 0)]), (0, 12, []), (0, 12, []), (0, 12, []), (0, 12, []), (0, 13, []), (4, 4, [(2, 43), (2, 44), (2, 45), (2, 46), (2, 47), (0, 0)]), (0, 12, []), (0, 12, []), (0, 12, []), (0, 12, []), (0, 12, []), (4, 6, [(2, 49), (2, 50), (2, 51), (2, 52), (2, 53), (0, 0)]), (0, 23, []), (0, 23, []), (0, 12, []), (0, 12, []), (0, 12, []), (4, 3, [(2, 55), (2, 56), (2, 57), (2, 58), (0, 0), (0, 0)]), (0, 12, []), (0, 12, []), (0, 24, []), (0, 12, []), (4, 5, [(2, 60), (2, 61), (2, 62), (2, 63), (2, 64), (0, 0)]), (0, 26, []), (0, 26, []), (0, 26, []), (0, 26, []), (0, 13, []), (4, 1, [(0, 0), (0, 0), (1, 0), (1, 0), (0, 0)]), (4, 1, [(0, 0), (0, 0), (1, 0), (1, 0), (0, 0)]), (4, 1, [(0, 0), (0, 0), (1, 0), (1, 0), (0, 0)]), (4, 1, [(0, 0), (0, 0), (1, 0), (1, 0), (0, 0)]), (4, 9, [(0, 0), (0, 0), (2, 70), (2, 71), (2, 72), (2, 73), (0, 0), (0, 0), (0, 0), (2, 74), (2, 75), (2, 76), (2, 77), (2, 78), (2, 79), (2, 80), (2, 81), (2, 82), (2, 83), (2, 84), (2, 85), (0, 0), (0, 0), (2, 86), (2, 87), (2, 88), (2, 89), (2, 90), (2, 91), (2, 92), (2, 93), (2, 94), (2, 95), (2, 96), (0, 0), (0, 0), (0, 0), (2, 97), (0, 0), (0, 0), (0, 0), (0, 0), (2, 98), (2, 99), (2, 100), (2, 101), (2, 102), (0, 0), (2, 103), (2, 104)]), (0, 12, []), (0, 12, []), (0, 20, []), (2, 12, []), (0, 12, []), (0, 12, []), (0, 12, []), (0, 12, []), (0, 23, []), (0, 12, []), (0, 12, []), (0, 12, []), (0, 12, []), (0, 23, []), (0, 4096, []), (0, 4096, []), (0, 12, []), (0, 23, []), (0, 23, []), (0, 23, []), (0, 23, []), (0, 23, []), (0, 23, []), (0, 23, []), (0, 23, []), (0, 12, []), (0, 12, []), (0, 12, []), (0, 23, []), (0, 12, []), (0, 12, []), (0, 24, []), (0, 12, []), (1, 11, []), (1, 11, []), (1, 1, [])]

def zA (E : Ev) : Nat → Prop := fun q => E.1 ≤ q
abbrev zD (E : Ev) : va_G := (E.2.1, E.2.2.1)
abbrev zT (E : Ev) : List (ClassId × FieldType) := [(E.2.2.2.1 0, .int), (E.2.2.2.1 1, .long), (E.2.2.2.1 2, .boolean), (E.2.2.2.1 3, .object "GroundPlan$Found")]
def fv (E : Ev) (r : Nat → Int32) (t : Nat → Int64) (i : Nat) (f : Nat × Nat) : Value := match f.1 with
  | 0 => .int (r i)
  | 1 => .long (t i)
  | 2 => .ref (E.1 + f.2)
  | _ => .ref (E.1 + (r i).toNatClampNeg)
def fvs (E : Ev) (r : Nat → Int32) (t : Nat → Int64) : Nat → List (Nat × Nat) → List Value
  | _, [] => []
  | n, f :: l => fv E r t n f :: fvs E r t (n + 1) l
def ce (E : Ev) (r : Nat → Int32) (t : Nat → Int64) (y : Ly) : va_E := match y.1 with
  | 0 => .inl (E.2.2.2.1 0, y.2.1, .inl r)
  | 1 => .inl (E.2.2.2.1 1, y.2.1, .inr (.inl t))
  | 2 => .inl (E.2.2.2.1 2, y.2.1, .inl r)
  | 3 => .inl (E.2.2.2.1 3, y.2.1, .inr (.inr (.inr (.inr (fun i => some (E.1 + (65 + i)))))))
  | _ => .inr (y.2.1, fvs E r t 0 y.2.2)
def WDn (E : Ev) (M : Mm) : Nat → List Ly → va_W
  | _, [] => []
  | k, y :: l => (E.1 + k, ce E (M.1 k) (M.2 k) y) :: WDn E M (k + 1) l
def WD (E : Ev) (M : Mm) : va_W := WDn E M 0 LT
def wi (M : Mm) (k i : Nat) (v : Int32) : Mm := (fun k' => if k' = k then upd (M.1 k) i v else M.1 k', M.2)
def wl (M : Mm) (k i : Nat) (v : Int64) : Mm := (M.1, fun k' => if k' = k then vp_updL (M.2 k) i v else M.2 k')
theorem WDn_get (E : Ev) (M : Mm) : ∀ (L : List Ly) (k j : Nat), (WDn E M k L)[j]? = (L[j]?).map (fun y => (E.1 + (k + j), ce E (M.1 (k + j)) (M.2 (k + j)) y)) := by
  intro L
  induction L with
  | nil => intro k j; simp [WDn]
  | cons a l ih =>
    intro k j
    cases j with
    | zero => simp [WDn]
    | succ j =>
      have e : k + 1 + j = k + (j + 1) := by omega
      simp only [WDn, List.getElem?_cons_succ, ih, e]
theorem WD_get {E : Ev} {M : Mm} {k : Nat} {y : Ly} (h : LT[k]? = some y) : (WD E M)[k]? = some (E.1 + k, ce E (M.1 k) (M.2 k) y) := by
  unfold WD
  rw [WDn_get, h]
  simp
theorem WD_some {E : Ev} {M : Mm} {k : Nat} {q : Nat × va_E} (h : (WD E M)[k]? = some q) : ∃ y, LT[k]? = some y ∧ q = (E.1 + k, ce E (M.1 k) (M.2 k) y) := by
  unfold WD at h
  rw [WDn_get] at h
  cases hy : LT[k]? with
  | none => rw [hy] at h; simp at h
  | some y =>
    rw [hy] at h
    simp at h
    exact ⟨y, rfl, h.symm⟩
theorem WD_D (E : Ev) (M : Mm) : va_D (zA E) (WD E M) := by
  refine ⟨fun i j p q hi hj hpq => ?_, fun k q hk => ?_⟩
  · obtain ⟨y, -, rfl⟩ := WD_some hi
    obtain ⟨z, -, rfl⟩ := WD_some hj
    have : E.1 + i = E.1 + j := hpq
    omega
  · obtain ⟨y, -, rfl⟩ := WD_some hk
    exact Nat.le_add_right _ _
theorem WD_set {E : Ev} {M M' : Mm} {k : Nat} {y : Ly} {c : va_E} (hk : LT[k]? = some y) (hc : ce E (M'.1 k) (M'.2 k) y = c) (h1 : ∀ j, j ≠ k → M'.1 j = M.1 j) (h2 : ∀ j, j ≠ k → M'.2 j = M.2 j) :
    (WD E M).set k (E.1 + k, c) = WD E M' := by
  apply List.ext_getElem?
  intro j
  by_cases hj : j = k
  · subst hj
    have hl : j < (WD E M).length := (List.getElem?_eq_some_iff.mp (WD_get (E := E) (M := M) hk)).1
    rw [List.getElem?_set_self hl, WD_get hk, hc]
  · rw [List.getElem?_set_ne (Ne.symm hj)]
    unfold WD
    rw [WDn_get, WDn_get, Nat.zero_add, h1 j hj, h2 j hj]
theorem wi_k (M : Mm) (k i : Nat) (v : Int32) : (wi M k i v).1 k = upd (M.1 k) i v := by simp [wi]
theorem wi_n (M : Mm) {k j : Nat} (i : Nat) (v : Int32) (h : j ≠ k) : (wi M k i v).1 j = M.1 j := by simp [wi, h]
theorem wi_2 (M : Mm) (k i : Nat) (v : Int32) : (wi M k i v).2 = M.2 := rfl
theorem wl_k (M : Mm) (k i : Nat) (v : Int64) : (wl M k i v).2 k = vp_updL (M.2 k) i v := by simp [wl]
theorem wl_n (M : Mm) {k j : Nat} (i : Nat) (v : Int64) (h : j ≠ k) : (wl M k i v).2 j = M.2 j := by simp [wl, h]
theorem wl_1 (M : Mm) (k i : Nat) (v : Int64) : (wl M k i v).1 = M.1 := rfl
theorem fvs_get (E : Ev) (r : Nat → Int32) (t : Nat → Int64) : ∀ (L : List (Nat × Nat)) (n i : Nat), (fvs E r t n L)[i]? = (L[i]?).map (fv E r t (n + i)) := by
  intro L
  induction L with
  | nil => intro n i; simp [fvs]
  | cons a l ih =>
    intro n i
    cases i with
    | zero => simp [fvs]
    | succ i =>
      have e : n + 1 + i = n + (i + 1) := by omega
      simp only [fvs, List.getElem?_cons_succ, ih, e]
theorem fvs_len (E : Ev) (r : Nat → Int32) (t : Nat → Int64) : ∀ (L : List (Nat × Nat)) (n : Nat), (fvs E r t n L).length = L.length := by
  intro L
  induction L with
  | nil => intro n; rfl
  | cons a l ih => intro n; simp [fvs, ih]
theorem fv_off {E : Ev} {r r' : Nat → Int32} {t t' : Nat → Int64} {i : Nat} (f : Nat × Nat) (h1 : r' i = r i) (h2 : t' i = t i) : fv E r' t' i f = fv E r t i f := by
  unfold fv
  rw [h1, h2]
theorem fvs_off {E : Ev} {r r' : Nat → Int32} {t t' : Nat → Int64} : ∀ (L : List (Nat × Nat)) (n : Nat), (∀ j, n ≤ j → r' j = r j) → (∀ j, n ≤ j → t' j = t j) → fvs E r' t' n L = fvs E r t n L := by
  intro L
  induction L with
  | nil => intro n _ _; rfl
  | cons a l ih =>
    intro n h1 h2
    show fv E r' t' n a :: fvs E r' t' (n + 1) l = fv E r t n a :: fvs E r t (n + 1) l
    rw [fv_off a (h1 n (Nat.le_refl n)) (h2 n (Nat.le_refl n)), ih (n + 1) (fun j hj => h1 j (by omega)) (fun j hj => h2 j (by omega))]
theorem fvs_setN {E : Ev} {r r' : Nat → Int32} {t t' : Nat → Int64} {f : Nat × Nat} {v : Value} : ∀ (L : List (Nat × Nat)) (n i : Nat), L[i]? = some f → fv E r' t' (n + i) f = v → (∀ j, j ≠ n + i → r' j = r j) → (∀ j, j ≠ n + i → t' j = t j) → (fvs E r t n L).set i v = fvs E r' t' n L := by
  intro L
  induction L with
  | nil => intro n i hi; simp at hi
  | cons a l ih =>
    intro n i hi hv h1 h2
    cases i with
    | zero =>
      rw [List.getElem?_cons_zero] at hi
      cases hi
      show v :: fvs E r t (n + 1) l = fv E r' t' n f :: fvs E r' t' (n + 1) l
      rw [fvs_off l (n + 1) (fun j hj => h1 j (by omega)) (fun j hj => h2 j (by omega)), ← hv]
      rfl
    | succ i =>
      rw [List.getElem?_cons_succ] at hi
      have e : n + 1 + i = n + (i + 1) := by omega
      show fv E r t n a :: (fvs E r t (n + 1) l).set i v = fv E r' t' n a :: fvs E r' t' (n + 1) l
      rw [ih (n + 1) i hi (by rw [e]; exact hv) (fun j hj => h1 j (by omega)) (fun j hj => h2 j (by omega)), fv_off a (h1 n (by omega)) (h2 n (by omega))]
theorem fvs_set {E : Ev} {r r' : Nat → Int32} {t t' : Nat → Int64} {L : List (Nat × Nat)} {i : Nat} {f : Nat × Nat} {v : Value} (hi : L[i]? = some f) (hv : fv E r' t' i f = v) (h1 : ∀ j, j ≠ i → r' j = r j) (h2 : ∀ j, j ≠ i → t' j = t j) :
    (fvs E r t 0 L).set i v = fvs E r' t' 0 L := by
  have e : 0 + i = i := Nat.zero_add i
  exact fvs_setN L 0 i hi (by rw [e]; exact hv) (fun j hj => h1 j (by rw [e] at hj; exact hj)) (fun j hj => h2 j (by rw [e] at hj; exact hj))
theorem upd_ne {f : Nat → Int32} {k j : Nat} {v : Int32} (h : j ≠ k) : upd f k v j = f j := by simp [upd, h]
theorem upd_eq {f : Nat → Int32} {k : Nat} {v : Int32} : upd f k v k = v := by simp [upd]
theorem updL_ne {f : Nat → Int64} {k j : Nat} {v : Int64} (h : j ≠ k) : vp_updL f k v j = f j := by simp [vp_updL, h]
theorem updL_eq {f : Nat → Int64} {k : Nat} {v : Int64} : vp_updL f k v k = v := by simp [vp_updL]
/-- an array of ints is written -/
theorem WD_wi {E : Ev} {M : Mm} {k n i : Nat} {v : Int32} {z : List (Nat × Nat)} (hk : LT[k]? = some (0, n, z)) : (WD E M).set k (E.1 + k, .inl (E.2.2.2.1 0, n, .inl (upd (M.1 k) i v))) = WD E (wi M k i v) :=
  WD_set hk (by rw [wi_k]; rfl) (fun j h => wi_n M i v h) (fun _ _ => rfl)
theorem WD_wz {E : Ev} {M : Mm} {k n i : Nat} {v : Int32} {z : List (Nat × Nat)} (hk : LT[k]? = some (2, n, z)) : (WD E M).set k (E.1 + k, .inl (E.2.2.2.1 2, n, .inl (upd (M.1 k) i v))) = WD E (wi M k i v) :=
  WD_set hk (by rw [wi_k]; rfl) (fun j h => wi_n M i v h) (fun _ _ => rfl)
theorem WD_wl {E : Ev} {M : Mm} {k n i : Nat} {v : Int64} {z : List (Nat × Nat)} (hk : LT[k]? = some (1, n, z)) : (WD E M).set k (E.1 + k, .inl (E.2.2.2.1 1, n, .inr (.inl (vp_updL (M.2 k) i v)))) = WD E (wl M k i v) :=
  WD_set hk (by rw [wl_k]; rfl) (fun _ _ => rfl) (fun j h => wl_n M i v h)
/-- a field is written -/
theorem WD_fi {E : Ev} {M : Mm} {k ci i : Nat} {v : Int32} {z : List (Nat × Nat)} {b : Nat} (hk : LT[k]? = some (4, ci, z)) (hi : z[i]? = some (0, b)) :
    (WD E M).set k (E.1 + k, .inr (ci, (fvs E (M.1 k) (M.2 k) 0 z).set i (.int v))) = WD E (wi M k i v) :=
  WD_set hk (by rw [fvs_set (r' := (wi M k i v).1 k) (t' := M.2 k) hi (by rw [wi_k]; show Value.int (upd (M.1 k) i v i) = _; rw [upd_eq]) (fun j h => by rw [wi_k, upd_ne h]) (fun _ _ => rfl)]; rfl) (fun j h => wi_n M i v h) (fun _ _ => rfl)
theorem WD_fl {E : Ev} {M : Mm} {k ci i : Nat} {v : Int64} {z : List (Nat × Nat)} {b : Nat} (hk : LT[k]? = some (4, ci, z)) (hi : z[i]? = some (1, b)) :
    (WD E M).set k (E.1 + k, .inr (ci, (fvs E (M.1 k) (M.2 k) 0 z).set i (.long v))) = WD E (wl M k i v) :=
  WD_set hk (by rw [fvs_set (r' := M.1 k) (t' := (wl M k i v).2 k) hi (by rw [wl_k]; show Value.long (vp_updL (M.2 k) i v i) = _; rw [updL_eq]) (fun _ _ => rfl) (fun j h => by rw [wl_k, updL_ne h])]; rfl) (fun _ _ => rfl) (fun j h => wl_n M i v h)
theorem nI_clamp' {j : Nat} (h : j < 200) : (Int32.ofNat j).toNatClampNeg = j := nI_clamp (by omega)
theorem WD_fr {E : Ev} {M : Mm} {k ci i j : Nat} {z : List (Nat × Nat)} {b : Nat} (hk : LT[k]? = some (4, ci, z)) (hi : z[i]? = some (3, b)) (hj : j < 200) :
    (WD E M).set k (E.1 + k, .inr (ci, (fvs E (M.1 k) (M.2 k) 0 z).set i (.ref (E.1 + j)))) = WD E (wi M k i (Int32.ofNat j)) :=
  WD_set hk (by rw [fvs_set (r' := (wi M k i (Int32.ofNat j)).1 k) (t' := M.2 k) hi (by rw [wi_k]; show Value.ref (E.1 + (upd (M.1 k) i (Int32.ofNat j) i).toNatClampNeg) = _; rw [upd_eq, nI_clamp' hj]) (fun j h => by rw [wi_k, upd_ne h]) (fun _ _ => rfl)]; rfl) (fun j' h => wi_n M i _ h) (fun _ _ => rfl)
