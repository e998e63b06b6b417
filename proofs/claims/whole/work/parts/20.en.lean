/-! THE LAW: its entry, its loop, its end -/
def M0 : Mm := (fun k => match k with | 0 => upd (fun _ => 0) 8 (-1) | 34 => upd (fun _ => 0) 7 65 | 69 => upd (fun _ => 0) 6 (-1) | _ => fun _ => 0, fun _ _ => 0)
theorem b_toG {K : Kx} {cs : Nat × Nat} {pc : Nat} {lv : List (Nat × Value)} {st : List Value} {L0 R : va_W} {M : Mm} (hL : ∀ H, va_P (zD K.2.1) vwCl (L0 ++ R) H → va_P (zD K.2.1) vwCl (WD K.2.1 M) H) (h : G K cs pc lv st M) : B K cs pc lv st L0 R := fun H locs ls hP hS hl => h H locs ls (hL H hP.1) hS hl
theorem arrV_cg {cA : ClassId} {n : Nat} {f g : Nat → Value} (h : ∀ j, j < n → f j = g j) : arrV cA n f = arrV cA n g := by
  unfold arrV
  congr 1
  apply Array.ext (by simp)
  intro i h1 h2
  simp at h1 ⊢
  exact h i h1
theorem va_P_set {D : va_G} {cl : List vw_C} {L : va_W} {H : Heap} {k a : Nat} {e e' : va_E} (h : va_P D cl L H) (hk : L[k]? = some (a, e)) (hx : va_at D cl (a, e) H → va_at D cl (a, e') H) : va_P D cl (L.set k (a, e')) H := by
  intro j q hq
  by_cases hj : j = k
  · subst hj
    rw [List.getElem?_set_self (List.getElem?_eq_some_iff.mp hk).1] at hq
    cases hq
    exact hx (h j _ hk)
  · rw [List.getElem?_set_ne (Ne.symm hj)] at hq
    exact h j q hq
theorem fnd_at {E : Ev} {H : Heap} {a : Nat} {f g : Nat → Option Nat} (h : ∀ j, j < 4 → f j = g j) (hx : va_at (zD E) vwCl (a, arF E 4 f) H) : va_at (zD E) vwCl (a, arF E 4 g) H := by
  have hx : H[a]? = some (vp_cell (E.2.2.2.1 3) (4, .inr (.inr (.inr (.inr f))))) := hx
  show H[a]? = some (vp_cell (E.2.2.2.1 3) (4, .inr (.inr (.inr (.inr g)))))
  rw [hx, vp_cell_q, vp_cell_q, arrV_cg (f := fun j => va_rf (f j)) (g := fun j => va_rf (g j)) (fun j hj => by rw [h j hj])]
theorem law_entry {K : Kx} {b : Nat} (Cc : Cy K cL_law RL 124) (hmL : K.2.2.1 = 8) (hR : 200 ≤ K.1.R.cells ∧ 20000 ≤ K.1.R.slots)
    (h : G K (106, 10000) 23 [(0, .ref b), (1, .ref (K.2.1.1 + 0)), (2, .ref (K.2.1.1 + 69)), (3, .ref (K.2.1.1 + 105)), (4, .int 0)] [] M0) : B K (0, 0) 0 [(0, .ref b)] [] [] [] := by
  have hn : ([] : va_W).length = 0 := rfl
  have htr := Cc.1.tr
  have hR1 := hR.1
  have hR2 := hR.2
  refine b_new (j := 0) Cc hn (ckD_get k_L_law_0 0 rfl) mk_L_8 ⟨by show 0 + 1 ≤ _; omega, by show 0 + 10 ≤ _; omega⟩ rfl rfl ?_
  refine b_dup Cc (ckD_get k_L_law_0 1 rfl) ?_
  refine b_cI [] [.ref (K.2.1.1 + (0 + 0))] Cc (ckD_get k_L_law_0 2 rfl) ik_L_67 (ct_X9_init htr [] 0 rfl rfl rfl) rfl rfl (Nat.le_of_ble_eq_true rfl) (by decide) ⟨by show 1 + 68 ≤ _; omega, by show 10 + 905 ≤ _; omega⟩ ?_
  show B K (69, 915) 7 _ _ [] (c69 K.2.1 0)
  refine b_astore_n Cc (ckD_get k_L_law_0 3 rfl) rfl (by rw [hmL]; decide) rfl ?_
  refine b_new (j := 69) Cc hn (ckD_get k_L_law_0 4 rfl) mk_L_68 ⟨by show 69 + 1 ≤ _; omega, by show 915 + 50 ≤ _; omega⟩ rfl rfl ?_
  refine b_dup Cc (ckD_get k_L_law_0 5 rfl) ?_
  refine b_cI [] [.ref (K.2.1.1 + (0 + 69))] Cc (ckD_get k_L_law_0 6 rfl) ik_L_70 (ct_X10_init htr (c69 K.2.1 0) 69 rfl rfl rfl) rfl rfl (Nat.le_of_ble_eq_true rfl) (by decide) ⟨by show 70 + 35 ≤ _; omega, by show 965 + 8727 ≤ _; omega⟩ ?_
  refine b_astore_n Cc (ckD_get k_L_law_0 7 rfl) rfl (by rw [hmL]; decide) rfl ?_
  refine b_iconst Cc (ckD_get k_L_law_0 8 rfl) rfl ?_
  refine b_newL (N := 1) (j := 105) Cc hn (ckD_get k_L_law_0 9 rfl) (by exact RQ_in 1260 (by decide +kernel) (by decide +kernel)) (by decide) (by decide) (by decide) ⟨by show 105 + 1 ≤ _; omega, by show 9692 + 1 ≤ _; omega⟩ rfl rfl ?_
  refine b_astore_n Cc (ckD_get k_L_law_0 10 rfl) rfl (by rw [hmL]; decide) rfl ?_
  refine b_iconst Cc (ckD_get k_L_law_0 11 rfl) rfl ?_
  refine b_istore Cc (ckD_get k_L_law_0 12 rfl) (by rw [hmL]; decide) rfl ?_
  refine b_toG (M := M0) (fun H hP => ?_) ?_
  · refine va_P_set (k := 35) (a := K.2.1.1 + 35) (e := arF K.2.1 4 (va_up (va_up (va_up (va_up (fun _ => none) 0 (some (K.2.1.1 + 65))) 1 (some (K.2.1.1 + 66))) 2 (some (K.2.1.1 + 67))) 3 (some (K.2.1.1 + 68)))) (e' := arF K.2.1 4 (fun i => some (K.2.1.1 + (65 + i)))) hP rfl (fnd_at ?_)
    intro j hj
    have : j = 0 ∨ j = 1 ∨ j = 2 ∨ j = 3 := by omega
    rcases this with rfl | rfl | rfl | rfl <;> rfl
  refine G.wid (cs' := (106, 10000)) (Nat.le_of_ble_eq_true rfl) (Nat.le_of_ble_eq_true rfl) ?_
  exact G.sub [4, 3, 2, 1, 0] rfl h
