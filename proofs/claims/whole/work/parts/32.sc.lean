/-! the simple calls: block, less, side, net, places, put -/
theorem pz_shl {b : Nat} (hb : b < 31) : nI 1 <<< (nI b &&& 31) = nI (2 ^ b) := pz_shl1 hb
theorem pz_ff {α : Type} (a b : α) : (if False then a else b) = b := if_neg id
theorem pz_tt {α : Type} (a b : α) : (if True then a else b) = a := if_pos trivial
theorem swd_le {w h : Nat → Nat} {n td b B : Nat} (hw : ∀ b, b < n → 1 ≤ w b ∧ w b ≤ B) (hh : ∀ b, b < n → 1 ≤ h b ∧ h b ≤ B) (hb : b < n) : 1 ≤ swd w h td b ∧ swd w h td b ≤ B := by
  unfold swd
  split
  · exact hh b hb
  · exact hw b hb
theorem fg_eq (M : Mm) : f_X7_forget M = some (wi (wi (wi (wi M 65 0 0) 66 0 0) 67 0 0) 68 0 0) := by
  unfold f_X7_forget
  have h : loop (fun v => f_X7_forget_L2 v.1 v.2) FU ((0 : Int32), M) = some (wi (wi (wi (wi M 65 0 0) 66 0 0) 67 0 0) 68 0 0) := by
    refine lp_n (step := fun v => f_X7_forget_L2 v.1 v.2) (fun i => match i with | 0 => (0, M) | 1 => (1, wi M 65 0 0) | 2 => (2, wi (wi M 65 0 0) 66 0 0) | 3 => (3, wi (wi (wi M 65 0 0) 66 0 0) 67 0 0) | _ => (4, wi (wi (wi (wi M 65 0 0) 66 0 0) 67 0 0) 68 0 0)) 4 (fu_lt (by omega)) (fun i hi => ?_) rfl
    match i with
    | 0 => rfl
    | 1 => rfl
    | 2 => rfl
    | 3 => rfl
    | k + 4 => omega
  rw [h]; rfl
theorem pz_side (a : Int32) : f_X9_isSide a = if a < 1 ∨ 200 < a then 0 else 1 := by
  unfold f_X9_isSide
  have e1 : (a < 1) ↔ a.toInt < 1 := by rw [Int32.lt_iff_toInt_lt]; rfl
  have e2 : (1 ≤ a) ↔ 1 ≤ a.toInt := by rw [Int32.le_iff_toInt_le]; rfl
  have e3 : (200 < a) ↔ 200 < a.toInt := by rw [Int32.lt_iff_toInt_lt]; rfl
  have e4 : (a ≤ 200) ↔ a.toInt ≤ 200 := by rw [Int32.le_iff_toInt_le]; rfl
  simp only [e1, e2, e3, e4]
  repeat' split
  all_goals first | rfl | omega
