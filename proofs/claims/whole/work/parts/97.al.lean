/-! every turn comes through -/
def A0 : Abs := mkA 0 0 0 0 0 (-1) (fun _ => 0) (fun _ => 0) (fun _ => 0) (fun _ => 0) (fun _ => 0) (fun _ => 0) (fun _ => 0) (fun _ => 0) (fun _ => 0) (fun _ => 0)
theorem inv0 : Inv Fnd M0 := by
  refine ⟨A0, AOK.non rfl (by show 0 ≤ 12; omega) (fun b hb => by have : b < 0 := hb; omega) (fun b hb => by have : b < 0 := hb; omega) (by show 0 < 2 ^ 0; decide) (fun k hk => by show 0 < 2 ^ 0; decide) (by show 0 ≤ 60; omega), CI.non rfl rfl pz_0 pz_0 pz_0 (fun j hj => by have : j < 0 := hj; omega) (fun j hj => by have : j < 0 := hj; omega) (fun j hj => pz_0) (fun k hk => ?_), RI.non rfl rfl pz_0 pz_0 (fun j hj => by have : j < 0 := hj; omega) (fun j hj => by have : j < 0 := hj; omega) (fun j hj => by have : j < 0 := hj; omega) (fun j hj => pz_0)⟩
  match k with
  | 0 => rfl
  | 1 => rfl
  | 2 => rfl
  | 3 => rfl
  | k + 4 => omega
theorem turn_ok : TurnOk (Inv Fnd) := by
  intro xs L n M hL hn hI
  show Nx Fnd n (f_turn xs L (nI n) M)
  unfold f_turn
  have c : ¬ (Int32.ofNat L) - (7 : Int32) < nI n := by
    show ¬ nI L - (7 : Int32) < nI n
    rw [pz_7, pz_sub (by omega), pz_lt (by omega) (by omega)]
    omega
  rw [if_neg c, pz_rdX (by omega) hL, pz_lt1]
  generalize xs n &&& (31 : Int32) = sw
  by_cases c0 : sw = (0 : Int32)
  · rw [if_pos c0]; exact arm_0 fok_fnd hL hn hI
  rw [if_neg c0]
  by_cases c1 : sw = (1 : Int32)
  · rw [if_pos c1]; exact arm_1 fok_fnd hI
  rw [if_neg c1]
  by_cases c2 : sw = (2 : Int32)
  · rw [if_pos c2]; exact arm_2 fok_fnd hL hn hI
  rw [if_neg c2]
  by_cases c3 : sw = (3 : Int32)
  · rw [if_pos c3]; exact arm_3 fok_fnd hL hn hI
  rw [if_neg c3]
  by_cases c4 : sw = (4 : Int32)
  · rw [if_pos c4]; exact arm_4 fok_fnd hI
  rw [if_neg c4]
  by_cases c5 : sw = (5 : Int32)
  · rw [if_pos c5]; exact arm_5 fok_fnd hL hn hI
  rw [if_neg c5]
  by_cases c6 : sw = (6 : Int32)
  · rw [if_pos c6]; exact arm_6 fok_fnd hL hn hI
  rw [if_neg c6]
  by_cases c7 : sw = (7 : Int32)
  · rw [if_pos c7]; exact arm_7 fok_fnd hL hn hI
  rw [if_neg c7]
  by_cases c8 : sw = (8 : Int32)
  · rw [if_pos c8]; exact arm_8 fok_fnd hL hn hI
  rw [if_neg c8]
  by_cases c9 : sw = (9 : Int32)
  · rw [if_pos c9]; exact arm_9 fok_fnd hL hn hI
  rw [if_neg c9]
  by_cases c10 : sw = (10 : Int32)
  · rw [if_pos c10]; exact arm_10 fok_fnd hL hn hI
  rw [if_neg c10]
  by_cases c11 : sw = (11 : Int32)
  · rw [if_pos c11]; exact arm_11 fok_fnd hL hn hI
  rw [if_neg c11]
  by_cases c12 : sw = (12 : Int32)
  · rw [if_pos c12]; exact arm_12 fok_fnd hL hn hI
  rw [if_neg c12]
  by_cases c13 : sw = (13 : Int32)
  · rw [if_pos c13]; exact arm_13 fok_fnd hI
  rw [if_neg c13]
  by_cases c14 : sw = (14 : Int32)
  · rw [if_pos c14]; exact arm_14 fok_fnd hI
  rw [if_neg c14]
  by_cases c15 : sw = (15 : Int32)
  · rw [if_pos c15]; exact arm_15 fok_fnd hI
  rw [if_neg c15]
  by_cases c16 : sw = (16 : Int32)
  · rw [if_pos c16]; exact arm_16 fok_fnd hI
  rw [if_neg c16]
  by_cases c17 : sw = (17 : Int32)
  · rw [if_pos c17]; exact arm_17 fok_fnd hI
  rw [if_neg c17]
  by_cases c18 : sw = (18 : Int32)
  · rw [if_pos c18]; exact arm_18 fok_fnd hL hn hI
  rw [if_neg c18]
  by_cases c19 : sw = (19 : Int32)
  · rw [if_pos c19]; exact arm_19 fok_fnd hL hn hI
  rw [if_neg c19]
  by_cases c20 : sw = (20 : Int32)
  · rw [if_pos c20]; exact arm_20 fok_fnd hL hn hI
  rw [if_neg c20]
  by_cases c21 : sw = (21 : Int32)
  · rw [if_pos c21]; exact arm_21 hL hn hI
  rw [if_neg c21]
  by_cases c22 : sw = (22 : Int32)
  · rw [if_pos c22]; exact arm_22 fok_fnd hL hn hI
  rw [if_neg c22]
  by_cases c23 : sw = (23 : Int32)
  · rw [if_pos c23]; exact arm_23 fok_fnd hI
  rw [if_neg c23]
  by_cases c24 : sw = (24 : Int32)
  · rw [if_pos c24]; exact arm_24 fok_fnd hL hn hI
  rw [if_neg c24]
  exact nx_end hI
theorem pure_all : ∃ Inv : Mm → Prop, TurnOk Inv ∧ Inv M0 := ⟨Inv Fnd, turn_ok, inv0⟩
