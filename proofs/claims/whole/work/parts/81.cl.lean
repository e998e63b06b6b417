/-! all ways to turn -/
def nxt (tc u : Nat) : Nat := ((nI u - nI tc) &&& nI tc).toBitVec.toNat
set_option maxRecDepth 100000 in
theorem nxt_a : ∀ tc, tc < 16 → ∀ u, u < 16 → u &&& tc = u → nxt tc u < 16 ∧ nxt tc u &&& tc = nxt tc u ∧ (nxt tc u = 0 ∨ u < nxt tc u) := by decide +kernel
set_option maxRecDepth 100000 in
theorem nxt_b : ∀ tc, tc < 16 → ∀ u, u < 16 → ∀ v, v < 16 → (u &&& tc = u ∧ v &&& tc = v ∧ (nxt tc u = 0 ∨ v < nxt tc u)) → v ≤ u := by decide +kernel
theorem nxt_tab (tc : Nat) (htc : tc < 16) (u : Nat) (hu : u < 16) (hs : u &&& tc = u) : (nxt tc u = 0 ∧ ∀ v, v < 16 → v &&& tc = v → v ≤ u) ∨ (u < nxt tc u ∧ nxt tc u < 16 ∧ nxt tc u &&& tc = nxt tc u ∧ ∀ v, v < 16 → v &&& tc = v → v < nxt tc u → v ≤ u) := by
  obtain ⟨a1, a2, a3 | a3⟩ := nxt_a tc htc u hu hs
  · exact Or.inl ⟨a3, fun v hv hw => nxt_b tc htc u hu v hv ⟨hs, hw, Or.inl a3⟩⟩
  · exact Or.inr ⟨a3, a1, a2, fun v hv hw hl => nxt_b tc htc u hu v hv ⟨hs, hw, Or.inr hl⟩⟩
def SLy (k : Nat) : Prop := (36 ≤ k ∧ k ≤ 41) ∨ (51 ≤ k ∧ k ≤ 53) ∨ (57 ≤ k ∧ k ≤ 58)
def KL (kf : Nat) (M M' : Mm) : Prop := (∀ k, ¬ SLy k → k ≠ kf → M'.1 k = M.1 k) ∧ ∀ k, ¬ SLy k → M'.2 k = M.2 k
theorem KL.rf {kf : Nat} {M : Mm} : KL kf M M := ⟨fun _ _ _ => rfl, fun _ _ => rfl⟩
theorem KL.tr {kf : Nat} {M M' M'' : Mm} (h : KL kf M M') (h2 : KL kf M' M'') : KL kf M M'' := ⟨fun k a b => (h2.1 k a b).trans (h.1 k a b), fun k a => (h2.2 k a).trans (h.2 k a)⟩
theorem KL.fr {kf : Nat} {M M' : Mm} (h : Fr SLy M M') : KL kf M M' := ⟨fun k a _ => h.1 k a, fun k a => h.2 k a⟩
theorem KL.w {kf : Nat} {M : Mm} {i : Nat} {v : Int32} : KL kf M (wi M kf i v) := ⟨fun k _ b => wi_n _ _ _ b, fun _ _ => rfl⟩
/-- what is known once all ways below B were tried -/
def PS (f : Nat → Nat) (tc G kf : Nat) (M : Mm) (B : Nat) (x : Int32) (M1 : Mm) : Prop :=
  (x = nI 0 ∧ (∀ v, v < B → v &&& tc = v → G ≤ f v) ∧ M1.1 kf = M.1 kf) ∨
  (x = nI 1 ∧ ∃ b, b < B ∧ b &&& tc = b ∧ (∀ v, v < B → v &&& tc = v → f b ≤ f v ∧ (v < b → f b < f v)) ∧ f b < G ∧ M1.1 kf 0 = nI (f b) ∧ M1.1 kf 4 = nI b ∧ ∀ j, j ≠ 0 → j ≠ 4 → M1.1 kf j = M.1 kf j)
theorem PS.mono {f : Nat → Nat} {tc G kf : Nat} {M : Mm} {B C : Nat} {x : Int32} {M1 : Mm} (h : PS f tc G kf M B x M1) (hBC : B ≤ C) (hno : ∀ v, v < C → v &&& tc = v → v < B) : PS f tc G kf M C x M1 := by
  rcases h with ⟨h1, h2, h3⟩ | ⟨h1, b, b1, b2, b3, b4⟩
  · exact Or.inl ⟨h1, fun v hv hs => h2 v (hno v hv hs) hs, h3⟩
  · exact Or.inr ⟨h1, b, by omega, b2, fun v hv hs => b3 v (hno v hv hs) hs, b4⟩
theorem cl_ok {M : Mm} {k1 kf tc G : Nat} {f : Nat → Nat} (hkf : 65 ≤ kf ∧ kf < 69) (h7 : M.1 34 7 = nI kf) (h9 : M.1 34 9 = nI tc) (htc : tc < 16) (hG : M.1 kf 0 = nI G) (hGl : G < 2147483648) (hf : ∀ u, f u < 2147483647)
    (hl : ∀ M1 u, u &&& tc = u → KL kf M M1 → Wp (f_X2_take 36 (nI u) M1) (fun M2 => Wp (f_tlay k1 36 M2) (fun M3 => f_X2_area 36 M3 = some (nI (f u)) ∧ Fr SLy M1 M3))) :
    Wp (f_X7_comesLower k1 M) (fun r => KL kf M r.2 ∧ ((r.1 = nI 0 ∧ (∀ u, u &&& tc = u → G ≤ f u) ∧ r.2.1 kf = M.1 kf) ∨ (r.1 = nI 1 ∧ ∃ u, FM f tc u ∧ f u < G ∧ r.2.1 kf 0 = nI (f u) ∧ r.2.1 kf 4 = nI u ∧ ∀ j, j ≠ 0 → j ≠ 4 → r.2.1 kf j = M.1 kf j))) := by
  have nkf : ¬ SLy kf := by unfold SLy; omega
  have n34 : ¬ SLy 34 := by unfold SLy; omega
  unfold f_X7_comesLower
  rw [pz_0]
  refine wp_b (P := fun r => KL kf M r.2 ∧ ((r.1 = nI 0 ∧ (∀ u, u &&& tc = u → G ≤ f u) ∧ r.2.1 kf = M.1 kf) ∨ (r.1 = nI 1 ∧ ∃ u, FM f tc u ∧ f u < G ∧ r.2.1 kf 0 = nI (f u) ∧ r.2.1 kf 4 = nI u ∧ ∀ j, j ≠ 0 → j ≠ 4 → r.2.1 kf j = M.1 kf j))) ?_ ?_
  · refine wp_l (fun i (v : Int32 × Int32 × Int32 × Mm) => ∃ u, v.2.1 = nI u ∧ v.2.2.1 = nI i ∧ i ≤ u ∧ u &&& tc = u ∧ KL kf M v.2.2.2 ∧ PS f tc G kf M u v.1 v.2.2.2) 16 (fu_lt (by omega)) ?_ ?_ ⟨0, rfl, rfl, Nat.le_refl _, Nat.zero_and _, KL.rf, Or.inl ⟨rfl, fun v hv => by omega, rfl⟩⟩
    · rintro i ⟨x2, x3, x4, M1⟩ hi ⟨u, a1, a2, a3, a4, a5, a6⟩
      have a1 : x3 = nI u := a1
      have a2 : x4 = nI i := a2
      subst a1 a2
      have a5 : KL kf M M1 := a5
      have a6 : PS f tc G kf M u x2 M1 := a6
      have hu : u < 16 := by have := sub_le a4; omega
      show Wp (f_X7_comesLower_L7 k1 x2 (nI u) (nI i) M1) _
      unfold f_X7_comesLower_L7
      rw [pz_16, if_neg (by rw [pz_le (by omega) (by omega)]; omega)]
      obtain ⟨M2, e2, M3, e3, e4, e5⟩ := hl M1 u a4 a5
      have k3 : M3.1 34 = M.1 34 := by rw [e5.1 34 n34]; exact a5.1 34 n34 (by omega)
      have kk : M3.1 kf = M1.1 kf := e5.1 kf nkf
      have h7' : (M3.1 34 7).toNatClampNeg = kf := by rw [k3, h7, pz_cl (by omega)]
      have a7 : KL kf M M3 := a5.tr (KL.fr e5)
      rw [e2, pz_bd, e3, pz_bd, e4, pz_bd, h7', pz_lt1, pz_gd hkf, kk]
      have fu := hf u
      -- what follows
      have nx : ∀ (x : Int32) (M4 : Mm), KL kf M M4 → PS f tc G kf M (u + 1) x M4 → Wp (f_X7_comesLower_J74 (nI u) (nI i) x M4) (fun r => (∃ w, r = .inl w ∧ ∃ u', w.2.1 = nI u' ∧ w.2.2.1 = nI (i + 1) ∧ i + 1 ≤ u' ∧ u' &&& tc = u' ∧ KL kf M w.2.2.2 ∧ PS f tc G kf M u' w.1 w.2.2.2) ∨ ∃ y, r = .inr y ∧ KL kf M y.2 ∧ ((y.1 = nI 0 ∧ (∀ u, u &&& tc = u → G ≤ f u) ∧ y.2.1 kf = M.1 kf) ∨ (y.1 = nI 1 ∧ ∃ u, FM f tc u ∧ f u < G ∧ y.2.1 kf 0 = nI (f u) ∧ y.2.1 kf 4 = nI u ∧ ∀ j, j ≠ 0 → j ≠ 4 → y.2.1 kf j = M.1 kf j))) := by
        intro x M4 k4 ps
        have t9 : f_X7_nextTurned (nI u) M4 = nI (nxt tc u) := by
          unfold f_X7_nextTurned nxt
          rw [k4.1 34 n34 (by omega), h9, nI_bits]
        unfold f_X7_comesLower_J74
        rw [t9, pz_lt1, pz_0]
        rcases nxt_tab tc htc u hu a4 with ⟨z1, z2⟩ | ⟨z1, z2, z3, z4⟩
        · rw [z1, if_pos rfl]
          have lt : ∀ v, v &&& tc = v → v < u + 1 := fun v hv => by
            have := z2 v (by have := sub_le hv; omega) hv
            omega
          refine wp_s (Or.inr ⟨_, rfl, k4, ?_⟩)
          rcases ps with ⟨h1, h2, h3⟩ | ⟨h1, b, b1, b2, b3, b4, b5⟩
          · exact Or.inl ⟨h1, fun v hv => h2 v (lt v hv) hv, h3⟩
          · exact Or.inr ⟨h1, b, ⟨b2, fun v hv => b3 v (lt v hv) hv⟩, b4, b5⟩
        · rw [if_neg (by rw [pz_eq (by omega) (by omega)]; omega), pz_lt1, pz_1, pz_add]
          exact wp_s (Or.inl ⟨_, rfl, nxt tc u, rfl, rfl, by omega, z3, k4, ps.mono (by omega) (fun v hv hs => by have := z4 v (by omega) hs hv; omega)⟩)
      have better : ∀ C, M1.1 kf 0 = nI C → C < 2147483648 → f u < C → C ≤ G → (∀ v, v < u → v &&& tc = v → f u < f v) → (∀ j, j ≠ 0 → j ≠ 4 → M1.1 kf j = M.1 kf j) → Wp (f_X7_comesLower_J74 (nI u) (nI i) (1 : Int32) (wi (wi M3 kf 0 (nI (f u))) kf 4 (nI u))) (fun r => (∃ w, r = .inl w ∧ ∃ u', w.2.1 = nI u' ∧ w.2.2.1 = nI (i + 1) ∧ i + 1 ≤ u' ∧ u' &&& tc = u' ∧ KL kf M w.2.2.2 ∧ PS f tc G kf M u' w.1 w.2.2.2) ∨ ∃ y, r = .inr y ∧ KL kf M y.2 ∧ ((y.1 = nI 0 ∧ (∀ u, u &&& tc = u → G ≤ f u) ∧ y.2.1 kf = M.1 kf) ∨ (y.1 = nI 1 ∧ ∃ u, FM f tc u ∧ f u < G ∧ y.2.1 kf 0 = nI (f u) ∧ y.2.1 kf 4 = nI u ∧ ∀ j, j ≠ 0 → j ≠ 4 → y.2.1 kf j = M.1 kf j))) := by
        intro C hC hCl hlt hCG hall hoth
        refine nx 1 _ ((a7.tr KL.w).tr KL.w) (Or.inr ⟨rfl, u, by omega, a4, fun v hv hs => ?_, by omega, ?_, ?_, fun j j0 j4 => ?_⟩)
        · by_cases e : v = u
          · subst e; exact ⟨Nat.le_refl _, fun h => by omega⟩
          · have := hall v (by omega) hs
            exact ⟨by omega, fun _ => this⟩
        · rw [wi_at, if_neg (by omega), wi_at, if_pos rfl]
        · rw [wi_at, if_pos rfl]
        · rw [wi_at, if_neg j4, wi_at, if_neg j0, kk]; exact hoth j j0 j4
      have c34 : ∀ v : Int32, ((wi M3 kf 0 v).1 34 7).toNatClampNeg = kf := fun v => by rw [wi_n _ _ _ (show 34 ≠ kf by omega)]; exact h7'
      rcases a6 with ⟨h1, h2, h3⟩ | ⟨h1, b, b1, b2, b3, b4, b5, b6, b7⟩
      · rw [show M1.1 kf 0 = nI G by rw [h3]; exact hG]
        by_cases q : G ≤ f u
        · rw [if_pos (by rw [pz_le (by omega) (by omega)]; exact q)]
          refine nx x2 M3 a7 (Or.inl ⟨h1, fun v hv hs => ?_, kk.trans h3⟩)
          by_cases e : v = u
          · rw [e]; exact q
          · exact h2 v (by omega) hs
        · rw [if_neg (by rw [pz_le (by omega) (by omega)]; exact q), pz_lt1, pz_gd hkf, pz_lt1, c34, pz_lt1, pz_gd hkf, pz_lt1]
          exact better G (by rw [h3]; exact hG) hGl (by omega) (Nat.le_refl _) (fun v hv hs => by have := h2 v hv hs; omega) (fun j _ _ => by rw [h3])
      · have fb := hf b
        rw [b5]
        by_cases q : f b ≤ f u
        · rw [if_pos (by rw [pz_le (by omega) (by omega)]; exact q)]
          refine nx x2 M3 a7 (Or.inr ⟨h1, b, by omega, b2, fun v hv hs => ?_, b4, by rw [kk]; exact b5, by rw [kk]; exact b6, fun j j0 j4 => by rw [kk]; exact b7 j j0 j4⟩)
          by_cases e : v = u
          · rw [e]; exact ⟨q, fun h => by omega⟩
          · exact b3 v (by omega) hs
        · rw [if_neg (by rw [pz_le (by omega) (by omega)]; exact q), pz_lt1, pz_gd hkf, pz_lt1, c34, pz_lt1, pz_gd hkf, pz_lt1]
          exact better (f b) b5 (by omega) (by omega) (by omega) (fun v hv hs => by have := (b3 v hv hs).1; omega) b7
    · rintro ⟨x2, x3, x4, M1⟩ ⟨u, a1, a2, a3, a4, a5, a6⟩
      have := sub_le a4
      omega
  · rintro ⟨r, M1⟩ ⟨a1, a2⟩
    have hr : r = nI 0 ∨ r = nI 1 := by
      rcases a2 with ⟨h, _⟩ | ⟨h, _⟩
      · exact Or.inl h
      · exact Or.inr h
    have hr' : r = 0 ∨ r = 1 := by
      rcases hr with h | h
      · exact Or.inl (h.trans pz_0.symm)
      · exact Or.inr (h.trans pz_1.symm)
    show Wp (f_X7_comesLower_A7 r M1) _
    unfold f_X7_comesLower_A7
    rw [pz_gd hr']
    exact wp_s ⟨a1, a2⟩
/-! .. the reference's -/
def f_rlay (kk : Nat) (M : Mm) : Option Mm := if kk = 1 then f_X10_layPair M else if kk = 2 then f_X10_layCuts M else f_X10_layTree M
def SLr (k : Nat) : Prop := k = 74 ∨ k = 75 ∨ (86 ≤ k ∧ k ≤ 94)
def KT (M M' : Mm) : Prop := (∀ k, k ≠ 69 → ¬ SLr k → M'.1 k = M.1 k) ∧ (∀ j, j ≠ 6 → j ≠ 7 → j ≠ 22 → j ≠ 39 → j ≠ 40 → M'.1 69 j = M.1 69 j) ∧ ∀ k, k < 74 ∨ 94 < k → M'.2 k = M.2 k
theorem KT.rf {M : Mm} : KT M M := ⟨fun _ _ _ => rfl, fun _ _ _ _ _ _ => rfl, fun _ _ => rfl⟩
theorem KT.tr {M M' M'' : Mm} (h : KT M M') (h2 : KT M' M'') : KT M M'' := ⟨fun k a b => (h2.1 k a b).trans (h.1 k a b), fun j a b c d e => (h2.2.1 j a b c d e).trans (h.2.1 j a b c d e), fun k a => (h2.2.2 k a).trans (h.2.2 k a)⟩
theorem KT.w {M : Mm} {i : Nat} {v : Int32} (hi : i = 6 ∨ i = 7 ∨ i = 22 ∨ i = 39 ∨ i = 40) : KT M (wi M 69 i v) := ⟨fun k a _ => wi_n _ _ _ a, fun j a b c d e => by rw [wi_at, if_neg (by omega)], fun _ _ => rfl⟩
/-- .. and the best so far stays -/
def KU (M M' : Mm) : Prop := KT M M' ∧ M'.1 69 39 = M.1 69 39 ∧ M'.1 69 40 = M.1 69 40
def PT2 (f : Nat → Nat) (tb G : Nat) (M : Mm) (B : Nat) (x : Int32) (M1 : Mm) : Prop :=
  (x = nI 0 ∧ (∀ v, v < B → v &&& tb = v → G ≤ f v) ∧ M1.1 69 39 = M.1 69 39 ∧ M1.1 69 40 = M.1 69 40) ∨
  (x = nI 1 ∧ ∃ b, b < B ∧ b &&& tb = b ∧ (∀ v, v < B → v &&& tb = v → f b ≤ f v ∧ (v < b → f b < f v)) ∧ f b < G ∧ M1.1 69 39 = nI (f b) ∧ M1.1 69 40 = nI b)
theorem tt_ok {M : Mm} {kk n tb G : Nat} {f : Nat → Nat} (hkk : kk = 1 ∨ kk = 2 ∨ kk = 3) (hn : n ≤ 12) (htb : tb < 2 ^ n) (r1 : M.1 69 1 = nI n) (r73 : IA M 73 n (fun b => (tb.testBit b).toNat)) (hG : (M.1 69 39 = m1 ∧ G = 2147483647) ∨ (M.1 69 39 = nI G ∧ G < 2147483647)) (hf : ∀ u, f u < 2147483647)
    (hl : ∀ M1 u, u &&& tb = u → KT M M1 → M1.1 69 7 = nI u → Wp (f_rlay kk M1) (fun M2 => KU M1 M2 ∧ ∃ a b, f_X10_allWide M2 = some (nI a) ∧ f_X10_allHigh M2 = some (nI b) ∧ a * b = f u)) :
    Wp (f_X10_tryTurned (nI kk) M) (fun r => KT M r.2 ∧ ((r.1 = nI 0 ∧ (∀ u, u &&& tb = u → G ≤ f u) ∧ r.2.1 69 39 = M.1 69 39 ∧ r.2.1 69 40 = M.1 69 40) ∨ (r.1 = nI 1 ∧ ∃ u, FM f tb u ∧ f u < G ∧ r.2.1 69 39 = nI (f u) ∧ r.2.1 69 40 = nI u))) := by
  have h4 := p12 htb hn
  unfold f_X10_tryTurned
  rw [bde (tbl_ok hn htb r1 r73), pz_0]
  refine wp_b (P := fun r => KT M r.2 ∧ ((r.1 = nI 0 ∧ (∀ u, u &&& tb = u → G ≤ f u) ∧ r.2.1 69 39 = M.1 69 39 ∧ r.2.1 69 40 = M.1 69 40) ∨ (r.1 = nI 1 ∧ ∃ u, FM f tb u ∧ f u < G ∧ r.2.1 69 39 = nI (f u) ∧ r.2.1 69 40 = nI u))) ?_ ?_
  · refine wp_l (fun i (v : Int32 × Int32 × Mm) => v.2.1 = nI i ∧ KT M v.2.2 ∧ PT2 f tb G M i v.1 v.2.2) (tb + 1) (fu_lt (by omega)) ?_ ?_ ⟨rfl, KT.rf, Or.inl ⟨rfl, fun v hv => by omega, rfl, rfl⟩⟩
    · rintro u ⟨x3, x4, M1⟩ hi ⟨a1, a2, a3⟩
      have a1 : x4 = nI u := a1
      subst a1
      have a2 : KT M M1 := a2
      have a3 : PT2 f tb G M u x3 M1 := a3
      have J : ∀ (x : Int32) (N : Mm), f_X10_tryTurned_J107 (nI u) x N = some (.inl (x, nI (u + 1), N)) := fun x N => by
        unfold f_X10_tryTurned_J107; rw [pz_lt1, pz_1, pz_add]
      show Wp (f_X10_tryTurned_L10 (nI kk) (nI tb) x3 (nI u) M1) _
      unfold f_X10_tryTurned_L10
      rw [if_neg (by rw [pz_lt (by omega) (by omega)]; omega), pz_n1, pz_clr, pz_0]
      have cl : clr u tb < 4096 := clr_lt (n := 12) (by omega)
      by_cases z : clr u tb = 0
      · have hs : u &&& tb = u := clr_0.mp z
        rw [if_pos (by rw [z]), pz_lt1]
        obtain ⟨M2, e2, ⟨k2, k39, k40⟩, a, b, e3, e4, e5⟩ := hl (wi M1 69 7 (nI u)) u hs (a2.tr (KT.w (by omega))) (by rw [wi_at, if_pos rfl])
        have k39 : M2.1 69 39 = M1.1 69 39 := k39
        have k40 : M2.1 69 40 = M1.1 69 40 := k40
        have a4 : KT M M2 := (a2.tr (KT.w (by omega))).tr k2
        have lay : (if nI kk = (1 : Int32) then (f_X10_layPair (wi M1 69 7 (nI u))).bind fun M_32 => f_X10_tryTurned_J62 x3 (nI u) M_32 else if nI kk = (2 : Int32) then (f_X10_layCuts (wi M1 69 7 (nI u))).bind fun M_30 => f_X10_tryTurned_J62 x3 (nI u) M_30 else (f_X10_layTree (wi M1 69 7 (nI u))).bind fun M_28 => f_X10_tryTurned_J62 x3 (nI u) M_28) = f_X10_tryTurned_J62 x3 (nI u) M2 := by
          unfold f_rlay at e2
          rcases hkk with rfl | rfl | rfl
          · rw [if_pos (by decide), show f_X10_layPair (wi M1 69 7 (nI u)) = some M2 from e2, pz_bd]
          · rw [if_neg (by decide), if_pos (by decide), show f_X10_layCuts (wi M1 69 7 (nI u)) = some M2 from e2, pz_bd]
          · rw [if_neg (by decide), if_neg (by decide), show f_X10_layTree (wi M1 69 7 (nI u)) = some M2 from e2, pz_bd]
        rw [lay]
        unfold f_X10_tryTurned_J62
        have fu := hf u
        rw [e3, pz_bd, e4, pz_bd, pz_mul, e5, pz_lt1, J, k39, pz_n1]
        have take : f_X10_tryTurned_J93 (nI u) M2 (nI (f u)) () = some (.inl (nI 1, nI (u + 1), wi (wi M2 69 39 (nI (f u))) 69 40 (nI u))) := by
          unfold f_X10_tryTurned_J93
          rw [pz_lt1, pz_lt1, J, pz_1]
        rw [take]
        have kw : KT M (wi (wi M2 69 39 (nI (f u))) 69 40 (nI u)) := (a4.tr (KT.w (by omega))).tr (KT.w (by omega))
        have better : (∀ v, v < u → v &&& tb = v → f u < f v) → f u < G → PT2 f tb G M (u + 1) (nI 1) (wi (wi M2 69 39 (nI (f u))) 69 40 (nI u)) := by
          intro hall hlt
          refine Or.inr ⟨rfl, u, by omega, hs, fun v hv hs' => ?_, hlt, ?_, ?_⟩
          · by_cases e : v = u
            · subst e; exact ⟨Nat.le_refl _, fun h => by omega⟩
            · have := hall v (by omega) hs'
              exact ⟨by omega, fun _ => this⟩
          · rw [wi_at, if_neg (by omega), wi_at, if_pos rfl]
          · rw [wi_at, if_pos rfl]
        have better' := fun h1 h2 => wp_s (Q := fun (r : (Int32 × Int32 × Mm) ⊕ (Int32 × Mm)) => (∃ w, r = .inl w ∧ w.2.1 = nI (u + 1) ∧ KT M w.2.2 ∧ PT2 f tb G M (u + 1) w.1 w.2.2) ∨ ∃ y, r = .inr y ∧ KT M y.2 ∧ ((y.1 = nI 0 ∧ (∀ u, u &&& tb = u → G ≤ f u) ∧ y.2.1 69 39 = M.1 69 39 ∧ y.2.1 69 40 = M.1 69 40) ∨ (y.1 = nI 1 ∧ ∃ u, FM f tb u ∧ f u < G ∧ y.2.1 69 39 = nI (f u) ∧ y.2.1 69 40 = nI u))) (a := Sum.inl (nI 1, nI (u + 1), wi (wi M2 69 39 (nI (f u))) 69 40 (nI u))) (Or.inl ⟨_, rfl, rfl, kw, better h1 h2⟩)
        rcases a3 with ⟨h1, h2, h3, h3'⟩ | ⟨h1, b, b1, b2, b3, b4, b5, b6⟩
        · rcases hG with ⟨g1, g2⟩ | ⟨g1, g2⟩
          · rw [h3.trans g1, if_pos (show m1 = m1 from rfl)]
            exact better' (fun v hv hs' => by have := h2 v hv hs'; have := hf v; omega) (by omega)
          · rw [h3.trans g1, if_neg (by rw [pz_mm (by omega)]; exact id)]
            by_cases q : f u < G
            · rw [if_pos (by rw [pz_lt (by omega) (by omega)]; exact q)]
              exact better' (fun v hv hs' => by have := h2 v hv hs'; omega) q
            · rw [if_neg (by rw [pz_lt (by omega) (by omega)]; exact q)]
              refine wp_s (Or.inl ⟨_, rfl, rfl, a4, Or.inl ⟨h1, fun v hv hs' => ?_, k39.trans h3, k40.trans h3'⟩⟩)
              by_cases e : v = u
              · rw [e]; omega
              · exact h2 v (by omega) hs'
        · have fb := hf b
          rw [b5, if_neg (by rw [pz_mm (by omega)]; exact id)]
          by_cases q : f u < f b
          · rw [if_pos (by rw [pz_lt (by omega) (by omega)]; exact q)]
            exact better' (fun v hv hs' => by have := (b3 v hv hs').1; omega) (by omega)
          · rw [if_neg (by rw [pz_lt (by omega) (by omega)]; exact q)]
            refine wp_s (Or.inl ⟨_, rfl, rfl, a4, Or.inr ⟨h1, b, by omega, b2, fun v hv hs' => ?_, b4, k39.trans b5, k40.trans b6⟩⟩)
            by_cases e : v = u
            · rw [e]; exact ⟨by omega, fun h => by omega⟩
            · exact b3 v (by omega) hs'
      · rw [if_neg (by rw [pz_eq (by omega) (by omega)]; exact z), J]
        have no : ∀ v, v < u + 1 → v &&& tb = v → v < u := fun v hv hs => by
          have : v ≠ u := fun e => z (clr_0.mpr (by rw [← e]; exact hs))
          omega
        refine wp_s (Or.inl ⟨_, rfl, rfl, a2, ?_⟩)
        rcases a3 with ⟨h1, h2, h3⟩ | ⟨h1, b, b1, b2, b3, b4⟩
        · exact Or.inl ⟨h1, fun v hv hs => h2 v (no v hv hs) hs, h3⟩
        · exact Or.inr ⟨h1, b, by omega, b2, fun v hv hs => b3 v (no v hv hs) hs, b4⟩
    · rintro ⟨x3, x4, M1⟩ ⟨a1, a2, a3⟩
      have a1 : x4 = nI (tb + 1) := a1
      subst a1
      show Wp (f_X10_tryTurned_L10 (nI kk) (nI tb) x3 (nI (tb + 1)) M1) _
      unfold f_X10_tryTurned_L10
      rw [if_pos (by rw [pz_lt (by omega) (by omega)]; omega)]
      have lt : ∀ v, v &&& tb = v → v < tb + 1 := fun v hv => by have := sub_le hv; omega
      refine wp_s ⟨_, rfl, a2, ?_⟩
      rcases a3 with ⟨h1, h2, h3⟩ | ⟨h1, b, b1, b2, b3, b4⟩
      · exact Or.inl ⟨h1, fun v hv => h2 v (lt v hv) hv, h3⟩
      · exact Or.inr ⟨h1, b, ⟨b2, fun v hv => b3 v (lt v hv) hv⟩, b4⟩
  · rintro ⟨r, M1⟩ ⟨a1, a2⟩
    have hr : r = nI 0 ∨ r = nI 1 := by
      rcases a2 with ⟨h, _⟩ | ⟨h, _⟩
      · exact Or.inl h
      · exact Or.inr h
    have hr' : r = 0 ∨ r = 1 := by
      rcases hr with h | h
      · exact Or.inl (h.trans pz_0.symm)
      · exact Or.inr (h.trans pz_1.symm)
    show Wp (f_X10_tryTurned_A10 r M1) _
    unfold f_X10_tryTurned_A10
    rw [pz_gd hr']
    exact wp_s ⟨a1, a2⟩
