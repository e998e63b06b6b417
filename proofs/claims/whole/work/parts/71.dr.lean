/-! the class's outline -/
def ARl (M : Mm) (k1 k2 : Nat) : Nat → List Sh → Prop
  | _, [] => True
  | z, p :: t => M.1 k1 z = nI p.1 ∧ M.1 k2 z = nI p.2 ∧ ARl M k1 k2 (z + 1) t
theorem ARl.fr {M M' : Mm} {k1 k2 : Nat} : ∀ {L : List Sh} {z : Nat}, ARl M k1 k2 z L → (∀ j, z ≤ j → j < z + L.length → M'.1 k1 j = M.1 k1 j ∧ M'.1 k2 j = M.1 k2 j) → ARl M' k1 k2 z L
  | [], _, _, _ => trivial
  | p :: t, z, h, q => by
    rw [List.length_cons] at q
    have q0 := q z (by omega) (by omega)
    exact ⟨q0.1.trans h.1, q0.2.trans h.2.1, ARl.fr h.2.2 (fun j j1 j2 => q j (by omega) (by omega))⟩
theorem ARl.app {M : Mm} {k1 k2 : Nat} : ∀ {L1 L2 : List Sh} {z : Nat}, ARl M k1 k2 z L1 → ARl M k1 k2 (z + L1.length) L2 → ARl M k1 k2 z (L1 ++ L2)
  | [], _, z, _, h => by have h : ARl M k1 k2 (z + 0) _ := h
                         exact h
  | p :: t, L2, z, h1, h2 => by
    refine ⟨h1.1, h1.2.1, ARl.app h1.2.2 ?_⟩
    rw [List.length_cons] at h2
    rw [show z + 1 + t.length = z + (t.length + 1) by omega]; exact h2
theorem ARl.get {M : Mm} {k1 k2 : Nat} : ∀ {L : List Sh} {z j : Nat}, ARl M k1 k2 z L → j < L.length → M.1 k1 (z + j) = nI (L.getD j (0, 0)).1 ∧ M.1 k2 (z + j) = nI (L.getD j (0, 0)).2
  | [], _, _, _, h => by cases h
  | p :: t, z, 0, h, _ => ⟨h.1, h.2.1⟩
  | p :: t, z, j + 1, h, hj => by
    rw [List.length_cons] at hj
    have := ARl.get (j := j) h.2.2 (by omega)
    rw [show z + (j + 1) = z + 1 + j by omega]
    exact this
/-- .. read from the end -/
def ARb (M : Mm) (kw kh lo : Nat) : List Sh → Prop
  | [] => True
  | p :: t => M.1 kh (lo + t.length) = nI p.1 ∧ M.1 kw (lo + t.length) = nI p.2 ∧ ARb M kw kh lo t
theorem ARb_snoc {M : Mm} {kw kh : Nat} : ∀ {L : List Sh} {lo : Nat} {q : Sh}, M.1 kh lo = nI q.1 → M.1 kw lo = nI q.2 → ARb M kw kh (lo + 1) L → ARb M kw kh lo (L ++ [q])
  | [], lo, q, h1, h2, _ => ⟨h1, h2, trivial⟩
  | p :: t, lo, q, h1, h2, h => by
    have e : lo + (t ++ [q]).length = lo + 1 + t.length := by rw [List.length_append]; show lo + (t.length + 1) = _; omega
    refine ⟨?_, ?_, ARb_snoc h1 h2 h.2.2⟩
    · show M.1 kh (lo + (t ++ [q]).length) = _
      rw [e]; exact h.1
    · show M.1 kw (lo + (t ++ [q]).length) = _
      rw [e]; exact h.2.1
theorem ARl.b {M : Mm} {k1 k2 : Nat} : ∀ {L : List Sh} {z : Nat}, ARl M k1 k2 z L → ARb M k1 k2 z (swr L)
  | [], _, _ => trivial
  | p :: t, z, h => by
    have e : swr (p :: t) = swr t ++ [swp p] := by unfold swr; rw [List.map_cons, List.reverse_cons]
    rw [e]
    exact ARb_snoc h.2.1 h.1 (ARl.b h.2.2)
def LBd (L : List Sh) : Prop := ∀ p ∈ L, p.1 ≤ 2400 ∧ p.2 ≤ 2400
theorem LBd.t {p : Sh} {t : List Sh} (h : LBd (p :: t)) : LBd t := fun q hq => h q (List.mem_cons.mpr (Or.inr hq))
theorem LBd.h {p : Sh} {t : List Sh} (h : LBd (p :: t)) : p.1 ≤ 2400 ∧ p.2 ≤ 2400 := h p (List.mem_cons.mpr (Or.inl rfl))
theorem as_ok {M : Mm} {k0 z a b : Nat} (h5 : M.1 k0 5 = nI z) (hz : z < 26) : f_X5_addShape k0 (nI a) (nI b) M = some (wi (wi (wi M (k0 + 1) z (nI a)) (k0 + 2) z (nI b)) k0 5 (nI (z + 1))) := by
  unfold f_X5_addShape
  have e1 : ∀ v, (wi M (k0 + 1) z v).1 k0 5 = nI z := fun v => by rw [wi_n _ _ _ (by omega)]; exact h5
  have e2 : ∀ v u, (wi (wi M (k0 + 1) z v) (k0 + 2) z u).1 k0 5 = nI z := fun v u => by rw [wi_n _ _ _ (by omega)]; exact e1 v
  rw [h5, pz_26, if_neg (by rw [pz_le (by omega) (by omega)]; omega), pz_wr (by omega) (by omega), e1, pz_wr (by omega) (by omega), pz_lt1, e2, pz_1, pz_add]
theorem jbf_ne {k : Nat} {p q : Sh} {t1 t2 : List Sh} : jbf (k + 1) (p :: t1) (q :: t2) = cmb p q :: jbf k (if q.2 ≤ p.2 then t1 else p :: t1) (if p.2 ≤ q.2 then t2 else q :: t2) := rfl
theorem jb_seg {k0 z1 z2 : Nat} (hz : z2 ≤ 26) (hz1 : z1 ≤ 26) : ∀ (fu : Nat) (l1 l2 : List Sh) (i j k : Nat) (M : Mm), l1.length + l2.length ≤ fu → ARl M (k0 + 1) (k0 + 2) i l1 → i + l1.length = z1 → ARl M (k0 + 1) (k0 + 2) j l2 → j + l2.length = z2 → M.1 k0 5 = nI z2 → LBd l1 → LBd l2 → k + (jbf fu l1 l2).length ≤ 26 →
    ∃ m v M', m ≤ fu ∧ stp (fun v : Int32 × Int32 × Int32 × Mm => f_X5_joinBeside_L8 k0 (nI z1) v.1 v.2.1 v.2.2.1 v.2.2.2) m (nI i, nI j, nI k, M) v ∧ f_X5_joinBeside_L8 k0 (nI z1) v.1 v.2.1 v.2.2.1 v.2.2.2 = some (.inr (nI (k + (jbf fu l1 l2).length), M')) ∧ ARl M' (k0 + 3) (k0 + 4) k (jbf fu l1 l2) ∧ (∀ q, q < k → M'.1 (k0 + 3) q = M.1 (k0 + 3) q ∧ M'.1 (k0 + 4) q = M.1 (k0 + 4) q) ∧ Fr (SB (k0 + 3) (k0 + 4)) M M' := by
  intro fu
  induction fu with
  | zero =>
    intro l1 l2 i j k M hf a1 e1 a2 e2 h5 b1 b2 hk
    have : l1 = [] := List.eq_nil_of_length_eq_zero (by omega)
    subst this
    refine ⟨0, _, M, Nat.le_refl _, rfl, ?_, trivial, fun _ _ => ⟨rfl, rfl⟩, Fr.rf⟩
    show f_X5_joinBeside_L8 k0 (nI z1) (nI i) (nI j) (nI k) M = _
    unfold f_X5_joinBeside_L8
    have e1 : i + 0 = z1 := e1
    rw [if_pos ((nI_leI (by omega) (by omega)).mpr (by omega))]
    rfl
  | succ fu ih =>
    intro l1 l2 i j k M hf a1 e1 a2 e2 h5 b1 b2 hk
    match l1, l2, hf, a1, e1, a2, e2, b1, b2, hk with
    | [], l2, hf, a1, e1, a2, e2, b1, b2, hk =>
      refine ⟨0, _, M, Nat.zero_le _, rfl, ?_, trivial, fun _ _ => ⟨rfl, rfl⟩, Fr.rf⟩
      show f_X5_joinBeside_L8 k0 (nI z1) (nI i) (nI j) (nI k) M = _
      unfold f_X5_joinBeside_L8
      have e1 : i + 0 = z1 := e1
      rw [if_pos ((nI_leI (by omega) (by omega)).mpr (by omega))]
      rfl
    | p :: t1, [], hf, a1, e1, a2, e2, b1, b2, hk =>
      refine ⟨0, _, M, Nat.zero_le _, rfl, ?_, trivial, fun _ _ => ⟨rfl, rfl⟩, Fr.rf⟩
      show f_X5_joinBeside_L8 k0 (nI z1) (nI i) (nI j) (nI k) M = _
      unfold f_X5_joinBeside_L8
      rw [List.length_cons] at e1
      have e2 : j + 0 = z2 := e2
      rw [if_neg (by rw [pz_le (by omega) (by omega)]; omega), h5, if_pos ((nI_leI (by omega) (by omega)).mpr (by omega))]
      rfl
    | p :: t1, q :: t2, hf, a1, e1, a2, e2, b1, b2, hk =>
      rw [List.length_cons, List.length_cons] at hf
      rw [List.length_cons] at e1 e2
      rw [jbf_ne, List.length_cons] at hk
      have bp := b1.h
      have bq := b2.h
      generalize hM1 : wi (wi M (k0 + 3) k (nI (p.1 + q.1))) (k0 + 4) k (nI (max p.2 q.2)) = M1
      have q1 : ∀ c, c ≠ k0 + 3 → c ≠ k0 + 4 → M1.1 c = M.1 c := fun c h1 h2 => by subst hM1; rw [wi_n _ _ _ h2, wi_n _ _ _ h1]
      have st : f_X5_joinBeside_L8 k0 (nI z1) (nI i) (nI j) (nI k) M = some (.inl (nI (i + if q.2 ≤ p.2 then 1 else 0), nI (j + if p.2 ≤ q.2 then 1 else 0), nI (k + 1), M1)) := by
        unfold f_X5_joinBeside_L8 f_X5_joinBeside_J100 f_X5_joinBeside_J116
        rw [if_neg (by rw [pz_le (by omega) (by omega)]; omega), h5, if_neg (by rw [pz_le (by omega) (by omega)]; omega), pz_26, if_neg (by rw [pz_le (by omega) (by omega)]; omega), pz_rd (by omega) (by omega), a1.2.1, pz_rd (by omega) (by omega), a2.2.1, pz_rd (by omega) (by omega), a1.1, pz_rd (by omega) (by omega), a2.1, pz_add, pz_wr (by omega) (by omega), pz_max (by omega) (by omega), pz_wr (by omega) (by omega), hM1, pz_0, pz_1, pz_add]
        simp only [pz_lt1]
        by_cases z1' : p.2 < q.2
        · rw [if_pos (by rw [pz_lt (by omega) (by omega)]; exact z1'), if_neg (by rw [pz_lt (by omega) (by omega)]; omega), if_neg (by omega), if_pos (by omega), pz_add, pz_add]
        · rw [if_neg (by rw [pz_lt (by omega) (by omega)]; exact z1')]
          by_cases z2' : q.2 < p.2
          · rw [if_pos (by rw [pz_lt (by omega) (by omega)]; exact z2'), if_pos (by omega), if_neg (by omega), pz_add, pz_add]
          · rw [if_neg (by rw [pz_lt (by omega) (by omega)]; exact z2'), if_pos (by omega), if_pos (by omega), pz_add, pz_add]
      have fr1 : ∀ {L : List Sh} {z : Nat}, ARl M (k0 + 1) (k0 + 2) z L → ARl M1 (k0 + 1) (k0 + 2) z L := fun h => h.fr (fun x _ _ => ⟨by rw [q1 _ (by omega) (by omega)], by rw [q1 _ (by omega) (by omega)]⟩)
      have ar1 : ARl M1 (k0 + 1) (k0 + 2) (i + if q.2 ≤ p.2 then 1 else 0) (if q.2 ≤ p.2 then t1 else p :: t1) := by
        split
        · exact fr1 a1.2.2
        · exact fr1 a1
      have ar2 : ARl M1 (k0 + 1) (k0 + 2) (j + if p.2 ≤ q.2 then 1 else 0) (if p.2 ≤ q.2 then t2 else q :: t2) := by
        split
        · exact fr1 a2.2.2
        · exact fr1 a2
      obtain ⟨m, v, M', m1', s, e, r1, r2, r3⟩ := ih (if q.2 ≤ p.2 then t1 else p :: t1) (if p.2 ≤ q.2 then t2 else q :: t2) _ _ (k + 1) M1 (by
        by_cases y1 : q.2 ≤ p.2
        · rw [if_pos y1]
          split
          · omega
          · rw [List.length_cons]; omega
        · rw [if_neg y1, if_pos (by omega), List.length_cons]; omega) ar1 (by
        split
        · omega
        · rw [List.length_cons]; omega) ar2 (by
        split
        · omega
        · rw [List.length_cons]; omega) (by rw [q1 _ (by omega) (by omega)]; exact h5) (by split <;> first | exact b1.t | exact b1) (by split <;> first | exact b2.t | exact b2) (by omega)
      refine ⟨m + 1, v, M', by omega, ⟨_, st, s⟩, ?_, ⟨?_, ?_, r1⟩, fun x hx => ?_, ?_⟩
      · rw [jbf_ne, List.length_cons, e]
        congr 4; omega
      · rw [(r2 k (by omega)).1]
        subst hM1
        rw [wi_n _ _ _ (by omega), wi_at, if_pos rfl]; rfl
      · rw [(r2 k (by omega)).2]
        subst hM1
        rw [wi_at, if_pos rfl]; rfl
      · rw [(r2 x (by omega)).1, (r2 x (by omega)).2]
        subst hM1
        rw [wi_n _ _ _ (by omega), wi_at, if_neg (by omega), wi_at, if_neg (by omega), wi_n _ _ _ (by omega)]
        exact ⟨rfl, rfl⟩
      · have f1 : Fr (SB (k0 + 3) (k0 + 4)) M M1 := by subst hM1; exact (Fr.rf.w ⟨by omega, by omega⟩).w ⟨by omega, by omega⟩
        exact f1.tr r3
theorem pz_s1 (a : Nat) : nI a - nI 1 = nI a + m1 := by
  rw [Int32.sub_eq_add_neg]
  congr 1
theorem pz_s0 (x : Int32) : x - nI 0 = x := by
  have : nI 0 = 0 := pz_0.symm
  rw [this]; simp
theorem pz_m_lt {a b : Nat} (hb : b < 1000) (h : a ≤ b) : nI a + m1 < nI b := by
  by_cases z : a = 0
  · subst z
    rw [pz_m0, Int32.lt_iff_toInt_lt, nI_toInt (by omega)]
    show (-1 : Int) < b
    omega
  · rw [pz_dec (by omega), pz_lt (by omega) (by omega)]; omega
theorem ARb.fr {M M' : Mm} {kw kh lo : Nat} : ∀ {L : List Sh}, ARb M kw kh lo L → M'.1 kw = M.1 kw → M'.1 kh = M.1 kh → ARb M' kw kh lo L
  | [], _, _, _ => trivial
  | p :: t, h, q1, q2 => ⟨by rw [q2]; exact h.1, by rw [q1]; exact h.2.1, ARb.fr h.2.2 q1 q2⟩
theorem ja_seg {k0 z0 z1 : Nat} (hz0 : z0 ≤ 26) (hz : z1 ≤ 26) : ∀ (fu : Nat) (l1 l2 : List Sh) (k : Nat) (M : Mm), l1.length + l2.length ≤ fu → ARb M (k0 + 1) (k0 + 2) z0 l1 → ARb M (k0 + 1) (k0 + 2) z1 l2 → z0 + l1.length ≤ 26 → z1 + l2.length ≤ 26 → LBd l1 → LBd l2 → k + (jbf fu l1 l2).length ≤ 26 →
    ∃ m v M', m ≤ fu ∧ stp (fun v : Int32 × Int32 × Int32 × Mm => f_X5_joinAbove_L15 k0 (nI z0) (nI z1) v.1 v.2.1 v.2.2.1 v.2.2.2) m (nI (z0 + l1.length) + m1, nI (z1 + l2.length) + m1, nI k, M) v ∧ f_X5_joinAbove_L15 k0 (nI z0) (nI z1) v.1 v.2.1 v.2.2.1 v.2.2.2 = some (.inr (nI (k + (jbf fu l1 l2).length), M')) ∧ ARl M' (k0 + 4) (k0 + 3) k (jbf fu l1 l2) ∧ (∀ q, q < k → M'.1 (k0 + 3) q = M.1 (k0 + 3) q ∧ M'.1 (k0 + 4) q = M.1 (k0 + 4) q) ∧ Fr (SB (k0 + 3) (k0 + 4)) M M' := by
  intro fu
  induction fu with
  | zero =>
    intro l1 l2 k M hf a1 a2 e1 e2 b1 b2 hk
    have : l1 = [] := List.eq_nil_of_length_eq_zero (by omega)
    subst this
    refine ⟨0, _, M, Nat.le_refl _, rfl, ?_, trivial, fun _ _ => ⟨rfl, rfl⟩, Fr.rf⟩
    show f_X5_joinAbove_L15 k0 (nI z0) (nI z1) (nI (z0 + 0) + m1) _ (nI k) M = _
    unfold f_X5_joinAbove_L15
    rw [if_pos (pz_m_lt (by omega) (by omega))]
    rfl
  | succ fu ih =>
    intro l1 l2 k M hf a1 a2 e1 e2 b1 b2 hk
    match l1, l2, hf, a1, a2, e1, e2, b1, b2, hk with
    | [], l2, hf, a1, a2, e1, e2, b1, b2, hk =>
      refine ⟨0, _, M, Nat.zero_le _, rfl, ?_, trivial, fun _ _ => ⟨rfl, rfl⟩, Fr.rf⟩
      show f_X5_joinAbove_L15 k0 (nI z0) (nI z1) (nI (z0 + 0) + m1) _ (nI k) M = _
      unfold f_X5_joinAbove_L15
      rw [if_pos (pz_m_lt (by omega) (by omega))]
      rfl
    | p :: t1, [], hf, a1, a2, e1, e2, b1, b2, hk =>
      refine ⟨0, _, M, Nat.zero_le _, rfl, ?_, trivial, fun _ _ => ⟨rfl, rfl⟩, Fr.rf⟩
      show f_X5_joinAbove_L15 k0 (nI z0) (nI z1) (nI (z0 + (p :: t1).length) + m1) (nI (z1 + 0) + m1) (nI k) M = _
      unfold f_X5_joinAbove_L15
      rw [List.length_cons] at e1 ⊢
      rw [pz_dec (by omega), if_neg (by rw [pz_lt (by omega) (by omega)]; omega), if_pos (pz_m_lt (by omega) (by omega))]
      rfl
    | p :: t1, q :: t2, hf, a1, a2, e1, e2, b1, b2, hk =>
      rw [List.length_cons, List.length_cons] at hf
      rw [List.length_cons] at e1 e2
      rw [jbf_ne, List.length_cons] at hk
      have bp := b1.h
      have bq := b2.h
      generalize hM1 : wi (wi M (k0 + 3) k (nI (max p.2 q.2))) (k0 + 4) k (nI (p.1 + q.1)) = M1
      have q1 : ∀ c, c ≠ k0 + 3 → c ≠ k0 + 4 → M1.1 c = M.1 c := fun c h1 h2 => by subst hM1; rw [wi_n _ _ _ h2, wi_n _ _ _ h1]
      have st : f_X5_joinAbove_L15 k0 (nI z0) (nI z1) (nI (z0 + (p :: t1).length) + m1) (nI (z1 + (q :: t2).length) + m1) (nI k) M = some (.inl (nI (z0 + (if q.2 ≤ p.2 then t1 else p :: t1).length) + m1, nI (z1 + (if p.2 ≤ q.2 then t2 else q :: t2).length) + m1, nI (k + 1), M1)) := by
        unfold f_X5_joinAbove_L15 f_X5_joinAbove_J104 f_X5_joinAbove_J120
        have f1 : z0 + (p :: t1).length - 1 = z0 + t1.length := by rw [List.length_cons]; omega
        have f2 : z1 + (q :: t2).length - 1 = z1 + t2.length := by rw [List.length_cons]; omega
        have g1 : nI (z0 + (p :: t1).length) + m1 = nI (z0 + t1.length) := by rw [pz_dec (by rw [List.length_cons]; omega), f1]
        have g2 : nI (z1 + (q :: t2).length) + m1 = nI (z1 + t2.length) := by rw [pz_dec (by rw [List.length_cons]; omega), f2]
        have r1 : ∀ v, (wi M (k0 + 3) k v).1 (k0 + 2) (z0 + t1.length) = nI p.1 := fun v => by rw [wi_n _ _ _ (by omega)]; exact a1.1
        have r2 : ∀ v, (wi M (k0 + 3) k v).1 (k0 + 2) (z1 + t2.length) = nI q.1 := fun v => by rw [wi_n _ _ _ (by omega)]; exact a2.1
        rw [g1, g2, if_neg (by rw [pz_lt (by omega) (by omega)]; omega), if_neg (by rw [pz_lt (by omega) (by omega)]; omega), pz_26, if_neg (by rw [pz_le (by omega) (by omega)]; omega), pz_rd (by omega) (by omega), a1.2.1, pz_rd (by omega) (by omega), a2.2.1, pz_max (by omega) (by omega), pz_wr (by omega) (by omega), pz_rd (by omega) (by omega), r1, pz_rd (by omega) (by omega), r2, pz_add, pz_wr (by omega) (by omega), hM1, pz_0, pz_1, pz_add]
        simp only [pz_lt1]
        by_cases z1' : p.2 < q.2
        · rw [if_pos (by rw [pz_lt (by omega) (by omega)]; exact z1'), if_neg (by rw [pz_lt (by omega) (by omega)]; omega), if_neg (by omega), if_pos (by omega), pz_s0, pz_s1, g1]
        · rw [if_neg (by rw [pz_lt (by omega) (by omega)]; exact z1')]
          by_cases z2' : q.2 < p.2
          · rw [if_pos (by rw [pz_lt (by omega) (by omega)]; exact z2'), if_pos (by omega), if_neg (by omega), pz_s0, pz_s1, g2]
          · rw [if_neg (by rw [pz_lt (by omega) (by omega)]; exact z2'), if_pos (by omega), if_pos (by omega), pz_s1, pz_s1]
      have fr1 : ∀ {L : List Sh} {z : Nat}, ARb M (k0 + 1) (k0 + 2) z L → ARb M1 (k0 + 1) (k0 + 2) z L := fun h => h.fr (q1 _ (by omega) (by omega)) (q1 _ (by omega) (by omega))
      have ar1 : ARb M1 (k0 + 1) (k0 + 2) z0 (if q.2 ≤ p.2 then t1 else p :: t1) := by
        split
        · exact fr1 a1.2.2
        · exact fr1 a1
      have ar2 : ARb M1 (k0 + 1) (k0 + 2) z1 (if p.2 ≤ q.2 then t2 else q :: t2) := by
        split
        · exact fr1 a2.2.2
        · exact fr1 a2
      obtain ⟨m, v, M', m1', s, e, r1, r2, r3⟩ := ih (if q.2 ≤ p.2 then t1 else p :: t1) (if p.2 ≤ q.2 then t2 else q :: t2) (k + 1) M1 (by
        by_cases y1 : q.2 ≤ p.2
        · rw [if_pos y1]
          split
          · omega
          · rw [List.length_cons]; omega
        · rw [if_neg y1, if_pos (by omega), List.length_cons]; omega) ar1 ar2 (by
        split
        · omega
        · rw [List.length_cons]; omega) (by
        split
        · omega
        · rw [List.length_cons]; omega) (by split <;> first | exact b1.t | exact b1) (by split <;> first | exact b2.t | exact b2) (by omega)
      refine ⟨m + 1, v, M', by omega, ⟨_, st, s⟩, ?_, ⟨?_, ?_, r1⟩, fun x hx => ?_, ?_⟩
      · rw [jbf_ne, List.length_cons, e]
        congr 4; omega
      · rw [(r2 k (by omega)).2]
        subst hM1
        rw [wi_at, if_pos rfl]; rfl
      · rw [(r2 k (by omega)).1]
        subst hM1
        rw [wi_n _ _ _ (by omega), wi_at, if_pos rfl]; rfl
      · rw [(r2 x (by omega)).1, (r2 x (by omega)).2]
        subst hM1
        rw [wi_n _ _ _ (by omega), wi_at, if_neg (by omega), wi_at, if_neg (by omega), wi_n _ _ _ (by omega)]
        exact ⟨rfl, rfl⟩
      · have f1 : Fr (SB (k0 + 3) (k0 + 4)) M M1 := by subst hM1; exact (Fr.rf.w ⟨by omega, by omega⟩).w ⟨by omega, by omega⟩
        exact f1.tr r3
/-- what stands behind a place is written anew -/
def TkP (k0 z : Nat) (L : List Sh) (M M' : Mm) : Prop :=
  (ARl M' (k0 + 1) (k0 + 2) z L) ∧
  (M'.1 k0 5 = nI (z + L.length)) ∧
  (∀ j, j < z → M'.1 (k0 + 1) j = M.1 (k0 + 1) j ∧ M'.1 (k0 + 2) j = M.1 (k0 + 2) j) ∧
  (∀ k, k ≠ k0 → k ≠ k0 + 1 → k ≠ k0 + 2 → M'.1 k = M.1 k) ∧
  (M'.2 = M.2)
theorem TkP.a {k0 z : Nat} {L : List Sh} {M M' : Mm} (hh_ : TkP k0 z L M M') : ARl M' (k0 + 1) (k0 + 2) z L := hh_.1
theorem TkP.s {k0 z : Nat} {L : List Sh} {M M' : Mm} (hh_ : TkP k0 z L M M') : M'.1 k0 5 = nI (z + L.length) := hh_.2.1
theorem TkP.o {k0 z : Nat} {L : List Sh} {M M' : Mm} (hh_ : TkP k0 z L M M') : ∀ j, j < z → M'.1 (k0 + 1) j = M.1 (k0 + 1) j ∧ M'.1 (k0 + 2) j = M.1 (k0 + 2) j := hh_.2.2.1
theorem TkP.k {k0 z : Nat} {L : List Sh} {M M' : Mm} (hh_ : TkP k0 z L M M') : ∀ k, k ≠ k0 → k ≠ k0 + 1 → k ≠ k0 + 2 → M'.1 k = M.1 k := hh_.2.2.2.1
theorem TkP.l {k0 z : Nat} {L : List Sh} {M M' : Mm} (hh_ : TkP k0 z L M M') : M'.2 = M.2 := hh_.2.2.2.2
theorem TkP.add {k0 z : Nat} {L : List Sh} {M M1 : Mm} (h : TkP k0 z L M M1) (a b : Nat) : TkP k0 z (L ++ [(a, b)]) M (wi (wi (wi M1 (k0 + 1) (z + L.length) (nI a)) (k0 + 2) (z + L.length) (nI b)) k0 5 (nI (z + L.length + 1))) := by
  refine ⟨ARl.app (h.a.fr (fun j _ j2 => ⟨?_, ?_⟩)) ⟨?_, ?_, trivial⟩, ?_, fun j hj => ⟨?_, ?_⟩, fun k k1 k2 k3 => ?_, h.l⟩
  · rw [wi_n _ _ _ (by omega), wi_n _ _ _ (by omega), wi_at, if_neg (by omega)]
  · rw [wi_n _ _ _ (by omega), wi_at, if_neg (by omega), wi_n _ _ _ (by omega)]
  · rw [wi_n _ _ _ (by omega), wi_n _ _ _ (by omega), wi_at, if_pos rfl]
  · rw [wi_n _ _ _ (by omega), wi_at, if_pos rfl]
  · rw [wi_at, if_pos rfl, List.length_append]; rfl
  · rw [wi_n _ _ _ (by omega), wi_n _ _ _ (by omega), wi_at, if_neg (by omega)]; exact (h.o j hj).1
  · rw [wi_n _ _ _ (by omega), wi_at, if_neg (by omega), wi_n _ _ _ (by omega)]; exact (h.o j hj).2
  · rw [wi_n _ _ _ k1, wi_n _ _ _ k3, wi_n _ _ _ k2]; exact h.k k k1 k2 k3
theorem tj_ok {M : Mm} {k0 z : Nat} {J : List Sh} (hz : z + J.length ≤ 26) (a : ARl M (k0 + 3) (k0 + 4) 0 J) : Wp (f_X5_takeJoined k0 (nI z) (nI J.length) M) (fun M' => TkP k0 z J M M') := by
  unfold f_X5_takeJoined f_X5_takeJoined_A7
  rw [pz_lt1, pz_0]
  refine wp_b (wp_for (step := fun v => f_X5_takeJoined_L7 k0 (nI J.length) v.1 v.2) (fun i M' => TkP k0 z (J.take i) M M') J.length (by omega) ?_ ?_ ⟨trivial, by rw [wi_at, if_pos rfl]; rfl, fun j _ => ⟨by rw [wi_n _ _ _ (by omega)], by rw [wi_n _ _ _ (by omega)]⟩, fun k k1 _ _ => wi_n _ _ _ k1, rfl⟩) ?_
  · rintro i M1 hi h
    have li : (J.take i).length = i := by rw [List.length_take]; omega
    have g := a.get hi
    rw [Nat.zero_add] at g
    show Wp (f_X5_takeJoined_L7 k0 (nI J.length) (nI i) M1) _
    unfold f_X5_takeJoined_L7
    rw [if_neg (by rw [pz_le (by omega) (by omega)]; omega), pz_rd (by omega) (by omega), h.k _ (by omega) (by omega) (by omega), g.1, pz_rd (by omega) (by omega), h.k _ (by omega) (by omega) (by omega), g.2, as_ok h.s (by omega), pz_bd, pz_lt1, pz_1, pz_add]
    have ht : J.take (i + 1) = J.take i ++ [((J.getD i (0, 0)).1, (J.getD i (0, 0)).2)] := by
      rw [List.take_succ, List.getElem?_eq_getElem hi, List.getD_eq_getElem?_getD, List.getElem?_eq_getElem hi]; rfl
    refine wp_s ⟨_, rfl, ?_⟩
    rw [ht]
    exact h.add _ _
  · rintro M1 h
    show f_X5_takeJoined_L7 k0 (nI J.length) (nI J.length) M1 = _
    unfold f_X5_takeJoined_L7
    rw [if_pos ((nI_leI (by omega) (by omega)).mpr (Nat.le_refl _))]
  · intro M1 h
    rw [List.take_length] at h
    exact wp_s h
theorem tjb_ok {M : Mm} {k0 z : Nat} {J : List Sh} (hz : z + J.length ≤ 26) (h1 : 1 ≤ J.length) (a : ARl M (k0 + 4) (k0 + 3) 0 J) : Wp (f_X5_takeJoinedBackward k0 (nI z) (nI J.length) M) (fun M' => TkP k0 z (swr J) M M') := by
  unfold f_X5_takeJoinedBackward f_X5_takeJoinedBackward_A9
  rw [pz_lt1, pz_1, pz_sub (by omega), pz_lt1]
  refine wp_b (P := fun M' => TkP k0 z (swr J) M M') ?_ (fun M' h => wp_s h)
  refine wp_l (fun i (v : Int32 × Mm) => v.1 = dn J.length i ∧ TkP k0 z (swr (J.drop (J.length - i))) M v.2) J.length (fu_lt (by omega)) ?_ ?_ ⟨by rw [dn_y (by omega)]; rfl, ?_⟩
  · rintro i ⟨v, M1⟩ hi ⟨a1, h⟩
    have a1 : v = dn J.length i := a1
    rw [dn_y hi] at a1
    subst a1
    have h : TkP k0 z (swr (J.drop (J.length - i))) M M1 := h
    have li : (swr (J.drop (J.length - i))).length = i := by rw [swr_len, List.length_drop]; omega
    have g := a.get (show J.length - 1 - i < J.length by omega)
    rw [Nat.zero_add] at g
    show Wp (f_X5_takeJoinedBackward_L9 k0 (nI (J.length - 1 - i)) M1) _
    unfold f_X5_takeJoinedBackward_L9
    rw [pz_0, if_neg (by rw [pz_lt (by omega) (by omega)]; omega), pz_rd (by omega) (by omega), h.k _ (by omega) (by omega) (by omega), g.2, pz_rd (by omega) (by omega), h.k _ (by omega) (by omega) (by omega), g.1, as_ok h.s (by omega), pz_bd, pz_lt1, pz_n1, dn_s hi]
    have hdr : J.drop (J.length - (i + 1)) = J.getD (J.length - 1 - i) (0, 0) :: J.drop (J.length - i) := by
      rw [show J.length - (i + 1) = J.length - 1 - i by omega, List.drop_eq_getElem_cons (show J.length - 1 - i < J.length by omega), List.getD_eq_getElem?_getD, List.getElem?_eq_getElem (show J.length - 1 - i < J.length by omega), show J.length - 1 - i + 1 = J.length - i by omega]
      rfl
    have hsw : swr (J.drop (J.length - (i + 1))) = swr (J.drop (J.length - i)) ++ [((J.getD (J.length - 1 - i) (0, 0)).2, (J.getD (J.length - 1 - i) (0, 0)).1)] := by
      rw [hdr]
      unfold swr
      rw [List.map_cons, List.reverse_cons]; rfl
    refine wp_s (Or.inl ⟨_, rfl, rfl, ?_⟩)
    rw [hsw]
    exact h.add _ _
  · rintro ⟨v, M1⟩ ⟨a1, h⟩
    have a1 : v = dn J.length J.length := a1
    rw [dn_n] at a1
    subst a1
    show Wp (f_X5_takeJoinedBackward_L9 k0 m1 M1) _
    unfold f_X5_takeJoinedBackward_L9
    rw [pz_0, if_pos (by decide)]
    rw [Nat.sub_self, List.drop_zero] at h
    exact wp_s ⟨_, rfl, h⟩
  · rw [Nat.sub_zero, List.drop_length]
    exact ⟨trivial, by rw [wi_at, if_pos rfl]; rfl, fun j _ => ⟨by rw [wi_n _ _ _ (by omega)], by rw [wi_n _ _ _ (by omega)]⟩, fun k k1 _ _ => wi_n _ _ _ k1, rfl⟩
