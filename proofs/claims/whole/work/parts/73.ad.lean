/-! the reference's curve -/
theorem srt_len {B : Nat} : ∀ {L : List Sh} {lo : Nat}, Srt L → (∀ p ∈ L, lo ≤ p.1 ∧ p.1 ≤ B) → L.length ≤ B + 1 - lo
  | [], _, _, _ => Nat.zero_le _
  | p :: t, lo, h, q => by
    obtain ⟨h1, h2⟩ := List.pairwise_cons.mp h
    have qp := q p (List.mem_cons.mpr (Or.inl rfl))
    have := srt_len (L := t) (lo := p.1 + 1) h2 (fun r hr => ⟨(h1 r hr).1, (q r (List.mem_cons.mpr (Or.inr hr))).2⟩)
    rw [List.length_cons]; omega
def kpS (p q : Sh) : Bool := decide (q.1 < p.1) || decide (q.2 < p.2)
theorem kpS_n {p q : Sh} : kpS p q = false ↔ dom p q := by
  unfold kpS dom
  rw [Bool.or_eq_false_iff, decide_eq_false_iff_not, decide_eq_false_iff_not]
  omega
def SAd (k : Nat) : Prop := k = 69 ∨ k = 84 ∨ k = 85
/-- the shapes that the reference holds -/
def RSh (L : List Sh) (M : Mm) : Prop :=
  (M.1 69 21 = nI L.length) ∧
  (ARl M 84 85 0 L)
theorem RSh.n {L : List Sh} {M : Mm} (hh_ : RSh L M) : M.1 69 21 = nI L.length := hh_.1
theorem RSh.a {L : List Sh} {M : Mm} (hh_ : RSh L M) : ARl M 84 85 0 L := hh_.2
def KpA (M M' : Mm) : Prop := (∀ k, k ≠ 69 → k ≠ 84 → k ≠ 85 → M'.1 k = M.1 k) ∧ (∀ j, j ≠ 21 → M'.1 69 j = M.1 69 j) ∧ M'.2 = M.2
theorem KpA.rf {M : Mm} : KpA M M := ⟨fun _ _ _ _ => rfl, fun _ _ => rfl, rfl⟩
theorem KpA.tr {M M' M'' : Mm} (h : KpA M M') (h2 : KpA M' M'') : KpA M M'' := ⟨fun k a b c => (h2.1 k a b c).trans (h.1 k a b c), fun j hj => (h2.2.1 j hj).trans (h.2.1 j hj), h2.2.2.trans h.2.2⟩
theorem KpA.w {M : Mm} {k i : Nat} {v : Int32} (hk : k = 84 ∨ k = 85) : KpA M (wi M k i v) := ⟨fun j a b c => wi_n _ _ _ (by omega), fun j _ => by rw [wi_n _ _ _ (by omega)], rfl⟩
theorem ARl.w84 {M : Mm} {L : List Sh} {z i : Nat} {u v : Int32} (h : ARl M 84 85 z L) (hi : i < z ∨ z + L.length ≤ i) : ARl (wi (wi M 84 i u) 85 i v) 84 85 z L := h.fr (fun j j1 j2 => ⟨by rw [wi_n _ _ _ (by omega), wi_at, if_neg (by omega)], by rw [wi_at, if_neg (by omega), wi_n _ _ _ (by omega)]⟩)
theorem ARl.split {M : Mm} {k1 k2 : Nat} : ∀ {L1 L2 : List Sh} {z : Nat}, ARl M k1 k2 z (L1 ++ L2) → ARl M k1 k2 z L1 ∧ ARl M k1 k2 (z + L1.length) L2
  | [], _, z, h => ⟨trivial, h⟩
  | p :: t, L2, z, h => by
    have := ARl.split (L1 := t) h.2.2
    refine ⟨⟨h.1, h.2.1, this.1⟩, ?_⟩
    rw [List.length_cons, show z + (t.length + 1) = z + 1 + t.length by omega]
    exact this.2
theorem filter_len {p : Sh} (L : List Sh) : (L.filter (kpS p)).length ≤ L.length := List.length_filter_le _ _
theorem cmp_ok {M : Mm} {L : List Sh} {p : Sh} (hb : LBd L) (hl : L.length ≤ 2401) (hp : p.1 ≤ 2400 ∧ p.2 ≤ 2400) (h : RSh L M) : Wp (loop (fun v => f_X10_add_L42 (nI p.1) (nI p.2) v.1 v.2.1 v.2.2) FU (nI 0, nI 0, M)) (fun r => r.1 = nI (L.filter (kpS p)).length ∧ ARl r.2 84 85 0 (L.filter (kpS p)) ∧ KpA M r.2 ∧ r.2.1 69 = M.1 69) := by
  refine wp_l (fun k (v : Int32 × Int32 × Mm) => v.1 = nI ((L.take k).filter (kpS p)).length ∧ v.2.1 = nI k ∧ ARl v.2.2 84 85 0 ((L.take k).filter (kpS p)) ∧ ARl v.2.2 84 85 k (L.drop k) ∧ KpA M v.2.2 ∧ v.2.2.1 69 = M.1 69) L.length (fu_lt (by omega)) ?_ ?_ ⟨rfl, rfl, trivial, h.a, KpA.rf, rfl⟩
  · rintro k ⟨x3, x4, M1⟩ hk ⟨a1, a2, a3, a4, a5, a6⟩
    have a1 : x3 = nI ((L.take k).filter (kpS p)).length := a1
    have a2 : x4 = nI k := a2
    subst a1 a2
    have a3 : ARl M1 84 85 0 ((L.take k).filter (kpS p)) := a3
    have a4 : ARl M1 84 85 k (L.drop k) := a4
    have a5 : KpA M M1 := a5
    have a6 : M1.1 69 = M.1 69 := a6
    have fl := filter_len (p := p) (L.take k)
    rw [List.length_take] at fl
    have hd : L.drop k = L[k] :: L.drop (k + 1) := List.drop_eq_getElem_cons hk
    have ht : L.take (k + 1) = L.take k ++ [L[k]] := by rw [List.take_succ, List.getElem?_eq_getElem hk]; rfl
    rw [hd] at a4
    have bq := hb L[k] (List.getElem_mem hk)
    generalize L[k] = q at a4 ht bq
    have c21 : M1.1 69 21 = nI L.length := by rw [a6]; exact h.n
    show Wp (f_X10_add_L42 (nI p.1) (nI p.2) (nI ((L.take k).filter (kpS p)).length) (nI k) M1) _
    have e1 : ∀ v, (wi M1 84 ((L.take k).filter (kpS p)).length v).1 85 k = nI q.2 := fun v => by rw [wi_n _ _ _ (by omega)]; exact a4.2.1
    have J5 : ∀ (x : Int32) (N : Mm), f_X10_add_J105 (nI k) x N = some (.inl (x, nI (k + 1), N)) := fun x N => by
      unfold f_X10_add_J105; rw [pz_lt1, pz_1, pz_add]
    have J6 : f_X10_add_J76 (nI ((L.take k).filter (kpS p)).length) (nI k) M1 () = some (.inl (nI (((L.take k).filter (kpS p)).length + 1), nI (k + 1), wi (wi M1 84 ((L.take k).filter (kpS p)).length (nI q.1)) 85 ((L.take k).filter (kpS p)).length (nI q.2))) := by
      unfold f_X10_add_J76
      rw [pz_rd (by omega) (by omega), a4.1, pz_wr (by omega) (by omega), pz_rd (by omega) (by omega), e1, pz_wr (by omega) (by omega), pz_lt1, J5, pz_1, pz_add]
    unfold f_X10_add_L42
    rw [c21, if_neg (by rw [pz_le (by omega) (by omega)]; omega), pz_rd (by omega) (by omega), a4.1, J6, J5]
    have keep : kpS p q = true → Wp (some (Sum.inl (nI (((L.take k).filter (kpS p)).length + 1), nI (k + 1), wi (wi M1 84 ((L.take k).filter (kpS p)).length (nI q.1)) 85 ((L.take k).filter (kpS p)).length (nI q.2))) : Option ((Int32 × Int32 × Mm) ⊕ (Int32 × Mm))) (fun r => (∃ w, r = .inl w ∧ w.1 = nI ((L.take (k + 1)).filter (kpS p)).length ∧ w.2.1 = nI (k + 1) ∧ ARl w.2.2 84 85 0 ((L.take (k + 1)).filter (kpS p)) ∧ ARl w.2.2 84 85 (k + 1) (L.drop (k + 1)) ∧ KpA M w.2.2 ∧ w.2.2.1 69 = M.1 69) ∨ ∃ x, r = .inr x ∧ x.1 = nI (L.filter (kpS p)).length ∧ ARl x.2 84 85 0 (L.filter (kpS p)) ∧ KpA M x.2 ∧ x.2.1 69 = M.1 69) := by
      intro z
      have ef : (L.take (k + 1)).filter (kpS p) = (L.take k).filter (kpS p) ++ [q] := by
        rw [ht, List.filter_append, List.filter_cons_of_pos z, List.filter_nil]
      refine wp_s (Or.inl ⟨_, rfl, ?_, rfl, ?_, ?_, a5.tr ((KpA.w (Or.inl rfl)).tr (KpA.w (Or.inr rfl))), a6⟩)
      · rw [ef, List.length_append]; rfl
      · rw [ef]
        refine ARl.app (a3.w84 (by omega)) ?_
        rw [Nat.zero_add]
        exact ⟨by rw [wi_n _ _ _ (by omega), wi_at, if_pos rfl], by rw [wi_at, if_pos rfl], trivial⟩
      · exact a4.2.2.w84 (by omega)
    have drop : kpS p q = false → Wp (some (Sum.inl (nI ((L.take k).filter (kpS p)).length, nI (k + 1), M1)) : Option ((Int32 × Int32 × Mm) ⊕ (Int32 × Mm))) (fun r => (∃ w, r = .inl w ∧ w.1 = nI ((L.take (k + 1)).filter (kpS p)).length ∧ w.2.1 = nI (k + 1) ∧ ARl w.2.2 84 85 0 ((L.take (k + 1)).filter (kpS p)) ∧ ARl w.2.2 84 85 (k + 1) (L.drop (k + 1)) ∧ KpA M w.2.2 ∧ w.2.2.1 69 = M.1 69) ∨ ∃ x, r = .inr x ∧ x.1 = nI (L.filter (kpS p)).length ∧ ARl x.2 84 85 0 (L.filter (kpS p)) ∧ KpA M x.2 ∧ x.2.1 69 = M.1 69) := by
      intro z
      have ef : (L.take (k + 1)).filter (kpS p) = (L.take k).filter (kpS p) := by
        rw [ht, List.filter_append, List.filter_cons_of_neg (by rw [z]; decide), List.filter_nil, List.append_nil]
      rw [ef]
      exact wp_s (Or.inl ⟨_, rfl, rfl, rfl, a3, a4.2.2, a5, a6⟩)
    by_cases z1 : q.1 < p.1
    · rw [if_pos (by rw [pz_lt (by omega) (by omega)]; exact z1)]
      exact keep (by unfold kpS; rw [decide_eq_true z1]; rfl)
    · rw [if_neg (by rw [pz_lt (by omega) (by omega)]; exact z1), pz_rd (by omega) (by omega), a4.2.1]
      by_cases z2 : q.2 < p.2
      · rw [if_pos (by rw [pz_lt (by omega) (by omega)]; exact z2)]
        exact keep (by unfold kpS; rw [decide_eq_true z2, Bool.or_true])
      · rw [if_neg (by rw [pz_lt (by omega) (by omega)]; exact z2)]
        exact drop (by unfold kpS; rw [decide_eq_false z1, decide_eq_false z2]; rfl)
  · rintro ⟨x3, x4, M1⟩ ⟨a1, a2, a3, a4, a5, a6⟩
    have a2 : x4 = nI L.length := a2
    subst a2
    have a6 : M1.1 69 = M.1 69 := a6
    have c21 : M1.1 69 21 = nI L.length := by rw [a6]; exact h.n
    show Wp (f_X10_add_L42 (nI p.1) (nI p.2) x3 (nI L.length) M1) _
    unfold f_X10_add_L42
    rw [c21, if_pos ((nI_leI (by omega) (by omega)).mpr (Nat.le_refl _))]
    rw [List.take_length] at a1 a3
    exact wp_s ⟨_, rfl, a1, a3, a5, a6⟩
theorem ins_ok {M : Mm} {F : List Sh} {p : Sh} (hb : LBd F) (hl : F.length ≤ 2401) (hp : p.1 ≤ 2400 ∧ p.2 ≤ 2400) (a : ARl M 84 85 0 F) : Wp (loop (fun v => f_X10_add_L116 (nI p.1) v.1 v.2) FU (nI F.length, M)) (fun r => ∃ t, t ≤ F.length ∧ r.1 = nI t ∧ ARl r.2 84 85 0 (F.take t) ∧ ARl r.2 84 85 (t + 1) (F.drop t) ∧ (∀ q ∈ F.drop t, p.1 < q.1) ∧ (t = 0 ∨ ∃ q, F[t - 1]? = some q ∧ q.1 ≤ p.1) ∧ KpA M r.2 ∧ r.2.1 69 = M.1 69) := by
  refine wp_l (fun i (v : Int32 × Mm) => v.1 = nI (F.length - i) ∧ ARl v.2 84 85 0 (F.take (F.length - i)) ∧ ARl v.2 84 85 (F.length - i + 1) (F.drop (F.length - i)) ∧ (∀ q ∈ F.drop (F.length - i), p.1 < q.1) ∧ KpA M v.2 ∧ v.2.1 69 = M.1 69) F.length (fu_lt (by omega)) ?_ ?_ ⟨rfl, ?_, ?_, ?_, KpA.rf, rfl⟩
  · rintro i ⟨v, M1⟩ hi ⟨a1, a2, a3, a4, a5, a6⟩
    have a1 : v = nI (F.length - i) := a1
    subst a1
    generalize ht : F.length - i = t at *
    have a2 : ARl M1 84 85 0 (F.take t) := a2
    have a3 : ARl M1 84 85 (t + 1) (F.drop t) := a3
    have htl : t - 1 < F.length := by omega
    have e1 : F.take t = F.take (t - 1) ++ [F[t - 1]] := by
      have := List.take_succ (l := F) (i := t - 1)
      rw [show t - 1 + 1 = t by omega, List.getElem?_eq_getElem htl] at this
      exact this
    have e2 : F.drop (t - 1) = F[t - 1] :: F.drop t := by
      have := List.drop_eq_getElem_cons htl
      rw [show t - 1 + 1 = t by omega] at this
      exact this
    have bq := hb F[t - 1] (List.getElem_mem htl)
    have hget := List.getElem?_eq_getElem htl
    rw [e1] at a2
    obtain ⟨a21, a22⟩ := a2.split
    have ltk : (F.take (t - 1)).length = t - 1 := by rw [List.length_take]; omega
    rw [ltk, Nat.zero_add] at a22
    generalize hq : F[t - 1] = q at *
    show Wp (f_X10_add_L116 (nI p.1) (nI t) M1) _
    unfold f_X10_add_L116
    rw [pz_0, if_neg (by rw [pz_le (by omega) (by omega)]; omega), pz_1, pz_sub (by omega), pz_rd (by omega) (by omega), a22.1]
    by_cases z : q.1 ≤ p.1
    · rw [if_pos (by rw [pz_le (by omega) (by omega)]; exact z)]
      refine wp_s (Or.inr ⟨_, rfl, t, by omega, rfl, ?_, a3, a4, Or.inr ⟨q, hget, z⟩, a5, a6⟩)
      rw [e1]; exact a2
    · have e85 : ∀ u, (wi M1 84 t u).1 85 (t - 1) = nI q.2 := fun u => by rw [wi_n _ _ _ (by omega)]; exact a22.2.1
      rw [if_neg (by rw [pz_le (by omega) (by omega)]; exact z), pz_rd (by omega) (by omega), a22.1, pz_wr (by omega) (by omega), pz_rd (by omega) (by omega), e85, pz_wr (by omega) (by omega), pz_lt1]
      have en : (nI t + -nI 1 : Int32) = nI (t - 1) := by
        have : (-nI 1 : Int32) = m1 := by decide
        rw [this, pz_dec (by omega)]
      have fi : F.length - (i + 1) = t - 1 := by omega
      refine wp_s (Or.inl ⟨_, rfl, ?_, ?_, ?_, ?_, KpA.tr a5 ((KpA.w (Or.inl rfl)).tr (KpA.w (Or.inr rfl))), a6⟩)
      · rw [fi]; exact en
      · rw [fi]; exact a21.w84 (by omega)
      · rw [fi, e2]
        refine ⟨?_, ?_, ?_⟩
        · show (wi (wi M1 84 t (nI q.1)) 85 t (nI q.2)).1 84 (t - 1 + 1) = _
          rw [wi_n _ _ _ (by omega), wi_at, if_pos (by omega)]
        · show (wi (wi M1 84 t (nI q.1)) 85 t (nI q.2)).1 85 (t - 1 + 1) = _
          rw [wi_at, if_pos (by omega)]
        · rw [show t - 1 + 1 + 1 = t + 1 by omega]
          exact ARl.w84 a3 (by omega)
      · rw [fi, e2]
        intro r hr
        rcases List.mem_cons.mp hr with y | y
        · rw [y]; omega
        · exact a4 r y
  · rintro ⟨v, M1⟩ ⟨a1, a2, a3, a4, a5, a6⟩
    have a1 : v = nI (F.length - F.length) := a1
    subst a1
    rw [Nat.sub_self] at *
    show Wp (f_X10_add_L116 (nI p.1) (nI 0) M1) _
    unfold f_X10_add_L116
    rw [pz_0, if_pos ((nI_leI (by omega) (by omega)).mpr (Nat.le_refl _))]
    exact wp_s ⟨_, rfl, 0, Nat.zero_le _, rfl, a2, a3, a4, Or.inl rfl, a5, a6⟩
  · rw [Nat.sub_zero, List.take_length]; exact a
  · rw [Nat.sub_zero, List.drop_length]; trivial
  · rw [Nat.sub_zero, List.drop_length]; intro q hq; cases hq
theorem add_ok {M : Mm} {S : Sh → Prop} {L : List Sh} {p : Sh} (hF : Frn S L) (hb : LBd L) (hp : p.1 ≤ 2400 ∧ p.2 ≤ 2400) (h : RSh L M) : Wp (f_X10_add (nI p.1) (nI p.2) M) (fun M' => ∃ L', Frn (fun q => S q ∨ q = p) L' ∧ LBd L' ∧ RSh L' M' ∧ KpA M M') := by
  have hl : L.length ≤ 2401 := srt_len (B := 2400) (lo := 0) hF.1 (fun q hq => ⟨Nat.zero_le _, (hb q hq).1⟩)
  unfold f_X10_add
  rw [pz_0]
  refine wp_b (P := fun r => (r = .inl () ∧ ∀ q ∈ L, ¬ dom q p) ∨ (r = .inr M ∧ ∃ q, q ∈ L ∧ dom q p)) ?_ ?_
  · refine wp_l (fun i (v : Int32) => v = nI i ∧ ∀ q ∈ L.take i, ¬ dom q p) L.length (fu_lt (by omega)) ?_ ?_ ⟨rfl, fun q hq => by cases hq⟩
    · rintro i v hi ⟨rfl, a1⟩
      have g := h.a.get hi
      rw [Nat.zero_add] at g
      have hq : L.getD i (0, 0) = L[i] := by rw [List.getD_eq_getElem?_getD, List.getElem?_eq_getElem hi]; rfl
      rw [hq] at g
      have ht : L.take (i + 1) = L.take i ++ [L[i]] := by rw [List.take_succ, List.getElem?_eq_getElem hi]; rfl
      have bq := hb L[i] (List.getElem_mem hi)
      have hm := List.getElem_mem hi
      generalize L[i] = q at g ht bq hm
      have go : ¬ dom q p → Wp (some (Sum.inl (nI (i + 1))) : Option (Int32 ⊕ (Unit ⊕ Mm))) (fun r => (∃ w, r = .inl w ∧ w = nI (i + 1) ∧ ∀ q ∈ L.take (i + 1), ¬ dom q p) ∨ ∃ x, r = .inr x ∧ ((x = .inl () ∧ ∀ q ∈ L, ¬ dom q p) ∨ (x = .inr M ∧ ∃ q, q ∈ L ∧ dom q p))) := by
        intro z
        refine wp_s (Or.inl ⟨_, rfl, rfl, fun r hr => ?_⟩)
        rw [ht] at hr
        rcases List.mem_append.mp hr with y | y
        · exact a1 r y
        · rw [List.mem_singleton.mp y]; exact z
      show Wp (f_X10_add_L2 (nI p.1) (nI p.2) M (nI i)) _
      unfold f_X10_add_L2 f_X10_add_J31
      rw [h.n, if_neg (by rw [pz_le (by omega) (by omega)]; omega), pz_rd (by omega) (by omega), g.1, pz_rd (by omega) (by omega), g.2]
      simp only [pz_lt1]
      rw [pz_1, pz_add]
      unfold dom at go
      by_cases z1 : p.1 < q.1
      · rw [if_pos (by rw [pz_lt (by omega) (by omega)]; exact z1)]
        exact go (fun y => by omega)
      · rw [if_neg (by rw [pz_lt (by omega) (by omega)]; exact z1)]
        by_cases z2 : p.2 < q.2
        · rw [if_pos (by rw [pz_lt (by omega) (by omega)]; exact z2)]
          exact go (fun y => by omega)
        · rw [if_neg (by rw [pz_lt (by omega) (by omega)]; exact z2)]
          exact wp_s (Or.inr ⟨_, rfl, Or.inr ⟨rfl, q, hm, by unfold dom; omega⟩⟩)
    · rintro v ⟨rfl, a1⟩
      show Wp (f_X10_add_L2 (nI p.1) (nI p.2) M (nI L.length)) _
      unfold f_X10_add_L2
      rw [h.n, if_pos ((nI_leI (by omega) (by omega)).mpr (Nat.le_refl _))]
      rw [List.take_length] at a1
      exact wp_s ⟨_, rfl, Or.inl ⟨rfl, a1⟩⟩
  · rintro r (⟨rfl, hno⟩ | ⟨rfl, q, hq, hd⟩)
    · show Wp (f_X10_add_A2 (nI p.1) (nI p.2) M) _
      unfold f_X10_add_A2
      rw [pz_0]
      refine wp_b (cmp_ok hb hl hp h) ?_
      rintro ⟨x3, M1⟩ ⟨a1, a2, a3, a4⟩
      have a1 : x3 = _ := a1
      have a2 : ARl M1 84 85 0 (L.filter (kpS p)) := a2
      have a4 : M1.1 69 = M.1 69 := a4
      show Wp (f_X10_add_A42 (nI p.1) (nI p.2) x3 M1) _
      unfold f_X10_add_A42
      rw [a1, pz_lt1]
      have fmem : ∀ q, q ∈ L.filter (kpS p) ↔ q ∈ L ∧ ¬ dom p q := fun q => by
        rw [List.mem_filter]
        constructor
        · rintro ⟨y1, y2⟩; exact ⟨y1, fun y => by rw [kpS_n.mpr y] at y2; cases y2⟩
        · rintro ⟨y1, y2⟩
          refine ⟨y1, ?_⟩
          cases e : kpS p q
          · exact absurd (kpS_n.mp e) y2
          · rfl
      have fs : Srt (L.filter (kpS p)) := hF.1.filter _
      have fb : LBd (L.filter (kpS p)) := fun q hq => hb q ((fmem q).mp hq).1
      have fl := filter_len (p := p) L
      generalize L.filter (kpS p) = G at *
      refine wp_b (ins_ok (M := wi M1 69 21 (nI G.length)) (p := p) fb (by omega) hp (ARl.fr a2 (fun j _ _ => ⟨rfl, rfl⟩))) ?_
      rintro ⟨y3, M2⟩ ⟨t, t1, t2, t3, t4, t5, t6, t7, t8⟩
      have t2 : y3 = nI t := t2
      subst t2
      have t3 : ARl M2 84 85 0 (G.take t) := t3
      have t4 : ARl M2 84 85 (t + 1) (G.drop t) := t4
      have t7 : KpA (wi M1 69 21 (nI G.length)) M2 := t7
      have t8 : M2.1 69 = (wi M1 69 21 (nI G.length)).1 69 := t8
      show Wp (f_X10_add_A116 (nI p.1) (nI p.2) (nI t) M2) _
      unfold f_X10_add_A116
      have e21 : ∀ u v, (wi (wi M2 84 t u) 85 t v).1 69 21 = nI G.length := fun u v => by
        show M2.1 69 21 = _
        rw [t8]; rfl
      rw [pz_wr (by omega) (by omega), pz_wr (by omega) (by omega), pz_lt1, e21, pz_1, pz_add]
      have ltk : (G.take t).length = t := by rw [List.length_take]; omega
      have lower : ∀ q ∈ G.take t, q.1 < p.1 ∧ p.2 < q.2 := fun q hq => by
        have hqG : q ∈ G := List.mem_of_mem_take hq
        have hle : q.1 ≤ p.1 := by
          rcases t6 with y | ⟨r, y1, y2⟩
          · subst y; cases hq
          · obtain ⟨j, hj, e⟩ := List.mem_iff_getElem.mp hq
            rw [List.getElem_take] at e
            have hjt : j < t := by rw [ltk] at hj; exact hj
            have hr : G[t - 1]'(by omega) = r := by
              rw [List.getElem?_eq_getElem (by omega)] at y1
              exact Option.some.inj y1
            by_cases ej : j = t - 1
            · subst ej
              rw [← e, hr]; exact y2
            · have := List.pairwise_iff_getElem.mp fs j (t - 1) (by omega) (by omega) (by omega)
              rw [e, hr] at this
              omega
        obtain ⟨m1', m2'⟩ := (fmem q).mp hqG
        have := hno q m1'
        unfold dom at this m2'
        omega
      have upper : ∀ q ∈ G.drop t, p.1 < q.1 ∧ q.2 < p.2 := fun q hq => by
        have h1 := t5 q hq
        obtain ⟨_, m2'⟩ := (fmem q).mp (List.mem_of_mem_drop hq)
        unfold dom at m2'
        omega
      have hmem : ∀ q, q ∈ G.take t ++ (p :: G.drop t) ↔ q ∈ G ∨ q = p := fun q => by
        rw [List.mem_append, List.mem_cons]
        conv => rhs; rw [← List.take_append_drop t G, List.mem_append]
        constructor
        · rintro (y | y | y)
          · exact Or.inl (Or.inl y)
          · exact Or.inr y
          · exact Or.inl (Or.inr y)
        · rintro ((y | y) | y)
          · exact Or.inl y
          · exact Or.inr (Or.inr y)
          · exact Or.inr (Or.inl y)
      refine wp_s ⟨G.take t ++ (p :: G.drop t), ⟨?_, fun q hq => ?_, fun q hq => ?_⟩, fun q hq => ?_, ⟨?_, ?_⟩, ?_⟩
      · refine List.pairwise_append.mpr ⟨fs.sublist (List.take_sublist _ _), List.pairwise_cons.mpr ⟨fun r hr => upper r hr, fs.sublist (List.drop_sublist _ _)⟩, fun x hx y hy => ?_⟩
        rcases List.mem_cons.mp hy with e | e
        · rw [e]; exact lower x hx
        · have u := upper y e
          have l := lower x hx
          omega
      · rcases (hmem q).mp hq with y | y
        · exact Or.inl (hF.2.1 q ((fmem q).mp y).1)
        · exact Or.inr y
      · rcases hq with y | y
        · obtain ⟨r, r1, r2⟩ := hF.2.2 q y
          by_cases hd : dom p r
          · exact ⟨p, (hmem p).mpr (Or.inr rfl), ⟨Nat.le_trans hd.1 r2.1, Nat.le_trans hd.2 r2.2⟩⟩
          · exact ⟨r, (hmem r).mpr (Or.inl ((fmem r).mpr ⟨r1, hd⟩)), r2⟩
        · exact ⟨p, (hmem p).mpr (Or.inr rfl), by rw [y]; exact ⟨Nat.le_refl _, Nat.le_refl _⟩⟩
      · rcases (hmem q).mp hq with y | y
        · exact fb q y
        · rw [y]; exact hp
      · show nI (G.length + 1) = _
        congr 1
        rw [List.length_append, List.length_cons, ltk, List.length_drop]; omega
      · refine ARl.app (ARl.fr (t3.w84 (i := t) (by rw [ltk]; omega)) (fun j _ _ => ⟨rfl, rfl⟩)) ?_
        rw [ltk, Nat.zero_add]
        refine ⟨?_, ?_, ARl.fr (t4.w84 (i := t) (by omega)) (fun j _ _ => ⟨rfl, rfl⟩)⟩
        · show (wi (wi M2 84 t (nI p.1)) 85 t (nI p.2)).1 84 t = _
          rw [wi_n _ _ _ (by omega), wi_at, if_pos rfl]
        · show (wi (wi M2 84 t (nI p.1)) 85 t (nI p.2)).1 85 t = _
          rw [wi_at, if_pos rfl]
      · refine a3.tr (KpA.tr ?_ (t7.tr ((KpA.w (M := M2) (k := 84) (i := t) (v := nI p.1) (Or.inl rfl)).tr ((KpA.w (k := 85) (i := t) (v := nI p.2) (Or.inr rfl)).tr ?_))))
        · exact ⟨fun k k1 _ _ => wi_n _ _ _ k1, fun j hj => by rw [wi_at, if_neg hj], rfl⟩
        · exact ⟨fun k k1 _ _ => wi_n _ _ _ k1, fun j hj => by rw [wi_at, if_neg hj], rfl⟩
    · refine wp_s ⟨L, ⟨hF.1, fun r hr => Or.inl (hF.2.1 r hr), fun r hr => ?_⟩, hb, h, KpA.rf⟩
      rcases hr with y | y
      · exact hF.2.2 r y
      · exact ⟨q, hq, by rw [y]; exact hd⟩
