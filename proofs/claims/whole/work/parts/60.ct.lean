/-! cuts -/
theorem lc_ok {M : Mm} {n td : Nat} {w h tk : Nat → Nat} {e : Ex} (hn : n ≤ 12) (h1n : 1 ≤ n) (htd : td < 4096) (hw : ∀ b, b < n → 1 ≤ w b ∧ w b ≤ 200) (hh : ∀ b, b < n → 1 ≤ h b ∧ h b ≤ 200) (hR : RowE n tk e) (r1 : M.1 69 1 = nI n) (r7 : M.1 69 7 = nI td) (r70 : IA M 70 n w) (r71 : IA M 71 n h) (ht : IA M 78 (2 * n - 1) tk) :
    Wp (f_X10_layCuts M) (fun M' => IA M' 74 n (fun c => exx (swd w h td) (swd h w td) c e) ∧ IA M' 75 n (fun c => exy (swd w h td) (swd h w td) c e) ∧ M'.1 69 6 = nI 2 ∧ (∀ j, j ≠ 6 → M'.1 69 j = M.1 69 j) ∧ (∀ k, k ≠ 69 → k ≠ 74 → k ≠ 75 → k < 87 ∨ 94 < k → M'.1 k = M.1 k) ∧ ∀ k, k < 74 ∨ 94 < k → M'.2 k = M.2 k) := by
  unfold f_X10_layCuts
  obtain ⟨hat, hz⟩ := hR.rat
  have hG : ExG n tk (2 * n - 1) 0 e := ⟨hR.1, hR.2.2.1, hR.2.2.2.1, hat, by omega⟩
  refine wp_b (wp_m (mp_ok hn h1n htd hw hh hR r1 r7 r70 r71 ht) (Q := fun M' => (MRec (swd w h td) (swd h w td) M' 0 e ∧ Fr SMp M M')) (fun _ h => h)) ?_
  rintro M1 ⟨a1, a2⟩
  have q1 : ∀ k, ¬ SMp k → M1.1 k = M.1 k := fun k hk => a2.1 k hk
  have r1' : M1.1 69 1 = nI n := by rw [q1 _ (by unfold SMp; omega)]; exact r1
  rw [rs_eq r1' h1n, pz_1, pz_sub (by omega), pz_lt1, pz_0, pz_wr (by omega) (by omega), pz_wr (by omega) (by omega)]
  have hzz : 0 + exz e - 1 = 2 * n - 1 - 1 := by omega
  obtain ⟨M3, s3, p3⟩ := dn_seg (W := swd w h td) (H := swd h w td) (tk := tk) (n := n) (L := 2 * n - 1) hn (by omega) e 0 0 0 (wi (wi M1 91 (2 * n - 1 - 1) (nI 0)) 92 (2 * n - 1 - 1) (nI 0)) hG (MRec.fr e 0 a1 (fun k hk j _ _ => by rw [wi_n _ _ _ (by omega), wi_n _ _ _ (by omega)])) (by rw [hzz, wi_n _ _ _ (by omega), wi_at, if_pos rfl]) (by rw [hzz, wi_at, if_pos rfl])
  rw [hzz] at s3
  have lp : loop (fun v => f_X10_layCuts_L31 v.1 v.2) FU (nI (2 * n - 1 - 1), wi (wi M1 91 (2 * n - 1 - 1) (nI 0)) 92 (2 * n - 1 - 1) (nI 0)) = some M3 := by
    refine stp_end (w := (nI 0 + m1, M3)) ?_ s3 (fu_lt (by omega))
    show f_X10_layCuts_L31 (nI 0 + m1) M3 = _
    unfold f_X10_layCuts_L31
    rw [pz_0, if_pos (by decide)]
  rw [lp, pz_bd]
  unfold f_X10_layCuts_A31
  rw [pz_lt1, pz_2]
  have q3 : ∀ k, ¬ SDn k → ¬ SMp k → M3.1 k = M.1 k := fun k h1 h2 => by
    rw [p3.f.1 k h1, wi_n _ _ _ (fun e => h1 (by unfold SDn; omega)), wi_n _ _ _ (fun e => h1 (by unfold SDn; omega)), q1 k h2]
  refine wp_s ⟨fun c hc => ?_, fun c hc => ?_, rfl, fun j hj => ?_, fun k k1 k2 k3 k4 => ?_, fun k hk => ?_⟩
  · show M3.1 74 c = _
    rw [p3.x c (hR.mem hc), Nat.zero_add]
  · show M3.1 75 c = _
    rw [p3.y c (hR.mem hc), Nat.zero_add]
  · rw [wi_at, if_neg hj, q3 69 (by unfold SDn; omega) (by unfold SMp; omega)]
  · rw [wi_n _ _ _ k1, q3 k (by unfold SDn; omega) (by unfold SMp; omega)]
  · have e1 : (wi M3 69 6 (nI 2)).2 k = M3.2 k := rfl
    rw [e1, p3.f.2 k (by unfold SDn; omega)]
    show M1.2 k = _
    exact a2.2 k (by unfold SMp; omega)
/-- a laying of cuts -/
def ctS (A : Abs) (td : Nat) (tk : Nat → Nat) (e : Ex) : Abs := mkA A.n A.tb td A.s A.ro 2 A.w A.h A.nt (fun c => exx (swd A.w A.h td) (swd A.h A.w td) c e) (fun c => exy (swd A.w A.h td) (swd A.h A.w td) c e) A.one A.two tk A.lf A.rt
theorem AOK.cts {A : Abs} (hA : AOK A) (h1 : 1 ≤ A.n) {td : Nat} {tk : Nat → Nat} {e : Ex} (ht : td &&& A.tb = td) (hR : RowE A.n tk e) : AOK (ctS A td tk e) := by
  have hn := hA.n
  have hl : (Ex.lvs e).length = A.n := hR.2.2.2.2
  have bw := exw_le (W := swd A.w A.h td) (H := swd A.h A.w td) e (fun c hc => swd_le hA.w hA.h (hR.2.2.2.1 c hc))
  have bh := exh_le (W := swd A.w A.h td) (H := swd A.h A.w td) e (fun c hc => swd_le hA.h hA.w (hR.2.2.2.1 c hc))
  refine ⟨hA.n, hA.w, hA.h, hA.tb, hA.nt, hA.s, Or.inr (Or.inr (Or.inr (Or.inl rfl))), fun _ => ⟨h1, ht, fun b hb => ?_, fun b hb => ?_⟩, fun q => absurd q (by show ¬ (2 : Int32) = 1; decide), fun _ => ⟨e, hR⟩, fun q => absurd q (by show ¬ (2 : Int32) = 3; decide)⟩
  · have := exx_le (W := swd A.w A.h td) (H := swd A.h A.w td) e (hR.mem hb)
    show exx (swd A.w A.h td) (swd A.h A.w td) b e ≤ 10000
    omega
  · have := exy_le (W := swd A.w A.h td) (H := swd A.h A.w td) e (hR.mem hb)
    show exy (swd A.w A.h td) (swd A.h A.w td) b e ≤ 10000
    omega
theorem c_layc {F : Abs → Nat → Mm → Prop} (hF : FOK F) {M M0 : Mm} {A : Abs} (hA : AOK A) (h1 : 1 ≤ A.n) (hC : CI F M0 A) (hf : Fr (SB 5 33) M0 M) {tk : Nat → Nat} {e : Ex} (hR : RowE A.n tk e) (o5 : M.1 17 5 = nI (2 * A.n - 1)) (o1 : IA M 18 (2 * A.n - 1) tk) (x : Int32) :
    Wp (f_X9_layOut 17 (nI 2) x M) (fun M' => CI F M' (ctS A (msk x A.tb) tk e) ∧ Fr SC M0 M') := by
  have hn := hA.n
  have q : ∀ k, k < 5 → M.1 k = M0.1 k := fun k hk => hf.1 k (fun h => by unfold SB at h; omega)
  unfold f_X9_layOut f_tlay
  refine wp_b (take_ok (n := A.n) (tb := A.tb) (w := A.w) (h := A.h) (by omega) hn (by rw [q 1 (by omega)]; exact hC.n) (by rw [q 1 (by omega)]; exact hC.tb) hA.tb (hC.w.eq (q 2 (by omega))) (hC.h.eq (q 3 (by omega))) x) ?_
  rintro M1 ⟨a1, a2, a3, a4, a5⟩
  rw [if_neg (by omega), if_pos (Or.inl rfl)]
  have q1 : ∀ k, 11 ≤ k → M1.1 k = M.1 k := fun k hk => a5.1 k (fun h => by unfold SB at h; omega)
  refine wp_b (clay_ok (k0 := 17) (k1 := 5) hn h1 (by omega) hR (fun b hb => swd_le hA.w hA.h hb) (fun b hb => swd_le hA.h hA.w hb) (by rw [q1 17 (by omega)]; exact o5) (o1.eq (q1 18 (by omega))) a3 a4) ?_
  rintro M2 ⟨b1, b2, b3⟩
  have q2 : ∀ k, ¬ SRo 17 5 k → M2.1 k = M1.1 k := fun k hk => b3.1 k hk
  have f2 : Fr (SB 5 33) M0 M2 := (hf.tr (a5.mono (fun k h => ⟨h.1, Nat.le_trans h.2 (by omega)⟩))).tr (b3.mono (fun k h => by unfold SRo at h; unfold SB; omega))
  rw [pz_lt1]
  refine wp_s ⟨CI.nw hF (A' := ctS A (msk x A.tb) tk e) hC ⟨rfl, rfl, rfl, rfl, rfl, rfl⟩ f2 (fun _ => ⟨?_, ?_, b1, b2, a3.eq (q2 8 (by unfold SRo; omega)), a4.eq (q2 9 (by unfold SRo; omega))⟩) (fun h => absurd h (by show ¬ (2 : Int32) = 1; decide)) (fun _ => ⟨?_, ?_⟩) (fun h => absurd h (by show ¬ (2 : Int32) = 3; decide)), (f2.mono (fun k h => sb_sc h (by omega))).w (show SC 0 by unfold SC; omega)⟩
  · rw [q2 5 (by unfold SRo; omega)]; exact a1
  · rw [q2 5 (by unfold SRo; omega)]; exact a2
  · rw [q2 17 (by unfold SRo; omega), q1 17 (by omega)]; exact o5
  · exact (o1.eq (q1 18 (by omega))).eq (q2 18 (by unfold SRo; omega))
theorem r_layc {M M0 : Mm} {A : Abs} (hA : AOK A) (h1 : 1 ≤ A.n) (hR : RI M0 A) (hf : Fr SRw M0 M) {tk : Nat → Nat} {e : Ex} {td : Nat} (hE : RowE A.n tk e) (r1 : M.1 69 1 = nI A.n) (r41 : M.1 69 41 = nI A.s) (r7 : M.1 69 7 = nI td) (ht : td &&& A.tb = td) (o1 : IA M 78 (2 * A.n - 1) tk) :
    Wp (f_X10_layCuts M) (fun M' => RI M' (ctS A td tk e) ∧ Fr SR M0 M' ∧ ∀ j, j ≠ 6 → M'.1 69 j = M.1 69 j) := by
  have hn := hA.n
  have q : ∀ k, 70 ≤ k ∧ k ≤ 73 → M.1 k = M0.1 k := fun k hk => hf.1 k (fun h => by unfold SRw at h; omega)
  refine wp_m (lc_ok hn h1 (p12 (sub_lt ht hA.tb) hn) hA.w hA.h hE r1 r7 (hR.w.eq (q 70 (by omega))) (hR.h.eq (q 71 (by omega))) o1) ?_
  rintro M' ⟨a1, a2, a3, a4, a5, a6⟩
  have f2 : Fr SRw M0 M' := hf.tr ⟨fun k hk => a5 k (fun e => hk (Or.inl e)) (fun e => hk (Or.inr (by omega))) (fun e => hk (Or.inr (by omega))) (by unfold SRw at hk; omega), fun k hk => a6 k (by unfold SRw at hk; omega)⟩
  refine ⟨RI.nw (A' := ctS A td tk e) hR ⟨rfl, rfl, rfl, rfl, rfl, rfl⟩ f2 ?_ ?_ a3 (fun _ => ⟨?_, a1, a2⟩) (fun h => absurd h (by show ¬ (2 : Int32) = 1; decide)) (fun _ => ?_) (fun h => absurd h (by show ¬ (2 : Int32) = 3; decide)), f2.mono (fun k h => srw_sr h), a4⟩
  · rw [a4 1 (by omega)]; exact r1
  · rw [a4 41 (by omega)]; exact r41
  · rw [a4 7 (by omega)]; exact r7
  · exact o1.eq (a5 78 (by omega) (by omega) (by omega) (by omega))
/-! which rows are rows -/
def rst (n : Nat) (tk : Nat → Nat) : Nat → Option (Nat × Nat)
  | 0 => some (0, 0)
  | i + 1 => (rst n tk i).bind fun v => if tk i < n ∧ v.1.testBit (tk i) = false then some (v.1 ||| 2 ^ tk i, v.2 + 1) else if (tk i = 12 ∨ tk i = 13) ∧ 1 < v.2 then some (v.1, v.2 - 1) else none
theorem rst_none {n : Nat} {tk : Nat → Nat} {i : Nat} (h : rst n tk i = none) : ∀ {j}, i ≤ j → rst n tk j = none
  | 0, q => by have : i = 0 := by omega
               rw [← this]; exact h
  | j + 1, q => by
    by_cases e : i = j + 1
    · rw [← e]; exact h
    · show (rst n tk j).bind _ = none
      rw [rst_none h (j := j) (by omega)]; rfl
theorem rst_ex {n : Nat} {tk : Nat → Nat} (hn : n ≤ 12) : ∀ {i s p}, rst n tk i = some (s, p) → ∃ es : List Ex, es.length = p ∧ (es.reverse.flatMap Ex.post) = fnl tk i ∧ (∀ e ∈ es, Ex.ok e) ∧ (es.reverse.flatMap Ex.lvs).Nodup ∧ (∀ b ∈ es.reverse.flatMap Ex.lvs, b < n) ∧ (∀ b, s.testBit b = true ↔ b ∈ es.reverse.flatMap Ex.lvs) ∧ s < 2 ^ n ∧ p ≤ i
  | 0, s, p, h => by
    have h : some (0, 0) = some (s, p) := h
    cases h
    refine ⟨[], rfl, rfl, fun e he => (by cases he), List.nodup_nil, fun b hb => (by cases hb), fun b => ?_, Nat.two_pow_pos n, Nat.le_refl _⟩
    rw [Nat.zero_testBit]
    exact ⟨fun q => absurd q (by decide), fun q => (by cases q)⟩
  | i + 1, s, p, h => by
    have h : (rst n tk i).bind _ = some (s, p) := h
    cases hv : rst n tk i with
    | none => rw [hv] at h; cases h
    | some v =>
      obtain ⟨s0, p0⟩ := v
      rw [hv, pz_bd] at h
      obtain ⟨es, l1, l2, l3, l4, l5, l6, l7, l8⟩ := rst_ex hn hv
      have hfn : fnl tk (i + 1) = fnl tk i ++ [tk i] := by
        unfold fnl
        rw [List.range_succ, List.map_append]; rfl
      split at h
      · rename_i q
        cases h
        have q1 : tk i < n := q.1
        have q2 : s0.testBit (tk i) = false := q.2
        have er : (Lean.RArray.leaf (tk i) :: es).reverse = es.reverse ++ [Lean.RArray.leaf (tk i)] := List.reverse_cons
        refine ⟨.leaf (tk i) :: es, by rw [List.length_cons, l1], ?_, fun e he => ?_, ?_, fun b hb => ?_, fun b => ?_, or_lt l7 (Nat.pow_lt_pow_right (by omega) q1), by omega⟩
        · rw [er, List.flatMap_append, l2, hfn]; rfl
        · rcases List.mem_cons.mp he with he | he
          · rw [he]; show tk i < 12; omega
          · exact l3 e he
        · rw [er, List.flatMap_append]
          refine List.nodup_append.mpr ⟨l4, by show [tk i].Nodup; simp, fun a ha b hb e => ?_⟩
          have hb : b = tk i := List.mem_singleton.mp hb
          have := (l6 a).mpr ha
          rw [e, hb, q2] at this
          cases this
        · rw [er, List.flatMap_append] at hb
          rcases List.mem_append.mp hb with hb | hb
          · exact l5 b hb
          · have hb : b = tk i := List.mem_singleton.mp hb
            rw [hb]; exact q1
        · rw [er, List.flatMap_append, List.mem_append, Nat.testBit_or, Nat.testBit_two_pow, Bool.or_eq_true, l6 b, decide_eq_true_iff]
          constructor
          · rintro (z | z)
            · exact Or.inl z
            · exact Or.inr (List.mem_singleton.mpr z.symm)
          · rintro (z | z)
            · exact Or.inl z
            · exact Or.inr (List.mem_singleton.mp z).symm
      · split at h
        · rename_i q1 q
          cases h
          match es, l1 with
          | [], l1 => have l1 : 0 = p0 := l1
                      have := q.2
                      omega
          | [_], l1 => have l1 : 1 = p0 := l1
                       have := q.2
                       omega
          | eb :: ea :: rest, l1 =>
            have er : (eb :: ea :: rest).reverse = rest.reverse ++ [ea] ++ [eb] := by rw [List.reverse_cons, List.reverse_cons]
            have er2 : (Lean.RArray.branch (tk i) ea eb :: rest).reverse = rest.reverse ++ [Lean.RArray.branch (tk i) ea eb] := List.reverse_cons
            have lv : (Lean.RArray.branch (tk i) ea eb :: rest).reverse.flatMap Ex.lvs = (eb :: ea :: rest).reverse.flatMap Ex.lvs := by
              rw [er, er2, List.flatMap_append, List.flatMap_append, List.flatMap_append, List.append_assoc]
              congr 1
              show Ex.lvs ea ++ Ex.lvs eb ++ [] = Ex.lvs ea ++ [] ++ (Ex.lvs eb ++ [])
              simp
            refine ⟨.branch (tk i) ea eb :: rest, ?_, ?_, fun e he => ?_, ?_, fun b hb => ?_, fun b => ?_, l7, by omega⟩
            · have l1 : rest.length + 1 + 1 = p0 := l1
              show rest.length + 1 = p0 - 1
              omega
            · rw [er2, List.flatMap_append, hfn, ← l2, er, List.flatMap_append, List.flatMap_append]
              show rest.reverse.flatMap Ex.post ++ (Ex.post ea ++ Ex.post eb ++ [tk i] ++ []) = rest.reverse.flatMap Ex.post ++ (Ex.post ea ++ []) ++ (Ex.post eb ++ []) ++ [tk i]
              simp
            · rcases List.mem_cons.mp he with he | he
              · rw [he]
                exact ⟨q.1, l3 ea (by simp), l3 eb (by simp)⟩
              · exact l3 e (by simp [he])
            · rw [lv]; exact l4
            · rw [lv] at hb; exact l5 b hb
            · rw [lv]; exact l6 b
        · cases h
theorem rst_row {n : Nat} {tk : Nat → Nat} (hn : n ≤ 12) (h1 : 1 ≤ n) {s : Nat} (h : rst n tk (2 * n - 1) = some (s, 1)) : ∃ e, RowE n tk e := by
  obtain ⟨es, l1, l2, l3, l4, l5, l6, l7, l8⟩ := rst_ex hn h
  match es, l1 with
  | [e], _ =>
    have e1 : ([e].reverse.flatMap Ex.post) = Ex.post e := by simp
    have e2 : ([e].reverse.flatMap Ex.lvs) = Ex.lvs e := by simp
    rw [e1] at l2
    rw [e2] at l4 l5
    refine ⟨e, l3 e (by simp), l2, l4, l5, ?_⟩
    have hl := congrArg List.length l2
    rw [exz_post] at hl
    have hz := exz_lvs e
    have : (fnl tk (2 * n - 1)).length = 2 * n - 1 := by unfold fnl; rw [List.length_map, List.length_range]
    omega
def IsRow (n : Nat) (tk : Nat → Nat) : Prop := ∃ s, rst n tk (2 * n - 1) = some (s, 1)
def tkn (a b : Int64) (i : Nat) : Nat := if i < 16 then nib a i else nib b (i - 16)
theorem tkn_lt (a b : Int64) {i : Nat} (h : i < 32) : tkn a b i < 16 := by
  unfold tkn
  split
  · exact nib_lt a (by omega)
  · exact nib_lt b (by omega)
theorem tkn_e (a b : Int64) {i : Nat} (h : i < 32) : f_X6_tokenAt a b (nI i) = nI (tkn a b i) := by
  unfold f_X6_tokenAt tkn
  rw [pz_16]
  by_cases q : i < 16
  · rw [if_neg (by rw [pz_le (by omega) (by omega)]; omega), if_pos q, nib_e]
  · rw [if_pos (by rw [pz_le (by omega) (by omega)]; omega), if_neg q, pz_sub (by omega), nib_e]
