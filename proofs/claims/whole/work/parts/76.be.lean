/-! best -/
theorem least_ex {P : Nat → Prop} : ∀ u, P u → ∃ v, P v ∧ ∀ x, x < v → ¬ P x := by
  intro u
  induction u using Nat.strongRecOn with
  | ind u ih =>
    intro h
    by_cases q : ∃ v, v < u ∧ P v
    · obtain ⟨v, h1, h2⟩ := q
      exact ih v h1 h2
    · exact ⟨u, h, fun v hv hp => q ⟨v, hv, hp⟩⟩
theorem lt_tb : ∀ b x y : Nat, x.testBit b = false → y.testBit b = true → (∀ j, b < j → x.testBit j = y.testBit j) → x < y
  | 0, x, y, hx, hy, h => by
    rw [Nat.testBit_zero] at hx hy
    have hx : ¬ x % 2 = 1 := of_decide_eq_false hx
    have hy : y % 2 = 1 := of_decide_eq_true hy
    have : x / 2 = y / 2 := Nat.eq_of_testBit_eq fun i => by
      have := h (i + 1) (by omega)
      rw [Nat.testBit_succ, Nat.testBit_succ] at this
      exact this
    omega
  | b + 1, x, y, hx, hy, h => by
    rw [Nat.testBit_succ] at hx hy
    have := lt_tb b (x / 2) (y / 2) hx hy (fun j hj => by
      have := h (j + 1) (by omega)
      rw [Nat.testBit_succ, Nat.testBit_succ] at this
      exact this)
    omega
def Sol (w h : Nat → Nat) (tb : Nat) (e : Ex) (p : Sh) (u : Nat) : Prop := u &&& tb = u ∧ shp w h e u = p
def SolL (w h : Nat → Nat) (tb : Nat) (e : Ex) (p : Sh) (u : Nat) : Prop := Sol w h tb e p u ∧ ∀ v, v < u → ¬ Sol w h tb e p v
theorem sol_ex {w h : Nat → Nat} {tb : Nat} {e : Ex} {p : Sh} (hd : (Ex.lvs e).Nodup) (hp : p ∈ lc w h tb 0 e) : ∃ u, SolL w h tb e p u := by
  obtain ⟨u, _, h2, h3⟩ := (shs_sub p).mp ((lc_frn (w := w) (h := h) (op := tb) (td := 0) e hd).2.1 p hp)
  exact least_ex u ⟨h2, h3.symm⟩
theorem sub_bit {u tb i : Nat} (h : u &&& tb = u) (hb : tb.testBit i = false) : u.testBit i = false := by
  rw [← h, Nat.testBit_and, hb, Bool.and_false]
theorem lc_mem {w h : Nat → Nat} {tb op td : Nat} {e : Ex} {p : Sh} (hd : (Ex.lvs e).Nodup) (hp : p ∈ lc w h tb 0 e) (hs : ∀ q, ShS w h op td e q → ShS w h tb 0 e q) : p ∈ lc w h op td e ↔ ShS w h op td e p := by
  have f1 := lc_frn (w := w) (h := h) (op := op) (td := td) e hd
  have f2 := lc_frn (w := w) (h := h) (op := tb) (td := 0) e hd
  constructor
  · exact f1.2.1 p
  · intro hq
    obtain ⟨q, q1, q2⟩ := f1.2.2 p hq
    obtain ⟨r, r1, r2⟩ := f2.2.2 q (hs q (f1.2.1 q q1))
    have e1 : r = p := srt_inc f2.1 r1 hp ⟨Nat.le_trans r2.1 q2.1, Nat.le_trans r2.2 q2.2⟩
    subst e1
    have : q = r := Prod.ext (Nat.le_antisymm q2.1 r2.1) (Nat.le_antisymm q2.2 r2.2)
    rw [← this]; exact q1
theorem hol_ok {M : Mm} {k0 : Nat} {L : List Sh} {p : Sh} (h5 : M.1 k0 5 = nI L.length) (a : ARl M (k0 + 1) (k0 + 2) 0 L) (hb : LBd L) (hl : L.length ≤ 26) (hp : p.1 ≤ 2400 ∧ p.2 ≤ 2400) : (p ∈ L → f_X5_holds k0 (nI p.1) (nI p.2) M = some (nI 1)) ∧ (¬ p ∈ L → f_X5_holds k0 (nI p.1) (nI p.2) M = some (nI 0)) := by
  have key : Wp (loop (fun v => f_X5_holds_L2 k0 (nI p.1) (nI p.2) M v) FU (nI 0)) (fun r => (r = .inl () ∧ ¬ p ∈ L) ∨ (r = .inr (nI 1) ∧ p ∈ L)) := by
    refine wp_l (fun i (v : Int32) => v = nI i ∧ ¬ p ∈ L.take i) L.length (fu_lt (by omega)) ?_ ?_ ⟨rfl, fun hq => by cases hq⟩
    · rintro i v hi ⟨rfl, a1⟩
      have g := a.get hi
      rw [Nat.zero_add] at g
      have hq : L.getD i (0, 0) = L[i] := by rw [List.getD_eq_getElem?_getD, List.getElem?_eq_getElem hi]; rfl
      rw [hq] at g
      have ht : L.take (i + 1) = L.take i ++ [L[i]] := by rw [List.take_succ, List.getElem?_eq_getElem hi]; rfl
      have bq := hb L[i] (List.getElem_mem hi)
      have hm := List.getElem_mem hi
      generalize L[i] = q at g ht bq hm
      have go : ¬ p = q → Wp (some (Sum.inl (nI (i + 1))) : Option (Int32 ⊕ (Unit ⊕ Int32))) (fun r => (∃ w, r = .inl w ∧ w = nI (i + 1) ∧ ¬ p ∈ L.take (i + 1)) ∨ ∃ x, r = .inr x ∧ ((x = .inl () ∧ ¬ p ∈ L) ∨ (x = .inr (nI 1) ∧ p ∈ L))) := by
        intro z
        refine wp_s (Or.inl ⟨_, rfl, rfl, fun hr => ?_⟩)
        rw [ht] at hr
        rcases List.mem_append.mp hr with y | y
        · exact a1 y
        · exact z (List.mem_singleton.mp y)
      show Wp (f_X5_holds_L2 k0 (nI p.1) (nI p.2) M (nI i)) _
      unfold f_X5_holds_L2 f_X5_holds_J32
      rw [h5, if_neg (by rw [pz_le (by omega) (by omega)]; omega), pz_rd (by omega) (by omega), g.1, pz_rd (by omega) (by omega), g.2]
      simp only [pz_lt1]
      rw [pz_1, pz_add]
      by_cases z1 : q.1 = p.1
      · rw [if_pos (by rw [z1])]
        by_cases z2 : q.2 = p.2
        · rw [if_pos (by rw [z2])]
          refine wp_s (Or.inr ⟨_, rfl, Or.inr ⟨rfl, ?_⟩⟩)
          rw [show p = q from (Prod.ext z1 z2).symm]; exact hm
        · rw [if_neg (by rw [pz_eq (by omega) (by omega)]; exact z2)]
          exact go (fun y => z2 (by rw [y]))
      · rw [if_neg (by rw [pz_eq (by omega) (by omega)]; exact z1)]
        exact go (fun y => z1 (by rw [y]))
    · rintro v ⟨rfl, a1⟩
      show Wp (f_X5_holds_L2 k0 (nI p.1) (nI p.2) M (nI L.length)) _
      unfold f_X5_holds_L2
      rw [h5, if_pos ((nI_leI (by omega) (by omega)).mpr (Nat.le_refl _))]
      rw [List.take_length] at a1
      exact wp_s ⟨_, rfl, Or.inl ⟨rfl, a1⟩⟩
  obtain ⟨r, e, hr⟩ := key
  unfold f_X5_holds f_X5_holds_A2
  rw [pz_0, e, pz_bd]
  constructor
  · intro hm
    rcases hr with ⟨_, z⟩ | ⟨rfl, _⟩
    · exact absurd hm z
    · rfl
  · intro hm
    rcases hr with ⟨rfl, _⟩ | ⟨_, z⟩
    · rfl
    · exact absurd z hm
theorem lt_key {w h : Nat → Nat} {n tb op td us b : Nat} {e : Ex} {p : Sh} (hd : (Ex.lvs e).Nodup) (hlv : ∀ c ∈ Ex.lvs e, c < n) (hall : ∀ c, c < n → c ∈ Ex.lvs e) (htb : tb < 2 ^ n) (hp : p ∈ lc w h tb 0 e) (hs : SolL w h tb e p us) (hb : b < n) (ho : ∀ j, op.testBit j = (tb.testBit j && decide (j < b))) (ht : ∀ j, td.testBit j = (us.testBit j && decide (b < j))) : p ∈ lc w h op td e ↔ us.testBit b = false := by
  have sub : ∀ q, ShS w h op td e q → ShS w h tb 0 e q := by
    rintro q ⟨u, h1, h2⟩
    refine ⟨u, fun c hc hz => ?_, h2⟩
    rw [h1 c hc (by rw [ho, hz]; rfl), ht, sub_bit hs.1.1 hz, Nat.zero_testBit]; rfl
  rw [lc_mem hd hp sub]
  constructor
  · rintro ⟨u, h1, h2⟩
    cases hu : us.testBit b with
    | false => rfl
    | true =>
      exfalso
      refine hs.2 (u &&& tb) ?_ ⟨by rw [Nat.and_assoc, Nat.and_self], ?_⟩
      · refine lt_tb b _ _ ?_ hu (fun j hj => ?_)
        · rw [Nat.testBit_and, h1 b (hall b hb) (by rw [ho]; simp), ht]; simp
        · rw [Nat.testBit_and]
          by_cases hjn : j < n
          · rw [h1 j (hall j hjn) (by rw [ho]; simp; omega), ht, decide_eq_true hj, Bool.and_true]
            cases e1 : tb.testBit j
            · rw [sub_bit hs.1.1 e1]; rfl
            · rw [Bool.and_true]
          · rw [tb_lt htb (by omega : n ≤ j), Bool.and_false]
            exact (sub_bit hs.1.1 (tb_lt htb (by omega : n ≤ j))).symm
      · rw [h2]
        have := exwh_cg (W := swd w h (u &&& tb)) (H := swd h w (u &&& tb)) (W' := swd w h u) (H' := swd h w u) e (fun c hc => swd_cg (by
          rw [Nat.testBit_and]
          cases e1 : tb.testBit c
          · rw [h1 c hc (by rw [ho, e1]; rfl), ht, sub_bit hs.1.1 e1]; rfl
          · rw [Bool.and_true]))
        unfold shp
        rw [this.1, this.2]
  · intro hu
    refine ⟨us, fun c hc hz => ?_, hs.1.2.symm⟩
    rw [ht]
    rw [ho] at hz
    by_cases hcb : b < c
    · rw [decide_eq_true hcb, Bool.and_true]
    · rw [decide_eq_false hcb, Bool.and_false]
      by_cases e2 : c = b
      · rw [e2]; exact hu
      · rw [decide_eq_true (by omega : c < b), Bool.and_true] at hz
        exact sub_bit hs.1.1 hz
theorem lt_ok {M : Mm} {k0 k1 n tb us : Nat} {w h tk : Nat → Nat} {e : Ex} {p : Sh} (hn : n ≤ 12) (h1n : 1 ≤ n) (hk : k1 + 5 < k0) (hk1 : 3 < k1) (htb : tb < 2 ^ n) (hw : ∀ b, b < n → 1 ≤ w b ∧ w b ≤ 200) (hh : ∀ b, b < n → 1 ≤ h b ∧ h b ≤ 200) (hR : RowE n tk e) (h5 : M.1 k1 5 = nI (2 * n - 1)) (ht : IA M (k1 + 1) (2 * n - 1) tk) (ew : IA M 2 n w) (eh : IA M 3 n h) (h12 : M.1 1 2 = nI tb) (h13 : M.1 1 3 = nI n) (hp : p ∈ lc w h tb 0 e) (hs : SolL w h tb e p us) :
    Wp (f_X5_leastTurns k0 k1 (nI p.1) (nI p.2) M) (fun r => r.1 = nI us ∧ Fr (SB k0 (k0 + 5)) M r.2) := by
  have hd := hR.2.2.1
  have hll : (Ex.lvs e).length = n := hR.2.2.2.2
  have hpb := lc_bd (op := tb) (td := 0) hd (by omega) hR.2.2.2.1 hw hh p hp
  have hus : us < 2 ^ n := sub_lt hs.1.1 htb
  have h4 := p12 htb hn
  unfold f_X5_leastTurns
  rw [h12, h13, pz_lt1, pz_1, pz_sub h1n, pz_lt1, pz_0]
  refine wp_b (P := fun r => r.1 = nI us ∧ Fr (SB k0 (k0 + 5)) M r.2) ?_ ?_
  · refine wp_l (fun i (v : Int32 × Int32 × Int32 × Mm) => ∃ op td, v.1 = nI op ∧ v.2.1 = nI td ∧ (∀ j, op.testBit j = (tb.testBit j && decide (j < n - i))) ∧ (∀ j, td.testBit j = (us.testBit j && decide (n - i ≤ j))) ∧ v.2.2.1 = dn n i ∧ Fr (SB k0 (k0 + 5)) M v.2.2.2) n (fu_lt (by omega)) ?_ ?_ ⟨tb, 0, rfl, rfl, fun j => ?_, fun j => ?_, by rw [dn_y (by omega)]; rfl, Fr.rf⟩
    · rintro i ⟨x5, x6, x7, M1⟩ hi ⟨op, td, a1, a2, a3, a4, a5, a6⟩
      have a1 : x5 = nI op := a1
      have a2 : x6 = nI td := a2
      have a5 : x7 = dn n i := a5
      rw [dn_y hi] at a5
      subst a5
      subst a1 a2
      have a6 : Fr (SB k0 (k0 + 5)) M M1 := a6
      generalize hbb : n - 1 - i = b at *
      have hb : b < n := by omega
      have opl : op < 2 ^ n := lt_of_bits fun j hj => by rw [a3, tb_lt htb hj]; rfl
      have tdl : td < 2 ^ n := lt_of_bits fun j hj => by rw [a4, tb_lt hus hj]; rfl
      have op4 := p12 opl hn
      have td4 := p12 tdl hn
      have nx : nI b + m1 = dn n (i + 1) := by rw [← hbb]; exact dn_s hi
      show Wp (f_X5_leastTurns_L17 k0 k1 (nI p.1) (nI p.2) (nI op) (nI td) (nI b) M1) _
      unfold f_X5_leastTurns_L17 f_X5_leastTurns_J73
      rw [pz_0, if_neg (by rw [pz_lt (by omega) (by omega)]; omega), pz_bit (by omega) (by omega), pz_n1, pz_1, pz_shl (by omega), pz_clr, pz_lt1]
      have opb : op.testBit b = tb.testBit b := by rw [a3, decide_eq_true (by omega : b < n - i), Bool.and_true]
      by_cases z : tb.testBit b = true
      · rw [if_pos (by rw [opb, z]; rfl)]
        have ob : ∀ j, (clr op (2 ^ b)).testBit j = (tb.testBit j && decide (j < b)) := fun j => by
          rw [clr_bit, a3, Nat.testBit_two_pow]
          by_cases q : j < b
          · rw [decide_eq_true q, decide_eq_true (by omega : j < n - i), decide_eq_false (by omega : ¬ b = j)]; simp
          · rw [decide_eq_false q]
            by_cases q2 : b = j
            · rw [decide_eq_true q2]; simp
            · rw [decide_eq_false (by omega : ¬ j < n - i)]; simp
        have tbt : ∀ j, td.testBit j = (us.testBit j && decide (b < j)) := fun j => by
          rw [a4]; congr 1; rw [decide_eq_decide]; omega
        have ocl := clr_lt (m := 2 ^ b) opl
        have q1 : ∀ k, k < k0 ∨ k0 + 5 < k → M1.1 k = M.1 k := fun k hk => a6.1 k (fun h => by unfold SB at h; omega)
        refine wp_b (dr_ok (k0 := k0) (k1 := k1) (op := clr op (2 ^ b)) (td := td) hn h1n hk hk1 (p12 ocl hn) td4 hw hh hR (by rw [q1 _ (by omega)]; exact h5) (ht.eq (q1 _ (by omega))) (ew.eq (q1 _ (by omega))) (eh.eq (q1 _ (by omega)))) ?_
        rintro M2 ⟨b1, b2, b3⟩
        have hlen := lc_len (w := w) (h := h) (op := clr op (2 ^ b)) (td := td) e hd
        have hh1 := hol_ok (p := p) b2 b1 (lc_bd hd (by omega) hR.2.2.2.1 hw hh) (by omega) hpb
        have lk := lt_key hd hR.2.2.2.1 (fun c hc => hR.mem hc) htb hp hs hb ob tbt
        have oN : ∀ j, (clr op (2 ^ b)).testBit j = (tb.testBit j && decide (j < n - (i + 1))) := fun j => by
          rw [ob]; congr 1; rw [decide_eq_decide]; omega
        by_cases y : p ∈ lc w h (clr op (2 ^ b)) td e
        · rw [hh1.1 y, pz_bd, if_neg (by decide)]
          refine wp_s (Or.inl ⟨_, rfl, clr op (2 ^ b), td, rfl, rfl, oN, fun j => ?_, nx, a6.tr b3⟩)
          rw [tbt]
          by_cases q : j = b
          · rw [q, lk.mp y]; rfl
          · congr 1; rw [decide_eq_decide]; omega
        · rw [hh1.2 y, pz_bd, if_pos rfl, pz_or]
          refine wp_s (Or.inl ⟨_, rfl, clr op (2 ^ b), td ||| 2 ^ b, rfl, rfl, oN, fun j => ?_, nx, a6.tr b3⟩)
          have ub : us.testBit b = true := by
            cases e1 : us.testBit b
            · exact absurd (lk.mpr e1) y
            · rfl
          rw [Nat.testBit_or, tbt, Nat.testBit_two_pow]
          by_cases q : j = b
          · rw [q, ub, decide_eq_true (by omega : n - (i + 1) ≤ b)]; simp
          · rw [decide_eq_false (by omega : ¬ b = j), Bool.or_false]
            congr 1; rw [decide_eq_decide]; omega
      · have z : tb.testBit b = false := by cases e1 : tb.testBit b <;> simp_all
        rw [if_neg (by rw [opb, z]; decide), pz_lt1]
        refine wp_s (Or.inl ⟨_, rfl, op, td, rfl, rfl, fun j => ?_, fun j => ?_, nx, a6⟩)
        · rw [a3]
          by_cases q : j = b
          · rw [q, z]; rfl
          · congr 1; rw [decide_eq_decide]; omega
        · rw [a4]
          by_cases q : j = b
          · rw [q, sub_bit hs.1.1 z]; rfl
          · congr 1; rw [decide_eq_decide]; omega
    · rintro ⟨x5, x6, x7, M1⟩ ⟨op, td, a1, a2, a3, a4, a5, a6⟩
      have a2 : x6 = nI td := a2
      have a5 : x7 = dn n n := a5
      rw [dn_n] at a5
      subst a5
      subst a2
      show Wp (f_X5_leastTurns_L17 k0 k1 (nI p.1) (nI p.2) x5 (nI td) m1 M1) _
      unfold f_X5_leastTurns_L17
      rw [pz_0, if_pos (by decide)]
      have : td = us := Nat.eq_of_testBit_eq fun j => by
        rw [a4, decide_eq_true (by omega : n - n ≤ j), Bool.and_true]
      rw [this]
      exact wp_s ⟨_, rfl, rfl, a6⟩
    · by_cases q : j < n
      · rw [decide_eq_true (by omega : j < n - 0), Bool.and_true]
      · rw [tb_lt htb (by omega : n ≤ j)]; rfl
    · by_cases q : j < n
      · rw [decide_eq_false (by omega : ¬ n - 0 ≤ j), Nat.zero_testBit, Bool.and_false]
      · rw [tb_lt hus (by omega : n ≤ j), Nat.zero_testBit]; rfl
  · rintro ⟨r, M1⟩ ⟨a1, a2⟩
    exact wp_s ⟨a1, a2⟩
