/-! shapes: fronts -/
abbrev Sh : Type := Nat × Nat
def Srt (L : List Sh) : Prop := L.Pairwise (fun p q => p.1 < q.1 ∧ q.2 < p.2)
def dom (p q : Sh) : Prop := p.1 ≤ q.1 ∧ p.2 ≤ q.2
def Frn (S : Sh → Prop) (L : List Sh) : Prop := Srt L ∧ (∀ p ∈ L, S p) ∧ ∀ q, S q → ∃ p, p ∈ L ∧ dom p q
theorem srt_inc {L : List Sh} (h : Srt L) {p q : Sh} (hp : p ∈ L) (hq : q ∈ L) (hd : dom p q) : p = q := by
  induction L with
  | nil => cases hp
  | cons a t ih =>
    obtain ⟨h1, h2⟩ := List.pairwise_cons.mp h
    unfold dom at hd
    rcases List.mem_cons.mp hp with e1 | e1 <;> rcases List.mem_cons.mp hq with e2 | e2
    · rw [e1, e2]
    · subst e1
      have := h1 q e2
      omega
    · subst e2
      have := h1 p e1
      omega
    · exact ih h2 e1 e2
theorem srt_un : ∀ {L1 L2 : List Sh}, Srt L1 → Srt L2 → (∀ p, p ∈ L1 ↔ p ∈ L2) → L1 = L2
  | [], [], _, _, _ => rfl
  | [], q :: t, _, _, h => by have := (h q).mpr (List.mem_cons.mpr (Or.inl rfl)); cases this
  | p :: t, [], _, _, h => by have := (h p).mp (List.mem_cons.mpr (Or.inl rfl)); cases this
  | p :: t1, q :: t2, h1, h2, h => by
    obtain ⟨a1, a2⟩ := List.pairwise_cons.mp h1
    obtain ⟨b1, b2⟩ := List.pairwise_cons.mp h2
    have e : p = q := by
      rcases List.mem_cons.mp ((h p).mp (List.mem_cons.mpr (Or.inl rfl))) with z | z
      · exact z
      · rcases List.mem_cons.mp ((h q).mpr (List.mem_cons.mpr (Or.inl rfl))) with y | y
        · exact y.symm
        · have := b1 p z
          have := a1 q y
          omega
    subst e
    have : t1 = t2 := srt_un a2 b2 fun r => by
      constructor
      · intro hr
        rcases List.mem_cons.mp ((h r).mp (List.mem_cons.mpr (Or.inr hr))) with z | z
        · have := a1 r hr
          rw [z] at this; omega
        · exact z
      · intro hr
        rcases List.mem_cons.mp ((h r).mpr (List.mem_cons.mpr (Or.inr hr))) with z | z
        · have := b1 r hr
          rw [z] at this; omega
        · exact z
    rw [this]
theorem frn_sub {S : Sh → Prop} {L1 L2 : List Sh} (h1 : Frn S L1) (h2 : Frn S L2) {p : Sh} (hp : p ∈ L1) : p ∈ L2 := by
  obtain ⟨q, q1, q2⟩ := h2.2.2 p (h1.2.1 p hp)
  obtain ⟨r, r1, r2⟩ := h1.2.2 q (h2.2.1 q q1)
  have e : r = p := srt_inc h1.1 r1 hp ⟨Nat.le_trans r2.1 q2.1, Nat.le_trans r2.2 q2.2⟩
  subst e
  have : q = r := Prod.ext (Nat.le_antisymm q2.1 r2.1) (Nat.le_antisymm q2.2 r2.2)
  rw [← this]; exact q1
theorem Frn.un {S : Sh → Prop} {L1 L2 : List Sh} (h1 : Frn S L1) (h2 : Frn S L2) : L1 = L2 := srt_un h1.1 h2.1 fun p => ⟨frn_sub h1 h2, frn_sub h2 h1⟩
theorem Frn.cg {S T : Sh → Prop} {L : List Sh} (h : Frn S L) (e : ∀ p, S p ↔ T p) : Frn T L := ⟨h.1, fun p hp => (e p).mp (h.2.1 p hp), fun q hq => h.2.2 q ((e q).mpr hq)⟩
/-! two fronts side by side -/
def cmb (p q : Sh) : Sh := (p.1 + q.1, max p.2 q.2)
def jbf : Nat → List Sh → List Sh → List Sh
  | 0, _, _ => []
  | _ + 1, [], _ => []
  | _ + 1, _ :: _, [] => []
  | k + 1, p :: t1, q :: t2 => cmb p q :: jbf k (if q.2 ≤ p.2 then t1 else p :: t1) (if p.2 ≤ q.2 then t2 else q :: t2)
theorem jbf_mem : ∀ {k : Nat} {l1 l2 : List Sh} {r : Sh}, r ∈ jbf k l1 l2 → ∃ p q, p ∈ l1 ∧ q ∈ l2 ∧ r = cmb p q
  | 0, _, _, _, h => by cases h
  | _ + 1, [], _, _, h => by cases h
  | _ + 1, _ :: _, [], _, h => by cases h
  | k + 1, p :: t1, q :: t2, r, h => by
    have h : r ∈ cmb p q :: jbf k (if q.2 ≤ p.2 then t1 else p :: t1) (if p.2 ≤ q.2 then t2 else q :: t2) := h
    rcases List.mem_cons.mp h with e | h
    · exact ⟨p, q, List.mem_cons.mpr (Or.inl rfl), List.mem_cons.mpr (Or.inl rfl), e⟩
    · obtain ⟨a, b, h1, h2, h3⟩ := jbf_mem h
      refine ⟨a, b, ?_, ?_, h3⟩
      · split at h1
        · exact List.mem_cons.mpr (Or.inr h1)
        · exact h1
      · split at h2
        · exact List.mem_cons.mpr (Or.inr h2)
        · exact h2
theorem jbf_srt : ∀ {k : Nat} {l1 l2 : List Sh}, Srt l1 → Srt l2 → Srt (jbf k l1 l2)
  | 0, _, _, _, _ => List.Pairwise.nil
  | _ + 1, [], _, _, _ => List.Pairwise.nil
  | _ + 1, _ :: _, [], _, _ => List.Pairwise.nil
  | k + 1, p :: t1, q :: t2, h1, h2 => by
    obtain ⟨a1, a2⟩ := List.pairwise_cons.mp h1
    obtain ⟨b1, b2⟩ := List.pairwise_cons.mp h2
    show Srt (cmb p q :: jbf k (if q.2 ≤ p.2 then t1 else p :: t1) (if p.2 ≤ q.2 then t2 else q :: t2))
    refine List.pairwise_cons.mpr ⟨fun r hr => ?_, jbf_srt (by split <;> assumption) (by split <;> assumption)⟩
    obtain ⟨a, b, m1, m2, rfl⟩ := jbf_mem hr
    have ha : (a = p ∧ ¬ q.2 ≤ p.2) ∨ (p.1 < a.1 ∧ a.2 < p.2) := by
      split at m1
      · exact Or.inr (a1 a m1)
      · rename_i z
        rcases List.mem_cons.mp m1 with e | e
        · exact Or.inl ⟨e, z⟩
        · exact Or.inr (a1 a e)
    have hb : (b = q ∧ ¬ p.2 ≤ q.2) ∨ (q.1 < b.1 ∧ b.2 < q.2) := by
      split at m2
      · exact Or.inr (b1 b m2)
      · rename_i z
        rcases List.mem_cons.mp m2 with e | e
        · exact Or.inl ⟨e, z⟩
        · exact Or.inr (b1 b e)
    show p.1 + q.1 < a.1 + b.1 ∧ max a.2 b.2 < max p.2 q.2
    rcases ha with ⟨rfl, z1⟩ | z1 <;> rcases hb with ⟨rfl, z2⟩ | z2 <;> omega
theorem jbf_dom : ∀ {k : Nat} {l1 l2 : List Sh}, Srt l1 → Srt l2 → l1.length + l2.length ≤ k → ∀ p q, p ∈ l1 → q ∈ l2 → ∃ r, r ∈ jbf k l1 l2 ∧ dom r (cmb p q)
  | _, [], _, _, _, _, p, _, hp, _ => by cases hp
  | _, _ :: _, [], _, _, _, _, q, _, hq => by cases hq
  | 0, _ :: _, _ :: _, _, _, h, _, _, _, _ => by
    rw [List.length_cons, List.length_cons] at h; omega
  | k + 1, p :: t1, q :: t2, h1, h2, hk, a, b, ma, mb => by
    obtain ⟨a1, a2⟩ := List.pairwise_cons.mp h1
    obtain ⟨b1, b2⟩ := List.pairwise_cons.mp h2
    rw [List.length_cons, List.length_cons] at hk
    show ∃ r, r ∈ cmb p q :: jbf k (if q.2 ≤ p.2 then t1 else p :: t1) (if p.2 ≤ q.2 then t2 else q :: t2) ∧ dom r (cmb a b)
    have ha : a = p ∨ (a ∈ t1 ∧ p.1 < a.1 ∧ a.2 < p.2) := by
      rcases List.mem_cons.mp ma with e | e
      · exact Or.inl e
      · exact Or.inr ⟨e, a1 a e⟩
    have hb : b = q ∨ (b ∈ t2 ∧ q.1 < b.1 ∧ b.2 < q.2) := by
      rcases List.mem_cons.mp mb with e | e
      · exact Or.inl e
      · exact Or.inr ⟨e, b1 b e⟩
    by_cases hh : dom (cmb p q) (cmb a b)
    · exact ⟨_, List.mem_cons.mpr (Or.inl rfl), hh⟩
    · have hh' : ¬ (p.1 + q.1 ≤ a.1 + b.1 ∧ max p.2 q.2 ≤ max a.2 b.2) := hh
      have m1 : a ∈ (if q.2 ≤ p.2 then t1 else p :: t1) := by
        split
        · rename_i z
          rcases ha with e | e
          · subst e
            rcases hb with e2 | e2
            · subst e2; omega
            · omega
          · exact e.1
        · exact ma
      have m2 : b ∈ (if p.2 ≤ q.2 then t2 else q :: t2) := by
        split
        · rename_i z
          rcases hb with e | e
          · subst e
            rcases ha with e2 | e2
            · subst e2; omega
            · omega
          · exact e.1
        · exact mb
      obtain ⟨r, r1, r2⟩ := jbf_dom (k := k) (l1 := if q.2 ≤ p.2 then t1 else p :: t1) (l2 := if p.2 ≤ q.2 then t2 else q :: t2) (by split <;> assumption) (by split <;> assumption) (by
        by_cases z1 : q.2 ≤ p.2
        · rw [if_pos z1]
          split
          · omega
          · rw [List.length_cons]; omega
        · rw [if_neg z1, if_pos (by omega)]
          rw [List.length_cons]; omega) a b m1 m2
      exact ⟨r, List.mem_cons.mpr (Or.inr r1), r2⟩
def jb (l1 l2 : List Sh) : List Sh := jbf (l1.length + l2.length) l1 l2
theorem jb_frn {S T U : Sh → Prop} {l1 l2 : List Sh} (h1 : Frn S l1) (h2 : Frn T l2) (hU : ∀ r, U r ↔ ∃ p q, S p ∧ T q ∧ r = cmb p q) : Frn U (jb l1 l2) := by
  refine ⟨jbf_srt h1.1 h2.1, fun r hr => ?_, fun r hr => ?_⟩
  · obtain ⟨p, q, p1, q1, e⟩ := jbf_mem hr
    exact (hU r).mpr ⟨p, q, h1.2.1 p p1, h2.2.1 q q1, e⟩
  · obtain ⟨p, q, p1, q1, e⟩ := (hU r).mp hr
    obtain ⟨p', p2, p3⟩ := h1.2.2 p p1
    obtain ⟨q', q2, q3⟩ := h2.2.2 q q1
    obtain ⟨s, s1, s2⟩ := jbf_dom h1.1 h2.1 (Nat.le_refl _) p' q' p2 q2
    refine ⟨s, s1, ?_⟩
    subst e
    unfold dom cmb at *
    constructor
    · have := s2.1; show s.1 ≤ p.1 + q.1; have : s.1 ≤ p'.1 + q'.1 := s2.1; omega
    · have : s.2 ≤ max p'.2 q'.2 := s2.2
      show s.2 ≤ max p.2 q.2
      omega
theorem jbf_len : ∀ {k : Nat} {l1 l2 : List Sh}, l1 ≠ [] → l2 ≠ [] → (jbf k l1 l2).length + 1 ≤ l1.length + l2.length
  | _, [], _, h, _ => absurd rfl h
  | _, _ :: _, [], _, h => absurd rfl h
  | 0, p :: t1, q :: t2, _, _ => by show 0 + 1 ≤ t1.length + 1 + (t2.length + 1); omega
  | k + 1, p :: t1, q :: t2, _, _ => by
    show (cmb p q :: jbf k (if q.2 ≤ p.2 then t1 else p :: t1) (if p.2 ≤ q.2 then t2 else q :: t2)).length + 1 ≤ t1.length + 1 + (t2.length + 1)
    rw [List.length_cons]
    have key : ∀ x y : List Sh, x.length ≤ t1.length + 1 → y.length ≤ t2.length + 1 → x.length + y.length ≤ t1.length + t2.length + 1 → (jbf k x y).length + 1 ≤ t1.length + t2.length + 1 := by
      intro x y hx hy hxy
      by_cases ex : x = []
      · subst ex
        cases k <;> (show 0 + 1 ≤ _; omega)
      · by_cases ey : y = []
        · subst ey
          have : jbf k x [] = [] := by
            cases k with
            | zero => rfl
            | succ k => cases x <;> rfl
          rw [this]; show 0 + 1 ≤ _; omega
        · have := jbf_len (k := k) ex ey
          omega
    have := key (if q.2 ≤ p.2 then t1 else p :: t1) (if p.2 ≤ q.2 then t2 else q :: t2) (by split <;> simp) (by split <;> simp) (by
      by_cases z1 : q.2 ≤ p.2
      · rw [if_pos z1]
        split
        · omega
        · rw [List.length_cons]; omega
      · rw [if_neg z1, if_pos (by omega)]
        rw [List.length_cons]; omega)
    omega
/-- width and height changed for one another, from the other end -/
def swp (p : Sh) : Sh := (p.2, p.1)
def swr (L : List Sh) : List Sh := (L.map swp).reverse
theorem swr_mem {L : List Sh} {p : Sh} : p ∈ swr L ↔ swp p ∈ L := by
  unfold swr
  rw [List.mem_reverse, List.mem_map]
  constructor
  · rintro ⟨q, h, rfl⟩; exact h
  · intro h; exact ⟨swp p, h, rfl⟩
theorem swr_srt {L : List Sh} (h : Srt L) : Srt (swr L) := by
  unfold swr Srt
  rw [List.pairwise_reverse, List.pairwise_map]
  exact h.imp (fun {a b} h => ⟨h.2, h.1⟩)
theorem swr_frn {S : Sh → Prop} {L : List Sh} (h : Frn S L) : Frn (fun p => S (swp p)) (swr L) := by
  refine ⟨swr_srt h.1, fun p hp => h.2.1 _ (swr_mem.mp hp), fun q hq => ?_⟩
  obtain ⟨p, p1, p2⟩ := h.2.2 _ hq
  exact ⟨swp p, swr_mem.mpr p1, p2.2, p2.1⟩
theorem swr_len (L : List Sh) : (swr L).length = L.length := by unfold swr; rw [List.length_reverse, List.length_map]
/-! what a row of cuts can measure -/
def ShS (w h : Nat → Nat) (op td : Nat) (e : Ex) (p : Sh) : Prop := ∃ u : Nat, (∀ b ∈ Ex.lvs e, op.testBit b = false → u.testBit b = td.testBit b) ∧ p = (exw (swd w h u) (swd h w u) e, exh (swd w h u) (swd h w u) e)
theorem exwh_cg {W H W' H' : Nat → Nat} : ∀ (e : Ex), (∀ b ∈ Ex.lvs e, W b = W' b ∧ H b = H' b) → exw W H e = exw W' H' e ∧ exh W H e = exh W' H' e
  | .leaf b, q => q b (List.mem_singleton.mpr rfl)
  | .branch t a b, q => by
    have ha := exwh_cg a (fun c hc => q c (List.mem_append.mpr (Or.inl hc)))
    have hb := exwh_cg b (fun c hc => q c (List.mem_append.mpr (Or.inr hc)))
    show (if t = 12 then exw W H a + exw W H b else max (exw W H a) (exw W H b)) = (if t = 12 then exw W' H' a + exw W' H' b else max (exw W' H' a) (exw W' H' b)) ∧ (if t = 12 then max (exh W H a) (exh W H b) else exh W H a + exh W H b) = (if t = 12 then max (exh W' H' a) (exh W' H' b) else exh W' H' a + exh W' H' b)
    rw [ha.1, ha.2, hb.1, hb.2]
    exact ⟨rfl, rfl⟩
theorem swd_cg {w h : Nat → Nat} {u v b : Nat} (e : u.testBit b = v.testBit b) : swd w h u b = swd w h v b ∧ swd h w u b = swd h w v b := by
  unfold swd
  rw [e]; exact ⟨rfl, rfl⟩
/-- the bits of u on m, of v elsewhere -/
def mixb (u v m : Nat) : Nat := (u &&& m) ||| clr v m
theorem mixb_bit (u v m i : Nat) : (mixb u v m).testBit i = if m.testBit i = true then u.testBit i else v.testBit i := by
  unfold mixb
  rw [Nat.testBit_or, Nat.testBit_and, clr_bit]
  cases m.testBit i <;> simp
theorem shs_br {w h : Nat → Nat} {op td t : Nat} {a b : Ex} (hd : ∀ c ∈ Ex.lvs a, ¬ c ∈ Ex.lvs b) (r : Sh) : ShS w h op td (.branch t a b) r ↔ ∃ p q, ShS w h op td a p ∧ ShS w h op td b q ∧ r = (if t = 12 then cmb p q else swp (cmb (swp p) (swp q))) := by
  have hb : ∀ (W H : Nat → Nat), (exw W H (.branch t a b), exh W H (.branch t a b)) = (if t = 12 then cmb (exw W H a, exh W H a) (exw W H b, exh W H b) else swp (cmb (swp (exw W H a, exh W H a)) (swp (exw W H b, exh W H b)))) := fun W H => by
    show ((if t = 12 then exw W H a + exw W H b else max (exw W H a) (exw W H b)), (if t = 12 then max (exh W H a) (exh W H b) else exh W H a + exh W H b)) = _
    by_cases z : t = 12
    · rw [if_pos z, if_pos z, if_pos z]; rfl
    · rw [if_neg z, if_neg z, if_neg z]; rfl
  constructor
  · rintro ⟨u, h1, rfl⟩
    exact ⟨_, _, ⟨u, fun c hc => h1 c (List.mem_append.mpr (Or.inl hc)), rfl⟩, ⟨u, fun c hc => h1 c (List.mem_append.mpr (Or.inr hc)), rfl⟩, hb _ _⟩
  · rintro ⟨p, q, ⟨u, h1, rfl⟩, ⟨v, h2, rfl⟩, rfl⟩
    have ba : ∀ c ∈ Ex.lvs a, (mixb u v (exm a)).testBit c = u.testBit c := fun c hc => by
      rw [mixb_bit, exm_bit, if_pos (decide_eq_true hc)]
    have bb : ∀ c ∈ Ex.lvs b, (mixb u v (exm a)).testBit c = v.testBit c := fun c hc => by
      rw [mixb_bit, exm_bit, if_neg (by rw [decide_eq_true_iff]; exact fun z => hd c z hc)]
    refine ⟨mixb u v (exm a), fun c hc ho => ?_, ?_⟩
    · rcases List.mem_append.mp hc with z | z
      · rw [ba c z]; exact h1 c z ho
      · rw [bb c z]; exact h2 c z ho
    · have ea := exwh_cg (W := swd w h (mixb u v (exm a))) (H := swd h w (mixb u v (exm a))) (W' := swd w h u) (H' := swd h w u) a (fun c hc => swd_cg (ba c hc))
      have eb := exwh_cg (W := swd w h (mixb u v (exm a))) (H := swd h w (mixb u v (exm a))) (W' := swd w h v) (H' := swd h w v) b (fun c hc => swd_cg (bb c hc))
      rw [hb, ea.1, ea.2, eb.1, eb.2]
def lcl (w h : Nat → Nat) (op td b : Nat) : List Sh := if op.testBit b = true ∧ w b ≠ h b then [(min (w b) (h b), max (w b) (h b)), (max (w b) (h b), min (w b) (h b))] else if td.testBit b = true then [(h b, w b)] else [(w b, h b)]
def lc (w h : Nat → Nat) (op td : Nat) : Ex → List Sh
  | .leaf b => lcl w h op td b
  | .branch t a b => if t = 12 then jb (lc w h op td a) (lc w h op td b) else swr (jb (swr (lc w h op td a)) (swr (lc w h op td b)))
theorem lcl_frn {w h : Nat → Nat} {op td b : Nat} : Frn (ShS w h op td (.leaf b)) (lcl w h op td b) := by
  have hS : ∀ p, ShS w h op td (.leaf b) p ↔ ∃ z : Bool, (op.testBit b = false → z = td.testBit b) ∧ p = (if z = true then (h b, w b) else (w b, h b)) := fun p => by
    constructor
    · rintro ⟨u, h1, rfl⟩
      refine ⟨u.testBit b, fun q => h1 b (List.mem_singleton.mpr rfl) q, ?_⟩
      show (swd w h u b, swd h w u b) = _
      unfold swd
      cases u.testBit b <;> rfl
    · rintro ⟨z, h1, rfl⟩
      refine ⟨if z = true then 2 ^ b else 0, fun c hc ho => ?_, ?_⟩
      · have hc : c = b := List.mem_singleton.mp hc
        subst hc
        rw [← h1 ho]
        cases z
        · rw [if_neg (by decide), Nat.zero_testBit]
        · rw [if_pos rfl, Nat.testBit_two_pow]; simp
      · show _ = (swd w h _ b, swd h w _ b)
        unfold swd
        cases z
        · simp
        · rw [if_pos rfl, if_pos rfl, Nat.testBit_two_pow]; simp
  refine Frn.cg (S := fun p => ∃ z : Bool, (op.testBit b = false → z = td.testBit b) ∧ p = (if z = true then (h b, w b) else (w b, h b))) ?_ (fun p => (hS p).symm)
  unfold lcl
  by_cases q : op.testBit b = true ∧ w b ≠ h b
  · rw [if_pos q]
    refine ⟨?_, fun p hp => ?_, fun p ⟨z, _, e⟩ => ?_⟩
    · refine List.pairwise_cons.mpr ⟨fun r hr => ?_, List.pairwise_singleton _ _⟩
      have hr : r = (max (w b) (h b), min (w b) (h b)) := List.mem_singleton.mp hr
      rw [hr]
      show min (w b) (h b) < max (w b) (h b) ∧ min (w b) (h b) < max (w b) (h b)
      omega
    · have hne : ∀ z : Bool, op.testBit b = false → z = td.testBit b := fun z hz => by rw [q.1] at hz; cases hz
      rcases List.mem_cons.mp hp with e | e
      · by_cases hwh : w b ≤ h b
        · exact ⟨false, hne _, by rw [e, if_neg (by decide), Nat.min_eq_left hwh, Nat.max_eq_right hwh]⟩
        · exact ⟨true, hne _, by rw [e, if_pos rfl, Nat.min_eq_right (by omega), Nat.max_eq_left (by omega)]⟩
      · have e : p = (max (w b) (h b), min (w b) (h b)) := List.mem_singleton.mp e
        by_cases hwh : w b ≤ h b
        · exact ⟨true, hne _, by rw [e, if_pos rfl, Nat.min_eq_left hwh, Nat.max_eq_right hwh]⟩
        · exact ⟨false, hne _, by rw [e, if_neg (by decide), Nat.min_eq_right (by omega), Nat.max_eq_left (by omega)]⟩
    · by_cases hp : p.1 ≤ p.2
      · refine ⟨_, List.mem_cons.mpr (Or.inl rfl), ?_⟩
        subst e
        unfold dom
        cases z
        · simp only [Bool.false_eq_true, if_false] at hp ⊢; omega
        · simp only [if_true] at hp ⊢; omega
      · refine ⟨_, List.mem_cons.mpr (Or.inr (List.mem_singleton.mpr rfl)), ?_⟩
        subst e
        unfold dom
        cases z
        · simp only [Bool.false_eq_true, if_false] at hp ⊢; omega
        · simp only [if_true] at hp ⊢; omega
  · rw [if_neg q]
    have one : ∀ x : Sh, (∃ z : Bool, (op.testBit b = false → z = td.testBit b) ∧ x = (if z = true then (h b, w b) else (w b, h b))) → (∀ p, (∃ z : Bool, (op.testBit b = false → z = td.testBit b) ∧ p = (if z = true then (h b, w b) else (w b, h b))) → p = x) → Frn (fun p => ∃ z : Bool, (op.testBit b = false → z = td.testBit b) ∧ p = (if z = true then (h b, w b) else (w b, h b))) [x] := fun x h1 h2 =>
      ⟨List.pairwise_singleton _ _, fun p hp => by rw [List.mem_singleton.mp hp]; exact h1, fun p hp => ⟨x, List.mem_singleton.mpr rfl, by rw [h2 p hp]; exact ⟨Nat.le_refl _, Nat.le_refl _⟩⟩⟩
    have all : ∀ z : Bool, (op.testBit b = false → z = td.testBit b) → (if z = true then (h b, w b) else (w b, h b) : Sh) = (if td.testBit b = true then (h b, w b) else (w b, h b)) := fun z hz => by
      cases ho : op.testBit b
      · rw [hz ho]
      · have : w b = h b := Classical.byContradiction fun n => q ⟨ho, n⟩
        rw [this]
        split <;> split <;> rfl
    by_cases ht : td.testBit b = true
    · rw [if_pos ht]
      exact one _ ⟨true, fun _ => ht.symm, rfl⟩ (fun p ⟨z, hz, e⟩ => by rw [e, all z hz, if_pos ht])
    · rw [if_neg ht]
      exact one _ ⟨false, fun _ => by rw [Bool.not_eq_true] at ht; exact ht.symm, rfl⟩ (fun p ⟨z, hz, e⟩ => by rw [e, all z hz, if_neg ht])
theorem lc_frn {w h : Nat → Nat} {op td : Nat} : ∀ (e : Ex), (Ex.lvs e).Nodup → Frn (ShS w h op td e) (lc w h op td e)
  | .leaf b, _ => lcl_frn
  | .branch t a b, hd => by
    have hd : (Ex.lvs a ++ Ex.lvs b).Nodup := hd
    obtain ⟨d1, d2, d3⟩ := List.nodup_append.mp hd
    have fa := lc_frn (w := w) (h := h) (op := op) (td := td) a d1
    have fb := lc_frn (w := w) (h := h) (op := op) (td := td) b d2
    have br := shs_br (w := w) (h := h) (op := op) (td := td) (t := t) (a := a) (b := b) (fun c h1 h2 => d3 c h1 c h2 rfl)
    show Frn _ (if t = 12 then jb (lc w h op td a) (lc w h op td b) else swr (jb (swr (lc w h op td a)) (swr (lc w h op td b))))
    by_cases z : t = 12
    · rw [if_pos z]
      exact jb_frn fa fb (fun r => by rw [br r]; simp only [if_pos z])
    · rw [if_neg z]
      have := swr_frn (jb_frn (U := fun r => ∃ p q, ShS w h op td a (swp p) ∧ ShS w h op td b (swp q) ∧ r = cmb p q) (swr_frn fa) (swr_frn fb) (fun r => Iff.rfl))
      refine this.cg (fun p => ?_)
      rw [br p]
      simp only [if_neg z]
      constructor
      · rintro ⟨x, y, h1, h2, h3⟩
        exact ⟨swp x, swp y, h1, h2, by show p = swp (cmb x y); rw [← h3]; rfl⟩
      · rintro ⟨x, y, h1, h2, h3⟩
        exact ⟨swp x, swp y, h1, h2, by rw [h3]; rfl⟩
theorem lc_len {w h : Nat → Nat} {op td : Nat} : ∀ (e : Ex), (Ex.lvs e).Nodup → 1 ≤ (lc w h op td e).length ∧ (lc w h op td e).length ≤ (Ex.lvs e).length + 1
  | .leaf b, _ => by
    show 1 ≤ (lcl w h op td b).length ∧ (lcl w h op td b).length ≤ 1 + 1
    unfold lcl
    split
    · exact ⟨by show 1 ≤ 2; omega, by show 2 ≤ 2; omega⟩
    · split <;> exact ⟨by show 1 ≤ 1; omega, by show 1 ≤ 2; omega⟩
  | .branch t a b, hd => by
    have hd' : (Ex.lvs a ++ Ex.lvs b).Nodup := hd
    obtain ⟨d1, d2, d3⟩ := List.nodup_append.mp hd'
    have la := lc_len (w := w) (h := h) (op := op) (td := td) a d1
    have lb := lc_len (w := w) (h := h) (op := op) (td := td) b d2
    have ne : ∀ L : List Sh, 1 ≤ L.length → L ≠ [] := fun L hL e => by subst e; exact absurd hL (by decide)
    have pos : 1 ≤ (lc w h op td (.branch t a b)).length := by
      obtain ⟨p, p1, _⟩ := (lc_frn (w := w) (h := h) (op := op) (td := td) (.branch t a b) hd).2.2 _ ⟨td, fun _ _ _ => rfl, rfl⟩
      exact List.length_pos_of_mem p1
    refine ⟨pos, ?_⟩
    show (if t = 12 then jb (lc w h op td a) (lc w h op td b) else swr (jb (swr (lc w h op td a)) (swr (lc w h op td b)))).length ≤ (Ex.lvs a ++ Ex.lvs b).length + 1
    rw [List.length_append]
    by_cases z : t = 12
    · rw [if_pos z]
      have := jbf_len (k := (lc w h op td a).length + (lc w h op td b).length) (ne _ la.1) (ne _ lb.1)
      show (jbf _ _ _).length ≤ _
      omega
    · rw [if_neg z, swr_len]
      have := jbf_len (k := (swr (lc w h op td a)).length + (swr (lc w h op td b)).length) (l1 := swr (lc w h op td a)) (l2 := swr (lc w h op td b)) (ne _ (by rw [swr_len]; exact la.1)) (ne _ (by rw [swr_len]; exact lb.1))
      rw [swr_len, swr_len] at this
      show (jbf _ _ _).length ≤ _
      rw [swr_len, swr_len]
      omega
