/-! least: the first best of a list of tellings -/
def FM (f : Nat → Nat) (tb u : Nat) : Prop := u &&& tb = u ∧ ∀ v, v &&& tb = v → f u ≤ f v ∧ (v < u → f u < f v)
theorem FM.un {f : Nat → Nat} {tb u v : Nat} (h1 : FM f tb u) (h2 : FM f tb v) : u = v := by
  have a := h1.2 v h2.1
  have b := h2.2 u h1.1
  rcases Nat.lt_trichotomy u v with q | q | q
  · have := b.2 q; omega
  · exact q
  · have := a.2 q; omega
theorem FM.ex (f : Nat → Nat) (tb : Nat) : ∃ u, FM f tb u := by
  obtain ⟨m, ⟨v, h1, h2⟩, h3⟩ := least_ex (P := fun m => ∃ v, v &&& tb = v ∧ f v = m) (f 0) ⟨0, Nat.zero_and tb, rfl⟩
  obtain ⟨u, ⟨g1, g2⟩, g3⟩ := least_ex (P := fun v => v &&& tb = v ∧ f v = m) v ⟨h1, h2⟩
  refine ⟨u, g1, fun x hx => ?_⟩
  have q1 : f u ≤ f x := Nat.le_of_not_lt fun q => h3 (f x) (by omega) ⟨x, hx, rfl⟩
  refine ⟨q1, fun hlt => Nat.lt_of_le_of_ne q1 fun e => g3 x hlt ⟨hx, by omega⟩⟩
theorem FM.sq {f : Nat → Nat} {tb tc u : Nat} (hs : ∀ v, v &&& tb = v → f v = f (v &&& tc)) (ht : tc &&& tb = tc) (h : FM f tc u) : FM f tb u := by
  refine ⟨by rw [← h.1, Nat.and_assoc, ht], fun v hv => ?_⟩
  have := h.2 (v &&& tc) (by rw [Nat.and_assoc, Nat.and_self])
  rw [hs v hv]
  have l : v &&& tc ≤ v := Nat.and_le_left
  exact ⟨this.1, fun q => this.2 (by omega)⟩
def Bst {τ : Type} (g : τ → Nat → Nat) (tb : Nat) (V : List τ) (t : τ) (u : Nat) : Prop := FM (g t) tb u ∧ ∃ V1 V2, V = V1 ++ t :: V2 ∧ (∀ s ∈ V1, ∀ v, v &&& tb = v → g t u < g s v) ∧ ∀ s ∈ V2, ∀ v, v &&& tb = v → g t u ≤ g s v
theorem Bst.all {τ : Type} {g : τ → Nat → Nat} {tb : Nat} {V : List τ} {t : τ} {u : Nat} (h : Bst g tb V t u) : ∀ s ∈ V, ∀ v, v &&& tb = v → g t u ≤ g s v := by
  obtain ⟨h1, V1, V2, rfl, h2, h3⟩ := h
  intro s hs v hv
  rcases List.mem_append.mp hs with q | q
  · exact Nat.le_of_lt (h2 s q v hv)
  · rcases List.mem_cons.mp q with e | q
    · rw [e]; exact (h1.2 v hv).1
    · exact h3 s q v hv
theorem Bst.mem {τ : Type} {g : τ → Nat → Nat} {tb : Nat} {V : List τ} {t : τ} {u : Nat} (h : Bst g tb V t u) : t ∈ V := by
  obtain ⟨_, V1, V2, rfl, _, _⟩ := h
  exact List.mem_append.mpr (Or.inr (List.mem_cons.mpr (Or.inl rfl)))
theorem bst_un1 {τ : Type} {g : τ → Nat → Nat} {tb : Nat} {V1 V2 X Y : List τ} {t s : τ} {u v : Nat} (h1 : FM (g t) tb u) (k1 : FM (g s) tb v) (h3 : ∀ s ∈ V2, ∀ v, v &&& tb = v → g t u ≤ g s v) (k2 : ∀ t ∈ V1 ++ X, ∀ u, u &&& tb = u → g s v < g t u) (e : t :: V2 = X ++ s :: Y) : t = s := by
  cases X with
  | nil => exact (List.cons.inj e).1
  | cons x X =>
    obtain ⟨e1, e2⟩ := List.cons.inj (show t :: V2 = x :: (X ++ s :: Y) from e)
    subst e1 e2
    have a := k2 t (List.mem_append.mpr (Or.inr (List.mem_cons.mpr (Or.inl rfl)))) u h1.1
    have b := h3 s (List.mem_append.mpr (Or.inr (List.mem_cons.mpr (Or.inl rfl)))) v k1.1
    omega
theorem Bst.un {τ : Type} {g : τ → Nat → Nat} {tb : Nat} {V : List τ} {t s : τ} {u v : Nat} (h : Bst g tb V t u) (k : Bst g tb V s v) : t = s ∧ u = v := by
  obtain ⟨h1, V1, V2, e, h2, h3⟩ := h
  obtain ⟨k1, W1, W2, e', k2, k3⟩ := k
  rw [e] at e'
  have key : t = s := by
    rcases List.append_eq_append_iff.mp e' with ⟨X, x1, x2⟩ | ⟨X, x1, x2⟩
    · subst x1
      exact bst_un1 h1 k1 h3 k2 x2
    · subst x1
      exact (bst_un1 k1 h1 k3 h2 x2).symm
  subst key
  exact ⟨rfl, h1.un k1⟩
theorem Bst.skip {τ : Type} {g : τ → Nat → Nat} {tb : Nat} {V X : List τ} {t : τ} {u : Nat} (h : Bst g tb V t u) (hx : ∀ s ∈ X, ∀ v, v &&& tb = v → g t u ≤ g s v) : Bst g tb (V ++ X) t u := by
  obtain ⟨h1, V1, V2, rfl, h2, h3⟩ := h
  refine ⟨h1, V1, V2 ++ X, by rw [List.append_assoc]; rfl, h2, fun s hs => ?_⟩
  rcases List.mem_append.mp hs with q | q
  · exact h3 s q
  · exact hx s q
/-- nothing was tried, or G is the best's -/
def CS {τ : Type} (g : τ → Nat → Nat) (tb : Nat) (V : List τ) (G : Nat) (D : τ → Nat → Prop) : Prop := (V = [] ∧ G = 2147483647) ∨ ∃ t u, Bst g tb V t u ∧ G = g t u ∧ D t u
theorem CS.lo {τ : Type} {g : τ → Nat → Nat} {tb : Nat} {V : List τ} {G : Nat} {D : τ → Nat → Prop} (h : CS g tb V G D) : ∀ s ∈ V, ∀ v, v &&& tb = v → G ≤ g s v := by
  rcases h with ⟨rfl, _⟩ | ⟨t, u, h1, rfl, _⟩
  · intro s hs; cases hs
  · exact h1.all
theorem CS.skip {τ : Type} {g : τ → Nat → Nat} {tb : Nat} {V X : List τ} {G : Nat} {D E : τ → Nat → Prop} (h : CS g tb V G D) (hx : ∀ s ∈ X, ∀ v, v &&& tb = v → G ≤ g s v) (hb : ∀ s ∈ X, g s 0 < 2147483647) (hd : ∀ t u, D t u → E t u) : CS g tb (V ++ X) G E := by
  rcases h with ⟨rfl, hG⟩ | ⟨t, u, h1, h2, h3⟩
  · cases X with
    | nil => exact Or.inl ⟨rfl, hG⟩
    | cons x X =>
      have a := hx x (List.mem_cons.mpr (Or.inl rfl)) 0 (Nat.zero_and tb)
      have b := hb x (List.mem_cons.mpr (Or.inl rfl))
      omega
  · subst h2
    exact Or.inr ⟨t, u, h1.skip hx, rfl, hd t u h3⟩
theorem CS.nw {τ : Type} {g : τ → Nat → Nat} {tb : Nat} {V : List τ} {G : Nat} {D E : τ → Nat → Prop} {t : τ} {u : Nat} (h : CS g tb V G D) (h1 : FM (g t) tb u) (h2 : g t u < G) (hd : E t u) : CS g tb (V ++ [t]) (g t u) E :=
  Or.inr ⟨t, u, ⟨h1, V, [], rfl, fun s hs v hv => Nat.lt_of_lt_of_le h2 (h.lo s hs v hv), fun s hs => by cases hs⟩, rfl, hd⟩
theorem CS.mp {τ : Type} {g : τ → Nat → Nat} {tb : Nat} {V : List τ} {G : Nat} {D E : τ → Nat → Prop} (h : CS g tb V G D) (hd : ∀ t u, D t u → E t u) : CS g tb V G E := by
  rcases h with h | ⟨t, u, h1, h2, h3⟩
  · exact Or.inl h
  · exact Or.inr ⟨t, u, h1, h2, hd t u h3⟩
/-! chains -/
theorem mxn_at (f : Nat → Nat) : ∀ n, mxn f n = 0 ∨ ∃ i, i < n ∧ mxn f n = f i
  | 0 => Or.inl rfl
  | n + 1 => by
    rw [mxn_s]
    by_cases q : mxn f n ≤ f n
    · exact Or.inr ⟨n, by omega, by omega⟩
    · rcases mxn_at f n with e | ⟨i, hi, e⟩
      · omega
      · exact Or.inr ⟨i, by omega, by omega⟩
def wsm (W : Nat → Nat) : List Nat → Nat
  | [] => 0
  | a :: t => W a + wsm W t
theorem wsm_app (W : Nat → Nat) : ∀ a b : List Nat, wsm W (a ++ b) = wsm W a + wsm W b
  | [], b => (Nat.zero_add _).symm
  | x :: a, b => by
    show W x + wsm W (a ++ b) = W x + wsm W a + wsm W b
    rw [wsm_app W a b]; omega
theorem wsm_rev (W : Nat → Nat) : ∀ a : List Nat, wsm W a.reverse = wsm W a
  | [] => rfl
  | x :: a => by
    rw [List.reverse_cons, wsm_app, wsm_rev W a]
    show wsm W a + (W x + 0) = W x + wsm W a
    omega
def MXC (R : Nat → Nat → Prop) (W : Nat → Nat) (n s : Nat) : Prop := (∀ c : List Nat, c.Pairwise R → (∀ b ∈ c, b < n) → wsm W c ≤ s) ∧ ∃ c : List Nat, c.Pairwise R ∧ (∀ b ∈ c, b < n) ∧ wsm W c = s
theorem MXC.un {R : Nat → Nat → Prop} {W : Nat → Nat} {n s t : Nat} (h : MXC R W n s) (k : MXC R W n t) : s = t := by
  obtain ⟨a1, c, c1, c2, c3⟩ := h
  obtain ⟨b1, d, d1, d2, d3⟩ := k
  have := a1 d d1 d2
  have := b1 c c1 c2
  omega
theorem pw_cg {R S : Nat → Nat → Prop} {n : Nat} (hRS : ∀ a b, a < n → b < n → R a b → S a b) : ∀ {c : List Nat}, (∀ b ∈ c, b < n) → c.Pairwise R → c.Pairwise S
  | [], _, _ => List.Pairwise.nil
  | x :: c, hm, h => by
    obtain ⟨h1, h2⟩ := List.pairwise_cons.mp h
    have hx := hm x (List.mem_cons.mpr (Or.inl rfl))
    exact List.pairwise_cons.mpr ⟨fun y hy => hRS x y hx (hm y (List.mem_cons.mpr (Or.inr hy))) (h1 y hy), pw_cg hRS (fun b hb => hm b (List.mem_cons.mpr (Or.inr hb))) h2⟩
theorem MXC.cg {R S : Nat → Nat → Prop} {W : Nat → Nat} {n s : Nat} (hRS : ∀ a b, a < n → b < n → (R a b ↔ S a b)) (h : MXC R W n s) : MXC S W n s := by
  obtain ⟨a1, c, c1, c2, c3⟩ := h
  exact ⟨fun d d1 d2 => a1 d (pw_cg (fun a b ha hb => (hRS a b ha hb).mpr) d2 d1) d2, c, pw_cg (fun a b ha hb => (hRS a b ha hb).mp) c2 c1, c2, c3⟩
theorem MXC.fl {R : Nat → Nat → Prop} {W : Nat → Nat} {n s : Nat} (h : MXC R W n s) : MXC (fun a b => R b a) W n s := by
  obtain ⟨a1, c, c1, c2, c3⟩ := h
  refine ⟨fun d d1 d2 => ?_, c.reverse, List.pairwise_reverse.mpr c1, fun b hb => c2 b (List.mem_reverse.mp hb), by rw [wsm_rev]; exact c3⟩
  rw [← wsm_rev]
  exact a1 d.reverse (List.pairwise_reverse.mpr d1) (fun b hb => d2 b (List.mem_reverse.mp hb))
theorem chain_le {R : Nat → Nat → Prop} {W x : Nat → Nat} {n B : Nat} (hx : ∀ a b, a < n → b < n → R a b → x a + W a ≤ x b) (hB : ∀ b, b < n → x b + W b ≤ B) : ∀ (c : List Nat) (a : Nat), (a :: c).Pairwise R → (∀ b ∈ a :: c, b < n) → x a + wsm W (a :: c) ≤ B
  | [], a, _, hm => by
    have := hB a (hm a (List.mem_cons.mpr (Or.inl rfl)))
    show x a + (W a + 0) ≤ B
    omega
  | b :: c, a, h, hm => by
    obtain ⟨h1, h2⟩ := List.pairwise_cons.mp h
    have ha := hm a (List.mem_cons.mpr (Or.inl rfl))
    have hb := hm b (List.mem_cons.mpr (Or.inr (List.mem_cons.mpr (Or.inl rfl))))
    have := chain_le hx hB c b h2 (fun y hy => hm y (List.mem_cons.mpr (Or.inr hy)))
    have := hx a b ha hb (h1 b (List.mem_cons.mpr (Or.inl rfl)))
    show x a + (W a + wsm W (b :: c)) ≤ B
    omega
theorem lpx_st {W two pos : Nat → Nat} {lf : Bool} {n : Nat} (hP : PermN n two) {i : Nat} : ∀ {j}, i < j → j ≤ n → lpx W two pos lf j (two i) = lpx W two pos lf (i + 1) (two i)
  | 0, h, _ => by omega
  | j + 1, h, hn => by
    by_cases e : i = j
    · rw [e]
    · rw [lpx_s, fset_ne (fun q => e (hP.2 i j (by omega) (by omega) q))]
      exact lpx_st hP (by omega) (by omega)
theorem lpx_e {W two pos : Nat → Nat} {lf : Bool} {n j : Nat} (hP : PermN n two) (hj : j < n) : lpx W two pos lf n (two j) = mxn (fun i => if decide (pos (two i) < pos (two j)) = lf then lpx W two pos lf n (two i) + W (two i) else 0) j := by
  rw [lpx_st hP hj (Nat.le_refl _), lpx_s, fset_eq]
  refine mxn_cg fun i hi => ?_
  unfold lpf
  rw [lpx_st hP hi (by omega), lpx_st hP (show i < n by omega) (Nat.le_refl _)]
def RLx (one two : Nat → Nat) (n : Nat) (lf : Bool) (a b : Nat) : Prop := ps two a n < ps two b n ∧ decide (ps one a n < ps one b n) = lf
theorem RLx_tr {one two : Nat → Nat} {n : Nat} {lf : Bool} {a b c : Nat} (h1 : RLx one two n lf a b) (h2 : RLx one two n lf b c) : RLx one two n lf a c := by
  unfold RLx at *
  refine ⟨by omega, ?_⟩
  cases lf
  · rw [decide_eq_false_iff_not] at *; omega
  · rw [decide_eq_true_iff] at *; omega
theorem lp_hx {one two : Nat → Nat} {n : Nat} {lf : Bool} {W : Nat → Nat} (p2 : PermN n two) : ∀ a b, a < n → b < n → RLx one two n lf a b → lpx W two (fun b => ps one b n) lf n a + W a ≤ lpx W two (fun b => ps one b n) lf n b := by
  intro a b ha hb ⟨r1, r2⟩
  obtain ⟨q1, q2⟩ := p2.pl ha
  obtain ⟨q3, q4⟩ := p2.pl hb
  rw [← q4, lpx_e p2 q3]
  refine Nat.le_trans ?_ (mxn_ge (i := ps two a n) r1)
  show _ ≤ if decide (ps one (two (ps two a n)) n < ps one (two (ps two b n)) n) = lf then _ else 0
  rw [q2, q4, if_pos r2]
  exact Nat.le_refl _
theorem lp_mxc {one two : Nat → Nat} {n : Nat} {lf : Bool} (W : Nat → Nat) (h1n : 1 ≤ n) (p2 : PermN n two) : MXC (RLx one two n lf) W n (rch (lpx W two (fun b => ps one b n) lf n) W n) := by
  have hx := lp_hx (one := one) (lf := lf) (W := W) p2
  have at_ : ∀ j, j < n → ∃ c : List Nat, (c ++ [two j]).Pairwise (RLx one two n lf) ∧ (∀ b ∈ c ++ [two j], b < n) ∧ wsm W (c ++ [two j]) = lpx W two (fun b => ps one b n) lf n (two j) + W (two j) := by
    intro j
    induction j using Nat.strongRecOn with
    | ind j ih =>
      intro hj
      have hm1 : ∀ b ∈ [two j], b < n := fun b hb => by rw [List.mem_singleton.mp hb]; exact p2.1 j hj
      rw [lpx_e p2 hj]
      rcases mxn_at (fun i => if decide (ps one (two i) n < ps one (two j) n) = lf then lpx W two (fun b => ps one b n) lf n (two i) + W (two i) else 0) j with e | ⟨i, hi, e⟩
      · refine ⟨[], List.pairwise_cons.mpr ⟨fun b hb => (by cases hb), List.Pairwise.nil⟩, hm1, ?_⟩
        rw [e]
        show W (two j) + 0 = 0 + W (two j)
        omega
      · rw [e]
        by_cases q : decide (ps one (two i) n < ps one (two j) n) = lf
        · rw [if_pos q]
          obtain ⟨c, c1, c2, c3⟩ := ih i hi (by omega)
          refine ⟨c ++ [two i], ?_, ?_, ?_⟩
          · have rij : RLx one two n lf (two i) (two j) := ⟨by rw [p2.pse (by omega), p2.pse hj]; exact hi, q⟩
            refine List.pairwise_append.mpr ⟨c1, List.pairwise_cons.mpr ⟨fun b hb => (by cases hb), List.Pairwise.nil⟩, fun a ha b hb => ?_⟩
            rw [List.mem_singleton.mp hb]
            rcases List.mem_append.mp ha with y | y
            · exact RLx_tr ((List.pairwise_append.mp c1).2.2 a y (two i) (List.mem_singleton.mpr rfl)) rij
            · rw [List.mem_singleton.mp y]; exact rij
          · intro b hb
            rcases List.mem_append.mp hb with y | y
            · exact c2 b y
            · exact hm1 b y
          · rw [wsm_app, c3]
            show _ + (W (two j) + 0) = _
            omega
        · rw [if_neg q]
          refine ⟨[], List.pairwise_cons.mpr ⟨fun b hb => (by cases hb), List.Pairwise.nil⟩, hm1, ?_⟩
          show W (two j) + 0 = 0 + W (two j)
          omega
  refine ⟨fun c hc hm => ?_, ?_⟩
  · cases c with
    | nil => exact Nat.zero_le _
    | cons a c =>
      have := chain_le (B := rch (lpx W two (fun b => ps one b n) lf n) W n) hx (fun b hb => mxn_ge (f := fun b => lpx W two (fun b => ps one b n) lf n b + W b) hb) c a hc hm
      omega
  · rcases mxn_at (fun b => lpx W two (fun b => ps one b n) lf n b + W b) n with e | ⟨i, hi, e⟩
    · exact ⟨[], List.Pairwise.nil, fun b hb => (by cases hb), e.symm⟩
    · obtain ⟨q1, q2⟩ := p2.pl hi
      obtain ⟨c, c1, c2, c3⟩ := at_ _ q1
      refine ⟨_, c1, c2, ?_⟩
      rw [c3, q2]
      exact e.symm
/-- the ground of a pair -/
def gp (one two : Nat → Nat) (n : Nat) (W H : Nat → Nat) : Nat := rch (lpx W two (fun b => ps one b n) true n) W n * rch (lpx H two (fun b => ps one b n) false n) H n
theorem ps_ne {n : Nat} {f : Nat → Nat} (h : PermN n f) {a b : Nat} (ha : a < n) (hb : b < n) (e : a ≠ b) : ps f a n ≠ ps f b n := fun q => e (by
  rw [← (h.pl ha).2, ← (h.pl hb).2, q])
theorem gp_of {n : Nat} {one two one' two' W H : Nat → Nat} (h1n : 1 ≤ n) (p2 : PermN n two) (q2 : PermN n two') (h1 : (∀ a b, a < n → b < n → (RLx one' two' n true a b ↔ RLx one two n true a b)) ∨ (∀ a b, a < n → b < n → (RLx one' two' n true a b ↔ RLx one two n true b a))) (h2 : (∀ a b, a < n → b < n → (RLx one' two' n false a b ↔ RLx one two n false a b)) ∨ (∀ a b, a < n → b < n → (RLx one' two' n false a b ↔ RLx one two n false b a))) : gp one' two' n W H = gp one two n W H := by
  have key : ∀ lf W, ((∀ a b, a < n → b < n → (RLx one' two' n lf a b ↔ RLx one two n lf a b)) ∨ (∀ a b, a < n → b < n → (RLx one' two' n lf a b ↔ RLx one two n lf b a))) → rch (lpx W two' (fun b => ps one' b n) lf n) W n = rch (lpx W two (fun b => ps one b n) lf n) W n := by
    intro lf W h
    have m1 := lp_mxc (one := one') (lf := lf) W h1n q2
    have m2 := lp_mxc (one := one) (lf := lf) W h1n p2
    rcases h with h | h
    · exact (m1.cg h).un m2
    · exact (m1.cg h).un m2.fl
  unfold gp
  rw [key true W h1, key false H h2]
theorem gp_sw {n : Nat} {one two W H : Nat → Nat} (h1n : 1 ≤ n) (p1 : PermN n one) (p2 : PermN n two) : gp two one n W H = gp one two n W H := by
  refine gp_of h1n p2 p1 (Or.inl fun a b ha hb => ?_) (Or.inr fun a b ha hb => ?_)
  · unfold RLx
    rw [decide_eq_true_iff, decide_eq_true_iff]
    omega
  · unfold RLx
    rw [decide_eq_false_iff_not, decide_eq_false_iff_not]
    by_cases e : a = b
    · subst e; omega
    · have := ps_ne p1 ha hb e
      have := ps_ne p2 ha hb e
      omega
theorem ps_rv {n : Nat} {f f' : Nat → Nat} (h : PermN n f) (h' : PermN n f') (e : ∀ k, k < n → f' k = f (n - 1 - k)) {b : Nat} (hb : b < n) : ps f' b n = n - 1 - ps f b n := by
  obtain ⟨q1, q2⟩ := h.pl hb
  obtain ⟨q3, q4⟩ := h'.pl hb
  have : n - 1 - ps f' b n = ps f b n := h.2 _ _ (by omega) q1 (by rw [← e _ q3, q4, q2])
  omega
theorem gp_rv {n : Nat} {one two one' two' W H : Nat → Nat} (h1n : 1 ≤ n) (p1 : PermN n one) (p2 : PermN n two) (q1 : PermN n one') (q2 : PermN n two') (e1 : ∀ k, k < n → one' k = one (n - 1 - k)) (e2 : ∀ k, k < n → two' k = two (n - 1 - k)) : gp one' two' n W H = gp one two n W H := by
  refine gp_of h1n p2 q2 (Or.inr fun a b ha hb => ?_) (Or.inr fun a b ha hb => ?_)
  all_goals
    unfold RLx
    rw [ps_rv p1 q1 e1 ha, ps_rv p1 q1 e1 hb, ps_rv p2 q2 e2 ha, ps_rv p2 q2 e2 hb]
    have a1 := (p1.pl ha).1
    have a2 := (p1.pl hb).1
    have a3 := (p2.pl ha).1
    have a4 := (p2.pl hb).1
  · rw [decide_eq_true_iff, decide_eq_true_iff]; omega
  · rw [decide_eq_false_iff_not, decide_eq_false_iff_not]; omega
theorem ps_cg {f f' : Nat → Nat} {b : Nat} : ∀ {n}, (∀ k, k < n → f' k = f k) → ps f' b n = ps f b n
  | 0, _ => rfl
  | n + 1, h => by
    show (if f' n = b then n else ps f' b n) = if f n = b then n else ps f b n
    rw [h n (by omega), ps_cg (fun k hk => h k (by omega))]
theorem PermN.cg {n : Nat} {f f' : Nat → Nat} (h : PermN n f) (e : ∀ k, k < n → f' k = f k) : PermN n f' := ⟨fun i hi => by rw [e i hi]; exact h.1 i hi, fun i j hi hj q => h.2 i j hi hj (by rw [← e i hi, ← e j hj]; exact q)⟩
theorem gp_cg {n : Nat} {one two one' two' W H : Nat → Nat} (h1n : 1 ≤ n) (p2 : PermN n two) (e1 : ∀ k, k < n → one' k = one k) (e2 : ∀ k, k < n → two' k = two k) : gp one' two' n W H = gp one two n W H := by
  refine gp_of h1n p2 (p2.cg e2) (Or.inl fun a b ha hb => ?_) (Or.inl fun a b ha hb => ?_)
  all_goals
    unfold RLx
    rw [ps_cg e1, ps_cg e1, ps_cg e2, ps_cg e2]
