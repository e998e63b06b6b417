/-! trees: both tests are one -/
def TVa (lf rt : Nat → Nat) (n : Nat) : Prop := ∀ b, b < n → (lf b < n ∨ lf b = 15) ∧ (rt b < n ∨ rt b = 15)
def TOK (n r : Nat) (lf rt : Nat → Nat) : Prop := TVa lf rt n ∧ (dfs lf rt 30 r 0).2 = 0 ∧ bcn (dfs lf rt 30 r 0).1 n = n
theorem bcn_0 (n : Nat) : bcn 0 n = 0 := by
  induction n with
  | zero => rfl
  | succ n ih => rw [bcn_s, ih, Nat.zero_testBit]; rfl
theorem odn_0 (lf rt : Nat → Nat) (n : Nat) : odn lf rt 0 n = 0 := by
  induction n with
  | zero => rfl
  | succ n ih =>
    show odn lf rt 0 n + (if (0 : Nat).testBit n = true then _ else 0) = 0
    rw [ih, Nat.zero_testBit, if_neg (by decide)]
theorem odn_all (lf rt : Nat → Nat) (n : Nat) : odn lf rt (2 ^ n - 1) n = smn (fun b => chC (lf b) + chC (rt b)) n := smn_cg fun b hb => by
  rw [Nat.testBit_two_pow_sub_one, if_pos (by simp [hb])]
theorem all_of_bcn {m n : Nat} (hm : m < 2 ^ n) (h : bcn m n = n) : m = 2 ^ n - 1 := by
  have hp := Nat.two_pow_pos n
  have hsub : ∀ c, m.testBit c = true → (2 ^ n - 1).testBit c = true := fun c hc => by
    rw [Nat.testBit_two_pow_sub_one, decide_eq_true_iff]
    refine Classical.byContradiction fun q => ?_
    rw [tb_lt hm (by omega : n ≤ c)] at hc
    cases hc
  refine bits_ext hm (by omega) fun c hc => ?_
  cases e1 : m.testBit c
  · have := (bcn_lt (n := n) hsub n).2 c hc (by rw [Nat.testBit_two_pow_sub_one]; simp [hc]) (by rw [e1]; decide)
    rw [bcn_full n n (Nat.le_refl _)] at this
    omega
  · rw [hsub c e1]
theorem tok_iff {lf rt : Nat → Nat} {n r s : Nat} (hn : n ≤ 12) (hr : r < n) (hv : TVa lf rt n) (h1 : s < 2 ^ n) (h2 : s.testBit r = true) (h3 : Clo lf rt n s) (h4 : ∀ C, Clo lf rt n C → C.testBit r = true → ∀ c, s.testBit c = true → C.testBit c = true) : (smn (fun b => chC (lf b) + chC (rt b)) n = n - 1 ∧ s = 2 ^ n - 1) ↔ TOK n r lf rt := by
  have d := dfs_ok hv hn 30 r 0 (Nat.two_pow_pos n) (Or.inl hr) (by omega)
  unfold TOK
  generalize dfs lf rt 30 r 0 = q at d
  have clo : Clo lf rt n q.1 := fun b hb hq => by
    have := d.k b hq (by rw [Nat.zero_testBit]; decide)
    exact ⟨fun z => this.2.1 (by omega), fun z => this.2.2 (by omega)⟩
  have es : s = q.1 := by
    refine bits_ext h1 d.l fun c hc => ?_
    cases e1 : q.1.testBit c
    · cases e2 : s.testBit c
      · rfl
      · have := h4 q.1 clo (d.c (by omega)) c e2
        rw [e1] at this; cases this
    · exact d.m s h3 (fun a ha => by rw [Nat.zero_testBit] at ha; cases ha) (fun _ => h2) c e1
  have e := d.e
  rw [odn_0, bcn_0] at e
  have hc : chC r = 1 := by unfold chC; rw [if_neg (by omega)]
  constructor
  · rintro ⟨c1, c2⟩
    rw [es] at c2
    rw [c2, odn_all, c1, bcn_full n n (Nat.le_refl _), hc] at e
    exact ⟨hv, by omega, by rw [c2]; exact bcn_full n n (Nat.le_refl _)⟩
  · rintro ⟨_, c1, c2⟩
    have ha := all_of_bcn d.l c2
    rw [ha, odn_all, bcn_full n n (Nat.le_refl _), hc] at e
    exact ⟨by omega, by rw [es]; exact ha⟩
theorem ich_y {v n : Nat} (hv : v < 16) (hn : n ≤ 12) (h : v < n ∨ v = 15) : f_X3_isChild (nI v) (nI n) = nI 1 := by
  unfold f_X3_isChild
  rw [pz_15, pz_1]
  by_cases q : v < n
  · rw [if_pos (by rw [pz_lt (by omega) (by omega)]; exact q)]
  · rw [if_neg (by rw [pz_lt (by omega) (by omega)]; exact q), if_pos (by rw [show v = 15 by omega])]
theorem ich_n {v n : Nat} (hv : v < 16) (hn : n ≤ 12) (h : ¬ (v < n ∨ v = 15)) : f_X3_isChild (nI v) (nI n) = nI 0 := by
  unfold f_X3_isChild
  rw [pz_15, pz_0, if_neg (by rw [pz_lt (by omega) (by omega)]; omega), if_neg (by rw [pz_eq (by omega) (by omega)]; omega)]
theorem chC_lt (c : Nat) : chC c ≤ 1 := by unfold chC; split <;> omega
theorem cit_ok {n r : Nat} (hn : n ≤ 12) (hr : r < n) (a b : Int64) : (TOK n r (nib a) (nib b) → f_X3_isTree (nI r) a b (nI n) = some (nI 1)) ∧ (¬ TOK n r (nib a) (nib b) → f_X3_isTree (nI r) a b (nI n) = some (nI 0)) := by
  have key : Wp (f_X3_isTree (nI r) a b (nI n)) (fun x => (TOK n r (nib a) (nib b) ∧ x = nI 1) ∨ (¬ TOK n r (nib a) (nib b) ∧ x = nI 0)) := by
    unfold f_X3_isTree
    rw [pz_0, if_neg (by rw [pz_lt (by omega) (by omega)]; omega), if_pos (by rw [pz_lt (by omega) (by omega)]; exact hr)]
    have nl : ∀ i, i < n → nib a i < 16 ∧ nib b i < 16 := fun i hi => ⟨nib_lt a (by omega), nib_lt b (by omega)⟩
    generalize hf : (fun b' => chC (nib a b') + chC (nib b b')) = f
    have hfi : ∀ i, f i = chC (nib a i) + chC (nib b i) := fun i => by rw [← hf]
    have sb : ∀ i, smn f i ≤ 2 * i := by
      intro i
      have := smn_le (f := f) (B := 2) (n := i) (fun j _ => by rw [hfi]; have := chC_lt (nib a j); have := chC_lt (nib b j); omega)
      omega
    refine wp_b (P := fun x => (x = .inl (nI (smn f n)) ∧ TVa (nib a) (nib b) n) ∨ (x = .inr (nI 0) ∧ ¬ TVa (nib a) (nib b) n)) ?_ ?_
    · refine wp_l (fun i (v : Int32 × Int32) => v.1 = nI (smn f i) ∧ v.2 = nI i ∧ ∀ c, c < i → (nib a c < n ∨ nib a c = 15) ∧ (nib b c < n ∨ nib b c = 15)) n (fu_lt (by omega)) ?_ ?_ ⟨rfl, rfl, fun c hc => by omega⟩
      · rintro i ⟨x6, x7⟩ hi ⟨a1, a2, a3⟩
        have a1 : x6 = nI (smn f i) := a1
        have a2 : x7 = nI i := a2
        subst a1 a2
        obtain ⟨n1, n2⟩ := nl i hi
        show Wp (f_X3_isTree_L18 a b (nI n) (nI (smn f i)) (nI i)) _
        unfold f_X3_isTree_L18 f_X3_isTree_J77 f_X3_isTree_J89
        rw [if_neg (by rw [pz_le (by omega) (by omega)]; omega), pz_lt1, pz_lt1, nib_e, nib_e]
        by_cases c1 : nib a i < n ∨ nib a i = 15
        · rw [ich_y n1 hn c1, pz_0, if_neg (by decide)]
          by_cases c2 : nib b i < n ∨ nib b i = 15
          · rw [ich_y n2 hn c2, if_neg (by decide), pz_15, pz_1]
            have fin : ∀ u v, u = chC (nib a i) → v = chC (nib b i) → Wp (lt1 (nI (smn f i) + (nI u + nI v)) fun x6_17 => lt1 (nI i + nI 1) fun x7_18 => (some (.inl (x6_17, x7_18)) : Option ((Int32 × Int32) ⊕ (Int32 ⊕ Int32)))) (fun r => (∃ w, r = .inl w ∧ w.1 = nI (smn f (i + 1)) ∧ w.2 = nI (i + 1) ∧ ∀ c, c < i + 1 → (nib a c < n ∨ nib a c = 15) ∧ (nib b c < n ∨ nib b c = 15)) ∨ ∃ x, r = .inr x ∧ ((x = .inl (nI (smn f n)) ∧ TVa (nib a) (nib b) n) ∨ (x = .inr (nI 0) ∧ ¬ TVa (nib a) (nib b) n))) := by
              rintro u v rfl rfl
              rw [pz_lt1, pz_lt1, pz_add, pz_add, pz_add, ← hfi]
              refine wp_s (Or.inl ⟨_, rfl, rfl, rfl, fun c hc => ?_⟩)
              by_cases e : c = i
              · rw [e]; exact ⟨c1, c2⟩
              · exact a3 c (by omega)
            by_cases z1 : nib a i = 15
            · rw [if_pos (by rw [z1])]
              by_cases z2 : nib b i = 15
              · rw [if_pos (by rw [z2])]
                exact fin 0 0 (by unfold chC; rw [if_pos z1]) (by unfold chC; rw [if_pos z2])
              · rw [if_neg (by rw [pz_eq (by omega) (by omega)]; exact z2)]
                exact fin 0 1 (by unfold chC; rw [if_pos z1]) (by unfold chC; rw [if_neg z2])
            · rw [if_neg (by rw [pz_eq (by omega) (by omega)]; exact z1)]
              by_cases z2 : nib b i = 15
              · rw [if_pos (by rw [z2])]
                exact fin 1 0 (by unfold chC; rw [if_neg z1]) (by unfold chC; rw [if_pos z2])
              · rw [if_neg (by rw [pz_eq (by omega) (by omega)]; exact z2)]
                exact fin 1 1 (by unfold chC; rw [if_neg z1]) (by unfold chC; rw [if_neg z2])
          · rw [ich_n n2 hn c2, if_pos rfl]
            exact wp_s (Or.inr ⟨_, rfl, Or.inr ⟨rfl, fun q => c2 (q i hi).2⟩⟩)
        · rw [ich_n n1 hn c1, pz_0, if_pos rfl]
          exact wp_s (Or.inr ⟨_, rfl, Or.inr ⟨rfl, fun q => c1 (q i hi).1⟩⟩)
      · rintro ⟨x6, x7⟩ ⟨a1, a2, a3⟩
        have a1 : x6 = nI (smn f n) := a1
        have a2 : x7 = nI n := a2
        subst a1 a2
        show Wp (f_X3_isTree_L18 a b (nI n) (nI (smn f n)) (nI n)) _
        unfold f_X3_isTree_L18
        rw [if_pos ((nI_leI (by omega) (by omega)).mpr (Nat.le_refl _))]
        exact wp_s ⟨_, rfl, Or.inl ⟨rfl, a3⟩⟩
    · rintro x (⟨rfl, hv⟩ | ⟨rfl, hv⟩)
      · show Wp (f_X3_isTree_A18 (nI r) a b (nI n) (nI (smn f n))) _
        unfold f_X3_isTree_A18
        have hs := sb n
        have hp := Nat.two_pow_pos n
        have hp2 := pow_lt31 hn
        obtain ⟨x, ex, s, rfl, m1', m2', m3, m4⟩ := mf_ok' (a := a) (b := b) hn hr hv (fun _ _ => rfl) (fun _ _ => rfl)
        have iff := tok_iff hn hr hv m1' m2' m3 m4
        rw [hf] at iff
        rw [mask_of (M := M0) hn, pz_1, pz_0, pz_sub (by omega)]
        by_cases c1 : smn f n = n - 1
        · rw [if_pos (by rw [c1]), ex, pz_bd]
          by_cases c2 : s = 2 ^ n - 1
          · rw [if_pos (by rw [c2])]
            exact wp_s (Or.inl ⟨iff.mp ⟨c1, c2⟩, rfl⟩)
          · rw [if_neg (by rw [pz_eq (by omega) (by omega)]; exact c2)]
            exact wp_s (Or.inr ⟨fun q => c2 (iff.mpr q).2, rfl⟩)
        · rw [if_neg (by rw [pz_eq (by omega) (by omega)]; exact c1)]
          exact wp_s (Or.inr ⟨fun q => c1 (iff.mpr q).1, rfl⟩)
      · exact wp_s (Or.inr ⟨fun q => hv q.1, rfl⟩)
  obtain ⟨x, e, h⟩ := key
  constructor
  · intro hP
    rcases h with ⟨_, h⟩ | ⟨h, _⟩
    · rw [e, h]
    · exact absurd hP h
  · intro hP
    rcases h with ⟨h, _⟩ | ⟨_, h⟩
    · exact absurd h hP
    · rw [e, h]
/-! the reference's walk -/
def cv (v : Nat) : Int32 := if v = 15 then -1 else nI v
def FrU (M M' : Mm) : Prop := (∀ k, k ≠ 69 → M'.1 k = M.1 k) ∧ (∀ j, j ≠ 34 → M'.1 69 j = M.1 69 j) ∧ M'.2 = M.2
theorem und_ok {lf rt : Nat → Nat} {n : Nat} (hv : TVa lf rt n) (hn : n ≤ 12) : ∀ (k c m : Nat) (M : Mm), k ≤ 100 → m < 2 ^ n → (c < n ∨ c = 15) → n + 1 ≤ k + bcn m n → M.1 69 34 = nI m → (∀ b, b < n → M.1 95 b = cv (lf b)) → (∀ b, b < n → M.1 96 b = cv (rt b)) →
    Wp (f_X10_under k (cv c) M) (fun r => (((dfs lf rt k c m).2 = 0 ∧ r.1 = nI (bcn (dfs lf rt k c m).1 n - bcn m n) ∧ r.2.1 69 34 = nI (dfs lf rt k c m).1) ∨ (1 ≤ (dfs lf rt k c m).2 ∧ ∃ x, r.1 = nI x ∧ 100 ≤ x ∧ x ≤ 100 + 13 * k)) ∧ FrU M r.2)
  | 0, c, m, M, _, hm, hc, hk, _, _, _ => by have := bcn_le m n; omega
  | k + 1, c, m, M, hkk, hm, hc, hk, h34, e95, e96 => by
    show Wp (f_X10_under_B (f_X10_under k) (cv c) M) _
    unfold f_X10_under_B dfs
    by_cases h15 : c = 15
    · have e : cv c = -1 := by unfold cv; rw [if_pos h15]
      rw [e, if_pos rfl, if_pos h15]
      refine wp_s ⟨Or.inl ⟨rfl, ?_, h34⟩, fun _ _ => rfl, fun _ _ => rfl, rfl⟩
      show (0 : Int32) = nI (bcn m n - bcn m n)
      rw [Nat.sub_self]; exact pz_0
    · have hcn : c < n := by omega
      have e : cv c = nI c := by unfold cv; rw [if_neg h15]
      have hm2 := p12 hm hn
      rw [e, if_neg (by rw [pz_m1 (by omega)]; exact id), if_neg h15, h34, pz_1, pz_sb (by omega) (by omega)]
      by_cases hb : m.testBit c = true
      · rw [if_pos (by rw [hb]; rfl), if_pos hb, pz_100]
        exact wp_s ⟨Or.inr ⟨Nat.le_refl _, 100, rfl, by omega, by omega⟩, fun _ _ => rfl, fun _ _ => rfl, rfl⟩
      · rw [if_neg (by rw [pz_b1]; exact hb), if_neg hb, pz_shl (by omega), pz_or, pz_lt1, pz_rd (by omega) (by omega)]
        have hv' := hv c hcn
        have b1 := bcn_or hcn hb
        have m1' : m ||| 2 ^ c < 2 ^ n := or_lt hm (Nat.pow_lt_pow_right (by omega) hcn)
        have e95' : (wi M 69 34 (nI (m ||| 2 ^ c))).1 95 c = cv (lf c) := e95 c hcn
        rw [e95']
        have d1 := dfs_ok hv hn k (lf c) (m ||| 2 ^ c) m1' hv'.1 (by omega)
        obtain ⟨⟨v1, M1⟩, ee1, r1, f1⟩ := und_ok hv hn k (lf c) (m ||| 2 ^ c) (wi M 69 34 (nI (m ||| 2 ^ c))) (by omega) m1' hv'.1 (by omega) rfl e95 e96
        have f1 : FrU (wi M 69 34 (nI (m ||| 2 ^ c))) M1 := f1
        have f1' : FrU M M1 := ⟨fun j hj => (f1.1 j hj).trans (wi_n _ _ _ hj), fun j hj => (f1.2.1 j hj).trans (by rw [wi_at, if_neg hj]), f1.2.2⟩
        rw [ee1, pz_bd2, pz_lt1, pz_12]
        generalize hq1 : dfs lf rt k (lf c) (m ||| 2 ^ c) = q1 at d1 r1
        rcases r1 with ⟨z0, z1, z2⟩ | ⟨z0, x, z1, z2, z3⟩
        · have z1 : v1 = nI (bcn q1.1 n - bcn (m ||| 2 ^ c) n) := z1
          have bq := bcn_le q1.1 n
          have bm := (bcn_lt (n := n) d1.s n).1
          rw [z1, pz_add, if_pos (by rw [pz_le (by omega) (by omega)]; omega), pz_rd (by omega) (by omega)]
          have e96' : M1.1 96 c = cv (rt c) := by rw [f1'.1 96 (by omega)]; exact e96 c hcn
          rw [e96']
          have d2 := dfs_ok hv hn k (rt c) q1.1 d1.l hv'.2 (by omega)
          obtain ⟨⟨v2, M2⟩, ee2, r2, f2⟩ := und_ok hv hn k (rt c) q1.1 M1 (by omega) d1.l hv'.2 (by omega) z2 (fun b hb => by rw [f1'.1 95 (by omega)]; exact e95 b hb) (fun b hb => by rw [f1'.1 96 (by omega)]; exact e96 b hb)
          have f2 : FrU M1 M2 := f2
          rw [ee2, pz_bd2]
          have ff : FrU M M2 := ⟨fun j hj => (f2.1 j hj).trans (f1'.1 j hj), fun j hj => (f2.2.1 j hj).trans (f1'.2.1 j hj), f2.2.2.trans f1'.2.2⟩
          generalize hq2 : dfs lf rt k (rt c) q1.1 = q2 at d2 r2
          have bm2 := (bcn_lt (n := n) d2.s n).1
          rcases r2 with ⟨y0, y1, y2⟩ | ⟨y0, x, y1, y2, y3⟩
          · have y1 : v2 = nI (bcn q2.1 n - bcn q1.1 n) := y1
            rw [y1, pz_add]
            refine wp_s ⟨Or.inl ⟨by show q1.2 + q2.2 = 0; omega, ?_, y2⟩, ff⟩
            show nI (1 + (bcn q1.1 n - bcn (m ||| 2 ^ c) n) + (bcn q2.1 n - bcn q1.1 n)) = nI (bcn q2.1 n - bcn m n)
            congr 1; omega
          · have y1 : v2 = nI x := y1
            rw [y1, pz_add]
            exact wp_s ⟨Or.inr ⟨by show 1 ≤ q1.2 + q2.2; omega, _, rfl, by omega, by omega⟩, ff⟩
        · have z1 : v1 = nI x := z1
          rw [z1, pz_add, if_neg (by rw [pz_le (by omega) (by omega)]; omega), pz_100]
          exact wp_s ⟨Or.inr ⟨by show 1 ≤ q1.2 + _; omega, 100, rfl, by omega, by omega⟩, f1'⟩
/-! the tree of a walk that meets nobody twice -/
def TR (lf rt : Nat → Nat) : Ex → Nat → Prop
  | .leaf _, c => c = 15
  | .branch b l r, c => c = b ∧ c ≠ 15 ∧ TR lf rt l (lf b) ∧ TR lf rt r (rt b)
def nd : Ex → List Nat
  | .leaf _ => []
  | .branch b l r => b :: (nd l ++ nd r)
theorem dfs_tree {lf rt : Nat → Nat} {n : Nat} (hv : TVa lf rt n) (hn : n ≤ 12) : ∀ (k c m : Nat), m < 2 ^ n → (c < n ∨ c = 15) → n + 1 ≤ k + bcn m n → (dfs lf rt k c m).2 = 0 → ∃ e, TR lf rt e c ∧ (nd e).Nodup ∧ (∀ b ∈ nd e, b < n ∧ ¬ m.testBit b = true) ∧ (∀ b, (dfs lf rt k c m).1.testBit b = true ↔ m.testBit b = true ∨ b ∈ nd e) ∧ bcn (dfs lf rt k c m).1 n = bcn m n + (nd e).length
  | 0, c, m, hm, hc, hk, _ => by have := bcn_le m n; omega
  | k + 1, c, m, hm, hc, hk, h0 => by
    unfold dfs at h0 ⊢
    by_cases h15 : c = 15
    · rw [if_pos h15] at h0 ⊢
      exact ⟨.leaf 0, h15, List.nodup_nil, fun b hb => (by cases hb), fun b => ⟨fun h => Or.inl h, fun h => h.elim id (fun h => by cases h)⟩, rfl⟩
    · have hcn : c < n := by omega
      rw [if_neg h15] at h0 ⊢
      by_cases hb : m.testBit c = true
      · rw [if_pos hb] at h0
        cases h0
      · rw [if_neg hb] at h0 ⊢
        have hv' := hv c hcn
        have b1 := bcn_or hcn hb
        have m1' : m ||| 2 ^ c < 2 ^ n := or_lt hm (Nat.pow_lt_pow_right (by omega) hcn)
        have d1 := dfs_ok hv hn k (lf c) (m ||| 2 ^ c) m1' hv'.1 (by omega)
        have t1 := dfs_tree hv hn k (lf c) (m ||| 2 ^ c) m1' hv'.1 (by omega)
        generalize hq1 : dfs lf rt k (lf c) (m ||| 2 ^ c) = q1 at d1 t1 h0
        have bm := (bcn_lt (n := n) d1.s n).1
        have t2 := dfs_tree hv hn k (rt c) q1.1 d1.l hv'.2 (by omega)
        generalize hq2 : dfs lf rt k (rt c) q1.1 = q2 at t2 h0
        have h0 : q1.2 + q2.2 = 0 := h0
        obtain ⟨el, l1, l2, l3, l4, l5⟩ := t1 (by omega)
        obtain ⟨er, r1, r2, r3, r4, r5⟩ := t2 (by omega)
        refine ⟨.branch c el er, ⟨rfl, h15, l1, r1⟩, ?_, fun b hb' => ?_, fun b => ?_, ?_⟩
        · show (c :: (nd el ++ nd er)).Nodup
          refine List.nodup_cons.mpr ⟨fun q => ?_, List.nodup_append.mpr ⟨l2, r2, fun x hx y hy e => ?_⟩⟩
          · rcases List.mem_append.mp q with q | q
            · exact (l3 c q).2 (or_bit'.mpr (Or.inr rfl))
            · exact (r3 c q).2 ((l4 c).mpr (Or.inl (or_bit'.mpr (Or.inr rfl))))
          · rw [e] at hx
            exact (r3 y hy).2 ((l4 y).mpr (Or.inr hx))
        · rcases List.mem_cons.mp hb' with q | q
          · rw [q]; exact ⟨hcn, hb⟩
          · rcases List.mem_append.mp q with q | q
            · exact ⟨(l3 b q).1, fun z => (l3 b q).2 (or_bit'.mpr (Or.inl z))⟩
            · exact ⟨(r3 b q).1, fun z => (r3 b q).2 ((l4 b).mpr (Or.inl (or_bit'.mpr (Or.inl z))))⟩
        · show q2.1.testBit b = true ↔ m.testBit b = true ∨ b ∈ c :: (nd el ++ nd er)
          rw [r4 b, l4 b, or_bit', List.mem_cons, List.mem_append]
          constructor
          · rintro (((z | z) | z) | z)
            · exact Or.inl z
            · exact Or.inr (Or.inl z)
            · exact Or.inr (Or.inr (Or.inl z))
            · exact Or.inr (Or.inr (Or.inr z))
          · rintro (z | z | z | z)
            · exact Or.inl (Or.inl (Or.inl z))
            · exact Or.inl (Or.inl (Or.inr z))
            · exact Or.inl (Or.inr z)
            · exact Or.inr z
        · show bcn q2.1 n = bcn m n + (c :: (nd el ++ nd er)).length
          rw [r5, l5, b1, List.length_cons, List.length_append]; omega
