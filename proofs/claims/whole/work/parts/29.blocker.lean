section BL
variable {Γ : mm_Ctx}
def isPt (g : mm_Mem) (p i : Nat) (x : Int32) : Prop := g 10 (12 * p + i) = 12 ∧ g 11 (12 * p + i) = x
def FP (g : mm_Mem) (p : Nat) (x r : Int32) : Prop := (r = -1 ∧ ∀ i, i < lenV g 8 p → ¬ isPt g p i x) ∨ ∃ i, i < lenV g 8 p ∧ r = nI i ∧ isPt g p i x ∧ ∀ i', i' < i → ¬ isPt g p i' x
theorem FP_eq {g : mm_Mem} {p : Nat} {x r r' : Int32} (h1 : FP g p x r) (h2 : FP g p x r') : r = r' := by
  rcases h1 with ⟨e1, n1⟩ | ⟨i, a1, a2, a3, a4⟩ <;> rcases h2 with ⟨e2, n2⟩ | ⟨i', b1, b2, b3, b4⟩
  · rw [e1, e2]
  · exact absurd b3 (n1 i' b1)
  · exact absurd a3 (n2 i a1)
  · by_cases c : i < i'
    · exact absurd a3 (b4 i c)
    · by_cases d : i' < i
      · exact absurd b3 (a4 i' d)
      · obtain rfl : i = i' := by omega
        rw [a2, b2]
theorem FP_m1 {g : mm_Mem} (h8 : Iv g 8) {p : Nat} (hp : p < 6) {x r : Int32} (h1 : FP g p x r) : (¬ r = -1 ↔ ∃ i, i < lenV g 8 p ∧ isPt g p i x) ∧ (0 ≤ r ↔ ∃ i, i < lenV g 8 p ∧ isPt g p i x) := by
  obtain ⟨el, hl⟩ := lenV_of h8 hp
  rcases h1 with ⟨rfl, n1⟩ | ⟨i, a1, rfl, a3, a4⟩
  · refine ⟨⟨fun q => absurd rfl q, ?_⟩, ⟨fun q => absurd q (by decide), ?_⟩⟩
    · rintro ⟨i, hi, hp⟩
      exact absurd hp (n1 i hi)
    · rintro ⟨i, hi, hp⟩
      exact absurd hp (n1 i hi)
  · exact ⟨⟨fun _ => ⟨i, a1, a3⟩, fun _ => m1_ne (by omega)⟩, ⟨fun _ => ⟨i, a1, a3⟩, fun _ => nI_pos' (by omega)⟩⟩
theorem sp_firstPoint {g : mm_Mem} (h8 : Iv g 8) {p : Nat} (hp : p < 6) (x : Int32) : mm_SI Γ smM_V_firstPoint [.ref (mm_B Γ + 8), .int (nI p), .int x] g (fun r g' => g' = g ∧ FP g p x r) := by
  obtain ⟨el0, hl⟩ := lenV_of h8 hp
  have el : g 9 p = nI (lenV g 8 p) := el0
  have v6 : vp_in (nI p) 6 := vp_in_nI hp (by decide)
  have loop : ∀ d i, i + d = lenV g 8 p → (∀ k, k < i → ¬ isPt g p k x) → mm_W Γ smM_V_firstPoint (mm_pI (fun r g' => g' = g ∧ FP g p x r)) 2 [some (.ref (mm_B Γ + 8)), some (.int (nI p)), some (.int x), some (.int (nI i))] [] g := by
    intro d
    induction d with
    | zero =>
      intro i hi hs
      refine smr_V_firstPoint_2 (Or.inr rfl) _ _ _ ?_
      simp only [Nat.reduceAdd]
      rw [nI_clamp (n := p) (by omega), el]
      exact ⟨v6, br_t (nI_le (by omega) (by omega)) ⟨trivial, Or.inl ⟨rfl, fun k hk => hs k (by omega)⟩⟩⟩
    | succ d ih =>
      intro i hi hs
      have w72 : vp_in (nI (12 * p + i)) 72 := vp_in_nI (by omega) (by decide)
      refine smr_V_firstPoint_2 (Or.inr rfl) _ _ _ ?_
      simp only [Nat.reduceAdd]
      rw [nI_clamp (n := p) (by omega), el, nI_1]
      have go : ¬ isPt g p i x → mm_W Γ smM_V_firstPoint (mm_pI (fun r g' => g' = g ∧ FP g p x r)) 2 [some (.ref (mm_B Γ + 8)), some (.int (nI p)), some (.int x), some (.int (nI (i + 1)))] [] g := by
        intro hn
        refine ih (i + 1) (by omega) (fun k hk => ?_)
        by_cases hki : k = i
        · subst hki
          exact hn
        · exact hs k (by omega)
      refine ⟨v6, br_f (nI_ge (by omega) (by omega)) (us_eq (sp_at p i rfl rfl) ?_)⟩
      rw [nI_clamp (n := 12 * p + i) (by omega)]
      refine ⟨w72, fun a => go (fun q => a q.1), fun a => us_eq (sp_at p i rfl rfl) ?_⟩
      rw [nI_clamp (n := 12 * p + i) (by omega)]
      exact ⟨w72, fun b => go (fun q => b q.2), fun b => ⟨rfl, Or.inr ⟨i, by omega, rfl, ⟨a, b⟩, hs⟩⟩⟩
  exact smr_V_firstPoint (Or.inr rfl) _ _ (loop _ 0 (Nat.zero_add _) (fun k hk => absurd hk (by omega)))
theorem sp_M_pointOf {g h : mm_Mem} (h8 : Iv g 8) (L8 : Lver g h 8 288 6 3) {p : Nat} (hp : p < 6) (x : Int32) : mm_SI Γ smM_M_pointOf [.ref (mm_B Γ + 64), .int (nI p), .int x] h (fun r h' => h' = h ∧ FP g p x r) := by
  obtain ⟨el, hl⟩ := lenV_of h8 hp
  have f66 : h 66 (6 + p) = nI (lenV g 8 p) := (L8.1 p hp).trans el
  have e6 : (6 : Int32) + nI p = nI (6 + p) := nI_add 6 p
  have loop : ∀ m (x3 : Int32), m ≤ lenV g 8 p → ((x3 = -1 ∧ ∀ i, m ≤ i → i < lenV g 8 p → ¬ isPt g p i x) ∨ ∃ i, m ≤ i ∧ i < lenV g 8 p ∧ x3 = nI i ∧ isPt g p i x ∧ ∀ i', m ≤ i' → i' < i → ¬ isPt g p i' x) → mm_W Γ smM_M_pointOf (mm_pI (fun r h' => h' = h ∧ FP g p x r)) 15 [some (.ref (mm_B Γ + 64)), some (.int (nI p)), some (.int x), some (.int x3), some (.int (nI m - 1)), none] [] h := by
    intro m
    induction m with
    | zero =>
      intro x3 hm hx
      refine smr_M_pointOf_15 _ _ _ _ (br_t (by decide) ⟨rfl, ?_⟩)
      rcases hx with ⟨e, hx⟩ | ⟨i, -, h2, h3, h4, h5⟩
      · exact Or.inl ⟨e, fun i hi => hx i (by omega) hi⟩
      · exact Or.inr ⟨i, h2, h3, h4, fun i' hi' => h5 i' (by omega) hi'⟩
    | succ m ih =>
      intro x3 hm hx
      refine smr_M_pointOf_15 _ _ _ _ ?_
      rw [nI_pred, ← Int32.sub_eq_add_neg]
      refine br_f (nI_pos (by omega)) (fun y ey => ?_)
      have ey' : y = nI (288 + 4 * (12 * p + m)) := by
        rw [ey]
        show nI 288 + nI 48 * nI p + nI 4 * nI m = _
        rw [pk_mul, pk_mul, nI_add, nI_add]
        congr 1
        omega
      subst ey'
      obtain ⟨a1, a2, -, -⟩ := L8.2.1 (12 * p + m) (by omega)
      simp only [Nat.reduceAdd] at a1 a2
      have g1 : nI (288 + 4 * (12 * p + m)) + 1 = nI (288 + 4 * (12 * p + m) + 1) := nI_add _ 1
      rw [g1, nI_clamp (n := 288 + 4 * (12 * p + m)) (by omega), nI_clamp (n := 288 + 4 * (12 * p + m) + 1) (by omega), a1, a2]
      have skip : ¬ isPt g p m x → mm_W Γ smM_M_pointOf (mm_pI (fun r h' => h' = h ∧ FP g p x r)) 15 [some (.ref (mm_B Γ + 64)), some (.int (nI p)), some (.int x), some (.int x3), some (.int (nI m - 1)), none] [] h := by
        intro hn
        refine ih x3 (by omega) ?_
        rcases hx with ⟨e, hx⟩ | ⟨i, h1, h2, h3, h4, h5⟩
        · refine Or.inl ⟨e, fun i h1 h2 => ?_⟩
          by_cases him : i = m
          · subst him
            exact hn
          · exact hx i (by omega) h2
        · refine Or.inr ⟨i, by omega, h2, h3, h4, fun i' h6 h7 => ?_⟩
          by_cases him : i' = m
          · subst him
            exact hn
          · exact h5 i' (by omega) h7
      refine ⟨vp_in_nI (by omega) (by decide), fun a => skip (fun q => a q.1), fun a => ⟨vp_in_nI (by omega) (by decide), fun b => skip (fun q => b q.2), fun b => ih (nI m) (by omega) (Or.inr ⟨m, Nat.le_refl _, by omega, rfl, ⟨a, b⟩, fun i' h6 h7 => absurd h7 (by omega)⟩)⟩⟩
  refine smr_M_pointOf _ _ ?_
  rw [e6, nI_clamp (n := 6 + p) (by omega), f66]
  refine ⟨vp_in_nI (by omega) (by decide), fun y ey => ?_⟩
  subst ey
  exact loop _ _ (Nat.le_refl _) (Or.inl ⟨rfl, fun i h1 h2 => absurd h2 (by omega)⟩)
/-! frames in the way -/
def prF (g : mm_Mem) (j k : Nat) : Nat := (g (28 + 6 * j + 1) k).toNatClampNeg
def plF (g : mm_Mem) (j k : Nat) : Nat := (g (28 + 6 * j + 2) k).toNatClampNeg
def canMv (g : mm_Mem) (j k : Nat) : Prop := g 3 (12 * prF g j k + plF g j k) = 12 ∧ ∃ i, i < lenV g 8 (prF g j k) ∧ isPt g (prF g j k) i (g 4 (12 * prF g j k + plF g j k))
def way (g : mm_Mem) (j k : Nat) : Prop := chg g (prF g j k) ∧ ¬ (k + 1 = dep g j ∧ canMv g j k)
def blk (g : mm_Mem) (j : Nat) : Prop := ∃ k, k < dep g j ∧ way g j k
theorem frame_of {g : mm_Mem} {j k : Nat} (h1 : Iv g 1) (hT : Itask g j) (hk : k < dep g j) : prF g j k < 6 ∧ g (28 + 6 * j + 1) k = nI (prF g j k) ∧ plF g j k < lenV g 1 (prF g j k) ∧ g (28 + 6 * j + 2) k = nI (plF g j k) ∧ plF g j k < 12 := by
  obtain ⟨p, w, a, hp, hw, ha, e1, e2, e3⟩ := hT.2.2.2.2 k hk
  obtain ⟨-, hl⟩ := lenV_of h1 hp
  have c1 : prF g j k = p := by
    unfold prF
    rw [e1, nI_clamp (by omega)]
  have c2 : plF g j k = w := by
    unfold plF
    rw [e2, nI_clamp (by omega)]
  rw [c1, c2]
  exact ⟨hp, e1, hw, e2, by omega⟩
theorem dep_of {g : mm_Mem} {j : Nat} (hT : Itask g j) : g (28 + 6 * j) 5 = nI (dep g j) ∧ dep g j ≤ 6 := by
  obtain ⟨⟨d, hd, ed⟩, -⟩ := hT
  unfold dep
  rw [ed, nI_clamp (by omega)]
  exact ⟨rfl, hd⟩
def PD (g : mm_Mem) (p w : Nat) (r : Int32) : Prop := (¬ g 3 (12 * p + w) = 12 ∧ r = -1) ∨ (g 3 (12 * p + w) = 12 ∧ FP g p (g 4 (12 * p + w)) r)
theorem sp_placeInDraft {g : mm_Mem} (h1 : Iv g 1) (h8 : Iv g 8) {j d : Nat} (hj : j < 6) (hT : Itask g j) (hd : dep g j = d + 1) : mm_SI Γ smM_S_placeInDraft [.ref (mm_B Γ + 0), .ref (mm_B Γ + (28 + 6 * j))] g (fun r g' => g' = g ∧ PD g (prF g j d) (plF g j d) r) := by
  obtain ⟨ed, hd6⟩ := dep_of hT
  obtain ⟨f1, f2, f3, f4, f5⟩ := frame_of h1 hT (k := d) (by omega)
  refine smr_S_placeInDraft (isT_j hj) ?_
  rw [ed, hd, nI_pred, nI_clamp (n := d) (by omega), f2, f4]
  have v6 : vp_in (nI d) 6 := vp_in_nI (by omega) (by decide)
  have w72 : vp_in (nI (12 * prF g j d + plF g j d)) 72 := vp_in_nI (by omega) (by decide)
  refine ⟨v6, fun y ey => ⟨v6, ?_⟩⟩
  subst ey
  refine us_eq (sp_at (prF g j d) (plF g j d) rfl rfl) ?_
  rw [nI_clamp (n := 12 * prF g j d + plF g j d) (by omega)]
  refine ⟨w72, fun a => ⟨rfl, Or.inl ⟨a, rfl⟩⟩, fun a => ⟨w72, mm_SI_mono (sp_firstPoint h8 f1 _) (fun r g' q => ?_)⟩⟩
  exact ⟨q.1, Or.inr ⟨a, q.2⟩⟩
theorem PD_m1 {g : mm_Mem} (h8 : Iv g 8) {j k : Nat} (hp : prF g j k < 6) {r : Int32} (h1 : PD g (prF g j k) (plF g j k) r) : ¬ r = -1 ↔ canMv g j k := by
  unfold canMv
  rcases h1 with ⟨a, rfl⟩ | ⟨a, b⟩
  · exact ⟨fun q => absurd rfl q, fun q => absurd q.1 a⟩
  · rw [(FP_m1 h8 hp b).1]
    exact ⟨fun q => ⟨a, q⟩, fun q => q.2⟩
theorem sp_S_isInTheWay {g : mm_Mem} (h1 : Iv g 1) (hok : okV g 1) (h8 : Iv g 8) {j : Nat} (hj : j < 6) (hT : Itask g j) : mm_B1 Γ smM_S_isInTheWay [.ref (mm_B Γ + 0), .ref (mm_B Γ + (28 + 6 * j))] g (blk g j) := by
  obtain ⟨ed, hd6⟩ := dep_of hT
  have ht := isT_j hj
  have loop : ∀ d k, k + d = dep g j → (∀ k', k' < k → ¬ way g j k') → mm_W Γ smM_S_isInTheWay (mm_pI (fun r g' => g' = g ∧ mmB r (blk g j))) 2 [some (.ref (mm_B Γ + 0)), some (.ref (mm_B Γ + (28 + 6 * j))), some (.int (nI k)), none] [] g := by
    intro d
    induction d with
    | zero =>
      intro k hk hs
      refine smr_S_isInTheWay_2 ht _ ?_
      rw [ed]
      refine br_t (nI_le (by omega) (by omega)) ⟨rfl, mmB_0 ?_⟩
      rintro ⟨k', a, b⟩
      exact hs k' (by omega) b
    | succ d ih =>
      intro k hk hs
      obtain ⟨f1, f2, f3, f4, f5⟩ := frame_of h1 hT (k := k) (by omega)
      have run : ∀ s0 : Int32, mmB s0 (k + 1 = dep g j ∧ canMv g j k) → mm_W Γ smM_S_isInTheWay (mm_pI (fun r g' => g' = g ∧ mmB r (blk g j))) 34 [some (.ref (mm_B Γ + 0)), some (.ref (mm_B Γ + (28 + 6 * j))), some (.int (nI k)), none] [.int s0] g := by
        intro s0 hs0
        have go : ¬ way g j k → mm_W Γ smM_S_isInTheWay (mm_pI (fun r g' => g' = g ∧ mmB r (blk g j))) 2 [some (.ref (mm_B Γ + 0)), some (.ref (mm_B Γ + (28 + 6 * j))), some (.int (nI (k + 1))), none] [] g := by
          intro hn
          refine ih (k + 1) (by omega) (fun k' hk' => ?_)
          by_cases hkk : k' = k
          · subst hkk
            exact hn
          · exact hs k' (by omega)
        refine smr_S_isInTheWay_34 ht _ _ ?_
        rw [nI_clamp (n := k) (by omega), f2, nI_1]
        refine ⟨vp_in_nI (by omega) (by decide), us_br (sp_draftChanges h1 hok h8 f1) (fun a => ?_) (fun a => go (fun q => a q.1))⟩
        have := mmB_br (X := g = g ∧ mmB 1 (blk g j)) (Y := mm_W Γ smM_S_isInTheWay (mm_pI (fun r g' => g' = g ∧ mmB r (blk g j))) 2 [some (.ref (mm_B Γ + 0)), some (.ref (mm_B Γ + (28 + 6 * j))), some (.int (nI (k + 1))), none] [] g) hs0 (fun c => go (fun q => q.2 c)) (fun c => ⟨rfl, mmB_1 ⟨k, by omega, a, c⟩⟩)
        exact ⟨this.2, this.1⟩
      refine smr_S_isInTheWay_2 ht _ ?_
      have e1 : nI (dep g j) - 1 = nI (dep g j - 1) := by
        have : dep g j = (dep g j - 1) + 1 := by omega
        rw [this, nI_pred]
        rfl
      rw [ed, e1]
      refine br_f (nI_ge (by omega) (by omega)) ⟨fun a => run 0 (mmB_0 (fun q => a ?_)), fun a => ?_⟩
      · congr 1
        omega
      · have hk1 : k = dep g j - 1 := nI_in' (by omega) (by omega) a
        have hk2 : dep g j = k + 1 := by omega
        refine mm_SI_mono (sp_placeInDraft h1 h8 hj hT hk2) (fun r g' q => ?_)
        obtain ⟨rfl, q⟩ := q
        have pm := PD_m1 h8 f1 q
        exact ⟨fun b => run 0 (mmB_0 (fun z => pm.mpr z.2 b)), fun b => run 1 (mmB_1 ⟨hk2.symm, pm.mp b⟩)⟩
  exact smr_S_isInTheWay ht (loop _ 0 (Nat.zero_add _) (fun k' hk' => absurd hk' (by omega)))
/-- the first task from x on that stands in the way -/
def FT (g : mm_Mem) (n : Nat) (x r : Int32) : Prop := (r = 0 ∧ ∀ j, j < n → ¬ nI (j + 1) < x → ¬ blk g j) ∨ ∃ j, j < n ∧ r = nI (j + 1) ∧ ¬ nI (j + 1) < x ∧ blk g j ∧ ∀ j', j' < j → ¬ nI (j' + 1) < x → ¬ blk g j'
theorem FT_eq {g : mm_Mem} {n : Nat} {x r r' : Int32} (h1 : FT g n x r) (h2 : FT g n x r') : r = r' := by
  rcases h1 with ⟨e1, n1⟩ | ⟨i, a1, a2, a3, a4, a5⟩ <;> rcases h2 with ⟨e2, n2⟩ | ⟨i', b1, b2, b3, b4, b5⟩
  · rw [e1, e2]
  · exact absurd b4 (n1 i' b1 b3)
  · exact absurd a4 (n2 i a1 a3)
  · by_cases c : i < i'
    · exact absurd a4 (b5 i c a3)
    · by_cases d : i' < i
      · exact absurd b4 (a5 i' d b3)
      · obtain rfl : i = i' := by omega
        rw [a2, b2]
theorem sp_firstTask {g : mm_Mem} (h1 : Iv g 1) (hok : okV g 1) (h8 : Iv g 8) {n : Nat} (hT : Itasks g n) (x : Int32) : mm_SI Γ smM_S_firstTaskInTheWay [.ref (mm_B Γ + 0), .int x] g (fun r g' => g' = g ∧ FT g n x r) := by
  have hn6 := hT.1
  have e0 := hT.2.1
  have loop : ∀ d m, m + d = n → (∀ j, j < n → m ≤ j → ¬ nI (j + 1) < x) → (∀ j, j < m → ¬ nI (j + 1) < x → ¬ blk g j) → mm_W Γ smM_S_firstTaskInTheWay (mm_pI (fun r g' => g' = g ∧ FT g n x r)) 6 [some (.ref (mm_B Γ + 0)), none, some (.int (nI (m + 1)))] [] g := by
    intro d
    induction d with
    | zero =>
      intro m hm hx hs
      refine smr_S_firstTaskInTheWay_6 _ ?_
      rw [e0]
      exact br_t (nI_lt (by omega) (by omega)) ⟨rfl, Or.inl ⟨rfl, fun j hj => hs j (by omega)⟩⟩
    | succ d ih =>
      intro m hm hx hs
      refine smr_S_firstTaskInTheWay_6 _ ?_
      rw [e0]
      refine br_f (nI_nlt (by omega) (by omega)) ⟨tk1 (by omega), fun t ht hT' => ?_⟩
      rw [tk2 (by omega)] at ht
      subst ht
      rw [nI_1]
      refine us_br (sp_S_isInTheWay h1 hok h8 (by omega) (hT.2.2.1 m (by omega))) (fun a => ⟨rfl, Or.inr ⟨m, by omega, rfl, hx m (by omega) (Nat.le_refl _), a, hs⟩⟩) (fun a => ih (m + 1) (by omega) (fun j h2 h3 => hx j h2 (by omega)) (fun j hj => ?_))
      by_cases hjm : j = m
      · subst hjm
        exact fun _ => a
      · exact hs j (by omega)
  refine smr_S_firstTaskInTheWay _ (fun y ey => ?_)
  by_cases hx1 : x < 1
  · rw [if_pos hx1] at ey
    subst ey
    refine loop n 0 (by omega) (fun j hj _ => ?_) (fun j hj => absurd hj (by omega))
    rw [Int32.lt_iff_toInt_lt] at hx1 ⊢
    rw [nI_toInt (by omega)]
    have : (1 : Int32).toInt = 1 := by decide
    rw [this] at hx1
    omega
  · rw [if_neg hx1] at ey
    subst ey
    by_cases hxn : nI n < y
    · refine smr_S_firstTaskInTheWay_6 _ ?_
      rw [e0]
      refine br_t hxn ⟨rfl, Or.inl ⟨rfl, fun j hj hlt => absurd ?_ hlt⟩⟩
      rw [Int32.lt_iff_toInt_lt] at hxn ⊢
      rw [nI_toInt (by omega)] at hxn ⊢
      omega
    · obtain ⟨k, hk1, hk2, rfl⟩ := (one_of (n := n) (by omega)).mp ⟨hx1, hxn⟩
      obtain ⟨m, rfl⟩ : ∃ m, k = m + 1 := ⟨k - 1, by omega⟩
      refine loop (n - m) m (by omega) (fun j h2 h3 => nI_nlt (by omega) (by omega)) (fun j hj hlt => absurd (nI_lt (by omega) (by omega)) hlt)
/-! the reference's -/
theorem sp_M_isInTheWay {g h : mm_Mem} (h1 : Iv g 1) (hok : okV g 1) (h8 : Iv g 8) (L1 : Lver g h 1 0 0 0) (L8 : Lver g h 8 288 6 3) (Lr : Lrul g h) {j k : Nat} (hj : j < 6) (hT : Itask g j) (hL : Ltask g h j) (hk : k < dep g j) : mm_B1 Γ smM_M_isInTheWay [.ref (mm_B Γ + 64), .int (nI (j + 1)), .int (nI k)] h (way g j k) := by
  obtain ⟨ed, hd6⟩ := dep_of hT
  obtain ⟨f1, f2, f3, f4, f5⟩ := frame_of h1 hT hk
  obtain ⟨l1, l2, l3, l4⟩ := hL.2.2.2.2.1 k hk
  have e77 : h 77 (j + 1) = nI (dep g j) := hL.1.trans ed
  refine smr_M_isInTheWay _ _ (us_eq (sp_M_frameAt (j + 1) k rfl rfl) ?_)
  rw [nI_clamp (n := 36 * (j + 1) + 6 * k) (by omega), l1, f2]
  refine ⟨vp_in_nI (by omega) (by decide), fun y ey => ?_⟩
  subst ey
  refine us_br' (sp_M_isChanged h1 hok h8 L1 L8 Lr f1) (fun a => us_eq (sp_M_frameAt (j + 1) k rfl rfl) ?_) (fun a => ⟨rfl, mmB_0 (fun q => a q.1)⟩)
  have g1 : nI (36 * (j + 1) + 6 * k) + 1 = nI (36 * (j + 1) + 6 * k + 1) := nI_add _ 1
  rw [g1, nI_clamp (n := 36 * (j + 1) + 6 * k + 1) (by omega), l2, f4, tk4 hj, e77, nI_1]
  refine ⟨vp_in_nI (by omega) (by decide), fun y ey => ?_⟩
  have ey' : y = nI (4 * (12 * prF g j k + plF g j k)) := by
    rw [ey]
    show nI 48 * nI (prF g j k) + nI 4 * nI (plF g j k) = _
    rw [pk_mul, pk_mul, nI_add]
    congr 1
    omega
  subst ey'
  obtain ⟨a1, a2, -, -⟩ := L1.2.1 (12 * prF g j k + plF g j k) (by omega)
  simp only [Nat.zero_add, Nat.reduceAdd] at a1 a2
  have g2 : nI (4 * (12 * prF g j k + plF g j k)) + 1 = nI (4 * (12 * prF g j k + plF g j k) + 1) := nI_add _ 1
  rw [g2, nI_clamp (n := 4 * (12 * prF g j k + plF g j k)) (by omega), nI_clamp (n := 4 * (12 * prF g j k + plF g j k) + 1) (by omega), a1, a2]
  refine ⟨tk3 hj, fun b => ⟨rfl, mmB_1 ⟨a, fun q => ?_⟩⟩, fun b => ⟨vp_in_nI (by omega) (by decide), fun c => ⟨rfl, mmB_1 ⟨a, fun q => c q.2.1⟩⟩, fun c => ⟨vp_in_nI (by omega) (by decide), mm_SI_mono (sp_M_pointOf h8 L8 f1 _) (fun r h' q => ?_)⟩⟩⟩
  · have := (nI_ltI (a := k + 1) (b := dep g j) (by omega) (by omega)).mp b
    omega
  · obtain ⟨rfl, q⟩ := q
    have fm := (FP_m1 h8 f1 q).2
    have hk1 : k + 1 = dep g j := by
      have : ¬ k + 1 < dep g j := fun z => b (nI_lt z (by omega))
      omega
    exact ⟨fun d => ⟨rfl, mmB_0 (fun z => z.2 ⟨hk1, c, fm.mp d⟩)⟩, fun d => ⟨rfl, mmB_1 ⟨a, fun z => d (fm.mpr z.2.2)⟩⟩⟩
theorem sp_M_blocker {g h : mm_Mem} (h1 : Iv g 1) (hok : okV g 1) (h8 : Iv g 8) (L1 : Lver g h 1 0 0 0) (L8 : Lver g h 8 288 6 3) (Lr : Lrul g h) {n : Nat} (hT : Itasks g n) (hL : ∀ i, i < 6 → Ltask g h i) (e12 : h 64 12 = g 0 6) (h5 : ¬ h 64 5 = 0) (x : Int32) : mm_SI Γ smM_M_blocker [.ref (mm_B Γ + 64), .int x] h (fun r h' => h' = h ∧ FT g n x r) := by
  have hn6 := hT.1
  have e64 : h 64 12 = nI n := e12.trans hT.2.1
  have inner : ∀ m, m < n → (∀ j, j < m → ¬ nI (j + 1) < x → ¬ blk g j) → ((¬ nI (m + 1) < x → ¬ blk g m) → mm_W Γ smM_M_blocker (mm_pI (fun r h' => h' = h ∧ FT g n x r)) 11 [some (.ref (mm_B Γ + 64)), some (.int x), some (.int (nI (m + 1 + 1))), none] [] h) → ∀ d k, k + d = dep g m → (¬ nI (m + 1) < x → ∀ k', k' < k → ¬ way g m k') → mm_W Γ smM_M_blocker (mm_pI (fun r h' => h' = h ∧ FT g n x r)) 21 [some (.ref (mm_B Γ + 64)), some (.int x), some (.int (nI (m + 1))), some (.int (nI k))] [] h := by
    intro m hm hs knext
    obtain ⟨ed, hd6⟩ := dep_of (hT.2.2.1 m hm)
    have e77 : h 77 (m + 1) = nI (dep g m) := (hL m (by omega)).1.trans ed
    intro d
    induction d with
    | zero =>
      intro k hk hw
      refine smr_M_blocker_21 _ _ _ ?_
      rw [tk4 (by omega), e77, nI_1]
      refine ⟨tk3 (by omega), br_t (nI_le (by omega) (by omega)) (knext (fun q => ?_))⟩
      rintro ⟨k', a, b⟩
      exact hw q k' (by omega) b
    | succ d ih =>
      intro k hk hw
      refine smr_M_blocker_21 _ _ _ ?_
      rw [tk4 (by omega), e77, nI_1 k]
      refine ⟨tk3 (by omega), br_f (nI_ge (by omega) (by omega)) ⟨fun a => ih (k + 1) (by omega) (fun q => absurd a q), fun a => ?_⟩⟩
      refine us_br (sp_M_isInTheWay h1 hok h8 L1 L8 Lr (by omega) (hT.2.2.1 m hm) (hL m (by omega)) (by omega)) (fun b => ⟨rfl, Or.inr ⟨m, hm, rfl, a, ⟨k, by omega, b⟩, hs⟩⟩) (fun b => ih (k + 1) (by omega) (fun q k' hk' => ?_))
      by_cases hkk : k' = k
      · subst hkk
        exact b
      · exact hw q k' (by omega)
  have outer : ∀ d m, m + d = n → (∀ j, j < m → ¬ nI (j + 1) < x → ¬ blk g j) → mm_W Γ smM_M_blocker (mm_pI (fun r h' => h' = h ∧ FT g n x r)) 11 [some (.ref (mm_B Γ + 64)), some (.int x), some (.int (nI (m + 1))), none] [] h := by
    intro d
    induction d with
    | zero =>
      intro m hm hs
      refine smr_M_blocker_11 _ _ ?_
      rw [e64]
      exact br_t (nI_lt (by omega) (by omega)) ⟨rfl, Or.inl ⟨rfl, fun j hj => hs j (by omega)⟩⟩
    | succ d ih =>
      intro m hm hs
      refine smr_M_blocker_11 _ _ ?_
      rw [e64]
      refine br_f (nI_nlt (by omega) (by omega)) (inner m (by omega) hs (fun hb => ih (m + 1) (by omega) (fun j hj => ?_)) _ 0 (Nat.zero_add _) (fun _ k' hk' => absurd hk' (by omega)))
      by_cases hjm : j = m
      · subst hjm
        exact hb
      · exact hs j (by omega)
  exact smr_M_blocker _ (br_n h5 (outer n 0 (by omega) (fun j hj => absurd hj (by omega))))
theorem pr_blocker (x0 : Int32) : mm_pair Γ Rel smM_S_blocker smM_M_blocker [.int x0] := by
  intro h hR
  have e5 : h 64 5 = h 0 8 := hR.2.1.1
  obtain ⟨n, hn, e0, e64, hT⟩ := Rel_task hR
  have I1 : Iv h 1 := hR.1.1.1
  have Io : okV h 1 := hR.1.1.2
  have I8 : Iv h 8 := hR.1.2.1
  obtain ⟨Li, L1, L8, Lr, -, -, Lt⟩ := hR.2
  refine smr_S_blocker _ ⟨fun a => ?_, fun a => ?_⟩
  · exact smr_M_blocker _ (br_p (by rw [e5]; exact a) ⟨rfl, hR⟩)
  · refine mm_SI_mono (sp_firstTask I1 Io I8 hT x0) (fun r g' q => ?_)
    obtain ⟨rfl, q⟩ := q
    refine mm_SI_mono (sp_M_blocker I1 Io I8 L1 L8 Lr hT Lt Li.2.2 (by rw [e5]; exact a) x0) (fun r' g'' q' => ?_)
    obtain ⟨rfl, q'⟩ := q'
    exact ⟨FT_eq q q', hR⟩
end BL
