section SG
variable {Γ : mm_Ctx}
def srcBad (g : mm_Mem) (t f : Nat) : Prop := t < 3 ∧ f < (g 14 t).toNatClampNeg ∧ ¬ g 17 (4 * t + f) = 0 ∧ ¬ g 18 (4 * t + f) < g 7 t
def fstSrc (g : mm_Mem) (t f : Nat) : Prop := srcBad g t f ∧ ∀ t' f', before t' f' t f → ¬ srcBad g t' f'
theorem fstSrc_eq {g : mm_Mem} {t f t' f' : Nat} (h1 : fstSrc g t f) (h2 : fstSrc g t' f') : t = t' ∧ f = f' := by
  by_cases c : before t f t' f'
  · exact absurd h1.1 (h2.2 t f c)
  · by_cases d : before t' f' t f
    · exact absurd h2.1 (h1.2 t' f' d)
    · unfold before at c d
      omega
theorem sp_firstSource {g : mm_Mem} (h1 : Iv g 1) (h8 : Iv g 8) : mm_SI Γ smM_R_firstWithoutSource [.ref (mm_B Γ + 15), .ref (mm_B Γ + 1), .ref (mm_B Γ + 8)] g (fun r g' => g' = g ∧ ((r = -1 ∧ ∀ t f, ¬ srcBad g t f) ∨ ∃ t f, fstSrc g t f ∧ r = nI (4 * t + f))) := by
  generalize hpost : (fun (r : Int32) (g' : mm_Mem) => g' = g ∧ ((r = -1 ∧ ∀ t f, ¬ srcBad g t f) ∨ ∃ t f, fstSrc g t f ∧ r = nI (4 * t + f))) = post
  have inner : ∀ t, t < 3 → ((∀ t' f', before t' f' (t + 1) 0 → ¬ srcBad g t' f') → mm_W Γ smM_R_firstWithoutSource (mm_pI post) 2 [some (.ref (mm_B Γ + 15)), some (.ref (mm_B Γ + 1)), some (.ref (mm_B Γ + 8)), some (.int (nI (t + 1))), none, none] [] g) → ∀ d f, f + d = (g 14 t).toNatClampNeg → (∀ t' f', before t' f' t f → ¬ srcBad g t' f') → mm_W Γ smM_R_firstWithoutSource (mm_pI post) 10 [some (.ref (mm_B Γ + 15)), some (.ref (mm_B Γ + 1)), some (.ref (mm_B Γ + 8)), some (.int (nI t)), some (.int (nI f)), none] [] g := by
    intro t ht knext
    obtain ⟨w, hw, ew0⟩ := h8.2 t ht
    have ew : g 14 t = nI w := ew0
    have cw : (g 14 t).toNatClampNeg = w := by rw [ew, nI_clamp (by omega)]
    have v3 : vp_in (nI t) 3 := vp_in_nI ht (by decide)
    intro d
    induction d with
    | zero =>
      intro f hf hb
      rw [cw] at hf
      refine smr_R_firstWithoutSource_10 (Or.inl rfl) (Or.inr rfl) _ _ ?_
      simp only [Nat.reduceAdd]
      rw [nI_clamp (n := t) (by omega), ew, nI_1]
      refine ⟨v3, br_t (nI_le (by omega) (by omega)) (knext (fun t' f' h3 hs => ?_))⟩
      refine hb t' f' ?_ hs
      unfold before at h3 ⊢
      have := hs.2.1
      by_cases htt : t' = t
      · subst htt
        rw [cw] at this
        omega
      · omega
    | succ d ih =>
      intro f hf hb
      have hf' := hf
      rw [cw] at hf'
      refine smr_R_firstWithoutSource_10 (Or.inl rfl) (Or.inr rfl) _ _ ?_
      simp only [Nat.reduceAdd]
      rw [nI_clamp (n := t) (by omega), ew]
      refine ⟨v3, br_f (nI_ge (by omega) (by omega)) (fun y ey => ?_)⟩
      have ey' : y = nI (4 * t + f) := by
        rw [ey]
        show nI t * nI 4 + nI f = _
        rw [pk_mul, nI_add, Nat.mul_comm]
      subst ey'
      have v12 : vp_in (nI (4 * t + f)) 12 := vp_in_nI (by omega) (by decide)
      rw [nI_clamp (n := 4 * t + f) (by omega), nI_1]
      have go : ¬ srcBad g t f → mm_W Γ smM_R_firstWithoutSource (mm_pI post) 10 [some (.ref (mm_B Γ + 15)), some (.ref (mm_B Γ + 1)), some (.ref (mm_B Γ + 8)), some (.int (nI t)), some (.int (nI (f + 1))), none] [] g := by
        intro hn
        refine ih (f + 1) (by omega) (fun t' f' h3 hs => ?_)
        by_cases hpi : t' = t ∧ f' = f
        · obtain ⟨rfl, rfl⟩ := hpi
          exact hn hs
        · refine hb t' f' ?_ hs
          unfold before at h3 ⊢
          omega
      refine ⟨v12, fun a => go (fun q => q.2.2.1 a), fun a => ⟨v12, v3, fun b => go (fun q => q.2.2.2 b), fun b => ?_⟩⟩
      rw [← hpost]
      exact ⟨rfl, Or.inr ⟨t, f, ⟨⟨ht, by omega, a, b⟩, hb⟩, rfl⟩⟩
  have outer : ∀ d t, t + d = 3 → (∀ t' f', before t' f' t 0 → ¬ srcBad g t' f') → mm_W Γ smM_R_firstWithoutSource (mm_pI post) 2 [some (.ref (mm_B Γ + 15)), some (.ref (mm_B Γ + 1)), some (.ref (mm_B Γ + 8)), some (.int (nI t)), none, none] [] g := by
    intro d
    induction d with
    | zero =>
      intro t ht hb
      obtain rfl : t = 3 := by omega
      refine smr_R_firstWithoutSource_2 (Or.inl rfl) (Or.inr rfl) _ (br_t (by decide) ?_)
      rw [← hpost]
      exact ⟨rfl, Or.inl ⟨rfl, fun t' f' hs => hb t' f' (Or.inl hs.1) hs⟩⟩
    | succ d ih =>
      intro t ht hb
      exact smr_R_firstWithoutSource_2 (Or.inl rfl) (Or.inr rfl) _ (br_f (nI_ge (a := t) (b := 3) (by omega) (by omega)) (inner t (by omega) (ih (t + 1) (by omega)) _ 0 (Nat.zero_add _) hb))
  exact smr_R_firstWithoutSource (Or.inl rfl) (Or.inr rfl) (outer 3 0 rfl (fun t' f' h3 => by unfold before at h3; omega))
/-- the reference's stage, behind the flag -/
theorem sp_M_stage {g h : mm_Mem} (h1 : Iv g 1) (h8 : Iv g 8) (hr : Irul g) (L1 : Lver g h 1 0 0 0) (L8 : Lver g h 8 288 6 3) (Lr : Lrul g h) {post : Int32 → mm_Mem → Prop} (h5 : h 64 5 = 0) (kw : ∀ p i, fstBad g 8 p i → post (-100 - nI (12 * p + i)) h) (ks : okV g 8 → ∀ t f, fstSrc g t f → post (-200 - nI (4 * t + f)) h) (kok : okV g 8 → (∀ t f, ¬ srcBad g t f) → post 0 (mm_wr h 64 5 1)) : mm_SI Γ smM_M_stage [.ref (mm_B Γ + 64)] h post := by
  -- the rules
  have inner2 : okV g 8 → ∀ t, t < 3 → ((∀ t' f', before t' f' (t + 1) 0 → ¬ srcBad g t' f') → mm_W Γ smM_M_stage (mm_pI post) 111 [some (.ref (mm_B Γ + 64)), some (.int (nI (t + 1))), none, none] [] h) → ∀ d f, f + d = (g 14 t).toNatClampNeg → (∀ t' f', before t' f' t f → ¬ srcBad g t' f') → mm_W Γ smM_M_stage (mm_pI post) 118 [some (.ref (mm_B Γ + 64)), some (.int (nI t)), some (.int (nI f)), none] [] h := by
    intro hok t ht knext
    obtain ⟨w, hw, ew0⟩ := h8.2 t ht
    have ew : g 14 t = nI w := ew0
    have cw : (g 14 t).toNatClampNeg = w := by rw [ew, nI_clamp (by omega)]
    have e67 : h 67 (3 + t) = nI w := (L8.2.2 t ht).trans ew0
    have e67' : h 67 t = g 7 t := by
      have := L1.2.2 t ht
      rw [Nat.zero_add] at this
      exact this
    have e3 : (3 : Int32) + nI t = nI (3 + t) := nI_add 3 t
    have v3 : vp_in (nI t) 3 := vp_in_nI ht (by decide)
    have v6 : vp_in (nI (3 + t)) 6 := vp_in_nI (by omega) (by decide)
    intro d
    induction d with
    | zero =>
      intro f hf hb
      rw [cw] at hf
      refine smr_M_stage_118 _ _ ?_
      rw [e3, nI_clamp (n := 3 + t) (by omega), e67, nI_1]
      refine ⟨v6, br_t (nI_le (by omega) (by omega)) (knext (fun t' f' h3 hs => ?_))⟩
      refine hb t' f' ?_ hs
      unfold before at h3 ⊢
      have := hs.2.1
      by_cases htt : t' = t
      · subst htt
        rw [cw] at this
        omega
      · omega
    | succ d ih =>
      intro f hf hb
      have hf' := hf
      rw [cw] at hf'
      obtain ⟨l1, l2, l3⟩ := Lr.1 (4 * t + f) (by omega)
      have g0 : (12 * nI t) + (3 * nI f) = nI (3 * (4 * t + f)) := by
        show nI 12 * nI t + nI 3 * nI f = _
        rw [pk_mul, pk_mul, nI_add]
        congr 1
        omega
      have g1 : nI (3 * (4 * t + f)) + 1 = nI (3 * (4 * t + f) + 1) := nI_add _ 1
      have g4 : (4 * nI t) + nI f = nI (4 * t + f) := by
        show nI 4 * nI t + nI f = _
        rw [pk_mul, nI_add]
      obtain ⟨⟨kk, hkk, ek⟩, -⟩ := hr.1 (4 * t + f) (by omega)
      refine smr_M_stage_118 _ _ ?_
      rw [e3, g0, g1, g4, nI_clamp (n := 3 + t) (by omega), nI_clamp (n := t) (by omega), nI_clamp (n := 3 * (4 * t + f)) (by omega), nI_clamp (n := 3 * (4 * t + f) + 1) (by omega), e67, e67', l1, l2, Lr.2 t ht, nI_1, nI_1]
      have go : ¬ srcBad g t f → mm_W Γ smM_M_stage (mm_pI post) 118 [some (.ref (mm_B Γ + 64)), some (.int (nI t)), some (.int (nI (f + 1))), none] [] h := by
        intro hn
        refine ih (f + 1) (by omega) (fun t' f' h3 hs => ?_)
        by_cases hpi : t' = t ∧ f' = f
        · obtain ⟨rfl, rfl⟩ := hpi
          exact hn hs
        · refine hb t' f' ?_ hs
          unfold before at h3 ⊢
          omega
      refine ⟨v6, br_f (nI_ge (by omega) (by omega)) ⟨v3, fun a => knext (fun t' f' h3 hs => ?_), fun a => ⟨vp_in_nI (by omega) (by decide), fun b => go (fun q => q.2.2.1 ?_), fun b => ⟨vp_in_nI (by omega) (by decide), vp_in_nI (by omega) (by decide), fun c => go (fun q => q.2.2.2 c), fun c => ks hok t f ⟨⟨ht, by omega, fun z => ?_, c⟩, hb⟩⟩⟩⟩⟩
      · by_cases htt : t' = t
        · subst htt
          have hf4 : f' < 4 := by
            have := hs.2.1
            rw [cw] at this
            omega
          exact hs.2.2.1 (((hr.2.2 t' ht).2 a).2 f' hf4).1
        · refine hb t' f' ?_ hs
          unfold before at h3 ⊢
          omega
      · rw [ek] at b ⊢
        have := (nI_leI (a := kk) (b := 0) (by omega) (by omega)).mp b
        obtain rfl : kk = 0 := by omega
        rfl
      · apply b
        rw [z]
        exact nI_le (a := 0) (b := 0) (Nat.le_refl _) (by omega)
  have outer2 : okV g 8 → ∀ d t, t + d = 3 → (∀ t' f', before t' f' t 0 → ¬ srcBad g t' f') → mm_W Γ smM_M_stage (mm_pI post) 111 [some (.ref (mm_B Γ + 64)), some (.int (nI t)), none, none] [] h := by
    intro hok d
    induction d with
    | zero =>
      intro t ht hb
      obtain rfl : t = 3 := by omega
      refine smr_M_stage_111 _ (br_t (by decide) (fun m em => ?_))
      rw [em]
      exact kok hok (fun t' f' hs => hb t' f' (Or.inl hs.1) hs)
    | succ d ih =>
      intro t ht hb
      exact smr_M_stage_111 _ (br_f (nI_ge (a := t) (b := 3) (by omega) (by omega)) (inner2 hok t (by omega) (ih (t + 1) (by omega)) _ 0 (Nat.zero_add _) hb))
  -- the words
  have inner1 : ∀ p, p < 6 → ((∀ p' i', p' < 6 → i' < lenV g 8 p' → before p' i' (p + 1) 0 → okW g 8 p' i') → mm_W Γ smM_M_stage (mm_pI post) 12 [some (.ref (mm_B Γ + 64)), some (.int (nI (p + 1))), none, none] [] h) → ∀ d i, i + d = lenV g 8 p → (∀ p' i', p' < 6 → i' < lenV g 8 p' → before p' i' p i → okW g 8 p' i') → mm_W Γ smM_M_stage (mm_pI post) 20 [some (.ref (mm_B Γ + 64)), some (.int (nI p)), some (.int (nI i)), none] [] h := by
    intro p hp knext
    obtain ⟨el, hl⟩ := lenV_of h8 hp
    have f66 : h 66 (6 + p) = nI (lenV g 8 p) := (L8.1 p hp).trans el
    have e6 : (6 : Int32) + nI p = nI (6 + p) := nI_add 6 p
    have v12 : vp_in (nI (6 + p)) 12 := vp_in_nI (by omega) (by decide)
    intro d
    induction d with
    | zero =>
      intro i hi hb
      refine smr_M_stage_20 _ _ ?_
      rw [e6, nI_clamp (n := 6 + p) (by omega), f66, nI_1 p]
      refine ⟨v12, br_t (nI_le (by omega) (by omega)) (knext (fun p' i' h1 h2 h3 => ?_))⟩
      refine hb p' i' h1 h2 ?_
      unfold before at h3 ⊢
      by_cases hpp : p' = p
      · subst hpp
        omega
      · omega
    | succ d ih =>
      intro i hi hb
      have g0 : (288 + (48 * nI p)) + (4 * nI i) = nI (288 + 4 * (12 * p + i)) := by
        show nI 288 + nI 48 * nI p + nI 4 * nI i = _
        rw [pk_mul, pk_mul, nI_add, nI_add]
        congr 1
        omega
      have g12 : (12 * nI p) + nI i = nI (12 * p + i) := by
        show nI 12 * nI p + nI i = _
        rw [pk_mul, nI_add]
      obtain ⟨a1, -, -, -⟩ := L8.2.1 (12 * p + i) (by omega)
      have run : ∀ s0 : Int32, mmB s0 (i + 1 = lenV g 8 p → g (8 + 2) (12 * p + i) = 0) → mm_W Γ smM_M_stage (mm_pI post) 73 [some (.ref (mm_B Γ + 64)), some (.int (nI p)), some (.int (nI i)), none] [.int s0] h := by
        intro s0 hs
        refine smr_M_stage_73 _ _ _ ?_
        rw [g12, nI_1]
        refine us_br (sp_M_isRight h8 L8 hp (by omega)) (fun a => ?_) (fun a => kw p i ⟨hp, by omega, fun q => a q.1, hb⟩)
        have := mmB_br (X := post (-100 - nI (12 * p + i)) h) (Y := mm_W Γ smM_M_stage (mm_pI post) 20 [some (.ref (mm_B Γ + 64)), some (.int (nI p)), some (.int (nI (i + 1))), none] [] h) hs (fun hend => ?_) (fun hn => kw p i ⟨hp, by omega, fun q => hn q.2, hb⟩)
        · exact ⟨this.2, this.1⟩
        · refine ih (i + 1) (by omega) (fun p' i' h1 h2 h3 => ?_)
          by_cases hpi : p' = p ∧ i' = i
          · obtain ⟨rfl, rfl⟩ := hpi
            exact ⟨a, hend⟩
          · refine hb p' i' h1 h2 ?_
            unfold before at h3 ⊢
            omega
      refine smr_M_stage_20 _ _ ?_
      rw [e6, g0, nI_clamp (n := 6 + p) (by omega), nI_clamp (n := 288 + 4 * (12 * p + i)) (by omega), f66, a1, nI_1 i]
      refine ⟨v12, br_f (nI_ge (by omega) (by omega)) ⟨v12, fun a => run 1 (mmB_1 (fun z => ?_)), fun a => ⟨vp_in_nI (by omega) (by decide), fun b => run 0 (mmB_0 (fun z => b (z ?_))), fun b => run 1 (mmB_1 (fun _ => b))⟩⟩⟩
      · have := (nI_ltI (a := i + 1) (b := lenV g 8 p) (by omega) (by omega)).mp a
        omega
      · have : ¬ i + 1 < lenV g 8 p := fun z => a (nI_lt z (by omega))
        omega
  have outer1 : ∀ d p, p + d = 6 → (∀ p' i', p' < 6 → i' < lenV g 8 p' → before p' i' p 0 → okW g 8 p' i') → mm_W Γ smM_M_stage (mm_pI post) 12 [some (.ref (mm_B Γ + 64)), some (.int (nI p)), none, none] [] h := by
    intro d
    induction d with
    | zero =>
      intro p hp hb
      obtain rfl : p = 6 := by omega
      exact smr_M_stage_12 _ (br_t (by decide) (outer2 (fun p' i' h1 h2 => hb p' i' h1 h2 (Or.inl h1)) 3 0 rfl (fun t' f' h3 => by unfold before at h3; omega)))
    | succ d ih =>
      intro p hp hb
      exact smr_M_stage_12 _ (br_f (nI_ge (a := p) (b := 6) (by omega) (by omega)) (inner1 p (by omega) (ih (p + 1) (by omega)) _ 0 (Nat.zero_add _) hb))
  exact smr_M_stage (br_t h5 (outer1 6 0 rfl (fun p' i' h1 h2 h3 => by unfold before at h3; omega)))
theorem pr_stage : mm_pair Γ Rel smM_S_stage smM_M_stage [] := by
  intro h hR
  have e5 : h 64 5 = h 0 8 := hR.2.1.1
  have I1 : Iv h 1 := hR.1.1.1
  have I8 : Iv h 8 := hR.1.2.1
  have Ir : Irul h := hR.1.2.2.2.1
  obtain ⟨-, L1, L8, Lr, -⟩ := hR.2
  refine smr_S_stage ⟨fun a => ?_, fun a => smr_M_stage (br_f (by rw [e5]; exact a) ⟨rfl, hR⟩)⟩
  have h5 : h 64 5 = 0 := by rw [e5]; exact a
  refine mm_SI_mono (sp_firstWrong (Or.inr rfl) I8) (fun r g' q => ?_)
  obtain ⟨rfl, q⟩ := q
  rcases q with ⟨rfl, hok⟩ | ⟨p, i, hb, rfl⟩
  · refine br_t rfl (mm_SI_mono (sp_firstSource I1 I8) (fun r g'' q => ?_))
    obtain ⟨rfl, q⟩ := q
    rcases q with ⟨rfl, hs⟩ | ⟨t, f, hb, rfl⟩
    · refine br_t rfl (fun m em => ?_)
      rw [em]
      have e : ∀ q, ¬ q = 0 → mm_wr g'' 0 8 1 q = g'' q := fun q hq => mw_ne hq
      refine sp_M_stage (g := g'') I1 I8 Ir (Lver_congr (fun _ _ _ => rfl) (e _ (by omega)) (e _ (by omega)) (e _ (by omega)) L1) (Lver_congr (fun _ _ _ => rfl) (e _ (by omega)) (e _ (by omega)) (e _ (by omega)) L8) (Lrul_congr rfl rfl rfl rfl (e _ (by omega)) (e _ (by omega)) Lr) (by rw [e 64 (by omega)]; exact h5) (fun p i hb => absurd (hok p i hb.1 hb.2.1) hb.2.2.1) (fun _ t f hb => absurd hb.1 (hs t f)) (fun _ _ => ⟨rfl, Rel_flag hR (Or.inr ⟨rfl, hok, ?_⟩)⟩)
      intro t f ht hf hk
      have hlt : g'' 18 (4 * t + f) < g'' 7 t := Classical.byContradiction (fun q => hs t f ⟨ht, hf, hk, q⟩)
      obtain ⟨w, hw, ew0⟩ := I1.2 t ht
      have ew : g'' 7 t = nI w := ew0
      obtain ⟨w8, hw8, ew8⟩ := I8.2 t ht
      have ew8' : g'' 14 t = nI w8 := ew8
      rw [ew8', nI_clamp (by omega)] at hf
      obtain ⟨-, ⟨fr, hfr, ef⟩⟩ := Ir.1 (4 * t + f) (by omega)
      rw [ew, ef] at hlt ⊢
      rw [nI_clamp (by omega), nI_clamp (by omega)]
      exact (nI_ltI (by omega) (by omega)).mp hlt
    · have hlt : 4 * t + f < 12 := by
        obtain ⟨w8, hw8, ew8⟩ := I8.2 t hb.1.1
        have ew8' : g'' 14 t = nI w8 := ew8
        have := hb.1.2.1
        rw [ew8', nI_clamp (by omega)] at this
        have := hb.1.1
        omega
      refine br_f (m1_ne (by omega)) ?_
      refine sp_M_stage (g := g'') I1 I8 Ir L1 L8 Lr h5 (fun p i hb => absurd (hok p i hb.1 hb.2.1) hb.2.2.1) (fun _ t' f' hb' => ?_) (fun _ hs => absurd hb.1 (hs t f))
      obtain ⟨rfl, rfl⟩ := fstSrc_eq hb hb'
      exact ⟨rfl, hR⟩
  · obtain ⟨el, hl⟩ := lenV_of I8 hb.1
    have hlt : 12 * p + i < 72 := by
      have h1 := hb.1
      have h2 := hb.2.1
      omega
    refine br_f (m1_ne (by omega)) ?_
    refine sp_M_stage (g := g') I1 I8 Ir L1 L8 Lr h5 (fun p' i' hb' => ?_) (fun hok => absurd (hok p i hb.1 hb.2.1) hb.2.2.1) (fun hok => absurd (hok p i hb.1 hb.2.1) hb.2.2.1)
    obtain ⟨rfl, rfl⟩ := fstBad_eq hb hb'
    exact ⟨rfl, hR⟩
end SG
