section SW
variable {Γ : mm_Ctx}
/-- what the sweep of the reference looks at -/
def SwI (g h : mm_Mem) (n : Nat) : Prop := Iheap g ∧ Iv g 1 ∧ Itasks g n ∧ Lheap g h ∧ Lglob g h ∧ h 64 12 = nI n ∧ (∀ t, t < 3 → h 67 t = g 7 t) ∧ ∀ i, i < n → h 77 (i + 1) = g (28 + 6 * i) 5 ∧ ∀ k, k < dep g i → ∀ x, x < 3 → h 78 (36 * (i + 1) + 6 * k + 2 + x) = g (28 + 6 * i + 3) (3 * k + x)
def SM (g : mm_Mem) (n : Nat) (h m : mm_Mem) : Prop := (∀ q, ¬ q = 74 → m q = h q) ∧ ∀ o, 1 ≤ o → o ≤ 16 → ¬ m 74 o = 0 → Reach g n o
def Mle (m m' : mm_Mem) : Prop := ∀ o, ¬ m 74 o = 0 → ¬ m' 74 o = 0
def Mcl (g m : mm_Mem) : Prop := ∀ o o', 1 ≤ o → o ≤ 16 → ¬ m 74 o = 0 → edge g o o' → ¬ m 74 o' = 0
def SwpR (g : mm_Mem) (n : Nat) (h h' : mm_Mem) : Prop := (∀ q, ¬ q = 71 → ¬ q = 74 → h' q = h q) ∧ ∀ o, 1 ≤ o → o ≤ 16 → (Gone g n o → h' 71 o = -1) ∧ (¬ Gone g n o → h' 71 o = g 21 o)
theorem sp_M_mark {g h m : mm_Mem} {n : Nat} (hI : Iheap g) (hL : Lheap g h) (hM : SM g n h m) {x : Int32} (hx : ∀ o, live g o → x = nI o → Reach g n o) : mm_SV Γ smM_M_mark [.ref (mm_B Γ + 64), .int x] m (fun m' => SM g n h m' ∧ Mle m m' ∧ ∀ o, live g o → x = nI o → ¬ m' 74 o = 0) := by
  obtain ⟨m1, m2⟩ := hM
  have hL' : Lheap g m := Lheap_congr rfl rfl rfl (m1 71 (by omega)) (m1 72 (by omega)) hL
  refine smr_M_mark _ (us_br (sp_M_isObject hI hL') (fun a => ?_) (fun a => ⟨⟨m1, m2⟩, fun _ q => q, fun o h1 h2 => absurd ⟨o, h1, h2⟩ a⟩))
  obtain ⟨o, ho, rfl⟩ := a
  have o2 := ho.2.1
  refine ⟨vp_in_nI (by omega) (by decide), fun m' e => ?_⟩
  rw [nI_clamp (by omega)] at e
  have u : ∀ o', m' 74 o' = if o' = o then 1 else m 74 o' := fun o' => by rw [e, mw_eq]; rfl
  refine ⟨⟨fun q hq => by rw [e, mw_ne hq, m1 q hq], fun o' h1 h2 h3 => ?_⟩, fun o' h1 => ?_, fun o' h1 h2 => ?_⟩
  · by_cases c : o' = o
    · subst c
      exact hx o' ho rfl
    · rw [u, if_neg c] at h3
      exact m2 o' h1 h2 h3
  · rw [u]
    split
    · decide
    · exact h1
  · rw [← live_n h1 h2 (by omega), u, if_pos rfl]
    decide
theorem sp_count {m : mm_Mem} : mm_I1 Γ smM_M_countMarked [.ref (mm_B Γ + 64)] m (nI (cntR (m 74) 16)) := by
  have loop : ∀ d k, k + d = 16 → mm_W Γ smM_M_countMarked (mm_pI (fun r h' => h' = m ∧ r = nI (cntR (m 74) 16))) 4 [some (.ref (mm_B Γ + 64)), some (.int (nI (cntR (m 74) k))), some (.int (nI (k + 1)))] [] m := by
    intro d
    induction d with
    | zero =>
      intro k hk
      obtain rfl : k = 16 := by omega
      exact smr_M_countMarked_4 _ _ (br_t (by decide) ⟨rfl, rfl⟩)
    | succ d ih =>
      intro k hk
      refine smr_M_countMarked_4 _ _ (br_f (nI_ge (a := k + 1) (b := 17) (by omega) (by omega)) ⟨vp_in_nI (by omega) (by decide), ?_⟩)
      rw [nI_clamp (by omega), nI_1 (k + 1)]
      have e : cntR (m 74) (k + 1) = cntR (m 74) k + (if m 74 (k + 1) = 0 then 0 else 1) := rfl
      have this := ih (k + 1) (by omega)
      rw [e] at this
      refine ⟨fun a y ey => ?_, fun a y ey => ?_⟩
      · rw [if_pos a] at this
        rw [ey]
        rw [show nI (cntR (m 74) k) + 0 = nI (cntR (m 74) k + 0) from nI_add _ 0]
        exact this
      · rw [if_neg a] at this
        rw [ey, nI_1]
        exact this
  exact smr_M_countMarked (loop 16 0 rfl)
theorem sp_sweep {g h : mm_Mem} {n : Nat} (hS : SwI g h n) : mm_SI Γ smM_M_sweep [.ref (mm_B Γ + 64)] h (fun r h' => r = nI (cntP (Gone g n) 16) ∧ SwpR g n h h') := by
  obtain ⟨hI, hV, hT, hL, hG, h12, hW, hF⟩ := hS
  have hn6 := hT.1
  generalize hpost : (fun (r : Int32) (h' : mm_Mem) => r = nI (cntP (Gone g n) 16) ∧ SwpR g n h h') = post
  -- the last loop
  have fin : ∀ m, SM g n h m → (∀ o, Reach g n o → ¬ m 74 o = 0) → mm_W Γ smM_M_sweep (mm_pI post) 191 [some (.ref (mm_B Γ + 64)), none, some (.int 0), some (.int 1)] [] m := by
    intro m hM hall
    obtain ⟨m1, m2⟩ := hM
    have loop : ∀ d k (m' : mm_Mem), k + d = 16 → (∀ q, ¬ q = 71 → m' q = m q) → (∀ o, 1 ≤ o → o ≤ 16 → (o ≤ k → Gone g n o → m' 71 o = -1) ∧ (¬ (o ≤ k ∧ Gone g n o) → m' 71 o = g 21 o)) → mm_W Γ smM_M_sweep (mm_pI post) 191 [some (.ref (mm_B Γ + 64)), none, some (.int (nI (cntP (Gone g n) k))), some (.int (nI (k + 1)))] [] m' := by
      intro d
      induction d with
      | zero =>
        intro k m' hk a b
        obtain rfl : k = 16 := by omega
        refine smr_M_sweep_191 _ _ (br_t (by decide) ?_)
        rw [← hpost]
        exact ⟨rfl, fun q h1 h2 => by rw [a q h1, m1 q h2], fun o h1 h2 => ⟨fun hg => (b o h1 h2).1 h2 hg, fun hg => (b o h1 h2).2 (fun z => hg z.2)⟩⟩
      | succ d ih =>
        intro k m' hk a b
        have e74 : m' 74 = m 74 := a 74 (by omega)
        have e71 : m' 71 (k + 1) = g 21 (k + 1) := (b (k + 1) (by omega) (by omega)).2 (by omega)
        have keep : ¬ Gone g n (k + 1) → mm_W Γ smM_M_sweep (mm_pI post) 191 [some (.ref (mm_B Γ + 64)), none, some (.int (nI (cntP (Gone g n) k))), some (.int (nI (k + 1) + 1))] [] m' := by
          intro hg
          rw [nI_1, ← cntP_f hg]
          refine ih (k + 1) m' (by omega) a (fun o h1 h2 => ⟨fun h3 h4 => ?_, fun h3 => ?_⟩)
          · by_cases hok : o = k + 1
            · subst hok
              exact absurd h4 hg
            · exact (b o h1 h2).1 (by omega) h4
          · exact (b o h1 h2).2 (fun z => h3 ⟨by omega, z.2⟩)
        have v17 : vp_in (nI (k + 1)) 17 := vp_in_nI (by omega) (by decide)
        refine smr_M_sweep_191 _ _ (br_f (nI_ge (a := k + 1) (b := 17) (by omega) (by omega)) ⟨v17, ?_⟩)
        rw [nI_clamp (n := k + 1) (by omega), e71, e74]
        refine ⟨fun c => keep (fun z => rg_pos (hI.1 _ z.1) (by decide) c), fun c => ⟨v17, fun q => keep (fun z => z.2 (m2 (k + 1) (by omega) (by omega) q)), fun q => ⟨v17, fun m'' e' => ?_⟩⟩⟩
        have hg : Gone g n (k + 1) := ⟨⟨by omega, by omega, fun z => c (by rw [z]; exact m1_lt)⟩, fun z => hall _ z q⟩
        rw [nI_1, nI_1, ← cntP_t hg]
        refine ih (k + 1) m'' (by omega) (fun q' hq' => by rw [e', mw_ne hq', a q' hq']) (fun o h1 h2 => ⟨fun h3 h4 => ?_, fun h3 => ?_⟩)
        · by_cases hok : o = k + 1
          · subst hok
            rw [e', mw_hit]
          · rw [e', mw_miss (by omega)]
            exact (b o h1 h2).1 (by omega) h4
        · have hok : ¬ o = k + 1 := fun z => h3 ⟨by omega, by rw [z]; exact hg⟩
          rw [e', mw_miss (by omega)]
          exact (b o h1 h2).2 (fun z => h3 ⟨by omega, z.2⟩)
    exact loop 16 0 m rfl (fun _ _ => rfl) (fun o h1 h2 => ⟨fun h3 => absurd h3 (by omega), fun _ => by rw [m1 71 (by omega), hL.1 o h1 h2]⟩)
  have ex : ∀ m x1, x1 = nI (cntR (m 74) 16) → SM g n h m → (∀ o, root g n o → ¬ m 74 o = 0) → Mcl g m → mm_W Γ smM_M_sweep (mm_pI post) 111 [some (.ref (mm_B Γ + 64)), some (.int x1), none, none] [] m := by
    intro m x1 e hM hr hc
    refine smr_M_sweep_111 _ (us_eq sp_count (br_t e (fin m hM (fun o hR => ?_))))
    exact (hR (fun o => 1 ≤ o ∧ o ≤ 16 ∧ ¬ m 74 o = 0) (fun o ho => ⟨ho.1.1, ho.1.2.1, hr o ho⟩) (fun o o' ho he => ⟨he.1.1, he.1.2.1, hc o o' ho.1 ho.2.1 ho.2.2 he⟩)).2.2
  -- one pass
  have pass : ∀ x1 m0, (∀ m', SM g n h m' → Mle m0 m' → (∀ o o', 1 ≤ o → o ≤ 16 → ¬ m0 74 o = 0 → edge g o o' → ¬ m' 74 o' = 0) → mm_W Γ smM_M_sweep (mm_pI post) 111 [some (.ref (mm_B Γ + 64)), some (.int x1), none, none] [] m') → ∀ d k m, k + d = 17 → 1 ≤ k → SM g n h m → Mle m0 m → (∀ o o', 1 ≤ o → o < k → ¬ m0 74 o = 0 → edge g o o' → ¬ m 74 o' = 0) → mm_W Γ smM_M_sweep (mm_pI post) 126 [some (.ref (mm_B Γ + 64)), some (.int x1), some (.int (nI k)), none] [] m := by
    intro x1 m0 K d
    induction d with
    | zero =>
      intro k m hk h1 hM hle hp
      obtain rfl : k = 17 := by omega
      exact smr_M_sweep_126 _ _ (br_t (by decide) (K m hM hle (fun o o' a b => hp o o' a (by omega))))
    | succ d ihd =>
      intro k m hk h1 hM hle hp
      refine smr_M_sweep_126 _ _ (br_f (nI_ge (a := k) (b := 17) (by omega) (by omega)) ?_)
      have inner : ∀ e f m, f + e = 4 → SM g n h m → Mle m0 m → (∀ o o', 1 ≤ o → o < k → ¬ m0 74 o = 0 → edge g o o' → ¬ m 74 o' = 0) → (∀ o' f', f' < f → live g o' → g 22 (4 * k + f') = nI o' → ¬ m 74 o' = 0) → mm_W Γ smM_M_sweep (mm_pI post) 134 [some (.ref (mm_B Γ + 64)), some (.int x1), some (.int (nI k)), some (.int (nI f))] [] m := by
        intro e
        induction e with
        | zero =>
          intro f m hf hM hle hp hc
          obtain rfl : f = 4 := by omega
          have v17 : vp_in (nI k) 17 := vp_in_nI (by omega) (by decide)
          refine smr_M_sweep_134 _ _ _ ⟨v17, ?_⟩
          rw [nI_clamp (n := k) (by omega), nI_1 k]
          refine ⟨fun a => ihd (k + 1) m (by omega) (by omega) hM hle (fun o o' q1 q2 q3 q4 => ?_), fun a => ⟨v17, ?_⟩⟩
          · by_cases hok : o = k
            · subst hok
              exact absurd a (hle o q3)
            · exact hp o o' q1 (by omega) q3 q4
          · have hlv := Reach_live (hM.2 k h1 (by omega) a)
            obtain ⟨t, ht, et⟩ := hI.1 k hlv
            obtain ⟨wd, hwd, ewd⟩ := hV.2 t (by omega)
            have e71 : m 71 k = nI t := by rw [hM.1 71 (by omega), hL.1 k h1 (by omega), et]
            have e67 : m 67 t = nI wd := by rw [hM.1 67 (by omega), hW t (by omega)]; exact ewd
            rw [e71, nI_clamp (n := t) (by omega), e67]
            refine ⟨vp_in_nI (by omega) (by decide), br_t (nI_le (b := 4) hwd (by omega)) (ihd (k + 1) m (by omega) (by omega) hM hle (fun o o' q1 q2 q3 q4 => ?_))⟩
            by_cases hok : o = k
            · subst hok
              obtain ⟨l', f', hf', ef'⟩ := q4
              exact hc o' f' hf' l' ef'
            · exact hp o o' q1 (by omega) q3 q4
        | succ e ihe =>
          intro f m hf hM hle hp hc
          have v17 : vp_in (nI k) 17 := vp_in_nI (by omega) (by decide)
          refine smr_M_sweep_134 _ _ _ ⟨v17, ?_⟩
          rw [nI_clamp (n := k) (by omega), nI_1 k]
          refine ⟨fun a => ihd (k + 1) m (by omega) (by omega) hM hle (fun o o' q1 q2 q3 q4 => ?_), fun a => ⟨v17, ?_⟩⟩
          · by_cases hok : o = k
            · subst hok
              exact absurd a (hle o q3)
            · exact hp o o' q1 (by omega) q3 q4
          · have hRk := hM.2 k h1 (by omega) a
            have hlv := Reach_live hRk
            obtain ⟨t, ht, et⟩ := hI.1 k hlv
            obtain ⟨wd, hwd, ewd⟩ := hV.2 t (by omega)
            have ewd7 : g 7 t = nI wd := ewd
            have hwid : wid g k = wd := by
              unfold wid
              rw [et, nI_clamp (by omega), ewd7, nI_clamp (by omega)]
            have e71 : m 71 k = nI t := by rw [hM.1 71 (by omega), hL.1 k h1 (by omega), et]
            have e67 : m 67 t = nI wd := by rw [hM.1 67 (by omega), hW t (by omega)]; exact ewd
            have g4 : (4 : Int32) * nI k + nI f = nI (4 * k + f) := by
              show nI 4 * nI k + nI f = _
              rw [pk_mul, nI_add]
            rw [e71, nI_clamp (n := t) (by omega), e67, g4, nI_clamp (n := 4 * k + f) (by omega)]
            refine ⟨vp_in_nI (by omega) (by decide), fun b => ihd (k + 1) m (by omega) (by omega) hM hle (fun o o' q1 q2 q3 q4 => ?_), fun b => ⟨vp_in_nI (by omega) (by decide), ?_⟩⟩
            · have hle' : wd ≤ f := (nI_leI (by omega) (by omega)).mp b
              by_cases hok : o = k
              · subst hok
                obtain ⟨l', f', hf', ef'⟩ := q4
                by_cases hff : f' < f
                · exact hc o' f' hff l' ef'
                · have z := hI.2 o hlv f' hf' (by omega)
                  rw [ef'] at z
                  exact absurd z (nI_ne0 l'.1 (by have := l'.2.1; omega))
              · exact hp o o' q1 (by omega) q3 q4
            · have hlt : f < wd := by
                have : ¬ wd ≤ f := fun z => b (nI_le z (by omega))
                omega
              have e72 : m 72 (4 * k + f) = g 22 (4 * k + f) := by rw [hM.1 72 (by omega), hL.2 k hlv f (by omega)]
              rw [e72, nI_1 f]
              refine mm_SV_mono (sp_M_mark hI hL hM (fun o' q1 q2 => Reach_edge hRk ⟨q1, f, by omega, q2⟩)) (fun m' q => ?_)
              obtain ⟨hM', hl', hx⟩ := q
              refine ihe (f + 1) m' (by omega) hM' (fun o q => hl' o (hle o q)) (fun o o' q1 q2 q3 q4 => hl' o' (hp o o' q1 q2 q3 q4)) (fun o' f' q1 q2 q3 => ?_)
              by_cases hff : f' = f
              · subst hff
                exact hx o' q2 q3
              · exact hl' o' (hc o' f' (by omega) q2 q3)
      exact inner 4 0 m rfl hM hle hp (fun _ f' q => absurd q (by omega))
  have main : ∀ d m, SM g n h m → (∀ o, root g n o → ¬ m 74 o = 0) → 16 ≤ d + cntR (m 74) 16 → ∀ x1, (x1 = nI (cntR (m 74) 16) → Mcl g m) → mm_W Γ smM_M_sweep (mm_pI post) 111 [some (.ref (mm_B Γ + 64)), some (.int x1), none, none] [] m := by
    intro d
    induction d with
    | zero =>
      intro m hM hr hd x1 hx
      refine smr_M_sweep_111 _ (us_eq sp_count ⟨fun a => ?_, fun a => us_eq sp_count ?_⟩)
      · refine fin m hM (fun o hR => ?_)
        exact (hR (fun o => 1 ≤ o ∧ o ≤ 16 ∧ ¬ m 74 o = 0) (fun o ho => ⟨ho.1.1, ho.1.2.1, hr o ho⟩) (fun o o' ho he => ⟨he.1.1, he.1.2.1, hx a o o' ho.1 ho.2.1 ho.2.2 he⟩)).2.2
      · refine pass _ m (fun m' hM' hle' hcl' => ?_) 16 1 m rfl (by omega) hM (fun _ q => q) (fun _ _ q1 q2 => absurd q1 (by omega))
        obtain ⟨c1, c2⟩ := cntR_mono (r := m 74) (r' := m' 74) 16 (fun o _ _ => hle' o)
        have c3 := cntR_le (m' 74) 16
        have ce : cntR (m 74) 16 = cntR (m' 74) 16 := by omega
        exact ex m' _ (by rw [ce]) hM' (fun o ho => hle' o (hr o ho)) (fun o o' q1 q2 q3 q4 => hcl' o o' q1 q2 (c2 ce o q1 q2 q3) q4)
    | succ d ih =>
      intro m hM hr hd x1 hx
      refine smr_M_sweep_111 _ (us_eq sp_count ⟨fun a => ?_, fun a => us_eq sp_count ?_⟩)
      · refine fin m hM (fun o hR => ?_)
        exact (hR (fun o => 1 ≤ o ∧ o ≤ 16 ∧ ¬ m 74 o = 0) (fun o ho => ⟨ho.1.1, ho.1.2.1, hr o ho⟩) (fun o o' ho he => ⟨he.1.1, he.1.2.1, hx a o o' ho.1 ho.2.1 ho.2.2 he⟩)).2.2
      · refine pass _ m (fun m' hM' hle' hcl' => ?_) 16 1 m rfl (by omega) hM (fun _ q => q) (fun _ _ q1 q2 => absurd q1 (by omega))
        obtain ⟨c1, c2⟩ := cntR_mono (r := m 74) (r' := m' 74) 16 (fun o _ _ => hle' o)
        have c3 := cntR_le (m' 74) 16
        by_cases ce : cntR (m 74) 16 = cntR (m' 74) 16
        · exact ex m' _ (by rw [ce]) hM' (fun o ho => hle' o (hr o ho)) (fun o o' q1 q2 q3 q4 => hcl' o o' q1 q2 (c2 ce o q1 q2 q3) q4)
        · exact ih m' hM' (fun o ho => hle' o (hr o ho)) (by omega) _ (fun z => absurd (nI_in' (by omega) (by omega) z) ce)
  -- the tasks' locals
  have tasks : ∀ d i m, i + d = n → SM g n h m → (∀ o x, x < 4 → live g o → g 26 x = nI o → ¬ m 74 o = 0) → (∀ o j x, j < i → x < 3 * dep g j → live g o → g (28 + 6 * j + 3) x = nI o → ¬ m 74 o = 0) → mm_W Γ smM_M_sweep (mm_pI post) 46 [some (.ref (mm_B Γ + 64)), some (.int (nI (i + 1))), none, none] [] m := by
    intro d
    induction d with
    | zero =>
      intro i m hi hM hg hp
      obtain rfl : i = n := by omega
      refine smr_M_sweep_46 _ ?_
      rw [hM.1 64 (by omega), h12]
      refine br_t (nI_lt (by omega) (by omega)) (main 16 m hM (fun o ho => ?_) (by omega) _ (fun z => ?_))
      · rcases ho.2 with ⟨x, hx, e⟩ | ⟨j, x, hj, hx, e⟩
        · exact hg o x hx ho.1 e
        · exact hp o j x hj hx ho.1 e
      · have c3 := cntR_le (m 74) 16
        have := m1_lt
        rw [z] at this
        exact absurd this (nI_pos (by omega))
    | succ d ih =>
      intro i m hi hM hg hp
      obtain ⟨f77, f78⟩ := hF i (by omega)
      obtain ⟨ed, hd6⟩ := dep_of (hT.2.2.1 i (by omega))
      refine smr_M_sweep_46 _ ?_
      rw [hM.1 64 (by omega), h12]
      refine br_f (nI_nlt (by omega) (by omega)) ?_
      have frames : ∀ e k m, k + e = dep g i → SM g n h m → (∀ o x, x < 4 → live g o → g 26 x = nI o → ¬ m 74 o = 0) → (∀ o j x, j < i → x < 3 * dep g j → live g o → g (28 + 6 * j + 3) x = nI o → ¬ m 74 o = 0) → (∀ o x', x' < 3 * k → live g o → g (28 + 6 * i + 3) x' = nI o → ¬ m 74 o = 0) → mm_W Γ smM_M_sweep (mm_pI post) 56 [some (.ref (mm_B Γ + 64)), some (.int (nI (i + 1))), some (.int (nI k)), none] [] m := by
        intro e
        induction e with
        | zero =>
          intro k m hk hM hg hp hc
          refine smr_M_sweep_56 _ _ ⟨vp_in_nI (by omega) (by decide), ?_⟩
          rw [nI_clamp (n := i + 1) (by omega), hM.1 77 (by omega), f77, ed, nI_1]
          refine br_t (nI_le (by omega) (by omega)) (ih (i + 1) m (by omega) hM hg (fun o j x q1 q2 q3 q4 => ?_))
          by_cases hji : j = i
          · subst hji
            exact hc o x (by omega) q3 q4
          · exact hp o j x (by omega) q2 q3 q4
        | succ e ihe =>
          intro k m hk hM hg hp hc
          refine smr_M_sweep_56 _ _ ⟨vp_in_nI (by omega) (by decide), ?_⟩
          rw [nI_clamp (n := i + 1) (by omega), hM.1 77 (by omega), f77, ed]
          refine br_f (nI_ge (by omega) (by omega)) ?_
          have locs : ∀ u x m, x + u = 3 → SM g n h m → (∀ o x, x < 4 → live g o → g 26 x = nI o → ¬ m 74 o = 0) → (∀ o j x, j < i → x < 3 * dep g j → live g o → g (28 + 6 * j + 3) x = nI o → ¬ m 74 o = 0) → (∀ o x', x' < 3 * k + x → live g o → g (28 + 6 * i + 3) x' = nI o → ¬ m 74 o = 0) → mm_W Γ smM_M_sweep (mm_pI post) 68 [some (.ref (mm_B Γ + 64)), some (.int (nI (i + 1))), some (.int (nI k)), some (.int (nI x))] [] m := by
            intro u
            induction u with
            | zero =>
              intro x m hx hM hg hp hc
              obtain rfl : x = 3 := by omega
              refine smr_M_sweep_68 _ _ _ (br_t (by decide) ?_)
              rw [nI_1]
              exact ihe (k + 1) m (by omega) hM hg hp (fun o x' q => hc o x' (by omega))
            | succ u ihu =>
              intro x m hx hM hg hp hc
              refine smr_M_sweep_68 _ _ _ (br_f (nI_ge (a := x) (b := 3) (by omega) (by omega)) (us_eq (sp_M_frameAt (i + 1) k rfl rfl) ?_))
              have g2 : nI (36 * (i + 1) + 6 * k) + 2 + nI x = nI (36 * (i + 1) + 6 * k + 2 + x) := by
                rw [show nI (36 * (i + 1) + 6 * k) + 2 = nI (36 * (i + 1) + 6 * k + 2) from nI_add _ 2, nI_add]
              rw [g2, nI_clamp (n := 36 * (i + 1) + 6 * k + 2 + x) (by omega), hM.1 78 (by omega), f78 k (by omega) x (by omega), nI_1 x]
              refine ⟨vp_in_nI (by omega) (by decide), mm_SV_mono (sp_M_mark hI hL hM (fun o q1 q2 => Reach_root ⟨q1, Or.inr ⟨i, 3 * k + x, by omega, by omega, q2⟩⟩)) (fun m' q => ?_)⟩
              obtain ⟨hM', hl', hxx⟩ := q
              refine ihu (x + 1) m' (by omega) hM' (fun o y a b e => hl' o (hg o y a b e)) (fun o j y a b c e => hl' o (hp o j y a b c e)) (fun o x' a b e => ?_)
              by_cases hx' : x' = 3 * k + x
              · subst hx'
                exact hxx o b e
              · exact hl' o (hc o x' (by omega) b e)
          exact locs 3 0 m rfl hM hg hp hc
      exact frames _ 0 m (Nat.zero_add _) hM hg hp (fun o x' q => absurd q (by omega))
  have glob : ∀ d x m, x + d = 4 → SM g n h m → (∀ o x', x' < x → live g o → g 26 x' = nI o → ¬ m 74 o = 0) → mm_W Γ smM_M_sweep (mm_pI post) 23 [some (.ref (mm_B Γ + 64)), some (.int (nI x)), none, none] [] m := by
    intro d
    induction d with
    | zero =>
      intro x m hx hM hg
      obtain rfl : x = 4 := by omega
      exact smr_M_sweep_23 _ (br_t (by decide) (tasks n 0 m (by omega) hM hg (fun o j y q => absurd q (by omega))))
    | succ d ih =>
      intro x m hx hM hg
      refine smr_M_sweep_23 _ ?_
      rw [hM.1 70 (by omega), nI_clamp (n := x) (by omega), hG x (by omega), nI_1]
      refine br_f (nI_ge (a := x) (b := 4) (by omega) (by omega)) ⟨vp_in_nI (by omega) (by decide), mm_SV_mono (sp_M_mark hI hL hM (fun o ho e => Reach_root ⟨ho, Or.inl ⟨x, by omega, e⟩⟩)) (fun m' q => ?_)⟩
      obtain ⟨hM', hl', hxx⟩ := q
      refine ih (x + 1) m' (by omega) hM' (fun o x' a b e => ?_)
      by_cases hx' : x' = x
      · subst hx'
        exact hxx o b e
      · exact hl' o (hg o x' (by omega) b e)
  have clear : ∀ d k (m : mm_Mem), k + d = 17 → (∀ q, ¬ q = 74 → m q = h q) → (∀ o, o < k → m 74 o = 0) → mm_W Γ smM_M_sweep (mm_pI post) 2 [some (.ref (mm_B Γ + 64)), some (.int (nI k)), none, none] [] m := by
    intro d
    induction d with
    | zero =>
      intro k m hk a c
      obtain rfl : k = 17 := by omega
      exact smr_M_sweep_2 _ (br_t (by decide) (glob 4 0 m rfl ⟨a, fun o h1 h2 h3 => absurd (c o (by omega)) h3⟩ (fun o x' q => absurd q (by omega))))
    | succ d ih =>
      intro k m hk a c
      refine smr_M_sweep_2 _ (br_f (nI_ge (a := k) (b := 17) (by omega) (by omega)) ⟨vp_in_nI (by omega) (by decide), fun m' e => ?_⟩)
      rw [nI_clamp (by omega)] at e
      rw [nI_1]
      refine ih (k + 1) m' (by omega) (fun q hq => by rw [e, mw_ne hq, a q hq]) (fun o ho => ?_)
      by_cases hok : o = k
      · subst hok
        rw [e, mw_hit]
      · rw [e, mw_miss (by omega)]
        exact c o (by omega)
  exact smr_M_sweep (clear 17 0 h rfl (fun _ _ => rfl) (fun o ho => absurd ho (by omega)))
/-! after both -/
theorem gc_live {g g' : mm_Mem} {n : Nat} (hD : DropC g n g') (o : Nat) : live g' o ↔ live g o ∧ Reach g n o := by
  constructor
  · rintro ⟨h1, h2, h3⟩
    obtain ⟨d1, d2⟩ := hD.2 o h1 h2
    have hng : ¬ Gone g n o := fun z => h3 (d1 z)
    have hlg : live g o := ⟨h1, h2, by rw [← d2 hng]; exact h3⟩
    refine ⟨hlg, ?_⟩
    by_cases c : Reach g n o
    · exact c
    · exact absurd ⟨hlg, c⟩ hng
  · rintro ⟨⟨h1, h2, h3⟩, h4⟩
    refine ⟨h1, h2, ?_⟩
    rw [(hD.2 o h1 h2).2 (fun z => z.2 h4)]
    exact h3
theorem gc_type {g g' : mm_Mem} {n : Nat} (hD : DropC g n g') {o : Nat} (ho : live g' o) : g' 21 o = g 21 o := (hD.2 o ho.1 ho.2.1).2 (fun z => z.2 ((gc_live hD o).mp ho).2)
theorem gc_wid {g g' : mm_Mem} {n : Nat} (hD : DropC g n g') {o : Nat} (ho : live g' o) : wid g' o = wid g o := by
  unfold wid
  rw [gc_type hD ho, hD.1 7 (by omega) (by omega) (by omega) (by omega)]
theorem gc_heap {g g' h h' : mm_Mem} {n : Nat} (hD : DropC g n g') (hW : SwpR g n h h') (hI : Iheap g) (hL : Lheap g h) : Iheap g' ∧ Lheap g' h' := by
  have e22 : g' 22 = g 22 := hD.1 22 (by omega) (by omega) (by omega) (by omega)
  refine ⟨⟨fun o ho => ?_, fun o ho f hf hw => ?_⟩, fun o h1 h2 => ?_, fun o ho f hf => ?_⟩
  · rw [gc_type hD ho]
    exact hI.1 o ((gc_live hD o).mp ho).1
  · rw [gc_wid hD ho] at hw
    rw [e22]
    exact hI.2 o ((gc_live hD o).mp ho).1 f hf hw
  · by_cases c : Gone g n o
    · rw [(hW.2 o h1 h2).1 c, (hD.2 o h1 h2).1 c]
    · rw [(hW.2 o h1 h2).2 c, (hD.2 o h1 h2).2 c]
  · rw [gc_wid hD ho] at hf
    rw [e22, hW.1 72 (by omega) (by omega)]
    exact hL.2 o ((gc_live hD o).mp ho).1 f hf
/-- the heap alone is changed -/
theorem Rel_hp {h h2 : mm_Mem} (hR : Rel h) (e : ∀ q, ¬ (20 ≤ q ∧ q ≤ 25) → ¬ (71 ≤ q ∧ q ≤ 74) → h2 q = h q) (a : Iheap h2) (b : Lheap h2 h2) : Rel h2 := by
  obtain ⟨⟨⟨k1, k2⟩, k3, k4, k5, -, n, k7⟩, ⟨c1, c2, c3⟩, d2, d3, d4, d5, -, d7⟩ := hR
  have e0 : h2 0 = h 0 := e 0 (by omega) (by omega)
  have f0 : h2 64 = h 64 := e 64 (by omega) (by omega)
  exact ⟨⟨⟨Iv_congr (e _ (by omega) (by omega)) (e _ (by omega) (by omega)) k1, okV_congr (fun q _ _ => e q (by omega) (by omega)) k2⟩, Iv_congr (e _ (by omega) (by omega)) (e _ (by omega) (by omega)) k3, Istg_congr (by rw [e0]) (fun q _ _ => e q (by omega) (by omega)) (e _ (by omega) (by omega)) (e _ (by omega) (by omega)) (e _ (by omega) (by omega)) k4, Irul_congr (e _ (by omega) (by omega)) (e _ (by omega) (by omega)) (e _ (by omega) (by omega)) (e _ (by omega) (by omega)) (e _ (by omega) (by omega)) (e _ (by omega) (by omega)) k5, a, n, Itasks_congr (by rw [e0]) (e _ (by omega) (by omega)) (fun q _ _ => e q (by omega) (by omega)) k7⟩, ⟨by rw [e0, f0]; exact c1, by rw [e0, f0]; exact c2, by rw [e0, f0]; exact c3⟩, Lver_congr (fun q _ _ => e q (by omega) (by omega)) (e _ (by omega) (by omega)) (e _ (by omega) (by omega)) (e _ (by omega) (by omega)) d2, Lver_congr (fun q _ _ => e q (by omega) (by omega)) (e _ (by omega) (by omega)) (e _ (by omega) (by omega)) (e _ (by omega) (by omega)) d3, Lrul_congr (e _ (by omega) (by omega)) (e _ (by omega) (by omega)) (e _ (by omega) (by omega)) (e _ (by omega) (by omega)) (e _ (by omega) (by omega)) (e _ (by omega) (by omega)) d4, Lglob_congr (e _ (by omega) (by omega)) (e _ (by omega) (by omega)) d5, b, fun i hi => Ltask_congr (fun j _ => e _ (by omega) (by omega)) (e _ (by omega) (by omega)) (e _ (by omega) (by omega)) (e _ (by omega) (by omega)) (e _ (by omega) (by omega)) (e _ (by omega) (by omega)) (e _ (by omega) (by omega)) (d7 i hi)⟩
theorem SwI_of {h h1 : mm_Mem} {n : Nat} (hR : Rel h) (hT : Itasks h n) (e64 : h 64 12 = nI n) (er : ∀ q, 64 ≤ q → h1 q = h q) : SwI h h1 n := by
  obtain ⟨⟨⟨k1, k2⟩, k3, k4, k5, k6, -⟩, ⟨c1, c2, c3⟩, d2, d3, d4, d5, d6, d7⟩ := hR
  refine ⟨k6, k1, hT, Lheap_congr rfl rfl rfl (er _ (by omega)) (er _ (by omega)) d6, Lglob_congr rfl (er _ (by omega)) d5, by rw [er 64 (by omega)]; exact e64, fun t ht => ?_, fun i hi => ?_⟩
  · rw [er 67 (by omega)]
    have := d2.2.2 t ht
    rw [Nat.zero_add] at this
    exact this
  · have hn := hT.1
    obtain ⟨l1, -, -, -, l5, -⟩ := d7 i (by omega)
    rw [er 77 (by omega), er 78 (by omega)]
    exact ⟨l1, fun k hk x hx => (l5 k hk).2.2.1 x hx⟩
theorem pr_collect : mm_pair Γ Rel smM_S_collect smM_M_collect [] := by
  intro h hR
  obtain ⟨n, hn, e0, e64, hT⟩ := Rel_task hR
  refine smr_S_collect (mm_SI_mono (sp_drop hT) (fun r h1 q => ?_))
  obtain ⟨er, hD⟩ := q
  refine smr_M_collect (mm_SI_mono (sp_sweep (SwI_of hR hT e64 (fun q hq => hD.1 q (by omega) (by omega) (by omega) (by omega)))) (fun r' h2 q => ?_))
  obtain ⟨er', hW⟩ := q
  have hI : Iheap h := hR.1.2.2.2.2.1
  have hL : Lheap h h1 := Lheap_congr rfl rfl rfl (hD.1 _ (by omega) (by omega) (by omega) (by omega)) (hD.1 _ (by omega) (by omega) (by omega) (by omega)) hR.2.2.2.2.2.2.1
  obtain ⟨a, b⟩ := gc_heap hD hW hI hL
  have ec : ∀ q, ¬ q = 71 → ¬ q = 74 → h2 q = h1 q := hW.1
  refine ⟨er.trans er'.symm, Rel_hp hR (fun q h1' h2' => by rw [ec q (by omega) (by omega), hD.1 q (by omega) (by omega) (by omega) (by omega)]) (Iheap_congr (ec _ (by omega) (by omega)) (ec _ (by omega) (by omega)) (ec _ (by omega) (by omega)) a) (Lheap_congr (ec _ (by omega) (by omega)) (ec _ (by omega) (by omega)) (ec _ (by omega) (by omega)) rfl rfl b)⟩
end SW
