section AT
variable {Γ : mm_Ctx}
theorem chg_congr {g m : mm_Mem} (e : ∀ q, q < 20 → m q = g q) {p : Nat} : chg m p ↔ chg g p := by
  unfold chg sameV usesV sameW tuse lenV
  simp (disch := omega) only [e]
theorem FP_congr {g m : mm_Mem} (e : ∀ q, q < 20 → m q = g q) {p : Nat} {x r : Int32} : FP m p x r ↔ FP g p x r := by
  unfold FP isPt lenV
  simp (disch := omega) only [e]
/-- the places of the frames of task j after a switch, in the row v -/
def MvP (g : mm_Mem) (j k : Nat) (v : Int32) : Prop := (chg g (prF g j k) → FP g (prF g j k) (g 4 (12 * prF g j k + plF g j k)) v) ∧ (¬ chg g (prF g j k) → v = g (28 + 6 * j + 2) k)
theorem nway {g : mm_Mem} {j k : Nat} (hb : ¬ blk g j) (hk : k < dep g j) (hc : chg g (prF g j k)) : k + 1 = dep g j ∧ canMv g j k := by
  by_cases c : k + 1 = dep g j ∧ canMv g j k
  · exact c
  · exact absurd ⟨k, hk, hc, c⟩ hb
theorem sp_S_moveFrames {g m0 : mm_Mem} (hm : ∀ q, ¬ (20 ≤ q ∧ q ≤ 25) → m0 q = g q) (h1 : Iv g 1) (hok : okV g 1) (h8 : Iv g 8) {n : Nat} (hT : Itasks g n) (hb : ∀ j, j < n → ¬ blk g j) : mm_SV Γ smM_S_moveFrames [.ref (mm_B Γ + 0)] m0 (fun g' => (∀ q, (∀ j, j < n → ¬ q = 28 + 6 * j + 2) → g' q = m0 q) ∧ ∀ j k, j < n → k < dep g j → MvP g j k (g' (28 + 6 * j + 2) k)) := by
  have hn6 := hT.1
  have loop : ∀ d i (m : mm_Mem), i + d = n → (∀ q, (∀ j, j < i → ¬ q = 28 + 6 * j + 2) → m q = m0 q) → (∀ j k, j < i → k < dep g j → MvP g j k (m (28 + 6 * j + 2) k)) → mm_W Γ smM_S_moveFrames (mm_pV (fun g' => (∀ q, (∀ j, j < n → ¬ q = 28 + 6 * j + 2) → g' q = m0 q) ∧ ∀ j k, j < n → k < dep g j → MvP g j k (g' (28 + 6 * j + 2) k))) 2 [some (.ref (mm_B Γ + 0)), some (.int (nI i)), none] [] m := by
    intro d
    induction d with
    | zero =>
      intro i m hi a b
      obtain rfl : i = n := by omega
      refine smr_S_moveFrames_2 _ ?_
      rw [a 0 (fun j _ => by omega), hm 0 (by omega), hT.2.1]
      exact br_t (nI_le (Nat.le_refl _) (by omega)) ⟨a, b⟩
    | succ d ih =>
      intro i m hi a b
      have am : ∀ q, ¬ (20 ≤ q ∧ q ≤ 25) → (∀ j, j < i → ¬ q = 28 + 6 * j + 2) → m q = g q := fun q h1 h2 => by rw [a q h2, hm q h1]
      have a20 : ∀ q, q < 20 → m q = g q := fun q hq => am q (by omega) (fun j _ => by omega)
      have aT : ∀ x, x ≤ 5 → m (28 + 6 * i + x) = g (28 + 6 * i + x) := fun x hx => am _ (by omega) (fun j _ => by omega)
      have a0 : m (28 + 6 * i) = g (28 + 6 * i) := aT 0 (by omega)
      have hTi := hT.2.2.1 i (by omega)
      obtain ⟨ed, hd6⟩ := dep_of hTi
      have skip : (∀ k, k < dep g i → ¬ chg g (prF g i k)) → mm_W Γ smM_S_moveFrames (mm_pV (fun g' => (∀ q, (∀ j, j < n → ¬ q = 28 + 6 * j + 2) → g' q = m0 q) ∧ ∀ j k, j < n → k < dep g j → MvP g j k (g' (28 + 6 * j + 2) k))) 2 [some (.ref (mm_B Γ + 0)), some (.int (nI i + 1)), none] [] m := by
        intro hn
        rw [nI_1]
        refine ih (i + 1) m (by omega) (fun q hq => a q (fun j hj => hq j (by omega))) (fun j k hj hk => ?_)
        by_cases hji : j = i
        · subst hji
          exact ⟨fun c => absurd c (hn k hk), fun _ => by rw [aT 2 (by omega)]⟩
        · exact b j k (by omega) hk
      refine smr_S_moveFrames_2 _ ?_
      rw [a 0 (fun j _ => by omega), hm 0 (by omega), hT.2.1]
      refine br_f (nI_ge (by omega) (by omega)) ⟨vp_in_nI (by omega) (by decide), fun t ht hT' => ?_⟩
      rw [nI_clamp (by omega)] at ht
      subst ht
      rw [a0, ed]
      refine ⟨fun q => skip (fun k hk => ?_), fun q => ?_⟩
      · have : dep g i ≤ 0 := (nI_leI (a := dep g i) (b := 0) (by omega) (by omega)).mp q
        omega
      · have hd0 : ¬ dep g i = 0 := fun z => q (by rw [z]; decide)
        obtain ⟨k, hk⟩ : ∃ k, dep g i = k + 1 := ⟨dep g i - 1, by omega⟩
        obtain ⟨f1, f2, f3, f4, f5⟩ := frame_of h1 hTi (k := k) (by omega)
        have low : ∀ k', k' < k → ¬ chg g (prF g i k') := fun k' hk' hc => by
          have := (nway (hb i (by omega)) (k := k') (by omega) hc).1
          omega
        rw [hk, nI_pred, nI_clamp (n := k) (by omega), aT 1 (by omega), f2]
        have v6 : vp_in (nI k) 6 := vp_in_nI (by omega) (by decide)
        have I1 : Iv m 1 := Iv_congr (a20 _ (by omega)) (a20 _ (by omega)) h1
        have I8 : Iv m 8 := Iv_congr (a20 _ (by omega)) (a20 _ (by omega)) h8
        have Io : okV m 1 := okV_congr (fun q _ _ => a20 q (by omega)) hok
        have It : Itask m i := Itask_congr (a20 _ (by omega)) a0 (fun x _ hx => aT x (by omega)) hTi
        have edm : dep m i = k + 1 := by rw [dep_congr (g := g) (by rw [a0])]; exact hk
        refine ⟨v6, us_br (sp_draftChanges I1 Io I8 f1) (fun c => ?_) (fun c => skip (fun k' hk' => ?_))⟩
        · have c' := (chg_congr a20).mp c
          obtain ⟨-, cm⟩ := nway (hb i (by omega)) (by omega) c'
          refine mm_SI_mono (sp_placeInDraft I1 I8 (by omega) It edm) (fun r m' q' => ?_)
          obtain ⟨rfl, q'⟩ := q'
          have ep : prF m' i k = prF g i k := by
            unfold prF
            rw [aT 1 (by omega)]
          have el : plF m' i k = plF g i k := by
            unfold plF
            rw [aT 2 (by omega)]
          rw [ep, el] at q'
          have hfp : FP g (prF g i k) (g 4 (12 * prF g i k + plF g i k)) r := by
            rcases q' with ⟨z, -⟩ | ⟨-, z⟩
            · rw [a20 3 (by omega)] at z
              exact absurd cm.1 z
            · rw [a20 4 (by omega)] at z
              exact (FP_congr a20).mp z
          rw [a0, ed, hk, nI_pred, nI_clamp (n := k) (by omega)]
          refine ⟨v6, fun m'' e => ?_⟩
          rw [nI_1]
          refine ih (i + 1) m'' (by omega) (fun q hq => by rw [e, mw_ne (hq i (by omega)), a q (fun j hj => hq j (by omega))]) (fun j k' hj hk' => ?_)
          by_cases hji : j = i
          · subst hji
            by_cases hkk : k' = k
            · subst hkk
              rw [e, mw_hit]
              exact ⟨fun _ => hfp, fun z => absurd c' z⟩
            · rw [e, mw_miss (by omega), aT 2 (by omega)]
              exact ⟨fun z => absurd z (low k' (by omega)), fun _ => rfl⟩
          · rw [e, mw_miss (by omega)]
            exact b j k' (by omega) hk'
        · by_cases hkk : k' = k
          · subst hkk
            exact fun z => c ((chg_congr a20).mpr z)
          · exact low k' (by omega)
  exact smr_S_moveFrames (loop n 0 m0 (by omega) (fun _ _ => rfl) (fun j k hj => absurd hj (by omega)))
theorem sp_M_moveFrames {g h : mm_Mem} (h1 : Iv g 1) (hok : okV g 1) (h8 : Iv g 8) (L1 : Lver g h 1 0 0 0) (L8 : Lver g h 8 288 6 3) (Lr : Lrul g h) {n : Nat} (hT : Itasks g n) (hL : ∀ i, i < 6 → Ltask g h i) (e12 : h 64 12 = nI n) : mm_SV Γ smM_M_moveFrames [.ref (mm_B Γ + 64)] h (fun h' => (∀ q, ¬ q = 78 → h' q = h q) ∧ (∀ x, (∀ j k, j < n → k < 6 → ¬ x = 36 * (j + 1) + 6 * k + 1) → h' 78 x = h 78 x) ∧ ∀ j k, j < n → k < dep g j → MvP g j k (h' 78 (36 * (j + 1) + 6 * k + 1))) := by
  have hn6 := hT.1
  generalize hpost : (fun (h' : mm_Mem) => (∀ q, ¬ q = 78 → h' q = h q) ∧ (∀ x, (∀ j k, j < n → k < 6 → ¬ x = 36 * (j + 1) + 6 * k + 1) → h' 78 x = h 78 x) ∧ ∀ j k, j < n → k < dep g j → MvP g j k (h' 78 (36 * (j + 1) + 6 * k + 1))) = post
  have loop : ∀ d i (m : mm_Mem), i + d = n → (∀ q, ¬ q = 78 → m q = h q) → (∀ x, (∀ j k, j < i → k < 6 → ¬ x = 36 * (j + 1) + 6 * k + 1) → m 78 x = h 78 x) → (∀ j k, j < i → k < dep g j → MvP g j k (m 78 (36 * (j + 1) + 6 * k + 1))) → mm_W Γ smM_M_moveFrames (mm_pV post) 2 [some (.ref (mm_B Γ + 64)), some (.int (nI (i + 1))), none, none, none] [] m := by
    intro d
    induction d with
    | zero =>
      intro i m hi a b c
      obtain rfl : i = n := by omega
      refine smr_M_moveFrames_2 _ ?_
      rw [a 64 (by omega), e12]
      refine br_t (nI_lt (by omega) (by omega)) ?_
      rw [← hpost]
      exact ⟨a, b, c⟩
    | succ d ih =>
      intro i m hi a b c
      have hTi := hT.2.2.1 i (by omega)
      obtain ⟨ed, hd6⟩ := dep_of hTi
      have hLi := hL i (by omega)
      refine smr_M_moveFrames_2 _ ?_
      rw [a 64 (by omega), e12]
      refine br_f (nI_nlt (by omega) (by omega)) ?_
      have inner : ∀ e k (m : mm_Mem), k + e = dep g i → (∀ q, ¬ q = 78 → m q = h q) → (∀ x, (∀ j k', j < i ∨ (j = i ∧ k' < k) → k' < 6 → ¬ x = 36 * (j + 1) + 6 * k' + 1) → m 78 x = h 78 x) → (∀ j k', j < i ∨ (j = i ∧ k' < k) → k' < dep g j → MvP g j k' (m 78 (36 * (j + 1) + 6 * k' + 1))) → mm_W Γ smM_M_moveFrames (mm_pV post) 12 [some (.ref (mm_B Γ + 64)), some (.int (nI (i + 1))), some (.int (nI k)), none, none] [] m := by
        intro e
        induction e with
        | zero =>
          intro k m hk a b c
          refine smr_M_moveFrames_12 _ _ ?_
          rw [tk4 (by omega), a 77 (by omega), hLi.1, ed, nI_1 (i + 1)]
          refine ⟨tk3 (by omega), br_t (nI_le (by omega) (by omega)) (ih (i + 1) m (by omega) a (fun x hx => b x (fun j k' hj hk' => hx j k' (by omega) hk')) (fun j k' hj hk' => c j k' ?_ hk'))⟩
          by_cases hji : j = i
          · subst hji
            exact Or.inr ⟨rfl, by omega⟩
          · exact Or.inl (by omega)
        | succ e ihe =>
          intro k m hk a b c
          obtain ⟨f1, f2, f3, f4, f5⟩ := frame_of h1 hTi (k := k) (by omega)
          obtain ⟨l1, l2, l3, l4⟩ := hLi.2.2.2.2.1 k (by omega)
          have b0 : m 78 (36 * (i + 1) + 6 * k) = nI (prF g i k) := by rw [b _ (fun j k' _ _ => by omega), l1, f2]
          have b1 : m 78 (36 * (i + 1) + 6 * k + 1) = nI (plF g i k) := by rw [b _ (fun j k' _ _ => by omega), l2, f4]
          have Lm1 : Lver g m 1 0 0 0 := Lver_congr (fun _ _ _ => rfl) (a _ (by omega)) (a _ (by omega)) (a _ (by omega)) L1
          have Lm8 : Lver g m 8 288 6 3 := Lver_congr (fun _ _ _ => rfl) (a _ (by omega)) (a _ (by omega)) (a _ (by omega)) L8
          have Lmr : Lrul g m := Lrul_congr rfl rfl rfl rfl (a _ (by omega)) (a _ (by omega)) Lr
          have ext : ∀ (m' : mm_Mem), (∀ x, ¬ x = 36 * (i + 1) + 6 * k + 1 → m' 78 x = m 78 x) → (∀ q, ¬ q = 78 → m' q = m q) → MvP g i k (m' 78 (36 * (i + 1) + 6 * k + 1)) → mm_W Γ smM_M_moveFrames (mm_pV post) 12 [some (.ref (mm_B Γ + 64)), some (.int (nI (i + 1))), some (.int (nI (k + 1))), none, none] [] m' := by
            intro m' e1 e2 e3
            refine ihe (k + 1) m' (by omega) (fun q hq => by rw [e2 q hq, a q hq]) (fun x hx => ?_) (fun j k' hj hk' => ?_)
            · rw [e1 x (hx i k (by omega) (by omega))]
              exact b x (fun j k' hj hk' => hx j k' (by omega) hk')
            · by_cases hjk : j = i ∧ k' = k
              · obtain ⟨rfl, rfl⟩ := hjk
                exact e3
              · have hd' := (Itasks_q hT (i := j) (by omega)).1
                rw [e1 _ (by omega)]
                exact c j k' (by omega) hk'
          refine smr_M_moveFrames_12 _ _ ?_
          rw [tk4 (by omega), a 77 (by omega), hLi.1, ed, nI_1 k]
          refine ⟨tk3 (by omega), br_f (nI_ge (by omega) (by omega)) (us_eq (sp_M_frameAt (i + 1) k rfl rfl) ?_)⟩
          have g1 : nI (36 * (i + 1) + 6 * k) + 1 = nI (36 * (i + 1) + 6 * k + 1) := nI_add _ 1
          rw [g1, nI_clamp (n := 36 * (i + 1) + 6 * k) (by omega), nI_clamp (n := 36 * (i + 1) + 6 * k + 1) (by omega), b0]
          refine ⟨vp_in_nI (by omega) (by decide), fun y ey => ?_⟩
          subst ey
          refine us_br (sp_M_isChanged h1 hok h8 Lm1 Lm8 Lmr f1) (fun q => ?_) (fun q => ext m (fun _ _ => rfl) (fun _ _ => rfl) ⟨fun z => absurd z q, fun _ => by rw [b1, f4]⟩)
          have g2 : (48 : Int32) * nI (prF g i k) + 4 * nI (plF g i k) + 1 = nI (4 * (12 * prF g i k + plF g i k) + 1) := by
            show nI 48 * nI (prF g i k) + nI 4 * nI (plF g i k) + nI 1 = _
            rw [pk_mul, pk_mul, nI_add, nI_add]
            congr 1
            omega
          obtain ⟨-, a2, -, -⟩ := Lm1.2.1 (12 * prF g i k + plF g i k) (by omega)
          simp only [Nat.zero_add, Nat.reduceAdd] at a2
          rw [b1, g2, nI_clamp (n := 4 * (12 * prF g i k + plF g i k) + 1) (by omega), a2]
          refine ⟨vp_in_nI (by omega) (by decide), vp_in_nI (by omega) (by decide), mm_SI_mono (sp_M_pointOf h8 Lm8 f1 _) (fun r m' q' => ?_)⟩
          obtain ⟨rfl, q'⟩ := q'
          refine ⟨vp_in_nI (by omega) (by decide), fun m'' e => ext m'' (fun x hx => by rw [e, mw_miss (by omega)]) (fun q hq => by rw [e, mw_ne hq]) ⟨fun _ => ?_, fun z => absurd q z⟩⟩
          rw [e, mw_hit]
          exact q'
      exact inner _ 0 m (Nat.zero_add _) a (fun x hx => b x (fun j k' hj hk' => hx j k' (Or.inl hj) hk')) (fun j k' hj hk' => c j k' (by omega) hk')
  exact smr_M_moveFrames (loop n 0 h (by omega) (fun _ _ => rfl) (fun _ _ => rfl) (fun j k hj => absurd hj (by omega)))
end AT
