section AU
variable {Γ : mm_Ctx}
theorem ite_mono {c A B A' B' : Prop} [Decidable c] (h1 : c → A → A') (h2 : ¬ c → B → B') : (if c then A else B) → (if c then A' else B') := by
  intro h
  by_cases d : c
  · rw [if_pos d] at h ⊢
    exact h1 d h
  · rw [if_neg d] at h ⊢
    exact h2 d h
theorem okV_copy {h h9 : mm_Mem} (c1 : ∀ p, p < 6 → h9 2 p = h 9 p) (c2 : ∀ w, w < 72 → h9 3 w = h 10 w ∧ h9 4 w = h 11 w ∧ h9 5 w = h 12 w ∧ h9 6 w = h 13 w) (c3 : ∀ t, t < 3 → h9 7 t = h 14 t) (I8 : Iv h 8) (k : okV h 8) : okV h9 1 := by
  intro p i hp hi
  have el : lenV h9 1 p = lenV h 8 p := by
    show (h9 2 p).toNatClampNeg = (h 9 p).toNatClampNeg
    rw [c1 p hp]
  rw [el] at hi
  obtain ⟨-, hl⟩ := lenV_of I8 hp
  obtain ⟨k1, k2⟩ := k p i hp hi
  obtain ⟨d1, d2, d3, d4⟩ := c2 (12 * p + i) (by omega)
  refine ⟨?_, fun q => ?_⟩
  · revert k1
    unfold rightW
    simp only [Nat.reduceAdd]
    rw [d1, d2, d3, d4, c1 p hp]
    refine ite_mono (fun _ z => z) (fun _ => ite_mono (fun _ z => z) (fun _ => ite_mono (fun _ z => z) (fun _ => ite_mono (fun _ z => ?_) (fun _ => ite_mono (fun _ z => ?_) (fun _ => ite_mono (fun _ z => ?_) (fun _ z => z))))))
    · obtain ⟨z1, ⟨z2, z3⟩, z4⟩ := z
      obtain ⟨x, hx, ex, cx⟩ := vin_of z2 (by decide)
      rw [cx] at z3 ⊢
      exact ⟨z1, ⟨z2, by rw [c1 x hx]; exact z3⟩, z4⟩
    · obtain ⟨z1, z2, z3⟩ := z
      obtain ⟨x, hx, ex, cx⟩ := vin_of z2 (by decide)
      rw [cx] at z3 ⊢
      exact ⟨z1, z2, by rw [c3 x hx]; exact z3⟩
    · obtain ⟨z1, z2, z3, z4⟩ := z
      obtain ⟨x, hx, ex, cx⟩ := vin_of z3 (by decide)
      rw [cx] at z4 ⊢
      exact ⟨z1, z2, z3, by rw [c3 (x / 4) (by omega)]; exact z4⟩
  · rw [el] at q
    show h9 3 (12 * p + i) = 0
    rw [d1]
    exact k2 q
theorem MvP_eq {g : mm_Mem} {j k : Nat} {v v' : Int32} (h1 : MvP g j k v) (h2 : MvP g j k v') : v = v' := by
  by_cases c : chg g (prF g j k)
  · exact FP_eq (h1.1 c) (h2.1 c)
  · rw [h1.2 c, h2.2 c]
theorem Rel_att {h g1 g2 g3 m1 m2 m3 h9 : mm_Mem} {n : Nat} (hR : Rel h) (hst : h 0 8 = 1) (hT : Itasks h n) (hb : ∀ j, j < n → ¬ blk h j) (hD : DropC h n g1)
    (hMO : ∀ o f, 1 ≤ o → o ≤ 16 → f < 4 → (tch g1 o → g2 22 (4 * o + f) = vl g1 o f) ∧ (¬ tch g1 o → g2 22 (4 * o + f) = g1 22 (4 * o + f)))
    (hMv : ∀ j k, j < n → k < dep h j → MvP h j k (g3 (28 + 6 * j + 2) k)) (hI1 : Iheap g1) (hL1 : Lheap g1 m1)
    (hMOr : ∀ o f, 1 ≤ o → o ≤ 16 → f < 4 → (tch g1 o → f < cst g1 o → m2 72 (4 * o + f) = vl g1 o f) ∧ (¬ tch g1 o → m2 72 (4 * o + f) = m1 72 (4 * o + f)))
    (hMr1 : ∀ x, (∀ j k, j < n → k < 6 → ¬ x = 36 * (j + 1) + 6 * k + 1) → m3 78 x = h 78 x) (hMr2 : ∀ j k, j < n → k < dep h j → MvP h j k (m3 78 (36 * (j + 1) + 6 * k + 1)))
    (c06 : h9 0 6 = h 0 6) (c07 : h9 0 7 = h 0 7 + 1) (c08 : h9 0 8 = 0)
    (cV1 : (∀ p, p < 6 → h9 2 p = h 9 p) ∧ (∀ w, w < 72 → h9 3 w = h 10 w ∧ h9 4 w = h 11 w ∧ h9 5 w = h 12 w ∧ h9 6 w = h 13 w) ∧ (∀ t, t < 3 → h9 7 t = h 14 t))
    (cV8 : ∀ q, 9 ≤ q → q ≤ 14 → h9 q = h q) (cZ : ∀ q j, (q = 17 ∨ q = 18 ∨ q = 19) ∧ j < 12 ∨ q = 16 ∧ j < 3 → h9 q j = 0)
    (c21 : h9 21 = g1 21) (c22 : h9 22 = g2 22) (c26 : h9 26 = h 26) (cT : ∀ q, 28 ≤ q → q < 64 → (∀ j, j < n → ¬ q = 28 + 6 * j + 2) → h9 q = h q) (cT2 : ∀ j, j < n → h9 (28 + 6 * j + 2) = g3 (28 + 6 * j + 2))
    (r5 : h9 64 5 = 0) (r6 : h9 64 6 = h 64 6 + 1) (r12 : h9 64 12 = h 64 12) (r65 : ∀ j, j < 288 → h9 65 j = h 65 (288 + j) ∧ h9 65 (288 + j) = h 65 (288 + j)) (r66 : ∀ j, j < 6 → h9 66 j = h 66 (6 + j) ∧ h9 66 (6 + j) = h 66 (6 + j)) (r67 : ∀ j, j < 3 → h9 67 j = h 67 (3 + j) ∧ h9 67 (3 + j) = h 67 (3 + j))
    (rZ : ∀ q j, q = 68 ∧ j < 36 ∨ q = 69 ∧ j < 3 → h9 q j = 0) (r70 : h9 70 = h 70) (r71 : h9 71 = m1 71) (r72 : h9 72 = m2 72) (r75 : ∀ q, 75 ≤ q → ¬ q = 78 → h9 q = h q) (r78 : h9 78 = m3 78) : Rel h9 := by
  obtain ⟨⟨⟨k1, k2⟩, k3, k4, k5, k6, -⟩, ⟨a1, a2, a3⟩, L1, L8, Lr, Lg, Lh, Lt⟩ := hR
  have hn6 := hT.1
  obtain ⟨v1, v2, v3⟩ := cV1
  obtain ⟨ok8, sok⟩ := k4.2 hst
  have el : ∀ p, p < 6 → lenV h9 1 p = lenV h 8 p := fun p hp => by
    show (h9 2 p).toNatClampNeg = (h 9 p).toNatClampNeg
    rw [v1 p hp]
  -- the heap
  have lv : ∀ o, live h9 o ↔ live g1 o := live_congr c21
  have e14 : g1 14 = h 14 := hD.1 14 (by omega) (by omega) (by omega) (by omega)
  have e7 : g1 7 = h 7 := hD.1 7 (by omega) (by omega) (by omega) (by omega)
  have e16 : g1 16 = h 16 := hD.1 16 (by omega) (by omega) (by omega) (by omega)
  have hr1 : Irul g1 := Irul_congr e7 e14 e16 (hD.1 17 (by omega) (by omega) (by omega) (by omega)) (hD.1 18 (by omega) (by omega) (by omega) (by omega)) (hD.1 19 (by omega) (by omega) (by omega) (by omega)) k5
  have ewid : ∀ o, live g1 o → wid h9 o = cst g1 o := fun o ho => by
    obtain ⟨t, ht, et⟩ := hI1.1 o ho
    unfold wid cst
    rw [c21, et, nI_clamp (by omega), v3 t (by omega), e14]
  have untch : ∀ o, live g1 o → ¬ tch g1 o → wid g1 o = cst g1 o := fun o ho hn => by
    obtain ⟨t, ht, et⟩ := hI1.1 o ho
    have z : g1 16 t = 0 := by
      by_cases z : g1 16 t = 0
      · exact z
      · refine absurd ⟨ho, ?_⟩ hn
        rw [et, nI_clamp (by omega)]
        exact z
    unfold wid cst
    rw [et, nI_clamp (by omega), ((hr1.2.2 t (by omega)).2 z).1]
  have cle : ∀ o, live g1 o → cst g1 o ≤ 4 := fun o ho => by
    obtain ⟨t, ht, et⟩ := hI1.1 o ho
    obtain ⟨c, hc, ec⟩ := k3.2 t (by omega)
    have ec14 : h 14 t = nI c := ec
    unfold cst
    rw [et, nI_clamp (by omega), e14, ec14, nI_clamp (by omega)]
    exact hc
  have IH : Iheap h9 := by
    refine ⟨fun o ho => ?_, fun o ho f hf hw => ?_⟩
    · rw [c21]
      exact hI1.1 o ((lv o).mp ho)
    · have ho' := (lv o).mp ho
      rw [ewid o ho'] at hw
      rw [c22]
      by_cases c : tch g1 o
      · rw [(hMO o f ho.1 ho.2.1 hf).1 c]
        obtain ⟨t, ht, et⟩ := hI1.1 o ho'
        have z := hr1.2.1 t f (by omega) hf (by
          unfold cst at hw
          rw [et, nI_clamp (by omega)] at hw
          exact hw)
        unfold vl vlr rl
        rw [et, nI_clamp (by omega), z.1, if_neg (by decide), if_neg (by decide)]
        exact z.2.2
      · rw [(hMO o f ho.1 ho.2.1 hf).2 c]
        exact hI1.2 o ho' f hf (by rw [untch o ho' c]; exact hw)
  have LH : Lheap h9 h9 := by
    refine ⟨fun o h1 h2 => ?_, fun o ho f hf => ?_⟩
    · rw [r71, c21]
      exact hL1.1 o h1 h2
    · have ho' := (lv o).mp ho
      rw [ewid o ho'] at hf
      have h4 := cle o ho'
      rw [c22, r72]
      by_cases c : tch g1 o
      · rw [(hMO o f ho.1 ho.2.1 (by omega)).1 c, (hMOr o f ho.1 ho.2.1 (by omega)).1 c hf]
      · rw [(hMO o f ho.1 ho.2.1 (by omega)).2 c, (hMOr o f ho.1 ho.2.1 (by omega)).2 c]
        exact hL1.2 o ho' f (by rw [untch o ho' c]; exact hf)
  -- the tasks
  have eT : ∀ i x, i < 6 → x ≤ 5 → ¬ x = 2 → h9 (28 + 6 * i + x) = h (28 + 6 * i + x) := fun i x h1 h2 h3 => cT _ (by omega) (by omega) (fun j _ => by omega)
  have eT0 : ∀ i, i < 6 → h9 (28 + 6 * i) = h (28 + 6 * i) := fun i hi => eT i 0 hi (by omega) (by omega)
  have edp : ∀ i, i < 6 → dep h9 i = dep h i := fun i hi => dep_congr (by rw [eT0 i hi])
  refine ⟨⟨⟨⟨fun p hp => ?_, fun t ht => ?_⟩, okV_copy v1 v2 v3 k3 ok8⟩, Iv_congr (cV8 _ (by omega) (by omega)) (cV8 _ (by omega) (by omega)) k3, ⟨Or.inl c08, fun z => ?_⟩, ⟨fun r hr => ?_, fun t f ht hf _ => ?_, fun t ht => ?_⟩, IH, n, hn6, by rw [c06]; exact hT.2.1, fun i hi => ?_, fun i h1 h2 => ?_⟩, ⟨r5.trans c08.symm, by rw [r6, c07, a2], by rw [r12, c06, a3]⟩, ⟨fun p hp => ?_, fun w hw => ?_, fun t ht => ?_⟩, ⟨fun p hp => ?_, fun w hw => ?_, fun t ht => ?_⟩, ⟨fun r hr => ?_, fun t ht => ?_⟩, Lglob_congr c26 r70 Lg, LH, fun i hi => ?_⟩
  · show rg (h9 2 p) 12
    rw [v1 p hp]
    exact k3.1 p hp
  · show rg (h9 7 t) 4
    rw [v3 t ht]
    exact k3.2 t ht
  · rw [c08] at z
    exact absurd z (by decide)
  · rw [cZ 17 r (by omega), cZ 18 r (by omega)]
    exact ⟨rg_0 _, rg_0 _⟩
  · exact ⟨cZ 17 _ (by omega), cZ 18 _ (by omega), cZ 19 _ (by omega)⟩
  · refine ⟨Or.inl (cZ 16 t (by omega)), fun _ => ⟨?_, fun f hf => ⟨cZ 17 _ (by omega), cZ 18 _ (by omega), cZ 19 _ (by omega)⟩⟩⟩
    rw [v3 t ht, cV8 14 (by omega) (by omega)]
  · obtain ⟨b1, b2, b3, b4, b5⟩ := hT.2.2.1 i hi
    unfold Itask
    rw [edp i (by omega), eT0 i (by omega)]
    refine ⟨b1, b2, b3, b4, fun k hk => ?_⟩
    obtain ⟨p, w, a, hp, hw, ha, e1, e2, e3⟩ := b5 k hk
    obtain ⟨f1, f2, f3, f4, f5⟩ := frame_of k1 (hT.2.2.1 i hi) hk
    have ep : prF h i k = p := nI_in' (by omega) (by omega) (f2.symm.trans e1)
    have ew : plF h i k = w := nI_in' (by omega) (by have := (lenV_of k1 hp).2; omega) (f4.symm.trans e2)
    have hm := hMv i k hi hk
    rw [eT i 1 (by omega) (by omega) (by omega), eT i 4 (by omega) (by omega) (by omega), cT2 i hi]
    by_cases c : chg h (prF h i k)
    · have fp := hm.1 c
      obtain ⟨-, -, x, hx, hpt⟩ := nway (hb i hi) hk c
      rcases fp with ⟨-, nf⟩ | ⟨y, hy, ey, -, -⟩
      · exact absurd hpt (nf x hx)
      · rw [ep] at hy
        exact ⟨p, y, a, hp, by rw [el p hp]; exact hy, ha, e1, ey, e3⟩
    · have c' := c
      unfold chg at c'
      have sm : sameV h 8 1 p := by
        by_cases s : sameV h 8 1 (prF h i k)
        · rw [ep] at s
          exact s
        · exact absurd (Or.inl s) c'
      refine ⟨p, w, a, hp, ?_, ha, e1, by rw [hm.2 c]; exact e2, e3⟩
      rw [el p hp]
      have : lenV h 8 p = lenV h 1 p := by
        unfold lenV
        rw [sm.1]
      rw [this]
      exact hw
  · rw [eT0 i (by omega)]
    exact hT.2.2.2 i h1 h2
  · show h9 66 (0 + p) = h9 2 p
    rw [Nat.zero_add, (r66 p hp).1, v1 p hp]
    exact L8.1 p hp
  · show h9 65 (0 + 4 * w) = h9 3 w ∧ h9 65 (0 + 4 * w + 1) = h9 4 w ∧ h9 65 (0 + 4 * w + 2) = h9 5 w ∧ h9 65 (0 + 4 * w + 3) = h9 6 w
    obtain ⟨q1, q2, q3, q4⟩ := v2 w hw
    rw [Nat.zero_add, (r65 (4 * w) (by omega)).1, (r65 (4 * w + 1) (by omega)).1, (r65 (4 * w + 2) (by omega)).1, (r65 (4 * w + 3) (by omega)).1, q1, q2, q3, q4]
    exact L8.2.1 w hw
  · show h9 67 (0 + t) = h9 7 t
    rw [Nat.zero_add, (r67 t ht).1, v3 t ht]
    exact L8.2.2 t ht
  · show h9 66 (6 + p) = h9 9 p
    rw [(r66 p hp).2, cV8 9 (by omega) (by omega)]
    exact L8.1 p hp
  · show h9 65 (288 + 4 * w) = h9 10 w ∧ h9 65 (288 + 4 * w + 1) = h9 11 w ∧ h9 65 (288 + 4 * w + 2) = h9 12 w ∧ h9 65 (288 + 4 * w + 3) = h9 13 w
    rw [cV8 10 (by omega) (by omega), cV8 11 (by omega) (by omega), cV8 12 (by omega) (by omega), cV8 13 (by omega) (by omega), show 288 + 4 * w + 1 = 288 + (4 * w + 1) by omega, show 288 + 4 * w + 2 = 288 + (4 * w + 2) by omega, show 288 + 4 * w + 3 = 288 + (4 * w + 3) by omega, (r65 (4 * w) (by omega)).2, (r65 (4 * w + 1) (by omega)).2, (r65 (4 * w + 2) (by omega)).2, (r65 (4 * w + 3) (by omega)).2]
    exact L8.2.1 w hw
  · show h9 67 (3 + t) = h9 14 t
    rw [(r67 t ht).2, cV8 14 (by omega) (by omega)]
    exact L8.2.2 t ht
  · rw [cZ 17 r (by omega), cZ 18 r (by omega), cZ 19 r (by omega), rZ 68 _ (by omega), rZ 68 _ (by omega), rZ 68 _ (by omega)]
    exact ⟨rfl, rfl, rfl⟩
  · rw [cZ 16 t (by omega), rZ 69 t (by omega)]
  · obtain ⟨b1, b2, b3, b4, b5, b6⟩ := Lt i hi
    obtain ⟨hd6, -⟩ := Itasks_q hT hi
    unfold Ltask
    rw [edp i hi, eT0 i hi, r75 77 (by omega) (by omega), r75 79 (by omega) (by omega), r75 75 (by omega) (by omega), r75 76 (by omega) (by omega), r75 80 (by omega) (by omega), eT i 5 hi (by omega) (by omega), eT i 1 hi (by omega) (by omega), eT i 3 hi (by omega) (by omega), eT i 4 hi (by omega) (by omega), r78]
    refine ⟨b1, b2, b3, b4, fun k hk => ?_, b6⟩
    obtain ⟨f1, f2, f3, f4⟩ := b5 k hk
    refine ⟨by rw [hMr1 _ (fun j k' _ _ => by omega)]; exact f1, ?_, fun x hx => by rw [hMr1 _ (fun j k' _ _ => by omega)]; exact f3 x hx, by rw [hMr1 _ (fun j k' _ _ => by omega)]; exact f4⟩
    by_cases hin : i < n
    · rw [cT2 i hin]
      exact MvP_eq (hMr2 i k hin hk) (hMv i k hin hk)
    · have z := (hT.2.2.2 i (by omega) hi).1
      unfold dep at hk
      rw [z, cl_0] at hk
      omega
/-- the reference's last part -/
theorem sp_M_switch {m : mm_Mem} {post : Int32 → mm_Mem → Prop} (k : post 1 (mm_wr (mm_wr (aM (cpM (cpM (cpM m 65 288 0 288) 66 6 0 6) 67 3 0 3) 3) 64 5 0) 64 6 (m 64 6 + 1))) : mm_W Γ smM_M_attempt (mm_pI post) 46 [some (.ref (mm_B Γ + 64)), none, some (.int 0)] [] m := by
  have l3 : ∀ d k, k + d = 3 → mm_W Γ smM_M_attempt (mm_pI post) 106 [some (.ref (mm_B Γ + 64)), none, some (.int (nI k))] [] (cpM (cpM (cpM m 65 288 0 288) 66 6 0 6) 67 3 0 k) := by
    intro d
    induction d with
    | zero =>
      intro k' hk
      obtain rfl : k' = 3 := by omega
      refine smr_M_attempt_106 _ (br_t (by decide) (us_v sp_M_settle (fun h1 e1 h2 e2 => ?_)))
      have : h1 64 6 = m 64 6 := by
        rw [e1, mw_miss (by omega), aM_ne (by omega), cpM_ne (by omega), cpM_ne (by omega), cpM_ne (by omega)]
      rw [this] at e2
      rw [e2, e1]
      exact k
    | succ d ih =>
      intro k' hk
      refine smr_M_attempt_106 _ (br_f (nI_ge (a := k') (b := 3) (by omega) (by omega)) ?_)
      rw [show (3 : Int32) + nI k' = nI (3 + k') from nI_add 3 k', nI_clamp (n := 3 + k') (by omega), nI_clamp (n := k') (by omega)]
      refine ⟨vp_in_nI (by omega) (by decide), vp_in_nI (by omega) (by decide), fun h1 e1 => ?_⟩
      have e := cpM_s (h := cpM (cpM m 65 288 0 288) 66 6 0 6) (row := 67) (s := 3) (d := 0) (k := k') (by omega)
      rw [Nat.zero_add] at e
      rw [e1, e, nI_1]
      exact ih (k' + 1) (by omega)
  have l2 : ∀ d k, k + d = 6 → mm_W Γ smM_M_attempt (mm_pI post) 77 [some (.ref (mm_B Γ + 64)), none, some (.int (nI k))] [] (cpM (cpM m 65 288 0 288) 66 6 0 k) := by
    intro d
    induction d with
    | zero =>
      intro k' hk
      obtain rfl : k' = 6 := by omega
      refine smr_M_attempt_77 _ (br_t (by decide) ?_)
      have := l3 3 0 rfl
      rw [cpM_0] at this
      exact this
    | succ d ih =>
      intro k' hk
      refine smr_M_attempt_77 _ (br_f (nI_ge (a := k') (b := 6) (by omega) (by omega)) ?_)
      rw [show (6 : Int32) + nI k' = nI (6 + k') from nI_add 6 k', nI_clamp (n := 6 + k') (by omega), nI_clamp (n := k') (by omega)]
      refine ⟨vp_in_nI (by omega) (by decide), vp_in_nI (by omega) (by decide), fun h1 e1 => ?_⟩
      have e := cpM_s (h := cpM m 65 288 0 288) (row := 66) (s := 6) (d := 0) (k := k') (by omega)
      rw [Nat.zero_add] at e
      rw [e1, e, nI_1]
      exact ih (k' + 1) (by omega)
  have l1 : ∀ d k, k + d = 288 → mm_W Γ smM_M_attempt (mm_pI post) 46 [some (.ref (mm_B Γ + 64)), none, some (.int (nI k))] [] (cpM m 65 288 0 k) := by
    intro d
    induction d with
    | zero =>
      intro k' hk
      obtain rfl : k' = 288 := by omega
      refine smr_M_attempt_46 _ (br_t (by decide) ?_)
      have := l2 6 0 rfl
      rw [cpM_0] at this
      exact this
    | succ d ih =>
      intro k' hk
      refine smr_M_attempt_46 _ (br_f (nI_ge (a := k') (b := 288) (by omega) (by omega)) ?_)
      rw [show (288 : Int32) + nI k' = nI (288 + k') from nI_add 288 k', nI_clamp (n := 288 + k') (by omega), nI_clamp (n := k') (by omega)]
      refine ⟨vp_in_nI (by omega) (by decide), vp_in_nI (by omega) (by decide), fun h1 e1 => ?_⟩
      have e := cpM_s (h := m) (row := 65) (s := 288) (d := 0) (k := k') (by omega)
      rw [Nat.zero_add] at e
      rw [e1, e, nI_1]
      exact ih (k' + 1) (by omega)
  have := l1 288 0 rfl
  rw [cpM_0] at this
  exact this
theorem FT_1 {g : mm_Mem} {n : Nat} (hn : n ≤ 6) {r : Int32} (h : FT g n 1 r) : r = 0 ↔ ∀ j, j < n → ¬ blk g j := by
  rcases h with ⟨e, a⟩ | ⟨j, a1, e, a2, a3, a4⟩
  · exact ⟨fun _ j hj => a j hj (nI_nlt (a := j + 1) (b := 1) (by omega) (by omega)), fun _ => e⟩
  · refine ⟨fun z => ?_, fun z => absurd a3 (z j a1)⟩
    rw [e] at z
    exact absurd z (nI_ne0 (by omega) (by omega))
theorem FT_0 {g : mm_Mem} {n : Nat} (hn : n ≤ 6) {r : Int32} (h : FT g n 0 r) : r ≤ 0 ↔ ∀ j, j < n → ¬ blk g j := by
  rcases h with ⟨e, a⟩ | ⟨j, a1, e, a2, a3, a4⟩
  · exact ⟨fun _ j hj => a j hj (nI_pos (by omega)), fun _ => by rw [e]; decide⟩
  · refine ⟨fun z => ?_, fun z => absurd a3 (z j a1)⟩
    rw [e] at z
    exact absurd z (nI_nle (by omega) (by omega))
theorem blk_of {g g' : mm_Mem} (e : ∀ q, q < 20 → g' q = g q) {j : Nat} (eT : ∀ x, x ≤ 5 → g' (28 + 6 * j + x) = g (28 + 6 * j + x)) : blk g' j ↔ blk g j := by
  have e0 : g' (28 + 6 * j) = g (28 + 6 * j) := eT 0 (by omega)
  have ed : dep g' j = dep g j := dep_congr (by rw [e0])
  have ep : ∀ k, prF g' j k = prF g j k := fun k => by
    unfold prF
    rw [eT 1 (by omega)]
  have el : ∀ k, plF g' j k = plF g j k := fun k => by
    unfold plF
    rw [eT 2 (by omega)]
  unfold blk way canMv isPt lenV
  simp (disch := omega) only [ed, ep, el, e, chg_congr e]
theorem pr_attempt (x0 : Int32) : mm_pair Γ Rel smM_S_attempt smM_M_attempt [.int x0] := by
  intro h hR
  have e5 : h 64 5 = h 0 8 := hR.2.1.1
  obtain ⟨n, hn, e0, e64, hT⟩ := Rel_task hR
  have I1 : Iv h 1 := hR.1.1.1
  have Io : okV h 1 := hR.1.1.2
  have I8 : Iv h 8 := hR.1.2.1
  have Is : Istg h := hR.1.2.2.1
  have Ir : Irul h := hR.1.2.2.2.1
  have Ih : Iheap h := hR.1.2.2.2.2.1
  obtain ⟨Li, L1, L8, Lr, Lg, Lh, Lt⟩ := hR.2
  refine smr_S_attempt _ ⟨fun a => ⟨fun b => ?_, fun b => ?_⟩, fun a => ?_⟩
  · have hst : h 0 8 = 1 := by
      rcases Is.1 with z | z
      · exact absurd z b
      · exact z
    obtain ⟨F, hF, rfl⟩ := nI_of (Int32.not_lt.mpr a)
    refine mm_SI_mono (sp_firstTask I1 Io I8 hT 1) (fun r g' q => ?_)
    obtain ⟨rfl, q⟩ := q
    have q1 := FT_1 hn q
    refine ⟨fun z => ?_, fun z => ?_⟩
    · have nb := q1.mp z
      refine mm_SI_mono (sp_drop hT) (fun r1 g1 q => ?_)
      obtain ⟨-, hD⟩ := q
      have d1 : ∀ q, q < 20 → g1 q = g' q := fun q hq => hD.1 q (by omega) (by omega) (by omega) (by omega)
      have d2 : ∀ q, 26 ≤ q → g1 q = g' q := fun q hq => hD.1 q (by omega) (by omega) (by omega) (by omega)
      have hI1 : Iheap g1 := by
        refine ⟨fun o ho => ?_, fun o ho f hf hw => ?_⟩
        · rw [gc_type hD ho]
          exact Ih.1 o ((gc_live hD o).mp ho).1
        · rw [gc_wid hD ho] at hw
          rw [hD.1 22 (by omega) (by omega) (by omega) (by omega)]
          exact Ih.2 o ((gc_live hD o).mp ho).1 f hf hw
      have hI81 : Iv g1 8 := Iv_congr (d1 _ (by omega)) (d1 _ (by omega)) I8
      have hIr1 : Irul g1 := Irul_congr (d1 _ (by omega)) (d1 _ (by omega)) (d1 _ (by omega)) (d1 _ (by omega)) (d1 _ (by omega)) (d1 _ (by omega)) Ir
      have hso1 : srcOK g1 := srcOK_congr (d1 _ (by omega)) (d1 _ (by omega)) (d1 _ (by omega)) (d1 _ (by omega)) (Is.2 hst).2
      have hw4 : ∀ o, live g1 o → wid g1 o ≤ 4 := fun o ho => by
        obtain ⟨t, ht, et⟩ := hI1.1 o ho
        obtain ⟨w, hw, ew⟩ := I1.2 t (by omega)
        have ew7 : g' 7 t = nI w := ew
        unfold wid
        rw [et, nI_clamp (by omega), d1 7 (by omega), ew7, nI_clamp (by omega)]
        exact hw
      -- the reference up to the make-over
      have ref : ∀ (g6 : mm_Mem) (post : Int32 → mm_Mem → Prop), (∀ q, 64 ≤ q → g6 q = g' q) → (∀ r m1 m2, SwpR g' n g6 m1 → Lheap g1 m1 → MOr g1 F m1 r m2 → (¬ r = 0 → mm_SV Γ smM_M_moveFrames [.ref (mm_B Γ + 64)] m2 (fun h41 => mm_W Γ smM_M_attempt (mm_pI post) 46 [some (.ref (mm_B Γ + 64)), none, some (.int 0)] [] h41)) ∧ (r = 0 → post 2 m2)) → mm_SI Γ smM_M_attempt [.ref (mm_B Γ + 64), .int (nI F)] g6 post := by
        intro g6 post er kk
        have s5 : ¬ g6 64 5 = 0 := by
          rw [er 64 (by omega), e5]
          exact b
        have L1' : Lver g' g6 1 0 0 0 := Lver_congr (fun _ _ _ => rfl) (er _ (by omega)) (er _ (by omega)) (er _ (by omega)) L1
        have L8' : Lver g' g6 8 288 6 3 := Lver_congr (fun _ _ _ => rfl) (er _ (by omega)) (er _ (by omega)) (er _ (by omega)) L8
        have Lr' : Lrul g' g6 := Lrul_congr rfl rfl rfl rfl (er _ (by omega)) (er _ (by omega)) Lr
        have Lt' : ∀ i, i < 6 → Ltask g' g6 i := fun i hi => Ltask_congr (fun _ _ => rfl) (er _ (by omega)) (er _ (by omega)) (er _ (by omega)) (er _ (by omega)) (er _ (by omega)) (er _ (by omega)) (Lt i hi)
        refine smr_M_attempt _ (br_t a (br_n s5 (mm_SI_mono (sp_M_blocker I1 Io I8 L1' L8' Lr' hT Lt' (by rw [er 64 (by omega)]; exact Li.2.2) s5 0) (fun r' m q => ?_))))
        obtain ⟨rfl, q⟩ := q
        refine br_t ((FT_0 hn q).mpr nb) (mm_SI_mono (sp_sweep (SwI_of hR hT e64 er)) (fun r2 m1 q => ?_))
        obtain ⟨-, hW⟩ := q
        have hL' : Lheap g' m := Lheap_congr rfl rfl rfl (er _ (by omega)) (er _ (by omega)) Lh
        obtain ⟨-, hL1⟩ := gc_heap hD hW Ih hL'
        have w1 : ∀ q, ¬ q = 71 → ¬ q = 74 → m1 q = m q := hW.1
        refine mm_SI_mono (sp_areMadeOver hI1 hI81 hIr1 hso1 hL1 (fun t ht => ?_) ?_ hF hw4) (fun r3 m2 q => kk r3 m1 m2 hW hL1 q)
        · rw [w1 67 (by omega) (by omega), d1 14 (by omega)]
          exact L8'.2.2 t ht
        · exact Lrul_congr (d1 _ (by omega)) (d1 _ (by omega)) (d1 _ (by omega)) (d1 _ (by omega)) (w1 _ (by omega) (by omega)) (w1 _ (by omega) (by omega)) Lr'
      refine mm_SI_mono (sp_H_makeOver hI1 hI81 hIr1 hF) (fun r2 g2 q => ?_)
      obtain ⟨c1, q⟩ := q
      rcases q with ⟨rfl, ⟨F', hmo⟩, hMO⟩ | ⟨rfl, hmo, c22⟩
      · refine br_n (by decide) ?_
        have hm : ∀ q, ¬ (20 ≤ q ∧ q ≤ 25) → g2 q = g' q := fun q hq => by rw [c1 q (by omega) (by omega), hD.1 q (by omega) (by omega) (by omega) (by omega)]
        refine smr_S_takeThePlace (mm_SV_mono (sp_S_moveFrames hm I1 Io I8 hT nb) (fun g3 q => ?_))
        obtain ⟨c3, hMv⟩ := q
        refine us_v (sp_V_copyFrom (Or.inl rfl) (Or.inr rfl)) (us_v sp_R_forgetAll (fun g5 e5' g6 e6 => ?_))
        have g6r : ∀ q, 64 ≤ q → g6 q = g' q := fun q hq => by
          rw [e6, mw_ne (by omega), e5', mw_ne (by omega), aR_ne (by omega), cV_ne (by omega), c3 q (fun j _ => by omega), hm q (by omega)]
        refine ref g6 _ g6r (fun r m1 m2 hW hL1 q => ?_)
        obtain ⟨c4, q⟩ := q
        have w1 : ∀ q, ¬ q = 71 → ¬ q = 74 → m1 q = g6 q := hW.1
        rcases q with ⟨rfl, -, hMOr⟩ | ⟨rfl, hmo', -⟩
        · refine br_n (by decide) ?_
          have m2r : ∀ q, 64 ≤ q → ¬ (71 ≤ q ∧ q ≤ 74) → m2 q = g' q := fun q h1 h2 => by rw [c4 q (by omega) (by omega), w1 q (by omega) (by omega), g6r q h1]
          have L1' : Lver g' m2 1 0 0 0 := Lver_congr (fun _ _ _ => rfl) (m2r _ (by omega) (by omega)) (m2r _ (by omega) (by omega)) (m2r _ (by omega) (by omega)) L1
          have L8' : Lver g' m2 8 288 6 3 := Lver_congr (fun _ _ _ => rfl) (m2r _ (by omega) (by omega)) (m2r _ (by omega) (by omega)) (m2r _ (by omega) (by omega)) L8
          have Lr' : Lrul g' m2 := Lrul_congr rfl rfl rfl rfl (m2r _ (by omega) (by omega)) (m2r _ (by omega) (by omega)) Lr
          have Lt' : ∀ i, i < 6 → Ltask g' m2 i := fun i hi => Ltask_congr (fun _ _ => rfl) (m2r _ (by omega) (by omega)) (m2r _ (by omega) (by omega)) (m2r _ (by omega) (by omega)) (m2r _ (by omega) (by omega)) (m2r _ (by omega) (by omega)) (m2r _ (by omega) (by omega)) (Lt i hi)
          refine mm_SV_mono (sp_M_moveFrames I1 Io I8 L1' L8' Lr' hT Lt' (by rw [m2r 64 (by omega) (by omega)]; exact e64)) (fun m3 q => ?_)
          obtain ⟨c5, c6, hMr⟩ := q
          refine sp_M_switch ⟨rfl, ?_⟩
          generalize e9 : mm_wr (mm_wr (aM (cpM (cpM (cpM m3 65 288 0 288) 66 6 0 6) 67 3 0 3) 3) 64 5 0) 64 6 (m3 64 6 + 1) = h9
          have m3r : ∀ q, 64 ≤ q → ¬ (71 ≤ q ∧ q ≤ 74) → ¬ q = 78 → m3 q = g' q := fun q h1 h2 h3 => by rw [c5 q h3, m2r q h1 h2]
          have x1 : ∀ q, ¬ (64 ≤ q ∧ q ≤ 69) → h9 q = m3 q := fun q hq => by
            rw [← e9, mw_ne (by omega), mw_ne (by omega), aM_ne (by omega), cpM_ne (by omega), cpM_ne (by omega), cpM_ne (by omega)]
          have x2 : ∀ q, q < 64 → h9 q = g6 q := fun q hq => by
            rw [x1 q (by omega), c5 q (by omega), c4 q (by omega) (by omega), w1 q (by omega) (by omega)]
          have x3 : ∀ q, 0 < q → q < 64 → ¬ (16 ≤ q ∧ q ≤ 19) → ¬ (2 ≤ q ∧ q ≤ 7) → h9 q = g3 q := fun q h1 h2 h3 h4 => by
            rw [x2 q h2, e6, mw_ne (by omega), e5', mw_ne (by omega), aR_ne h3, cV_ne (by omega)]
          have x4 : ∀ q, 0 < q → q < 64 → ¬ (16 ≤ q ∧ q ≤ 25) → ¬ (2 ≤ q ∧ q ≤ 7) → (∀ j, j < n → ¬ q = 28 + 6 * j + 2) → h9 q = g' q := fun q h1 h2 h3 h4 h5 => by
            rw [x3 q h1 h2 (by omega) h4, c3 q h5, hm q (by omega)]
          have g3r : ∀ q, q < 20 → g3 q = g' q := fun q hq => by rw [c3 q (fun j _ => by omega), hm q (by omega)]
          obtain ⟨v1, v2, v3⟩ := cV_row (h := g3) (v := 1) (u := 8) (Or.inl ⟨rfl, rfl⟩)
          simp only [Nat.reduceAdd] at v1 v2 v3
          have x5 : ∀ q, 2 ≤ q → q ≤ 7 → h9 q = cV g3 1 8 q := fun q h1 h2 => by
            rw [x2 q (by omega), e6, mw_ne (by omega), e5', mw_ne (by omega), aR_ne (by omega)]
          refine Rel_att (g1 := g1) (g2 := g2) (g3 := g3) (m1 := m1) (m2 := m2) (m3 := m3) hR hst hT nb hD hMO hMv hI1 hL1 hMOr (fun x hx => ?_) hMr ?_ ?_ ?_ ⟨fun p hp => ?_, fun w hw => ?_, fun t ht => ?_⟩ (fun q h1 h2 => x4 q (by omega) (by omega) (by omega) (by omega) (fun j _ => by omega)) (fun q j hq => ?_) ?_ ?_ (x4 26 (by omega) (by omega) (by omega) (by omega) (fun j _ => by omega)) (fun q h1 h2 h3 => x4 q (by omega) h2 (by omega) (by omega) h3) (fun j hj => x3 _ (by omega) (by omega) (by omega) (by omega)) ?_ ?_ ?_ (fun j hj => ⟨?_, ?_⟩) (fun j hj => ⟨?_, ?_⟩) (fun j hj => ⟨?_, ?_⟩) (fun q j hq => ?_) ?_ ?_ ?_ (fun q h1 h2 => ?_) ?_
          · rw [c6 x hx, m2r 78 (by omega) (by omega)]
          · rw [x2 0 (by omega), e6, mw_miss (by omega), e5', mw_miss (by omega), aR_ne (by omega), cV_ne (by omega), g3r 0 (by omega)]
          · rw [x2 0 (by omega), e6, mw_miss (by omega), e5', mw_hit, aR_ne (by omega), cV_ne (by omega), g3r 0 (by omega)]
          · rw [x2 0 (by omega), e6, mw_hit]
          · rw [x5 2 (by omega) (by omega), v1 p hp, g3r 9 (by omega)]
          · obtain ⟨y1, y2, y3, y4⟩ := v2 w hw
            rw [x5 3 (by omega) (by omega), x5 4 (by omega) (by omega), x5 5 (by omega) (by omega), x5 6 (by omega) (by omega), y1, y2, y3, y4, g3r 10 (by omega), g3r 11 (by omega), g3r 12 (by omega), g3r 13 (by omega)]
            exact ⟨rfl, rfl, rfl, rfl⟩
          · rw [x5 7 (by omega) (by omega), v3 t ht, g3r 14 (by omega)]
          · rw [x2 q (by omega), e6, mw_ne (by omega), e5', mw_ne (by omega), aR_in hq]
          · rw [x3 21 (by omega) (by omega) (by omega) (by omega), c3 21 (fun j _ => by omega), c1 21 (by omega) (by omega)]
          · rw [x3 22 (by omega) (by omega) (by omega) (by omega), c3 22 (fun j _ => by omega)]
          · rw [← e9, mw_miss (by omega), mw_hit]
          · rw [← e9, mw_hit, m3r 64 (by omega) (by omega) (by omega)]
          · rw [← e9, mw_miss (by omega), mw_miss (by omega), aM_ne (by omega), cpM_ne (by omega), cpM_ne (by omega), cpM_ne (by omega), m3r 64 (by omega) (by omega) (by omega)]
          · have := cpM_in (h := m3) (row := 65) (s := 288) (d := 0) (k := 288) hj
            rw [Nat.zero_add] at this
            rw [← e9, mw_ne (by omega), mw_ne (by omega), aM_ne (by omega), cpM_ne (by omega), cpM_ne (by omega), this, m3r 65 (by omega) (by omega) (by omega)]
          · rw [← e9, mw_ne (by omega), mw_ne (by omega), aM_ne (by omega), cpM_ne (by omega), cpM_ne (by omega), cpM_out (by omega), m3r 65 (by omega) (by omega) (by omega)]
          · have := cpM_in (h := cpM m3 65 288 0 288) (row := 66) (s := 6) (d := 0) (k := 6) hj
            rw [Nat.zero_add] at this
            rw [← e9, mw_ne (by omega), mw_ne (by omega), aM_ne (by omega), cpM_ne (by omega), this, cpM_ne (by omega), m3r 66 (by omega) (by omega) (by omega)]
          · rw [← e9, mw_ne (by omega), mw_ne (by omega), aM_ne (by omega), cpM_ne (by omega), cpM_out (by omega), cpM_ne (by omega), m3r 66 (by omega) (by omega) (by omega)]
          · have := cpM_in (h := cpM (cpM m3 65 288 0 288) 66 6 0 6) (row := 67) (s := 3) (d := 0) (k := 3) hj
            rw [Nat.zero_add] at this
            rw [← e9, mw_ne (by omega), mw_ne (by omega), aM_ne (by omega), this, cpM_ne (by omega), cpM_ne (by omega), m3r 67 (by omega) (by omega) (by omega)]
          · rw [← e9, mw_ne (by omega), mw_ne (by omega), aM_ne (by omega), cpM_out (by omega), cpM_ne (by omega), cpM_ne (by omega), m3r 67 (by omega) (by omega) (by omega)]
          · rw [← e9, mw_ne (by omega), mw_ne (by omega), aM_in hq]
          · rw [x1 70 (by omega), m3r 70 (by omega) (by omega) (by omega)]
          · rw [x1 71 (by omega), c5 71 (by omega), c4 71 (by omega) (by omega)]
          · rw [x1 72 (by omega), c5 72 (by omega)]
          · rw [x1 q (by omega), m3r q (by omega) (by omega) h2]
          · rw [x1 78 (by omega)]
        · rw [hmo] at hmo'
          exact absurd hmo' (by simp)
      · refine br_p rfl ?_
        refine ref g2 _ (fun q hq => by rw [c1 q (by omega) (by omega), d2 q (by omega)]) (fun r m1 m2 hW hL1 q => ?_)
        obtain ⟨c4, q⟩ := q
        have w1 : ∀ q, ¬ q = 71 → ¬ q = 74 → m1 q = g2 q := hW.1
        rcases q with ⟨rfl, ⟨F', hmo'⟩, -⟩ | ⟨rfl, -, c72⟩
        · rw [hmo] at hmo'
          exact absurd hmo' (by simp)
        · refine br_p rfl ⟨rfl, ?_⟩
          have x1 : ∀ q, ¬ (71 ≤ q ∧ q ≤ 74) → m2 q = g2 q := fun q hq => by rw [c4 q (by omega) (by omega), w1 q (by omega) (by omega)]
          have x2 : ∀ q, ¬ (71 ≤ q ∧ q ≤ 74) → ¬ (22 ≤ q ∧ q ≤ 23) → m2 q = g1 q := fun q h1 h2 => by rw [x1 q h1, c1 q (by omega) (by omega)]
          have e22 : m2 22 = g1 22 := by rw [x1 22 (by omega), c22]
          have e7 : m2 7 = g1 7 := x2 7 (by omega) (by omega)
          have e21 : m2 21 = g1 21 := x2 21 (by omega) (by omega)
          refine Rel_hp hR (fun q h1 h2 => by rw [x2 q h2 (by omega), hD.1 q (by omega) (by omega) (by omega) (by omega)]) (Iheap_congr e7 e21 e22 hI1) ⟨fun o h1 h2 => ?_, fun o ho f hf => ?_⟩
          · rw [c4 71 (by omega) (by omega), e21]
            exact hL1.1 o h1 h2
          · have ho' := (live_congr e21 o).mp ho
            rw [wid_congr e7 e21] at hf
            have h4 := hw4 o ho'
            have o2 := ho.2.1
            rw [c72 _ (by omega), e22]
            exact hL1.2 o ho' f hf
    · refine smr_M_attempt _ (br_t a (br_n (by rw [e5]; exact b) (mm_SI_mono (sp_M_blocker I1 Io I8 L1 L8 Lr hT Lt Li.2.2 (by rw [e5]; exact b) 0) (fun r' m q' => ?_))))
      obtain ⟨rfl, q'⟩ := q'
      exact br_f (fun z' => z (q1.mpr ((FT_0 hn q').mp z'))) ⟨rfl, hR⟩
  · exact smr_M_attempt _ (br_t a (br_p (by rw [e5]; exact b) ⟨rfl, hR⟩))
  · exact smr_M_attempt _ (br_f a ⟨rfl, hR⟩)
end AU
