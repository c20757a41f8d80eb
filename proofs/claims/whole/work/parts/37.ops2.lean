section OQ
variable {Γ : mm_Ctx}
/-! waiting -/
theorem st_wait {g : mm_Mem} {j n d p w : Nat} (C : Cur g j n d p w) (eo : g 3 (12 * p + w) = 11) (e6 : g (28 + 6 * j) 6 = 0) : StpR Γ j n g (mm_wr g (28 + 6 * j) 7 1) := by
  obtain ⟨hj6, hl12, el⟩ := Cur_j C
  have hd6 := C.2.2.2.2.1
  have e : ∀ q, ¬ q = 28 + 6 * j → mm_wr g (28 + 6 * j) 7 1 q = g q := fun q hq => mw_ne hq
  have eo' : ∀ x, ¬ x = 7 → mm_wr g (28 + 6 * j) 7 1 (28 + 6 * j) x = g (28 + 6 * j) x := fun x hx => mw_miss (by omega)
  refine ⟨fun q hq => e q (by omega), keepI_t C.1 C.2.1 (fun q hq => e q (by omega)) (fun q h1 h2 h3 => e q (by omega)) (Itask_mk (d := d + 1) (by rw [eo' 5 (by omega)]; exact C.2.2.2.1) (by omega) (by rw [eo' 6 (by omega), e6]; exact rg_0 _) (by rw [mw_hit]; exact ⟨1, by omega, rfl⟩) ⟨fun z => absurd z (by omega), fun z => ?_⟩ (fun k hk => Fo_congr (e _ (by omega)) (by rw [e _ (by omega)]) (by rw [e _ (by omega)]) (by rw [e _ (by omega)]) (Cur_Fo C (by omega)))), fun h hL => act_in C hL (fun _ _ => ⟨mw_hit.symm, fun _ _ => rfl, ?_⟩) (fun z => absurd ⟨eo, e6⟩ z)⟩
  · rw [mw_hit] at z
    rcases z with z | z
    · exact absurd z (by decide)
    · exact absurd z (by decide)
  · refine keepL_t C.1 hL (fun q hq => e q (by omega)) (fun q h1 h2 h3 => e q (by omega)) (fun _ _ _ => rfl) (onlyR_n (fun _ _ => rfl)) ?_
    obtain ⟨k1, k2, k3, k4, k5⟩ := hL.2.2.2.2.2.2.2
    unfold Ltk Lfr
    rw [dep_congr (eo' 5 (by omega)), eo' 5 (by omega), eo' 6 (by omega), eo' 8 (by omega), e (28 + 6 * j + 1) (by omega), e (28 + 6 * j + 2) (by omega), e (28 + 6 * j + 3) (by omega), e (28 + 6 * j + 4) (by omega), e (28 + 6 * j + 5) (by omega)]
    exact ⟨k1, k2, k3, k4, k5⟩
/-! the oldest of the queue -/
def TkC (j q : Nat) (g g' : mm_Mem) : Prop := (∀ r, ¬ r = 28 + 6 * j → ¬ r = 28 + 6 * j + 5 → g' r = g r) ∧ (∀ x, ¬ x = 6 → g' (28 + 6 * j) x = g (28 + 6 * j) x) ∧ g' (28 + 6 * j) 6 = nI q ∧ ∀ i, i < q → g' (28 + 6 * j + 5) i = g (28 + 6 * j + 5) (i + 1)
theorem sp_T_take {g : mm_Mem} {j q : Nat} (hj : j < 6) (hq : q < 8) (eq : g (28 + 6 * j) 6 = nI (q + 1)) : mm_SI Γ smM_T_takeOldest [.ref (mm_B Γ + (28 + 6 * j))] g (fun r g' => r = g (28 + 6 * j + 5) 0 ∧ TkC j q g g') := by
  have loop : ∀ d k (m : mm_Mem), k + d = q → (∀ r, ¬ r = 28 + 6 * j + 5 → m r = g r) → (∀ i, i < k → m (28 + 6 * j + 5) i = g (28 + 6 * j + 5) (i + 1)) → (∀ i, k ≤ i → m (28 + 6 * j + 5) i = g (28 + 6 * j + 5) i) → mm_W Γ smM_T_takeOldest (mm_pI (fun r g' => r = g (28 + 6 * j + 5) 0 ∧ TkC j q g g')) 9 [some (.ref (mm_B Γ + (28 + 6 * j))), some (.int (g (28 + 6 * j + 5) 0)), some (.int (nI (k + 1)))] [] m := by
    intro d
    induction d with
    | zero =>
      intro k m hk a b c
      obtain rfl : k = q := by omega
      refine smr_T_takeOldest_9 (isT_j hj) _ _ ?_
      rw [a (28 + 6 * j) (by omega), eq, nI_pred]
      refine br_t (nI_le (Nat.le_refl _) (by omega)) (fun m' e => ⟨rfl, fun r h1 h2 => by rw [e, mw_ne h1, a r h2], fun x hx => by rw [e, mw_miss (by omega), a _ (by omega)], by rw [e, mw_hit], fun i hi => ?_⟩)
      rw [e, mw_ne (by omega)]
      exact b i hi
    | succ d ih =>
      intro k m hk a b c
      refine smr_T_takeOldest_9 (isT_j hj) _ _ ?_
      rw [a (28 + 6 * j) (by omega), eq, nI_pred k, nI_clamp (n := k + 1) (by omega), nI_clamp (n := k) (by omega), nI_1]
      refine br_f (nI_ge (by omega) (by omega)) ⟨vp_in_nI (by omega) (by decide), vp_in_nI (by omega) (by decide), fun m' e => ih (k + 1) m' (by omega) (fun r hr => by rw [e, mw_ne hr, a r hr]) (fun i hi => ?_) (fun i hi => ?_)⟩
      · by_cases hik : i = k
        · subst hik
          rw [e, mw_hit]
          exact c (i + 1) (by omega)
        · rw [e, mw_miss (by omega)]
          exact b i (by omega)
      · rw [e, mw_miss (by omega)]
        exact c i (by omega)
  refine smr_T_takeOldest (isT_j hj) ⟨vp_in_nI (n := 0) (by omega) (by decide), fun y ey => ?_⟩
  have ey' : y = g (28 + 6 * j + 5) 0 := ey
  subst ey'
  exact loop q 0 g (by omega) (fun _ _ => rfl) (fun i hi => absurd hi (by omega)) (fun _ _ => rfl)
def TkR (j q : Nat) (h h' : mm_Mem) : Prop := (∀ r, ¬ r = 79 → ¬ r = 80 → h' r = h r) ∧ (∀ x, ¬ x = j + 1 → h' 79 x = h 79 x) ∧ h' 79 (j + 1) = nI q ∧ (∀ i, i < q → h' 80 (8 * (j + 1) + i) = h 80 (8 * (j + 1) + i + 1)) ∧ ∀ x, ¬ (8 * (j + 1) ≤ x ∧ x < 8 * (j + 1) + 8) → h' 80 x = h 80 x
theorem sp_M_take {h : mm_Mem} {j q : Nat} (hj : j < 6) (hq : q < 8) (eq : h 79 (j + 1) = nI (q + 1)) : mm_SI Γ smM_M_take [.ref (mm_B Γ + 64), .int (nI (j + 1))] h (fun r h' => r = h 80 (8 * (j + 1)) ∧ TkR j q h h') := by
  have e8 : (8 : Int32) * nI (j + 1) = nI (8 * (j + 1)) := by
    show nI 8 * nI (j + 1) = _
    rw [pk_mul]
  have loop : ∀ d k (m : mm_Mem), k + d = q → (∀ r, ¬ r = 79 → ¬ r = 80 → m r = h r) → (∀ x, ¬ x = j + 1 → m 79 x = h 79 x) → m 79 (j + 1) = nI q → (∀ i, i < k → m 80 (8 * (j + 1) + i) = h 80 (8 * (j + 1) + i + 1)) → (∀ x, ¬ (8 * (j + 1) ≤ x ∧ x < 8 * (j + 1) + k) → m 80 x = h 80 x) → mm_W Γ smM_M_take (mm_pI (fun r h' => r = h 80 (8 * (j + 1)) ∧ TkR j q h h')) 22 [some (.ref (mm_B Γ + 64)), some (.int (nI (j + 1))), some (.int (h 80 (8 * (j + 1)))), some (.int (nI k))] [] m := by
    intro d
    induction d with
    | zero =>
      intro k m hk a b c b2 c2
      obtain rfl : k = q := by omega
      refine smr_M_take_22 _ _ _ ?_
      rw [tk4 hj, c]
      exact ⟨tk3 hj, br_t (nI_le (Nat.le_refl _) (by omega)) ⟨rfl, a, b, c, b2, fun x hx => c2 x (by omega)⟩⟩
    | succ d ih =>
      intro k m hk a b c b2 c2
      refine smr_M_take_22 _ _ _ ?_
      have g1 : nI (8 * (j + 1)) + nI k + 1 = nI (8 * (j + 1) + k + 1) := by rw [nI_add, nI_1]
      rw [tk4 hj, c, e8, g1, nI_add, nI_clamp (n := 8 * (j + 1) + k + 1) (by omega), nI_clamp (n := 8 * (j + 1) + k) (by omega), nI_1 k]
      refine ⟨tk3 hj, br_f (nI_ge (by omega) (by omega)) ⟨vp_in_nI (by omega) (by decide), vp_in_nI (by omega) (by decide), fun m' e => ih (k + 1) m' (by omega) (fun r h1 h2 => by rw [e, mw_ne h2, a r h1 h2]) (fun x hx => by rw [e, mw_ne (by omega), b x hx]) (by rw [e, mw_ne (by omega), c]) (fun i hi => ?_) (fun x hx => ?_)⟩⟩
      · by_cases hik : i = k
        · subst hik
          rw [e, mw_hit]
          exact c2 _ (by omega)
        · rw [e, mw_miss (by omega)]
          exact b2 i (by omega)
      · rw [e, mw_miss (by omega)]
        exact c2 x (by omega)
  refine smr_M_take _ ?_
  rw [e8, nI_clamp (n := 8 * (j + 1)) (by omega), tk4 hj, eq, nI_pred]
  refine ⟨vp_in_nI (by omega) (by decide), fun y ey => ⟨tk3 hj, tk3 hj, fun m e => ?_⟩⟩
  subst ey
  exact loop q 0 m (by omega) (fun r h1 _ => by rw [e, mw_ne h1]) (fun x hx => by rw [e, mw_miss (by omega)]) (by rw [e, mw_hit]) (fun i hi => absurd hi (by omega)) (fun x _ => by rw [e, mw_ne (by omega)])
theorem kQ {g g' : mm_Mem} {j n d p w q : Nat} (C : Cur g j n d p w) (hq : q < 8) (T : TkC j q g g') : Cur g' j n d p w := by
  obtain ⟨hj6, hl12, el⟩ := Cur_j C
  obtain ⟨t1, t2, t3, t4⟩ := T
  have e : ∀ r, ¬ r = 28 + 6 * j → ¬ r = 28 + 6 * j + 5 → g' r = g r := t1
  refine Cur_mk C (keepI_t C.1 C.2.1 (fun r hr => e r (by omega) (by omega)) (fun r h1 h2 h3 => e r (by omega) (by omega)) (Itask_top C (e _ (by omega) (by omega)) (t2 5 (by omega)) (by rw [t3]; exact ⟨q, by omega, rfl⟩) (t2 7 (by omega)) (fun k hk => Fo_congr (e _ (by omega) (by omega)) (by rw [e _ (by omega) (by omega)]) (by rw [e _ (by omega) (by omega)]) (by rw [e _ (by omega) (by omega)]) (Cur_Fo C hk)))) (e _ (by omega) (by omega)) (t2 5 (by omega)) (t2 7 (by omega)) (by rw [e _ (by omega) (by omega)]) C.2.2.2.2.2.2.1 (by rw [e _ (by omega) (by omega)]; exact C.2.2.2.2.2.2.2.2.1)
theorem kQL {g g' h h' : mm_Mem} {j n d p w q : Nat} (C : Cur g j n d p w) (hL : Rs j g h) (hq : q < 8) (eq : g (28 + 6 * j) 6 = nI (q + 1)) (T : TkC j q g g') (R : TkR j q h h') : Rs j g' h' := by
  obtain ⟨hj6, hl12, el⟩ := Cur_j C
  obtain ⟨t1, t2, t3, t4⟩ := T
  obtain ⟨r1, r2, r3, r4, r5⟩ := R
  have e : ∀ r, ¬ r = 28 + 6 * j → ¬ r = 28 + 6 * j + 5 → g' r = g r := t1
  refine keepL_t C.1 hL (fun r hr => e r (by omega) (by omega)) (fun r h1 h2 h3 => e r (by omega) (by omega)) (fun r h1 h2 => r1 r (by omega) (by omega)) ⟨r1 _ (by omega) (by omega), fun y hy => ⟨by rw [r1 _ (by omega) (by omega)], by rw [r1 _ (by omega) (by omega)], r2 y hy⟩, fun y hy => by rw [r1 _ (by omega) (by omega)], r5⟩ ?_
  obtain ⟨k1, k2, k3, k4, k5⟩ := hL.2.2.2.2.2.2.2
  rw [eq, nI_clamp (by omega)] at k5
  unfold Ltk Lfr
  rw [dep_congr (t2 5 (by omega)), t2 5 (by omega), t3, t2 8 (by omega), e (28 + 6 * j + 1) (by omega) (by omega), e (28 + 6 * j + 2) (by omega) (by omega), e (28 + 6 * j + 3) (by omega) (by omega), e (28 + 6 * j + 4) (by omega) (by omega), r1 77 (by omega) (by omega), r1 76 (by omega) (by omega), r1 78 (by omega) (by omega), r3, nI_clamp (by omega)]
  refine ⟨k1, rfl, k3, k4, fun i hi => ?_⟩
  rw [r4 i hi, t4 i hi]
  exact k5 (i + 1) (by omega)
theorem st_11 {g : mm_Mem} {j n d p w : Nat} (C : Cur g j n d p w) (eo : g 3 (12 * p + w) = 11) (hq0 : ¬ g (28 + 6 * j) 6 = 0) : mm_W Γ smM_S_perform (mm_pV (StpR Γ j n g)) 50 [some (.ref (mm_B Γ + 0)), some (.ref (mm_B Γ + (28 + 6 * j))), some (.int (nI d)), some (.int (nI (12 * p + w))), none, none, none] [] g := by
  obtain ⟨hj6, hl12, el⟩ := Cur_j C
  have hd6 := C.2.2.2.2.1
  have hp6 := C.2.2.2.2.2.1
  have hwl := C.2.2.2.2.2.2.1
  have epl := C.2.2.2.2.2.2.2.2.1
  obtain ⟨hr, hlast⟩ := C.1.1.1.2 p w hp6 hwl
  have hw1 : w + 1 < lenV g 1 p := by
    by_cases z : w + 1 = lenV g 1 p
    · have z2 : g 3 (12 * p + w) = 0 := hlast z
      rw [eo] at z2
      exact absurd z2 (by decide)
    · omega
  obtain ⟨a, ha, ea, -⟩ := vin_of (ro_a hr (Or.inr (Or.inr eo))) (by decide)
  obtain ⟨q, hq8, eq⟩ : ∃ q, q < 8 ∧ g (28 + 6 * j) 6 = nI (q + 1) := by
    obtain ⟨-, ⟨q, hq, eq⟩, -⟩ := C.1.2.2.2.1 j C.2.1
    have : ¬ q = 0 := fun z => hq0 (by rw [eq, z]; rfl)
    exact ⟨q - 1, by omega, by rw [eq]; congr 1; omega⟩
  refine smr_S_perform_50 (isT_j hj6) _ _ ?_
  rw [nI_clamp (n := d) (by omega), nI_clamp (n := 12 * p + w) (by omega), epl, nI_1 w]
  have v6 : vp_in (nI d) 6 := vp_in_nI hd6 (by decide)
  have v72 : vp_in (nI (12 * p + w)) 72 := vp_in_nI (by omega) (by decide)
  refine ⟨v6, v6, fun g1 eg1 => ?_⟩
  have C1 : Cur g1 j n d p (w + 1) := by
    rw [eg1]
    exact kP C hw1
  have r3 : ∀ q, ¬ q = 28 + 6 * j + 2 → g1 q = g q := fun q hq => by rw [eg1, mw_ne hq]
  have r64 : ∀ q, 64 ≤ q → g1 q = g q := fun q hq => r3 q (by omega)
  have ed1 := C1.2.2.2.1
  have e71 := C1.2.2.2.2.2.2.2.2.2
  rw [r3 3 (by omega), r3 4 (by omega), r3 5 (by omega), r3 6 (by omega), eo]
  refine ⟨v72, fun y4 ey4 => ⟨v72, fun y5 ey5 => ⟨v72, fun y6 ey6 => ⟨v72, ⟨fun z => absurd z (by decide), fun z => absurd z (by decide), fun z => absurd z (by decide), fun z => absurd z (by decide), fun z => absurd z (by decide), fun z => absurd z (by decide), fun z => absurd z (by decide), fun z => absurd z (by decide), fun z => absurd z (by decide), fun z => absurd z (by decide), fun z => absurd z (by decide), fun _ => ?_, fun _ _ _ _ _ _ _ _ _ _ _ z => absurd rfl z⟩⟩⟩⟩⟩
  subst ey4
  rw [ea]
  have eq1 : g1 (28 + 6 * j) 6 = nI (q + 1) := by rw [r3 _ (by omega)]; exact eq
  refine mm_SI_mono (sp_T_take hj6 hq8 eq1) (fun r g2 q' => ?_)
  obtain ⟨rfl, T⟩ := q'
  have C2 := kQ C1 hq8 T
  refine us_v (sp_T_setLocal hj6 hd6 C2.2.2.2.1 ha _) ⟨fun q hq => by rw [mw_ne (by omega), T.1 q (by omega) (by omega), r64 q hq], kL C2 _ _, fun h hL => ?_⟩
  refine act_in C hL (fun z => fun z2 => absurd z2 hq0) (fun _ => ?_)
  obtain ⟨l1, l2, l3, l4⟩ := Rs_fr C hL
  refine smr_M_act_95 _ _ _ _ _ _ _ ?_
  have g1' : nI (36 * (j + 1) + 6 * d) + 1 = nI (36 * (j + 1) + 6 * d + 1) := nI_add _ 1
  rw [g1', nI_clamp (n := 36 * (j + 1) + 6 * d + 1) (by omega), l2, nI_1 w, eo, ea]
  refine ⟨vp_in_nI (by omega) (by decide), vp_in_nI (by omega) (by decide), fun h1 eh1 => ?_⟩
  have hL1 : Rs j g1 h1 := by
    rw [eg1, eh1]
    exact kPL C hL _
  obtain ⟨m1, m2, m3, m4⟩ := Rs_fr C1 hL1
  have q64 : ∀ q, q < 64 → h1 q = h q := fun q hq => by rw [eh1, mw_ne (by omega)]
  refine ⟨fun z => absurd z (by decide), fun z => absurd z (by decide), fun z => absurd z (by decide), fun z => absurd z (by decide), fun z => absurd z (by decide), fun z => absurd z (by decide), fun z => absurd z (by decide), fun z => absurd z (by decide), fun z => absurd z (by decide), fun z => absurd z (by decide), fun _ => ?_, fun _ _ _ _ _ _ _ _ _ _ _ z => absurd rfl z⟩
  have e79 : h1 79 (j + 1) = nI (q + 1) := hL1.2.2.2.2.2.2.2.2.1.trans eq1
  have e80 : h1 80 (8 * (j + 1)) = g1 (28 + 6 * j + 5) 0 := hL1.2.2.2.2.2.2.2.2.2.2.2 0 (by rw [eq1, nI_clamp (by omega)]; omega)
  refine mm_SI_mono (sp_M_take hj6 hq8 e79) (fun r h2 q' => ?_)
  obtain ⟨rfl, R⟩ := q'
  have hL2 := kQL C1 hL1 hq8 eq1 T R
  rw [nI_add (36 * (j + 1) + 6 * d + 2) a, nI_clamp (n := 36 * (j + 1) + 6 * d + 2 + a) (by omega), e80]
  refine ⟨vp_in_nI (by omega) (by decide), fun h3 eh3 => ⟨?_, fun q hq => by rw [eh3, mw_ne (by omega), R.1 q (by omega) (by omega), q64 q hq], ?_⟩⟩
  · rw [mw_ne (by omega), C2.2.2.2.2.2.2.2.2.2]
  · rw [eh3]
    exact kLL C2 hL2 ha _
/-! return -/
theorem st_0 {g : mm_Mem} {j n d p w : Nat} (C : Cur g j n d p w) (eo : g 3 (12 * p + w) = 0) : mm_W Γ smM_S_perform (mm_pV (StpR Γ j n g)) 50 [some (.ref (mm_B Γ + 0)), some (.ref (mm_B Γ + (28 + 6 * j))), some (.int (nI d)), some (.int (nI (12 * p + w))), none, none, none] [] g := by
  obtain ⟨hj6, hl12, el⟩ := Cur_j C
  have hd6 := C.2.2.2.2.1
  have hp6 := C.2.2.2.2.2.1
  have hwl := C.2.2.2.2.2.2.1
  have epl := C.2.2.2.2.2.2.2.2.1
  have e70 := C.2.2.2.2.2.2.2.2.2
  obtain ⟨-, b6, -⟩ := C.1.2.2.2.1 j C.2.1
  obtain ⟨hr, -⟩ := C.1.1.1.2 p w hp6 hwl
  obtain ⟨a, ha, ea, -⟩ := vin_of (ro_a hr (Or.inl eo)) (by decide)
  refine smr_S_perform_50 (isT_j hj6) _ _ ?_
  rw [nI_clamp (n := d) (by omega), nI_clamp (n := 12 * p + w) (by omega), epl, nI_1 w]
  have v6 : vp_in (nI d) 6 := vp_in_nI hd6 (by decide)
  have v72 : vp_in (nI (12 * p + w)) 72 := vp_in_nI (by omega) (by decide)
  refine ⟨v6, v6, fun g1 eg1 => ?_⟩
  have r3 : ∀ q, ¬ q = 28 + 6 * j + 2 → g1 q = g q := fun q hq => by rw [eg1, mw_ne hq]
  have r2 : ∀ k, ¬ k = d → g1 (28 + 6 * j + 2) k = g (28 + 6 * j + 2) k := fun k hk => by rw [eg1, mw_miss (by omega)]
  have ed1 : g1 (28 + 6 * j) 5 = nI (d + 1) := by rw [r3 _ (by omega)]; exact C.2.2.2.1
  have e71 : g1 (28 + 6 * j) 7 = 0 := by rw [r3 _ (by omega)]; exact e70
  rw [r3 3 (by omega), r3 4 (by omega), r3 5 (by omega), r3 6 (by omega), eo]
  refine ⟨v72, fun y4 ey4 => ⟨v72, fun y5 ey5 => ⟨v72, fun y6 ey6 => ⟨v72, ⟨fun _ => ?_, fun z => absurd z (by decide), fun z => absurd z (by decide), fun z => absurd z (by decide), fun z => absurd z (by decide), fun z => absurd z (by decide), fun z => absurd z (by decide), fun z => absurd z (by decide), fun z => absurd z (by decide), fun z => absurd z (by decide), fun z => absurd z (by decide), fun z => absurd z (by decide), fun z _ _ _ _ _ _ _ _ _ _ _ => absurd rfl z⟩⟩⟩⟩⟩
  subst ey4
  rw [ea]
  refine us_eq (sp_T_local hj6 hd6 ed1 ha) (smr_T_giveBack (isT_j hj6) _ (fun g2 eg2 => ?_))
  generalize hv : g1 (28 + 6 * j + 3) (3 * d + a) = v
  rw [ed1, nI_pred] at eg2
  have ed2 : g2 (28 + 6 * j) 5 = nI d := by rw [eg2, mw_hit]
  have s3 : ∀ q, ¬ q = 28 + 6 * j + 2 → ¬ q = 28 + 6 * j → g2 q = g q := fun q h1 h2 => by rw [eg2, mw_ne h2, r3 q h1]
  have s2 : ∀ k, ¬ k = d → g2 (28 + 6 * j + 2) k = g (28 + 6 * j + 2) k := fun k hk => by rw [eg2, mw_ne (by omega), r2 k hk]
  have s0 : ∀ x, ¬ x = 5 → g2 (28 + 6 * j) x = g (28 + 6 * j) x := fun x hx => by rw [eg2, mw_miss (by omega), r3 _ (by omega)]
  -- the reference, up to the new depth
  have ref : ∀ (h : mm_Mem) (post : Int32 → mm_Mem → Prop), Rs j g h → (∀ h9 : mm_Mem, (∀ q, ¬ q = 77 → ¬ q = 78 → h9 q = h q) → (∀ x, ¬ x = j + 1 → h9 77 x = h 77 x) → h9 77 (j + 1) = nI d → (∀ x, ¬ x = 36 * (j + 1) + 6 * d + 1 → h9 78 x = h 78 x) → ((¬ nI d = 0 → ((vp_in (nI (j + 1)) 7) ∧ (mm_SI Γ smM_M_frameAt [.int (nI (j + 1)), .int (nI d)] h9 (fun r39 h39 => (vp_in (r39 + 5) 252) ∧ (∀ y3 : Int32, y3 = h39 78 (r39 + 5).toNatClampNeg → ((vp_in (nI (j + 1)) 7) ∧ (mm_SI Γ smM_M_frameAt [.int (nI (j + 1)), .int ((h39 77 (nI (j + 1)).toNatClampNeg) - 1)] h39 (fun r59 h59 => (vp_in ((r59 + 2) + y3) 252) ∧ (∀ h67, h67 = mm_wr h59 78 ((r59 + 2) + y3).toNatClampNeg v → (post 0 h67)))))))))) ∧ (nI d = 0 → ((vp_in (nI (j + 1)) 7) ∧ (∀ h25, h25 = mm_wr h9 76 (j + 1) v → (post 2 h25)))))) → mm_SI Γ smM_M_act [.ref (mm_B Γ + 64), .int (nI (j + 1))] h post := by
    intro h post hL kk
    refine act_in C hL (fun z => absurd (eo.symm.trans z) (by decide)) (fun _ => ?_)
    obtain ⟨l1, l2, l3, l4⟩ := Rs_fr C hL
    refine smr_M_act_95 _ _ _ _ _ _ _ ?_
    have g1' : nI (36 * (j + 1) + 6 * d) + 1 = nI (36 * (j + 1) + 6 * d + 1) := nI_add _ 1
    rw [g1', nI_clamp (n := 36 * (j + 1) + 6 * d + 1) (by omega), l2, nI_1 w, eo, ea]
    refine ⟨vp_in_nI (by omega) (by decide), vp_in_nI (by omega) (by decide), fun h1 eh1 => ?_⟩
    refine ⟨fun _ => ?_, fun z => absurd z (by decide), fun z => absurd z (by decide), fun z => absurd z (by decide), fun z => absurd z (by decide), fun z => absurd z (by decide), fun z => absurd z (by decide), fun z => absurd z (by decide), fun z => absurd z (by decide), fun z => absurd z (by decide), fun z => absurd z (by decide), fun z _ _ _ _ _ _ _ _ _ _ _ => absurd rfl z⟩
    have ev : h1 78 (36 * (j + 1) + 6 * d + 2 + a) = v := by
      rw [eh1, mw_miss (by omega), l3 a ha, ← hv, r3 _ (by omega)]
    have e77 : h1 77 (j + 1) = nI (d + 1) := by
      rw [eh1, mw_ne (by omega)]
      exact hL.2.2.2.2.2.2.2.1.trans C.2.2.2.1
    rw [nI_add (36 * (j + 1) + 6 * d + 2) a, nI_clamp (n := 36 * (j + 1) + 6 * d + 2 + a) (by omega), ev]
    refine ⟨vp_in_nI (by omega) (by decide), smr_M_giveBack _ _ ?_⟩
    rw [tk4 hj6, e77, nI_pred]
    refine ⟨tk3 hj6, tk3 hj6, fun h9 eh9 => ⟨tk3 hj6, ?_⟩⟩
    have e9 : h9 77 (j + 1) = nI d := by rw [eh9, mw_hit]
    have := kk h9 (fun q h1' h2' => by rw [eh9, mw_ne h1', eh1, mw_ne h2']) (fun x hx => by rw [eh9, mw_miss (by omega), eh1, mw_ne (by omega)]) e9 (fun x hx => by rw [eh9, mw_ne (by omega), eh1, mw_miss (by omega)])
    rw [tk4 hj6] at this
    rw [e9]
    exact this
  rw [ed2]
  by_cases hd0 : d = 0
  · -- the task ends
    subst hd0
    refine br_p rfl (fun g3 eg3 g4 eg4 => ?_)
    have t3 : ∀ q, ¬ q = 28 + 6 * j + 2 → ¬ q = 28 + 6 * j → g4 q = g q := fun q h1 h2 => by rw [eg4, mw_ne h2, eg3, mw_ne h2, s3 q h1 h2]
    have t0 : ∀ x, ¬ x = 5 → ¬ x = 7 → ¬ x = 8 → g4 (28 + 6 * j) x = g (28 + 6 * j) x := fun x h1 h2 h3 => by rw [eg4, mw_miss (by omega), eg3, mw_miss (by omega), s0 x h1]
    have t5 : g4 (28 + 6 * j) 5 = nI 0 := by rw [eg4, mw_miss (by omega), eg3, mw_miss (by omega), ed2]
    have t7 : g4 (28 + 6 * j) 7 = 2 := by rw [eg4, mw_miss (by omega), eg3, mw_hit]
    have t8 : g4 (28 + 6 * j) 8 = v := by rw [eg4, mw_hit]
    refine ⟨fun q hq => t3 q (by omega) (by omega), keepI_t C.1 C.2.1 (fun q hq => t3 q (by omega) (by omega)) (fun q h1 h2 h3 => t3 q (by omega) (by omega)) (Itask_mk (d := 0) t5 (by omega) (by rw [t0 6 (by omega) (by omega) (by omega)]; exact b6) (by rw [t7]; exact ⟨2, by omega, rfl⟩) ⟨fun _ => Or.inl t7, fun _ => rfl⟩ (fun k hk => absurd hk (by omega))), fun h hL => ref h _ hL (fun h9 u1 u2 u3 u4 => br_p rfl ⟨tk3 hj6, fun h25 e25 => ⟨t7.symm, fun q hq => by rw [e25, mw_ne (by omega), u1 q (by omega) (by omega)], ?_⟩⟩)⟩
    refine keepL_t C.1 hL (fun q hq => t3 q (by omega) (by omega)) (fun q h1 h2 h3 => t3 q (by omega) (by omega)) (fun q h1 h2 => by rw [e25, mw_ne (by omega), u1 q (by omega) (by omega)]) ⟨by rw [e25, mw_ne (by omega), u1 75 (by omega) (by omega)], fun y hy => ⟨by rw [e25, mw_miss (by omega), u1 76 (by omega) (by omega)], by rw [e25, mw_ne (by omega), u2 y hy], by rw [e25, mw_ne (by omega), u1 79 (by omega) (by omega)]⟩, fun y hy => by rw [e25, mw_ne (by omega), u4 y (by omega)], fun y hy => by rw [e25, mw_ne (by omega), u1 80 (by omega) (by omega)]⟩ ?_
    obtain ⟨k1, k2, k3, k4, k5⟩ := hL.2.2.2.2.2.2.2
    unfold Ltk dep
    rw [t5, t8, t0 6 (by omega) (by omega) (by omega), t3 (28 + 6 * j + 5) (by omega) (by omega), nI_clamp (by omega)]
    refine ⟨by rw [e25, mw_ne (by omega), u3], by rw [e25, mw_ne (by omega), u1 79 (by omega) (by omega)]; exact k2, by rw [e25, mw_hit], fun k hk => absurd hk (by omega), fun i hi => ?_⟩
    rw [e25, mw_ne (by omega), u1 80 (by omega) (by omega)]
    exact k5 i hi
  · -- the frame below goes on
    obtain ⟨d0, rfl⟩ : ∃ d0, d = d0 + 1 := ⟨d - 1, by omega⟩
    obtain ⟨p', w', a', hp', hw', ha', f1, f2, f3⟩ := Cur_Fo C (Nat.le_refl _)
    refine br_n (nI_ne0 (by omega) (by omega)) ?_
    rw [nI_clamp (n := d0 + 1) (by omega), s3 (28 + 6 * j + 4) (by omega) (by omega), f3]
    refine ⟨v6, us_v (sp_T_setLocal hj6 (by omega) ed2 ha' _) ?_⟩
    generalize eg3 : mm_wr g2 (28 + 6 * j + 3) (3 * d0 + a') v = g3
    have t3 : ∀ q, ¬ q = 28 + 6 * j + 2 → ¬ q = 28 + 6 * j → ¬ q = 28 + 6 * j + 3 → g3 q = g q := fun q h1 h2 h3 => by rw [← eg3, mw_ne h3, s3 q h1 h2]
    have t0 : ∀ x, ¬ x = 5 → g3 (28 + 6 * j) x = g (28 + 6 * j) x := fun x h1 => by rw [← eg3, mw_ne (by omega), s0 x h1]
    have t2 : ∀ k, ¬ k = d0 + 1 → g3 (28 + 6 * j + 2) k = g (28 + 6 * j + 2) k := fun k hk => by rw [← eg3, mw_ne (by omega), s2 k hk]
    have t5 : g3 (28 + 6 * j) 5 = nI (d0 + 1) := by rw [← eg3, mw_ne (by omega), ed2]
    have t7 : g3 (28 + 6 * j) 7 = 0 := by rw [t0 7 (by omega)]; exact e70
    have tL : ∀ x, g3 (28 + 6 * j + 3) x = if x = 3 * d0 + a' then v else g (28 + 6 * j + 3) x := fun x => by
      by_cases c : x = 3 * d0 + a'
      · rw [← eg3, c, mw_hit, if_pos rfl]
      · rw [← eg3, mw_miss (by omega), if_neg c, s3 _ (by omega) (by omega)]
    refine ⟨fun q hq => t3 q (by omega) (by omega) (by omega), keepI_t C.1 C.2.1 (fun q hq => t3 q (by omega) (by omega) (by omega)) (fun q h1 h2 h3 => t3 q (by omega) (by omega) (by omega)) (Itask_mk (d := d0 + 1) t5 (by omega) (by rw [t0 6 (by omega)]; exact b6) (by rw [t7]; exact rg_0 _) ⟨fun z => absurd z (by omega), fun z => ?_⟩ (fun k hk => Fo_congr (t3 _ (by omega) (by omega) (by omega)) (by rw [t3 _ (by omega) (by omega) (by omega)]) (t2 k (by omega)) (by rw [t3 _ (by omega) (by omega) (by omega)]) (Cur_Fo C (by omega)))), fun h hL => ref h _ hL (fun h9 u1 u2 u3 u4 => br_n (nI_ne0 (by omega) (by omega)) ⟨tk3 hj6, us_eq (sp_M_frameAt (j + 1) (d0 + 1) rfl rfl) ?_⟩)⟩
    · rw [t7] at z
      rcases z with z | z
      · exact absurd z (by decide)
      · exact absurd z (by decide)
    · obtain ⟨l1, l2, l3, l4⟩ := Rs_fr C hL
      have g5 : nI (36 * (j + 1) + 6 * (d0 + 1)) + 5 = nI (36 * (j + 1) + 6 * (d0 + 1) + 5) := nI_add _ 5
      rw [g5, nI_clamp (n := 36 * (j + 1) + 6 * (d0 + 1) + 5) (by omega), u4 _ (by omega), l4, f3, tk4 hj6, u3, nI_pred]
      refine ⟨vp_in_nI (by omega) (by decide), fun y ey => ⟨tk3 hj6, us_eq (sp_M_frameAt (j + 1) d0 rfl rfl) ?_⟩⟩
      subst ey
      have g6 : nI (36 * (j + 1) + 6 * d0) + 2 + nI a' = nI (36 * (j + 1) + 6 * d0 + 2 + a') := by
        rw [show nI (36 * (j + 1) + 6 * d0) + 2 = nI (36 * (j + 1) + 6 * d0 + 2) from nI_add _ 2, nI_add]
      rw [g6, nI_clamp (n := 36 * (j + 1) + 6 * d0 + 2 + a') (by omega)]
      refine ⟨vp_in_nI (by omega) (by decide), fun h67 e67 => ⟨t7.symm, fun q hq => by rw [e67, mw_ne (by omega), u1 q (by omega) (by omega)], ?_⟩⟩
      refine keepL_t C.1 hL (fun q hq => t3 q (by omega) (by omega) (by omega)) (fun q h1 h2 h3 => t3 q (by omega) (by omega) (by omega)) (fun q h1 h2 => by rw [e67, mw_ne (by omega), u1 q (by omega) (by omega)]) ⟨by rw [e67, mw_ne (by omega), u1 75 (by omega) (by omega)], fun y hy => ⟨by rw [e67, mw_ne (by omega), u1 76 (by omega) (by omega)], by rw [e67, mw_ne (by omega), u2 y hy], by rw [e67, mw_ne (by omega), u1 79 (by omega) (by omega)]⟩, fun y hy => by rw [e67, mw_miss (by omega), u4 y (by omega)], fun y hy => by rw [e67, mw_ne (by omega), u1 80 (by omega) (by omega)]⟩ ?_
      obtain ⟨k1, k2, k3, k4, k5⟩ := hL.2.2.2.2.2.2.2
      unfold Ltk dep
      rw [t5, t0 6 (by omega), t0 8 (by omega), t3 (28 + 6 * j + 5) (by omega) (by omega) (by omega), nI_clamp (by omega)]
      refine ⟨by rw [e67, mw_ne (by omega), u3], by rw [e67, mw_ne (by omega), u1 79 (by omega) (by omega)]; exact k2, by rw [e67, mw_ne (by omega), u1 76 (by omega) (by omega)]; exact k3, fun k hk => ?_, fun i hi => ?_⟩
      · obtain ⟨x1, x2, x3, x4⟩ := k4 k (by rw [C.2.2.1]; omega)
        rw [t3 (28 + 6 * j + 1) (by omega) (by omega) (by omega), t2 k (by omega), t3 (28 + 6 * j + 4) (by omega) (by omega) (by omega)]
        refine ⟨by rw [e67, mw_miss (by omega), u4 _ (by omega)]; exact x1, by rw [e67, mw_miss (by omega), u4 _ (by omega)]; exact x2, fun y hy => ?_, by rw [e67, mw_miss (by omega), u4 _ (by omega)]; exact x4⟩
        rw [tL]
        by_cases c : k = d0 ∧ y = a'
        · obtain ⟨rfl, rfl⟩ := c
          rw [if_pos rfl, e67, mw_hit]
        · rw [if_neg (by omega), e67, mw_miss (by omega), u4 _ (by omega)]
          exact x3 y hy
      · rw [e67, mw_ne (by omega), u1 80 (by omega) (by omega)]
        exact k5 i hi
end OQ
