section RS
variable {Γ : mm_Ctx}
def aR (h : mm_Mem) (k : Nat) : mm_Mem := fun q j => if (q = 17 ∨ q = 18 ∨ q = 19) ∧ j < 4 * k then 0 else if q = 16 ∧ j < k then 0 else h q j
def aM (h : mm_Mem) (k : Nat) : mm_Mem := fun q j => if q = 68 ∧ j < 12 * k then 0 else if q = 69 ∧ j < k then 0 else h q j
theorem aR_s {h : mm_Mem} {k : Nat} : mm_wr (zR (aR h k) (4 * k) (4 * k + 4)) 16 k 0 = aR h (k + 1) := by
  funext q j
  simp only [mw_at, zR, aR]
  repeat' split
  all_goals first | rfl | (exfalso; omega)
theorem aM_s {h : mm_Mem} {k : Nat} : mm_wr (zM (aM h k) (12 * k) (12 * k + 12)) 69 k 0 = aM h (k + 1) := by
  funext q j
  simp only [mw_at, zM, aM]
  repeat' split
  all_goals first | rfl | (exfalso; omega)
theorem aR_0 {h : mm_Mem} : aR h 0 = h := by
  funext q j
  simp only [aR]
  repeat' split
  all_goals first | rfl | (exfalso; omega)
theorem aM_0 {h : mm_Mem} : aM h 0 = h := by
  funext q j
  simp only [aM]
  repeat' split
  all_goals first | rfl | (exfalso; omega)
theorem aR_ne {h : mm_Mem} {k q : Nat} (hq : ¬ (16 ≤ q ∧ q ≤ 19)) : aR h k q = h q := by
  funext j
  simp only [aR]
  repeat' split
  all_goals first | rfl | (exfalso; omega)
theorem aM_ne {h : mm_Mem} {k q : Nat} (hq : ¬ (68 ≤ q ∧ q ≤ 69)) : aM h k q = h q := by
  funext j
  simp only [aM]
  repeat' split
  all_goals first | rfl | (exfalso; omega)
theorem aR_in {h : mm_Mem} {q j : Nat} (hq : (q = 17 ∨ q = 18 ∨ q = 19) ∧ j < 12 ∨ q = 16 ∧ j < 3) : aR h 3 q j = 0 := by
  simp only [aR]
  repeat' split
  all_goals first | rfl | (exfalso; omega)
theorem aM_in {h : mm_Mem} {q j : Nat} (hq : q = 68 ∧ j < 36 ∨ q = 69 ∧ j < 3) : aM h 3 q j = 0 := by
  simp only [aM]
  repeat' split
  all_goals first | rfl | (exfalso; omega)
theorem sp_R_forgetAll {h : mm_Mem} : mm_SV Γ smM_R_forgetAll [.ref (mm_B Γ + 15)] h (fun h' => h' = aR h 3) := by
  have loop : ∀ d k, k + d = 3 → mm_W Γ smM_R_forgetAll (mm_pV (fun h' => h' = aR h 3)) 2 [some (.ref (mm_B Γ + 15)), some (.int (nI k))] [] (aR h k) := by
    intro d
    induction d with
    | zero =>
      intro k hk
      obtain rfl : k = 3 := by omega
      exact smr_R_forgetAll_2 _ (br_t (by decide) rfl)
    | succ d ih =>
      intro k hk
      refine smr_R_forgetAll_2 _ (br_f (nI_ge (a := k) (b := 3) (by omega) (by omega)) (us_v (sp_R_forgetType (by omega)) ⟨vp_in_nI (by omega) (by decide), fun h1 e1 => ?_⟩))
      rw [e1, nI_clamp (by omega), aR_s, nI_1]
      exact ih (k + 1) (by omega)
  have := loop 3 0 rfl
  rw [aR_0] at this
  exact smr_R_forgetAll this
theorem sp_M_settle {h : mm_Mem} : mm_SV Γ smM_M_settle [.ref (mm_B Γ + 64)] h (fun h' => h' = aM h 3) := by
  have loop : ∀ d k, k + d = 3 → mm_W Γ smM_M_settle (mm_pV (fun h' => h' = aM h 3)) 2 [some (.ref (mm_B Γ + 64)), some (.int (nI k))] [] (aM h k) := by
    intro d
    induction d with
    | zero =>
      intro k hk
      obtain rfl : k = 3 := by omega
      exact smr_M_settle_2 _ (br_t (by decide) rfl)
    | succ d ih =>
      intro k hk
      refine smr_M_settle_2 _ (br_f (nI_ge (a := k) (b := 3) (by omega) (by omega)) (us_v (sp_M_clearRules (by omega)) ⟨vp_in_nI (by omega) (by decide), fun h1 e1 => ?_⟩))
      rw [e1, nI_clamp (by omega), aM_s, nI_1]
      exact ih (k + 1) (by omega)
  have := loop 3 0 rfl
  rw [aM_0] at this
  exact smr_M_settle this
/-- k places of a row, from s on to d on -/
def cpM (h : mm_Mem) (row s d k : Nat) : mm_Mem := fun q j => if q = row ∧ d ≤ j ∧ j < d + k then h row (s + (j - d)) else h q j
theorem cpM_0 {h : mm_Mem} {row s d : Nat} : cpM h row s d 0 = h := by
  funext q j
  simp only [cpM]
  repeat' split
  all_goals first | rfl | (exfalso; omega)
theorem cpM_s {h : mm_Mem} {row s d k : Nat} (hk : ¬ (d ≤ s + k ∧ s + k < d + k)) : mm_wr (cpM h row s d k) row (d + k) (cpM h row s d k row (s + k)) = cpM h row s d (k + 1) := by
  have e : cpM h row s d k row (s + k) = h row (s + k) := if_neg (fun z => hk z.2)
  rw [e]
  funext q j
  simp only [mw_at, cpM]
  by_cases hq : q = row ∧ j = d + k
  · rw [if_pos hq, if_pos (by omega), hq.2]
    congr 1
    omega
  · rw [if_neg hq]
    repeat' split
    all_goals first | rfl | (exfalso; omega)
theorem cpM_ne {h : mm_Mem} {row s d k q : Nat} (hq : ¬ q = row) : cpM h row s d k q = h q := by
  funext j
  exact if_neg (fun z => hq z.1)
theorem cpM_out {h : mm_Mem} {row s d k q j : Nat} (hq : ¬ (q = row ∧ d ≤ j ∧ j < d + k)) : cpM h row s d k q j = h q j := if_neg hq
theorem cpM_in {h : mm_Mem} {row s d k i : Nat} (hi : i < k) : cpM h row s d k row (d + i) = h row (s + i) := by
  unfold cpM
  rw [if_pos ⟨rfl, by omega, by omega⟩]
  congr 1
  omega
def cV (h : mm_Mem) (v u : Nat) : mm_Mem := mm_cp (mm_cp (mm_cp (mm_cp (mm_cp (mm_cp h (u + 1) (v + 1) 6) (u + 2) (v + 2) 72) (u + 3) (v + 3) 72) (u + 4) (v + 4) 72) (u + 5) (v + 5) 72) (u + 6) (v + 6) 3
theorem sp_V_copyFrom {h : mm_Mem} {v u : Nat} (hv : v = 1 ∨ v = 8) (hu : u = 1 ∨ u = 8) : mm_SV Γ smM_V_copyFrom [.ref (mm_B Γ + v), .ref (mm_B Γ + u)] h (fun h' => h' = cV h v u) := by
  refine smr_V_copyFrom hv hu (fun h1 e1 h2 e2 h3 e3 h4 e4 h5 e5 h6 e6 => ?_)
  rw [e6, e5, e4, e3, e2, e1]
  rfl
theorem cV_ne {h : mm_Mem} {v u q : Nat} (hq : ¬ (v < q ∧ q ≤ v + 6)) : cV h v u q = h q := by
  unfold cV
  simp (disch := omega) only [mc_ne]
theorem cV_row {h : mm_Mem} {v u : Nat} (hvu : v = 1 ∧ u = 8 ∨ v = 8 ∧ u = 1) : (∀ p, p < 6 → cV h v u (v + 1) p = h (u + 1) p) ∧ (∀ w, w < 72 → cV h v u (v + 2) w = h (u + 2) w ∧ cV h v u (v + 3) w = h (u + 3) w ∧ cV h v u (v + 4) w = h (u + 4) w ∧ cV h v u (v + 5) w = h (u + 5) w) ∧ (∀ t, t < 3 → cV h v u (v + 6) t = h (u + 6) t) := by
  unfold cV
  refine ⟨fun p hp => ?_, fun w hw => ⟨?_, ?_, ?_, ?_⟩, fun t ht => ?_⟩
  · rw [mc_ne (by omega), mc_ne (by omega), mc_ne (by omega), mc_ne (by omega), mc_ne (by omega), mc_at, if_pos hp]
  · rw [mc_ne (by omega), mc_ne (by omega), mc_ne (by omega), mc_ne (by omega), mc_at, if_pos hw, mc_ne (by omega)]
  · rw [mc_ne (by omega), mc_ne (by omega), mc_ne (by omega), mc_at, if_pos hw, mc_ne (by omega), mc_ne (by omega)]
  · rw [mc_ne (by omega), mc_ne (by omega), mc_at, if_pos hw, mc_ne (by omega), mc_ne (by omega), mc_ne (by omega)]
  · rw [mc_ne (by omega), mc_at, if_pos hw, mc_ne (by omega), mc_ne (by omega), mc_ne (by omega), mc_ne (by omega)]
  · rw [mc_at, if_pos ht, mc_ne (by omega), mc_ne (by omega), mc_ne (by omega), mc_ne (by omega), mc_ne (by omega)]
theorem Rel_reset {h : mm_Mem} (hR : Rel h) (hst : h 0 8 = 0) : Rel (aM (cpM (cpM (cpM (aR (cV h 8 1) 3) 65 0 288 288) 66 0 6 6) 67 0 3 3) 3) := by
  obtain ⟨-, ⟨-, b1, b2, b3, -⟩⟩ := id hR
  obtain ⟨r1, r2, r3⟩ := cV_row (h := h) (v := 8) (u := 1) (Or.inr ⟨rfl, rfl⟩)
  generalize e2 : aM (cpM (cpM (cpM (aR (cV h 8 1) 3) 65 0 288 288) 66 0 6 6) 67 0 3 3) 3 = h2
  have ec : ∀ q, ¬ (9 ≤ q ∧ q ≤ 14) → ¬ (16 ≤ q ∧ q ≤ 19) → ¬ (65 ≤ q ∧ q ≤ 69) → h2 q = h q := fun q h1 h2 h3 => by
    rw [← e2]
    simp (disch := omega) only [aM_ne, cpM_ne, aR_ne, cV_ne]
  have ed : ∀ q, 9 ≤ q → q ≤ 14 → h2 q = cV h 8 1 q := fun q h1 h2 => by
    rw [← e2]
    simp (disch := omega) only [aM_ne, cpM_ne, aR_ne]
  have ez : ∀ q j, (q = 17 ∨ q = 18 ∨ q = 19) ∧ j < 12 ∨ q = 16 ∧ j < 3 → h2 q j = 0 := fun q j hq => by
    rw [← e2, aM_ne (by omega), cpM_ne (by omega), cpM_ne (by omega), cpM_ne (by omega), aR_in hq]
  have fz : ∀ q j, q = 68 ∧ j < 36 ∨ q = 69 ∧ j < 3 → h2 q j = 0 := fun q j hq => by
    rw [← e2, aM_in hq]
  have f65 : ∀ j, j < 288 → h2 65 j = h 65 j := fun j hj => by
    rw [← e2, aM_ne (by omega), cpM_ne (by omega), cpM_ne (by omega), cpM_out (by omega), aR_ne (by omega), cV_ne (by omega)]
  have f65' : ∀ i, i < 288 → h2 65 (288 + i) = h 65 i := fun i hi => by
    rw [← e2, aM_ne (by omega), cpM_ne (by omega), cpM_ne (by omega), cpM_in hi, aR_ne (by omega), cV_ne (by omega), Nat.zero_add]
  have f66 : ∀ j, j < 6 → h2 66 j = h 66 j := fun j hj => by
    rw [← e2, aM_ne (by omega), cpM_ne (by omega), cpM_out (by omega), cpM_ne (by omega), aR_ne (by omega), cV_ne (by omega)]
  have f66' : ∀ i, i < 6 → h2 66 (6 + i) = h 66 i := fun i hi => by
    rw [← e2, aM_ne (by omega), cpM_ne (by omega), cpM_in hi, cpM_ne (by omega), aR_ne (by omega), cV_ne (by omega), Nat.zero_add]
  have f67 : ∀ j, j < 3 → h2 67 j = h 67 j := fun j hj => by
    rw [← e2, aM_ne (by omega), cpM_out (by omega), cpM_ne (by omega), cpM_ne (by omega), aR_ne (by omega), cV_ne (by omega)]
  have f67' : ∀ i, i < 3 → h2 67 (3 + i) = h 67 i := fun i hi => by
    rw [← e2, aM_ne (by omega), cpM_in hi, cpM_ne (by omega), cpM_ne (by omega), aR_ne (by omega), cV_ne (by omega), Nat.zero_add]
  obtain ⟨c1, c2, c3⟩ := b1
  simp only [Nat.zero_add] at c1 c2 c3
  refine Rel_draft hR hst (fun q _ _ => ec q (by omega) (by omega) (by omega)) (fun q _ _ => ec q (by omega) (by omega) (by omega)) ⟨fun p' hp' => ?_, fun t' ht' => ?_⟩ ⟨fun r hr => ?_, fun t' f ht' hf hw => ?_, fun t' ht' => ?_⟩ ⟨fun p' hp' => ?_, fun w hw => ?_, fun t' ht' => ?_⟩ ⟨fun p' hp' => ?_, fun w hw => ?_, fun t' ht' => ?_⟩ ⟨fun r hr => ?_, fun t' ht' => ?_⟩
  · show rg (h2 9 p') 12
    rw [ed 9 (by omega) (by omega), r1 p' hp']
    exact hR.1.1.1.1 p' hp'
  · show rg (h2 14 t') 4
    rw [ed 14 (by omega) (by omega), r3 t' ht']
    exact hR.1.1.1.2 t' ht'
  · rw [ez 17 r (by omega), ez 18 r (by omega)]
    exact ⟨rg_0 _, rg_0 _⟩
  · exact ⟨ez 17 _ (by omega), ez 18 _ (by omega), ez 19 _ (by omega)⟩
  · refine ⟨Or.inl (ez 16 t' (by omega)), fun _ => ⟨?_, fun f hf => ⟨ez 17 _ (by omega), ez 18 _ (by omega), ez 19 _ (by omega)⟩⟩⟩
    rw [ec 7 (by omega) (by omega) (by omega), ed 14 (by omega) (by omega), r3 t' ht']
  · show h2 66 (0 + p') = h2 2 p'
    rw [ec 2 (by omega) (by omega) (by omega), f66 _ (by omega), Nat.zero_add]
    exact c1 p' hp'
  · show h2 65 (0 + 4 * w) = h2 3 w ∧ h2 65 (0 + 4 * w + 1) = h2 4 w ∧ h2 65 (0 + 4 * w + 2) = h2 5 w ∧ h2 65 (0 + 4 * w + 3) = h2 6 w
    rw [ec 3 (by omega) (by omega) (by omega), ec 4 (by omega) (by omega) (by omega), ec 5 (by omega) (by omega) (by omega), ec 6 (by omega) (by omega) (by omega), Nat.zero_add, f65 _ (by omega), f65 _ (by omega), f65 _ (by omega), f65 _ (by omega)]
    exact c2 w hw
  · show h2 67 (0 + t') = h2 7 t'
    rw [ec 7 (by omega) (by omega) (by omega), f67 _ (by omega), Nat.zero_add]
    exact c3 t' ht'
  · show h2 66 (6 + p') = h2 9 p'
    rw [f66' p' hp', ed 9 (by omega) (by omega), r1 p' hp']
    exact c1 p' hp'
  · show h2 65 (288 + 4 * w) = h2 10 w ∧ h2 65 (288 + 4 * w + 1) = h2 11 w ∧ h2 65 (288 + 4 * w + 2) = h2 12 w ∧ h2 65 (288 + 4 * w + 3) = h2 13 w
    obtain ⟨q1, q2, q3, q4⟩ := r2 w hw
    rw [ed 10 (by omega) (by omega), ed 11 (by omega) (by omega), ed 12 (by omega) (by omega), ed 13 (by omega) (by omega), q1, q2, q3, q4, show 288 + 4 * w + 1 = 288 + (4 * w + 1) by omega, show 288 + 4 * w + 2 = 288 + (4 * w + 2) by omega, show 288 + 4 * w + 3 = 288 + (4 * w + 3) by omega, f65' _ (by omega), f65' _ (by omega), f65' _ (by omega), f65' _ (by omega)]
    exact c2 w hw
  · show h2 67 (3 + t') = h2 14 t'
    rw [f67' t' ht', ed 14 (by omega) (by omega), r3 t' ht']
    exact c3 t' ht'
  · rw [ez 17 r (by omega), ez 18 r (by omega), ez 19 r (by omega), fz 68 _ (by omega), fz 68 _ (by omega), fz 68 _ (by omega)]
    exact ⟨rfl, rfl, rfl⟩
  · rw [fz 69 t' (by omega), ez 16 t' (by omega)]
theorem sp_M_reset {h : mm_Mem} (h5 : h 64 5 = 0) : mm_SI Γ smM_M_reset [.ref (mm_B Γ + 64)] h (fun r h' => r = 1 ∧ h' = aM (cpM (cpM (cpM h 65 0 288 288) 66 0 6 6) 67 0 3 3) 3) := by
  generalize hp : (fun (r : Int32) (h' : mm_Mem) => r = 1 ∧ h' = aM (cpM (cpM (cpM h 65 0 288 288) 66 0 6 6) 67 0 3 3) 3) = post
  have l3 : ∀ d k, k + d = 3 → mm_W Γ smM_M_reset (mm_pI post) 71 [some (.ref (mm_B Γ + 64)), some (.int (nI k))] [] (cpM (cpM (cpM h 65 0 288 288) 66 0 6 6) 67 0 3 k) := by
    intro d
    induction d with
    | zero =>
      intro k hk
      obtain rfl : k = 3 := by omega
      refine smr_M_reset_71 _ (br_t (by decide) (us_v sp_M_settle ?_))
      rw [← hp]
      exact ⟨rfl, rfl⟩
    | succ d ih =>
      intro k hk
      refine smr_M_reset_71 _ (br_f (nI_ge (a := k) (b := 3) (by omega) (by omega)) ⟨vp_in_nI (by omega) (by decide), ?_⟩)
      rw [show (3 : Int32) + nI k = nI (3 + k) from nI_add 3 k, nI_clamp (n := 3 + k) (by omega), nI_clamp (n := k) (by omega)]
      refine ⟨vp_in_nI (by omega) (by decide), fun h1 e1 => ?_⟩
      have e := cpM_s (h := cpM (cpM h 65 0 288 288) 66 0 6 6) (row := 67) (s := 0) (d := 3) (k := k) (by omega)
      rw [Nat.zero_add] at e
      rw [e1, e, nI_1]
      exact ih (k + 1) (by omega)
  have l2 : ∀ d k, k + d = 6 → mm_W Γ smM_M_reset (mm_pI post) 42 [some (.ref (mm_B Γ + 64)), some (.int (nI k))] [] (cpM (cpM h 65 0 288 288) 66 0 6 k) := by
    intro d
    induction d with
    | zero =>
      intro k hk
      obtain rfl : k = 6 := by omega
      refine smr_M_reset_42 _ (br_t (by decide) ?_)
      have := l3 3 0 rfl
      rw [cpM_0] at this
      exact this
    | succ d ih =>
      intro k hk
      refine smr_M_reset_42 _ (br_f (nI_ge (a := k) (b := 6) (by omega) (by omega)) ⟨vp_in_nI (by omega) (by decide), ?_⟩)
      rw [show (6 : Int32) + nI k = nI (6 + k) from nI_add 6 k, nI_clamp (n := 6 + k) (by omega), nI_clamp (n := k) (by omega)]
      refine ⟨vp_in_nI (by omega) (by decide), fun h1 e1 => ?_⟩
      have e := cpM_s (h := cpM h 65 0 288 288) (row := 66) (s := 0) (d := 6) (k := k) (by omega)
      rw [Nat.zero_add] at e
      rw [e1, e, nI_1]
      exact ih (k + 1) (by omega)
  have l1 : ∀ d k, k + d = 288 → mm_W Γ smM_M_reset (mm_pI post) 11 [some (.ref (mm_B Γ + 64)), some (.int (nI k))] [] (cpM h 65 0 288 k) := by
    intro d
    induction d with
    | zero =>
      intro k hk
      obtain rfl : k = 288 := by omega
      refine smr_M_reset_11 _ (br_t (by decide) ?_)
      have := l2 6 0 rfl
      rw [cpM_0] at this
      exact this
    | succ d ih =>
      intro k hk
      refine smr_M_reset_11 _ (br_f (nI_ge (a := k) (b := 288) (by omega) (by omega)) ⟨vp_in_nI (by omega) (by decide), ?_⟩)
      rw [show (288 : Int32) + nI k = nI (288 + k) from nI_add 288 k, nI_clamp (n := 288 + k) (by omega), nI_clamp (n := k) (by omega)]
      refine ⟨vp_in_nI (by omega) (by decide), fun h1 e1 => ?_⟩
      have e := cpM_s (h := h) (row := 65) (s := 0) (d := 288) (k := k) (by omega)
      rw [Nat.zero_add] at e
      rw [e1, e, nI_1]
      exact ih (k + 1) (by omega)
  have := l1 288 0 rfl
  rw [cpM_0] at this
  exact smr_M_reset (br_t h5 this)
theorem pr_reset : mm_pair Γ Rel smM_S_reset smM_M_reset [] := by
  intro h hR
  have e5 : h 64 5 = h 0 8 := hR.2.1.1
  refine smr_S_reset ⟨fun a => ?_, fun a => ?_⟩
  · refine us_v (sp_V_copyFrom (Or.inr rfl) (Or.inl rfl)) (us_v sp_R_forgetAll ?_)
    refine mm_SI_mono (sp_M_reset ?_) (fun r h' q => ?_)
    · rw [aR_ne (by omega), cV_ne (by omega), e5, a]
    · obtain ⟨rfl, rfl⟩ := q
      exact ⟨rfl, Rel_reset hR a⟩
  · exact smr_M_reset (br_f (by rw [e5]; exact a) ⟨rfl, hR⟩)
end RS
