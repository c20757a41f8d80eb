section RU
variable {Γ : mm_Ctx}
def zR (h : mm_Mem) (lo hi : Nat) : mm_Mem := fun q j => if (q = 17 ∨ q = 18 ∨ q = 19) ∧ lo ≤ j ∧ j < hi then 0 else h q j
def zM (h : mm_Mem) (lo hi : Nat) : mm_Mem := fun q j => if q = 68 ∧ lo ≤ j ∧ j < hi then 0 else h q j
theorem zR_in {h : mm_Mem} {lo hi q j : Nat} (hq : q = 17 ∨ q = 18 ∨ q = 19) (h1 : lo ≤ j) (h2 : j < hi) : zR h lo hi q j = 0 := if_pos ⟨hq, h1, h2⟩
theorem zR_out {h : mm_Mem} {lo hi q j : Nat} (hq : ¬ ((q = 17 ∨ q = 18 ∨ q = 19) ∧ lo ≤ j ∧ j < hi)) : zR h lo hi q j = h q j := if_neg hq
theorem zM_in {h : mm_Mem} {lo hi j : Nat} (h1 : lo ≤ j) (h2 : j < hi) : zM h lo hi 68 j = 0 := if_pos ⟨rfl, h1, h2⟩
theorem zM_out {h : mm_Mem} {lo hi q j : Nat} (hq : ¬ (q = 68 ∧ lo ≤ j ∧ j < hi)) : zM h lo hi q j = h q j := if_neg hq
theorem zR_ne {h : mm_Mem} {lo hi q : Nat} (hq : ¬ (q = 17 ∨ q = 18 ∨ q = 19)) : zR h lo hi q = h q := by
  funext j
  exact zR_out (fun z => hq z.1)
theorem zM_ne {h : mm_Mem} {lo hi q : Nat} (hq : ¬ q = 68) : zM h lo hi q = h q := by
  funext j
  exact zM_out (fun z => hq z.1)
theorem zR_0 {h : mm_Mem} {lo : Nat} : zR h lo lo = h := by
  funext q j
  exact zR_out (by omega)
theorem zM_0 {h : mm_Mem} {lo : Nat} : zM h lo lo = h := by
  funext q j
  exact zM_out (by omega)
theorem zR_s {h : mm_Mem} {lo r : Nat} (hr : lo ≤ r) : mm_wr (mm_wr (mm_wr (zR h lo r) 17 r 0) 18 r 0) 19 r 0 = zR h lo (r + 1) := by
  funext q j
  simp only [mw_at, zR]
  repeat' split
  all_goals first | rfl | (exfalso; omega)
theorem zM_s {h : mm_Mem} {lo r : Nat} (hr : lo ≤ r) : mm_wr (zM h lo r) 68 r 0 = zM h lo (r + 1) := by
  funext q j
  simp only [mw_at, zM]
  repeat' split
  all_goals first | rfl | (exfalso; omega)
theorem sp_R_write {h : mm_Mem} {t f : Nat} (ht : t < 3) (hf : f < 4) (k fr x : Int32) : mm_SV Γ smM_R_write [.ref (mm_B Γ + 15), .int (nI t), .int (nI f), .int k, .int fr, .int x] h (fun h' => h' = mm_wr (mm_wr (mm_wr h 17 (4 * t + f) k) 18 (4 * t + f) fr) 19 (4 * t + f) x) := by
  refine smr_R_write _ _ _ _ _ (fun y ey => ?_)
  have ey' : y = nI (4 * t + f) := by
    rw [ey]
    show nI t * nI 4 + nI f = _
    rw [pk_mul, nI_add, Nat.mul_comm]
  subst ey'
  rw [nI_clamp (by omega)]
  refine ⟨vp_in_nI (by omega) (by decide), fun h1 e1 => ⟨vp_in_nI (by omega) (by decide), fun h2 e2 => ⟨vp_in_nI (by omega) (by decide), fun h3 e3 => ?_⟩⟩⟩
  rw [e3, e2, e1]
theorem sp_R_forgetType {h : mm_Mem} {t : Nat} (ht : t < 3) : mm_SV Γ smM_R_forgetType [.ref (mm_B Γ + 15), .int (nI t)] h (fun h' => h' = zR h (4 * t) (4 * t + 4)) := by
  have loop : ∀ d f, f + d = 4 → mm_W Γ smM_R_forgetType (mm_pV (fun h' => h' = zR h (4 * t) (4 * t + 4))) 2 [some (.ref (mm_B Γ + 15)), some (.int (nI t)), some (.int (nI f))] [] (zR h (4 * t) (4 * t + f)) := by
    intro d
    induction d with
    | zero =>
      intro f hf
      obtain rfl : f = 4 := by omega
      exact smr_R_forgetType_2 _ _ (br_t (by decide) rfl)
    | succ d ih =>
      intro f hf
      refine smr_R_forgetType_2 _ _ (br_f (nI_ge (a := f) (b := 4) (by omega) (by omega)) (us_v (sp_R_write ht (by omega) 0 0 0) ?_))
      rw [zR_s (by omega), nI_1]
      exact ih (f + 1) (by omega)
  have := loop 4 0 rfl
  rw [show zR h (4 * t) (4 * t + 0) = h from zR_0] at this
  exact smr_R_forgetType _ this
theorem sp_M_clearRules {h : mm_Mem} {t : Nat} (ht : t < 3) : mm_SV Γ smM_M_clearRules [.ref (mm_B Γ + 64), .int (nI t)] h (fun h' => h' = zM h (12 * t) (12 * t + 12)) := by
  have e12 : (12 : Int32) * nI t + 12 = nI (12 * t + 12) := by
    show nI 12 * nI t + nI 12 = _
    rw [pk_mul, nI_add]
  have loop : ∀ d f, f + d = 12 → mm_W Γ smM_M_clearRules (mm_pV (fun h' => h' = zM h (12 * t) (12 * t + 12))) 5 [some (.ref (mm_B Γ + 64)), some (.int (nI t)), some (.int (nI (12 * t + f)))] [] (zM h (12 * t) (12 * t + f)) := by
    intro d
    induction d with
    | zero =>
      intro f hf
      obtain rfl : f = 12 := by omega
      refine smr_M_clearRules_5 _ _ (br_t ?_ rfl)
      rw [e12]
      exact nI_le (Nat.le_refl _) (by omega)
    | succ d ih =>
      intro f hf
      refine smr_M_clearRules_5 _ _ (br_f ?_ ⟨vp_in_nI (by omega) (by decide), fun h1 e1 => ?_⟩)
      · rw [e12]
        exact nI_ge (by omega) (by omega)
      · rw [e1, nI_clamp (by omega), zM_s (by omega), nI_1]
        exact ih (f + 1) (by omega)
  refine smr_M_clearRules _ (fun y ey => ?_)
  have ey' : y = nI (12 * t) := by
    rw [ey]
    show nI 12 * nI t = _
    rw [pk_mul]
  subst ey'
  have := loop 12 0 rfl
  rw [show zM h (12 * t) (12 * t + 0) = h from zM_0] at this
  exact this
theorem Rel_fields {h : mm_Mem} (hR : Rel h) (hst : h 0 8 = 0) {t n : Nat} (ht : t < 3) (hn : n ≤ 4) : Rel (mm_wr (zM (mm_wr (mm_wr (zR (mm_wr h 14 t (nI n)) (4 * t) (4 * t + 4)) 16 t 1) 67 (3 + t) (nI n)) (12 * t) (12 * t + 12)) 69 t 1) := by
  obtain ⟨-, ⟨-, b1, b2, b3, -⟩⟩ := id hR
  obtain ⟨i1, i2, i3⟩ := hR.1.2.2.2.1
  generalize e2 : mm_wr (zM (mm_wr (mm_wr (zR (mm_wr h 14 t (nI n)) (4 * t) (4 * t + 4)) 16 t 1) 67 (3 + t) (nI n)) (12 * t) (12 * t + 12)) 69 t 1 = h2
  have ec : ∀ q, ¬ q = 14 → ¬ (16 ≤ q ∧ q ≤ 19) → ¬ (67 ≤ q ∧ q ≤ 69) → h2 q = h q := fun q h1 h2 h3 => by
    rw [← e2]
    simp (disch := omega) only [mw_ne, zM_ne, zR_ne]
  have ein : ∀ q j, q = 17 ∨ q = 18 ∨ q = 19 → 4 * t ≤ j → j < 4 * t + 4 → h2 q j = 0 := fun q j hq h1 h2 => by
    rw [← e2, mw_miss (by omega), zM_out (by omega), mw_miss (by omega), mw_miss (by omega), zR_in hq h1 h2]
  have eout : ∀ q j, q = 17 ∨ q = 18 ∨ q = 19 → ¬ (4 * t ≤ j ∧ j < 4 * t + 4) → h2 q j = h q j := fun q j hq h1 => by
    rw [← e2, mw_miss (by omega), zM_out (by omega), mw_miss (by omega), mw_miss (by omega), zR_out (by omega), mw_miss (by omega)]
  have fin : ∀ j, 12 * t ≤ j → j < 12 * t + 12 → h2 68 j = 0 := fun j h1 h2 => by
    rw [← e2, mw_miss (by omega), zM_in h1 h2]
  have fout : ∀ j, ¬ (12 * t ≤ j ∧ j < 12 * t + 12) → h2 68 j = h 68 j := fun j h1 => by
    rw [← e2, mw_miss (by omega), zM_out (by omega), mw_miss (by omega), mw_miss (by omega), zR_out (by omega), mw_miss (by omega)]
  have e14 : h2 14 t = nI n := by
    rw [← e2, mw_miss (by omega), zM_out (by omega), mw_miss (by omega), mw_miss (by omega), zR_out (by omega), mw_hit]
  have e14' : ∀ t', ¬ t' = t → h2 14 t' = h 14 t' := fun t' hne => by
    rw [← e2, mw_miss (by omega), zM_out (by omega), mw_miss (by omega), mw_miss (by omega), zR_out (by omega), mw_miss (by omega)]
  have e16 : h2 16 t = 1 := by
    rw [← e2, mw_miss (by omega), zM_out (by omega), mw_miss (by omega), mw_hit]
  have e16' : ∀ t', ¬ t' = t → h2 16 t' = h 16 t' := fun t' hne => by
    rw [← e2, mw_miss (by omega), zM_out (by omega), mw_miss (by omega), mw_miss (by omega), zR_out (by omega), mw_miss (by omega)]
  have f67 : h2 67 (3 + t) = nI n := by
    rw [← e2, mw_miss (by omega), zM_out (by omega), mw_hit]
  have f67' : ∀ j, ¬ j = 3 + t → h2 67 j = h 67 j := fun j hne => by
    rw [← e2, mw_miss (by omega), zM_out (by omega), mw_miss (by omega), mw_miss (by omega), zR_out (by omega), mw_miss (by omega)]
  have f69 : h2 69 t = 1 := by
    rw [← e2, mw_hit]
  have f69' : ∀ j, ¬ j = t → h2 69 j = h 69 j := fun j hne => by
    rw [← e2, mw_miss (by omega), zM_out (by omega), mw_miss (by omega), mw_miss (by omega), zR_out (by omega), mw_miss (by omega)]
  refine Rel_draft hR hst (fun q _ _ => ec q (by omega) (by omega) (by omega)) (fun q _ _ => ec q (by omega) (by omega) (by omega)) ⟨fun p' hp' => ?_, fun t' ht' => ?_⟩ ⟨fun r hr => ?_, fun t' f ht' hf hw => ?_, fun t' ht' => ?_⟩ ⟨?_, ?_, fun t' ht' => ?_⟩ ⟨?_, ?_, fun t' ht' => ?_⟩ ⟨fun r hr => ?_, fun t' ht' => ?_⟩
  · show rg (h2 9 p') 12
    rw [ec 9 (by omega) (by omega) (by omega)]
    exact hR.1.2.1.1 p' hp'
  · show rg (h2 14 t') 4
    by_cases hne : t' = t
    · subst hne
      rw [e14]
      exact ⟨n, hn, rfl⟩
    · rw [e14' t' hne]
      exact hR.1.2.1.2 t' ht'
  · by_cases hin : 4 * t ≤ r ∧ r < 4 * t + 4
    · rw [ein 17 r (by omega) hin.1 hin.2, ein 18 r (by omega) hin.1 hin.2]
      exact ⟨rg_0 _, rg_0 _⟩
    · rw [eout 17 r (by omega) hin, eout 18 r (by omega) hin]
      exact i1 r hr
  · unfold zr
    by_cases hne : t' = t
    · subst hne
      exact ⟨ein 17 _ (by omega) (by omega) (by omega), ein 18 _ (by omega) (by omega) (by omega), ein 19 _ (by omega) (by omega) (by omega)⟩
    · rw [eout 17 _ (by omega) (by omega), eout 18 _ (by omega) (by omega), eout 19 _ (by omega) (by omega)]
      rw [e14' t' hne] at hw
      exact i2 t' f ht' hf hw
  · by_cases hne : t' = t
    · subst hne
      rw [e16]
      exact ⟨Or.inr rfl, fun q => absurd q (by decide)⟩
    · rw [e16' t' hne, ec 7 (by omega) (by omega) (by omega), e14' t' hne]
      refine ⟨(i3 t' ht').1, fun q => ⟨((i3 t' ht').2 q).1, fun f hf => ?_⟩⟩
      unfold zr
      rw [eout 17 _ (by omega) (by omega), eout 18 _ (by omega) (by omega), eout 19 _ (by omega) (by omega)]
      exact ((i3 t' ht').2 q).2 f hf
  · show ∀ p, p < 6 → h2 66 (0 + p) = h2 2 p
    rw [ec 66 (by omega) (by omega) (by omega), ec 2 (by omega) (by omega) (by omega)]
    exact b1.1
  · show ∀ w, w < 72 → h2 65 (0 + 4 * w) = h2 3 w ∧ h2 65 (0 + 4 * w + 1) = h2 4 w ∧ h2 65 (0 + 4 * w + 2) = h2 5 w ∧ h2 65 (0 + 4 * w + 3) = h2 6 w
    rw [ec 65 (by omega) (by omega) (by omega), ec 3 (by omega) (by omega) (by omega), ec 4 (by omega) (by omega) (by omega), ec 5 (by omega) (by omega) (by omega), ec 6 (by omega) (by omega) (by omega)]
    exact b1.2.1
  · show h2 67 (0 + t') = h2 7 t'
    rw [ec 7 (by omega) (by omega) (by omega), f67' _ (by omega)]
    exact b1.2.2 t' ht'
  · show ∀ p, p < 6 → h2 66 (6 + p) = h2 9 p
    rw [ec 66 (by omega) (by omega) (by omega), ec 9 (by omega) (by omega) (by omega)]
    exact b2.1
  · show ∀ w, w < 72 → h2 65 (288 + 4 * w) = h2 10 w ∧ h2 65 (288 + 4 * w + 1) = h2 11 w ∧ h2 65 (288 + 4 * w + 2) = h2 12 w ∧ h2 65 (288 + 4 * w + 3) = h2 13 w
    rw [ec 65 (by omega) (by omega) (by omega), ec 10 (by omega) (by omega) (by omega), ec 11 (by omega) (by omega) (by omega), ec 12 (by omega) (by omega) (by omega), ec 13 (by omega) (by omega) (by omega)]
    exact b2.2.1
  · show h2 67 (3 + t') = h2 14 t'
    by_cases hne : t' = t
    · subst hne
      rw [f67, e14]
    · rw [f67' _ (by omega), e14' t' hne]
      exact b2.2.2 t' ht'
  · by_cases hin : 4 * t ≤ r ∧ r < 4 * t + 4
    · rw [ein 17 r (by omega) hin.1 hin.2, ein 18 r (by omega) hin.1 hin.2, ein 19 r (by omega) hin.1 hin.2, fin _ (by omega) (by omega), fin _ (by omega) (by omega), fin _ (by omega) (by omega)]
      exact ⟨rfl, rfl, rfl⟩
    · rw [eout 17 r (by omega) hin, eout 18 r (by omega) hin, eout 19 r (by omega) hin, fout _ (by omega), fout _ (by omega), fout _ (by omega)]
      exact b3.1 r hr
  · by_cases hne : t' = t
    · subst hne
      rw [f69, e16]
    · rw [f69' t' hne, e16' t' hne]
      exact b3.2 t' ht'
theorem pr_fields (x0 x1 : Int32) : mm_pair Γ Rel smM_S_fields smM_M_fields [.int x0, .int x1] := by
  intro h hR
  have e5 : h 64 5 = h 0 8 := hR.2.1.1
  refine smr_S_fields _ _ (us_br (sp_within 3 rfl (by decide)) (fun hp => ?_) (fun hp => ?_))
  · obtain ⟨t, ht, rfl, et⟩ := vin_of hp (by decide)
    have e3 : (3 : Int32) + nI t = nI (3 + t) := nI_add 3 t
    have bad : x1 < 0 ∨ 4 < x1 ∨ ¬ h 0 8 = 0 → mm_SI Γ smM_M_fields [.ref (mm_B Γ + 64), .int (nI t), .int x1] h (fun r2 h2 => 0 = r2 ∧ Rel h2) := by
      intro hb
      refine smr_M_fields _ _ (us_br sp_M_isType (fun _ => ?_) (fun q => absurd hp q))
      rw [e5]
      refine ⟨fun _ => ⟨rfl, hR⟩, fun a => ⟨fun _ => ⟨rfl, hR⟩, fun b => ⟨fun c => ?_, fun _ => ⟨rfl, hR⟩⟩⟩⟩
      rcases hb with hb | hb | hb
      · exact absurd hb a
      · exact absurd hb b
      · exact absurd c hb
    rw [et]
    refine ⟨fun a => bad (Or.inl a), fun a => ⟨fun b => bad (Or.inr (Or.inl b)), fun b => ⟨fun c => ⟨hp, fun h1 e1 => ?_⟩, fun c => bad (Or.inr (Or.inr c))⟩⟩⟩
    obtain ⟨n, hn, rfl⟩ := nI_of2 (M := 4) (n := 4) (by decide) a (Int32.not_lt.mp b)
    refine us_v (sp_R_forgetType ht) ⟨hp, fun h3 e3' => ?_⟩
    refine smr_M_fields _ _ (us_br sp_M_isType (fun _ => ?_) (fun q => absurd hp q))
    have u5 : h3 64 5 = 0 := by rw [e3', mw_miss (by omega), zR_out (by omega), e1, mw_miss (by omega), e5, c]
    rw [u5, e3, nI_clamp (n := 3 + t) (by omega), et]
    refine br_f a (br_f b (br_t rfl ⟨vp_in_nI (by omega) (by decide), fun h4 e4 => us_v (sp_M_clearRules ht) ⟨hp, fun h5 e5' => ⟨rfl, ?_⟩⟩⟩))
    rw [e5', e4, e3', e1]
    exact Rel_fields hR c ht hn
  · exact smr_M_fields _ _ (us_br sp_M_isType (fun q => absurd q hp) (fun _ => ⟨rfl, hR⟩))
end RU
