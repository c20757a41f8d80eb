section DR
variable {Γ : mm_Ctx}
theorem mw_hit {h : mm_Mem} {q i : Nat} {x : Int32} : mm_wr h q i x q i = x := by
  rw [mw_at, if_pos ⟨rfl, rfl⟩]
theorem mw_miss {h : mm_Mem} {q i q' j : Nat} {x : Int32} (hne : ¬ (q' = q ∧ j = i)) : mm_wr h q i x q' j = h q' j := by
  rw [mw_at, if_neg hne]
theorem us_v {M : mm_MD} {av : List Value} {h h1 : mm_Mem} {X : mm_Mem → Prop} (sp : mm_SV Γ M av h (fun h' => h' = h1)) (k : X h1) : mm_SV Γ M av h X :=
  mm_SV_mono sp (fun h' q => by
    subst q
    exact k)
/-- only the flag is changed -/
theorem Rel_flag {h : mm_Mem} (hR : Rel h) {x : Int32} (hx : x = 0 ∨ (x = 1 ∧ okV h 8 ∧ srcOK h)) : Rel (mm_wr (mm_wr h 0 8 x) 64 5 x) := by
  obtain ⟨⟨⟨k1, k2⟩, k3, k4, k5, k6, n, k7⟩, ⟨a1, a2, a3⟩, b2, b3, b4, b5, b6, b7⟩ := hR
  have e : ∀ q, ¬ q = 0 → ¬ q = 64 → mm_wr (mm_wr h 0 8 x) 64 5 x q = h q := by
    intro q h1 h2
    rw [mw_ne h2, mw_ne h1]
  have e8 : mm_wr (mm_wr h 0 8 x) 64 5 x 0 8 = x := by rw [mw_miss (by omega), mw_hit]
  have e7 : mm_wr (mm_wr h 0 8 x) 64 5 x 0 7 = h 0 7 := by rw [mw_miss (by omega), mw_miss (by omega)]
  have e6 : mm_wr (mm_wr h 0 8 x) 64 5 x 0 6 = h 0 6 := by rw [mw_miss (by omega), mw_miss (by omega)]
  have f5 : mm_wr (mm_wr h 0 8 x) 64 5 x 64 5 = x := mw_hit
  have f6 : mm_wr (mm_wr h 0 8 x) 64 5 x 64 6 = h 64 6 := by rw [mw_miss (by omega), mw_miss (by omega)]
  have f12 : mm_wr (mm_wr h 0 8 x) 64 5 x 64 12 = h 64 12 := by rw [mw_miss (by omega), mw_miss (by omega)]
  generalize mm_wr (mm_wr h 0 8 x) 64 5 x = h2 at *
  refine ⟨⟨⟨Iv_congr (e _ (by omega) (by omega)) (e _ (by omega) (by omega)) k1, okV_congr (fun q _ _ => e q (by omega) (by omega)) k2⟩, Iv_congr (e _ (by omega) (by omega)) (e _ (by omega) (by omega)) k3, ⟨?_, fun h1 => ?_⟩, Irul_congr (e _ (by omega) (by omega)) (e _ (by omega) (by omega)) (e _ (by omega) (by omega)) (e _ (by omega) (by omega)) (e _ (by omega) (by omega)) (e _ (by omega) (by omega)) k5, Iheap_congr (e _ (by omega) (by omega)) (e _ (by omega) (by omega)) (e _ (by omega) (by omega)) k6, n, Itasks_congr e6 (e _ (by omega) (by omega)) (fun q _ _ => e q (by omega) (by omega)) k7⟩, ⟨f5.trans e8.symm, by rw [f6, e7]; exact a2, by rw [f12, e6]; exact a3⟩, Lver_congr (fun q _ _ => e q (by omega) (by omega)) (e _ (by omega) (by omega)) (e _ (by omega) (by omega)) (e _ (by omega) (by omega)) b2, Lver_congr (fun q _ _ => e q (by omega) (by omega)) (e _ (by omega) (by omega)) (e _ (by omega) (by omega)) (e _ (by omega) (by omega)) b3, Lrul_congr (e _ (by omega) (by omega)) (e _ (by omega) (by omega)) (e _ (by omega) (by omega)) (e _ (by omega) (by omega)) (e _ (by omega) (by omega)) (e _ (by omega) (by omega)) b4, Lglob_congr (e _ (by omega) (by omega)) (e _ (by omega) (by omega)) b5, Lheap_congr (e _ (by omega) (by omega)) (e _ (by omega) (by omega)) (e _ (by omega) (by omega)) (e _ (by omega) (by omega)) (e _ (by omega) (by omega)) b6, fun i hi => Ltask_congr (fun j _ => e _ (by omega) (by omega)) (e _ (by omega) (by omega)) (e _ (by omega) (by omega)) (e _ (by omega) (by omega)) (e _ (by omega) (by omega)) (e _ (by omega) (by omega)) (e _ (by omega) (by omega)) (b7 i hi)⟩
  · rw [e8]
    rcases hx with hx | hx
    · exact Or.inl hx
    · exact Or.inr hx.1
  · rw [e8] at h1
    rcases hx with hx | hx
    · rw [h1] at hx
      exact absurd hx (by decide)
    · exact ⟨okV_congr (fun q _ _ => e q (by omega) (by omega)) hx.2.1, srcOK_congr (e _ (by omega) (by omega)) (e _ (by omega) (by omega)) (e _ (by omega) (by omega)) (e _ (by omega) (by omega)) hx.2.2⟩
theorem pr_withdraw : mm_pair Γ Rel smM_S_withdraw smM_M_withdraw [] := by
  intro h hR
  refine smr_S_withdraw (fun y ey h1 e1 => ⟨?_, ?_⟩)
  · rw [ey]
    exact hR.1.2.2.1.1
  · refine smr_M_withdraw (fun y' ey' h2 e2 => ⟨?_, ?_, ?_⟩)
    · rw [ey', e1, mw_miss (by omega), hR.2.1.1]
      exact hR.1.2.2.1.1
    · rw [ey, ey', e1, mw_miss (by omega), hR.2.1.1]
    · rw [e2, e1]
      exact Rel_flag hR (Or.inl rfl)
/-- the draft and its rules are changed, and nothing else -/
theorem Rel_draft {h h2 : mm_Mem} (hR : Rel h) (hst : h 0 8 = 0) (ec : ∀ q, q < 64 → (q ≤ 8 ∨ q = 15 ∨ 20 ≤ q) → h2 q = h q) (er : ∀ q, 64 ≤ q → (q = 64 ∨ 70 ≤ q) → h2 q = h q) (a1 : Iv h2 8) (a2 : Irul h2) (b1 : Lver h2 h2 1 0 0 0) (b2 : Lver h2 h2 8 288 6 3) (b3 : Lrul h2 h2) : Rel h2 := by
  obtain ⟨⟨⟨k1, k2⟩, k3, k4, k5, k6, n, k7⟩, ⟨c1, c2, c3⟩, -, -, -, d5, d6, d7⟩ := hR
  have e0 : h2 0 = h 0 := ec 0 (by omega) (by omega)
  have f0 : h2 64 = h 64 := er 64 (by omega) (by omega)
  refine ⟨⟨⟨Iv_congr (ec _ (by omega) (by omega)) (ec _ (by omega) (by omega)) k1, okV_congr (fun q _ _ => ec q (by omega) (by omega)) k2⟩, a1, ⟨by rw [e0]; exact k4.1, fun h1 => ?_⟩, a2, Iheap_congr (ec _ (by omega) (by omega)) (ec _ (by omega) (by omega)) (ec _ (by omega) (by omega)) k6, n, Itasks_congr (by rw [e0]) (ec _ (by omega) (by omega)) (fun q _ _ => ec q (by omega) (by omega)) k7⟩, ⟨by rw [e0, f0]; exact c1, by rw [e0, f0]; exact c2, by rw [e0, f0]; exact c3⟩, b1, b2, b3, Lglob_congr (ec _ (by omega) (by omega)) (er _ (by omega) (by omega)) d5, Lheap_congr (ec _ (by omega) (by omega)) (ec _ (by omega) (by omega)) (ec _ (by omega) (by omega)) (er _ (by omega) (by omega)) (er _ (by omega) (by omega)) d6, fun i hi => Ltask_congr (fun j _ => ec _ (by omega) (by omega)) (er _ (by omega) (by omega)) (er _ (by omega) (by omega)) (er _ (by omega) (by omega)) (er _ (by omega) (by omega)) (er _ (by omega) (by omega)) (er _ (by omega) (by omega)) (d7 i hi)⟩
  rw [e0, hst] at h1
  exact absurd h1 (by decide)
theorem pr_cut (x0 x1 : Int32) : mm_pair Γ Rel smM_S_cut smM_M_cut [.int x0, .int x1] := by
  intro h hR
  have e5 : h 64 5 = h 0 8 := hR.2.1.1
  refine smr_S_cut _ _ (us_br (sp_within 6 rfl (by decide)) (fun hp => ?_) (fun hp => ?_))
  · obtain ⟨p, hp6, rfl, ep⟩ := vin_of hp (by decide)
    obtain ⟨l, hl, el⟩ := hR.1.2.1.1 p hp6
    have el9 : h 9 p = nI l := el
    have e66 : h 66 (6 + nI p).toNatClampNeg = nI l := by
      rw [show (6 : Int32) + nI p = nI (6 + p) from nI_add 6 p, nI_clamp (by omega), hR.2.2.2.1.1 p hp6]
      exact el
    have v66 : vp_in (6 + nI p) 12 := by
      rw [show (6 : Int32) + nI p = nI (6 + p) from nI_add 6 p]
      exact vp_in_nI (by omega) (by decide)
    rw [ep, el9]
    have bad : x1 < 0 ∨ nI l < x1 ∨ ¬ h 0 8 = 0 → mm_SI Γ smM_M_cut [.ref (mm_B Γ + 64), .int (nI p), .int x1] h (fun r2 h2 => 0 = r2 ∧ Rel h2) := by
      intro hb
      refine smr_M_cut _ _ (us_br sp_M_isProcedure (fun _ => ?_) (fun q => absurd hp q))
      rw [e66, e5]
      refine ⟨fun _ => ⟨rfl, hR⟩, fun a => ⟨v66, fun _ => ⟨rfl, hR⟩, fun b => ⟨fun c => ?_, fun _ => ⟨rfl, hR⟩⟩⟩⟩
      rcases hb with hb | hb | hb
      · exact absurd hb a
      · exact absurd hb b
      · exact absurd c hb
    refine ⟨fun a => bad (Or.inl a), fun a => ⟨hp, fun b => bad (Or.inr (Or.inl b)), fun b => ⟨fun c => ⟨hp, fun h1 e1 => ?_⟩, fun c => bad (Or.inr (Or.inr c))⟩⟩⟩
    obtain ⟨i, hi, rfl⟩ := nI_of2 (n := l) (nI_toInt (by omega)) a (Int32.not_lt.mp b)
    have u66 : h1 66 (6 + nI p).toNatClampNeg = nI l := by rw [e1, mw_ne (by omega), e66]
    have u5 : h1 64 5 = 0 := by rw [e1, mw_ne (by omega), e5, c]
    refine smr_M_cut _ _ (us_br sp_M_isProcedure (fun _ => ?_) (fun q => absurd hp q))
    rw [u66, u5]
    refine br_f a ⟨v66, br_f b (br_t rfl ⟨v66, fun h2 e2 => ⟨rfl, ?_⟩⟩)⟩
    rw [show (6 : Int32) + nI p = nI (6 + p) from nI_add 6 p, nI_clamp (by omega), e1] at e2
    obtain ⟨-, ⟨-, b1, b2, b3, -⟩⟩ := id hR
    have ec : ∀ q, ¬ q = 9 → ¬ q = 66 → h2 q = h q := fun q h1 h2 => by rw [e2, mw_ne h2, mw_ne h1]
    refine Rel_draft hR c (fun q _ _ => ec q (by omega) (by omega)) (fun q _ _ => ec q (by omega) (by omega)) ⟨fun p' hp' => ?_, fun t ht => ?_⟩ (Irul_congr (ec _ (by omega) (by omega)) (ec _ (by omega) (by omega)) (ec _ (by omega) (by omega)) (ec _ (by omega) (by omega)) (ec _ (by omega) (by omega)) (ec _ (by omega) (by omega)) hR.1.2.2.2.1) ⟨fun p' hp' => ?_, ?_, ?_⟩ ⟨fun p' hp' => ?_, ?_, ?_⟩ (Lrul_congr (ec _ (by omega) (by omega)) (ec _ (by omega) (by omega)) (ec _ (by omega) (by omega)) (ec _ (by omega) (by omega)) (ec _ (by omega) (by omega)) (ec _ (by omega) (by omega)) b3)
    · show rg (h2 9 p') 12
      rw [e2, mw_miss (by omega)]
      by_cases hpp : p' = p
      · subst hpp
        rw [mw_hit]
        exact ⟨i, by omega, rfl⟩
      · rw [mw_miss (by omega)]
        exact hR.1.2.1.1 p' hp'
    · show rg (h2 14 t) 4
      rw [ec 14 (by omega) (by omega)]
      exact hR.1.2.1.2 t ht
    · show h2 66 (0 + p') = h2 2 p'
      rw [ec 2 (by omega) (by omega), e2, mw_miss (by omega), mw_miss (by omega)]
      exact b1.1 p' hp'
    · show ∀ w, w < 72 → h2 65 (0 + 4 * w) = h2 3 w ∧ h2 65 (0 + 4 * w + 1) = h2 4 w ∧ h2 65 (0 + 4 * w + 2) = h2 5 w ∧ h2 65 (0 + 4 * w + 3) = h2 6 w
      rw [ec 65 (by omega) (by omega), ec 3 (by omega) (by omega), ec 4 (by omega) (by omega), ec 5 (by omega) (by omega), ec 6 (by omega) (by omega)]
      exact b1.2.1
    · show ∀ t, t < 3 → h2 67 (0 + t) = h2 7 t
      rw [ec 67 (by omega) (by omega), ec 7 (by omega) (by omega)]
      exact b1.2.2
    · show h2 66 (6 + p') = h2 9 p'
      by_cases hpp : p' = p
      · subst hpp
        rw [e2, mw_hit, mw_miss (by omega), mw_hit]
      · rw [e2, mw_miss (by omega), mw_miss (by omega), mw_miss (by omega), mw_miss (by omega)]
        exact b2.1 p' hp'
    · show ∀ w, w < 72 → h2 65 (288 + 4 * w) = h2 10 w ∧ h2 65 (288 + 4 * w + 1) = h2 11 w ∧ h2 65 (288 + 4 * w + 2) = h2 12 w ∧ h2 65 (288 + 4 * w + 3) = h2 13 w
      rw [ec 65 (by omega) (by omega), ec 10 (by omega) (by omega), ec 11 (by omega) (by omega), ec 12 (by omega) (by omega), ec 13 (by omega) (by omega)]
      exact b2.2.1
    · show ∀ t, t < 3 → h2 67 (3 + t) = h2 14 t
      rw [ec 67 (by omega) (by omega), ec 14 (by omega) (by omega)]
      exact b2.2.2
  · exact smr_M_cut _ _ (us_br sp_M_isProcedure (fun q => absurd q hp) (fun _ => ⟨rfl, hR⟩))
end DR
