section RL
variable {Γ : mm_Ctx}
theorem Rel_rule {h : mm_Mem} (hR : Rel h) (hst : h 0 8 = 0) {t f k fr : Nat} (ht : t < 3) (hf : f < (h 14 t).toNatClampNeg) (hk : k ≤ 2) (hfr : fr ≤ 3) (x : Int32) : Rel (mm_wr (mm_wr (mm_wr (mm_wr (mm_wr (mm_wr (mm_wr (mm_wr h 17 (4 * t + f) (nI k)) 18 (4 * t + f) (nI fr)) 19 (4 * t + f) x) 16 t 1) 68 (3 * (4 * t + f)) (nI k)) 68 (3 * (4 * t + f) + 1) (nI fr)) 68 (3 * (4 * t + f) + 2) x) 69 t 1) := by
  obtain ⟨-, ⟨-, b1, b2, b3, -⟩⟩ := id hR
  obtain ⟨i1, i2, i3⟩ := hR.1.2.2.2.1
  have hf4 : f < 4 := by
    obtain ⟨w, hw, ew⟩ := hR.1.2.1.2 t ht
    have ew' : h 14 t = nI w := ew
    rw [ew', nI_clamp (by omega)] at hf
    omega
  generalize hr : 4 * t + f = r
  generalize e2 : mm_wr (mm_wr (mm_wr (mm_wr (mm_wr (mm_wr (mm_wr (mm_wr h 17 r (nI k)) 18 r (nI fr)) 19 r x) 16 t 1) 68 (3 * r) (nI k)) 68 (3 * r + 1) (nI fr)) 68 (3 * r + 2) x) 69 t 1 = h2
  have ec : ∀ q, ¬ (16 ≤ q ∧ q ≤ 19) → ¬ (68 ≤ q ∧ q ≤ 69) → h2 q = h q := fun q h1 h2 => by
    rw [← e2]
    simp (disch := omega) only [mw_ne]
  have n17 : h2 17 r = nI k := by
    rw [← e2]
    simp (disch := omega) only [mw_miss, mw_hit]
  have n18 : h2 18 r = nI fr := by
    rw [← e2]
    simp (disch := omega) only [mw_miss, mw_hit]
  have n19 : h2 19 r = x := by
    rw [← e2]
    simp (disch := omega) only [mw_miss, mw_hit]
  have o17 : ∀ q j, q = 17 ∨ q = 18 ∨ q = 19 → ¬ j = r → h2 q j = h q j := fun q j hq hj => by
    rw [← e2]
    simp (disch := omega) only [mw_miss]
  have n16 : h2 16 t = 1 := by
    rw [← e2]
    simp (disch := omega) only [mw_miss, mw_hit]
  have o16 : ∀ j, ¬ j = t → h2 16 j = h 16 j := fun j hj => by
    rw [← e2]
    simp (disch := omega) only [mw_miss]
  have n68 : h2 68 (3 * r) = nI k ∧ h2 68 (3 * r + 1) = nI fr ∧ h2 68 (3 * r + 2) = x := by
    rw [← e2]
    refine ⟨?_, ?_, ?_⟩ <;> simp (disch := omega) only [mw_miss, mw_hit]
  have o68 : ∀ j, ¬ (3 * r ≤ j ∧ j < 3 * r + 3) → h2 68 j = h 68 j := fun j hj => by
    rw [← e2]
    simp (disch := omega) only [mw_miss]
  have n69 : h2 69 t = 1 := by
    rw [← e2]
    simp (disch := omega) only [mw_hit]
  have o69 : ∀ j, ¬ j = t → h2 69 j = h 69 j := fun j hj => by
    rw [← e2]
    simp (disch := omega) only [mw_miss]
  refine Rel_draft hR hst (fun q _ _ => ec q (by omega) (by omega)) (fun q _ _ => ec q (by omega) (by omega)) (Iv_congr (ec _ (by omega) (by omega)) (ec _ (by omega) (by omega)) hR.1.2.1) ⟨fun r' hr' => ?_, fun t' f' ht' hf' hw => ?_, fun t' ht' => ?_⟩ (Lver_congr (fun q _ _ => ec q (by omega) (by omega)) (ec _ (by omega) (by omega)) (ec _ (by omega) (by omega)) (ec _ (by omega) (by omega)) b1) (Lver_congr (fun q _ _ => ec q (by omega) (by omega)) (ec _ (by omega) (by omega)) (ec _ (by omega) (by omega)) (ec _ (by omega) (by omega)) b2) ⟨fun r' hr' => ?_, fun t' ht' => ?_⟩
  · by_cases hrr : r' = r
    · subst hrr
      rw [n17, n18]
      exact ⟨⟨k, hk, rfl⟩, ⟨fr, hfr, rfl⟩⟩
    · rw [o17 17 r' (by omega) hrr, o17 18 r' (by omega) hrr]
      exact i1 r' hr'
  · rw [ec 14 (by omega) (by omega)] at hw
    unfold zr
    have hne : ¬ 4 * t' + f' = r := by
      intro e
      have : t' = t := by omega
      subst this
      omega
    rw [o17 17 _ (by omega) hne, o17 18 _ (by omega) hne, o17 19 _ (by omega) hne]
    exact i2 t' f' ht' hf' hw
  · by_cases htt : t' = t
    · subst htt
      rw [n16]
      exact ⟨Or.inr rfl, fun q => absurd q (by decide)⟩
    · rw [o16 t' htt, ec 7 (by omega) (by omega), ec 14 (by omega) (by omega)]
      refine ⟨(i3 t' ht').1, fun q => ⟨((i3 t' ht').2 q).1, fun f' hf' => ?_⟩⟩
      unfold zr
      rw [o17 17 _ (by omega) (by omega), o17 18 _ (by omega) (by omega), o17 19 _ (by omega) (by omega)]
      exact ((i3 t' ht').2 q).2 f' hf'
  · by_cases hrr : r' = r
    · subst hrr
      rw [n17, n18, n19]
      exact n68
    · rw [o17 17 r' (by omega) hrr, o17 18 r' (by omega) hrr, o17 19 r' (by omega) hrr, o68 _ (by omega), o68 _ (by omega), o68 _ (by omega)]
      exact b3.1 r' hr'
  · by_cases htt : t' = t
    · subst htt
      rw [n69, n16]
    · rw [o69 t' htt, o16 t' htt]
      exact b3.2 t' ht'
theorem pr_rule (x0 x1 x2 x3 x4 : Int32) : mm_pair Γ Rel smM_S_rule smM_M_rule [.int x0, .int x1, .int x2, .int x3, .int x4] := by
  intro h hR
  have e5 : h 64 5 = h 0 8 := hR.2.1.1
  refine smr_S_rule _ _ _ _ _ (us_br (sp_within 3 rfl (by decide)) (fun hp => ⟨hp, ?_⟩) (fun hp => ?_))
  · obtain ⟨t, ht, rfl, et⟩ := vin_of hp (by decide)
    obtain ⟨w, hw, ew⟩ := hR.1.2.1.2 t ht
    have ew' : h 14 t = nI w := ew
    have e3 : (3 : Int32) + nI t = nI (3 + t) := nI_add 3 t
    have e67 : h 67 (3 + t) = nI w := (hR.2.2.2.1.2.2 t ht).trans ew
    rw [et, ew']
    have run : ∀ (h1 : mm_Mem) (post : Int32 → mm_Mem → Prop), h1 64 5 = h 0 8 → h1 67 (3 + t) = nI w → (¬ (vp_in x1 w ∧ (¬ x2 < 0 ∧ ¬ 2 < x2) ∧ vp_in x3 4) → post (-1) h1) → ((vp_in x1 w ∧ (¬ x2 < 0 ∧ ¬ 2 < x2) ∧ vp_in x3 4) → ¬ h 0 8 = 0 → post (-2) h1) → ((vp_in x1 w ∧ (¬ x2 < 0 ∧ ¬ 2 < x2) ∧ vp_in x3 4) → h 0 8 = 0 → ((vp_in ((12 * nI t) + (3 * x1)) 36) ∧ (∀ h68, h68 = mm_wr h1 68 ((12 * nI t) + (3 * x1)).toNatClampNeg x2 → ((vp_in (((12 * nI t) + (3 * x1)) + 1) 36) ∧ (∀ h85, h85 = mm_wr h68 68 (((12 * nI t) + (3 * x1)) + 1).toNatClampNeg x3 → ((vp_in (((12 * nI t) + (3 * x1)) + 2) 36) ∧ (∀ h102, h102 = mm_wr h85 68 (((12 * nI t) + (3 * x1)) + 2).toNatClampNeg x4 → ((vp_in (nI t) 3) ∧ (∀ h109, h109 = mm_wr h102 69 (nI t).toNatClampNeg 1 → (post 0 h109)))))))))) → mm_SI Γ smM_M_rule [.ref (mm_B Γ + 64), .int (nI t), .int x1, .int x2, .int x3, .int x4] h1 post := by
      intro h1 post u5 u67 kb kn kw
      refine smr_M_rule _ _ _ _ _ (us_br sp_M_isType (fun _ => ?_) (fun q => absurd hp q))
      rw [e3, nI_clamp (n := 3 + t) (by omega), u67, u5]
      have v1 := vin_iff (x := x1) (n := w) (by omega)
      have v3 := vin_iff (x := x3) (n := 4) (by decide)
      have v3' : x3 ≤ 3 ↔ ¬ (4 : Int32) ≤ x3 := by
        rw [Int32.le_iff_toInt_le, Int32.le_iff_toInt_le]
        have a1 : (3 : Int32).toInt = 3 := by decide
        have a2 : (4 : Int32).toInt = 4 := by decide
        rw [a1, a2]
        omega
      refine ⟨fun a => kb (fun q => (v1.mp q.1).1 a), fun a => ⟨vp_in_nI (by omega) (by decide), fun b => kb (fun q => (v1.mp q.1).2 b), fun b => ⟨fun c => kb (fun q => q.2.1.1 c), fun c => ⟨fun d => kb (fun q => q.2.1.2 d), fun d => ⟨fun e => kb (fun q => (v3.mp q.2.2).1 e), fun e => ⟨fun f => ?_, fun f => kb (fun q => f (v3'.mpr (v3.mp q.2.2).2))⟩⟩⟩⟩⟩⟩
      have good : vp_in x1 w ∧ (¬ x2 < 0 ∧ ¬ 2 < x2) ∧ vp_in x3 4 := ⟨v1.mpr ⟨a, b⟩, ⟨c, d⟩, v3.mpr ⟨e, v3'.mp f⟩⟩
      exact ⟨fun g => kw good g, fun g => kn good g⟩
    have bad : ¬ (vp_in x1 w ∧ (¬ x2 < 0 ∧ ¬ 2 < x2) ∧ vp_in x3 4) → mm_SI Γ smM_M_rule [.ref (mm_B Γ + 64), .int (nI t), .int x1, .int x2, .int x3, .int x4] h (fun r2 h2 => -1 = r2 ∧ Rel h2) :=
      fun hb => run h _ e5 e67 (fun _ => ⟨rfl, hR⟩) (fun q => absurd q hb) (fun q => absurd q hb)
    refine us_br' (sp_within w rfl (by omega)) (fun h1 => ⟨fun a => bad (fun q => q.2.1.1 a), fun a => ⟨fun b => bad (fun q => q.2.1.2 b), fun b => ?_⟩⟩) (fun h1 => bad (fun q => h1 q.1))
    refine us_br' (sp_within 4 rfl (by decide)) (fun h3 => ?_) (fun h3 => bad (fun q => h3 q.2.2))
    have good : vp_in x1 w ∧ (¬ x2 < 0 ∧ ¬ 2 < x2) ∧ vp_in x3 4 := ⟨h1, ⟨a, b⟩, h3⟩
    refine ⟨fun c => ?_, fun c => run h _ e5 e67 (fun q => absurd good q) (fun _ _ => ⟨rfl, hR⟩) (fun _ d => absurd d c)⟩
    obtain ⟨f, hf, rfl, ef⟩ := vin_of h1 (by omega)
    obtain ⟨fr, hfr, rfl, efr⟩ := vin_of h3 (by decide)
    obtain ⟨k, hk, rfl⟩ := nI_of2 (M := 2) (n := 2) (by decide) a (Int32.not_lt.mp b)
    refine us_v (sp_R_write ht (by omega) _ _ _) ⟨hp, fun h4 e4 => ?_⟩
    refine run h4 _ ?_ ?_ (fun q => absurd good q) (fun _ d => absurd c d) (fun _ _ => ?_)
    · rw [e4]
      simp (disch := omega) only [mw_miss]
      exact e5
    · rw [e4]
      simp (disch := omega) only [mw_miss]
      exact e67
    · have g0 : (12 * nI t) + (3 * nI f) = nI (3 * (4 * t + f)) := by
        show nI 12 * nI t + nI 3 * nI f = _
        rw [pk_mul, pk_mul, nI_add]
        congr 1
        omega
      have g1 : nI (3 * (4 * t + f)) + 1 = nI (3 * (4 * t + f) + 1) := nI_add _ 1
      have g2 : nI (3 * (4 * t + f)) + 2 = nI (3 * (4 * t + f) + 2) := nI_add _ 2
      rw [g0, g1, g2, nI_clamp (n := 3 * (4 * t + f)) (by omega), nI_clamp (n := 3 * (4 * t + f) + 1) (by omega), nI_clamp (n := 3 * (4 * t + f) + 2) (by omega), et]
      refine ⟨vp_in_nI (by omega) (by decide), fun m1 em1 => ⟨vp_in_nI (by omega) (by decide), fun m2 em2 => ⟨vp_in_nI (by omega) (by decide), fun m3 em3 => ⟨hp, fun m4 em4 => ⟨rfl, ?_⟩⟩⟩⟩⟩
      rw [em4, em3, em2, em1, e4]
      exact Rel_rule hR c ht (by rw [ew', nI_clamp (by omega)]; exact hf) hk (by omega) _
  · exact smr_M_rule _ _ _ _ _ (us_br sp_M_isType (fun q => absurd q hp) (fun _ => ⟨rfl, hR⟩))
end RL
