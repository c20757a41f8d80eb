section WO
variable {Γ : mm_Ctx}
theorem sp_V_write {v : Nat} (hv : v = 1 ∨ v = 8) {h : mm_Mem} {p i l : Nat} (hp : p < 6) (hi : i < 12) (el : h (v + 1) p = nI l) (hl : l ≤ 12) (op a b c : Int32) : mm_SV Γ smM_V_write [.ref (mm_B Γ + v), .int (nI p), .int (nI i), .int op, .int a, .int b, .int c] h (fun h' => h' = mm_wr (mm_wr (mm_wr (mm_wr (mm_wr h (v + 2) (12 * p + i) op) (v + 3) (12 * p + i) a) (v + 4) (12 * p + i) b) (v + 5) (12 * p + i) c) (v + 1) p (nI (if l < i + 1 then i + 1 else l))) := by
  have hw : vp_in (nI (12 * p + i)) 72 := vp_in_nI (by omega) (by decide)
  have hq : vp_in (nI p) 6 := vp_in_nI hp (by decide)
  have ec : (nI (12 * p + i)).toNatClampNeg = 12 * p + i := nI_clamp (by omega)
  have ep : (nI p).toNatClampNeg = p := nI_clamp (by omega)
  refine smr_V_write hv _ _ _ _ _ _ (us_eq (sp_at p i rfl rfl) ?_)
  rw [ec, ep]
  refine ⟨hw, fun h14 e14 => ⟨hw, fun h23 e23 => ⟨hw, fun h32 e32 => ⟨hw, fun h41 e41 => ⟨hq, hq, fun h59 e59 => ?_⟩⟩⟩⟩⟩
  have e1 : h41 (v + 1) p = nI l := by
    rw [e41, mw_ne (by omega), e32, mw_ne (by omega), e23, mw_ne (by omega), e14, mw_ne (by omega), el]
  have e2 : (if nI l < nI i + 1 then nI i + 1 else nI l) = nI (if l < i + 1 then i + 1 else l) := by
    rw [nI_1]
    by_cases hlt : l < i + 1
    · rw [if_pos hlt, if_pos (nI_lt hlt (by omega))]
    · rw [if_neg hlt, if_neg (nI_nlt (by omega) (by omega))]
  rw [e59, e1, e2, e41, e32, e23, e14]
/-- a word is written on both sides -/
theorem Rel_word {h : mm_Mem} (hR : Rel h) (hst : h 0 8 = 0) {p i l : Nat} (hp : p < 6) (hi : i < 12) (hl : l ≤ 12) (op a b c : Int32) : Rel (mm_wr (mm_wr (mm_wr (mm_wr (mm_wr (mm_wr (mm_wr (mm_wr (mm_wr (mm_wr h 10 (12 * p + i) op) 11 (12 * p + i) a) 12 (12 * p + i) b) 13 (12 * p + i) c) 9 p (nI l)) 65 (288 + 4 * (12 * p + i)) op) 65 (288 + 4 * (12 * p + i) + 1) a) 65 (288 + 4 * (12 * p + i) + 2) b) 65 (288 + 4 * (12 * p + i) + 3) c) 66 (6 + p) (nI l)) := by
  obtain ⟨-, ⟨-, b1, b2, b3, -⟩⟩ := id hR
  generalize hw : 12 * p + i = w
  have hw72 : w < 72 := by omega
  generalize e2 : mm_wr (mm_wr (mm_wr (mm_wr (mm_wr (mm_wr (mm_wr (mm_wr (mm_wr (mm_wr h 10 w op) 11 w a) 12 w b) 13 w c) 9 p (nI l)) 65 (288 + 4 * w) op) 65 (288 + 4 * w + 1) a) 65 (288 + 4 * w + 2) b) 65 (288 + 4 * w + 3) c) 66 (6 + p) (nI l) = h2
  have ec : ∀ q, ¬ (9 ≤ q ∧ q ≤ 13) → ¬ q = 65 → ¬ q = 66 → h2 q = h q := fun q h1 h2 h3 => by
    rw [← e2]
    simp (disch := omega) only [mw_ne]
  refine Rel_draft hR hst (fun q _ _ => ec q (by omega) (by omega) (by omega)) (fun q _ _ => ec q (by omega) (by omega) (by omega)) ⟨fun p' hp' => ?_, fun t ht => ?_⟩ (Irul_congr (ec _ (by omega) (by omega) (by omega)) (ec _ (by omega) (by omega) (by omega)) (ec _ (by omega) (by omega) (by omega)) (ec _ (by omega) (by omega) (by omega)) (ec _ (by omega) (by omega) (by omega)) (ec _ (by omega) (by omega) (by omega)) hR.1.2.2.2.1) ⟨fun p' hp' => ?_, fun w' hw' => ?_, ?_⟩ ⟨fun p' hp' => ?_, fun w' hw' => ?_, ?_⟩ (Lrul_congr (ec _ (by omega) (by omega) (by omega)) (ec _ (by omega) (by omega) (by omega)) (ec _ (by omega) (by omega) (by omega)) (ec _ (by omega) (by omega) (by omega)) (ec _ (by omega) (by omega) (by omega)) (ec _ (by omega) (by omega) (by omega)) b3)
  · show rg (h2 9 p') 12
    by_cases hpp : p' = p
    · subst hpp
      rw [← e2]
      simp (disch := omega) only [mw_miss, mw_hit]
      exact ⟨l, hl, rfl⟩
    · rw [← e2]
      simp (disch := omega) only [mw_miss]
      exact hR.1.2.1.1 p' hp'
  · show rg (h2 14 t) 4
    rw [ec 14 (by omega) (by omega) (by omega)]
    exact hR.1.2.1.2 t ht
  · show h2 66 (0 + p') = h2 2 p'
    rw [ec 2 (by omega) (by omega) (by omega), ← e2]
    simp (disch := omega) only [mw_miss]
    exact b1.1 p' hp'
  · show h2 65 (0 + 4 * w') = h2 3 w' ∧ h2 65 (0 + 4 * w' + 1) = h2 4 w' ∧ h2 65 (0 + 4 * w' + 2) = h2 5 w' ∧ h2 65 (0 + 4 * w' + 3) = h2 6 w'
    rw [ec 3 (by omega) (by omega) (by omega), ec 4 (by omega) (by omega) (by omega), ec 5 (by omega) (by omega) (by omega), ec 6 (by omega) (by omega) (by omega), ← e2]
    simp (disch := omega) only [mw_miss]
    exact b1.2.1 w' hw'
  · show ∀ t, t < 3 → h2 67 (0 + t) = h2 7 t
    rw [ec 67 (by omega) (by omega) (by omega), ec 7 (by omega) (by omega) (by omega)]
    exact b1.2.2
  · show h2 66 (6 + p') = h2 9 p'
    by_cases hpp : p' = p
    · subst hpp
      rw [← e2]
      simp (disch := omega) only [mw_miss, mw_hit]
    · rw [← e2]
      simp (disch := omega) only [mw_miss]
      exact b2.1 p' hp'
  · show h2 65 (288 + 4 * w') = h2 10 w' ∧ h2 65 (288 + 4 * w' + 1) = h2 11 w' ∧ h2 65 (288 + 4 * w' + 2) = h2 12 w' ∧ h2 65 (288 + 4 * w' + 3) = h2 13 w'
    by_cases hww : w' = w
    · subst hww
      rw [← e2]
      simp (disch := omega) only [mw_miss, mw_hit]
      exact ⟨trivial, trivial, trivial, trivial⟩
    · rw [← e2]
      simp (disch := omega) only [mw_miss]
      exact b2.2.1 w' hw'
  · show ∀ t, t < 3 → h2 67 (3 + t) = h2 14 t
    rw [ec 67 (by omega) (by omega) (by omega), ec 14 (by omega) (by omega) (by omega)]
    exact b2.2.2
theorem pr_word (x0 x1 x2 x3 x4 x5 : Int32) : mm_pair Γ Rel smM_S_word smM_M_word [.int x0, .int x1, .int x2, .int x3, .int x4, .int x5] := by
  intro h hR
  have e5 : h 64 5 = h 0 8 := hR.2.1.1
  refine smr_S_word _ _ _ _ _ _ (us_br (sp_within 6 rfl (by decide)) (fun hp => ?_) (fun hp => ?_))
  · obtain ⟨p, hp6, rfl, ep⟩ := vin_of hp (by decide)
    obtain ⟨l, hl, el⟩ := hR.1.2.1.1 p hp6
    have el9 : h 9 p = nI l := el
    have e6 : (6 : Int32) + nI p = nI (6 + p) := nI_add 6 p
    have c6 : (nI (6 + p)).toNatClampNeg = 6 + p := nI_clamp (by omega)
    have e66 : h 66 (6 + p) = nI l := (hR.2.2.2.1.1 p hp6).trans el
    have v66 : vp_in (nI (6 + p)) 12 := vp_in_nI (by omega) (by decide)
    rw [ep, el9]
    have bad : x1 < 0 ∨ nI l < x1 ∨ x1 = 12 → mm_SI Γ smM_M_word [.ref (mm_B Γ + 64), .int (nI p), .int x1, .int x2, .int x3, .int x4, .int x5] h (fun r2 h2 => -1 = r2 ∧ Rel h2) := by
      intro hb
      refine smr_M_word _ _ _ _ _ _ (us_br sp_M_isProcedure (fun _ => ?_) (fun q => absurd hp q))
      rw [e6, c6, e66]
      refine ⟨fun _ => ⟨rfl, hR⟩, fun a => ⟨v66, fun _ => ⟨rfl, hR⟩, fun b => ⟨fun c => ?_, fun _ => ⟨rfl, hR⟩⟩⟩⟩
      rcases hb with hb | hb | hb
      · exact absurd hb a
      · exact absurd hb b
      · exact absurd hb c
    refine ⟨fun a => bad (Or.inl a), fun a => ⟨hp, fun b => bad (Or.inr (Or.inl b)), fun b => ⟨fun c => ⟨fun d => ?_, fun d => ?_⟩, fun c => bad (Or.inr (Or.inr c))⟩⟩⟩
    · obtain ⟨i, hi, rfl⟩ := nI_of2 (n := l) (nI_toInt (by omega)) a (Int32.not_lt.mp b)
      have hi12 : i < 12 := by
        have : ¬ i = 12 := fun e => c (by rw [e]; rfl)
        omega
      refine us_v (sp_V_write (Or.inr rfl) hp6 hi12 el hl _ _ _ _) ⟨hp, ?_⟩
      show mm_SI Γ smM_M_word _ (mm_wr (mm_wr (mm_wr (mm_wr (mm_wr h 10 (12 * p + i) x2) 11 (12 * p + i) x3) 12 (12 * p + i) x4) 13 (12 * p + i) x5) 9 p (nI (if l < i + 1 then i + 1 else l))) (fun r2 h2 => mm_wr (mm_wr (mm_wr (mm_wr (mm_wr h 10 (12 * p + i) x2) 11 (12 * p + i) x3) 12 (12 * p + i) x4) 13 (12 * p + i) x5) 9 p (nI (if l < i + 1 then i + 1 else l)) 9 p = r2 ∧ Rel h2)
      rw [mw_hit]
      have f66 : ∀ l', mm_wr (mm_wr (mm_wr (mm_wr (mm_wr h 10 (12 * p + i) x2) 11 (12 * p + i) x3) 12 (12 * p + i) x4) 13 (12 * p + i) x5) 9 p l' 66 (6 + p) = nI l := fun l' => by
        simp (disch := omega) only [mw_miss]
        exact e66
      have f5 : ∀ l', mm_wr (mm_wr (mm_wr (mm_wr (mm_wr h 10 (12 * p + i) x2) 11 (12 * p + i) x3) 12 (12 * p + i) x4) 13 (12 * p + i) x5) 9 p l' 64 5 = 0 := fun l' => by
        simp (disch := omega) only [mw_miss]
        rw [e5, d]
      refine smr_M_word _ _ _ _ _ _ (us_br sp_M_isProcedure (fun _ => ?_) (fun q => absurd hp q))
      rw [e6, c6, f66, f5]
      refine br_f a ⟨v66, br_f b (br_n c (br_t rfl ?_))⟩
      intro y ey
      have ey' : y = nI (288 + 4 * (12 * p + i)) := by
        rw [ey]
        show nI 288 + nI 48 * nI p + nI 4 * nI i = _
        rw [pk_mul, pk_mul, nI_add, nI_add]
        congr 1
        omega
      subst ey'
      have g1 : nI (288 + 4 * (12 * p + i)) + 1 = nI (288 + 4 * (12 * p + i) + 1) := nI_add _ 1
      have g2 : nI (288 + 4 * (12 * p + i)) + 2 = nI (288 + 4 * (12 * p + i) + 2) := nI_add _ 2
      have g3 : nI (288 + 4 * (12 * p + i)) + 3 = nI (288 + 4 * (12 * p + i) + 3) := nI_add _ 3
      rw [g1, g2, g3, nI_clamp (n := 288 + 4 * (12 * p + i)) (by omega), nI_clamp (n := 288 + 4 * (12 * p + i) + 1) (by omega), nI_clamp (n := 288 + 4 * (12 * p + i) + 2) (by omega), nI_clamp (n := 288 + 4 * (12 * p + i) + 3) (by omega)]
      refine ⟨vp_in_nI (by omega) (by decide), fun m1 em1 => ⟨vp_in_nI (by omega) (by decide), fun m2 em2 => ⟨vp_in_nI (by omega) (by decide), fun m3 em3 => ⟨vp_in_nI (by omega) (by decide), fun m4 em4 => ⟨v66, ?_⟩⟩⟩⟩⟩
      have u66 : m4 66 (6 + p) = nI l := by
        rw [em4, mw_ne (by omega), em3, mw_ne (by omega), em2, mw_ne (by omega), em1, mw_ne (by omega), f66]
      rw [u66]
      refine ⟨fun ne => ⟨v66, v66, fun m5 em5 => ⟨v66, ?_⟩⟩, fun eq => ⟨v66, fun m5 em5 => ⟨v66, ?_⟩⟩⟩
      · have hlt : ¬ l < i + 1 := by
          have : ¬ i = l := fun e => ne (by rw [e])
          omega
        rw [em5, mw_hit, if_neg hlt, em4, em3, em2, em1, if_neg hlt]
        exact ⟨rfl, Rel_word hR d hp6 hi12 hl _ _ _ _⟩
      · have hil : i = l := nI_in' (by omega) (by omega) eq
        have hlt : l < i + 1 := by omega
        have e1 : nI i + 1 = nI (i + 1) := nI_1 i
        rw [em5, mw_hit, if_pos hlt, em4, em3, em2, em1, if_pos hlt, e1]
        exact ⟨rfl, Rel_word hR d hp6 hi12 (by omega) _ _ _ _⟩
    · refine smr_M_word _ _ _ _ _ _ (us_br sp_M_isProcedure (fun _ => ?_) (fun q => absurd hp q))
      rw [e6, c6, e66, e5]
      exact br_f a ⟨v66, br_f b (br_n c (br_f d ⟨rfl, hR⟩))⟩
  · exact smr_M_word _ _ _ _ _ _ (us_br sp_M_isProcedure (fun q => absurd q hp) (fun _ => ⟨rfl, hR⟩))
end WO
