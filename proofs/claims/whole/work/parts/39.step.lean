section SS
variable {Γ : mm_Ctx}
theorem sp_perform {g : mm_Mem} {j n d p w : Nat} (C : Cur g j n d p w) : mm_SV Γ smM_S_perform [.ref (mm_B Γ + 0), .ref (mm_B Γ + (28 + 6 * j))] g (StpR Γ j n g) := by
  obtain ⟨hj6, hl12, el⟩ := Cur_j C
  have hd6 := C.2.2.2.2.1
  have hp6 := C.2.2.2.2.2.1
  have hwl := C.2.2.2.2.2.2.1
  obtain ⟨hr, -⟩ := C.1.1.1.2 p w hp6 hwl
  have v6 : vp_in (nI d) 6 := vp_in_nI hd6 (by decide)
  refine smr_S_perform (isT_j hj6) (fun y ey => ?_)
  rw [C.2.2.2.1, nI_pred] at ey
  subst ey
  rw [nI_clamp (n := d) (by omega)]
  refine ⟨v6, v6, us_eq (sp_at p w C.2.2.2.2.2.2.2.1 C.2.2.2.2.2.2.2.2.1) ?_⟩
  rw [nI_clamp (n := 12 * p + w) (by omega)]
  refine ⟨vp_in_nI (by omega) (by decide), fun z => ?_, fun z => ⟨fun z2 => st_11 C z z2, fun z2 h46 e46 => ?_⟩⟩
  · rcases ro_all hr with c | c | c | c | c | c | c | c | c | c | c | c | c
    · exact st_0 C c
    · exact st_1 C c
    · exact st_2 C c
    · exact st_3 C c
    · exact st_4 C c
    · exact st_5 C c
    · exact st_6 C c
    · exact st_7 C c
    · exact st_8 C c
    · exact st_9 C c
    · exact st_10 C c
    · exact absurd c z
    · exact st_12 C c
  · rw [e46]
    exact st_wait C z z2
theorem Rs_out {g h : mm_Mem} {j : Nat} (hj : j < 6) (hL : Rs j g h) : Rl g (mm_wr h 75 (j + 1) (g (28 + 6 * j) 7)) := by
  obtain ⟨a1, a2, a3, a4, a5, a6, a7, a8⟩ := hL
  have f : ∀ q, ¬ q = 75 → mm_wr h 75 (j + 1) (g (28 + 6 * j) 7) q = h q := fun q hq => mw_ne hq
  refine ⟨⟨by rw [f 64 (by omega)]; exact a1.1, by rw [f 64 (by omega)]; exact a1.2.1, by rw [f 64 (by omega)]; exact a1.2.2⟩, Lver_congr (fun _ _ _ => rfl) (f _ (by omega)) (f _ (by omega)) (f _ (by omega)) a2, Lver_congr (fun _ _ _ => rfl) (f _ (by omega)) (f _ (by omega)) (f _ (by omega)) a3, Lrul_congr rfl rfl rfl rfl (f _ (by omega)) (f _ (by omega)) a4, Lglob_congr rfl (f _ (by omega)) a5, Lheap_congr rfl rfl rfl (f _ (by omega)) (f _ (by omega)) a6, fun i hi => ?_⟩
  unfold Ltask
  rw [f 77 (by omega), f 79 (by omega), f 76 (by omega), f 78 (by omega), f 80 (by omega)]
  by_cases hij : i = j
  · subst hij
    obtain ⟨k1, k2, k3, k4, k5⟩ := a8
    exact ⟨k1, k2, mw_hit, k3, k4, k5⟩
  · obtain ⟨k1, k2, k3, k4, k5, k6⟩ := a7 i hi hij
    exact ⟨k1, k2, by rw [mw_miss (by omega)]; exact k3, k4, k5, k6⟩
theorem Rs_in {g h : mm_Mem} {j : Nat} (hj : j < 6) (hL : Rl g h) : Rs j g h := by
  obtain ⟨a1, a2, a3, a4, a5, a6, a7⟩ := hL
  obtain ⟨k1, k2, k3, k4, k5, k6⟩ := a7 j hj
  exact ⟨a1, a2, a3, a4, a5, a6, fun i hi _ => a7 i hi, k1, k2, k4, k5, k6⟩
theorem Rl_right {g h h' : mm_Mem} (f : ∀ q, 64 ≤ q → h' q = h q) (k : Rl g h) : Rl g h' := Rl_congr (fun _ _ => rfl) f k
theorem step_loop {j n N : Nat} (hj : j < n) (hN : N ≤ 200) : ∀ dd x4, x4 + dd = N → ∀ (g : mm_Mem), IT g n → ∀ post : Int32 → mm_Mem → Prop, (∀ r g', (∀ q, 64 ≤ q → g' q = g q) → IT g' n → (∀ (h : mm_Mem) (postR : Int32 → mm_Mem → Prop), Rs j g h → (∀ h', (∀ q, q < 64 → h' q = h q) → Rl g' h' → postR r h') → mm_W Γ smM_M_step (mm_pI postR) 46 [some (.ref (mm_B Γ + 64)), some (.int (nI (j + 1))), some (.int (nI N)), some (.int (g (28 + 6 * j) 7)), some (.int (nI x4))] [] h) → post r g') → mm_W Γ smM_S_step (mm_pI post) 47 [some (.ref (mm_B Γ + 0)), none, some (.int (nI N)), some (.ref (mm_B Γ + (28 + 6 * j))), some (.int (nI x4))] [] g := by
  intro dd
  induction dd with
  | zero =>
    intro x4 hx g hI post k
    have hn6 := hI.2.1
    have hj6 : j < 6 := by omega
    refine smr_S_step_47 _ (isT_j hj6) _ (br_t (nI_le (by omega) (by omega)) (k _ g (fun _ _ => rfl) hI (fun h postR hL kk => smr_M_step_46 _ _ _ _ (br_t (nI_le (by omega) (by omega)) ⟨tk3 hj6, fun h74 e74 => ?_⟩))))
    rw [tk4 hj6] at e74
    exact kk h74 (fun q hq => by rw [e74, mw_ne (by omega)]) (by rw [e74]; exact Rs_out hj6 hL)
  | succ dd ih =>
    intro x4 hx g hI post k
    have hn6 := hI.2.1
    have hj6 : j < 6 := by omega
    refine smr_S_step_47 _ (isT_j hj6) _ (br_f (nI_ge (by omega) (by omega)) ⟨fun z => k _ g (fun _ _ => rfl) hI (fun h postR hL kk => smr_M_step_46 _ _ _ _ (br_f (nI_ge (by omega) (by omega)) (br_n z ⟨tk3 hj6, fun h74 e74 => ?_⟩))), fun z => ?_⟩)
    · rw [tk4 hj6] at e74
      exact kk h74 (fun q hq => by rw [e74, mw_ne (by omega)]) (by rw [e74]; exact Rs_out hj6 hL)
    · obtain ⟨d, p, w, C⟩ := Cur_of hI hj z
      refine mm_SV_mono (sp_perform C) (fun g1 q => ?_)
      obtain ⟨s1, s2, s3⟩ := q
      rw [nI_1]
      refine ih (x4 + 1) (by omega) g1 s2 post (fun r g' u1 u2 u3 => k r g' (fun q hq => by rw [u1 q hq, s1 q hq]) u2 (fun h postR hL kk => ?_))
      refine smr_M_step_46 _ _ _ _ (br_f (nI_ge (by omega) (by omega)) (br_p z (mm_SI_mono (s3 h hL) (fun r58 h58 q => ?_))))
      obtain ⟨rfl, q58, L58⟩ := q
      rw [nI_1]
      exact u3 h58 postR L58 (fun h' x1 x2 => kk h' (fun q hq => by rw [x1 q hq, q58 q hq]) x2)
theorem Rel_out {g' h' : mm_Mem} {n : Nat} (hI : IT g' n) (e : ∀ q, q < 64 → h' q = g' q) (k : Rl g' h') : Rel h' := ⟨Inv_congr e hI.1, Rl_congr e (fun _ _ => rfl) k⟩
theorem pr_step (x0 x1 : Int32) : mm_pair Γ Rel smM_S_step smM_M_step [.int x0, .int x1] := by
  intro h hR
  obtain ⟨n, hn, e0, e64, hT⟩ := Rel_task hR
  by_cases hx : ∃ j, j < n ∧ x0 = nI (j + 1)
  · obtain ⟨j, hj, rfl⟩ := hx
    have hj6 : j < 6 := by omega
    have nref : x1 < 1 ∨ ¬ x1 ≤ 200 → mm_SI Γ smM_M_step [.ref (mm_B Γ + 64), .int (nI (j + 1)), .int x1] h (fun r2 h2 => -1 = r2 ∧ Rel h2) := by
      intro hb
      refine smr_M_step _ _ (us_br (sp_M_isTask hn e64) (fun _ => ⟨fun _ => ⟨rfl, hR⟩, fun a => ⟨fun b => ?_, fun _ => ⟨rfl, hR⟩⟩⟩) (fun z => absurd ⟨j, hj, rfl⟩ z))
      rcases hb with hb | hb
      · exact absurd hb a
      · exact absurd b hb
    refine smr_S_step _ _ (us_br (sp_S_isTask hn e0) (fun _ => ⟨fun a => nref (Or.inl a), fun a => ⟨fun b => ⟨tk1 hj6, fun t ht _ => ?_⟩, fun b => nref (Or.inr b)⟩⟩) (fun z => absurd ⟨j, hj, rfl⟩ z))
    rw [tk2 hj6] at ht
    subst ht
    obtain ⟨N, hN1, hN2, rfl⟩ := (one_of (x := x1) (n := 200) (by decide)).mp ⟨a, Int32.not_lt.mpr b⟩
    have hI : IT h n := ⟨hR.1, hT⟩
    have e75 : h 75 (j + 1) = h (28 + 6 * j) 7 := (Rel_lt hR hj6).2.2.1
    have L0 : Rl h h := hR.2
    refine ⟨fun z => step_loop hj hN2 N 0 (by omega) h hI _ (fun r g' u1 u2 u3 => ?_), fun z g0 eg0 => ?_⟩
    · refine smr_M_step _ _ (us_br (sp_M_isTask hn (by rw [u1 64 (by omega)]; exact e64)) (fun _ => br_f a (br_t b ⟨tk3 hj6, ?_⟩)) (fun z => absurd ⟨j, hj, rfl⟩ z))
      rw [tk4 hj6, u1 75 (by omega), e75]
      refine br_n z ⟨tk3 hj6, fun y ey => ?_⟩
      subst ey
      exact u3 g' _ (Rs_in hj6 (Rl_right u1 L0)) (fun h' x1 x2 => ⟨rfl, Rel_out u2 x1 x2⟩)
    · have ec : ∀ q, ¬ q = 28 + 6 * j → g0 q = h q := fun q hq => by rw [eg0, mw_ne hq]
      have eo : ∀ x, ¬ x = 7 → g0 (28 + 6 * j) x = h (28 + 6 * j) x := fun x hx => by rw [eg0, mw_miss (by omega)]
      have e7 : g0 (28 + 6 * j) 7 = 0 := by rw [eg0, mw_hit]
      obtain ⟨ed, hd6⟩ := dep_of (hT.2.2.1 j hj)
      obtain ⟨-, b6, -, b4, b5⟩ := hT.2.2.1 j hj
      have I0 : IT g0 n := by
        refine keepI_t hI hj (fun q hq => ec q (by omega)) (fun q h1 h2 h3 => ec q (by omega)) (Itask_mk (d := dep h j) (by rw [eo 5 (by omega)]; exact ed) hd6 (by rw [eo 6 (by omega)]; exact b6) (by rw [e7]; exact rg_0 _) ⟨fun y => ?_, fun y => ?_⟩ (fun k hk => Fo_congr (ec _ (by omega)) (by rw [ec _ (by omega)]) (by rw [ec _ (by omega)]) (by rw [ec _ (by omega)]) (b5 k hk)))
        · rcases b4.mp y with y | y
          · rw [z] at y
            exact absurd y (by decide)
          · rw [z] at y
            exact absurd y (by decide)
        · rw [e7] at y
          rcases y with y | y
          · exact absurd y (by decide)
          · exact absurd y (by decide)
      have L1 : Rs j g0 h := by
        refine keepL_t hI (Rs_in hj6 L0) (fun q hq => ec q (by omega)) (fun q h1 h2 h3 => ec q (by omega)) (fun _ _ _ => rfl) (onlyR_n (fun _ _ => rfl)) ?_
        obtain ⟨k1, k2, k3, k4, k5⟩ := (Rs_in hj6 L0).2.2.2.2.2.2.2
        unfold Ltk Lfr
        rw [dep_congr (eo 5 (by omega)), eo 5 (by omega), eo 6 (by omega), eo 8 (by omega), ec (28 + 6 * j + 1) (by omega), ec (28 + 6 * j + 2) (by omega), ec (28 + 6 * j + 3) (by omega), ec (28 + 6 * j + 4) (by omega), ec (28 + 6 * j + 5) (by omega)]
        exact ⟨k1, k2, k3, k4, k5⟩
      refine step_loop hj hN2 N 0 (by omega) g0 I0 _ (fun r g' u1 u2 u3 => ?_)
      have u1' : ∀ q, 64 ≤ q → g' q = h q := fun q hq => by rw [u1 q hq, ec q (by omega)]
      rw [e7] at u3
      refine smr_M_step _ _ (us_br (sp_M_isTask hn (by rw [u1' 64 (by omega)]; exact e64)) (fun _ => br_f a (br_t b ⟨tk3 hj6, ?_⟩)) (fun z => absurd ⟨j, hj, rfl⟩ z))
      rw [tk4 hj6, u1' 75 (by omega), e75]
      refine br_p z (u3 g' _ ?_ (fun h' x1 x2 => ⟨rfl, Rel_out u2 x1 x2⟩))
      exact keepL_t I0 L1 (fun _ _ => rfl) (onlyC_n (fun _ _ _ => rfl)) (fun q h1 _ => u1' q h1) (onlyR_n (fun q hq => u1' q (by omega))) (by
        have := L1.2.2.2.2.2.2.2
        unfold Ltk Lfr at this ⊢
        rw [u1' 77 (by omega), u1' 79 (by omega), u1' 76 (by omega), u1' 78 (by omega), u1' 80 (by omega)]
        exact this)
  · refine smr_S_step _ _ (us_br (sp_S_isTask hn e0) (fun z => absurd z hx) (fun _ => ?_))
    exact smr_M_step _ _ (us_br (sp_M_isTask hn e64) (fun z => absurd z hx) (fun _ => ⟨rfl, hR⟩))
/-! all pairs -/
theorem all_pairs (Γ : mm_Ctx) : mm_pairs Γ Rel := ⟨pr_word, pr_cut, pr_fields, pr_rule, pr_reset, pr_stage, pr_withdraw, pr_changed, pr_blocker, pr_attempt, pr_version, pr_spawn, pr_step, pr_send, pr_state, pr_result, pr_frames, pr_frame, pr_global, pr_typeOf, pr_field, pr_heap, pr_collect⟩
end SS
