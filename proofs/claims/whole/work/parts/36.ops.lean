section OP
variable {Γ : mm_Ctx}
def StpR (Γ : mm_Ctx) (j n : Nat) (g g' : mm_Mem) : Prop := (∀ q, 64 ≤ q → g' q = g q) ∧ IT g' n ∧ ∀ h, Rs j g h → mm_SI Γ smM_M_act [.ref (mm_B Γ + 64), .int (nI (j + 1))] h (fun r h' => r = g' (28 + 6 * j) 7 ∧ (∀ q, q < 64 → h' q = h q) ∧ Rs j g' h')
theorem Rs_fr {g h : mm_Mem} {j n d p w : Nat} (C : Cur g j n d p w) (hL : Rs j g h) : h 78 (36 * (j + 1) + 6 * d) = nI p ∧ h 78 (36 * (j + 1) + 6 * d + 1) = nI w ∧ (∀ x, x < 3 → h 78 (36 * (j + 1) + 6 * d + 2 + x) = g (28 + 6 * j + 3) (3 * d + x)) ∧ h 78 (36 * (j + 1) + 6 * d + 5) = g (28 + 6 * j + 4) d := by
  obtain ⟨l1, l2, l3, l4⟩ := hL.2.2.2.2.2.2.2.2.2.2.1 d (by rw [C.2.2.1]; omega)
  exact ⟨l1.trans C.2.2.2.2.2.2.2.1, l2.trans C.2.2.2.2.2.2.2.2.1, l3, l4⟩
theorem act_in {g h : mm_Mem} {j n d p w : Nat} (C : Cur g j n d p w) (hL : Rs j g h) {post : Int32 → mm_Mem → Prop} (k0 : g 3 (12 * p + w) = 11 → g (28 + 6 * j) 6 = 0 → post 1 h) (k : ¬ (g 3 (12 * p + w) = 11 ∧ g (28 + 6 * j) 6 = 0) → mm_W Γ smM_M_act (mm_pI post) 95 [some (.ref (mm_B Γ + 64)), some (.int (nI (j + 1))), some (.int (nI (36 * (j + 1) + 6 * d))), none, some (.int (g 3 (12 * p + w))), some (.int (g 4 (12 * p + w))), some (.int (g 5 (12 * p + w))), some (.int (g 6 (12 * p + w))), some (.int (nI (36 * (j + 1) + 6 * d + 2)))] [] h) : mm_SI Γ smM_M_act [.ref (mm_B Γ + 64), .int (nI (j + 1))] h post := by
  obtain ⟨hj6, hl12, el⟩ := Cur_j C
  have hd6 := C.2.2.2.2.1
  have hp6 := C.2.2.2.2.2.1
  have hwl := C.2.2.2.2.2.2.1
  obtain ⟨l1, l2, l3, l4⟩ := Rs_fr C hL
  have e77 : h 77 (j + 1) = nI (d + 1) := hL.2.2.2.2.2.2.2.1.trans C.2.2.2.1
  have e79 : h 79 (j + 1) = g (28 + 6 * j) 6 := hL.2.2.2.2.2.2.2.2.1
  refine smr_M_act _ ?_
  rw [tk4 hj6, e77, nI_pred]
  refine ⟨tk3 hj6, us_eq (sp_M_frameAt (j + 1) d rfl rfl) ?_⟩
  have g1 : nI (36 * (j + 1) + 6 * d) + 1 = nI (36 * (j + 1) + 6 * d + 1) := nI_add _ 1
  have g2 : nI (36 * (j + 1) + 6 * d) + 2 = nI (36 * (j + 1) + 6 * d + 2) := nI_add _ 2
  rw [g1, g2, nI_clamp (n := 36 * (j + 1) + 6 * d) (by omega), nI_clamp (n := 36 * (j + 1) + 6 * d + 1) (by omega), l1, l2, e79]
  refine ⟨vp_in_nI (by omega) (by decide), vp_in_nI (by omega) (by decide), fun y ey => ?_⟩
  have ey' : y = nI (4 * (12 * p + w)) := by
    rw [ey]
    show nI 48 * nI p + nI 4 * nI w = _
    rw [pk_mul, pk_mul, nI_add]
    congr 1
    omega
  subst ey'
  obtain ⟨a1, a2, a3, a4⟩ := hL.2.1.2.1 (12 * p + w) (by omega)
  simp only [Nat.zero_add, Nat.reduceAdd] at a1 a2 a3 a4
  have q1 : nI (4 * (12 * p + w)) + 1 = nI (4 * (12 * p + w) + 1) := nI_add _ 1
  have q2 : nI (4 * (12 * p + w)) + 2 = nI (4 * (12 * p + w) + 2) := nI_add _ 2
  have q3 : nI (4 * (12 * p + w)) + 3 = nI (4 * (12 * p + w) + 3) := nI_add _ 3
  rw [q1, q2, q3, nI_clamp (n := 4 * (12 * p + w)) (by omega), nI_clamp (n := 4 * (12 * p + w) + 1) (by omega), nI_clamp (n := 4 * (12 * p + w) + 2) (by omega), nI_clamp (n := 4 * (12 * p + w) + 3) (by omega), a1, a2, a3, a4]
  refine ⟨vp_in_nI (by omega) (by decide), fun y4 ey4 => ⟨vp_in_nI (by omega) (by decide), fun y5 ey5 => ⟨vp_in_nI (by omega) (by decide), fun y6 ey6 => ⟨vp_in_nI (by omega) (by decide), fun y7 ey7 y8 ey8 => ?_⟩⟩⟩⟩
  subst ey4 ey5 ey6 ey7 ey8
  exact ⟨fun z => k (fun q => z q.1), fun z => ⟨tk3 hj6, fun z2 => k (fun q => z2 q.2), fun z2 => k0 z z2⟩⟩
theorem mw_self {h : mm_Mem} {q i : Nat} : mm_wr h q i (h q i) = h := by
  funext q' i'
  rw [mw_at]
  by_cases c : q' = q ∧ i' = i
  · rw [if_pos c, c.1, c.2]
  · rw [if_neg c]
/-! operands -/
theorem ro_a {g : mm_Mem} {p W : Nat} (hr : rightW g 1 p W) (e : g 3 W = 0 ∨ g 3 W = 1 ∨ g 3 W = 11) : vp_in (g 4 W) 3 := by
  unfold rightW at hr
  simp only [Nat.reduceAdd] at hr
  rw [if_pos e] at hr
  exact hr
theorem ro_2 {g : mm_Mem} {p W : Nat} (hr : rightW g 1 p W) (e : g 3 W = 2 ∨ g 3 W = 3) : vp_in (g 4 W) 3 ∧ vp_in (g 5 W) 3 ∧ vp_in (g 6 W) 3 := by
  unfold rightW at hr
  simp only [Nat.reduceAdd] at hr
  rcases e with e | e
  · rw [e, if_neg (by decide), if_pos (by decide)] at hr
    exact hr
  · rw [e, if_neg (by decide), if_pos (by decide)] at hr
    exact hr
theorem ro_4 {g : mm_Mem} {p W : Nat} (hr : rightW g 1 p W) (e : g 3 W = 4) : vp_in (g 4 W) 3 ∧ vp_in (g 5 W) (lenV g 1 p) := by
  unfold rightW at hr
  simp only [Nat.reduceAdd] at hr
  rw [e, if_neg (by decide), if_neg (by decide), if_pos (by decide)] at hr
  exact hr
theorem ro_5 {g : mm_Mem} {p W : Nat} (hr : rightW g 1 p W) (e : g 3 W = 5) : vp_in (g 4 W) 3 ∧ (vp_in (g 5 W) 6 ∧ ¬ g 2 (g 5 W).toNatClampNeg ≤ 0) ∧ vp_in (g 6 W) 3 := by
  unfold rightW at hr
  simp only [Nat.reduceAdd] at hr
  rw [e, if_neg (by decide), if_neg (by decide), if_neg (by decide), if_pos (by decide)] at hr
  exact hr
theorem ro_6 {g : mm_Mem} {p W : Nat} (hr : rightW g 1 p W) (e : g 3 W = 6) : vp_in (g 4 W) 3 ∧ vp_in (g 5 W) 3 := by
  unfold rightW at hr
  simp only [Nat.reduceAdd] at hr
  rw [e, if_neg (by decide), if_neg (by decide), if_neg (by decide), if_neg (by decide), if_pos (by decide)] at hr
  exact ⟨hr.1, hr.2.1⟩
theorem ro_7 {g : mm_Mem} {p W : Nat} (hr : rightW g 1 p W) (e : g 3 W = 7 ∨ g 3 W = 8) : vp_in (g 4 W) 3 ∧ vp_in (g 5 W) 3 ∧ vp_in (g 6 W) 12 ∧ (g 6 W).toNatClampNeg % 4 < (g 7 ((g 6 W).toNatClampNeg / 4)).toNatClampNeg := by
  unfold rightW at hr
  simp only [Nat.reduceAdd] at hr
  rcases e with e | e
  · rw [e, if_neg (by decide), if_neg (by decide), if_neg (by decide), if_neg (by decide), if_neg (by decide), if_pos (by decide)] at hr
    exact hr
  · rw [e, if_neg (by decide), if_neg (by decide), if_neg (by decide), if_neg (by decide), if_neg (by decide), if_pos (by decide)] at hr
    exact hr
theorem ro_9 {g : mm_Mem} {p W : Nat} (hr : rightW g 1 p W) (e : g 3 W = 9 ∨ g 3 W = 10) : vp_in (g 4 W) 3 ∧ vp_in (g 5 W) 4 := by
  unfold rightW at hr
  simp only [Nat.reduceAdd] at hr
  rcases e with e | e
  · rw [e, if_neg (by decide), if_neg (by decide), if_neg (by decide), if_neg (by decide), if_neg (by decide), if_neg (by decide), if_pos (by decide)] at hr
    exact hr
  · rw [e, if_neg (by decide), if_neg (by decide), if_neg (by decide), if_neg (by decide), if_neg (by decide), if_neg (by decide), if_pos (by decide)] at hr
    exact hr
theorem ro_all {g : mm_Mem} {p W : Nat} (hr : rightW g 1 p W) : g 3 W = 0 ∨ g 3 W = 1 ∨ g 3 W = 2 ∨ g 3 W = 3 ∨ g 3 W = 4 ∨ g 3 W = 5 ∨ g 3 W = 6 ∨ g 3 W = 7 ∨ g 3 W = 8 ∨ g 3 W = 9 ∨ g 3 W = 10 ∨ g 3 W = 11 ∨ g 3 W = 12 := by
  unfold rightW at hr
  simp only [Nat.reduceAdd] at hr
  by_cases c1 : g 3 W = 0 ∨ g 3 W = 1 ∨ g 3 W = 11
  · rcases c1 with c | c | c <;> simp [c]
  · rw [if_neg c1] at hr
    by_cases c2 : g 3 W = 2 ∨ g 3 W = 3
    · rcases c2 with c | c <;> simp [c]
    · rw [if_neg c2] at hr
      by_cases c3 : g 3 W = 4
      · simp [c3]
      · rw [if_neg c3] at hr
        by_cases c4 : g 3 W = 5
        · simp [c4]
        · rw [if_neg c4] at hr
          by_cases c5 : g 3 W = 6
          · simp [c5]
          · rw [if_neg c5] at hr
            by_cases c6 : g 3 W = 7 ∨ g 3 W = 8
            · rcases c6 with c | c <;> simp [c]
            · rw [if_neg c6] at hr
              by_cases c7 : g 3 W = 9 ∨ g 3 W = 10
              · rcases c7 with c | c <;> simp [c]
              · rw [if_neg c7] at hr
                by_cases c8 : g 3 W = 12
                · simp [c8]
                · rw [if_neg c8] at hr
                  exact absurd hr (fun z => z)
/-! other pieces -/
theorem kG {g : mm_Mem} {j n : Nat} (hI : IT g n) (hj : j < n) (x : Nat) (v : Int32) : IT (mm_wr g 26 x v) n := by
  have e : ∀ q, ¬ q = 26 → mm_wr g 26 x v q = g q := fun q hq => mw_ne hq
  exact keepI_n hI hj (fun q hq => e q (by omega)) (fun q h1 h2 => e q (by omega)) (Iheap_congr (e _ (by omega)) (e _ (by omega)) (e _ (by omega)) hI.1.2.2.2.2.1)
theorem kGL {g h : mm_Mem} {j n : Nat} (hI : IT g n) (hj : j < n) (hL : Rs j g h) (x : Nat) (v : Int32) : Rs j (mm_wr g 26 x v) (mm_wr h 70 x v) := by
  have e : ∀ q, ¬ q = 26 → mm_wr g 26 x v q = g q := fun q hq => mw_ne hq
  have f : ∀ q, ¬ q = 70 → mm_wr h 70 x v q = h q := fun q hq => mw_ne hq
  refine keepL_n hI hj hL (fun q hq => e q (by omega)) (fun q h1 h2 => e q (by omega)) (fun q h1 h2 => f q (by omega)) (fun q h1 => f q (by omega)) (fun y hy => ?_) (Lheap_congr (e _ (by omega)) (e _ (by omega)) (e _ (by omega)) (f _ (by omega)) (f _ (by omega)) hL.2.2.2.2.2.1)
  by_cases c : y = x
  · subst c
    rw [mw_hit, mw_hit]
  · rw [mw_miss (by omega), mw_miss (by omega)]
    exact hL.2.2.2.2.1 y hy
theorem kU {g : mm_Mem} {j n d p w : Nat} (C : Cur g j n d p w) (hd5 : d + 1 < 6) {p' a : Nat} (hp' : p' < 6) (hl : 0 < lenV g 1 p') (ha : a < 3) (v : Int32) : IT (tpush g j (d + 1) (nI p') v (nI a)) n := by
  obtain ⟨hj6, -, -⟩ := Cur_j C
  obtain ⟨-, b6, -⟩ := C.1.2.2.2.1 j C.2.1
  have e : ∀ q, ¬ (28 + 6 * j ≤ q ∧ q ≤ 28 + 6 * j + 4) → tpush g j (d + 1) (nI p') v (nI a) q = g q := fun q hq => tpush_ne hq
  have e7 : tpush g j (d + 1) (nI p') v (nI a) (28 + 6 * j) 7 = 0 := by rw [tpush_o (by omega)]; exact C.2.2.2.2.2.2.2.2.2
  refine keepI_t C.1 C.2.1 (fun q hq => e q (by omega)) (fun q h1 h2 h3 => e q (by omega)) (Itask_mk (d := d + 1 + 1) tpush_5 (by omega) (by rw [tpush_o (by omega)]; exact b6) (by rw [e7]; exact rg_0 _) ⟨fun z => absurd z (by omega), fun z => ?_⟩ (fun k hk => ?_))
  · rw [e7] at z
    rcases z with z | z
    · exact absurd z (by decide)
    · exact absurd z (by decide)
  · by_cases hkd : k = d + 1
    · subst hkd
      obtain ⟨t1, t2, t3, t4, t5, t6⟩ := tpush_new (g := g) (j := j) (d := d + 1) (p := nI p') (a := v) (to := nI a)
      refine ⟨p', 0, a, hp', ?_, ha, t1, t2, t6⟩
      unfold lenV
      rw [e _ (by omega)]
      exact hl
    · obtain ⟨t1, t2, t3, t4⟩ := tpush_old (g := g) (j := j) (d := d + 1) (p := nI p') (a := v) (to := nI a) (k := k) (by omega)
      exact Fo_congr (e _ (by omega)) t1 t2 t4 (Cur_Fo C (by omega))
theorem kUL {g h : mm_Mem} {j n d p w : Nat} (C : Cur g j n d p w) (hL : Rs j g h) (hd5 : d + 1 < 6) (p' v a : Int32) : Rs j (tpush g j (d + 1) p' v a) (mpush h (j + 1) (d + 1) p' v a) := by
  obtain ⟨hj6, -, -⟩ := Cur_j C
  have e : ∀ q, ¬ (28 + 6 * j ≤ q ∧ q ≤ 28 + 6 * j + 4) → tpush g j (d + 1) p' v a q = g q := fun q hq => tpush_ne hq
  have f : ∀ q, ¬ (q = 77 ∨ q = 78) → mpush h (j + 1) (d + 1) p' v a q = h q := fun q hq => mpush_ne hq
  refine keepL_t C.1 hL (fun q hq => e q (by omega)) (fun q h1 h2 h3 => e q (by omega)) (fun q h1 h2 => f q (by omega)) ⟨f _ (by omega), fun y hy => ⟨by rw [f _ (by omega)], by rw [mpush_77, if_neg hy], by rw [f _ (by omega)]⟩, fun y hy => mpush_out (by omega), fun y hy => by rw [f _ (by omega)]⟩ ?_
  obtain ⟨k1, k2, k3, k4, k5⟩ := hL.2.2.2.2.2.2.2
  rw [C.2.2.1] at k4
  unfold Ltk dep
  rw [tpush_5, tpush_o (by omega), tpush_o (by omega), f 79 (by omega), f 76 (by omega), f 80 (by omega), e (28 + 6 * j + 5) (by omega), nI_clamp (by omega)]
  exact ⟨by rw [mpush_77, if_pos rfl], k2, k3, push_Lfr k4, k5⟩
theorem st_1 {g : mm_Mem} {j n d p w : Nat} (C : Cur g j n d p w) (eo : g 3 (12 * p + w) = 1) : mm_W Γ smM_S_perform (mm_pV (StpR Γ j n g)) 50 [some (.ref (mm_B Γ + 0)), some (.ref (mm_B Γ + (28 + 6 * j))), some (.int (nI d)), some (.int (nI (12 * p + w))), none, none, none] [] g := by
  obtain ⟨hj6, hl12, el⟩ := Cur_j C
  have hd6 := C.2.2.2.2.1
  have hp6 := C.2.2.2.2.2.1
  have hwl := C.2.2.2.2.2.2.1
  have epl := C.2.2.2.2.2.2.2.2.1
  obtain ⟨hr, hlast⟩ := C.1.1.1.2 p w hp6 hwl
  have hw1 : w + 1 < lenV g 1 p := by
    by_cases z : w + 1 = lenV g 1 p
    · have z2 : g 3 (12 * p + w) = 0 := hlast z
      rw [eo] at z2
      exact absurd z2 (by decide)
    · omega
  obtain ⟨a, ha, ea, -⟩ := vin_of (ro_a hr (Or.inr (Or.inl eo))) (by decide)
  refine smr_S_perform_50 (isT_j hj6) _ _ ?_
  rw [nI_clamp (n := d) (by omega), nI_clamp (n := 12 * p + w) (by omega), epl, nI_1 w]
  have v6 : vp_in (nI d) 6 := vp_in_nI hd6 (by decide)
  have v72 : vp_in (nI (12 * p + w)) 72 := vp_in_nI (by omega) (by decide)
  refine ⟨v6, v6, fun g1 eg1 => ?_⟩
  have C1 : Cur g1 j n d p (w + 1) := by
    rw [eg1]
    exact kP C hw1
  have r3 : ∀ q, ¬ q = 28 + 6 * j + 2 → g1 q = g q := fun q hq => by rw [eg1, mw_ne hq]
  have r64 : ∀ q, 64 ≤ q → g1 q = g q := fun q hq => r3 q (by omega)
  have ed1 := C1.2.2.2.1
  have e71 := C1.2.2.2.2.2.2.2.2.2
  rw [r3 3 (by omega), r3 4 (by omega), r3 5 (by omega), r3 6 (by omega), eo]
  refine ⟨v72, fun y4 ey4 => ⟨v72, fun y5 ey5 => ⟨v72, fun y6 ey6 => ⟨v72, ⟨fun z => absurd z (by decide), fun _ => ?_, fun z => absurd z (by decide), fun z => absurd z (by decide), fun z => absurd z (by decide), fun z => absurd z (by decide), fun z => absurd z (by decide), fun z => absurd z (by decide), fun z => absurd z (by decide), fun z => absurd z (by decide), fun z => absurd z (by decide), fun z => absurd z (by decide), fun _ z _ _ _ _ _ _ _ _ _ _ => absurd rfl z⟩⟩⟩⟩⟩
  subst ey4 ey5
  rw [ea]
  refine us_v (sp_T_setLocal hj6 hd6 ed1 ha _) ⟨fun q hq => by rw [mw_ne (by omega), r64 q hq], kL C1 _ _, fun h hL => ?_⟩
  refine act_in C hL (fun z => absurd (eo.symm.trans z) (by decide)) (fun _ => ?_)
  obtain ⟨l1, l2, l3, l4⟩ := Rs_fr C hL
  refine smr_M_act_95 _ _ _ _ _ _ _ ?_
  have g1' : nI (36 * (j + 1) + 6 * d) + 1 = nI (36 * (j + 1) + 6 * d + 1) := nI_add _ 1
  rw [g1', nI_clamp (n := 36 * (j + 1) + 6 * d + 1) (by omega), l2, nI_1 w, eo, ea]
  refine ⟨vp_in_nI (by omega) (by decide), vp_in_nI (by omega) (by decide), fun h1 eh1 => ?_⟩
  have hL1 : Rs j g1 h1 := by
    rw [eg1, eh1]
    exact kPL C hL _
  obtain ⟨m1, m2, m3, m4⟩ := Rs_fr C1 hL1
  have q64 : ∀ q, q < 64 → h1 q = h q := fun q hq => by rw [eh1, mw_ne (by omega)]
  refine ⟨fun z => absurd z (by decide), fun _ => ?_, fun z => absurd z (by decide), fun z => absurd z (by decide), fun z => absurd z (by decide), fun z => absurd z (by decide), fun z => absurd z (by decide), fun z => absurd z (by decide), fun z => absurd z (by decide), fun z => absurd z (by decide), fun z => absurd z (by decide), fun _ z _ _ _ _ _ _ _ _ _ _ => absurd rfl z⟩
  rw [nI_add (36 * (j + 1) + 6 * d + 2) a, nI_clamp (n := 36 * (j + 1) + 6 * d + 2 + a) (by omega)]
  refine ⟨vp_in_nI (by omega) (by decide), fun h2 eh2 => ⟨?_, fun q hq => by rw [eh2, mw_ne (by omega), q64 q hq], ?_⟩⟩
  · rw [mw_ne (by omega), e71]
  · rw [eh2]
    exact kLL C1 hL1 ha _
theorem st_2 {g : mm_Mem} {j n d p w : Nat} (C : Cur g j n d p w) (eo : g 3 (12 * p + w) = 2) : mm_W Γ smM_S_perform (mm_pV (StpR Γ j n g)) 50 [some (.ref (mm_B Γ + 0)), some (.ref (mm_B Γ + (28 + 6 * j))), some (.int (nI d)), some (.int (nI (12 * p + w))), none, none, none] [] g := by
  obtain ⟨hj6, hl12, el⟩ := Cur_j C
  have hd6 := C.2.2.2.2.1
  have hp6 := C.2.2.2.2.2.1
  have hwl := C.2.2.2.2.2.2.1
  have epl := C.2.2.2.2.2.2.2.2.1
  obtain ⟨hr, hlast⟩ := C.1.1.1.2 p w hp6 hwl
  have hw1 : w + 1 < lenV g 1 p := by
    by_cases z : w + 1 = lenV g 1 p
    · have z2 : g 3 (12 * p + w) = 0 := hlast z
      rw [eo] at z2
      exact absurd z2 (by decide)
    · omega
  obtain ⟨u1, u2, u3⟩ := ro_2 hr (Or.inl eo)
  obtain ⟨a, ha, ea, -⟩ := vin_of u1 (by decide)
  obtain ⟨b, hb, eb, -⟩ := vin_of u2 (by decide)
  obtain ⟨c, hc, ec, -⟩ := vin_of u3 (by decide)
  refine smr_S_perform_50 (isT_j hj6) _ _ ?_
  rw [nI_clamp (n := d) (by omega), nI_clamp (n := 12 * p + w) (by omega), epl, nI_1 w]
  have v6 : vp_in (nI d) 6 := vp_in_nI hd6 (by decide)
  have v72 : vp_in (nI (12 * p + w)) 72 := vp_in_nI (by omega) (by decide)
  refine ⟨v6, v6, fun g1 eg1 => ?_⟩
  have C1 : Cur g1 j n d p (w + 1) := by
    rw [eg1]
    exact kP C hw1
  have r3 : ∀ q, ¬ q = 28 + 6 * j + 2 → g1 q = g q := fun q hq => by rw [eg1, mw_ne hq]
  have r64 : ∀ q, 64 ≤ q → g1 q = g q := fun q hq => r3 q (by omega)
  have ed1 := C1.2.2.2.1
  have e71 := C1.2.2.2.2.2.2.2.2.2
  rw [r3 3 (by omega), r3 4 (by omega), r3 5 (by omega), r3 6 (by omega), eo]
  refine ⟨v72, fun y4 ey4 => ⟨v72, fun y5 ey5 => ⟨v72, fun y6 ey6 => ⟨v72, ⟨fun z => absurd z (by decide), fun z => absurd z (by decide), fun _ => ?_, fun z => absurd z (by decide), fun z => absurd z (by decide), fun z => absurd z (by decide), fun z => absurd z (by decide), fun z => absurd z (by decide), fun z => absurd z (by decide), fun z => absurd z (by decide), fun z => absurd z (by decide), fun z => absurd z (by decide), fun _ _ z _ _ _ _ _ _ _ _ _ => absurd rfl z⟩⟩⟩⟩⟩
  subst ey4 ey5 ey6
  rw [ea, eb, ec]
  refine us_eq (sp_T_local hj6 hd6 ed1 hb) (us_eq (sp_T_local hj6 hd6 ed1 hc) (us_v (sp_T_setLocal hj6 hd6 ed1 ha _) ⟨fun q hq => by rw [mw_ne (by omega), r64 q hq], kL C1 _ _, fun h hL => ?_⟩))
  refine act_in C hL (fun z => absurd (eo.symm.trans z) (by decide)) (fun _ => ?_)
  obtain ⟨l1, l2, l3, l4⟩ := Rs_fr C hL
  refine smr_M_act_95 _ _ _ _ _ _ _ ?_
  have g1' : nI (36 * (j + 1) + 6 * d) + 1 = nI (36 * (j + 1) + 6 * d + 1) := nI_add _ 1
  rw [g1', nI_clamp (n := 36 * (j + 1) + 6 * d + 1) (by omega), l2, nI_1 w, eo, ea, eb, ec]
  refine ⟨vp_in_nI (by omega) (by decide), vp_in_nI (by omega) (by decide), fun h1 eh1 => ?_⟩
  have hL1 : Rs j g1 h1 := by
    rw [eg1, eh1]
    exact kPL C hL _
  obtain ⟨m1, m2, m3, m4⟩ := Rs_fr C1 hL1
  have q64 : ∀ q, q < 64 → h1 q = h q := fun q hq => by rw [eh1, mw_ne (by omega)]
  refine ⟨fun z => absurd z (by decide), fun z => absurd z (by decide), fun _ => ?_, fun z => absurd z (by decide), fun z => absurd z (by decide), fun z => absurd z (by decide), fun z => absurd z (by decide), fun z => absurd z (by decide), fun z => absurd z (by decide), fun z => absurd z (by decide), fun z => absurd z (by decide), fun _ _ z _ _ _ _ _ _ _ _ _ => absurd rfl z⟩
  rw [nI_add (36 * (j + 1) + 6 * d + 2) a, nI_clamp (n := 36 * (j + 1) + 6 * d + 2 + a) (by omega), nI_add (36 * (j + 1) + 6 * d + 2) b, nI_clamp (n := 36 * (j + 1) + 6 * d + 2 + b) (by omega), nI_add (36 * (j + 1) + 6 * d + 2) c, nI_clamp (n := 36 * (j + 1) + 6 * d + 2 + c) (by omega), m3 b hb, m3 c hc]
  refine ⟨vp_in_nI (by omega) (by decide), vp_in_nI (by omega) (by decide), vp_in_nI (by omega) (by decide), fun h2 eh2 => ⟨?_, fun q hq => by rw [eh2, mw_ne (by omega), q64 q hq], ?_⟩⟩
  · rw [mw_ne (by omega), e71]
  · rw [eh2]
    exact kLL C1 hL1 ha _
theorem st_3 {g : mm_Mem} {j n d p w : Nat} (C : Cur g j n d p w) (eo : g 3 (12 * p + w) = 3) : mm_W Γ smM_S_perform (mm_pV (StpR Γ j n g)) 50 [some (.ref (mm_B Γ + 0)), some (.ref (mm_B Γ + (28 + 6 * j))), some (.int (nI d)), some (.int (nI (12 * p + w))), none, none, none] [] g := by
  obtain ⟨hj6, hl12, el⟩ := Cur_j C
  have hd6 := C.2.2.2.2.1
  have hp6 := C.2.2.2.2.2.1
  have hwl := C.2.2.2.2.2.2.1
  have epl := C.2.2.2.2.2.2.2.2.1
  obtain ⟨hr, hlast⟩ := C.1.1.1.2 p w hp6 hwl
  have hw1 : w + 1 < lenV g 1 p := by
    by_cases z : w + 1 = lenV g 1 p
    · have z2 : g 3 (12 * p + w) = 0 := hlast z
      rw [eo] at z2
      exact absurd z2 (by decide)
    · omega
  obtain ⟨u1, u2, u3⟩ := ro_2 hr (Or.inr eo)
  obtain ⟨a, ha, ea, -⟩ := vin_of u1 (by decide)
  obtain ⟨b, hb, eb, -⟩ := vin_of u2 (by decide)
  obtain ⟨c, hc, ec, -⟩ := vin_of u3 (by decide)
  refine smr_S_perform_50 (isT_j hj6) _ _ ?_
  rw [nI_clamp (n := d) (by omega), nI_clamp (n := 12 * p + w) (by omega), epl, nI_1 w]
  have v6 : vp_in (nI d) 6 := vp_in_nI hd6 (by decide)
  have v72 : vp_in (nI (12 * p + w)) 72 := vp_in_nI (by omega) (by decide)
  refine ⟨v6, v6, fun g1 eg1 => ?_⟩
  have C1 : Cur g1 j n d p (w + 1) := by
    rw [eg1]
    exact kP C hw1
  have r3 : ∀ q, ¬ q = 28 + 6 * j + 2 → g1 q = g q := fun q hq => by rw [eg1, mw_ne hq]
  have r64 : ∀ q, 64 ≤ q → g1 q = g q := fun q hq => r3 q (by omega)
  have ed1 := C1.2.2.2.1
  have e71 := C1.2.2.2.2.2.2.2.2.2
  rw [r3 3 (by omega), r3 4 (by omega), r3 5 (by omega), r3 6 (by omega), eo]
  refine ⟨v72, fun y4 ey4 => ⟨v72, fun y5 ey5 => ⟨v72, fun y6 ey6 => ⟨v72, ⟨fun z => absurd z (by decide), fun z => absurd z (by decide), fun z => absurd z (by decide), fun _ => ?_, fun z => absurd z (by decide), fun z => absurd z (by decide), fun z => absurd z (by decide), fun z => absurd z (by decide), fun z => absurd z (by decide), fun z => absurd z (by decide), fun z => absurd z (by decide), fun z => absurd z (by decide), fun _ _ _ z _ _ _ _ _ _ _ _ => absurd rfl z⟩⟩⟩⟩⟩
  subst ey4 ey5 ey6
  rw [ea, eb, ec]
  refine us_eq (sp_T_local hj6 hd6 ed1 hb) (us_eq (sp_T_local hj6 hd6 ed1 hc) (us_v (sp_T_setLocal hj6 hd6 ed1 ha _) ⟨fun q hq => by rw [mw_ne (by omega), r64 q hq], kL C1 _ _, fun h hL => ?_⟩))
  refine act_in C hL (fun z => absurd (eo.symm.trans z) (by decide)) (fun _ => ?_)
  obtain ⟨l1, l2, l3, l4⟩ := Rs_fr C hL
  refine smr_M_act_95 _ _ _ _ _ _ _ ?_
  have g1' : nI (36 * (j + 1) + 6 * d) + 1 = nI (36 * (j + 1) + 6 * d + 1) := nI_add _ 1
  rw [g1', nI_clamp (n := 36 * (j + 1) + 6 * d + 1) (by omega), l2, nI_1 w, eo, ea, eb, ec]
  refine ⟨vp_in_nI (by omega) (by decide), vp_in_nI (by omega) (by decide), fun h1 eh1 => ?_⟩
  have hL1 : Rs j g1 h1 := by
    rw [eg1, eh1]
    exact kPL C hL _
  obtain ⟨m1, m2, m3, m4⟩ := Rs_fr C1 hL1
  have q64 : ∀ q, q < 64 → h1 q = h q := fun q hq => by rw [eh1, mw_ne (by omega)]
  refine ⟨fun z => absurd z (by decide), fun z => absurd z (by decide), fun z => absurd z (by decide), fun _ => ?_, fun z => absurd z (by decide), fun z => absurd z (by decide), fun z => absurd z (by decide), fun z => absurd z (by decide), fun z => absurd z (by decide), fun z => absurd z (by decide), fun z => absurd z (by decide), fun _ _ _ z _ _ _ _ _ _ _ _ => absurd rfl z⟩
  rw [nI_add (36 * (j + 1) + 6 * d + 2) a, nI_clamp (n := 36 * (j + 1) + 6 * d + 2 + a) (by omega), nI_add (36 * (j + 1) + 6 * d + 2) b, nI_clamp (n := 36 * (j + 1) + 6 * d + 2 + b) (by omega), nI_add (36 * (j + 1) + 6 * d + 2) c, nI_clamp (n := 36 * (j + 1) + 6 * d + 2 + c) (by omega), m3 b hb, m3 c hc]
  refine ⟨vp_in_nI (by omega) (by decide), vp_in_nI (by omega) (by decide), vp_in_nI (by omega) (by decide), fun h2 eh2 => ⟨?_, fun q hq => by rw [eh2, mw_ne (by omega), q64 q hq], ?_⟩⟩
  · rw [mw_ne (by omega), e71]
  · rw [eh2]
    exact kLL C1 hL1 ha _
theorem st_4 {g : mm_Mem} {j n d p w : Nat} (C : Cur g j n d p w) (eo : g 3 (12 * p + w) = 4) : mm_W Γ smM_S_perform (mm_pV (StpR Γ j n g)) 50 [some (.ref (mm_B Γ + 0)), some (.ref (mm_B Γ + (28 + 6 * j))), some (.int (nI d)), some (.int (nI (12 * p + w))), none, none, none] [] g := by
  obtain ⟨hj6, hl12, el⟩ := Cur_j C
  have hd6 := C.2.2.2.2.1
  have hp6 := C.2.2.2.2.2.1
  have hwl := C.2.2.2.2.2.2.1
  have epl := C.2.2.2.2.2.2.2.2.1
  obtain ⟨hr, hlast⟩ := C.1.1.1.2 p w hp6 hwl
  have hw1 : w + 1 < lenV g 1 p := by
    by_cases z : w + 1 = lenV g 1 p
    · have z2 : g 3 (12 * p + w) = 0 := hlast z
      rw [eo] at z2
      exact absurd z2 (by decide)
    · omega
  obtain ⟨u1, u2⟩ := ro_4 hr eo
  obtain ⟨a, ha, ea, -⟩ := vin_of u1 (by decide)
  obtain ⟨b, hb, eb, -⟩ := vin_of u2 (by omega)
  refine smr_S_perform_50 (isT_j hj6) _ _ ?_
  rw [nI_clamp (n := d) (by omega), nI_clamp (n := 12 * p + w) (by omega), epl, nI_1 w]
  have v6 : vp_in (nI d) 6 := vp_in_nI hd6 (by decide)
  have v72 : vp_in (nI (12 * p + w)) 72 := vp_in_nI (by omega) (by decide)
  refine ⟨v6, v6, fun g1 eg1 => ?_⟩
  have C1 : Cur g1 j n d p (w + 1) := by
    rw [eg1]
    exact kP C hw1
  have r3 : ∀ q, ¬ q = 28 + 6 * j + 2 → g1 q = g q := fun q hq => by rw [eg1, mw_ne hq]
  have r64 : ∀ q, 64 ≤ q → g1 q = g q := fun q hq => r3 q (by omega)
  have ed1 := C1.2.2.2.1
  have e71 := C1.2.2.2.2.2.2.2.2.2
  rw [r3 3 (by omega), r3 4 (by omega), r3 5 (by omega), r3 6 (by omega), eo]
  refine ⟨v72, fun y4 ey4 => ⟨v72, fun y5 ey5 => ⟨v72, fun y6 ey6 => ⟨v72, ⟨fun z => absurd z (by decide), fun z => absurd z (by decide), fun z => absurd z (by decide), fun z => absurd z (by decide), fun _ => ?_, fun z => absurd z (by decide), fun z => absurd z (by decide), fun z => absurd z (by decide), fun z => absurd z (by decide), fun z => absurd z (by decide), fun z => absurd z (by decide), fun z => absurd z (by decide), fun _ _ _ _ z _ _ _ _ _ _ _ => absurd rfl z⟩⟩⟩⟩⟩
  subst ey4 ey5
  rw [ea, eb]
  refine us_eq (sp_T_local hj6 hd6 ed1 ha) ⟨fun z => ⟨v6, v6, fun g2 eg2 => ?_⟩, fun z => ⟨v6, fun g2 eg2 => ?_⟩⟩
  · rw [eg2, mw_self]
    refine ⟨r64, C1.1, fun h hL => ?_⟩
    refine act_in C hL (fun z => absurd (eo.symm.trans z) (by decide)) (fun _ => ?_)
    obtain ⟨l1, l2, l3, l4⟩ := Rs_fr C hL
    refine smr_M_act_95 _ _ _ _ _ _ _ ?_
    have g1' : nI (36 * (j + 1) + 6 * d) + 1 = nI (36 * (j + 1) + 6 * d + 1) := nI_add _ 1
    rw [g1', nI_clamp (n := 36 * (j + 1) + 6 * d + 1) (by omega), l2, nI_1 w, eo, ea, eb]
    refine ⟨vp_in_nI (by omega) (by decide), vp_in_nI (by omega) (by decide), fun h1 eh1 => ?_⟩
    have hL1 : Rs j g1 h1 := by
      rw [eg1, eh1]
      exact kPL C hL _
    obtain ⟨m1, m2, m3, m4⟩ := Rs_fr C1 hL1
    have q64 : ∀ q, q < 64 → h1 q = h q := fun q hq => by rw [eh1, mw_ne (by omega)]
    refine ⟨fun z => absurd z (by decide), fun z => absurd z (by decide), fun z => absurd z (by decide), fun z => absurd z (by decide), fun _ => ?_, fun z => absurd z (by decide), fun z => absurd z (by decide), fun z => absurd z (by decide), fun z => absurd z (by decide), fun z => absurd z (by decide), fun z => absurd z (by decide), fun _ _ _ _ z _ _ _ _ _ _ _ => absurd rfl z⟩
    rw [nI_add (36 * (j + 1) + 6 * d + 2) a, nI_clamp (n := 36 * (j + 1) + 6 * d + 2 + a) (by omega), m3 a ha]
    exact ⟨vp_in_nI (by omega) (by decide), br_n z ⟨e71.symm, q64, hL1⟩⟩
  · have e72 : g2 (28 + 6 * j) 7 = 0 := by rw [eg2, mw_ne (by omega), e71]
    refine ⟨fun q hq => by rw [eg2, mw_ne (by omega), r64 q hq], ?_, fun h hL => ?_⟩
    · rw [eg2]
      refine (kP C1 ?_).1
      unfold lenV at hb ⊢
      rw [r3 _ (by omega)]
      exact hb
    refine act_in C hL (fun z => absurd (eo.symm.trans z) (by decide)) (fun _ => ?_)
    obtain ⟨l1, l2, l3, l4⟩ := Rs_fr C hL
    refine smr_M_act_95 _ _ _ _ _ _ _ ?_
    have g1' : nI (36 * (j + 1) + 6 * d) + 1 = nI (36 * (j + 1) + 6 * d + 1) := nI_add _ 1
    rw [g1', nI_clamp (n := 36 * (j + 1) + 6 * d + 1) (by omega), l2, nI_1 w, eo, ea, eb]
    refine ⟨vp_in_nI (by omega) (by decide), vp_in_nI (by omega) (by decide), fun h1 eh1 => ?_⟩
    have hL1 : Rs j g1 h1 := by
      rw [eg1, eh1]
      exact kPL C hL _
    obtain ⟨m1, m2, m3, m4⟩ := Rs_fr C1 hL1
    have q64 : ∀ q, q < 64 → h1 q = h q := fun q hq => by rw [eh1, mw_ne (by omega)]
    refine ⟨fun z => absurd z (by decide), fun z => absurd z (by decide), fun z => absurd z (by decide), fun z => absurd z (by decide), fun _ => ?_, fun z => absurd z (by decide), fun z => absurd z (by decide), fun z => absurd z (by decide), fun z => absurd z (by decide), fun z => absurd z (by decide), fun z => absurd z (by decide), fun _ _ _ _ z _ _ _ _ _ _ _ => absurd rfl z⟩
    rw [nI_add (36 * (j + 1) + 6 * d + 2) a, nI_clamp (n := 36 * (j + 1) + 6 * d + 2 + a) (by omega), m3 a ha]
    refine ⟨vp_in_nI (by omega) (by decide), br_p z ⟨vp_in_nI (by omega) (by decide), fun h2 eh2 => ⟨e72.symm, fun q hq => by rw [eh2, mw_ne (by omega), q64 q hq], ?_⟩⟩⟩
    rw [eh2, eg2]
    exact kPL C1 hL1 _
theorem st_5 {g : mm_Mem} {j n d p w : Nat} (C : Cur g j n d p w) (eo : g 3 (12 * p + w) = 5) : mm_W Γ smM_S_perform (mm_pV (StpR Γ j n g)) 50 [some (.ref (mm_B Γ + 0)), some (.ref (mm_B Γ + (28 + 6 * j))), some (.int (nI d)), some (.int (nI (12 * p + w))), none, none, none] [] g := by
  obtain ⟨hj6, hl12, el⟩ := Cur_j C
  have hd6 := C.2.2.2.2.1
  have hp6 := C.2.2.2.2.2.1
  have hwl := C.2.2.2.2.2.2.1
  have epl := C.2.2.2.2.2.2.2.2.1
  obtain ⟨hr, hlast⟩ := C.1.1.1.2 p w hp6 hwl
  have hw1 : w + 1 < lenV g 1 p := by
    by_cases z : w + 1 = lenV g 1 p
    · have z2 : g 3 (12 * p + w) = 0 := hlast z
      rw [eo] at z2
      exact absurd z2 (by decide)
    · omega
  obtain ⟨u1, ⟨u2, u2'⟩, u3⟩ := ro_5 hr eo
  obtain ⟨a, ha, ea, -⟩ := vin_of u1 (by decide)
  obtain ⟨b, hb, eb, cb⟩ := vin_of u2 (by decide)
  obtain ⟨c, hc, ec, -⟩ := vin_of u3 (by decide)
  rw [cb] at u2'
  have hlb : 0 < lenV g 1 b := by
    obtain ⟨elb, -⟩ := lenV_of C.1.1.1.1 hb
    have elb2 : g 2 b = nI (lenV g 1 b) := elb
    rw [elb2] at u2'
    have : ¬ lenV g 1 b = 0 := fun z => u2' (by rw [z]; decide)
    omega
  refine smr_S_perform_50 (isT_j hj6) _ _ ?_
  rw [nI_clamp (n := d) (by omega), nI_clamp (n := 12 * p + w) (by omega), epl, nI_1 w]
  have v6 : vp_in (nI d) 6 := vp_in_nI hd6 (by decide)
  have v72 : vp_in (nI (12 * p + w)) 72 := vp_in_nI (by omega) (by decide)
  refine ⟨v6, v6, fun g1 eg1 => ?_⟩
  have C1 : Cur g1 j n d p (w + 1) := by
    rw [eg1]
    exact kP C hw1
  have r3 : ∀ q, ¬ q = 28 + 6 * j + 2 → g1 q = g q := fun q hq => by rw [eg1, mw_ne hq]
  have r64 : ∀ q, 64 ≤ q → g1 q = g q := fun q hq => r3 q (by omega)
  have ed1 := C1.2.2.2.1
  have e71 := C1.2.2.2.2.2.2.2.2.2
  rw [r3 3 (by omega), r3 4 (by omega), r3 5 (by omega), r3 6 (by omega), eo]
  refine ⟨v72, fun y4 ey4 => ⟨v72, fun y5 ey5 => ⟨v72, fun y6 ey6 => ⟨v72, ⟨fun z => absurd z (by decide), fun z => absurd z (by decide), fun z => absurd z (by decide), fun z => absurd z (by decide), fun z => absurd z (by decide), fun _ => ?_, fun z => absurd z (by decide), fun z => absurd z (by decide), fun z => absurd z (by decide), fun z => absurd z (by decide), fun z => absurd z (by decide), fun z => absurd z (by decide), fun _ _ _ _ _ z _ _ _ _ _ _ => absurd rfl z⟩⟩⟩⟩⟩
  subst ey4 ey5 ey6
  rw [ea, eb, ec]
  refine smr_S_call (isT_j hj6) _ _ _ ?_
  rw [ed1]
  refine ⟨fun z => ?_, fun z => ?_⟩
  · have hd5 : d + 1 < 6 := (nI_ltI (a := d + 1) (b := 6) (by omega) (by omega)).mp z
    refine us_eq (sp_T_local hj6 hd6 ed1 hc) (us_v (sp_T_push hj6 hd5 ed1 _ _ _) ⟨fun q hq => by rw [tpush_ne (by omega), r64 q hq], kU C1 hd5 hb ?_ ha _, fun h hL => ?_⟩)
    · unfold lenV at hlb ⊢
      rw [r3 _ (by omega)]
      exact hlb
    refine act_in C hL (fun z => absurd (eo.symm.trans z) (by decide)) (fun _ => ?_)
    obtain ⟨l1, l2, l3, l4⟩ := Rs_fr C hL
    refine smr_M_act_95 _ _ _ _ _ _ _ ?_
    have g1' : nI (36 * (j + 1) + 6 * d) + 1 = nI (36 * (j + 1) + 6 * d + 1) := nI_add _ 1
    rw [g1', nI_clamp (n := 36 * (j + 1) + 6 * d + 1) (by omega), l2, nI_1 w, eo, ea, eb, ec]
    refine ⟨vp_in_nI (by omega) (by decide), vp_in_nI (by omega) (by decide), fun h1 eh1 => ?_⟩
    have hL1 : Rs j g1 h1 := by
      rw [eg1, eh1]
      exact kPL C hL _
    obtain ⟨m1, m2, m3, m4⟩ := Rs_fr C1 hL1
    have q64 : ∀ q, q < 64 → h1 q = h q := fun q hq => by rw [eh1, mw_ne (by omega)]
    refine ⟨fun z => absurd z (by decide), fun z => absurd z (by decide), fun z => absurd z (by decide), fun z => absurd z (by decide), fun z => absurd z (by decide), fun _ => ?_, fun z => absurd z (by decide), fun z => absurd z (by decide), fun z => absurd z (by decide), fun z => absurd z (by decide), fun z => absurd z (by decide), fun _ _ _ _ _ z _ _ _ _ _ _ => absurd rfl z⟩
    have e77 : h1 77 (j + 1) = nI (d + 1) := hL1.2.2.2.2.2.2.2.1.trans ed1
    rw [tk4 hj6, e77, nI_add (36 * (j + 1) + 6 * d + 2) c, nI_clamp (n := 36 * (j + 1) + 6 * d + 2 + c) (by omega), m3 c hc]
    refine ⟨tk3 hj6, br_n (fun y => ?_) ⟨vp_in_nI (by omega) (by decide), us_v (sp_M_push (by omega) hd5 e77 _ _ _) ⟨?_, fun q hq => by rw [mpush_ne (by omega), q64 q hq], kUL C1 hL1 hd5 _ _ _⟩⟩⟩
    · have : d + 1 = 6 := nI_in' (by omega) (by omega) y
      omega
    · rw [tpush_o (by omega), e71]
  · have hd5 : d + 1 = 6 := by
      have : ¬ d + 1 < 6 := fun y => z (nI_lt (a := d + 1) (b := 6) y (by omega))
      omega
    refine us_v (sp_T_fail hj6) ⟨fun q hq => by rw [mw_ne (by omega), mw_ne (by omega), r64 q hq], kF C1, fun h hL => ?_⟩
    refine act_in C hL (fun z => absurd (eo.symm.trans z) (by decide)) (fun _ => ?_)
    obtain ⟨l1, l2, l3, l4⟩ := Rs_fr C hL
    refine smr_M_act_95 _ _ _ _ _ _ _ ?_
    have g1' : nI (36 * (j + 1) + 6 * d) + 1 = nI (36 * (j + 1) + 6 * d + 1) := nI_add _ 1
    rw [g1', nI_clamp (n := 36 * (j + 1) + 6 * d + 1) (by omega), l2, nI_1 w, eo, ea, eb, ec]
    refine ⟨vp_in_nI (by omega) (by decide), vp_in_nI (by omega) (by decide), fun h1 eh1 => ?_⟩
    have hL1 : Rs j g1 h1 := by
      rw [eg1, eh1]
      exact kPL C hL _
    obtain ⟨m1, m2, m3, m4⟩ := Rs_fr C1 hL1
    have q64 : ∀ q, q < 64 → h1 q = h q := fun q hq => by rw [eh1, mw_ne (by omega)]
    refine ⟨fun z => absurd z (by decide), fun z => absurd z (by decide), fun z => absurd z (by decide), fun z => absurd z (by decide), fun z => absurd z (by decide), fun _ => ?_, fun z => absurd z (by decide), fun z => absurd z (by decide), fun z => absurd z (by decide), fun z => absurd z (by decide), fun z => absurd z (by decide), fun _ _ _ _ _ z _ _ _ _ _ _ => absurd rfl z⟩
    have e77 : h1 77 (j + 1) = nI (d + 1) := hL1.2.2.2.2.2.2.2.1.trans ed1
    rw [tk4 hj6, e77]
    refine ⟨tk3 hj6, br_p (by rw [hd5]; rfl) (mm_SI_mono (sp_M_fault hj6) (fun r h2 q => ?_))⟩
    obtain ⟨eh2, rfl⟩ := q
    refine ⟨mw_hit.symm, fun q hq => by rw [eh2, mw_ne (by omega), q64 q hq], ?_⟩
    rw [eh2]
    exact kFL C1 hL1
theorem st_9 {g : mm_Mem} {j n d p w : Nat} (C : Cur g j n d p w) (eo : g 3 (12 * p + w) = 9) : mm_W Γ smM_S_perform (mm_pV (StpR Γ j n g)) 50 [some (.ref (mm_B Γ + 0)), some (.ref (mm_B Γ + (28 + 6 * j))), some (.int (nI d)), some (.int (nI (12 * p + w))), none, none, none] [] g := by
  obtain ⟨hj6, hl12, el⟩ := Cur_j C
  have hd6 := C.2.2.2.2.1
  have hp6 := C.2.2.2.2.2.1
  have hwl := C.2.2.2.2.2.2.1
  have epl := C.2.2.2.2.2.2.2.2.1
  obtain ⟨hr, hlast⟩ := C.1.1.1.2 p w hp6 hwl
  have hw1 : w + 1 < lenV g 1 p := by
    by_cases z : w + 1 = lenV g 1 p
    · have z2 : g 3 (12 * p + w) = 0 := hlast z
      rw [eo] at z2
      exact absurd z2 (by decide)
    · omega
  obtain ⟨u1, u2⟩ := ro_9 hr (Or.inl eo)
  obtain ⟨a, ha, ea, -⟩ := vin_of u1 (by decide)
  obtain ⟨b, hb, eb, -⟩ := vin_of u2 (by decide)
  refine smr_S_perform_50 (isT_j hj6) _ _ ?_
  rw [nI_clamp (n := d) (by omega), nI_clamp (n := 12 * p + w) (by omega), epl, nI_1 w]
  have v6 : vp_in (nI d) 6 := vp_in_nI hd6 (by decide)
  have v72 : vp_in (nI (12 * p + w)) 72 := vp_in_nI (by omega) (by decide)
  refine ⟨v6, v6, fun g1 eg1 => ?_⟩
  have C1 : Cur g1 j n d p (w + 1) := by
    rw [eg1]
    exact kP C hw1
  have r3 : ∀ q, ¬ q = 28 + 6 * j + 2 → g1 q = g q := fun q hq => by rw [eg1, mw_ne hq]
  have r64 : ∀ q, 64 ≤ q → g1 q = g q := fun q hq => r3 q (by omega)
  have ed1 := C1.2.2.2.1
  have e71 := C1.2.2.2.2.2.2.2.2.2
  rw [r3 3 (by omega), r3 4 (by omega), r3 5 (by omega), r3 6 (by omega), eo]
  refine ⟨v72, fun y4 ey4 => ⟨v72, fun y5 ey5 => ⟨v72, fun y6 ey6 => ⟨v72, ⟨fun z => absurd z (by decide), fun z => absurd z (by decide), fun z => absurd z (by decide), fun z => absurd z (by decide), fun z => absurd z (by decide), fun z => absurd z (by decide), fun z => absurd z (by decide), fun z => absurd z (by decide), fun z => absurd z (by decide), fun _ => ?_, fun z => absurd z (by decide), fun z => absurd z (by decide), fun _ _ _ _ _ _ _ _ _ z _ _ => absurd rfl z⟩⟩⟩⟩⟩
  subst ey4 ey5
  rw [ea, eb, nI_clamp (n := b) (by omega)]
  refine ⟨vp_in_nI (by omega) (by decide), us_v (sp_T_setLocal hj6 hd6 ed1 ha _) ⟨fun q hq => by rw [mw_ne (by omega), r64 q hq], kL C1 _ _, fun h hL => ?_⟩⟩
  refine act_in C hL (fun z => absurd (eo.symm.trans z) (by decide)) (fun _ => ?_)
  obtain ⟨l1, l2, l3, l4⟩ := Rs_fr C hL
  refine smr_M_act_95 _ _ _ _ _ _ _ ?_
  have g1' : nI (36 * (j + 1) + 6 * d) + 1 = nI (36 * (j + 1) + 6 * d + 1) := nI_add _ 1
  rw [g1', nI_clamp (n := 36 * (j + 1) + 6 * d + 1) (by omega), l2, nI_1 w, eo, ea, eb]
  refine ⟨vp_in_nI (by omega) (by decide), vp_in_nI (by omega) (by decide), fun h1 eh1 => ?_⟩
  have hL1 : Rs j g1 h1 := by
    rw [eg1, eh1]
    exact kPL C hL _
  obtain ⟨m1, m2, m3, m4⟩ := Rs_fr C1 hL1
  have q64 : ∀ q, q < 64 → h1 q = h q := fun q hq => by rw [eh1, mw_ne (by omega)]
  refine ⟨fun z => absurd z (by decide), fun z => absurd z (by decide), fun z => absurd z (by decide), fun z => absurd z (by decide), fun z => absurd z (by decide), fun z => absurd z (by decide), fun z => absurd z (by decide), fun z => absurd z (by decide), fun _ => ?_, fun z => absurd z (by decide), fun z => absurd z (by decide), fun _ _ _ _ _ _ _ _ _ z _ _ => absurd rfl z⟩
  rw [nI_add (36 * (j + 1) + 6 * d + 2) a, nI_clamp (n := 36 * (j + 1) + 6 * d + 2 + a) (by omega), nI_clamp (n := b) (by omega), hL1.2.2.2.2.1 b hb]
  refine ⟨vp_in_nI (by omega) (by decide), vp_in_nI (by omega) (by decide), fun h2 eh2 => ⟨?_, fun q hq => by rw [eh2, mw_ne (by omega), q64 q hq], ?_⟩⟩
  · rw [mw_ne (by omega), e71]
  · rw [eh2]
    exact kLL C1 hL1 ha _
theorem st_10 {g : mm_Mem} {j n d p w : Nat} (C : Cur g j n d p w) (eo : g 3 (12 * p + w) = 10) : mm_W Γ smM_S_perform (mm_pV (StpR Γ j n g)) 50 [some (.ref (mm_B Γ + 0)), some (.ref (mm_B Γ + (28 + 6 * j))), some (.int (nI d)), some (.int (nI (12 * p + w))), none, none, none] [] g := by
  obtain ⟨hj6, hl12, el⟩ := Cur_j C
  have hd6 := C.2.2.2.2.1
  have hp6 := C.2.2.2.2.2.1
  have hwl := C.2.2.2.2.2.2.1
  have epl := C.2.2.2.2.2.2.2.2.1
  obtain ⟨hr, hlast⟩ := C.1.1.1.2 p w hp6 hwl
  have hw1 : w + 1 < lenV g 1 p := by
    by_cases z : w + 1 = lenV g 1 p
    · have z2 : g 3 (12 * p + w) = 0 := hlast z
      rw [eo] at z2
      exact absurd z2 (by decide)
    · omega
  obtain ⟨u1, u2⟩ := ro_9 hr (Or.inr eo)
  obtain ⟨a, ha, ea, -⟩ := vin_of u1 (by decide)
  obtain ⟨b, hb, eb, -⟩ := vin_of u2 (by decide)
  refine smr_S_perform_50 (isT_j hj6) _ _ ?_
  rw [nI_clamp (n := d) (by omega), nI_clamp (n := 12 * p + w) (by omega), epl, nI_1 w]
  have v6 : vp_in (nI d) 6 := vp_in_nI hd6 (by decide)
  have v72 : vp_in (nI (12 * p + w)) 72 := vp_in_nI (by omega) (by decide)
  refine ⟨v6, v6, fun g1 eg1 => ?_⟩
  have C1 : Cur g1 j n d p (w + 1) := by
    rw [eg1]
    exact kP C hw1
  have r3 : ∀ q, ¬ q = 28 + 6 * j + 2 → g1 q = g q := fun q hq => by rw [eg1, mw_ne hq]
  have r64 : ∀ q, 64 ≤ q → g1 q = g q := fun q hq => r3 q (by omega)
  have ed1 := C1.2.2.2.1
  have e71 := C1.2.2.2.2.2.2.2.2.2
  rw [r3 3 (by omega), r3 4 (by omega), r3 5 (by omega), r3 6 (by omega), eo]
  refine ⟨v72, fun y4 ey4 => ⟨v72, fun y5 ey5 => ⟨v72, fun y6 ey6 => ⟨v72, ⟨fun z => absurd z (by decide), fun z => absurd z (by decide), fun z => absurd z (by decide), fun z => absurd z (by decide), fun z => absurd z (by decide), fun z => absurd z (by decide), fun z => absurd z (by decide), fun z => absurd z (by decide), fun z => absurd z (by decide), fun z => absurd z (by decide), fun _ => ?_, fun z => absurd z (by decide), fun _ _ _ _ _ _ _ _ _ _ z _ => absurd rfl z⟩⟩⟩⟩⟩
  subst ey4 ey5
  rw [ea, eb, nI_clamp (n := b) (by omega)]
  refine us_eq (sp_T_local hj6 hd6 ed1 ha) ⟨vp_in_nI (by omega) (by decide), fun g2 eg2 => ?_⟩
  subst eg2
  refine ⟨fun q hq => by rw [mw_ne (by omega), r64 q hq], kG C1.1 C1.2.1 _ _, fun h hL => ?_⟩
  refine act_in C hL (fun z => absurd (eo.symm.trans z) (by decide)) (fun _ => ?_)
  obtain ⟨l1, l2, l3, l4⟩ := Rs_fr C hL
  refine smr_M_act_95 _ _ _ _ _ _ _ ?_
  have g1' : nI (36 * (j + 1) + 6 * d) + 1 = nI (36 * (j + 1) + 6 * d + 1) := nI_add _ 1
  rw [g1', nI_clamp (n := 36 * (j + 1) + 6 * d + 1) (by omega), l2, nI_1 w, eo, ea, eb]
  refine ⟨vp_in_nI (by omega) (by decide), vp_in_nI (by omega) (by decide), fun h1 eh1 => ?_⟩
  have hL1 : Rs j g1 h1 := by
    rw [eg1, eh1]
    exact kPL C hL _
  obtain ⟨m1, m2, m3, m4⟩ := Rs_fr C1 hL1
  have q64 : ∀ q, q < 64 → h1 q = h q := fun q hq => by rw [eh1, mw_ne (by omega)]
  refine ⟨fun z => absurd z (by decide), fun z => absurd z (by decide), fun z => absurd z (by decide), fun z => absurd z (by decide), fun z => absurd z (by decide), fun z => absurd z (by decide), fun z => absurd z (by decide), fun z => absurd z (by decide), fun z => absurd z (by decide), fun _ => ?_, fun z => absurd z (by decide), fun _ _ _ _ _ _ _ _ _ _ z _ => absurd rfl z⟩
  rw [nI_add (36 * (j + 1) + 6 * d + 2) a, nI_clamp (n := 36 * (j + 1) + 6 * d + 2 + a) (by omega), nI_clamp (n := b) (by omega), m3 a ha]
  refine ⟨vp_in_nI (by omega) (by decide), vp_in_nI (by omega) (by decide), fun h2 eh2 => ⟨?_, fun q hq => by rw [eh2, mw_ne (by omega), q64 q hq], ?_⟩⟩
  · rw [mw_ne (by omega), e71]
  · rw [eh2]
    exact kGL C1.1 C1.2.1 hL1 _ _
theorem st_12 {g : mm_Mem} {j n d p w : Nat} (C : Cur g j n d p w) (eo : g 3 (12 * p + w) = 12) : mm_W Γ smM_S_perform (mm_pV (StpR Γ j n g)) 50 [some (.ref (mm_B Γ + 0)), some (.ref (mm_B Γ + (28 + 6 * j))), some (.int (nI d)), some (.int (nI (12 * p + w))), none, none, none] [] g := by
  obtain ⟨hj6, hl12, el⟩ := Cur_j C
  have hd6 := C.2.2.2.2.1
  have hp6 := C.2.2.2.2.2.1
  have hwl := C.2.2.2.2.2.2.1
  have epl := C.2.2.2.2.2.2.2.2.1
  obtain ⟨hr, hlast⟩ := C.1.1.1.2 p w hp6 hwl
  have hw1 : w + 1 < lenV g 1 p := by
    by_cases z : w + 1 = lenV g 1 p
    · have z2 : g 3 (12 * p + w) = 0 := hlast z
      rw [eo] at z2
      exact absurd z2 (by decide)
    · omega
  refine smr_S_perform_50 (isT_j hj6) _ _ ?_
  rw [nI_clamp (n := d) (by omega), nI_clamp (n := 12 * p + w) (by omega), epl, nI_1 w]
  have v6 : vp_in (nI d) 6 := vp_in_nI hd6 (by decide)
  have v72 : vp_in (nI (12 * p + w)) 72 := vp_in_nI (by omega) (by decide)
  refine ⟨v6, v6, fun g1 eg1 => ?_⟩
  have C1 : Cur g1 j n d p (w + 1) := by
    rw [eg1]
    exact kP C hw1
  have r3 : ∀ q, ¬ q = 28 + 6 * j + 2 → g1 q = g q := fun q hq => by rw [eg1, mw_ne hq]
  have r64 : ∀ q, 64 ≤ q → g1 q = g q := fun q hq => r3 q (by omega)
  have ed1 := C1.2.2.2.1
  have e71 := C1.2.2.2.2.2.2.2.2.2
  rw [r3 3 (by omega), r3 4 (by omega), r3 5 (by omega), r3 6 (by omega), eo]
  refine ⟨v72, fun y4 ey4 => ⟨v72, fun y5 ey5 => ⟨v72, fun y6 ey6 => ⟨v72, ⟨fun z => absurd z (by decide), fun z => absurd z (by decide), fun z => absurd z (by decide), fun z => absurd z (by decide), fun z => absurd z (by decide), fun z => absurd z (by decide), fun z => absurd z (by decide), fun z => absurd z (by decide), fun z => absurd z (by decide), fun z => absurd z (by decide), fun z => absurd z (by decide), fun z => absurd z (by decide), fun _ _ _ _ _ _ _ _ _ _ _ _ => ?_⟩⟩⟩⟩⟩
  refine ⟨r64, C1.1, fun h hL => ?_⟩
  refine act_in C hL (fun z => absurd (eo.symm.trans z) (by decide)) (fun _ => ?_)
  obtain ⟨l1, l2, l3, l4⟩ := Rs_fr C hL
  refine smr_M_act_95 _ _ _ _ _ _ _ ?_
  have g1' : nI (36 * (j + 1) + 6 * d) + 1 = nI (36 * (j + 1) + 6 * d + 1) := nI_add _ 1
  rw [g1', nI_clamp (n := 36 * (j + 1) + 6 * d + 1) (by omega), l2, nI_1 w, eo]
  refine ⟨vp_in_nI (by omega) (by decide), vp_in_nI (by omega) (by decide), fun h1 eh1 => ?_⟩
  have hL1 : Rs j g1 h1 := by
    rw [eg1, eh1]
    exact kPL C hL _
  obtain ⟨m1, m2, m3, m4⟩ := Rs_fr C1 hL1
  have q64 : ∀ q, q < 64 → h1 q = h q := fun q hq => by rw [eh1, mw_ne (by omega)]
  refine ⟨fun z => absurd z (by decide), fun z => absurd z (by decide), fun z => absurd z (by decide), fun z => absurd z (by decide), fun z => absurd z (by decide), fun z => absurd z (by decide), fun z => absurd z (by decide), fun z => absurd z (by decide), fun z => absurd z (by decide), fun z => absurd z (by decide), fun z => absurd z (by decide), fun _ _ _ _ _ _ _ _ _ _ _ _ => ?_⟩
  exact ⟨e71.symm, q64, hL1⟩
end OP
