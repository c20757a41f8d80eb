section TK
variable {Γ : mm_Ctx}
/-- of the tasks, only the one at j is changed -/
def onlyT (j : Nat) (h h2 : mm_Mem) : Prop := (∀ q, 28 ≤ q → q < 64 → ¬ (28 + 6 * j ≤ q ∧ q < 34 + 6 * j) → h2 q = h q) ∧ (∀ x, ¬ x = j + 1 → h2 75 x = h 75 x ∧ h2 76 x = h 76 x ∧ h2 77 x = h 77 x ∧ h2 79 x = h 79 x) ∧ (∀ x, ¬ (36 * (j + 1) ≤ x ∧ x < 36 * (j + 1) + 36) → h2 78 x = h 78 x) ∧ (∀ x, ¬ (8 * (j + 1) ≤ x ∧ x < 8 * (j + 1) + 8) → h2 80 x = h 80 x)
theorem onlyT_L {j i : Nat} {h h2 : mm_Mem} (ho : onlyT j h h2) (hij : ¬ i = j) (hi : i < 6) (hd : dep h i ≤ 6) (hq : (h (28 + 6 * i) 6).toNatClampNeg ≤ 8) (k : Ltask h h i) : Ltask h2 h2 i := by
  obtain ⟨o1, o2, o3, o4⟩ := ho
  have e : ∀ x, x ≤ 5 → h2 (28 + 6 * i + x) = h (28 + 6 * i + x) := fun x hx => o1 _ (by omega) (by omega) (by omega)
  have e0 : h2 (28 + 6 * i) = h (28 + 6 * i) := e 0 (by omega)
  obtain ⟨c75, c76, c77, c79⟩ := o2 (i + 1) (by omega)
  obtain ⟨k1, k2, k3, k4, k5, k6⟩ := k
  have ed : dep h2 i = dep h i := dep_congr (by rw [e0])
  refine ⟨by rw [c77, e0, k1], by rw [c79, e0, k2], by rw [c75, e0, k3], by rw [c76, e0, k4], fun x hx => ?_, fun x hx => ?_⟩
  · rw [ed] at hx
    obtain ⟨f1, f2, f3, f4⟩ := k5 x hx
    rw [e 1 (by omega), e 2 (by omega), e 3 (by omega), e 4 (by omega), o3 _ (by omega), o3 _ (by omega), o3 _ (by omega)]
    refine ⟨f1, f2, fun y hy => ?_, f4⟩
    rw [o3 _ (by omega)]
    exact f3 y hy
  · rw [e0] at hx
    rw [e 5 (by omega), o4 _ (by omega)]
    exact k6 x hx
theorem onlyT_I {j i : Nat} {h h2 : mm_Mem} (ho : onlyT j h h2) (hij : ¬ i = j) (hi : i < 6) (e2 : h2 2 = h 2) (k : Itask h i) : Itask h2 i :=
  Itask_congr e2 (ho.1 _ (by omega) (by omega) (by omega)) (fun x _ _ => ho.1 _ (by omega) (by omega) (by omega)) k
theorem Itask_q {g : mm_Mem} {i : Nat} (k : Itask g i) : dep g i ≤ 6 ∧ (g (28 + 6 * i) 6).toNatClampNeg ≤ 8 := by
  obtain ⟨⟨d, hd, ed⟩, ⟨q, hq, eq⟩, -⟩ := k
  unfold dep
  rw [ed, eq, nI_clamp (by omega), nI_clamp (by omega)]
  exact ⟨hd, hq⟩
theorem Itasks_q {g : mm_Mem} {n : Nat} (k : Itasks g n) {i : Nat} (hi : i < 6) : dep g i ≤ 6 ∧ (g (28 + 6 * i) 6).toNatClampNeg ≤ 8 := by
  by_cases hn : i < n
  · exact Itask_q (k.2.2.1 i hn)
  · obtain ⟨z1, z2, -⟩ := k.2.2.2 i (by omega) hi
    unfold dep
    rw [z1, z2, cl_0]
    exact ⟨by omega, by omega⟩
/-- the tasks alone are changed -/
theorem Rel_tk {h h2 : mm_Mem} (hR : Rel h) (ec : ∀ q, 0 < q → q < 28 → h2 q = h q) (e8 : h2 0 8 = h 0 8) (e7 : h2 0 7 = h 0 7) (er : ∀ q, 64 < q → q < 75 → h2 q = h q) (f5 : h2 64 5 = h 64 5) (f6 : h2 64 6 = h 64 6) (f12 : h2 64 12 = h2 0 6) (it : ∃ n, Itasks h2 n) (lt : ∀ i, i < 6 → Ltask h2 h2 i) : Rel h2 := by
  obtain ⟨⟨⟨k1, k2⟩, k3, k4, k5, k6, -⟩, ⟨c1, c2, c3⟩, d2, d3, d4, d5, d6, d7⟩ := hR
  exact ⟨⟨⟨Iv_congr (ec _ (by omega) (by omega)) (ec _ (by omega) (by omega)) k1, okV_congr (fun q _ _ => ec q (by omega) (by omega)) k2⟩, Iv_congr (ec _ (by omega) (by omega)) (ec _ (by omega) (by omega)) k3, Istg_congr e8 (fun q _ _ => ec q (by omega) (by omega)) (ec _ (by omega) (by omega)) (ec _ (by omega) (by omega)) (ec _ (by omega) (by omega)) k4, Irul_congr (ec _ (by omega) (by omega)) (ec _ (by omega) (by omega)) (ec _ (by omega) (by omega)) (ec _ (by omega) (by omega)) (ec _ (by omega) (by omega)) (ec _ (by omega) (by omega)) k5, Iheap_congr (ec _ (by omega) (by omega)) (ec _ (by omega) (by omega)) (ec _ (by omega) (by omega)) k6, it⟩, ⟨by rw [f5, e8]; exact c1, by rw [f6, e7]; exact c2, f12⟩, Lver_congr (fun q _ _ => ec q (by omega) (by omega)) (er _ (by omega) (by omega)) (er _ (by omega) (by omega)) (er _ (by omega) (by omega)) d2, Lver_congr (fun q _ _ => ec q (by omega) (by omega)) (er _ (by omega) (by omega)) (er _ (by omega) (by omega)) (er _ (by omega) (by omega)) d3, Lrul_congr (ec _ (by omega) (by omega)) (ec _ (by omega) (by omega)) (ec _ (by omega) (by omega)) (ec _ (by omega) (by omega)) (er _ (by omega) (by omega)) (er _ (by omega) (by omega)) d4, Lglob_congr (ec _ (by omega) (by omega)) (er _ (by omega) (by omega)) d5, Lheap_congr (ec _ (by omega) (by omega)) (ec _ (by omega) (by omega)) (ec _ (by omega) (by omega)) (er _ (by omega) (by omega)) (er _ (by omega) (by omega)) d6, lt⟩
theorem isT_j {j : Nat} (hj : j < 6) : mm_isT (28 + 6 * j) := ⟨j, hj, rfl⟩
theorem Rel_send {h : mm_Mem} (hR : Rel h) {n j q : Nat} (hT : Itasks h n) (hj : j < n) (eq : h (28 + 6 * j) 6 = nI q) (hq : q < 8) (x : Int32) : Rel (mm_wr (mm_wr (mm_wr (mm_wr h (28 + 6 * j + 5) q x) (28 + 6 * j) 6 (nI (q + 1))) 80 (8 * (j + 1) + q) x) 79 (j + 1) (nI (q + 1))) := by
  have hn6 := hT.1
  generalize e2 : mm_wr (mm_wr (mm_wr (mm_wr h (28 + 6 * j + 5) q x) (28 + 6 * j) 6 (nI (q + 1))) 80 (8 * (j + 1) + q) x) 79 (j + 1) (nI (q + 1)) = h2
  have ec : ∀ r, ¬ r = 28 + 6 * j → ¬ r = 28 + 6 * j + 5 → ¬ r = 79 → ¬ r = 80 → h2 r = h r := fun r a b c d => by
    rw [← e2]
    simp (disch := omega) only [mw_ne]
  have ei : ∀ k, ¬ k = 6 → h2 (28 + 6 * j) k = h (28 + 6 * j) k := fun k hk => by
    rw [← e2]
    simp (disch := omega) only [mw_miss]
  have e6 : h2 (28 + 6 * j) 6 = nI (q + 1) := by
    rw [← e2]
    simp (disch := omega) only [mw_miss, mw_hit]
  have e5q : h2 (28 + 6 * j + 5) q = x := by
    rw [← e2]
    simp (disch := omega) only [mw_miss, mw_hit]
  have e5o : ∀ k, ¬ k = q → h2 (28 + 6 * j + 5) k = h (28 + 6 * j + 5) k := fun k hk => by
    rw [← e2]
    simp (disch := omega) only [mw_miss]
  have f80 : h2 80 (8 * (j + 1) + q) = x := by
    rw [← e2]
    simp (disch := omega) only [mw_miss, mw_hit]
  have f80o : ∀ k, ¬ k = 8 * (j + 1) + q → h2 80 k = h 80 k := fun k hk => by
    rw [← e2]
    simp (disch := omega) only [mw_miss]
  have f79 : h2 79 (j + 1) = nI (q + 1) := by
    rw [← e2, mw_hit]
  have f79o : ∀ k, ¬ k = j + 1 → h2 79 k = h 79 k := fun k hk => by
    rw [← e2]
    simp (disch := omega) only [mw_miss]
  have ho : onlyT j h h2 := ⟨fun r a b c => ec r (by omega) (by omega) (by omega) (by omega), fun y hy => ⟨by rw [ec 75 (by omega) (by omega) (by omega) (by omega)], by rw [ec 76 (by omega) (by omega) (by omega) (by omega)], by rw [ec 77 (by omega) (by omega) (by omega) (by omega)], f79o y hy⟩, fun y _ => by rw [ec 78 (by omega) (by omega) (by omega) (by omega)], fun y hy => f80o y (by omega)⟩
  have ed : dep h2 j = dep h j := dep_congr (ei 5 (by omega))
  have hLj := Rel_lt hR (i := j) (by omega)
  refine Rel_tk hR (fun r _ _ => ec r (by omega) (by omega) (by omega) (by omega)) (by rw [ec 0 (by omega) (by omega) (by omega) (by omega)]) (by rw [ec 0 (by omega) (by omega) (by omega) (by omega)]) (fun r _ _ => ec r (by omega) (by omega) (by omega) (by omega)) (by rw [ec 64 (by omega) (by omega) (by omega) (by omega)]) (by rw [ec 64 (by omega) (by omega) (by omega) (by omega)]) (by rw [ec 64 (by omega) (by omega) (by omega) (by omega), ec 0 (by omega) (by omega) (by omega) (by omega)]; exact hR.2.1.2.2) ⟨n, hn6, by rw [ec 0 (by omega) (by omega) (by omega) (by omega)]; exact hT.2.1, fun i hi => ?_, fun i h1 h2' => ?_⟩ (fun i hi => ?_)
  · by_cases hij : i = j
    · subst hij
      obtain ⟨a1, a2, a3, a4, a5⟩ := hT.2.2.1 i hi
      unfold Itask
      rw [ed, ei 5 (by omega), ei 7 (by omega), e6]
      refine ⟨a1, ⟨q + 1, by omega, rfl⟩, a3, a4, fun k hk => ?_⟩
      rw [ec (28 + 6 * i + 1) (by omega) (by omega) (by omega) (by omega), ec (28 + 6 * i + 2) (by omega) (by omega) (by omega) (by omega), ec (28 + 6 * i + 4) (by omega) (by omega) (by omega) (by omega)]
      have el : ∀ p, lenV h2 1 p = lenV h 1 p := fun p => by
        show (h2 2 p).toNatClampNeg = _
        rw [ec 2 (by omega) (by omega) (by omega) (by omega)]
        rfl
      simp only [el]
      exact a5 k hk
    · exact onlyT_I ho hij (by omega) (ec 2 (by omega) (by omega) (by omega) (by omega)) (hT.2.2.1 i hi)
  · rw [ec _ (by omega) (by omega) (by omega) (by omega)]
    exact hT.2.2.2 i h1 h2'
  · by_cases hij : i = j
    · subst hij
      obtain ⟨a1, a2, a3, a4, a5, a6⟩ := hLj
      unfold Ltask
      rw [ed, ei 5 (by omega), ei 7 (by omega), ei 8 (by omega), e6, f79, ec 77 (by omega) (by omega) (by omega) (by omega), ec 75 (by omega) (by omega) (by omega) (by omega), ec 76 (by omega) (by omega) (by omega) (by omega), ec 78 (by omega) (by omega) (by omega) (by omega), ec (28 + 6 * i + 1) (by omega) (by omega) (by omega) (by omega), ec (28 + 6 * i + 2) (by omega) (by omega) (by omega) (by omega), ec (28 + 6 * i + 3) (by omega) (by omega) (by omega) (by omega), ec (28 + 6 * i + 4) (by omega) (by omega) (by omega) (by omega)]
      refine ⟨a1, rfl, a3, a4, a5, fun k hk => ?_⟩
      rw [nI_clamp (by omega)] at hk
      by_cases hkq : k = q
      · subst hkq
        rw [f80, e5q]
      · rw [f80o _ (by omega), e5o _ hkq]
        exact a6 k (by rw [eq, nI_clamp (by omega)]; omega)
    · obtain ⟨q1, q2⟩ := Itasks_q hT hi
      exact onlyT_L ho hij hi q1 q2 (Rel_lt hR hi)
theorem pr_send (x0 x1 : Int32) : mm_pair Γ Rel smM_S_send smM_M_send [.int x0, .int x1] := by
  intro h hR
  obtain ⟨n, hn, e0, e64, hT⟩ := Rel_task hR
  by_cases hx : ∃ j, j < n ∧ x0 = nI (j + 1)
  · obtain ⟨j, hj, rfl⟩ := hx
    have hj6 : j < 6 := by omega
    obtain ⟨-, ⟨q, hq, eq⟩, ⟨c, hc, ecn⟩, -⟩ := hT.2.2.1 j hj
    have hl := Rel_lt hR hj6
    have e75 : h 75 (j + 1) = nI c := hl.2.2.1.trans ecn
    have e79 : h 79 (j + 1) = nI q := hl.2.1.trans eq
    refine smr_S_send _ _ (us_br' (sp_S_isTask hn e0) (fun _ => ⟨tk1 hj6, fun t ht hT' => ?_⟩) (fun z => absurd ⟨j, hj, rfl⟩ z))
    rw [tk2 hj6] at ht
    subst ht
    rw [ecn, eq]
    have run : ∀ (h1 : mm_Mem) (post : Int32 → mm_Mem → Prop), h1 64 12 = nI n → h1 75 (j + 1) = nI c → h1 79 (j + 1) = nI q → (2 ≤ c → post (-2) h1) → (c ≤ 1 → q = 8 → post (-3) h1) → (c ≤ 1 → q < 8 → post (nI (q + 1)) (mm_wr (mm_wr h1 80 (8 * (j + 1) + q) x1) 79 (j + 1) (nI (q + 1)))) → mm_SI Γ smM_M_send [.ref (mm_B Γ + 64), .int (nI (j + 1)), .int x1] h1 post := by
      intro h1 post u12 u75 u79 k2 k3 kw
      refine smr_M_send _ _ (us_br' (sp_M_isTask hn u12) (fun _ => ⟨tk3 hj6, ?_⟩) (fun z => absurd ⟨j, hj, rfl⟩ z))
      rw [tk4 hj6, u75, u79]
      refine ⟨fun a => ⟨tk3 hj6, fun b => ⟨tk3 hj6, ?_⟩, fun b => k3 ?_ ?_⟩, fun a => k2 ?_⟩
      · have hc1 : c ≤ 1 := (nI_leI (a := c) (b := 1) (by omega) (by omega)).mp a
        have hq8 : q < 8 := by
          have : ¬ q = 8 := fun e => b (by rw [e]; rfl)
          omega
        have g : (8 : Int32) * nI (j + 1) + nI q = nI (8 * (j + 1) + q) := by
          show nI 8 * nI (j + 1) + nI q = _
          rw [pk_mul, nI_add]
        rw [g, nI_clamp (n := 8 * (j + 1) + q) (by omega)]
        refine ⟨vp_in_nI (by omega) (by decide), fun m1 em1 => ⟨tk3 hj6, tk3 hj6, fun m2 em2 => ⟨tk3 hj6, ?_⟩⟩⟩
        have g2 : m1 79 (j + 1) = nI q := by rw [em1, mw_miss (by omega), u79]
        rw [em2, mw_hit, g2, nI_1, em1]
        exact kw hc1 hq8
      · exact (nI_leI (a := c) (b := 1) (by omega) (by omega)).mp a
      · exact nI_in' (by omega) (by omega) b
      · have : ¬ c ≤ 1 := fun z => a (nI_le (a := c) (b := 1) z (by omega))
        omega
    have no : 2 ≤ c → mm_SI Γ smM_M_send [.ref (mm_B Γ + 64), .int (nI (j + 1)), .int x1] h (fun r2 h2 => -2 = r2 ∧ Rel h2) := fun h2 => run h _ e64 e75 e79 (fun _ => ⟨rfl, hR⟩) (fun z => absurd z (by omega)) (fun z => absurd z (by omega))
    refine ⟨fun a => no ?_, fun a => ⟨fun b => ⟨fun d => ?_, fun d => ?_⟩, fun b => no ?_⟩⟩
    · have : c = 2 := nI_in' (by omega) (by omega) a
      omega
    · have hq8 : q < 8 := (nI_ltI (a := q) (b := 8) (by omega) (by omega)).mp d
      have hc1 : c ≤ 1 := by
        have h2 : ¬ c = 2 := fun e => a (by rw [e]; rfl)
        have h3 : ¬ c = 3 := fun e => b (by rw [e]; rfl)
        omega
      have enq : mm_SV Γ smM_T_enqueue [.ref (mm_B Γ + (28 + 6 * j)), .int x1] h (fun h' => h' = mm_wr (mm_wr h (28 + 6 * j + 5) q x1) (28 + 6 * j) 6 (nI (q + 1))) := by
        refine smr_T_enqueue hT' _ ?_
        rw [eq, nI_clamp (by omega)]
        refine ⟨vp_in_nI hq8 (by decide), fun m1 em1 m2 em2 => ?_⟩
        rw [em2, em1, mw_miss (by omega), eq, nI_1]
      refine us_v enq ?_
      rw [mw_hit]
      refine run _ _ ?_ ?_ ?_ (fun z => absurd z (by omega)) (fun _ z => absurd z (by omega)) (fun _ _ => ⟨rfl, Rel_send hR hT hj eq hq8 x1⟩)
      · simp (disch := omega) only [mw_miss]
        exact e64
      · simp (disch := omega) only [mw_miss]
        exact e75
      · simp (disch := omega) only [mw_miss]
        exact e79
    · have hc1 : c ≤ 1 := by
        have h2 : ¬ c = 2 := fun e => a (by rw [e]; rfl)
        have h3 : ¬ c = 3 := fun e => b (by rw [e]; rfl)
        omega
      have hq8 : q = 8 := by
        have : ¬ q < 8 := fun z => d (nI_lt (a := q) (b := 8) z (by omega))
        omega
      exact run h _ e64 e75 e79 (fun z => absurd z (by omega)) (fun _ _ => ⟨rfl, hR⟩) (fun _ z => absurd z (by omega))
    · have : c = 3 := nI_in' (by omega) (by omega) b
      omega
  · refine smr_S_send _ _ (us_br' (sp_S_isTask hn e0) (fun z => absurd z hx) (fun _ => ?_))
    exact smr_M_send _ _ (us_br' (sp_M_isTask hn e64) (fun z => absurd z hx) (fun _ => ⟨rfl, hR⟩))
end TK
