section RD
variable {Γ : mm_Ctx}
theorem tk1 {j : Nat} (hj : j < 6) : vp_in (nI (j + 1) - 1) 6 := by
  rw [nI_pred]
  exact vp_in_nI hj (by decide)
theorem tk2 {j : Nat} (hj : j < 6) : (nI (j + 1) - 1).toNatClampNeg = j := by
  rw [nI_pred]
  exact nI_clamp (by omega)
theorem tk3 {j : Nat} (hj : j < 6) : vp_in (nI (j + 1)) 7 := vp_in_nI (by omega) (by decide)
theorem tk4 {j : Nat} (hj : j < 6) : (nI (j + 1)).toNatClampNeg = j + 1 := nI_clamp (by omega)
theorem Rel_task {h : mm_Mem} (hR : Rel h) : ∃ n, n ≤ 6 ∧ h 0 6 = nI n ∧ h 64 12 = nI n ∧ Itasks h n := by
  obtain ⟨⟨-, -, -, -, -, n, hn⟩, ⟨-, -, e⟩, -⟩ := hR
  exact ⟨n, hn.1, hn.2.1, e.trans hn.2.1, hn⟩
theorem Rel_lt {h : mm_Mem} (hR : Rel h) {i : Nat} (hi : i < 6) : Ltask h h i := hR.2.2.2.2.2.2.2 i hi
theorem pr_version : mm_pair Γ Rel smM_S_version smM_M_version [] := by
  intro h hR
  exact smr_S_version (smr_M_version ⟨hR.2.1.2.1.symm, hR⟩)
theorem pr_state (x0 : Int32) : mm_pair Γ Rel smM_S_state smM_M_state [.int x0] := by
  intro h hR
  obtain ⟨n, hn, e0, e64, hT⟩ := Rel_task hR
  by_cases hx : ∃ j, j < n ∧ x0 = nI (j + 1)
  · obtain ⟨j, hj, rfl⟩ := hx
    have hj6 : j < 6 := by omega
    refine smr_S_state _ (us_br (sp_S_isTask hn e0) (fun _ => ⟨tk1 hj6, fun t ht _ => ?_⟩) (fun q => absurd ⟨j, hj, rfl⟩ q))
    rw [tk2 hj6] at ht
    subst ht
    refine smr_M_state _ (us_br (sp_M_isTask hn e64) (fun _ => ⟨tk3 hj6, ?_⟩) (fun q => absurd ⟨j, hj, rfl⟩ q))
    rw [tk4 hj6]
    exact ⟨(Rel_lt hR hj6).2.2.1.symm, hR⟩
  · refine smr_S_state _ (us_br (sp_S_isTask hn e0) (fun q => absurd q hx) (fun _ => ?_))
    exact smr_M_state _ (us_br (sp_M_isTask hn e64) (fun q => absurd q hx) (fun _ => ⟨rfl, hR⟩))
theorem pr_result (x0 : Int32) : mm_pair Γ Rel smM_S_result smM_M_result [.int x0] := by
  intro h hR
  obtain ⟨n, hn, e0, e64, hT⟩ := Rel_task hR
  by_cases hx : ∃ j, j < n ∧ x0 = nI (j + 1)
  · obtain ⟨j, hj, rfl⟩ := hx
    have hj6 : j < 6 := by omega
    refine smr_S_result _ (us_br (sp_S_isTask hn e0) (fun _ => ⟨tk1 hj6, fun t ht _ => ?_⟩) (fun q => absurd ⟨j, hj, rfl⟩ q))
    rw [tk2 hj6] at ht
    subst ht
    refine smr_M_result _ (us_br (sp_M_isTask hn e64) (fun _ => ⟨tk3 hj6, ?_⟩) (fun q => absurd ⟨j, hj, rfl⟩ q))
    rw [tk4 hj6]
    exact ⟨(Rel_lt hR hj6).2.2.2.1.symm, hR⟩
  · refine smr_S_result _ (us_br (sp_S_isTask hn e0) (fun q => absurd q hx) (fun _ => ?_))
    exact smr_M_result _ (us_br (sp_M_isTask hn e64) (fun q => absurd q hx) (fun _ => ⟨rfl, hR⟩))
theorem pr_frames (x0 : Int32) : mm_pair Γ Rel smM_S_frames smM_M_frames [.int x0] := by
  intro h hR
  obtain ⟨n, hn, e0, e64, hT⟩ := Rel_task hR
  by_cases hx : ∃ j, j < n ∧ x0 = nI (j + 1)
  · obtain ⟨j, hj, rfl⟩ := hx
    have hj6 : j < 6 := by omega
    refine smr_S_frames _ (us_br (sp_S_isTask hn e0) (fun _ => ⟨tk1 hj6, fun t ht _ => ?_⟩) (fun q => absurd ⟨j, hj, rfl⟩ q))
    rw [tk2 hj6] at ht
    subst ht
    refine smr_M_frames _ (us_br (sp_M_isTask hn e64) (fun _ => ⟨tk3 hj6, ?_⟩) (fun q => absurd ⟨j, hj, rfl⟩ q))
    rw [tk4 hj6]
    exact ⟨(Rel_lt hR hj6).1.symm, hR⟩
  · refine smr_S_frames _ (us_br (sp_S_isTask hn e0) (fun q => absurd q hx) (fun _ => ?_))
    exact smr_M_frames _ (us_br (sp_M_isTask hn e64) (fun q => absurd q hx) (fun _ => ⟨rfl, hR⟩))
theorem pr_global (x0 : Int32) : mm_pair Γ Rel smM_S_global smM_M_global [.int x0] := by
  intro h hR
  refine smr_S_global _ (us_br (sp_within 4 rfl (by decide)) (fun hx => ⟨hx, ?_⟩) (fun hx => ?_))
  · obtain ⟨j, hj, rfl, e⟩ := vin_of hx (by decide)
    obtain ⟨a, b⟩ := (vin_iff (by decide)).mp hx
    refine smr_M_global _ (br_f a (br_f b ⟨hx, ?_⟩))
    rw [e]
    exact ⟨(hR.2.2.2.2.2.1 j hj).symm, hR⟩
  · refine smr_M_global _ ⟨fun _ => ⟨rfl, hR⟩, fun a => ⟨fun _ => ⟨rfl, hR⟩, fun b => absurd ((vin_iff (by decide)).mpr ⟨a, b⟩) hx⟩⟩
/-- the number of a place 1 .. n -/
theorem one_of {x : Int32} {n : Nat} (hn : n < 2 ^ 30) : (¬ x < 1 ∧ ¬ nI n < x) ↔ ∃ j, 1 ≤ j ∧ j ≤ n ∧ x = nI j := by
  constructor
  · rintro ⟨h1, h2⟩
    have e1 : ¬ x.toInt < 1 := by
      intro q
      exact h1 (Int32.lt_iff_toInt_lt.mpr (by simpa using q))
    have e2 : ¬ (n : Int) < x.toInt := by
      intro q
      exact h2 (Int32.lt_iff_toInt_lt.mpr (by rw [nI_toInt (by omega)]; exact q))
    refine ⟨x.toInt.toNat, by omega, by omega, Int32.toInt_inj.mp ?_⟩
    rw [nI_toInt (by omega)]
    omega
  · rintro ⟨j, h0, h1, rfl⟩
    exact ⟨nI_nlt (a := j) (b := 1) (by omega) (by omega), nI_nlt (by omega) (by omega)⟩
theorem sp_H_has {h : mm_Mem} {x : Int32} : mm_B1 Γ smM_H_has [.ref (mm_B Γ + 20), .int x] h (∃ o, live h o ∧ x = nI o) := by
  have key : ∀ o, live h o → x = nI o → (¬ x < 1 ∧ ¬ (16 : Int32) < x) ∧ ¬ h 21 x.toNatClampNeg = -1 := by
    rintro o ho rfl
    refine ⟨(one_of (n := 16) (by decide)).mpr ⟨o, ho.1, ho.2.1, rfl⟩, ?_⟩
    rw [nI_clamp (by have := ho.2.1; omega)]
    exact ho.2.2
  refine smr_H_has _ ⟨fun a => ⟨rfl, mmB_0 ?_⟩, fun a => ⟨fun b => ⟨rfl, mmB_0 ?_⟩, fun b => ?_⟩⟩
  · rintro ⟨o, h1, h2⟩
    exact (key o h1 h2).1.1 a
  · rintro ⟨o, h1, h2⟩
    exact (key o h1 h2).1.2 b
  · obtain ⟨o, h1, h2, rfl⟩ := (one_of (n := 16) (by decide)).mp ⟨a, b⟩
    refine ⟨vp_in_nI (by omega) (by decide), fun c => ⟨rfl, mmB_0 ?_⟩, fun c => ⟨rfl, mmB_1 ⟨o, ⟨h1, h2, ?_⟩, rfl⟩⟩⟩
    · rintro ⟨o', h1', h2'⟩
      exact (key o' h1' h2').2 c
    · rw [nI_clamp (by omega)] at c
      exact c
theorem m1_lt : (-1 : Int32) < 0 := by decide
theorem rg_pos {x : Int32} {n : Nat} (h : rg x n) (hn : n < 2 ^ 31) : ¬ x < 0 := by
  obtain ⟨k, h1, rfl⟩ := h
  exact nI_pos (by omega)
theorem sp_M_isObject {g h : mm_Mem} (hI : Iheap g) (hL : Lheap g h) {x : Int32} : mm_B1 Γ smM_M_isObject [.ref (mm_B Γ + 64), .int x] h (∃ o, live g o ∧ x = nI o) := by
  have key : ∀ o, live g o → x = nI o → (¬ x < 1 ∧ ¬ (16 : Int32) < x) ∧ ¬ h 71 x.toNatClampNeg < 0 := by
    rintro o ho rfl
    refine ⟨(one_of (n := 16) (by decide)).mpr ⟨o, ho.1, ho.2.1, rfl⟩, ?_⟩
    rw [nI_clamp (by have := ho.2.1; omega), hL.1 o ho.1 ho.2.1]
    exact rg_pos (hI.1 o ho) (by decide)
  refine smr_M_isObject _ ⟨fun a => ⟨rfl, mmB_0 ?_⟩, fun a => ⟨fun b => ⟨rfl, mmB_0 ?_⟩, fun b => ?_⟩⟩
  · rintro ⟨o, h1, h2⟩
    exact (key o h1 h2).1.1 a
  · rintro ⟨o, h1, h2⟩
    exact (key o h1 h2).1.2 b
  · obtain ⟨o, h1, h2, rfl⟩ := (one_of (n := 16) (by decide)).mp ⟨a, b⟩
    refine ⟨vp_in_nI (by omega) (by decide), fun c => ⟨rfl, mmB_0 ?_⟩, fun c => ⟨rfl, mmB_1 ⟨o, ⟨h1, h2, ?_⟩, rfl⟩⟩⟩
    · rintro ⟨o', h1', h2'⟩
      exact (key o' h1' h2').2 c
    · intro e
      rw [nI_clamp (by omega), hL.1 o h1 h2, e] at c
      exact c m1_lt
theorem pr_typeOf (x0 : Int32) : mm_pair Γ Rel smM_S_typeOf smM_M_typeOf [.int x0] := by
  intro h hR
  have hI : Iheap h := hR.1.2.2.2.2.1
  have hL : Lheap h h := hR.2.2.2.2.2.2.1
  refine smr_S_typeOf _ (us_br sp_H_has (fun hx => ?_) (fun hx => ?_))
  · obtain ⟨o, ho, rfl⟩ := hx
    have ho2 := ho.2.1
    refine ⟨vp_in_nI (by omega) (by decide), smr_M_typeOf _ (us_br (sp_M_isObject hI hL) (fun _ => ⟨vp_in_nI (by omega) (by decide), ?_, hR⟩) (fun q => absurd ⟨o, ho, rfl⟩ q))⟩
    rw [nI_clamp (by omega), hL.1 o ho.1 ho2]
  · exact smr_M_typeOf _ (us_br (sp_M_isObject hI hL) (fun q => absurd q hx) (fun _ => ⟨rfl, hR⟩))
theorem pr_field (x0 x1 : Int32) : mm_pair Γ Rel smM_S_field smM_M_field [.int x0, .int x1] := by
  intro h hR
  have hI : Iheap h := hR.1.2.2.2.2.1
  have hL : Lheap h h := hR.2.2.2.2.2.2.1
  have hV : Iv h 1 := hR.1.1.1
  refine smr_S_field _ _ (us_br sp_H_has (fun hx => ?_) (fun hx => ?_))
  · obtain ⟨o, ho, rfl⟩ := hx
    have ho2 := ho.2.1
    obtain ⟨t, ht, et⟩ := hI.1 o ho
    obtain ⟨wd, hw, ew⟩ := hV.2 t (by omega)
    have e71 : h 71 (nI o).toNatClampNeg = nI t := by rw [nI_clamp (by omega), hL.1 o ho.1 ho2, et]
    have e67 : h 67 (nI t).toNatClampNeg = nI wd := by
      have := hR.2.2.1.2.2 t (by omega)
      rw [nI_clamp (by omega)]
      rw [Nat.zero_add] at this
      rw [this]
      exact ew
    have hwid : wid h o = wd := by
      have ew' : h 7 t = nI wd := ew
      unfold wid
      rw [et, nI_clamp (by omega), ew', nI_clamp (by omega)]
    refine us_br (sp_within 4 rfl (by decide)) (fun hf => ?_) (fun hf => ?_)
    · obtain ⟨f, hf4, rfl, ef⟩ := vin_of hf (by decide)
      have ei : (nI o * 4 + nI f) = nI (4 * o + f) := by
        show nI o * nI 4 + nI f = _
        rw [pk_mul, nI_add, Nat.mul_comm]
      have ej : (4 * nI o + nI f) = nI (4 * o + f) := by
        show nI 4 * nI o + nI f = _
        rw [pk_mul, nI_add]
      rw [ei]
      refine ⟨vp_in_nI (by omega) (by decide), smr_M_field _ _ (us_br (sp_M_isObject hI hL) (fun _ => ?_) (fun q => absurd ⟨o, ho, rfl⟩ q))⟩
      rw [e71, e67, ej, nI_clamp (by omega)]
      refine br_f (nI_pos (by omega)) ⟨vp_in_nI (by omega) (by decide), vp_in_nI (by omega) (by decide), ?_⟩
      refine ⟨fun hle => ?_, fun hle => ⟨vp_in_nI (by omega) (by decide), ?_⟩⟩
      · have h1 : wd ≤ f := (nI_leI (by omega) (by omega)).mp hle
        exact ⟨hI.2 o ho f hf4 (by omega), hR⟩
      · have h1 : ¬ wd ≤ f := fun q => hle ((nI_leI (by omega) (by omega)).mpr q)
        exact ⟨(hL.2 o ho f (by omega)).symm, hR⟩
    · refine smr_M_field _ _ (us_br (sp_M_isObject hI hL) (fun _ => ?_) (fun q => absurd ⟨o, ho, rfl⟩ q))
      rw [e71, e67]
      refine ⟨fun _ => ⟨rfl, hR⟩, fun a => ⟨vp_in_nI (by omega) (by decide), vp_in_nI (by omega) (by decide), fun _ => ⟨rfl, hR⟩, fun b => absurd ((vin_iff (by decide)).mpr ⟨a, fun c => ?_⟩) hf⟩⟩
      refine b (Int32.le_trans ?_ c)
      exact nI_le (by omega) (by omega)
  · exact smr_M_field _ _ (us_br (sp_M_isObject hI hL) (fun q => absurd q hx) (fun _ => ⟨rfl, hR⟩))
def cntO (g : mm_Mem) : Nat → Nat
  | 0 => 0
  | k + 1 => cntO g k + (if g 21 (k + 1) = -1 then 0 else 1)
theorem cntO_le (g : mm_Mem) : ∀ k, cntO g k ≤ k
  | 0 => Nat.le_refl _
  | k + 1 => by
    have := cntO_le g k
    unfold cntO
    split <;> omega
theorem sp_H_count {h : mm_Mem} : mm_I1 Γ smM_H_count [.ref (mm_B Γ + 20)] h (nI (cntO h 16)) := by
  have loop : ∀ d k, k + d = 16 → mm_W Γ smM_H_count (mm_pI (fun r h' => h' = h ∧ r = nI (cntO h 16))) 4 [some (.ref (mm_B Γ + 20)), some (.int (nI (cntO h k))), some (.int (nI (k + 1)))] [] h := by
    intro d
    induction d with
    | zero =>
      intro k hk
      obtain rfl : k = 16 := by omega
      exact smr_H_count_4 _ _ (br_t (by decide) ⟨rfl, rfl⟩)
    | succ d ih =>
      intro k hk
      have hc := cntO_le h k
      have e1 : nI (k + 1) + 1 = nI (k + 1 + 1) := nI_1 _
      refine smr_H_count_4 _ _ (br_f (nI_nlt (a := 16) (b := k + 1) (by omega) (by omega)) (us_br sp_H_has (fun hx => ?_) (fun hx => ?_)))
      · obtain ⟨o, ho, e⟩ := hx
        have : k + 1 = o := nI_in' (by omega) (by have := ho.2.1; omega) e
        subst this
        rintro y rfl
        rw [e1, show nI (cntO h k) + 1 = nI (cntO h (k + 1)) from by rw [nI_1, cntO, if_neg ho.2.2]]
        exact ih (k + 1) (by omega)
      · rintro y rfl
        have hz : h 21 (k + 1) = -1 := Decidable.byContradiction (fun q => hx ⟨k + 1, ⟨by omega, by omega, q⟩, rfl⟩)
        rw [e1, show nI (cntO h k) + 0 = nI (cntO h (k + 1)) from by rw [cntO, if_pos hz]; show nI _ + nI 0 = _; rw [nI_add]]
        exact ih (k + 1) (by omega)
  exact smr_H_count (loop 16 0 rfl)
theorem sp_M_heap {g h : mm_Mem} (hI : Iheap g) (hL : Lheap g h) : mm_I1 Γ smM_M_heap [.ref (mm_B Γ + 64)] h (nI (cntO g 16)) := by
  have loop : ∀ d k, k + d = 16 → mm_W Γ smM_M_heap (mm_pI (fun r h' => h' = h ∧ r = nI (cntO g 16))) 4 [some (.ref (mm_B Γ + 64)), some (.int (nI (cntO g k))), some (.int (nI (k + 1)))] [] h := by
    intro d
    induction d with
    | zero =>
      intro k hk
      obtain rfl : k = 16 := by omega
      exact smr_M_heap_4 _ _ (br_t (by decide) ⟨rfl, rfl⟩)
    | succ d ih =>
      intro k hk
      have hc := cntO_le g k
      have e1 : nI (k + 1) + 1 = nI (k + 1 + 1) := nI_1 _
      refine smr_M_heap_4 _ _ (br_f (nI_ge (a := k + 1) (b := 17) (by omega) (by omega)) ⟨vp_in_nI (by omega) (by decide), ?_⟩)
      rw [nI_clamp (by omega), hL.1 (k + 1) (by omega) (by omega)]
      by_cases hz : g 21 (k + 1) = -1
      · refine br_t (by rw [hz]; exact m1_lt) ?_
        rintro y rfl
        rw [e1, show nI (cntO g k) + 0 = nI (cntO g (k + 1)) from by rw [cntO, if_pos hz]; show nI _ + nI 0 = _; rw [nI_add]]
        exact ih (k + 1) (by omega)
      · refine br_f (rg_pos (hI.1 (k + 1) ⟨by omega, by omega, hz⟩) (by decide)) ?_
        rintro y rfl
        rw [e1, show nI (cntO g k) + 1 = nI (cntO g (k + 1)) from by rw [nI_1, cntO, if_neg hz]]
        exact ih (k + 1) (by omega)
  exact smr_M_heap (loop 16 0 rfl)
theorem pr_heap : mm_pair Γ Rel smM_S_heap smM_M_heap [] := by
  intro h hR
  exact smr_S_heap (us_eq sp_H_count (us_eq (sp_M_heap hR.1.2.2.2.2.1 hR.2.2.2.2.2.2.1) ⟨rfl, hR⟩))
theorem pr_frame (x0 x1 x2 : Int32) : mm_pair Γ Rel smM_S_frame smM_M_frame [.int x0, .int x1, .int x2] := by
  intro h hR
  obtain ⟨n, hn, e0, e64, hT⟩ := Rel_task hR
  by_cases hx : ∃ j, j < n ∧ x0 = nI (j + 1)
  · obtain ⟨j, hj, rfl⟩ := hx
    have hj6 : j < 6 := by omega
    obtain ⟨⟨d, hd, ed⟩, -⟩ := hT.2.2.1 j hj
    have hdep : dep h j = d := by
      unfold dep
      rw [ed, nI_clamp (by omega)]
    have hl := Rel_lt hR hj6
    have e77 : h 77 (j + 1) = nI d := by rw [hl.1, ed]
    refine smr_S_frame _ _ _ (us_br (sp_S_isTask hn e0) (fun _ => ⟨tk1 hj6, fun t ht _ => ?_⟩) (fun q => absurd ⟨j, hj, rfl⟩ q))
    rw [tk2 hj6] at ht
    subst ht
    refine us_br' (sp_within d ed (by omega)) (fun hk => ⟨tk1 hj6, fun t ht _ => ?_⟩) (fun hk => ?_)
    · rw [tk2 hj6] at ht
      subst ht
      obtain ⟨k, hk1, rfl, ek⟩ := vin_of hk (by omega)
      obtain ⟨f1, f2, f3, f4⟩ := hl.2.2.2.2.1 k (by rw [hdep]; exact hk1)
      have run : ∀ (m : Nat) (r : Int32), m < 5 → h 78 (36 * (j + 1) + 6 * k + m) = r → mm_SI Γ smM_M_frame [.ref (mm_B Γ + 64), .int (nI (j + 1)), .int (nI k), .int (nI m)] h (fun r2 h2 => r = r2 ∧ Rel h2) := by
        intro m r hm er
        refine smr_M_frame _ _ _ (us_br (sp_M_isTask hn e64) (fun _ => ?_) (fun q => absurd ⟨j, hj, rfl⟩ q))
        rw [tk4 hj6, e77]
        refine br_f (nI_pos (by omega)) ⟨tk3 hj6, br_f (nI_ge (by omega) (by omega)) (br_f (nI_pos (by omega)) (br_f (nI_ge (a := m) (b := 5) (by omega) (by omega)) (us_eq (sp_M_frameAt _ _ rfl rfl) ?_)))⟩
        rw [nI_add]
        refine ⟨vp_in_nI (by omega) (by decide), ?_, hR⟩
        rw [nI_clamp (by omega), er]
      have loc : ∀ m, m = 2 ∨ m = 3 ∨ m = 4 → vp_in (nI k * 3 + nI m - 2) 18 ∧ mm_SI Γ smM_M_frame [.ref (mm_B Γ + 64), .int (nI (j + 1)), .int (nI k), .int (nI m)] h (fun r2 h2 => h (28 + 6 * j + 3) (nI k * 3 + nI m - 2).toNatClampNeg = r2 ∧ Rel h2) := by
        intro m hm
        have e : nI k * 3 + nI m - 2 = nI (3 * k + (m - 2)) := by
          show nI k * nI 3 + nI m - nI 2 = _
          rw [pk_mul, nI_add, pk_sub (by omega)]
          congr 1
          omega
        rw [e, nI_clamp (by omega)]
        refine ⟨vp_in_nI (by omega) (by decide), run m _ (by omega) ?_⟩
        have := f3 (m - 2) (by omega)
        rw [← this]
        congr 1
        omega
      refine ⟨fun e => ?_, fun e => ?_, fun e => ?_, fun n0 n1 n2 n3 n4 => ?_⟩
      · subst e
        refine ⟨vp_in_nI (by omega) (by decide), ?_⟩
        rw [ek]
        exact run 0 _ (by omega) f1
      · subst e
        refine ⟨vp_in_nI (by omega) (by decide), ?_⟩
        rw [ek]
        exact run 1 _ (by omega) f2
      · rcases e with e | e | e
        · subst e
          exact loc 2 (by omega)
        · subst e
          exact loc 3 (by omega)
        · subst e
          exact loc 4 (by omega)
      · refine smr_M_frame _ _ _ (us_br (sp_M_isTask hn e64) (fun _ => ?_) (fun q => absurd ⟨j, hj, rfl⟩ q))
        rw [tk4 hj6, e77]
        refine br_f (nI_pos (by omega)) ⟨tk3 hj6, br_f (nI_ge (by omega) (by omega)) ⟨fun _ => ⟨rfl, hR⟩, fun a => ⟨fun _ => ⟨rfl, hR⟩, fun b => ?_⟩⟩⟩
        exfalso
        obtain ⟨m, hm, rfl, -⟩ := vin_of ((vin_iff (n := 5) (by decide)).mpr ⟨a, b⟩) (by decide)
        have : m = 0 ∨ m = 1 ∨ m = 2 ∨ m = 3 ∨ m = 4 := by omega
        rcases this with rfl | rfl | rfl | rfl | rfl
        · exact n0 rfl
        · exact n1 rfl
        · exact n2 rfl
        · exact n3 rfl
        · exact n4 rfl
    · refine smr_M_frame _ _ _ (us_br (sp_M_isTask hn e64) (fun _ => ?_) (fun q => absurd ⟨j, hj, rfl⟩ q))
      rw [tk4 hj6, e77]
      exact ⟨fun _ => ⟨rfl, hR⟩, fun a => ⟨tk3 hj6, fun _ => ⟨rfl, hR⟩, fun b => absurd ((vin_iff (by omega)).mpr ⟨a, b⟩) hk⟩⟩
  · refine smr_S_frame _ _ _ (us_br (sp_S_isTask hn e0) (fun q => absurd q hx) (fun _ => ?_))
    exact smr_M_frame _ _ _ (us_br (sp_M_isTask hn e64) (fun q => absurd q hx) (fun _ => ⟨rfl, hR⟩))
end RD
