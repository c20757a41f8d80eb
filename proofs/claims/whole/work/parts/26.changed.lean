section CH
variable {Γ : mm_Ctx}
def sameW (g : mm_Mem) (v u w : Nat) : Prop := g (v + 2) w = g (u + 2) w ∧ g (v + 3) w = g (u + 3) w ∧ g (v + 4) w = g (u + 4) w ∧ g (v + 5) w = g (u + 5) w
def sameV (g : mm_Mem) (v u p : Nat) : Prop := g (v + 1) p = g (u + 1) p ∧ ∀ i, i < lenV g v p → sameW g v u (12 * p + i)
def tuse (g : mm_Mem) (v w : Nat) : Prop := (g (v + 2) w = 6 ∧ ¬ g 16 (g (v + 4) w).toNatClampNeg = 0) ∨ ((g (v + 2) w = 7 ∨ g (v + 2) w = 8) ∧ ¬ g 16 ((g (v + 5) w).toNatClampNeg / 4) = 0)
def usesV (g : mm_Mem) (v p : Nat) : Prop := ∃ i, i < lenV g v p ∧ tuse g v (12 * p + i)
def chg (g : mm_Mem) (p : Nat) : Prop := ¬ sameV g 8 1 p ∨ usesV g 1 p
theorem lenV_of {g : mm_Mem} {v p : Nat} (hI : Iv g v) (hp : p < 6) : g (v + 1) p = nI (lenV g v p) ∧ lenV g v p ≤ 12 := by
  obtain ⟨l, hl, el⟩ := hI.1 p hp
  unfold lenV
  rw [el, nI_clamp (by omega)]
  exact ⟨rfl, hl⟩
theorem sp_hasSame {v u : Nat} (hv : v = 1 ∨ v = 8) (hu : u = 1 ∨ u = 8) {g : mm_Mem} (hI : Iv g v) {p : Nat} (hp : p < 6) : mm_B1 Γ smM_V_hasSameProcedure [.ref (mm_B Γ + v), .ref (mm_B Γ + u), .int (nI p)] g (sameV g v u p) := by
  obtain ⟨el, hl⟩ := lenV_of hI hp
  have ep : (nI p).toNatClampNeg = p := nI_clamp (by omega)
  have v6 : vp_in (nI p) 6 := vp_in_nI hp (by decide)
  refine smr_V_hasSameProcedure hv hu _ ?_
  rw [ep]
  refine ⟨v6, v6, fun e1 => us_eq (sp_at p 0 rfl rfl) ?_, fun e1 => ⟨rfl, mmB_0 (fun q => e1 q.1)⟩⟩
  have loop : ∀ d i, i + d = lenV g v p → (∀ k, k < i → sameW g v u (12 * p + k)) → mm_W Γ smM_V_hasSameProcedure (mm_pI (fun r h' => h' = g ∧ mmB r (sameV g v u p))) 23 [some (.ref (mm_B Γ + v)), some (.ref (mm_B Γ + u)), some (.int (nI p)), some (.int (nI (12 * p + i)))] [] g := by
    intro d
    induction d with
    | zero =>
      intro i hi hs
      refine smr_V_hasSameProcedure_23 hv hu _ _ ?_
      rw [ep]
      refine ⟨v6, us_eq (sp_at p (lenV g v p) rfl el) (br_t (nI_le (by omega) (by omega)) ⟨rfl, mmB_1 ⟨e1, fun k hk => hs k (by omega)⟩⟩)⟩
    | succ d ih =>
      intro i hi hs
      have w72 : vp_in (nI (12 * p + i)) 72 := vp_in_nI (by omega) (by decide)
      refine smr_V_hasSameProcedure_23 hv hu _ _ ?_
      rw [ep]
      refine ⟨v6, us_eq (sp_at p (lenV g v p) rfl el) (br_f (nI_ge (by omega) (by omega)) ?_)⟩
      rw [nI_clamp (by omega)]
      have no : ¬ sameW g v u (12 * p + i) → g = g ∧ mmB 0 (sameV g v u p) := fun hn => ⟨rfl, mmB_0 (fun q => hn (q.2 i (by omega)))⟩
      refine ⟨w72, w72, fun a => no (fun q => a q.1), fun a => ⟨w72, w72, fun b => no (fun q => b q.2.1), fun b => ⟨w72, w72, fun c => no (fun q => c q.2.2.1), fun c => ⟨w72, w72, fun f => ?_, fun f => no (fun q => f q.2.2.2)⟩⟩⟩⟩
      rw [nI_1]
      refine ih (i + 1) (by omega) (fun k hk => ?_)
      by_cases hki : k = i
      · subst hki
        exact ⟨a, b, c, f⟩
      · exact hs k (by omega)
  exact loop (lenV g v p) 0 (by omega) (fun k hk => absurd hk (by omega))
theorem div4 {c : Nat} (hc : c < 12) : nI c / 4 = nI (c / 4) := pk_div (a := c) (d := 4) (by omega) (by decide) (by decide)
theorem m1_ne {k : Nat} (hk : k < 2 ^ 31) : ¬ nI k = -1 := by
  intro e
  have h1 := nI_pos hk
  rw [e] at h1
  exact h1 m1_lt
/-- the type that a right instruction uses -/
theorem right_ty {g : mm_Mem} {v p w : Nat} (hr : rightW g v p w) : (g (v + 2) w = 6 → vp_in (g (v + 4) w) 3) ∧ (g (v + 2) w = 7 ∨ g (v + 2) w = 8 → vp_in (g (v + 5) w) 12) := by
  refine ⟨fun e => ?_, fun e => ?_⟩
  · simp [rightW, e] at hr
    exact hr.2.1
  · rcases e with e | e
    · simp [rightW, e] at hr
      exact hr.2.2.1
    · simp [rightW, e] at hr
      exact hr.2.2.1
theorem sp_typeUsed {v : Nat} (hv : v = 1 ∨ v = 8) {g : mm_Mem} {p w : Nat} (hw : w < 72) (hr : rightW g v p w) : mm_SI Γ smM_V_typeUsed [.ref (mm_B Γ + v), .int (nI w)] g (fun r g' => g' = g ∧ ((r = -1 ∧ ¬ tuse g v w) ∨ ∃ t, t < 3 ∧ r = nI t ∧ (tuse g v w ↔ ¬ g 16 t = 0))) := by
  have w72 : vp_in (nI w) 72 := vp_in_nI hw (by decide)
  obtain ⟨r1, r2⟩ := right_ty hr
  refine smr_V_typeUsed hv _ ?_
  rw [nI_clamp (by omega)]
  refine ⟨w72, fun e => ⟨w72, rfl, Or.inr ?_⟩, fun e => ⟨w72, rfl, Or.inr ?_⟩, fun n6 n7 n8 => ⟨rfl, Or.inl ⟨rfl, ?_⟩⟩⟩
  · obtain ⟨t, ht, et, ct⟩ := vin_of (r1 e) (by decide)
    refine ⟨t, ht, et, ?_⟩
    unfold tuse
    rw [ct]
    constructor
    · rintro (q | q)
      · exact q.2
      · rw [e] at q
        exact absurd q.1 (by decide)
    · exact fun q => Or.inl ⟨e, q⟩
  · obtain ⟨c, hc, ec, cc⟩ := vin_of (r2 e) (by decide)
    refine ⟨c / 4, by omega, by rw [ec]; exact div4 hc, ?_⟩
    unfold tuse
    rw [cc]
    constructor
    · rintro (q | q)
      · rcases e with e | e
        · rw [e] at q
          exact absurd q.1 (by decide)
        · rw [e] at q
          exact absurd q.1 (by decide)
      · exact q.2
    · exact fun q => Or.inr ⟨e, q⟩
  · rintro (q | q)
    · exact n6 q.1
    · rcases q.1 with q | q
      · exact n7 q
      · exact n8 q
theorem sp_usesTouched {v : Nat} (hv : v = 1 ∨ v = 8) {g : mm_Mem} (hI : Iv g v) (hok : okV g v) {p : Nat} (hp : p < 6) : mm_B1 Γ smM_V_usesTouchedType [.ref (mm_B Γ + v), .int (nI p), .ref (mm_B Γ + 16)] g (usesV g v p) := by
  obtain ⟨el, hl⟩ := lenV_of hI hp
  have ep : (nI p).toNatClampNeg = p := nI_clamp (by omega)
  have v6 : vp_in (nI p) 6 := vp_in_nI hp (by decide)
  refine smr_V_usesTouchedType hv _ (us_eq (sp_at p 0 rfl rfl) ?_)
  have loop : ∀ d i, i + d = lenV g v p → (∀ k, k < i → ¬ tuse g v (12 * p + k)) → mm_W Γ smM_V_usesTouchedType (mm_pI (fun r h' => h' = g ∧ mmB r (usesV g v p))) 6 [some (.ref (mm_B Γ + v)), some (.int (nI p)), some (.ref (mm_B Γ + 16)), some (.int (nI (12 * p + i))), none] [] g := by
    intro d
    induction d with
    | zero =>
      intro i hi hs
      refine smr_V_usesTouchedType_6 hv _ _ ?_
      rw [ep]
      refine ⟨v6, us_eq (sp_at p (lenV g v p) rfl el) (br_t (nI_le (by omega) (by omega)) ⟨rfl, mmB_0 ?_⟩)⟩
      rintro ⟨k, hk, hu⟩
      exact hs k (by omega) hu
    | succ d ih =>
      intro i hi hs
      refine smr_V_usesTouchedType_6 hv _ _ ?_
      rw [ep]
      refine ⟨v6, us_eq (sp_at p (lenV g v p) rfl el) (br_f (nI_ge (by omega) (by omega)) ?_)⟩
      refine mm_SI_mono (sp_typeUsed hv (p := p) (by omega) (hok p i hp (by omega)).1) (fun r g' q => ?_)
      obtain ⟨rfl, q⟩ := q
      have go : ¬ tuse g' v (12 * p + i) → mm_W Γ smM_V_usesTouchedType (mm_pI (fun r h' => h' = g' ∧ mmB r (usesV g' v p))) 6 [some (.ref (mm_B Γ + v)), some (.int (nI p)), some (.ref (mm_B Γ + 16)), some (.int (nI (12 * p + i) + 1)), none] [] g' := by
        intro hn
        rw [nI_1]
        refine ih (i + 1) (by omega) (fun k hk => ?_)
        by_cases hki : k = i
        · subst hki
          exact hn
        · exact hs k (by omega)
      rcases q with ⟨rfl, q⟩ | ⟨t, ht, rfl, q⟩
      · exact br_t rfl (go q)
      · refine br_f (m1_ne (by omega)) ⟨vp_in_nI ht (by decide), ?_⟩
        rw [nI_clamp (by omega)]
        exact ⟨fun a => go (fun z => q.mp z a), fun a => ⟨rfl, mmB_1 ⟨i, by omega, q.mpr a⟩⟩⟩
  exact loop (lenV g v p) 0 (by omega) (fun k hk => absurd hk (by omega))
theorem sp_draftChanges {g : mm_Mem} (h1 : Iv g 1) (hok : okV g 1) (h8 : Iv g 8) {p : Nat} (hp : p < 6) : mm_B1 Γ smM_S_draftChanges [.ref (mm_B Γ + 0), .int (nI p)] g (chg g p) := by
  refine smr_S_draftChanges _ (us_br (sp_hasSame (Or.inr rfl) (Or.inl rfl) h8 hp) (fun a => ?_) (fun a => ⟨rfl, mmB_1 (Or.inl a)⟩))
  refine us_br (sp_usesTouched (Or.inl rfl) h1 hok hp) (fun b => ⟨rfl, mmB_1 (Or.inr b)⟩) (fun b => ⟨rfl, mmB_0 ?_⟩)
  rintro (q | q)
  · exact q a
  · exact b q
/-! the reference's -/
theorem sp_M_isOther {g h : mm_Mem} (h1 : Iv g 1) (h8 : Iv g 8) (L1 : Lver g h 1 0 0 0) (L8 : Lver g h 8 288 6 3) {p : Nat} (hp : p < 6) : mm_B1 Γ smM_M_isOther [.ref (mm_B Γ + 64), .int (nI p)] h (¬ sameV g 8 1 p) := by
  obtain ⟨el1, hl1⟩ := lenV_of h1 hp
  obtain ⟨el8, hl8⟩ := lenV_of h8 hp
  have ep : (nI p).toNatClampNeg = p := nI_clamp (by omega)
  have e66 : h 66 p = nI (lenV g 1 p) := by
    have := L1.1 p hp
    rw [Nat.zero_add] at this
    rw [this]
    exact el1
  have f66 : h 66 (6 + p) = nI (lenV g 8 p) := (L8.1 p hp).trans el8
  have e6 : (6 : Int32) + nI p = nI (6 + p) := nI_add 6 p
  have v12 : vp_in (nI p) 12 := vp_in_nI (by omega) (by decide)
  refine smr_M_isOther _ ?_
  rw [e6, ep, nI_clamp (n := 6 + p) (by omega), e66, f66]
  refine ⟨v12, vp_in_nI (by omega) (by decide), fun e => ?_, fun e => ⟨rfl, mmB_1 (fun q => e ?_)⟩⟩
  · intro y ey
    have ey' : y = nI (48 * p) := by
      rw [ey]
      show nI 48 * nI p = _
      rw [pk_mul]
    subst ey'
    have hll : lenV g 8 p = lenV g 1 p := (nI_in' (by omega) (by omega) e).symm
    generalize hlen : lenV g 1 p = l at *
    have df : ∀ m, m < 4 * l → (h 65 (48 * p + m) = h 65 (288 + (48 * p + m)) ↔ (m % 4 = 0 → g 3 (12 * p + m / 4) = g 10 (12 * p + m / 4)) ∧ (m % 4 = 1 → g 4 (12 * p + m / 4) = g 11 (12 * p + m / 4)) ∧ (m % 4 = 2 → g 5 (12 * p + m / 4) = g 12 (12 * p + m / 4)) ∧ (m % 4 = 3 → g 6 (12 * p + m / 4) = g 13 (12 * p + m / 4))) := by
      intro m hm
      obtain ⟨a1, a2, a3, a4⟩ := L1.2.1 (12 * p + m / 4) (by omega)
      obtain ⟨b1, b2, b3, b4⟩ := L8.2.1 (12 * p + m / 4) (by omega)
      have hm4 : m % 4 = 0 ∨ m % 4 = 1 ∨ m % 4 = 2 ∨ m % 4 = 3 := by omega
      rcases hm4 with c | c | c | c
      · rw [show 48 * p + m = 0 + 4 * (12 * p + m / 4) by omega, show 288 + (0 + 4 * (12 * p + m / 4)) = 288 + 4 * (12 * p + m / 4) by omega, a1, b1]
        simp [c]
      · rw [show 48 * p + m = 0 + 4 * (12 * p + m / 4) + 1 by omega, show 288 + (0 + 4 * (12 * p + m / 4) + 1) = 288 + 4 * (12 * p + m / 4) + 1 by omega, a2, b2]
        simp [c]
      · rw [show 48 * p + m = 0 + 4 * (12 * p + m / 4) + 2 by omega, show 288 + (0 + 4 * (12 * p + m / 4) + 2) = 288 + 4 * (12 * p + m / 4) + 2 by omega, a3, b3]
        simp [c]
      · rw [show 48 * p + m = 0 + 4 * (12 * p + m / 4) + 3 by omega, show 288 + (0 + 4 * (12 * p + m / 4) + 3) = 288 + 4 * (12 * p + m / 4) + 3 by omega, a4, b4]
        simp [c]
    have fin : (∃ m, m < 4 * l ∧ ¬ h 65 (48 * p + m) = h 65 (288 + (48 * p + m))) ↔ ¬ sameV g 8 1 p := by
      constructor
      · rintro ⟨m, hm, hne⟩ hs
        refine hne ((df m hm).mpr ?_)
        obtain ⟨s1, s2, s3, s4⟩ := hs.2 (m / 4) (by rw [hll]; omega)
        exact ⟨fun _ => s1.symm, fun _ => s2.symm, fun _ => s3.symm, fun _ => s4.symm⟩
      · intro hs
        refine Classical.byContradiction (fun hn => hs ⟨?_, fun i hi => ?_⟩)
        · rw [el8, el1, hll]
        · rw [hll] at hi
          have eqm : ∀ m, m < 4 * l → h 65 (48 * p + m) = h 65 (288 + (48 * p + m)) := fun m hm => Classical.byContradiction (fun q => hn ⟨m, hm, q⟩)
          have q0 := ((df (4 * i) (by omega)).mp (eqm _ (by omega))).1 (by omega)
          have q1 := ((df (4 * i + 1) (by omega)).mp (eqm _ (by omega))).2.1 (by omega)
          have q2 := ((df (4 * i + 2) (by omega)).mp (eqm _ (by omega))).2.2.1 (by omega)
          have q3 := ((df (4 * i + 3) (by omega)).mp (eqm _ (by omega))).2.2.2 (by omega)
          rw [show 4 * i / 4 = i by omega] at q0
          rw [show (4 * i + 1) / 4 = i by omega] at q1
          rw [show (4 * i + 2) / 4 = i by omega] at q2
          rw [show (4 * i + 3) / 4 = i by omega] at q3
          exact ⟨q0.symm, q1.symm, q2.symm, q3.symm⟩
    have e4 : (48 : Int32) * nI p + 4 * nI l = nI (48 * p + 4 * l) := by
      show nI 48 * nI p + nI 4 * nI l = _
      rw [pk_mul, pk_mul, nI_add]
    have loop : ∀ d m x, m + d = 4 * l → mmB x (∃ k, k < m ∧ ¬ h 65 (48 * p + k) = h 65 (288 + (48 * p + k))) → mm_W Γ smM_M_isOther (mm_pI (fun r h' => h' = h ∧ mmB r (¬ sameV g 8 1 p))) 27 [some (.ref (mm_B Γ + 64)), some (.int (nI p)), some (.int x), some (.int (nI (48 * p + m)))] [] h := by
      intro d
      induction d with
      | zero =>
        intro m x hm hx
        refine smr_M_isOther_27 _ _ _ ?_
        rw [ep, e66, e4]
        refine ⟨v12, br_t (nI_le (by omega) (by omega)) ⟨mmB_z hx, rfl, mmB_iff hx ?_⟩⟩
        rw [← fin, show m = 4 * l by omega]
      | succ d ih =>
        intro m x hm hx
        refine smr_M_isOther_27 _ _ _ ?_
        rw [ep, e66, e4]
        refine ⟨v12, br_f (nI_ge (by omega) (by omega)) ?_⟩
        have e288 : (288 : Int32) + nI (48 * p + m) = nI (288 + (48 * p + m)) := nI_add 288 _
        rw [e288, nI_clamp (n := 48 * p + m) (by omega), nI_clamp (n := 288 + (48 * p + m)) (by omega), nI_1]
        refine ⟨fun a => ih (m + 1) 1 (by omega) (mmB_1 ?_), fun a => ⟨vp_in_nI (by omega) (by decide), vp_in_nI (by omega) (by decide), fun b => ih (m + 1) 0 (by omega) (mmB_0 ?_), fun b => ih (m + 1) 1 (by omega) (mmB_1 ⟨m, by omega, b⟩)⟩⟩
        · rcases hx with ⟨⟨k, hk, hne⟩, -⟩ | ⟨-, hx⟩
          · exact ⟨k, by omega, hne⟩
          · exact absurd hx a
        · rintro ⟨k, hk, hne⟩
          rcases hx with ⟨-, hx⟩ | ⟨hx, -⟩
          · rw [hx] at a
            exact absurd a (by decide)
          · by_cases hkm : k = m
            · subst hkm
              exact hne b
            · exact hx ⟨k, by omega, hne⟩
    exact loop (4 * l) 0 0 (by omega) (mmB_0 (by rintro ⟨k, hk, -⟩; omega))
  · have q1 : g (8 + 1) p = g (1 + 1) p := q.1
    rw [el8, el1] at q1
    exact q1.symm
theorem sp_M_usesTouched {g h : mm_Mem} (h1 : Iv g 1) (hok : okV g 1) (L1 : Lver g h 1 0 0 0) (Lr : Lrul g h) {p : Nat} (hp : p < 6) : mm_B1 Γ smM_M_usesTouched [.ref (mm_B Γ + 64), .int (nI p)] h (usesV g 1 p) := by
  obtain ⟨el1, hl1⟩ := lenV_of h1 hp
  have ep : (nI p).toNatClampNeg = p := nI_clamp (by omega)
  have e66 : h 66 p = nI (lenV g 1 p) := by
    have := L1.1 p hp
    rw [Nat.zero_add] at this
    rw [this]
    exact el1
  have v12 : vp_in (nI p) 12 := vp_in_nI (by omega) (by decide)
  have loop : ∀ d i x, i + d = lenV g 1 p → mmB x (∃ k, k < i ∧ tuse g 1 (12 * p + k)) → mm_W Γ smM_M_usesTouched (mm_pI (fun r h' => h' = h ∧ mmB r (usesV g 1 p))) 4 [some (.ref (mm_B Γ + 64)), some (.int (nI p)), some (.int x), some (.int (nI i)), none, none] [] h := by
    intro d
    induction d with
    | zero =>
      intro i x hi hx
      refine smr_M_usesTouched_4 _ _ _ ?_
      rw [ep, e66]
      refine ⟨v12, br_t (nI_le (by omega) (by omega)) ⟨mmB_z hx, rfl, mmB_iff hx ?_⟩⟩
      rw [show i = lenV g 1 p by omega]
      rfl
    | succ d ih =>
      intro i x hi hx
      refine smr_M_usesTouched_4 _ _ _ ?_
      rw [ep, e66]
      refine ⟨v12, br_f (nI_ge (by omega) (by omega)) (fun y ey => ?_)⟩
      have ey' : y = nI (4 * (12 * p + i)) := by
        rw [ey]
        show nI 48 * nI p + nI 4 * nI i = _
        rw [pk_mul, pk_mul, nI_add]
        congr 1
        omega
      subst ey'
      obtain ⟨a1, a2, a3, a4⟩ := L1.2.1 (12 * p + i) (by omega)
      simp only [Nat.zero_add, Nat.reduceAdd] at a1 a2 a3 a4
      obtain ⟨r1, r2⟩ := right_ty (hok p i hp (by omega)).1
      simp only [Nat.reduceAdd] at r1 r2
      have g2 : nI (4 * (12 * p + i)) + 2 = nI (4 * (12 * p + i) + 2) := nI_add _ 2
      have g3 : nI (4 * (12 * p + i)) + 3 = nI (4 * (12 * p + i) + 3) := nI_add _ 3
      rw [g2, g3, nI_clamp (n := 4 * (12 * p + i)) (by omega), nI_clamp (n := 4 * (12 * p + i) + 2) (by omega), nI_clamp (n := 4 * (12 * p + i) + 3) (by omega), a1, a3, a4]
      have v0 : vp_in (nI (4 * (12 * p + i))) 576 := vp_in_nI (by omega) (by decide)
      have v2 : vp_in (nI (4 * (12 * p + i) + 2)) 576 := vp_in_nI (by omega) (by decide)
      have v3 : vp_in (nI (4 * (12 * p + i) + 3)) 576 := vp_in_nI (by omega) (by decide)
      have go : ∀ s0 : Int32, ((s0 = -1 ∧ ¬ tuse g 1 (12 * p + i)) ∨ ∃ t, t < 3 ∧ s0 = nI t ∧ (tuse g 1 (12 * p + i) ↔ ¬ g 16 t = 0)) → mm_W Γ smM_M_usesTouched (mm_pI (fun r h' => h' = h ∧ mmB r (usesV g 1 p))) 87 [some (.ref (mm_B Γ + 64)), some (.int (nI p)), some (.int x), some (.int (nI i)), none, none] [.int s0] h := by
        intro s0 hs
        refine smr_M_usesTouched_87 _ _ _ _ ?_
        rw [nI_1]
        have keep : ¬ tuse g 1 (12 * p + i) → x = 0 → mm_W Γ smM_M_usesTouched (mm_pI (fun r h' => h' = h ∧ mmB r (usesV g 1 p))) 4 [some (.ref (mm_B Γ + 64)), some (.int (nI p)), some (.int 0), some (.int (nI (i + 1))), none, none] [] h := by
          intro hn hx0
          refine ih (i + 1) 0 (by omega) (mmB_0 ?_)
          rintro ⟨k, hk, hu⟩
          rcases hx with ⟨-, hx⟩ | ⟨hx, -⟩
          · rw [hx] at hx0
            exact absurd hx0 (by decide)
          · by_cases hki : k = i
            · subst hki
              exact hn hu
            · exact hx ⟨k, by omega, hu⟩
        refine ⟨fun a => ih (i + 1) 1 (by omega) (mmB_1 ?_), fun a => ?_⟩
        · rcases hx with ⟨⟨k, hk, hu⟩, -⟩ | ⟨-, hx⟩
          · exact ⟨k, by omega, hu⟩
          · exact absurd hx a
        · rcases hs with ⟨rfl, hs⟩ | ⟨t, ht, rfl, hs⟩
          · exact br_t m1_lt (keep hs a)
          · refine br_f (nI_pos (by omega)) ⟨vp_in_nI ht (by decide), ?_⟩
            rw [nI_clamp (by omega), Lr.2 t ht]
            exact ⟨fun b => keep (fun z => hs.mp z b) a, fun b => ih (i + 1) 1 (by omega) (mmB_1 ⟨i, by omega, hs.mpr b⟩)⟩
      have t78 : g 3 (12 * p + i) = 7 ∨ g 3 (12 * p + i) = 8 → ∃ t, t < 3 ∧ g 6 (12 * p + i) / 4 = nI t ∧ (tuse g 1 (12 * p + i) ↔ ¬ g 16 t = 0) := by
        intro e
        obtain ⟨c, hc, ec, cc⟩ := vin_of (r2 e) (by decide)
        refine ⟨c / 4, by omega, by rw [ec]; exact div4 hc, ?_⟩
        unfold tuse
        simp only [Nat.reduceAdd]
        rw [cc]
        constructor
        · rintro (q | q)
          · rcases e with e | e
            · rw [e] at q
              exact absurd q.1 (by decide)
            · rw [e] at q
              exact absurd q.1 (by decide)
          · exact q.2
        · exact fun q => Or.inr ⟨e, q⟩
      refine ⟨v0, fun n6 => ⟨v0, fun e7 => ⟨v3, go _ (Or.inr (t78 (Or.inl e7)))⟩, fun n7 => ⟨v0, fun n8 => go _ (Or.inl ⟨rfl, ?_⟩), fun e8 => ⟨v3, go _ (Or.inr (t78 (Or.inr e8)))⟩⟩⟩, fun e6 => ⟨v2, go _ (Or.inr ?_)⟩⟩
      · rintro (q | q)
        · exact n6 q.1
        · rcases q.1 with q | q
          · exact n7 q
          · exact n8 q
      · obtain ⟨t, ht, et, ct⟩ := vin_of (r1 e6) (by decide)
        refine ⟨t, ht, et, ?_⟩
        unfold tuse
        simp only [Nat.reduceAdd]
        rw [ct]
        constructor
        · rintro (q | q)
          · exact q.2
          · rw [e6] at q
            exact absurd q.1 (by decide)
        · exact fun q => Or.inl ⟨e6, q⟩
  exact smr_M_usesTouched _ (loop (lenV g 1 p) 0 0 (by omega) (mmB_0 (by rintro ⟨k, hk, -⟩; omega)))
theorem sp_M_isChanged {g h : mm_Mem} (h1 : Iv g 1) (hok : okV g 1) (h8 : Iv g 8) (L1 : Lver g h 1 0 0 0) (L8 : Lver g h 8 288 6 3) (Lr : Lrul g h) {p : Nat} (hp : p < 6) : mm_B1 Γ smM_M_isChanged [.ref (mm_B Γ + 64), .int (nI p)] h (chg g p) := by
  refine smr_M_isChanged _ (us_br' (sp_M_isOther h1 h8 L1 L8 hp) (fun a => ⟨rfl, mmB_1 (Or.inl a)⟩) (fun a => ?_))
  refine us_br (sp_M_usesTouched h1 hok L1 Lr hp) (fun b => ⟨rfl, mmB_1 (Or.inr b)⟩) (fun b => ⟨rfl, mmB_0 ?_⟩)
  rintro (q | q)
  · exact a q
  · exact b q
theorem pr_changed (x0 : Int32) : mm_pair Γ Rel smM_S_changed smM_M_changed [.int x0] := by
  intro h hR
  have e5 : h 64 5 = h 0 8 := hR.2.1.1
  have I1 : Iv h 1 := hR.1.1.1
  have Io : okV h 1 := hR.1.1.2
  have I8 : Iv h 8 := hR.1.2.1
  obtain ⟨-, L1, L8, Lr, -⟩ := hR.2
  refine smr_S_changed _ ⟨fun a => ?_, fun a => ?_⟩
  · exact smr_M_changed _ (br_t (by rw [e5]; exact a) ⟨rfl, hR⟩)
  · have a' : ¬ h 64 5 = 0 := by rw [e5]; exact a
    refine us_br (sp_within 6 rfl (by decide)) (fun hp => ?_) (fun hp => ?_)
    · obtain ⟨p, hp6, rfl, ep⟩ := vin_of hp (by decide)
      refine us_br (sp_draftChanges I1 Io I8 hp6) (fun c => ?_) (fun c => ?_)
      · exact smr_M_changed _ (br_f a' (us_br sp_M_isProcedure (fun _ => us_br (sp_M_isChanged I1 Io I8 L1 L8 Lr hp6) (fun _ => ⟨rfl, hR⟩) (fun q => absurd c q)) (fun q => absurd hp q)))
      · exact smr_M_changed _ (br_f a' (us_br sp_M_isProcedure (fun _ => us_br (sp_M_isChanged I1 Io I8 L1 L8 Lr hp6) (fun q => absurd q c) (fun _ => ⟨rfl, hR⟩)) (fun q => absurd hp q)))
    · exact smr_M_changed _ (br_f a' (us_br sp_M_isProcedure (fun q => absurd q hp) (fun _ => ⟨rfl, hR⟩)))
end CH
