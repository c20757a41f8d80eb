section DP
variable {Γ : mm_Ctx}
/-! how many of the places 1 .. k of a row are marked -/
def cntR (r : Nat → Int32) : Nat → Nat
  | 0 => 0
  | k + 1 => cntR r k + (if r (k + 1) = 0 then 0 else 1)
theorem cntR_le (r : Nat → Int32) : ∀ k, cntR r k ≤ k
  | 0 => Nat.le_refl _
  | k + 1 => by
    have := cntR_le r k
    unfold cntR
    split <;> omega
theorem cntR_congr {r r' : Nat → Int32} : ∀ k, (∀ o, 1 ≤ o → o ≤ k → (r o = 0 ↔ r' o = 0)) → cntR r k = cntR r' k
  | 0, _ => rfl
  | k + 1, h => by
    have h1 := cntR_congr k (fun o a b => h o a (by omega))
    have h2 := h (k + 1) (by omega) (by omega)
    unfold cntR
    rw [h1]
    by_cases c : r (k + 1) = 0
    · rw [if_pos c, if_pos (h2.mp c)]
    · rw [if_neg c, if_neg (fun q => c (h2.mpr q))]
theorem cntR_new {r : Nat → Int32} {o : Nat} {x : Int32} (ho : 1 ≤ o) (h0 : r o = 0) (hx : ¬ x = 0) : ∀ k, o ≤ k → cntR (upd r o x) k = cntR r k + 1
  | 0, hk => by omega
  | k + 1, hk => by
    unfold cntR
    by_cases c : o = k + 1
    · subst c
      have : cntR (upd r (k + 1) x) k = cntR r k := cntR_congr k (fun o' a b => by simp [upd, show ¬ o' = k + 1 by omega])
      rw [this]
      simp [upd, h0, hx]
    · have := cntR_new ho h0 hx k (by omega)
      rw [this]
      simp [upd, show ¬ k + 1 = o by omega]
      omega
theorem cntR_mono {r r' : Nat → Int32} : ∀ k, (∀ o, 1 ≤ o → o ≤ k → ¬ r o = 0 → ¬ r' o = 0) → cntR r k ≤ cntR r' k ∧ (cntR r k = cntR r' k → ∀ o, 1 ≤ o → o ≤ k → ¬ r' o = 0 → ¬ r o = 0)
  | 0, _ => ⟨Nat.le_refl _, fun _ o a b => by omega⟩
  | k + 1, h => by
    obtain ⟨h1, h2⟩ := cntR_mono k (fun o a b => h o a (by omega))
    have h3 := h (k + 1) (by omega) (by omega)
    unfold cntR
    by_cases c : r (k + 1) = 0
    · by_cases d : r' (k + 1) = 0
      · rw [if_pos c, if_pos d]
        refine ⟨by omega, fun e o a b hr => ?_⟩
        by_cases ho : o = k + 1
        · subst ho
          exact absurd d hr
        · exact h2 (by omega) o a (by omega) hr
      · rw [if_pos c, if_neg d]
        exact ⟨by omega, fun e => absurd e (by omega)⟩
    · rw [if_neg c, if_neg (h3 c)]
      refine ⟨by omega, fun e o a b hr => ?_⟩
      by_cases ho : o = k + 1
      · subst ho
        exact c
      · exact h2 (by omega) o a (by omega) hr
/-! what is reachable -/
def root (g : mm_Mem) (n o : Nat) : Prop := live g o ∧ ((∃ x, x < 4 ∧ g 26 x = nI o) ∨ ∃ j x, j < n ∧ x < 3 * dep g j ∧ g (28 + 6 * j + 3) x = nI o)
def edge (g : mm_Mem) (o o' : Nat) : Prop := live g o' ∧ ∃ f, f < 4 ∧ g 22 (4 * o + f) = nI o'
def Reach (g : mm_Mem) (n o : Nat) : Prop := ∀ P : Nat → Prop, (∀ o, root g n o → P o) → (∀ o o', P o → edge g o o' → P o') → P o
theorem Reach_root {g : mm_Mem} {n o : Nat} (h : root g n o) : Reach g n o := fun P h1 _ => h1 o h
theorem Reach_edge {g : mm_Mem} {n o o' : Nat} (h : Reach g n o) (he : edge g o o') : Reach g n o' := fun P h1 h2 => h2 o o' (h P h1 h2) he
theorem Reach_live {g : mm_Mem} {n o : Nat} (h : Reach g n o) : live g o := h (live g) (fun o h => h.1) (fun o o' _ h => h.1)
/-- the marks of the class: h is g but for the rows of the marking -/
def MI (g : mm_Mem) (n : Nat) (h : mm_Mem) (c : Nat) : Prop := (∀ q, ¬ q = 20 → ¬ q = 24 → ¬ q = 25 → h q = g q) ∧ h 20 5 = nI c ∧ c = cntR (h 24) 16 ∧ (∀ i, i < c → ∃ o, h 25 i = nI o ∧ 1 ≤ o ∧ o ≤ 16 ∧ ¬ h 24 o = 0) ∧ (∀ o, 1 ≤ o → o ≤ 16 → ¬ h 24 o = 0 → Reach g n o ∧ ∃ i, i < c ∧ h 25 i = nI o)
def Mx (h h' : mm_Mem) (c : Nat) : Prop := (∀ i, i < c → h' 25 i = h 25 i) ∧ ∀ o, ¬ h 24 o = 0 → ¬ h' 24 o = 0
theorem live_n {g : mm_Mem} {o o' : Nat} (h : live g o) (e : nI o' = nI o) (ho : o' < 2 ^ 31) : o' = o := nI_in' ho (by have := h.2.1; omega) e
theorem sp_H_mark {g h : mm_Mem} {n c : Nat} (hM : MI g n h c) {x : Int32} (hx : ∀ o, live g o → x = nI o → Reach g n o) : mm_SV Γ smM_H_mark [.ref (mm_B Γ + 20), .int x] h (fun h' => ∃ c', c ≤ c' ∧ MI g n h' c' ∧ Mx h h' c ∧ ∀ o, live g o → x = nI o → ¬ h' 24 o = 0) := by
  obtain ⟨m1, m2, m3, m4, m5⟩ := hM
  have e21 : h 21 = g 21 := m1 21 (by omega) (by omega) (by omega)
  have hl : ∀ o, live h o ↔ live g o := live_congr e21
  refine smr_H_mark _ (us_br sp_H_has (fun a => ?_) (fun a => ⟨c, Nat.le_refl _, ⟨m1, m2, m3, m4, m5⟩, ⟨fun _ _ => rfl, fun _ q => q⟩, fun o h1 h2 => absurd ⟨o, (hl o).mpr h1, h2⟩ a⟩))
  obtain ⟨o, ho0, rfl⟩ := a
  have ho := (hl o).mp ho0
  have o1 := ho.1
  have o2 := ho.2.1
  have v17 : vp_in (nI o) 17 := vp_in_nI (by omega) (by decide)
  rw [nI_clamp (n := o) (by omega)]
  refine ⟨v17, fun b => ⟨c, Nat.le_refl _, ⟨m1, m2, m3, m4, m5⟩, ⟨fun _ _ => rfl, fun _ q => q⟩, fun o' h1 h2 => ?_⟩, fun b => ⟨v17, fun m e1 => ?_⟩⟩
  · rw [← live_n h1 h2 (by omega)]
    exact b
  · have hc16 : c < 16 := by
      have h1 := cntR_new (r := h 24) (x := 1) o1 b (by decide) 16 o2
      have h2 := cntR_le (upd (h 24) o 1) 16
      omega
    have d1 : m 20 5 = nI c := by rw [e1, mw_miss (by omega), m2]
    rw [d1, nI_clamp (n := c) (by omega)]
    refine ⟨vp_in_nI hc16 (by decide), fun m' e2 m'' e3 => ?_⟩
    have d2 : m' 20 5 = nI c := by rw [e2, mw_miss (by omega), d1]
    rw [d2, nI_1] at e3
    have f24 : m'' 24 = upd (h 24) o 1 := by rw [e3, mw_ne (by omega), e2, mw_ne (by omega), e1, mw_eq]
    have f25 : m'' 25 = upd (h 25) c (nI o) := by rw [e3, mw_ne (by omega), e2, mw_eq, e1, mw_ne (by omega)]
    have f20 : m'' 20 5 = nI (c + 1) := by rw [e3, mw_hit]
    have fo : ∀ q, ¬ q = 20 → ¬ q = 24 → ¬ q = 25 → m'' q = h q := fun q a b c => by rw [e3, mw_ne a, e2, mw_ne c, e1, mw_ne b]
    have u24 : ∀ o', m'' 24 o' = if o' = o then 1 else h 24 o' := fun o' => by rw [f24]; rfl
    have u25 : ∀ i, m'' 25 i = if i = c then nI o else h 25 i := fun i => by rw [f25]; rfl
    have mono : ∀ o', ¬ h 24 o' = 0 → ¬ m'' 24 o' = 0 := fun o' q => by
      rw [u24]
      split
      · decide
      · exact q
    refine ⟨c + 1, by omega, ⟨fun q a b d => by rw [fo q a b d, m1 q a b d], f20, ?_, fun i hi => ?_, fun o' h1 h2 h3 => ?_⟩, ⟨fun i hi => ?_, mono⟩, fun o' h1 h2 => ?_⟩
    · rw [f24, cntR_new o1 b (by decide) 16 o2, ← m3]
    · rw [u25]
      by_cases hic : i = c
      · rw [if_pos hic]
        exact ⟨o, rfl, o1, o2, by rw [u24, if_pos rfl]; decide⟩
      · rw [if_neg hic]
        obtain ⟨o', q1, q2, q3, q4⟩ := m4 i (by omega)
        exact ⟨o', q1, q2, q3, mono o' q4⟩
    · by_cases hoo : o' = o
      · subst hoo
        exact ⟨hx o' ho rfl, c, by omega, by rw [u25, if_pos rfl]⟩
      · rw [u24, if_neg hoo] at h3
        obtain ⟨q1, i, q2, q3⟩ := m5 o' h1 h2 h3
        exact ⟨q1, i, by omega, by rw [u25, if_neg (by omega)]; exact q3⟩
    · rw [u25, if_neg (by omega)]
    · rw [← live_n h1 h2 (by omega), u24, if_pos rfl]
      decide
/-- the class's drop -/
noncomputable def cntP (P : Nat → Prop) : Nat → Nat
  | 0 => 0
  | k + 1 => cntP P k + (@ite Nat (P (k + 1)) (Classical.propDecidable _) 1 0)
theorem cntP_t {P : Nat → Prop} {k : Nat} (h : P (k + 1)) : cntP P (k + 1) = cntP P k + 1 := by
  show cntP P k + (@ite Nat (P (k + 1)) (Classical.propDecidable _) 1 0) = _
  rw [if_pos h]
theorem cntP_f {P : Nat → Prop} {k : Nat} (h : ¬ P (k + 1)) : cntP P (k + 1) = cntP P k := by
  show cntP P k + (@ite Nat (P (k + 1)) (Classical.propDecidable _) 1 0) = _
  rw [if_neg h]
  rfl
theorem cntP_le (P : Nat → Prop) : ∀ k, cntP P k ≤ k
  | 0 => Nat.le_refl _
  | k + 1 => by
    have := cntP_le P k
    by_cases h : P (k + 1)
    · rw [cntP_t h]
      omega
    · rw [cntP_f h]
      omega
def Gone (g : mm_Mem) (n o : Nat) : Prop := live g o ∧ ¬ Reach g n o
def DropC (g : mm_Mem) (n : Nat) (h' : mm_Mem) : Prop := (∀ q, ¬ q = 20 → ¬ q = 21 → ¬ q = 24 → ¬ q = 25 → h' q = g q) ∧ ∀ o, 1 ≤ o → o ≤ 16 → (Gone g n o → h' 21 o = -1) ∧ (¬ Gone g n o → h' 21 o = g 21 o)
theorem sp_unmarkAll {g : mm_Mem} {n : Nat} : mm_SV Γ smM_H_unmarkAll [.ref (mm_B Γ + 20)] g (fun h' => MI g n h' 0) := by
  have loop : ∀ d k (h : mm_Mem), k + d = 17 → (∀ q, ¬ q = 20 → ¬ q = 24 → ¬ q = 25 → h q = g q) → h 20 5 = nI 0 → (∀ o, o < k → h 24 o = 0) → mm_W Γ smM_H_unmarkAll (mm_pV (fun h' => MI g n h' 0)) 7 [some (.ref (mm_B Γ + 20)), some (.int (nI k))] [] h := by
    intro d
    induction d with
    | zero =>
      intro k h hk a b c
      obtain rfl : k = 17 := by omega
      refine smr_H_unmarkAll_7 _ (br_t (by decide) ⟨a, b, ?_, fun i hi => absurd hi (by omega), fun o h1 h2 h3 => absurd (c o (by omega)) h3⟩)
      have : ∀ m, m ≤ 16 → cntR (h 24) m = 0 := by
        intro m
        induction m with
        | zero => exact fun _ => rfl
        | succ m ih =>
          intro hm
          unfold cntR
          rw [ih (by omega), if_pos (c (m + 1) (by omega))]
      exact (this 16 (Nat.le_refl _)).symm
    | succ d ih =>
      intro k h hk a b c
      refine smr_H_unmarkAll_7 _ (br_f (nI_nlt (a := 16) (b := k) (by omega) (by omega)) ⟨vp_in_nI (by omega) (by decide), fun m e => ?_⟩)
      rw [nI_clamp (by omega)] at e
      rw [nI_1]
      refine ih (k + 1) m (by omega) (fun q h1 h2 h3 => by rw [e, mw_ne h2, a q h1 h2 h3]) (by rw [e, mw_miss (by omega), b]) (fun o ho => ?_)
      by_cases hok : o = k
      · subst hok
        rw [e, mw_hit]
      · rw [e, mw_miss (by omega)]
        exact c o (by omega)
  refine smr_H_unmarkAll (fun m e => loop 17 0 m rfl (fun q h1 h2 h3 => by rw [e, mw_ne h1]) (by rw [e, mw_hit]; rfl) (fun o ho => absurd ho (by omega)))
theorem MI_edge {g h : mm_Mem} {n c : Nat} (hM : MI g n h c) {o : Nat} (h1 : 1 ≤ o) (h2 : o ≤ 16) (h3 : ¬ h 24 o = 0) {f : Nat} (hf : f < 4) : ∀ o', live g o' → g 22 (4 * o + f) = nI o' → Reach g n o' := fun o' q1 q2 => Reach_edge (hM.2.2.2.2 o h1 h2 h3).1 ⟨q1, f, hf, q2⟩
theorem sp_markFromMarked {g h : mm_Mem} {n c : Nat} (hM : MI g n h c) : mm_SV Γ smM_H_markFromMarked [.ref (mm_B Γ + 20)] h (fun h' => ∃ c', MI g n h' c' ∧ (∀ o, ¬ h 24 o = 0 → ¬ h' 24 o = 0) ∧ ∀ o o', 1 ≤ o → o ≤ 16 → ¬ h' 24 o = 0 → edge g o o' → ¬ h' 24 o' = 0) := by
  generalize hpost : (fun (h' : mm_Mem) => ∃ c', MI g n h' c' ∧ (∀ o, ¬ h 24 o = 0 → ¬ h' 24 o = 0) ∧ ∀ o o', 1 ≤ o → o ≤ 16 → ¬ h' 24 o = 0 → edge g o o' → ¬ h' 24 o' = 0) = post
  have inner : ∀ i, i < 16 → (∀ (m : mm_Mem) (cm : Nat), MI g n m cm → i < cm → (∀ o, ¬ h 24 o = 0 → ¬ m 24 o = 0) → (∀ k o o', k < i + 1 → m 25 k = nI o → 1 ≤ o → o ≤ 16 → edge g o o' → ¬ m 24 o' = 0) → mm_W Γ smM_H_markFromMarked (mm_pV post) 2 [some (.ref (mm_B Γ + 20)), some (.int (nI (i + 1))), none] [] m) → ∀ d f (m : mm_Mem) (cm : Nat), f + d = 4 → MI g n m cm → i < cm → (∀ o, ¬ h 24 o = 0 → ¬ m 24 o = 0) → (∀ k o o', k < i → m 25 k = nI o → 1 ≤ o → o ≤ 16 → edge g o o' → ¬ m 24 o' = 0) → (∀ o o' f', f' < f → m 25 i = nI o → 1 ≤ o → o ≤ 16 → live g o' → g 22 (4 * o + f') = nI o' → ¬ m 24 o' = 0) → mm_W Γ smM_H_markFromMarked (mm_pV post) 18 [some (.ref (mm_B Γ + 20)), some (.int (nI i)), some (.int (nI f))] [] m := by
    intro i hi knext d
    induction d with
    | zero =>
      intro f m cm hf hMm hic hmono hprev hcur
      obtain rfl : f = 4 := by omega
      refine smr_H_markFromMarked_18 _ _ ?_
      rw [nI_1]
      refine br_t (by decide) (knext m cm hMm hic hmono (fun k o o' hk e1 e2 e3 he => ?_))
      by_cases hki : k = i
      · subst hki
        obtain ⟨l', f', hf', ef'⟩ := he
        exact hcur o o' f' hf' e1 e2 e3 l' ef'
      · exact hprev k o o' (by omega) e1 e2 e3 he
    | succ d ih =>
      intro f m cm hf hMm hic hmono hprev hcur
      obtain ⟨o, eo, ho1, ho2, ho3⟩ := hMm.2.2.2.1 i hic
      have e22 : m 22 = g 22 := hMm.1 22 (by omega) (by omega) (by omega)
      refine smr_H_markFromMarked_18 _ _ ?_
      have ei : nI o * 4 + nI f = nI (4 * o + f) := by
        show nI o * nI 4 + nI f = _
        rw [pk_mul, nI_add, Nat.mul_comm]
      rw [nI_clamp (n := i) (by omega), eo, ei, nI_clamp (n := 4 * o + f) (by omega), e22, nI_1 f]
      refine br_f (nI_ge (a := f) (b := 4) (by omega) (by omega)) ⟨vp_in_nI hi (by decide), vp_in_nI (by omega) (by decide), mm_SV_mono (sp_H_mark hMm (MI_edge hMm ho1 ho2 ho3 (by omega))) (fun m' q => ?_)⟩
      obtain ⟨c', hc', hM', ⟨hx1, hx2⟩, hx3⟩ := q
      refine ih (f + 1) m' c' (by omega) hM' (by omega) (fun o' q => hx2 o' (hmono o' q)) (fun k o1 o2 hk e1 e2 e3 he => ?_) (fun o1 o2 f' hf' e1 e2 e3 l2 e4 => ?_)
      · rw [hx1 k (by omega)] at e1
        exact hx2 o2 (hprev k o1 o2 hk e1 e2 e3 he)
      · rw [hx1 i hic] at e1
        have : o = o1 := nI_in' (by omega) (by omega) (eo.symm.trans e1)
        subst this
        by_cases hff : f' = f
        · subst hff
          exact hx3 o2 l2 e4
        · exact hx2 o2 (hcur o o2 f' (by omega) e1 e2 e3 l2 e4)
  have outer : ∀ d i (m : mm_Mem) (cm : Nat), i + d = 16 → MI g n m cm → i ≤ cm → (∀ o, ¬ h 24 o = 0 → ¬ m 24 o = 0) → (∀ k o o', k < i → m 25 k = nI o → 1 ≤ o → o ≤ 16 → edge g o o' → ¬ m 24 o' = 0) → mm_W Γ smM_H_markFromMarked (mm_pV post) 2 [some (.ref (mm_B Γ + 20)), some (.int (nI i)), none] [] m := by
    intro d
    induction d with
    | zero =>
      intro i m cm hi hMm hic hmono hprev
      obtain rfl : i = 16 := by omega
      have hcm : cm ≤ 16 := by rw [hMm.2.2.1]; exact cntR_le _ _
      have fin : post m := by
        rw [← hpost]
        refine ⟨cm, hMm, hmono, fun o o' h1 h2 h3 he => ?_⟩
        obtain ⟨-, k, hk, ek⟩ := hMm.2.2.2.2 o h1 h2 h3
        exact hprev k o o' (by omega) ek h1 h2 he
      refine smr_H_markFromMarked_2 _ ⟨fun _ => fin, fun _ => br_t (by decide) fin⟩
    | succ d ih =>
      intro i m cm hi hMm hic hmono hprev
      have hcm : cm ≤ 16 := by rw [hMm.2.2.1]; exact cntR_le _ _
      refine smr_H_markFromMarked_2 _ ?_
      rw [hMm.2.1]
      refine ⟨fun a => ?_, fun a => br_f (nI_ge (a := i) (b := 16) (by omega) (by omega)) (inner i (by omega) (fun m' cm' q1 q2 q3 q4 => ih (i + 1) m' cm' (by omega) q1 (by omega) q3 q4) 4 0 m cm rfl hMm ?_ hmono hprev (fun _ _ f' hf' => absurd hf' (by omega)))⟩
      · have hle : cm ≤ i := (nI_leI (by omega) (by omega)).mp a
        rw [← hpost]
        refine ⟨cm, hMm, hmono, fun o o' h1 h2 h3 he => ?_⟩
        obtain ⟨-, k, hk, ek⟩ := hMm.2.2.2.2 o h1 h2 h3
        exact hprev k o o' (by omega) ek h1 h2 he
      · have : ¬ cm ≤ i := fun z => a (nI_le z (by omega))
        omega
  exact smr_H_markFromMarked (outer 16 0 h c rfl hM (by omega) (fun _ q => q) (fun k _ _ hk => absurd hk (by omega)))
theorem sp_dropUnmarked {g h : mm_Mem} {n c : Nat} (hM : MI g n h c) (hall : ∀ o, Reach g n o → ¬ h 24 o = 0) : mm_SI Γ smM_H_dropUnmarked [.ref (mm_B Γ + 20)] h (fun r h' => r = nI (cntP (Gone g n) 16) ∧ DropC g n h') := by
  obtain ⟨m1, m2, m3, m4, m5⟩ := hM
  have loop : ∀ d k (m : mm_Mem), k + d = 16 → (∀ q, ¬ q = 21 → m q = h q) → (∀ o, 1 ≤ o → o ≤ 16 → (o ≤ k → Gone g n o → m 21 o = -1) ∧ (¬ (o ≤ k ∧ Gone g n o) → m 21 o = g 21 o)) → mm_W Γ smM_H_dropUnmarked (mm_pI (fun r h' => r = nI (cntP (Gone g n) 16) ∧ DropC g n h')) 4 [some (.ref (mm_B Γ + 20)), some (.int (nI (cntP (Gone g n) k))), some (.int (nI (k + 1)))] [] m := by
    intro d
    induction d with
    | zero =>
      intro k m hk a b
      obtain rfl : k = 16 := by omega
      refine smr_H_dropUnmarked_4 _ _ (br_t (by decide) ⟨rfl, fun q h1 h2 h3 h4 => by rw [a q h2, m1 q h1 h3 h4], fun o h1 h2 => ⟨fun hg => (b o h1 h2).1 h2 hg, fun hg => (b o h1 h2).2 (fun z => hg z.2)⟩⟩)
    | succ d ih =>
      intro k m hk a b
      have hcl := cntP_le (Gone g n) k
      have e24 : m 24 = h 24 := a 24 (by omega)
      have b1 := b (k + 1) (by omega) (by omega)
      have e21 : m 21 (k + 1) = g 21 (k + 1) := b1.2 (by omega)
      have lv : live m (k + 1) ↔ live g (k + 1) := by
        unfold live
        rw [e21]
      have keep : ¬ Gone g n (k + 1) → mm_W Γ smM_H_dropUnmarked (mm_pI (fun r h' => r = nI (cntP (Gone g n) 16) ∧ DropC g n h')) 4 [some (.ref (mm_B Γ + 20)), some (.int (nI (cntP (Gone g n) k))), some (.int (nI (k + 1) + 1))] [] m := by
        intro hg
        rw [nI_1, ← cntP_f hg]
        refine ih (k + 1) m (by omega) a (fun o h1 h2 => ⟨fun h3 h4 => ?_, fun h3 => ?_⟩)
        · by_cases hok : o = k + 1
          · subst hok
            exact absurd h4 hg
          · exact (b o h1 h2).1 (by omega) h4
        · exact (b o h1 h2).2 (fun z => h3 ⟨by omega, z.2⟩)
      refine smr_H_dropUnmarked_4 _ _ (br_f (nI_nlt (a := 16) (b := k + 1) (by omega) (by omega)) (us_br sp_H_has (fun hx => ?_) (fun hx => keep (fun q => hx ⟨k + 1, lv.mpr q.1, rfl⟩))))
      obtain ⟨o, ho, eo⟩ := hx
      have : k + 1 = o := nI_in' (by omega) (by have := ho.2.1; omega) eo
      subst this
      have hlg := lv.mp ho
      have v17 : vp_in (nI (k + 1)) 17 := vp_in_nI (by omega) (by decide)
      rw [nI_clamp (n := k + 1) (by omega), e24]
      refine ⟨v17, fun q => keep (fun z => z.2 (m5 (k + 1) (by omega) (by omega) q).1), fun q => ⟨v17, fun m' e' => ?_⟩⟩
      have hg : Gone g n (k + 1) := ⟨hlg, fun z => hall _ z q⟩
      rw [nI_1, nI_1, ← cntP_t hg]
      refine ih (k + 1) m' (by omega) (fun q' hq' => by rw [e', mw_ne hq', a q' hq']) (fun o h1 h2 => ⟨fun h3 h4 => ?_, fun h3 => ?_⟩)
      · by_cases hok : o = k + 1
        · subst hok
          rw [e', mw_hit]
        · rw [e', mw_miss (by omega)]
          exact (b o h1 h2).1 (by omega) h4
      · have hok : ¬ o = k + 1 := fun z => h3 ⟨by omega, by rw [z]; exact hg⟩
        rw [e', mw_miss (by omega)]
        exact (b o h1 h2).2 (fun z => h3 ⟨by omega, z.2⟩)
  refine smr_H_dropUnmarked (loop 16 0 h rfl (fun _ _ => rfl) (fun o h1 h2 => ⟨fun h3 => absurd h3 (by omega), fun _ => by rw [m1 21 (by omega) (by omega) (by omega)]⟩))
theorem sp_drop {g : mm_Mem} {n : Nat} (hT : Itasks g n) : mm_SI Γ smM_S_dropUnreachable [.ref (mm_B Γ + 0)] g (fun r h' => r = nI (cntP (Gone g n) 16) ∧ DropC g n h') := by
  generalize hpost : (fun (r : Int32) (h' : mm_Mem) => r = nI (cntP (Gone g n) 16) ∧ DropC g n h') = post
  have hn6 := hT.1
  -- the end
  have fin : ∀ (m : mm_Mem) (cm : Nat), MI g n m cm → (∀ o, root g n o → ¬ m 24 o = 0) → mm_W Γ smM_S_dropUnreachable (mm_pI post) 35 [some (.ref (mm_B Γ + 0)), some (.int (nI n)), none, none] [] m := by
    intro m cm hM hr
    refine smr_S_dropUnreachable_35 _ ?_
    rw [hM.1 0 (by omega) (by omega) (by omega), hT.2.1]
    refine br_t (nI_le (Nat.le_refl _) (by omega)) (mm_SV_mono (sp_markFromMarked hM) (fun m' q => ?_))
    obtain ⟨c', hM', hmono, hcl⟩ := q
    refine mm_SI_mono (sp_dropUnmarked hM' (fun o hR => ?_)) (fun r h' q => by rw [← hpost]; exact q)
    refine (hR (fun o => 1 ≤ o ∧ o ≤ 16 ∧ ¬ m' 24 o = 0) (fun o ho => ⟨ho.1.1, ho.1.2.1, hmono o (hr o ho)⟩) (fun o o' ho he => ⟨he.1.1, he.1.2.1, hcl o o' ho.1 ho.2.1 ho.2.2 he⟩)).2.2
  -- the tasks' locals
  have inner : ∀ i, i < n → (∀ (m : mm_Mem) (cm : Nat), MI g n m cm → (∀ o x, x < 4 → live g o → g 26 x = nI o → ¬ m 24 o = 0) → (∀ o j x, j < i + 1 → x < 3 * dep g j → live g o → g (28 + 6 * j + 3) x = nI o → ¬ m 24 o = 0) → mm_W Γ smM_S_dropUnreachable (mm_pI post) 35 [some (.ref (mm_B Γ + 0)), some (.int (nI (i + 1))), none, none] [] m) → ∀ d x (m : mm_Mem) (cm : Nat), x + d = 3 * dep g i → MI g n m cm → (∀ o x, x < 4 → live g o → g 26 x = nI o → ¬ m 24 o = 0) → (∀ o j x, j < i → x < 3 * dep g j → live g o → g (28 + 6 * j + 3) x = nI o → ¬ m 24 o = 0) → (∀ o x', x' < x → live g o → g (28 + 6 * i + 3) x' = nI o → ¬ m 24 o = 0) → mm_W Γ smM_S_dropUnreachable (mm_pI post) 52 [some (.ref (mm_B Γ + 0)), some (.int (nI i)), some (.ref (mm_B Γ + (28 + 6 * i))), some (.int (nI x))] [] m := by
    intro i hi knext d
    obtain ⟨ed, hd6⟩ := dep_of (hT.2.2.1 i hi)
    have e3 : nI (dep g i) * 3 = nI (3 * dep g i) := by
      show nI (dep g i) * nI 3 = _
      rw [pk_mul, Nat.mul_comm]
    induction d with
    | zero =>
      intro x m cm hx hM hg hp hc
      refine smr_S_dropUnreachable_52 _ (isT_j (by omega)) _ ?_
      rw [hM.1 (28 + 6 * i) (by omega) (by omega) (by omega), ed, e3, nI_1]
      refine br_t (nI_le (by omega) (by omega)) (knext m cm hM hg (fun o j y hj hy ho e => ?_))
      by_cases hji : j = i
      · subst hji
        exact hc o y (by omega) ho e
      · exact hp o j y (by omega) hy ho e
    | succ d ih =>
      intro x m cm hx hM hg hp hc
      refine smr_S_dropUnreachable_52 _ (isT_j (by omega)) _ ?_
      rw [hM.1 (28 + 6 * i) (by omega) (by omega) (by omega), ed, e3, hM.1 (28 + 6 * i + 3) (by omega) (by omega) (by omega), nI_clamp (n := x) (by omega), nI_1 x]
      refine br_f (nI_ge (by omega) (by omega)) ⟨vp_in_nI (by omega) (by decide), mm_SV_mono (sp_H_mark hM (fun o ho e => Reach_root ⟨ho, Or.inr ⟨i, x, hi, by omega, e⟩⟩)) (fun m' q => ?_)⟩
      obtain ⟨c', hc', hM', ⟨-, hx2⟩, hx3⟩ := q
      refine ih (x + 1) m' c' (by omega) hM' (fun o y a b e => hx2 o (hg o y a b e)) (fun o j y a b c e => hx2 o (hp o j y a b c e)) (fun o x' a b e => ?_)
      by_cases hxx : x' = x
      · subst hxx
        exact hx3 o b e
      · exact hx2 o (hc o x' (by omega) b e)
  have outer : ∀ d i (m : mm_Mem) (cm : Nat), i + d = n → MI g n m cm → (∀ o x, x < 4 → live g o → g 26 x = nI o → ¬ m 24 o = 0) → (∀ o j x, j < i → x < 3 * dep g j → live g o → g (28 + 6 * j + 3) x = nI o → ¬ m 24 o = 0) → mm_W Γ smM_S_dropUnreachable (mm_pI post) 35 [some (.ref (mm_B Γ + 0)), some (.int (nI i)), none, none] [] m := by
    intro d
    induction d with
    | zero =>
      intro i m cm hi hM hg hp
      obtain rfl : i = n := by omega
      refine fin m cm hM (fun o ho => ?_)
      rcases ho.2 with ⟨x, hx, e⟩ | ⟨j, x, hj, hx, e⟩
      · exact hg o x hx ho.1 e
      · exact hp o j x hj hx ho.1 e
    | succ d ih =>
      intro i m cm hi hM hg hp
      refine smr_S_dropUnreachable_35 _ ?_
      rw [hM.1 0 (by omega) (by omega) (by omega), hT.2.1]
      refine br_f (nI_ge (by omega) (by omega)) ⟨vp_in_nI (by omega) (by decide), fun t ht _ => ?_⟩
      rw [nI_clamp (by omega)] at ht
      subst ht
      exact inner i (by omega) (fun m' cm' q1 q2 q3 => ih (i + 1) m' cm' (by omega) q1 q2 q3) _ 0 m cm (Nat.zero_add _) hM hg hp (fun o x' a => absurd a (by omega))
  -- the globals
  have glob : ∀ d x (m : mm_Mem) (cm : Nat), x + d = 4 → MI g n m cm → (∀ o x', x' < x → live g o → g 26 x' = nI o → ¬ m 24 o = 0) → mm_W Γ smM_S_dropUnreachable (mm_pI post) 9 [some (.ref (mm_B Γ + 0)), some (.int (nI x)), none, none] [] m := by
    intro d
    induction d with
    | zero =>
      intro x m cm hx hM hg
      obtain rfl : x = 4 := by omega
      exact smr_S_dropUnreachable_9 _ (br_t (by decide) (outer n 0 m cm (by omega) hM hg (fun o j y hj => absurd hj (by omega))))
    | succ d ih =>
      intro x m cm hx hM hg
      refine smr_S_dropUnreachable_9 _ ?_
      rw [hM.1 26 (by omega) (by omega) (by omega), nI_clamp (n := x) (by omega), nI_1]
      refine br_f (nI_ge (a := x) (b := 4) (by omega) (by omega)) ⟨vp_in_nI (by omega) (by decide), mm_SV_mono (sp_H_mark hM (fun o ho e => Reach_root ⟨ho, Or.inl ⟨x, by omega, e⟩⟩)) (fun m' q => ?_)⟩
      obtain ⟨c', hc', hM', ⟨-, hx2⟩, hx3⟩ := q
      refine ih (x + 1) m' c' (by omega) hM' (fun o x' a b e => ?_)
      by_cases hxx : x' = x
      · subst hxx
        exact hx3 o b e
      · exact hx2 o (hg o x' (by omega) b e)
  exact smr_S_dropUnreachable (mm_SV_mono (sp_unmarkAll (n := n)) (fun m q => glob 4 0 m 0 rfl q (fun o x' a => absurd a (by omega))))
end DP
