section MO
variable {Γ : mm_Ctx}
def rl (g : mm_Mem) (o f : Nat) : Nat := 4 * (g 21 o).toNatClampNeg + f
def vlr (g : mm_Mem) (r b : Nat) : Int32 := if g 17 r = 1 then g 22 (b + (g 18 r).toNatClampNeg) + g 19 r else if g 17 r = 2 then g 19 r / g 22 (b + (g 18 r).toNatClampNeg) else g 19 r
def flr (g : mm_Mem) (r b : Nat) : Prop := g 17 r = 2 ∧ g 22 (b + (g 18 r).toNatClampNeg) = 0
def vl (g : mm_Mem) (o f : Nat) : Int32 := vlr g (rl g o f) (4 * o)
def flt (g : mm_Mem) (o f : Nat) : Prop := flr g (rl g o f) (4 * o)
def fltO (g : mm_Mem) (o : Nat) : Prop := ∃ f, f < 4 ∧ flt g o f
def cst (g : mm_Mem) (o : Nat) : Nat := (g 14 (g 21 o).toNatClampNeg).toNatClampNeg
def tch (g : mm_Mem) (o : Nat) : Prop := live g o ∧ ¬ g 16 (g 21 o).toNatClampNeg = 0
noncomputable def mo (g : mm_Mem) (F : Nat) : Nat → Option Nat
  | 0 => some F
  | k + 1 => match mo g F k with
    | none => none
    | some F' => @ite _ (tch g (k + 1)) (Classical.propDecidable _) (@ite _ (F' < cst g (k + 1) ∨ fltO g (k + 1)) (Classical.propDecidable _) none (some (F' - cst g (k + 1)))) (some F')
theorem mo_skip {g : mm_Mem} {F k F' : Nat} (h : mo g F k = some F') (c : ¬ tch g (k + 1)) : mo g F (k + 1) = some F' := by
  simp only [mo, h]
  rw [if_neg c]
theorem mo_bad {g : mm_Mem} {F k F' : Nat} (h : mo g F k = some F') (c : tch g (k + 1)) (d : F' < cst g (k + 1) ∨ fltO g (k + 1)) : mo g F (k + 1) = none := by
  simp only [mo, h]
  rw [if_pos c, if_pos d]
theorem mo_ok {g : mm_Mem} {F k F' : Nat} (h : mo g F k = some F') (c : tch g (k + 1)) (d : ¬ (F' < cst g (k + 1) ∨ fltO g (k + 1))) : mo g F (k + 1) = some (F' - cst g (k + 1)) := by
  simp only [mo, h]
  rw [if_pos c, if_neg d]
theorem mo_none {g : mm_Mem} {F k : Nat} (h : mo g F k = none) : ∀ d, mo g F (k + d) = none
  | 0 => h
  | d + 1 => by
    have := mo_none h d
    show mo g F (k + d + 1) = none
    simp only [mo, this]
theorem mo_le {g : mm_Mem} {F : Nat} : ∀ k F', mo g F k = some F' → F' ≤ F
  | 0, F', h => by
    have : F = F' := Option.some.inj h
    omega
  | k + 1, F', h => by
    cases e : mo g F k with
    | none => 
      rw [show k + 1 = k + 1 from rfl, mo_none e 1] at h
      exact absurd h (by simp)
    | some G =>
      have hG := mo_le k G e
      by_cases c : tch g (k + 1)
      · by_cases d : G < cst g (k + 1) ∨ fltO g (k + 1)
        · rw [mo_bad e c d] at h
          exact absurd h (by simp)
        · rw [mo_ok e c d] at h
          have := Option.some.inj h
          omega
      · rw [mo_skip e c] at h
        have := Option.some.inj h
        omega
theorem mo_end {g : mm_Mem} {F k : Nat} (hk : k ≤ 16) (h : mo g F k = none) : mo g F 16 = none := by
  have := mo_none h (16 - k)
  rw [show k + (16 - k) = 16 by omega] at this
  exact this
theorem sp_R_isFaulty {m : mm_Mem} {r b : Nat} (hr : r < 12) (hb : b + 3 < 68) (h18 : rg (m 18 r) 3) : mm_B1 Γ smM_R_isFaulty [.ref (mm_B Γ + 15), .int (nI r), .ref (mm_B Γ + 22), .int (nI b)] m (flr m r b) := by
  obtain ⟨s, hs, es⟩ := h18
  have c : (m 18 r).toNatClampNeg = s := by rw [es, nI_clamp (by omega)]
  have key : nI b + m 18 r = nI (b + (m 18 r).toNatClampNeg) := by rw [c, es, nI_add]
  have v : vp_in (nI r) 12 := vp_in_nI hr (by decide)
  refine smr_R_isFaulty _ _ ⟨v, ?_⟩
  rw [nI_clamp (n := r) (by omega), key, nI_clamp (n := b + (m 18 r).toNatClampNeg) (by omega)]
  exact ⟨fun a => ⟨rfl, mmB_0 (fun q => a q.1)⟩, fun a => ⟨v, vp_in_nI (by omega) (by decide), fun d => ⟨rfl, mmB_0 (fun q => d q.2)⟩, fun d => ⟨rfl, mmB_1 ⟨a, d⟩⟩⟩⟩
theorem sp_R_valueOf {m : mm_Mem} {r b : Nat} (hr : r < 12) (hb : b + 3 < 68) (h18 : rg (m 18 r) 3) (hn : ¬ flr m r b) : mm_I1 Γ smM_R_valueOf [.ref (mm_B Γ + 15), .int (nI r), .ref (mm_B Γ + 22), .int (nI b)] m (vlr m r b) := by
  obtain ⟨s, hs, es⟩ := h18
  have c : (m 18 r).toNatClampNeg = s := by rw [es, nI_clamp (by omega)]
  have key : nI b + m 18 r = nI (b + (m 18 r).toNatClampNeg) := by rw [c, es, nI_add]
  have v : vp_in (nI r) 12 := vp_in_nI hr (by decide)
  refine smr_R_valueOf _ _ ⟨v, ?_⟩
  rw [nI_clamp (n := r) (by omega), key, nI_clamp (n := b + (m 18 r).toNatClampNeg) (by omega)]
  refine ⟨vp_in_nI (by omega) (by decide), fun y ey => ⟨v, fun a => ⟨v, rfl, ?_⟩, fun a => ⟨fun d => ⟨v, d, rfl, ?_⟩, fun d => absurd ⟨a, by rw [← ey]; exact d⟩ hn⟩, fun a d => ⟨v, rfl, ?_⟩⟩⟩
  · unfold vlr
    rw [if_pos a, ey]
  · unfold vlr
    rw [if_neg (by rw [a]; decide), if_pos a, ey]
  · unfold vlr
    rw [if_neg a, if_neg d]
theorem flr_congr {g m : mm_Mem} {r b : Nat} (e17 : m 17 = g 17) (e18 : m 18 = g 18) (e22 : m 22 = g 22) : flr m r b ↔ flr g r b := by
  unfold flr
  rw [e17, e18, e22]
theorem vlr_congr {g m : mm_Mem} {r b : Nat} (e17 : m 17 = g 17) (e18 : m 18 = g 18) (e19 : m 19 = g 19) (e22 : m 22 = g 22) : vlr m r b = vlr g r b := by
  unfold vlr
  rw [e17, e18, e19, e22]
theorem sp_makeOverOne {g m : mm_Mem} (hm : ∀ q, ¬ q = 23 → m q = g q) (hI : Iheap g) (hr : Irul g) {o : Nat} (ho : live g o) : mm_SI Γ smM_H_makeOverOne [.ref (mm_B Γ + 20), .int (nI o), .ref (mm_B Γ + 15)] m (fun r m' => (∀ q, ¬ q = 23 → m' q = g q) ∧ ((r = 1 ∧ ¬ fltO g o ∧ ∀ j, m' 23 j = if 4 * o ≤ j ∧ j < 4 * o + 4 then vl g o (j - 4 * o) else m 23 j) ∨ (r = 0 ∧ fltO g o))) := by
  generalize hpost : (fun (r : Int32) (m' : mm_Mem) => (∀ q, ¬ q = 23 → m' q = g q) ∧ ((r = 1 ∧ ¬ fltO g o ∧ ∀ j, m' 23 j = if 4 * o ≤ j ∧ j < 4 * o + 4 then vl g o (j - 4 * o) else m 23 j) ∨ (r = 0 ∧ fltO g o))) = post
  have o1 := ho.1
  have o2 := ho.2.1
  obtain ⟨t, ht, et⟩ := hI.1 o ho
  have erl : ∀ f, rl g o f = 4 * t + f := fun f => by
    unfold rl
    rw [et, nI_clamp (by omega)]
  have loop : ∀ d f (m' : mm_Mem), f + d = 4 → (∀ q, ¬ q = 23 → m' q = g q) → (∀ f', f' < f → ¬ flt g o f') → (∀ j, m' 23 j = if 4 * o ≤ j ∧ j < 4 * o + f then vl g o (j - 4 * o) else m 23 j) → mm_W Γ smM_H_makeOverOne (mm_pI post) 7 [some (.ref (mm_B Γ + 20)), some (.int (nI o)), some (.ref (mm_B Γ + 15)), some (.int (nI (4 * o))), some (.int (nI f)), none] [] m' := by
    intro d
    induction d with
    | zero =>
      intro f m' hf a b c
      obtain rfl : f = 4 := by omega
      refine smr_H_makeOverOne_7 _ _ _ (br_t (by decide) ?_)
      rw [← hpost]
      exact ⟨a, Or.inl ⟨rfl, fun ⟨f', q1, q2⟩ => b f' q1 q2, c⟩⟩
    | succ d ih =>
      intro f m' hf a b c
      refine smr_H_makeOverOne_7 _ _ _ (br_f (nI_ge (a := f) (b := 4) (by omega) (by omega)) ⟨vp_in_nI (by omega) (by decide), fun y ey => ?_⟩)
      have ey' : y = nI (4 * t + f) := by
        rw [ey, nI_clamp (by omega), a 21 (by omega), et]
        show nI t * nI 4 + nI f = _
        rw [pk_mul, nI_add, Nat.mul_comm]
      subst ey'
      have h18 : rg (m' 18 (4 * t + f)) 3 := by
        rw [a 18 (by omega)]
        exact (hr.1 (4 * t + f) (by omega)).2
      have cf : flr m' (4 * t + f) (4 * o) ↔ flt g o f := by
        unfold flt
        rw [erl]
        exact flr_congr (a _ (by omega)) (a _ (by omega)) (a _ (by omega))
      refine us_br (sp_R_isFaulty (by omega) (by omega) h18) (fun q => ?_) (fun q => us_eq (sp_R_valueOf (by omega) (by omega) h18 q) ?_)
      · rw [← hpost]
        exact ⟨a, Or.inr ⟨rfl, f, by omega, cf.mp q⟩⟩
      · have ev : vlr m' (4 * t + f) (4 * o) = vl g o f := by
          unfold vl
          rw [erl]
          exact vlr_congr (a _ (by omega)) (a _ (by omega)) (a _ (by omega)) (a _ (by omega))
        rw [nI_add, nI_clamp (n := 4 * o + f) (by omega), ev, nI_1]
        refine ⟨vp_in_nI (by omega) (by decide), fun m'' e => ih (f + 1) m'' (by omega) (fun q hq => by rw [e, mw_ne hq, a q hq]) (fun f' hf' => ?_) (fun j => ?_)⟩
        · by_cases hff : f' = f
          · subst hff
            exact fun z => q (cf.mpr z)
          · exact b f' (by omega)
        · rw [e, mw_at]
          by_cases hj : j = 4 * o + f
          · subst hj
            rw [if_pos ⟨rfl, rfl⟩, if_pos (by omega)]
            congr 1
            omega
          · rw [if_neg (by omega), c j]
            by_cases hj2 : 4 * o ≤ j ∧ j < 4 * o + f
            · rw [if_pos hj2, if_pos (by omega)]
            · rw [if_neg hj2, if_neg (by omega)]
  refine smr_H_makeOverOne _ (fun y ey => ?_)
  have ey' : y = nI (4 * o) := by
    rw [ey]
    show nI o * nI 4 = _
    rw [pk_mul, Nat.mul_comm]
  subst ey'
  exact loop 4 0 m rfl hm (fun f' hf' => absurd hf' (by omega)) (fun j => by rw [if_neg (by omega)])
def MOc (g : mm_Mem) (F : Nat) (r : Int32) (g' : mm_Mem) : Prop := (∀ q, ¬ q = 22 → ¬ q = 23 → g' q = g q) ∧ ((r = 1 ∧ (∃ F', mo g F 16 = some F') ∧ ∀ o f, 1 ≤ o → o ≤ 16 → f < 4 → (tch g o → g' 22 (4 * o + f) = vl g o f) ∧ (¬ tch g o → g' 22 (4 * o + f) = g 22 (4 * o + f))) ∨ (r = 0 ∧ mo g F 16 = none ∧ g' 22 = g 22))
theorem sp_H_makeOver {g : mm_Mem} (hI : Iheap g) (h8 : Iv g 8) (hr : Irul g) {F : Nat} (hF : F < 2 ^ 31) : mm_SI Γ smM_H_makeOver [.ref (mm_B Γ + 20), .ref (mm_B Γ + 15), .ref (mm_B Γ + 8), .int (nI F)] g (fun r g' => MOc g F r g') := by
  generalize hpost : (fun (r : Int32) (g' : mm_Mem) => MOc g F r g') = post
  have loop : ∀ d k F' (m : mm_Mem), k + d = 16 → mo g F k = some F' → (∀ q, ¬ q = 23 → m q = g q) → (∀ o f, 1 ≤ o → o ≤ 16 → f < 4 → (o ≤ k → tch g o → m 23 (4 * o + f) = vl g o f) ∧ (¬ (o ≤ k ∧ tch g o) → m 23 (4 * o + f) = g 22 (4 * o + f))) → mm_W Γ smM_H_makeOver (mm_pI post) 24 [some (.ref (mm_B Γ + 20)), some (.ref (mm_B Γ + 15)), some (.ref (mm_B Γ + 8)), none, some (.int (nI F')), some (.int (nI (k + 1))), none] [] m := by
    intro d
    induction d with
    | zero =>
      intro k F' m hk hmo a b
      obtain rfl : k = 16 := by omega
      refine smr_H_makeOver_24 (Or.inr rfl) _ _ (br_t (by decide) (fun m' e => ?_))
      rw [← hpost]
      refine ⟨fun q h1 h2 => by rw [e, mc_ne h1, a q h2], Or.inl ⟨rfl, ⟨F', hmo⟩, fun o f h1 h2 h3 => ?_⟩⟩
      rw [e, mc_at, if_pos (by omega)]
      exact ⟨fun c => (b o f h1 h2 h3).1 h2 c, fun c => (b o f h1 h2 h3).2 (fun z => c z.2)⟩
    | succ d ih =>
      intro k F' m hk hmo a b
      have hF' := mo_le k F' hmo
      have skip : ¬ tch g (k + 1) → mm_W Γ smM_H_makeOver (mm_pI post) 24 [some (.ref (mm_B Γ + 20)), some (.ref (mm_B Γ + 15)), some (.ref (mm_B Γ + 8)), none, some (.int (nI F')), some (.int (nI (k + 1) + 1)), none] [] m := by
        intro c
        rw [nI_1]
        refine ih (k + 1) F' m (by omega) (mo_skip hmo c) a (fun o f h1 h2 h3 => ⟨fun q1 q2 => ?_, fun q => ?_⟩)
        · by_cases hok : o = k + 1
          · subst hok
            exact absurd q2 c
          · exact (b o f h1 h2 h3).1 (by omega) q2
        · exact (b o f h1 h2 h3).2 (fun z => q ⟨by omega, z.2⟩)
      have bad : mo g F (k + 1) = none → ∀ m' : mm_Mem, (∀ q, ¬ q = 23 → m' q = g q) → post 0 m' := by
        intro c m' a'
        rw [← hpost]
        exact ⟨fun q _ h2 => a' q h2, Or.inr ⟨rfl, mo_end (by omega) c, a' 22 (by omega)⟩⟩
      have lv : live m (k + 1) ↔ live g (k + 1) := live_congr (a 21 (by omega)) _
      refine smr_H_makeOver_24 (Or.inr rfl) _ _ (br_f (nI_nlt (a := 16) (b := k + 1) (by omega) (by omega)) (us_br sp_H_has (fun hx => ?_) (fun hx => skip (fun q => hx ⟨k + 1, lv.mpr q.1, rfl⟩))))
      obtain ⟨o, ho, eo⟩ := hx
      have : k + 1 = o := nI_in' (by omega) (by have := ho.2.1; omega) eo
      subst this
      have hlg := lv.mp ho
      obtain ⟨t, ht, et⟩ := hI.1 _ hlg
      have v17 : vp_in (nI (k + 1)) 17 := vp_in_nI (by omega) (by decide)
      have v3 : vp_in (nI t) 3 := vp_in_nI (by omega) (by decide)
      obtain ⟨c, hc, ec⟩ := h8.2 t (by omega)
      have ec14 : g 14 t = nI c := ec
      have hcst : cst g (k + 1) = c := by
        unfold cst
        rw [et, nI_clamp (by omega), ec14, nI_clamp (by omega)]
      simp only [Nat.reduceAdd]
      rw [nI_clamp (n := k + 1) (by omega), a 21 (by omega), et, nI_clamp (n := t) (by omega), a 16 (by omega), a 14 (by omega), ec14]
      have htch : tch g (k + 1) ↔ ¬ g 16 t = 0 := by
        unfold tch
        rw [et, nI_clamp (by omega)]
        exact ⟨fun z => z.2, fun z => ⟨hlg, z⟩⟩
      refine ⟨v17, v3, fun q => skip (fun z => htch.mp z q), fun q => ⟨v17, v3, fun y ey => ?_⟩⟩
      subst ey
      have ht' := htch.mpr q
      refine ⟨fun w => bad (mo_bad hmo ht' (Or.inl ?_)) m a, fun w => mm_SI_mono (sp_makeOverOne a hI hr hlg) (fun r m' q' => ?_)⟩
      · rw [hcst]
        exact (nI_ltI (by omega) (by omega)).mp w
      · obtain ⟨a', q' | q'⟩ := q'
        · obtain ⟨rfl, nf, b'⟩ := q'
          have hge : c ≤ F' := by
            have : ¬ F' < c := fun z => w (nI_lt z (by omega))
            omega
          refine br_n (by decide) (fun y ey => ?_)
          subst ey
          have hmo' := mo_ok hmo ht' (by rw [hcst]; exact fun z => z.elim (fun z => by omega) nf)
          rw [hcst] at hmo'
          rw [pk_sub hge, nI_1]
          refine ih (k + 1) (F' - c) m' (by omega) hmo' a' (fun o f h1 h2 h3 => ⟨fun q1 q2 => ?_, fun q1 => ?_⟩)
          · rw [b']
            by_cases hok : o = k + 1
            · subst hok
              rw [if_pos (by omega)]
              congr 1
              omega
            · rw [if_neg (by omega)]
              exact (b o f h1 h2 h3).1 (by omega) q2
          · rw [b']
            have hok : ¬ o = k + 1 := fun z => q1 ⟨by omega, by rw [z]; exact ht'⟩
            rw [if_neg (by omega)]
            exact (b o f h1 h2 h3).2 (fun z => q1 ⟨by omega, z.2⟩)
        · obtain ⟨rfl, nf⟩ := q'
          exact br_p rfl (bad (mo_bad hmo ht' (Or.inr nf)) m' a')
  refine smr_H_makeOver (Or.inr rfl) _ (fun m e => loop 16 0 F m rfl rfl (fun q hq => by rw [e, mc_ne hq]) (fun o f h1 h2 h3 => ⟨fun q => absurd q (by omega), fun _ => ?_⟩))
  rw [e, mc_at, if_pos (by omega)]
/-! the reference's -/
theorem sp_M_isMadeOver {g m : mm_Mem} (hI : Iheap g) (h8 : Iv g 8) (hr : Irul g) (hs : srcOK g) {o : Nat} (ho : live g o) (e71 : m 71 o = g 21 o) (e67 : ∀ t, t < 3 → m 67 (3 + t) = g 14 t) (Lr : Lrul g m) (e73 : ∀ f, f < wid g o → m 73 (4 * o + f) = g 22 (4 * o + f)) : mm_SI Γ smM_M_isMadeOver [.ref (mm_B Γ + 64), .int (nI o)] m (fun r m' => (∀ q, ¬ q = 72 → m' q = m q) ∧ ((r = 1 ∧ ¬ fltO g o ∧ ∀ j, m' 72 j = if 4 * o ≤ j ∧ j < 4 * o + cst g o then vl g o (j - 4 * o) else m 72 j) ∨ (r = 0 ∧ fltO g o))) := by
  generalize hpost : (fun (r : Int32) (m' : mm_Mem) => (∀ q, ¬ q = 72 → m' q = m q) ∧ ((r = 1 ∧ ¬ fltO g o ∧ ∀ j, m' 72 j = if 4 * o ≤ j ∧ j < 4 * o + cst g o then vl g o (j - 4 * o) else m 72 j) ∨ (r = 0 ∧ fltO g o))) = post
  have o1 := ho.1
  have o2 := ho.2.1
  obtain ⟨t, ht, et⟩ := hI.1 o ho
  obtain ⟨c, hc, ec⟩ := h8.2 t (by omega)
  have ec14 : g 14 t = nI c := ec
  have hcst : cst g o = c := by
    unfold cst
    rw [et, nI_clamp (by omega), ec14, nI_clamp (by omega)]
  have erl : ∀ f, rl g o f = 4 * t + f := fun f => by
    unfold rl
    rw [et, nI_clamp (by omega)]
  have ewid : wid g o = (g 7 t).toNatClampNeg := by
    unfold wid
    rw [et, nI_clamp (by omega)]
  have e3 : (3 : Int32) + nI t = nI (3 + t) := nI_add 3 t
  have loop : ∀ d f (m' : mm_Mem), f + d = c → (∀ q, ¬ q = 72 → m' q = m q) → (∀ f', f' < f → ¬ flt g o f') → (∀ j, m' 72 j = if 4 * o ≤ j ∧ j < 4 * o + f then vl g o (j - 4 * o) else m 72 j) → mm_W Γ smM_M_isMadeOver (mm_pI post) 9 [some (.ref (mm_B Γ + 64)), some (.int (nI o)), some (.int (nI t)), some (.int (nI f)), none, none, none] [] m' := by
    intro d
    induction d with
    | zero =>
      intro f m' hf a b d
      obtain rfl : f = c := by omega
      refine smr_M_isMadeOver_9 _ _ _ ?_
      rw [e3, nI_clamp (n := 3 + t) (by omega), a 67 (by omega), e67 t (by omega), ec14]
      refine ⟨vp_in_nI (by omega) (by decide), br_t (nI_le (Nat.le_refl _) (by omega)) ?_⟩
      rw [← hpost]
      refine ⟨a, Or.inl ⟨rfl, ?_, by rw [hcst]; exact d⟩⟩
      rintro ⟨f', q1, q2⟩
      by_cases hff : f' < f
      · exact b f' hff q2
      · have z := hr.2.1 t f' (by omega) q1 (by rw [ec14, nI_clamp (by omega)]; omega)
        have q3 := q2.1
        rw [erl, z.1] at q3
        exact absurd q3 (by decide)
    | succ d ih =>
      intro f m' hf a b dd
      obtain ⟨r1, r2⟩ := hr.1 (4 * t + f) (by omega)
      obtain ⟨kd, hkd, ekd⟩ := r1
      obtain ⟨s, hs3, es⟩ := r2
      obtain ⟨l1, l2, l3⟩ := Lr.1 (4 * t + f) (by omega)
      refine smr_M_isMadeOver_9 _ _ _ ?_
      rw [e3, nI_clamp (n := 3 + t) (by omega), a 67 (by omega), e67 t (by omega), ec14]
      refine ⟨vp_in_nI (by omega) (by decide), br_f (nI_ge (by omega) (by omega)) (fun y ey => ?_)⟩
      have ey' : y = nI (3 * (4 * t + f)) := by
        rw [ey]
        show nI 12 * nI t + nI 3 * nI f = _
        rw [pk_mul, pk_mul, nI_add]
        congr 1
        omega
      subst ey'
      have g1 : nI (3 * (4 * t + f)) + 1 = nI (3 * (4 * t + f) + 1) := nI_add _ 1
      have g2 : nI (3 * (4 * t + f)) + 2 = nI (3 * (4 * t + f) + 2) := nI_add _ 2
      have g4 : (4 : Int32) * nI o + nI s = nI (4 * o + s) := by
        show nI 4 * nI o + nI s = _
        rw [pk_mul, nI_add]
      have g5 : (4 : Int32) * nI o + nI f = nI (4 * o + f) := by
        show nI 4 * nI o + nI f = _
        rw [pk_mul, nI_add]
      rw [g1, g2, nI_clamp (n := 3 * (4 * t + f) + 1) (by omega), nI_clamp (n := 3 * (4 * t + f) + 2) (by omega), nI_clamp (n := 3 * (4 * t + f)) (by omega), a 68 (by omega), a 73 (by omega), l1, l2, l3, es, g4, nI_clamp (n := 4 * o + s) (by omega)]
      have hsrc : ¬ g 17 (4 * t + f) = 0 → m 73 (4 * o + s) = g 22 (4 * o + (g 18 (4 * t + f)).toNatClampNeg) := by
        intro q
        have q2 := hs t f (by omega) (by rw [ec14, nI_clamp (by omega)]; omega) q
        rw [es, nI_clamp (by omega)] at q2
        rw [e73 s (by omega), es, nI_clamp (by omega)]
      refine ⟨vp_in_nI (by omega) (by decide), vp_in_nI (by omega) (by decide), fun y5 ey5 => ⟨vp_in_nI (by omega) (by decide), fun y6 ey6 => ⟨vp_in_nI (by omega) (by decide), ?_⟩⟩⟩
      rw [← ey5] at hsrc
      have nx : ¬ flt g o f → mm_W Γ smM_M_isMadeOver (mm_pI post) 80 [some (.ref (mm_B Γ + 64)), some (.int (nI o)), some (.int (nI t)), some (.int (nI f)), some (.int (nI (3 * (4 * t + f)))), some (.int y5), some (.int y6)] [] m' := by
        intro nf
        have wr : ∀ v m'', v = vl g o f → m'' = mm_wr m' 72 (4 * o + f) v → mm_W Γ smM_M_isMadeOver (mm_pI post) 9 [some (.ref (mm_B Γ + 64)), some (.int (nI o)), some (.int (nI t)), some (.int (nI (f + 1))), none, none, none] [] m'' := by
          intro v m'' ev e
          subst ev
          refine ih (f + 1) m'' (by omega) (fun q hq => by rw [e, mw_ne hq, a q hq]) (fun f' hf' => ?_) (fun j => ?_)
          · by_cases hff : f' = f
            · subst hff
              exact nf
            · exact b f' (by omega)
          · rw [e, mw_at]
            by_cases hj : j = 4 * o + f
            · subst hj
              rw [if_pos ⟨rfl, rfl⟩, if_pos (by omega)]
              congr 1
              omega
            · rw [if_neg (by omega), dd j]
              by_cases hj2 : 4 * o ≤ j ∧ j < 4 * o + f
              · rw [if_pos hj2, if_pos (by omega)]
              · rw [if_neg hj2, if_neg (by omega)]
        have evl : vl g o f = vlr g (4 * t + f) (4 * o) := by
          unfold vl
          rw [erl]
        refine smr_M_isMadeOver_80 _ _ _ _ _ _ ⟨vp_in_nI (by omega) (by decide), ?_⟩
        rw [nI_clamp (n := 3 * (4 * t + f)) (by omega), a 68 (by omega), l1, g5, nI_clamp (n := 4 * o + f) (by omega), nI_1]
        have v68 : vp_in (nI (4 * o + f)) 68 := vp_in_nI (by omega) (by decide)
        refine ⟨fun q0 => ⟨vp_in_nI (by omega) (by decide), fun q1 => ?_, fun q1 => ⟨v68, fun m'' e => wr _ m'' ?_ e⟩⟩, fun q0 => ⟨v68, fun m'' e => wr _ m'' ?_ e⟩⟩
        · have q2 : g 17 (4 * t + f) = 2 := by
            have : kd = 2 := by
              have z0 : ¬ kd = 0 := fun z => q0 (by rw [ekd, z]; rfl)
              have z1 : ¬ kd = 1 := fun z => q1 (by rw [ekd, z]; rfl)
              omega
            rw [ekd, this]
            rfl
          have hy := hsrc q0
          refine ⟨fun z => nf ?_, v68, fun m'' e => wr _ m'' ?_ e⟩
          · unfold flt
            rw [erl]
            exact ⟨q2, by rw [← hy]; exact z⟩
          · rw [evl]
            unfold vlr
            rw [if_neg q1, if_pos q2, ← hy, ey6]
        · rw [evl]
          unfold vlr
          rw [if_pos q1, ← hsrc q0, ey6]
        · rw [evl]
          unfold vlr
          rw [if_neg (by rw [q0]; decide), if_neg (by rw [q0]; decide), ey6]
      refine ⟨fun q => nx (fun z => q ?_), fun q => ⟨fun w => nx (fun z => w ?_), fun w => ?_⟩⟩
      · have := z.1
        rw [erl] at this
        exact this
      · have z2 := z.2
        rw [erl] at z2
        rw [hsrc (by rw [q]; decide)]
        exact z2
      · rw [← hpost]
        refine ⟨a, Or.inr ⟨rfl, f, by omega, ?_⟩⟩
        unfold flt
        rw [erl]
        exact ⟨q, by rw [← hsrc (by rw [q]; decide)]; exact w⟩
  refine smr_M_isMadeOver _ ⟨vp_in_nI (by omega) (by decide), fun y ey => ?_⟩
  rw [nI_clamp (by omega), e71, et] at ey
  subst ey
  exact loop c 0 m (by omega) (fun _ _ => rfl) (fun f' hf' => absurd hf' (by omega)) (fun j => by rw [if_neg (by omega)])
def MOr (g : mm_Mem) (F : Nat) (h : mm_Mem) (r : Int32) (h' : mm_Mem) : Prop := (∀ q, ¬ q = 72 → ¬ q = 73 → h' q = h q) ∧ ((r = 1 ∧ (∃ F', mo g F 16 = some F') ∧ ∀ o f, 1 ≤ o → o ≤ 16 → f < 4 → (tch g o → f < cst g o → h' 72 (4 * o + f) = vl g o f) ∧ (¬ tch g o → h' 72 (4 * o + f) = h 72 (4 * o + f))) ∨ (r = 0 ∧ mo g F 16 = none ∧ ∀ j, j < 68 → h' 72 j = h 72 j))
theorem sp_areMadeOver {g h : mm_Mem} (hI : Iheap g) (h8 : Iv g 8) (hr : Irul g) (hs : srcOK g) (hL : Lheap g h) (e67 : ∀ t, t < 3 → h 67 (3 + t) = g 14 t) (Lr : Lrul g h) {F : Nat} (hF : F < 2 ^ 31) (hW4 : ∀ o, live g o → wid g o ≤ 4) : mm_SI Γ smM_M_areMadeOver [.ref (mm_B Γ + 64), .int (nI F)] h (fun r h' => MOr g F h r h') := by
  generalize hpost : (fun (r : Int32) (h' : mm_Mem) => MOr g F h r h') = post
  -- restore
  have undo : mo g F 16 = none → ∀ d k (m : mm_Mem), k + d = 68 → (∀ q, ¬ q = 72 → ¬ q = 73 → m q = h q) → (∀ j, j < 68 → m 73 j = h 72 j) → (∀ j, j < k → m 72 j = h 72 j) → mm_W Γ smM_M_areMadeOver (mm_pI post) 114 [some (.ref (mm_B Γ + 64)), none, none, some (.int 0), some (.int (nI k))] [] m := by
    intro hn d
    induction d with
    | zero =>
      intro k m hk a b c
      obtain rfl : k = 68 := by omega
      refine smr_M_areMadeOver_114 _ _ (br_t (by decide) ⟨Or.inl rfl, ?_⟩)
      rw [← hpost]
      exact ⟨a, Or.inr ⟨rfl, hn, c⟩⟩
    | succ d ih =>
      intro k m hk a b c
      refine smr_M_areMadeOver_114 _ _ (br_f (nI_ge (a := k) (b := 68) (by omega) (by omega)) (br_p rfl ⟨vp_in_nI (by omega) (by decide), vp_in_nI (by omega) (by decide), fun m' e => ?_⟩))
      rw [nI_clamp (by omega)] at e
      rw [nI_1]
      refine ih (k + 1) m' (by omega) (fun q h1 h2 => by rw [e, mw_ne h1, a q h1 h2]) (fun j hj => by rw [e, mw_ne (by omega), b j hj]) (fun j hj => ?_)
      by_cases hjk : j = k
      · subst hjk
        rw [e, mw_hit, b j (by omega)]
      · rw [e, mw_miss (by omega)]
        exact c j (by omega)
  -- it failed
  have fail : mo g F 16 = none → ∀ (m : mm_Mem) x2 x4, (∀ q, ¬ q = 72 → ¬ q = 73 → m q = h q) → (∀ j, j < 68 → m 73 j = h 72 j) → mm_W Γ smM_M_areMadeOver (mm_pI post) 33 [some (.ref (mm_B Γ + 64)), none, some (.int x2), some (.int 0), some (.int x4)] [] m := by
    intro hn m x2 x4 a b
    have u := undo hn 68 0 m rfl a b (fun j hj => absurd hj (by omega))
    exact smr_M_areMadeOver_33 _ _ _ ⟨fun _ => u, fun _ => br_t rfl u⟩
  have loop : ∀ d k F' (m : mm_Mem), k + d = 16 → mo g F k = some F' → (∀ q, ¬ q = 72 → ¬ q = 73 → m q = h q) → (∀ j, j < 68 → m 73 j = h 72 j) → (∀ o f, 1 ≤ o → o ≤ 16 → f < 4 → (o ≤ k → tch g o → f < cst g o → m 72 (4 * o + f) = vl g o f) ∧ (¬ (o ≤ k ∧ tch g o) → m 72 (4 * o + f) = h 72 (4 * o + f))) → mm_W Γ smM_M_areMadeOver (mm_pI post) 33 [some (.ref (mm_B Γ + 64)), none, some (.int (nI F')), some (.int 1), some (.int (nI (k + 1)))] [] m := by
    intro d
    induction d with
    | zero =>
      intro k F' m hk hmo a b c
      obtain rfl : k = 16 := by omega
      have fin : post 1 m := by
        rw [← hpost]
        exact ⟨a, Or.inl ⟨rfl, ⟨F', hmo⟩, fun o f h1 h2 h3 => ⟨fun q => (c o f h1 h2 h3).1 h2 q, fun q => (c o f h1 h2 h3).2 (fun z => q z.2)⟩⟩⟩
      exact smr_M_areMadeOver_33 _ _ _ (br_t (by decide) (smr_M_areMadeOver_114 _ _ (br_f (by decide) (br_n (by decide) ⟨Or.inr rfl, fin⟩))))
    | succ d ih =>
      intro k F' m hk hmo a b c
      have hF' := mo_le k F' hmo
      have v17 : vp_in (nI (k + 1)) 17 := vp_in_nI (by omega) (by decide)
      have skip : ¬ tch g (k + 1) → mm_W Γ smM_M_areMadeOver (mm_pI post) 33 [some (.ref (mm_B Γ + 64)), none, some (.int (nI F')), some (.int 1), some (.int (nI (k + 1) + 1))] [] m := by
        intro q
        rw [nI_1]
        refine ih (k + 1) F' m (by omega) (mo_skip hmo q) a b (fun o f h1 h2 h3 => ⟨fun q1 q2 => ?_, fun q1 => ?_⟩)
        · by_cases hok : o = k + 1
          · subst hok
            exact absurd q2 q
          · exact (c o f h1 h2 h3).1 (by omega) q2
        · exact (c o f h1 h2 h3).2 (fun z => q1 ⟨by omega, z.2⟩)
      refine smr_M_areMadeOver_33 _ _ _ (br_f (nI_ge (a := k + 1) (b := 17) (by omega) (by omega)) (br_f (by decide) ⟨v17, ?_⟩))
      rw [nI_clamp (n := k + 1) (by omega), a 71 (by omega) (by omega), hL.1 (k + 1) (by omega) (by omega)]
      refine ⟨fun q => skip (fun z => rg_pos (hI.1 _ z.1) (by decide) q), fun q => ⟨v17, ?_⟩⟩
      have hlg : live g (k + 1) := ⟨by omega, by omega, fun z => q (by rw [z]; exact m1_lt)⟩
      obtain ⟨t, ht, et⟩ := hI.1 _ hlg
      have v3 : vp_in (nI t) 3 := vp_in_nI (by omega) (by decide)
      obtain ⟨w, hw, ew⟩ := h8.2 t (by omega)
      have ew14 : g 14 t = nI w := ew
      have hcst : cst g (k + 1) = w := by
        unfold cst
        rw [et, nI_clamp (by omega), ew14, nI_clamp (by omega)]
      have htch : tch g (k + 1) ↔ ¬ g 16 t = 0 := by
        unfold tch
        rw [et, nI_clamp (by omega)]
        exact ⟨fun z => z.2, fun z => ⟨hlg, z⟩⟩
      rw [et, nI_clamp (n := t) (by omega), a 69 (by omega) (by omega), Lr.2 t (by omega), show (3 : Int32) + nI t = nI (3 + t) from nI_add 3 t, nI_clamp (n := 3 + t) (by omega), a 67 (by omega) (by omega), e67 t (by omega), ew14]
      refine ⟨v3, fun q1 => skip (fun z => htch.mp z q1), fun q1 => ⟨v17, vp_in_nI (by omega) (by decide), fun y ey => ?_⟩⟩
      have ht' := htch.mpr q1
      by_cases hlt : F' < w
      · have hn := mo_bad hmo ht' (Or.inl (by rw [hcst]; exact hlt))
        refine br_t ?_ (fail (mo_end (by omega) hn) m _ _ a b)
        rw [ey]
        exact pk_sneg (by omega) hlt
      · rw [pk_sub (by omega)] at ey
        subst ey
        refine br_f (nI_pos (by omega)) (mm_SI_mono (sp_M_isMadeOver hI h8 hr hs hlg ?_ ?_ ?_ ?_) (fun r m' q2 => ?_))
        · rw [a 71 (by omega) (by omega), hL.1 _ (by omega) (by omega)]
        · rw [a 67 (by omega) (by omega)]
          exact e67
        · exact Lrul_congr rfl rfl rfl rfl (a _ (by omega) (by omega)) (a _ (by omega) (by omega)) Lr
        · intro f hf
          have := hW4 _ hlg
          rw [b _ (by omega)]
          exact hL.2 _ hlg f hf
        · obtain ⟨a', q2 | q2⟩ := q2
          · obtain ⟨rfl, nf, c'⟩ := q2
            have hmo' := mo_ok hmo ht' (by rw [hcst]; exact fun z => z.elim hlt nf)
            rw [hcst] at hmo' c'
            refine br_f (by decide) ?_
            rw [nI_1]
            refine ih (k + 1) (F' - w) m' (by omega) hmo' (fun q h1 h2 => by rw [a' q h1, a q h1 h2]) (fun j hj => by rw [a' 73 (by omega), b j hj]) (fun o f h1 h2 h3 => ⟨fun q3 q4 q5 => ?_, fun q3 => ?_⟩)
            · rw [c']
              by_cases hok : o = k + 1
              · subst hok
                rw [hcst] at q5
                rw [if_pos (by omega)]
                congr 1
                omega
              · rw [if_neg (by omega)]
                exact (c o f h1 h2 h3).1 (by omega) q4 q5
            · rw [c']
              have hok : ¬ o = k + 1 := fun z => q3 ⟨by omega, by rw [z]; exact ht'⟩
              rw [if_neg (by omega)]
              exact (c o f h1 h2 h3).2 (fun z => q3 ⟨by omega, z.2⟩)
          · obtain ⟨rfl, nf⟩ := q2
            exact br_t rfl (fail (mo_end (by omega) (mo_bad hmo ht' (Or.inr nf))) m' _ _ (fun q h1 h2 => by rw [a' q h1, a q h1 h2]) (fun j hj => by rw [a' 73 (by omega), b j hj]))
  have save : ∀ d k (m : mm_Mem), k + d = 68 → (∀ q, ¬ q = 73 → m q = h q) → (∀ j, j < k → m 73 j = h 72 j) → mm_W Γ smM_M_areMadeOver (mm_pI post) 2 [some (.ref (mm_B Γ + 64)), some (.int (nI F)), some (.int (nI k)), none, none] [] m := by
    intro d
    induction d with
    | zero =>
      intro k m hk a b
      obtain rfl : k = 68 := by omega
      exact smr_M_areMadeOver_2 _ _ (br_t (by decide) (loop 16 0 F m rfl rfl (fun q _ h2 => a q h2) b (fun o f h1 h2 h3 => ⟨fun q => absurd q (by omega), fun _ => by rw [a 72 (by omega)]⟩)))
    | succ d ih =>
      intro k m hk a b
      refine smr_M_areMadeOver_2 _ _ (br_f (nI_ge (a := k) (b := 68) (by omega) (by omega)) ⟨vp_in_nI (by omega) (by decide), vp_in_nI (by omega) (by decide), fun m' e => ?_⟩)
      rw [nI_clamp (by omega)] at e
      rw [nI_1]
      refine ih (k + 1) m' (by omega) (fun q hq => by rw [e, mw_ne hq, a q hq]) (fun j hj => ?_)
      by_cases hjk : j = k
      · subst hjk
        rw [e, mw_hit, a 72 (by omega)]
      · rw [e, mw_miss (by omega)]
        exact b j (by omega)
  exact smr_M_areMadeOver _ (save 68 0 h rfl (fun _ _ => rfl) (fun j hj => absurd hj (by omega)))
end MO
