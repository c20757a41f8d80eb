section OR
variable {Γ : mm_Ctx}
def CO (g : mm_Mem) (v : Int32) (c : Nat) (r : Int32) : Prop := (r = -1 ∧ ¬ ∃ o, live g o ∧ v = nI o ∧ g 21 o = nI (c / 4)) ∨ ∃ o, live g o ∧ v = nI o ∧ g 21 o = nI (c / 4) ∧ r = nI (4 * o + c % 4)
theorem sp_cellOf {g : mm_Mem} {v : Int32} {c : Nat} (hc : c < 12) : mm_SI Γ smM_H_cellOf [.ref (mm_B Γ + 20), .int v, .int (nI c)] g (fun r g' => g' = g ∧ CO g v c r) := by
  refine smr_H_cellOf _ _ (us_br sp_H_has (fun a => ?_) (fun a => ⟨rfl, Or.inl ⟨rfl, fun ⟨o, h1, h2, _⟩ => a ⟨o, h1, h2⟩⟩⟩))
  obtain ⟨o, ho, rfl⟩ := a
  have o2 := ho.2.1
  have g4 : nI o * 4 + nI (c % 4) = nI (4 * o + c % 4) := by
    show nI o * nI 4 + nI (c % 4) = _
    rw [pk_mul, nI_add, Nat.mul_comm]
  rw [nI_clamp (n := o) (by omega), rem4 hc, div4 hc, g4]
  refine ⟨vp_in_nI (by omega) (by decide), fun z => ⟨rfl, Or.inl ⟨rfl, ?_⟩⟩, fun z => ⟨rfl, Or.inr ⟨o, ho, rfl, z, rfl⟩⟩⟩
  rintro ⟨o', h1, h2, h3⟩
  have : o = o' := nI_in' (by omega) (by have := h1.2.1; omega) h2
  subst this
  exact z h3
theorem kC {g : mm_Mem} {j n o f : Nat} (hI : IT g n) (hj : j < n) (hf4 : f < 4) (hf : f < wid g o) (v : Int32) : IT (mm_wr g 22 (4 * o + f) v) n := by
  have e : ∀ q, ¬ q = 22 → mm_wr g 22 (4 * o + f) v q = g q := fun q hq => mw_ne hq
  have hh := hI.1.2.2.2.2.1
  refine keepI_n hI hj (fun q hq => e q (by omega)) (fun q h1 h2 => e q (by omega)) ⟨fun o' ho' => ?_, fun o' ho' f' hf' hw => ?_⟩
  · rw [e 21 (by omega)]
    exact hh.1 o' ((live_congr (e 21 (by omega)) o').mp ho')
  · rw [wid_congr (e 7 (by omega)) (e 21 (by omega))] at hw
    have hne : ¬ (o' = o ∧ f' = f) := fun z => by
      obtain ⟨rfl, rfl⟩ := z
      omega
    rw [mw_miss (by omega)]
    exact hh.2 o' ((live_congr (e 21 (by omega)) o').mp ho') f' hf' hw
theorem kCL {g h : mm_Mem} {j n o f : Nat} (hI : IT g n) (hj : j < n) (hL : Rs j g h) (hw4 : ∀ o, live g o → wid g o ≤ 4) (hf4 : f < 4) (v : Int32) : Rs j (mm_wr g 22 (4 * o + f) v) (mm_wr h 72 (4 * o + f) v) := by
  have e : ∀ q, ¬ q = 22 → mm_wr g 22 (4 * o + f) v q = g q := fun q hq => mw_ne hq
  have r : ∀ q, ¬ q = 72 → mm_wr h 72 (4 * o + f) v q = h q := fun q hq => mw_ne hq
  obtain ⟨l1, l2⟩ := hL.2.2.2.2.2.1
  refine keepL_n hI hj hL (fun q hq => e q (by omega)) (fun q h1 h2 => e q (by omega)) (fun q h1 h2 => r q (by omega)) (fun q h1 => r q (by omega)) (Lglob_congr (e _ (by omega)) (r _ (by omega)) hL.2.2.2.2.1) ⟨fun o' h1 h2 => by rw [e 21 (by omega), r 71 (by omega)]; exact l1 o' h1 h2, fun o' ho' f' hf' => ?_⟩
  have ho := (live_congr (e 21 (by omega)) o').mp ho'
  rw [wid_congr (e 7 (by omega)) (e 21 (by omega))] at hf'
  have h4 := hw4 o' ho
  by_cases c : o' = o ∧ f' = f
  · obtain ⟨rfl, rfl⟩ := c
    rw [mw_hit, mw_hit]
  · rw [mw_miss (by omega), mw_miss (by omega)]
    exact l2 o' ho f' hf'
theorem wid_4 {g : mm_Mem} {n : Nat} (hI : IT g n) : ∀ o, live g o → wid g o ≤ 4 := by
  intro o ho
  obtain ⟨t, ht, et⟩ := hI.1.2.2.2.2.1.1 o ho
  obtain ⟨w, hw, ew⟩ := hI.1.1.1.2 t (by omega)
  have ew7 : g 7 t = nI w := ew
  unfold wid
  rw [et, nI_clamp (by omega), ew7, nI_clamp (by omega)]
  exact hw
/-- the reference's access -/
theorem acc {g1 h1 : mm_Mem} {j n d p w a b c : Nat} (C1 : Cur g1 j n d p w) (hL1 : Rs j g1 h1) (hc : c < 12) (ha : a < 3) (hb : b < 3) (hwd : c % 4 < (g1 7 (c / 4)).toNatClampNeg) {post : Int32 → mm_Mem → Prop} {op v : Int32} (no : (¬ ∃ o, live g1 o ∧ v = nI o ∧ g1 21 o = nI (c / 4)) → post 3 (mm_wr h1 77 (j + 1) 0)) (yes : ∀ o, live g1 o → v = nI o → g1 21 o = nI (c / 4) → c % 4 < wid g1 o ∧ h1 72 (4 * o + c % 4) = g1 22 (4 * o + c % 4) → ((¬ op = 7 → post 0 (mm_wr h1 72 (4 * o + c % 4) (h1 78 (36 * (j + 1) + 6 * d + 2 + b)))) ∧ (op = 7 → post 0 (mm_wr h1 78 (36 * (j + 1) + 6 * d + 2 + a) (g1 22 (4 * o + c % 4)))))) : mm_W Γ smM_M_access (mm_pI post) 27 [some (.ref (mm_B Γ + 64)), some (.int (nI (j + 1))), some (.int op), some (.int (nI (36 * (j + 1) + 6 * d + 2))), some (.int (nI a)), some (.int (nI b)), some (.int (nI c)), none] [.int v] h1 := by
  obtain ⟨hj6, hl12, el⟩ := Cur_j C1
  have hd6 := C1.2.2.2.2.1
  have flt : (¬ ∃ o, live g1 o ∧ v = nI o ∧ g1 21 o = nI (c / 4)) → mm_SI Γ smM_M_fault [.ref (mm_B Γ + 64), .int (nI (j + 1))] h1 (fun r54 h54 => post r54 h54) := fun z => mm_SI_mono (sp_M_fault hj6) (fun r h' q => by
    obtain ⟨rfl, rfl⟩ := q
    exact no z)
  have hI := C1.1.1.2.2.2.2.1
  have hLh := hL1.2.2.2.2.2.1
  refine smr_M_access_27 _ _ _ _ _ _ _ (us_br (sp_M_isObject hI hLh) (fun q => ?_) (fun q => flt (fun ⟨o, h1, h2, _⟩ => q ⟨o, h1, h2⟩)))
  obtain ⟨o, ho, rfl⟩ := q
  have o1 := ho.1
  have o2 := ho.2.1
  have g4 : (4 : Int32) * nI o + nI (c % 4) = nI (4 * o + c % 4) := by
    show nI 4 * nI o + nI (c % 4) = _
    rw [pk_mul, nI_add]
  rw [nI_clamp (n := o) (by omega), rem4 hc, div4 hc, g4, nI_clamp (n := 4 * o + c % 4) (by omega), nI_add (36 * (j + 1) + 6 * d + 2) a, nI_clamp (n := 36 * (j + 1) + 6 * d + 2 + a) (by omega), nI_add (36 * (j + 1) + 6 * d + 2) b, nI_clamp (n := 36 * (j + 1) + 6 * d + 2 + b) (by omega), hLh.1 o o1 o2]
  refine ⟨vp_in_nI (by omega) (by decide), fun z => ?_, fun z => flt ?_⟩
  · have hw : c % 4 < wid g1 o := by
      unfold wid
      rw [z, nI_clamp (by omega)]
      exact hwd
    have e72 := hLh.2 o ho _ hw
    obtain ⟨y1, y2⟩ := yes o ho rfl z ⟨hw, e72⟩
    refine ⟨fun x => ⟨vp_in_nI (by omega) (by decide), vp_in_nI (by omega) (by decide), fun h2 eh2 => ?_⟩, fun x => ⟨vp_in_nI (by omega) (by decide), vp_in_nI (by omega) (by decide), fun h2 eh2 => ?_⟩⟩
    · rw [eh2]
      exact y1 x
    · rw [eh2, e72]
      exact y2 x
  · rintro ⟨o', h1, h2, h3⟩
    have : o = o' := nI_in' (by omega) (by have := h1.2.1; omega) h2
    subst this
    exact z h3
theorem st_7 {g : mm_Mem} {j n d p w : Nat} (C : Cur g j n d p w) (eo : g 3 (12 * p + w) = 7) : mm_W Γ smM_S_perform (mm_pV (StpR Γ j n g)) 50 [some (.ref (mm_B Γ + 0)), some (.ref (mm_B Γ + (28 + 6 * j))), some (.int (nI d)), some (.int (nI (12 * p + w))), none, none, none] [] g := by
  obtain ⟨hj6, hl12, el⟩ := Cur_j C
  have hd6 := C.2.2.2.2.1
  have hp6 := C.2.2.2.2.2.1
  have hwl := C.2.2.2.2.2.2.1
  have epl := C.2.2.2.2.2.2.2.2.1
  obtain ⟨hr, hlast⟩ := C.1.1.1.2 p w hp6 hwl
  have hw1 : w + 1 < lenV g 1 p := by
    by_cases z : w + 1 = lenV g 1 p
    · have z2 : g 3 (12 * p + w) = 0 := hlast z
      rw [eo] at z2
      exact absurd z2 (by decide)
    · omega
  obtain ⟨u1, u2, u3, u4⟩ := ro_7 hr (Or.inl eo)
  obtain ⟨a, ha, ea, -⟩ := vin_of u1 (by decide)
  obtain ⟨b, hb, eb, -⟩ := vin_of u2 (by decide)
  obtain ⟨c, hc, ec, cc⟩ := vin_of u3 (by decide)
  rw [cc] at u4
  refine smr_S_perform_50 (isT_j hj6) _ _ ?_
  rw [nI_clamp (n := d) (by omega), nI_clamp (n := 12 * p + w) (by omega), epl, nI_1 w]
  have v6 : vp_in (nI d) 6 := vp_in_nI hd6 (by decide)
  have v72 : vp_in (nI (12 * p + w)) 72 := vp_in_nI (by omega) (by decide)
  refine ⟨v6, v6, fun g1 eg1 => ?_⟩
  have C1 : Cur g1 j n d p (w + 1) := by
    rw [eg1]
    exact kP C hw1
  have r3 : ∀ q, ¬ q = 28 + 6 * j + 2 → g1 q = g q := fun q hq => by rw [eg1, mw_ne hq]
  have r64 : ∀ q, 64 ≤ q → g1 q = g q := fun q hq => r3 q (by omega)
  have ed1 := C1.2.2.2.1
  have e71 := C1.2.2.2.2.2.2.2.2.2
  rw [r3 3 (by omega), r3 4 (by omega), r3 5 (by omega), r3 6 (by omega), eo]
  refine ⟨v72, fun y4 ey4 => ⟨v72, fun y5 ey5 => ⟨v72, fun y6 ey6 => ⟨v72, ⟨fun z => absurd z (by decide), fun z => absurd z (by decide), fun z => absurd z (by decide), fun z => absurd z (by decide), fun z => absurd z (by decide), fun z => absurd z (by decide), fun z => absurd z (by decide), fun _ => ?_, fun z => absurd z (by decide), fun z => absurd z (by decide), fun z => absurd z (by decide), fun z => absurd z (by decide), fun _ _ _ _ _ _ _ z _ _ _ _ => absurd rfl z⟩⟩⟩⟩⟩
  subst ey4 ey5 ey6
  rw [ea, eb, ec]
  have u41 : c % 4 < (g1 7 (c / 4)).toNatClampNeg := by rw [r3 7 (by omega)]; exact u4
  have w4 := wid_4 C1.1
  -- the reference's half
  have ref : ∀ (h : mm_Mem) (post : Int32 → mm_Mem → Prop), Rs j g h → (∀ h1, Rs j g1 h1 → (∀ q, q < 64 → h1 q = h q) → (∀ x, x < 3 → h1 78 (36 * (j + 1) + 6 * d + 2 + x) = g1 (28 + 6 * j + 3) (3 * d + x)) → mm_W Γ smM_M_access (mm_pI post) 27 [some (.ref (mm_B Γ + 64)), some (.int (nI (j + 1))), some (.int 7), some (.int (nI (36 * (j + 1) + 6 * d + 2))), some (.int (nI a)), some (.int (nI b)), some (.int (nI c)), none] [.int (g1 (28 + 6 * j + 3) (3 * d + b))] h1) → mm_SI Γ smM_M_act [.ref (mm_B Γ + 64), .int (nI (j + 1))] h post := by
    intro h post hL kk
    refine act_in C hL (fun z => absurd (eo.symm.trans z) (by decide)) (fun _ => ?_)
    obtain ⟨l1, l2, l3, l4⟩ := Rs_fr C hL
    refine smr_M_act_95 _ _ _ _ _ _ _ ?_
    have g1' : nI (36 * (j + 1) + 6 * d) + 1 = nI (36 * (j + 1) + 6 * d + 1) := nI_add _ 1
    rw [g1', nI_clamp (n := 36 * (j + 1) + 6 * d + 1) (by omega), l2, nI_1 w, eo, ea, eb, ec]
    refine ⟨vp_in_nI (by omega) (by decide), vp_in_nI (by omega) (by decide), fun h1 eh1 => ?_⟩
    have hL1 : Rs j g1 h1 := by
      rw [eg1, eh1]
      exact kPL C hL _
    obtain ⟨m1, m2, m3, m4⟩ := Rs_fr C1 hL1
    have q64 : ∀ q, q < 64 → h1 q = h q := fun q hq => by rw [eh1, mw_ne (by omega)]
    refine ⟨fun z => absurd z (by decide), fun z => absurd z (by decide), fun z => absurd z (by decide), fun z => absurd z (by decide), fun z => absurd z (by decide), fun z => absurd z (by decide), fun z => absurd z (by decide), fun _ => ?_, fun z => absurd z (by decide), fun z => absurd z (by decide), fun z => absurd z (by decide), fun _ _ _ _ _ _ _ z _ _ _ _ => absurd rfl z⟩
    refine smr_M_access _ _ _ _ _ _ ?_
    rw [nI_add (36 * (j + 1) + 6 * d + 2) a, nI_clamp (n := 36 * (j + 1) + 6 * d + 2 + a) (by omega), nI_add (36 * (j + 1) + 6 * d + 2) b, nI_clamp (n := 36 * (j + 1) + 6 * d + 2 + b) (by omega), m3 a ha, m3 b hb]
    exact br_p rfl ⟨vp_in_nI (by omega) (by decide), kk h1 hL1 q64 m3⟩
  refine smr_S_get (isT_j hj6) _ _ _ (us_eq (sp_T_local hj6 hd6 ed1 hb) (mm_SI_mono (sp_cellOf hc) (fun r g2 q => ?_)))
  obtain ⟨rfl, q⟩ := q
  rcases q with ⟨rfl, hno⟩ | ⟨o, ho, ev, et, rfl⟩
  · refine br_p rfl (us_v (sp_T_fail hj6) ⟨fun q hq => by rw [mw_ne (by omega), mw_ne (by omega), r64 q hq], kF C1, fun h hL => ref h _ hL (fun h1 hL1 q64 m3 => acc C1 hL1 hc ha hb u41 (fun _ => ⟨mw_hit.symm, fun q hq => by rw [mw_ne (by omega), q64 q hq], kFL C1 hL1⟩) (fun o h1 h2 h3 => absurd ⟨o, h1, h2, h3⟩ hno))⟩)
  · have o2 := ho.2.1
    refine br_n (m1_ne (by omega)) ?_
    rw [nI_clamp (n := 4 * o + c % 4) (by omega)]
    refine ⟨vp_in_nI (by omega) (by decide), us_v (sp_T_setLocal hj6 hd6 ed1 ha _) ⟨fun q hq => by rw [mw_ne (by omega), r64 q hq], kL C1 _ _, fun h hL => ref h _ hL (fun h1 hL1 q64 m3 => acc C1 hL1 hc ha hb u41 (fun z => absurd ⟨o, ho, ev, et⟩ z) (fun o' h1' h2' h3' h4' => ?_))⟩⟩
    have : o = o' := nI_in' (by omega) (by have := h1'.2.1; omega) (ev.symm.trans h2')
    subst this
    refine br_p rfl ⟨?_, fun q hq => by rw [mw_ne (by omega), q64 q hq], kLL C1 hL1 ha _⟩
    rw [mw_ne (by omega), e71]
theorem st_8 {g : mm_Mem} {j n d p w : Nat} (C : Cur g j n d p w) (eo : g 3 (12 * p + w) = 8) : mm_W Γ smM_S_perform (mm_pV (StpR Γ j n g)) 50 [some (.ref (mm_B Γ + 0)), some (.ref (mm_B Γ + (28 + 6 * j))), some (.int (nI d)), some (.int (nI (12 * p + w))), none, none, none] [] g := by
  obtain ⟨hj6, hl12, el⟩ := Cur_j C
  have hd6 := C.2.2.2.2.1
  have hp6 := C.2.2.2.2.2.1
  have hwl := C.2.2.2.2.2.2.1
  have epl := C.2.2.2.2.2.2.2.2.1
  obtain ⟨hr, hlast⟩ := C.1.1.1.2 p w hp6 hwl
  have hw1 : w + 1 < lenV g 1 p := by
    by_cases z : w + 1 = lenV g 1 p
    · have z2 : g 3 (12 * p + w) = 0 := hlast z
      rw [eo] at z2
      exact absurd z2 (by decide)
    · omega
  obtain ⟨u1, u2, u3, u4⟩ := ro_7 hr (Or.inr eo)
  obtain ⟨a, ha, ea, -⟩ := vin_of u1 (by decide)
  obtain ⟨b, hb, eb, -⟩ := vin_of u2 (by decide)
  obtain ⟨c, hc, ec, cc⟩ := vin_of u3 (by decide)
  rw [cc] at u4
  refine smr_S_perform_50 (isT_j hj6) _ _ ?_
  rw [nI_clamp (n := d) (by omega), nI_clamp (n := 12 * p + w) (by omega), epl, nI_1 w]
  have v6 : vp_in (nI d) 6 := vp_in_nI hd6 (by decide)
  have v72 : vp_in (nI (12 * p + w)) 72 := vp_in_nI (by omega) (by decide)
  refine ⟨v6, v6, fun g1 eg1 => ?_⟩
  have C1 : Cur g1 j n d p (w + 1) := by
    rw [eg1]
    exact kP C hw1
  have r3 : ∀ q, ¬ q = 28 + 6 * j + 2 → g1 q = g q := fun q hq => by rw [eg1, mw_ne hq]
  have r64 : ∀ q, 64 ≤ q → g1 q = g q := fun q hq => r3 q (by omega)
  have ed1 := C1.2.2.2.1
  have e71 := C1.2.2.2.2.2.2.2.2.2
  rw [r3 3 (by omega), r3 4 (by omega), r3 5 (by omega), r3 6 (by omega), eo]
  refine ⟨v72, fun y4 ey4 => ⟨v72, fun y5 ey5 => ⟨v72, fun y6 ey6 => ⟨v72, ⟨fun z => absurd z (by decide), fun z => absurd z (by decide), fun z => absurd z (by decide), fun z => absurd z (by decide), fun z => absurd z (by decide), fun z => absurd z (by decide), fun z => absurd z (by decide), fun z => absurd z (by decide), fun _ => ?_, fun z => absurd z (by decide), fun z => absurd z (by decide), fun z => absurd z (by decide), fun _ _ _ _ _ _ _ _ z _ _ _ => absurd rfl z⟩⟩⟩⟩⟩
  subst ey4 ey5 ey6
  rw [ea, eb, ec]
  have u41 : c % 4 < (g1 7 (c / 4)).toNatClampNeg := by rw [r3 7 (by omega)]; exact u4
  have w4 := wid_4 C1.1
  -- the reference's half
  have ref : ∀ (h : mm_Mem) (post : Int32 → mm_Mem → Prop), Rs j g h → (∀ h1, Rs j g1 h1 → (∀ q, q < 64 → h1 q = h q) → (∀ x, x < 3 → h1 78 (36 * (j + 1) + 6 * d + 2 + x) = g1 (28 + 6 * j + 3) (3 * d + x)) → mm_W Γ smM_M_access (mm_pI post) 27 [some (.ref (mm_B Γ + 64)), some (.int (nI (j + 1))), some (.int 8), some (.int (nI (36 * (j + 1) + 6 * d + 2))), some (.int (nI a)), some (.int (nI b)), some (.int (nI c)), none] [.int (g1 (28 + 6 * j + 3) (3 * d + a))] h1) → mm_SI Γ smM_M_act [.ref (mm_B Γ + 64), .int (nI (j + 1))] h post := by
    intro h post hL kk
    refine act_in C hL (fun z => absurd (eo.symm.trans z) (by decide)) (fun _ => ?_)
    obtain ⟨l1, l2, l3, l4⟩ := Rs_fr C hL
    refine smr_M_act_95 _ _ _ _ _ _ _ ?_
    have g1' : nI (36 * (j + 1) + 6 * d) + 1 = nI (36 * (j + 1) + 6 * d + 1) := nI_add _ 1
    rw [g1', nI_clamp (n := 36 * (j + 1) + 6 * d + 1) (by omega), l2, nI_1 w, eo, ea, eb, ec]
    refine ⟨vp_in_nI (by omega) (by decide), vp_in_nI (by omega) (by decide), fun h1 eh1 => ?_⟩
    have hL1 : Rs j g1 h1 := by
      rw [eg1, eh1]
      exact kPL C hL _
    obtain ⟨m1, m2, m3, m4⟩ := Rs_fr C1 hL1
    have q64 : ∀ q, q < 64 → h1 q = h q := fun q hq => by rw [eh1, mw_ne (by omega)]
    refine ⟨fun z => absurd z (by decide), fun z => absurd z (by decide), fun z => absurd z (by decide), fun z => absurd z (by decide), fun z => absurd z (by decide), fun z => absurd z (by decide), fun z => absurd z (by decide), fun _ => ?_, fun z => absurd z (by decide), fun z => absurd z (by decide), fun z => absurd z (by decide), fun _ _ _ _ _ _ _ _ z _ _ _ => absurd rfl z⟩
    refine smr_M_access _ _ _ _ _ _ ?_
    rw [nI_add (36 * (j + 1) + 6 * d + 2) a, nI_clamp (n := 36 * (j + 1) + 6 * d + 2 + a) (by omega), nI_add (36 * (j + 1) + 6 * d + 2) b, nI_clamp (n := 36 * (j + 1) + 6 * d + 2 + b) (by omega), m3 a ha, m3 b hb]
    exact br_n (by decide) ⟨vp_in_nI (by omega) (by decide), kk h1 hL1 q64 m3⟩
  refine smr_S_put (isT_j hj6) _ _ _ (us_eq (sp_T_local hj6 hd6 ed1 ha) (mm_SI_mono (sp_cellOf hc) (fun r g2 q => ?_)))
  obtain ⟨rfl, q⟩ := q
  rcases q with ⟨rfl, hno⟩ | ⟨o, ho, ev, et, rfl⟩
  · refine br_p rfl (us_v (sp_T_fail hj6) ⟨fun q hq => by rw [mw_ne (by omega), mw_ne (by omega), r64 q hq], kF C1, fun h hL => ref h _ hL (fun h1 hL1 q64 m3 => acc C1 hL1 hc ha hb u41 (fun _ => ⟨mw_hit.symm, fun q hq => by rw [mw_ne (by omega), q64 q hq], kFL C1 hL1⟩) (fun o h1 h2 h3 => absurd ⟨o, h1, h2, h3⟩ hno))⟩)
  · have o2 := ho.2.1
    refine br_n (m1_ne (by omega)) ?_
    rw [nI_clamp (n := 4 * o + c % 4) (by omega)]
    have hwo : c % 4 < wid g2 o := by
      unfold wid
      rw [et, nI_clamp (by omega)]
      exact u41
    refine us_eq (sp_T_local hj6 hd6 ed1 hb) ⟨vp_in_nI (by omega) (by decide), fun g3 eg3 => ?_⟩
    subst eg3
    refine ⟨fun q hq => by rw [mw_ne (by omega), r64 q hq], kC C1.1 C1.2.1 (by omega) hwo _, fun h hL => ref h _ hL (fun h1 hL1 q64 m3 => acc C1 hL1 hc ha hb u41 (fun z => absurd ⟨o, ho, ev, et⟩ z) (fun o' h1' h2' h3' h4' => ?_))⟩
    have : o = o' := nI_in' (by omega) (by have := h1'.2.1; omega) (ev.symm.trans h2')
    subst this
    rw [m3 b hb]
    refine ⟨fun _ => ⟨?_, fun q hq => by rw [mw_ne (by omega), q64 q hq], kCL C1.1 C1.2.1 hL1 w4 (by omega) _⟩, fun z => absurd z (by decide)⟩
    rw [mw_ne (by omega), e71]
/-! a new object -/
def LF (g : mm_Mem) (r e : Int32) : Prop := (r = e ∧ ∀ o, 1 ≤ o → o ≤ 16 → live g o) ∨ ∃ o, 1 ≤ o ∧ o ≤ 16 ∧ ¬ live g o ∧ (∀ o', 1 ≤ o' → o' < o → live g o') ∧ r = nI o
theorem sp_leastFree {g : mm_Mem} : mm_SI Γ smM_H_leastFree [.ref (mm_B Γ + 20)] g (fun r g' => g' = g ∧ LF g r (-1)) := by
  have loop : ∀ d k, k + d = 16 → (∀ o, 1 ≤ o → o ≤ k → live g o) → mm_W Γ smM_H_leastFree (mm_pI (fun r g' => g' = g ∧ LF g r (-1))) 2 [some (.ref (mm_B Γ + 20)), some (.int (nI (k + 1)))] [] g := by
    intro d
    induction d with
    | zero =>
      intro k hk a
      obtain rfl : k = 16 := by omega
      exact smr_H_leastFree_2 _ (br_t (by decide) ⟨rfl, Or.inl ⟨rfl, a⟩⟩)
    | succ d ih =>
      intro k hk a
      refine smr_H_leastFree_2 _ (br_f (nI_nlt (a := 16) (b := k + 1) (by omega) (by omega)) (us_br' sp_H_has (fun q => ?_) (fun q => ⟨rfl, Or.inr ⟨k + 1, by omega, by omega, fun z => q ⟨k + 1, z, rfl⟩, fun o' h1 h2 => a o' h1 (by omega), rfl⟩⟩)))
      obtain ⟨o, ho, e⟩ := q
      have : k + 1 = o := nI_in' (by omega) (by have := ho.2.1; omega) e
      subst this
      rw [nI_1]
      refine ih (k + 1) (by omega) (fun o h1 h2 => ?_)
      by_cases c : o = k + 1
      · subst c
        exact ho
      · exact a o h1 (by omega)
  exact smr_H_leastFree (loop 16 0 rfl (fun o h1 h2 => absurd h1 (by omega)))
theorem sp_M_free {g h : mm_Mem} (hI : Iheap g) (hL : Lheap g h) : mm_SI Γ smM_M_free [.ref (mm_B Γ + 64)] h (fun r h' => h' = h ∧ LF g r (nI 17)) := by
  have loop : ∀ d k, k + d = 16 → (∀ o, 1 ≤ o → o ≤ k → live g o) → mm_W Γ smM_M_free (mm_pI (fun r h' => h' = h ∧ LF g r (nI 17))) 2 [some (.ref (mm_B Γ + 64)), some (.int (nI (k + 1)))] [] h := by
    intro d
    induction d with
    | zero =>
      intro k hk a
      obtain rfl : k = 16 := by omega
      exact smr_M_free_2 _ (br_t (by decide) ⟨rfl, Or.inl ⟨rfl, a⟩⟩)
    | succ d ih =>
      intro k hk a
      refine smr_M_free_2 _ (br_f (nI_ge (a := k + 1) (b := 17) (by omega) (by omega)) ⟨vp_in_nI (by omega) (by decide), ?_⟩)
      rw [nI_clamp (n := k + 1) (by omega), hL.1 (k + 1) (by omega) (by omega), nI_1]
      refine ⟨fun q => ⟨rfl, Or.inr ⟨k + 1, by omega, by omega, fun z => rg_pos (hI.1 _ z) (by decide) q, fun o' h1 h2 => a o' h1 (by omega), rfl⟩⟩, fun q => ih (k + 1) (by omega) (fun o h1 h2 => ?_)⟩
      by_cases c : o = k + 1
      · subst c
        exact ⟨h1, by omega, fun z => q (by rw [z]; exact m1_lt)⟩
      · exact a o h1 (by omega)
  exact smr_M_free (loop 16 0 rfl (fun o h1 h2 => absurd h1 (by omega)))
theorem LF_eq {g : mm_Mem} {r r' e e' : Int32} (h1 : LF g r e) (h2 : LF g r' e') : (r = e ∧ r' = e' ∧ ∀ o, 1 ≤ o → o ≤ 16 → live g o) ∨ ∃ o, 1 ≤ o ∧ o ≤ 16 ∧ ¬ live g o ∧ r = nI o ∧ r' = nI o := by
  rcases h1 with ⟨e1, a1⟩ | ⟨o, b1, b2, b3, b4, b5⟩ <;> rcases h2 with ⟨e2, a2⟩ | ⟨o', c1, c2, c3, c4, c5⟩
  · exact Or.inl ⟨e1, e2, a1⟩
  · exact absurd (a1 o' c1 c2) c3
  · exact absurd (a2 o b1 b2) b3
  · have : o = o' := by
      by_cases x : o < o'
      · exact absurd (c4 o b1 x) b3
      · by_cases y : o' < o
        · exact absurd (b4 o' c1 y) c3
        · omega
    subst this
    exact Or.inr ⟨o, b1, b2, b3, b5, c5⟩
def Bg (ty ce : Nat) (o t : Nat) (g g' : mm_Mem) : Prop := (∀ q, ¬ q = ty → ¬ q = ce → g' q = g q) ∧ (∀ x, g' ty x = if x = o then nI t else g ty x) ∧ (∀ x, g' ce x = if 4 * o ≤ x ∧ x < 4 * o + 4 then 0 else g ce x)
theorem sp_begin {g : mm_Mem} {o t : Nat} (h1 : 1 ≤ o) (h2 : o ≤ 16) : mm_SV Γ smM_H_begin [.ref (mm_B Γ + 20), .int (nI o), .int (nI t)] g (fun g' => Bg 21 22 o t g g') := by
  have loop : ∀ d f (m : mm_Mem), f + d = 4 → (∀ q, ¬ q = 21 → ¬ q = 22 → m q = g q) → (∀ x, m 21 x = if x = o then nI t else g 21 x) → (∀ x, m 22 x = if 4 * o ≤ x ∧ x < 4 * o + f then 0 else g 22 x) → mm_W Γ smM_H_begin (mm_pV (fun g' => Bg 21 22 o t g g')) 9 [some (.ref (mm_B Γ + 20)), some (.int (nI o)), none, some (.int (nI f))] [] m := by
    intro d
    induction d with
    | zero =>
      intro f m hf a b c
      obtain rfl : f = 4 := by omega
      exact smr_H_begin_9 _ _ (br_t (by decide) ⟨a, b, c⟩)
    | succ d ih =>
      intro f m hf a b c
      have g4 : nI o * 4 + nI f = nI (4 * o + f) := by
        show nI o * nI 4 + nI f = _
        rw [pk_mul, nI_add, Nat.mul_comm]
      refine smr_H_begin_9 _ _ ?_
      rw [g4, nI_clamp (n := 4 * o + f) (by omega), nI_1]
      refine br_f (nI_ge (a := f) (b := 4) (by omega) (by omega)) ⟨vp_in_nI (by omega) (by decide), fun m' e => ih (f + 1) m' (by omega) (fun q q1 q2 => by rw [e, mw_ne q2, a q q1 q2]) (fun x => by rw [e, mw_ne (by omega), b x]) (fun x => ?_)⟩
      rw [e, mw_at]
      by_cases hx : x = 4 * o + f
      · rw [if_pos ⟨rfl, hx⟩, if_pos (by omega)]
      · rw [if_neg (by omega), c x]
        by_cases hx2 : 4 * o ≤ x ∧ x < 4 * o + f
        · rw [if_pos hx2, if_pos (by omega)]
        · rw [if_neg hx2, if_neg (by omega)]
  refine smr_H_begin _ _ ⟨vp_in_nI (by omega) (by decide), fun m e => ?_⟩
  rw [nI_clamp (by omega)] at e
  refine loop 4 0 m rfl (fun q q1 q2 => by rw [e, mw_ne q1]) (fun x => ?_) (fun x => by rw [e, mw_ne (by omega), if_neg (by omega)])
  rw [e, mw_at]
  by_cases hx : x = o
  · rw [if_pos ⟨rfl, hx⟩, if_pos hx]
  · rw [if_neg (fun z => hx z.2), if_neg hx]
theorem sp_M_make36 {h m : mm_Mem} {o t : Nat} (h1 : 1 ≤ o) (h2 : o ≤ 16) (e : m = mm_wr h 71 o (nI t)) {post : Int32 → mm_Mem → Prop} (k : ∀ h', Bg 71 72 o t h h' → post (nI o) h') : mm_W Γ smM_M_make (mm_pI post) 36 [some (.ref (mm_B Γ + 64)), none, some (.int (nI o)), some (.int 0)] [] m := by
  have loop : ∀ d f (m : mm_Mem), f + d = 4 → (∀ q, ¬ q = 71 → ¬ q = 72 → m q = h q) → (∀ x, m 71 x = if x = o then nI t else h 71 x) → (∀ x, m 72 x = if 4 * o ≤ x ∧ x < 4 * o + f then 0 else h 72 x) → mm_W Γ smM_M_make (mm_pI post) 36 [some (.ref (mm_B Γ + 64)), none, some (.int (nI o)), some (.int (nI f))] [] m := by
    intro d
    induction d with
    | zero =>
      intro f m hf a b c
      obtain rfl : f = 4 := by omega
      exact smr_M_make_36 _ _ (br_t (by decide) (k m ⟨a, b, c⟩))
    | succ d ih =>
      intro f m hf a b c
      have g4 : (4 : Int32) * nI o + nI f = nI (4 * o + f) := by
        show nI 4 * nI o + nI f = _
        rw [pk_mul, nI_add]
      refine smr_M_make_36 _ _ ?_
      rw [g4, nI_clamp (n := 4 * o + f) (by omega), nI_1]
      refine br_f (nI_ge (a := f) (b := 4) (by omega) (by omega)) ⟨vp_in_nI (by omega) (by decide), fun m' e => ih (f + 1) m' (by omega) (fun q q1 q2 => by rw [e, mw_ne q2, a q q1 q2]) (fun x => by rw [e, mw_ne (by omega), b x]) (fun x => ?_)⟩
      rw [e, mw_at]
      by_cases hx : x = 4 * o + f
      · rw [if_pos ⟨rfl, hx⟩, if_pos (by omega)]
      · rw [if_neg (by omega), c x]
        by_cases hx2 : 4 * o ≤ x ∧ x < 4 * o + f
        · rw [if_pos hx2, if_pos (by omega)]
        · rw [if_neg hx2, if_neg (by omega)]
  refine loop 4 0 m rfl (fun q q1 q2 => by rw [e, mw_ne q1]) (fun x => ?_) (fun x => by rw [e, mw_ne (by omega), if_neg (by omega)])
  rw [e, mw_at]
  by_cases hx : x = o
  · rw [if_pos ⟨rfl, hx⟩, if_pos hx]
  · rw [if_neg (fun z => hx z.2), if_neg hx]
theorem Bg_live {g g' : mm_Mem} {o t : Nat} (ht : t < 3) (h1 : 1 ≤ o) (h2 : o ≤ 16) (B : Bg 21 22 o t g g') (o' : Nat) : live g' o' ↔ (o' = o ∨ live g o') := by
  unfold live
  rw [B.2.1]
  by_cases c : o' = o
  · subst c
    rw [if_pos rfl]
    exact ⟨fun _ => Or.inl rfl, fun _ => ⟨h1, h2, m1_ne (by omega)⟩⟩
  · rw [if_neg c]
    exact ⟨fun z => Or.inr z, fun z => z.resolve_left c⟩
theorem Bg_I {g g' : mm_Mem} {o t : Nat} (hI : Iheap g) (ht : t < 3) (h1 : 1 ≤ o) (h2 : o ≤ 16) (B : Bg 21 22 o t g g') : Iheap g' := by
  obtain ⟨b1, b2, b3⟩ := id B
  refine ⟨fun o' ho' => ?_, fun o' ho' f hf hw => ?_⟩
  · rw [b2]
    by_cases c : o' = o
    · rw [if_pos c]
      exact ⟨t, by omega, rfl⟩
    · rw [if_neg c]
      exact hI.1 o' (((Bg_live ht h1 h2 B o').mp ho').resolve_left c)
  · rw [b3]
    by_cases c : o' = o
    · subst c
      rw [if_pos (by omega)]
    · rw [if_neg (by omega)]
      refine hI.2 o' (((Bg_live ht h1 h2 B o').mp ho').resolve_left c) f hf ?_
      unfold wid at hw ⊢
      rw [b2, if_neg c, b1 7 (by omega) (by omega)] at hw
      exact hw
theorem kB {g g' : mm_Mem} {j n d p w o t : Nat} (C : Cur g j n d p w) (ht : t < 3) (h1 : 1 ≤ o) (h2 : o ≤ 16) (B : Bg 21 22 o t g g') : Cur g' j n d p w := by
  obtain ⟨hj6, -, -⟩ := Cur_j C
  have e : ∀ q, ¬ q = 21 → ¬ q = 22 → g' q = g q := B.1
  exact Cur_mk C (keepI_n C.1 C.2.1 (fun q hq => e q (by omega) (by omega)) (fun q h1 h2 => e q (by omega) (by omega)) (Bg_I C.1.1.2.2.2.2.1 ht h1 h2 B)) (e _ (by omega) (by omega)) (by rw [e _ (by omega) (by omega)]) (by rw [e _ (by omega) (by omega)]) (by rw [e _ (by omega) (by omega)]) C.2.2.2.2.2.2.1 (by rw [e _ (by omega) (by omega)]; exact C.2.2.2.2.2.2.2.2.1)
theorem kBL {g g' h h' : mm_Mem} {j n d p w o t : Nat} (C : Cur g j n d p w) (hL : Rs j g h) (ht : t < 3) (h1 : 1 ≤ o) (h2 : o ≤ 16) (B : Bg 21 22 o t g g') (B' : Bg 71 72 o t h h') : Rs j g' h' := by
  have w4 := wid_4 C.1
  have C' := kB C ht h1 h2 B
  have w4' := wid_4 C'.1
  obtain ⟨b1, b2, b3⟩ := id B
  obtain ⟨c1, c2, c3⟩ := B'
  obtain ⟨l1, l2⟩ := hL.2.2.2.2.2.1
  refine keepL_n C.1 C.2.1 hL (fun q hq => b1 q (by omega) (by omega)) (fun q h1 h2 => b1 q (by omega) (by omega)) (fun q h1 h2 => c1 q (by omega) (by omega)) (fun q h1 => c1 q (by omega) (by omega)) (Lglob_congr (b1 _ (by omega) (by omega)) (c1 _ (by omega) (by omega)) hL.2.2.2.2.1) ⟨fun o' h1 h2 => ?_, fun o' ho' f hf => ?_⟩
  · rw [b2, c2]
    by_cases c : o' = o
    · rw [if_pos c, if_pos c]
    · rw [if_neg c, if_neg c]
      exact l1 o' h1 h2
  · have h4 := w4' o' ho'
    rw [b3, c3]
    by_cases c : o' = o
    · subst c
      rw [if_pos (by omega), if_pos (by omega)]
    · rw [if_neg (by omega), if_neg (by omega)]
      refine l2 o' (((Bg_live ht h1 h2 B o').mp ho').resolve_left c) f ?_
      unfold wid at hf ⊢
      rw [b2, if_neg c, b1 7 (by omega) (by omega)] at hf
      exact hf
theorem drop_I {g g' : mm_Mem} {n : Nat} (hI : Iheap g) (hD : DropC g n g') : Iheap g' := by
  refine ⟨fun o ho => ?_, fun o ho f hf hw => ?_⟩
  · rw [gc_type hD ho]
    exact hI.1 o ((gc_live hD o).mp ho).1
  · rw [gc_wid hD ho] at hw
    rw [hD.1 22 (by omega) (by omega) (by omega) (by omega)]
    exact hI.2 o ((gc_live hD o).mp ho).1 f hf hw
theorem kD {g g' : mm_Mem} {j n d p w : Nat} (C : Cur g j n d p w) (hD : DropC g n g') : Cur g' j n d p w := by
  have e : ∀ q, ¬ (20 ≤ q ∧ q ≤ 25) → g' q = g q := fun q hq => hD.1 q (by omega) (by omega) (by omega) (by omega)
  exact Cur_mk C (keepI_n C.1 C.2.1 (fun q hq => e q (by omega)) (fun q h1 h2 => e q (by omega)) (drop_I C.1.1.2.2.2.2.1 hD)) (e _ (by omega)) (by rw [e _ (by omega)]) (by rw [e _ (by omega)]) (by rw [e _ (by omega)]) C.2.2.2.2.2.2.1 (by rw [e _ (by omega)]; exact C.2.2.2.2.2.2.2.2.1)
theorem kDL {g g' h h' : mm_Mem} {j n d p w : Nat} (C : Cur g j n d p w) (hL : Rs j g h) (hD : DropC g n g') (hW : SwpR g n h h') : Rs j g' h' := by
  have e : ∀ q, ¬ (20 ≤ q ∧ q ≤ 25) → g' q = g q := fun q hq => hD.1 q (by omega) (by omega) (by omega) (by omega)
  have f : ∀ q, ¬ (71 ≤ q ∧ q ≤ 74) → h' q = h q := fun q hq => hW.1 q (by omega) (by omega)
  exact keepL_n C.1 C.2.1 hL (fun q hq => e q (by omega)) (fun q h1 h2 => e q (by omega)) (fun q h1 h2 => f q (by omega)) (fun q h1 => f q (by omega)) (Lglob_congr (e _ (by omega)) (f _ (by omega)) hL.2.2.2.2.1) (gc_heap hD hW C.1.1.2.2.2.2.1 hL.2.2.2.2.2.1).2
theorem SwI_Rs {g h : mm_Mem} {j n : Nat} (hI : IT g n) (hL : Rs j g h) : SwI g h n := by
  obtain ⟨⟨⟨k1, k2⟩, k3, k4, k5, k6, -⟩, hT⟩ := hI
  obtain ⟨⟨c1, c2, c3⟩, d2, d3, d4, d5, d6, d7, d8⟩ := hL
  have hn := hT.1
  refine ⟨k6, k1, hT, d6, d5, c3.trans hT.2.1, fun t ht => ?_, fun i hi => ?_⟩
  · have := d2.2.2 t ht
    rw [Nat.zero_add] at this
    exact this
  · by_cases hij : i = j
    · subst hij
      exact ⟨d8.1, fun k hk x hx => (d8.2.2.2.1 k hk).2.2.1 x hx⟩
    · obtain ⟨l1, -, -, -, l5, -⟩ := d7 i (by omega) hij
      exact ⟨l1, fun k hk x hx => (l5 k hk).2.2.1 x hx⟩
/-- the reference, from the second look for a free place on -/
def Cont14 (Γ : mm_Ctx) (j i t : Nat) (h2 : mm_Mem) (postR : Int32 → mm_Mem → Prop) : Prop := mm_W Γ smM_M_make (mm_pI (fun r2 h2 => (¬ r2 = 0 → ((vp_in (nI i) 252) ∧ (∀ h25, h25 = mm_wr h2 78 (nI i).toNatClampNeg r2 → (postR 0 h25)))) ∧ (r2 = 0 → (mm_SI Γ smM_M_fault [.ref (mm_B Γ + 64), .int (nI (j + 1))] h2 (fun r14 h14 => postR r14 h14))))) 14 [some (.ref (mm_B Γ + 64)), some (.int (nI t)), none, none] [] h2
theorem mk16 {g2 : mm_Mem} {j n d p w a t : Nat} (C2 : Cur g2 j n d p w) (ha : a < 3) (ht : t < 3) {post : mm_Mem → Prop} (k : ∀ g3, (∀ q, 64 ≤ q → g3 q = g2 q) → IT g3 n → (∀ h2 (postR : Int32 → mm_Mem → Prop), Rs j g2 h2 → (∀ r h3, r = g3 (28 + 6 * j) 7 → (∀ q, q < 64 → h3 q = h2 q) → Rs j g3 h3 → postR r h3) → Cont14 Γ j (36 * (j + 1) + 6 * d + 2 + a) t h2 postR) → post g3) : mm_W Γ smM_S_makeObject (mm_pV post) 16 [some (.ref (mm_B Γ + 0)), some (.ref (mm_B Γ + (28 + 6 * j))), some (.int (nI a)), some (.int (nI t)), none] [] g2 := by
  obtain ⟨hj6, hl12, el⟩ := Cur_j C2
  have hd6 := C2.2.2.2.2.1
  have e72 := C2.2.2.2.2.2.2.2.2.2
  refine smr_S_makeObject_16 (isT_j hj6) _ _ (mm_SI_mono sp_leastFree (fun r g2' q => ?_))
  obtain ⟨rfl, lf⟩ := q
  have free : ∀ h2, Rs j g2' h2 → mm_SI Γ smM_M_free [.ref (mm_B Γ + 64)] h2 (fun r' h' => h' = h2 ∧ LF g2' r' (nI 17)) := fun h2 hL => sp_M_free C2.1.1.2.2.2.2.1 hL.2.2.2.2.2.1
  rcases id lf with ⟨rfl, hall⟩ | ⟨o, o1, o2, o3, o4, rfl⟩
  · refine br_p rfl (us_v (sp_T_fail hj6) (k _ (fun q hq => by rw [mw_ne (by omega), mw_ne (by omega)]) (kF C2) (fun h2 postR hL kk => ?_)))
    refine smr_M_make_14 _ (mm_SI_mono (free h2 hL) (fun r' h' q => ?_))
    obtain ⟨rfl, lf'⟩ := q
    rcases LF_eq lf lf' with ⟨-, rfl, -⟩ | ⟨o, b1, b2, b3, -, -⟩
    · refine br_f (by decide) (br_p rfl (mm_SI_mono (sp_M_fault hj6) (fun r3 h3 q => ?_)))
      obtain ⟨rfl, rfl⟩ := q
      exact kk _ _ mw_hit.symm (fun q hq => by rw [mw_ne (by omega)]) (kFL C2 hL)
    · exact absurd (hall o b1 b2) b3
  · refine br_n (m1_ne (by omega)) (mm_SV_mono (sp_begin o1 o2) (fun g3 B => ?_))
    have C3 := kB C2 ht o1 o2 B
    refine us_v (sp_T_setLocal hj6 hd6 C3.2.2.2.1 ha _) (k _ (fun q hq => by rw [mw_ne (by omega), B.1 q (by omega) (by omega)]) (kL C3 _ _) (fun h2 postR hL kk => ?_))
    refine smr_M_make_14 _ (mm_SI_mono (free h2 hL) (fun r' h' q => ?_))
    obtain ⟨rfl, lf'⟩ := q
    rcases LF_eq lf lf' with ⟨-, -, hall⟩ | ⟨o', b1, b2, b3, b4, rfl⟩
    · exact absurd (hall o o1 o2) o3
    · have : o = o' := nI_in' (by omega) (by omega) b4
      subst this
      refine br_t (nI_le (a := o) (b := 16) o2 (by omega)) ⟨vp_in_nI (by omega) (by decide), fun h33 e33 => ?_⟩
      rw [nI_clamp (by omega)] at e33
      refine sp_M_make36 o1 o2 e33 (fun h4 B' => br_n (nI_ne0 o1 (by omega)) ⟨vp_in_nI (by omega) (by decide), fun h25 e25 => ?_⟩)
      rw [nI_clamp (by omega)] at e25
      refine kk _ _ ?_ (fun q hq => by rw [e25, mw_ne (by omega), B'.1 q (by omega) (by omega)]) ?_
      · rw [mw_ne (by omega), C3.2.2.2.2.2.2.2.2.2]
      · rw [e25]
        exact kLL C3 (kBL C2 hL ht o1 o2 B B') ha _
theorem st_6 {g : mm_Mem} {j n d p w : Nat} (C : Cur g j n d p w) (eo : g 3 (12 * p + w) = 6) : mm_W Γ smM_S_perform (mm_pV (StpR Γ j n g)) 50 [some (.ref (mm_B Γ + 0)), some (.ref (mm_B Γ + (28 + 6 * j))), some (.int (nI d)), some (.int (nI (12 * p + w))), none, none, none] [] g := by
  obtain ⟨hj6, hl12, el⟩ := Cur_j C
  have hd6 := C.2.2.2.2.1
  have hp6 := C.2.2.2.2.2.1
  have hwl := C.2.2.2.2.2.2.1
  have epl := C.2.2.2.2.2.2.2.2.1
  obtain ⟨hr, hlast⟩ := C.1.1.1.2 p w hp6 hwl
  have hw1 : w + 1 < lenV g 1 p := by
    by_cases z : w + 1 = lenV g 1 p
    · have z2 : g 3 (12 * p + w) = 0 := hlast z
      rw [eo] at z2
      exact absurd z2 (by decide)
    · omega
  obtain ⟨u1, u2⟩ := ro_6 hr eo
  obtain ⟨a, ha, ea, -⟩ := vin_of u1 (by decide)
  obtain ⟨b, hb, eb, -⟩ := vin_of u2 (by decide)
  refine smr_S_perform_50 (isT_j hj6) _ _ ?_
  rw [nI_clamp (n := d) (by omega), nI_clamp (n := 12 * p + w) (by omega), epl, nI_1 w]
  have v6 : vp_in (nI d) 6 := vp_in_nI hd6 (by decide)
  have v72 : vp_in (nI (12 * p + w)) 72 := vp_in_nI (by omega) (by decide)
  refine ⟨v6, v6, fun g1 eg1 => ?_⟩
  have C1 : Cur g1 j n d p (w + 1) := by
    rw [eg1]
    exact kP C hw1
  have r3 : ∀ q, ¬ q = 28 + 6 * j + 2 → g1 q = g q := fun q hq => by rw [eg1, mw_ne hq]
  have r64 : ∀ q, 64 ≤ q → g1 q = g q := fun q hq => r3 q (by omega)
  have ed1 := C1.2.2.2.1
  have e71 := C1.2.2.2.2.2.2.2.2.2
  rw [r3 3 (by omega), r3 4 (by omega), r3 5 (by omega), r3 6 (by omega), eo]
  refine ⟨v72, fun y4 ey4 => ⟨v72, fun y5 ey5 => ⟨v72, fun y6 ey6 => ⟨v72, ⟨fun z => absurd z (by decide), fun z => absurd z (by decide), fun z => absurd z (by decide), fun z => absurd z (by decide), fun z => absurd z (by decide), fun z => absurd z (by decide), fun _ => ?_, fun z => absurd z (by decide), fun z => absurd z (by decide), fun z => absurd z (by decide), fun z => absurd z (by decide), fun z => absurd z (by decide), fun _ _ _ _ _ _ z _ _ _ _ _ => absurd rfl z⟩⟩⟩⟩⟩
  subst ey4 ey5
  rw [ea, eb]
  have ref : ∀ (h : mm_Mem) (post : Int32 → mm_Mem → Prop), Rs j g h → (∀ h1, Rs j g1 h1 → (∀ q, q < 64 → h1 q = h q) → mm_SI Γ smM_M_make [.ref (mm_B Γ + 64), .int (nI b)] h1 (fun r2 h2 => (¬ r2 = 0 → ((vp_in (nI (36 * (j + 1) + 6 * d + 2 + a)) 252) ∧ (∀ h25, h25 = mm_wr h2 78 (nI (36 * (j + 1) + 6 * d + 2 + a)).toNatClampNeg r2 → (post 0 h25)))) ∧ (r2 = 0 → (mm_SI Γ smM_M_fault [.ref (mm_B Γ + 64), .int (nI (j + 1))] h2 (fun r14 h14 => post r14 h14))))) → mm_SI Γ smM_M_act [.ref (mm_B Γ + 64), .int (nI (j + 1))] h post := by
    intro h post hL kk
    refine act_in C hL (fun z => absurd (eo.symm.trans z) (by decide)) (fun _ => ?_)
    obtain ⟨l1, l2, l3, l4⟩ := Rs_fr C hL
    refine smr_M_act_95 _ _ _ _ _ _ _ ?_
    have g1' : nI (36 * (j + 1) + 6 * d) + 1 = nI (36 * (j + 1) + 6 * d + 1) := nI_add _ 1
    rw [g1', nI_clamp (n := 36 * (j + 1) + 6 * d + 1) (by omega), l2, nI_1 w, eo, ea, eb]
    refine ⟨vp_in_nI (by omega) (by decide), vp_in_nI (by omega) (by decide), fun h1 eh1 => ?_⟩
    have hL1 : Rs j g1 h1 := by
      rw [eg1, eh1]
      exact kPL C hL _
    obtain ⟨m1, m2, m3, m4⟩ := Rs_fr C1 hL1
    have q64 : ∀ q, q < 64 → h1 q = h q := fun q hq => by rw [eh1, mw_ne (by omega)]
    refine ⟨fun z => absurd z (by decide), fun z => absurd z (by decide), fun z => absurd z (by decide), fun z => absurd z (by decide), fun z => absurd z (by decide), fun z => absurd z (by decide), fun _ => ?_, fun z => absurd z (by decide), fun z => absurd z (by decide), fun z => absurd z (by decide), fun z => absurd z (by decide), fun _ _ _ _ _ _ z _ _ _ _ _ => absurd rfl z⟩
    rw [nI_add (36 * (j + 1) + 6 * d + 2) a]
    exact smr_M_create _ _ _ (kk h1 hL1 q64)
  refine smr_S_makeObject (isT_j hj6) _ _ (mm_SI_mono sp_leastFree (fun r g1' q => ?_))
  obtain ⟨rfl, lf⟩ := q
  refine ⟨fun z => mk16 C1 ha hb (fun g3 e64 hI3 k3 => ⟨fun q hq => by rw [e64 q hq, r64 q hq], hI3, fun h hL => ref h _ hL (fun h1 hL1 q64 => smr_M_make _ (mm_SI_mono (sp_M_free C1.1.1.2.2.2.2.1 hL1.2.2.2.2.2.1) (fun r' h' q => ?_)))⟩), fun z => mm_SI_mono (sp_drop C1.1.2) (fun r2 g2 q => ?_)⟩
  · obtain ⟨rfl, lf'⟩ := q
    rcases LF_eq lf lf' with ⟨e, -, -⟩ | ⟨o, b1, b2, b3, -, rfl⟩
    · exact absurd e z
    · exact br_t (nI_le (a := o) (b := 16) b2 (by omega)) (k3 h' (fun r h' => r = g3 (28 + 6 * j) 7 ∧ (∀ q, q < 64 → h' q = h q) ∧ Rs j g3 h') hL1 (fun r h3 x1 x2 x3 => ⟨x1, fun q hq => by rw [x2 q hq, q64 q hq], x3⟩))
  · obtain ⟨-, hD⟩ := q
    have C2 := kD C1 hD
    refine mk16 C2 ha hb (fun g3 e64 hI3 k3 => ⟨fun q hq => by rw [e64 q hq, hD.1 q (by omega) (by omega) (by omega) (by omega), r64 q hq], hI3, fun h hL => ref h _ hL (fun h1 hL1 q64 => smr_M_make _ (mm_SI_mono (sp_M_free C1.1.1.2.2.2.2.1 hL1.2.2.2.2.2.1) (fun r' h' q => ?_)))⟩)
    obtain ⟨rfl, lf'⟩ := q
    rcases LF_eq lf lf' with ⟨-, rfl, -⟩ | ⟨o, b1, b2, b3, e, -⟩
    · refine br_f (by decide) (mm_SI_mono (sp_sweep (SwI_Rs C1.1 hL1)) (fun r3 h2 q => ?_))
      obtain ⟨-, hW⟩ := q
      exact k3 h2 (fun r h' => r = g3 (28 + 6 * j) 7 ∧ (∀ q, q < 64 → h' q = h q) ∧ Rs j g3 h') (kDL C1 hL1 hD hW) (fun r h3 x1 x2 x3 => ⟨x1, fun q hq => by rw [x2 q hq, hW.1 q (by omega) (by omega), q64 q hq], x3⟩)
    · rw [z] at e
      exact absurd e.symm (m1_ne (by omega))
end OR
