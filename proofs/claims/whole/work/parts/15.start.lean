theorem mm_S_mono {Γ : mm_Ctx} {M : mm_MD} {av : List Value} {h : mm_Mem} {P P' : Option Value → mm_Mem → Prop} (hM : mm_S Γ M av h P) (hp : ∀ r h', P r h' → P' r h') : mm_S Γ M av h P' := by
  intro p e ha hc hk s m args' below hf happ hP hK
  obtain ⟨n, o, h1, h2, h3, ⟨⟨r, h', e1, e2, e3, e4⟩, hF⟩, hL⟩ := hM p e ha hc hk s m args' below hf happ hP hK
  exact ⟨n, o, h1, h2, h3, ⟨⟨r, h', e1, hp r h' e2, e3, e4⟩, hF⟩, hL⟩
theorem mm_SI_mono {Γ : mm_Ctx} {M : mm_MD} {av : List Value} {h : mm_Mem} {P P' : Int32 → mm_Mem → Prop} (hM : mm_SI Γ M av h P) (hp : ∀ r h', P r h' → P' r h') : mm_SI Γ M av h P' :=
  mm_S_mono hM (fun r h' q => by
    obtain ⟨x, e, q⟩ := q
    exact ⟨x, e, hp x h' q⟩)
theorem mm_SV_mono {Γ : mm_Ctx} {M : mm_MD} {av : List Value} {h : mm_Mem} {P P' : mm_Mem → Prop} (hM : mm_SV Γ M av h P) (hp : ∀ h', P h' → P' h') : mm_SV Γ M av h P' :=
  mm_S_mono hM (fun r h' q => ⟨q.1, hp h' q.2⟩)
/-- the class's method, then the reference's, with the same arguments: one answer, and the relation holds behind both -/
abbrev mm_pair (Γ : mm_Ctx) (Rel : mm_Mem → Prop) (M1 M2 : mm_MD) (av : List Value) : Prop := ∀ h, Rel h → mm_SI Γ M1 (.ref (mm_B Γ + 0) :: av) h (fun r1 h1 => mm_SI Γ M2 (.ref (mm_B Γ + 64) :: av) h1 (fun r2 h2 => r1 = r2 ∧ Rel h2))
def mm_pairs (Γ : mm_Ctx) (Rel : mm_Mem → Prop) : Prop := (∀ x0 x1 x2 x3 x4 x5 : Int32, mm_pair Γ Rel smM_S_word smM_M_word [.int x0, .int x1, .int x2, .int x3, .int x4, .int x5]) ∧ (∀ x0 x1 : Int32, mm_pair Γ Rel smM_S_cut smM_M_cut [.int x0, .int x1]) ∧ (∀ x0 x1 : Int32, mm_pair Γ Rel smM_S_fields smM_M_fields [.int x0, .int x1]) ∧ (∀ x0 x1 x2 x3 x4 : Int32, mm_pair Γ Rel smM_S_rule smM_M_rule [.int x0, .int x1, .int x2, .int x3, .int x4]) ∧ (mm_pair Γ Rel smM_S_reset smM_M_reset []) ∧ (mm_pair Γ Rel smM_S_stage smM_M_stage []) ∧ (mm_pair Γ Rel smM_S_withdraw smM_M_withdraw []) ∧ (∀ x0 : Int32, mm_pair Γ Rel smM_S_changed smM_M_changed [.int x0]) ∧ (∀ x0 : Int32, mm_pair Γ Rel smM_S_blocker smM_M_blocker [.int x0]) ∧ (∀ x0 : Int32, mm_pair Γ Rel smM_S_attempt smM_M_attempt [.int x0]) ∧ (mm_pair Γ Rel smM_S_version smM_M_version []) ∧ (∀ x0 x1 : Int32, mm_pair Γ Rel smM_S_spawn smM_M_spawn [.int x0, .int x1]) ∧ (∀ x0 x1 : Int32, mm_pair Γ Rel smM_S_step smM_M_step [.int x0, .int x1]) ∧ (∀ x0 x1 : Int32, mm_pair Γ Rel smM_S_send smM_M_send [.int x0, .int x1]) ∧ (∀ x0 : Int32, mm_pair Γ Rel smM_S_state smM_M_state [.int x0]) ∧ (∀ x0 : Int32, mm_pair Γ Rel smM_S_result smM_M_result [.int x0]) ∧ (∀ x0 : Int32, mm_pair Γ Rel smM_S_frames smM_M_frames [.int x0]) ∧ (∀ x0 x1 x2 : Int32, mm_pair Γ Rel smM_S_frame smM_M_frame [.int x0, .int x1, .int x2]) ∧ (∀ x0 : Int32, mm_pair Γ Rel smM_S_global smM_M_global [.int x0]) ∧ (∀ x0 : Int32, mm_pair Γ Rel smM_S_typeOf smM_M_typeOf [.int x0]) ∧ (∀ x0 x1 : Int32, mm_pair Γ Rel smM_S_field smM_M_field [.int x0, .int x1]) ∧ (mm_pair Γ Rel smM_S_heap smM_M_heap []) ∧ (mm_pair Γ Rel smM_S_collect smM_M_collect [])
set_option maxHeartbeats 8000000 in
set_option maxRecDepth 100000 in
theorem mm_law_loop {Γ : mm_Ctx} {Rel : mm_Mem → Prop} (hp : mm_pairs Γ Rel) {b Len : Nat} {xs : Nat → Int32} (hLen : Len ≤ 3584) : ∀ (d k : Nat) (h : mm_Mem), Len < 7 * k + 7 * d + 7 → 7 * k ≤ 3584 → Rel h → mm_WG Γ smM_L (mm_El Γ b Len xs) 18 [some (.ref b), some (.ref (mm_B Γ + 0)), some (.ref (mm_B Γ + 64)), some (.int (nI (7 * k)))] [] h := by
  intro d
  induction d with
  | zero =>
    intro k h hd hk hR
    refine smr_L_18 _ ⟨fun _ => trivial, fun hc => absurd ?_ hc⟩
    show nI Len - nI 7 < nI (7 * k)
    rw [Int32.lt_iff_toInt_lt, pk_sub_toInt (by omega) (by omega), nI_toInt (by omega)]
    omega
  | succ d ih =>
    intro k h hd hk hR
    refine smr_L_18 _ ⟨fun _ => trivial, fun hc => ?_⟩
    have h7 : 7 * k + 7 ≤ Len := by
      refine Nat.not_lt.mp (fun hlt => hc ?_)
      show nI Len - nI 7 < nI (7 * k)
      rw [Int32.lt_iff_toInt_lt, pk_sub_toInt (by omega) (by omega), nI_toInt (by omega)]
      omega
    have hv : ∀ j : Nat, j ≤ 6 → vp_in (nI (7 * k) + nI j) Len := by
      intro j hj
      rw [nI_add]
      exact vp_in_nI (by omega) (by omega)
    have ih' : ∀ h2 : mm_Mem, Rel h2 → mm_WG Γ smM_L (mm_El Γ b Len xs) 18 [some (.ref b), some (.ref (mm_B Γ + 0)), some (.ref (mm_B Γ + 64)), some (.int (nI (7 * k) + (7 : Int32)))] [] h2 := by
      intro h2 hR2
      have e : nI (7 * k) + (7 : Int32) = nI (7 * (k + 1)) := by
        show nI (7 * k) + nI 7 = _
        rw [nI_add]
        rfl
      rw [e]
      exact ih (k + 1) h2 (by omega) (by omega) hR2
    refine ⟨vp_in_nI (by omega) (by omega), fun z hz => ⟨fun _ => ⟨hv 1 (by omega), hv 2 (by omega), hv 3 (by omega), hv 4 (by omega), hv 5 (by omega), hv 6 (by omega), mm_SI_mono (hp.1 _ _ _ _ _ _ h hR) (fun r1 h1 hq => ⟨hv 1 (by omega), hv 2 (by omega), hv 3 (by omega), hv 4 (by omega), hv 5 (by omega), hv 6 (by omega), mm_SI_mono hq (fun r2 h2 hz => ⟨fun _ => ih' h2 hz.2, fun ne => ne hz.1⟩)⟩)⟩,
      fun _ => ⟨hv 1 (by omega), hv 2 (by omega), mm_SI_mono (hp.2.1 _ _ h hR) (fun r1 h1 hq => ⟨hv 1 (by omega), hv 2 (by omega), mm_SI_mono hq (fun r2 h2 hz => ⟨fun _ => ih' h2 hz.2, fun ne => ne hz.1⟩)⟩)⟩,
      fun _ => ⟨hv 1 (by omega), hv 2 (by omega), mm_SI_mono (hp.2.2.1 _ _ h hR) (fun r1 h1 hq => ⟨hv 1 (by omega), hv 2 (by omega), mm_SI_mono hq (fun r2 h2 hz => ⟨fun _ => ih' h2 hz.2, fun ne => ne hz.1⟩)⟩)⟩,
      fun _ => ⟨hv 1 (by omega), hv 2 (by omega), hv 3 (by omega), hv 4 (by omega), hv 5 (by omega), mm_SI_mono (hp.2.2.2.1 _ _ _ _ _ h hR) (fun r1 h1 hq => ⟨hv 1 (by omega), hv 2 (by omega), hv 3 (by omega), hv 4 (by omega), hv 5 (by omega), mm_SI_mono hq (fun r2 h2 hz => ⟨fun _ => ih' h2 hz.2, fun ne => ne hz.1⟩)⟩)⟩,
      fun _ => mm_SI_mono (hp.2.2.2.2.1 h hR) (fun r1 h1 hq => mm_SI_mono hq (fun r2 h2 hz => ⟨fun _ => ih' h2 hz.2, fun ne => ne hz.1⟩)),
      fun _ => mm_SI_mono (hp.2.2.2.2.2.1 h hR) (fun r1 h1 hq => mm_SI_mono hq (fun r2 h2 hz => ⟨fun _ => ih' h2 hz.2, fun ne => ne hz.1⟩)),
      fun _ => mm_SI_mono (hp.2.2.2.2.2.2.1 h hR) (fun r1 h1 hq => mm_SI_mono hq (fun r2 h2 hz => ⟨fun _ => ih' h2 hz.2, fun ne => ne hz.1⟩)),
      fun _ => ⟨hv 1 (by omega), mm_SI_mono (hp.2.2.2.2.2.2.2.1 _ h hR) (fun r1 h1 hq => ⟨hv 1 (by omega), mm_SI_mono hq (fun r2 h2 hz => ⟨fun _ => ih' h2 hz.2, fun ne => ne hz.1⟩)⟩)⟩,
      fun _ => ⟨hv 1 (by omega), mm_SI_mono (hp.2.2.2.2.2.2.2.2.1 _ h hR) (fun r1 h1 hq => ⟨hv 1 (by omega), mm_SI_mono hq (fun r2 h2 hz => ⟨fun _ => ih' h2 hz.2, fun ne => ne hz.1⟩)⟩)⟩,
      fun _ => ⟨hv 1 (by omega), mm_SI_mono (hp.2.2.2.2.2.2.2.2.2.1 _ h hR) (fun r1 h1 hq => ⟨hv 1 (by omega), mm_SI_mono hq (fun r2 h2 hz => ⟨fun _ => ih' h2 hz.2, fun ne => ne hz.1⟩)⟩)⟩,
      fun _ => mm_SI_mono (hp.2.2.2.2.2.2.2.2.2.2.1 h hR) (fun r1 h1 hq => mm_SI_mono hq (fun r2 h2 hz => ⟨fun _ => ih' h2 hz.2, fun ne => ne hz.1⟩)),
      fun _ => ⟨hv 1 (by omega), hv 2 (by omega), mm_SI_mono (hp.2.2.2.2.2.2.2.2.2.2.2.1 _ _ h hR) (fun r1 h1 hq => ⟨hv 1 (by omega), hv 2 (by omega), mm_SI_mono hq (fun r2 h2 hz => ⟨fun _ => ih' h2 hz.2, fun ne => ne hz.1⟩)⟩)⟩,
      fun _ => ⟨hv 1 (by omega), hv 2 (by omega), mm_SI_mono (hp.2.2.2.2.2.2.2.2.2.2.2.2.1 _ _ h hR) (fun r1 h1 hq => ⟨hv 1 (by omega), hv 2 (by omega), mm_SI_mono hq (fun r2 h2 hz => ⟨fun _ => ih' h2 hz.2, fun ne => ne hz.1⟩)⟩)⟩,
      fun _ => ⟨hv 1 (by omega), hv 2 (by omega), mm_SI_mono (hp.2.2.2.2.2.2.2.2.2.2.2.2.2.1 _ _ h hR) (fun r1 h1 hq => ⟨hv 1 (by omega), hv 2 (by omega), mm_SI_mono hq (fun r2 h2 hz => ⟨fun _ => ih' h2 hz.2, fun ne => ne hz.1⟩)⟩)⟩,
      fun _ => ⟨hv 1 (by omega), mm_SI_mono (hp.2.2.2.2.2.2.2.2.2.2.2.2.2.2.1 _ h hR) (fun r1 h1 hq => ⟨hv 1 (by omega), mm_SI_mono hq (fun r2 h2 hz => ⟨fun _ => ih' h2 hz.2, fun ne => ne hz.1⟩)⟩)⟩,
      fun _ => ⟨hv 1 (by omega), mm_SI_mono (hp.2.2.2.2.2.2.2.2.2.2.2.2.2.2.2.1 _ h hR) (fun r1 h1 hq => ⟨hv 1 (by omega), mm_SI_mono hq (fun r2 h2 hz => ⟨fun _ => ih' h2 hz.2, fun ne => ne hz.1⟩)⟩)⟩,
      fun _ => ⟨hv 1 (by omega), mm_SI_mono (hp.2.2.2.2.2.2.2.2.2.2.2.2.2.2.2.2.1 _ h hR) (fun r1 h1 hq => ⟨hv 1 (by omega), mm_SI_mono hq (fun r2 h2 hz => ⟨fun _ => ih' h2 hz.2, fun ne => ne hz.1⟩)⟩)⟩,
      fun _ => ⟨hv 1 (by omega), hv 2 (by omega), hv 3 (by omega), mm_SI_mono (hp.2.2.2.2.2.2.2.2.2.2.2.2.2.2.2.2.2.1 _ _ _ h hR) (fun r1 h1 hq => ⟨hv 1 (by omega), hv 2 (by omega), hv 3 (by omega), mm_SI_mono hq (fun r2 h2 hz => ⟨fun _ => ih' h2 hz.2, fun ne => ne hz.1⟩)⟩)⟩,
      fun _ => ⟨hv 1 (by omega), mm_SI_mono (hp.2.2.2.2.2.2.2.2.2.2.2.2.2.2.2.2.2.2.1 _ h hR) (fun r1 h1 hq => ⟨hv 1 (by omega), mm_SI_mono hq (fun r2 h2 hz => ⟨fun _ => ih' h2 hz.2, fun ne => ne hz.1⟩)⟩)⟩,
      fun _ => ⟨hv 1 (by omega), mm_SI_mono (hp.2.2.2.2.2.2.2.2.2.2.2.2.2.2.2.2.2.2.2.1 _ h hR) (fun r1 h1 hq => ⟨hv 1 (by omega), mm_SI_mono hq (fun r2 h2 hz => ⟨fun _ => ih' h2 hz.2, fun ne => ne hz.1⟩)⟩)⟩,
      fun _ => ⟨hv 1 (by omega), hv 2 (by omega), mm_SI_mono (hp.2.2.2.2.2.2.2.2.2.2.2.2.2.2.2.2.2.2.2.2.1 _ _ h hR) (fun r1 h1 hq => ⟨hv 1 (by omega), hv 2 (by omega), mm_SI_mono hq (fun r2 h2 hz => ⟨fun _ => ih' h2 hz.2, fun ne => ne hz.1⟩)⟩)⟩,
      fun _ => mm_SI_mono (hp.2.2.2.2.2.2.2.2.2.2.2.2.2.2.2.2.2.2.2.2.2.1 h hR) (fun r1 h1 hq => mm_SI_mono hq (fun r2 h2 hz => ⟨fun _ => ih' h2 hz.2, fun ne => ne hz.1⟩)),
      fun _ => mm_SI_mono (hp.2.2.2.2.2.2.2.2.2.2.2.2.2.2.2.2.2.2.2.2.2.2 h hR) (fun r1 h1 hq => mm_SI_mono hq (fun r2 h2 hz => ⟨fun _ => ih' h2 hz.2, fun ne => ne hz.1⟩)), ih' h hR⟩⟩
def sg_h0 : mm_Mem := fun k => if k = 21 ∨ k = 71 then sg_m1 17 else fun _ => 0
theorem sgn_S {Γ : mm_Ctx} : (sg_S Γ).length = 64 := by simp [sg_S, sgn_A, sgn_T]
abbrev mg_El (Γ : mm_Ctx) (b Len : Nat) (xs : Nat → Int32) : mg_E := (room_1, (fun args s => args = #[Value.ref b] ∧ va_X b Len xs s s.heap ∧ b < s.heap.size ∧ s.heap.size = mm_B Γ), (fun below args s => lw_Z below args s))
def sg_f (Γ : mm_Ctx) : Nat → Option Nat := (va_up (va_up (va_up (va_up (va_up (va_up (fun _ => none) (0 : Int32).toNatClampNeg (some (mm_B Γ + 28))) (1 : Int32).toNatClampNeg (some (mm_B Γ + 34))) (2 : Int32).toNatClampNeg (some (mm_B Γ + 40))) (3 : Int32).toNatClampNeg (some (mm_B Γ + 46))) (4 : Int32).toNatClampNeg (some (mm_B Γ + 52))) (5 : Int32).toNatClampNeg (some (mm_B Γ + 58)))
theorem sg_f_at {Γ : mm_Ctx} : ∀ i, i < 6 → sg_f Γ i = some (mm_B Γ + (28 + 6 * i)) := by
  intro i hi
  rcases sm_six hi with rfl | rfl | rfl | rfl | rfl | rfl <;> rfl
set_option maxHeartbeats 8000000 in
set_option maxRecDepth 100000 in
theorem sg_list {Γ : mm_Ctx} : sg_S Γ ++ sg_M Γ 64 17 = (List.range 81).map (fun k => if k = 27 then (.inl (mm_cT Γ, 6, .inr (.inr (.inr (.inr (sg_f Γ))))) : va_E) else mm_cell Γ k (sg_h0 k)) := by
  simp only [sg_S, sg_A, sg_V, sg_R, sg_H, sg_T, sg_M, List.cons_append, List.nil_append, List.append_assoc]
  rfl
theorem sg_world {Γ : mm_Ctx} {H : Heap} (hP : mg_PW Γ (sg_S Γ ++ sg_M Γ 64 17) H) : mm_PW Γ sg_h0 H := by
  intro k q hk
  obtain ⟨hk1, rfl⟩ := mm_ws_of hk
  have h1 : (mg_ws (mm_B Γ) (sg_S Γ ++ sg_M Γ 64 17))[k]? = some (mm_B Γ + k, if k = 27 then (.inl (mm_cT Γ, 6, .inr (.inr (.inr (.inr (sg_f Γ))))) : va_E) else mm_cell Γ k (sg_h0 k)) := by
    rw [mg_at, sg_list]
    simp [hk1]
  have h2 := hP.1 k _ h1
  by_cases h27 : k = 27
  · subst h27
    rw [if_pos rfl] at h2
    show H[_]? = some (vp_cell _ _)
    have h3 : H[mm_B Γ + 27]? = some (vp_cell (mm_cT Γ) (6, .inr (.inr (.inr (.inr (sg_f Γ)))))) := h2
    rw [h3, vp_cell_q, vp_cell_q]
    congr 1
  · rw [if_neg h27] at h2
    exact h2
theorem sg_switch {Γ : mm_Ctx} {b Len : Nat} {xs : Nat → Int32} {L : List (Option Value)} (k : mm_WG Γ smM_L (mm_El Γ b Len xs) 18 L [] sg_h0) : mg_W Γ smM_L (mg_El Γ b Len xs) 81 2340 18 L [] (sg_S Γ ++ sg_M Γ 64 17) := by
  intro p e s m args below meth c F X H locs ls hP hS hL
  have h4 := X.2.2.2.2
  refine va_forget (fun q hq => by have := hS.1.2.2 q hq; rw [h4]; exact this) ?_
  exact k p e s m args below meth c F X.2 H [] ls (sg_world hP) ⟨hS.1.1, fun q h1 h2 => hS.1.2.1 q h1 (fun h3 => by have h5 : mm_B Γ ≤ q := h3; omega), fun _ h => by cases h⟩ hL
theorem smw_53 : (Cond.methodLink "SwitchedModulesLaw" 9 smy_S_init) ∈ mm_all := mm_mem 53 (by decide +kernel) (by decide +kernel)
theorem smw_518 : (Cond.methodLink "SwitchedModulesLaw" 12 smy_M_init) ∈ mm_all := mm_mem 518 (by decide +kernel) (by decide +kernel)
theorem smw_51 : (Cond.classLink "SwitchedModulesLaw" 7 "SwitchedModules") ∈ mm_all := mm_mem 51 (by decide +kernel) (by decide +kernel)
theorem smw_52 : (Cond.instantiable "SwitchedModules" 9) ∈ mm_all := mm_mem 52 (by decide +kernel) (by decide +kernel)
theorem smw_516 : (Cond.classLink "SwitchedModulesLaw" 10 "SwitchedModulesModel") ∈ mm_all := mm_mem 516 (by decide +kernel) (by decide +kernel)
theorem smw_517 : (Cond.instantiable "SwitchedModulesModel" 19) ∈ mm_all := mm_mem 517 (by decide +kernel) (by decide +kernel)
set_option maxHeartbeats 8000000 in
set_option maxRecDepth 100000 in
theorem sg_prefix {Γ : mm_Ctx} {b Len : Nat} {xs : Nat → Int32} (k : mm_WG Γ smM_L (mm_El Γ b Len xs) 18 [some (.ref b), some (.ref (mm_B Γ + 0)), some (.ref (mm_B Γ + 64)), some (.int 0)] [] sg_h0) : mg_W Γ smM_L (mg_El Γ b Len xs) 0 0 0 [some (.ref b), none, none, none] [] [] := by
  refine mg_new (n := 3) (ci := 4) (kc' := 1) (ks' := 9) (r := 0) (fs := [.null, .null, .null, .null, .null, .null, .int 0, .int 0, .int 0]) (cs' := [.inr (4, [.null, .null, .null, .null, .null, .null, .int 0, .int 0, .int 0])]) smT_S rfl smU_S smO_S smw_51 smw_52 smw_43 (by intro j hj; revert j; decide) rfl rfl (Nat.le_of_ble_eq_true rfl) (Nat.le_of_ble_eq_true rfl) smd_L_law_0 rfl rfl rfl ?_
  refine mg_dup (n := 4) smd_L_law_3 rfl rfl ?_
  refine mg_callI (n := 7) (q := 0) (cs' := sg_S Γ) (mc := 63) (ms := 1169) (kc' := 64) (ks' := 1178) smi_S smw_53 ⟨Nat.le_of_ble_eq_true rfl, Nat.le_of_ble_eq_true rfl, Nat.le_of_ble_eq_true rfl, Nat.le_of_ble_eq_true rfl⟩ sgc_S smd_L_law_4 rfl (Nat.le_of_ble_eq_true rfl) rfl rfl ?_
  refine mg_astore_n (n := 8) (i := 1) (L' := [some (.ref b), some (.ref (mm_B Γ + 0)), none, none]) smd_L_law_7 rfl rfl (by decide) rfl ?_
  refine mg_new (n := 11) (ci := 5) (kc' := 65) (ks' := 1197) (r := 64) (fs := [.null, .null, .null, .null, .null, .int 0, .int 0, .null, .null, .null, .null, .null, .int 0, .null, .null, .null, .null, .null, .null]) (cs' := sg_S Γ ++ [.inr (5, [.null, .null, .null, .null, .null, .int 0, .int 0, .null, .null, .null, .null, .null, .int 0, .null, .null, .null, .null, .null, .null])]) smT_M rfl smU_M smO_M smw_516 smw_517 smw_48 (by intro j hj; revert j; decide) rfl rfl (Nat.le_of_ble_eq_true rfl) (Nat.le_of_ble_eq_true rfl) smd_L_law_8 rfl sgn_S rfl ?_
  refine mg_dup (n := 12) smd_L_law_11 rfl rfl ?_
  refine mg_callI (n := 15) (q := 64) (cs' := sg_S Γ ++ sg_M Γ 64 17) (mc := 16) (ms := 1143) (kc' := 81) (ks' := 2340) smi_M smw_518 ⟨Nat.le_of_ble_eq_true rfl, Nat.le_of_ble_eq_true rfl, Nat.le_of_ble_eq_true rfl, Nat.le_of_ble_eq_true rfl⟩ (sgc_M (sg_S Γ) 64 sgn_S) smd_L_law_12 rfl (Nat.le_of_ble_eq_true rfl) rfl rfl ?_
  refine mg_astore_n (n := 16) (i := 2) (L' := [some (.ref b), some (.ref (mm_B Γ + 0)), some (.ref (mm_B Γ + 64)), none]) smd_L_law_15 rfl rfl (by decide) rfl ?_
  refine mg_iconst (n := 17) (v := 0) smd_L_law_16 rfl (by decide) ?_
  refine mg_istore_n (n := 18) (i := 3) (L' := [some (.ref b), some (.ref (mm_B Γ + 0)), some (.ref (mm_B Γ + 64)), some (.int 0)]) smd_L_law_17 rfl rfl (by decide) rfl ?_
  exact sg_switch k
set_option maxHeartbeats 8000000 in
set_option maxRecDepth 100000 in
theorem whole_start_of {Rel : mm_Mem → Prop} (h0 : Rel sg_h0) (hp : ∀ Γ, mm_pairs Γ Rel) {p : Program} {e : Env} {s : State} {m : MethodId} {below : List Frame} {meth : Method} {c : Code} (l : Launch) {b L : Nat} {xs : Nat → Int32} (hL : L ≤ 3584) (C0 : lw_At p s m meth c b L xs) : W p l e room_1 s m #[Value.ref b] below meth c s.heap [] 0 0 (lw_Z below #[Value.ref b] s) (entryFrame m ([Value.ref b] : List Value).toArray 4) := by
  obtain ⟨hx, hb, hr, hml, hown, hts, hX, hbl, hlk, hgv⟩ := C0
  have hall : ∀ w ∈ mm_all, w.before #[Value.ref b] s = true := fun w hw => hts w (List.mem_filter.mp hw).1
  obtain ⟨c0, i0, k0⟩ := u_known (C := smR_H) (n := 6) hall smU_H (hall _ smw_116)
  obtain ⟨c1, i1, k1⟩ := u_known (C := smR_R) (n := 4) hall smU_R (hall _ smw_94)
  obtain ⟨c2, i2, k2⟩ := u_known (C := smR_T) (n := 9) hall smU_T (hall _ smw_144)
  obtain ⟨c3, i3, k3⟩ := u_known (C := smR_V) (n := 6) hall smU_V (hall _ smw_60)
  obtain ⟨c4, i4, k4⟩ := u_known (C := smR_S) (n := 9) hall smU_S (hall _ smw_52)
  obtain ⟨c5, i5, k5⟩ := u_known (C := smR_M) (n := 19) hall smU_M (hall _ smw_517)
  obtain ⟨cI, kI, pI, a1, a2, a3⟩ := Cond.arrayClass_spec (hall _ smw_92)
  obtain ⟨cZ, kZ, pZ, b1, b2, b3⟩ := Cond.arrayClass_spec (hall _ smw_114)
  have hao : (Cond.arrayOver (.object "SwitchedModules$Task")).before #[Value.ref b] s = true := hts _ (List.mem_of_getElem? (i := 143) (by decide +kernel))
  obtain ⟨pT, cT, kT, d1, d2, d3, d4, d5⟩ := Cond.arrayOver_spec hao
  obtain ⟨Γ, hΓ⟩ : ∃ Γ : mm_Ctx, Γ = (l, s.heap.size, ((fun i => match i with | 0 => c0 | 1 => c1 | 2 => c2 | 3 => c3 | 4 => c4 | _ => c5), (fun i => match i with | 0 => i0 | 1 => i1 | 2 => i2 | 3 => i3 | 4 => i4 | _ => i5)), cI, cZ, cT) := ⟨_, rfl⟩
  have hKW : mm_KW Γ s := by
    subst hΓ
    refine ⟨⟨fun j q hq => ?_, fun j q hq => ?_⟩, va_Nw.of rfl (hts _ (List.mem_of_getElem? (i := 281) (by decide +kernel))), va_Nw.of rfl (hts _ (List.mem_of_getElem? (i := 61) (by decide +kernel))), va_Nw.of rfl (hts _ (List.mem_of_getElem? (i := 95) (by decide +kernel))), va_Nw.of rfl (hts _ (List.mem_of_getElem? (i := 145) (by decide +kernel))), va_AO.of hao⟩
    · match j, hq with
      | 0, hq => cases hq; exact k0
      | 1, hq => cases hq; exact k1
      | 2, hq => cases hq; exact k2
      | 3, hq => cases hq; exact k3
      | 4, hq => cases hq; exact k4
      | 5, hq => cases hq; exact k5
      | j + 6, hq => simp at hq
    · match j, hq with
      | 0, hq => cases hq; exact ⟨fun n z => ⟨fun k h => (by cases h), kI, a2, pI, a3⟩, a1⟩
      | 1, hq => cases hq; exact ⟨fun n z => ⟨fun k h => (by cases h), kZ, b2, pZ, b3⟩, b1⟩
      | 2, hq => cases hq; exact ⟨fun n z => ⟨fun k h => (by cases h), kT, d3, pT, d4⟩, kT, pT, d3, d4, d1, d5⟩
      | j + 3, hq => simp at hq
  have hB : mm_B Γ = s.heap.size := by rw [hΓ]
  have hl : Γ.1 = l := by rw [hΓ]
  rw [lg_entry_eq]
  have hrun := sg_prefix (Γ := Γ) (b := b) (Len := L) (xs := xs) (mm_law_loop (hp Γ) hL L 0 sg_h0 (by omega) (by omega) h0)
  have hfin := hrun p e s m #[Value.ref b] below meth c ⟨hx, hb, hr, hml, hown, hall, hlk, hKW⟩ ⟨fun h => absurd h (by decide), rfl, hX, hbl, hB.symm⟩ s.heap [] (lg_sl [Value.ref b] ++ List.replicate (4 - (lg_sl [Value.ref b]).length) Slot.unset).toArray ⟨fun k q hq => by simp [mg_ws] at hq, by rw [hB]; simp⟩ ⟨va_S.rf, by rw [hB]; exact Nat.le_refl _⟩ ?_
  · rw [hl] at hfin
    exact hfin
  · have h0' := lv_entry [Value.ref b] (n := 4) (Nat.le_of_ble_eq_true rfl)
    refine ⟨⟨h0'.1, h0'.2.1, fun q hq => h0'.2.2 q ?_⟩, fun i v hi => ?_⟩
    · have : q ∈ [((0 : Nat), Value.ref b)] := hq
      exact this
    · match i, hi with
      | 0, hi => cases hi; rfl
      | 1, hi => cases hi
      | 2, hi => cases hi
      | 3, hi => cases hi
      | i + 4, hi => simp at hi
