set_option maxHeartbeats 4000000 in
set_option maxRecDepth 100000 in
theorem smr_R_write {Γ : mm_Ctx} {post : mm_Mem → Prop} {h : mm_Mem} (x1 : Int32) (x2 : Int32) (x3 : Int32) (x4 : Int32) (x5 : Int32) (hT : ∀ y6_5 : Int32, y6_5 = (x1 * (4 : Int32)) + x2 → ((vp_in y6_5 12) ∧ (∀ h14 : mm_Mem, h14 = mm_wr h 17 y6_5.toNatClampNeg x3 → ((vp_in y6_5 12) ∧ (∀ h23 : mm_Mem, h23 = mm_wr h14 18 y6_5.toNatClampNeg x4 → ((vp_in y6_5 12) ∧ (∀ h32 : mm_Mem, h32 = mm_wr h23 19 y6_5.toNatClampNeg x5 → (post h32)))))))) : mm_SV Γ smM_R_write [.ref (mm_B Γ + 15), .int x1, .int x2, .int x3, .int x4, .int x5] h post := by
  refine mm_spec0 (M := smM_R_write) 1 (by decide +kernel) rfl (Nat.le_of_ble_eq_true rfl) ?_
  show mm_W Γ smM_R_write (mm_pV post) 0 [some (.ref (mm_B Γ + 15)), some (.int x1), some (.int x2), some (.int x3), some (.int x4), some (.int x5), none] [] h
  refine mm_iload_n (n := 1) (i := 1) smd_R_write_0 rfl rfl rfl ?_
  refine mm_iconst (n := 2) (v := 4) smd_R_write_1 rfl (by decide) ?_
  refine mm_imul (n := 3) smd_R_write_2 rfl ?_
  refine mm_iload_n (n := 4) (i := 2) smd_R_write_3 rfl rfl rfl ?_
  refine mm_iadd (n := 5) smd_R_write_4 rfl ?_
  refine mm_top (fun y6_5 e_y6_5 => ?_)
  replace hT := hT y6_5 e_y6_5
  refine mm_istore (n := 7) (i := 6) (L' := [some (.ref (mm_B Γ + 15)), some (.int x1), some (.int x2), some (.int x3), some (.int x4), some (.int x5), some (.int y6_5)]) smd_R_write_5 rfl (by decide) rfl ?_
  refine mm_aload_n (n := 8) (i := 0) smd_R_write_7 rfl rfl rfl ?_
  refine mm_get (n := 11) (v := .ref (mm_B Γ + 17)) smk_R_15 smb_R rfl smd_R_write_8 rfl ?_
  refine mm_iload (n := 13) (i := 6) smd_R_write_11 rfl rfl ?_
  refine mm_iload_n (n := 14) (i := 3) smd_R_write_13 rfl rfl rfl ?_
  refine mm_iast (n := 15) sma_17 hT.1 smd_R_write_14 rfl ?_
  replace hT := hT.2
  refine mm_nam (fun h14 e_h14 => ?_)
  replace hT := hT h14 e_h14
  refine mm_aload_n (n := 16) (i := 0) smd_R_write_15 rfl rfl rfl ?_
  refine mm_get (n := 19) (v := .ref (mm_B Γ + 18)) smk_R_19 smb_R rfl smd_R_write_16 rfl ?_
  refine mm_iload (n := 21) (i := 6) smd_R_write_19 rfl rfl ?_
  refine mm_iload (n := 23) (i := 4) smd_R_write_21 rfl rfl ?_
  refine mm_iast (n := 24) sma_18 hT.1 smd_R_write_23 rfl ?_
  replace hT := hT.2
  refine mm_nam (fun h23 e_h23 => ?_)
  replace hT := hT h23 e_h23
  refine mm_aload_n (n := 25) (i := 0) smd_R_write_24 rfl rfl rfl ?_
  refine mm_get (n := 28) (v := .ref (mm_B Γ + 19)) smk_R_22 smb_R rfl smd_R_write_25 rfl ?_
  refine mm_iload (n := 30) (i := 6) smd_R_write_28 rfl rfl ?_
  refine mm_iload (n := 32) (i := 5) smd_R_write_30 rfl rfl ?_
  refine mm_iast (n := 33) sma_19 hT.1 smd_R_write_32 rfl ?_
  replace hT := hT.2
  refine mm_nam (fun h32 e_h32 => ?_)
  replace hT := hT h32 e_h32
  exact mm_vret rfl smd_R_write_33 ⟨rfl, hT⟩
set_option maxHeartbeats 4000000 in
set_option maxRecDepth 100000 in
theorem smr_R_forgetType {Γ : mm_Ctx} {post : mm_Mem → Prop} {h : mm_Mem} (x1 : Int32) (hT : mm_W Γ smM_R_forgetType (mm_pV post) 2 [some (.ref (mm_B Γ + 15)), some (.int x1), some (.int (0 : Int32))] [] h) : mm_SV Γ smM_R_forgetType [.ref (mm_B Γ + 15), .int x1] h post := by
  refine mm_spec0 (M := smM_R_forgetType) 1 (by decide +kernel) rfl (Nat.le_of_ble_eq_true rfl) ?_
  show mm_W Γ smM_R_forgetType (mm_pV post) 0 [some (.ref (mm_B Γ + 15)), some (.int x1), none] [] h
  refine mm_iconst (n := 1) (v := 0) smd_R_forgetType_0 rfl (by decide) ?_
  refine mm_istore_n (n := 2) (i := 2) (L' := [some (.ref (mm_B Γ + 15)), some (.int x1), some (.int (0 : Int32))]) smd_R_forgetType_1 rfl rfl (by decide) rfl ?_
  exact mm_weak (by refine ⟨rfl, rfl, rfl, trivial⟩) hT
set_option maxHeartbeats 4000000 in
set_option maxRecDepth 100000 in
theorem smr_R_forgetType_2 {Γ : mm_Ctx} {post : mm_Mem → Prop} {h : mm_Mem} (x1 : Int32) (x2 : Int32) (hT : ((4 : Int32) ≤ x2 → (post h)) ∧ (¬ (4 : Int32) ≤ x2 → (mm_SV Γ smM_R_write [.ref (mm_B Γ + 15), .int x1, .int x2, .int (0 : Int32), .int (0 : Int32), .int (0 : Int32)] h (fun h13 => mm_W Γ smM_R_forgetType (mm_pV post) 2 [some (.ref (mm_B Γ + 15)), some (.int x1), some (.int (x2 + (1 : Int32)))] [] h13)))) : mm_W Γ smM_R_forgetType (mm_pV post) 2 [some (.ref (mm_B Γ + 15)), some (.int x1), some (.int x2)] [] h := by
  refine mm_iload_n (n := 3) (i := 2) smd_R_forgetType_2 rfl rfl rfl ?_
  refine mm_iconst (n := 4) (v := 4) smd_R_forgetType_3 rfl (by decide) ?_
  refine mm_icmp_ge (n := 7) (tgt := 22) smd_R_forgetType_4 rfl rfl (fun hc => ?_) (fun hc => ?_)
  · replace hT := hT.1 hc
    exact mm_vret rfl smd_R_forgetType_22 ⟨rfl, hT⟩
  · replace hT := hT.2 hc
    refine mm_aload_n (n := 8) (i := 0) smd_R_forgetType_7 rfl rfl rfl ?_
    refine mm_iload_n (n := 9) (i := 1) smd_R_forgetType_8 rfl rfl rfl ?_
    refine mm_iload_n (n := 10) (i := 2) smd_R_forgetType_9 rfl rfl rfl ?_
    refine mm_iconst (n := 11) (v := 0) smd_R_forgetType_10 rfl (by decide) ?_
    refine mm_iconst (n := 12) (v := 0) smd_R_forgetType_11 rfl (by decide) ?_
    refine mm_iconst (n := 13) (v := 0) smd_R_forgetType_12 rfl (by decide) ?_
    refine mm_callVV (n := 16) (As := [.int x1, .int x2, .int (0 : Int32), .int (0 : Int32), .int (0 : Int32)]) (rest := []) smv_R_write smw_241 smb_R (mm_hRm (by decide) (by decide)) smd_R_forgetType_13 rfl rfl (Nat.le_of_ble_eq_true rfl) hT (fun h13 hT => ?_)
    refine mm_iinc (n := 19) (i := 2) (d := 1) (L' := [some (.ref (mm_B Γ + 15)), some (.int x1), some (.int (x2 + (1 : Int32)))]) smd_R_forgetType_16 rfl rfl (by decide) (by decide) rfl ?_
    refine mm_goto (n := 2) smd_R_forgetType_19 rfl ?_
    exact mm_weak (by refine ⟨rfl, rfl, rfl, trivial⟩) hT
set_option maxHeartbeats 4000000 in
set_option maxRecDepth 100000 in
theorem smr_R_forgetAll {Γ : mm_Ctx} {post : mm_Mem → Prop} {h : mm_Mem}  (hT : mm_W Γ smM_R_forgetAll (mm_pV post) 2 [some (.ref (mm_B Γ + 15)), some (.int (0 : Int32))] [] h) : mm_SV Γ smM_R_forgetAll [.ref (mm_B Γ + 15)] h post := by
  refine mm_spec0 (M := smM_R_forgetAll) 1 (by decide +kernel) rfl (Nat.le_of_ble_eq_true rfl) ?_
  show mm_W Γ smM_R_forgetAll (mm_pV post) 0 [some (.ref (mm_B Γ + 15)), none] [] h
  refine mm_iconst (n := 1) (v := 0) smd_R_forgetAll_0 rfl (by decide) ?_
  refine mm_istore_n (n := 2) (i := 1) (L' := [some (.ref (mm_B Γ + 15)), some (.int (0 : Int32))]) smd_R_forgetAll_1 rfl rfl (by decide) rfl ?_
  exact mm_weak (by refine ⟨rfl, rfl, trivial⟩) hT
set_option maxHeartbeats 4000000 in
set_option maxRecDepth 100000 in
theorem smr_R_forgetAll_2 {Γ : mm_Ctx} {post : mm_Mem → Prop} {h : mm_Mem} (x1 : Int32) (hT : ((3 : Int32) ≤ x1 → (post h)) ∧ (¬ (3 : Int32) ≤ x1 → (mm_SV Γ smM_R_forgetType [.ref (mm_B Γ + 15), .int x1] h (fun h9 => (vp_in x1 3) ∧ (∀ h18 : mm_Mem, h18 = mm_wr h9 16 x1.toNatClampNeg (0 : Int32) → (mm_W Γ smM_R_forgetAll (mm_pV post) 2 [some (.ref (mm_B Γ + 15)), some (.int (x1 + (1 : Int32)))] [] h18)))))) : mm_W Γ smM_R_forgetAll (mm_pV post) 2 [some (.ref (mm_B Γ + 15)), some (.int x1)] [] h := by
  refine mm_iload_n (n := 3) (i := 1) smd_R_forgetAll_2 rfl rfl rfl ?_
  refine mm_iconst (n := 4) (v := 3) smd_R_forgetAll_3 rfl (by decide) ?_
  refine mm_icmp_ge (n := 7) (tgt := 25) smd_R_forgetAll_4 rfl rfl (fun hc => ?_) (fun hc => ?_)
  · replace hT := hT.1 hc
    exact mm_vret rfl smd_R_forgetAll_25 ⟨rfl, hT⟩
  · replace hT := hT.2 hc
    refine mm_aload_n (n := 8) (i := 0) smd_R_forgetAll_7 rfl rfl rfl ?_
    refine mm_iload_n (n := 9) (i := 1) smd_R_forgetAll_8 rfl rfl rfl ?_
    refine mm_callVV (n := 12) (As := [.int x1]) (rest := []) smv_R_forgetType smw_265 smb_R (mm_hRm (by decide) (by decide)) smd_R_forgetAll_9 rfl rfl (Nat.le_of_ble_eq_true rfl) hT (fun h9 hT => ?_)
    refine mm_aload_n (n := 13) (i := 0) smd_R_forgetAll_12 rfl rfl rfl ?_
    refine mm_get (n := 16) (v := .ref (mm_B Γ + 16)) smk_R_9 smb_R rfl smd_R_forgetAll_13 rfl ?_
    refine mm_iload_n (n := 17) (i := 1) smd_R_forgetAll_16 rfl rfl rfl ?_
    refine mm_iconst (n := 18) (v := 0) smd_R_forgetAll_17 rfl (by decide) ?_
    refine mm_zast (n := 19) sma_16 hT.1 (Or.inl rfl) smd_R_forgetAll_18 rfl ?_
    replace hT := hT.2
    refine mm_nam (fun h18 e_h18 => ?_)
    replace hT := hT h18 e_h18
    refine mm_iinc (n := 22) (i := 1) (d := 1) (L' := [some (.ref (mm_B Γ + 15)), some (.int (x1 + (1 : Int32)))]) smd_R_forgetAll_19 rfl rfl (by decide) (by decide) rfl ?_
    refine mm_goto (n := 2) smd_R_forgetAll_22 rfl ?_
    exact mm_weak (by refine ⟨rfl, rfl, trivial⟩) hT
set_option maxHeartbeats 4000000 in
set_option maxRecDepth 100000 in
theorem smr_R_firstWithoutSource {Γ : mm_Ctx} {post : Int32 → mm_Mem → Prop} {h : mm_Mem} {u1 : Nat} (h_u1 : u1 = 1 ∨ u1 = 8) {u2 : Nat} (h_u2 : u2 = 1 ∨ u2 = 8) (hT : mm_W Γ smM_R_firstWithoutSource (mm_pI post) 2 [some (.ref (mm_B Γ + 15)), some (.ref (mm_B Γ + u1)), some (.ref (mm_B Γ + u2)), some (.int (0 : Int32)), none, none] [] h) : mm_SI Γ smM_R_firstWithoutSource [.ref (mm_B Γ + 15), .ref (mm_B Γ + u1), .ref (mm_B Γ + u2)] h post := by
  refine mm_spec0 (M := smM_R_firstWithoutSource) 3 (by decide +kernel) rfl (Nat.le_of_ble_eq_true rfl) ?_
  show mm_W Γ smM_R_firstWithoutSource (mm_pI post) 0 [some (.ref (mm_B Γ + 15)), some (.ref (mm_B Γ + u1)), some (.ref (mm_B Γ + u2)), none, none, none] [] h
  refine mm_iconst (n := 1) (v := 0) smd_R_firstWithoutSource_0 rfl (by decide) ?_
  refine mm_istore_n (n := 2) (i := 3) (L' := [some (.ref (mm_B Γ + 15)), some (.ref (mm_B Γ + u1)), some (.ref (mm_B Γ + u2)), some (.int (0 : Int32)), none, none]) smd_R_firstWithoutSource_1 rfl rfl (by decide) rfl ?_
  exact mm_weak (by refine ⟨rfl, rfl, rfl, rfl, trivial⟩) hT
set_option maxHeartbeats 4000000 in
set_option maxRecDepth 100000 in
theorem smr_R_firstWithoutSource_2 {Γ : mm_Ctx} {post : Int32 → mm_Mem → Prop} {h : mm_Mem} {u1 : Nat} (h_u1 : u1 = 1 ∨ u1 = 8) {u2 : Nat} (h_u2 : u2 = 1 ∨ u2 = 8) (x3 : Int32) (hT : ((3 : Int32) ≤ x3 → (post (-1 : Int32) h)) ∧ (¬ (3 : Int32) ≤ x3 → (mm_W Γ smM_R_firstWithoutSource (mm_pI post) 10 [some (.ref (mm_B Γ + 15)), some (.ref (mm_B Γ + u1)), some (.ref (mm_B Γ + u2)), some (.int x3), some (.int (0 : Int32)), none] [] h))) : mm_W Γ smM_R_firstWithoutSource (mm_pI post) 2 [some (.ref (mm_B Γ + 15)), some (.ref (mm_B Γ + u1)), some (.ref (mm_B Γ + u2)), some (.int x3), none, none] [] h := by
  refine mm_iload_n (n := 3) (i := 3) smd_R_firstWithoutSource_2 rfl rfl rfl ?_
  refine mm_iconst (n := 4) (v := 3) smd_R_firstWithoutSource_3 rfl (by decide) ?_
  refine mm_icmp_ge (n := 7) (tgt := 70) smd_R_firstWithoutSource_4 rfl rfl (fun hc => ?_) (fun hc => ?_)
  · replace hT := hT.1 hc
    refine mm_iconst (n := 71) (v := -1) smd_R_firstWithoutSource_70 rfl (by decide) ?_
    exact mm_iret rfl smd_R_firstWithoutSource_71 ⟨_, rfl, hT⟩
  · replace hT := hT.2 hc
    refine mm_iconst (n := 8) (v := 0) smd_R_firstWithoutSource_7 rfl (by decide) ?_
    refine mm_istore (n := 10) (i := 4) (L' := [some (.ref (mm_B Γ + 15)), some (.ref (mm_B Γ + u1)), some (.ref (mm_B Γ + u2)), some (.int x3), some (.int (0 : Int32)), none]) smd_R_firstWithoutSource_8 rfl (by decide) rfl ?_
    exact mm_weak (by refine ⟨rfl, rfl, rfl, rfl, rfl, trivial⟩) hT
set_option maxHeartbeats 4000000 in
set_option maxRecDepth 100000 in
theorem smr_R_firstWithoutSource_10 {Γ : mm_Ctx} {post : Int32 → mm_Mem → Prop} {h : mm_Mem} {u1 : Nat} (h_u1 : u1 = 1 ∨ u1 = 8) {u2 : Nat} (h_u2 : u2 = 1 ∨ u2 = 8) (x3 : Int32) (x4 : Int32) (hT : (vp_in x3 3) ∧ (((h (u2 + 6) x3.toNatClampNeg) ≤ x4 → (mm_W Γ smM_R_firstWithoutSource (mm_pI post) 2 [some (.ref (mm_B Γ + 15)), some (.ref (mm_B Γ + u1)), some (.ref (mm_B Γ + u2)), some (.int (x3 + (1 : Int32))), none, none] [] h)) ∧ (¬ (h (u2 + 6) x3.toNatClampNeg) ≤ x4 → (∀ y5_27 : Int32, y5_27 = (x3 * (4 : Int32)) + x4 → ((vp_in y5_27 12) ∧ (((h 17 y5_27.toNatClampNeg) = 0 → (mm_W Γ smM_R_firstWithoutSource (mm_pI post) 10 [some (.ref (mm_B Γ + 15)), some (.ref (mm_B Γ + u1)), some (.ref (mm_B Γ + u2)), some (.int x3), some (.int (x4 + (1 : Int32))), none] [] h)) ∧ (¬ (h 17 y5_27.toNatClampNeg) = 0 → ((vp_in y5_27 12) ∧ ((vp_in x3 3) ∧ (((h 18 y5_27.toNatClampNeg) < (h (u1 + 6) x3.toNatClampNeg) → (mm_W Γ smM_R_firstWithoutSource (mm_pI post) 10 [some (.ref (mm_B Γ + 15)), some (.ref (mm_B Γ + u1)), some (.ref (mm_B Γ + u2)), some (.int x3), some (.int (x4 + (1 : Int32))), none] [] h)) ∧ (¬ (h 18 y5_27.toNatClampNeg) < (h (u1 + 6) x3.toNatClampNeg) → (post y5_27 h)))))))))))) : mm_W Γ smM_R_firstWithoutSource (mm_pI post) 10 [some (.ref (mm_B Γ + 15)), some (.ref (mm_B Γ + u1)), some (.ref (mm_B Γ + u2)), some (.int x3), some (.int x4), none] [] h := by
  refine mm_iload (n := 12) (i := 4) smd_R_firstWithoutSource_10 rfl rfl ?_
  refine mm_aload_n (n := 13) (i := 2) smd_R_firstWithoutSource_12 rfl rfl rfl ?_
  refine mm_get (n := 16) (v := .ref (mm_B Γ + (u2 + 6))) smk_R_33 (smb_V h_u2) rfl smd_R_firstWithoutSource_13 rfl ?_
  refine mm_iload_n (n := 17) (i := 3) smd_R_firstWithoutSource_16 rfl rfl rfl ?_
  refine mm_iald (n := 18) (sma_V6 h_u2) hT.1 smd_R_firstWithoutSource_17 rfl ?_
  replace hT := hT.2
  refine mm_icmp_ge (n := 21) (tgt := 64) smd_R_firstWithoutSource_18 rfl rfl (fun hc => ?_) (fun hc => ?_)
  · replace hT := hT.1 hc
    refine mm_iinc (n := 67) (i := 3) (d := 1) (L' := [some (.ref (mm_B Γ + 15)), some (.ref (mm_B Γ + u1)), some (.ref (mm_B Γ + u2)), some (.int (x3 + (1 : Int32))), some (.int x4), none]) smd_R_firstWithoutSource_64 rfl rfl (by decide) (by decide) rfl ?_
    refine mm_goto (n := 2) smd_R_firstWithoutSource_67 rfl ?_
    exact mm_weak (by refine ⟨rfl, rfl, rfl, rfl, trivial⟩) hT
  · replace hT := hT.2 hc
    refine mm_iload_n (n := 22) (i := 3) smd_R_firstWithoutSource_21 rfl rfl rfl ?_
    refine mm_iconst (n := 23) (v := 4) smd_R_firstWithoutSource_22 rfl (by decide) ?_
    refine mm_imul (n := 24) smd_R_firstWithoutSource_23 rfl ?_
    refine mm_iload (n := 26) (i := 4) smd_R_firstWithoutSource_24 rfl rfl ?_
    refine mm_iadd (n := 27) smd_R_firstWithoutSource_26 rfl ?_
    refine mm_top (fun y5_27 e_y5_27 => ?_)
    replace hT := hT y5_27 e_y5_27
    refine mm_istore (n := 29) (i := 5) (L' := [some (.ref (mm_B Γ + 15)), some (.ref (mm_B Γ + u1)), some (.ref (mm_B Γ + u2)), some (.int x3), some (.int x4), some (.int y5_27)]) smd_R_firstWithoutSource_27 rfl (by decide) rfl ?_
    refine mm_aload_n (n := 30) (i := 0) smd_R_firstWithoutSource_29 rfl rfl rfl ?_
    refine mm_get (n := 33) (v := .ref (mm_B Γ + 17)) smk_R_15 smb_R rfl smd_R_firstWithoutSource_30 rfl ?_
    refine mm_iload (n := 35) (i := 5) smd_R_firstWithoutSource_33 rfl rfl ?_
    refine mm_iald (n := 36) sma_17 hT.1 smd_R_firstWithoutSource_35 rfl ?_
    replace hT := hT.2
    refine mm_if_eq (n := 39) (tgt := 58) smd_R_firstWithoutSource_36 rfl rfl (fun hc => ?_) (fun hc => ?_)
    · replace hT := hT.1 hc
      refine mm_iinc (n := 61) (i := 4) (d := 1) (L' := [some (.ref (mm_B Γ + 15)), some (.ref (mm_B Γ + u1)), some (.ref (mm_B Γ + u2)), some (.int x3), some (.int (x4 + (1 : Int32))), some (.int y5_27)]) smd_R_firstWithoutSource_58 rfl rfl (by decide) (by decide) rfl ?_
      refine mm_goto (n := 10) smd_R_firstWithoutSource_61 rfl ?_
      exact mm_weak (by refine ⟨rfl, rfl, rfl, rfl, rfl, trivial⟩) hT
    · replace hT := hT.2 hc
      refine mm_aload_n (n := 40) (i := 0) smd_R_firstWithoutSource_39 rfl rfl rfl ?_
      refine mm_get (n := 43) (v := .ref (mm_B Γ + 18)) smk_R_19 smb_R rfl smd_R_firstWithoutSource_40 rfl ?_
      refine mm_iload (n := 45) (i := 5) smd_R_firstWithoutSource_43 rfl rfl ?_
      refine mm_iald (n := 46) sma_18 hT.1 smd_R_firstWithoutSource_45 rfl ?_
      replace hT := hT.2
      refine mm_aload_n (n := 47) (i := 1) smd_R_firstWithoutSource_46 rfl rfl rfl ?_
      refine mm_get (n := 50) (v := .ref (mm_B Γ + (u1 + 6))) smk_R_33 (smb_V h_u1) rfl smd_R_firstWithoutSource_47 rfl ?_
      refine mm_iload_n (n := 51) (i := 3) smd_R_firstWithoutSource_50 rfl rfl rfl ?_
      refine mm_iald (n := 52) (sma_V6 h_u1) hT.1 smd_R_firstWithoutSource_51 rfl ?_
      replace hT := hT.2
      refine mm_icmp_lt (n := 55) (tgt := 58) smd_R_firstWithoutSource_52 rfl rfl (fun hc => ?_) (fun hc => ?_)
      · replace hT := hT.1 hc
        refine mm_iinc (n := 61) (i := 4) (d := 1) (L' := [some (.ref (mm_B Γ + 15)), some (.ref (mm_B Γ + u1)), some (.ref (mm_B Γ + u2)), some (.int x3), some (.int (x4 + (1 : Int32))), some (.int y5_27)]) smd_R_firstWithoutSource_58 rfl rfl (by decide) (by decide) rfl ?_
        refine mm_goto (n := 10) smd_R_firstWithoutSource_61 rfl ?_
        exact mm_weak (by refine ⟨rfl, rfl, rfl, rfl, rfl, trivial⟩) hT
      · replace hT := hT.2 hc
        refine mm_iload (n := 57) (i := 5) smd_R_firstWithoutSource_55 rfl rfl ?_
        exact mm_iret rfl smd_R_firstWithoutSource_57 ⟨_, rfl, hT⟩
set_option maxHeartbeats 4000000 in
set_option maxRecDepth 100000 in
theorem smr_R_isFaulty {Γ : mm_Ctx} {post : Int32 → mm_Mem → Prop} {h : mm_Mem} (x1 : Int32) (x3 : Int32) (hT : (vp_in x1 12) ∧ ((¬ (h 17 x1.toNatClampNeg) = (2 : Int32) → (post (0 : Int32) h)) ∧ ((h 17 x1.toNatClampNeg) = (2 : Int32) → ((vp_in x1 12) ∧ ((vp_in (x3 + (h 18 x1.toNatClampNeg)) 68) ∧ ((¬ (h 22 (x3 + (h 18 x1.toNatClampNeg)).toNatClampNeg) = 0 → (post (0 : Int32) h)) ∧ ((h 22 (x3 + (h 18 x1.toNatClampNeg)).toNatClampNeg) = 0 → (post (1 : Int32) h)))))))) : mm_SI Γ smM_R_isFaulty [.ref (mm_B Γ + 15), .int x1, .ref (mm_B Γ + 22), .int x3] h post := by
  refine mm_spec0 (M := smM_R_isFaulty) 0 (by decide +kernel) rfl (Nat.le_of_ble_eq_true rfl) ?_
  show mm_W Γ smM_R_isFaulty (mm_pI post) 0 [some (.ref (mm_B Γ + 15)), some (.int x1), some (.ref (mm_B Γ + 22)), some (.int x3)] [] h
  refine mm_aload_n (n := 1) (i := 0) smd_R_isFaulty_0 rfl rfl rfl ?_
  refine mm_get (n := 4) (v := .ref (mm_B Γ + 17)) smk_R_15 smb_R rfl smd_R_isFaulty_1 rfl ?_
  refine mm_iload_n (n := 5) (i := 1) smd_R_isFaulty_4 rfl rfl rfl ?_
  refine mm_iald (n := 6) sma_17 hT.1 smd_R_isFaulty_5 rfl ?_
  replace hT := hT.2
  refine mm_iconst (n := 7) (v := 2) smd_R_isFaulty_6 rfl (by decide) ?_
  refine mm_icmp_ne (n := 10) (tgt := 27) smd_R_isFaulty_7 rfl rfl (fun hc => ?_) (fun hc => ?_)
  · replace hT := hT.1 hc
    refine mm_iconst (n := 28) (v := 0) smd_R_isFaulty_27 rfl (by decide) ?_
    exact mm_zret rfl (Or.inl rfl) smd_R_isFaulty_28 ⟨_, rfl, hT⟩
  · replace hT := hT.2 hc
    refine mm_aload_n (n := 11) (i := 2) smd_R_isFaulty_10 rfl rfl rfl ?_
    refine mm_iload_n (n := 12) (i := 3) smd_R_isFaulty_11 rfl rfl rfl ?_
    refine mm_aload_n (n := 13) (i := 0) smd_R_isFaulty_12 rfl rfl rfl ?_
    refine mm_get (n := 16) (v := .ref (mm_B Γ + 18)) smk_R_19 smb_R rfl smd_R_isFaulty_13 rfl ?_
    refine mm_iload_n (n := 17) (i := 1) smd_R_isFaulty_16 rfl rfl rfl ?_
    refine mm_iald (n := 18) sma_18 hT.1 smd_R_isFaulty_17 rfl ?_
    replace hT := hT.2
    refine mm_iadd (n := 19) smd_R_isFaulty_18 rfl ?_
    refine mm_iald (n := 20) sma_22 hT.1 smd_R_isFaulty_19 rfl ?_
    replace hT := hT.2
    refine mm_if_ne (n := 23) (tgt := 27) smd_R_isFaulty_20 rfl rfl (fun hc => ?_) (fun hc => ?_)
    · replace hT := hT.1 hc
      refine mm_iconst (n := 28) (v := 0) smd_R_isFaulty_27 rfl (by decide) ?_
      exact mm_zret rfl (Or.inl rfl) smd_R_isFaulty_28 ⟨_, rfl, hT⟩
    · replace hT := hT.2 hc
      refine mm_iconst (n := 24) (v := 1) smd_R_isFaulty_23 rfl (by decide) ?_
      refine mm_goto (n := 28) smd_R_isFaulty_24 rfl ?_
      exact mm_zret rfl (Or.inr rfl) smd_R_isFaulty_28 ⟨_, rfl, hT⟩
set_option maxHeartbeats 4000000 in
set_option maxRecDepth 100000 in
theorem smr_R_valueOf {Γ : mm_Ctx} {post : Int32 → mm_Mem → Prop} {h : mm_Mem} (x1 : Int32) (x3 : Int32) (hT : (vp_in x1 12) ∧ ((vp_in (x3 + (h 18 x1.toNatClampNeg)) 68) ∧ (∀ y4_10 : Int32, y4_10 = h 22 (x3 + (h 18 x1.toNatClampNeg)).toNatClampNeg → ((vp_in x1 12) ∧ (((h 17 x1.toNatClampNeg) = 1 → ((vp_in x1 12) ∧ (post (y4_10 + (h 19 x1.toNatClampNeg)) h))) ∧ ((h 17 x1.toNatClampNeg) = 2 → ((¬ y4_10 = 0 → ((vp_in x1 12) ∧ ((¬ y4_10 = 0) ∧ (post ((h 19 x1.toNatClampNeg) / y4_10) h)))) ∧ (y4_10 = 0 → (post (0 : Int32) h)))) ∧ (¬ (h 17 x1.toNatClampNeg) = 1 → ¬ (h 17 x1.toNatClampNeg) = 2 → ((vp_in x1 12) ∧ (post (h 19 x1.toNatClampNeg) h)))))))) : mm_SI Γ smM_R_valueOf [.ref (mm_B Γ + 15), .int x1, .ref (mm_B Γ + 22), .int x3] h post := by
  refine mm_spec0 (M := smM_R_valueOf) 1 (by decide +kernel) rfl (Nat.le_of_ble_eq_true rfl) ?_
  show mm_W Γ smM_R_valueOf (mm_pI post) 0 [some (.ref (mm_B Γ + 15)), some (.int x1), some (.ref (mm_B Γ + 22)), some (.int x3), none] [] h
  refine mm_aload_n (n := 1) (i := 2) smd_R_valueOf_0 rfl rfl rfl ?_
  refine mm_iload_n (n := 2) (i := 3) smd_R_valueOf_1 rfl rfl rfl ?_
  refine mm_aload_n (n := 3) (i := 0) smd_R_valueOf_2 rfl rfl rfl ?_
  refine mm_get (n := 6) (v := .ref (mm_B Γ + 18)) smk_R_19 smb_R rfl smd_R_valueOf_3 rfl ?_
  refine mm_iload_n (n := 7) (i := 1) smd_R_valueOf_6 rfl rfl rfl ?_
  refine mm_iald (n := 8) sma_18 hT.1 smd_R_valueOf_7 rfl ?_
  replace hT := hT.2
  refine mm_iadd (n := 9) smd_R_valueOf_8 rfl ?_
  refine mm_iald (n := 10) sma_22 hT.1 smd_R_valueOf_9 rfl ?_
  replace hT := hT.2
  refine mm_top (fun y4_10 e_y4_10 => ?_)
  replace hT := hT y4_10 e_y4_10
  refine mm_istore (n := 12) (i := 4) (L' := [some (.ref (mm_B Γ + 15)), some (.int x1), some (.ref (mm_B Γ + 22)), some (.int x3), some (.int y4_10)]) smd_R_valueOf_10 rfl (by decide) rfl ?_
  refine mm_aload_n (n := 13) (i := 0) smd_R_valueOf_12 rfl rfl rfl ?_
  refine mm_get (n := 16) (v := .ref (mm_B Γ + 17)) smk_R_15 smb_R rfl smd_R_valueOf_13 rfl ?_
  refine mm_iload_n (n := 17) (i := 1) smd_R_valueOf_16 rfl rfl rfl ?_
  refine mm_iald (n := 18) sma_17 hT.1 smd_R_valueOf_17 rfl ?_
  replace hT := hT.2
  by_cases e : (h 17 x1.toNatClampNeg) = 1
  · refine mm_lsw (tgt := 44) (off := 26) smd_R_valueOf_18 (by decide) (by rw [e]; decide) rfl ?_
    replace hT := hT.1 (e)
    refine mm_iload (n := 46) (i := 4) smd_R_valueOf_44 rfl rfl ?_
    refine mm_aload_n (n := 47) (i := 0) smd_R_valueOf_46 rfl rfl rfl ?_
    refine mm_get (n := 50) (v := .ref (mm_B Γ + 19)) smk_R_22 smb_R rfl smd_R_valueOf_47 rfl ?_
    refine mm_iload_n (n := 51) (i := 1) smd_R_valueOf_50 rfl rfl rfl ?_
    refine mm_iald (n := 52) sma_19 hT.1 smd_R_valueOf_51 rfl ?_
    replace hT := hT.2
    refine mm_iadd (n := 53) smd_R_valueOf_52 rfl ?_
    exact mm_iret rfl smd_R_valueOf_53 ⟨_, rfl, hT⟩
  have n1 := e
  clear e
  by_cases e : (h 17 x1.toNatClampNeg) = 2
  · refine mm_lsw (tgt := 54) (off := 36) smd_R_valueOf_18 (by decide) (by rw [e]; decide) rfl ?_
    replace hT := hT.2.1 (e)
    refine mm_iload (n := 56) (i := 4) smd_R_valueOf_54 rfl rfl ?_
    refine mm_if_ne (n := 59) (tgt := 63) smd_R_valueOf_56 rfl rfl (fun hc => ?_) (fun hc => ?_)
    · replace hT := hT.1 hc
      refine mm_aload_n (n := 64) (i := 0) smd_R_valueOf_63 rfl rfl rfl ?_
      refine mm_get (n := 67) (v := .ref (mm_B Γ + 19)) smk_R_22 smb_R rfl smd_R_valueOf_64 rfl ?_
      refine mm_iload_n (n := 68) (i := 1) smd_R_valueOf_67 rfl rfl rfl ?_
      refine mm_iald (n := 69) sma_19 hT.1 smd_R_valueOf_68 rfl ?_
      replace hT := hT.2
      refine mm_iload (n := 71) (i := 4) smd_R_valueOf_69 rfl rfl ?_
      refine mm_idiv (n := 72) smd_R_valueOf_71 rfl hT.1 ?_
      replace hT := hT.2
      exact mm_iret rfl smd_R_valueOf_72 ⟨_, rfl, hT⟩
    · replace hT := hT.2 hc
      refine mm_iconst (n := 60) (v := 0) smd_R_valueOf_59 rfl (by decide) ?_
      refine mm_goto (n := 72) smd_R_valueOf_60 rfl ?_
      exact mm_iret rfl smd_R_valueOf_72 ⟨_, rfl, hT⟩
  have n2 := e
  clear e
  refine mm_lsw (tgt := 73) (off := 55) smd_R_valueOf_18 (by decide) (by rw [show Op.lookupswitch.offset _ _ _ = _ from lv_osw n1 (show (1 : Int32).toInt = 1 by decide)]; rw [show Op.lookupswitch.offset _ _ _ = _ from lv_osw n2 (show (2 : Int32).toInt = 2 by decide)]; rfl) rfl ?_
  replace hT := hT.2.2 n1 n2
  refine mm_aload_n (n := 74) (i := 0) smd_R_valueOf_73 rfl rfl rfl ?_
  refine mm_get (n := 77) (v := .ref (mm_B Γ + 19)) smk_R_22 smb_R rfl smd_R_valueOf_74 rfl ?_
  refine mm_iload_n (n := 78) (i := 1) smd_R_valueOf_77 rfl rfl rfl ?_
  refine mm_iald (n := 79) sma_19 hT.1 smd_R_valueOf_78 rfl ?_
  replace hT := hT.2
  exact mm_iret rfl smd_R_valueOf_79 ⟨_, rfl, hT⟩
set_option maxHeartbeats 4000000 in
set_option maxRecDepth 100000 in
theorem smr_T_local {Γ : mm_Ctx} {post : Int32 → mm_Mem → Prop} {h : mm_Mem} {t : Nat} (h_t : mm_isT t) (x1 : Int32) (hT : (vp_in ((((h t 5) - (1 : Int32)) * (3 : Int32)) + x1) 18) ∧ (post (h (t + 3) ((((h t 5) - (1 : Int32)) * (3 : Int32)) + x1).toNatClampNeg) h)) : mm_SI Γ smM_T_local [.ref (mm_B Γ + t), .int x1] h post := by
  refine mm_spec0 (M := smM_T_local) 0 (by decide +kernel) rfl (Nat.le_of_ble_eq_true rfl) ?_
  show mm_W Γ smM_T_local (mm_pI post) 0 [some (.ref (mm_B Γ + t)), some (.int x1)] [] h
  refine mm_aload_n (n := 1) (i := 0) smd_T_local_0 rfl rfl rfl ?_
  refine mm_get (n := 4) (v := .ref (mm_B Γ + (t + 3))) smk_T_18 (smb_T h_t) rfl smd_T_local_1 rfl ?_
  refine mm_aload_n (n := 5) (i := 0) smd_T_local_4 rfl rfl rfl ?_
  refine mm_get (n := 8) (v := .int (h t 5)) smk_T_27 (smb_T h_t) rfl smd_T_local_5 rfl ?_
  refine mm_iconst (n := 9) (v := 1) smd_T_local_8 rfl (by decide) ?_
  refine mm_isub (n := 10) smd_T_local_9 rfl ?_
  refine mm_iconst (n := 11) (v := 3) smd_T_local_10 rfl (by decide) ?_
  refine mm_imul (n := 12) smd_T_local_11 rfl ?_
  refine mm_iload_n (n := 13) (i := 1) smd_T_local_12 rfl rfl rfl ?_
  refine mm_iadd (n := 14) smd_T_local_13 rfl ?_
  refine mm_iald (n := 15) (sma_T3 h_t) hT.1 smd_T_local_14 rfl ?_
  replace hT := hT.2
  exact mm_iret rfl smd_T_local_15 ⟨_, rfl, hT⟩
set_option maxHeartbeats 4000000 in
set_option maxRecDepth 100000 in
theorem smr_T_setLocal {Γ : mm_Ctx} {post : mm_Mem → Prop} {h : mm_Mem} {t : Nat} (h_t : mm_isT t) (x1 : Int32) (x2 : Int32) (hT : (vp_in ((((h t 5) - (1 : Int32)) * (3 : Int32)) + x1) 18) ∧ (∀ h15 : mm_Mem, h15 = mm_wr h (t + 3) ((((h t 5) - (1 : Int32)) * (3 : Int32)) + x1).toNatClampNeg x2 → (post h15))) : mm_SV Γ smM_T_setLocal [.ref (mm_B Γ + t), .int x1, .int x2] h post := by
  refine mm_spec0 (M := smM_T_setLocal) 0 (by decide +kernel) rfl (Nat.le_of_ble_eq_true rfl) ?_
  show mm_W Γ smM_T_setLocal (mm_pV post) 0 [some (.ref (mm_B Γ + t)), some (.int x1), some (.int x2)] [] h
  refine mm_aload_n (n := 1) (i := 0) smd_T_setLocal_0 rfl rfl rfl ?_
  refine mm_get (n := 4) (v := .ref (mm_B Γ + (t + 3))) smk_T_18 (smb_T h_t) rfl smd_T_setLocal_1 rfl ?_
  refine mm_aload_n (n := 5) (i := 0) smd_T_setLocal_4 rfl rfl rfl ?_
  refine mm_get (n := 8) (v := .int (h t 5)) smk_T_27 (smb_T h_t) rfl smd_T_setLocal_5 rfl ?_
  refine mm_iconst (n := 9) (v := 1) smd_T_setLocal_8 rfl (by decide) ?_
  refine mm_isub (n := 10) smd_T_setLocal_9 rfl ?_
  refine mm_iconst (n := 11) (v := 3) smd_T_setLocal_10 rfl (by decide) ?_
  refine mm_imul (n := 12) smd_T_setLocal_11 rfl ?_
  refine mm_iload_n (n := 13) (i := 1) smd_T_setLocal_12 rfl rfl rfl ?_
  refine mm_iadd (n := 14) smd_T_setLocal_13 rfl ?_
  refine mm_iload_n (n := 15) (i := 2) smd_T_setLocal_14 rfl rfl rfl ?_
  refine mm_iast (n := 16) (sma_T3 h_t) hT.1 smd_T_setLocal_15 rfl ?_
  replace hT := hT.2
  refine mm_nam (fun h15 e_h15 => ?_)
  replace hT := hT h15 e_h15
  exact mm_vret rfl smd_T_setLocal_16 ⟨rfl, hT⟩
set_option maxHeartbeats 4000000 in
set_option maxRecDepth 100000 in
theorem smr_T_push {Γ : mm_Ctx} {post : mm_Mem → Prop} {h : mm_Mem} {t : Nat} (h_t : mm_isT t) (x1 : Int32) (x2 : Int32) (x3 : Int32) (hT : (vp_in (h t 5) 6) ∧ (∀ h9 : mm_Mem, h9 = mm_wr h (t + 1) (h t 5).toNatClampNeg x1 → ((vp_in (h9 t 5) 6) ∧ (∀ h19 : mm_Mem, h19 = mm_wr h9 (t + 2) (h9 t 5).toNatClampNeg (0 : Int32) → ((vp_in (h19 t 5) 6) ∧ (∀ h29 : mm_Mem, h29 = mm_wr h19 (t + 4) (h19 t 5).toNatClampNeg x3 → (∀ h37 : mm_Mem, h37 = mm_wr h29 t 5 ((h29 t 5) + (1 : Int32)) → (mm_SV Γ smM_T_setLocal [.ref (mm_B Γ + t), .int (0 : Int32), .int x2] h37 (fun h43 => mm_W Γ smM_T_push (mm_pV post) 49 [some (.ref (mm_B Γ + t)), none, none, none, some (.int (1 : Int32))] [] h43))))))))) : mm_SV Γ smM_T_push [.ref (mm_B Γ + t), .int x1, .int x2, .int x3] h post := by
  refine mm_spec0 (M := smM_T_push) 1 (by decide +kernel) rfl (Nat.le_of_ble_eq_true rfl) ?_
  show mm_W Γ smM_T_push (mm_pV post) 0 [some (.ref (mm_B Γ + t)), some (.int x1), some (.int x2), some (.int x3), none] [] h
  refine mm_aload_n (n := 1) (i := 0) smd_T_push_0 rfl rfl rfl ?_
  refine mm_get (n := 4) (v := .ref (mm_B Γ + (t + 1))) smk_T_9 (smb_T h_t) rfl smd_T_push_1 rfl ?_
  refine mm_aload_n (n := 5) (i := 0) smd_T_push_4 rfl rfl rfl ?_
  refine mm_get (n := 8) (v := .int (h t 5)) smk_T_27 (smb_T h_t) rfl smd_T_push_5 rfl ?_
  refine mm_iload_n (n := 9) (i := 1) smd_T_push_8 rfl rfl rfl ?_
  refine mm_iast (n := 10) (sma_T1 h_t) hT.1 smd_T_push_9 rfl ?_
  replace hT := hT.2
  refine mm_nam (fun h9 e_h9 => ?_)
  replace hT := hT h9 e_h9
  refine mm_aload_n (n := 11) (i := 0) smd_T_push_10 rfl rfl rfl ?_
  refine mm_get (n := 14) (v := .ref (mm_B Γ + (t + 2))) smk_T_15 (smb_T h_t) rfl smd_T_push_11 rfl ?_
  refine mm_aload_n (n := 15) (i := 0) smd_T_push_14 rfl rfl rfl ?_
  refine mm_get (n := 18) (v := .int (h9 t 5)) smk_T_27 (smb_T h_t) rfl smd_T_push_15 rfl ?_
  refine mm_iconst (n := 19) (v := 0) smd_T_push_18 rfl (by decide) ?_
  refine mm_iast (n := 20) (sma_T2 h_t) hT.1 smd_T_push_19 rfl ?_
  replace hT := hT.2
  refine mm_nam (fun h19 e_h19 => ?_)
  replace hT := hT h19 e_h19
  refine mm_aload_n (n := 21) (i := 0) smd_T_push_20 rfl rfl rfl ?_
  refine mm_get (n := 24) (v := .ref (mm_B Γ + (t + 4))) smk_T_21 (smb_T h_t) rfl smd_T_push_21 rfl ?_
  refine mm_aload_n (n := 25) (i := 0) smd_T_push_24 rfl rfl rfl ?_
  refine mm_get (n := 28) (v := .int (h19 t 5)) smk_T_27 (smb_T h_t) rfl smd_T_push_25 rfl ?_
  refine mm_iload_n (n := 29) (i := 3) smd_T_push_28 rfl rfl rfl ?_
  refine mm_iast (n := 30) (sma_T4 h_t) hT.1 smd_T_push_29 rfl ?_
  replace hT := hT.2
  refine mm_nam (fun h29 e_h29 => ?_)
  replace hT := hT h29 e_h29
  refine mm_aload_n (n := 31) (i := 0) smd_T_push_30 rfl rfl rfl ?_
  refine mm_dup (n := 32) smd_T_push_31 rfl rfl ?_
  refine mm_get (n := 35) (v := .int (h29 t 5)) smk_T_27 (smb_T h_t) rfl smd_T_push_32 rfl ?_
  refine mm_iconst (n := 36) (v := 1) smd_T_push_35 rfl (by decide) ?_
  refine mm_iadd (n := 37) smd_T_push_36 rfl ?_
  refine mm_put (n := 40) smk_T_27 smp_T_5 (smb_T h_t) rfl (Nat.le_of_ble_eq_true rfl) rfl rfl smd_T_push_37 rfl ?_
  refine mm_nam (fun h37 e_h37 => ?_)
  replace hT := hT h37 e_h37
  refine mm_aload_n (n := 41) (i := 0) smd_T_push_40 rfl rfl rfl ?_
  refine mm_iconst (n := 42) (v := 0) smd_T_push_41 rfl (by decide) ?_
  refine mm_iload_n (n := 43) (i := 2) smd_T_push_42 rfl rfl rfl ?_
  refine mm_callVV (n := 46) (As := [.int (0 : Int32), .int x2]) (rest := []) smv_T_setLocal smw_407 (smb_T h_t) (mm_hRm (by decide) (by decide)) smd_T_push_43 rfl rfl (Nat.le_of_ble_eq_true rfl) hT (fun h43 hT => ?_)
  refine mm_iconst (n := 47) (v := 1) smd_T_push_46 rfl (by decide) ?_
  refine mm_istore (n := 49) (i := 4) (L' := [some (.ref (mm_B Γ + t)), some (.int x1), some (.int x2), some (.int x3), some (.int (1 : Int32))]) smd_T_push_47 rfl (by decide) rfl ?_
  exact mm_weak (by refine ⟨rfl, rfl, trivial⟩) hT
set_option maxHeartbeats 4000000 in
set_option maxRecDepth 100000 in
theorem smr_T_push_49 {Γ : mm_Ctx} {post : mm_Mem → Prop} {h : mm_Mem} {t : Nat} (h_t : mm_isT t) (x4 : Int32) (hT : ((3 : Int32) ≤ x4 → (post h)) ∧ (¬ (3 : Int32) ≤ x4 → (mm_SV Γ smM_T_setLocal [.ref (mm_B Γ + t), .int x4, .int (0 : Int32)] h (fun h59 => mm_W Γ smM_T_push (mm_pV post) 49 [some (.ref (mm_B Γ + t)), none, none, none, some (.int (x4 + (1 : Int32)))] [] h59)))) : mm_W Γ smM_T_push (mm_pV post) 49 [some (.ref (mm_B Γ + t)), none, none, none, some (.int x4)] [] h := by
  refine mm_iload (n := 51) (i := 4) smd_T_push_49 rfl rfl ?_
  refine mm_iconst (n := 52) (v := 3) smd_T_push_51 rfl (by decide) ?_
  refine mm_icmp_ge (n := 55) (tgt := 68) smd_T_push_52 rfl rfl (fun hc => ?_) (fun hc => ?_)
  · replace hT := hT.1 hc
    exact mm_vret rfl smd_T_push_68 ⟨rfl, hT⟩
  · replace hT := hT.2 hc
    refine mm_aload_n (n := 56) (i := 0) smd_T_push_55 rfl rfl rfl ?_
    refine mm_iload (n := 58) (i := 4) smd_T_push_56 rfl rfl ?_
    refine mm_iconst (n := 59) (v := 0) smd_T_push_58 rfl (by decide) ?_
    refine mm_callVV (n := 62) (As := [.int x4, .int (0 : Int32)]) (rest := []) smv_T_setLocal smw_407 (smb_T h_t) (mm_hRm (by decide) (by decide)) smd_T_push_59 rfl rfl (Nat.le_of_ble_eq_true rfl) hT (fun h59 hT => ?_)
    refine mm_iinc (n := 65) (i := 4) (d := 1) (L' := [some (.ref (mm_B Γ + t)), none, none, none, some (.int (x4 + (1 : Int32)))]) smd_T_push_62 rfl rfl (by decide) (by decide) rfl ?_
    refine mm_goto (n := 49) smd_T_push_65 rfl ?_
    exact mm_weak (by refine ⟨rfl, rfl, trivial⟩) hT
set_option maxHeartbeats 4000000 in
set_option maxRecDepth 100000 in
theorem smr_T_giveBack {Γ : mm_Ctx} {post : mm_Mem → Prop} {h : mm_Mem} {t : Nat} (h_t : mm_isT t) (x1 : Int32) (hT : ∀ h7 : mm_Mem, h7 = mm_wr h t 5 ((h t 5) - (1 : Int32)) → ((¬ (h7 t 5) = 0 → ((vp_in (h7 t 5) 6) ∧ (mm_SV Γ smM_T_setLocal [.ref (mm_B Γ + t), .int (h7 (t + 4) (h7 t 5).toNatClampNeg), .int x1] h7 (fun h41 => post h41)))) ∧ ((h7 t 5) = 0 → (∀ h19 : mm_Mem, h19 = mm_wr h7 t 7 (2 : Int32) → (∀ h24 : mm_Mem, h24 = mm_wr h19 t 8 x1 → (post h24)))))) : mm_SV Γ smM_T_giveBack [.ref (mm_B Γ + t), .int x1] h post := by
  refine mm_spec0 (M := smM_T_giveBack) 0 (by decide +kernel) rfl (Nat.le_of_ble_eq_true rfl) ?_
  show mm_W Γ smM_T_giveBack (mm_pV post) 0 [some (.ref (mm_B Γ + t)), some (.int x1)] [] h
  refine mm_aload_n (n := 1) (i := 0) smd_T_giveBack_0 rfl rfl rfl ?_
  refine mm_dup (n := 2) smd_T_giveBack_1 rfl rfl ?_
  refine mm_get (n := 5) (v := .int (h t 5)) smk_T_27 (smb_T h_t) rfl smd_T_giveBack_2 rfl ?_
  refine mm_iconst (n := 6) (v := 1) smd_T_giveBack_5 rfl (by decide) ?_
  refine mm_isub (n := 7) smd_T_giveBack_6 rfl ?_
  refine mm_put (n := 10) smk_T_27 smp_T_5 (smb_T h_t) rfl (Nat.le_of_ble_eq_true rfl) rfl rfl smd_T_giveBack_7 rfl ?_
  refine mm_nam (fun h7 e_h7 => ?_)
  replace hT := hT h7 e_h7
  refine mm_aload_n (n := 11) (i := 0) smd_T_giveBack_10 rfl rfl rfl ?_
  refine mm_get (n := 14) (v := .int (h7 t 5)) smk_T_27 (smb_T h_t) rfl smd_T_giveBack_11 rfl ?_
  refine mm_if_ne (n := 17) (tgt := 30) smd_T_giveBack_14 rfl rfl (fun hc => ?_) (fun hc => ?_)
  · replace hT := hT.1 hc
    refine mm_aload_n (n := 31) (i := 0) smd_T_giveBack_30 rfl rfl rfl ?_
    refine mm_aload_n (n := 32) (i := 0) smd_T_giveBack_31 rfl rfl rfl ?_
    refine mm_get (n := 35) (v := .ref (mm_B Γ + (t + 4))) smk_T_21 (smb_T h_t) rfl smd_T_giveBack_32 rfl ?_
    refine mm_aload_n (n := 36) (i := 0) smd_T_giveBack_35 rfl rfl rfl ?_
    refine mm_get (n := 39) (v := .int (h7 t 5)) smk_T_27 (smb_T h_t) rfl smd_T_giveBack_36 rfl ?_
    refine mm_iald (n := 40) (sma_T4 h_t) hT.1 smd_T_giveBack_39 rfl ?_
    replace hT := hT.2
    refine mm_iload_n (n := 41) (i := 1) smd_T_giveBack_40 rfl rfl rfl ?_
    refine mm_callVV (n := 44) (As := [.int (h7 (t + 4) (h7 t 5).toNatClampNeg), .int x1]) (rest := []) smv_T_setLocal smw_407 (smb_T h_t) (mm_hRm (by decide) (by decide)) smd_T_giveBack_41 rfl rfl (Nat.le_of_ble_eq_true rfl) hT (fun h41 hT => ?_)
    exact mm_vret rfl smd_T_giveBack_44 ⟨rfl, hT⟩
  · replace hT := hT.2 hc
    refine mm_aload_n (n := 18) (i := 0) smd_T_giveBack_17 rfl rfl rfl ?_
    refine mm_iconst (n := 19) (v := 2) smd_T_giveBack_18 rfl (by decide) ?_
    refine mm_put (n := 22) smk_T_35 smp_T_7 (smb_T h_t) rfl (Nat.le_of_ble_eq_true rfl) rfl rfl smd_T_giveBack_19 rfl ?_
    refine mm_nam (fun h19 e_h19 => ?_)
    replace hT := hT h19 e_h19
    refine mm_aload_n (n := 23) (i := 0) smd_T_giveBack_22 rfl rfl rfl ?_
    refine mm_iload_n (n := 24) (i := 1) smd_T_giveBack_23 rfl rfl rfl ?_
    refine mm_put (n := 27) smk_T_38 smp_T_8 (smb_T h_t) rfl (Nat.le_of_ble_eq_true rfl) rfl rfl smd_T_giveBack_24 rfl ?_
    refine mm_nam (fun h24 e_h24 => ?_)
    replace hT := hT h24 e_h24
    refine mm_goto (n := 44) smd_T_giveBack_27 rfl ?_
    exact mm_vret rfl smd_T_giveBack_44 ⟨rfl, hT⟩
set_option maxHeartbeats 4000000 in
set_option maxRecDepth 100000 in
theorem smr_T_fail {Γ : mm_Ctx} {post : mm_Mem → Prop} {h : mm_Mem} {t : Nat} (h_t : mm_isT t) (hT : ∀ h2 : mm_Mem, h2 = mm_wr h t 5 (0 : Int32) → (∀ h7 : mm_Mem, h7 = mm_wr h2 t 7 (3 : Int32) → (post h7))) : mm_SV Γ smM_T_fail [.ref (mm_B Γ + t)] h post := by
  refine mm_spec0 (M := smM_T_fail) 0 (by decide +kernel) rfl (Nat.le_of_ble_eq_true rfl) ?_
  show mm_W Γ smM_T_fail (mm_pV post) 0 [some (.ref (mm_B Γ + t))] [] h
  refine mm_aload_n (n := 1) (i := 0) smd_T_fail_0 rfl rfl rfl ?_
  refine mm_iconst (n := 2) (v := 0) smd_T_fail_1 rfl (by decide) ?_
  refine mm_put (n := 5) smk_T_27 smp_T_5 (smb_T h_t) rfl (Nat.le_of_ble_eq_true rfl) rfl rfl smd_T_fail_2 rfl ?_
  refine mm_nam (fun h2 e_h2 => ?_)
  replace hT := hT h2 e_h2
  refine mm_aload_n (n := 6) (i := 0) smd_T_fail_5 rfl rfl rfl ?_
  refine mm_iconst (n := 7) (v := 3) smd_T_fail_6 rfl (by decide) ?_
  refine mm_put (n := 10) smk_T_35 smp_T_7 (smb_T h_t) rfl (Nat.le_of_ble_eq_true rfl) rfl rfl smd_T_fail_7 rfl ?_
  refine mm_nam (fun h7 e_h7 => ?_)
  replace hT := hT h7 e_h7
  exact mm_vret rfl smd_T_fail_10 ⟨rfl, hT⟩
set_option maxHeartbeats 4000000 in
set_option maxRecDepth 100000 in
theorem smr_T_enqueue {Γ : mm_Ctx} {post : mm_Mem → Prop} {h : mm_Mem} {t : Nat} (h_t : mm_isT t) (x1 : Int32) (hT : (vp_in (h t 6) 8) ∧ (∀ h9 : mm_Mem, h9 = mm_wr h (t + 5) (h t 6).toNatClampNeg x1 → (∀ h17 : mm_Mem, h17 = mm_wr h9 t 6 ((h9 t 6) + (1 : Int32)) → (post h17)))) : mm_SV Γ smM_T_enqueue [.ref (mm_B Γ + t), .int x1] h post := by
  refine mm_spec0 (M := smM_T_enqueue) 0 (by decide +kernel) rfl (Nat.le_of_ble_eq_true rfl) ?_
  show mm_W Γ smM_T_enqueue (mm_pV post) 0 [some (.ref (mm_B Γ + t)), some (.int x1)] [] h
  refine mm_aload_n (n := 1) (i := 0) smd_T_enqueue_0 rfl rfl rfl ?_
  refine mm_get (n := 4) (v := .ref (mm_B Γ + (t + 5))) smk_T_24 (smb_T h_t) rfl smd_T_enqueue_1 rfl ?_
  refine mm_aload_n (n := 5) (i := 0) smd_T_enqueue_4 rfl rfl rfl ?_
  refine mm_get (n := 8) (v := .int (h t 6)) smk_T_41 (smb_T h_t) rfl smd_T_enqueue_5 rfl ?_
  refine mm_iload_n (n := 9) (i := 1) smd_T_enqueue_8 rfl rfl rfl ?_
  refine mm_iast (n := 10) (sma_T5 h_t) hT.1 smd_T_enqueue_9 rfl ?_
  replace hT := hT.2
  refine mm_nam (fun h9 e_h9 => ?_)
  replace hT := hT h9 e_h9
  refine mm_aload_n (n := 11) (i := 0) smd_T_enqueue_10 rfl rfl rfl ?_
  refine mm_dup (n := 12) smd_T_enqueue_11 rfl rfl ?_
  refine mm_get (n := 15) (v := .int (h9 t 6)) smk_T_41 (smb_T h_t) rfl smd_T_enqueue_12 rfl ?_
  refine mm_iconst (n := 16) (v := 1) smd_T_enqueue_15 rfl (by decide) ?_
  refine mm_iadd (n := 17) smd_T_enqueue_16 rfl ?_
  refine mm_put (n := 20) smk_T_41 smp_T_6 (smb_T h_t) rfl (Nat.le_of_ble_eq_true rfl) rfl rfl smd_T_enqueue_17 rfl ?_
  refine mm_nam (fun h17 e_h17 => ?_)
  replace hT := hT h17 e_h17
  exact mm_vret rfl smd_T_enqueue_20 ⟨rfl, hT⟩
set_option maxHeartbeats 4000000 in
set_option maxRecDepth 100000 in
theorem smr_T_takeOldest {Γ : mm_Ctx} {post : Int32 → mm_Mem → Prop} {h : mm_Mem} {t : Nat} (h_t : mm_isT t) (hT : (vp_in (0 : Int32) 8) ∧ (∀ y1_6 : Int32, y1_6 = h (t + 5) (0 : Int32).toNatClampNeg → (mm_W Γ smM_T_takeOldest (mm_pI post) 9 [some (.ref (mm_B Γ + t)), some (.int y1_6), some (.int (1 : Int32))] [] h))) : mm_SI Γ smM_T_takeOldest [.ref (mm_B Γ + t)] h post := by
  refine mm_spec0 (M := smM_T_takeOldest) 2 (by decide +kernel) rfl (Nat.le_of_ble_eq_true rfl) ?_
  show mm_W Γ smM_T_takeOldest (mm_pI post) 0 [some (.ref (mm_B Γ + t)), none, none] [] h
  refine mm_aload_n (n := 1) (i := 0) smd_T_takeOldest_0 rfl rfl rfl ?_
  refine mm_get (n := 4) (v := .ref (mm_B Γ + (t + 5))) smk_T_24 (smb_T h_t) rfl smd_T_takeOldest_1 rfl ?_
  refine mm_iconst (n := 5) (v := 0) smd_T_takeOldest_4 rfl (by decide) ?_
  refine mm_iald (n := 6) (sma_T5 h_t) hT.1 smd_T_takeOldest_5 rfl ?_
  replace hT := hT.2
  refine mm_top (fun y1_6 e_y1_6 => ?_)
  replace hT := hT y1_6 e_y1_6
  refine mm_istore_n (n := 7) (i := 1) (L' := [some (.ref (mm_B Γ + t)), some (.int y1_6), none]) smd_T_takeOldest_6 rfl rfl (by decide) rfl ?_
  refine mm_iconst (n := 8) (v := 1) smd_T_takeOldest_7 rfl (by decide) ?_
  refine mm_istore_n (n := 9) (i := 2) (L' := [some (.ref (mm_B Γ + t)), some (.int y1_6), some (.int (1 : Int32))]) smd_T_takeOldest_8 rfl rfl (by decide) rfl ?_
  exact mm_weak (by refine ⟨rfl, rfl, rfl, trivial⟩) hT
set_option maxHeartbeats 4000000 in
set_option maxRecDepth 100000 in
theorem smr_T_takeOldest_9 {Γ : mm_Ctx} {post : Int32 → mm_Mem → Prop} {h : mm_Mem} {t : Nat} (h_t : mm_isT t) (x1 : Int32) (x2 : Int32) (hT : ((h t 6) ≤ x2 → (∀ h44 : mm_Mem, h44 = mm_wr h t 6 ((h t 6) - (1 : Int32)) → (post x1 h44))) ∧ (¬ (h t 6) ≤ x2 → ((vp_in x2 8) ∧ ((vp_in (x2 - (1 : Int32)) 8) ∧ (∀ h30 : mm_Mem, h30 = mm_wr h (t + 5) (x2 - (1 : Int32)).toNatClampNeg (h (t + 5) x2.toNatClampNeg) → (mm_W Γ smM_T_takeOldest (mm_pI post) 9 [some (.ref (mm_B Γ + t)), some (.int x1), some (.int (x2 + (1 : Int32)))] [] h30)))))) : mm_W Γ smM_T_takeOldest (mm_pI post) 9 [some (.ref (mm_B Γ + t)), some (.int x1), some (.int x2)] [] h := by
  refine mm_iload_n (n := 10) (i := 2) smd_T_takeOldest_9 rfl rfl rfl ?_
  refine mm_aload_n (n := 11) (i := 0) smd_T_takeOldest_10 rfl rfl rfl ?_
  refine mm_get (n := 14) (v := .int (h t 6)) smk_T_41 (smb_T h_t) rfl smd_T_takeOldest_11 rfl ?_
  refine mm_icmp_ge (n := 17) (tgt := 37) smd_T_takeOldest_14 rfl rfl (fun hc => ?_) (fun hc => ?_)
  · replace hT := hT.1 hc
    refine mm_aload_n (n := 38) (i := 0) smd_T_takeOldest_37 rfl rfl rfl ?_
    refine mm_dup (n := 39) smd_T_takeOldest_38 rfl rfl ?_
    refine mm_get (n := 42) (v := .int (h t 6)) smk_T_41 (smb_T h_t) rfl smd_T_takeOldest_39 rfl ?_
    refine mm_iconst (n := 43) (v := 1) smd_T_takeOldest_42 rfl (by decide) ?_
    refine mm_isub (n := 44) smd_T_takeOldest_43 rfl ?_
    refine mm_put (n := 47) smk_T_41 smp_T_6 (smb_T h_t) rfl (Nat.le_of_ble_eq_true rfl) rfl rfl smd_T_takeOldest_44 rfl ?_
    refine mm_nam (fun h44 e_h44 => ?_)
    replace hT := hT h44 e_h44
    refine mm_iload_n (n := 48) (i := 1) smd_T_takeOldest_47 rfl rfl rfl ?_
    exact mm_iret rfl smd_T_takeOldest_48 ⟨_, rfl, hT⟩
  · replace hT := hT.2 hc
    refine mm_aload_n (n := 18) (i := 0) smd_T_takeOldest_17 rfl rfl rfl ?_
    refine mm_get (n := 21) (v := .ref (mm_B Γ + (t + 5))) smk_T_24 (smb_T h_t) rfl smd_T_takeOldest_18 rfl ?_
    refine mm_iload_n (n := 22) (i := 2) smd_T_takeOldest_21 rfl rfl rfl ?_
    refine mm_iconst (n := 23) (v := 1) smd_T_takeOldest_22 rfl (by decide) ?_
    refine mm_isub (n := 24) smd_T_takeOldest_23 rfl ?_
    refine mm_aload_n (n := 25) (i := 0) smd_T_takeOldest_24 rfl rfl rfl ?_
    refine mm_get (n := 28) (v := .ref (mm_B Γ + (t + 5))) smk_T_24 (smb_T h_t) rfl smd_T_takeOldest_25 rfl ?_
    refine mm_iload_n (n := 29) (i := 2) smd_T_takeOldest_28 rfl rfl rfl ?_
    refine mm_iald (n := 30) (sma_T5 h_t) hT.1 smd_T_takeOldest_29 rfl ?_
    replace hT := hT.2
    refine mm_iast (n := 31) (sma_T5 h_t) hT.1 smd_T_takeOldest_30 rfl ?_
    replace hT := hT.2
    refine mm_nam (fun h30 e_h30 => ?_)
    replace hT := hT h30 e_h30
    refine mm_iinc (n := 34) (i := 2) (d := 1) (L' := [some (.ref (mm_B Γ + t)), some (.int x1), some (.int (x2 + (1 : Int32)))]) smd_T_takeOldest_31 rfl rfl (by decide) (by decide) rfl ?_
    refine mm_goto (n := 9) smd_T_takeOldest_34 rfl ?_
    exact mm_weak (by refine ⟨rfl, rfl, rfl, trivial⟩) hT
set_option maxHeartbeats 4000000 in
set_option maxRecDepth 100000 in
theorem smr_V_at {Γ : mm_Ctx} {post : Int32 → mm_Mem → Prop} {h : mm_Mem} (x0 : Int32) (x1 : Int32) (hT : post ((x0 * (12 : Int32)) + x1) h) : mm_SI Γ smM_V_at [.int x0, .int x1] h post := by
  refine mm_spec0 (M := smM_V_at) 0 (by decide +kernel) rfl (Nat.le_of_ble_eq_true rfl) ?_
  show mm_W Γ smM_V_at (mm_pI post) 0 [some (.int x0), some (.int x1)] [] h
  refine mm_iload_n (n := 1) (i := 0) smd_V_at_0 rfl rfl rfl ?_
  refine mm_bipush (n := 3) (v := 12) smd_V_at_1 rfl (by decide) ?_
  refine mm_imul (n := 4) smd_V_at_3 rfl ?_
  refine mm_iload_n (n := 5) (i := 1) smd_V_at_4 rfl rfl rfl ?_
  refine mm_iadd (n := 6) smd_V_at_5 rfl ?_
  exact mm_iret rfl smd_V_at_6 ⟨_, rfl, hT⟩
set_option maxHeartbeats 4000000 in
set_option maxRecDepth 100000 in
theorem smr_V_hasProcedure {Γ : mm_Ctx} {post : Int32 → mm_Mem → Prop} {h : mm_Mem} {v : Nat} (h_v : v = 1 ∨ v = 8) (x1 : Int32) (hT : mm_SI Γ smM_S_isWithin [.int x1, .int (6 : Int32)] h (fun r3 h3 => (r3 = 0 → (post (0 : Int32) h3)) ∧ (¬ r3 = 0 → ((vp_in x1 6) ∧ (((h3 (v + 1) x1.toNatClampNeg) ≤ 0 → (post (0 : Int32) h3)) ∧ (¬ (h3 (v + 1) x1.toNatClampNeg) ≤ 0 → (post (1 : Int32) h3))))))) : mm_SI Γ smM_V_hasProcedure [.ref (mm_B Γ + v), .int x1] h post := by
  refine mm_spec0 (M := smM_V_hasProcedure) 0 (by decide +kernel) rfl (Nat.le_of_ble_eq_true rfl) ?_
  show mm_W Γ smM_V_hasProcedure (mm_pI post) 0 [some (.ref (mm_B Γ + v)), some (.int x1)] [] h
  refine mm_iload_n (n := 1) (i := 1) smd_V_hasProcedure_0 rfl rfl rfl ?_
  refine mm_bipush (n := 3) (v := 6) smd_V_hasProcedure_1 rfl (by decide) ?_
  refine mm_callSNI (n := 6) (As := [.int x1, .int (6 : Int32)]) (rest := []) smv_S_isWithin rfl (mm_hRm (by decide) (by decide)) smd_V_hasProcedure_3 rfl rfl (Nat.le_of_ble_eq_true rfl) hT (fun r3 h3 hT => ?_)
  refine mm_if_eq (n := 9) (tgt := 22) smd_V_hasProcedure_6 rfl rfl (fun hc => ?_) (fun hc => ?_)
  · replace hT := hT.1 hc
    refine mm_iconst (n := 23) (v := 0) smd_V_hasProcedure_22 rfl (by decide) ?_
    exact mm_zret rfl (Or.inl rfl) smd_V_hasProcedure_23 ⟨_, rfl, hT⟩
  · replace hT := hT.2 hc
    refine mm_aload_n (n := 10) (i := 0) smd_V_hasProcedure_9 rfl rfl rfl ?_
    refine mm_get (n := 13) (v := .ref (mm_B Γ + (v + 1))) smk_V_9 (smb_V h_v) rfl smd_V_hasProcedure_10 rfl ?_
    refine mm_iload_n (n := 14) (i := 1) smd_V_hasProcedure_13 rfl rfl rfl ?_
    refine mm_iald (n := 15) (sma_V1 h_v) hT.1 smd_V_hasProcedure_14 rfl ?_
    replace hT := hT.2
    refine mm_if_le (n := 18) (tgt := 22) smd_V_hasProcedure_15 rfl rfl (fun hc => ?_) (fun hc => ?_)
    · replace hT := hT.1 hc
      refine mm_iconst (n := 23) (v := 0) smd_V_hasProcedure_22 rfl (by decide) ?_
      exact mm_zret rfl (Or.inl rfl) smd_V_hasProcedure_23 ⟨_, rfl, hT⟩
    · replace hT := hT.2 hc
      refine mm_iconst (n := 19) (v := 1) smd_V_hasProcedure_18 rfl (by decide) ?_
      refine mm_goto (n := 23) smd_V_hasProcedure_19 rfl ?_
      exact mm_zret rfl (Or.inr rfl) smd_V_hasProcedure_23 ⟨_, rfl, hT⟩
set_option maxHeartbeats 4000000 in
set_option maxRecDepth 100000 in
theorem smr_V_write {Γ : mm_Ctx} {post : mm_Mem → Prop} {h : mm_Mem} {v : Nat} (h_v : v = 1 ∨ v = 8) (x1 : Int32) (x2 : Int32) (x3 : Int32) (x4 : Int32) (x5 : Int32) (x6 : Int32) (hT : mm_SI Γ smM_V_at [.int x1, .int x2] h (fun r2 h2 => (vp_in r2 72) ∧ (∀ h14 : mm_Mem, h14 = mm_wr h2 (v + 2) r2.toNatClampNeg x3 → ((vp_in r2 72) ∧ (∀ h23 : mm_Mem, h23 = mm_wr h14 (v + 3) r2.toNatClampNeg x4 → ((vp_in r2 72) ∧ (∀ h32 : mm_Mem, h32 = mm_wr h23 (v + 4) r2.toNatClampNeg x5 → ((vp_in r2 72) ∧ (∀ h41 : mm_Mem, h41 = mm_wr h32 (v + 5) r2.toNatClampNeg x6 → ((vp_in x1 6) ∧ ((vp_in x1 6) ∧ (∀ h59 : mm_Mem, h59 = mm_wr h41 (v + 1) x1.toNatClampNeg (if (h41 (v + 1) x1.toNatClampNeg) < (x2 + (1 : Int32)) then (x2 + (1 : Int32)) else (h41 (v + 1) x1.toNatClampNeg)) → (post h59))))))))))))) : mm_SV Γ smM_V_write [.ref (mm_B Γ + v), .int x1, .int x2, .int x3, .int x4, .int x5, .int x6] h post := by
  refine mm_spec0 (M := smM_V_write) 1 (by decide +kernel) rfl (Nat.le_of_ble_eq_true rfl) ?_
  show mm_W Γ smM_V_write (mm_pV post) 0 [some (.ref (mm_B Γ + v)), some (.int x1), some (.int x2), some (.int x3), some (.int x4), some (.int x5), some (.int x6), none] [] h
  refine mm_iload_n (n := 1) (i := 1) smd_V_write_0 rfl rfl rfl ?_
  refine mm_iload_n (n := 2) (i := 2) smd_V_write_1 rfl rfl rfl ?_
  refine mm_callSI (n := 5) (As := [.int x1, .int x2]) (rest := []) smv_V_at smw_223 (mm_hRm (by decide) (by decide)) smd_V_write_2 rfl rfl (Nat.le_of_ble_eq_true rfl) hT (fun r2 h2 hT => ?_)
  refine mm_istore (n := 7) (i := 7) (L' := [some (.ref (mm_B Γ + v)), some (.int x1), some (.int x2), some (.int x3), some (.int x4), some (.int x5), some (.int x6), some (.int r2)]) smd_V_write_5 rfl (by decide) rfl ?_
  refine mm_aload_n (n := 8) (i := 0) smd_V_write_7 rfl rfl rfl ?_
  refine mm_get (n := 11) (v := .ref (mm_B Γ + (v + 2))) smk_V_15 (smb_V h_v) rfl smd_V_write_8 rfl ?_
  refine mm_iload (n := 13) (i := 7) smd_V_write_11 rfl rfl ?_
  refine mm_iload_n (n := 14) (i := 3) smd_V_write_13 rfl rfl rfl ?_
  refine mm_iast (n := 15) (sma_V2 h_v) hT.1 smd_V_write_14 rfl ?_
  replace hT := hT.2
  refine mm_nam (fun h14 e_h14 => ?_)
  replace hT := hT h14 e_h14
  refine mm_aload_n (n := 16) (i := 0) smd_V_write_15 rfl rfl rfl ?_
  refine mm_get (n := 19) (v := .ref (mm_B Γ + (v + 3))) smk_V_18 (smb_V h_v) rfl smd_V_write_16 rfl ?_
  refine mm_iload (n := 21) (i := 7) smd_V_write_19 rfl rfl ?_
  refine mm_iload (n := 23) (i := 4) smd_V_write_21 rfl rfl ?_
  refine mm_iast (n := 24) (sma_V3 h_v) hT.1 smd_V_write_23 rfl ?_
  replace hT := hT.2
  refine mm_nam (fun h23 e_h23 => ?_)
  replace hT := hT h23 e_h23
  refine mm_aload_n (n := 25) (i := 0) smd_V_write_24 rfl rfl rfl ?_
  refine mm_get (n := 28) (v := .ref (mm_B Γ + (v + 4))) smk_V_21 (smb_V h_v) rfl smd_V_write_25 rfl ?_
  refine mm_iload (n := 30) (i := 7) smd_V_write_28 rfl rfl ?_
  refine mm_iload (n := 32) (i := 5) smd_V_write_30 rfl rfl ?_
  refine mm_iast (n := 33) (sma_V4 h_v) hT.1 smd_V_write_32 rfl ?_
  replace hT := hT.2
  refine mm_nam (fun h32 e_h32 => ?_)
  replace hT := hT h32 e_h32
  refine mm_aload_n (n := 34) (i := 0) smd_V_write_33 rfl rfl rfl ?_
  refine mm_get (n := 37) (v := .ref (mm_B Γ + (v + 5))) smk_V_24 (smb_V h_v) rfl smd_V_write_34 rfl ?_
  refine mm_iload (n := 39) (i := 7) smd_V_write_37 rfl rfl ?_
  refine mm_iload (n := 41) (i := 6) smd_V_write_39 rfl rfl ?_
  refine mm_iast (n := 42) (sma_V5 h_v) hT.1 smd_V_write_41 rfl ?_
  replace hT := hT.2
  refine mm_nam (fun h41 e_h41 => ?_)
  replace hT := hT h41 e_h41
  refine mm_aload_n (n := 43) (i := 0) smd_V_write_42 rfl rfl rfl ?_
  refine mm_get (n := 46) (v := .ref (mm_B Γ + (v + 1))) smk_V_9 (smb_V h_v) rfl smd_V_write_43 rfl ?_
  refine mm_iload_n (n := 47) (i := 1) smd_V_write_46 rfl rfl rfl ?_
  refine mm_aload_n (n := 48) (i := 0) smd_V_write_47 rfl rfl rfl ?_
  refine mm_get (n := 51) (v := .ref (mm_B Γ + (v + 1))) smk_V_9 (smb_V h_v) rfl smd_V_write_48 rfl ?_
  refine mm_iload_n (n := 52) (i := 1) smd_V_write_51 rfl rfl rfl ?_
  refine mm_iald (n := 53) (sma_V1 h_v) hT.1 smd_V_write_52 rfl ?_
  replace hT := hT.2
  refine mm_iload_n (n := 54) (i := 2) smd_V_write_53 rfl rfl rfl ?_
  refine mm_iconst (n := 55) (v := 1) smd_V_write_54 rfl (by decide) ?_
  refine mm_iadd (n := 56) smd_V_write_55 rfl ?_
  refine mm_max (n := 59) smx_V_38 ⟨Nat.le_of_ble_eq_true rfl, Nat.le_of_ble_eq_true rfl, Nat.le_refl _, Nat.le_refl _⟩ smd_V_write_56 rfl ?_
  refine mm_iast (n := 60) (sma_V1 h_v) hT.1 smd_V_write_59 rfl ?_
  replace hT := hT.2
  refine mm_nam (fun h59 e_h59 => ?_)
  replace hT := hT h59 e_h59
  exact mm_vret rfl smd_V_write_60 ⟨rfl, hT⟩
set_option maxHeartbeats 4000000 in
set_option maxRecDepth 100000 in
theorem smr_V_copyFrom {Γ : mm_Ctx} {post : mm_Mem → Prop} {h : mm_Mem} {v : Nat} (h_v : v = 1 ∨ v = 8) {u1 : Nat} (h_u1 : u1 = 1 ∨ u1 = 8) (hT : ∀ h15 : mm_Mem, h15 = mm_cp h (u1 + 1) (v + 1) 6 → (∀ h33 : mm_Mem, h33 = mm_cp h15 (u1 + 2) (v + 2) 72 → (∀ h51 : mm_Mem, h51 = mm_cp h33 (u1 + 3) (v + 3) 72 → (∀ h69 : mm_Mem, h69 = mm_cp h51 (u1 + 4) (v + 4) 72 → (∀ h87 : mm_Mem, h87 = mm_cp h69 (u1 + 5) (v + 5) 72 → (∀ h105 : mm_Mem, h105 = mm_cp h87 (u1 + 6) (v + 6) 3 → (post h105))))))) : mm_SV Γ smM_V_copyFrom [.ref (mm_B Γ + v), .ref (mm_B Γ + u1)] h post := by
  refine mm_spec0 (M := smM_V_copyFrom) 0 (by decide +kernel) rfl (Nat.le_of_ble_eq_true rfl) ?_
  show mm_W Γ smM_V_copyFrom (mm_pV post) 0 [some (.ref (mm_B Γ + v)), some (.ref (mm_B Γ + u1))] [] h
  refine mm_aload_n (n := 1) (i := 1) smd_V_copyFrom_0 rfl rfl rfl ?_
  refine mm_get (n := 4) (v := .ref (mm_B Γ + (u1 + 1))) smk_V_9 (smb_V h_u1) rfl smd_V_copyFrom_1 rfl ?_
  refine mm_iconst (n := 5) (v := 0) smd_V_copyFrom_4 rfl (by decide) ?_
  refine mm_aload_n (n := 6) (i := 0) smd_V_copyFrom_5 rfl rfl rfl ?_
  refine mm_get (n := 9) (v := .ref (mm_B Γ + (v + 1))) smk_V_9 (smb_V h_v) rfl smd_V_copyFrom_6 rfl ?_
  refine mm_iconst (n := 10) (v := 0) smd_V_copyFrom_9 rfl (by decide) ?_
  refine mm_aload_n (n := 11) (i := 0) smd_V_copyFrom_10 rfl rfl rfl ?_
  refine mm_get (n := 14) (v := .ref (mm_B Γ + (v + 1))) smk_V_9 (smb_V h_v) rfl smd_V_copyFrom_11 rfl ?_
  refine mm_alen (n := 15) (v := 6) (sma_V1 h_v) (by decide) smd_V_copyFrom_14 rfl ?_
  refine mm_copy (n := 18) (q0 := (u1 + 1)) (q1 := (v + 1)) smc_V_43 (sma_V1 h_u1) (sma_V1 h_v) (by decide) (by decide) ⟨Nat.le_of_ble_eq_true rfl, Nat.le_of_ble_eq_true rfl⟩ smd_V_copyFrom_15 rfl ?_
  refine mm_nam (fun h15 e_h15 => ?_)
  replace hT := hT h15 e_h15
  refine mm_aload_n (n := 19) (i := 1) smd_V_copyFrom_18 rfl rfl rfl ?_
  refine mm_get (n := 22) (v := .ref (mm_B Γ + (u1 + 2))) smk_V_15 (smb_V h_u1) rfl smd_V_copyFrom_19 rfl ?_
  refine mm_iconst (n := 23) (v := 0) smd_V_copyFrom_22 rfl (by decide) ?_
  refine mm_aload_n (n := 24) (i := 0) smd_V_copyFrom_23 rfl rfl rfl ?_
  refine mm_get (n := 27) (v := .ref (mm_B Γ + (v + 2))) smk_V_15 (smb_V h_v) rfl smd_V_copyFrom_24 rfl ?_
  refine mm_iconst (n := 28) (v := 0) smd_V_copyFrom_27 rfl (by decide) ?_
  refine mm_aload_n (n := 29) (i := 0) smd_V_copyFrom_28 rfl rfl rfl ?_
  refine mm_get (n := 32) (v := .ref (mm_B Γ + (v + 2))) smk_V_15 (smb_V h_v) rfl smd_V_copyFrom_29 rfl ?_
  refine mm_alen (n := 33) (v := 72) (sma_V2 h_v) (by decide) smd_V_copyFrom_32 rfl ?_
  refine mm_copy (n := 36) (q0 := (u1 + 2)) (q1 := (v + 2)) smc_V_43 (sma_V2 h_u1) (sma_V2 h_v) (by decide) (by decide) ⟨Nat.le_of_ble_eq_true rfl, Nat.le_of_ble_eq_true rfl⟩ smd_V_copyFrom_33 rfl ?_
  refine mm_nam (fun h33 e_h33 => ?_)
  replace hT := hT h33 e_h33
  refine mm_aload_n (n := 37) (i := 1) smd_V_copyFrom_36 rfl rfl rfl ?_
  refine mm_get (n := 40) (v := .ref (mm_B Γ + (u1 + 3))) smk_V_18 (smb_V h_u1) rfl smd_V_copyFrom_37 rfl ?_
  refine mm_iconst (n := 41) (v := 0) smd_V_copyFrom_40 rfl (by decide) ?_
  refine mm_aload_n (n := 42) (i := 0) smd_V_copyFrom_41 rfl rfl rfl ?_
  refine mm_get (n := 45) (v := .ref (mm_B Γ + (v + 3))) smk_V_18 (smb_V h_v) rfl smd_V_copyFrom_42 rfl ?_
  refine mm_iconst (n := 46) (v := 0) smd_V_copyFrom_45 rfl (by decide) ?_
  refine mm_aload_n (n := 47) (i := 0) smd_V_copyFrom_46 rfl rfl rfl ?_
  refine mm_get (n := 50) (v := .ref (mm_B Γ + (v + 3))) smk_V_18 (smb_V h_v) rfl smd_V_copyFrom_47 rfl ?_
  refine mm_alen (n := 51) (v := 72) (sma_V3 h_v) (by decide) smd_V_copyFrom_50 rfl ?_
  refine mm_copy (n := 54) (q0 := (u1 + 3)) (q1 := (v + 3)) smc_V_43 (sma_V3 h_u1) (sma_V3 h_v) (by decide) (by decide) ⟨Nat.le_of_ble_eq_true rfl, Nat.le_of_ble_eq_true rfl⟩ smd_V_copyFrom_51 rfl ?_
  refine mm_nam (fun h51 e_h51 => ?_)
  replace hT := hT h51 e_h51
  refine mm_aload_n (n := 55) (i := 1) smd_V_copyFrom_54 rfl rfl rfl ?_
  refine mm_get (n := 58) (v := .ref (mm_B Γ + (u1 + 4))) smk_V_21 (smb_V h_u1) rfl smd_V_copyFrom_55 rfl ?_
  refine mm_iconst (n := 59) (v := 0) smd_V_copyFrom_58 rfl (by decide) ?_
  refine mm_aload_n (n := 60) (i := 0) smd_V_copyFrom_59 rfl rfl rfl ?_
  refine mm_get (n := 63) (v := .ref (mm_B Γ + (v + 4))) smk_V_21 (smb_V h_v) rfl smd_V_copyFrom_60 rfl ?_
  refine mm_iconst (n := 64) (v := 0) smd_V_copyFrom_63 rfl (by decide) ?_
  refine mm_aload_n (n := 65) (i := 0) smd_V_copyFrom_64 rfl rfl rfl ?_
  refine mm_get (n := 68) (v := .ref (mm_B Γ + (v + 4))) smk_V_21 (smb_V h_v) rfl smd_V_copyFrom_65 rfl ?_
  refine mm_alen (n := 69) (v := 72) (sma_V4 h_v) (by decide) smd_V_copyFrom_68 rfl ?_
  refine mm_copy (n := 72) (q0 := (u1 + 4)) (q1 := (v + 4)) smc_V_43 (sma_V4 h_u1) (sma_V4 h_v) (by decide) (by decide) ⟨Nat.le_of_ble_eq_true rfl, Nat.le_of_ble_eq_true rfl⟩ smd_V_copyFrom_69 rfl ?_
  refine mm_nam (fun h69 e_h69 => ?_)
  replace hT := hT h69 e_h69
  refine mm_aload_n (n := 73) (i := 1) smd_V_copyFrom_72 rfl rfl rfl ?_
  refine mm_get (n := 76) (v := .ref (mm_B Γ + (u1 + 5))) smk_V_24 (smb_V h_u1) rfl smd_V_copyFrom_73 rfl ?_
  refine mm_iconst (n := 77) (v := 0) smd_V_copyFrom_76 rfl (by decide) ?_
  refine mm_aload_n (n := 78) (i := 0) smd_V_copyFrom_77 rfl rfl rfl ?_
  refine mm_get (n := 81) (v := .ref (mm_B Γ + (v + 5))) smk_V_24 (smb_V h_v) rfl smd_V_copyFrom_78 rfl ?_
  refine mm_iconst (n := 82) (v := 0) smd_V_copyFrom_81 rfl (by decide) ?_
  refine mm_aload_n (n := 83) (i := 0) smd_V_copyFrom_82 rfl rfl rfl ?_
  refine mm_get (n := 86) (v := .ref (mm_B Γ + (v + 5))) smk_V_24 (smb_V h_v) rfl smd_V_copyFrom_83 rfl ?_
  refine mm_alen (n := 87) (v := 72) (sma_V5 h_v) (by decide) smd_V_copyFrom_86 rfl ?_
  refine mm_copy (n := 90) (q0 := (u1 + 5)) (q1 := (v + 5)) smc_V_43 (sma_V5 h_u1) (sma_V5 h_v) (by decide) (by decide) ⟨Nat.le_of_ble_eq_true rfl, Nat.le_of_ble_eq_true rfl⟩ smd_V_copyFrom_87 rfl ?_
  refine mm_nam (fun h87 e_h87 => ?_)
  replace hT := hT h87 e_h87
  refine mm_aload_n (n := 91) (i := 1) smd_V_copyFrom_90 rfl rfl rfl ?_
  refine mm_get (n := 94) (v := .ref (mm_B Γ + (u1 + 6))) smk_V_27 (smb_V h_u1) rfl smd_V_copyFrom_91 rfl ?_
  refine mm_iconst (n := 95) (v := 0) smd_V_copyFrom_94 rfl (by decide) ?_
  refine mm_aload_n (n := 96) (i := 0) smd_V_copyFrom_95 rfl rfl rfl ?_
  refine mm_get (n := 99) (v := .ref (mm_B Γ + (v + 6))) smk_V_27 (smb_V h_v) rfl smd_V_copyFrom_96 rfl ?_
  refine mm_iconst (n := 100) (v := 0) smd_V_copyFrom_99 rfl (by decide) ?_
  refine mm_aload_n (n := 101) (i := 0) smd_V_copyFrom_100 rfl rfl rfl ?_
  refine mm_get (n := 104) (v := .ref (mm_B Γ + (v + 6))) smk_V_27 (smb_V h_v) rfl smd_V_copyFrom_101 rfl ?_
  refine mm_alen (n := 105) (v := 3) (sma_V6 h_v) (by decide) smd_V_copyFrom_104 rfl ?_
  refine mm_copy (n := 108) (q0 := (u1 + 6)) (q1 := (v + 6)) smc_V_43 (sma_V6 h_u1) (sma_V6 h_v) (by decide) (by decide) ⟨Nat.le_of_ble_eq_true rfl, Nat.le_of_ble_eq_true rfl⟩ smd_V_copyFrom_105 rfl ?_
  refine mm_nam (fun h105 e_h105 => ?_)
  replace hT := hT h105 e_h105
  exact mm_vret rfl smd_V_copyFrom_108 ⟨rfl, hT⟩
set_option maxHeartbeats 4000000 in
set_option maxRecDepth 100000 in
theorem smr_V_hasSameProcedure {Γ : mm_Ctx} {post : Int32 → mm_Mem → Prop} {h : mm_Mem} {v : Nat} (h_v : v = 1 ∨ v = 8) {u1 : Nat} (h_u1 : u1 = 1 ∨ u1 = 8) (x2 : Int32) (hT : (vp_in x2 6) ∧ ((vp_in x2 6) ∧ (((h (v + 1) x2.toNatClampNeg) = (h (u1 + 1) x2.toNatClampNeg) → (mm_SI Γ smM_V_at [.int x2, .int (0 : Int32)] h (fun r19 h19 => mm_W Γ smM_V_hasSameProcedure (mm_pI post) 23 [some (.ref (mm_B Γ + v)), some (.ref (mm_B Γ + u1)), some (.int x2), some (.int r19)] [] h19))) ∧ (¬ (h (v + 1) x2.toNatClampNeg) = (h (u1 + 1) x2.toNatClampNeg) → (post (0 : Int32) h))))) : mm_SI Γ smM_V_hasSameProcedure [.ref (mm_B Γ + v), .ref (mm_B Γ + u1), .int x2] h post := by
  refine mm_spec0 (M := smM_V_hasSameProcedure) 1 (by decide +kernel) rfl (Nat.le_of_ble_eq_true rfl) ?_
  show mm_W Γ smM_V_hasSameProcedure (mm_pI post) 0 [some (.ref (mm_B Γ + v)), some (.ref (mm_B Γ + u1)), some (.int x2), none] [] h
  refine mm_aload_n (n := 1) (i := 0) smd_V_hasSameProcedure_0 rfl rfl rfl ?_
  refine mm_get (n := 4) (v := .ref (mm_B Γ + (v + 1))) smk_V_9 (smb_V h_v) rfl smd_V_hasSameProcedure_1 rfl ?_
  refine mm_iload_n (n := 5) (i := 2) smd_V_hasSameProcedure_4 rfl rfl rfl ?_
  refine mm_iald (n := 6) (sma_V1 h_v) hT.1 smd_V_hasSameProcedure_5 rfl ?_
  replace hT := hT.2
  refine mm_aload_n (n := 7) (i := 1) smd_V_hasSameProcedure_6 rfl rfl rfl ?_
  refine mm_get (n := 10) (v := .ref (mm_B Γ + (u1 + 1))) smk_V_9 (smb_V h_u1) rfl smd_V_hasSameProcedure_7 rfl ?_
  refine mm_iload_n (n := 11) (i := 2) smd_V_hasSameProcedure_10 rfl rfl rfl ?_
  refine mm_iald (n := 12) (sma_V1 h_u1) hT.1 smd_V_hasSameProcedure_11 rfl ?_
  replace hT := hT.2
  refine mm_icmp_eq (n := 15) (tgt := 17) smd_V_hasSameProcedure_12 rfl rfl (fun hc => ?_) (fun hc => ?_)
  · replace hT := hT.1 hc
    refine mm_iload_n (n := 18) (i := 2) smd_V_hasSameProcedure_17 rfl rfl rfl ?_
    refine mm_iconst (n := 19) (v := 0) smd_V_hasSameProcedure_18 rfl (by decide) ?_
    refine mm_callSI (n := 22) (As := [.int x2, .int (0 : Int32)]) (rest := []) smv_V_at smw_223 (mm_hRm (by decide) (by decide)) smd_V_hasSameProcedure_19 rfl rfl (Nat.le_of_ble_eq_true rfl) hT (fun r19 h19 hT => ?_)
    refine mm_istore_n (n := 23) (i := 3) (L' := [some (.ref (mm_B Γ + v)), some (.ref (mm_B Γ + u1)), some (.int x2), some (.int r19)]) smd_V_hasSameProcedure_22 rfl rfl (by decide) rfl ?_
    exact mm_weak (by refine ⟨rfl, rfl, rfl, rfl, trivial⟩) hT
  · replace hT := hT.2 hc
    refine mm_iconst (n := 16) (v := 0) smd_V_hasSameProcedure_15 rfl (by decide) ?_
    exact mm_zret rfl (Or.inl rfl) smd_V_hasSameProcedure_16 ⟨_, rfl, hT⟩
set_option maxHeartbeats 4000000 in
set_option maxRecDepth 100000 in
theorem smr_V_hasSameProcedure_23 {Γ : mm_Ctx} {post : Int32 → mm_Mem → Prop} {h : mm_Mem} {v : Nat} (h_v : v = 1 ∨ v = 8) {u1 : Nat} (h_u1 : u1 = 1 ∨ u1 = 8) (x2 : Int32) (x3 : Int32) (hT : (vp_in x2 6) ∧ (mm_SI Γ smM_V_at [.int x2, .int (h (v + 1) x2.toNatClampNeg)] h (fun r31 h31 => (r31 ≤ x3 → (post (1 : Int32) h31)) ∧ (¬ r31 ≤ x3 → ((vp_in x3 72) ∧ ((vp_in x3 72) ∧ ((¬ (h31 (v + 2) x3.toNatClampNeg) = (h31 (u1 + 2) x3.toNatClampNeg) → (post (0 : Int32) h31)) ∧ ((h31 (v + 2) x3.toNatClampNeg) = (h31 (u1 + 2) x3.toNatClampNeg) → ((vp_in x3 72) ∧ ((vp_in x3 72) ∧ ((¬ (h31 (v + 3) x3.toNatClampNeg) = (h31 (u1 + 3) x3.toNatClampNeg) → (post (0 : Int32) h31)) ∧ ((h31 (v + 3) x3.toNatClampNeg) = (h31 (u1 + 3) x3.toNatClampNeg) → ((vp_in x3 72) ∧ ((vp_in x3 72) ∧ ((¬ (h31 (v + 4) x3.toNatClampNeg) = (h31 (u1 + 4) x3.toNatClampNeg) → (post (0 : Int32) h31)) ∧ ((h31 (v + 4) x3.toNatClampNeg) = (h31 (u1 + 4) x3.toNatClampNeg) → ((vp_in x3 72) ∧ ((vp_in x3 72) ∧ (((h31 (v + 5) x3.toNatClampNeg) = (h31 (u1 + 5) x3.toNatClampNeg) → (mm_W Γ smM_V_hasSameProcedure (mm_pI post) 23 [some (.ref (mm_B Γ + v)), some (.ref (mm_B Γ + u1)), some (.int x2), some (.int (x3 + (1 : Int32)))] [] h31)) ∧ (¬ (h31 (v + 5) x3.toNatClampNeg) = (h31 (u1 + 5) x3.toNatClampNeg) → (post (0 : Int32) h31))))))))))))))))))))) : mm_W Γ smM_V_hasSameProcedure (mm_pI post) 23 [some (.ref (mm_B Γ + v)), some (.ref (mm_B Γ + u1)), some (.int x2), some (.int x3)] [] h := by
  refine mm_iload_n (n := 24) (i := 3) smd_V_hasSameProcedure_23 rfl rfl rfl ?_
  refine mm_iload_n (n := 25) (i := 2) smd_V_hasSameProcedure_24 rfl rfl rfl ?_
  refine mm_aload_n (n := 26) (i := 0) smd_V_hasSameProcedure_25 rfl rfl rfl ?_
  refine mm_get (n := 29) (v := .ref (mm_B Γ + (v + 1))) smk_V_9 (smb_V h_v) rfl smd_V_hasSameProcedure_26 rfl ?_
  refine mm_iload_n (n := 30) (i := 2) smd_V_hasSameProcedure_29 rfl rfl rfl ?_
  refine mm_iald (n := 31) (sma_V1 h_v) hT.1 smd_V_hasSameProcedure_30 rfl ?_
  replace hT := hT.2
  refine mm_callSI (n := 34) (As := [.int x2, .int (h (v + 1) x2.toNatClampNeg)]) (rest := [.int x3]) smv_V_at smw_223 (mm_hRm (by decide) (by decide)) smd_V_hasSameProcedure_31 rfl rfl (Nat.le_of_ble_eq_true rfl) hT (fun r31 h31 hT => ?_)
  refine mm_icmp_ge (n := 37) (tgt := 105) smd_V_hasSameProcedure_34 rfl rfl (fun hc => ?_) (fun hc => ?_)
  · replace hT := hT.1 hc
    refine mm_iconst (n := 106) (v := 1) smd_V_hasSameProcedure_105 rfl (by decide) ?_
    exact mm_zret rfl (Or.inr rfl) smd_V_hasSameProcedure_106 ⟨_, rfl, hT⟩
  · replace hT := hT.2 hc
    refine mm_aload_n (n := 38) (i := 0) smd_V_hasSameProcedure_37 rfl rfl rfl ?_
    refine mm_get (n := 41) (v := .ref (mm_B Γ + (v + 2))) smk_V_15 (smb_V h_v) rfl smd_V_hasSameProcedure_38 rfl ?_
    refine mm_iload_n (n := 42) (i := 3) smd_V_hasSameProcedure_41 rfl rfl rfl ?_
    refine mm_iald (n := 43) (sma_V2 h_v) hT.1 smd_V_hasSameProcedure_42 rfl ?_
    replace hT := hT.2
    refine mm_aload_n (n := 44) (i := 1) smd_V_hasSameProcedure_43 rfl rfl rfl ?_
    refine mm_get (n := 47) (v := .ref (mm_B Γ + (u1 + 2))) smk_V_15 (smb_V h_u1) rfl smd_V_hasSameProcedure_44 rfl ?_
    refine mm_iload_n (n := 48) (i := 3) smd_V_hasSameProcedure_47 rfl rfl rfl ?_
    refine mm_iald (n := 49) (sma_V2 h_u1) hT.1 smd_V_hasSameProcedure_48 rfl ?_
    replace hT := hT.2
    refine mm_icmp_ne (n := 52) (tgt := 97) smd_V_hasSameProcedure_49 rfl rfl (fun hc => ?_) (fun hc => ?_)
    · replace hT := hT.1 hc
      refine mm_iconst (n := 98) (v := 0) smd_V_hasSameProcedure_97 rfl (by decide) ?_
      exact mm_zret rfl (Or.inl rfl) smd_V_hasSameProcedure_98 ⟨_, rfl, hT⟩
    · replace hT := hT.2 hc
      refine mm_aload_n (n := 53) (i := 0) smd_V_hasSameProcedure_52 rfl rfl rfl ?_
      refine mm_get (n := 56) (v := .ref (mm_B Γ + (v + 3))) smk_V_18 (smb_V h_v) rfl smd_V_hasSameProcedure_53 rfl ?_
      refine mm_iload_n (n := 57) (i := 3) smd_V_hasSameProcedure_56 rfl rfl rfl ?_
      refine mm_iald (n := 58) (sma_V3 h_v) hT.1 smd_V_hasSameProcedure_57 rfl ?_
      replace hT := hT.2
      refine mm_aload_n (n := 59) (i := 1) smd_V_hasSameProcedure_58 rfl rfl rfl ?_
      refine mm_get (n := 62) (v := .ref (mm_B Γ + (u1 + 3))) smk_V_18 (smb_V h_u1) rfl smd_V_hasSameProcedure_59 rfl ?_
      refine mm_iload_n (n := 63) (i := 3) smd_V_hasSameProcedure_62 rfl rfl rfl ?_
      refine mm_iald (n := 64) (sma_V3 h_u1) hT.1 smd_V_hasSameProcedure_63 rfl ?_
      replace hT := hT.2
      refine mm_icmp_ne (n := 67) (tgt := 97) smd_V_hasSameProcedure_64 rfl rfl (fun hc => ?_) (fun hc => ?_)
      · replace hT := hT.1 hc
        refine mm_iconst (n := 98) (v := 0) smd_V_hasSameProcedure_97 rfl (by decide) ?_
        exact mm_zret rfl (Or.inl rfl) smd_V_hasSameProcedure_98 ⟨_, rfl, hT⟩
      · replace hT := hT.2 hc
        refine mm_aload_n (n := 68) (i := 0) smd_V_hasSameProcedure_67 rfl rfl rfl ?_
        refine mm_get (n := 71) (v := .ref (mm_B Γ + (v + 4))) smk_V_21 (smb_V h_v) rfl smd_V_hasSameProcedure_68 rfl ?_
        refine mm_iload_n (n := 72) (i := 3) smd_V_hasSameProcedure_71 rfl rfl rfl ?_
        refine mm_iald (n := 73) (sma_V4 h_v) hT.1 smd_V_hasSameProcedure_72 rfl ?_
        replace hT := hT.2
        refine mm_aload_n (n := 74) (i := 1) smd_V_hasSameProcedure_73 rfl rfl rfl ?_
        refine mm_get (n := 77) (v := .ref (mm_B Γ + (u1 + 4))) smk_V_21 (smb_V h_u1) rfl smd_V_hasSameProcedure_74 rfl ?_
        refine mm_iload_n (n := 78) (i := 3) smd_V_hasSameProcedure_77 rfl rfl rfl ?_
        refine mm_iald (n := 79) (sma_V4 h_u1) hT.1 smd_V_hasSameProcedure_78 rfl ?_
        replace hT := hT.2
        refine mm_icmp_ne (n := 82) (tgt := 97) smd_V_hasSameProcedure_79 rfl rfl (fun hc => ?_) (fun hc => ?_)
        · replace hT := hT.1 hc
          refine mm_iconst (n := 98) (v := 0) smd_V_hasSameProcedure_97 rfl (by decide) ?_
          exact mm_zret rfl (Or.inl rfl) smd_V_hasSameProcedure_98 ⟨_, rfl, hT⟩
        · replace hT := hT.2 hc
          refine mm_aload_n (n := 83) (i := 0) smd_V_hasSameProcedure_82 rfl rfl rfl ?_
          refine mm_get (n := 86) (v := .ref (mm_B Γ + (v + 5))) smk_V_24 (smb_V h_v) rfl smd_V_hasSameProcedure_83 rfl ?_
          refine mm_iload_n (n := 87) (i := 3) smd_V_hasSameProcedure_86 rfl rfl rfl ?_
          refine mm_iald (n := 88) (sma_V5 h_v) hT.1 smd_V_hasSameProcedure_87 rfl ?_
          replace hT := hT.2
          refine mm_aload_n (n := 89) (i := 1) smd_V_hasSameProcedure_88 rfl rfl rfl ?_
          refine mm_get (n := 92) (v := .ref (mm_B Γ + (u1 + 5))) smk_V_24 (smb_V h_u1) rfl smd_V_hasSameProcedure_89 rfl ?_
          refine mm_iload_n (n := 93) (i := 3) smd_V_hasSameProcedure_92 rfl rfl rfl ?_
          refine mm_iald (n := 94) (sma_V5 h_u1) hT.1 smd_V_hasSameProcedure_93 rfl ?_
          replace hT := hT.2
          refine mm_icmp_eq (n := 97) (tgt := 99) smd_V_hasSameProcedure_94 rfl rfl (fun hc => ?_) (fun hc => ?_)
          · replace hT := hT.1 hc
            refine mm_iinc (n := 102) (i := 3) (d := 1) (L' := [some (.ref (mm_B Γ + v)), some (.ref (mm_B Γ + u1)), some (.int x2), some (.int (x3 + (1 : Int32)))]) smd_V_hasSameProcedure_99 rfl rfl (by decide) (by decide) rfl ?_
            refine mm_goto (n := 23) smd_V_hasSameProcedure_102 rfl ?_
            exact mm_weak (by refine ⟨rfl, rfl, rfl, rfl, trivial⟩) hT
          · replace hT := hT.2 hc
            refine mm_iconst (n := 98) (v := 0) smd_V_hasSameProcedure_97 rfl (by decide) ?_
            exact mm_zret rfl (Or.inl rfl) smd_V_hasSameProcedure_98 ⟨_, rfl, hT⟩
set_option maxHeartbeats 4000000 in
set_option maxRecDepth 100000 in
theorem smr_V_usesTouchedType {Γ : mm_Ctx} {post : Int32 → mm_Mem → Prop} {h : mm_Mem} {v : Nat} (h_v : v = 1 ∨ v = 8) (x1 : Int32) (hT : mm_SI Γ smM_V_at [.int x1, .int (0 : Int32)] h (fun r2 h2 => mm_W Γ smM_V_usesTouchedType (mm_pI post) 6 [some (.ref (mm_B Γ + v)), some (.int x1), some (.ref (mm_B Γ + 16)), some (.int r2), none] [] h2)) : mm_SI Γ smM_V_usesTouchedType [.ref (mm_B Γ + v), .int x1, .ref (mm_B Γ + 16)] h post := by
  refine mm_spec0 (M := smM_V_usesTouchedType) 2 (by decide +kernel) rfl (Nat.le_of_ble_eq_true rfl) ?_
  show mm_W Γ smM_V_usesTouchedType (mm_pI post) 0 [some (.ref (mm_B Γ + v)), some (.int x1), some (.ref (mm_B Γ + 16)), none, none] [] h
  refine mm_iload_n (n := 1) (i := 1) smd_V_usesTouchedType_0 rfl rfl rfl ?_
  refine mm_iconst (n := 2) (v := 0) smd_V_usesTouchedType_1 rfl (by decide) ?_
  refine mm_callSI (n := 5) (As := [.int x1, .int (0 : Int32)]) (rest := []) smv_V_at smw_223 (mm_hRm (by decide) (by decide)) smd_V_usesTouchedType_2 rfl rfl (Nat.le_of_ble_eq_true rfl) hT (fun r2 h2 hT => ?_)
  refine mm_istore_n (n := 6) (i := 3) (L' := [some (.ref (mm_B Γ + v)), some (.int x1), some (.ref (mm_B Γ + 16)), some (.int r2), none]) smd_V_usesTouchedType_5 rfl rfl (by decide) rfl ?_
  exact mm_weak (by refine ⟨rfl, rfl, rfl, rfl, trivial⟩) hT
set_option maxHeartbeats 4000000 in
set_option maxRecDepth 100000 in
theorem smr_V_usesTouchedType_6 {Γ : mm_Ctx} {post : Int32 → mm_Mem → Prop} {h : mm_Mem} {v : Nat} (h_v : v = 1 ∨ v = 8) (x1 : Int32) (x3 : Int32) (hT : (vp_in x1 6) ∧ (mm_SI Γ smM_V_at [.int x1, .int (h (v + 1) x1.toNatClampNeg)] h (fun r14 h14 => (r14 ≤ x3 → (post (0 : Int32) h14)) ∧ (¬ r14 ≤ x3 → (mm_SI Γ smM_V_typeUsed [.ref (mm_B Γ + v), .int x3] h14 (fun r22 h22 => (r22 = (-1 : Int32) → (mm_W Γ smM_V_usesTouchedType (mm_pI post) 6 [some (.ref (mm_B Γ + v)), some (.int x1), some (.ref (mm_B Γ + 16)), some (.int (x3 + (1 : Int32))), none] [] h22)) ∧ (¬ r22 = (-1 : Int32) → ((vp_in r22 3) ∧ (((h22 16 r22.toNatClampNeg) = 0 → (mm_W Γ smM_V_usesTouchedType (mm_pI post) 6 [some (.ref (mm_B Γ + v)), some (.int x1), some (.ref (mm_B Γ + 16)), some (.int (x3 + (1 : Int32))), none] [] h22)) ∧ (¬ (h22 16 r22.toNatClampNeg) = 0 → (post (1 : Int32) h22))))))))))) : mm_W Γ smM_V_usesTouchedType (mm_pI post) 6 [some (.ref (mm_B Γ + v)), some (.int x1), some (.ref (mm_B Γ + 16)), some (.int x3), none] [] h := by
  refine mm_iload_n (n := 7) (i := 3) smd_V_usesTouchedType_6 rfl rfl rfl ?_
  refine mm_iload_n (n := 8) (i := 1) smd_V_usesTouchedType_7 rfl rfl rfl ?_
  refine mm_aload_n (n := 9) (i := 0) smd_V_usesTouchedType_8 rfl rfl rfl ?_
  refine mm_get (n := 12) (v := .ref (mm_B Γ + (v + 1))) smk_V_9 (smb_V h_v) rfl smd_V_usesTouchedType_9 rfl ?_
  refine mm_iload_n (n := 13) (i := 1) smd_V_usesTouchedType_12 rfl rfl rfl ?_
  refine mm_iald (n := 14) (sma_V1 h_v) hT.1 smd_V_usesTouchedType_13 rfl ?_
  replace hT := hT.2
  refine mm_callSI (n := 17) (As := [.int x1, .int (h (v + 1) x1.toNatClampNeg)]) (rest := [.int x3]) smv_V_at smw_223 (mm_hRm (by decide) (by decide)) smd_V_usesTouchedType_14 rfl rfl (Nat.le_of_ble_eq_true rfl) hT (fun r14 h14 hT => ?_)
  refine mm_icmp_ge (n := 20) (tgt := 48) smd_V_usesTouchedType_17 rfl rfl (fun hc => ?_) (fun hc => ?_)
  · replace hT := hT.1 hc
    refine mm_iconst (n := 49) (v := 0) smd_V_usesTouchedType_48 rfl (by decide) ?_
    exact mm_zret rfl (Or.inl rfl) smd_V_usesTouchedType_49 ⟨_, rfl, hT⟩
  · replace hT := hT.2 hc
    refine mm_aload_n (n := 21) (i := 0) smd_V_usesTouchedType_20 rfl rfl rfl ?_
    refine mm_iload_n (n := 22) (i := 3) smd_V_usesTouchedType_21 rfl rfl rfl ?_
    refine mm_callVI (n := 25) (As := [.int x3]) (rest := []) smv_V_typeUsed smw_314 (smb_V h_v) (mm_hRm (by decide) (by decide)) smd_V_usesTouchedType_22 rfl rfl (Nat.le_of_ble_eq_true rfl) hT (fun r22 h22 hT => ?_)
    refine mm_istore (n := 27) (i := 4) (L' := [some (.ref (mm_B Γ + v)), some (.int x1), some (.ref (mm_B Γ + 16)), some (.int x3), some (.int r22)]) smd_V_usesTouchedType_25 rfl (by decide) rfl ?_
    refine mm_iload (n := 29) (i := 4) smd_V_usesTouchedType_27 rfl rfl ?_
    refine mm_iconst (n := 30) (v := -1) smd_V_usesTouchedType_29 rfl (by decide) ?_
    refine mm_icmp_eq (n := 33) (tgt := 42) smd_V_usesTouchedType_30 rfl rfl (fun hc => ?_) (fun hc => ?_)
    · replace hT := hT.1 hc
      refine mm_iinc (n := 45) (i := 3) (d := 1) (L' := [some (.ref (mm_B Γ + v)), some (.int x1), some (.ref (mm_B Γ + 16)), some (.int (x3 + (1 : Int32))), some (.int r22)]) smd_V_usesTouchedType_42 rfl rfl (by decide) (by decide) rfl ?_
      refine mm_goto (n := 6) smd_V_usesTouchedType_45 rfl ?_
      exact mm_weak (by refine ⟨rfl, rfl, rfl, rfl, trivial⟩) hT
    · replace hT := hT.2 hc
      refine mm_aload_n (n := 34) (i := 2) smd_V_usesTouchedType_33 rfl rfl rfl ?_
      refine mm_iload (n := 36) (i := 4) smd_V_usesTouchedType_34 rfl rfl ?_
      refine mm_zald (n := 37) sma_16 hT.1 smd_V_usesTouchedType_36 rfl ?_
      replace hT := hT.2
      refine mm_if_eq (n := 40) (tgt := 42) smd_V_usesTouchedType_37 rfl rfl (fun hc => ?_) (fun hc => ?_)
      · replace hT := hT.1 hc
        refine mm_iinc (n := 45) (i := 3) (d := 1) (L' := [some (.ref (mm_B Γ + v)), some (.int x1), some (.ref (mm_B Γ + 16)), some (.int (x3 + (1 : Int32))), some (.int r22)]) smd_V_usesTouchedType_42 rfl rfl (by decide) (by decide) rfl ?_
        refine mm_goto (n := 6) smd_V_usesTouchedType_45 rfl ?_
        exact mm_weak (by refine ⟨rfl, rfl, rfl, rfl, trivial⟩) hT
      · replace hT := hT.2 hc
        refine mm_iconst (n := 41) (v := 1) smd_V_usesTouchedType_40 rfl (by decide) ?_
        exact mm_zret rfl (Or.inr rfl) smd_V_usesTouchedType_41 ⟨_, rfl, hT⟩
set_option maxHeartbeats 4000000 in
set_option maxRecDepth 100000 in
theorem smr_V_typeUsed {Γ : mm_Ctx} {post : Int32 → mm_Mem → Prop} {h : mm_Mem} {v : Nat} (h_v : v = 1 ∨ v = 8) (x1 : Int32) (hT : (vp_in x1 72) ∧ (((h (v + 2) x1.toNatClampNeg) = 6 → ((vp_in x1 72) ∧ (post (h (v + 4) x1.toNatClampNeg) h))) ∧ ((h (v + 2) x1.toNatClampNeg) = 7 ∨ (h (v + 2) x1.toNatClampNeg) = 8 → ((vp_in x1 72) ∧ (post ((h (v + 5) x1.toNatClampNeg) / (4 : Int32)) h))) ∧ (¬ (h (v + 2) x1.toNatClampNeg) = 6 → ¬ (h (v + 2) x1.toNatClampNeg) = 7 → ¬ (h (v + 2) x1.toNatClampNeg) = 8 → (post (-1 : Int32) h)))) : mm_SI Γ smM_V_typeUsed [.ref (mm_B Γ + v), .int x1] h post := by
  refine mm_spec0 (M := smM_V_typeUsed) 0 (by decide +kernel) rfl (Nat.le_of_ble_eq_true rfl) ?_
  show mm_W Γ smM_V_typeUsed (mm_pI post) 0 [some (.ref (mm_B Γ + v)), some (.int x1)] [] h
  refine mm_aload_n (n := 1) (i := 0) smd_V_typeUsed_0 rfl rfl rfl ?_
  refine mm_get (n := 4) (v := .ref (mm_B Γ + (v + 2))) smk_V_15 (smb_V h_v) rfl smd_V_typeUsed_1 rfl ?_
  refine mm_iload_n (n := 5) (i := 1) smd_V_typeUsed_4 rfl rfl rfl ?_
  refine mm_iald (n := 6) (sma_V2 h_v) hT.1 smd_V_typeUsed_5 rfl ?_
  replace hT := hT.2
  by_cases e : (h (v + 2) x1.toNatClampNeg) = 6
  · refine mm_tIn (tgt := 32) smd_V_typeUsed_6 6 e (by decide) (by decide) rfl rfl ?_
    replace hT := hT.1 (e)
    refine mm_aload_n (n := 33) (i := 0) smd_V_typeUsed_32 rfl rfl rfl ?_
    refine mm_get (n := 36) (v := .ref (mm_B Γ + (v + 4))) smk_V_21 (smb_V h_v) rfl smd_V_typeUsed_33 rfl ?_
    refine mm_iload_n (n := 37) (i := 1) smd_V_typeUsed_36 rfl rfl rfl ?_
    refine mm_iald (n := 38) (sma_V4 h_v) hT.1 smd_V_typeUsed_37 rfl ?_
    replace hT := hT.2
    exact mm_iret rfl smd_V_typeUsed_38 ⟨_, rfl, hT⟩
  have n6 := e
  clear e
  by_cases e : (h (v + 2) x1.toNatClampNeg) = 7
  · refine mm_tIn (tgt := 39) smd_V_typeUsed_6 7 e (by decide) (by decide) rfl rfl ?_
    replace hT := hT.2.1 (Or.inl e)
    refine mm_aload_n (n := 40) (i := 0) smd_V_typeUsed_39 rfl rfl rfl ?_
    refine mm_get (n := 43) (v := .ref (mm_B Γ + (v + 5))) smk_V_24 (smb_V h_v) rfl smd_V_typeUsed_40 rfl ?_
    refine mm_iload_n (n := 44) (i := 1) smd_V_typeUsed_43 rfl rfl rfl ?_
    refine mm_iald (n := 45) (sma_V5 h_v) hT.1 smd_V_typeUsed_44 rfl ?_
    replace hT := hT.2
    refine mm_iconst (n := 46) (v := 4) smd_V_typeUsed_45 rfl (by decide) ?_
    refine mm_idiv (n := 47) smd_V_typeUsed_46 rfl (by decide) ?_
    exact mm_iret rfl smd_V_typeUsed_47 ⟨_, rfl, hT⟩
  have n7 := e
  clear e
  by_cases e : (h (v + 2) x1.toNatClampNeg) = 8
  · refine mm_tIn (tgt := 39) smd_V_typeUsed_6 8 e (by decide) (by decide) rfl rfl ?_
    replace hT := hT.2.1 (Or.inr (e))
    refine mm_aload_n (n := 40) (i := 0) smd_V_typeUsed_39 rfl rfl rfl ?_
    refine mm_get (n := 43) (v := .ref (mm_B Γ + (v + 5))) smk_V_24 (smb_V h_v) rfl smd_V_typeUsed_40 rfl ?_
    refine mm_iload_n (n := 44) (i := 1) smd_V_typeUsed_43 rfl rfl rfl ?_
    refine mm_iald (n := 45) (sma_V5 h_v) hT.1 smd_V_typeUsed_44 rfl ?_
    replace hT := hT.2
    refine mm_iconst (n := 46) (v := 4) smd_V_typeUsed_45 rfl (by decide) ?_
    refine mm_idiv (n := 47) smd_V_typeUsed_46 rfl (by decide) ?_
    exact mm_iret rfl smd_V_typeUsed_47 ⟨_, rfl, hT⟩
  have n8 := e
  clear e
  refine mm_tOut (tgt := 48) smd_V_typeUsed_6 (by have m6 := lv_neT n6 (show (6 : Int32).toInt = 6 by decide); have m7 := lv_neT n7 (show (7 : Int32).toInt = 7 by decide); have m8 := lv_neT n8 (show (8 : Int32).toInt = 8 by decide); omega) rfl ?_
  replace hT := hT.2.2 n6 n7 n8
  refine mm_iconst (n := 49) (v := -1) smd_V_typeUsed_48 rfl (by decide) ?_
  exact mm_iret rfl smd_V_typeUsed_49 ⟨_, rfl, hT⟩
set_option maxHeartbeats 4000000 in
set_option maxRecDepth 100000 in
theorem smr_V_firstPoint {Γ : mm_Ctx} {post : Int32 → mm_Mem → Prop} {h : mm_Mem} {v : Nat} (h_v : v = 1 ∨ v = 8) (x1 : Int32) (x2 : Int32) (hT : mm_W Γ smM_V_firstPoint (mm_pI post) 2 [some (.ref (mm_B Γ + v)), some (.int x1), some (.int x2), some (.int (0 : Int32))] [] h) : mm_SI Γ smM_V_firstPoint [.ref (mm_B Γ + v), .int x1, .int x2] h post := by
  refine mm_spec0 (M := smM_V_firstPoint) 1 (by decide +kernel) rfl (Nat.le_of_ble_eq_true rfl) ?_
  show mm_W Γ smM_V_firstPoint (mm_pI post) 0 [some (.ref (mm_B Γ + v)), some (.int x1), some (.int x2), none] [] h
  refine mm_iconst (n := 1) (v := 0) smd_V_firstPoint_0 rfl (by decide) ?_
  refine mm_istore_n (n := 2) (i := 3) (L' := [some (.ref (mm_B Γ + v)), some (.int x1), some (.int x2), some (.int (0 : Int32))]) smd_V_firstPoint_1 rfl rfl (by decide) rfl ?_
  exact mm_weak (by refine ⟨rfl, rfl, rfl, rfl, trivial⟩) hT
set_option maxHeartbeats 4000000 in
set_option maxRecDepth 100000 in
theorem smr_V_firstPoint_2 {Γ : mm_Ctx} {post : Int32 → mm_Mem → Prop} {h : mm_Mem} {v : Nat} (h_v : v = 1 ∨ v = 8) (x1 : Int32) (x2 : Int32) (x3 : Int32) (hT : (vp_in x1 6) ∧ (((h (v + 1) x1.toNatClampNeg) ≤ x3 → (post (-1 : Int32) h)) ∧ (¬ (h (v + 1) x1.toNatClampNeg) ≤ x3 → (mm_SI Γ smM_V_at [.int x1, .int x3] h (fun r18 h18 => (vp_in r18 72) ∧ ((¬ (h18 (v + 2) r18.toNatClampNeg) = (12 : Int32) → (mm_W Γ smM_V_firstPoint (mm_pI post) 2 [some (.ref (mm_B Γ + v)), some (.int x1), some (.int x2), some (.int (x3 + (1 : Int32)))] [] h18)) ∧ ((h18 (v + 2) r18.toNatClampNeg) = (12 : Int32) → (mm_SI Γ smM_V_at [.int x1, .int x3] h18 (fun r33 h33 => (vp_in r33 72) ∧ ((¬ (h33 (v + 3) r33.toNatClampNeg) = x2 → (mm_W Γ smM_V_firstPoint (mm_pI post) 2 [some (.ref (mm_B Γ + v)), some (.int x1), some (.int x2), some (.int (x3 + (1 : Int32)))] [] h33)) ∧ ((h33 (v + 3) r33.toNatClampNeg) = x2 → (post x3 h33)))))))))))) : mm_W Γ smM_V_firstPoint (mm_pI post) 2 [some (.ref (mm_B Γ + v)), some (.int x1), some (.int x2), some (.int x3)] [] h := by
  refine mm_iload_n (n := 3) (i := 3) smd_V_firstPoint_2 rfl rfl rfl ?_
  refine mm_aload_n (n := 4) (i := 0) smd_V_firstPoint_3 rfl rfl rfl ?_
  refine mm_get (n := 7) (v := .ref (mm_B Γ + (v + 1))) smk_V_9 (smb_V h_v) rfl smd_V_firstPoint_4 rfl ?_
  refine mm_iload_n (n := 8) (i := 1) smd_V_firstPoint_7 rfl rfl rfl ?_
  refine mm_iald (n := 9) (sma_V1 h_v) hT.1 smd_V_firstPoint_8 rfl ?_
  replace hT := hT.2
  refine mm_icmp_ge (n := 12) (tgt := 49) smd_V_firstPoint_9 rfl rfl (fun hc => ?_) (fun hc => ?_)
  · replace hT := hT.1 hc
    refine mm_iconst (n := 50) (v := -1) smd_V_firstPoint_49 rfl (by decide) ?_
    exact mm_iret rfl smd_V_firstPoint_50 ⟨_, rfl, hT⟩
  · replace hT := hT.2 hc
    refine mm_aload_n (n := 13) (i := 0) smd_V_firstPoint_12 rfl rfl rfl ?_
    refine mm_get (n := 16) (v := .ref (mm_B Γ + (v + 2))) smk_V_15 (smb_V h_v) rfl smd_V_firstPoint_13 rfl ?_
    refine mm_iload_n (n := 17) (i := 1) smd_V_firstPoint_16 rfl rfl rfl ?_
    refine mm_iload_n (n := 18) (i := 3) smd_V_firstPoint_17 rfl rfl rfl ?_
    refine mm_callSI (n := 21) (As := [.int x1, .int x3]) (rest := [.ref (mm_B Γ + (v + 2))]) smv_V_at smw_223 (mm_hRm (by decide) (by decide)) smd_V_firstPoint_18 rfl rfl (Nat.le_of_ble_eq_true rfl) hT (fun r18 h18 hT => ?_)
    refine mm_iald (n := 22) (sma_V2 h_v) hT.1 smd_V_firstPoint_21 rfl ?_
    replace hT := hT.2
    refine mm_bipush (n := 24) (v := 12) smd_V_firstPoint_22 rfl (by decide) ?_
    refine mm_icmp_ne (n := 27) (tgt := 43) smd_V_firstPoint_24 rfl rfl (fun hc => ?_) (fun hc => ?_)
    · replace hT := hT.1 hc
      refine mm_iinc (n := 46) (i := 3) (d := 1) (L' := [some (.ref (mm_B Γ + v)), some (.int x1), some (.int x2), some (.int (x3 + (1 : Int32)))]) smd_V_firstPoint_43 rfl rfl (by decide) (by decide) rfl ?_
      refine mm_goto (n := 2) smd_V_firstPoint_46 rfl ?_
      exact mm_weak (by refine ⟨rfl, rfl, rfl, rfl, trivial⟩) hT
    · replace hT := hT.2 hc
      refine mm_aload_n (n := 28) (i := 0) smd_V_firstPoint_27 rfl rfl rfl ?_
      refine mm_get (n := 31) (v := .ref (mm_B Γ + (v + 3))) smk_V_18 (smb_V h_v) rfl smd_V_firstPoint_28 rfl ?_
      refine mm_iload_n (n := 32) (i := 1) smd_V_firstPoint_31 rfl rfl rfl ?_
      refine mm_iload_n (n := 33) (i := 3) smd_V_firstPoint_32 rfl rfl rfl ?_
      refine mm_callSI (n := 36) (As := [.int x1, .int x3]) (rest := [.ref (mm_B Γ + (v + 3))]) smv_V_at smw_223 (mm_hRm (by decide) (by decide)) smd_V_firstPoint_33 rfl rfl (Nat.le_of_ble_eq_true rfl) hT (fun r33 h33 hT => ?_)
      refine mm_iald (n := 37) (sma_V3 h_v) hT.1 smd_V_firstPoint_36 rfl ?_
      replace hT := hT.2
      refine mm_iload_n (n := 38) (i := 2) smd_V_firstPoint_37 rfl rfl rfl ?_
      refine mm_icmp_ne (n := 41) (tgt := 43) smd_V_firstPoint_38 rfl rfl (fun hc => ?_) (fun hc => ?_)
      · replace hT := hT.1 hc
        refine mm_iinc (n := 46) (i := 3) (d := 1) (L' := [some (.ref (mm_B Γ + v)), some (.int x1), some (.int x2), some (.int (x3 + (1 : Int32)))]) smd_V_firstPoint_43 rfl rfl (by decide) (by decide) rfl ?_
        refine mm_goto (n := 2) smd_V_firstPoint_46 rfl ?_
        exact mm_weak (by refine ⟨rfl, rfl, rfl, rfl, trivial⟩) hT
      · replace hT := hT.2 hc
        refine mm_iload_n (n := 42) (i := 3) smd_V_firstPoint_41 rfl rfl rfl ?_
        exact mm_iret rfl smd_V_firstPoint_42 ⟨_, rfl, hT⟩
set_option maxHeartbeats 4000000 in
set_option maxRecDepth 100000 in
theorem smr_V_firstWrongWord {Γ : mm_Ctx} {post : Int32 → mm_Mem → Prop} {h : mm_Mem} {v : Nat} (h_v : v = 1 ∨ v = 8) (hT : mm_W Γ smM_V_firstWrongWord (mm_pI post) 2 [some (.ref (mm_B Γ + v)), some (.int (0 : Int32)), none, none, none] [] h) : mm_SI Γ smM_V_firstWrongWord [.ref (mm_B Γ + v)] h post := by
  refine mm_spec0 (M := smM_V_firstWrongWord) 4 (by decide +kernel) rfl (Nat.le_of_ble_eq_true rfl) ?_
  show mm_W Γ smM_V_firstWrongWord (mm_pI post) 0 [some (.ref (mm_B Γ + v)), none, none, none, none] [] h
  refine mm_iconst (n := 1) (v := 0) smd_V_firstWrongWord_0 rfl (by decide) ?_
  refine mm_istore_n (n := 2) (i := 1) (L' := [some (.ref (mm_B Γ + v)), some (.int (0 : Int32)), none, none, none]) smd_V_firstWrongWord_1 rfl rfl (by decide) rfl ?_
  exact mm_weak (by refine ⟨rfl, rfl, trivial⟩) hT
set_option maxHeartbeats 4000000 in
set_option maxRecDepth 100000 in
theorem smr_V_firstWrongWord_2 {Γ : mm_Ctx} {post : Int32 → mm_Mem → Prop} {h : mm_Mem} {v : Nat} (h_v : v = 1 ∨ v = 8) (x1 : Int32) (hT : ((6 : Int32) ≤ x1 → (post (-1 : Int32) h)) ∧ (¬ (6 : Int32) ≤ x1 → (mm_W Γ smM_V_firstWrongWord (mm_pI post) 10 [some (.ref (mm_B Γ + v)), some (.int x1), some (.int (0 : Int32)), none, none] [] h))) : mm_W Γ smM_V_firstWrongWord (mm_pI post) 2 [some (.ref (mm_B Γ + v)), some (.int x1), none, none, none] [] h := by
  refine mm_iload_n (n := 3) (i := 1) smd_V_firstWrongWord_2 rfl rfl rfl ?_
  refine mm_bipush (n := 5) (v := 6) smd_V_firstWrongWord_3 rfl (by decide) ?_
  refine mm_icmp_ge (n := 8) (tgt := 82) smd_V_firstWrongWord_5 rfl rfl (fun hc => ?_) (fun hc => ?_)
  · replace hT := hT.1 hc
    refine mm_iconst (n := 83) (v := -1) smd_V_firstWrongWord_82 rfl (by decide) ?_
    exact mm_iret rfl smd_V_firstWrongWord_83 ⟨_, rfl, hT⟩
  · replace hT := hT.2 hc
    refine mm_iconst (n := 9) (v := 0) smd_V_firstWrongWord_8 rfl (by decide) ?_
    refine mm_istore_n (n := 10) (i := 2) (L' := [some (.ref (mm_B Γ + v)), some (.int x1), some (.int (0 : Int32)), none, none]) smd_V_firstWrongWord_9 rfl rfl (by decide) rfl ?_
    exact mm_weak (by refine ⟨rfl, rfl, rfl, trivial⟩) hT
set_option maxHeartbeats 4000000 in
set_option maxRecDepth 100000 in
theorem smr_V_firstWrongWord_10 {Γ : mm_Ctx} {post : Int32 → mm_Mem → Prop} {h : mm_Mem} {v : Nat} (h_v : v = 1 ∨ v = 8) (x1 : Int32) (x2 : Int32) (hT : (vp_in x1 6) ∧ (((h (v + 1) x1.toNatClampNeg) ≤ x2 → (mm_W Γ smM_V_firstWrongWord (mm_pI post) 2 [some (.ref (mm_B Γ + v)), some (.int (x1 + (1 : Int32))), none, none, none] [] h)) ∧ (¬ (h (v + 1) x1.toNatClampNeg) ≤ x2 → (mm_SI Γ smM_V_at [.int x1, .int x2] h (fun r22 h22 => (vp_in x1 6) ∧ ((¬ x2 = ((h22 (v + 1) x1.toNatClampNeg) - (1 : Int32)) → ((¬ (0 : Int32) = 0 → (post r22 h22)) ∧ ((0 : Int32) = 0 → (mm_SI Γ smM_V_isRight [.ref (mm_B Γ + v), .int x1, .int r22] h22 (fun r62 h62 => (¬ r62 = 0 → (mm_W Γ smM_V_firstWrongWord (mm_pI post) 10 [some (.ref (mm_B Γ + v)), some (.int x1), some (.int (x2 + (1 : Int32))), none, none] [] h62)) ∧ (r62 = 0 → (post r22 h62))))))) ∧ (x2 = ((h22 (v + 1) x1.toNatClampNeg) - (1 : Int32)) → ((vp_in r22 72) ∧ (((h22 (v + 2) r22.toNatClampNeg) = 0 → ((¬ (0 : Int32) = 0 → (post r22 h22)) ∧ ((0 : Int32) = 0 → (mm_SI Γ smM_V_isRight [.ref (mm_B Γ + v), .int x1, .int r22] h22 (fun r62 h62 => (¬ r62 = 0 → (mm_W Γ smM_V_firstWrongWord (mm_pI post) 10 [some (.ref (mm_B Γ + v)), some (.int x1), some (.int (x2 + (1 : Int32))), none, none] [] h62)) ∧ (r62 = 0 → (post r22 h62))))))) ∧ (¬ (h22 (v + 2) r22.toNatClampNeg) = 0 → ((¬ (1 : Int32) = 0 → (post r22 h22)) ∧ ((1 : Int32) = 0 → (mm_SI Γ smM_V_isRight [.ref (mm_B Γ + v), .int x1, .int r22] h22 (fun r62 h62 => (¬ r62 = 0 → (mm_W Γ smM_V_firstWrongWord (mm_pI post) 10 [some (.ref (mm_B Γ + v)), some (.int x1), some (.int (x2 + (1 : Int32))), none, none] [] h62)) ∧ (r62 = 0 → (post r22 h62)))))))))))))))) : mm_W Γ smM_V_firstWrongWord (mm_pI post) 10 [some (.ref (mm_B Γ + v)), some (.int x1), some (.int x2), none, none] [] h := by
  refine mm_iload_n (n := 11) (i := 2) smd_V_firstWrongWord_10 rfl rfl rfl ?_
  refine mm_aload_n (n := 12) (i := 0) smd_V_firstWrongWord_11 rfl rfl rfl ?_
  refine mm_get (n := 15) (v := .ref (mm_B Γ + (v + 1))) smk_V_9 (smb_V h_v) rfl smd_V_firstWrongWord_12 rfl ?_
  refine mm_iload_n (n := 16) (i := 1) smd_V_firstWrongWord_15 rfl rfl rfl ?_
  refine mm_iald (n := 17) (sma_V1 h_v) hT.1 smd_V_firstWrongWord_16 rfl ?_
  replace hT := hT.2
  refine mm_icmp_ge (n := 20) (tgt := 76) smd_V_firstWrongWord_17 rfl rfl (fun hc => ?_) (fun hc => ?_)
  · replace hT := hT.1 hc
    refine mm_iinc (n := 79) (i := 1) (d := 1) (L' := [some (.ref (mm_B Γ + v)), some (.int (x1 + (1 : Int32))), some (.int x2), none, none]) smd_V_firstWrongWord_76 rfl rfl (by decide) (by decide) rfl ?_
    refine mm_goto (n := 2) smd_V_firstWrongWord_79 rfl ?_
    exact mm_weak (by refine ⟨rfl, rfl, trivial⟩) hT
  · replace hT := hT.2 hc
    refine mm_iload_n (n := 21) (i := 1) smd_V_firstWrongWord_20 rfl rfl rfl ?_
    refine mm_iload_n (n := 22) (i := 2) smd_V_firstWrongWord_21 rfl rfl rfl ?_
    refine mm_callSI (n := 25) (As := [.int x1, .int x2]) (rest := []) smv_V_at smw_223 (mm_hRm (by decide) (by decide)) smd_V_firstWrongWord_22 rfl rfl (Nat.le_of_ble_eq_true rfl) hT (fun r22 h22 hT => ?_)
    refine mm_istore_n (n := 26) (i := 3) (L' := [some (.ref (mm_B Γ + v)), some (.int x1), some (.int x2), some (.int r22), none]) smd_V_firstWrongWord_25 rfl rfl (by decide) rfl ?_
    refine mm_iload_n (n := 27) (i := 2) smd_V_firstWrongWord_26 rfl rfl rfl ?_
    refine mm_aload_n (n := 28) (i := 0) smd_V_firstWrongWord_27 rfl rfl rfl ?_
    refine mm_get (n := 31) (v := .ref (mm_B Γ + (v + 1))) smk_V_9 (smb_V h_v) rfl smd_V_firstWrongWord_28 rfl ?_
    refine mm_iload_n (n := 32) (i := 1) smd_V_firstWrongWord_31 rfl rfl rfl ?_
    refine mm_iald (n := 33) (sma_V1 h_v) hT.1 smd_V_firstWrongWord_32 rfl ?_
    replace hT := hT.2
    refine mm_iconst (n := 34) (v := 1) smd_V_firstWrongWord_33 rfl (by decide) ?_
    refine mm_isub (n := 35) smd_V_firstWrongWord_34 rfl ?_
    refine mm_icmp_ne (n := 38) (tgt := 51) smd_V_firstWrongWord_35 rfl rfl (fun hc => ?_) (fun hc => ?_)
    · replace hT := hT.1 hc
      refine mm_iconst (n := 52) (v := 0) smd_V_firstWrongWord_51 rfl (by decide) ?_
      refine mm_istore (n := 54) (i := 4) (L' := [some (.ref (mm_B Γ + v)), some (.int x1), some (.int x2), some (.int r22), some (.int (0 : Int32))]) smd_V_firstWrongWord_52 rfl (by decide) rfl ?_
      refine mm_iload (n := 56) (i := 4) smd_V_firstWrongWord_54 rfl rfl ?_
      refine mm_if_ne (n := 59) (tgt := 68) smd_V_firstWrongWord_56 rfl rfl (fun hc => ?_) (fun hc => ?_)
      · replace hT := hT.1 hc
        refine mm_iload_n (n := 69) (i := 3) smd_V_firstWrongWord_68 rfl rfl rfl ?_
        exact mm_iret rfl smd_V_firstWrongWord_69 ⟨_, rfl, hT⟩
      · replace hT := hT.2 hc
        refine mm_aload_n (n := 60) (i := 0) smd_V_firstWrongWord_59 rfl rfl rfl ?_
        refine mm_iload_n (n := 61) (i := 1) smd_V_firstWrongWord_60 rfl rfl rfl ?_
        refine mm_iload_n (n := 62) (i := 3) smd_V_firstWrongWord_61 rfl rfl rfl ?_
        refine mm_callVI (n := 65) (As := [.int x1, .int r22]) (rest := []) smv_V_isRight smw_274 (smb_V h_v) (mm_hRm (by decide) (by decide)) smd_V_firstWrongWord_62 rfl rfl (Nat.le_of_ble_eq_true rfl) hT (fun r62 h62 hT => ?_)
        refine mm_if_ne (n := 68) (tgt := 70) smd_V_firstWrongWord_65 rfl rfl (fun hc => ?_) (fun hc => ?_)
        · replace hT := hT.1 hc
          refine mm_iinc (n := 73) (i := 2) (d := 1) (L' := [some (.ref (mm_B Γ + v)), some (.int x1), some (.int (x2 + (1 : Int32))), some (.int r22), some (.int (0 : Int32))]) smd_V_firstWrongWord_70 rfl rfl (by decide) (by decide) rfl ?_
          refine mm_goto (n := 10) smd_V_firstWrongWord_73 rfl ?_
          exact mm_weak (by refine ⟨rfl, rfl, rfl, trivial⟩) hT
        · replace hT := hT.2 hc
          refine mm_iload_n (n := 69) (i := 3) smd_V_firstWrongWord_68 rfl rfl rfl ?_
          exact mm_iret rfl smd_V_firstWrongWord_69 ⟨_, rfl, hT⟩
    · replace hT := hT.2 hc
      refine mm_aload_n (n := 39) (i := 0) smd_V_firstWrongWord_38 rfl rfl rfl ?_
      refine mm_get (n := 42) (v := .ref (mm_B Γ + (v + 2))) smk_V_15 (smb_V h_v) rfl smd_V_firstWrongWord_39 rfl ?_
      refine mm_iload_n (n := 43) (i := 3) smd_V_firstWrongWord_42 rfl rfl rfl ?_
      refine mm_iald (n := 44) (sma_V2 h_v) hT.1 smd_V_firstWrongWord_43 rfl ?_
      replace hT := hT.2
      refine mm_if_eq (n := 47) (tgt := 51) smd_V_firstWrongWord_44 rfl rfl (fun hc => ?_) (fun hc => ?_)
      · replace hT := hT.1 hc
        refine mm_iconst (n := 52) (v := 0) smd_V_firstWrongWord_51 rfl (by decide) ?_
        refine mm_istore (n := 54) (i := 4) (L' := [some (.ref (mm_B Γ + v)), some (.int x1), some (.int x2), some (.int r22), some (.int (0 : Int32))]) smd_V_firstWrongWord_52 rfl (by decide) rfl ?_
        refine mm_iload (n := 56) (i := 4) smd_V_firstWrongWord_54 rfl rfl ?_
        refine mm_if_ne (n := 59) (tgt := 68) smd_V_firstWrongWord_56 rfl rfl (fun hc => ?_) (fun hc => ?_)
        · replace hT := hT.1 hc
          refine mm_iload_n (n := 69) (i := 3) smd_V_firstWrongWord_68 rfl rfl rfl ?_
          exact mm_iret rfl smd_V_firstWrongWord_69 ⟨_, rfl, hT⟩
        · replace hT := hT.2 hc
          refine mm_aload_n (n := 60) (i := 0) smd_V_firstWrongWord_59 rfl rfl rfl ?_
          refine mm_iload_n (n := 61) (i := 1) smd_V_firstWrongWord_60 rfl rfl rfl ?_
          refine mm_iload_n (n := 62) (i := 3) smd_V_firstWrongWord_61 rfl rfl rfl ?_
          refine mm_callVI (n := 65) (As := [.int x1, .int r22]) (rest := []) smv_V_isRight smw_274 (smb_V h_v) (mm_hRm (by decide) (by decide)) smd_V_firstWrongWord_62 rfl rfl (Nat.le_of_ble_eq_true rfl) hT (fun r62 h62 hT => ?_)
          refine mm_if_ne (n := 68) (tgt := 70) smd_V_firstWrongWord_65 rfl rfl (fun hc => ?_) (fun hc => ?_)
          · replace hT := hT.1 hc
            refine mm_iinc (n := 73) (i := 2) (d := 1) (L' := [some (.ref (mm_B Γ + v)), some (.int x1), some (.int (x2 + (1 : Int32))), some (.int r22), some (.int (0 : Int32))]) smd_V_firstWrongWord_70 rfl rfl (by decide) (by decide) rfl ?_
            refine mm_goto (n := 10) smd_V_firstWrongWord_73 rfl ?_
            exact mm_weak (by refine ⟨rfl, rfl, rfl, trivial⟩) hT
          · replace hT := hT.2 hc
            refine mm_iload_n (n := 69) (i := 3) smd_V_firstWrongWord_68 rfl rfl rfl ?_
            exact mm_iret rfl smd_V_firstWrongWord_69 ⟨_, rfl, hT⟩
      · replace hT := hT.2 hc
        refine mm_iconst (n := 48) (v := 1) smd_V_firstWrongWord_47 rfl (by decide) ?_
        refine mm_goto (n := 52) smd_V_firstWrongWord_48 rfl ?_
        refine mm_istore (n := 54) (i := 4) (L' := [some (.ref (mm_B Γ + v)), some (.int x1), some (.int x2), some (.int r22), some (.int (1 : Int32))]) smd_V_firstWrongWord_52 rfl (by decide) rfl ?_
        refine mm_iload (n := 56) (i := 4) smd_V_firstWrongWord_54 rfl rfl ?_
        refine mm_if_ne (n := 59) (tgt := 68) smd_V_firstWrongWord_56 rfl rfl (fun hc => ?_) (fun hc => ?_)
        · replace hT := hT.1 hc
          refine mm_iload_n (n := 69) (i := 3) smd_V_firstWrongWord_68 rfl rfl rfl ?_
          exact mm_iret rfl smd_V_firstWrongWord_69 ⟨_, rfl, hT⟩
        · replace hT := hT.2 hc
          refine mm_aload_n (n := 60) (i := 0) smd_V_firstWrongWord_59 rfl rfl rfl ?_
          refine mm_iload_n (n := 61) (i := 1) smd_V_firstWrongWord_60 rfl rfl rfl ?_
          refine mm_iload_n (n := 62) (i := 3) smd_V_firstWrongWord_61 rfl rfl rfl ?_
          refine mm_callVI (n := 65) (As := [.int x1, .int r22]) (rest := []) smv_V_isRight smw_274 (smb_V h_v) (mm_hRm (by decide) (by decide)) smd_V_firstWrongWord_62 rfl rfl (Nat.le_of_ble_eq_true rfl) hT (fun r62 h62 hT => ?_)
          refine mm_if_ne (n := 68) (tgt := 70) smd_V_firstWrongWord_65 rfl rfl (fun hc => ?_) (fun hc => ?_)
          · replace hT := hT.1 hc
            refine mm_iinc (n := 73) (i := 2) (d := 1) (L' := [some (.ref (mm_B Γ + v)), some (.int x1), some (.int (x2 + (1 : Int32))), some (.int r22), some (.int (1 : Int32))]) smd_V_firstWrongWord_70 rfl rfl (by decide) (by decide) rfl ?_
            refine mm_goto (n := 10) smd_V_firstWrongWord_73 rfl ?_
            exact mm_weak (by refine ⟨rfl, rfl, rfl, trivial⟩) hT
          · replace hT := hT.2 hc
            refine mm_iload_n (n := 69) (i := 3) smd_V_firstWrongWord_68 rfl rfl rfl ?_
            exact mm_iret rfl smd_V_firstWrongWord_69 ⟨_, rfl, hT⟩
set_option maxHeartbeats 4000000 in
set_option maxRecDepth 100000 in
theorem smr_V_isRight {Γ : mm_Ctx} {post : Int32 → mm_Mem → Prop} {h : mm_Mem} {v : Nat} (h_v : v = 1 ∨ v = 8) (x1 : Int32) (x2 : Int32) (hT : (vp_in x2 72) ∧ (((h (v + 2) x2.toNatClampNeg) = 0 ∨ (h (v + 2) x2.toNatClampNeg) = 1 ∨ (h (v + 2) x2.toNatClampNeg) = 11 → ((vp_in x2 72) ∧ (mm_SI Γ smM_V_isLocal [.int (h (v + 3) x2.toNatClampNeg)] h (fun r78 h78 => (r78 = 0 ∨ r78 = 1) ∧ post r78 h78)))) ∧ ((h (v + 2) x2.toNatClampNeg) = 2 ∨ (h (v + 2) x2.toNatClampNeg) = 3 → ((vp_in x2 72) ∧ (mm_SI Γ smM_V_isLocal [.int (h (v + 3) x2.toNatClampNeg)] h (fun r88 h88 => (r88 = 0 → (post (0 : Int32) h88)) ∧ (¬ r88 = 0 → ((vp_in x2 72) ∧ (mm_SI Γ smM_V_isLocal [.int (h88 (v + 4) x2.toNatClampNeg)] h88 (fun r100 h100 => (r100 = 0 → (post (0 : Int32) h100)) ∧ (¬ r100 = 0 → ((vp_in x2 72) ∧ (mm_SI Γ smM_V_isLocal [.int (h100 (v + 5) x2.toNatClampNeg)] h100 (fun r112 h112 => (r112 = 0 → (post (0 : Int32) h112)) ∧ (¬ r112 = 0 → (post (1 : Int32) h112)))))))))))))) ∧ ((h (v + 2) x2.toNatClampNeg) = 4 → ((vp_in x2 72) ∧ (mm_SI Γ smM_V_isLocal [.int (h (v + 3) x2.toNatClampNeg)] h (fun r130 h130 => (r130 = 0 → (post (0 : Int32) h130)) ∧ (¬ r130 = 0 → ((vp_in x2 72) ∧ ((vp_in x1 6) ∧ (mm_SI Γ smM_S_isWithin [.int (h130 (v + 4) x2.toNatClampNeg), .int (h130 (v + 1) x1.toNatClampNeg)] h130 (fun r148 h148 => (r148 = 0 → (post (0 : Int32) h148)) ∧ (¬ r148 = 0 → (post (1 : Int32) h148))))))))))) ∧ ((h (v + 2) x2.toNatClampNeg) = 5 → ((vp_in x2 72) ∧ (mm_SI Γ smM_V_isLocal [.int (h (v + 3) x2.toNatClampNeg)] h (fun r166 h166 => (r166 = 0 → (post (0 : Int32) h166)) ∧ (¬ r166 = 0 → ((vp_in x2 72) ∧ (mm_SI Γ smM_V_hasProcedure [.ref (mm_B Γ + v), .int (h166 (v + 4) x2.toNatClampNeg)] h166 (fun r179 h179 => (r179 = 0 → (post (0 : Int32) h179)) ∧ (¬ r179 = 0 → ((vp_in x2 72) ∧ (mm_SI Γ smM_V_isLocal [.int (h179 (v + 5) x2.toNatClampNeg)] h179 (fun r191 h191 => (r191 = 0 → (post (0 : Int32) h191)) ∧ (¬ r191 = 0 → (post (1 : Int32) h191)))))))))))))) ∧ ((h (v + 2) x2.toNatClampNeg) = 6 → ((vp_in x2 72) ∧ (mm_SI Γ smM_V_isLocal [.int (h (v + 3) x2.toNatClampNeg)] h (fun r209 h209 => (r209 = 0 → (post (0 : Int32) h209)) ∧ (¬ r209 = 0 → ((vp_in x2 72) ∧ (mm_SI Γ smM_S_isWithin [.int (h209 (v + 4) x2.toNatClampNeg), .int (3 : Int32)] h209 (fun r222 h222 => (r222 = 0 → (post (0 : Int32) h222)) ∧ (¬ r222 = 0 → ((vp_in x2 72) ∧ ((vp_in (h222 (v + 4) x2.toNatClampNeg) 3) ∧ (((h222 (v + 6) (h222 (v + 4) x2.toNatClampNeg).toNatClampNeg) ≤ 0 → (post (0 : Int32) h222)) ∧ (¬ (h222 (v + 6) (h222 (v + 4) x2.toNatClampNeg).toNatClampNeg) ≤ 0 → (post (1 : Int32) h222)))))))))))))) ∧ ((h (v + 2) x2.toNatClampNeg) = 7 ∨ (h (v + 2) x2.toNatClampNeg) = 8 → ((vp_in x2 72) ∧ (mm_SI Γ smM_V_isLocal [.int (h (v + 3) x2.toNatClampNeg)] h (fun r254 h254 => (r254 = 0 → (post (0 : Int32) h254)) ∧ (¬ r254 = 0 → ((vp_in x2 72) ∧ (mm_SI Γ smM_V_isLocal [.int (h254 (v + 4) x2.toNatClampNeg)] h254 (fun r266 h266 => (r266 = 0 → (post (0 : Int32) h266)) ∧ (¬ r266 = 0 → ((vp_in x2 72) ∧ (mm_SI Γ smM_V_isFieldOfType [.ref (mm_B Γ + v), .int (h266 (v + 5) x2.toNatClampNeg)] h266 (fun r279 h279 => (r279 = 0 → (post (0 : Int32) h279)) ∧ (¬ r279 = 0 → (post (1 : Int32) h279)))))))))))))) ∧ ((h (v + 2) x2.toNatClampNeg) = 9 ∨ (h (v + 2) x2.toNatClampNeg) = 10 → ((vp_in x2 72) ∧ (mm_SI Γ smM_V_isLocal [.int (h (v + 3) x2.toNatClampNeg)] h (fun r297 h297 => (r297 = 0 → (post (0 : Int32) h297)) ∧ (¬ r297 = 0 → ((vp_in x2 72) ∧ (mm_SI Γ smM_S_isWithin [.int (h297 (v + 4) x2.toNatClampNeg), .int (4 : Int32)] h297 (fun r310 h310 => (r310 = 0 → (post (0 : Int32) h310)) ∧ (¬ r310 = 0 → (post (1 : Int32) h310)))))))))) ∧ ((h (v + 2) x2.toNatClampNeg) = 12 → ((vp_in x2 72) ∧ (mm_SI Γ smM_S_isWithin [.int (h (v + 3) x2.toNatClampNeg), .int (4 : Int32)] h (fun r329 h329 => (r329 = 0 ∨ r329 = 1) ∧ post r329 h329)))) ∧ (¬ (h (v + 2) x2.toNatClampNeg) = 0 → ¬ (h (v + 2) x2.toNatClampNeg) = 1 → ¬ (h (v + 2) x2.toNatClampNeg) = 2 → ¬ (h (v + 2) x2.toNatClampNeg) = 3 → ¬ (h (v + 2) x2.toNatClampNeg) = 4 → ¬ (h (v + 2) x2.toNatClampNeg) = 5 → ¬ (h (v + 2) x2.toNatClampNeg) = 6 → ¬ (h (v + 2) x2.toNatClampNeg) = 7 → ¬ (h (v + 2) x2.toNatClampNeg) = 8 → ¬ (h (v + 2) x2.toNatClampNeg) = 9 → ¬ (h (v + 2) x2.toNatClampNeg) = 10 → ¬ (h (v + 2) x2.toNatClampNeg) = 11 → ¬ (h (v + 2) x2.toNatClampNeg) = 12 → (post (0 : Int32) h)))) : mm_SI Γ smM_V_isRight [.ref (mm_B Γ + v), .int x1, .int x2] h post := by
  refine mm_spec0 (M := smM_V_isRight) 0 (by decide +kernel) rfl (Nat.le_of_ble_eq_true rfl) ?_
  show mm_W Γ smM_V_isRight (mm_pI post) 0 [some (.ref (mm_B Γ + v)), some (.int x1), some (.int x2)] [] h
  refine mm_aload_n (n := 1) (i := 0) smd_V_isRight_0 rfl rfl rfl ?_
  refine mm_get (n := 4) (v := .ref (mm_B Γ + (v + 2))) smk_V_15 (smb_V h_v) rfl smd_V_isRight_1 rfl ?_
  refine mm_iload_n (n := 5) (i := 2) smd_V_isRight_4 rfl rfl rfl ?_
  refine mm_iald (n := 6) (sma_V2 h_v) hT.1 smd_V_isRight_5 rfl ?_
  replace hT := hT.2
  by_cases e : (h (v + 2) x2.toNatClampNeg) = 0
  · refine mm_tIn (tgt := 72) smd_V_isRight_6 0 e (by decide) (by decide) rfl rfl ?_
    replace hT := hT.1 (Or.inl e)
    refine mm_aload_n (n := 73) (i := 0) smd_V_isRight_72 rfl rfl rfl ?_
    refine mm_get (n := 76) (v := .ref (mm_B Γ + (v + 3))) smk_V_18 (smb_V h_v) rfl smd_V_isRight_73 rfl ?_
    refine mm_iload_n (n := 77) (i := 2) smd_V_isRight_76 rfl rfl rfl ?_
    refine mm_iald (n := 78) (sma_V3 h_v) hT.1 smd_V_isRight_77 rfl ?_
    replace hT := hT.2
    refine mm_callSI (n := 81) (As := [.int (h (v + 3) x2.toNatClampNeg)]) (rest := []) smv_V_isLocal smw_278 (mm_hRm (by decide) (by decide)) smd_V_isRight_78 rfl rfl (Nat.le_of_ble_eq_true rfl) hT (fun r78 h78 hT => ?_)
    exact mm_zret rfl hT.1 smd_V_isRight_81 ⟨_, rfl, hT.2⟩
  have n0 := e
  clear e
  by_cases e : (h (v + 2) x2.toNatClampNeg) = 1
  · refine mm_tIn (tgt := 72) smd_V_isRight_6 1 e (by decide) (by decide) rfl rfl ?_
    replace hT := hT.1 (Or.inr (Or.inl e))
    refine mm_aload_n (n := 73) (i := 0) smd_V_isRight_72 rfl rfl rfl ?_
    refine mm_get (n := 76) (v := .ref (mm_B Γ + (v + 3))) smk_V_18 (smb_V h_v) rfl smd_V_isRight_73 rfl ?_
    refine mm_iload_n (n := 77) (i := 2) smd_V_isRight_76 rfl rfl rfl ?_
    refine mm_iald (n := 78) (sma_V3 h_v) hT.1 smd_V_isRight_77 rfl ?_
    replace hT := hT.2
    refine mm_callSI (n := 81) (As := [.int (h (v + 3) x2.toNatClampNeg)]) (rest := []) smv_V_isLocal smw_278 (mm_hRm (by decide) (by decide)) smd_V_isRight_78 rfl rfl (Nat.le_of_ble_eq_true rfl) hT (fun r78 h78 hT => ?_)
    exact mm_zret rfl hT.1 smd_V_isRight_81 ⟨_, rfl, hT.2⟩
  have n1 := e
  clear e
  by_cases e : (h (v + 2) x2.toNatClampNeg) = 2
  · refine mm_tIn (tgt := 82) smd_V_isRight_6 2 e (by decide) (by decide) rfl rfl ?_
    replace hT := hT.2.1 (Or.inl e)
    refine mm_aload_n (n := 83) (i := 0) smd_V_isRight_82 rfl rfl rfl ?_
    refine mm_get (n := 86) (v := .ref (mm_B Γ + (v + 3))) smk_V_18 (smb_V h_v) rfl smd_V_isRight_83 rfl ?_
    refine mm_iload_n (n := 87) (i := 2) smd_V_isRight_86 rfl rfl rfl ?_
    refine mm_iald (n := 88) (sma_V3 h_v) hT.1 smd_V_isRight_87 rfl ?_
    replace hT := hT.2
    refine mm_callSI (n := 91) (As := [.int (h (v + 3) x2.toNatClampNeg)]) (rest := []) smv_V_isLocal smw_278 (mm_hRm (by decide) (by decide)) smd_V_isRight_88 rfl rfl (Nat.le_of_ble_eq_true rfl) hT (fun r88 h88 hT => ?_)
    refine mm_if_eq (n := 94) (tgt := 122) smd_V_isRight_91 rfl rfl (fun hc => ?_) (fun hc => ?_)
    · replace hT := hT.1 hc
      refine mm_iconst (n := 123) (v := 0) smd_V_isRight_122 rfl (by decide) ?_
      exact mm_zret rfl (Or.inl rfl) smd_V_isRight_123 ⟨_, rfl, hT⟩
    · replace hT := hT.2 hc
      refine mm_aload_n (n := 95) (i := 0) smd_V_isRight_94 rfl rfl rfl ?_
      refine mm_get (n := 98) (v := .ref (mm_B Γ + (v + 4))) smk_V_21 (smb_V h_v) rfl smd_V_isRight_95 rfl ?_
      refine mm_iload_n (n := 99) (i := 2) smd_V_isRight_98 rfl rfl rfl ?_
      refine mm_iald (n := 100) (sma_V4 h_v) hT.1 smd_V_isRight_99 rfl ?_
      replace hT := hT.2
      refine mm_callSI (n := 103) (As := [.int (h88 (v + 4) x2.toNatClampNeg)]) (rest := []) smv_V_isLocal smw_278 (mm_hRm (by decide) (by decide)) smd_V_isRight_100 rfl rfl (Nat.le_of_ble_eq_true rfl) hT (fun r100 h100 hT => ?_)
      refine mm_if_eq (n := 106) (tgt := 122) smd_V_isRight_103 rfl rfl (fun hc => ?_) (fun hc => ?_)
      · replace hT := hT.1 hc
        refine mm_iconst (n := 123) (v := 0) smd_V_isRight_122 rfl (by decide) ?_
        exact mm_zret rfl (Or.inl rfl) smd_V_isRight_123 ⟨_, rfl, hT⟩
      · replace hT := hT.2 hc
        refine mm_aload_n (n := 107) (i := 0) smd_V_isRight_106 rfl rfl rfl ?_
        refine mm_get (n := 110) (v := .ref (mm_B Γ + (v + 5))) smk_V_24 (smb_V h_v) rfl smd_V_isRight_107 rfl ?_
        refine mm_iload_n (n := 111) (i := 2) smd_V_isRight_110 rfl rfl rfl ?_
        refine mm_iald (n := 112) (sma_V5 h_v) hT.1 smd_V_isRight_111 rfl ?_
        replace hT := hT.2
        refine mm_callSI (n := 115) (As := [.int (h100 (v + 5) x2.toNatClampNeg)]) (rest := []) smv_V_isLocal smw_278 (mm_hRm (by decide) (by decide)) smd_V_isRight_112 rfl rfl (Nat.le_of_ble_eq_true rfl) hT (fun r112 h112 hT => ?_)
        refine mm_if_eq (n := 118) (tgt := 122) smd_V_isRight_115 rfl rfl (fun hc => ?_) (fun hc => ?_)
        · replace hT := hT.1 hc
          refine mm_iconst (n := 123) (v := 0) smd_V_isRight_122 rfl (by decide) ?_
          exact mm_zret rfl (Or.inl rfl) smd_V_isRight_123 ⟨_, rfl, hT⟩
        · replace hT := hT.2 hc
          refine mm_iconst (n := 119) (v := 1) smd_V_isRight_118 rfl (by decide) ?_
          refine mm_goto (n := 123) smd_V_isRight_119 rfl ?_
          exact mm_zret rfl (Or.inr rfl) smd_V_isRight_123 ⟨_, rfl, hT⟩
  have n2 := e
  clear e
  by_cases e : (h (v + 2) x2.toNatClampNeg) = 3
  · refine mm_tIn (tgt := 82) smd_V_isRight_6 3 e (by decide) (by decide) rfl rfl ?_
    replace hT := hT.2.1 (Or.inr (e))
    refine mm_aload_n (n := 83) (i := 0) smd_V_isRight_82 rfl rfl rfl ?_
    refine mm_get (n := 86) (v := .ref (mm_B Γ + (v + 3))) smk_V_18 (smb_V h_v) rfl smd_V_isRight_83 rfl ?_
    refine mm_iload_n (n := 87) (i := 2) smd_V_isRight_86 rfl rfl rfl ?_
    refine mm_iald (n := 88) (sma_V3 h_v) hT.1 smd_V_isRight_87 rfl ?_
    replace hT := hT.2
    refine mm_callSI (n := 91) (As := [.int (h (v + 3) x2.toNatClampNeg)]) (rest := []) smv_V_isLocal smw_278 (mm_hRm (by decide) (by decide)) smd_V_isRight_88 rfl rfl (Nat.le_of_ble_eq_true rfl) hT (fun r88 h88 hT => ?_)
    refine mm_if_eq (n := 94) (tgt := 122) smd_V_isRight_91 rfl rfl (fun hc => ?_) (fun hc => ?_)
    · replace hT := hT.1 hc
      refine mm_iconst (n := 123) (v := 0) smd_V_isRight_122 rfl (by decide) ?_
      exact mm_zret rfl (Or.inl rfl) smd_V_isRight_123 ⟨_, rfl, hT⟩
    · replace hT := hT.2 hc
      refine mm_aload_n (n := 95) (i := 0) smd_V_isRight_94 rfl rfl rfl ?_
      refine mm_get (n := 98) (v := .ref (mm_B Γ + (v + 4))) smk_V_21 (smb_V h_v) rfl smd_V_isRight_95 rfl ?_
      refine mm_iload_n (n := 99) (i := 2) smd_V_isRight_98 rfl rfl rfl ?_
      refine mm_iald (n := 100) (sma_V4 h_v) hT.1 smd_V_isRight_99 rfl ?_
      replace hT := hT.2
      refine mm_callSI (n := 103) (As := [.int (h88 (v + 4) x2.toNatClampNeg)]) (rest := []) smv_V_isLocal smw_278 (mm_hRm (by decide) (by decide)) smd_V_isRight_100 rfl rfl (Nat.le_of_ble_eq_true rfl) hT (fun r100 h100 hT => ?_)
      refine mm_if_eq (n := 106) (tgt := 122) smd_V_isRight_103 rfl rfl (fun hc => ?_) (fun hc => ?_)
      · replace hT := hT.1 hc
        refine mm_iconst (n := 123) (v := 0) smd_V_isRight_122 rfl (by decide) ?_
        exact mm_zret rfl (Or.inl rfl) smd_V_isRight_123 ⟨_, rfl, hT⟩
      · replace hT := hT.2 hc
        refine mm_aload_n (n := 107) (i := 0) smd_V_isRight_106 rfl rfl rfl ?_
        refine mm_get (n := 110) (v := .ref (mm_B Γ + (v + 5))) smk_V_24 (smb_V h_v) rfl smd_V_isRight_107 rfl ?_
        refine mm_iload_n (n := 111) (i := 2) smd_V_isRight_110 rfl rfl rfl ?_
        refine mm_iald (n := 112) (sma_V5 h_v) hT.1 smd_V_isRight_111 rfl ?_
        replace hT := hT.2
        refine mm_callSI (n := 115) (As := [.int (h100 (v + 5) x2.toNatClampNeg)]) (rest := []) smv_V_isLocal smw_278 (mm_hRm (by decide) (by decide)) smd_V_isRight_112 rfl rfl (Nat.le_of_ble_eq_true rfl) hT (fun r112 h112 hT => ?_)
        refine mm_if_eq (n := 118) (tgt := 122) smd_V_isRight_115 rfl rfl (fun hc => ?_) (fun hc => ?_)
        · replace hT := hT.1 hc
          refine mm_iconst (n := 123) (v := 0) smd_V_isRight_122 rfl (by decide) ?_
          exact mm_zret rfl (Or.inl rfl) smd_V_isRight_123 ⟨_, rfl, hT⟩
        · replace hT := hT.2 hc
          refine mm_iconst (n := 119) (v := 1) smd_V_isRight_118 rfl (by decide) ?_
          refine mm_goto (n := 123) smd_V_isRight_119 rfl ?_
          exact mm_zret rfl (Or.inr rfl) smd_V_isRight_123 ⟨_, rfl, hT⟩
  have n3 := e
  clear e
  by_cases e : (h (v + 2) x2.toNatClampNeg) = 4
  · refine mm_tIn (tgt := 124) smd_V_isRight_6 4 e (by decide) (by decide) rfl rfl ?_
    replace hT := hT.2.2.1 (e)
    refine mm_aload_n (n := 125) (i := 0) smd_V_isRight_124 rfl rfl rfl ?_
    refine mm_get (n := 128) (v := .ref (mm_B Γ + (v + 3))) smk_V_18 (smb_V h_v) rfl smd_V_isRight_125 rfl ?_
    refine mm_iload_n (n := 129) (i := 2) smd_V_isRight_128 rfl rfl rfl ?_
    refine mm_iald (n := 130) (sma_V3 h_v) hT.1 smd_V_isRight_129 rfl ?_
    replace hT := hT.2
    refine mm_callSI (n := 133) (As := [.int (h (v + 3) x2.toNatClampNeg)]) (rest := []) smv_V_isLocal smw_278 (mm_hRm (by decide) (by decide)) smd_V_isRight_130 rfl rfl (Nat.le_of_ble_eq_true rfl) hT (fun r130 h130 hT => ?_)
    refine mm_if_eq (n := 136) (tgt := 158) smd_V_isRight_133 rfl rfl (fun hc => ?_) (fun hc => ?_)
    · replace hT := hT.1 hc
      refine mm_iconst (n := 159) (v := 0) smd_V_isRight_158 rfl (by decide) ?_
      exact mm_zret rfl (Or.inl rfl) smd_V_isRight_159 ⟨_, rfl, hT⟩
    · replace hT := hT.2 hc
      refine mm_aload_n (n := 137) (i := 0) smd_V_isRight_136 rfl rfl rfl ?_
      refine mm_get (n := 140) (v := .ref (mm_B Γ + (v + 4))) smk_V_21 (smb_V h_v) rfl smd_V_isRight_137 rfl ?_
      refine mm_iload_n (n := 141) (i := 2) smd_V_isRight_140 rfl rfl rfl ?_
      refine mm_iald (n := 142) (sma_V4 h_v) hT.1 smd_V_isRight_141 rfl ?_
      replace hT := hT.2
      refine mm_aload_n (n := 143) (i := 0) smd_V_isRight_142 rfl rfl rfl ?_
      refine mm_get (n := 146) (v := .ref (mm_B Γ + (v + 1))) smk_V_9 (smb_V h_v) rfl smd_V_isRight_143 rfl ?_
      refine mm_iload_n (n := 147) (i := 1) smd_V_isRight_146 rfl rfl rfl ?_
      refine mm_iald (n := 148) (sma_V1 h_v) hT.1 smd_V_isRight_147 rfl ?_
      replace hT := hT.2
      refine mm_callSNI (n := 151) (As := [.int (h130 (v + 4) x2.toNatClampNeg), .int (h130 (v + 1) x1.toNatClampNeg)]) (rest := []) smv_S_isWithin rfl (mm_hRm (by decide) (by decide)) smd_V_isRight_148 rfl rfl (Nat.le_of_ble_eq_true rfl) hT (fun r148 h148 hT => ?_)
      refine mm_if_eq (n := 154) (tgt := 158) smd_V_isRight_151 rfl rfl (fun hc => ?_) (fun hc => ?_)
      · replace hT := hT.1 hc
        refine mm_iconst (n := 159) (v := 0) smd_V_isRight_158 rfl (by decide) ?_
        exact mm_zret rfl (Or.inl rfl) smd_V_isRight_159 ⟨_, rfl, hT⟩
      · replace hT := hT.2 hc
        refine mm_iconst (n := 155) (v := 1) smd_V_isRight_154 rfl (by decide) ?_
        refine mm_goto (n := 159) smd_V_isRight_155 rfl ?_
        exact mm_zret rfl (Or.inr rfl) smd_V_isRight_159 ⟨_, rfl, hT⟩
  have n4 := e
  clear e
  by_cases e : (h (v + 2) x2.toNatClampNeg) = 5
  · refine mm_tIn (tgt := 160) smd_V_isRight_6 5 e (by decide) (by decide) rfl rfl ?_
    replace hT := hT.2.2.2.1 (e)
    refine mm_aload_n (n := 161) (i := 0) smd_V_isRight_160 rfl rfl rfl ?_
    refine mm_get (n := 164) (v := .ref (mm_B Γ + (v + 3))) smk_V_18 (smb_V h_v) rfl smd_V_isRight_161 rfl ?_
    refine mm_iload_n (n := 165) (i := 2) smd_V_isRight_164 rfl rfl rfl ?_
    refine mm_iald (n := 166) (sma_V3 h_v) hT.1 smd_V_isRight_165 rfl ?_
    replace hT := hT.2
    refine mm_callSI (n := 169) (As := [.int (h (v + 3) x2.toNatClampNeg)]) (rest := []) smv_V_isLocal smw_278 (mm_hRm (by decide) (by decide)) smd_V_isRight_166 rfl rfl (Nat.le_of_ble_eq_true rfl) hT (fun r166 h166 hT => ?_)
    refine mm_if_eq (n := 172) (tgt := 201) smd_V_isRight_169 rfl rfl (fun hc => ?_) (fun hc => ?_)
    · replace hT := hT.1 hc
      refine mm_iconst (n := 202) (v := 0) smd_V_isRight_201 rfl (by decide) ?_
      exact mm_zret rfl (Or.inl rfl) smd_V_isRight_202 ⟨_, rfl, hT⟩
    · replace hT := hT.2 hc
      refine mm_aload_n (n := 173) (i := 0) smd_V_isRight_172 rfl rfl rfl ?_
      refine mm_aload_n (n := 174) (i := 0) smd_V_isRight_173 rfl rfl rfl ?_
      refine mm_get (n := 177) (v := .ref (mm_B Γ + (v + 4))) smk_V_21 (smb_V h_v) rfl smd_V_isRight_174 rfl ?_
      refine mm_iload_n (n := 178) (i := 2) smd_V_isRight_177 rfl rfl rfl ?_
      refine mm_iald (n := 179) (sma_V4 h_v) hT.1 smd_V_isRight_178 rfl ?_
      replace hT := hT.2
      refine mm_callVI (n := 182) (As := [.int (h166 (v + 4) x2.toNatClampNeg)]) (rest := []) smv_V_hasProcedure smw_282 (smb_V h_v) (mm_hRm (by decide) (by decide)) smd_V_isRight_179 rfl rfl (Nat.le_of_ble_eq_true rfl) hT (fun r179 h179 hT => ?_)
      refine mm_if_eq (n := 185) (tgt := 201) smd_V_isRight_182 rfl rfl (fun hc => ?_) (fun hc => ?_)
      · replace hT := hT.1 hc
        refine mm_iconst (n := 202) (v := 0) smd_V_isRight_201 rfl (by decide) ?_
        exact mm_zret rfl (Or.inl rfl) smd_V_isRight_202 ⟨_, rfl, hT⟩
      · replace hT := hT.2 hc
        refine mm_aload_n (n := 186) (i := 0) smd_V_isRight_185 rfl rfl rfl ?_
        refine mm_get (n := 189) (v := .ref (mm_B Γ + (v + 5))) smk_V_24 (smb_V h_v) rfl smd_V_isRight_186 rfl ?_
        refine mm_iload_n (n := 190) (i := 2) smd_V_isRight_189 rfl rfl rfl ?_
        refine mm_iald (n := 191) (sma_V5 h_v) hT.1 smd_V_isRight_190 rfl ?_
        replace hT := hT.2
        refine mm_callSI (n := 194) (As := [.int (h179 (v + 5) x2.toNatClampNeg)]) (rest := []) smv_V_isLocal smw_278 (mm_hRm (by decide) (by decide)) smd_V_isRight_191 rfl rfl (Nat.le_of_ble_eq_true rfl) hT (fun r191 h191 hT => ?_)
        refine mm_if_eq (n := 197) (tgt := 201) smd_V_isRight_194 rfl rfl (fun hc => ?_) (fun hc => ?_)
        · replace hT := hT.1 hc
          refine mm_iconst (n := 202) (v := 0) smd_V_isRight_201 rfl (by decide) ?_
          exact mm_zret rfl (Or.inl rfl) smd_V_isRight_202 ⟨_, rfl, hT⟩
        · replace hT := hT.2 hc
          refine mm_iconst (n := 198) (v := 1) smd_V_isRight_197 rfl (by decide) ?_
          refine mm_goto (n := 202) smd_V_isRight_198 rfl ?_
          exact mm_zret rfl (Or.inr rfl) smd_V_isRight_202 ⟨_, rfl, hT⟩
  have n5 := e
  clear e
  by_cases e : (h (v + 2) x2.toNatClampNeg) = 6
  · refine mm_tIn (tgt := 203) smd_V_isRight_6 6 e (by decide) (by decide) rfl rfl ?_
    replace hT := hT.2.2.2.2.1 (e)
    refine mm_aload_n (n := 204) (i := 0) smd_V_isRight_203 rfl rfl rfl ?_
    refine mm_get (n := 207) (v := .ref (mm_B Γ + (v + 3))) smk_V_18 (smb_V h_v) rfl smd_V_isRight_204 rfl ?_
    refine mm_iload_n (n := 208) (i := 2) smd_V_isRight_207 rfl rfl rfl ?_
    refine mm_iald (n := 209) (sma_V3 h_v) hT.1 smd_V_isRight_208 rfl ?_
    replace hT := hT.2
    refine mm_callSI (n := 212) (As := [.int (h (v + 3) x2.toNatClampNeg)]) (rest := []) smv_V_isLocal smw_278 (mm_hRm (by decide) (by decide)) smd_V_isRight_209 rfl rfl (Nat.le_of_ble_eq_true rfl) hT (fun r209 h209 hT => ?_)
    refine mm_if_eq (n := 215) (tgt := 246) smd_V_isRight_212 rfl rfl (fun hc => ?_) (fun hc => ?_)
    · replace hT := hT.1 hc
      refine mm_iconst (n := 247) (v := 0) smd_V_isRight_246 rfl (by decide) ?_
      exact mm_zret rfl (Or.inl rfl) smd_V_isRight_247 ⟨_, rfl, hT⟩
    · replace hT := hT.2 hc
      refine mm_aload_n (n := 216) (i := 0) smd_V_isRight_215 rfl rfl rfl ?_
      refine mm_get (n := 219) (v := .ref (mm_B Γ + (v + 4))) smk_V_21 (smb_V h_v) rfl smd_V_isRight_216 rfl ?_
      refine mm_iload_n (n := 220) (i := 2) smd_V_isRight_219 rfl rfl rfl ?_
      refine mm_iald (n := 221) (sma_V4 h_v) hT.1 smd_V_isRight_220 rfl ?_
      replace hT := hT.2
      refine mm_iconst (n := 222) (v := 3) smd_V_isRight_221 rfl (by decide) ?_
      refine mm_callSNI (n := 225) (As := [.int (h209 (v + 4) x2.toNatClampNeg), .int (3 : Int32)]) (rest := []) smv_S_isWithin rfl (mm_hRm (by decide) (by decide)) smd_V_isRight_222 rfl rfl (Nat.le_of_ble_eq_true rfl) hT (fun r222 h222 hT => ?_)
      refine mm_if_eq (n := 228) (tgt := 246) smd_V_isRight_225 rfl rfl (fun hc => ?_) (fun hc => ?_)
      · replace hT := hT.1 hc
        refine mm_iconst (n := 247) (v := 0) smd_V_isRight_246 rfl (by decide) ?_
        exact mm_zret rfl (Or.inl rfl) smd_V_isRight_247 ⟨_, rfl, hT⟩
      · replace hT := hT.2 hc
        refine mm_aload_n (n := 229) (i := 0) smd_V_isRight_228 rfl rfl rfl ?_
        refine mm_get (n := 232) (v := .ref (mm_B Γ + (v + 6))) smk_V_27 (smb_V h_v) rfl smd_V_isRight_229 rfl ?_
        refine mm_aload_n (n := 233) (i := 0) smd_V_isRight_232 rfl rfl rfl ?_
        refine mm_get (n := 236) (v := .ref (mm_B Γ + (v + 4))) smk_V_21 (smb_V h_v) rfl smd_V_isRight_233 rfl ?_
        refine mm_iload_n (n := 237) (i := 2) smd_V_isRight_236 rfl rfl rfl ?_
        refine mm_iald (n := 238) (sma_V4 h_v) hT.1 smd_V_isRight_237 rfl ?_
        replace hT := hT.2
        refine mm_iald (n := 239) (sma_V6 h_v) hT.1 smd_V_isRight_238 rfl ?_
        replace hT := hT.2
        refine mm_if_le (n := 242) (tgt := 246) smd_V_isRight_239 rfl rfl (fun hc => ?_) (fun hc => ?_)
        · replace hT := hT.1 hc
          refine mm_iconst (n := 247) (v := 0) smd_V_isRight_246 rfl (by decide) ?_
          exact mm_zret rfl (Or.inl rfl) smd_V_isRight_247 ⟨_, rfl, hT⟩
        · replace hT := hT.2 hc
          refine mm_iconst (n := 243) (v := 1) smd_V_isRight_242 rfl (by decide) ?_
          refine mm_goto (n := 247) smd_V_isRight_243 rfl ?_
          exact mm_zret rfl (Or.inr rfl) smd_V_isRight_247 ⟨_, rfl, hT⟩
  have n6 := e
  clear e
  by_cases e : (h (v + 2) x2.toNatClampNeg) = 7
  · refine mm_tIn (tgt := 248) smd_V_isRight_6 7 e (by decide) (by decide) rfl rfl ?_
    replace hT := hT.2.2.2.2.2.1 (Or.inl e)
    refine mm_aload_n (n := 249) (i := 0) smd_V_isRight_248 rfl rfl rfl ?_
    refine mm_get (n := 252) (v := .ref (mm_B Γ + (v + 3))) smk_V_18 (smb_V h_v) rfl smd_V_isRight_249 rfl ?_
    refine mm_iload_n (n := 253) (i := 2) smd_V_isRight_252 rfl rfl rfl ?_
    refine mm_iald (n := 254) (sma_V3 h_v) hT.1 smd_V_isRight_253 rfl ?_
    replace hT := hT.2
    refine mm_callSI (n := 257) (As := [.int (h (v + 3) x2.toNatClampNeg)]) (rest := []) smv_V_isLocal smw_278 (mm_hRm (by decide) (by decide)) smd_V_isRight_254 rfl rfl (Nat.le_of_ble_eq_true rfl) hT (fun r254 h254 hT => ?_)
    refine mm_if_eq (n := 260) (tgt := 289) smd_V_isRight_257 rfl rfl (fun hc => ?_) (fun hc => ?_)
    · replace hT := hT.1 hc
      refine mm_iconst (n := 290) (v := 0) smd_V_isRight_289 rfl (by decide) ?_
      exact mm_zret rfl (Or.inl rfl) smd_V_isRight_290 ⟨_, rfl, hT⟩
    · replace hT := hT.2 hc
      refine mm_aload_n (n := 261) (i := 0) smd_V_isRight_260 rfl rfl rfl ?_
      refine mm_get (n := 264) (v := .ref (mm_B Γ + (v + 4))) smk_V_21 (smb_V h_v) rfl smd_V_isRight_261 rfl ?_
      refine mm_iload_n (n := 265) (i := 2) smd_V_isRight_264 rfl rfl rfl ?_
      refine mm_iald (n := 266) (sma_V4 h_v) hT.1 smd_V_isRight_265 rfl ?_
      replace hT := hT.2
      refine mm_callSI (n := 269) (As := [.int (h254 (v + 4) x2.toNatClampNeg)]) (rest := []) smv_V_isLocal smw_278 (mm_hRm (by decide) (by decide)) smd_V_isRight_266 rfl rfl (Nat.le_of_ble_eq_true rfl) hT (fun r266 h266 hT => ?_)
      refine mm_if_eq (n := 272) (tgt := 289) smd_V_isRight_269 rfl rfl (fun hc => ?_) (fun hc => ?_)
      · replace hT := hT.1 hc
        refine mm_iconst (n := 290) (v := 0) smd_V_isRight_289 rfl (by decide) ?_
        exact mm_zret rfl (Or.inl rfl) smd_V_isRight_290 ⟨_, rfl, hT⟩
      · replace hT := hT.2 hc
        refine mm_aload_n (n := 273) (i := 0) smd_V_isRight_272 rfl rfl rfl ?_
        refine mm_aload_n (n := 274) (i := 0) smd_V_isRight_273 rfl rfl rfl ?_
        refine mm_get (n := 277) (v := .ref (mm_B Γ + (v + 5))) smk_V_24 (smb_V h_v) rfl smd_V_isRight_274 rfl ?_
        refine mm_iload_n (n := 278) (i := 2) smd_V_isRight_277 rfl rfl rfl ?_
        refine mm_iald (n := 279) (sma_V5 h_v) hT.1 smd_V_isRight_278 rfl ?_
        replace hT := hT.2
        refine mm_callVI (n := 282) (As := [.int (h266 (v + 5) x2.toNatClampNeg)]) (rest := []) smv_V_isFieldOfType smw_286 (smb_V h_v) (mm_hRm (by decide) (by decide)) smd_V_isRight_279 rfl rfl (Nat.le_of_ble_eq_true rfl) hT (fun r279 h279 hT => ?_)
        refine mm_if_eq (n := 285) (tgt := 289) smd_V_isRight_282 rfl rfl (fun hc => ?_) (fun hc => ?_)
        · replace hT := hT.1 hc
          refine mm_iconst (n := 290) (v := 0) smd_V_isRight_289 rfl (by decide) ?_
          exact mm_zret rfl (Or.inl rfl) smd_V_isRight_290 ⟨_, rfl, hT⟩
        · replace hT := hT.2 hc
          refine mm_iconst (n := 286) (v := 1) smd_V_isRight_285 rfl (by decide) ?_
          refine mm_goto (n := 290) smd_V_isRight_286 rfl ?_
          exact mm_zret rfl (Or.inr rfl) smd_V_isRight_290 ⟨_, rfl, hT⟩
  have n7 := e
  clear e
  by_cases e : (h (v + 2) x2.toNatClampNeg) = 8
  · refine mm_tIn (tgt := 248) smd_V_isRight_6 8 e (by decide) (by decide) rfl rfl ?_
    replace hT := hT.2.2.2.2.2.1 (Or.inr (e))
    refine mm_aload_n (n := 249) (i := 0) smd_V_isRight_248 rfl rfl rfl ?_
    refine mm_get (n := 252) (v := .ref (mm_B Γ + (v + 3))) smk_V_18 (smb_V h_v) rfl smd_V_isRight_249 rfl ?_
    refine mm_iload_n (n := 253) (i := 2) smd_V_isRight_252 rfl rfl rfl ?_
    refine mm_iald (n := 254) (sma_V3 h_v) hT.1 smd_V_isRight_253 rfl ?_
    replace hT := hT.2
    refine mm_callSI (n := 257) (As := [.int (h (v + 3) x2.toNatClampNeg)]) (rest := []) smv_V_isLocal smw_278 (mm_hRm (by decide) (by decide)) smd_V_isRight_254 rfl rfl (Nat.le_of_ble_eq_true rfl) hT (fun r254 h254 hT => ?_)
    refine mm_if_eq (n := 260) (tgt := 289) smd_V_isRight_257 rfl rfl (fun hc => ?_) (fun hc => ?_)
    · replace hT := hT.1 hc
      refine mm_iconst (n := 290) (v := 0) smd_V_isRight_289 rfl (by decide) ?_
      exact mm_zret rfl (Or.inl rfl) smd_V_isRight_290 ⟨_, rfl, hT⟩
    · replace hT := hT.2 hc
      refine mm_aload_n (n := 261) (i := 0) smd_V_isRight_260 rfl rfl rfl ?_
      refine mm_get (n := 264) (v := .ref (mm_B Γ + (v + 4))) smk_V_21 (smb_V h_v) rfl smd_V_isRight_261 rfl ?_
      refine mm_iload_n (n := 265) (i := 2) smd_V_isRight_264 rfl rfl rfl ?_
      refine mm_iald (n := 266) (sma_V4 h_v) hT.1 smd_V_isRight_265 rfl ?_
      replace hT := hT.2
      refine mm_callSI (n := 269) (As := [.int (h254 (v + 4) x2.toNatClampNeg)]) (rest := []) smv_V_isLocal smw_278 (mm_hRm (by decide) (by decide)) smd_V_isRight_266 rfl rfl (Nat.le_of_ble_eq_true rfl) hT (fun r266 h266 hT => ?_)
      refine mm_if_eq (n := 272) (tgt := 289) smd_V_isRight_269 rfl rfl (fun hc => ?_) (fun hc => ?_)
      · replace hT := hT.1 hc
        refine mm_iconst (n := 290) (v := 0) smd_V_isRight_289 rfl (by decide) ?_
        exact mm_zret rfl (Or.inl rfl) smd_V_isRight_290 ⟨_, rfl, hT⟩
      · replace hT := hT.2 hc
        refine mm_aload_n (n := 273) (i := 0) smd_V_isRight_272 rfl rfl rfl ?_
        refine mm_aload_n (n := 274) (i := 0) smd_V_isRight_273 rfl rfl rfl ?_
        refine mm_get (n := 277) (v := .ref (mm_B Γ + (v + 5))) smk_V_24 (smb_V h_v) rfl smd_V_isRight_274 rfl ?_
        refine mm_iload_n (n := 278) (i := 2) smd_V_isRight_277 rfl rfl rfl ?_
        refine mm_iald (n := 279) (sma_V5 h_v) hT.1 smd_V_isRight_278 rfl ?_
        replace hT := hT.2
        refine mm_callVI (n := 282) (As := [.int (h266 (v + 5) x2.toNatClampNeg)]) (rest := []) smv_V_isFieldOfType smw_286 (smb_V h_v) (mm_hRm (by decide) (by decide)) smd_V_isRight_279 rfl rfl (Nat.le_of_ble_eq_true rfl) hT (fun r279 h279 hT => ?_)
        refine mm_if_eq (n := 285) (tgt := 289) smd_V_isRight_282 rfl rfl (fun hc => ?_) (fun hc => ?_)
        · replace hT := hT.1 hc
          refine mm_iconst (n := 290) (v := 0) smd_V_isRight_289 rfl (by decide) ?_
          exact mm_zret rfl (Or.inl rfl) smd_V_isRight_290 ⟨_, rfl, hT⟩
        · replace hT := hT.2 hc
          refine mm_iconst (n := 286) (v := 1) smd_V_isRight_285 rfl (by decide) ?_
          refine mm_goto (n := 290) smd_V_isRight_286 rfl ?_
          exact mm_zret rfl (Or.inr rfl) smd_V_isRight_290 ⟨_, rfl, hT⟩
  have n8 := e
  clear e
  by_cases e : (h (v + 2) x2.toNatClampNeg) = 9
  · refine mm_tIn (tgt := 291) smd_V_isRight_6 9 e (by decide) (by decide) rfl rfl ?_
    replace hT := hT.2.2.2.2.2.2.1 (Or.inl e)
    refine mm_aload_n (n := 292) (i := 0) smd_V_isRight_291 rfl rfl rfl ?_
    refine mm_get (n := 295) (v := .ref (mm_B Γ + (v + 3))) smk_V_18 (smb_V h_v) rfl smd_V_isRight_292 rfl ?_
    refine mm_iload_n (n := 296) (i := 2) smd_V_isRight_295 rfl rfl rfl ?_
    refine mm_iald (n := 297) (sma_V3 h_v) hT.1 smd_V_isRight_296 rfl ?_
    replace hT := hT.2
    refine mm_callSI (n := 300) (As := [.int (h (v + 3) x2.toNatClampNeg)]) (rest := []) smv_V_isLocal smw_278 (mm_hRm (by decide) (by decide)) smd_V_isRight_297 rfl rfl (Nat.le_of_ble_eq_true rfl) hT (fun r297 h297 hT => ?_)
    refine mm_if_eq (n := 303) (tgt := 320) smd_V_isRight_300 rfl rfl (fun hc => ?_) (fun hc => ?_)
    · replace hT := hT.1 hc
      refine mm_iconst (n := 321) (v := 0) smd_V_isRight_320 rfl (by decide) ?_
      exact mm_zret rfl (Or.inl rfl) smd_V_isRight_321 ⟨_, rfl, hT⟩
    · replace hT := hT.2 hc
      refine mm_aload_n (n := 304) (i := 0) smd_V_isRight_303 rfl rfl rfl ?_
      refine mm_get (n := 307) (v := .ref (mm_B Γ + (v + 4))) smk_V_21 (smb_V h_v) rfl smd_V_isRight_304 rfl ?_
      refine mm_iload_n (n := 308) (i := 2) smd_V_isRight_307 rfl rfl rfl ?_
      refine mm_iald (n := 309) (sma_V4 h_v) hT.1 smd_V_isRight_308 rfl ?_
      replace hT := hT.2
      refine mm_iconst (n := 310) (v := 4) smd_V_isRight_309 rfl (by decide) ?_
      refine mm_callSNI (n := 313) (As := [.int (h297 (v + 4) x2.toNatClampNeg), .int (4 : Int32)]) (rest := []) smv_S_isWithin rfl (mm_hRm (by decide) (by decide)) smd_V_isRight_310 rfl rfl (Nat.le_of_ble_eq_true rfl) hT (fun r310 h310 hT => ?_)
      refine mm_if_eq (n := 316) (tgt := 320) smd_V_isRight_313 rfl rfl (fun hc => ?_) (fun hc => ?_)
      · replace hT := hT.1 hc
        refine mm_iconst (n := 321) (v := 0) smd_V_isRight_320 rfl (by decide) ?_
        exact mm_zret rfl (Or.inl rfl) smd_V_isRight_321 ⟨_, rfl, hT⟩
      · replace hT := hT.2 hc
        refine mm_iconst (n := 317) (v := 1) smd_V_isRight_316 rfl (by decide) ?_
        refine mm_goto (n := 321) smd_V_isRight_317 rfl ?_
        exact mm_zret rfl (Or.inr rfl) smd_V_isRight_321 ⟨_, rfl, hT⟩
  have n9 := e
  clear e
  by_cases e : (h (v + 2) x2.toNatClampNeg) = 10
  · refine mm_tIn (tgt := 291) smd_V_isRight_6 10 e (by decide) (by decide) rfl rfl ?_
    replace hT := hT.2.2.2.2.2.2.1 (Or.inr (e))
    refine mm_aload_n (n := 292) (i := 0) smd_V_isRight_291 rfl rfl rfl ?_
    refine mm_get (n := 295) (v := .ref (mm_B Γ + (v + 3))) smk_V_18 (smb_V h_v) rfl smd_V_isRight_292 rfl ?_
    refine mm_iload_n (n := 296) (i := 2) smd_V_isRight_295 rfl rfl rfl ?_
    refine mm_iald (n := 297) (sma_V3 h_v) hT.1 smd_V_isRight_296 rfl ?_
    replace hT := hT.2
    refine mm_callSI (n := 300) (As := [.int (h (v + 3) x2.toNatClampNeg)]) (rest := []) smv_V_isLocal smw_278 (mm_hRm (by decide) (by decide)) smd_V_isRight_297 rfl rfl (Nat.le_of_ble_eq_true rfl) hT (fun r297 h297 hT => ?_)
    refine mm_if_eq (n := 303) (tgt := 320) smd_V_isRight_300 rfl rfl (fun hc => ?_) (fun hc => ?_)
    · replace hT := hT.1 hc
      refine mm_iconst (n := 321) (v := 0) smd_V_isRight_320 rfl (by decide) ?_
      exact mm_zret rfl (Or.inl rfl) smd_V_isRight_321 ⟨_, rfl, hT⟩
    · replace hT := hT.2 hc
      refine mm_aload_n (n := 304) (i := 0) smd_V_isRight_303 rfl rfl rfl ?_
      refine mm_get (n := 307) (v := .ref (mm_B Γ + (v + 4))) smk_V_21 (smb_V h_v) rfl smd_V_isRight_304 rfl ?_
      refine mm_iload_n (n := 308) (i := 2) smd_V_isRight_307 rfl rfl rfl ?_
      refine mm_iald (n := 309) (sma_V4 h_v) hT.1 smd_V_isRight_308 rfl ?_
      replace hT := hT.2
      refine mm_iconst (n := 310) (v := 4) smd_V_isRight_309 rfl (by decide) ?_
      refine mm_callSNI (n := 313) (As := [.int (h297 (v + 4) x2.toNatClampNeg), .int (4 : Int32)]) (rest := []) smv_S_isWithin rfl (mm_hRm (by decide) (by decide)) smd_V_isRight_310 rfl rfl (Nat.le_of_ble_eq_true rfl) hT (fun r310 h310 hT => ?_)
      refine mm_if_eq (n := 316) (tgt := 320) smd_V_isRight_313 rfl rfl (fun hc => ?_) (fun hc => ?_)
      · replace hT := hT.1 hc
        refine mm_iconst (n := 321) (v := 0) smd_V_isRight_320 rfl (by decide) ?_
        exact mm_zret rfl (Or.inl rfl) smd_V_isRight_321 ⟨_, rfl, hT⟩
      · replace hT := hT.2 hc
        refine mm_iconst (n := 317) (v := 1) smd_V_isRight_316 rfl (by decide) ?_
        refine mm_goto (n := 321) smd_V_isRight_317 rfl ?_
        exact mm_zret rfl (Or.inr rfl) smd_V_isRight_321 ⟨_, rfl, hT⟩
  have n10 := e
  clear e
  by_cases e : (h (v + 2) x2.toNatClampNeg) = 11
  · refine mm_tIn (tgt := 72) smd_V_isRight_6 11 e (by decide) (by decide) rfl rfl ?_
    replace hT := hT.1 (Or.inr (Or.inr (e)))
    refine mm_aload_n (n := 73) (i := 0) smd_V_isRight_72 rfl rfl rfl ?_
    refine mm_get (n := 76) (v := .ref (mm_B Γ + (v + 3))) smk_V_18 (smb_V h_v) rfl smd_V_isRight_73 rfl ?_
    refine mm_iload_n (n := 77) (i := 2) smd_V_isRight_76 rfl rfl rfl ?_
    refine mm_iald (n := 78) (sma_V3 h_v) hT.1 smd_V_isRight_77 rfl ?_
    replace hT := hT.2
    refine mm_callSI (n := 81) (As := [.int (h (v + 3) x2.toNatClampNeg)]) (rest := []) smv_V_isLocal smw_278 (mm_hRm (by decide) (by decide)) smd_V_isRight_78 rfl rfl (Nat.le_of_ble_eq_true rfl) hT (fun r78 h78 hT => ?_)
    exact mm_zret rfl hT.1 smd_V_isRight_81 ⟨_, rfl, hT.2⟩
  have n11 := e
  clear e
  by_cases e : (h (v + 2) x2.toNatClampNeg) = 12
  · refine mm_tIn (tgt := 322) smd_V_isRight_6 12 e (by decide) (by decide) rfl rfl ?_
    replace hT := hT.2.2.2.2.2.2.2.1 (e)
    refine mm_aload_n (n := 323) (i := 0) smd_V_isRight_322 rfl rfl rfl ?_
    refine mm_get (n := 326) (v := .ref (mm_B Γ + (v + 3))) smk_V_18 (smb_V h_v) rfl smd_V_isRight_323 rfl ?_
    refine mm_iload_n (n := 327) (i := 2) smd_V_isRight_326 rfl rfl rfl ?_
    refine mm_iald (n := 328) (sma_V3 h_v) hT.1 smd_V_isRight_327 rfl ?_
    replace hT := hT.2
    refine mm_iconst (n := 329) (v := 4) smd_V_isRight_328 rfl (by decide) ?_
    refine mm_callSNI (n := 332) (As := [.int (h (v + 3) x2.toNatClampNeg), .int (4 : Int32)]) (rest := []) smv_S_isWithin rfl (mm_hRm (by decide) (by decide)) smd_V_isRight_329 rfl rfl (Nat.le_of_ble_eq_true rfl) hT (fun r329 h329 hT => ?_)
    exact mm_zret rfl hT.1 smd_V_isRight_332 ⟨_, rfl, hT.2⟩
  have n12 := e
  clear e
  refine mm_tOut (tgt := 333) smd_V_isRight_6 (by have m0 := lv_neT n0 (show (0 : Int32).toInt = 0 by decide); have m1 := lv_neT n1 (show (1 : Int32).toInt = 1 by decide); have m2 := lv_neT n2 (show (2 : Int32).toInt = 2 by decide); have m3 := lv_neT n3 (show (3 : Int32).toInt = 3 by decide); have m4 := lv_neT n4 (show (4 : Int32).toInt = 4 by decide); have m5 := lv_neT n5 (show (5 : Int32).toInt = 5 by decide); have m6 := lv_neT n6 (show (6 : Int32).toInt = 6 by decide); have m7 := lv_neT n7 (show (7 : Int32).toInt = 7 by decide); have m8 := lv_neT n8 (show (8 : Int32).toInt = 8 by decide); have m9 := lv_neT n9 (show (9 : Int32).toInt = 9 by decide); have m10 := lv_neT n10 (show (10 : Int32).toInt = 10 by decide); have m11 := lv_neT n11 (show (11 : Int32).toInt = 11 by decide); have m12 := lv_neT n12 (show (12 : Int32).toInt = 12 by decide); omega) rfl ?_
  replace hT := hT.2.2.2.2.2.2.2.2 n0 n1 n2 n3 n4 n5 n6 n7 n8 n9 n10 n11 n12
  refine mm_iconst (n := 334) (v := 0) smd_V_isRight_333 rfl (by decide) ?_
  exact mm_zret rfl (Or.inl rfl) smd_V_isRight_334 ⟨_, rfl, hT⟩
set_option maxHeartbeats 4000000 in
set_option maxRecDepth 100000 in
theorem smr_V_isLocal {Γ : mm_Ctx} {post : Int32 → mm_Mem → Prop} {h : mm_Mem} (x0 : Int32) (hT : mm_SI Γ smM_S_isWithin [.int x0, .int (3 : Int32)] h (fun r2 h2 => (r2 = 0 ∨ r2 = 1) ∧ post r2 h2)) : mm_SI Γ smM_V_isLocal [.int x0] h post := by
  refine mm_spec0 (M := smM_V_isLocal) 0 (by decide +kernel) rfl (Nat.le_of_ble_eq_true rfl) ?_
  show mm_W Γ smM_V_isLocal (mm_pI post) 0 [some (.int x0)] [] h
  refine mm_iload_n (n := 1) (i := 0) smd_V_isLocal_0 rfl rfl rfl ?_
  refine mm_iconst (n := 2) (v := 3) smd_V_isLocal_1 rfl (by decide) ?_
  refine mm_callSNI (n := 5) (As := [.int x0, .int (3 : Int32)]) (rest := []) smv_S_isWithin rfl (mm_hRm (by decide) (by decide)) smd_V_isLocal_2 rfl rfl (Nat.le_of_ble_eq_true rfl) hT (fun r2 h2 hT => ?_)
  exact mm_zret rfl hT.1 smd_V_isLocal_5 ⟨_, rfl, hT.2⟩
set_option maxHeartbeats 4000000 in
set_option maxRecDepth 100000 in
theorem smr_V_isFieldOfType {Γ : mm_Ctx} {post : Int32 → mm_Mem → Prop} {h : mm_Mem} {v : Nat} (h_v : v = 1 ∨ v = 8) (x1 : Int32) (hT : mm_SI Γ smM_S_isWithin [.int x1, .int (12 : Int32)] h (fun r3 h3 => (r3 = 0 → (post (0 : Int32) h3)) ∧ (¬ r3 = 0 → ((vp_in (x1 / (4 : Int32)) 3) ∧ (((h3 (v + 6) (x1 / (4 : Int32)).toNatClampNeg) ≤ (x1 - x1 / (4 : Int32) * (4 : Int32)) → (post (0 : Int32) h3)) ∧ (¬ (h3 (v + 6) (x1 / (4 : Int32)).toNatClampNeg) ≤ (x1 - x1 / (4 : Int32) * (4 : Int32)) → (post (1 : Int32) h3))))))) : mm_SI Γ smM_V_isFieldOfType [.ref (mm_B Γ + v), .int x1] h post := by
  refine mm_spec0 (M := smM_V_isFieldOfType) 0 (by decide +kernel) rfl (Nat.le_of_ble_eq_true rfl) ?_
  show mm_W Γ smM_V_isFieldOfType (mm_pI post) 0 [some (.ref (mm_B Γ + v)), some (.int x1)] [] h
  refine mm_iload_n (n := 1) (i := 1) smd_V_isFieldOfType_0 rfl rfl rfl ?_
  refine mm_bipush (n := 3) (v := 12) smd_V_isFieldOfType_1 rfl (by decide) ?_
  refine mm_callSNI (n := 6) (As := [.int x1, .int (12 : Int32)]) (rest := []) smv_S_isWithin rfl (mm_hRm (by decide) (by decide)) smd_V_isFieldOfType_3 rfl rfl (Nat.le_of_ble_eq_true rfl) hT (fun r3 h3 hT => ?_)
  refine mm_if_eq (n := 9) (tgt := 27) smd_V_isFieldOfType_6 rfl rfl (fun hc => ?_) (fun hc => ?_)
  · replace hT := hT.1 hc
    refine mm_iconst (n := 28) (v := 0) smd_V_isFieldOfType_27 rfl (by decide) ?_
    exact mm_zret rfl (Or.inl rfl) smd_V_isFieldOfType_28 ⟨_, rfl, hT⟩
  · replace hT := hT.2 hc
    refine mm_iload_n (n := 10) (i := 1) smd_V_isFieldOfType_9 rfl rfl rfl ?_
    refine mm_iconst (n := 11) (v := 4) smd_V_isFieldOfType_10 rfl (by decide) ?_
    refine mm_irem (n := 12) smd_V_isFieldOfType_11 rfl (by decide) ?_
    refine mm_aload_n (n := 13) (i := 0) smd_V_isFieldOfType_12 rfl rfl rfl ?_
    refine mm_get (n := 16) (v := .ref (mm_B Γ + (v + 6))) smk_V_27 (smb_V h_v) rfl smd_V_isFieldOfType_13 rfl ?_
    refine mm_iload_n (n := 17) (i := 1) smd_V_isFieldOfType_16 rfl rfl rfl ?_
    refine mm_iconst (n := 18) (v := 4) smd_V_isFieldOfType_17 rfl (by decide) ?_
    refine mm_idiv (n := 19) smd_V_isFieldOfType_18 rfl (by decide) ?_
    refine mm_iald (n := 20) (sma_V6 h_v) hT.1 smd_V_isFieldOfType_19 rfl ?_
    replace hT := hT.2
    refine mm_icmp_ge (n := 23) (tgt := 27) smd_V_isFieldOfType_20 rfl rfl (fun hc => ?_) (fun hc => ?_)
    · replace hT := hT.1 hc
      refine mm_iconst (n := 28) (v := 0) smd_V_isFieldOfType_27 rfl (by decide) ?_
      exact mm_zret rfl (Or.inl rfl) smd_V_isFieldOfType_28 ⟨_, rfl, hT⟩
    · replace hT := hT.2 hc
      refine mm_iconst (n := 24) (v := 1) smd_V_isFieldOfType_23 rfl (by decide) ?_
      refine mm_goto (n := 28) smd_V_isFieldOfType_24 rfl ?_
      exact mm_zret rfl (Or.inr rfl) smd_V_isFieldOfType_28 ⟨_, rfl, hT⟩
