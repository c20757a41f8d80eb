set_option maxHeartbeats 4000000 in
set_option maxRecDepth 100000 in
theorem smr_S_word {Γ : mm_Ctx} {post : Int32 → mm_Mem → Prop} {h : mm_Mem} (x1 : Int32) (x2 : Int32) (x3 : Int32) (x4 : Int32) (x5 : Int32) (x6 : Int32) (hT : mm_SI Γ smM_S_isWithin [.int x1, .int (6 : Int32)] h (fun r3 h3 => (r3 = 0 → (post (-1 : Int32) h3)) ∧ (¬ r3 = 0 → ((x2 < 0 → (post (-1 : Int32) h3)) ∧ (¬ x2 < 0 → ((vp_in x1 6) ∧ (((h3 9 x1.toNatClampNeg) < x2 → (post (-1 : Int32) h3)) ∧ (¬ (h3 9 x1.toNatClampNeg) < x2 → ((¬ x2 = (12 : Int32) → (((h3 0 8) = 0 → (mm_SV Γ smM_V_write [.ref (mm_B Γ + 8), .int x1, .int x2, .int x3, .int x4, .int x5, .int x6] h3 (fun h57 => (vp_in x1 6) ∧ (post (h57 9 x1.toNatClampNeg) h57)))) ∧ (¬ (h3 0 8) = 0 → (post (-2 : Int32) h3)))) ∧ (x2 = (12 : Int32) → (post (-1 : Int32) h3))))))))))) : mm_SI Γ smM_S_word [.ref (mm_B Γ + 0), .int x1, .int x2, .int x3, .int x4, .int x5, .int x6] h post := by
  refine mm_spec0 (M := smM_S_word) 0 (by decide +kernel) rfl (Nat.le_of_ble_eq_true rfl) ?_
  show mm_W Γ smM_S_word (mm_pI post) 0 [some (.ref (mm_B Γ + 0)), some (.int x1), some (.int x2), some (.int x3), some (.int x4), some (.int x5), some (.int x6)] [] h
  refine mm_iload_n (n := 1) (i := 1) smd_S_word_0 rfl rfl rfl ?_
  refine mm_bipush (n := 3) (v := 6) smd_S_word_1 rfl (by decide) ?_
  refine mm_callSI (n := 6) (As := [.int x1, .int (6 : Int32)]) (rest := []) smv_S_isWithin smw_216 (mm_hRm (by decide) (by decide)) smd_S_word_3 rfl rfl (Nat.le_of_ble_eq_true rfl) hT (fun r3 h3 hT => ?_)
  refine mm_if_eq (n := 9) (tgt := 32) smd_S_word_6 rfl rfl (fun hc => ?_) (fun hc => ?_)
  · replace hT := hT.1 hc
    refine mm_iconst (n := 33) (v := -1) smd_S_word_32 rfl (by decide) ?_
    exact mm_iret rfl smd_S_word_33 ⟨_, rfl, hT⟩
  · replace hT := hT.2 hc
    refine mm_iload_n (n := 10) (i := 2) smd_S_word_9 rfl rfl rfl ?_
    refine mm_if_lt (n := 13) (tgt := 32) smd_S_word_10 rfl rfl (fun hc => ?_) (fun hc => ?_)
    · replace hT := hT.1 hc
      refine mm_iconst (n := 33) (v := -1) smd_S_word_32 rfl (by decide) ?_
      exact mm_iret rfl smd_S_word_33 ⟨_, rfl, hT⟩
    · replace hT := hT.2 hc
      refine mm_iload_n (n := 14) (i := 2) smd_S_word_13 rfl rfl rfl ?_
      refine mm_aload_n (n := 15) (i := 0) smd_S_word_14 rfl rfl rfl ?_
      refine mm_get (n := 18) (v := .ref (mm_B Γ + 8)) smk_S_16 smb_S rfl smd_S_word_15 rfl ?_
      refine mm_get (n := 21) (v := .ref (mm_B Γ + 9)) smk_S_48 (smb_V (Or.inr rfl)) rfl smd_S_word_18 rfl ?_
      refine mm_iload_n (n := 22) (i := 1) smd_S_word_21 rfl rfl rfl ?_
      refine mm_iald (n := 23) sma_9 hT.1 smd_S_word_22 rfl ?_
      replace hT := hT.2
      refine mm_icmp_gt (n := 26) (tgt := 32) smd_S_word_23 rfl rfl (fun hc => ?_) (fun hc => ?_)
      · replace hT := hT.1 hc
        refine mm_iconst (n := 33) (v := -1) smd_S_word_32 rfl (by decide) ?_
        exact mm_iret rfl smd_S_word_33 ⟨_, rfl, hT⟩
      · replace hT := hT.2 hc
        refine mm_iload_n (n := 27) (i := 2) smd_S_word_26 rfl rfl rfl ?_
        refine mm_bipush (n := 29) (v := 12) smd_S_word_27 rfl (by decide) ?_
        refine mm_icmp_ne (n := 32) (tgt := 34) smd_S_word_29 rfl rfl (fun hc => ?_) (fun hc => ?_)
        · replace hT := hT.1 hc
          refine mm_aload_n (n := 35) (i := 0) smd_S_word_34 rfl rfl rfl ?_
          refine mm_get (n := 38) (v := .int (h3 0 8)) smk_S_51 smb_S rfl smd_S_word_35 rfl ?_
          refine mm_if_eq (n := 41) (tgt := 44) smd_S_word_38 rfl rfl (fun hc => ?_) (fun hc => ?_)
          · replace hT := hT.1 hc
            refine mm_aload_n (n := 45) (i := 0) smd_S_word_44 rfl rfl rfl ?_
            refine mm_get (n := 48) (v := .ref (mm_B Γ + 8)) smk_S_16 smb_S rfl smd_S_word_45 rfl ?_
            refine mm_iload_n (n := 49) (i := 1) smd_S_word_48 rfl rfl rfl ?_
            refine mm_iload_n (n := 50) (i := 2) smd_S_word_49 rfl rfl rfl ?_
            refine mm_iload_n (n := 51) (i := 3) smd_S_word_50 rfl rfl rfl ?_
            refine mm_iload (n := 53) (i := 4) smd_S_word_51 rfl rfl ?_
            refine mm_iload (n := 55) (i := 5) smd_S_word_53 rfl rfl ?_
            refine mm_iload (n := 57) (i := 6) smd_S_word_55 rfl rfl ?_
            refine mm_callVV (n := 60) (As := [.int x1, .int x2, .int x3, .int x4, .int x5, .int x6]) (rest := []) smv_V_write smw_219 (smb_V (Or.inr rfl)) (mm_hRm (by decide) (by decide)) smd_S_word_57 rfl rfl (Nat.le_of_ble_eq_true rfl) hT (fun h57 hT => ?_)
            refine mm_aload_n (n := 61) (i := 0) smd_S_word_60 rfl rfl rfl ?_
            refine mm_get (n := 64) (v := .ref (mm_B Γ + 8)) smk_S_16 smb_S rfl smd_S_word_61 rfl ?_
            refine mm_get (n := 67) (v := .ref (mm_B Γ + 9)) smk_S_48 (smb_V (Or.inr rfl)) rfl smd_S_word_64 rfl ?_
            refine mm_iload_n (n := 68) (i := 1) smd_S_word_67 rfl rfl rfl ?_
            refine mm_iald (n := 69) sma_9 hT.1 smd_S_word_68 rfl ?_
            replace hT := hT.2
            exact mm_iret rfl smd_S_word_69 ⟨_, rfl, hT⟩
          · replace hT := hT.2 hc
            refine mm_bipush (n := 43) (v := -2) smd_S_word_41 rfl (by decide) ?_
            exact mm_iret rfl smd_S_word_43 ⟨_, rfl, hT⟩
        · replace hT := hT.2 hc
          refine mm_iconst (n := 33) (v := -1) smd_S_word_32 rfl (by decide) ?_
          exact mm_iret rfl smd_S_word_33 ⟨_, rfl, hT⟩
set_option maxHeartbeats 4000000 in
set_option maxRecDepth 100000 in
theorem smr_S_cut {Γ : mm_Ctx} {post : Int32 → mm_Mem → Prop} {h : mm_Mem} (x1 : Int32) (x2 : Int32) (hT : mm_SI Γ smM_S_isWithin [.int x1, .int (6 : Int32)] h (fun r3 h3 => (r3 = 0 → (post (0 : Int32) h3)) ∧ (¬ r3 = 0 → ((x2 < 0 → (post (0 : Int32) h3)) ∧ (¬ x2 < 0 → ((vp_in x1 6) ∧ (((h3 9 x1.toNatClampNeg) < x2 → (post (0 : Int32) h3)) ∧ (¬ (h3 9 x1.toNatClampNeg) < x2 → (((h3 0 8) = 0 → ((vp_in x1 6) ∧ (∀ h44 : mm_Mem, h44 = mm_wr h3 9 x1.toNatClampNeg x2 → (post (1 : Int32) h44)))) ∧ (¬ (h3 0 8) = 0 → (post (0 : Int32) h3))))))))))) : mm_SI Γ smM_S_cut [.ref (mm_B Γ + 0), .int x1, .int x2] h post := by
  refine mm_spec0 (M := smM_S_cut) 0 (by decide +kernel) rfl (Nat.le_of_ble_eq_true rfl) ?_
  show mm_W Γ smM_S_cut (mm_pI post) 0 [some (.ref (mm_B Γ + 0)), some (.int x1), some (.int x2)] [] h
  refine mm_iload_n (n := 1) (i := 1) smd_S_cut_0 rfl rfl rfl ?_
  refine mm_bipush (n := 3) (v := 6) smd_S_cut_1 rfl (by decide) ?_
  refine mm_callSI (n := 6) (As := [.int x1, .int (6 : Int32)]) (rest := []) smv_S_isWithin smw_216 (mm_hRm (by decide) (by decide)) smd_S_cut_3 rfl rfl (Nat.le_of_ble_eq_true rfl) hT (fun r3 h3 hT => ?_)
  refine mm_if_eq (n := 9) (tgt := 33) smd_S_cut_6 rfl rfl (fun hc => ?_) (fun hc => ?_)
  · replace hT := hT.1 hc
    refine mm_iconst (n := 34) (v := 0) smd_S_cut_33 rfl (by decide) ?_
    exact mm_zret rfl (Or.inl rfl) smd_S_cut_34 ⟨_, rfl, hT⟩
  · replace hT := hT.2 hc
    refine mm_iload_n (n := 10) (i := 2) smd_S_cut_9 rfl rfl rfl ?_
    refine mm_if_lt (n := 13) (tgt := 33) smd_S_cut_10 rfl rfl (fun hc => ?_) (fun hc => ?_)
    · replace hT := hT.1 hc
      refine mm_iconst (n := 34) (v := 0) smd_S_cut_33 rfl (by decide) ?_
      exact mm_zret rfl (Or.inl rfl) smd_S_cut_34 ⟨_, rfl, hT⟩
    · replace hT := hT.2 hc
      refine mm_iload_n (n := 14) (i := 2) smd_S_cut_13 rfl rfl rfl ?_
      refine mm_aload_n (n := 15) (i := 0) smd_S_cut_14 rfl rfl rfl ?_
      refine mm_get (n := 18) (v := .ref (mm_B Γ + 8)) smk_S_16 smb_S rfl smd_S_cut_15 rfl ?_
      refine mm_get (n := 21) (v := .ref (mm_B Γ + 9)) smk_S_48 (smb_V (Or.inr rfl)) rfl smd_S_cut_18 rfl ?_
      refine mm_iload_n (n := 22) (i := 1) smd_S_cut_21 rfl rfl rfl ?_
      refine mm_iald (n := 23) sma_9 hT.1 smd_S_cut_22 rfl ?_
      replace hT := hT.2
      refine mm_icmp_gt (n := 26) (tgt := 33) smd_S_cut_23 rfl rfl (fun hc => ?_) (fun hc => ?_)
      · replace hT := hT.1 hc
        refine mm_iconst (n := 34) (v := 0) smd_S_cut_33 rfl (by decide) ?_
        exact mm_zret rfl (Or.inl rfl) smd_S_cut_34 ⟨_, rfl, hT⟩
      · replace hT := hT.2 hc
        refine mm_aload_n (n := 27) (i := 0) smd_S_cut_26 rfl rfl rfl ?_
        refine mm_get (n := 30) (v := .int (h3 0 8)) smk_S_51 smb_S rfl smd_S_cut_27 rfl ?_
        refine mm_if_eq (n := 33) (tgt := 35) smd_S_cut_30 rfl rfl (fun hc => ?_) (fun hc => ?_)
        · replace hT := hT.1 hc
          refine mm_aload_n (n := 36) (i := 0) smd_S_cut_35 rfl rfl rfl ?_
          refine mm_get (n := 39) (v := .ref (mm_B Γ + 8)) smk_S_16 smb_S rfl smd_S_cut_36 rfl ?_
          refine mm_get (n := 42) (v := .ref (mm_B Γ + 9)) smk_S_48 (smb_V (Or.inr rfl)) rfl smd_S_cut_39 rfl ?_
          refine mm_iload_n (n := 43) (i := 1) smd_S_cut_42 rfl rfl rfl ?_
          refine mm_iload_n (n := 44) (i := 2) smd_S_cut_43 rfl rfl rfl ?_
          refine mm_iast (n := 45) sma_9 hT.1 smd_S_cut_44 rfl ?_
          replace hT := hT.2
          refine mm_nam (fun h44 e_h44 => ?_)
          replace hT := hT h44 e_h44
          refine mm_iconst (n := 46) (v := 1) smd_S_cut_45 rfl (by decide) ?_
          exact mm_zret rfl (Or.inr rfl) smd_S_cut_46 ⟨_, rfl, hT⟩
        · replace hT := hT.2 hc
          refine mm_iconst (n := 34) (v := 0) smd_S_cut_33 rfl (by decide) ?_
          exact mm_zret rfl (Or.inl rfl) smd_S_cut_34 ⟨_, rfl, hT⟩
set_option maxHeartbeats 4000000 in
set_option maxRecDepth 100000 in
theorem smr_S_fields {Γ : mm_Ctx} {post : Int32 → mm_Mem → Prop} {h : mm_Mem} (x1 : Int32) (x2 : Int32) (hT : mm_SI Γ smM_S_isWithin [.int x1, .int (3 : Int32)] h (fun r2 h2 => (r2 = 0 → (post (0 : Int32) h2)) ∧ (¬ r2 = 0 → ((x2 < 0 → (post (0 : Int32) h2)) ∧ (¬ x2 < 0 → (((4 : Int32) < x2 → (post (0 : Int32) h2)) ∧ (¬ (4 : Int32) < x2 → (((h2 0 8) = 0 → ((vp_in x1 3) ∧ (∀ h35 : mm_Mem, h35 = mm_wr h2 14 x1.toNatClampNeg x2 → (mm_SV Γ smM_R_forgetType [.ref (mm_B Γ + 15), .int x1] h35 (fun h41 => (vp_in x1 3) ∧ (∀ h53 : mm_Mem, h53 = mm_wr h41 16 x1.toNatClampNeg (1 : Int32) → (post (1 : Int32) h53))))))) ∧ (¬ (h2 0 8) = 0 → (post (0 : Int32) h2)))))))))) : mm_SI Γ smM_S_fields [.ref (mm_B Γ + 0), .int x1, .int x2] h post := by
  refine mm_spec0 (M := smM_S_fields) 0 (by decide +kernel) rfl (Nat.le_of_ble_eq_true rfl) ?_
  show mm_W Γ smM_S_fields (mm_pI post) 0 [some (.ref (mm_B Γ + 0)), some (.int x1), some (.int x2)] [] h
  refine mm_iload_n (n := 1) (i := 1) smd_S_fields_0 rfl rfl rfl ?_
  refine mm_iconst (n := 2) (v := 3) smd_S_fields_1 rfl (by decide) ?_
  refine mm_callSI (n := 5) (As := [.int x1, .int (3 : Int32)]) (rest := []) smv_S_isWithin smw_216 (mm_hRm (by decide) (by decide)) smd_S_fields_2 rfl rfl (Nat.le_of_ble_eq_true rfl) hT (fun r2 h2 hT => ?_)
  refine mm_if_eq (n := 8) (tgt := 24) smd_S_fields_5 rfl rfl (fun hc => ?_) (fun hc => ?_)
  · replace hT := hT.1 hc
    refine mm_iconst (n := 25) (v := 0) smd_S_fields_24 rfl (by decide) ?_
    exact mm_zret rfl (Or.inl rfl) smd_S_fields_25 ⟨_, rfl, hT⟩
  · replace hT := hT.2 hc
    refine mm_iload_n (n := 9) (i := 2) smd_S_fields_8 rfl rfl rfl ?_
    refine mm_if_lt (n := 12) (tgt := 24) smd_S_fields_9 rfl rfl (fun hc => ?_) (fun hc => ?_)
    · replace hT := hT.1 hc
      refine mm_iconst (n := 25) (v := 0) smd_S_fields_24 rfl (by decide) ?_
      exact mm_zret rfl (Or.inl rfl) smd_S_fields_25 ⟨_, rfl, hT⟩
    · replace hT := hT.2 hc
      refine mm_iload_n (n := 13) (i := 2) smd_S_fields_12 rfl rfl rfl ?_
      refine mm_iconst (n := 14) (v := 4) smd_S_fields_13 rfl (by decide) ?_
      refine mm_icmp_gt (n := 17) (tgt := 24) smd_S_fields_14 rfl rfl (fun hc => ?_) (fun hc => ?_)
      · replace hT := hT.1 hc
        refine mm_iconst (n := 25) (v := 0) smd_S_fields_24 rfl (by decide) ?_
        exact mm_zret rfl (Or.inl rfl) smd_S_fields_25 ⟨_, rfl, hT⟩
      · replace hT := hT.2 hc
        refine mm_aload_n (n := 18) (i := 0) smd_S_fields_17 rfl rfl rfl ?_
        refine mm_get (n := 21) (v := .int (h2 0 8)) smk_S_51 smb_S rfl smd_S_fields_18 rfl ?_
        refine mm_if_eq (n := 24) (tgt := 26) smd_S_fields_21 rfl rfl (fun hc => ?_) (fun hc => ?_)
        · replace hT := hT.1 hc
          refine mm_aload_n (n := 27) (i := 0) smd_S_fields_26 rfl rfl rfl ?_
          refine mm_get (n := 30) (v := .ref (mm_B Γ + 8)) smk_S_16 smb_S rfl smd_S_fields_27 rfl ?_
          refine mm_get (n := 33) (v := .ref (mm_B Γ + 14)) smk_S_59 (smb_V (Or.inr rfl)) rfl smd_S_fields_30 rfl ?_
          refine mm_iload_n (n := 34) (i := 1) smd_S_fields_33 rfl rfl rfl ?_
          refine mm_iload_n (n := 35) (i := 2) smd_S_fields_34 rfl rfl rfl ?_
          refine mm_iast (n := 36) sma_14 hT.1 smd_S_fields_35 rfl ?_
          replace hT := hT.2
          refine mm_nam (fun h35 e_h35 => ?_)
          replace hT := hT h35 e_h35
          refine mm_aload_n (n := 37) (i := 0) smd_S_fields_36 rfl rfl rfl ?_
          refine mm_get (n := 40) (v := .ref (mm_B Γ + 15)) smk_S_22 smb_S rfl smd_S_fields_37 rfl ?_
          refine mm_iload_n (n := 41) (i := 1) smd_S_fields_40 rfl rfl rfl ?_
          refine mm_callVV (n := 44) (As := [.int x1]) (rest := []) smv_R_forgetType smw_237 smb_R (mm_hRm (by decide) (by decide)) smd_S_fields_41 rfl rfl (Nat.le_of_ble_eq_true rfl) hT (fun h41 hT => ?_)
          refine mm_aload_n (n := 45) (i := 0) smd_S_fields_44 rfl rfl rfl ?_
          refine mm_get (n := 48) (v := .ref (mm_B Γ + 15)) smk_S_22 smb_S rfl smd_S_fields_45 rfl ?_
          refine mm_get (n := 51) (v := .ref (mm_B Γ + 16)) smk_S_66 smb_R rfl smd_S_fields_48 rfl ?_
          refine mm_iload_n (n := 52) (i := 1) smd_S_fields_51 rfl rfl rfl ?_
          refine mm_iconst (n := 53) (v := 1) smd_S_fields_52 rfl (by decide) ?_
          refine mm_zast (n := 54) sma_16 hT.1 (Or.inr rfl) smd_S_fields_53 rfl ?_
          replace hT := hT.2
          refine mm_nam (fun h53 e_h53 => ?_)
          replace hT := hT h53 e_h53
          refine mm_iconst (n := 55) (v := 1) smd_S_fields_54 rfl (by decide) ?_
          exact mm_zret rfl (Or.inr rfl) smd_S_fields_55 ⟨_, rfl, hT⟩
        · replace hT := hT.2 hc
          refine mm_iconst (n := 25) (v := 0) smd_S_fields_24 rfl (by decide) ?_
          exact mm_zret rfl (Or.inl rfl) smd_S_fields_25 ⟨_, rfl, hT⟩
set_option maxHeartbeats 4000000 in
set_option maxRecDepth 100000 in
theorem smr_S_rule {Γ : mm_Ctx} {post : Int32 → mm_Mem → Prop} {h : mm_Mem} (x1 : Int32) (x2 : Int32) (x3 : Int32) (x4 : Int32) (x5 : Int32) (hT : mm_SI Γ smM_S_isWithin [.int x1, .int (3 : Int32)] h (fun r2 h2 => (r2 = 0 → (post (-1 : Int32) h2)) ∧ (¬ r2 = 0 → ((vp_in x1 3) ∧ (mm_SI Γ smM_S_isWithin [.int x2, .int (h2 14 x1.toNatClampNeg)] h2 (fun r18 h18 => (¬ r18 = 0 → ((x3 < 0 → (post (-1 : Int32) h18)) ∧ (¬ x3 < 0 → (((2 : Int32) < x3 → (post (-1 : Int32) h18)) ∧ (¬ (2 : Int32) < x3 → (mm_SI Γ smM_S_isWithin [.int x4, .int (4 : Int32)] h18 (fun r38 h38 => (¬ r38 = 0 → (((h38 0 8) = 0 → (mm_SV Γ smM_R_write [.ref (mm_B Γ + 15), .int x1, .int x2, .int x3, .int x4, .int x5] h38 (fun h67 => (vp_in x1 3) ∧ (∀ h79 : mm_Mem, h79 = mm_wr h67 16 x1.toNatClampNeg (1 : Int32) → (post (0 : Int32) h79))))) ∧ (¬ (h38 0 8) = 0 → (post (-2 : Int32) h38)))) ∧ (r38 = 0 → (post (-1 : Int32) h38))))))))) ∧ (r18 = 0 → (post (-1 : Int32) h18)))))))) : mm_SI Γ smM_S_rule [.ref (mm_B Γ + 0), .int x1, .int x2, .int x3, .int x4, .int x5] h post := by
  refine mm_spec0 (M := smM_S_rule) 0 (by decide +kernel) rfl (Nat.le_of_ble_eq_true rfl) ?_
  show mm_W Γ smM_S_rule (mm_pI post) 0 [some (.ref (mm_B Γ + 0)), some (.int x1), some (.int x2), some (.int x3), some (.int x4), some (.int x5)] [] h
  refine mm_iload_n (n := 1) (i := 1) smd_S_rule_0 rfl rfl rfl ?_
  refine mm_iconst (n := 2) (v := 3) smd_S_rule_1 rfl (by decide) ?_
  refine mm_callSI (n := 5) (As := [.int x1, .int (3 : Int32)]) (rest := []) smv_S_isWithin smw_216 (mm_hRm (by decide) (by decide)) smd_S_rule_2 rfl rfl (Nat.le_of_ble_eq_true rfl) hT (fun r2 h2 hT => ?_)
  refine mm_if_eq (n := 8) (tgt := 24) smd_S_rule_5 rfl rfl (fun hc => ?_) (fun hc => ?_)
  · replace hT := hT.1 hc
    refine mm_iconst (n := 25) (v := -1) smd_S_rule_24 rfl (by decide) ?_
    exact mm_iret rfl smd_S_rule_25 ⟨_, rfl, hT⟩
  · replace hT := hT.2 hc
    refine mm_iload_n (n := 9) (i := 2) smd_S_rule_8 rfl rfl rfl ?_
    refine mm_aload_n (n := 10) (i := 0) smd_S_rule_9 rfl rfl rfl ?_
    refine mm_get (n := 13) (v := .ref (mm_B Γ + 8)) smk_S_16 smb_S rfl smd_S_rule_10 rfl ?_
    refine mm_get (n := 16) (v := .ref (mm_B Γ + 14)) smk_S_59 (smb_V (Or.inr rfl)) rfl smd_S_rule_13 rfl ?_
    refine mm_iload_n (n := 17) (i := 1) smd_S_rule_16 rfl rfl rfl ?_
    refine mm_iald (n := 18) sma_14 hT.1 smd_S_rule_17 rfl ?_
    replace hT := hT.2
    refine mm_callSI (n := 21) (As := [.int x2, .int (h2 14 x1.toNatClampNeg)]) (rest := []) smv_S_isWithin smw_216 (mm_hRm (by decide) (by decide)) smd_S_rule_18 rfl rfl (Nat.le_of_ble_eq_true rfl) hT (fun r18 h18 hT => ?_)
    refine mm_if_ne (n := 24) (tgt := 26) smd_S_rule_21 rfl rfl (fun hc => ?_) (fun hc => ?_)
    · replace hT := hT.1 hc
      refine mm_iload_n (n := 27) (i := 3) smd_S_rule_26 rfl rfl rfl ?_
      refine mm_if_lt (n := 30) (tgt := 44) smd_S_rule_27 rfl rfl (fun hc => ?_) (fun hc => ?_)
      · replace hT := hT.1 hc
        refine mm_iconst (n := 45) (v := -1) smd_S_rule_44 rfl (by decide) ?_
        exact mm_iret rfl smd_S_rule_45 ⟨_, rfl, hT⟩
      · replace hT := hT.2 hc
        refine mm_iload_n (n := 31) (i := 3) smd_S_rule_30 rfl rfl rfl ?_
        refine mm_iconst (n := 32) (v := 2) smd_S_rule_31 rfl (by decide) ?_
        refine mm_icmp_gt (n := 35) (tgt := 44) smd_S_rule_32 rfl rfl (fun hc => ?_) (fun hc => ?_)
        · replace hT := hT.1 hc
          refine mm_iconst (n := 45) (v := -1) smd_S_rule_44 rfl (by decide) ?_
          exact mm_iret rfl smd_S_rule_45 ⟨_, rfl, hT⟩
        · replace hT := hT.2 hc
          refine mm_iload (n := 37) (i := 4) smd_S_rule_35 rfl rfl ?_
          refine mm_iconst (n := 38) (v := 4) smd_S_rule_37 rfl (by decide) ?_
          refine mm_callSI (n := 41) (As := [.int x4, .int (4 : Int32)]) (rest := []) smv_S_isWithin smw_216 (mm_hRm (by decide) (by decide)) smd_S_rule_38 rfl rfl (Nat.le_of_ble_eq_true rfl) hT (fun r38 h38 hT => ?_)
          refine mm_if_ne (n := 44) (tgt := 46) smd_S_rule_41 rfl rfl (fun hc => ?_) (fun hc => ?_)
          · replace hT := hT.1 hc
            refine mm_aload_n (n := 47) (i := 0) smd_S_rule_46 rfl rfl rfl ?_
            refine mm_get (n := 50) (v := .int (h38 0 8)) smk_S_51 smb_S rfl smd_S_rule_47 rfl ?_
            refine mm_if_eq (n := 53) (tgt := 56) smd_S_rule_50 rfl rfl (fun hc => ?_) (fun hc => ?_)
            · replace hT := hT.1 hc
              refine mm_aload_n (n := 57) (i := 0) smd_S_rule_56 rfl rfl rfl ?_
              refine mm_get (n := 60) (v := .ref (mm_B Γ + 15)) smk_S_22 smb_S rfl smd_S_rule_57 rfl ?_
              refine mm_iload_n (n := 61) (i := 1) smd_S_rule_60 rfl rfl rfl ?_
              refine mm_iload_n (n := 62) (i := 2) smd_S_rule_61 rfl rfl rfl ?_
              refine mm_iload_n (n := 63) (i := 3) smd_S_rule_62 rfl rfl rfl ?_
              refine mm_iload (n := 65) (i := 4) smd_S_rule_63 rfl rfl ?_
              refine mm_iload (n := 67) (i := 5) smd_S_rule_65 rfl rfl ?_
              refine mm_callVV (n := 70) (As := [.int x1, .int x2, .int x3, .int x4, .int x5]) (rest := []) smv_R_write smw_249 smb_R (mm_hRm (by decide) (by decide)) smd_S_rule_67 rfl rfl (Nat.le_of_ble_eq_true rfl) hT (fun h67 hT => ?_)
              refine mm_aload_n (n := 71) (i := 0) smd_S_rule_70 rfl rfl rfl ?_
              refine mm_get (n := 74) (v := .ref (mm_B Γ + 15)) smk_S_22 smb_S rfl smd_S_rule_71 rfl ?_
              refine mm_get (n := 77) (v := .ref (mm_B Γ + 16)) smk_S_66 smb_R rfl smd_S_rule_74 rfl ?_
              refine mm_iload_n (n := 78) (i := 1) smd_S_rule_77 rfl rfl rfl ?_
              refine mm_iconst (n := 79) (v := 1) smd_S_rule_78 rfl (by decide) ?_
              refine mm_zast (n := 80) sma_16 hT.1 (Or.inr rfl) smd_S_rule_79 rfl ?_
              replace hT := hT.2
              refine mm_nam (fun h79 e_h79 => ?_)
              replace hT := hT h79 e_h79
              refine mm_iconst (n := 81) (v := 0) smd_S_rule_80 rfl (by decide) ?_
              exact mm_iret rfl smd_S_rule_81 ⟨_, rfl, hT⟩
            · replace hT := hT.2 hc
              refine mm_bipush (n := 55) (v := -2) smd_S_rule_53 rfl (by decide) ?_
              exact mm_iret rfl smd_S_rule_55 ⟨_, rfl, hT⟩
          · replace hT := hT.2 hc
            refine mm_iconst (n := 45) (v := -1) smd_S_rule_44 rfl (by decide) ?_
            exact mm_iret rfl smd_S_rule_45 ⟨_, rfl, hT⟩
    · replace hT := hT.2 hc
      refine mm_iconst (n := 25) (v := -1) smd_S_rule_24 rfl (by decide) ?_
      exact mm_iret rfl smd_S_rule_25 ⟨_, rfl, hT⟩
set_option maxHeartbeats 4000000 in
set_option maxRecDepth 100000 in
theorem smr_S_reset {Γ : mm_Ctx} {post : Int32 → mm_Mem → Prop} {h : mm_Mem}  (hT : ((h 0 8) = 0 → (mm_SV Γ smM_V_copyFrom [.ref (mm_B Γ + 8), .ref (mm_B Γ + 1)] h (fun h17 => mm_SV Γ smM_R_forgetAll [.ref (mm_B Γ + 15)] h17 (fun h24 => post (1 : Int32) h24)))) ∧ (¬ (h 0 8) = 0 → (post (0 : Int32) h))) : mm_SI Γ smM_S_reset [.ref (mm_B Γ + 0)] h post := by
  refine mm_spec0 (M := smM_S_reset) 0 (by decide +kernel) rfl (Nat.le_of_ble_eq_true rfl) ?_
  show mm_W Γ smM_S_reset (mm_pI post) 0 [some (.ref (mm_B Γ + 0))] [] h
  refine mm_aload_n (n := 1) (i := 0) smd_S_reset_0 rfl rfl rfl ?_
  refine mm_get (n := 4) (v := .int (h 0 8)) smk_S_51 smb_S rfl smd_S_reset_1 rfl ?_
  refine mm_if_eq (n := 7) (tgt := 9) smd_S_reset_4 rfl rfl (fun hc => ?_) (fun hc => ?_)
  · replace hT := hT.1 hc
    refine mm_aload_n (n := 10) (i := 0) smd_S_reset_9 rfl rfl rfl ?_
    refine mm_get (n := 13) (v := .ref (mm_B Γ + 8)) smk_S_16 smb_S rfl smd_S_reset_10 rfl ?_
    refine mm_aload_n (n := 14) (i := 0) smd_S_reset_13 rfl rfl rfl ?_
    refine mm_get (n := 17) (v := .ref (mm_B Γ + 1)) smk_S_10 smb_S rfl smd_S_reset_14 rfl ?_
    refine mm_callVV (n := 20) (As := [.ref (mm_B Γ + 1)]) (rest := []) smv_V_copyFrom smw_254 (smb_V (Or.inr rfl)) (mm_hRm (by decide) (by decide)) smd_S_reset_17 rfl rfl (Nat.le_of_ble_eq_true rfl) hT (fun h17 hT => ?_)
    refine mm_aload_n (n := 21) (i := 0) smd_S_reset_20 rfl rfl rfl ?_
    refine mm_get (n := 24) (v := .ref (mm_B Γ + 15)) smk_S_22 smb_S rfl smd_S_reset_21 rfl ?_
    refine mm_callVV (n := 27) (As := []) (rest := []) smv_R_forgetAll smw_261 smb_R (mm_hRm (by decide) (by decide)) smd_S_reset_24 rfl rfl (Nat.le_of_ble_eq_true rfl) hT (fun h24 hT => ?_)
    refine mm_iconst (n := 28) (v := 1) smd_S_reset_27 rfl (by decide) ?_
    exact mm_zret rfl (Or.inr rfl) smd_S_reset_28 ⟨_, rfl, hT⟩
  · replace hT := hT.2 hc
    refine mm_iconst (n := 8) (v := 0) smd_S_reset_7 rfl (by decide) ?_
    exact mm_zret rfl (Or.inl rfl) smd_S_reset_8 ⟨_, rfl, hT⟩
set_option maxHeartbeats 4000000 in
set_option maxRecDepth 100000 in
theorem smr_S_stage {Γ : mm_Ctx} {post : Int32 → mm_Mem → Prop} {h : mm_Mem}  (hT : ((h 0 8) = 0 → (mm_SI Γ smM_V_firstWrongWord [.ref (mm_B Γ + 8)] h (fun r14 h14 => (r14 = (-1 : Int32) → (mm_SI Γ smM_R_firstWithoutSource [.ref (mm_B Γ + 15), .ref (mm_B Γ + 1), .ref (mm_B Γ + 8)] h14 (fun r40 h40 => (r40 = (-1 : Int32) → (∀ h57 : mm_Mem, h57 = mm_wr h40 0 8 (1 : Int32) → (post (0 : Int32) h57))) ∧ (¬ r40 = (-1 : Int32) → (post ((-200 : Int32) - r40) h40))))) ∧ (¬ r14 = (-1 : Int32) → (post ((-100 : Int32) - r14) h14))))) ∧ (¬ (h 0 8) = 0 → (post (-2 : Int32) h))) : mm_SI Γ smM_S_stage [.ref (mm_B Γ + 0)] h post := by
  refine mm_spec0 (M := smM_S_stage) 2 (by decide +kernel) rfl (Nat.le_of_ble_eq_true rfl) ?_
  show mm_W Γ smM_S_stage (mm_pI post) 0 [some (.ref (mm_B Γ + 0)), none, none] [] h
  refine mm_aload_n (n := 1) (i := 0) smd_S_stage_0 rfl rfl rfl ?_
  refine mm_get (n := 4) (v := .int (h 0 8)) smk_S_51 smb_S rfl smd_S_stage_1 rfl ?_
  refine mm_if_eq (n := 7) (tgt := 10) smd_S_stage_4 rfl rfl (fun hc => ?_) (fun hc => ?_)
  · replace hT := hT.1 hc
    refine mm_aload_n (n := 11) (i := 0) smd_S_stage_10 rfl rfl rfl ?_
    refine mm_get (n := 14) (v := .ref (mm_B Γ + 8)) smk_S_16 smb_S rfl smd_S_stage_11 rfl ?_
    refine mm_callVI (n := 17) (As := []) (rest := []) smv_V_firstWrongWord smw_270 (smb_V (Or.inr rfl)) (mm_hRm (by decide) (by decide)) smd_S_stage_14 rfl rfl (Nat.le_of_ble_eq_true rfl) hT (fun r14 h14 hT => ?_)
    refine mm_istore_n (n := 18) (i := 1) (L' := [some (.ref (mm_B Γ + 0)), some (.int r14), none]) smd_S_stage_17 rfl rfl (by decide) rfl ?_
    refine mm_iload_n (n := 19) (i := 1) smd_S_stage_18 rfl rfl rfl ?_
    refine mm_iconst (n := 20) (v := -1) smd_S_stage_19 rfl (by decide) ?_
    refine mm_icmp_eq (n := 23) (tgt := 28) smd_S_stage_20 rfl rfl (fun hc => ?_) (fun hc => ?_)
    · replace hT := hT.1 hc
      refine mm_aload_n (n := 29) (i := 0) smd_S_stage_28 rfl rfl rfl ?_
      refine mm_get (n := 32) (v := .ref (mm_B Γ + 15)) smk_S_22 smb_S rfl smd_S_stage_29 rfl ?_
      refine mm_aload_n (n := 33) (i := 0) smd_S_stage_32 rfl rfl rfl ?_
      refine mm_get (n := 36) (v := .ref (mm_B Γ + 1)) smk_S_10 smb_S rfl smd_S_stage_33 rfl ?_
      refine mm_aload_n (n := 37) (i := 0) smd_S_stage_36 rfl rfl rfl ?_
      refine mm_get (n := 40) (v := .ref (mm_B Γ + 8)) smk_S_16 smb_S rfl smd_S_stage_37 rfl ?_
      refine mm_callVI (n := 43) (As := [.ref (mm_B Γ + 1), .ref (mm_B Γ + 8)]) (rest := []) smv_R_firstWithoutSource smw_290 smb_R (mm_hRm (by decide) (by decide)) smd_S_stage_40 rfl rfl (Nat.le_of_ble_eq_true rfl) hT (fun r40 h40 hT => ?_)
      refine mm_istore_n (n := 44) (i := 2) (L' := [some (.ref (mm_B Γ + 0)), some (.int r14), some (.int r40)]) smd_S_stage_43 rfl rfl (by decide) rfl ?_
      refine mm_iload_n (n := 45) (i := 2) smd_S_stage_44 rfl rfl rfl ?_
      refine mm_iconst (n := 46) (v := -1) smd_S_stage_45 rfl (by decide) ?_
      refine mm_icmp_eq (n := 49) (tgt := 55) smd_S_stage_46 rfl rfl (fun hc => ?_) (fun hc => ?_)
      · replace hT := hT.1 hc
        refine mm_aload_n (n := 56) (i := 0) smd_S_stage_55 rfl rfl rfl ?_
        refine mm_iconst (n := 57) (v := 1) smd_S_stage_56 rfl (by decide) ?_
        refine mm_put (n := 60) smk_S_51 smp_S_8 smb_S rfl (Nat.le_of_ble_eq_true rfl) rfl rfl smd_S_stage_57 rfl ?_
        refine mm_nam (fun h57 e_h57 => ?_)
        replace hT := hT h57 e_h57
        refine mm_iconst (n := 61) (v := 0) smd_S_stage_60 rfl (by decide) ?_
        exact mm_iret rfl smd_S_stage_61 ⟨_, rfl, hT⟩
      · replace hT := hT.2 hc
        refine mm_sipush (n := 52) (v := -200) smd_S_stage_49 rfl (by decide) ?_
        refine mm_iload_n (n := 53) (i := 2) smd_S_stage_52 rfl rfl rfl ?_
        refine mm_isub (n := 54) smd_S_stage_53 rfl ?_
        exact mm_iret rfl smd_S_stage_54 ⟨_, rfl, hT⟩
    · replace hT := hT.2 hc
      refine mm_bipush (n := 25) (v := -100) smd_S_stage_23 rfl (by decide) ?_
      refine mm_iload_n (n := 26) (i := 1) smd_S_stage_25 rfl rfl rfl ?_
      refine mm_isub (n := 27) smd_S_stage_26 rfl ?_
      exact mm_iret rfl smd_S_stage_27 ⟨_, rfl, hT⟩
  · replace hT := hT.2 hc
    refine mm_bipush (n := 9) (v := -2) smd_S_stage_7 rfl (by decide) ?_
    exact mm_iret rfl smd_S_stage_9 ⟨_, rfl, hT⟩
set_option maxHeartbeats 4000000 in
set_option maxRecDepth 100000 in
theorem smr_S_withdraw {Γ : mm_Ctx} {post : Int32 → mm_Mem → Prop} {h : mm_Mem}  (hT : ∀ y1_4 : Int32, y1_4 = h 0 8 → (∀ h7 : mm_Mem, h7 = mm_wr h 0 8 (0 : Int32) → ((y1_4 = 0 ∨ y1_4 = 1) ∧ post y1_4 h7))) : mm_SI Γ smM_S_withdraw [.ref (mm_B Γ + 0)] h post := by
  refine mm_spec0 (M := smM_S_withdraw) 1 (by decide +kernel) rfl (Nat.le_of_ble_eq_true rfl) ?_
  show mm_W Γ smM_S_withdraw (mm_pI post) 0 [some (.ref (mm_B Γ + 0)), none] [] h
  refine mm_aload_n (n := 1) (i := 0) smd_S_withdraw_0 rfl rfl rfl ?_
  refine mm_get (n := 4) (v := .int (h 0 8)) smk_S_51 smb_S rfl smd_S_withdraw_1 rfl ?_
  refine mm_top (fun y1_4 e_y1_4 => ?_)
  replace hT := hT y1_4 e_y1_4
  refine mm_istore_n (n := 5) (i := 1) (L' := [some (.ref (mm_B Γ + 0)), some (.int y1_4)]) smd_S_withdraw_4 rfl rfl (by decide) rfl ?_
  refine mm_aload_n (n := 6) (i := 0) smd_S_withdraw_5 rfl rfl rfl ?_
  refine mm_iconst (n := 7) (v := 0) smd_S_withdraw_6 rfl (by decide) ?_
  refine mm_put (n := 10) smk_S_51 smp_S_8 smb_S rfl (Nat.le_of_ble_eq_true rfl) rfl rfl smd_S_withdraw_7 rfl ?_
  refine mm_nam (fun h7 e_h7 => ?_)
  replace hT := hT h7 e_h7
  refine mm_iload_n (n := 11) (i := 1) smd_S_withdraw_10 rfl rfl rfl ?_
  exact mm_zret rfl hT.1 smd_S_withdraw_11 ⟨_, rfl, hT.2⟩
set_option maxHeartbeats 4000000 in
set_option maxRecDepth 100000 in
theorem smr_S_changed {Γ : mm_Ctx} {post : Int32 → mm_Mem → Prop} {h : mm_Mem} (x1 : Int32) (hT : ((h 0 8) = 0 → (post (0 : Int32) h)) ∧ (¬ (h 0 8) = 0 → (mm_SI Γ smM_S_isWithin [.int x1, .int (6 : Int32)] h (fun r10 h10 => (r10 = 0 → (post (0 : Int32) h10)) ∧ (¬ r10 = 0 → (mm_SI Γ smM_S_draftChanges [.ref (mm_B Γ + 0), .int x1] h10 (fun r18 h18 => (r18 = 0 → (post (0 : Int32) h18)) ∧ (¬ r18 = 0 → (post (1 : Int32) h18))))))))) : mm_SI Γ smM_S_changed [.ref (mm_B Γ + 0), .int x1] h post := by
  refine mm_spec0 (M := smM_S_changed) 0 (by decide +kernel) rfl (Nat.le_of_ble_eq_true rfl) ?_
  show mm_W Γ smM_S_changed (mm_pI post) 0 [some (.ref (mm_B Γ + 0)), some (.int x1)] [] h
  refine mm_aload_n (n := 1) (i := 0) smd_S_changed_0 rfl rfl rfl ?_
  refine mm_get (n := 4) (v := .int (h 0 8)) smk_S_51 smb_S rfl smd_S_changed_1 rfl ?_
  refine mm_if_eq (n := 7) (tgt := 28) smd_S_changed_4 rfl rfl (fun hc => ?_) (fun hc => ?_)
  · replace hT := hT.1 hc
    refine mm_iconst (n := 29) (v := 0) smd_S_changed_28 rfl (by decide) ?_
    exact mm_zret rfl (Or.inl rfl) smd_S_changed_29 ⟨_, rfl, hT⟩
  · replace hT := hT.2 hc
    refine mm_iload_n (n := 8) (i := 1) smd_S_changed_7 rfl rfl rfl ?_
    refine mm_bipush (n := 10) (v := 6) smd_S_changed_8 rfl (by decide) ?_
    refine mm_callSI (n := 13) (As := [.int x1, .int (6 : Int32)]) (rest := []) smv_S_isWithin smw_216 (mm_hRm (by decide) (by decide)) smd_S_changed_10 rfl rfl (Nat.le_of_ble_eq_true rfl) hT (fun r10 h10 hT => ?_)
    refine mm_if_eq (n := 16) (tgt := 28) smd_S_changed_13 rfl rfl (fun hc => ?_) (fun hc => ?_)
    · replace hT := hT.1 hc
      refine mm_iconst (n := 29) (v := 0) smd_S_changed_28 rfl (by decide) ?_
      exact mm_zret rfl (Or.inl rfl) smd_S_changed_29 ⟨_, rfl, hT⟩
    · replace hT := hT.2 hc
      refine mm_aload_n (n := 17) (i := 0) smd_S_changed_16 rfl rfl rfl ?_
      refine mm_iload_n (n := 18) (i := 1) smd_S_changed_17 rfl rfl rfl ?_
      refine mm_callVI (n := 21) (As := [.int x1]) (rest := []) smv_S_draftChanges smw_302 smb_S (mm_hRm (by decide) (by decide)) smd_S_changed_18 rfl rfl (Nat.le_of_ble_eq_true rfl) hT (fun r18 h18 hT => ?_)
      refine mm_if_eq (n := 24) (tgt := 28) smd_S_changed_21 rfl rfl (fun hc => ?_) (fun hc => ?_)
      · replace hT := hT.1 hc
        refine mm_iconst (n := 29) (v := 0) smd_S_changed_28 rfl (by decide) ?_
        exact mm_zret rfl (Or.inl rfl) smd_S_changed_29 ⟨_, rfl, hT⟩
      · replace hT := hT.2 hc
        refine mm_iconst (n := 25) (v := 1) smd_S_changed_24 rfl (by decide) ?_
        refine mm_goto (n := 29) smd_S_changed_25 rfl ?_
        exact mm_zret rfl (Or.inr rfl) smd_S_changed_29 ⟨_, rfl, hT⟩
set_option maxHeartbeats 4000000 in
set_option maxRecDepth 100000 in
theorem smr_S_blocker {Γ : mm_Ctx} {post : Int32 → mm_Mem → Prop} {h : mm_Mem} (x1 : Int32) (hT : ((h 0 8) = 0 → (post (0 : Int32) h)) ∧ (¬ (h 0 8) = 0 → (mm_SI Γ smM_S_firstTaskInTheWay [.ref (mm_B Γ + 0), .int x1] h (fun r9 h9 => post r9 h9)))) : mm_SI Γ smM_S_blocker [.ref (mm_B Γ + 0), .int x1] h post := by
  refine mm_spec0 (M := smM_S_blocker) 0 (by decide +kernel) rfl (Nat.le_of_ble_eq_true rfl) ?_
  show mm_W Γ smM_S_blocker (mm_pI post) 0 [some (.ref (mm_B Γ + 0)), some (.int x1)] [] h
  refine mm_aload_n (n := 1) (i := 0) smd_S_blocker_0 rfl rfl rfl ?_
  refine mm_get (n := 4) (v := .int (h 0 8)) smk_S_51 smb_S rfl smd_S_blocker_1 rfl ?_
  refine mm_if_eq (n := 7) (tgt := 15) smd_S_blocker_4 rfl rfl (fun hc => ?_) (fun hc => ?_)
  · replace hT := hT.1 hc
    refine mm_iconst (n := 16) (v := 0) smd_S_blocker_15 rfl (by decide) ?_
    exact mm_iret rfl smd_S_blocker_16 ⟨_, rfl, hT⟩
  · replace hT := hT.2 hc
    refine mm_aload_n (n := 8) (i := 0) smd_S_blocker_7 rfl rfl rfl ?_
    refine mm_iload_n (n := 9) (i := 1) smd_S_blocker_8 rfl rfl rfl ?_
    refine mm_callVI (n := 12) (As := [.int x1]) (rest := []) smv_S_firstTaskInTheWay smw_322 smb_S (mm_hRm (by decide) (by decide)) smd_S_blocker_9 rfl rfl (Nat.le_of_ble_eq_true rfl) hT (fun r9 h9 hT => ?_)
    refine mm_goto (n := 16) smd_S_blocker_12 rfl ?_
    exact mm_iret rfl smd_S_blocker_16 ⟨_, rfl, hT⟩
set_option maxHeartbeats 4000000 in
set_option maxRecDepth 100000 in
theorem smr_S_attempt {Γ : mm_Ctx} {post : Int32 → mm_Mem → Prop} {h : mm_Mem} (x1 : Int32) (hT : (0 ≤ x1 → ((¬ (h 0 8) = 0 → (mm_SI Γ smM_S_firstTaskInTheWay [.ref (mm_B Γ + 0), .int (1 : Int32)] h (fun r17 h17 => (r17 = 0 → (mm_SI Γ smM_S_dropUnreachable [.ref (mm_B Γ + 0)] h17 (fun r26 h26 => mm_SI Γ smM_H_makeOver [.ref (mm_B Γ + 20), .ref (mm_B Γ + 15), .ref (mm_B Γ + 8), .int x1] h26 (fun r43 h43 => (¬ r43 = 0 → (mm_SV Γ smM_S_takeThePlace [.ref (mm_B Γ + 0)] h43 (fun h52 => post (1 : Int32) h52))) ∧ (r43 = 0 → (post (2 : Int32) h43)))))) ∧ (¬ r17 = 0 → (post (0 : Int32) h17))))) ∧ ((h 0 8) = 0 → (post (3 : Int32) h)))) ∧ (¬ 0 ≤ x1 → (post (-1 : Int32) h))) : mm_SI Γ smM_S_attempt [.ref (mm_B Γ + 0), .int x1] h post := by
  refine mm_spec0 (M := smM_S_attempt) 0 (by decide +kernel) rfl (Nat.le_of_ble_eq_true rfl) ?_
  show mm_W Γ smM_S_attempt (mm_pI post) 0 [some (.ref (mm_B Γ + 0)), some (.int x1)] [] h
  refine mm_iload_n (n := 1) (i := 1) smd_S_attempt_0 rfl rfl rfl ?_
  refine mm_if_ge (n := 4) (tgt := 6) smd_S_attempt_1 rfl rfl (fun hc => ?_) (fun hc => ?_)
  · replace hT := hT.1 hc
    refine mm_aload_n (n := 7) (i := 0) smd_S_attempt_6 rfl rfl rfl ?_
    refine mm_get (n := 10) (v := .int (h 0 8)) smk_S_51 smb_S rfl smd_S_attempt_7 rfl ?_
    refine mm_if_ne (n := 13) (tgt := 15) smd_S_attempt_10 rfl rfl (fun hc => ?_) (fun hc => ?_)
    · replace hT := hT.1 hc
      refine mm_aload_n (n := 16) (i := 0) smd_S_attempt_15 rfl rfl rfl ?_
      refine mm_iconst (n := 17) (v := 1) smd_S_attempt_16 rfl (by decide) ?_
      refine mm_callVI (n := 20) (As := [.int (1 : Int32)]) (rest := []) smv_S_firstTaskInTheWay smw_322 smb_S (mm_hRm (by decide) (by decide)) smd_S_attempt_17 rfl rfl (Nat.le_of_ble_eq_true rfl) hT (fun r17 h17 hT => ?_)
      refine mm_if_eq (n := 23) (tgt := 25) smd_S_attempt_20 rfl rfl (fun hc => ?_) (fun hc => ?_)
      · replace hT := hT.1 hc
        refine mm_aload_n (n := 26) (i := 0) smd_S_attempt_25 rfl rfl rfl ?_
        refine mm_callVI (n := 29) (As := []) (rest := []) smv_S_dropUnreachable smw_344 smb_S (mm_hRm (by decide) (by decide)) smd_S_attempt_26 rfl rfl (Nat.le_of_ble_eq_true rfl) hT (fun r26 h26 hT => ?_)
        refine mm_pop (n := 30) smd_S_attempt_29 rfl rfl ?_
        refine mm_aload_n (n := 31) (i := 0) smd_S_attempt_30 rfl rfl rfl ?_
        refine mm_get (n := 34) (v := .ref (mm_B Γ + 20)) smk_S_29 smb_S rfl smd_S_attempt_31 rfl ?_
        refine mm_aload_n (n := 35) (i := 0) smd_S_attempt_34 rfl rfl rfl ?_
        refine mm_get (n := 38) (v := .ref (mm_B Γ + 15)) smk_S_22 smb_S rfl smd_S_attempt_35 rfl ?_
        refine mm_aload_n (n := 39) (i := 0) smd_S_attempt_38 rfl rfl rfl ?_
        refine mm_get (n := 42) (v := .ref (mm_B Γ + 8)) smk_S_16 smb_S rfl smd_S_attempt_39 rfl ?_
        refine mm_iload_n (n := 43) (i := 1) smd_S_attempt_42 rfl rfl rfl ?_
        refine mm_callVI (n := 46) (As := [.ref (mm_B Γ + 15), .ref (mm_B Γ + 8), .int x1]) (rest := []) smv_H_makeOver smw_369 smb_H (mm_hRm (by decide) (by decide)) smd_S_attempt_43 rfl rfl (Nat.le_of_ble_eq_true rfl) hT (fun r43 h43 hT => ?_)
        refine mm_if_ne (n := 49) (tgt := 51) smd_S_attempt_46 rfl rfl (fun hc => ?_) (fun hc => ?_)
        · replace hT := hT.1 hc
          refine mm_aload_n (n := 52) (i := 0) smd_S_attempt_51 rfl rfl rfl ?_
          refine mm_callVV (n := 55) (As := []) (rest := []) smv_S_takeThePlace smw_386 smb_S (mm_hRm (by decide) (by decide)) smd_S_attempt_52 rfl rfl (Nat.le_of_ble_eq_true rfl) hT (fun h52 hT => ?_)
          refine mm_iconst (n := 56) (v := 1) smd_S_attempt_55 rfl (by decide) ?_
          exact mm_iret rfl smd_S_attempt_56 ⟨_, rfl, hT⟩
        · replace hT := hT.2 hc
          refine mm_iconst (n := 50) (v := 2) smd_S_attempt_49 rfl (by decide) ?_
          exact mm_iret rfl smd_S_attempt_50 ⟨_, rfl, hT⟩
      · replace hT := hT.2 hc
        refine mm_iconst (n := 24) (v := 0) smd_S_attempt_23 rfl (by decide) ?_
        exact mm_iret rfl smd_S_attempt_24 ⟨_, rfl, hT⟩
    · replace hT := hT.2 hc
      refine mm_iconst (n := 14) (v := 3) smd_S_attempt_13 rfl (by decide) ?_
      exact mm_iret rfl smd_S_attempt_14 ⟨_, rfl, hT⟩
  · replace hT := hT.2 hc
    refine mm_iconst (n := 5) (v := -1) smd_S_attempt_4 rfl (by decide) ?_
    exact mm_iret rfl smd_S_attempt_5 ⟨_, rfl, hT⟩
set_option maxHeartbeats 4000000 in
set_option maxRecDepth 100000 in
theorem smr_S_version {Γ : mm_Ctx} {post : Int32 → mm_Mem → Prop} {h : mm_Mem}  (hT : post (h 0 7) h) : mm_SI Γ smM_S_version [.ref (mm_B Γ + 0)] h post := by
  refine mm_spec0 (M := smM_S_version) 0 (by decide +kernel) rfl (Nat.le_of_ble_eq_true rfl) ?_
  show mm_W Γ smM_S_version (mm_pI post) 0 [some (.ref (mm_B Γ + 0))] [] h
  refine mm_aload_n (n := 1) (i := 0) smd_S_version_0 rfl rfl rfl ?_
  refine mm_get (n := 4) (v := .int (h 0 7)) smk_S_106 smb_S rfl smd_S_version_1 rfl ?_
  exact mm_iret rfl smd_S_version_4 ⟨_, rfl, hT⟩
set_option maxHeartbeats 4000000 in
set_option maxRecDepth 100000 in
theorem smr_S_spawn {Γ : mm_Ctx} {post : Int32 → mm_Mem → Prop} {h : mm_Mem} (x1 : Int32) (x2 : Int32) (hT : mm_SI Γ smM_V_hasProcedure [.ref (mm_B Γ + 1), .int x1] h (fun r5 h5 => (¬ r5 = 0 → (((h5 0 6) < (6 : Int32) → ((vp_in (h5 0 6) 6) ∧ (∀ t33 : Nat, t33 = 28 + 6 * (h5 0 6).toNatClampNeg → mm_isT t33 → (mm_SV Γ smM_T_push [.ref (mm_B Γ + t33), .int x1, .int x2, .int (0 : Int32)] h5 (fun h37 => ∀ h47 : mm_Mem, h47 = mm_wr h37 0 6 ((h37 0 6) + (1 : Int32)) → (post (h47 0 6) h47)))))) ∧ (¬ (h5 0 6) < (6 : Int32) → (post (-3 : Int32) h5)))) ∧ (r5 = 0 → (post (-1 : Int32) h5)))) : mm_SI Γ smM_S_spawn [.ref (mm_B Γ + 0), .int x1, .int x2] h post := by
  refine mm_spec0 (M := smM_S_spawn) 0 (by decide +kernel) rfl (Nat.le_of_ble_eq_true rfl) ?_
  show mm_W Γ smM_S_spawn (mm_pI post) 0 [some (.ref (mm_B Γ + 0)), some (.int x1), some (.int x2)] [] h
  refine mm_aload_n (n := 1) (i := 0) smd_S_spawn_0 rfl rfl rfl ?_
  refine mm_get (n := 4) (v := .ref (mm_B Γ + 1)) smk_S_10 smb_S rfl smd_S_spawn_1 rfl ?_
  refine mm_iload_n (n := 5) (i := 1) smd_S_spawn_4 rfl rfl rfl ?_
  refine mm_callVI (n := 8) (As := [.int x1]) (rest := []) smv_V_hasProcedure smw_402 (smb_V (Or.inl rfl)) (mm_hRm (by decide) (by decide)) smd_S_spawn_5 rfl rfl (Nat.le_of_ble_eq_true rfl) hT (fun r5 h5 hT => ?_)
  refine mm_if_ne (n := 11) (tgt := 13) smd_S_spawn_8 rfl rfl (fun hc => ?_) (fun hc => ?_)
  · replace hT := hT.1 hc
    refine mm_aload_n (n := 14) (i := 0) smd_S_spawn_13 rfl rfl rfl ?_
    refine mm_get (n := 17) (v := .int (h5 0 6)) smk_S_113 smb_S rfl smd_S_spawn_14 rfl ?_
    refine mm_bipush (n := 19) (v := 6) smd_S_spawn_17 rfl (by decide) ?_
    refine mm_icmp_lt (n := 22) (tgt := 25) smd_S_spawn_19 rfl rfl (fun hc => ?_) (fun hc => ?_)
    · replace hT := hT.1 hc
      refine mm_aload_n (n := 26) (i := 0) smd_S_spawn_25 rfl rfl rfl ?_
      refine mm_get (n := 29) (v := .ref (mm_B Γ + 27)) smk_S_39 smb_S rfl smd_S_spawn_26 rfl ?_
      refine mm_aload_n (n := 30) (i := 0) smd_S_spawn_29 rfl rfl rfl ?_
      refine mm_get (n := 33) (v := .int (h5 0 6)) smk_S_113 smb_S rfl smd_S_spawn_30 rfl ?_
      refine mm_taald (n := 34) hT.1 smd_S_spawn_33 rfl (fun t33 e_t33 h_t33 => ?_)
      replace hT := hT.2 t33 e_t33 h_t33
      refine mm_iload_n (n := 35) (i := 1) smd_S_spawn_34 rfl rfl rfl ?_
      refine mm_iload_n (n := 36) (i := 2) smd_S_spawn_35 rfl rfl rfl ?_
      refine mm_iconst (n := 37) (v := 0) smd_S_spawn_36 rfl (by decide) ?_
      refine mm_callVV (n := 40) (As := [.int x1, .int x2, .int (0 : Int32)]) (rest := []) smv_T_push smw_403 (smb_T h_t33) (mm_hRm (by decide) (by decide)) smd_S_spawn_37 rfl rfl (Nat.le_of_ble_eq_true rfl) hT (fun h37 hT => ?_)
      refine mm_aload_n (n := 41) (i := 0) smd_S_spawn_40 rfl rfl rfl ?_
      refine mm_dup (n := 42) smd_S_spawn_41 rfl rfl ?_
      refine mm_get (n := 45) (v := .int (h37 0 6)) smk_S_113 smb_S rfl smd_S_spawn_42 rfl ?_
      refine mm_iconst (n := 46) (v := 1) smd_S_spawn_45 rfl (by decide) ?_
      refine mm_iadd (n := 47) smd_S_spawn_46 rfl ?_
      refine mm_put (n := 50) smk_S_113 smp_S_6 smb_S rfl (Nat.le_of_ble_eq_true rfl) rfl rfl smd_S_spawn_47 rfl ?_
      refine mm_nam (fun h47 e_h47 => ?_)
      replace hT := hT h47 e_h47
      refine mm_aload_n (n := 51) (i := 0) smd_S_spawn_50 rfl rfl rfl ?_
      refine mm_get (n := 54) (v := .int (h47 0 6)) smk_S_113 smb_S rfl smd_S_spawn_51 rfl ?_
      exact mm_iret rfl smd_S_spawn_54 ⟨_, rfl, hT⟩
    · replace hT := hT.2 hc
      refine mm_bipush (n := 24) (v := -3) smd_S_spawn_22 rfl (by decide) ?_
      exact mm_iret rfl smd_S_spawn_24 ⟨_, rfl, hT⟩
  · replace hT := hT.2 hc
    refine mm_iconst (n := 12) (v := -1) smd_S_spawn_11 rfl (by decide) ?_
    exact mm_iret rfl smd_S_spawn_12 ⟨_, rfl, hT⟩
set_option maxHeartbeats 4000000 in
set_option maxRecDepth 100000 in
theorem smr_S_step {Γ : mm_Ctx} {post : Int32 → mm_Mem → Prop} {h : mm_Mem} (x1 : Int32) (x2 : Int32) (hT : mm_SI Γ smM_S_isTask [.ref (mm_B Γ + 0), .int x1] h (fun r2 h2 => (r2 = 0 → (post (-1 : Int32) h2)) ∧ (¬ r2 = 0 → ((x2 < (1 : Int32) → (post (-1 : Int32) h2)) ∧ (¬ x2 < (1 : Int32) → ((x2 ≤ (200 : Int32) → ((vp_in (x1 - (1 : Int32)) 6) ∧ (∀ t29 : Nat, t29 = 28 + 6 * (x1 - (1 : Int32)).toNatClampNeg → mm_isT t29 → ((¬ (h2 t29 7) = (1 : Int32) → (mm_W Γ smM_S_step (mm_pI post) 47 [some (.ref (mm_B Γ + 0)), none, some (.int x2), some (.ref (mm_B Γ + t29)), some (.int (0 : Int32))] [] h2)) ∧ ((h2 t29 7) = (1 : Int32) → (∀ h41 : mm_Mem, h41 = mm_wr h2 t29 7 (0 : Int32) → (mm_W Γ smM_S_step (mm_pI post) 47 [some (.ref (mm_B Γ + 0)), none, some (.int x2), some (.ref (mm_B Γ + t29)), some (.int (0 : Int32))] [] h41))))))) ∧ (¬ x2 ≤ (200 : Int32) → (post (-1 : Int32) h2)))))))) : mm_SI Γ smM_S_step [.ref (mm_B Γ + 0), .int x1, .int x2] h post := by
  refine mm_spec0 (M := smM_S_step) 2 (by decide +kernel) rfl (Nat.le_of_ble_eq_true rfl) ?_
  show mm_W Γ smM_S_step (mm_pI post) 0 [some (.ref (mm_B Γ + 0)), some (.int x1), some (.int x2), none, none] [] h
  refine mm_aload_n (n := 1) (i := 0) smd_S_step_0 rfl rfl rfl ?_
  refine mm_iload_n (n := 2) (i := 1) smd_S_step_1 rfl rfl rfl ?_
  refine mm_callVI (n := 5) (As := [.int x1]) (rest := []) smv_S_isTask smw_415 smb_S (mm_hRm (by decide) (by decide)) smd_S_step_2 rfl rfl (Nat.le_of_ble_eq_true rfl) hT (fun r2 h2 hT => ?_)
  refine mm_if_eq (n := 8) (tgt := 20) smd_S_step_5 rfl rfl (fun hc => ?_) (fun hc => ?_)
  · replace hT := hT.1 hc
    refine mm_iconst (n := 21) (v := -1) smd_S_step_20 rfl (by decide) ?_
    exact mm_iret rfl smd_S_step_21 ⟨_, rfl, hT⟩
  · replace hT := hT.2 hc
    refine mm_iload_n (n := 9) (i := 2) smd_S_step_8 rfl rfl rfl ?_
    refine mm_iconst (n := 10) (v := 1) smd_S_step_9 rfl (by decide) ?_
    refine mm_icmp_lt (n := 13) (tgt := 20) smd_S_step_10 rfl rfl (fun hc => ?_) (fun hc => ?_)
    · replace hT := hT.1 hc
      refine mm_iconst (n := 21) (v := -1) smd_S_step_20 rfl (by decide) ?_
      exact mm_iret rfl smd_S_step_21 ⟨_, rfl, hT⟩
    · replace hT := hT.2 hc
      refine mm_iload_n (n := 14) (i := 2) smd_S_step_13 rfl rfl rfl ?_
      refine mm_sipush (n := 17) (v := 200) smd_S_step_14 rfl (by decide) ?_
      refine mm_icmp_le (n := 20) (tgt := 22) smd_S_step_17 rfl rfl (fun hc => ?_) (fun hc => ?_)
      · replace hT := hT.1 hc
        refine mm_aload_n (n := 23) (i := 0) smd_S_step_22 rfl rfl rfl ?_
        refine mm_get (n := 26) (v := .ref (mm_B Γ + 27)) smk_S_39 smb_S rfl smd_S_step_23 rfl ?_
        refine mm_iload_n (n := 27) (i := 1) smd_S_step_26 rfl rfl rfl ?_
        refine mm_iconst (n := 28) (v := 1) smd_S_step_27 rfl (by decide) ?_
        refine mm_isub (n := 29) smd_S_step_28 rfl ?_
        refine mm_taald (n := 30) hT.1 smd_S_step_29 rfl (fun t29 e_t29 h_t29 => ?_)
        replace hT := hT.2 t29 e_t29 h_t29
        refine mm_astore_n (n := 31) (i := 3) (L' := [some (.ref (mm_B Γ + 0)), some (.int x1), some (.int x2), some (.ref (mm_B Γ + t29)), none]) smd_S_step_30 rfl rfl (by decide) rfl ?_
        refine mm_aload_n (n := 32) (i := 3) smd_S_step_31 rfl rfl rfl ?_
        refine mm_get (n := 35) (v := .int (h2 t29 7)) smk_S_123 (smb_T h_t29) rfl smd_S_step_32 rfl ?_
        refine mm_iconst (n := 36) (v := 1) smd_S_step_35 rfl (by decide) ?_
        refine mm_icmp_ne (n := 39) (tgt := 44) smd_S_step_36 rfl rfl (fun hc => ?_) (fun hc => ?_)
        · replace hT := hT.1 hc
          refine mm_iconst (n := 45) (v := 0) smd_S_step_44 rfl (by decide) ?_
          refine mm_istore (n := 47) (i := 4) (L' := [some (.ref (mm_B Γ + 0)), some (.int x1), some (.int x2), some (.ref (mm_B Γ + t29)), some (.int (0 : Int32))]) smd_S_step_45 rfl (by decide) rfl ?_
          exact mm_weak (by refine ⟨rfl, rfl, rfl, rfl, trivial⟩) hT
        · replace hT := hT.2 hc
          refine mm_aload_n (n := 40) (i := 3) smd_S_step_39 rfl rfl rfl ?_
          refine mm_iconst (n := 41) (v := 0) smd_S_step_40 rfl (by decide) ?_
          refine mm_put (n := 44) smk_S_123 smp_T_7 (smb_T h_t29) rfl (Nat.le_of_ble_eq_true rfl) rfl rfl smd_S_step_41 rfl ?_
          refine mm_nam (fun h41 e_h41 => ?_)
          replace hT := hT h41 e_h41
          refine mm_iconst (n := 45) (v := 0) smd_S_step_44 rfl (by decide) ?_
          refine mm_istore (n := 47) (i := 4) (L' := [some (.ref (mm_B Γ + 0)), some (.int x1), some (.int x2), some (.ref (mm_B Γ + t29)), some (.int (0 : Int32))]) smd_S_step_45 rfl (by decide) rfl ?_
          exact mm_weak (by refine ⟨rfl, rfl, rfl, rfl, trivial⟩) hT
      · replace hT := hT.2 hc
        refine mm_iconst (n := 21) (v := -1) smd_S_step_20 rfl (by decide) ?_
        exact mm_iret rfl smd_S_step_21 ⟨_, rfl, hT⟩
set_option maxHeartbeats 4000000 in
set_option maxRecDepth 100000 in
theorem smr_S_step_47 {Γ : mm_Ctx} {post : Int32 → mm_Mem → Prop} {h : mm_Mem} (x2 : Int32) {t29 : Nat} (h_t29 : mm_isT t29) (x4 : Int32) (hT : (x2 ≤ x4 → (post (h t29 7) h)) ∧ (¬ x2 ≤ x4 → ((¬ (h t29 7) = 0 → (post (h t29 7) h)) ∧ ((h t29 7) = 0 → (mm_SV Γ smM_S_perform [.ref (mm_B Γ + 0), .ref (mm_B Γ + t29)] h (fun h62 => mm_W Γ smM_S_step (mm_pI post) 47 [some (.ref (mm_B Γ + 0)), none, some (.int x2), some (.ref (mm_B Γ + t29)), some (.int (x4 + (1 : Int32)))] [] h62)))))) : mm_W Γ smM_S_step (mm_pI post) 47 [some (.ref (mm_B Γ + 0)), none, some (.int x2), some (.ref (mm_B Γ + t29)), some (.int x4)] [] h := by
  refine mm_iload (n := 49) (i := 4) smd_S_step_47 rfl rfl ?_
  refine mm_iload_n (n := 50) (i := 2) smd_S_step_49 rfl rfl rfl ?_
  refine mm_icmp_ge (n := 53) (tgt := 71) smd_S_step_50 rfl rfl (fun hc => ?_) (fun hc => ?_)
  · replace hT := hT.1 hc
    refine mm_aload_n (n := 72) (i := 3) smd_S_step_71 rfl rfl rfl ?_
    refine mm_get (n := 75) (v := .int (h t29 7)) smk_S_123 (smb_T h_t29) rfl smd_S_step_72 rfl ?_
    exact mm_iret rfl smd_S_step_75 ⟨_, rfl, hT⟩
  · replace hT := hT.2 hc
    refine mm_aload_n (n := 54) (i := 3) smd_S_step_53 rfl rfl rfl ?_
    refine mm_get (n := 57) (v := .int (h t29 7)) smk_S_123 (smb_T h_t29) rfl smd_S_step_54 rfl ?_
    refine mm_if_ne (n := 60) (tgt := 71) smd_S_step_57 rfl rfl (fun hc => ?_) (fun hc => ?_)
    · replace hT := hT.1 hc
      refine mm_aload_n (n := 72) (i := 3) smd_S_step_71 rfl rfl rfl ?_
      refine mm_get (n := 75) (v := .int (h t29 7)) smk_S_123 (smb_T h_t29) rfl smd_S_step_72 rfl ?_
      exact mm_iret rfl smd_S_step_75 ⟨_, rfl, hT⟩
    · replace hT := hT.2 hc
      refine mm_aload_n (n := 61) (i := 0) smd_S_step_60 rfl rfl rfl ?_
      refine mm_aload_n (n := 62) (i := 3) smd_S_step_61 rfl rfl rfl ?_
      refine mm_callVV (n := 65) (As := [.ref (mm_B Γ + t29)]) (rest := []) smv_S_perform smw_419 smb_S (mm_hRm (by decide) (by decide)) smd_S_step_62 rfl rfl (Nat.le_of_ble_eq_true rfl) hT (fun h62 hT => ?_)
      refine mm_iinc (n := 68) (i := 4) (d := 1) (L' := [some (.ref (mm_B Γ + 0)), none, some (.int x2), some (.ref (mm_B Γ + t29)), some (.int (x4 + (1 : Int32)))]) smd_S_step_65 rfl rfl (by decide) (by decide) rfl ?_
      refine mm_goto (n := 47) smd_S_step_68 rfl ?_
      exact mm_weak (by refine ⟨rfl, rfl, rfl, rfl, trivial⟩) hT
set_option maxHeartbeats 4000000 in
set_option maxRecDepth 100000 in
theorem smr_S_send {Γ : mm_Ctx} {post : Int32 → mm_Mem → Prop} {h : mm_Mem} (x1 : Int32) (x2 : Int32) (hT : mm_SI Γ smM_S_isTask [.ref (mm_B Γ + 0), .int x1] h (fun r2 h2 => (¬ r2 = 0 → ((vp_in (x1 - (1 : Int32)) 6) ∧ (∀ t17 : Nat, t17 = 28 + 6 * (x1 - (1 : Int32)).toNatClampNeg → mm_isT t17 → (((h2 t17 7) = (2 : Int32) → (post (-2 : Int32) h2)) ∧ (¬ (h2 t17 7) = (2 : Int32) → ((¬ (h2 t17 7) = (3 : Int32) → (((h2 t17 6) < (8 : Int32) → (mm_SV Γ smM_T_enqueue [.ref (mm_B Γ + t17), .int x2] h2 (fun h52 => post (h52 t17 6) h52))) ∧ (¬ (h2 t17 6) < (8 : Int32) → (post (-3 : Int32) h2)))) ∧ ((h2 t17 7) = (3 : Int32) → (post (-2 : Int32) h2)))))))) ∧ (r2 = 0 → (post (-1 : Int32) h2)))) : mm_SI Γ smM_S_send [.ref (mm_B Γ + 0), .int x1, .int x2] h post := by
  refine mm_spec0 (M := smM_S_send) 1 (by decide +kernel) rfl (Nat.le_of_ble_eq_true rfl) ?_
  show mm_W Γ smM_S_send (mm_pI post) 0 [some (.ref (mm_B Γ + 0)), some (.int x1), some (.int x2), none] [] h
  refine mm_aload_n (n := 1) (i := 0) smd_S_send_0 rfl rfl rfl ?_
  refine mm_iload_n (n := 2) (i := 1) smd_S_send_1 rfl rfl rfl ?_
  refine mm_callVI (n := 5) (As := [.int x1]) (rest := []) smv_S_isTask smw_415 smb_S (mm_hRm (by decide) (by decide)) smd_S_send_2 rfl rfl (Nat.le_of_ble_eq_true rfl) hT (fun r2 h2 hT => ?_)
  refine mm_if_ne (n := 8) (tgt := 10) smd_S_send_5 rfl rfl (fun hc => ?_) (fun hc => ?_)
  · replace hT := hT.1 hc
    refine mm_aload_n (n := 11) (i := 0) smd_S_send_10 rfl rfl rfl ?_
    refine mm_get (n := 14) (v := .ref (mm_B Γ + 27)) smk_S_39 smb_S rfl smd_S_send_11 rfl ?_
    refine mm_iload_n (n := 15) (i := 1) smd_S_send_14 rfl rfl rfl ?_
    refine mm_iconst (n := 16) (v := 1) smd_S_send_15 rfl (by decide) ?_
    refine mm_isub (n := 17) smd_S_send_16 rfl ?_
    refine mm_taald (n := 18) hT.1 smd_S_send_17 rfl (fun t17 e_t17 h_t17 => ?_)
    replace hT := hT.2 t17 e_t17 h_t17
    refine mm_astore_n (n := 19) (i := 3) (L' := [some (.ref (mm_B Γ + 0)), some (.int x1), some (.int x2), some (.ref (mm_B Γ + t17))]) smd_S_send_18 rfl rfl (by decide) rfl ?_
    refine mm_aload_n (n := 20) (i := 3) smd_S_send_19 rfl rfl rfl ?_
    refine mm_get (n := 23) (v := .int (h2 t17 7)) smk_S_123 (smb_T h_t17) rfl smd_S_send_20 rfl ?_
    refine mm_iconst (n := 24) (v := 2) smd_S_send_23 rfl (by decide) ?_
    refine mm_icmp_eq (n := 27) (tgt := 35) smd_S_send_24 rfl rfl (fun hc => ?_) (fun hc => ?_)
    · replace hT := hT.1 hc
      refine mm_bipush (n := 37) (v := -2) smd_S_send_35 rfl (by decide) ?_
      exact mm_iret rfl smd_S_send_37 ⟨_, rfl, hT⟩
    · replace hT := hT.2 hc
      refine mm_aload_n (n := 28) (i := 3) smd_S_send_27 rfl rfl rfl ?_
      refine mm_get (n := 31) (v := .int (h2 t17 7)) smk_S_123 (smb_T h_t17) rfl smd_S_send_28 rfl ?_
      refine mm_iconst (n := 32) (v := 3) smd_S_send_31 rfl (by decide) ?_
      refine mm_icmp_ne (n := 35) (tgt := 38) smd_S_send_32 rfl rfl (fun hc => ?_) (fun hc => ?_)
      · replace hT := hT.1 hc
        refine mm_aload_n (n := 39) (i := 3) smd_S_send_38 rfl rfl rfl ?_
        refine mm_get (n := 42) (v := .int (h2 t17 6)) smk_S_130 (smb_T h_t17) rfl smd_S_send_39 rfl ?_
        refine mm_bipush (n := 44) (v := 8) smd_S_send_42 rfl (by decide) ?_
        refine mm_icmp_lt (n := 47) (tgt := 50) smd_S_send_44 rfl rfl (fun hc => ?_) (fun hc => ?_)
        · replace hT := hT.1 hc
          refine mm_aload_n (n := 51) (i := 3) smd_S_send_50 rfl rfl rfl ?_
          refine mm_iload_n (n := 52) (i := 2) smd_S_send_51 rfl rfl rfl ?_
          refine mm_callVV (n := 55) (As := [.int x2]) (rest := []) smv_T_enqueue smw_471 (smb_T h_t17) (mm_hRm (by decide) (by decide)) smd_S_send_52 rfl rfl (Nat.le_of_ble_eq_true rfl) hT (fun h52 hT => ?_)
          refine mm_aload_n (n := 56) (i := 3) smd_S_send_55 rfl rfl rfl ?_
          refine mm_get (n := 59) (v := .int (h52 t17 6)) smk_S_130 (smb_T h_t17) rfl smd_S_send_56 rfl ?_
          exact mm_iret rfl smd_S_send_59 ⟨_, rfl, hT⟩
        · replace hT := hT.2 hc
          refine mm_bipush (n := 49) (v := -3) smd_S_send_47 rfl (by decide) ?_
          exact mm_iret rfl smd_S_send_49 ⟨_, rfl, hT⟩
      · replace hT := hT.2 hc
        refine mm_bipush (n := 37) (v := -2) smd_S_send_35 rfl (by decide) ?_
        exact mm_iret rfl smd_S_send_37 ⟨_, rfl, hT⟩
  · replace hT := hT.2 hc
    refine mm_iconst (n := 9) (v := -1) smd_S_send_8 rfl (by decide) ?_
    exact mm_iret rfl smd_S_send_9 ⟨_, rfl, hT⟩
set_option maxHeartbeats 4000000 in
set_option maxRecDepth 100000 in
theorem smr_S_state {Γ : mm_Ctx} {post : Int32 → mm_Mem → Prop} {h : mm_Mem} (x1 : Int32) (hT : mm_SI Γ smM_S_isTask [.ref (mm_B Γ + 0), .int x1] h (fun r2 h2 => (r2 = 0 → (post (-1 : Int32) h2)) ∧ (¬ r2 = 0 → ((vp_in (x1 - (1 : Int32)) 6) ∧ (∀ t15 : Nat, t15 = 28 + 6 * (x1 - (1 : Int32)).toNatClampNeg → mm_isT t15 → (post (h2 t15 7) h2)))))) : mm_SI Γ smM_S_state [.ref (mm_B Γ + 0), .int x1] h post := by
  refine mm_spec0 (M := smM_S_state) 0 (by decide +kernel) rfl (Nat.le_of_ble_eq_true rfl) ?_
  show mm_W Γ smM_S_state (mm_pI post) 0 [some (.ref (mm_B Γ + 0)), some (.int x1)] [] h
  refine mm_aload_n (n := 1) (i := 0) smd_S_state_0 rfl rfl rfl ?_
  refine mm_iload_n (n := 2) (i := 1) smd_S_state_1 rfl rfl rfl ?_
  refine mm_callVI (n := 5) (As := [.int x1]) (rest := []) smv_S_isTask smw_415 smb_S (mm_hRm (by decide) (by decide)) smd_S_state_2 rfl rfl (Nat.le_of_ble_eq_true rfl) hT (fun r2 h2 hT => ?_)
  refine mm_if_eq (n := 8) (tgt := 22) smd_S_state_5 rfl rfl (fun hc => ?_) (fun hc => ?_)
  · replace hT := hT.1 hc
    refine mm_iconst (n := 23) (v := -1) smd_S_state_22 rfl (by decide) ?_
    exact mm_iret rfl smd_S_state_23 ⟨_, rfl, hT⟩
  · replace hT := hT.2 hc
    refine mm_aload_n (n := 9) (i := 0) smd_S_state_8 rfl rfl rfl ?_
    refine mm_get (n := 12) (v := .ref (mm_B Γ + 27)) smk_S_39 smb_S rfl smd_S_state_9 rfl ?_
    refine mm_iload_n (n := 13) (i := 1) smd_S_state_12 rfl rfl rfl ?_
    refine mm_iconst (n := 14) (v := 1) smd_S_state_13 rfl (by decide) ?_
    refine mm_isub (n := 15) smd_S_state_14 rfl ?_
    refine mm_taald (n := 16) hT.1 smd_S_state_15 rfl (fun t15 e_t15 h_t15 => ?_)
    replace hT := hT.2 t15 e_t15 h_t15
    refine mm_get (n := 19) (v := .int (h2 t15 7)) smk_S_123 (smb_T h_t15) rfl smd_S_state_16 rfl ?_
    refine mm_goto (n := 23) smd_S_state_19 rfl ?_
    exact mm_iret rfl smd_S_state_23 ⟨_, rfl, hT⟩
set_option maxHeartbeats 4000000 in
set_option maxRecDepth 100000 in
theorem smr_S_result {Γ : mm_Ctx} {post : Int32 → mm_Mem → Prop} {h : mm_Mem} (x1 : Int32) (hT : mm_SI Γ smM_S_isTask [.ref (mm_B Γ + 0), .int x1] h (fun r2 h2 => (r2 = 0 → (post (0 : Int32) h2)) ∧ (¬ r2 = 0 → ((vp_in (x1 - (1 : Int32)) 6) ∧ (∀ t15 : Nat, t15 = 28 + 6 * (x1 - (1 : Int32)).toNatClampNeg → mm_isT t15 → (post (h2 t15 8) h2)))))) : mm_SI Γ smM_S_result [.ref (mm_B Γ + 0), .int x1] h post := by
  refine mm_spec0 (M := smM_S_result) 0 (by decide +kernel) rfl (Nat.le_of_ble_eq_true rfl) ?_
  show mm_W Γ smM_S_result (mm_pI post) 0 [some (.ref (mm_B Γ + 0)), some (.int x1)] [] h
  refine mm_aload_n (n := 1) (i := 0) smd_S_result_0 rfl rfl rfl ?_
  refine mm_iload_n (n := 2) (i := 1) smd_S_result_1 rfl rfl rfl ?_
  refine mm_callVI (n := 5) (As := [.int x1]) (rest := []) smv_S_isTask smw_415 smb_S (mm_hRm (by decide) (by decide)) smd_S_result_2 rfl rfl (Nat.le_of_ble_eq_true rfl) hT (fun r2 h2 hT => ?_)
  refine mm_if_eq (n := 8) (tgt := 22) smd_S_result_5 rfl rfl (fun hc => ?_) (fun hc => ?_)
  · replace hT := hT.1 hc
    refine mm_iconst (n := 23) (v := 0) smd_S_result_22 rfl (by decide) ?_
    exact mm_iret rfl smd_S_result_23 ⟨_, rfl, hT⟩
  · replace hT := hT.2 hc
    refine mm_aload_n (n := 9) (i := 0) smd_S_result_8 rfl rfl rfl ?_
    refine mm_get (n := 12) (v := .ref (mm_B Γ + 27)) smk_S_39 smb_S rfl smd_S_result_9 rfl ?_
    refine mm_iload_n (n := 13) (i := 1) smd_S_result_12 rfl rfl rfl ?_
    refine mm_iconst (n := 14) (v := 1) smd_S_result_13 rfl (by decide) ?_
    refine mm_isub (n := 15) smd_S_result_14 rfl ?_
    refine mm_taald (n := 16) hT.1 smd_S_result_15 rfl (fun t15 e_t15 h_t15 => ?_)
    replace hT := hT.2 t15 e_t15 h_t15
    refine mm_get (n := 19) (v := .int (h2 t15 8)) smk_S_136 (smb_T h_t15) rfl smd_S_result_16 rfl ?_
    refine mm_goto (n := 23) smd_S_result_19 rfl ?_
    exact mm_iret rfl smd_S_result_23 ⟨_, rfl, hT⟩
set_option maxHeartbeats 4000000 in
set_option maxRecDepth 100000 in
theorem smr_S_frames {Γ : mm_Ctx} {post : Int32 → mm_Mem → Prop} {h : mm_Mem} (x1 : Int32) (hT : mm_SI Γ smM_S_isTask [.ref (mm_B Γ + 0), .int x1] h (fun r2 h2 => (r2 = 0 → (post (-1 : Int32) h2)) ∧ (¬ r2 = 0 → ((vp_in (x1 - (1 : Int32)) 6) ∧ (∀ t15 : Nat, t15 = 28 + 6 * (x1 - (1 : Int32)).toNatClampNeg → mm_isT t15 → (post (h2 t15 5) h2)))))) : mm_SI Γ smM_S_frames [.ref (mm_B Γ + 0), .int x1] h post := by
  refine mm_spec0 (M := smM_S_frames) 0 (by decide +kernel) rfl (Nat.le_of_ble_eq_true rfl) ?_
  show mm_W Γ smM_S_frames (mm_pI post) 0 [some (.ref (mm_B Γ + 0)), some (.int x1)] [] h
  refine mm_aload_n (n := 1) (i := 0) smd_S_frames_0 rfl rfl rfl ?_
  refine mm_iload_n (n := 2) (i := 1) smd_S_frames_1 rfl rfl rfl ?_
  refine mm_callVI (n := 5) (As := [.int x1]) (rest := []) smv_S_isTask smw_415 smb_S (mm_hRm (by decide) (by decide)) smd_S_frames_2 rfl rfl (Nat.le_of_ble_eq_true rfl) hT (fun r2 h2 hT => ?_)
  refine mm_if_eq (n := 8) (tgt := 22) smd_S_frames_5 rfl rfl (fun hc => ?_) (fun hc => ?_)
  · replace hT := hT.1 hc
    refine mm_iconst (n := 23) (v := -1) smd_S_frames_22 rfl (by decide) ?_
    exact mm_iret rfl smd_S_frames_23 ⟨_, rfl, hT⟩
  · replace hT := hT.2 hc
    refine mm_aload_n (n := 9) (i := 0) smd_S_frames_8 rfl rfl rfl ?_
    refine mm_get (n := 12) (v := .ref (mm_B Γ + 27)) smk_S_39 smb_S rfl smd_S_frames_9 rfl ?_
    refine mm_iload_n (n := 13) (i := 1) smd_S_frames_12 rfl rfl rfl ?_
    refine mm_iconst (n := 14) (v := 1) smd_S_frames_13 rfl (by decide) ?_
    refine mm_isub (n := 15) smd_S_frames_14 rfl ?_
    refine mm_taald (n := 16) hT.1 smd_S_frames_15 rfl (fun t15 e_t15 h_t15 => ?_)
    replace hT := hT.2 t15 e_t15 h_t15
    refine mm_get (n := 19) (v := .int (h2 t15 5)) smk_S_139 (smb_T h_t15) rfl smd_S_frames_16 rfl ?_
    refine mm_goto (n := 23) smd_S_frames_19 rfl ?_
    exact mm_iret rfl smd_S_frames_23 ⟨_, rfl, hT⟩
set_option maxHeartbeats 4000000 in
set_option maxRecDepth 100000 in
theorem smr_S_frame {Γ : mm_Ctx} {post : Int32 → mm_Mem → Prop} {h : mm_Mem} (x1 : Int32) (x2 : Int32) (x3 : Int32) (hT : mm_SI Γ smM_S_isTask [.ref (mm_B Γ + 0), .int x1] h (fun r2 h2 => (r2 = 0 → (post (-1 : Int32) h2)) ∧ (¬ r2 = 0 → ((vp_in (x1 - (1 : Int32)) 6) ∧ (∀ t16 : Nat, t16 = 28 + 6 * (x1 - (1 : Int32)).toNatClampNeg → mm_isT t16 → (mm_SI Γ smM_S_isWithin [.int x2, .int (h2 t16 5)] h2 (fun r20 h20 => (¬ r20 = 0 → ((vp_in (x1 - (1 : Int32)) 6) ∧ (∀ t35 : Nat, t35 = 28 + 6 * (x1 - (1 : Int32)).toNatClampNeg → mm_isT t35 → ((x3 = 0 → ((vp_in x2 6) ∧ (post (h20 (t35 + 1) x2.toNatClampNeg) h20))) ∧ (x3 = 1 → ((vp_in x2 6) ∧ (post (h20 (t35 + 2) x2.toNatClampNeg) h20))) ∧ (x3 = 2 ∨ x3 = 3 ∨ x3 = 4 → ((vp_in (((x2 * (3 : Int32)) + x3) - (2 : Int32)) 18) ∧ (post (h20 (t35 + 3) (((x2 * (3 : Int32)) + x3) - (2 : Int32)).toNatClampNeg) h20))) ∧ (¬ x3 = 0 → ¬ x3 = 1 → ¬ x3 = 2 → ¬ x3 = 3 → ¬ x3 = 4 → (post (-1 : Int32) h20)))))) ∧ (r20 = 0 → (post (-1 : Int32) h20))))))))) : mm_SI Γ smM_S_frame [.ref (mm_B Γ + 0), .int x1, .int x2, .int x3] h post := by
  refine mm_spec0 (M := smM_S_frame) 1 (by decide +kernel) rfl (Nat.le_of_ble_eq_true rfl) ?_
  show mm_W Γ smM_S_frame (mm_pI post) 0 [some (.ref (mm_B Γ + 0)), some (.int x1), some (.int x2), some (.int x3), none] [] h
  refine mm_aload_n (n := 1) (i := 0) smd_S_frame_0 rfl rfl rfl ?_
  refine mm_iload_n (n := 2) (i := 1) smd_S_frame_1 rfl rfl rfl ?_
  refine mm_callVI (n := 5) (As := [.int x1]) (rest := []) smv_S_isTask smw_415 smb_S (mm_hRm (by decide) (by decide)) smd_S_frame_2 rfl rfl (Nat.le_of_ble_eq_true rfl) hT (fun r2 h2 hT => ?_)
  refine mm_if_eq (n := 8) (tgt := 26) smd_S_frame_5 rfl rfl (fun hc => ?_) (fun hc => ?_)
  · replace hT := hT.1 hc
    refine mm_iconst (n := 27) (v := -1) smd_S_frame_26 rfl (by decide) ?_
    exact mm_iret rfl smd_S_frame_27 ⟨_, rfl, hT⟩
  · replace hT := hT.2 hc
    refine mm_iload_n (n := 9) (i := 2) smd_S_frame_8 rfl rfl rfl ?_
    refine mm_aload_n (n := 10) (i := 0) smd_S_frame_9 rfl rfl rfl ?_
    refine mm_get (n := 13) (v := .ref (mm_B Γ + 27)) smk_S_39 smb_S rfl smd_S_frame_10 rfl ?_
    refine mm_iload_n (n := 14) (i := 1) smd_S_frame_13 rfl rfl rfl ?_
    refine mm_iconst (n := 15) (v := 1) smd_S_frame_14 rfl (by decide) ?_
    refine mm_isub (n := 16) smd_S_frame_15 rfl ?_
    refine mm_taald (n := 17) hT.1 smd_S_frame_16 rfl (fun t16 e_t16 h_t16 => ?_)
    replace hT := hT.2 t16 e_t16 h_t16
    refine mm_get (n := 20) (v := .int (h2 t16 5)) smk_S_139 (smb_T h_t16) rfl smd_S_frame_17 rfl ?_
    refine mm_callSI (n := 23) (As := [.int x2, .int (h2 t16 5)]) (rest := []) smv_S_isWithin smw_216 (mm_hRm (by decide) (by decide)) smd_S_frame_20 rfl rfl (Nat.le_of_ble_eq_true rfl) hT (fun r20 h20 hT => ?_)
    refine mm_if_ne (n := 26) (tgt := 28) smd_S_frame_23 rfl rfl (fun hc => ?_) (fun hc => ?_)
    · replace hT := hT.1 hc
      refine mm_aload_n (n := 29) (i := 0) smd_S_frame_28 rfl rfl rfl ?_
      refine mm_get (n := 32) (v := .ref (mm_B Γ + 27)) smk_S_39 smb_S rfl smd_S_frame_29 rfl ?_
      refine mm_iload_n (n := 33) (i := 1) smd_S_frame_32 rfl rfl rfl ?_
      refine mm_iconst (n := 34) (v := 1) smd_S_frame_33 rfl (by decide) ?_
      refine mm_isub (n := 35) smd_S_frame_34 rfl ?_
      refine mm_taald (n := 36) hT.1 smd_S_frame_35 rfl (fun t35 e_t35 h_t35 => ?_)
      replace hT := hT.2 t35 e_t35 h_t35
      refine mm_astore (n := 38) (i := 4) (L' := [some (.ref (mm_B Γ + 0)), some (.int x1), some (.int x2), some (.int x3), some (.ref (mm_B Γ + t35))]) smd_S_frame_36 rfl (by decide) rfl ?_
      refine mm_iload_n (n := 39) (i := 3) smd_S_frame_38 rfl rfl rfl ?_
      by_cases e : x3 = 0
      · refine mm_tIn (tgt := 72) smd_S_frame_39 0 e (by decide) (by decide) rfl rfl ?_
        replace hT := hT.1 (e)
        refine mm_aload (n := 74) (i := 4) smd_S_frame_72 rfl rfl ?_
        refine mm_get (n := 77) (v := .ref (mm_B Γ + (t35 + 1))) smk_S_142 (smb_T h_t35) rfl smd_S_frame_74 rfl ?_
        refine mm_iload_n (n := 78) (i := 2) smd_S_frame_77 rfl rfl rfl ?_
        refine mm_iald (n := 79) (sma_T1 h_t35) hT.1 smd_S_frame_78 rfl ?_
        replace hT := hT.2
        exact mm_iret rfl smd_S_frame_79 ⟨_, rfl, hT⟩
      have n0 := e
      clear e
      by_cases e : x3 = 1
      · refine mm_tIn (tgt := 80) smd_S_frame_39 1 e (by decide) (by decide) rfl rfl ?_
        replace hT := hT.2.1 (e)
        refine mm_aload (n := 82) (i := 4) smd_S_frame_80 rfl rfl ?_
        refine mm_get (n := 85) (v := .ref (mm_B Γ + (t35 + 2))) smk_S_145 (smb_T h_t35) rfl smd_S_frame_82 rfl ?_
        refine mm_iload_n (n := 86) (i := 2) smd_S_frame_85 rfl rfl rfl ?_
        refine mm_iald (n := 87) (sma_T2 h_t35) hT.1 smd_S_frame_86 rfl ?_
        replace hT := hT.2
        exact mm_iret rfl smd_S_frame_87 ⟨_, rfl, hT⟩
      have n1 := e
      clear e
      by_cases e : x3 = 2
      · refine mm_tIn (tgt := 88) smd_S_frame_39 2 e (by decide) (by decide) rfl rfl ?_
        replace hT := hT.2.2.1 (Or.inl e)
        refine mm_aload (n := 90) (i := 4) smd_S_frame_88 rfl rfl ?_
        refine mm_get (n := 93) (v := .ref (mm_B Γ + (t35 + 3))) smk_S_148 (smb_T h_t35) rfl smd_S_frame_90 rfl ?_
        refine mm_iload_n (n := 94) (i := 2) smd_S_frame_93 rfl rfl rfl ?_
        refine mm_iconst (n := 95) (v := 3) smd_S_frame_94 rfl (by decide) ?_
        refine mm_imul (n := 96) smd_S_frame_95 rfl ?_
        refine mm_iload_n (n := 97) (i := 3) smd_S_frame_96 rfl rfl rfl ?_
        refine mm_iadd (n := 98) smd_S_frame_97 rfl ?_
        refine mm_iconst (n := 99) (v := 2) smd_S_frame_98 rfl (by decide) ?_
        refine mm_isub (n := 100) smd_S_frame_99 rfl ?_
        refine mm_iald (n := 101) (sma_T3 h_t35) hT.1 smd_S_frame_100 rfl ?_
        replace hT := hT.2
        exact mm_iret rfl smd_S_frame_101 ⟨_, rfl, hT⟩
      have n2 := e
      clear e
      by_cases e : x3 = 3
      · refine mm_tIn (tgt := 88) smd_S_frame_39 3 e (by decide) (by decide) rfl rfl ?_
        replace hT := hT.2.2.1 (Or.inr (Or.inl e))
        refine mm_aload (n := 90) (i := 4) smd_S_frame_88 rfl rfl ?_
        refine mm_get (n := 93) (v := .ref (mm_B Γ + (t35 + 3))) smk_S_148 (smb_T h_t35) rfl smd_S_frame_90 rfl ?_
        refine mm_iload_n (n := 94) (i := 2) smd_S_frame_93 rfl rfl rfl ?_
        refine mm_iconst (n := 95) (v := 3) smd_S_frame_94 rfl (by decide) ?_
        refine mm_imul (n := 96) smd_S_frame_95 rfl ?_
        refine mm_iload_n (n := 97) (i := 3) smd_S_frame_96 rfl rfl rfl ?_
        refine mm_iadd (n := 98) smd_S_frame_97 rfl ?_
        refine mm_iconst (n := 99) (v := 2) smd_S_frame_98 rfl (by decide) ?_
        refine mm_isub (n := 100) smd_S_frame_99 rfl ?_
        refine mm_iald (n := 101) (sma_T3 h_t35) hT.1 smd_S_frame_100 rfl ?_
        replace hT := hT.2
        exact mm_iret rfl smd_S_frame_101 ⟨_, rfl, hT⟩
      have n3 := e
      clear e
      by_cases e : x3 = 4
      · refine mm_tIn (tgt := 88) smd_S_frame_39 4 e (by decide) (by decide) rfl rfl ?_
        replace hT := hT.2.2.1 (Or.inr (Or.inr (e)))
        refine mm_aload (n := 90) (i := 4) smd_S_frame_88 rfl rfl ?_
        refine mm_get (n := 93) (v := .ref (mm_B Γ + (t35 + 3))) smk_S_148 (smb_T h_t35) rfl smd_S_frame_90 rfl ?_
        refine mm_iload_n (n := 94) (i := 2) smd_S_frame_93 rfl rfl rfl ?_
        refine mm_iconst (n := 95) (v := 3) smd_S_frame_94 rfl (by decide) ?_
        refine mm_imul (n := 96) smd_S_frame_95 rfl ?_
        refine mm_iload_n (n := 97) (i := 3) smd_S_frame_96 rfl rfl rfl ?_
        refine mm_iadd (n := 98) smd_S_frame_97 rfl ?_
        refine mm_iconst (n := 99) (v := 2) smd_S_frame_98 rfl (by decide) ?_
        refine mm_isub (n := 100) smd_S_frame_99 rfl ?_
        refine mm_iald (n := 101) (sma_T3 h_t35) hT.1 smd_S_frame_100 rfl ?_
        replace hT := hT.2
        exact mm_iret rfl smd_S_frame_101 ⟨_, rfl, hT⟩
      have n4 := e
      clear e
      refine mm_tOut (tgt := 102) smd_S_frame_39 (by have m0 := lv_neT n0 (show (0 : Int32).toInt = 0 by decide); have m1 := lv_neT n1 (show (1 : Int32).toInt = 1 by decide); have m2 := lv_neT n2 (show (2 : Int32).toInt = 2 by decide); have m3 := lv_neT n3 (show (3 : Int32).toInt = 3 by decide); have m4 := lv_neT n4 (show (4 : Int32).toInt = 4 by decide); omega) rfl ?_
      replace hT := hT.2.2.2 n0 n1 n2 n3 n4
      refine mm_iconst (n := 103) (v := -1) smd_S_frame_102 rfl (by decide) ?_
      exact mm_iret rfl smd_S_frame_103 ⟨_, rfl, hT⟩
    · replace hT := hT.2 hc
      refine mm_iconst (n := 27) (v := -1) smd_S_frame_26 rfl (by decide) ?_
      exact mm_iret rfl smd_S_frame_27 ⟨_, rfl, hT⟩
set_option maxHeartbeats 4000000 in
set_option maxRecDepth 100000 in
theorem smr_S_global {Γ : mm_Ctx} {post : Int32 → mm_Mem → Prop} {h : mm_Mem} (x1 : Int32) (hT : mm_SI Γ smM_S_isWithin [.int x1, .int (4 : Int32)] h (fun r2 h2 => (r2 = 0 → (post (0 : Int32) h2)) ∧ (¬ r2 = 0 → ((vp_in x1 4) ∧ (post (h2 26 x1.toNatClampNeg) h2))))) : mm_SI Γ smM_S_global [.ref (mm_B Γ + 0), .int x1] h post := by
  refine mm_spec0 (M := smM_S_global) 0 (by decide +kernel) rfl (Nat.le_of_ble_eq_true rfl) ?_
  show mm_W Γ smM_S_global (mm_pI post) 0 [some (.ref (mm_B Γ + 0)), some (.int x1)] [] h
  refine mm_iload_n (n := 1) (i := 1) smd_S_global_0 rfl rfl rfl ?_
  refine mm_iconst (n := 2) (v := 4) smd_S_global_1 rfl (by decide) ?_
  refine mm_callSI (n := 5) (As := [.int x1, .int (4 : Int32)]) (rest := []) smv_S_isWithin smw_216 (mm_hRm (by decide) (by decide)) smd_S_global_2 rfl rfl (Nat.le_of_ble_eq_true rfl) hT (fun r2 h2 hT => ?_)
  refine mm_if_eq (n := 8) (tgt := 17) smd_S_global_5 rfl rfl (fun hc => ?_) (fun hc => ?_)
  · replace hT := hT.1 hc
    refine mm_iconst (n := 18) (v := 0) smd_S_global_17 rfl (by decide) ?_
    exact mm_iret rfl smd_S_global_18 ⟨_, rfl, hT⟩
  · replace hT := hT.2 hc
    refine mm_aload_n (n := 9) (i := 0) smd_S_global_8 rfl rfl rfl ?_
    refine mm_get (n := 12) (v := .ref (mm_B Γ + 26)) smk_S_33 smb_S rfl smd_S_global_9 rfl ?_
    refine mm_iload_n (n := 13) (i := 1) smd_S_global_12 rfl rfl rfl ?_
    refine mm_iald (n := 14) sma_26 hT.1 smd_S_global_13 rfl ?_
    replace hT := hT.2
    refine mm_goto (n := 18) smd_S_global_14 rfl ?_
    exact mm_iret rfl smd_S_global_18 ⟨_, rfl, hT⟩
set_option maxHeartbeats 4000000 in
set_option maxRecDepth 100000 in
theorem smr_S_typeOf {Γ : mm_Ctx} {post : Int32 → mm_Mem → Prop} {h : mm_Mem} (x1 : Int32) (hT : mm_SI Γ smM_H_has [.ref (mm_B Γ + 20), .int x1] h (fun r5 h5 => (r5 = 0 → (post (-1 : Int32) h5)) ∧ (¬ r5 = 0 → ((vp_in x1 17) ∧ (post (h5 21 x1.toNatClampNeg) h5))))) : mm_SI Γ smM_S_typeOf [.ref (mm_B Γ + 0), .int x1] h post := by
  refine mm_spec0 (M := smM_S_typeOf) 0 (by decide +kernel) rfl (Nat.le_of_ble_eq_true rfl) ?_
  show mm_W Γ smM_S_typeOf (mm_pI post) 0 [some (.ref (mm_B Γ + 0)), some (.int x1)] [] h
  refine mm_aload_n (n := 1) (i := 0) smd_S_typeOf_0 rfl rfl rfl ?_
  refine mm_get (n := 4) (v := .ref (mm_B Γ + 20)) smk_S_29 smb_S rfl smd_S_typeOf_1 rfl ?_
  refine mm_iload_n (n := 5) (i := 1) smd_S_typeOf_4 rfl rfl rfl ?_
  refine mm_callVI (n := 8) (As := [.int x1]) (rest := []) smv_H_has smw_499 smb_H (mm_hRm (by decide) (by decide)) smd_S_typeOf_5 rfl rfl (Nat.le_of_ble_eq_true rfl) hT (fun r5 h5 hT => ?_)
  refine mm_if_eq (n := 11) (tgt := 23) smd_S_typeOf_8 rfl rfl (fun hc => ?_) (fun hc => ?_)
  · replace hT := hT.1 hc
    refine mm_iconst (n := 24) (v := -1) smd_S_typeOf_23 rfl (by decide) ?_
    exact mm_iret rfl smd_S_typeOf_24 ⟨_, rfl, hT⟩
  · replace hT := hT.2 hc
    refine mm_aload_n (n := 12) (i := 0) smd_S_typeOf_11 rfl rfl rfl ?_
    refine mm_get (n := 15) (v := .ref (mm_B Γ + 20)) smk_S_29 smb_S rfl smd_S_typeOf_12 rfl ?_
    refine mm_get (n := 18) (v := .ref (mm_B Γ + 21)) smk_S_154 smb_H rfl smd_S_typeOf_15 rfl ?_
    refine mm_iload_n (n := 19) (i := 1) smd_S_typeOf_18 rfl rfl rfl ?_
    refine mm_iald (n := 20) sma_21 hT.1 smd_S_typeOf_19 rfl ?_
    replace hT := hT.2
    refine mm_goto (n := 24) smd_S_typeOf_20 rfl ?_
    exact mm_iret rfl smd_S_typeOf_24 ⟨_, rfl, hT⟩
set_option maxHeartbeats 4000000 in
set_option maxRecDepth 100000 in
theorem smr_S_field {Γ : mm_Ctx} {post : Int32 → mm_Mem → Prop} {h : mm_Mem} (x1 : Int32) (x2 : Int32) (hT : mm_SI Γ smM_H_has [.ref (mm_B Γ + 20), .int x1] h (fun r5 h5 => (r5 = 0 → (post (0 : Int32) h5)) ∧ (¬ r5 = 0 → (mm_SI Γ smM_S_isWithin [.int x2, .int (4 : Int32)] h5 (fun r13 h13 => (r13 = 0 → (post (0 : Int32) h13)) ∧ (¬ r13 = 0 → ((vp_in ((x1 * (4 : Int32)) + x2) 68) ∧ (post (h13 22 ((x1 * (4 : Int32)) + x2).toNatClampNeg) h13)))))))) : mm_SI Γ smM_S_field [.ref (mm_B Γ + 0), .int x1, .int x2] h post := by
  refine mm_spec0 (M := smM_S_field) 0 (by decide +kernel) rfl (Nat.le_of_ble_eq_true rfl) ?_
  show mm_W Γ smM_S_field (mm_pI post) 0 [some (.ref (mm_B Γ + 0)), some (.int x1), some (.int x2)] [] h
  refine mm_aload_n (n := 1) (i := 0) smd_S_field_0 rfl rfl rfl ?_
  refine mm_get (n := 4) (v := .ref (mm_B Γ + 20)) smk_S_29 smb_S rfl smd_S_field_1 rfl ?_
  refine mm_iload_n (n := 5) (i := 1) smd_S_field_4 rfl rfl rfl ?_
  refine mm_callVI (n := 8) (As := [.int x1]) (rest := []) smv_H_has smw_499 smb_H (mm_hRm (by decide) (by decide)) smd_S_field_5 rfl rfl (Nat.le_of_ble_eq_true rfl) hT (fun r5 h5 hT => ?_)
  refine mm_if_eq (n := 11) (tgt := 35) smd_S_field_8 rfl rfl (fun hc => ?_) (fun hc => ?_)
  · replace hT := hT.1 hc
    refine mm_iconst (n := 36) (v := 0) smd_S_field_35 rfl (by decide) ?_
    exact mm_iret rfl smd_S_field_36 ⟨_, rfl, hT⟩
  · replace hT := hT.2 hc
    refine mm_iload_n (n := 12) (i := 2) smd_S_field_11 rfl rfl rfl ?_
    refine mm_iconst (n := 13) (v := 4) smd_S_field_12 rfl (by decide) ?_
    refine mm_callSI (n := 16) (As := [.int x2, .int (4 : Int32)]) (rest := []) smv_S_isWithin smw_216 (mm_hRm (by decide) (by decide)) smd_S_field_13 rfl rfl (Nat.le_of_ble_eq_true rfl) hT (fun r13 h13 hT => ?_)
    refine mm_if_eq (n := 19) (tgt := 35) smd_S_field_16 rfl rfl (fun hc => ?_) (fun hc => ?_)
    · replace hT := hT.1 hc
      refine mm_iconst (n := 36) (v := 0) smd_S_field_35 rfl (by decide) ?_
      exact mm_iret rfl smd_S_field_36 ⟨_, rfl, hT⟩
    · replace hT := hT.2 hc
      refine mm_aload_n (n := 20) (i := 0) smd_S_field_19 rfl rfl rfl ?_
      refine mm_get (n := 23) (v := .ref (mm_B Γ + 20)) smk_S_29 smb_S rfl smd_S_field_20 rfl ?_
      refine mm_get (n := 26) (v := .ref (mm_B Γ + 22)) smk_S_157 smb_H rfl smd_S_field_23 rfl ?_
      refine mm_iload_n (n := 27) (i := 1) smd_S_field_26 rfl rfl rfl ?_
      refine mm_iconst (n := 28) (v := 4) smd_S_field_27 rfl (by decide) ?_
      refine mm_imul (n := 29) smd_S_field_28 rfl ?_
      refine mm_iload_n (n := 30) (i := 2) smd_S_field_29 rfl rfl rfl ?_
      refine mm_iadd (n := 31) smd_S_field_30 rfl ?_
      refine mm_iald (n := 32) sma_22 hT.1 smd_S_field_31 rfl ?_
      replace hT := hT.2
      refine mm_goto (n := 36) smd_S_field_32 rfl ?_
      exact mm_iret rfl smd_S_field_36 ⟨_, rfl, hT⟩
set_option maxHeartbeats 4000000 in
set_option maxRecDepth 100000 in
theorem smr_S_heap {Γ : mm_Ctx} {post : Int32 → mm_Mem → Prop} {h : mm_Mem}  (hT : mm_SI Γ smM_H_count [.ref (mm_B Γ + 20)] h (fun r4 h4 => post r4 h4)) : mm_SI Γ smM_S_heap [.ref (mm_B Γ + 0)] h post := by
  refine mm_spec0 (M := smM_S_heap) 0 (by decide +kernel) rfl (Nat.le_of_ble_eq_true rfl) ?_
  show mm_W Γ smM_S_heap (mm_pI post) 0 [some (.ref (mm_B Γ + 0))] [] h
  refine mm_aload_n (n := 1) (i := 0) smd_S_heap_0 rfl rfl rfl ?_
  refine mm_get (n := 4) (v := .ref (mm_B Γ + 20)) smk_S_29 smb_S rfl smd_S_heap_1 rfl ?_
  refine mm_callVI (n := 7) (As := []) (rest := []) smv_H_count smw_508 smb_H (mm_hRm (by decide) (by decide)) smd_S_heap_4 rfl rfl (Nat.le_of_ble_eq_true rfl) hT (fun r4 h4 hT => ?_)
  exact mm_iret rfl smd_S_heap_7 ⟨_, rfl, hT⟩
set_option maxHeartbeats 4000000 in
set_option maxRecDepth 100000 in
theorem smr_S_collect {Γ : mm_Ctx} {post : Int32 → mm_Mem → Prop} {h : mm_Mem}  (hT : mm_SI Γ smM_S_dropUnreachable [.ref (mm_B Γ + 0)] h (fun r1 h1 => post r1 h1)) : mm_SI Γ smM_S_collect [.ref (mm_B Γ + 0)] h post := by
  refine mm_spec0 (M := smM_S_collect) 0 (by decide +kernel) rfl (Nat.le_of_ble_eq_true rfl) ?_
  show mm_W Γ smM_S_collect (mm_pI post) 0 [some (.ref (mm_B Γ + 0))] [] h
  refine mm_aload_n (n := 1) (i := 0) smd_S_collect_0 rfl rfl rfl ?_
  refine mm_callVI (n := 4) (As := []) (rest := []) smv_S_dropUnreachable smw_344 smb_S (mm_hRm (by decide) (by decide)) smd_S_collect_1 rfl rfl (Nat.le_of_ble_eq_true rfl) hT (fun r1 h1 hT => ?_)
  exact mm_iret rfl smd_S_collect_4 ⟨_, rfl, hT⟩
set_option maxHeartbeats 4000000 in
set_option maxRecDepth 100000 in
theorem smr_S_isWithin {Γ : mm_Ctx} {post : Int32 → mm_Mem → Prop} {h : mm_Mem} (x0 : Int32) (x1 : Int32) (hT : (x0 < 0 → (post (0 : Int32) h)) ∧ (¬ x0 < 0 → ((x1 ≤ x0 → (post (0 : Int32) h)) ∧ (¬ x1 ≤ x0 → (post (1 : Int32) h))))) : mm_SI Γ smM_S_isWithin [.int x0, .int x1] h post := by
  refine mm_spec0 (M := smM_S_isWithin) 0 (by decide +kernel) rfl (Nat.le_of_ble_eq_true rfl) ?_
  show mm_W Γ smM_S_isWithin (mm_pI post) 0 [some (.int x0), some (.int x1)] [] h
  refine mm_iload_n (n := 1) (i := 0) smd_S_isWithin_0 rfl rfl rfl ?_
  refine mm_if_lt (n := 4) (tgt := 13) smd_S_isWithin_1 rfl rfl (fun hc => ?_) (fun hc => ?_)
  · replace hT := hT.1 hc
    refine mm_iconst (n := 14) (v := 0) smd_S_isWithin_13 rfl (by decide) ?_
    exact mm_zret rfl (Or.inl rfl) smd_S_isWithin_14 ⟨_, rfl, hT⟩
  · replace hT := hT.2 hc
    refine mm_iload_n (n := 5) (i := 0) smd_S_isWithin_4 rfl rfl rfl ?_
    refine mm_iload_n (n := 6) (i := 1) smd_S_isWithin_5 rfl rfl rfl ?_
    refine mm_icmp_ge (n := 9) (tgt := 13) smd_S_isWithin_6 rfl rfl (fun hc => ?_) (fun hc => ?_)
    · replace hT := hT.1 hc
      refine mm_iconst (n := 14) (v := 0) smd_S_isWithin_13 rfl (by decide) ?_
      exact mm_zret rfl (Or.inl rfl) smd_S_isWithin_14 ⟨_, rfl, hT⟩
    · replace hT := hT.2 hc
      refine mm_iconst (n := 10) (v := 1) smd_S_isWithin_9 rfl (by decide) ?_
      refine mm_goto (n := 14) smd_S_isWithin_10 rfl ?_
      exact mm_zret rfl (Or.inr rfl) smd_S_isWithin_14 ⟨_, rfl, hT⟩
set_option maxHeartbeats 4000000 in
set_option maxRecDepth 100000 in
theorem smr_S_isTask {Γ : mm_Ctx} {post : Int32 → mm_Mem → Prop} {h : mm_Mem} (x1 : Int32) (hT : (x1 < (1 : Int32) → (post (0 : Int32) h)) ∧ (¬ x1 < (1 : Int32) → (((h 0 6) < x1 → (post (0 : Int32) h)) ∧ (¬ (h 0 6) < x1 → (post (1 : Int32) h))))) : mm_SI Γ smM_S_isTask [.ref (mm_B Γ + 0), .int x1] h post := by
  refine mm_spec0 (M := smM_S_isTask) 0 (by decide +kernel) rfl (Nat.le_of_ble_eq_true rfl) ?_
  show mm_W Γ smM_S_isTask (mm_pI post) 0 [some (.ref (mm_B Γ + 0)), some (.int x1)] [] h
  refine mm_iload_n (n := 1) (i := 1) smd_S_isTask_0 rfl rfl rfl ?_
  refine mm_iconst (n := 2) (v := 1) smd_S_isTask_1 rfl (by decide) ?_
  refine mm_icmp_lt (n := 5) (tgt := 17) smd_S_isTask_2 rfl rfl (fun hc => ?_) (fun hc => ?_)
  · replace hT := hT.1 hc
    refine mm_iconst (n := 18) (v := 0) smd_S_isTask_17 rfl (by decide) ?_
    exact mm_zret rfl (Or.inl rfl) smd_S_isTask_18 ⟨_, rfl, hT⟩
  · replace hT := hT.2 hc
    refine mm_iload_n (n := 6) (i := 1) smd_S_isTask_5 rfl rfl rfl ?_
    refine mm_aload_n (n := 7) (i := 0) smd_S_isTask_6 rfl rfl rfl ?_
    refine mm_get (n := 10) (v := .int (h 0 6)) smk_S_113 smb_S rfl smd_S_isTask_7 rfl ?_
    refine mm_icmp_gt (n := 13) (tgt := 17) smd_S_isTask_10 rfl rfl (fun hc => ?_) (fun hc => ?_)
    · replace hT := hT.1 hc
      refine mm_iconst (n := 18) (v := 0) smd_S_isTask_17 rfl (by decide) ?_
      exact mm_zret rfl (Or.inl rfl) smd_S_isTask_18 ⟨_, rfl, hT⟩
    · replace hT := hT.2 hc
      refine mm_iconst (n := 14) (v := 1) smd_S_isTask_13 rfl (by decide) ?_
      refine mm_goto (n := 18) smd_S_isTask_14 rfl ?_
      exact mm_zret rfl (Or.inr rfl) smd_S_isTask_18 ⟨_, rfl, hT⟩
set_option maxHeartbeats 4000000 in
set_option maxRecDepth 100000 in
theorem smr_S_draftChanges {Γ : mm_Ctx} {post : Int32 → mm_Mem → Prop} {h : mm_Mem} (x1 : Int32) (hT : mm_SI Γ smM_V_hasSameProcedure [.ref (mm_B Γ + 8), .ref (mm_B Γ + 1), .int x1] h (fun r9 h9 => (r9 = 0 → (post (1 : Int32) h9)) ∧ (¬ r9 = 0 → (mm_SI Γ smM_V_usesTouchedType [.ref (mm_B Γ + 1), .int x1, .ref (mm_B Γ + 16)] h9 (fun r27 h27 => (r27 = 0 → (post (0 : Int32) h27)) ∧ (¬ r27 = 0 → (post (1 : Int32) h27))))))) : mm_SI Γ smM_S_draftChanges [.ref (mm_B Γ + 0), .int x1] h post := by
  refine mm_spec0 (M := smM_S_draftChanges) 0 (by decide +kernel) rfl (Nat.le_of_ble_eq_true rfl) ?_
  show mm_W Γ smM_S_draftChanges (mm_pI post) 0 [some (.ref (mm_B Γ + 0)), some (.int x1)] [] h
  refine mm_aload_n (n := 1) (i := 0) smd_S_draftChanges_0 rfl rfl rfl ?_
  refine mm_get (n := 4) (v := .ref (mm_B Γ + 8)) smk_S_16 smb_S rfl smd_S_draftChanges_1 rfl ?_
  refine mm_aload_n (n := 5) (i := 0) smd_S_draftChanges_4 rfl rfl rfl ?_
  refine mm_get (n := 8) (v := .ref (mm_B Γ + 1)) smk_S_10 smb_S rfl smd_S_draftChanges_5 rfl ?_
  refine mm_iload_n (n := 9) (i := 1) smd_S_draftChanges_8 rfl rfl rfl ?_
  refine mm_callVI (n := 12) (As := [.ref (mm_B Γ + 1), .int x1]) (rest := []) smv_V_hasSameProcedure smw_306 (smb_V (Or.inr rfl)) (mm_hRm (by decide) (by decide)) smd_S_draftChanges_9 rfl rfl (Nat.le_of_ble_eq_true rfl) hT (fun r9 h9 hT => ?_)
  refine mm_if_eq (n := 15) (tgt := 33) smd_S_draftChanges_12 rfl rfl (fun hc => ?_) (fun hc => ?_)
  · replace hT := hT.1 hc
    refine mm_iconst (n := 34) (v := 1) smd_S_draftChanges_33 rfl (by decide) ?_
    refine mm_goto (n := 38) smd_S_draftChanges_34 rfl ?_
    exact mm_zret rfl (Or.inr rfl) smd_S_draftChanges_38 ⟨_, rfl, hT⟩
  · replace hT := hT.2 hc
    refine mm_aload_n (n := 16) (i := 0) smd_S_draftChanges_15 rfl rfl rfl ?_
    refine mm_get (n := 19) (v := .ref (mm_B Γ + 1)) smk_S_10 smb_S rfl smd_S_draftChanges_16 rfl ?_
    refine mm_iload_n (n := 20) (i := 1) smd_S_draftChanges_19 rfl rfl rfl ?_
    refine mm_aload_n (n := 21) (i := 0) smd_S_draftChanges_20 rfl rfl rfl ?_
    refine mm_get (n := 24) (v := .ref (mm_B Γ + 15)) smk_S_22 smb_S rfl smd_S_draftChanges_21 rfl ?_
    refine mm_get (n := 27) (v := .ref (mm_B Γ + 16)) smk_S_66 smb_R rfl smd_S_draftChanges_24 rfl ?_
    refine mm_callVI (n := 30) (As := [.int x1, .ref (mm_B Γ + 16)]) (rest := []) smv_V_usesTouchedType smw_310 (smb_V (Or.inl rfl)) (mm_hRm (by decide) (by decide)) smd_S_draftChanges_27 rfl rfl (Nat.le_of_ble_eq_true rfl) hT (fun r27 h27 hT => ?_)
    refine mm_if_eq (n := 33) (tgt := 37) smd_S_draftChanges_30 rfl rfl (fun hc => ?_) (fun hc => ?_)
    · replace hT := hT.1 hc
      refine mm_iconst (n := 38) (v := 0) smd_S_draftChanges_37 rfl (by decide) ?_
      exact mm_zret rfl (Or.inl rfl) smd_S_draftChanges_38 ⟨_, rfl, hT⟩
    · replace hT := hT.2 hc
      refine mm_iconst (n := 34) (v := 1) smd_S_draftChanges_33 rfl (by decide) ?_
      refine mm_goto (n := 38) smd_S_draftChanges_34 rfl ?_
      exact mm_zret rfl (Or.inr rfl) smd_S_draftChanges_38 ⟨_, rfl, hT⟩
set_option maxHeartbeats 4000000 in
set_option maxRecDepth 100000 in
theorem smr_S_firstTaskInTheWay {Γ : mm_Ctx} {post : Int32 → mm_Mem → Prop} {h : mm_Mem} (x1 : Int32) (hT : ∀ y2_5 : Int32, y2_5 = (if x1 < (1 : Int32) then (1 : Int32) else x1) → (mm_W Γ smM_S_firstTaskInTheWay (mm_pI post) 6 [some (.ref (mm_B Γ + 0)), none, some (.int y2_5)] [] h)) : mm_SI Γ smM_S_firstTaskInTheWay [.ref (mm_B Γ + 0), .int x1] h post := by
  refine mm_spec0 (M := smM_S_firstTaskInTheWay) 1 (by decide +kernel) rfl (Nat.le_of_ble_eq_true rfl) ?_
  show mm_W Γ smM_S_firstTaskInTheWay (mm_pI post) 0 [some (.ref (mm_B Γ + 0)), some (.int x1), none] [] h
  refine mm_iload_n (n := 1) (i := 1) smd_S_firstTaskInTheWay_0 rfl rfl rfl ?_
  refine mm_iconst (n := 2) (v := 1) smd_S_firstTaskInTheWay_1 rfl (by decide) ?_
  refine mm_max (n := 5) smx_S_171 ⟨Nat.le_of_ble_eq_true rfl, Nat.le_of_ble_eq_true rfl, Nat.le_refl _, Nat.le_refl _⟩ smd_S_firstTaskInTheWay_2 rfl ?_
  refine mm_top (fun y2_5 e_y2_5 => ?_)
  replace hT := hT y2_5 e_y2_5
  refine mm_istore_n (n := 6) (i := 2) (L' := [some (.ref (mm_B Γ + 0)), some (.int x1), some (.int y2_5)]) smd_S_firstTaskInTheWay_5 rfl rfl (by decide) rfl ?_
  exact mm_weak (by refine ⟨rfl, rfl, trivial⟩) hT
set_option maxHeartbeats 4000000 in
set_option maxRecDepth 100000 in
theorem smr_S_firstTaskInTheWay_6 {Γ : mm_Ctx} {post : Int32 → mm_Mem → Prop} {h : mm_Mem} (x2 : Int32) (hT : ((h 0 6) < x2 → (post (0 : Int32) h)) ∧ (¬ (h 0 6) < x2 → ((vp_in (x2 - (1 : Int32)) 6) ∧ (∀ t22 : Nat, t22 = 28 + 6 * (x2 - (1 : Int32)).toNatClampNeg → mm_isT t22 → (mm_SI Γ smM_S_isInTheWay [.ref (mm_B Γ + 0), .ref (mm_B Γ + t22)] h (fun r23 h23 => (r23 = 0 → (mm_W Γ smM_S_firstTaskInTheWay (mm_pI post) 6 [some (.ref (mm_B Γ + 0)), none, some (.int (x2 + (1 : Int32)))] [] h23)) ∧ (¬ r23 = 0 → (post x2 h23)))))))) : mm_W Γ smM_S_firstTaskInTheWay (mm_pI post) 6 [some (.ref (mm_B Γ + 0)), none, some (.int x2)] [] h := by
  refine mm_iload_n (n := 7) (i := 2) smd_S_firstTaskInTheWay_6 rfl rfl rfl ?_
  refine mm_aload_n (n := 8) (i := 0) smd_S_firstTaskInTheWay_7 rfl rfl rfl ?_
  refine mm_get (n := 11) (v := .int (h 0 6)) smk_S_113 smb_S rfl smd_S_firstTaskInTheWay_8 rfl ?_
  refine mm_icmp_gt (n := 14) (tgt := 37) smd_S_firstTaskInTheWay_11 rfl rfl (fun hc => ?_) (fun hc => ?_)
  · replace hT := hT.1 hc
    refine mm_iconst (n := 38) (v := 0) smd_S_firstTaskInTheWay_37 rfl (by decide) ?_
    exact mm_iret rfl smd_S_firstTaskInTheWay_38 ⟨_, rfl, hT⟩
  · replace hT := hT.2 hc
    refine mm_aload_n (n := 15) (i := 0) smd_S_firstTaskInTheWay_14 rfl rfl rfl ?_
    refine mm_aload_n (n := 16) (i := 0) smd_S_firstTaskInTheWay_15 rfl rfl rfl ?_
    refine mm_get (n := 19) (v := .ref (mm_B Γ + 27)) smk_S_39 smb_S rfl smd_S_firstTaskInTheWay_16 rfl ?_
    refine mm_iload_n (n := 20) (i := 2) smd_S_firstTaskInTheWay_19 rfl rfl rfl ?_
    refine mm_iconst (n := 21) (v := 1) smd_S_firstTaskInTheWay_20 rfl (by decide) ?_
    refine mm_isub (n := 22) smd_S_firstTaskInTheWay_21 rfl ?_
    refine mm_taald (n := 23) hT.1 smd_S_firstTaskInTheWay_22 rfl (fun t22 e_t22 h_t22 => ?_)
    replace hT := hT.2 t22 e_t22 h_t22
    refine mm_callVI (n := 26) (As := [.ref (mm_B Γ + t22)]) (rest := []) smv_S_isInTheWay smw_327 smb_S (mm_hRm (by decide) (by decide)) smd_S_firstTaskInTheWay_23 rfl rfl (Nat.le_of_ble_eq_true rfl) hT (fun r23 h23 hT => ?_)
    refine mm_if_eq (n := 29) (tgt := 31) smd_S_firstTaskInTheWay_26 rfl rfl (fun hc => ?_) (fun hc => ?_)
    · replace hT := hT.1 hc
      refine mm_iinc (n := 34) (i := 2) (d := 1) (L' := [some (.ref (mm_B Γ + 0)), none, some (.int (x2 + (1 : Int32)))]) smd_S_firstTaskInTheWay_31 rfl rfl (by decide) (by decide) rfl ?_
      refine mm_goto (n := 6) smd_S_firstTaskInTheWay_34 rfl ?_
      exact mm_weak (by refine ⟨rfl, rfl, trivial⟩) hT
    · replace hT := hT.2 hc
      refine mm_iload_n (n := 30) (i := 2) smd_S_firstTaskInTheWay_29 rfl rfl rfl ?_
      exact mm_iret rfl smd_S_firstTaskInTheWay_30 ⟨_, rfl, hT⟩
set_option maxHeartbeats 4000000 in
set_option maxRecDepth 100000 in
theorem smr_S_isInTheWay {Γ : mm_Ctx} {post : Int32 → mm_Mem → Prop} {h : mm_Mem} {t1 : Nat} (h_t1 : mm_isT t1) (hT : mm_W Γ smM_S_isInTheWay (mm_pI post) 2 [some (.ref (mm_B Γ + 0)), some (.ref (mm_B Γ + t1)), some (.int (0 : Int32)), none] [] h) : mm_SI Γ smM_S_isInTheWay [.ref (mm_B Γ + 0), .ref (mm_B Γ + t1)] h post := by
  refine mm_spec0 (M := smM_S_isInTheWay) 2 (by decide +kernel) rfl (Nat.le_of_ble_eq_true rfl) ?_
  show mm_W Γ smM_S_isInTheWay (mm_pI post) 0 [some (.ref (mm_B Γ + 0)), some (.ref (mm_B Γ + t1)), none, none] [] h
  refine mm_iconst (n := 1) (v := 0) smd_S_isInTheWay_0 rfl (by decide) ?_
  refine mm_istore_n (n := 2) (i := 2) (L' := [some (.ref (mm_B Γ + 0)), some (.ref (mm_B Γ + t1)), some (.int (0 : Int32)), none]) smd_S_isInTheWay_1 rfl rfl (by decide) rfl ?_
  exact mm_weak (by refine ⟨rfl, rfl, rfl, trivial⟩) hT
set_option maxHeartbeats 4000000 in
set_option maxRecDepth 100000 in
theorem smr_S_isInTheWay_2 {Γ : mm_Ctx} {post : Int32 → mm_Mem → Prop} {h : mm_Mem} {t1 : Nat} (h_t1 : mm_isT t1) (x2 : Int32) (hT : ((h t1 5) ≤ x2 → (post (0 : Int32) h)) ∧ (¬ (h t1 5) ≤ x2 → ((¬ x2 = ((h t1 5) - (1 : Int32)) → (mm_W Γ smM_S_isInTheWay (mm_pI post) 34 [some (.ref (mm_B Γ + 0)), some (.ref (mm_B Γ + t1)), some (.int x2), none] [.int (0 : Int32)] h)) ∧ (x2 = ((h t1 5) - (1 : Int32)) → (mm_SI Γ smM_S_placeInDraft [.ref (mm_B Γ + 0), .ref (mm_B Γ + t1)] h (fun r22 h22 => (r22 = (-1 : Int32) → (mm_W Γ smM_S_isInTheWay (mm_pI post) 34 [some (.ref (mm_B Γ + 0)), some (.ref (mm_B Γ + t1)), some (.int x2), none] [.int (0 : Int32)] h22)) ∧ (¬ r22 = (-1 : Int32) → (mm_W Γ smM_S_isInTheWay (mm_pI post) 34 [some (.ref (mm_B Γ + 0)), some (.ref (mm_B Γ + t1)), some (.int x2), none] [.int (1 : Int32)] h22)))))))) : mm_W Γ smM_S_isInTheWay (mm_pI post) 2 [some (.ref (mm_B Γ + 0)), some (.ref (mm_B Γ + t1)), some (.int x2), none] [] h := by
  refine mm_iload_n (n := 3) (i := 2) smd_S_isInTheWay_2 rfl rfl rfl ?_
  refine mm_aload_n (n := 4) (i := 1) smd_S_isInTheWay_3 rfl rfl rfl ?_
  refine mm_get (n := 7) (v := .int (h t1 5)) smk_S_139 (smb_T h_t1) rfl smd_S_isInTheWay_4 rfl ?_
  refine mm_icmp_ge (n := 10) (tgt := 60) smd_S_isInTheWay_7 rfl rfl (fun hc => ?_) (fun hc => ?_)
  · replace hT := hT.1 hc
    refine mm_iconst (n := 61) (v := 0) smd_S_isInTheWay_60 rfl (by decide) ?_
    exact mm_zret rfl (Or.inl rfl) smd_S_isInTheWay_61 ⟨_, rfl, hT⟩
  · replace hT := hT.2 hc
    refine mm_iload_n (n := 11) (i := 2) smd_S_isInTheWay_10 rfl rfl rfl ?_
    refine mm_aload_n (n := 12) (i := 1) smd_S_isInTheWay_11 rfl rfl rfl ?_
    refine mm_get (n := 15) (v := .int (h t1 5)) smk_S_139 (smb_T h_t1) rfl smd_S_isInTheWay_12 rfl ?_
    refine mm_iconst (n := 16) (v := 1) smd_S_isInTheWay_15 rfl (by decide) ?_
    refine mm_isub (n := 17) smd_S_isInTheWay_16 rfl ?_
    refine mm_icmp_ne (n := 20) (tgt := 33) smd_S_isInTheWay_17 rfl rfl (fun hc => ?_) (fun hc => ?_)
    · replace hT := hT.1 hc
      refine mm_iconst (n := 34) (v := 0) smd_S_isInTheWay_33 rfl (by decide) ?_
      exact mm_weak (by refine ⟨rfl, rfl, rfl, trivial⟩) hT
    · replace hT := hT.2 hc
      refine mm_aload_n (n := 21) (i := 0) smd_S_isInTheWay_20 rfl rfl rfl ?_
      refine mm_aload_n (n := 22) (i := 1) smd_S_isInTheWay_21 rfl rfl rfl ?_
      refine mm_callVI (n := 25) (As := [.ref (mm_B Γ + t1)]) (rest := []) smv_S_placeInDraft smw_331 smb_S (mm_hRm (by decide) (by decide)) smd_S_isInTheWay_22 rfl rfl (Nat.le_of_ble_eq_true rfl) hT (fun r22 h22 hT => ?_)
      refine mm_iconst (n := 26) (v := -1) smd_S_isInTheWay_25 rfl (by decide) ?_
      refine mm_icmp_eq (n := 29) (tgt := 33) smd_S_isInTheWay_26 rfl rfl (fun hc => ?_) (fun hc => ?_)
      · replace hT := hT.1 hc
        refine mm_iconst (n := 34) (v := 0) smd_S_isInTheWay_33 rfl (by decide) ?_
        exact mm_weak (by refine ⟨rfl, rfl, rfl, trivial⟩) hT
      · replace hT := hT.2 hc
        refine mm_iconst (n := 30) (v := 1) smd_S_isInTheWay_29 rfl (by decide) ?_
        refine mm_goto (n := 34) smd_S_isInTheWay_30 rfl ?_
        exact mm_weak (by refine ⟨rfl, rfl, rfl, trivial⟩) hT
set_option maxHeartbeats 4000000 in
set_option maxRecDepth 100000 in
theorem smr_S_isInTheWay_34 {Γ : mm_Ctx} {post : Int32 → mm_Mem → Prop} {h : mm_Mem} {t1 : Nat} (h_t1 : mm_isT t1) (x2 : Int32) (s0 : Int32) (hT : (vp_in x2 6) ∧ (mm_SI Γ smM_S_draftChanges [.ref (mm_B Γ + 0), .int (h (t1 + 1) x2.toNatClampNeg)] h (fun r42 h42 => (r42 = 0 → (mm_W Γ smM_S_isInTheWay (mm_pI post) 2 [some (.ref (mm_B Γ + 0)), some (.ref (mm_B Γ + t1)), some (.int (x2 + (1 : Int32))), none] [] h42)) ∧ (¬ r42 = 0 → ((¬ s0 = 0 → (mm_W Γ smM_S_isInTheWay (mm_pI post) 2 [some (.ref (mm_B Γ + 0)), some (.ref (mm_B Γ + t1)), some (.int (x2 + (1 : Int32))), none] [] h42)) ∧ (s0 = 0 → (post (1 : Int32) h42))))))) : mm_W Γ smM_S_isInTheWay (mm_pI post) 34 [some (.ref (mm_B Γ + 0)), some (.ref (mm_B Γ + t1)), some (.int x2), none] [.int s0] h := by
  refine mm_istore_n (n := 35) (i := 3) (L' := [some (.ref (mm_B Γ + 0)), some (.ref (mm_B Γ + t1)), some (.int x2), some (.int s0)]) smd_S_isInTheWay_34 rfl rfl (by decide) rfl ?_
  refine mm_aload_n (n := 36) (i := 0) smd_S_isInTheWay_35 rfl rfl rfl ?_
  refine mm_aload_n (n := 37) (i := 1) smd_S_isInTheWay_36 rfl rfl rfl ?_
  refine mm_get (n := 40) (v := .ref (mm_B Γ + (t1 + 1))) smk_S_142 (smb_T h_t1) rfl smd_S_isInTheWay_37 rfl ?_
  refine mm_iload_n (n := 41) (i := 2) smd_S_isInTheWay_40 rfl rfl rfl ?_
  refine mm_iald (n := 42) (sma_T1 h_t1) hT.1 smd_S_isInTheWay_41 rfl ?_
  replace hT := hT.2
  refine mm_callVI (n := 45) (As := [.int (h (t1 + 1) x2.toNatClampNeg)]) (rest := []) smv_S_draftChanges smw_302 smb_S (mm_hRm (by decide) (by decide)) smd_S_isInTheWay_42 rfl rfl (Nat.le_of_ble_eq_true rfl) hT (fun r42 h42 hT => ?_)
  refine mm_if_eq (n := 48) (tgt := 54) smd_S_isInTheWay_45 rfl rfl (fun hc => ?_) (fun hc => ?_)
  · replace hT := hT.1 hc
    refine mm_iinc (n := 57) (i := 2) (d := 1) (L' := [some (.ref (mm_B Γ + 0)), some (.ref (mm_B Γ + t1)), some (.int (x2 + (1 : Int32))), some (.int s0)]) smd_S_isInTheWay_54 rfl rfl (by decide) (by decide) rfl ?_
    refine mm_goto (n := 2) smd_S_isInTheWay_57 rfl ?_
    exact mm_weak (by refine ⟨rfl, rfl, rfl, trivial⟩) hT
  · replace hT := hT.2 hc
    refine mm_iload_n (n := 49) (i := 3) smd_S_isInTheWay_48 rfl rfl rfl ?_
    refine mm_if_ne (n := 52) (tgt := 54) smd_S_isInTheWay_49 rfl rfl (fun hc => ?_) (fun hc => ?_)
    · replace hT := hT.1 hc
      refine mm_iinc (n := 57) (i := 2) (d := 1) (L' := [some (.ref (mm_B Γ + 0)), some (.ref (mm_B Γ + t1)), some (.int (x2 + (1 : Int32))), some (.int s0)]) smd_S_isInTheWay_54 rfl rfl (by decide) (by decide) rfl ?_
      refine mm_goto (n := 2) smd_S_isInTheWay_57 rfl ?_
      exact mm_weak (by refine ⟨rfl, rfl, rfl, trivial⟩) hT
    · replace hT := hT.2 hc
      refine mm_iconst (n := 53) (v := 1) smd_S_isInTheWay_52 rfl (by decide) ?_
      exact mm_zret rfl (Or.inr rfl) smd_S_isInTheWay_53 ⟨_, rfl, hT⟩
set_option maxHeartbeats 4000000 in
set_option maxRecDepth 100000 in
theorem smr_S_placeInDraft {Γ : mm_Ctx} {post : Int32 → mm_Mem → Prop} {h : mm_Mem} {t1 : Nat} (h_t1 : mm_isT t1) (hT : (vp_in ((h t1 5) - (1 : Int32)) 6) ∧ (∀ y2_11 : Int32, y2_11 = h (t1 + 1) ((h t1 5) - (1 : Int32)).toNatClampNeg → ((vp_in ((h t1 5) - (1 : Int32)) 6) ∧ (mm_SI Γ smM_V_at [.int y2_11, .int (h (t1 + 2) ((h t1 5) - (1 : Int32)).toNatClampNeg)] h (fun r24 h24 => (vp_in r24 72) ∧ ((¬ (h24 3 r24.toNatClampNeg) = (12 : Int32) → (post (-1 : Int32) h24)) ∧ ((h24 3 r24.toNatClampNeg) = (12 : Int32) → ((vp_in r24 72) ∧ (mm_SI Γ smM_V_firstPoint [.ref (mm_B Γ + 8), .int y2_11, .int (h24 4 r24.toNatClampNeg)] h24 (fun r56 h56 => post r56 h56)))))))))) : mm_SI Γ smM_S_placeInDraft [.ref (mm_B Γ + 0), .ref (mm_B Γ + t1)] h post := by
  refine mm_spec0 (M := smM_S_placeInDraft) 2 (by decide +kernel) rfl (Nat.le_of_ble_eq_true rfl) ?_
  show mm_W Γ smM_S_placeInDraft (mm_pI post) 0 [some (.ref (mm_B Γ + 0)), some (.ref (mm_B Γ + t1)), none, none] [] h
  refine mm_aload_n (n := 1) (i := 1) smd_S_placeInDraft_0 rfl rfl rfl ?_
  refine mm_get (n := 4) (v := .ref (mm_B Γ + (t1 + 1))) smk_S_142 (smb_T h_t1) rfl smd_S_placeInDraft_1 rfl ?_
  refine mm_aload_n (n := 5) (i := 1) smd_S_placeInDraft_4 rfl rfl rfl ?_
  refine mm_get (n := 8) (v := .int (h t1 5)) smk_S_139 (smb_T h_t1) rfl smd_S_placeInDraft_5 rfl ?_
  refine mm_iconst (n := 9) (v := 1) smd_S_placeInDraft_8 rfl (by decide) ?_
  refine mm_isub (n := 10) smd_S_placeInDraft_9 rfl ?_
  refine mm_iald (n := 11) (sma_T1 h_t1) hT.1 smd_S_placeInDraft_10 rfl ?_
  replace hT := hT.2
  refine mm_top (fun y2_11 e_y2_11 => ?_)
  replace hT := hT y2_11 e_y2_11
  refine mm_istore_n (n := 12) (i := 2) (L' := [some (.ref (mm_B Γ + 0)), some (.ref (mm_B Γ + t1)), some (.int y2_11), none]) smd_S_placeInDraft_11 rfl rfl (by decide) rfl ?_
  refine mm_iload_n (n := 13) (i := 2) smd_S_placeInDraft_12 rfl rfl rfl ?_
  refine mm_aload_n (n := 14) (i := 1) smd_S_placeInDraft_13 rfl rfl rfl ?_
  refine mm_get (n := 17) (v := .ref (mm_B Γ + (t1 + 2))) smk_S_145 (smb_T h_t1) rfl smd_S_placeInDraft_14 rfl ?_
  refine mm_aload_n (n := 18) (i := 1) smd_S_placeInDraft_17 rfl rfl rfl ?_
  refine mm_get (n := 21) (v := .int (h t1 5)) smk_S_139 (smb_T h_t1) rfl smd_S_placeInDraft_18 rfl ?_
  refine mm_iconst (n := 22) (v := 1) smd_S_placeInDraft_21 rfl (by decide) ?_
  refine mm_isub (n := 23) smd_S_placeInDraft_22 rfl ?_
  refine mm_iald (n := 24) (sma_T2 h_t1) hT.1 smd_S_placeInDraft_23 rfl ?_
  replace hT := hT.2
  refine mm_callSI (n := 27) (As := [.int y2_11, .int (h (t1 + 2) ((h t1 5) - (1 : Int32)).toNatClampNeg)]) (rest := []) smv_V_at smw_335 (mm_hRm (by decide) (by decide)) smd_S_placeInDraft_24 rfl rfl (Nat.le_of_ble_eq_true rfl) hT (fun r24 h24 hT => ?_)
  refine mm_istore_n (n := 28) (i := 3) (L' := [some (.ref (mm_B Γ + 0)), some (.ref (mm_B Γ + t1)), some (.int y2_11), some (.int r24)]) smd_S_placeInDraft_27 rfl rfl (by decide) rfl ?_
  refine mm_aload_n (n := 29) (i := 0) smd_S_placeInDraft_28 rfl rfl rfl ?_
  refine mm_get (n := 32) (v := .ref (mm_B Γ + 1)) smk_S_10 smb_S rfl smd_S_placeInDraft_29 rfl ?_
  refine mm_get (n := 35) (v := .ref (mm_B Γ + 3)) smk_S_188 (smb_V (Or.inl rfl)) rfl smd_S_placeInDraft_32 rfl ?_
  refine mm_iload_n (n := 36) (i := 3) smd_S_placeInDraft_35 rfl rfl rfl ?_
  refine mm_iald (n := 37) sma_3 hT.1 smd_S_placeInDraft_36 rfl ?_
  replace hT := hT.2
  refine mm_bipush (n := 39) (v := 12) smd_S_placeInDraft_37 rfl (by decide) ?_
  refine mm_icmp_ne (n := 42) (tgt := 62) smd_S_placeInDraft_39 rfl rfl (fun hc => ?_) (fun hc => ?_)
  · replace hT := hT.1 hc
    refine mm_iconst (n := 63) (v := -1) smd_S_placeInDraft_62 rfl (by decide) ?_
    exact mm_iret rfl smd_S_placeInDraft_63 ⟨_, rfl, hT⟩
  · replace hT := hT.2 hc
    refine mm_aload_n (n := 43) (i := 0) smd_S_placeInDraft_42 rfl rfl rfl ?_
    refine mm_get (n := 46) (v := .ref (mm_B Γ + 8)) smk_S_16 smb_S rfl smd_S_placeInDraft_43 rfl ?_
    refine mm_iload_n (n := 47) (i := 2) smd_S_placeInDraft_46 rfl rfl rfl ?_
    refine mm_aload_n (n := 48) (i := 0) smd_S_placeInDraft_47 rfl rfl rfl ?_
    refine mm_get (n := 51) (v := .ref (mm_B Γ + 1)) smk_S_10 smb_S rfl smd_S_placeInDraft_48 rfl ?_
    refine mm_get (n := 54) (v := .ref (mm_B Γ + 4)) smk_S_191 (smb_V (Or.inl rfl)) rfl smd_S_placeInDraft_51 rfl ?_
    refine mm_iload_n (n := 55) (i := 3) smd_S_placeInDraft_54 rfl rfl rfl ?_
    refine mm_iald (n := 56) sma_4 hT.1 smd_S_placeInDraft_55 rfl ?_
    replace hT := hT.2
    refine mm_callVI (n := 59) (As := [.int y2_11, .int (h24 4 r24.toNatClampNeg)]) (rest := []) smv_V_firstPoint smw_336 (smb_V (Or.inr rfl)) (mm_hRm (by decide) (by decide)) smd_S_placeInDraft_56 rfl rfl (Nat.le_of_ble_eq_true rfl) hT (fun r56 h56 hT => ?_)
    refine mm_goto (n := 63) smd_S_placeInDraft_59 rfl ?_
    exact mm_iret rfl smd_S_placeInDraft_63 ⟨_, rfl, hT⟩
set_option maxHeartbeats 4000000 in
set_option maxRecDepth 100000 in
theorem smr_S_takeThePlace {Γ : mm_Ctx} {post : mm_Mem → Prop} {h : mm_Mem}  (hT : mm_SV Γ smM_S_moveFrames [.ref (mm_B Γ + 0)] h (fun h1 => mm_SV Γ smM_V_copyFrom [.ref (mm_B Γ + 1), .ref (mm_B Γ + 8)] h1 (fun h12 => mm_SV Γ smM_R_forgetAll [.ref (mm_B Γ + 15)] h12 (fun h19 => ∀ h29 : mm_Mem, h29 = mm_wr h19 0 7 ((h19 0 7) + (1 : Int32)) → (∀ h34 : mm_Mem, h34 = mm_wr h29 0 8 (0 : Int32) → (post h34)))))) : mm_SV Γ smM_S_takeThePlace [.ref (mm_B Γ + 0)] h post := by
  refine mm_spec0 (M := smM_S_takeThePlace) 0 (by decide +kernel) rfl (Nat.le_of_ble_eq_true rfl) ?_
  show mm_W Γ smM_S_takeThePlace (mm_pV post) 0 [some (.ref (mm_B Γ + 0))] [] h
  refine mm_aload_n (n := 1) (i := 0) smd_S_takeThePlace_0 rfl rfl rfl ?_
  refine mm_callVV (n := 4) (As := []) (rest := []) smv_S_moveFrames smw_390 smb_S (mm_hRm (by decide) (by decide)) smd_S_takeThePlace_1 rfl rfl (Nat.le_of_ble_eq_true rfl) hT (fun h1 hT => ?_)
  refine mm_aload_n (n := 5) (i := 0) smd_S_takeThePlace_4 rfl rfl rfl ?_
  refine mm_get (n := 8) (v := .ref (mm_B Γ + 1)) smk_S_10 smb_S rfl smd_S_takeThePlace_5 rfl ?_
  refine mm_aload_n (n := 9) (i := 0) smd_S_takeThePlace_8 rfl rfl rfl ?_
  refine mm_get (n := 12) (v := .ref (mm_B Γ + 8)) smk_S_16 smb_S rfl smd_S_takeThePlace_9 rfl ?_
  refine mm_callVV (n := 15) (As := [.ref (mm_B Γ + 8)]) (rest := []) smv_V_copyFrom smw_254 (smb_V (Or.inl rfl)) (mm_hRm (by decide) (by decide)) smd_S_takeThePlace_12 rfl rfl (Nat.le_of_ble_eq_true rfl) hT (fun h12 hT => ?_)
  refine mm_aload_n (n := 16) (i := 0) smd_S_takeThePlace_15 rfl rfl rfl ?_
  refine mm_get (n := 19) (v := .ref (mm_B Γ + 15)) smk_S_22 smb_S rfl smd_S_takeThePlace_16 rfl ?_
  refine mm_callVV (n := 22) (As := []) (rest := []) smv_R_forgetAll smw_261 smb_R (mm_hRm (by decide) (by decide)) smd_S_takeThePlace_19 rfl rfl (Nat.le_of_ble_eq_true rfl) hT (fun h19 hT => ?_)
  refine mm_aload_n (n := 23) (i := 0) smd_S_takeThePlace_22 rfl rfl rfl ?_
  refine mm_dup (n := 24) smd_S_takeThePlace_23 rfl rfl ?_
  refine mm_get (n := 27) (v := .int (h19 0 7)) smk_S_106 smb_S rfl smd_S_takeThePlace_24 rfl ?_
  refine mm_iconst (n := 28) (v := 1) smd_S_takeThePlace_27 rfl (by decide) ?_
  refine mm_iadd (n := 29) smd_S_takeThePlace_28 rfl ?_
  refine mm_put (n := 32) smk_S_106 smp_S_7 smb_S rfl (Nat.le_of_ble_eq_true rfl) rfl rfl smd_S_takeThePlace_29 rfl ?_
  refine mm_nam (fun h29 e_h29 => ?_)
  replace hT := hT h29 e_h29
  refine mm_aload_n (n := 33) (i := 0) smd_S_takeThePlace_32 rfl rfl rfl ?_
  refine mm_iconst (n := 34) (v := 0) smd_S_takeThePlace_33 rfl (by decide) ?_
  refine mm_put (n := 37) smk_S_51 smp_S_8 smb_S rfl (Nat.le_of_ble_eq_true rfl) rfl rfl smd_S_takeThePlace_34 rfl ?_
  refine mm_nam (fun h34 e_h34 => ?_)
  replace hT := hT h34 e_h34
  exact mm_vret rfl smd_S_takeThePlace_37 ⟨rfl, hT⟩
set_option maxHeartbeats 4000000 in
set_option maxRecDepth 100000 in
theorem smr_S_moveFrames {Γ : mm_Ctx} {post : mm_Mem → Prop} {h : mm_Mem}  (hT : mm_W Γ smM_S_moveFrames (mm_pV post) 2 [some (.ref (mm_B Γ + 0)), some (.int (0 : Int32)), none] [] h) : mm_SV Γ smM_S_moveFrames [.ref (mm_B Γ + 0)] h post := by
  refine mm_spec0 (M := smM_S_moveFrames) 2 (by decide +kernel) rfl (Nat.le_of_ble_eq_true rfl) ?_
  show mm_W Γ smM_S_moveFrames (mm_pV post) 0 [some (.ref (mm_B Γ + 0)), none, none] [] h
  refine mm_iconst (n := 1) (v := 0) smd_S_moveFrames_0 rfl (by decide) ?_
  refine mm_istore_n (n := 2) (i := 1) (L' := [some (.ref (mm_B Γ + 0)), some (.int (0 : Int32)), none]) smd_S_moveFrames_1 rfl rfl (by decide) rfl ?_
  exact mm_weak (by refine ⟨rfl, rfl, trivial⟩) hT
set_option maxHeartbeats 4000000 in
set_option maxRecDepth 100000 in
theorem smr_S_moveFrames_2 {Γ : mm_Ctx} {post : mm_Mem → Prop} {h : mm_Mem} (x1 : Int32) (hT : ((h 0 6) ≤ x1 → (post h)) ∧ (¬ (h 0 6) ≤ x1 → ((vp_in x1 6) ∧ (∀ t15 : Nat, t15 = 28 + 6 * x1.toNatClampNeg → mm_isT t15 → (((h t15 5) ≤ 0 → (mm_W Γ smM_S_moveFrames (mm_pV post) 2 [some (.ref (mm_B Γ + 0)), some (.int (x1 + (1 : Int32))), none] [] h)) ∧ (¬ (h t15 5) ≤ 0 → ((vp_in ((h t15 5) - (1 : Int32)) 6) ∧ (mm_SI Γ smM_S_draftChanges [.ref (mm_B Γ + 0), .int (h (t15 + 1) ((h t15 5) - (1 : Int32)).toNatClampNeg)] h (fun r36 h36 => (r36 = 0 → (mm_W Γ smM_S_moveFrames (mm_pV post) 2 [some (.ref (mm_B Γ + 0)), some (.int (x1 + (1 : Int32))), none] [] h36)) ∧ (¬ r36 = 0 → (mm_SI Γ smM_S_placeInDraft [.ref (mm_B Γ + 0), .ref (mm_B Γ + t15)] h36 (fun r54 h54 => (vp_in ((h36 t15 5) - (1 : Int32)) 6) ∧ (∀ h57 : mm_Mem, h57 = mm_wr h54 (t15 + 2) ((h36 t15 5) - (1 : Int32)).toNatClampNeg r54 → (mm_W Γ smM_S_moveFrames (mm_pV post) 2 [some (.ref (mm_B Γ + 0)), some (.int (x1 + (1 : Int32))), none] [] h57)))))))))))))) : mm_W Γ smM_S_moveFrames (mm_pV post) 2 [some (.ref (mm_B Γ + 0)), some (.int x1), none] [] h := by
  refine mm_iload_n (n := 3) (i := 1) smd_S_moveFrames_2 rfl rfl rfl ?_
  refine mm_aload_n (n := 4) (i := 0) smd_S_moveFrames_3 rfl rfl rfl ?_
  refine mm_get (n := 7) (v := .int (h 0 6)) smk_S_113 smb_S rfl smd_S_moveFrames_4 rfl ?_
  refine mm_icmp_ge (n := 10) (tgt := 64) smd_S_moveFrames_7 rfl rfl (fun hc => ?_) (fun hc => ?_)
  · replace hT := hT.1 hc
    exact mm_vret rfl smd_S_moveFrames_64 ⟨rfl, hT⟩
  · replace hT := hT.2 hc
    refine mm_aload_n (n := 11) (i := 0) smd_S_moveFrames_10 rfl rfl rfl ?_
    refine mm_get (n := 14) (v := .ref (mm_B Γ + 27)) smk_S_39 smb_S rfl smd_S_moveFrames_11 rfl ?_
    refine mm_iload_n (n := 15) (i := 1) smd_S_moveFrames_14 rfl rfl rfl ?_
    refine mm_taald (n := 16) hT.1 smd_S_moveFrames_15 rfl (fun t15 e_t15 h_t15 => ?_)
    replace hT := hT.2 t15 e_t15 h_t15
    refine mm_astore_n (n := 17) (i := 2) (L' := [some (.ref (mm_B Γ + 0)), some (.int x1), some (.ref (mm_B Γ + t15))]) smd_S_moveFrames_16 rfl rfl (by decide) rfl ?_
    refine mm_aload_n (n := 18) (i := 2) smd_S_moveFrames_17 rfl rfl rfl ?_
    refine mm_get (n := 21) (v := .int (h t15 5)) smk_S_139 (smb_T h_t15) rfl smd_S_moveFrames_18 rfl ?_
    refine mm_if_le (n := 24) (tgt := 58) smd_S_moveFrames_21 rfl rfl (fun hc => ?_) (fun hc => ?_)
    · replace hT := hT.1 hc
      refine mm_iinc (n := 61) (i := 1) (d := 1) (L' := [some (.ref (mm_B Γ + 0)), some (.int (x1 + (1 : Int32))), some (.ref (mm_B Γ + t15))]) smd_S_moveFrames_58 rfl rfl (by decide) (by decide) rfl ?_
      refine mm_goto (n := 2) smd_S_moveFrames_61 rfl ?_
      exact mm_weak (by refine ⟨rfl, rfl, trivial⟩) hT
    · replace hT := hT.2 hc
      refine mm_aload_n (n := 25) (i := 0) smd_S_moveFrames_24 rfl rfl rfl ?_
      refine mm_aload_n (n := 26) (i := 2) smd_S_moveFrames_25 rfl rfl rfl ?_
      refine mm_get (n := 29) (v := .ref (mm_B Γ + (t15 + 1))) smk_S_142 (smb_T h_t15) rfl smd_S_moveFrames_26 rfl ?_
      refine mm_aload_n (n := 30) (i := 2) smd_S_moveFrames_29 rfl rfl rfl ?_
      refine mm_get (n := 33) (v := .int (h t15 5)) smk_S_139 (smb_T h_t15) rfl smd_S_moveFrames_30 rfl ?_
      refine mm_iconst (n := 34) (v := 1) smd_S_moveFrames_33 rfl (by decide) ?_
      refine mm_isub (n := 35) smd_S_moveFrames_34 rfl ?_
      refine mm_iald (n := 36) (sma_T1 h_t15) hT.1 smd_S_moveFrames_35 rfl ?_
      replace hT := hT.2
      refine mm_callVI (n := 39) (As := [.int (h (t15 + 1) ((h t15 5) - (1 : Int32)).toNatClampNeg)]) (rest := []) smv_S_draftChanges smw_302 smb_S (mm_hRm (by decide) (by decide)) smd_S_moveFrames_36 rfl rfl (Nat.le_of_ble_eq_true rfl) hT (fun r36 h36 hT => ?_)
      refine mm_if_eq (n := 42) (tgt := 58) smd_S_moveFrames_39 rfl rfl (fun hc => ?_) (fun hc => ?_)
      · replace hT := hT.1 hc
        refine mm_iinc (n := 61) (i := 1) (d := 1) (L' := [some (.ref (mm_B Γ + 0)), some (.int (x1 + (1 : Int32))), some (.ref (mm_B Γ + t15))]) smd_S_moveFrames_58 rfl rfl (by decide) (by decide) rfl ?_
        refine mm_goto (n := 2) smd_S_moveFrames_61 rfl ?_
        exact mm_weak (by refine ⟨rfl, rfl, trivial⟩) hT
      · replace hT := hT.2 hc
        refine mm_aload_n (n := 43) (i := 2) smd_S_moveFrames_42 rfl rfl rfl ?_
        refine mm_get (n := 46) (v := .ref (mm_B Γ + (t15 + 2))) smk_S_145 (smb_T h_t15) rfl smd_S_moveFrames_43 rfl ?_
        refine mm_aload_n (n := 47) (i := 2) smd_S_moveFrames_46 rfl rfl rfl ?_
        refine mm_get (n := 50) (v := .int (h36 t15 5)) smk_S_139 (smb_T h_t15) rfl smd_S_moveFrames_47 rfl ?_
        refine mm_iconst (n := 51) (v := 1) smd_S_moveFrames_50 rfl (by decide) ?_
        refine mm_isub (n := 52) smd_S_moveFrames_51 rfl ?_
        refine mm_aload_n (n := 53) (i := 0) smd_S_moveFrames_52 rfl rfl rfl ?_
        refine mm_aload_n (n := 54) (i := 2) smd_S_moveFrames_53 rfl rfl rfl ?_
        refine mm_callVI (n := 57) (As := [.ref (mm_B Γ + t15)]) (rest := [.int ((h36 t15 5) - (1 : Int32)), .ref (mm_B Γ + (t15 + 2))]) smv_S_placeInDraft smw_331 smb_S (mm_hRm (by decide) (by decide)) smd_S_moveFrames_54 rfl rfl (Nat.le_of_ble_eq_true rfl) hT (fun r54 h54 hT => ?_)
        refine mm_iast (n := 58) (sma_T2 h_t15) hT.1 smd_S_moveFrames_57 rfl ?_
        replace hT := hT.2
        refine mm_nam (fun h57 e_h57 => ?_)
        replace hT := hT h57 e_h57
        refine mm_iinc (n := 61) (i := 1) (d := 1) (L' := [some (.ref (mm_B Γ + 0)), some (.int (x1 + (1 : Int32))), some (.ref (mm_B Γ + t15))]) smd_S_moveFrames_58 rfl rfl (by decide) (by decide) rfl ?_
        refine mm_goto (n := 2) smd_S_moveFrames_61 rfl ?_
        exact mm_weak (by refine ⟨rfl, rfl, trivial⟩) hT
set_option maxHeartbeats 4000000 in
set_option maxRecDepth 100000 in
theorem smr_S_dropUnreachable {Γ : mm_Ctx} {post : Int32 → mm_Mem → Prop} {h : mm_Mem}  (hT : mm_SV Γ smM_H_unmarkAll [.ref (mm_B Γ + 20)] h (fun h4 => mm_W Γ smM_S_dropUnreachable (mm_pI post) 9 [some (.ref (mm_B Γ + 0)), some (.int (0 : Int32)), none, none] [] h4)) : mm_SI Γ smM_S_dropUnreachable [.ref (mm_B Γ + 0)] h post := by
  refine mm_spec0 (M := smM_S_dropUnreachable) 3 (by decide +kernel) rfl (Nat.le_of_ble_eq_true rfl) ?_
  show mm_W Γ smM_S_dropUnreachable (mm_pI post) 0 [some (.ref (mm_B Γ + 0)), none, none, none] [] h
  refine mm_aload_n (n := 1) (i := 0) smd_S_dropUnreachable_0 rfl rfl rfl ?_
  refine mm_get (n := 4) (v := .ref (mm_B Γ + 20)) smk_S_29 smb_S rfl smd_S_dropUnreachable_1 rfl ?_
  refine mm_callVV (n := 7) (As := []) (rest := []) smv_H_unmarkAll smw_348 smb_H (mm_hRm (by decide) (by decide)) smd_S_dropUnreachable_4 rfl rfl (Nat.le_of_ble_eq_true rfl) hT (fun h4 hT => ?_)
  refine mm_iconst (n := 8) (v := 0) smd_S_dropUnreachable_7 rfl (by decide) ?_
  refine mm_istore_n (n := 9) (i := 1) (L' := [some (.ref (mm_B Γ + 0)), some (.int (0 : Int32)), none, none]) smd_S_dropUnreachable_8 rfl rfl (by decide) rfl ?_
  exact mm_weak (by refine ⟨rfl, rfl, trivial⟩) hT
set_option maxHeartbeats 4000000 in
set_option maxRecDepth 100000 in
theorem smr_S_dropUnreachable_9 {Γ : mm_Ctx} {post : Int32 → mm_Mem → Prop} {h : mm_Mem} (x1 : Int32) (hT : ((4 : Int32) ≤ x1 → (mm_W Γ smM_S_dropUnreachable (mm_pI post) 35 [some (.ref (mm_B Γ + 0)), some (.int (0 : Int32)), none, none] [] h)) ∧ (¬ (4 : Int32) ≤ x1 → ((vp_in x1 4) ∧ (mm_SV Γ smM_H_mark [.ref (mm_B Γ + 20), .int (h 26 x1.toNatClampNeg)] h (fun h24 => mm_W Γ smM_S_dropUnreachable (mm_pI post) 9 [some (.ref (mm_B Γ + 0)), some (.int (x1 + (1 : Int32))), none, none] [] h24))))) : mm_W Γ smM_S_dropUnreachable (mm_pI post) 9 [some (.ref (mm_B Γ + 0)), some (.int x1), none, none] [] h := by
  refine mm_iload_n (n := 10) (i := 1) smd_S_dropUnreachable_9 rfl rfl rfl ?_
  refine mm_iconst (n := 11) (v := 4) smd_S_dropUnreachable_10 rfl (by decide) ?_
  refine mm_icmp_ge (n := 14) (tgt := 33) smd_S_dropUnreachable_11 rfl rfl (fun hc => ?_) (fun hc => ?_)
  · replace hT := hT.1 hc
    refine mm_iconst (n := 34) (v := 0) smd_S_dropUnreachable_33 rfl (by decide) ?_
    refine mm_istore_n (n := 35) (i := 1) (L' := [some (.ref (mm_B Γ + 0)), some (.int (0 : Int32)), none, none]) smd_S_dropUnreachable_34 rfl rfl (by decide) rfl ?_
    exact mm_weak (by refine ⟨rfl, rfl, trivial⟩) hT
  · replace hT := hT.2 hc
    refine mm_aload_n (n := 15) (i := 0) smd_S_dropUnreachable_14 rfl rfl rfl ?_
    refine mm_get (n := 18) (v := .ref (mm_B Γ + 20)) smk_S_29 smb_S rfl smd_S_dropUnreachable_15 rfl ?_
    refine mm_aload_n (n := 19) (i := 0) smd_S_dropUnreachable_18 rfl rfl rfl ?_
    refine mm_get (n := 22) (v := .ref (mm_B Γ + 26)) smk_S_33 smb_S rfl smd_S_dropUnreachable_19 rfl ?_
    refine mm_iload_n (n := 23) (i := 1) smd_S_dropUnreachable_22 rfl rfl rfl ?_
    refine mm_iald (n := 24) sma_26 hT.1 smd_S_dropUnreachable_23 rfl ?_
    replace hT := hT.2
    refine mm_callVV (n := 27) (As := [.int (h 26 x1.toNatClampNeg)]) (rest := []) smv_H_mark smw_352 smb_H (mm_hRm (by decide) (by decide)) smd_S_dropUnreachable_24 rfl rfl (Nat.le_of_ble_eq_true rfl) hT (fun h24 hT => ?_)
    refine mm_iinc (n := 30) (i := 1) (d := 1) (L' := [some (.ref (mm_B Γ + 0)), some (.int (x1 + (1 : Int32))), none, none]) smd_S_dropUnreachable_27 rfl rfl (by decide) (by decide) rfl ?_
    refine mm_goto (n := 9) smd_S_dropUnreachable_30 rfl ?_
    exact mm_weak (by refine ⟨rfl, rfl, trivial⟩) hT
set_option maxHeartbeats 4000000 in
set_option maxRecDepth 100000 in
theorem smr_S_dropUnreachable_35 {Γ : mm_Ctx} {post : Int32 → mm_Mem → Prop} {h : mm_Mem} (x1 : Int32) (hT : ((h 0 6) ≤ x1 → (mm_SV Γ smM_H_markFromMarked [.ref (mm_B Γ + 20)] h (fun h91 => mm_SI Γ smM_H_dropUnmarked [.ref (mm_B Γ + 20)] h91 (fun r98 h98 => post r98 h98)))) ∧ (¬ (h 0 6) ≤ x1 → ((vp_in x1 6) ∧ (∀ t48 : Nat, t48 = 28 + 6 * x1.toNatClampNeg → mm_isT t48 → (mm_W Γ smM_S_dropUnreachable (mm_pI post) 52 [some (.ref (mm_B Γ + 0)), some (.int x1), some (.ref (mm_B Γ + t48)), some (.int (0 : Int32))] [] h))))) : mm_W Γ smM_S_dropUnreachable (mm_pI post) 35 [some (.ref (mm_B Γ + 0)), some (.int x1), none, none] [] h := by
  refine mm_iload_n (n := 36) (i := 1) smd_S_dropUnreachable_35 rfl rfl rfl ?_
  refine mm_aload_n (n := 37) (i := 0) smd_S_dropUnreachable_36 rfl rfl rfl ?_
  refine mm_get (n := 40) (v := .int (h 0 6)) smk_S_113 smb_S rfl smd_S_dropUnreachable_37 rfl ?_
  refine mm_icmp_ge (n := 43) (tgt := 87) smd_S_dropUnreachable_40 rfl rfl (fun hc => ?_) (fun hc => ?_)
  · replace hT := hT.1 hc
    refine mm_aload_n (n := 88) (i := 0) smd_S_dropUnreachable_87 rfl rfl rfl ?_
    refine mm_get (n := 91) (v := .ref (mm_B Γ + 20)) smk_S_29 smb_S rfl smd_S_dropUnreachable_88 rfl ?_
    refine mm_callVV (n := 94) (As := []) (rest := []) smv_H_markFromMarked smw_360 smb_H (mm_hRm (by decide) (by decide)) smd_S_dropUnreachable_91 rfl rfl (Nat.le_of_ble_eq_true rfl) hT (fun h91 hT => ?_)
    refine mm_aload_n (n := 95) (i := 0) smd_S_dropUnreachable_94 rfl rfl rfl ?_
    refine mm_get (n := 98) (v := .ref (mm_B Γ + 20)) smk_S_29 smb_S rfl smd_S_dropUnreachable_95 rfl ?_
    refine mm_callVI (n := 101) (As := []) (rest := []) smv_H_dropUnmarked smw_365 smb_H (mm_hRm (by decide) (by decide)) smd_S_dropUnreachable_98 rfl rfl (Nat.le_of_ble_eq_true rfl) hT (fun r98 h98 hT => ?_)
    exact mm_iret rfl smd_S_dropUnreachable_101 ⟨_, rfl, hT⟩
  · replace hT := hT.2 hc
    refine mm_aload_n (n := 44) (i := 0) smd_S_dropUnreachable_43 rfl rfl rfl ?_
    refine mm_get (n := 47) (v := .ref (mm_B Γ + 27)) smk_S_39 smb_S rfl smd_S_dropUnreachable_44 rfl ?_
    refine mm_iload_n (n := 48) (i := 1) smd_S_dropUnreachable_47 rfl rfl rfl ?_
    refine mm_taald (n := 49) hT.1 smd_S_dropUnreachable_48 rfl (fun t48 e_t48 h_t48 => ?_)
    replace hT := hT.2 t48 e_t48 h_t48
    refine mm_astore_n (n := 50) (i := 2) (L' := [some (.ref (mm_B Γ + 0)), some (.int x1), some (.ref (mm_B Γ + t48)), none]) smd_S_dropUnreachable_49 rfl rfl (by decide) rfl ?_
    refine mm_iconst (n := 51) (v := 0) smd_S_dropUnreachable_50 rfl (by decide) ?_
    refine mm_istore_n (n := 52) (i := 3) (L' := [some (.ref (mm_B Γ + 0)), some (.int x1), some (.ref (mm_B Γ + t48)), some (.int (0 : Int32))]) smd_S_dropUnreachable_51 rfl rfl (by decide) rfl ?_
    exact mm_weak (by refine ⟨rfl, rfl, rfl, rfl, trivial⟩) hT
set_option maxHeartbeats 4000000 in
set_option maxRecDepth 100000 in
theorem smr_S_dropUnreachable_52 {Γ : mm_Ctx} {post : Int32 → mm_Mem → Prop} {h : mm_Mem} (x1 : Int32) {t48 : Nat} (h_t48 : mm_isT t48) (x3 : Int32) (hT : (((h t48 5) * (3 : Int32)) ≤ x3 → (mm_W Γ smM_S_dropUnreachable (mm_pI post) 35 [some (.ref (mm_B Γ + 0)), some (.int (x1 + (1 : Int32))), none, none] [] h)) ∧ (¬ ((h t48 5) * (3 : Int32)) ≤ x3 → ((vp_in x3 18) ∧ (mm_SV Γ smM_H_mark [.ref (mm_B Γ + 20), .int (h (t48 + 3) x3.toNatClampNeg)] h (fun h72 => mm_W Γ smM_S_dropUnreachable (mm_pI post) 52 [some (.ref (mm_B Γ + 0)), some (.int x1), some (.ref (mm_B Γ + t48)), some (.int (x3 + (1 : Int32)))] [] h72))))) : mm_W Γ smM_S_dropUnreachable (mm_pI post) 52 [some (.ref (mm_B Γ + 0)), some (.int x1), some (.ref (mm_B Γ + t48)), some (.int x3)] [] h := by
  refine mm_iload_n (n := 53) (i := 3) smd_S_dropUnreachable_52 rfl rfl rfl ?_
  refine mm_aload_n (n := 54) (i := 2) smd_S_dropUnreachable_53 rfl rfl rfl ?_
  refine mm_get (n := 57) (v := .int (h t48 5)) smk_S_139 (smb_T h_t48) rfl smd_S_dropUnreachable_54 rfl ?_
  refine mm_iconst (n := 58) (v := 3) smd_S_dropUnreachable_57 rfl (by decide) ?_
  refine mm_imul (n := 59) smd_S_dropUnreachable_58 rfl ?_
  refine mm_icmp_ge (n := 62) (tgt := 81) smd_S_dropUnreachable_59 rfl rfl (fun hc => ?_) (fun hc => ?_)
  · replace hT := hT.1 hc
    refine mm_iinc (n := 84) (i := 1) (d := 1) (L' := [some (.ref (mm_B Γ + 0)), some (.int (x1 + (1 : Int32))), some (.ref (mm_B Γ + t48)), some (.int x3)]) smd_S_dropUnreachable_81 rfl rfl (by decide) (by decide) rfl ?_
    refine mm_goto (n := 35) smd_S_dropUnreachable_84 rfl ?_
    exact mm_weak (by refine ⟨rfl, rfl, trivial⟩) hT
  · replace hT := hT.2 hc
    refine mm_aload_n (n := 63) (i := 0) smd_S_dropUnreachable_62 rfl rfl rfl ?_
    refine mm_get (n := 66) (v := .ref (mm_B Γ + 20)) smk_S_29 smb_S rfl smd_S_dropUnreachable_63 rfl ?_
    refine mm_aload_n (n := 67) (i := 2) smd_S_dropUnreachable_66 rfl rfl rfl ?_
    refine mm_get (n := 70) (v := .ref (mm_B Γ + (t48 + 3))) smk_S_148 (smb_T h_t48) rfl smd_S_dropUnreachable_67 rfl ?_
    refine mm_iload_n (n := 71) (i := 3) smd_S_dropUnreachable_70 rfl rfl rfl ?_
    refine mm_iald (n := 72) (sma_T3 h_t48) hT.1 smd_S_dropUnreachable_71 rfl ?_
    replace hT := hT.2
    refine mm_callVV (n := 75) (As := [.int (h (t48 + 3) x3.toNatClampNeg)]) (rest := []) smv_H_mark smw_352 smb_H (mm_hRm (by decide) (by decide)) smd_S_dropUnreachable_72 rfl rfl (Nat.le_of_ble_eq_true rfl) hT (fun h72 hT => ?_)
    refine mm_iinc (n := 78) (i := 3) (d := 1) (L' := [some (.ref (mm_B Γ + 0)), some (.int x1), some (.ref (mm_B Γ + t48)), some (.int (x3 + (1 : Int32)))]) smd_S_dropUnreachable_75 rfl rfl (by decide) (by decide) rfl ?_
    refine mm_goto (n := 52) smd_S_dropUnreachable_78 rfl ?_
    exact mm_weak (by refine ⟨rfl, rfl, rfl, rfl, trivial⟩) hT
set_option maxHeartbeats 4000000 in
set_option maxRecDepth 100000 in
theorem smr_S_perform {Γ : mm_Ctx} {post : mm_Mem → Prop} {h : mm_Mem} {t1 : Nat} (h_t1 : mm_isT t1) (hT : ∀ y2_6 : Int32, y2_6 = (h t1 5) - (1 : Int32) → ((vp_in y2_6 6) ∧ ((vp_in y2_6 6) ∧ (mm_SI Γ smM_V_at [.int (h (t1 + 1) y2_6.toNatClampNeg), .int (h (t1 + 2) y2_6.toNatClampNeg)] h (fun r19 h19 => (vp_in r19 72) ∧ ((¬ (h19 3 r19.toNatClampNeg) = (11 : Int32) → (mm_W Γ smM_S_perform (mm_pV post) 50 [some (.ref (mm_B Γ + 0)), some (.ref (mm_B Γ + t1)), some (.int y2_6), some (.int r19), none, none, none] [] h19)) ∧ ((h19 3 r19.toNatClampNeg) = (11 : Int32) → ((¬ (h19 t1 6) = 0 → (mm_W Γ smM_S_perform (mm_pV post) 50 [some (.ref (mm_B Γ + 0)), some (.ref (mm_B Γ + t1)), some (.int y2_6), some (.int r19), none, none, none] [] h19)) ∧ ((h19 t1 6) = 0 → (∀ h46 : mm_Mem, h46 = mm_wr h19 t1 7 (1 : Int32) → (post h46))))))))))) : mm_SV Γ smM_S_perform [.ref (mm_B Γ + 0), .ref (mm_B Γ + t1)] h post := by
  refine mm_spec0 (M := smM_S_perform) 5 (by decide +kernel) rfl (Nat.le_of_ble_eq_true rfl) ?_
  show mm_W Γ smM_S_perform (mm_pV post) 0 [some (.ref (mm_B Γ + 0)), some (.ref (mm_B Γ + t1)), none, none, none, none, none] [] h
  refine mm_aload_n (n := 1) (i := 1) smd_S_perform_0 rfl rfl rfl ?_
  refine mm_get (n := 4) (v := .int (h t1 5)) smk_S_139 (smb_T h_t1) rfl smd_S_perform_1 rfl ?_
  refine mm_iconst (n := 5) (v := 1) smd_S_perform_4 rfl (by decide) ?_
  refine mm_isub (n := 6) smd_S_perform_5 rfl ?_
  refine mm_top (fun y2_6 e_y2_6 => ?_)
  replace hT := hT y2_6 e_y2_6
  refine mm_istore_n (n := 7) (i := 2) (L' := [some (.ref (mm_B Γ + 0)), some (.ref (mm_B Γ + t1)), some (.int y2_6), none, none, none, none]) smd_S_perform_6 rfl rfl (by decide) rfl ?_
  refine mm_aload_n (n := 8) (i := 1) smd_S_perform_7 rfl rfl rfl ?_
  refine mm_get (n := 11) (v := .ref (mm_B Γ + (t1 + 1))) smk_S_142 (smb_T h_t1) rfl smd_S_perform_8 rfl ?_
  refine mm_iload_n (n := 12) (i := 2) smd_S_perform_11 rfl rfl rfl ?_
  refine mm_iald (n := 13) (sma_T1 h_t1) hT.1 smd_S_perform_12 rfl ?_
  replace hT := hT.2
  refine mm_aload_n (n := 14) (i := 1) smd_S_perform_13 rfl rfl rfl ?_
  refine mm_get (n := 17) (v := .ref (mm_B Γ + (t1 + 2))) smk_S_145 (smb_T h_t1) rfl smd_S_perform_14 rfl ?_
  refine mm_iload_n (n := 18) (i := 2) smd_S_perform_17 rfl rfl rfl ?_
  refine mm_iald (n := 19) (sma_T2 h_t1) hT.1 smd_S_perform_18 rfl ?_
  replace hT := hT.2
  refine mm_callSI (n := 22) (As := [.int (h (t1 + 1) y2_6.toNatClampNeg), .int (h (t1 + 2) y2_6.toNatClampNeg)]) (rest := []) smv_V_at smw_335 (mm_hRm (by decide) (by decide)) smd_S_perform_19 rfl rfl (Nat.le_of_ble_eq_true rfl) hT (fun r19 h19 hT => ?_)
  refine mm_istore_n (n := 23) (i := 3) (L' := [some (.ref (mm_B Γ + 0)), some (.ref (mm_B Γ + t1)), some (.int y2_6), some (.int r19), none, none, none]) smd_S_perform_22 rfl rfl (by decide) rfl ?_
  refine mm_aload_n (n := 24) (i := 0) smd_S_perform_23 rfl rfl rfl ?_
  refine mm_get (n := 27) (v := .ref (mm_B Γ + 1)) smk_S_10 smb_S rfl smd_S_perform_24 rfl ?_
  refine mm_get (n := 30) (v := .ref (mm_B Γ + 3)) smk_S_188 (smb_V (Or.inl rfl)) rfl smd_S_perform_27 rfl ?_
  refine mm_iload_n (n := 31) (i := 3) smd_S_perform_30 rfl rfl rfl ?_
  refine mm_iald (n := 32) sma_3 hT.1 smd_S_perform_31 rfl ?_
  replace hT := hT.2
  refine mm_bipush (n := 34) (v := 11) smd_S_perform_32 rfl (by decide) ?_
  refine mm_icmp_ne (n := 37) (tgt := 50) smd_S_perform_34 rfl rfl (fun hc => ?_) (fun hc => ?_)
  · replace hT := hT.1 hc
    exact mm_weak (by refine ⟨rfl, rfl, rfl, rfl, trivial⟩) hT
  · replace hT := hT.2 hc
    refine mm_aload_n (n := 38) (i := 1) smd_S_perform_37 rfl rfl rfl ?_
    refine mm_get (n := 41) (v := .int (h19 t1 6)) smk_S_130 (smb_T h_t1) rfl smd_S_perform_38 rfl ?_
    refine mm_if_ne (n := 44) (tgt := 50) smd_S_perform_41 rfl rfl (fun hc => ?_) (fun hc => ?_)
    · replace hT := hT.1 hc
      exact mm_weak (by refine ⟨rfl, rfl, rfl, rfl, trivial⟩) hT
    · replace hT := hT.2 hc
      refine mm_aload_n (n := 45) (i := 1) smd_S_perform_44 rfl rfl rfl ?_
      refine mm_iconst (n := 46) (v := 1) smd_S_perform_45 rfl (by decide) ?_
      refine mm_put (n := 49) smk_S_123 smp_T_7 (smb_T h_t1) rfl (Nat.le_of_ble_eq_true rfl) rfl rfl smd_S_perform_46 rfl ?_
      refine mm_nam (fun h46 e_h46 => ?_)
      replace hT := hT h46 e_h46
      exact mm_vret rfl smd_S_perform_49 ⟨rfl, hT⟩
set_option maxHeartbeats 4000000 in
set_option maxRecDepth 100000 in
theorem smr_S_perform_50 {Γ : mm_Ctx} {post : mm_Mem → Prop} {h : mm_Mem} {t1 : Nat} (h_t1 : mm_isT t1) (x2 : Int32) (x3 : Int32) (hT : (vp_in x2 6) ∧ ((vp_in x2 6) ∧ (∀ h59 : mm_Mem, h59 = mm_wr h (t1 + 2) x2.toNatClampNeg ((h (t1 + 2) x2.toNatClampNeg) + (1 : Int32)) → ((vp_in x3 72) ∧ (∀ y4_69 : Int32, y4_69 = h59 4 x3.toNatClampNeg → ((vp_in x3 72) ∧ (∀ y5_80 : Int32, y5_80 = h59 5 x3.toNatClampNeg → ((vp_in x3 72) ∧ (∀ y6_91 : Int32, y6_91 = h59 6 x3.toNatClampNeg → ((vp_in x3 72) ∧ (((h59 3 x3.toNatClampNeg) = 0 → (mm_SI Γ smM_T_local [.ref (mm_B Γ + t1), .int y4_69] h59 (fun r168 h168 => mm_SV Γ smM_T_giveBack [.ref (mm_B Γ + t1), .int r168] h168 (fun h171 => post h171)))) ∧ ((h59 3 x3.toNatClampNeg) = 1 → (mm_SV Γ smM_T_setLocal [.ref (mm_B Γ + t1), .int y4_69, .int y5_80] h59 (fun h182 => post h182))) ∧ ((h59 3 x3.toNatClampNeg) = 2 → (mm_SI Γ smM_T_local [.ref (mm_B Γ + t1), .int y5_80] h59 (fun r194 h194 => mm_SI Γ smM_T_local [.ref (mm_B Γ + t1), .int y6_91] h194 (fun r200 h200 => mm_SV Γ smM_T_setLocal [.ref (mm_B Γ + t1), .int y4_69, .int (r194 + r200)] h200 (fun h204 => post h204))))) ∧ ((h59 3 x3.toNatClampNeg) = 3 → (mm_SI Γ smM_T_local [.ref (mm_B Γ + t1), .int y5_80] h59 (fun r216 h216 => mm_SI Γ smM_T_local [.ref (mm_B Γ + t1), .int y6_91] h216 (fun r222 h222 => mm_SV Γ smM_T_setLocal [.ref (mm_B Γ + t1), .int y4_69, .int (r216 - r222)] h222 (fun h226 => post h226))))) ∧ ((h59 3 x3.toNatClampNeg) = 4 → (mm_SI Γ smM_T_local [.ref (mm_B Γ + t1), .int y4_69] h59 (fun r240 h240 => (¬ r240 = 0 → ((vp_in x2 6) ∧ ((vp_in x2 6) ∧ (∀ h257 : mm_Mem, h257 = mm_wr h240 (t1 + 2) x2.toNatClampNeg (h240 (t1 + 2) x2.toNatClampNeg) → (post h257))))) ∧ (r240 = 0 → ((vp_in x2 6) ∧ (∀ h257 : mm_Mem, h257 = mm_wr h240 (t1 + 2) x2.toNatClampNeg y5_80 → (post h257))))))) ∧ ((h59 3 x3.toNatClampNeg) = 5 → (mm_SV Γ smM_S_call [.ref (mm_B Γ + t1), .int y4_69, .int y5_80, .int y6_91] h59 (fun h268 => post h268))) ∧ ((h59 3 x3.toNatClampNeg) = 6 → (mm_SV Γ smM_S_makeObject [.ref (mm_B Γ + 0), .ref (mm_B Γ + t1), .int y4_69, .int y5_80] h59 (fun h280 => post h280))) ∧ ((h59 3 x3.toNatClampNeg) = 7 → (mm_SV Γ smM_S_get [.ref (mm_B Γ + 0), .ref (mm_B Γ + t1), .int y4_69, .int y5_80, .int y6_91] h59 (fun h294 => post h294))) ∧ ((h59 3 x3.toNatClampNeg) = 8 → (mm_SV Γ smM_S_put [.ref (mm_B Γ + 0), .ref (mm_B Γ + t1), .int y4_69, .int y5_80, .int y6_91] h59 (fun h308 => post h308))) ∧ ((h59 3 x3.toNatClampNeg) = 9 → ((vp_in y5_80 4) ∧ (mm_SV Γ smM_T_setLocal [.ref (mm_B Γ + t1), .int y4_69, .int (h59 26 y5_80.toNatClampNeg)] h59 (fun h324 => post h324)))) ∧ ((h59 3 x3.toNatClampNeg) = 10 → (mm_SI Γ smM_T_local [.ref (mm_B Γ + t1), .int y4_69] h59 (fun r339 h339 => (vp_in y5_80 4) ∧ (∀ h342 : mm_Mem, h342 = mm_wr h339 26 y5_80.toNatClampNeg r339 → (post h342))))) ∧ ((h59 3 x3.toNatClampNeg) = 11 → (mm_SI Γ smM_T_takeOldest [.ref (mm_B Γ + t1)] h59 (fun r350 h350 => mm_SV Γ smM_T_setLocal [.ref (mm_B Γ + t1), .int y4_69, .int r350] h350 (fun h353 => post h353)))) ∧ (¬ (h59 3 x3.toNatClampNeg) = 0 → ¬ (h59 3 x3.toNatClampNeg) = 1 → ¬ (h59 3 x3.toNatClampNeg) = 2 → ¬ (h59 3 x3.toNatClampNeg) = 3 → ¬ (h59 3 x3.toNatClampNeg) = 4 → ¬ (h59 3 x3.toNatClampNeg) = 5 → ¬ (h59 3 x3.toNatClampNeg) = 6 → ¬ (h59 3 x3.toNatClampNeg) = 7 → ¬ (h59 3 x3.toNatClampNeg) = 8 → ¬ (h59 3 x3.toNatClampNeg) = 9 → ¬ (h59 3 x3.toNatClampNeg) = 10 → ¬ (h59 3 x3.toNatClampNeg) = 11 → (post h59))))))))))))) : mm_W Γ smM_S_perform (mm_pV post) 50 [some (.ref (mm_B Γ + 0)), some (.ref (mm_B Γ + t1)), some (.int x2), some (.int x3), none, none, none] [] h := by
  refine mm_aload_n (n := 51) (i := 1) smd_S_perform_50 rfl rfl rfl ?_
  refine mm_get (n := 54) (v := .ref (mm_B Γ + (t1 + 2))) smk_S_145 (smb_T h_t1) rfl smd_S_perform_51 rfl ?_
  refine mm_iload_n (n := 55) (i := 2) smd_S_perform_54 rfl rfl rfl ?_
  refine mm_dup2 (n := 56) smd_S_perform_55 rfl rfl rfl ?_
  refine mm_iald (n := 57) (sma_T2 h_t1) hT.1 smd_S_perform_56 rfl ?_
  replace hT := hT.2
  refine mm_iconst (n := 58) (v := 1) smd_S_perform_57 rfl (by decide) ?_
  refine mm_iadd (n := 59) smd_S_perform_58 rfl ?_
  refine mm_iast (n := 60) (sma_T2 h_t1) hT.1 smd_S_perform_59 rfl ?_
  replace hT := hT.2
  refine mm_nam (fun h59 e_h59 => ?_)
  replace hT := hT h59 e_h59
  refine mm_aload_n (n := 61) (i := 0) smd_S_perform_60 rfl rfl rfl ?_
  refine mm_get (n := 64) (v := .ref (mm_B Γ + 1)) smk_S_10 smb_S rfl smd_S_perform_61 rfl ?_
  refine mm_get (n := 67) (v := .ref (mm_B Γ + 4)) smk_S_191 (smb_V (Or.inl rfl)) rfl smd_S_perform_64 rfl ?_
  refine mm_iload_n (n := 68) (i := 3) smd_S_perform_67 rfl rfl rfl ?_
  refine mm_iald (n := 69) sma_4 hT.1 smd_S_perform_68 rfl ?_
  replace hT := hT.2
  refine mm_top (fun y4_69 e_y4_69 => ?_)
  replace hT := hT y4_69 e_y4_69
  refine mm_istore (n := 71) (i := 4) (L' := [some (.ref (mm_B Γ + 0)), some (.ref (mm_B Γ + t1)), some (.int x2), some (.int x3), some (.int y4_69), none, none]) smd_S_perform_69 rfl (by decide) rfl ?_
  refine mm_aload_n (n := 72) (i := 0) smd_S_perform_71 rfl rfl rfl ?_
  refine mm_get (n := 75) (v := .ref (mm_B Γ + 1)) smk_S_10 smb_S rfl smd_S_perform_72 rfl ?_
  refine mm_get (n := 78) (v := .ref (mm_B Γ + 5)) smk_S_212 (smb_V (Or.inl rfl)) rfl smd_S_perform_75 rfl ?_
  refine mm_iload_n (n := 79) (i := 3) smd_S_perform_78 rfl rfl rfl ?_
  refine mm_iald (n := 80) sma_5 hT.1 smd_S_perform_79 rfl ?_
  replace hT := hT.2
  refine mm_top (fun y5_80 e_y5_80 => ?_)
  replace hT := hT y5_80 e_y5_80
  refine mm_istore (n := 82) (i := 5) (L' := [some (.ref (mm_B Γ + 0)), some (.ref (mm_B Γ + t1)), some (.int x2), some (.int x3), some (.int y4_69), some (.int y5_80), none]) smd_S_perform_80 rfl (by decide) rfl ?_
  refine mm_aload_n (n := 83) (i := 0) smd_S_perform_82 rfl rfl rfl ?_
  refine mm_get (n := 86) (v := .ref (mm_B Γ + 1)) smk_S_10 smb_S rfl smd_S_perform_83 rfl ?_
  refine mm_get (n := 89) (v := .ref (mm_B Γ + 6)) smk_S_215 (smb_V (Or.inl rfl)) rfl smd_S_perform_86 rfl ?_
  refine mm_iload_n (n := 90) (i := 3) smd_S_perform_89 rfl rfl rfl ?_
  refine mm_iald (n := 91) sma_6 hT.1 smd_S_perform_90 rfl ?_
  replace hT := hT.2
  refine mm_top (fun y6_91 e_y6_91 => ?_)
  replace hT := hT y6_91 e_y6_91
  refine mm_istore (n := 93) (i := 6) (L' := [some (.ref (mm_B Γ + 0)), some (.ref (mm_B Γ + t1)), some (.int x2), some (.int x3), some (.int y4_69), some (.int y5_80), some (.int y6_91)]) smd_S_perform_91 rfl (by decide) rfl ?_
  refine mm_aload_n (n := 94) (i := 0) smd_S_perform_93 rfl rfl rfl ?_
  refine mm_get (n := 97) (v := .ref (mm_B Γ + 1)) smk_S_10 smb_S rfl smd_S_perform_94 rfl ?_
  refine mm_get (n := 100) (v := .ref (mm_B Γ + 3)) smk_S_188 (smb_V (Or.inl rfl)) rfl smd_S_perform_97 rfl ?_
  refine mm_iload_n (n := 101) (i := 3) smd_S_perform_100 rfl rfl rfl ?_
  refine mm_iald (n := 102) sma_3 hT.1 smd_S_perform_101 rfl ?_
  replace hT := hT.2
  by_cases e : (h59 3 x3.toNatClampNeg) = 0
  · refine mm_tIn (tgt := 164) smd_S_perform_102 0 e (by decide) (by decide) rfl rfl ?_
    replace hT := hT.1 (e)
    refine mm_aload_n (n := 165) (i := 1) smd_S_perform_164 rfl rfl rfl ?_
    refine mm_aload_n (n := 166) (i := 1) smd_S_perform_165 rfl rfl rfl ?_
    refine mm_iload (n := 168) (i := 4) smd_S_perform_166 rfl rfl ?_
    refine mm_callVI (n := 171) (As := [.int y4_69]) (rest := [.ref (mm_B Γ + t1)]) smv_T_local smw_423 (smb_T h_t1) (mm_hRm (by decide) (by decide)) smd_S_perform_168 rfl rfl (Nat.le_of_ble_eq_true rfl) hT (fun r168 h168 hT => ?_)
    refine mm_callVV (n := 174) (As := [.int r168]) (rest := []) smv_T_giveBack smw_427 (smb_T h_t1) (mm_hRm (by decide) (by decide)) smd_S_perform_171 rfl rfl (Nat.le_of_ble_eq_true rfl) hT (fun h171 hT => ?_)
    refine mm_goto (n := 359) smd_S_perform_174 rfl ?_
    exact mm_vret rfl smd_S_perform_359 ⟨rfl, hT⟩
  have n0 := e
  clear e
  by_cases e : (h59 3 x3.toNatClampNeg) = 1
  · refine mm_tIn (tgt := 177) smd_S_perform_102 1 e (by decide) (by decide) rfl rfl ?_
    replace hT := hT.2.1 (e)
    refine mm_aload_n (n := 178) (i := 1) smd_S_perform_177 rfl rfl rfl ?_
    refine mm_iload (n := 180) (i := 4) smd_S_perform_178 rfl rfl ?_
    refine mm_iload (n := 182) (i := 5) smd_S_perform_180 rfl rfl ?_
    refine mm_callVV (n := 185) (As := [.int y4_69, .int y5_80]) (rest := []) smv_T_setLocal smw_431 (smb_T h_t1) (mm_hRm (by decide) (by decide)) smd_S_perform_182 rfl rfl (Nat.le_of_ble_eq_true rfl) hT (fun h182 hT => ?_)
    refine mm_goto (n := 359) smd_S_perform_185 rfl ?_
    exact mm_vret rfl smd_S_perform_359 ⟨rfl, hT⟩
  have n1 := e
  clear e
  by_cases e : (h59 3 x3.toNatClampNeg) = 2
  · refine mm_tIn (tgt := 188) smd_S_perform_102 2 e (by decide) (by decide) rfl rfl ?_
    replace hT := hT.2.2.1 (e)
    refine mm_aload_n (n := 189) (i := 1) smd_S_perform_188 rfl rfl rfl ?_
    refine mm_iload (n := 191) (i := 4) smd_S_perform_189 rfl rfl ?_
    refine mm_aload_n (n := 192) (i := 1) smd_S_perform_191 rfl rfl rfl ?_
    refine mm_iload (n := 194) (i := 5) smd_S_perform_192 rfl rfl ?_
    refine mm_callVI (n := 197) (As := [.int y5_80]) (rest := [.int y4_69, .ref (mm_B Γ + t1)]) smv_T_local smw_423 (smb_T h_t1) (mm_hRm (by decide) (by decide)) smd_S_perform_194 rfl rfl (Nat.le_of_ble_eq_true rfl) hT (fun r194 h194 hT => ?_)
    refine mm_aload_n (n := 198) (i := 1) smd_S_perform_197 rfl rfl rfl ?_
    refine mm_iload (n := 200) (i := 6) smd_S_perform_198 rfl rfl ?_
    refine mm_callVI (n := 203) (As := [.int y6_91]) (rest := [.int r194, .int y4_69, .ref (mm_B Γ + t1)]) smv_T_local smw_423 (smb_T h_t1) (mm_hRm (by decide) (by decide)) smd_S_perform_200 rfl rfl (Nat.le_of_ble_eq_true rfl) hT (fun r200 h200 hT => ?_)
    refine mm_iadd (n := 204) smd_S_perform_203 rfl ?_
    refine mm_callVV (n := 207) (As := [.int y4_69, .int (r194 + r200)]) (rest := []) smv_T_setLocal smw_431 (smb_T h_t1) (mm_hRm (by decide) (by decide)) smd_S_perform_204 rfl rfl (Nat.le_of_ble_eq_true rfl) hT (fun h204 hT => ?_)
    refine mm_goto (n := 359) smd_S_perform_207 rfl ?_
    exact mm_vret rfl smd_S_perform_359 ⟨rfl, hT⟩
  have n2 := e
  clear e
  by_cases e : (h59 3 x3.toNatClampNeg) = 3
  · refine mm_tIn (tgt := 210) smd_S_perform_102 3 e (by decide) (by decide) rfl rfl ?_
    replace hT := hT.2.2.2.1 (e)
    refine mm_aload_n (n := 211) (i := 1) smd_S_perform_210 rfl rfl rfl ?_
    refine mm_iload (n := 213) (i := 4) smd_S_perform_211 rfl rfl ?_
    refine mm_aload_n (n := 214) (i := 1) smd_S_perform_213 rfl rfl rfl ?_
    refine mm_iload (n := 216) (i := 5) smd_S_perform_214 rfl rfl ?_
    refine mm_callVI (n := 219) (As := [.int y5_80]) (rest := [.int y4_69, .ref (mm_B Γ + t1)]) smv_T_local smw_423 (smb_T h_t1) (mm_hRm (by decide) (by decide)) smd_S_perform_216 rfl rfl (Nat.le_of_ble_eq_true rfl) hT (fun r216 h216 hT => ?_)
    refine mm_aload_n (n := 220) (i := 1) smd_S_perform_219 rfl rfl rfl ?_
    refine mm_iload (n := 222) (i := 6) smd_S_perform_220 rfl rfl ?_
    refine mm_callVI (n := 225) (As := [.int y6_91]) (rest := [.int r216, .int y4_69, .ref (mm_B Γ + t1)]) smv_T_local smw_423 (smb_T h_t1) (mm_hRm (by decide) (by decide)) smd_S_perform_222 rfl rfl (Nat.le_of_ble_eq_true rfl) hT (fun r222 h222 hT => ?_)
    refine mm_isub (n := 226) smd_S_perform_225 rfl ?_
    refine mm_callVV (n := 229) (As := [.int y4_69, .int (r216 - r222)]) (rest := []) smv_T_setLocal smw_431 (smb_T h_t1) (mm_hRm (by decide) (by decide)) smd_S_perform_226 rfl rfl (Nat.le_of_ble_eq_true rfl) hT (fun h226 hT => ?_)
    refine mm_goto (n := 359) smd_S_perform_229 rfl ?_
    exact mm_vret rfl smd_S_perform_359 ⟨rfl, hT⟩
  have n3 := e
  clear e
  by_cases e : (h59 3 x3.toNatClampNeg) = 4
  · refine mm_tIn (tgt := 232) smd_S_perform_102 4 e (by decide) (by decide) rfl rfl ?_
    replace hT := hT.2.2.2.2.1 (e)
    refine mm_aload_n (n := 233) (i := 1) smd_S_perform_232 rfl rfl rfl ?_
    refine mm_get (n := 236) (v := .ref (mm_B Γ + (t1 + 2))) smk_S_145 (smb_T h_t1) rfl smd_S_perform_233 rfl ?_
    refine mm_iload_n (n := 237) (i := 2) smd_S_perform_236 rfl rfl rfl ?_
    refine mm_aload_n (n := 238) (i := 1) smd_S_perform_237 rfl rfl rfl ?_
    refine mm_iload (n := 240) (i := 4) smd_S_perform_238 rfl rfl ?_
    refine mm_callVI (n := 243) (As := [.int y4_69]) (rest := [.int x2, .ref (mm_B Γ + (t1 + 2))]) smv_T_local smw_423 (smb_T h_t1) (mm_hRm (by decide) (by decide)) smd_S_perform_240 rfl rfl (Nat.le_of_ble_eq_true rfl) hT (fun r240 h240 hT => ?_)
    refine mm_if_ne (n := 246) (tgt := 251) smd_S_perform_243 rfl rfl (fun hc => ?_) (fun hc => ?_)
    · replace hT := hT.1 hc
      refine mm_aload_n (n := 252) (i := 1) smd_S_perform_251 rfl rfl rfl ?_
      refine mm_get (n := 255) (v := .ref (mm_B Γ + (t1 + 2))) smk_S_145 (smb_T h_t1) rfl smd_S_perform_252 rfl ?_
      refine mm_iload_n (n := 256) (i := 2) smd_S_perform_255 rfl rfl rfl ?_
      refine mm_iald (n := 257) (sma_T2 h_t1) hT.1 smd_S_perform_256 rfl ?_
      replace hT := hT.2
      refine mm_iast (n := 258) (sma_T2 h_t1) hT.1 smd_S_perform_257 rfl ?_
      replace hT := hT.2
      refine mm_nam (fun h257 e_h257 => ?_)
      replace hT := hT h257 e_h257
      refine mm_goto (n := 359) smd_S_perform_258 rfl ?_
      exact mm_vret rfl smd_S_perform_359 ⟨rfl, hT⟩
    · replace hT := hT.2 hc
      refine mm_iload (n := 248) (i := 5) smd_S_perform_246 rfl rfl ?_
      refine mm_goto (n := 257) smd_S_perform_248 rfl ?_
      refine mm_iast (n := 258) (sma_T2 h_t1) hT.1 smd_S_perform_257 rfl ?_
      replace hT := hT.2
      refine mm_nam (fun h257 e_h257 => ?_)
      replace hT := hT h257 e_h257
      refine mm_goto (n := 359) smd_S_perform_258 rfl ?_
      exact mm_vret rfl smd_S_perform_359 ⟨rfl, hT⟩
  have n4 := e
  clear e
  by_cases e : (h59 3 x3.toNatClampNeg) = 5
  · refine mm_tIn (tgt := 261) smd_S_perform_102 5 e (by decide) (by decide) rfl rfl ?_
    replace hT := hT.2.2.2.2.2.1 (e)
    refine mm_aload_n (n := 262) (i := 1) smd_S_perform_261 rfl rfl rfl ?_
    refine mm_iload (n := 264) (i := 4) smd_S_perform_262 rfl rfl ?_
    refine mm_iload (n := 266) (i := 5) smd_S_perform_264 rfl rfl ?_
    refine mm_iload (n := 268) (i := 6) smd_S_perform_266 rfl rfl ?_
    refine mm_callSV (n := 271) (As := [.ref (mm_B Γ + t1), .int y4_69, .int y5_80, .int y6_91]) (rest := []) smv_S_call smw_432 (mm_hRm (by decide) (by decide)) smd_S_perform_268 rfl rfl (Nat.le_of_ble_eq_true rfl) hT (fun h268 hT => ?_)
    refine mm_goto (n := 359) smd_S_perform_271 rfl ?_
    exact mm_vret rfl smd_S_perform_359 ⟨rfl, hT⟩
  have n5 := e
  clear e
  by_cases e : (h59 3 x3.toNatClampNeg) = 6
  · refine mm_tIn (tgt := 274) smd_S_perform_102 6 e (by decide) (by decide) rfl rfl ?_
    replace hT := hT.2.2.2.2.2.2.1 (e)
    refine mm_aload_n (n := 275) (i := 0) smd_S_perform_274 rfl rfl rfl ?_
    refine mm_aload_n (n := 276) (i := 1) smd_S_perform_275 rfl rfl rfl ?_
    refine mm_iload (n := 278) (i := 4) smd_S_perform_276 rfl rfl ?_
    refine mm_iload (n := 280) (i := 5) smd_S_perform_278 rfl rfl ?_
    refine mm_callVV (n := 283) (As := [.ref (mm_B Γ + t1), .int y4_69, .int y5_80]) (rest := []) smv_S_makeObject smw_439 smb_S (mm_hRm (by decide) (by decide)) smd_S_perform_280 rfl rfl (Nat.le_of_ble_eq_true rfl) hT (fun h280 hT => ?_)
    refine mm_goto (n := 359) smd_S_perform_283 rfl ?_
    exact mm_vret rfl smd_S_perform_359 ⟨rfl, hT⟩
  have n6 := e
  clear e
  by_cases e : (h59 3 x3.toNatClampNeg) = 7
  · refine mm_tIn (tgt := 286) smd_S_perform_102 7 e (by decide) (by decide) rfl rfl ?_
    replace hT := hT.2.2.2.2.2.2.2.1 (e)
    refine mm_aload_n (n := 287) (i := 0) smd_S_perform_286 rfl rfl rfl ?_
    refine mm_aload_n (n := 288) (i := 1) smd_S_perform_287 rfl rfl rfl ?_
    refine mm_iload (n := 290) (i := 4) smd_S_perform_288 rfl rfl ?_
    refine mm_iload (n := 292) (i := 5) smd_S_perform_290 rfl rfl ?_
    refine mm_iload (n := 294) (i := 6) smd_S_perform_292 rfl rfl ?_
    refine mm_callVV (n := 297) (As := [.ref (mm_B Γ + t1), .int y4_69, .int y5_80, .int y6_91]) (rest := []) smv_S_get smw_451 smb_S (mm_hRm (by decide) (by decide)) smd_S_perform_294 rfl rfl (Nat.le_of_ble_eq_true rfl) hT (fun h294 hT => ?_)
    refine mm_goto (n := 359) smd_S_perform_297 rfl ?_
    exact mm_vret rfl smd_S_perform_359 ⟨rfl, hT⟩
  have n7 := e
  clear e
  by_cases e : (h59 3 x3.toNatClampNeg) = 8
  · refine mm_tIn (tgt := 300) smd_S_perform_102 8 e (by decide) (by decide) rfl rfl ?_
    replace hT := hT.2.2.2.2.2.2.2.2.1 (e)
    refine mm_aload_n (n := 301) (i := 0) smd_S_perform_300 rfl rfl rfl ?_
    refine mm_aload_n (n := 302) (i := 1) smd_S_perform_301 rfl rfl rfl ?_
    refine mm_iload (n := 304) (i := 4) smd_S_perform_302 rfl rfl ?_
    refine mm_iload (n := 306) (i := 5) smd_S_perform_304 rfl rfl ?_
    refine mm_iload (n := 308) (i := 6) smd_S_perform_306 rfl rfl ?_
    refine mm_callVV (n := 311) (As := [.ref (mm_B Γ + t1), .int y4_69, .int y5_80, .int y6_91]) (rest := []) smv_S_put smw_459 smb_S (mm_hRm (by decide) (by decide)) smd_S_perform_308 rfl rfl (Nat.le_of_ble_eq_true rfl) hT (fun h308 hT => ?_)
    refine mm_goto (n := 359) smd_S_perform_311 rfl ?_
    exact mm_vret rfl smd_S_perform_359 ⟨rfl, hT⟩
  have n8 := e
  clear e
  by_cases e : (h59 3 x3.toNatClampNeg) = 9
  · refine mm_tIn (tgt := 314) smd_S_perform_102 9 e (by decide) (by decide) rfl rfl ?_
    replace hT := hT.2.2.2.2.2.2.2.2.2.1 (e)
    refine mm_aload_n (n := 315) (i := 1) smd_S_perform_314 rfl rfl rfl ?_
    refine mm_iload (n := 317) (i := 4) smd_S_perform_315 rfl rfl ?_
    refine mm_aload_n (n := 318) (i := 0) smd_S_perform_317 rfl rfl rfl ?_
    refine mm_get (n := 321) (v := .ref (mm_B Γ + 26)) smk_S_33 smb_S rfl smd_S_perform_318 rfl ?_
    refine mm_iload (n := 323) (i := 5) smd_S_perform_321 rfl rfl ?_
    refine mm_iald (n := 324) sma_26 hT.1 smd_S_perform_323 rfl ?_
    replace hT := hT.2
    refine mm_callVV (n := 327) (As := [.int y4_69, .int (h59 26 y5_80.toNatClampNeg)]) (rest := []) smv_T_setLocal smw_431 (smb_T h_t1) (mm_hRm (by decide) (by decide)) smd_S_perform_324 rfl rfl (Nat.le_of_ble_eq_true rfl) hT (fun h324 hT => ?_)
    refine mm_goto (n := 359) smd_S_perform_327 rfl ?_
    exact mm_vret rfl smd_S_perform_359 ⟨rfl, hT⟩
  have n9 := e
  clear e
  by_cases e : (h59 3 x3.toNatClampNeg) = 10
  · refine mm_tIn (tgt := 330) smd_S_perform_102 10 e (by decide) (by decide) rfl rfl ?_
    replace hT := hT.2.2.2.2.2.2.2.2.2.2.1 (e)
    refine mm_aload_n (n := 331) (i := 0) smd_S_perform_330 rfl rfl rfl ?_
    refine mm_get (n := 334) (v := .ref (mm_B Γ + 26)) smk_S_33 smb_S rfl smd_S_perform_331 rfl ?_
    refine mm_iload (n := 336) (i := 5) smd_S_perform_334 rfl rfl ?_
    refine mm_aload_n (n := 337) (i := 1) smd_S_perform_336 rfl rfl rfl ?_
    refine mm_iload (n := 339) (i := 4) smd_S_perform_337 rfl rfl ?_
    refine mm_callVI (n := 342) (As := [.int y4_69]) (rest := [.int y5_80, .ref (mm_B Γ + 26)]) smv_T_local smw_423 (smb_T h_t1) (mm_hRm (by decide) (by decide)) smd_S_perform_339 rfl rfl (Nat.le_of_ble_eq_true rfl) hT (fun r339 h339 hT => ?_)
    refine mm_iast (n := 343) sma_26 hT.1 smd_S_perform_342 rfl ?_
    replace hT := hT.2
    refine mm_nam (fun h342 e_h342 => ?_)
    replace hT := hT h342 e_h342
    refine mm_goto (n := 359) smd_S_perform_343 rfl ?_
    exact mm_vret rfl smd_S_perform_359 ⟨rfl, hT⟩
  have n10 := e
  clear e
  by_cases e : (h59 3 x3.toNatClampNeg) = 11
  · refine mm_tIn (tgt := 346) smd_S_perform_102 11 e (by decide) (by decide) rfl rfl ?_
    replace hT := hT.2.2.2.2.2.2.2.2.2.2.2.1 (e)
    refine mm_aload_n (n := 347) (i := 1) smd_S_perform_346 rfl rfl rfl ?_
    refine mm_iload (n := 349) (i := 4) smd_S_perform_347 rfl rfl ?_
    refine mm_aload_n (n := 350) (i := 1) smd_S_perform_349 rfl rfl rfl ?_
    refine mm_callVI (n := 353) (As := []) (rest := [.int y4_69, .ref (mm_B Γ + t1)]) smv_T_takeOldest smw_463 (smb_T h_t1) (mm_hRm (by decide) (by decide)) smd_S_perform_350 rfl rfl (Nat.le_of_ble_eq_true rfl) hT (fun r350 h350 hT => ?_)
    refine mm_callVV (n := 356) (As := [.int y4_69, .int r350]) (rest := []) smv_T_setLocal smw_431 (smb_T h_t1) (mm_hRm (by decide) (by decide)) smd_S_perform_353 rfl rfl (Nat.le_of_ble_eq_true rfl) hT (fun h353 hT => ?_)
    refine mm_goto (n := 359) smd_S_perform_356 rfl ?_
    exact mm_vret rfl smd_S_perform_359 ⟨rfl, hT⟩
  have n11 := e
  clear e
  refine mm_tOut (tgt := 359) smd_S_perform_102 (by have m0 := lv_neT n0 (show (0 : Int32).toInt = 0 by decide); have m1 := lv_neT n1 (show (1 : Int32).toInt = 1 by decide); have m2 := lv_neT n2 (show (2 : Int32).toInt = 2 by decide); have m3 := lv_neT n3 (show (3 : Int32).toInt = 3 by decide); have m4 := lv_neT n4 (show (4 : Int32).toInt = 4 by decide); have m5 := lv_neT n5 (show (5 : Int32).toInt = 5 by decide); have m6 := lv_neT n6 (show (6 : Int32).toInt = 6 by decide); have m7 := lv_neT n7 (show (7 : Int32).toInt = 7 by decide); have m8 := lv_neT n8 (show (8 : Int32).toInt = 8 by decide); have m9 := lv_neT n9 (show (9 : Int32).toInt = 9 by decide); have m10 := lv_neT n10 (show (10 : Int32).toInt = 10 by decide); have m11 := lv_neT n11 (show (11 : Int32).toInt = 11 by decide); omega) rfl ?_
  replace hT := hT.2.2.2.2.2.2.2.2.2.2.2.2 n0 n1 n2 n3 n4 n5 n6 n7 n8 n9 n10 n11
  exact mm_vret rfl smd_S_perform_359 ⟨rfl, hT⟩
set_option maxHeartbeats 4000000 in
set_option maxRecDepth 100000 in
theorem smr_S_call {Γ : mm_Ctx} {post : mm_Mem → Prop} {h : mm_Mem} {t0 : Nat} (h_t0 : mm_isT t0) (x1 : Int32) (x2 : Int32) (x3 : Int32) (hT : ((h t0 5) < (6 : Int32) → (mm_SI Γ smM_T_local [.ref (mm_B Γ + t0), .int x3] h (fun r20 h20 => mm_SV Γ smM_T_push [.ref (mm_B Γ + t0), .int x2, .int r20, .int x1] h20 (fun h24 => post h24)))) ∧ (¬ (h t0 5) < (6 : Int32) → (mm_SV Γ smM_T_fail [.ref (mm_B Γ + t0)] h (fun h10 => post h10)))) : mm_SV Γ smM_S_call [.ref (mm_B Γ + t0), .int x1, .int x2, .int x3] h post := by
  refine mm_spec0 (M := smM_S_call) 0 (by decide +kernel) rfl (Nat.le_of_ble_eq_true rfl) ?_
  show mm_W Γ smM_S_call (mm_pV post) 0 [some (.ref (mm_B Γ + t0)), some (.int x1), some (.int x2), some (.int x3)] [] h
  refine mm_aload_n (n := 1) (i := 0) smd_S_call_0 rfl rfl rfl ?_
  refine mm_get (n := 4) (v := .int (h t0 5)) smk_S_139 (smb_T h_t0) rfl smd_S_call_1 rfl ?_
  refine mm_bipush (n := 6) (v := 6) smd_S_call_4 rfl (by decide) ?_
  refine mm_icmp_lt (n := 9) (tgt := 16) smd_S_call_6 rfl rfl (fun hc => ?_) (fun hc => ?_)
  · replace hT := hT.1 hc
    refine mm_aload_n (n := 17) (i := 0) smd_S_call_16 rfl rfl rfl ?_
    refine mm_iload_n (n := 18) (i := 2) smd_S_call_17 rfl rfl rfl ?_
    refine mm_aload_n (n := 19) (i := 0) smd_S_call_18 rfl rfl rfl ?_
    refine mm_iload_n (n := 20) (i := 3) smd_S_call_19 rfl rfl rfl ?_
    refine mm_callVI (n := 23) (As := [.int x3]) (rest := [.int x2, .ref (mm_B Γ + t0)]) smv_T_local smw_423 (smb_T h_t0) (mm_hRm (by decide) (by decide)) smd_S_call_20 rfl rfl (Nat.le_of_ble_eq_true rfl) hT (fun r20 h20 hT => ?_)
    refine mm_iload_n (n := 24) (i := 1) smd_S_call_23 rfl rfl rfl ?_
    refine mm_callVV (n := 27) (As := [.int x2, .int r20, .int x1]) (rest := []) smv_T_push smw_403 (smb_T h_t0) (mm_hRm (by decide) (by decide)) smd_S_call_24 rfl rfl (Nat.le_of_ble_eq_true rfl) hT (fun h24 hT => ?_)
    exact mm_vret rfl smd_S_call_27 ⟨rfl, hT⟩
  · replace hT := hT.2 hc
    refine mm_aload_n (n := 10) (i := 0) smd_S_call_9 rfl rfl rfl ?_
    refine mm_callVV (n := 13) (As := []) (rest := []) smv_T_fail smw_435 (smb_T h_t0) (mm_hRm (by decide) (by decide)) smd_S_call_10 rfl rfl (Nat.le_of_ble_eq_true rfl) hT (fun h10 hT => ?_)
    refine mm_goto (n := 27) smd_S_call_13 rfl ?_
    exact mm_vret rfl smd_S_call_27 ⟨rfl, hT⟩
set_option maxHeartbeats 4000000 in
set_option maxRecDepth 100000 in
theorem smr_S_makeObject {Γ : mm_Ctx} {post : mm_Mem → Prop} {h : mm_Mem} {t1 : Nat} (h_t1 : mm_isT t1) (x2 : Int32) (x3 : Int32) (hT : mm_SI Γ smM_H_leastFree [.ref (mm_B Γ + 20)] h (fun r4 h4 => (¬ r4 = (-1 : Int32) → (mm_W Γ smM_S_makeObject (mm_pV post) 16 [some (.ref (mm_B Γ + 0)), some (.ref (mm_B Γ + t1)), some (.int x2), some (.int x3), none] [] h4)) ∧ (r4 = (-1 : Int32) → (mm_SI Γ smM_S_dropUnreachable [.ref (mm_B Γ + 0)] h4 (fun r12 h12 => mm_W Γ smM_S_makeObject (mm_pV post) 16 [some (.ref (mm_B Γ + 0)), some (.ref (mm_B Γ + t1)), some (.int x2), some (.int x3), none] [] h12))))) : mm_SV Γ smM_S_makeObject [.ref (mm_B Γ + 0), .ref (mm_B Γ + t1), .int x2, .int x3] h post := by
  refine mm_spec0 (M := smM_S_makeObject) 1 (by decide +kernel) rfl (Nat.le_of_ble_eq_true rfl) ?_
  show mm_W Γ smM_S_makeObject (mm_pV post) 0 [some (.ref (mm_B Γ + 0)), some (.ref (mm_B Γ + t1)), some (.int x2), some (.int x3), none] [] h
  refine mm_aload_n (n := 1) (i := 0) smd_S_makeObject_0 rfl rfl rfl ?_
  refine mm_get (n := 4) (v := .ref (mm_B Γ + 20)) smk_S_29 smb_S rfl smd_S_makeObject_1 rfl ?_
  refine mm_callVI (n := 7) (As := []) (rest := []) smv_H_leastFree smw_443 smb_H (mm_hRm (by decide) (by decide)) smd_S_makeObject_4 rfl rfl (Nat.le_of_ble_eq_true rfl) hT (fun r4 h4 hT => ?_)
  refine mm_iconst (n := 8) (v := -1) smd_S_makeObject_7 rfl (by decide) ?_
  refine mm_icmp_ne (n := 11) (tgt := 16) smd_S_makeObject_8 rfl rfl (fun hc => ?_) (fun hc => ?_)
  · replace hT := hT.1 hc
    exact mm_weak (by refine ⟨rfl, rfl, rfl, rfl, trivial⟩) hT
  · replace hT := hT.2 hc
    refine mm_aload_n (n := 12) (i := 0) smd_S_makeObject_11 rfl rfl rfl ?_
    refine mm_callVI (n := 15) (As := []) (rest := []) smv_S_dropUnreachable smw_344 smb_S (mm_hRm (by decide) (by decide)) smd_S_makeObject_12 rfl rfl (Nat.le_of_ble_eq_true rfl) hT (fun r12 h12 hT => ?_)
    refine mm_pop (n := 16) smd_S_makeObject_15 rfl rfl ?_
    exact mm_weak (by refine ⟨rfl, rfl, rfl, rfl, trivial⟩) hT
set_option maxHeartbeats 4000000 in
set_option maxRecDepth 100000 in
theorem smr_S_makeObject_16 {Γ : mm_Ctx} {post : mm_Mem → Prop} {h : mm_Mem} {t1 : Nat} (h_t1 : mm_isT t1) (x2 : Int32) (x3 : Int32) (hT : mm_SI Γ smM_H_leastFree [.ref (mm_B Γ + 20)] h (fun r20 h20 => (¬ r20 = (-1 : Int32) → (mm_SV Γ smM_H_begin [.ref (mm_B Γ + 20), .int r20, .int x3] h20 (fun h45 => mm_SV Γ smM_T_setLocal [.ref (mm_B Γ + t1), .int x2, .int r20] h45 (fun h52 => post h52)))) ∧ (r20 = (-1 : Int32) → (mm_SV Γ smM_T_fail [.ref (mm_B Γ + t1)] h20 (fun h32 => post h32))))) : mm_W Γ smM_S_makeObject (mm_pV post) 16 [some (.ref (mm_B Γ + 0)), some (.ref (mm_B Γ + t1)), some (.int x2), some (.int x3), none] [] h := by
  refine mm_aload_n (n := 17) (i := 0) smd_S_makeObject_16 rfl rfl rfl ?_
  refine mm_get (n := 20) (v := .ref (mm_B Γ + 20)) smk_S_29 smb_S rfl smd_S_makeObject_17 rfl ?_
  refine mm_callVI (n := 23) (As := []) (rest := []) smv_H_leastFree smw_443 smb_H (mm_hRm (by decide) (by decide)) smd_S_makeObject_20 rfl rfl (Nat.le_of_ble_eq_true rfl) hT (fun r20 h20 hT => ?_)
  refine mm_istore (n := 25) (i := 4) (L' := [some (.ref (mm_B Γ + 0)), some (.ref (mm_B Γ + t1)), some (.int x2), some (.int x3), some (.int r20)]) smd_S_makeObject_23 rfl (by decide) rfl ?_
  refine mm_iload (n := 27) (i := 4) smd_S_makeObject_25 rfl rfl ?_
  refine mm_iconst (n := 28) (v := -1) smd_S_makeObject_27 rfl (by decide) ?_
  refine mm_icmp_ne (n := 31) (tgt := 38) smd_S_makeObject_28 rfl rfl (fun hc => ?_) (fun hc => ?_)
  · replace hT := hT.1 hc
    refine mm_aload_n (n := 39) (i := 0) smd_S_makeObject_38 rfl rfl rfl ?_
    refine mm_get (n := 42) (v := .ref (mm_B Γ + 20)) smk_S_29 smb_S rfl smd_S_makeObject_39 rfl ?_
    refine mm_iload (n := 44) (i := 4) smd_S_makeObject_42 rfl rfl ?_
    refine mm_iload_n (n := 45) (i := 3) smd_S_makeObject_44 rfl rfl rfl ?_
    refine mm_callVV (n := 48) (As := [.int r20, .int x3]) (rest := []) smv_H_begin smw_447 smb_H (mm_hRm (by decide) (by decide)) smd_S_makeObject_45 rfl rfl (Nat.le_of_ble_eq_true rfl) hT (fun h45 hT => ?_)
    refine mm_aload_n (n := 49) (i := 1) smd_S_makeObject_48 rfl rfl rfl ?_
    refine mm_iload_n (n := 50) (i := 2) smd_S_makeObject_49 rfl rfl rfl ?_
    refine mm_iload (n := 52) (i := 4) smd_S_makeObject_50 rfl rfl ?_
    refine mm_callVV (n := 55) (As := [.int x2, .int r20]) (rest := []) smv_T_setLocal smw_431 (smb_T h_t1) (mm_hRm (by decide) (by decide)) smd_S_makeObject_52 rfl rfl (Nat.le_of_ble_eq_true rfl) hT (fun h52 hT => ?_)
    exact mm_vret rfl smd_S_makeObject_55 ⟨rfl, hT⟩
  · replace hT := hT.2 hc
    refine mm_aload_n (n := 32) (i := 1) smd_S_makeObject_31 rfl rfl rfl ?_
    refine mm_callVV (n := 35) (As := []) (rest := []) smv_T_fail smw_435 (smb_T h_t1) (mm_hRm (by decide) (by decide)) smd_S_makeObject_32 rfl rfl (Nat.le_of_ble_eq_true rfl) hT (fun h32 hT => ?_)
    refine mm_goto (n := 55) smd_S_makeObject_35 rfl ?_
    exact mm_vret rfl smd_S_makeObject_55 ⟨rfl, hT⟩
set_option maxHeartbeats 4000000 in
set_option maxRecDepth 100000 in
theorem smr_S_get {Γ : mm_Ctx} {post : mm_Mem → Prop} {h : mm_Mem} {t1 : Nat} (h_t1 : mm_isT t1) (x2 : Int32) (x3 : Int32) (x4 : Int32) (hT : mm_SI Γ smM_T_local [.ref (mm_B Γ + t1), .int x3] h (fun r6 h6 => mm_SI Γ smM_H_cellOf [.ref (mm_B Γ + 20), .int r6, .int x4] h6 (fun r11 h11 => (¬ r11 = (-1 : Int32) → ((vp_in r11 68) ∧ (mm_SV Γ smM_T_setLocal [.ref (mm_B Γ + t1), .int x2, .int (h11 22 r11.toNatClampNeg)] h11 (fun h41 => post h41)))) ∧ (r11 = (-1 : Int32) → (mm_SV Γ smM_T_fail [.ref (mm_B Γ + t1)] h11 (fun h23 => post h23)))))) : mm_SV Γ smM_S_get [.ref (mm_B Γ + 0), .ref (mm_B Γ + t1), .int x2, .int x3, .int x4] h post := by
  refine mm_spec0 (M := smM_S_get) 1 (by decide +kernel) rfl (Nat.le_of_ble_eq_true rfl) ?_
  show mm_W Γ smM_S_get (mm_pV post) 0 [some (.ref (mm_B Γ + 0)), some (.ref (mm_B Γ + t1)), some (.int x2), some (.int x3), some (.int x4), none] [] h
  refine mm_aload_n (n := 1) (i := 0) smd_S_get_0 rfl rfl rfl ?_
  refine mm_get (n := 4) (v := .ref (mm_B Γ + 20)) smk_S_29 smb_S rfl smd_S_get_1 rfl ?_
  refine mm_aload_n (n := 5) (i := 1) smd_S_get_4 rfl rfl rfl ?_
  refine mm_iload_n (n := 6) (i := 3) smd_S_get_5 rfl rfl rfl ?_
  refine mm_callVI (n := 9) (As := [.int x3]) (rest := [.ref (mm_B Γ + 20)]) smv_T_local smw_423 (smb_T h_t1) (mm_hRm (by decide) (by decide)) smd_S_get_6 rfl rfl (Nat.le_of_ble_eq_true rfl) hT (fun r6 h6 hT => ?_)
  refine mm_iload (n := 11) (i := 4) smd_S_get_9 rfl rfl ?_
  refine mm_callVI (n := 14) (As := [.int r6, .int x4]) (rest := []) smv_H_cellOf smw_455 smb_H (mm_hRm (by decide) (by decide)) smd_S_get_11 rfl rfl (Nat.le_of_ble_eq_true rfl) hT (fun r11 h11 hT => ?_)
  refine mm_istore (n := 16) (i := 5) (L' := [some (.ref (mm_B Γ + 0)), some (.ref (mm_B Γ + t1)), some (.int x2), some (.int x3), some (.int x4), some (.int r11)]) smd_S_get_14 rfl (by decide) rfl ?_
  refine mm_iload (n := 18) (i := 5) smd_S_get_16 rfl rfl ?_
  refine mm_iconst (n := 19) (v := -1) smd_S_get_18 rfl (by decide) ?_
  refine mm_icmp_ne (n := 22) (tgt := 29) smd_S_get_19 rfl rfl (fun hc => ?_) (fun hc => ?_)
  · replace hT := hT.1 hc
    refine mm_aload_n (n := 30) (i := 1) smd_S_get_29 rfl rfl rfl ?_
    refine mm_iload_n (n := 31) (i := 2) smd_S_get_30 rfl rfl rfl ?_
    refine mm_aload_n (n := 32) (i := 0) smd_S_get_31 rfl rfl rfl ?_
    refine mm_get (n := 35) (v := .ref (mm_B Γ + 20)) smk_S_29 smb_S rfl smd_S_get_32 rfl ?_
    refine mm_get (n := 38) (v := .ref (mm_B Γ + 22)) smk_S_157 smb_H rfl smd_S_get_35 rfl ?_
    refine mm_iload (n := 40) (i := 5) smd_S_get_38 rfl rfl ?_
    refine mm_iald (n := 41) sma_22 hT.1 smd_S_get_40 rfl ?_
    replace hT := hT.2
    refine mm_callVV (n := 44) (As := [.int x2, .int (h11 22 r11.toNatClampNeg)]) (rest := []) smv_T_setLocal smw_431 (smb_T h_t1) (mm_hRm (by decide) (by decide)) smd_S_get_41 rfl rfl (Nat.le_of_ble_eq_true rfl) hT (fun h41 hT => ?_)
    exact mm_vret rfl smd_S_get_44 ⟨rfl, hT⟩
  · replace hT := hT.2 hc
    refine mm_aload_n (n := 23) (i := 1) smd_S_get_22 rfl rfl rfl ?_
    refine mm_callVV (n := 26) (As := []) (rest := []) smv_T_fail smw_435 (smb_T h_t1) (mm_hRm (by decide) (by decide)) smd_S_get_23 rfl rfl (Nat.le_of_ble_eq_true rfl) hT (fun h23 hT => ?_)
    refine mm_goto (n := 44) smd_S_get_26 rfl ?_
    exact mm_vret rfl smd_S_get_44 ⟨rfl, hT⟩
set_option maxHeartbeats 4000000 in
set_option maxRecDepth 100000 in
theorem smr_S_put {Γ : mm_Ctx} {post : mm_Mem → Prop} {h : mm_Mem} {t1 : Nat} (h_t1 : mm_isT t1) (x2 : Int32) (x3 : Int32) (x4 : Int32) (hT : mm_SI Γ smM_T_local [.ref (mm_B Γ + t1), .int x2] h (fun r6 h6 => mm_SI Γ smM_H_cellOf [.ref (mm_B Γ + 20), .int r6, .int x4] h6 (fun r11 h11 => (¬ r11 = (-1 : Int32) → (mm_SI Γ smM_T_local [.ref (mm_B Γ + t1), .int x3] h11 (fun r40 h40 => (vp_in r11 68) ∧ (∀ h43 : mm_Mem, h43 = mm_wr h40 22 r11.toNatClampNeg r40 → (post h43))))) ∧ (r11 = (-1 : Int32) → (mm_SV Γ smM_T_fail [.ref (mm_B Γ + t1)] h11 (fun h23 => post h23)))))) : mm_SV Γ smM_S_put [.ref (mm_B Γ + 0), .ref (mm_B Γ + t1), .int x2, .int x3, .int x4] h post := by
  refine mm_spec0 (M := smM_S_put) 1 (by decide +kernel) rfl (Nat.le_of_ble_eq_true rfl) ?_
  show mm_W Γ smM_S_put (mm_pV post) 0 [some (.ref (mm_B Γ + 0)), some (.ref (mm_B Γ + t1)), some (.int x2), some (.int x3), some (.int x4), none] [] h
  refine mm_aload_n (n := 1) (i := 0) smd_S_put_0 rfl rfl rfl ?_
  refine mm_get (n := 4) (v := .ref (mm_B Γ + 20)) smk_S_29 smb_S rfl smd_S_put_1 rfl ?_
  refine mm_aload_n (n := 5) (i := 1) smd_S_put_4 rfl rfl rfl ?_
  refine mm_iload_n (n := 6) (i := 2) smd_S_put_5 rfl rfl rfl ?_
  refine mm_callVI (n := 9) (As := [.int x2]) (rest := [.ref (mm_B Γ + 20)]) smv_T_local smw_423 (smb_T h_t1) (mm_hRm (by decide) (by decide)) smd_S_put_6 rfl rfl (Nat.le_of_ble_eq_true rfl) hT (fun r6 h6 hT => ?_)
  refine mm_iload (n := 11) (i := 4) smd_S_put_9 rfl rfl ?_
  refine mm_callVI (n := 14) (As := [.int r6, .int x4]) (rest := []) smv_H_cellOf smw_455 smb_H (mm_hRm (by decide) (by decide)) smd_S_put_11 rfl rfl (Nat.le_of_ble_eq_true rfl) hT (fun r11 h11 hT => ?_)
  refine mm_istore (n := 16) (i := 5) (L' := [some (.ref (mm_B Γ + 0)), some (.ref (mm_B Γ + t1)), some (.int x2), some (.int x3), some (.int x4), some (.int r11)]) smd_S_put_14 rfl (by decide) rfl ?_
  refine mm_iload (n := 18) (i := 5) smd_S_put_16 rfl rfl ?_
  refine mm_iconst (n := 19) (v := -1) smd_S_put_18 rfl (by decide) ?_
  refine mm_icmp_ne (n := 22) (tgt := 29) smd_S_put_19 rfl rfl (fun hc => ?_) (fun hc => ?_)
  · replace hT := hT.1 hc
    refine mm_aload_n (n := 30) (i := 0) smd_S_put_29 rfl rfl rfl ?_
    refine mm_get (n := 33) (v := .ref (mm_B Γ + 20)) smk_S_29 smb_S rfl smd_S_put_30 rfl ?_
    refine mm_get (n := 36) (v := .ref (mm_B Γ + 22)) smk_S_157 smb_H rfl smd_S_put_33 rfl ?_
    refine mm_iload (n := 38) (i := 5) smd_S_put_36 rfl rfl ?_
    refine mm_aload_n (n := 39) (i := 1) smd_S_put_38 rfl rfl rfl ?_
    refine mm_iload_n (n := 40) (i := 3) smd_S_put_39 rfl rfl rfl ?_
    refine mm_callVI (n := 43) (As := [.int x3]) (rest := [.int r11, .ref (mm_B Γ + 22)]) smv_T_local smw_423 (smb_T h_t1) (mm_hRm (by decide) (by decide)) smd_S_put_40 rfl rfl (Nat.le_of_ble_eq_true rfl) hT (fun r40 h40 hT => ?_)
    refine mm_iast (n := 44) sma_22 hT.1 smd_S_put_43 rfl ?_
    replace hT := hT.2
    refine mm_nam (fun h43 e_h43 => ?_)
    replace hT := hT h43 e_h43
    exact mm_vret rfl smd_S_put_44 ⟨rfl, hT⟩
  · replace hT := hT.2 hc
    refine mm_aload_n (n := 23) (i := 1) smd_S_put_22 rfl rfl rfl ?_
    refine mm_callVV (n := 26) (As := []) (rest := []) smv_T_fail smw_435 (smb_T h_t1) (mm_hRm (by decide) (by decide)) smd_S_put_23 rfl rfl (Nat.le_of_ble_eq_true rfl) hT (fun h23 hT => ?_)
    refine mm_goto (n := 44) smd_S_put_26 rfl ?_
    exact mm_vret rfl smd_S_put_44 ⟨rfl, hT⟩
