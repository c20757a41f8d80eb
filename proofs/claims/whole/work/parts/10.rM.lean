set_option maxHeartbeats 4000000 in
set_option maxRecDepth 100000 in
theorem smr_M_isProcedure {Γ : mm_Ctx} {post : Int32 → mm_Mem → Prop} {h : mm_Mem} (x0 : Int32) (hT : (x0 < 0 → (post (0 : Int32) h)) ∧ (¬ x0 < 0 → (((6 : Int32) ≤ x0 → (post (0 : Int32) h)) ∧ (¬ (6 : Int32) ≤ x0 → (post (1 : Int32) h))))) : mm_SI Γ smM_M_isProcedure [.int x0] h post := by
  refine mm_spec0 (M := smM_M_isProcedure) 0 (by decide +kernel) rfl (Nat.le_of_ble_eq_true rfl) ?_
  show mm_W Γ smM_M_isProcedure (mm_pI post) 0 [some (.int x0)] [] h
  refine mm_iload_n (n := 1) (i := 0) smd_M_isProcedure_0 rfl rfl rfl ?_
  refine mm_if_lt (n := 4) (tgt := 14) smd_M_isProcedure_1 rfl rfl (fun hc => ?_) (fun hc => ?_)
  · replace hT := hT.1 hc
    refine mm_iconst (n := 15) (v := 0) smd_M_isProcedure_14 rfl (by decide) ?_
    exact mm_zret rfl (Or.inl rfl) smd_M_isProcedure_15 ⟨_, rfl, hT⟩
  · replace hT := hT.2 hc
    refine mm_iload_n (n := 5) (i := 0) smd_M_isProcedure_4 rfl rfl rfl ?_
    refine mm_bipush (n := 7) (v := 6) smd_M_isProcedure_5 rfl (by decide) ?_
    refine mm_icmp_ge (n := 10) (tgt := 14) smd_M_isProcedure_7 rfl rfl (fun hc => ?_) (fun hc => ?_)
    · replace hT := hT.1 hc
      refine mm_iconst (n := 15) (v := 0) smd_M_isProcedure_14 rfl (by decide) ?_
      exact mm_zret rfl (Or.inl rfl) smd_M_isProcedure_15 ⟨_, rfl, hT⟩
    · replace hT := hT.2 hc
      refine mm_iconst (n := 11) (v := 1) smd_M_isProcedure_10 rfl (by decide) ?_
      refine mm_goto (n := 15) smd_M_isProcedure_11 rfl ?_
      exact mm_zret rfl (Or.inr rfl) smd_M_isProcedure_15 ⟨_, rfl, hT⟩
set_option maxHeartbeats 4000000 in
set_option maxRecDepth 100000 in
theorem smr_M_isType {Γ : mm_Ctx} {post : Int32 → mm_Mem → Prop} {h : mm_Mem} (x0 : Int32) (hT : (x0 < 0 → (post (0 : Int32) h)) ∧ (¬ x0 < 0 → (((3 : Int32) ≤ x0 → (post (0 : Int32) h)) ∧ (¬ (3 : Int32) ≤ x0 → (post (1 : Int32) h))))) : mm_SI Γ smM_M_isType [.int x0] h post := by
  refine mm_spec0 (M := smM_M_isType) 0 (by decide +kernel) rfl (Nat.le_of_ble_eq_true rfl) ?_
  show mm_W Γ smM_M_isType (mm_pI post) 0 [some (.int x0)] [] h
  refine mm_iload_n (n := 1) (i := 0) smd_M_isType_0 rfl rfl rfl ?_
  refine mm_if_lt (n := 4) (tgt := 13) smd_M_isType_1 rfl rfl (fun hc => ?_) (fun hc => ?_)
  · replace hT := hT.1 hc
    refine mm_iconst (n := 14) (v := 0) smd_M_isType_13 rfl (by decide) ?_
    exact mm_zret rfl (Or.inl rfl) smd_M_isType_14 ⟨_, rfl, hT⟩
  · replace hT := hT.2 hc
    refine mm_iload_n (n := 5) (i := 0) smd_M_isType_4 rfl rfl rfl ?_
    refine mm_iconst (n := 6) (v := 3) smd_M_isType_5 rfl (by decide) ?_
    refine mm_icmp_ge (n := 9) (tgt := 13) smd_M_isType_6 rfl rfl (fun hc => ?_) (fun hc => ?_)
    · replace hT := hT.1 hc
      refine mm_iconst (n := 14) (v := 0) smd_M_isType_13 rfl (by decide) ?_
      exact mm_zret rfl (Or.inl rfl) smd_M_isType_14 ⟨_, rfl, hT⟩
    · replace hT := hT.2 hc
      refine mm_iconst (n := 10) (v := 1) smd_M_isType_9 rfl (by decide) ?_
      refine mm_goto (n := 14) smd_M_isType_10 rfl ?_
      exact mm_zret rfl (Or.inr rfl) smd_M_isType_14 ⟨_, rfl, hT⟩
set_option maxHeartbeats 4000000 in
set_option maxRecDepth 100000 in
theorem smr_M_isLocal {Γ : mm_Ctx} {post : Int32 → mm_Mem → Prop} {h : mm_Mem} (x0 : Int32) (hT : (x0 < 0 → (post (0 : Int32) h)) ∧ (¬ x0 < 0 → (((3 : Int32) ≤ x0 → (post (0 : Int32) h)) ∧ (¬ (3 : Int32) ≤ x0 → (post (1 : Int32) h))))) : mm_SI Γ smM_M_isLocal [.int x0] h post := by
  refine mm_spec0 (M := smM_M_isLocal) 0 (by decide +kernel) rfl (Nat.le_of_ble_eq_true rfl) ?_
  show mm_W Γ smM_M_isLocal (mm_pI post) 0 [some (.int x0)] [] h
  refine mm_iload_n (n := 1) (i := 0) smd_M_isLocal_0 rfl rfl rfl ?_
  refine mm_if_lt (n := 4) (tgt := 13) smd_M_isLocal_1 rfl rfl (fun hc => ?_) (fun hc => ?_)
  · replace hT := hT.1 hc
    refine mm_iconst (n := 14) (v := 0) smd_M_isLocal_13 rfl (by decide) ?_
    exact mm_zret rfl (Or.inl rfl) smd_M_isLocal_14 ⟨_, rfl, hT⟩
  · replace hT := hT.2 hc
    refine mm_iload_n (n := 5) (i := 0) smd_M_isLocal_4 rfl rfl rfl ?_
    refine mm_iconst (n := 6) (v := 3) smd_M_isLocal_5 rfl (by decide) ?_
    refine mm_icmp_ge (n := 9) (tgt := 13) smd_M_isLocal_6 rfl rfl (fun hc => ?_) (fun hc => ?_)
    · replace hT := hT.1 hc
      refine mm_iconst (n := 14) (v := 0) smd_M_isLocal_13 rfl (by decide) ?_
      exact mm_zret rfl (Or.inl rfl) smd_M_isLocal_14 ⟨_, rfl, hT⟩
    · replace hT := hT.2 hc
      refine mm_iconst (n := 10) (v := 1) smd_M_isLocal_9 rfl (by decide) ?_
      refine mm_goto (n := 14) smd_M_isLocal_10 rfl ?_
      exact mm_zret rfl (Or.inr rfl) smd_M_isLocal_14 ⟨_, rfl, hT⟩
set_option maxHeartbeats 4000000 in
set_option maxRecDepth 100000 in
theorem smr_M_word {Γ : mm_Ctx} {post : Int32 → mm_Mem → Prop} {h : mm_Mem} (x1 : Int32) (x2 : Int32) (x3 : Int32) (x4 : Int32) (x5 : Int32) (x6 : Int32) (hT : mm_SI Γ smM_M_isProcedure [.int x1] h (fun r1 h1 => (r1 = 0 → (post (-1 : Int32) h1)) ∧ (¬ r1 = 0 → ((x2 < 0 → (post (-1 : Int32) h1)) ∧ (¬ x2 < 0 → ((vp_in ((6 : Int32) + x1) 12) ∧ (((h1 66 ((6 : Int32) + x1).toNatClampNeg) < x2 → (post (-1 : Int32) h1)) ∧ (¬ (h1 66 ((6 : Int32) + x1).toNatClampNeg) < x2 → ((¬ x2 = (12 : Int32) → (((h1 64 5) = 0 → (∀ y7_54 : Int32, y7_54 = ((288 : Int32) + ((48 : Int32) * x1)) + ((4 : Int32) * x2) → ((vp_in y7_54 576) ∧ (∀ h63 : mm_Mem, h63 = mm_wr h1 65 y7_54.toNatClampNeg x3 → ((vp_in (y7_54 + (1 : Int32)) 576) ∧ (∀ h74 : mm_Mem, h74 = mm_wr h63 65 (y7_54 + (1 : Int32)).toNatClampNeg x4 → ((vp_in (y7_54 + (2 : Int32)) 576) ∧ (∀ h85 : mm_Mem, h85 = mm_wr h74 65 (y7_54 + (2 : Int32)).toNatClampNeg x5 → ((vp_in (y7_54 + (3 : Int32)) 576) ∧ (∀ h96 : mm_Mem, h96 = mm_wr h85 65 (y7_54 + (3 : Int32)).toNatClampNeg x6 → ((vp_in ((6 : Int32) + x1) 12) ∧ ((¬ x2 = (h96 66 ((6 : Int32) + x1).toNatClampNeg) → ((vp_in ((6 : Int32) + x1) 12) ∧ ((vp_in ((6 : Int32) + x1) 12) ∧ (∀ h133 : mm_Mem, h133 = mm_wr h96 66 ((6 : Int32) + x1).toNatClampNeg (h96 66 ((6 : Int32) + x1).toNatClampNeg) → ((vp_in ((6 : Int32) + x1) 12) ∧ (post (h133 66 ((6 : Int32) + x1).toNatClampNeg) h133)))))) ∧ (x2 = (h96 66 ((6 : Int32) + x1).toNatClampNeg) → ((vp_in ((6 : Int32) + x1) 12) ∧ (∀ h133 : mm_Mem, h133 = mm_wr h96 66 ((6 : Int32) + x1).toNatClampNeg (x2 + (1 : Int32)) → ((vp_in ((6 : Int32) + x1) 12) ∧ (post (h133 66 ((6 : Int32) + x1).toNatClampNeg) h133))))))))))))))))) ∧ (¬ (h1 64 5) = 0 → (post (-2 : Int32) h1)))) ∧ (x2 = (12 : Int32) → (post (-1 : Int32) h1))))))))))) : mm_SI Γ smM_M_word [.ref (mm_B Γ + 64), .int x1, .int x2, .int x3, .int x4, .int x5, .int x6] h post := by
  refine mm_spec0 (M := smM_M_word) 1 (by decide +kernel) rfl (Nat.le_of_ble_eq_true rfl) ?_
  show mm_W Γ smM_M_word (mm_pI post) 0 [some (.ref (mm_B Γ + 64)), some (.int x1), some (.int x2), some (.int x3), some (.int x4), some (.int x5), some (.int x6), none] [] h
  refine mm_iload_n (n := 1) (i := 1) smd_M_word_0 rfl rfl rfl ?_
  refine mm_callSI (n := 4) (As := [.int x1]) (rest := []) smv_M_isProcedure smw_584 (mm_hRm (by decide) (by decide)) smd_M_word_1 rfl rfl (Nat.le_of_ble_eq_true rfl) hT (fun r1 h1 hT => ?_)
  refine mm_if_eq (n := 7) (tgt := 30) smd_M_word_4 rfl rfl (fun hc => ?_) (fun hc => ?_)
  · replace hT := hT.1 hc
    refine mm_iconst (n := 31) (v := -1) smd_M_word_30 rfl (by decide) ?_
    exact mm_iret rfl smd_M_word_31 ⟨_, rfl, hT⟩
  · replace hT := hT.2 hc
    refine mm_iload_n (n := 8) (i := 2) smd_M_word_7 rfl rfl rfl ?_
    refine mm_if_lt (n := 11) (tgt := 30) smd_M_word_8 rfl rfl (fun hc => ?_) (fun hc => ?_)
    · replace hT := hT.1 hc
      refine mm_iconst (n := 31) (v := -1) smd_M_word_30 rfl (by decide) ?_
      exact mm_iret rfl smd_M_word_31 ⟨_, rfl, hT⟩
    · replace hT := hT.2 hc
      refine mm_iload_n (n := 12) (i := 2) smd_M_word_11 rfl rfl rfl ?_
      refine mm_aload_n (n := 13) (i := 0) smd_M_word_12 rfl rfl rfl ?_
      refine mm_get (n := 16) (v := .ref (mm_B Γ + 66)) smk_M_13 smb_M rfl smd_M_word_13 rfl ?_
      refine mm_bipush (n := 18) (v := 6) smd_M_word_16 rfl (by decide) ?_
      refine mm_iload_n (n := 19) (i := 1) smd_M_word_18 rfl rfl rfl ?_
      refine mm_iadd (n := 20) smd_M_word_19 rfl ?_
      refine mm_iald (n := 21) sma_66 hT.1 smd_M_word_20 rfl ?_
      replace hT := hT.2
      refine mm_icmp_gt (n := 24) (tgt := 30) smd_M_word_21 rfl rfl (fun hc => ?_) (fun hc => ?_)
      · replace hT := hT.1 hc
        refine mm_iconst (n := 31) (v := -1) smd_M_word_30 rfl (by decide) ?_
        exact mm_iret rfl smd_M_word_31 ⟨_, rfl, hT⟩
      · replace hT := hT.2 hc
        refine mm_iload_n (n := 25) (i := 2) smd_M_word_24 rfl rfl rfl ?_
        refine mm_bipush (n := 27) (v := 12) smd_M_word_25 rfl (by decide) ?_
        refine mm_icmp_ne (n := 30) (tgt := 32) smd_M_word_27 rfl rfl (fun hc => ?_) (fun hc => ?_)
        · replace hT := hT.1 hc
          refine mm_aload_n (n := 33) (i := 0) smd_M_word_32 rfl rfl rfl ?_
          refine mm_get (n := 36) (v := .int (h1 64 5)) smk_M_63 smb_M rfl smd_M_word_33 rfl ?_
          refine mm_if_eq (n := 39) (tgt := 42) smd_M_word_36 rfl rfl (fun hc => ?_) (fun hc => ?_)
          · replace hT := hT.1 hc
            refine mm_sipush (n := 45) (v := 288) smd_M_word_42 rfl (by decide) ?_
            refine mm_bipush (n := 47) (v := 48) smd_M_word_45 rfl (by decide) ?_
            refine mm_iload_n (n := 48) (i := 1) smd_M_word_47 rfl rfl rfl ?_
            refine mm_imul (n := 49) smd_M_word_48 rfl ?_
            refine mm_iadd (n := 50) smd_M_word_49 rfl ?_
            refine mm_iconst (n := 51) (v := 4) smd_M_word_50 rfl (by decide) ?_
            refine mm_iload_n (n := 52) (i := 2) smd_M_word_51 rfl rfl rfl ?_
            refine mm_imul (n := 53) smd_M_word_52 rfl ?_
            refine mm_iadd (n := 54) smd_M_word_53 rfl ?_
            refine mm_top (fun y7_54 e_y7_54 => ?_)
            replace hT := hT y7_54 e_y7_54
            refine mm_istore (n := 56) (i := 7) (L' := [some (.ref (mm_B Γ + 64)), some (.int x1), some (.int x2), some (.int x3), some (.int x4), some (.int x5), some (.int x6), some (.int y7_54)]) smd_M_word_54 rfl (by decide) rfl ?_
            refine mm_aload_n (n := 57) (i := 0) smd_M_word_56 rfl rfl rfl ?_
            refine mm_get (n := 60) (v := .ref (mm_B Γ + 65)) smk_M_7 smb_M rfl smd_M_word_57 rfl ?_
            refine mm_iload (n := 62) (i := 7) smd_M_word_60 rfl rfl ?_
            refine mm_iload_n (n := 63) (i := 3) smd_M_word_62 rfl rfl rfl ?_
            refine mm_iast (n := 64) sma_65 hT.1 smd_M_word_63 rfl ?_
            replace hT := hT.2
            refine mm_nam (fun h63 e_h63 => ?_)
            replace hT := hT h63 e_h63
            refine mm_aload_n (n := 65) (i := 0) smd_M_word_64 rfl rfl rfl ?_
            refine mm_get (n := 68) (v := .ref (mm_B Γ + 65)) smk_M_7 smb_M rfl smd_M_word_65 rfl ?_
            refine mm_iload (n := 70) (i := 7) smd_M_word_68 rfl rfl ?_
            refine mm_iconst (n := 71) (v := 1) smd_M_word_70 rfl (by decide) ?_
            refine mm_iadd (n := 72) smd_M_word_71 rfl ?_
            refine mm_iload (n := 74) (i := 4) smd_M_word_72 rfl rfl ?_
            refine mm_iast (n := 75) sma_65 hT.1 smd_M_word_74 rfl ?_
            replace hT := hT.2
            refine mm_nam (fun h74 e_h74 => ?_)
            replace hT := hT h74 e_h74
            refine mm_aload_n (n := 76) (i := 0) smd_M_word_75 rfl rfl rfl ?_
            refine mm_get (n := 79) (v := .ref (mm_B Γ + 65)) smk_M_7 smb_M rfl smd_M_word_76 rfl ?_
            refine mm_iload (n := 81) (i := 7) smd_M_word_79 rfl rfl ?_
            refine mm_iconst (n := 82) (v := 2) smd_M_word_81 rfl (by decide) ?_
            refine mm_iadd (n := 83) smd_M_word_82 rfl ?_
            refine mm_iload (n := 85) (i := 5) smd_M_word_83 rfl rfl ?_
            refine mm_iast (n := 86) sma_65 hT.1 smd_M_word_85 rfl ?_
            replace hT := hT.2
            refine mm_nam (fun h85 e_h85 => ?_)
            replace hT := hT h85 e_h85
            refine mm_aload_n (n := 87) (i := 0) smd_M_word_86 rfl rfl rfl ?_
            refine mm_get (n := 90) (v := .ref (mm_B Γ + 65)) smk_M_7 smb_M rfl smd_M_word_87 rfl ?_
            refine mm_iload (n := 92) (i := 7) smd_M_word_90 rfl rfl ?_
            refine mm_iconst (n := 93) (v := 3) smd_M_word_92 rfl (by decide) ?_
            refine mm_iadd (n := 94) smd_M_word_93 rfl ?_
            refine mm_iload (n := 96) (i := 6) smd_M_word_94 rfl rfl ?_
            refine mm_iast (n := 97) sma_65 hT.1 smd_M_word_96 rfl ?_
            replace hT := hT.2
            refine mm_nam (fun h96 e_h96 => ?_)
            replace hT := hT h96 e_h96
            refine mm_aload_n (n := 98) (i := 0) smd_M_word_97 rfl rfl rfl ?_
            refine mm_get (n := 101) (v := .ref (mm_B Γ + 66)) smk_M_13 smb_M rfl smd_M_word_98 rfl ?_
            refine mm_bipush (n := 103) (v := 6) smd_M_word_101 rfl (by decide) ?_
            refine mm_iload_n (n := 104) (i := 1) smd_M_word_103 rfl rfl rfl ?_
            refine mm_iadd (n := 105) smd_M_word_104 rfl ?_
            refine mm_iload_n (n := 106) (i := 2) smd_M_word_105 rfl rfl rfl ?_
            refine mm_aload_n (n := 107) (i := 0) smd_M_word_106 rfl rfl rfl ?_
            refine mm_get (n := 110) (v := .ref (mm_B Γ + 66)) smk_M_13 smb_M rfl smd_M_word_107 rfl ?_
            refine mm_bipush (n := 112) (v := 6) smd_M_word_110 rfl (by decide) ?_
            refine mm_iload_n (n := 113) (i := 1) smd_M_word_112 rfl rfl rfl ?_
            refine mm_iadd (n := 114) smd_M_word_113 rfl ?_
            refine mm_iald (n := 115) sma_66 hT.1 smd_M_word_114 rfl ?_
            replace hT := hT.2
            refine mm_icmp_ne (n := 118) (tgt := 124) smd_M_word_115 rfl rfl (fun hc => ?_) (fun hc => ?_)
            · replace hT := hT.1 hc
              refine mm_aload_n (n := 125) (i := 0) smd_M_word_124 rfl rfl rfl ?_
              refine mm_get (n := 128) (v := .ref (mm_B Γ + 66)) smk_M_13 smb_M rfl smd_M_word_125 rfl ?_
              refine mm_bipush (n := 130) (v := 6) smd_M_word_128 rfl (by decide) ?_
              refine mm_iload_n (n := 131) (i := 1) smd_M_word_130 rfl rfl rfl ?_
              refine mm_iadd (n := 132) smd_M_word_131 rfl ?_
              refine mm_iald (n := 133) sma_66 hT.1 smd_M_word_132 rfl ?_
              replace hT := hT.2
              refine mm_iast (n := 134) sma_66 hT.1 smd_M_word_133 rfl ?_
              replace hT := hT.2
              refine mm_nam (fun h133 e_h133 => ?_)
              replace hT := hT h133 e_h133
              refine mm_aload_n (n := 135) (i := 0) smd_M_word_134 rfl rfl rfl ?_
              refine mm_get (n := 138) (v := .ref (mm_B Γ + 66)) smk_M_13 smb_M rfl smd_M_word_135 rfl ?_
              refine mm_bipush (n := 140) (v := 6) smd_M_word_138 rfl (by decide) ?_
              refine mm_iload_n (n := 141) (i := 1) smd_M_word_140 rfl rfl rfl ?_
              refine mm_iadd (n := 142) smd_M_word_141 rfl ?_
              refine mm_iald (n := 143) sma_66 hT.1 smd_M_word_142 rfl ?_
              replace hT := hT.2
              exact mm_iret rfl smd_M_word_143 ⟨_, rfl, hT⟩
            · replace hT := hT.2 hc
              refine mm_iload_n (n := 119) (i := 2) smd_M_word_118 rfl rfl rfl ?_
              refine mm_iconst (n := 120) (v := 1) smd_M_word_119 rfl (by decide) ?_
              refine mm_iadd (n := 121) smd_M_word_120 rfl ?_
              refine mm_goto (n := 133) smd_M_word_121 rfl ?_
              refine mm_iast (n := 134) sma_66 hT.1 smd_M_word_133 rfl ?_
              replace hT := hT.2
              refine mm_nam (fun h133 e_h133 => ?_)
              replace hT := hT h133 e_h133
              refine mm_aload_n (n := 135) (i := 0) smd_M_word_134 rfl rfl rfl ?_
              refine mm_get (n := 138) (v := .ref (mm_B Γ + 66)) smk_M_13 smb_M rfl smd_M_word_135 rfl ?_
              refine mm_bipush (n := 140) (v := 6) smd_M_word_138 rfl (by decide) ?_
              refine mm_iload_n (n := 141) (i := 1) smd_M_word_140 rfl rfl rfl ?_
              refine mm_iadd (n := 142) smd_M_word_141 rfl ?_
              refine mm_iald (n := 143) sma_66 hT.1 smd_M_word_142 rfl ?_
              replace hT := hT.2
              exact mm_iret rfl smd_M_word_143 ⟨_, rfl, hT⟩
          · replace hT := hT.2 hc
            refine mm_bipush (n := 41) (v := -2) smd_M_word_39 rfl (by decide) ?_
            exact mm_iret rfl smd_M_word_41 ⟨_, rfl, hT⟩
        · replace hT := hT.2 hc
          refine mm_iconst (n := 31) (v := -1) smd_M_word_30 rfl (by decide) ?_
          exact mm_iret rfl smd_M_word_31 ⟨_, rfl, hT⟩
set_option maxHeartbeats 4000000 in
set_option maxRecDepth 100000 in
theorem smr_M_cut {Γ : mm_Ctx} {post : Int32 → mm_Mem → Prop} {h : mm_Mem} (x1 : Int32) (x2 : Int32) (hT : mm_SI Γ smM_M_isProcedure [.int x1] h (fun r1 h1 => (r1 = 0 → (post (0 : Int32) h1)) ∧ (¬ r1 = 0 → ((x2 < 0 → (post (0 : Int32) h1)) ∧ (¬ x2 < 0 → ((vp_in ((6 : Int32) + x1) 12) ∧ (((h1 66 ((6 : Int32) + x1).toNatClampNeg) < x2 → (post (0 : Int32) h1)) ∧ (¬ (h1 66 ((6 : Int32) + x1).toNatClampNeg) < x2 → (((h1 64 5) = 0 → ((vp_in ((6 : Int32) + x1) 12) ∧ (∀ h42 : mm_Mem, h42 = mm_wr h1 66 ((6 : Int32) + x1).toNatClampNeg x2 → (post (1 : Int32) h42)))) ∧ (¬ (h1 64 5) = 0 → (post (0 : Int32) h1))))))))))) : mm_SI Γ smM_M_cut [.ref (mm_B Γ + 64), .int x1, .int x2] h post := by
  refine mm_spec0 (M := smM_M_cut) 0 (by decide +kernel) rfl (Nat.le_of_ble_eq_true rfl) ?_
  show mm_W Γ smM_M_cut (mm_pI post) 0 [some (.ref (mm_B Γ + 64)), some (.int x1), some (.int x2)] [] h
  refine mm_iload_n (n := 1) (i := 1) smd_M_cut_0 rfl rfl rfl ?_
  refine mm_callSI (n := 4) (As := [.int x1]) (rest := []) smv_M_isProcedure smw_584 (mm_hRm (by decide) (by decide)) smd_M_cut_1 rfl rfl (Nat.le_of_ble_eq_true rfl) hT (fun r1 h1 hT => ?_)
  refine mm_if_eq (n := 7) (tgt := 31) smd_M_cut_4 rfl rfl (fun hc => ?_) (fun hc => ?_)
  · replace hT := hT.1 hc
    refine mm_iconst (n := 32) (v := 0) smd_M_cut_31 rfl (by decide) ?_
    exact mm_zret rfl (Or.inl rfl) smd_M_cut_32 ⟨_, rfl, hT⟩
  · replace hT := hT.2 hc
    refine mm_iload_n (n := 8) (i := 2) smd_M_cut_7 rfl rfl rfl ?_
    refine mm_if_lt (n := 11) (tgt := 31) smd_M_cut_8 rfl rfl (fun hc => ?_) (fun hc => ?_)
    · replace hT := hT.1 hc
      refine mm_iconst (n := 32) (v := 0) smd_M_cut_31 rfl (by decide) ?_
      exact mm_zret rfl (Or.inl rfl) smd_M_cut_32 ⟨_, rfl, hT⟩
    · replace hT := hT.2 hc
      refine mm_iload_n (n := 12) (i := 2) smd_M_cut_11 rfl rfl rfl ?_
      refine mm_aload_n (n := 13) (i := 0) smd_M_cut_12 rfl rfl rfl ?_
      refine mm_get (n := 16) (v := .ref (mm_B Γ + 66)) smk_M_13 smb_M rfl smd_M_cut_13 rfl ?_
      refine mm_bipush (n := 18) (v := 6) smd_M_cut_16 rfl (by decide) ?_
      refine mm_iload_n (n := 19) (i := 1) smd_M_cut_18 rfl rfl rfl ?_
      refine mm_iadd (n := 20) smd_M_cut_19 rfl ?_
      refine mm_iald (n := 21) sma_66 hT.1 smd_M_cut_20 rfl ?_
      replace hT := hT.2
      refine mm_icmp_gt (n := 24) (tgt := 31) smd_M_cut_21 rfl rfl (fun hc => ?_) (fun hc => ?_)
      · replace hT := hT.1 hc
        refine mm_iconst (n := 32) (v := 0) smd_M_cut_31 rfl (by decide) ?_
        exact mm_zret rfl (Or.inl rfl) smd_M_cut_32 ⟨_, rfl, hT⟩
      · replace hT := hT.2 hc
        refine mm_aload_n (n := 25) (i := 0) smd_M_cut_24 rfl rfl rfl ?_
        refine mm_get (n := 28) (v := .int (h1 64 5)) smk_M_63 smb_M rfl smd_M_cut_25 rfl ?_
        refine mm_if_eq (n := 31) (tgt := 33) smd_M_cut_28 rfl rfl (fun hc => ?_) (fun hc => ?_)
        · replace hT := hT.1 hc
          refine mm_aload_n (n := 34) (i := 0) smd_M_cut_33 rfl rfl rfl ?_
          refine mm_get (n := 37) (v := .ref (mm_B Γ + 66)) smk_M_13 smb_M rfl smd_M_cut_34 rfl ?_
          refine mm_bipush (n := 39) (v := 6) smd_M_cut_37 rfl (by decide) ?_
          refine mm_iload_n (n := 40) (i := 1) smd_M_cut_39 rfl rfl rfl ?_
          refine mm_iadd (n := 41) smd_M_cut_40 rfl ?_
          refine mm_iload_n (n := 42) (i := 2) smd_M_cut_41 rfl rfl rfl ?_
          refine mm_iast (n := 43) sma_66 hT.1 smd_M_cut_42 rfl ?_
          replace hT := hT.2
          refine mm_nam (fun h42 e_h42 => ?_)
          replace hT := hT h42 e_h42
          refine mm_iconst (n := 44) (v := 1) smd_M_cut_43 rfl (by decide) ?_
          exact mm_zret rfl (Or.inr rfl) smd_M_cut_44 ⟨_, rfl, hT⟩
        · replace hT := hT.2 hc
          refine mm_iconst (n := 32) (v := 0) smd_M_cut_31 rfl (by decide) ?_
          exact mm_zret rfl (Or.inl rfl) smd_M_cut_32 ⟨_, rfl, hT⟩
set_option maxHeartbeats 4000000 in
set_option maxRecDepth 100000 in
theorem smr_M_clearRules {Γ : mm_Ctx} {post : mm_Mem → Prop} {h : mm_Mem} (x1 : Int32) (hT : ∀ y2_4 : Int32, y2_4 = (12 : Int32) * x1 → (mm_W Γ smM_M_clearRules (mm_pV post) 5 [some (.ref (mm_B Γ + 64)), some (.int x1), some (.int y2_4)] [] h)) : mm_SV Γ smM_M_clearRules [.ref (mm_B Γ + 64), .int x1] h post := by
  refine mm_spec0 (M := smM_M_clearRules) 1 (by decide +kernel) rfl (Nat.le_of_ble_eq_true rfl) ?_
  show mm_W Γ smM_M_clearRules (mm_pV post) 0 [some (.ref (mm_B Γ + 64)), some (.int x1), none] [] h
  refine mm_bipush (n := 2) (v := 12) smd_M_clearRules_0 rfl (by decide) ?_
  refine mm_iload_n (n := 3) (i := 1) smd_M_clearRules_2 rfl rfl rfl ?_
  refine mm_imul (n := 4) smd_M_clearRules_3 rfl ?_
  refine mm_top (fun y2_4 e_y2_4 => ?_)
  replace hT := hT y2_4 e_y2_4
  refine mm_istore_n (n := 5) (i := 2) (L' := [some (.ref (mm_B Γ + 64)), some (.int x1), some (.int y2_4)]) smd_M_clearRules_4 rfl rfl (by decide) rfl ?_
  exact mm_weak (by refine ⟨rfl, rfl, rfl, trivial⟩) hT
set_option maxHeartbeats 4000000 in
set_option maxRecDepth 100000 in
theorem smr_M_clearRules_5 {Γ : mm_Ctx} {post : mm_Mem → Prop} {h : mm_Mem} (x1 : Int32) (x2 : Int32) (hT : ((((12 : Int32) * x1) + (12 : Int32)) ≤ x2 → (post h)) ∧ (¬ (((12 : Int32) * x1) + (12 : Int32)) ≤ x2 → ((vp_in x2 36) ∧ (∀ h22 : mm_Mem, h22 = mm_wr h 68 x2.toNatClampNeg (0 : Int32) → (mm_W Γ smM_M_clearRules (mm_pV post) 5 [some (.ref (mm_B Γ + 64)), some (.int x1), some (.int (x2 + (1 : Int32)))] [] h22))))) : mm_W Γ smM_M_clearRules (mm_pV post) 5 [some (.ref (mm_B Γ + 64)), some (.int x1), some (.int x2)] [] h := by
  refine mm_iload_n (n := 6) (i := 2) smd_M_clearRules_5 rfl rfl rfl ?_
  refine mm_bipush (n := 8) (v := 12) smd_M_clearRules_6 rfl (by decide) ?_
  refine mm_iload_n (n := 9) (i := 1) smd_M_clearRules_8 rfl rfl rfl ?_
  refine mm_imul (n := 10) smd_M_clearRules_9 rfl ?_
  refine mm_bipush (n := 12) (v := 12) smd_M_clearRules_10 rfl (by decide) ?_
  refine mm_iadd (n := 13) smd_M_clearRules_12 rfl ?_
  refine mm_icmp_ge (n := 16) (tgt := 29) smd_M_clearRules_13 rfl rfl (fun hc => ?_) (fun hc => ?_)
  · replace hT := hT.1 hc
    exact mm_vret rfl smd_M_clearRules_29 ⟨rfl, hT⟩
  · replace hT := hT.2 hc
    refine mm_aload_n (n := 17) (i := 0) smd_M_clearRules_16 rfl rfl rfl ?_
    refine mm_get (n := 20) (v := .ref (mm_B Γ + 68)) smk_M_19 smb_M rfl smd_M_clearRules_17 rfl ?_
    refine mm_iload_n (n := 21) (i := 2) smd_M_clearRules_20 rfl rfl rfl ?_
    refine mm_iconst (n := 22) (v := 0) smd_M_clearRules_21 rfl (by decide) ?_
    refine mm_iast (n := 23) sma_68 hT.1 smd_M_clearRules_22 rfl ?_
    replace hT := hT.2
    refine mm_nam (fun h22 e_h22 => ?_)
    replace hT := hT h22 e_h22
    refine mm_iinc (n := 26) (i := 2) (d := 1) (L' := [some (.ref (mm_B Γ + 64)), some (.int x1), some (.int (x2 + (1 : Int32)))]) smd_M_clearRules_23 rfl rfl (by decide) (by decide) rfl ?_
    refine mm_goto (n := 5) smd_M_clearRules_26 rfl ?_
    exact mm_weak (by refine ⟨rfl, rfl, rfl, trivial⟩) hT
set_option maxHeartbeats 4000000 in
set_option maxRecDepth 100000 in
theorem smr_M_fields {Γ : mm_Ctx} {post : Int32 → mm_Mem → Prop} {h : mm_Mem} (x1 : Int32) (x2 : Int32) (hT : mm_SI Γ smM_M_isType [.int x1] h (fun r1 h1 => (r1 = 0 → (post (0 : Int32) h1)) ∧ (¬ r1 = 0 → ((x2 < 0 → (post (0 : Int32) h1)) ∧ (¬ x2 < 0 → (((4 : Int32) < x2 → (post (0 : Int32) h1)) ∧ (¬ (4 : Int32) < x2 → (((h1 64 5) = 0 → ((vp_in ((3 : Int32) + x1) 6) ∧ (∀ h33 : mm_Mem, h33 = mm_wr h1 67 ((3 : Int32) + x1).toNatClampNeg x2 → (mm_SV Γ smM_M_clearRules [.ref (mm_B Γ + 64), .int x1] h33 (fun h36 => (vp_in x1 3) ∧ (∀ h45 : mm_Mem, h45 = mm_wr h36 69 x1.toNatClampNeg (1 : Int32) → (post (1 : Int32) h45))))))) ∧ (¬ (h1 64 5) = 0 → (post (0 : Int32) h1)))))))))) : mm_SI Γ smM_M_fields [.ref (mm_B Γ + 64), .int x1, .int x2] h post := by
  refine mm_spec0 (M := smM_M_fields) 0 (by decide +kernel) rfl (Nat.le_of_ble_eq_true rfl) ?_
  show mm_W Γ smM_M_fields (mm_pI post) 0 [some (.ref (mm_B Γ + 64)), some (.int x1), some (.int x2)] [] h
  refine mm_iload_n (n := 1) (i := 1) smd_M_fields_0 rfl rfl rfl ?_
  refine mm_callSI (n := 4) (As := [.int x1]) (rest := []) smv_M_isType smw_595 (mm_hRm (by decide) (by decide)) smd_M_fields_1 rfl rfl (Nat.le_of_ble_eq_true rfl) hT (fun r1 h1 hT => ?_)
  refine mm_if_eq (n := 7) (tgt := 23) smd_M_fields_4 rfl rfl (fun hc => ?_) (fun hc => ?_)
  · replace hT := hT.1 hc
    refine mm_iconst (n := 24) (v := 0) smd_M_fields_23 rfl (by decide) ?_
    exact mm_zret rfl (Or.inl rfl) smd_M_fields_24 ⟨_, rfl, hT⟩
  · replace hT := hT.2 hc
    refine mm_iload_n (n := 8) (i := 2) smd_M_fields_7 rfl rfl rfl ?_
    refine mm_if_lt (n := 11) (tgt := 23) smd_M_fields_8 rfl rfl (fun hc => ?_) (fun hc => ?_)
    · replace hT := hT.1 hc
      refine mm_iconst (n := 24) (v := 0) smd_M_fields_23 rfl (by decide) ?_
      exact mm_zret rfl (Or.inl rfl) smd_M_fields_24 ⟨_, rfl, hT⟩
    · replace hT := hT.2 hc
      refine mm_iload_n (n := 12) (i := 2) smd_M_fields_11 rfl rfl rfl ?_
      refine mm_iconst (n := 13) (v := 4) smd_M_fields_12 rfl (by decide) ?_
      refine mm_icmp_gt (n := 16) (tgt := 23) smd_M_fields_13 rfl rfl (fun hc => ?_) (fun hc => ?_)
      · replace hT := hT.1 hc
        refine mm_iconst (n := 24) (v := 0) smd_M_fields_23 rfl (by decide) ?_
        exact mm_zret rfl (Or.inl rfl) smd_M_fields_24 ⟨_, rfl, hT⟩
      · replace hT := hT.2 hc
        refine mm_aload_n (n := 17) (i := 0) smd_M_fields_16 rfl rfl rfl ?_
        refine mm_get (n := 20) (v := .int (h1 64 5)) smk_M_63 smb_M rfl smd_M_fields_17 rfl ?_
        refine mm_if_eq (n := 23) (tgt := 25) smd_M_fields_20 rfl rfl (fun hc => ?_) (fun hc => ?_)
        · replace hT := hT.1 hc
          refine mm_aload_n (n := 26) (i := 0) smd_M_fields_25 rfl rfl rfl ?_
          refine mm_get (n := 29) (v := .ref (mm_B Γ + 67)) smk_M_16 smb_M rfl smd_M_fields_26 rfl ?_
          refine mm_iconst (n := 30) (v := 3) smd_M_fields_29 rfl (by decide) ?_
          refine mm_iload_n (n := 31) (i := 1) smd_M_fields_30 rfl rfl rfl ?_
          refine mm_iadd (n := 32) smd_M_fields_31 rfl ?_
          refine mm_iload_n (n := 33) (i := 2) smd_M_fields_32 rfl rfl rfl ?_
          refine mm_iast (n := 34) sma_67 hT.1 smd_M_fields_33 rfl ?_
          replace hT := hT.2
          refine mm_nam (fun h33 e_h33 => ?_)
          replace hT := hT h33 e_h33
          refine mm_aload_n (n := 35) (i := 0) smd_M_fields_34 rfl rfl rfl ?_
          refine mm_iload_n (n := 36) (i := 1) smd_M_fields_35 rfl rfl rfl ?_
          refine mm_callVV (n := 39) (As := [.int x1]) (rest := []) smv_M_clearRules smw_598 smb_M (mm_hRm (by decide) (by decide)) smd_M_fields_36 rfl rfl (Nat.le_of_ble_eq_true rfl) hT (fun h36 hT => ?_)
          refine mm_aload_n (n := 40) (i := 0) smd_M_fields_39 rfl rfl rfl ?_
          refine mm_get (n := 43) (v := .ref (mm_B Γ + 69)) smk_M_22 smb_M rfl smd_M_fields_40 rfl ?_
          refine mm_iload_n (n := 44) (i := 1) smd_M_fields_43 rfl rfl rfl ?_
          refine mm_iconst (n := 45) (v := 1) smd_M_fields_44 rfl (by decide) ?_
          refine mm_zast (n := 46) sma_69 hT.1 (Or.inr rfl) smd_M_fields_45 rfl ?_
          replace hT := hT.2
          refine mm_nam (fun h45 e_h45 => ?_)
          replace hT := hT h45 e_h45
          refine mm_iconst (n := 47) (v := 1) smd_M_fields_46 rfl (by decide) ?_
          exact mm_zret rfl (Or.inr rfl) smd_M_fields_47 ⟨_, rfl, hT⟩
        · replace hT := hT.2 hc
          refine mm_iconst (n := 24) (v := 0) smd_M_fields_23 rfl (by decide) ?_
          exact mm_zret rfl (Or.inl rfl) smd_M_fields_24 ⟨_, rfl, hT⟩
set_option maxHeartbeats 4000000 in
set_option maxRecDepth 100000 in
theorem smr_M_rule {Γ : mm_Ctx} {post : Int32 → mm_Mem → Prop} {h : mm_Mem} (x1 : Int32) (x2 : Int32) (x3 : Int32) (x4 : Int32) (x5 : Int32) (hT : mm_SI Γ smM_M_isType [.int x1] h (fun r1 h1 => (r1 = 0 → (post (-1 : Int32) h1)) ∧ (¬ r1 = 0 → ((x2 < 0 → (post (-1 : Int32) h1)) ∧ (¬ x2 < 0 → ((vp_in ((3 : Int32) + x1) 6) ∧ (((h1 67 ((3 : Int32) + x1).toNatClampNeg) ≤ x2 → (post (-1 : Int32) h1)) ∧ (¬ (h1 67 ((3 : Int32) + x1).toNatClampNeg) ≤ x2 → ((x3 < 0 → (post (-1 : Int32) h1)) ∧ (¬ x3 < 0 → (((2 : Int32) < x3 → (post (-1 : Int32) h1)) ∧ (¬ (2 : Int32) < x3 → ((x4 < 0 → (post (-1 : Int32) h1)) ∧ (¬ x4 < 0 → ((x4 ≤ (3 : Int32) → (((h1 64 5) = 0 → ((vp_in (((12 : Int32) * x1) + ((3 : Int32) * x2)) 36) ∧ (∀ h68 : mm_Mem, h68 = mm_wr h1 68 (((12 : Int32) * x1) + ((3 : Int32) * x2)).toNatClampNeg x3 → ((vp_in ((((12 : Int32) * x1) + ((3 : Int32) * x2)) + (1 : Int32)) 36) ∧ (∀ h85 : mm_Mem, h85 = mm_wr h68 68 ((((12 : Int32) * x1) + ((3 : Int32) * x2)) + (1 : Int32)).toNatClampNeg x4 → ((vp_in ((((12 : Int32) * x1) + ((3 : Int32) * x2)) + (2 : Int32)) 36) ∧ (∀ h102 : mm_Mem, h102 = mm_wr h85 68 ((((12 : Int32) * x1) + ((3 : Int32) * x2)) + (2 : Int32)).toNatClampNeg x5 → ((vp_in x1 3) ∧ (∀ h109 : mm_Mem, h109 = mm_wr h102 69 x1.toNatClampNeg (1 : Int32) → (post (0 : Int32) h109)))))))))) ∧ (¬ (h1 64 5) = 0 → (post (-2 : Int32) h1)))) ∧ (¬ x4 ≤ (3 : Int32) → (post (-1 : Int32) h1))))))))))))))))) : mm_SI Γ smM_M_rule [.ref (mm_B Γ + 64), .int x1, .int x2, .int x3, .int x4, .int x5] h post := by
  refine mm_spec0 (M := smM_M_rule) 0 (by decide +kernel) rfl (Nat.le_of_ble_eq_true rfl) ?_
  show mm_W Γ smM_M_rule (mm_pI post) 0 [some (.ref (mm_B Γ + 64)), some (.int x1), some (.int x2), some (.int x3), some (.int x4), some (.int x5)] [] h
  refine mm_iload_n (n := 1) (i := 1) smd_M_rule_0 rfl rfl rfl ?_
  refine mm_callSI (n := 4) (As := [.int x1]) (rest := []) smv_M_isType smw_595 (mm_hRm (by decide) (by decide)) smd_M_rule_1 rfl rfl (Nat.le_of_ble_eq_true rfl) hT (fun r1 h1 hT => ?_)
  refine mm_if_eq (n := 7) (tgt := 43) smd_M_rule_4 rfl rfl (fun hc => ?_) (fun hc => ?_)
  · replace hT := hT.1 hc
    refine mm_iconst (n := 44) (v := -1) smd_M_rule_43 rfl (by decide) ?_
    exact mm_iret rfl smd_M_rule_44 ⟨_, rfl, hT⟩
  · replace hT := hT.2 hc
    refine mm_iload_n (n := 8) (i := 2) smd_M_rule_7 rfl rfl rfl ?_
    refine mm_if_lt (n := 11) (tgt := 43) smd_M_rule_8 rfl rfl (fun hc => ?_) (fun hc => ?_)
    · replace hT := hT.1 hc
      refine mm_iconst (n := 44) (v := -1) smd_M_rule_43 rfl (by decide) ?_
      exact mm_iret rfl smd_M_rule_44 ⟨_, rfl, hT⟩
    · replace hT := hT.2 hc
      refine mm_iload_n (n := 12) (i := 2) smd_M_rule_11 rfl rfl rfl ?_
      refine mm_aload_n (n := 13) (i := 0) smd_M_rule_12 rfl rfl rfl ?_
      refine mm_get (n := 16) (v := .ref (mm_B Γ + 67)) smk_M_16 smb_M rfl smd_M_rule_13 rfl ?_
      refine mm_iconst (n := 17) (v := 3) smd_M_rule_16 rfl (by decide) ?_
      refine mm_iload_n (n := 18) (i := 1) smd_M_rule_17 rfl rfl rfl ?_
      refine mm_iadd (n := 19) smd_M_rule_18 rfl ?_
      refine mm_iald (n := 20) sma_67 hT.1 smd_M_rule_19 rfl ?_
      replace hT := hT.2
      refine mm_icmp_ge (n := 23) (tgt := 43) smd_M_rule_20 rfl rfl (fun hc => ?_) (fun hc => ?_)
      · replace hT := hT.1 hc
        refine mm_iconst (n := 44) (v := -1) smd_M_rule_43 rfl (by decide) ?_
        exact mm_iret rfl smd_M_rule_44 ⟨_, rfl, hT⟩
      · replace hT := hT.2 hc
        refine mm_iload_n (n := 24) (i := 3) smd_M_rule_23 rfl rfl rfl ?_
        refine mm_if_lt (n := 27) (tgt := 43) smd_M_rule_24 rfl rfl (fun hc => ?_) (fun hc => ?_)
        · replace hT := hT.1 hc
          refine mm_iconst (n := 44) (v := -1) smd_M_rule_43 rfl (by decide) ?_
          exact mm_iret rfl smd_M_rule_44 ⟨_, rfl, hT⟩
        · replace hT := hT.2 hc
          refine mm_iload_n (n := 28) (i := 3) smd_M_rule_27 rfl rfl rfl ?_
          refine mm_iconst (n := 29) (v := 2) smd_M_rule_28 rfl (by decide) ?_
          refine mm_icmp_gt (n := 32) (tgt := 43) smd_M_rule_29 rfl rfl (fun hc => ?_) (fun hc => ?_)
          · replace hT := hT.1 hc
            refine mm_iconst (n := 44) (v := -1) smd_M_rule_43 rfl (by decide) ?_
            exact mm_iret rfl smd_M_rule_44 ⟨_, rfl, hT⟩
          · replace hT := hT.2 hc
            refine mm_iload (n := 34) (i := 4) smd_M_rule_32 rfl rfl ?_
            refine mm_if_lt (n := 37) (tgt := 43) smd_M_rule_34 rfl rfl (fun hc => ?_) (fun hc => ?_)
            · replace hT := hT.1 hc
              refine mm_iconst (n := 44) (v := -1) smd_M_rule_43 rfl (by decide) ?_
              exact mm_iret rfl smd_M_rule_44 ⟨_, rfl, hT⟩
            · replace hT := hT.2 hc
              refine mm_iload (n := 39) (i := 4) smd_M_rule_37 rfl rfl ?_
              refine mm_iconst (n := 40) (v := 3) smd_M_rule_39 rfl (by decide) ?_
              refine mm_icmp_le (n := 43) (tgt := 45) smd_M_rule_40 rfl rfl (fun hc => ?_) (fun hc => ?_)
              · replace hT := hT.1 hc
                refine mm_aload_n (n := 46) (i := 0) smd_M_rule_45 rfl rfl rfl ?_
                refine mm_get (n := 49) (v := .int (h1 64 5)) smk_M_63 smb_M rfl smd_M_rule_46 rfl ?_
                refine mm_if_eq (n := 52) (tgt := 55) smd_M_rule_49 rfl rfl (fun hc => ?_) (fun hc => ?_)
                · replace hT := hT.1 hc
                  refine mm_aload_n (n := 56) (i := 0) smd_M_rule_55 rfl rfl rfl ?_
                  refine mm_get (n := 59) (v := .ref (mm_B Γ + 68)) smk_M_19 smb_M rfl smd_M_rule_56 rfl ?_
                  refine mm_bipush (n := 61) (v := 12) smd_M_rule_59 rfl (by decide) ?_
                  refine mm_iload_n (n := 62) (i := 1) smd_M_rule_61 rfl rfl rfl ?_
                  refine mm_imul (n := 63) smd_M_rule_62 rfl ?_
                  refine mm_iconst (n := 64) (v := 3) smd_M_rule_63 rfl (by decide) ?_
                  refine mm_iload_n (n := 65) (i := 2) smd_M_rule_64 rfl rfl rfl ?_
                  refine mm_imul (n := 66) smd_M_rule_65 rfl ?_
                  refine mm_iadd (n := 67) smd_M_rule_66 rfl ?_
                  refine mm_iload_n (n := 68) (i := 3) smd_M_rule_67 rfl rfl rfl ?_
                  refine mm_iast (n := 69) sma_68 hT.1 smd_M_rule_68 rfl ?_
                  replace hT := hT.2
                  refine mm_nam (fun h68 e_h68 => ?_)
                  replace hT := hT h68 e_h68
                  refine mm_aload_n (n := 70) (i := 0) smd_M_rule_69 rfl rfl rfl ?_
                  refine mm_get (n := 73) (v := .ref (mm_B Γ + 68)) smk_M_19 smb_M rfl smd_M_rule_70 rfl ?_
                  refine mm_bipush (n := 75) (v := 12) smd_M_rule_73 rfl (by decide) ?_
                  refine mm_iload_n (n := 76) (i := 1) smd_M_rule_75 rfl rfl rfl ?_
                  refine mm_imul (n := 77) smd_M_rule_76 rfl ?_
                  refine mm_iconst (n := 78) (v := 3) smd_M_rule_77 rfl (by decide) ?_
                  refine mm_iload_n (n := 79) (i := 2) smd_M_rule_78 rfl rfl rfl ?_
                  refine mm_imul (n := 80) smd_M_rule_79 rfl ?_
                  refine mm_iadd (n := 81) smd_M_rule_80 rfl ?_
                  refine mm_iconst (n := 82) (v := 1) smd_M_rule_81 rfl (by decide) ?_
                  refine mm_iadd (n := 83) smd_M_rule_82 rfl ?_
                  refine mm_iload (n := 85) (i := 4) smd_M_rule_83 rfl rfl ?_
                  refine mm_iast (n := 86) sma_68 hT.1 smd_M_rule_85 rfl ?_
                  replace hT := hT.2
                  refine mm_nam (fun h85 e_h85 => ?_)
                  replace hT := hT h85 e_h85
                  refine mm_aload_n (n := 87) (i := 0) smd_M_rule_86 rfl rfl rfl ?_
                  refine mm_get (n := 90) (v := .ref (mm_B Γ + 68)) smk_M_19 smb_M rfl smd_M_rule_87 rfl ?_
                  refine mm_bipush (n := 92) (v := 12) smd_M_rule_90 rfl (by decide) ?_
                  refine mm_iload_n (n := 93) (i := 1) smd_M_rule_92 rfl rfl rfl ?_
                  refine mm_imul (n := 94) smd_M_rule_93 rfl ?_
                  refine mm_iconst (n := 95) (v := 3) smd_M_rule_94 rfl (by decide) ?_
                  refine mm_iload_n (n := 96) (i := 2) smd_M_rule_95 rfl rfl rfl ?_
                  refine mm_imul (n := 97) smd_M_rule_96 rfl ?_
                  refine mm_iadd (n := 98) smd_M_rule_97 rfl ?_
                  refine mm_iconst (n := 99) (v := 2) smd_M_rule_98 rfl (by decide) ?_
                  refine mm_iadd (n := 100) smd_M_rule_99 rfl ?_
                  refine mm_iload (n := 102) (i := 5) smd_M_rule_100 rfl rfl ?_
                  refine mm_iast (n := 103) sma_68 hT.1 smd_M_rule_102 rfl ?_
                  replace hT := hT.2
                  refine mm_nam (fun h102 e_h102 => ?_)
                  replace hT := hT h102 e_h102
                  refine mm_aload_n (n := 104) (i := 0) smd_M_rule_103 rfl rfl rfl ?_
                  refine mm_get (n := 107) (v := .ref (mm_B Γ + 69)) smk_M_22 smb_M rfl smd_M_rule_104 rfl ?_
                  refine mm_iload_n (n := 108) (i := 1) smd_M_rule_107 rfl rfl rfl ?_
                  refine mm_iconst (n := 109) (v := 1) smd_M_rule_108 rfl (by decide) ?_
                  refine mm_zast (n := 110) sma_69 hT.1 (Or.inr rfl) smd_M_rule_109 rfl ?_
                  replace hT := hT.2
                  refine mm_nam (fun h109 e_h109 => ?_)
                  replace hT := hT h109 e_h109
                  refine mm_iconst (n := 111) (v := 0) smd_M_rule_110 rfl (by decide) ?_
                  exact mm_iret rfl smd_M_rule_111 ⟨_, rfl, hT⟩
                · replace hT := hT.2 hc
                  refine mm_bipush (n := 54) (v := -2) smd_M_rule_52 rfl (by decide) ?_
                  exact mm_iret rfl smd_M_rule_54 ⟨_, rfl, hT⟩
              · replace hT := hT.2 hc
                refine mm_iconst (n := 44) (v := -1) smd_M_rule_43 rfl (by decide) ?_
                exact mm_iret rfl smd_M_rule_44 ⟨_, rfl, hT⟩
set_option maxHeartbeats 4000000 in
set_option maxRecDepth 100000 in
theorem smr_M_settle {Γ : mm_Ctx} {post : mm_Mem → Prop} {h : mm_Mem}  (hT : mm_W Γ smM_M_settle (mm_pV post) 2 [some (.ref (mm_B Γ + 64)), some (.int (0 : Int32))] [] h) : mm_SV Γ smM_M_settle [.ref (mm_B Γ + 64)] h post := by
  refine mm_spec0 (M := smM_M_settle) 1 (by decide +kernel) rfl (Nat.le_of_ble_eq_true rfl) ?_
  show mm_W Γ smM_M_settle (mm_pV post) 0 [some (.ref (mm_B Γ + 64)), none] [] h
  refine mm_iconst (n := 1) (v := 0) smd_M_settle_0 rfl (by decide) ?_
  refine mm_istore_n (n := 2) (i := 1) (L' := [some (.ref (mm_B Γ + 64)), some (.int (0 : Int32))]) smd_M_settle_1 rfl rfl (by decide) rfl ?_
  exact mm_weak (by refine ⟨rfl, rfl, trivial⟩) hT
set_option maxHeartbeats 4000000 in
set_option maxRecDepth 100000 in
theorem smr_M_settle_2 {Γ : mm_Ctx} {post : mm_Mem → Prop} {h : mm_Mem} (x1 : Int32) (hT : ((3 : Int32) ≤ x1 → (post h)) ∧ (¬ (3 : Int32) ≤ x1 → (mm_SV Γ smM_M_clearRules [.ref (mm_B Γ + 64), .int x1] h (fun h9 => (vp_in x1 3) ∧ (∀ h18 : mm_Mem, h18 = mm_wr h9 69 x1.toNatClampNeg (0 : Int32) → (mm_W Γ smM_M_settle (mm_pV post) 2 [some (.ref (mm_B Γ + 64)), some (.int (x1 + (1 : Int32)))] [] h18)))))) : mm_W Γ smM_M_settle (mm_pV post) 2 [some (.ref (mm_B Γ + 64)), some (.int x1)] [] h := by
  refine mm_iload_n (n := 3) (i := 1) smd_M_settle_2 rfl rfl rfl ?_
  refine mm_iconst (n := 4) (v := 3) smd_M_settle_3 rfl (by decide) ?_
  refine mm_icmp_ge (n := 7) (tgt := 25) smd_M_settle_4 rfl rfl (fun hc => ?_) (fun hc => ?_)
  · replace hT := hT.1 hc
    exact mm_vret rfl smd_M_settle_25 ⟨rfl, hT⟩
  · replace hT := hT.2 hc
    refine mm_aload_n (n := 8) (i := 0) smd_M_settle_7 rfl rfl rfl ?_
    refine mm_iload_n (n := 9) (i := 1) smd_M_settle_8 rfl rfl rfl ?_
    refine mm_callVV (n := 12) (As := [.int x1]) (rest := []) smv_M_clearRules smw_598 smb_M (mm_hRm (by decide) (by decide)) smd_M_settle_9 rfl rfl (Nat.le_of_ble_eq_true rfl) hT (fun h9 hT => ?_)
    refine mm_aload_n (n := 13) (i := 0) smd_M_settle_12 rfl rfl rfl ?_
    refine mm_get (n := 16) (v := .ref (mm_B Γ + 69)) smk_M_22 smb_M rfl smd_M_settle_13 rfl ?_
    refine mm_iload_n (n := 17) (i := 1) smd_M_settle_16 rfl rfl rfl ?_
    refine mm_iconst (n := 18) (v := 0) smd_M_settle_17 rfl (by decide) ?_
    refine mm_zast (n := 19) sma_69 hT.1 (Or.inl rfl) smd_M_settle_18 rfl ?_
    replace hT := hT.2
    refine mm_nam (fun h18 e_h18 => ?_)
    replace hT := hT h18 e_h18
    refine mm_iinc (n := 22) (i := 1) (d := 1) (L' := [some (.ref (mm_B Γ + 64)), some (.int (x1 + (1 : Int32)))]) smd_M_settle_19 rfl rfl (by decide) (by decide) rfl ?_
    refine mm_goto (n := 2) smd_M_settle_22 rfl ?_
    exact mm_weak (by refine ⟨rfl, rfl, trivial⟩) hT
set_option maxHeartbeats 4000000 in
set_option maxRecDepth 100000 in
theorem smr_M_reset {Γ : mm_Ctx} {post : Int32 → mm_Mem → Prop} {h : mm_Mem}  (hT : ((h 64 5) = 0 → (mm_W Γ smM_M_reset (mm_pI post) 11 [some (.ref (mm_B Γ + 64)), some (.int (0 : Int32))] [] h)) ∧ (¬ (h 64 5) = 0 → (post (0 : Int32) h))) : mm_SI Γ smM_M_reset [.ref (mm_B Γ + 64)] h post := by
  refine mm_spec0 (M := smM_M_reset) 1 (by decide +kernel) rfl (Nat.le_of_ble_eq_true rfl) ?_
  show mm_W Γ smM_M_reset (mm_pI post) 0 [some (.ref (mm_B Γ + 64)), none] [] h
  refine mm_aload_n (n := 1) (i := 0) smd_M_reset_0 rfl rfl rfl ?_
  refine mm_get (n := 4) (v := .int (h 64 5)) smk_M_63 smb_M rfl smd_M_reset_1 rfl ?_
  refine mm_if_eq (n := 7) (tgt := 9) smd_M_reset_4 rfl rfl (fun hc => ?_) (fun hc => ?_)
  · replace hT := hT.1 hc
    refine mm_iconst (n := 10) (v := 0) smd_M_reset_9 rfl (by decide) ?_
    refine mm_istore_n (n := 11) (i := 1) (L' := [some (.ref (mm_B Γ + 64)), some (.int (0 : Int32))]) smd_M_reset_10 rfl rfl (by decide) rfl ?_
    exact mm_weak (by refine ⟨rfl, rfl, trivial⟩) hT
  · replace hT := hT.2 hc
    refine mm_iconst (n := 8) (v := 0) smd_M_reset_7 rfl (by decide) ?_
    exact mm_zret rfl (Or.inl rfl) smd_M_reset_8 ⟨_, rfl, hT⟩
set_option maxHeartbeats 4000000 in
set_option maxRecDepth 100000 in
theorem smr_M_reset_11 {Γ : mm_Ctx} {post : Int32 → mm_Mem → Prop} {h : mm_Mem} (x1 : Int32) (hT : ((288 : Int32) ≤ x1 → (mm_W Γ smM_M_reset (mm_pI post) 42 [some (.ref (mm_B Γ + 64)), some (.int (0 : Int32))] [] h)) ∧ (¬ (288 : Int32) ≤ x1 → ((vp_in x1 576) ∧ ((vp_in ((288 : Int32) + x1) 576) ∧ (∀ h33 : mm_Mem, h33 = mm_wr h 65 ((288 : Int32) + x1).toNatClampNeg (h 65 x1.toNatClampNeg) → (mm_W Γ smM_M_reset (mm_pI post) 11 [some (.ref (mm_B Γ + 64)), some (.int (x1 + (1 : Int32)))] [] h33)))))) : mm_W Γ smM_M_reset (mm_pI post) 11 [some (.ref (mm_B Γ + 64)), some (.int x1)] [] h := by
  refine mm_iload_n (n := 12) (i := 1) smd_M_reset_11 rfl rfl rfl ?_
  refine mm_sipush (n := 15) (v := 288) smd_M_reset_12 rfl (by decide) ?_
  refine mm_icmp_ge (n := 18) (tgt := 40) smd_M_reset_15 rfl rfl (fun hc => ?_) (fun hc => ?_)
  · replace hT := hT.1 hc
    refine mm_iconst (n := 41) (v := 0) smd_M_reset_40 rfl (by decide) ?_
    refine mm_istore_n (n := 42) (i := 1) (L' := [some (.ref (mm_B Γ + 64)), some (.int (0 : Int32))]) smd_M_reset_41 rfl rfl (by decide) rfl ?_
    exact mm_weak (by refine ⟨rfl, rfl, trivial⟩) hT
  · replace hT := hT.2 hc
    refine mm_aload_n (n := 19) (i := 0) smd_M_reset_18 rfl rfl rfl ?_
    refine mm_get (n := 22) (v := .ref (mm_B Γ + 65)) smk_M_7 smb_M rfl smd_M_reset_19 rfl ?_
    refine mm_sipush (n := 25) (v := 288) smd_M_reset_22 rfl (by decide) ?_
    refine mm_iload_n (n := 26) (i := 1) smd_M_reset_25 rfl rfl rfl ?_
    refine mm_iadd (n := 27) smd_M_reset_26 rfl ?_
    refine mm_aload_n (n := 28) (i := 0) smd_M_reset_27 rfl rfl rfl ?_
    refine mm_get (n := 31) (v := .ref (mm_B Γ + 65)) smk_M_7 smb_M rfl smd_M_reset_28 rfl ?_
    refine mm_iload_n (n := 32) (i := 1) smd_M_reset_31 rfl rfl rfl ?_
    refine mm_iald (n := 33) sma_65 hT.1 smd_M_reset_32 rfl ?_
    replace hT := hT.2
    refine mm_iast (n := 34) sma_65 hT.1 smd_M_reset_33 rfl ?_
    replace hT := hT.2
    refine mm_nam (fun h33 e_h33 => ?_)
    replace hT := hT h33 e_h33
    refine mm_iinc (n := 37) (i := 1) (d := 1) (L' := [some (.ref (mm_B Γ + 64)), some (.int (x1 + (1 : Int32)))]) smd_M_reset_34 rfl rfl (by decide) (by decide) rfl ?_
    refine mm_goto (n := 11) smd_M_reset_37 rfl ?_
    exact mm_weak (by refine ⟨rfl, rfl, trivial⟩) hT
set_option maxHeartbeats 4000000 in
set_option maxRecDepth 100000 in
theorem smr_M_reset_42 {Γ : mm_Ctx} {post : Int32 → mm_Mem → Prop} {h : mm_Mem} (x1 : Int32) (hT : ((6 : Int32) ≤ x1 → (mm_W Γ smM_M_reset (mm_pI post) 71 [some (.ref (mm_B Γ + 64)), some (.int (0 : Int32))] [] h)) ∧ (¬ (6 : Int32) ≤ x1 → ((vp_in x1 12) ∧ ((vp_in ((6 : Int32) + x1) 12) ∧ (∀ h62 : mm_Mem, h62 = mm_wr h 66 ((6 : Int32) + x1).toNatClampNeg (h 66 x1.toNatClampNeg) → (mm_W Γ smM_M_reset (mm_pI post) 42 [some (.ref (mm_B Γ + 64)), some (.int (x1 + (1 : Int32)))] [] h62)))))) : mm_W Γ smM_M_reset (mm_pI post) 42 [some (.ref (mm_B Γ + 64)), some (.int x1)] [] h := by
  refine mm_iload_n (n := 43) (i := 1) smd_M_reset_42 rfl rfl rfl ?_
  refine mm_bipush (n := 45) (v := 6) smd_M_reset_43 rfl (by decide) ?_
  refine mm_icmp_ge (n := 48) (tgt := 69) smd_M_reset_45 rfl rfl (fun hc => ?_) (fun hc => ?_)
  · replace hT := hT.1 hc
    refine mm_iconst (n := 70) (v := 0) smd_M_reset_69 rfl (by decide) ?_
    refine mm_istore_n (n := 71) (i := 1) (L' := [some (.ref (mm_B Γ + 64)), some (.int (0 : Int32))]) smd_M_reset_70 rfl rfl (by decide) rfl ?_
    exact mm_weak (by refine ⟨rfl, rfl, trivial⟩) hT
  · replace hT := hT.2 hc
    refine mm_aload_n (n := 49) (i := 0) smd_M_reset_48 rfl rfl rfl ?_
    refine mm_get (n := 52) (v := .ref (mm_B Γ + 66)) smk_M_13 smb_M rfl smd_M_reset_49 rfl ?_
    refine mm_bipush (n := 54) (v := 6) smd_M_reset_52 rfl (by decide) ?_
    refine mm_iload_n (n := 55) (i := 1) smd_M_reset_54 rfl rfl rfl ?_
    refine mm_iadd (n := 56) smd_M_reset_55 rfl ?_
    refine mm_aload_n (n := 57) (i := 0) smd_M_reset_56 rfl rfl rfl ?_
    refine mm_get (n := 60) (v := .ref (mm_B Γ + 66)) smk_M_13 smb_M rfl smd_M_reset_57 rfl ?_
    refine mm_iload_n (n := 61) (i := 1) smd_M_reset_60 rfl rfl rfl ?_
    refine mm_iald (n := 62) sma_66 hT.1 smd_M_reset_61 rfl ?_
    replace hT := hT.2
    refine mm_iast (n := 63) sma_66 hT.1 smd_M_reset_62 rfl ?_
    replace hT := hT.2
    refine mm_nam (fun h62 e_h62 => ?_)
    replace hT := hT h62 e_h62
    refine mm_iinc (n := 66) (i := 1) (d := 1) (L' := [some (.ref (mm_B Γ + 64)), some (.int (x1 + (1 : Int32)))]) smd_M_reset_63 rfl rfl (by decide) (by decide) rfl ?_
    refine mm_goto (n := 42) smd_M_reset_66 rfl ?_
    exact mm_weak (by refine ⟨rfl, rfl, trivial⟩) hT
set_option maxHeartbeats 4000000 in
set_option maxRecDepth 100000 in
theorem smr_M_reset_71 {Γ : mm_Ctx} {post : Int32 → mm_Mem → Prop} {h : mm_Mem} (x1 : Int32) (hT : ((3 : Int32) ≤ x1 → (mm_SV Γ smM_M_settle [.ref (mm_B Γ + 64)] h (fun h97 => post (1 : Int32) h97))) ∧ (¬ (3 : Int32) ≤ x1 → ((vp_in x1 6) ∧ ((vp_in ((3 : Int32) + x1) 6) ∧ (∀ h89 : mm_Mem, h89 = mm_wr h 67 ((3 : Int32) + x1).toNatClampNeg (h 67 x1.toNatClampNeg) → (mm_W Γ smM_M_reset (mm_pI post) 71 [some (.ref (mm_B Γ + 64)), some (.int (x1 + (1 : Int32)))] [] h89)))))) : mm_W Γ smM_M_reset (mm_pI post) 71 [some (.ref (mm_B Γ + 64)), some (.int x1)] [] h := by
  refine mm_iload_n (n := 72) (i := 1) smd_M_reset_71 rfl rfl rfl ?_
  refine mm_iconst (n := 73) (v := 3) smd_M_reset_72 rfl (by decide) ?_
  refine mm_icmp_ge (n := 76) (tgt := 96) smd_M_reset_73 rfl rfl (fun hc => ?_) (fun hc => ?_)
  · replace hT := hT.1 hc
    refine mm_aload_n (n := 97) (i := 0) smd_M_reset_96 rfl rfl rfl ?_
    refine mm_callVV (n := 100) (As := []) (rest := []) smv_M_settle smw_610 smb_M (mm_hRm (by decide) (by decide)) smd_M_reset_97 rfl rfl (Nat.le_of_ble_eq_true rfl) hT (fun h97 hT => ?_)
    refine mm_iconst (n := 101) (v := 1) smd_M_reset_100 rfl (by decide) ?_
    exact mm_zret rfl (Or.inr rfl) smd_M_reset_101 ⟨_, rfl, hT⟩
  · replace hT := hT.2 hc
    refine mm_aload_n (n := 77) (i := 0) smd_M_reset_76 rfl rfl rfl ?_
    refine mm_get (n := 80) (v := .ref (mm_B Γ + 67)) smk_M_16 smb_M rfl smd_M_reset_77 rfl ?_
    refine mm_iconst (n := 81) (v := 3) smd_M_reset_80 rfl (by decide) ?_
    refine mm_iload_n (n := 82) (i := 1) smd_M_reset_81 rfl rfl rfl ?_
    refine mm_iadd (n := 83) smd_M_reset_82 rfl ?_
    refine mm_aload_n (n := 84) (i := 0) smd_M_reset_83 rfl rfl rfl ?_
    refine mm_get (n := 87) (v := .ref (mm_B Γ + 67)) smk_M_16 smb_M rfl smd_M_reset_84 rfl ?_
    refine mm_iload_n (n := 88) (i := 1) smd_M_reset_87 rfl rfl rfl ?_
    refine mm_iald (n := 89) sma_67 hT.1 smd_M_reset_88 rfl ?_
    replace hT := hT.2
    refine mm_iast (n := 90) sma_67 hT.1 smd_M_reset_89 rfl ?_
    replace hT := hT.2
    refine mm_nam (fun h89 e_h89 => ?_)
    replace hT := hT h89 e_h89
    refine mm_iinc (n := 93) (i := 1) (d := 1) (L' := [some (.ref (mm_B Γ + 64)), some (.int (x1 + (1 : Int32)))]) smd_M_reset_90 rfl rfl (by decide) (by decide) rfl ?_
    refine mm_goto (n := 71) smd_M_reset_93 rfl ?_
    exact mm_weak (by refine ⟨rfl, rfl, trivial⟩) hT
set_option maxHeartbeats 4000000 in
set_option maxRecDepth 100000 in
theorem smr_M_isField {Γ : mm_Ctx} {post : Int32 → mm_Mem → Prop} {h : mm_Mem} (x1 : Int32) (hT : (x1 < 0 → (post (0 : Int32) h)) ∧ (¬ x1 < 0 → (((12 : Int32) ≤ x1 → (post (0 : Int32) h)) ∧ (¬ (12 : Int32) ≤ x1 → ((vp_in ((3 : Int32) + (x1 / (4 : Int32))) 6) ∧ (((h 67 ((3 : Int32) + (x1 / (4 : Int32))).toNatClampNeg) ≤ (x1 - x1 / (4 : Int32) * (4 : Int32)) → (post (0 : Int32) h)) ∧ (¬ (h 67 ((3 : Int32) + (x1 / (4 : Int32))).toNatClampNeg) ≤ (x1 - x1 / (4 : Int32) * (4 : Int32)) → (post (1 : Int32) h)))))))) : mm_SI Γ smM_M_isField [.ref (mm_B Γ + 64), .int x1] h post := by
  refine mm_spec0 (M := smM_M_isField) 0 (by decide +kernel) rfl (Nat.le_of_ble_eq_true rfl) ?_
  show mm_W Γ smM_M_isField (mm_pI post) 0 [some (.ref (mm_B Γ + 64)), some (.int x1)] [] h
  refine mm_iload_n (n := 1) (i := 1) smd_M_isField_0 rfl rfl rfl ?_
  refine mm_if_lt (n := 4) (tgt := 30) smd_M_isField_1 rfl rfl (fun hc => ?_) (fun hc => ?_)
  · replace hT := hT.1 hc
    refine mm_iconst (n := 31) (v := 0) smd_M_isField_30 rfl (by decide) ?_
    exact mm_zret rfl (Or.inl rfl) smd_M_isField_31 ⟨_, rfl, hT⟩
  · replace hT := hT.2 hc
    refine mm_iload_n (n := 5) (i := 1) smd_M_isField_4 rfl rfl rfl ?_
    refine mm_bipush (n := 7) (v := 12) smd_M_isField_5 rfl (by decide) ?_
    refine mm_icmp_ge (n := 10) (tgt := 30) smd_M_isField_7 rfl rfl (fun hc => ?_) (fun hc => ?_)
    · replace hT := hT.1 hc
      refine mm_iconst (n := 31) (v := 0) smd_M_isField_30 rfl (by decide) ?_
      exact mm_zret rfl (Or.inl rfl) smd_M_isField_31 ⟨_, rfl, hT⟩
    · replace hT := hT.2 hc
      refine mm_iload_n (n := 11) (i := 1) smd_M_isField_10 rfl rfl rfl ?_
      refine mm_iconst (n := 12) (v := 4) smd_M_isField_11 rfl (by decide) ?_
      refine mm_irem (n := 13) smd_M_isField_12 rfl (by decide) ?_
      refine mm_aload_n (n := 14) (i := 0) smd_M_isField_13 rfl rfl rfl ?_
      refine mm_get (n := 17) (v := .ref (mm_B Γ + 67)) smk_M_16 smb_M rfl smd_M_isField_14 rfl ?_
      refine mm_iconst (n := 18) (v := 3) smd_M_isField_17 rfl (by decide) ?_
      refine mm_iload_n (n := 19) (i := 1) smd_M_isField_18 rfl rfl rfl ?_
      refine mm_iconst (n := 20) (v := 4) smd_M_isField_19 rfl (by decide) ?_
      refine mm_idiv (n := 21) smd_M_isField_20 rfl (by decide) ?_
      refine mm_iadd (n := 22) smd_M_isField_21 rfl ?_
      refine mm_iald (n := 23) sma_67 hT.1 smd_M_isField_22 rfl ?_
      replace hT := hT.2
      refine mm_icmp_ge (n := 26) (tgt := 30) smd_M_isField_23 rfl rfl (fun hc => ?_) (fun hc => ?_)
      · replace hT := hT.1 hc
        refine mm_iconst (n := 31) (v := 0) smd_M_isField_30 rfl (by decide) ?_
        exact mm_zret rfl (Or.inl rfl) smd_M_isField_31 ⟨_, rfl, hT⟩
      · replace hT := hT.2 hc
        refine mm_iconst (n := 27) (v := 1) smd_M_isField_26 rfl (by decide) ?_
        refine mm_goto (n := 31) smd_M_isField_27 rfl ?_
        exact mm_zret rfl (Or.inr rfl) smd_M_isField_31 ⟨_, rfl, hT⟩
set_option maxHeartbeats 4000000 in
set_option maxRecDepth 100000 in
theorem smr_M_isRight {Γ : mm_Ctx} {post : Int32 → mm_Mem → Prop} {h : mm_Mem} (x1 : Int32) (x2 : Int32) (hT : ∀ y3_12 : Int32, y3_12 = ((288 : Int32) + ((48 : Int32) * x1)) + ((4 : Int32) * x2) → ((vp_in y3_12 576) ∧ (∀ y4_19 : Int32, y4_19 = h 65 y3_12.toNatClampNeg → ((vp_in (y3_12 + (1 : Int32)) 576) ∧ (∀ y5_29 : Int32, y5_29 = h 65 (y3_12 + (1 : Int32)).toNatClampNeg → ((vp_in (y3_12 + (2 : Int32)) 576) ∧ (∀ y6_39 : Int32, y6_39 = h 65 (y3_12 + (2 : Int32)).toNatClampNeg → ((vp_in (y3_12 + (3 : Int32)) 576) ∧ (∀ y7_49 : Int32, y7_49 = h 65 (y3_12 + (3 : Int32)).toNatClampNeg → ((y4_19 = 0 ∨ y4_19 = 1 ∨ y4_19 = 11 → (mm_SI Γ smM_M_isLocal [.int y5_29] h (fun r122 h122 => (r122 = 0 ∨ r122 = 1) ∧ post r122 h122))) ∧ (y4_19 = 2 ∨ y4_19 = 3 → (mm_SI Γ smM_M_isLocal [.int y5_29] h (fun r128 h128 => (r128 = 0 → (post (0 : Int32) h128)) ∧ (¬ r128 = 0 → (mm_SI Γ smM_M_isLocal [.int y6_39] h128 (fun r136 h136 => (r136 = 0 → (post (0 : Int32) h136)) ∧ (¬ r136 = 0 → (mm_SI Γ smM_M_isLocal [.int y7_49] h136 (fun r144 h144 => (r144 = 0 → (post (0 : Int32) h144)) ∧ (¬ r144 = 0 → (post (1 : Int32) h144))))))))))) ∧ (y4_19 = 4 → (mm_SI Γ smM_M_isLocal [.int y5_29] h (fun r158 h158 => (r158 = 0 → (post (0 : Int32) h158)) ∧ (¬ r158 = 0 → ((y6_39 < 0 → (post (0 : Int32) h158)) ∧ (¬ y6_39 < 0 → ((vp_in ((6 : Int32) + x1) 12) ∧ (((h158 66 ((6 : Int32) + x1).toNatClampNeg) ≤ y6_39 → (post (0 : Int32) h158)) ∧ (¬ (h158 66 ((6 : Int32) + x1).toNatClampNeg) ≤ y6_39 → (post (1 : Int32) h158)))))))))) ∧ (y4_19 = 5 → (mm_SI Γ smM_M_isLocal [.int y5_29] h (fun r191 h191 => (r191 = 0 → (post (0 : Int32) h191)) ∧ (¬ r191 = 0 → (mm_SI Γ smM_M_isLocal [.int y7_49] h191 (fun r199 h199 => (r199 = 0 → (post (0 : Int32) h199)) ∧ (¬ r199 = 0 → (mm_SI Γ smM_M_isProcedure [.int y6_39] h199 (fun r207 h207 => (r207 = 0 → (post (0 : Int32) h207)) ∧ (¬ r207 = 0 → ((vp_in ((6 : Int32) + y6_39) 12) ∧ (((h207 66 ((6 : Int32) + y6_39).toNatClampNeg) ≤ 0 → (post (0 : Int32) h207)) ∧ (¬ (h207 66 ((6 : Int32) + y6_39).toNatClampNeg) ≤ 0 → (post (1 : Int32) h207)))))))))))))) ∧ (y4_19 = 6 → (mm_SI Γ smM_M_isLocal [.int y5_29] h (fun r234 h234 => (r234 = 0 → (post (0 : Int32) h234)) ∧ (¬ r234 = 0 → (mm_SI Γ smM_M_isType [.int y6_39] h234 (fun r242 h242 => (r242 = 0 → (post (0 : Int32) h242)) ∧ (¬ r242 = 0 → ((vp_in ((3 : Int32) + y6_39) 6) ∧ (((h242 67 ((3 : Int32) + y6_39).toNatClampNeg) ≤ 0 → (post (0 : Int32) h242)) ∧ (¬ (h242 67 ((3 : Int32) + y6_39).toNatClampNeg) ≤ 0 → (post (1 : Int32) h242))))))))))) ∧ (y4_19 = 7 ∨ y4_19 = 8 → (mm_SI Γ smM_M_isLocal [.int y5_29] h (fun r268 h268 => (r268 = 0 → (post (0 : Int32) h268)) ∧ (¬ r268 = 0 → (mm_SI Γ smM_M_isLocal [.int y6_39] h268 (fun r276 h276 => (r276 = 0 → (post (0 : Int32) h276)) ∧ (¬ r276 = 0 → (mm_SI Γ smM_M_isField [.ref (mm_B Γ + 64), .int y7_49] h276 (fun r285 h285 => (r285 = 0 → (post (0 : Int32) h285)) ∧ (¬ r285 = 0 → (post (1 : Int32) h285))))))))))) ∧ (y4_19 = 9 ∨ y4_19 = 10 → (mm_SI Γ smM_M_isLocal [.int y5_29] h (fun r299 h299 => (r299 = 0 → (post (0 : Int32) h299)) ∧ (¬ r299 = 0 → ((y6_39 < 0 → (post (0 : Int32) h299)) ∧ (¬ y6_39 < 0 → (((4 : Int32) ≤ y6_39 → (post (0 : Int32) h299)) ∧ (¬ (4 : Int32) ≤ y6_39 → (post (1 : Int32) h299))))))))) ∧ (y4_19 = 12 → ((y5_29 < 0 → (post (0 : Int32) h)) ∧ (¬ y5_29 < 0 → (((4 : Int32) ≤ y5_29 → (post (0 : Int32) h)) ∧ (¬ (4 : Int32) ≤ y5_29 → (post (1 : Int32) h)))))) ∧ (¬ y4_19 = 0 → ¬ y4_19 = 1 → ¬ y4_19 = 2 → ¬ y4_19 = 3 → ¬ y4_19 = 4 → ¬ y4_19 = 5 → ¬ y4_19 = 6 → ¬ y4_19 = 7 → ¬ y4_19 = 8 → ¬ y4_19 = 9 → ¬ y4_19 = 10 → ¬ y4_19 = 11 → ¬ y4_19 = 12 → (post (0 : Int32) h)))))))))))) : mm_SI Γ smM_M_isRight [.ref (mm_B Γ + 64), .int x1, .int x2] h post := by
  refine mm_spec0 (M := smM_M_isRight) 5 (by decide +kernel) rfl (Nat.le_of_ble_eq_true rfl) ?_
  show mm_W Γ smM_M_isRight (mm_pI post) 0 [some (.ref (mm_B Γ + 64)), some (.int x1), some (.int x2), none, none, none, none, none] [] h
  refine mm_sipush (n := 3) (v := 288) smd_M_isRight_0 rfl (by decide) ?_
  refine mm_bipush (n := 5) (v := 48) smd_M_isRight_3 rfl (by decide) ?_
  refine mm_iload_n (n := 6) (i := 1) smd_M_isRight_5 rfl rfl rfl ?_
  refine mm_imul (n := 7) smd_M_isRight_6 rfl ?_
  refine mm_iadd (n := 8) smd_M_isRight_7 rfl ?_
  refine mm_iconst (n := 9) (v := 4) smd_M_isRight_8 rfl (by decide) ?_
  refine mm_iload_n (n := 10) (i := 2) smd_M_isRight_9 rfl rfl rfl ?_
  refine mm_imul (n := 11) smd_M_isRight_10 rfl ?_
  refine mm_iadd (n := 12) smd_M_isRight_11 rfl ?_
  refine mm_top (fun y3_12 e_y3_12 => ?_)
  replace hT := hT y3_12 e_y3_12
  refine mm_istore_n (n := 13) (i := 3) (L' := [some (.ref (mm_B Γ + 64)), some (.int x1), some (.int x2), some (.int y3_12), none, none, none, none]) smd_M_isRight_12 rfl rfl (by decide) rfl ?_
  refine mm_aload_n (n := 14) (i := 0) smd_M_isRight_13 rfl rfl rfl ?_
  refine mm_get (n := 17) (v := .ref (mm_B Γ + 65)) smk_M_7 smb_M rfl smd_M_isRight_14 rfl ?_
  refine mm_iload_n (n := 18) (i := 3) smd_M_isRight_17 rfl rfl rfl ?_
  refine mm_iald (n := 19) sma_65 hT.1 smd_M_isRight_18 rfl ?_
  replace hT := hT.2
  refine mm_top (fun y4_19 e_y4_19 => ?_)
  replace hT := hT y4_19 e_y4_19
  refine mm_istore (n := 21) (i := 4) (L' := [some (.ref (mm_B Γ + 64)), some (.int x1), some (.int x2), some (.int y3_12), some (.int y4_19), none, none, none]) smd_M_isRight_19 rfl (by decide) rfl ?_
  refine mm_aload_n (n := 22) (i := 0) smd_M_isRight_21 rfl rfl rfl ?_
  refine mm_get (n := 25) (v := .ref (mm_B Γ + 65)) smk_M_7 smb_M rfl smd_M_isRight_22 rfl ?_
  refine mm_iload_n (n := 26) (i := 3) smd_M_isRight_25 rfl rfl rfl ?_
  refine mm_iconst (n := 27) (v := 1) smd_M_isRight_26 rfl (by decide) ?_
  refine mm_iadd (n := 28) smd_M_isRight_27 rfl ?_
  refine mm_iald (n := 29) sma_65 hT.1 smd_M_isRight_28 rfl ?_
  replace hT := hT.2
  refine mm_top (fun y5_29 e_y5_29 => ?_)
  replace hT := hT y5_29 e_y5_29
  refine mm_istore (n := 31) (i := 5) (L' := [some (.ref (mm_B Γ + 64)), some (.int x1), some (.int x2), some (.int y3_12), some (.int y4_19), some (.int y5_29), none, none]) smd_M_isRight_29 rfl (by decide) rfl ?_
  refine mm_aload_n (n := 32) (i := 0) smd_M_isRight_31 rfl rfl rfl ?_
  refine mm_get (n := 35) (v := .ref (mm_B Γ + 65)) smk_M_7 smb_M rfl smd_M_isRight_32 rfl ?_
  refine mm_iload_n (n := 36) (i := 3) smd_M_isRight_35 rfl rfl rfl ?_
  refine mm_iconst (n := 37) (v := 2) smd_M_isRight_36 rfl (by decide) ?_
  refine mm_iadd (n := 38) smd_M_isRight_37 rfl ?_
  refine mm_iald (n := 39) sma_65 hT.1 smd_M_isRight_38 rfl ?_
  replace hT := hT.2
  refine mm_top (fun y6_39 e_y6_39 => ?_)
  replace hT := hT y6_39 e_y6_39
  refine mm_istore (n := 41) (i := 6) (L' := [some (.ref (mm_B Γ + 64)), some (.int x1), some (.int x2), some (.int y3_12), some (.int y4_19), some (.int y5_29), some (.int y6_39), none]) smd_M_isRight_39 rfl (by decide) rfl ?_
  refine mm_aload_n (n := 42) (i := 0) smd_M_isRight_41 rfl rfl rfl ?_
  refine mm_get (n := 45) (v := .ref (mm_B Γ + 65)) smk_M_7 smb_M rfl smd_M_isRight_42 rfl ?_
  refine mm_iload_n (n := 46) (i := 3) smd_M_isRight_45 rfl rfl rfl ?_
  refine mm_iconst (n := 47) (v := 3) smd_M_isRight_46 rfl (by decide) ?_
  refine mm_iadd (n := 48) smd_M_isRight_47 rfl ?_
  refine mm_iald (n := 49) sma_65 hT.1 smd_M_isRight_48 rfl ?_
  replace hT := hT.2
  refine mm_top (fun y7_49 e_y7_49 => ?_)
  replace hT := hT y7_49 e_y7_49
  refine mm_istore (n := 51) (i := 7) (L' := [some (.ref (mm_B Γ + 64)), some (.int x1), some (.int x2), some (.int y3_12), some (.int y4_19), some (.int y5_29), some (.int y6_39), some (.int y7_49)]) smd_M_isRight_49 rfl (by decide) rfl ?_
  refine mm_iload (n := 53) (i := 4) smd_M_isRight_51 rfl rfl ?_
  by_cases e : y4_19 = 0
  · refine mm_tIn (tgt := 120) smd_M_isRight_53 0 e (by decide) (by decide) rfl rfl ?_
    replace hT := hT.1 (Or.inl e)
    refine mm_iload (n := 122) (i := 5) smd_M_isRight_120 rfl rfl ?_
    refine mm_callSI (n := 125) (As := [.int y5_29]) (rest := []) smv_M_isLocal smw_622 (mm_hRm (by decide) (by decide)) smd_M_isRight_122 rfl rfl (Nat.le_of_ble_eq_true rfl) hT (fun r122 h122 hT => ?_)
    exact mm_zret rfl hT.1 smd_M_isRight_125 ⟨_, rfl, hT.2⟩
  have n0 := e
  clear e
  by_cases e : y4_19 = 1
  · refine mm_tIn (tgt := 120) smd_M_isRight_53 1 e (by decide) (by decide) rfl rfl ?_
    replace hT := hT.1 (Or.inr (Or.inl e))
    refine mm_iload (n := 122) (i := 5) smd_M_isRight_120 rfl rfl ?_
    refine mm_callSI (n := 125) (As := [.int y5_29]) (rest := []) smv_M_isLocal smw_622 (mm_hRm (by decide) (by decide)) smd_M_isRight_122 rfl rfl (Nat.le_of_ble_eq_true rfl) hT (fun r122 h122 hT => ?_)
    exact mm_zret rfl hT.1 smd_M_isRight_125 ⟨_, rfl, hT.2⟩
  have n1 := e
  clear e
  by_cases e : y4_19 = 2
  · refine mm_tIn (tgt := 126) smd_M_isRight_53 2 e (by decide) (by decide) rfl rfl ?_
    replace hT := hT.2.1 (Or.inl e)
    refine mm_iload (n := 128) (i := 5) smd_M_isRight_126 rfl rfl ?_
    refine mm_callSI (n := 131) (As := [.int y5_29]) (rest := []) smv_M_isLocal smw_622 (mm_hRm (by decide) (by decide)) smd_M_isRight_128 rfl rfl (Nat.le_of_ble_eq_true rfl) hT (fun r128 h128 hT => ?_)
    refine mm_if_eq (n := 134) (tgt := 154) smd_M_isRight_131 rfl rfl (fun hc => ?_) (fun hc => ?_)
    · replace hT := hT.1 hc
      refine mm_iconst (n := 155) (v := 0) smd_M_isRight_154 rfl (by decide) ?_
      exact mm_zret rfl (Or.inl rfl) smd_M_isRight_155 ⟨_, rfl, hT⟩
    · replace hT := hT.2 hc
      refine mm_iload (n := 136) (i := 6) smd_M_isRight_134 rfl rfl ?_
      refine mm_callSI (n := 139) (As := [.int y6_39]) (rest := []) smv_M_isLocal smw_622 (mm_hRm (by decide) (by decide)) smd_M_isRight_136 rfl rfl (Nat.le_of_ble_eq_true rfl) hT (fun r136 h136 hT => ?_)
      refine mm_if_eq (n := 142) (tgt := 154) smd_M_isRight_139 rfl rfl (fun hc => ?_) (fun hc => ?_)
      · replace hT := hT.1 hc
        refine mm_iconst (n := 155) (v := 0) smd_M_isRight_154 rfl (by decide) ?_
        exact mm_zret rfl (Or.inl rfl) smd_M_isRight_155 ⟨_, rfl, hT⟩
      · replace hT := hT.2 hc
        refine mm_iload (n := 144) (i := 7) smd_M_isRight_142 rfl rfl ?_
        refine mm_callSI (n := 147) (As := [.int y7_49]) (rest := []) smv_M_isLocal smw_622 (mm_hRm (by decide) (by decide)) smd_M_isRight_144 rfl rfl (Nat.le_of_ble_eq_true rfl) hT (fun r144 h144 hT => ?_)
        refine mm_if_eq (n := 150) (tgt := 154) smd_M_isRight_147 rfl rfl (fun hc => ?_) (fun hc => ?_)
        · replace hT := hT.1 hc
          refine mm_iconst (n := 155) (v := 0) smd_M_isRight_154 rfl (by decide) ?_
          exact mm_zret rfl (Or.inl rfl) smd_M_isRight_155 ⟨_, rfl, hT⟩
        · replace hT := hT.2 hc
          refine mm_iconst (n := 151) (v := 1) smd_M_isRight_150 rfl (by decide) ?_
          refine mm_goto (n := 155) smd_M_isRight_151 rfl ?_
          exact mm_zret rfl (Or.inr rfl) smd_M_isRight_155 ⟨_, rfl, hT⟩
  have n2 := e
  clear e
  by_cases e : y4_19 = 3
  · refine mm_tIn (tgt := 126) smd_M_isRight_53 3 e (by decide) (by decide) rfl rfl ?_
    replace hT := hT.2.1 (Or.inr (e))
    refine mm_iload (n := 128) (i := 5) smd_M_isRight_126 rfl rfl ?_
    refine mm_callSI (n := 131) (As := [.int y5_29]) (rest := []) smv_M_isLocal smw_622 (mm_hRm (by decide) (by decide)) smd_M_isRight_128 rfl rfl (Nat.le_of_ble_eq_true rfl) hT (fun r128 h128 hT => ?_)
    refine mm_if_eq (n := 134) (tgt := 154) smd_M_isRight_131 rfl rfl (fun hc => ?_) (fun hc => ?_)
    · replace hT := hT.1 hc
      refine mm_iconst (n := 155) (v := 0) smd_M_isRight_154 rfl (by decide) ?_
      exact mm_zret rfl (Or.inl rfl) smd_M_isRight_155 ⟨_, rfl, hT⟩
    · replace hT := hT.2 hc
      refine mm_iload (n := 136) (i := 6) smd_M_isRight_134 rfl rfl ?_
      refine mm_callSI (n := 139) (As := [.int y6_39]) (rest := []) smv_M_isLocal smw_622 (mm_hRm (by decide) (by decide)) smd_M_isRight_136 rfl rfl (Nat.le_of_ble_eq_true rfl) hT (fun r136 h136 hT => ?_)
      refine mm_if_eq (n := 142) (tgt := 154) smd_M_isRight_139 rfl rfl (fun hc => ?_) (fun hc => ?_)
      · replace hT := hT.1 hc
        refine mm_iconst (n := 155) (v := 0) smd_M_isRight_154 rfl (by decide) ?_
        exact mm_zret rfl (Or.inl rfl) smd_M_isRight_155 ⟨_, rfl, hT⟩
      · replace hT := hT.2 hc
        refine mm_iload (n := 144) (i := 7) smd_M_isRight_142 rfl rfl ?_
        refine mm_callSI (n := 147) (As := [.int y7_49]) (rest := []) smv_M_isLocal smw_622 (mm_hRm (by decide) (by decide)) smd_M_isRight_144 rfl rfl (Nat.le_of_ble_eq_true rfl) hT (fun r144 h144 hT => ?_)
        refine mm_if_eq (n := 150) (tgt := 154) smd_M_isRight_147 rfl rfl (fun hc => ?_) (fun hc => ?_)
        · replace hT := hT.1 hc
          refine mm_iconst (n := 155) (v := 0) smd_M_isRight_154 rfl (by decide) ?_
          exact mm_zret rfl (Or.inl rfl) smd_M_isRight_155 ⟨_, rfl, hT⟩
        · replace hT := hT.2 hc
          refine mm_iconst (n := 151) (v := 1) smd_M_isRight_150 rfl (by decide) ?_
          refine mm_goto (n := 155) smd_M_isRight_151 rfl ?_
          exact mm_zret rfl (Or.inr rfl) smd_M_isRight_155 ⟨_, rfl, hT⟩
  have n3 := e
  clear e
  by_cases e : y4_19 = 4
  · refine mm_tIn (tgt := 156) smd_M_isRight_53 4 e (by decide) (by decide) rfl rfl ?_
    replace hT := hT.2.2.1 (e)
    refine mm_iload (n := 158) (i := 5) smd_M_isRight_156 rfl rfl ?_
    refine mm_callSI (n := 161) (As := [.int y5_29]) (rest := []) smv_M_isLocal smw_622 (mm_hRm (by decide) (by decide)) smd_M_isRight_158 rfl rfl (Nat.le_of_ble_eq_true rfl) hT (fun r158 h158 hT => ?_)
    refine mm_if_eq (n := 164) (tgt := 187) smd_M_isRight_161 rfl rfl (fun hc => ?_) (fun hc => ?_)
    · replace hT := hT.1 hc
      refine mm_iconst (n := 188) (v := 0) smd_M_isRight_187 rfl (by decide) ?_
      exact mm_zret rfl (Or.inl rfl) smd_M_isRight_188 ⟨_, rfl, hT⟩
    · replace hT := hT.2 hc
      refine mm_iload (n := 166) (i := 6) smd_M_isRight_164 rfl rfl ?_
      refine mm_if_lt (n := 169) (tgt := 187) smd_M_isRight_166 rfl rfl (fun hc => ?_) (fun hc => ?_)
      · replace hT := hT.1 hc
        refine mm_iconst (n := 188) (v := 0) smd_M_isRight_187 rfl (by decide) ?_
        exact mm_zret rfl (Or.inl rfl) smd_M_isRight_188 ⟨_, rfl, hT⟩
      · replace hT := hT.2 hc
        refine mm_iload (n := 171) (i := 6) smd_M_isRight_169 rfl rfl ?_
        refine mm_aload_n (n := 172) (i := 0) smd_M_isRight_171 rfl rfl rfl ?_
        refine mm_get (n := 175) (v := .ref (mm_B Γ + 66)) smk_M_13 smb_M rfl smd_M_isRight_172 rfl ?_
        refine mm_bipush (n := 177) (v := 6) smd_M_isRight_175 rfl (by decide) ?_
        refine mm_iload_n (n := 178) (i := 1) smd_M_isRight_177 rfl rfl rfl ?_
        refine mm_iadd (n := 179) smd_M_isRight_178 rfl ?_
        refine mm_iald (n := 180) sma_66 hT.1 smd_M_isRight_179 rfl ?_
        replace hT := hT.2
        refine mm_icmp_ge (n := 183) (tgt := 187) smd_M_isRight_180 rfl rfl (fun hc => ?_) (fun hc => ?_)
        · replace hT := hT.1 hc
          refine mm_iconst (n := 188) (v := 0) smd_M_isRight_187 rfl (by decide) ?_
          exact mm_zret rfl (Or.inl rfl) smd_M_isRight_188 ⟨_, rfl, hT⟩
        · replace hT := hT.2 hc
          refine mm_iconst (n := 184) (v := 1) smd_M_isRight_183 rfl (by decide) ?_
          refine mm_goto (n := 188) smd_M_isRight_184 rfl ?_
          exact mm_zret rfl (Or.inr rfl) smd_M_isRight_188 ⟨_, rfl, hT⟩
  have n4 := e
  clear e
  by_cases e : y4_19 = 5
  · refine mm_tIn (tgt := 189) smd_M_isRight_53 5 e (by decide) (by decide) rfl rfl ?_
    replace hT := hT.2.2.2.1 (e)
    refine mm_iload (n := 191) (i := 5) smd_M_isRight_189 rfl rfl ?_
    refine mm_callSI (n := 194) (As := [.int y5_29]) (rest := []) smv_M_isLocal smw_622 (mm_hRm (by decide) (by decide)) smd_M_isRight_191 rfl rfl (Nat.le_of_ble_eq_true rfl) hT (fun r191 h191 hT => ?_)
    refine mm_if_eq (n := 197) (tgt := 230) smd_M_isRight_194 rfl rfl (fun hc => ?_) (fun hc => ?_)
    · replace hT := hT.1 hc
      refine mm_iconst (n := 231) (v := 0) smd_M_isRight_230 rfl (by decide) ?_
      exact mm_zret rfl (Or.inl rfl) smd_M_isRight_231 ⟨_, rfl, hT⟩
    · replace hT := hT.2 hc
      refine mm_iload (n := 199) (i := 7) smd_M_isRight_197 rfl rfl ?_
      refine mm_callSI (n := 202) (As := [.int y7_49]) (rest := []) smv_M_isLocal smw_622 (mm_hRm (by decide) (by decide)) smd_M_isRight_199 rfl rfl (Nat.le_of_ble_eq_true rfl) hT (fun r199 h199 hT => ?_)
      refine mm_if_eq (n := 205) (tgt := 230) smd_M_isRight_202 rfl rfl (fun hc => ?_) (fun hc => ?_)
      · replace hT := hT.1 hc
        refine mm_iconst (n := 231) (v := 0) smd_M_isRight_230 rfl (by decide) ?_
        exact mm_zret rfl (Or.inl rfl) smd_M_isRight_231 ⟨_, rfl, hT⟩
      · replace hT := hT.2 hc
        refine mm_iload (n := 207) (i := 6) smd_M_isRight_205 rfl rfl ?_
        refine mm_callSI (n := 210) (As := [.int y6_39]) (rest := []) smv_M_isProcedure smw_584 (mm_hRm (by decide) (by decide)) smd_M_isRight_207 rfl rfl (Nat.le_of_ble_eq_true rfl) hT (fun r207 h207 hT => ?_)
        refine mm_if_eq (n := 213) (tgt := 230) smd_M_isRight_210 rfl rfl (fun hc => ?_) (fun hc => ?_)
        · replace hT := hT.1 hc
          refine mm_iconst (n := 231) (v := 0) smd_M_isRight_230 rfl (by decide) ?_
          exact mm_zret rfl (Or.inl rfl) smd_M_isRight_231 ⟨_, rfl, hT⟩
        · replace hT := hT.2 hc
          refine mm_aload_n (n := 214) (i := 0) smd_M_isRight_213 rfl rfl rfl ?_
          refine mm_get (n := 217) (v := .ref (mm_B Γ + 66)) smk_M_13 smb_M rfl smd_M_isRight_214 rfl ?_
          refine mm_bipush (n := 219) (v := 6) smd_M_isRight_217 rfl (by decide) ?_
          refine mm_iload (n := 221) (i := 6) smd_M_isRight_219 rfl rfl ?_
          refine mm_iadd (n := 222) smd_M_isRight_221 rfl ?_
          refine mm_iald (n := 223) sma_66 hT.1 smd_M_isRight_222 rfl ?_
          replace hT := hT.2
          refine mm_if_le (n := 226) (tgt := 230) smd_M_isRight_223 rfl rfl (fun hc => ?_) (fun hc => ?_)
          · replace hT := hT.1 hc
            refine mm_iconst (n := 231) (v := 0) smd_M_isRight_230 rfl (by decide) ?_
            exact mm_zret rfl (Or.inl rfl) smd_M_isRight_231 ⟨_, rfl, hT⟩
          · replace hT := hT.2 hc
            refine mm_iconst (n := 227) (v := 1) smd_M_isRight_226 rfl (by decide) ?_
            refine mm_goto (n := 231) smd_M_isRight_227 rfl ?_
            exact mm_zret rfl (Or.inr rfl) smd_M_isRight_231 ⟨_, rfl, hT⟩
  have n5 := e
  clear e
  by_cases e : y4_19 = 6
  · refine mm_tIn (tgt := 232) smd_M_isRight_53 6 e (by decide) (by decide) rfl rfl ?_
    replace hT := hT.2.2.2.2.1 (e)
    refine mm_iload (n := 234) (i := 5) smd_M_isRight_232 rfl rfl ?_
    refine mm_callSI (n := 237) (As := [.int y5_29]) (rest := []) smv_M_isLocal smw_622 (mm_hRm (by decide) (by decide)) smd_M_isRight_234 rfl rfl (Nat.le_of_ble_eq_true rfl) hT (fun r234 h234 hT => ?_)
    refine mm_if_eq (n := 240) (tgt := 264) smd_M_isRight_237 rfl rfl (fun hc => ?_) (fun hc => ?_)
    · replace hT := hT.1 hc
      refine mm_iconst (n := 265) (v := 0) smd_M_isRight_264 rfl (by decide) ?_
      exact mm_zret rfl (Or.inl rfl) smd_M_isRight_265 ⟨_, rfl, hT⟩
    · replace hT := hT.2 hc
      refine mm_iload (n := 242) (i := 6) smd_M_isRight_240 rfl rfl ?_
      refine mm_callSI (n := 245) (As := [.int y6_39]) (rest := []) smv_M_isType smw_595 (mm_hRm (by decide) (by decide)) smd_M_isRight_242 rfl rfl (Nat.le_of_ble_eq_true rfl) hT (fun r242 h242 hT => ?_)
      refine mm_if_eq (n := 248) (tgt := 264) smd_M_isRight_245 rfl rfl (fun hc => ?_) (fun hc => ?_)
      · replace hT := hT.1 hc
        refine mm_iconst (n := 265) (v := 0) smd_M_isRight_264 rfl (by decide) ?_
        exact mm_zret rfl (Or.inl rfl) smd_M_isRight_265 ⟨_, rfl, hT⟩
      · replace hT := hT.2 hc
        refine mm_aload_n (n := 249) (i := 0) smd_M_isRight_248 rfl rfl rfl ?_
        refine mm_get (n := 252) (v := .ref (mm_B Γ + 67)) smk_M_16 smb_M rfl smd_M_isRight_249 rfl ?_
        refine mm_iconst (n := 253) (v := 3) smd_M_isRight_252 rfl (by decide) ?_
        refine mm_iload (n := 255) (i := 6) smd_M_isRight_253 rfl rfl ?_
        refine mm_iadd (n := 256) smd_M_isRight_255 rfl ?_
        refine mm_iald (n := 257) sma_67 hT.1 smd_M_isRight_256 rfl ?_
        replace hT := hT.2
        refine mm_if_le (n := 260) (tgt := 264) smd_M_isRight_257 rfl rfl (fun hc => ?_) (fun hc => ?_)
        · replace hT := hT.1 hc
          refine mm_iconst (n := 265) (v := 0) smd_M_isRight_264 rfl (by decide) ?_
          exact mm_zret rfl (Or.inl rfl) smd_M_isRight_265 ⟨_, rfl, hT⟩
        · replace hT := hT.2 hc
          refine mm_iconst (n := 261) (v := 1) smd_M_isRight_260 rfl (by decide) ?_
          refine mm_goto (n := 265) smd_M_isRight_261 rfl ?_
          exact mm_zret rfl (Or.inr rfl) smd_M_isRight_265 ⟨_, rfl, hT⟩
  have n6 := e
  clear e
  by_cases e : y4_19 = 7
  · refine mm_tIn (tgt := 266) smd_M_isRight_53 7 e (by decide) (by decide) rfl rfl ?_
    replace hT := hT.2.2.2.2.2.1 (Or.inl e)
    refine mm_iload (n := 268) (i := 5) smd_M_isRight_266 rfl rfl ?_
    refine mm_callSI (n := 271) (As := [.int y5_29]) (rest := []) smv_M_isLocal smw_622 (mm_hRm (by decide) (by decide)) smd_M_isRight_268 rfl rfl (Nat.le_of_ble_eq_true rfl) hT (fun r268 h268 hT => ?_)
    refine mm_if_eq (n := 274) (tgt := 295) smd_M_isRight_271 rfl rfl (fun hc => ?_) (fun hc => ?_)
    · replace hT := hT.1 hc
      refine mm_iconst (n := 296) (v := 0) smd_M_isRight_295 rfl (by decide) ?_
      exact mm_zret rfl (Or.inl rfl) smd_M_isRight_296 ⟨_, rfl, hT⟩
    · replace hT := hT.2 hc
      refine mm_iload (n := 276) (i := 6) smd_M_isRight_274 rfl rfl ?_
      refine mm_callSI (n := 279) (As := [.int y6_39]) (rest := []) smv_M_isLocal smw_622 (mm_hRm (by decide) (by decide)) smd_M_isRight_276 rfl rfl (Nat.le_of_ble_eq_true rfl) hT (fun r276 h276 hT => ?_)
      refine mm_if_eq (n := 282) (tgt := 295) smd_M_isRight_279 rfl rfl (fun hc => ?_) (fun hc => ?_)
      · replace hT := hT.1 hc
        refine mm_iconst (n := 296) (v := 0) smd_M_isRight_295 rfl (by decide) ?_
        exact mm_zret rfl (Or.inl rfl) smd_M_isRight_296 ⟨_, rfl, hT⟩
      · replace hT := hT.2 hc
        refine mm_aload_n (n := 283) (i := 0) smd_M_isRight_282 rfl rfl rfl ?_
        refine mm_iload (n := 285) (i := 7) smd_M_isRight_283 rfl rfl ?_
        refine mm_callVI (n := 288) (As := [.int y7_49]) (rest := []) smv_M_isField smw_625 smb_M (mm_hRm (by decide) (by decide)) smd_M_isRight_285 rfl rfl (Nat.le_of_ble_eq_true rfl) hT (fun r285 h285 hT => ?_)
        refine mm_if_eq (n := 291) (tgt := 295) smd_M_isRight_288 rfl rfl (fun hc => ?_) (fun hc => ?_)
        · replace hT := hT.1 hc
          refine mm_iconst (n := 296) (v := 0) smd_M_isRight_295 rfl (by decide) ?_
          exact mm_zret rfl (Or.inl rfl) smd_M_isRight_296 ⟨_, rfl, hT⟩
        · replace hT := hT.2 hc
          refine mm_iconst (n := 292) (v := 1) smd_M_isRight_291 rfl (by decide) ?_
          refine mm_goto (n := 296) smd_M_isRight_292 rfl ?_
          exact mm_zret rfl (Or.inr rfl) smd_M_isRight_296 ⟨_, rfl, hT⟩
  have n7 := e
  clear e
  by_cases e : y4_19 = 8
  · refine mm_tIn (tgt := 266) smd_M_isRight_53 8 e (by decide) (by decide) rfl rfl ?_
    replace hT := hT.2.2.2.2.2.1 (Or.inr (e))
    refine mm_iload (n := 268) (i := 5) smd_M_isRight_266 rfl rfl ?_
    refine mm_callSI (n := 271) (As := [.int y5_29]) (rest := []) smv_M_isLocal smw_622 (mm_hRm (by decide) (by decide)) smd_M_isRight_268 rfl rfl (Nat.le_of_ble_eq_true rfl) hT (fun r268 h268 hT => ?_)
    refine mm_if_eq (n := 274) (tgt := 295) smd_M_isRight_271 rfl rfl (fun hc => ?_) (fun hc => ?_)
    · replace hT := hT.1 hc
      refine mm_iconst (n := 296) (v := 0) smd_M_isRight_295 rfl (by decide) ?_
      exact mm_zret rfl (Or.inl rfl) smd_M_isRight_296 ⟨_, rfl, hT⟩
    · replace hT := hT.2 hc
      refine mm_iload (n := 276) (i := 6) smd_M_isRight_274 rfl rfl ?_
      refine mm_callSI (n := 279) (As := [.int y6_39]) (rest := []) smv_M_isLocal smw_622 (mm_hRm (by decide) (by decide)) smd_M_isRight_276 rfl rfl (Nat.le_of_ble_eq_true rfl) hT (fun r276 h276 hT => ?_)
      refine mm_if_eq (n := 282) (tgt := 295) smd_M_isRight_279 rfl rfl (fun hc => ?_) (fun hc => ?_)
      · replace hT := hT.1 hc
        refine mm_iconst (n := 296) (v := 0) smd_M_isRight_295 rfl (by decide) ?_
        exact mm_zret rfl (Or.inl rfl) smd_M_isRight_296 ⟨_, rfl, hT⟩
      · replace hT := hT.2 hc
        refine mm_aload_n (n := 283) (i := 0) smd_M_isRight_282 rfl rfl rfl ?_
        refine mm_iload (n := 285) (i := 7) smd_M_isRight_283 rfl rfl ?_
        refine mm_callVI (n := 288) (As := [.int y7_49]) (rest := []) smv_M_isField smw_625 smb_M (mm_hRm (by decide) (by decide)) smd_M_isRight_285 rfl rfl (Nat.le_of_ble_eq_true rfl) hT (fun r285 h285 hT => ?_)
        refine mm_if_eq (n := 291) (tgt := 295) smd_M_isRight_288 rfl rfl (fun hc => ?_) (fun hc => ?_)
        · replace hT := hT.1 hc
          refine mm_iconst (n := 296) (v := 0) smd_M_isRight_295 rfl (by decide) ?_
          exact mm_zret rfl (Or.inl rfl) smd_M_isRight_296 ⟨_, rfl, hT⟩
        · replace hT := hT.2 hc
          refine mm_iconst (n := 292) (v := 1) smd_M_isRight_291 rfl (by decide) ?_
          refine mm_goto (n := 296) smd_M_isRight_292 rfl ?_
          exact mm_zret rfl (Or.inr rfl) smd_M_isRight_296 ⟨_, rfl, hT⟩
  have n8 := e
  clear e
  by_cases e : y4_19 = 9
  · refine mm_tIn (tgt := 297) smd_M_isRight_53 9 e (by decide) (by decide) rfl rfl ?_
    replace hT := hT.2.2.2.2.2.2.1 (Or.inl e)
    refine mm_iload (n := 299) (i := 5) smd_M_isRight_297 rfl rfl ?_
    refine mm_callSI (n := 302) (As := [.int y5_29]) (rest := []) smv_M_isLocal smw_622 (mm_hRm (by decide) (by decide)) smd_M_isRight_299 rfl rfl (Nat.le_of_ble_eq_true rfl) hT (fun r299 h299 hT => ?_)
    refine mm_if_eq (n := 305) (tgt := 320) smd_M_isRight_302 rfl rfl (fun hc => ?_) (fun hc => ?_)
    · replace hT := hT.1 hc
      refine mm_iconst (n := 321) (v := 0) smd_M_isRight_320 rfl (by decide) ?_
      exact mm_zret rfl (Or.inl rfl) smd_M_isRight_321 ⟨_, rfl, hT⟩
    · replace hT := hT.2 hc
      refine mm_iload (n := 307) (i := 6) smd_M_isRight_305 rfl rfl ?_
      refine mm_if_lt (n := 310) (tgt := 320) smd_M_isRight_307 rfl rfl (fun hc => ?_) (fun hc => ?_)
      · replace hT := hT.1 hc
        refine mm_iconst (n := 321) (v := 0) smd_M_isRight_320 rfl (by decide) ?_
        exact mm_zret rfl (Or.inl rfl) smd_M_isRight_321 ⟨_, rfl, hT⟩
      · replace hT := hT.2 hc
        refine mm_iload (n := 312) (i := 6) smd_M_isRight_310 rfl rfl ?_
        refine mm_iconst (n := 313) (v := 4) smd_M_isRight_312 rfl (by decide) ?_
        refine mm_icmp_ge (n := 316) (tgt := 320) smd_M_isRight_313 rfl rfl (fun hc => ?_) (fun hc => ?_)
        · replace hT := hT.1 hc
          refine mm_iconst (n := 321) (v := 0) smd_M_isRight_320 rfl (by decide) ?_
          exact mm_zret rfl (Or.inl rfl) smd_M_isRight_321 ⟨_, rfl, hT⟩
        · replace hT := hT.2 hc
          refine mm_iconst (n := 317) (v := 1) smd_M_isRight_316 rfl (by decide) ?_
          refine mm_goto (n := 321) smd_M_isRight_317 rfl ?_
          exact mm_zret rfl (Or.inr rfl) smd_M_isRight_321 ⟨_, rfl, hT⟩
  have n9 := e
  clear e
  by_cases e : y4_19 = 10
  · refine mm_tIn (tgt := 297) smd_M_isRight_53 10 e (by decide) (by decide) rfl rfl ?_
    replace hT := hT.2.2.2.2.2.2.1 (Or.inr (e))
    refine mm_iload (n := 299) (i := 5) smd_M_isRight_297 rfl rfl ?_
    refine mm_callSI (n := 302) (As := [.int y5_29]) (rest := []) smv_M_isLocal smw_622 (mm_hRm (by decide) (by decide)) smd_M_isRight_299 rfl rfl (Nat.le_of_ble_eq_true rfl) hT (fun r299 h299 hT => ?_)
    refine mm_if_eq (n := 305) (tgt := 320) smd_M_isRight_302 rfl rfl (fun hc => ?_) (fun hc => ?_)
    · replace hT := hT.1 hc
      refine mm_iconst (n := 321) (v := 0) smd_M_isRight_320 rfl (by decide) ?_
      exact mm_zret rfl (Or.inl rfl) smd_M_isRight_321 ⟨_, rfl, hT⟩
    · replace hT := hT.2 hc
      refine mm_iload (n := 307) (i := 6) smd_M_isRight_305 rfl rfl ?_
      refine mm_if_lt (n := 310) (tgt := 320) smd_M_isRight_307 rfl rfl (fun hc => ?_) (fun hc => ?_)
      · replace hT := hT.1 hc
        refine mm_iconst (n := 321) (v := 0) smd_M_isRight_320 rfl (by decide) ?_
        exact mm_zret rfl (Or.inl rfl) smd_M_isRight_321 ⟨_, rfl, hT⟩
      · replace hT := hT.2 hc
        refine mm_iload (n := 312) (i := 6) smd_M_isRight_310 rfl rfl ?_
        refine mm_iconst (n := 313) (v := 4) smd_M_isRight_312 rfl (by decide) ?_
        refine mm_icmp_ge (n := 316) (tgt := 320) smd_M_isRight_313 rfl rfl (fun hc => ?_) (fun hc => ?_)
        · replace hT := hT.1 hc
          refine mm_iconst (n := 321) (v := 0) smd_M_isRight_320 rfl (by decide) ?_
          exact mm_zret rfl (Or.inl rfl) smd_M_isRight_321 ⟨_, rfl, hT⟩
        · replace hT := hT.2 hc
          refine mm_iconst (n := 317) (v := 1) smd_M_isRight_316 rfl (by decide) ?_
          refine mm_goto (n := 321) smd_M_isRight_317 rfl ?_
          exact mm_zret rfl (Or.inr rfl) smd_M_isRight_321 ⟨_, rfl, hT⟩
  have n10 := e
  clear e
  by_cases e : y4_19 = 11
  · refine mm_tIn (tgt := 120) smd_M_isRight_53 11 e (by decide) (by decide) rfl rfl ?_
    replace hT := hT.1 (Or.inr (Or.inr (e)))
    refine mm_iload (n := 122) (i := 5) smd_M_isRight_120 rfl rfl ?_
    refine mm_callSI (n := 125) (As := [.int y5_29]) (rest := []) smv_M_isLocal smw_622 (mm_hRm (by decide) (by decide)) smd_M_isRight_122 rfl rfl (Nat.le_of_ble_eq_true rfl) hT (fun r122 h122 hT => ?_)
    exact mm_zret rfl hT.1 smd_M_isRight_125 ⟨_, rfl, hT.2⟩
  have n11 := e
  clear e
  by_cases e : y4_19 = 12
  · refine mm_tIn (tgt := 322) smd_M_isRight_53 12 e (by decide) (by decide) rfl rfl ?_
    replace hT := hT.2.2.2.2.2.2.2.1 (e)
    refine mm_iload (n := 324) (i := 5) smd_M_isRight_322 rfl rfl ?_
    refine mm_if_lt (n := 327) (tgt := 337) smd_M_isRight_324 rfl rfl (fun hc => ?_) (fun hc => ?_)
    · replace hT := hT.1 hc
      refine mm_iconst (n := 338) (v := 0) smd_M_isRight_337 rfl (by decide) ?_
      exact mm_zret rfl (Or.inl rfl) smd_M_isRight_338 ⟨_, rfl, hT⟩
    · replace hT := hT.2 hc
      refine mm_iload (n := 329) (i := 5) smd_M_isRight_327 rfl rfl ?_
      refine mm_iconst (n := 330) (v := 4) smd_M_isRight_329 rfl (by decide) ?_
      refine mm_icmp_ge (n := 333) (tgt := 337) smd_M_isRight_330 rfl rfl (fun hc => ?_) (fun hc => ?_)
      · replace hT := hT.1 hc
        refine mm_iconst (n := 338) (v := 0) smd_M_isRight_337 rfl (by decide) ?_
        exact mm_zret rfl (Or.inl rfl) smd_M_isRight_338 ⟨_, rfl, hT⟩
      · replace hT := hT.2 hc
        refine mm_iconst (n := 334) (v := 1) smd_M_isRight_333 rfl (by decide) ?_
        refine mm_goto (n := 338) smd_M_isRight_334 rfl ?_
        exact mm_zret rfl (Or.inr rfl) smd_M_isRight_338 ⟨_, rfl, hT⟩
  have n12 := e
  clear e
  refine mm_tOut (tgt := 339) smd_M_isRight_53 (by have m0 := lv_neT n0 (show (0 : Int32).toInt = 0 by decide); have m1 := lv_neT n1 (show (1 : Int32).toInt = 1 by decide); have m2 := lv_neT n2 (show (2 : Int32).toInt = 2 by decide); have m3 := lv_neT n3 (show (3 : Int32).toInt = 3 by decide); have m4 := lv_neT n4 (show (4 : Int32).toInt = 4 by decide); have m5 := lv_neT n5 (show (5 : Int32).toInt = 5 by decide); have m6 := lv_neT n6 (show (6 : Int32).toInt = 6 by decide); have m7 := lv_neT n7 (show (7 : Int32).toInt = 7 by decide); have m8 := lv_neT n8 (show (8 : Int32).toInt = 8 by decide); have m9 := lv_neT n9 (show (9 : Int32).toInt = 9 by decide); have m10 := lv_neT n10 (show (10 : Int32).toInt = 10 by decide); have m11 := lv_neT n11 (show (11 : Int32).toInt = 11 by decide); have m12 := lv_neT n12 (show (12 : Int32).toInt = 12 by decide); omega) rfl ?_
  replace hT := hT.2.2.2.2.2.2.2.2 n0 n1 n2 n3 n4 n5 n6 n7 n8 n9 n10 n11 n12
  refine mm_iconst (n := 340) (v := 0) smd_M_isRight_339 rfl (by decide) ?_
  exact mm_zret rfl (Or.inl rfl) smd_M_isRight_340 ⟨_, rfl, hT⟩
set_option maxHeartbeats 4000000 in
set_option maxRecDepth 100000 in
theorem smr_M_stage {Γ : mm_Ctx} {post : Int32 → mm_Mem → Prop} {h : mm_Mem}  (hT : ((h 64 5) = 0 → (mm_W Γ smM_M_stage (mm_pI post) 12 [some (.ref (mm_B Γ + 64)), some (.int (0 : Int32)), none, none] [] h)) ∧ (¬ (h 64 5) = 0 → (post (-2 : Int32) h))) : mm_SI Γ smM_M_stage [.ref (mm_B Γ + 64)] h post := by
  refine mm_spec0 (M := smM_M_stage) 3 (by decide +kernel) rfl (Nat.le_of_ble_eq_true rfl) ?_
  show mm_W Γ smM_M_stage (mm_pI post) 0 [some (.ref (mm_B Γ + 64)), none, none, none] [] h
  refine mm_aload_n (n := 1) (i := 0) smd_M_stage_0 rfl rfl rfl ?_
  refine mm_get (n := 4) (v := .int (h 64 5)) smk_M_63 smb_M rfl smd_M_stage_1 rfl ?_
  refine mm_if_eq (n := 7) (tgt := 10) smd_M_stage_4 rfl rfl (fun hc => ?_) (fun hc => ?_)
  · replace hT := hT.1 hc
    refine mm_iconst (n := 11) (v := 0) smd_M_stage_10 rfl (by decide) ?_
    refine mm_istore_n (n := 12) (i := 1) (L' := [some (.ref (mm_B Γ + 64)), some (.int (0 : Int32)), none, none]) smd_M_stage_11 rfl rfl (by decide) rfl ?_
    exact mm_weak (by refine ⟨rfl, rfl, trivial⟩) hT
  · replace hT := hT.2 hc
    refine mm_bipush (n := 9) (v := -2) smd_M_stage_7 rfl (by decide) ?_
    exact mm_iret rfl smd_M_stage_9 ⟨_, rfl, hT⟩
set_option maxHeartbeats 4000000 in
set_option maxRecDepth 100000 in
theorem smr_M_stage_12 {Γ : mm_Ctx} {post : Int32 → mm_Mem → Prop} {h : mm_Mem} (x1 : Int32) (hT : ((6 : Int32) ≤ x1 → (mm_W Γ smM_M_stage (mm_pI post) 111 [some (.ref (mm_B Γ + 64)), some (.int (0 : Int32)), none, none] [] h)) ∧ (¬ (6 : Int32) ≤ x1 → (mm_W Γ smM_M_stage (mm_pI post) 20 [some (.ref (mm_B Γ + 64)), some (.int x1), some (.int (0 : Int32)), none] [] h))) : mm_W Γ smM_M_stage (mm_pI post) 12 [some (.ref (mm_B Γ + 64)), some (.int x1), none, none] [] h := by
  refine mm_iload_n (n := 13) (i := 1) smd_M_stage_12 rfl rfl rfl ?_
  refine mm_bipush (n := 15) (v := 6) smd_M_stage_13 rfl (by decide) ?_
  refine mm_icmp_ge (n := 18) (tgt := 109) smd_M_stage_15 rfl rfl (fun hc => ?_) (fun hc => ?_)
  · replace hT := hT.1 hc
    refine mm_iconst (n := 110) (v := 0) smd_M_stage_109 rfl (by decide) ?_
    refine mm_istore_n (n := 111) (i := 1) (L' := [some (.ref (mm_B Γ + 64)), some (.int (0 : Int32)), none, none]) smd_M_stage_110 rfl rfl (by decide) rfl ?_
    exact mm_weak (by refine ⟨rfl, rfl, trivial⟩) hT
  · replace hT := hT.2 hc
    refine mm_iconst (n := 19) (v := 0) smd_M_stage_18 rfl (by decide) ?_
    refine mm_istore_n (n := 20) (i := 2) (L' := [some (.ref (mm_B Γ + 64)), some (.int x1), some (.int (0 : Int32)), none]) smd_M_stage_19 rfl rfl (by decide) rfl ?_
    exact mm_weak (by refine ⟨rfl, rfl, rfl, trivial⟩) hT
set_option maxHeartbeats 4000000 in
set_option maxRecDepth 100000 in
theorem smr_M_stage_111 {Γ : mm_Ctx} {post : Int32 → mm_Mem → Prop} {h : mm_Mem} (x1 : Int32) (hT : ((3 : Int32) ≤ x1 → (∀ h203 : mm_Mem, h203 = mm_wr h 64 5 (1 : Int32) → (post (0 : Int32) h203))) ∧ (¬ (3 : Int32) ≤ x1 → (mm_W Γ smM_M_stage (mm_pI post) 118 [some (.ref (mm_B Γ + 64)), some (.int x1), some (.int (0 : Int32)), none] [] h))) : mm_W Γ smM_M_stage (mm_pI post) 111 [some (.ref (mm_B Γ + 64)), some (.int x1), none, none] [] h := by
  refine mm_iload_n (n := 112) (i := 1) smd_M_stage_111 rfl rfl rfl ?_
  refine mm_iconst (n := 113) (v := 3) smd_M_stage_112 rfl (by decide) ?_
  refine mm_icmp_ge (n := 116) (tgt := 201) smd_M_stage_113 rfl rfl (fun hc => ?_) (fun hc => ?_)
  · replace hT := hT.1 hc
    refine mm_aload_n (n := 202) (i := 0) smd_M_stage_201 rfl rfl rfl ?_
    refine mm_iconst (n := 203) (v := 1) smd_M_stage_202 rfl (by decide) ?_
    refine mm_put (n := 206) smk_M_63 smp_M_5 smb_M rfl (Nat.le_of_ble_eq_true rfl) rfl rfl smd_M_stage_203 rfl ?_
    refine mm_nam (fun h203 e_h203 => ?_)
    replace hT := hT h203 e_h203
    refine mm_iconst (n := 207) (v := 0) smd_M_stage_206 rfl (by decide) ?_
    exact mm_iret rfl smd_M_stage_207 ⟨_, rfl, hT⟩
  · replace hT := hT.2 hc
    refine mm_iconst (n := 117) (v := 0) smd_M_stage_116 rfl (by decide) ?_
    refine mm_istore_n (n := 118) (i := 2) (L' := [some (.ref (mm_B Γ + 64)), some (.int x1), some (.int (0 : Int32)), none]) smd_M_stage_117 rfl rfl (by decide) rfl ?_
    exact mm_weak (by refine ⟨rfl, rfl, rfl, trivial⟩) hT
set_option maxHeartbeats 4000000 in
set_option maxRecDepth 100000 in
theorem smr_M_stage_20 {Γ : mm_Ctx} {post : Int32 → mm_Mem → Prop} {h : mm_Mem} (x1 : Int32) (x2 : Int32) (hT : (vp_in ((6 : Int32) + x1) 12) ∧ (((h 66 ((6 : Int32) + x1).toNatClampNeg) ≤ x2 → (mm_W Γ smM_M_stage (mm_pI post) 12 [some (.ref (mm_B Γ + 64)), some (.int (x1 + (1 : Int32))), none, none] [] h)) ∧ (¬ (h 66 ((6 : Int32) + x1).toNatClampNeg) ≤ x2 → ((vp_in ((6 : Int32) + x1) 12) ∧ (((x2 + (1 : Int32)) < (h 66 ((6 : Int32) + x1).toNatClampNeg) → (mm_W Γ smM_M_stage (mm_pI post) 73 [some (.ref (mm_B Γ + 64)), some (.int x1), some (.int x2), none] [.int (1 : Int32)] h)) ∧ (¬ (x2 + (1 : Int32)) < (h 66 ((6 : Int32) + x1).toNatClampNeg) → ((vp_in (((288 : Int32) + ((48 : Int32) * x1)) + ((4 : Int32) * x2)) 576) ∧ ((¬ (h 65 (((288 : Int32) + ((48 : Int32) * x1)) + ((4 : Int32) * x2)).toNatClampNeg) = 0 → (mm_W Γ smM_M_stage (mm_pI post) 73 [some (.ref (mm_B Γ + 64)), some (.int x1), some (.int x2), none] [.int (0 : Int32)] h)) ∧ ((h 65 (((288 : Int32) + ((48 : Int32) * x1)) + ((4 : Int32) * x2)).toNatClampNeg) = 0 → (mm_W Γ smM_M_stage (mm_pI post) 73 [some (.ref (mm_B Γ + 64)), some (.int x1), some (.int x2), none] [.int (1 : Int32)] h)))))))))) : mm_W Γ smM_M_stage (mm_pI post) 20 [some (.ref (mm_B Γ + 64)), some (.int x1), some (.int x2), none] [] h := by
  refine mm_iload_n (n := 21) (i := 2) smd_M_stage_20 rfl rfl rfl ?_
  refine mm_aload_n (n := 22) (i := 0) smd_M_stage_21 rfl rfl rfl ?_
  refine mm_get (n := 25) (v := .ref (mm_B Γ + 66)) smk_M_13 smb_M rfl smd_M_stage_22 rfl ?_
  refine mm_bipush (n := 27) (v := 6) smd_M_stage_25 rfl (by decide) ?_
  refine mm_iload_n (n := 28) (i := 1) smd_M_stage_27 rfl rfl rfl ?_
  refine mm_iadd (n := 29) smd_M_stage_28 rfl ?_
  refine mm_iald (n := 30) sma_66 hT.1 smd_M_stage_29 rfl ?_
  replace hT := hT.2
  refine mm_icmp_ge (n := 33) (tgt := 103) smd_M_stage_30 rfl rfl (fun hc => ?_) (fun hc => ?_)
  · replace hT := hT.1 hc
    refine mm_iinc (n := 106) (i := 1) (d := 1) (L' := [some (.ref (mm_B Γ + 64)), some (.int (x1 + (1 : Int32))), some (.int x2), none]) smd_M_stage_103 rfl rfl (by decide) (by decide) rfl ?_
    refine mm_goto (n := 12) smd_M_stage_106 rfl ?_
    exact mm_weak (by refine ⟨rfl, rfl, trivial⟩) hT
  · replace hT := hT.2 hc
    refine mm_iload_n (n := 34) (i := 2) smd_M_stage_33 rfl rfl rfl ?_
    refine mm_iconst (n := 35) (v := 1) smd_M_stage_34 rfl (by decide) ?_
    refine mm_iadd (n := 36) smd_M_stage_35 rfl ?_
    refine mm_aload_n (n := 37) (i := 0) smd_M_stage_36 rfl rfl rfl ?_
    refine mm_get (n := 40) (v := .ref (mm_B Γ + 66)) smk_M_13 smb_M rfl smd_M_stage_37 rfl ?_
    refine mm_bipush (n := 42) (v := 6) smd_M_stage_40 rfl (by decide) ?_
    refine mm_iload_n (n := 43) (i := 1) smd_M_stage_42 rfl rfl rfl ?_
    refine mm_iadd (n := 44) smd_M_stage_43 rfl ?_
    refine mm_iald (n := 45) sma_66 hT.1 smd_M_stage_44 rfl ?_
    replace hT := hT.2
    refine mm_icmp_lt (n := 48) (tgt := 68) smd_M_stage_45 rfl rfl (fun hc => ?_) (fun hc => ?_)
    · replace hT := hT.1 hc
      refine mm_iconst (n := 69) (v := 1) smd_M_stage_68 rfl (by decide) ?_
      refine mm_goto (n := 73) smd_M_stage_69 rfl ?_
      exact mm_weak (by refine ⟨rfl, rfl, rfl, trivial⟩) hT
    · replace hT := hT.2 hc
      refine mm_aload_n (n := 49) (i := 0) smd_M_stage_48 rfl rfl rfl ?_
      refine mm_get (n := 52) (v := .ref (mm_B Γ + 65)) smk_M_7 smb_M rfl smd_M_stage_49 rfl ?_
      refine mm_sipush (n := 55) (v := 288) smd_M_stage_52 rfl (by decide) ?_
      refine mm_bipush (n := 57) (v := 48) smd_M_stage_55 rfl (by decide) ?_
      refine mm_iload_n (n := 58) (i := 1) smd_M_stage_57 rfl rfl rfl ?_
      refine mm_imul (n := 59) smd_M_stage_58 rfl ?_
      refine mm_iadd (n := 60) smd_M_stage_59 rfl ?_
      refine mm_iconst (n := 61) (v := 4) smd_M_stage_60 rfl (by decide) ?_
      refine mm_iload_n (n := 62) (i := 2) smd_M_stage_61 rfl rfl rfl ?_
      refine mm_imul (n := 63) smd_M_stage_62 rfl ?_
      refine mm_iadd (n := 64) smd_M_stage_63 rfl ?_
      refine mm_iald (n := 65) sma_65 hT.1 smd_M_stage_64 rfl ?_
      replace hT := hT.2
      refine mm_if_ne (n := 68) (tgt := 72) smd_M_stage_65 rfl rfl (fun hc => ?_) (fun hc => ?_)
      · replace hT := hT.1 hc
        refine mm_iconst (n := 73) (v := 0) smd_M_stage_72 rfl (by decide) ?_
        exact mm_weak (by refine ⟨rfl, rfl, rfl, trivial⟩) hT
      · replace hT := hT.2 hc
        refine mm_iconst (n := 69) (v := 1) smd_M_stage_68 rfl (by decide) ?_
        refine mm_goto (n := 73) smd_M_stage_69 rfl ?_
        exact mm_weak (by refine ⟨rfl, rfl, rfl, trivial⟩) hT
set_option maxHeartbeats 4000000 in
set_option maxRecDepth 100000 in
theorem smr_M_stage_118 {Γ : mm_Ctx} {post : Int32 → mm_Mem → Prop} {h : mm_Mem} (x1 : Int32) (x2 : Int32) (hT : (vp_in ((3 : Int32) + x1) 6) ∧ (((h 67 ((3 : Int32) + x1).toNatClampNeg) ≤ x2 → (mm_W Γ smM_M_stage (mm_pI post) 111 [some (.ref (mm_B Γ + 64)), some (.int (x1 + (1 : Int32))), none, none] [] h)) ∧ (¬ (h 67 ((3 : Int32) + x1).toNatClampNeg) ≤ x2 → ((vp_in x1 3) ∧ (((h 69 x1.toNatClampNeg) = 0 → (mm_W Γ smM_M_stage (mm_pI post) 111 [some (.ref (mm_B Γ + 64)), some (.int (x1 + (1 : Int32))), none, none] [] h)) ∧ (¬ (h 69 x1.toNatClampNeg) = 0 → ((vp_in (((12 : Int32) * x1) + ((3 : Int32) * x2)) 36) ∧ (((h 68 (((12 : Int32) * x1) + ((3 : Int32) * x2)).toNatClampNeg) ≤ 0 → (mm_W Γ smM_M_stage (mm_pI post) 118 [some (.ref (mm_B Γ + 64)), some (.int x1), some (.int (x2 + (1 : Int32))), none] [] h)) ∧ (¬ (h 68 (((12 : Int32) * x1) + ((3 : Int32) * x2)).toNatClampNeg) ≤ 0 → ((vp_in ((((12 : Int32) * x1) + ((3 : Int32) * x2)) + (1 : Int32)) 36) ∧ ((vp_in x1 6) ∧ (((h 68 ((((12 : Int32) * x1) + ((3 : Int32) * x2)) + (1 : Int32)).toNatClampNeg) < (h 67 x1.toNatClampNeg) → (mm_W Γ smM_M_stage (mm_pI post) 118 [some (.ref (mm_B Γ + 64)), some (.int x1), some (.int (x2 + (1 : Int32))), none] [] h)) ∧ (¬ (h 68 ((((12 : Int32) * x1) + ((3 : Int32) * x2)) + (1 : Int32)).toNatClampNeg) < (h 67 x1.toNatClampNeg) → (post ((-200 : Int32) - (((4 : Int32) * x1) + x2)) h)))))))))))))) : mm_W Γ smM_M_stage (mm_pI post) 118 [some (.ref (mm_B Γ + 64)), some (.int x1), some (.int x2), none] [] h := by
  refine mm_iload_n (n := 119) (i := 2) smd_M_stage_118 rfl rfl rfl ?_
  refine mm_aload_n (n := 120) (i := 0) smd_M_stage_119 rfl rfl rfl ?_
  refine mm_get (n := 123) (v := .ref (mm_B Γ + 67)) smk_M_16 smb_M rfl smd_M_stage_120 rfl ?_
  refine mm_iconst (n := 124) (v := 3) smd_M_stage_123 rfl (by decide) ?_
  refine mm_iload_n (n := 125) (i := 1) smd_M_stage_124 rfl rfl rfl ?_
  refine mm_iadd (n := 126) smd_M_stage_125 rfl ?_
  refine mm_iald (n := 127) sma_67 hT.1 smd_M_stage_126 rfl ?_
  replace hT := hT.2
  refine mm_icmp_ge (n := 130) (tgt := 195) smd_M_stage_127 rfl rfl (fun hc => ?_) (fun hc => ?_)
  · replace hT := hT.1 hc
    refine mm_iinc (n := 198) (i := 1) (d := 1) (L' := [some (.ref (mm_B Γ + 64)), some (.int (x1 + (1 : Int32))), some (.int x2), none]) smd_M_stage_195 rfl rfl (by decide) (by decide) rfl ?_
    refine mm_goto (n := 111) smd_M_stage_198 rfl ?_
    exact mm_weak (by refine ⟨rfl, rfl, trivial⟩) hT
  · replace hT := hT.2 hc
    refine mm_aload_n (n := 131) (i := 0) smd_M_stage_130 rfl rfl rfl ?_
    refine mm_get (n := 134) (v := .ref (mm_B Γ + 69)) smk_M_22 smb_M rfl smd_M_stage_131 rfl ?_
    refine mm_iload_n (n := 135) (i := 1) smd_M_stage_134 rfl rfl rfl ?_
    refine mm_zald (n := 136) sma_69 hT.1 smd_M_stage_135 rfl ?_
    replace hT := hT.2
    refine mm_if_eq (n := 139) (tgt := 195) smd_M_stage_136 rfl rfl (fun hc => ?_) (fun hc => ?_)
    · replace hT := hT.1 hc
      refine mm_iinc (n := 198) (i := 1) (d := 1) (L' := [some (.ref (mm_B Γ + 64)), some (.int (x1 + (1 : Int32))), some (.int x2), none]) smd_M_stage_195 rfl rfl (by decide) (by decide) rfl ?_
      refine mm_goto (n := 111) smd_M_stage_198 rfl ?_
      exact mm_weak (by refine ⟨rfl, rfl, trivial⟩) hT
    · replace hT := hT.2 hc
      refine mm_aload_n (n := 140) (i := 0) smd_M_stage_139 rfl rfl rfl ?_
      refine mm_get (n := 143) (v := .ref (mm_B Γ + 68)) smk_M_19 smb_M rfl smd_M_stage_140 rfl ?_
      refine mm_bipush (n := 145) (v := 12) smd_M_stage_143 rfl (by decide) ?_
      refine mm_iload_n (n := 146) (i := 1) smd_M_stage_145 rfl rfl rfl ?_
      refine mm_imul (n := 147) smd_M_stage_146 rfl ?_
      refine mm_iconst (n := 148) (v := 3) smd_M_stage_147 rfl (by decide) ?_
      refine mm_iload_n (n := 149) (i := 2) smd_M_stage_148 rfl rfl rfl ?_
      refine mm_imul (n := 150) smd_M_stage_149 rfl ?_
      refine mm_iadd (n := 151) smd_M_stage_150 rfl ?_
      refine mm_iald (n := 152) sma_68 hT.1 smd_M_stage_151 rfl ?_
      replace hT := hT.2
      refine mm_if_le (n := 155) (tgt := 189) smd_M_stage_152 rfl rfl (fun hc => ?_) (fun hc => ?_)
      · replace hT := hT.1 hc
        refine mm_iinc (n := 192) (i := 2) (d := 1) (L' := [some (.ref (mm_B Γ + 64)), some (.int x1), some (.int (x2 + (1 : Int32))), none]) smd_M_stage_189 rfl rfl (by decide) (by decide) rfl ?_
        refine mm_goto (n := 118) smd_M_stage_192 rfl ?_
        exact mm_weak (by refine ⟨rfl, rfl, rfl, trivial⟩) hT
      · replace hT := hT.2 hc
        refine mm_aload_n (n := 156) (i := 0) smd_M_stage_155 rfl rfl rfl ?_
        refine mm_get (n := 159) (v := .ref (mm_B Γ + 68)) smk_M_19 smb_M rfl smd_M_stage_156 rfl ?_
        refine mm_bipush (n := 161) (v := 12) smd_M_stage_159 rfl (by decide) ?_
        refine mm_iload_n (n := 162) (i := 1) smd_M_stage_161 rfl rfl rfl ?_
        refine mm_imul (n := 163) smd_M_stage_162 rfl ?_
        refine mm_iconst (n := 164) (v := 3) smd_M_stage_163 rfl (by decide) ?_
        refine mm_iload_n (n := 165) (i := 2) smd_M_stage_164 rfl rfl rfl ?_
        refine mm_imul (n := 166) smd_M_stage_165 rfl ?_
        refine mm_iadd (n := 167) smd_M_stage_166 rfl ?_
        refine mm_iconst (n := 168) (v := 1) smd_M_stage_167 rfl (by decide) ?_
        refine mm_iadd (n := 169) smd_M_stage_168 rfl ?_
        refine mm_iald (n := 170) sma_68 hT.1 smd_M_stage_169 rfl ?_
        replace hT := hT.2
        refine mm_aload_n (n := 171) (i := 0) smd_M_stage_170 rfl rfl rfl ?_
        refine mm_get (n := 174) (v := .ref (mm_B Γ + 67)) smk_M_16 smb_M rfl smd_M_stage_171 rfl ?_
        refine mm_iload_n (n := 175) (i := 1) smd_M_stage_174 rfl rfl rfl ?_
        refine mm_iald (n := 176) sma_67 hT.1 smd_M_stage_175 rfl ?_
        replace hT := hT.2
        refine mm_icmp_lt (n := 179) (tgt := 189) smd_M_stage_176 rfl rfl (fun hc => ?_) (fun hc => ?_)
        · replace hT := hT.1 hc
          refine mm_iinc (n := 192) (i := 2) (d := 1) (L' := [some (.ref (mm_B Γ + 64)), some (.int x1), some (.int (x2 + (1 : Int32))), none]) smd_M_stage_189 rfl rfl (by decide) (by decide) rfl ?_
          refine mm_goto (n := 118) smd_M_stage_192 rfl ?_
          exact mm_weak (by refine ⟨rfl, rfl, rfl, trivial⟩) hT
        · replace hT := hT.2 hc
          refine mm_sipush (n := 182) (v := -200) smd_M_stage_179 rfl (by decide) ?_
          refine mm_iconst (n := 183) (v := 4) smd_M_stage_182 rfl (by decide) ?_
          refine mm_iload_n (n := 184) (i := 1) smd_M_stage_183 rfl rfl rfl ?_
          refine mm_imul (n := 185) smd_M_stage_184 rfl ?_
          refine mm_iload_n (n := 186) (i := 2) smd_M_stage_185 rfl rfl rfl ?_
          refine mm_iadd (n := 187) smd_M_stage_186 rfl ?_
          refine mm_isub (n := 188) smd_M_stage_187 rfl ?_
          exact mm_iret rfl smd_M_stage_188 ⟨_, rfl, hT⟩
set_option maxHeartbeats 4000000 in
set_option maxRecDepth 100000 in
theorem smr_M_stage_73 {Γ : mm_Ctx} {post : Int32 → mm_Mem → Prop} {h : mm_Mem} (x1 : Int32) (x2 : Int32) (s0 : Int32) (hT : mm_SI Γ smM_M_isRight [.ref (mm_B Γ + 64), .int x1, .int x2] h (fun r77 h77 => (r77 = 0 → (post ((-100 : Int32) - (((12 : Int32) * x1) + x2)) h77)) ∧ (¬ r77 = 0 → ((¬ s0 = 0 → (mm_W Γ smM_M_stage (mm_pI post) 20 [some (.ref (mm_B Γ + 64)), some (.int x1), some (.int (x2 + (1 : Int32))), none] [] h77)) ∧ (s0 = 0 → (post ((-100 : Int32) - (((12 : Int32) * x1) + x2)) h77)))))) : mm_W Γ smM_M_stage (mm_pI post) 73 [some (.ref (mm_B Γ + 64)), some (.int x1), some (.int x2), none] [.int s0] h := by
  refine mm_istore_n (n := 74) (i := 3) (L' := [some (.ref (mm_B Γ + 64)), some (.int x1), some (.int x2), some (.int s0)]) smd_M_stage_73 rfl rfl (by decide) rfl ?_
  refine mm_aload_n (n := 75) (i := 0) smd_M_stage_74 rfl rfl rfl ?_
  refine mm_iload_n (n := 76) (i := 1) smd_M_stage_75 rfl rfl rfl ?_
  refine mm_iload_n (n := 77) (i := 2) smd_M_stage_76 rfl rfl rfl ?_
  refine mm_callVI (n := 80) (As := [.int x1, .int x2]) (rest := []) smv_M_isRight smw_618 smb_M (mm_hRm (by decide) (by decide)) smd_M_stage_77 rfl rfl (Nat.le_of_ble_eq_true rfl) hT (fun r77 h77 hT => ?_)
  refine mm_if_eq (n := 83) (tgt := 87) smd_M_stage_80 rfl rfl (fun hc => ?_) (fun hc => ?_)
  · replace hT := hT.1 hc
    refine mm_bipush (n := 89) (v := -100) smd_M_stage_87 rfl (by decide) ?_
    refine mm_bipush (n := 91) (v := 12) smd_M_stage_89 rfl (by decide) ?_
    refine mm_iload_n (n := 92) (i := 1) smd_M_stage_91 rfl rfl rfl ?_
    refine mm_imul (n := 93) smd_M_stage_92 rfl ?_
    refine mm_iload_n (n := 94) (i := 2) smd_M_stage_93 rfl rfl rfl ?_
    refine mm_iadd (n := 95) smd_M_stage_94 rfl ?_
    refine mm_isub (n := 96) smd_M_stage_95 rfl ?_
    exact mm_iret rfl smd_M_stage_96 ⟨_, rfl, hT⟩
  · replace hT := hT.2 hc
    refine mm_iload_n (n := 84) (i := 3) smd_M_stage_83 rfl rfl rfl ?_
    refine mm_if_ne (n := 87) (tgt := 97) smd_M_stage_84 rfl rfl (fun hc => ?_) (fun hc => ?_)
    · replace hT := hT.1 hc
      refine mm_iinc (n := 100) (i := 2) (d := 1) (L' := [some (.ref (mm_B Γ + 64)), some (.int x1), some (.int (x2 + (1 : Int32))), some (.int s0)]) smd_M_stage_97 rfl rfl (by decide) (by decide) rfl ?_
      refine mm_goto (n := 20) smd_M_stage_100 rfl ?_
      exact mm_weak (by refine ⟨rfl, rfl, rfl, trivial⟩) hT
    · replace hT := hT.2 hc
      refine mm_bipush (n := 89) (v := -100) smd_M_stage_87 rfl (by decide) ?_
      refine mm_bipush (n := 91) (v := 12) smd_M_stage_89 rfl (by decide) ?_
      refine mm_iload_n (n := 92) (i := 1) smd_M_stage_91 rfl rfl rfl ?_
      refine mm_imul (n := 93) smd_M_stage_92 rfl ?_
      refine mm_iload_n (n := 94) (i := 2) smd_M_stage_93 rfl rfl rfl ?_
      refine mm_iadd (n := 95) smd_M_stage_94 rfl ?_
      refine mm_isub (n := 96) smd_M_stage_95 rfl ?_
      exact mm_iret rfl smd_M_stage_96 ⟨_, rfl, hT⟩
set_option maxHeartbeats 4000000 in
set_option maxRecDepth 100000 in
theorem smr_M_withdraw {Γ : mm_Ctx} {post : Int32 → mm_Mem → Prop} {h : mm_Mem}  (hT : ∀ y1_4 : Int32, y1_4 = h 64 5 → (∀ h7 : mm_Mem, h7 = mm_wr h 64 5 (0 : Int32) → ((y1_4 = 0 ∨ y1_4 = 1) ∧ post y1_4 h7))) : mm_SI Γ smM_M_withdraw [.ref (mm_B Γ + 64)] h post := by
  refine mm_spec0 (M := smM_M_withdraw) 1 (by decide +kernel) rfl (Nat.le_of_ble_eq_true rfl) ?_
  show mm_W Γ smM_M_withdraw (mm_pI post) 0 [some (.ref (mm_B Γ + 64)), none] [] h
  refine mm_aload_n (n := 1) (i := 0) smd_M_withdraw_0 rfl rfl rfl ?_
  refine mm_get (n := 4) (v := .int (h 64 5)) smk_M_63 smb_M rfl smd_M_withdraw_1 rfl ?_
  refine mm_top (fun y1_4 e_y1_4 => ?_)
  replace hT := hT y1_4 e_y1_4
  refine mm_istore_n (n := 5) (i := 1) (L' := [some (.ref (mm_B Γ + 64)), some (.int y1_4)]) smd_M_withdraw_4 rfl rfl (by decide) rfl ?_
  refine mm_aload_n (n := 6) (i := 0) smd_M_withdraw_5 rfl rfl rfl ?_
  refine mm_iconst (n := 7) (v := 0) smd_M_withdraw_6 rfl (by decide) ?_
  refine mm_put (n := 10) smk_M_63 smp_M_5 smb_M rfl (Nat.le_of_ble_eq_true rfl) rfl rfl smd_M_withdraw_7 rfl ?_
  refine mm_nam (fun h7 e_h7 => ?_)
  replace hT := hT h7 e_h7
  refine mm_iload_n (n := 11) (i := 1) smd_M_withdraw_10 rfl rfl rfl ?_
  exact mm_zret rfl hT.1 smd_M_withdraw_11 ⟨_, rfl, hT.2⟩
set_option maxHeartbeats 4000000 in
set_option maxRecDepth 100000 in
theorem smr_M_isOther {Γ : mm_Ctx} {post : Int32 → mm_Mem → Prop} {h : mm_Mem} (x1 : Int32) (hT : (vp_in x1 12) ∧ ((vp_in ((6 : Int32) + x1) 12) ∧ (((h 66 x1.toNatClampNeg) = (h 66 ((6 : Int32) + x1).toNatClampNeg) → (∀ y3_26 : Int32, y3_26 = (48 : Int32) * x1 → (mm_W Γ smM_M_isOther (mm_pI post) 27 [some (.ref (mm_B Γ + 64)), some (.int x1), some (.int (0 : Int32)), some (.int y3_26)] [] h))) ∧ (¬ (h 66 x1.toNatClampNeg) = (h 66 ((6 : Int32) + x1).toNatClampNeg) → (post (1 : Int32) h))))) : mm_SI Γ smM_M_isOther [.ref (mm_B Γ + 64), .int x1] h post := by
  refine mm_spec0 (M := smM_M_isOther) 2 (by decide +kernel) rfl (Nat.le_of_ble_eq_true rfl) ?_
  show mm_W Γ smM_M_isOther (mm_pI post) 0 [some (.ref (mm_B Γ + 64)), some (.int x1), none, none] [] h
  refine mm_aload_n (n := 1) (i := 0) smd_M_isOther_0 rfl rfl rfl ?_
  refine mm_get (n := 4) (v := .ref (mm_B Γ + 66)) smk_M_13 smb_M rfl smd_M_isOther_1 rfl ?_
  refine mm_iload_n (n := 5) (i := 1) smd_M_isOther_4 rfl rfl rfl ?_
  refine mm_iald (n := 6) sma_66 hT.1 smd_M_isOther_5 rfl ?_
  replace hT := hT.2
  refine mm_aload_n (n := 7) (i := 0) smd_M_isOther_6 rfl rfl rfl ?_
  refine mm_get (n := 10) (v := .ref (mm_B Γ + 66)) smk_M_13 smb_M rfl smd_M_isOther_7 rfl ?_
  refine mm_bipush (n := 12) (v := 6) smd_M_isOther_10 rfl (by decide) ?_
  refine mm_iload_n (n := 13) (i := 1) smd_M_isOther_12 rfl rfl rfl ?_
  refine mm_iadd (n := 14) smd_M_isOther_13 rfl ?_
  refine mm_iald (n := 15) sma_66 hT.1 smd_M_isOther_14 rfl ?_
  replace hT := hT.2
  refine mm_icmp_eq (n := 18) (tgt := 20) smd_M_isOther_15 rfl rfl (fun hc => ?_) (fun hc => ?_)
  · replace hT := hT.1 hc
    refine mm_iconst (n := 21) (v := 0) smd_M_isOther_20 rfl (by decide) ?_
    refine mm_istore_n (n := 22) (i := 2) (L' := [some (.ref (mm_B Γ + 64)), some (.int x1), some (.int (0 : Int32)), none]) smd_M_isOther_21 rfl rfl (by decide) rfl ?_
    refine mm_bipush (n := 24) (v := 48) smd_M_isOther_22 rfl (by decide) ?_
    refine mm_iload_n (n := 25) (i := 1) smd_M_isOther_24 rfl rfl rfl ?_
    refine mm_imul (n := 26) smd_M_isOther_25 rfl ?_
    refine mm_top (fun y3_26 e_y3_26 => ?_)
    replace hT := hT y3_26 e_y3_26
    refine mm_istore_n (n := 27) (i := 3) (L' := [some (.ref (mm_B Γ + 64)), some (.int x1), some (.int (0 : Int32)), some (.int y3_26)]) smd_M_isOther_26 rfl rfl (by decide) rfl ?_
    exact mm_weak (by refine ⟨rfl, rfl, rfl, rfl, trivial⟩) hT
  · replace hT := hT.2 hc
    refine mm_iconst (n := 19) (v := 1) smd_M_isOther_18 rfl (by decide) ?_
    exact mm_zret rfl (Or.inr rfl) smd_M_isOther_19 ⟨_, rfl, hT⟩
set_option maxHeartbeats 4000000 in
set_option maxRecDepth 100000 in
theorem smr_M_isOther_27 {Γ : mm_Ctx} {post : Int32 → mm_Mem → Prop} {h : mm_Mem} (x1 : Int32) (x2 : Int32) (x3 : Int32) (hT : (vp_in x1 12) ∧ (((((48 : Int32) * x1) + ((4 : Int32) * (h 66 x1.toNatClampNeg))) ≤ x3 → ((x2 = 0 ∨ x2 = 1) ∧ post x2 h)) ∧ (¬ (((48 : Int32) * x1) + ((4 : Int32) * (h 66 x1.toNatClampNeg))) ≤ x3 → ((¬ x2 = 0 → (mm_W Γ smM_M_isOther (mm_pI post) 27 [some (.ref (mm_B Γ + 64)), some (.int x1), some (.int (1 : Int32)), some (.int (x3 + (1 : Int32)))] [] h)) ∧ (x2 = 0 → ((vp_in x3 576) ∧ ((vp_in ((288 : Int32) + x3) 576) ∧ (((h 65 x3.toNatClampNeg) = (h 65 ((288 : Int32) + x3).toNatClampNeg) → (mm_W Γ smM_M_isOther (mm_pI post) 27 [some (.ref (mm_B Γ + 64)), some (.int x1), some (.int (0 : Int32)), some (.int (x3 + (1 : Int32)))] [] h)) ∧ (¬ (h 65 x3.toNatClampNeg) = (h 65 ((288 : Int32) + x3).toNatClampNeg) → (mm_W Γ smM_M_isOther (mm_pI post) 27 [some (.ref (mm_B Γ + 64)), some (.int x1), some (.int (1 : Int32)), some (.int (x3 + (1 : Int32)))] [] h)))))))))) : mm_W Γ smM_M_isOther (mm_pI post) 27 [some (.ref (mm_B Γ + 64)), some (.int x1), some (.int x2), some (.int x3)] [] h := by
  refine mm_iload_n (n := 28) (i := 3) smd_M_isOther_27 rfl rfl rfl ?_
  refine mm_bipush (n := 30) (v := 48) smd_M_isOther_28 rfl (by decide) ?_
  refine mm_iload_n (n := 31) (i := 1) smd_M_isOther_30 rfl rfl rfl ?_
  refine mm_imul (n := 32) smd_M_isOther_31 rfl ?_
  refine mm_iconst (n := 33) (v := 4) smd_M_isOther_32 rfl (by decide) ?_
  refine mm_aload_n (n := 34) (i := 0) smd_M_isOther_33 rfl rfl rfl ?_
  refine mm_get (n := 37) (v := .ref (mm_B Γ + 66)) smk_M_13 smb_M rfl smd_M_isOther_34 rfl ?_
  refine mm_iload_n (n := 38) (i := 1) smd_M_isOther_37 rfl rfl rfl ?_
  refine mm_iald (n := 39) sma_66 hT.1 smd_M_isOther_38 rfl ?_
  replace hT := hT.2
  refine mm_imul (n := 40) smd_M_isOther_39 rfl ?_
  refine mm_iadd (n := 41) smd_M_isOther_40 rfl ?_
  refine mm_icmp_ge (n := 44) (tgt := 79) smd_M_isOther_41 rfl rfl (fun hc => ?_) (fun hc => ?_)
  · replace hT := hT.1 hc
    refine mm_iload_n (n := 80) (i := 2) smd_M_isOther_79 rfl rfl rfl ?_
    exact mm_zret rfl hT.1 smd_M_isOther_80 ⟨_, rfl, hT.2⟩
  · replace hT := hT.2 hc
    refine mm_iload_n (n := 45) (i := 2) smd_M_isOther_44 rfl rfl rfl ?_
    refine mm_if_ne (n := 48) (tgt := 67) smd_M_isOther_45 rfl rfl (fun hc => ?_) (fun hc => ?_)
    · replace hT := hT.1 hc
      refine mm_iconst (n := 68) (v := 1) smd_M_isOther_67 rfl (by decide) ?_
      refine mm_goto (n := 72) smd_M_isOther_68 rfl ?_
      refine mm_istore_n (n := 73) (i := 2) (L' := [some (.ref (mm_B Γ + 64)), some (.int x1), some (.int (1 : Int32)), some (.int x3)]) smd_M_isOther_72 rfl rfl (by decide) rfl ?_
      refine mm_iinc (n := 76) (i := 3) (d := 1) (L' := [some (.ref (mm_B Γ + 64)), some (.int x1), some (.int (1 : Int32)), some (.int (x3 + (1 : Int32)))]) smd_M_isOther_73 rfl rfl (by decide) (by decide) rfl ?_
      refine mm_goto (n := 27) smd_M_isOther_76 rfl ?_
      exact mm_weak (by refine ⟨rfl, rfl, rfl, rfl, trivial⟩) hT
    · replace hT := hT.2 hc
      refine mm_aload_n (n := 49) (i := 0) smd_M_isOther_48 rfl rfl rfl ?_
      refine mm_get (n := 52) (v := .ref (mm_B Γ + 65)) smk_M_7 smb_M rfl smd_M_isOther_49 rfl ?_
      refine mm_iload_n (n := 53) (i := 3) smd_M_isOther_52 rfl rfl rfl ?_
      refine mm_iald (n := 54) sma_65 hT.1 smd_M_isOther_53 rfl ?_
      replace hT := hT.2
      refine mm_aload_n (n := 55) (i := 0) smd_M_isOther_54 rfl rfl rfl ?_
      refine mm_get (n := 58) (v := .ref (mm_B Γ + 65)) smk_M_7 smb_M rfl smd_M_isOther_55 rfl ?_
      refine mm_sipush (n := 61) (v := 288) smd_M_isOther_58 rfl (by decide) ?_
      refine mm_iload_n (n := 62) (i := 3) smd_M_isOther_61 rfl rfl rfl ?_
      refine mm_iadd (n := 63) smd_M_isOther_62 rfl ?_
      refine mm_iald (n := 64) sma_65 hT.1 smd_M_isOther_63 rfl ?_
      replace hT := hT.2
      refine mm_icmp_eq (n := 67) (tgt := 71) smd_M_isOther_64 rfl rfl (fun hc => ?_) (fun hc => ?_)
      · replace hT := hT.1 hc
        refine mm_iconst (n := 72) (v := 0) smd_M_isOther_71 rfl (by decide) ?_
        refine mm_istore_n (n := 73) (i := 2) (L' := [some (.ref (mm_B Γ + 64)), some (.int x1), some (.int (0 : Int32)), some (.int x3)]) smd_M_isOther_72 rfl rfl (by decide) rfl ?_
        refine mm_iinc (n := 76) (i := 3) (d := 1) (L' := [some (.ref (mm_B Γ + 64)), some (.int x1), some (.int (0 : Int32)), some (.int (x3 + (1 : Int32)))]) smd_M_isOther_73 rfl rfl (by decide) (by decide) rfl ?_
        refine mm_goto (n := 27) smd_M_isOther_76 rfl ?_
        exact mm_weak (by refine ⟨rfl, rfl, rfl, rfl, trivial⟩) hT
      · replace hT := hT.2 hc
        refine mm_iconst (n := 68) (v := 1) smd_M_isOther_67 rfl (by decide) ?_
        refine mm_goto (n := 72) smd_M_isOther_68 rfl ?_
        refine mm_istore_n (n := 73) (i := 2) (L' := [some (.ref (mm_B Γ + 64)), some (.int x1), some (.int (1 : Int32)), some (.int x3)]) smd_M_isOther_72 rfl rfl (by decide) rfl ?_
        refine mm_iinc (n := 76) (i := 3) (d := 1) (L' := [some (.ref (mm_B Γ + 64)), some (.int x1), some (.int (1 : Int32)), some (.int (x3 + (1 : Int32)))]) smd_M_isOther_73 rfl rfl (by decide) (by decide) rfl ?_
        refine mm_goto (n := 27) smd_M_isOther_76 rfl ?_
        exact mm_weak (by refine ⟨rfl, rfl, rfl, rfl, trivial⟩) hT
set_option maxHeartbeats 4000000 in
set_option maxRecDepth 100000 in
theorem smr_M_usesTouched {Γ : mm_Ctx} {post : Int32 → mm_Mem → Prop} {h : mm_Mem} (x1 : Int32) (hT : mm_W Γ smM_M_usesTouched (mm_pI post) 4 [some (.ref (mm_B Γ + 64)), some (.int x1), some (.int (0 : Int32)), some (.int (0 : Int32)), none, none] [] h) : mm_SI Γ smM_M_usesTouched [.ref (mm_B Γ + 64), .int x1] h post := by
  refine mm_spec0 (M := smM_M_usesTouched) 4 (by decide +kernel) rfl (Nat.le_of_ble_eq_true rfl) ?_
  show mm_W Γ smM_M_usesTouched (mm_pI post) 0 [some (.ref (mm_B Γ + 64)), some (.int x1), none, none, none, none] [] h
  refine mm_iconst (n := 1) (v := 0) smd_M_usesTouched_0 rfl (by decide) ?_
  refine mm_istore_n (n := 2) (i := 2) (L' := [some (.ref (mm_B Γ + 64)), some (.int x1), some (.int (0 : Int32)), none, none, none]) smd_M_usesTouched_1 rfl rfl (by decide) rfl ?_
  refine mm_iconst (n := 3) (v := 0) smd_M_usesTouched_2 rfl (by decide) ?_
  refine mm_istore_n (n := 4) (i := 3) (L' := [some (.ref (mm_B Γ + 64)), some (.int x1), some (.int (0 : Int32)), some (.int (0 : Int32)), none, none]) smd_M_usesTouched_3 rfl rfl (by decide) rfl ?_
  exact mm_weak (by refine ⟨rfl, rfl, rfl, rfl, trivial⟩) hT
set_option maxHeartbeats 4000000 in
set_option maxRecDepth 100000 in
theorem smr_M_usesTouched_4 {Γ : mm_Ctx} {post : Int32 → mm_Mem → Prop} {h : mm_Mem} (x1 : Int32) (x2 : Int32) (x3 : Int32) (hT : (vp_in x1 12) ∧ (((h 66 x1.toNatClampNeg) ≤ x3 → ((x2 = 0 ∨ x2 = 1) ∧ post x2 h)) ∧ (¬ (h 66 x1.toNatClampNeg) ≤ x3 → (∀ y4_22 : Int32, y4_22 = ((48 : Int32) * x1) + ((4 : Int32) * x3) → ((vp_in y4_22 576) ∧ ((¬ (h 65 y4_22.toNatClampNeg) = (6 : Int32) → ((vp_in y4_22 576) ∧ (((h 65 y4_22.toNatClampNeg) = (7 : Int32) → ((vp_in (y4_22 + (3 : Int32)) 576) ∧ (mm_W Γ smM_M_usesTouched (mm_pI post) 87 [some (.ref (mm_B Γ + 64)), some (.int x1), some (.int x2), some (.int x3), none, none] [.int ((h 65 (y4_22 + (3 : Int32)).toNatClampNeg) / (4 : Int32))] h))) ∧ (¬ (h 65 y4_22.toNatClampNeg) = (7 : Int32) → ((vp_in y4_22 576) ∧ ((¬ (h 65 y4_22.toNatClampNeg) = (8 : Int32) → (mm_W Γ smM_M_usesTouched (mm_pI post) 87 [some (.ref (mm_B Γ + 64)), some (.int x1), some (.int x2), some (.int x3), none, none] [.int (-1 : Int32)] h)) ∧ ((h 65 y4_22.toNatClampNeg) = (8 : Int32) → ((vp_in (y4_22 + (3 : Int32)) 576) ∧ (mm_W Γ smM_M_usesTouched (mm_pI post) 87 [some (.ref (mm_B Γ + 64)), some (.int x1), some (.int x2), some (.int x3), none, none] [.int ((h 65 (y4_22 + (3 : Int32)).toNatClampNeg) / (4 : Int32))] h))))))))) ∧ ((h 65 y4_22.toNatClampNeg) = (6 : Int32) → ((vp_in (y4_22 + (2 : Int32)) 576) ∧ (mm_W Γ smM_M_usesTouched (mm_pI post) 87 [some (.ref (mm_B Γ + 64)), some (.int x1), some (.int x2), some (.int x3), none, none] [.int (h 65 (y4_22 + (2 : Int32)).toNatClampNeg)] h))))))))) : mm_W Γ smM_M_usesTouched (mm_pI post) 4 [some (.ref (mm_B Γ + 64)), some (.int x1), some (.int x2), some (.int x3), none, none] [] h := by
  refine mm_iload_n (n := 5) (i := 3) smd_M_usesTouched_4 rfl rfl rfl ?_
  refine mm_aload_n (n := 6) (i := 0) smd_M_usesTouched_5 rfl rfl rfl ?_
  refine mm_get (n := 9) (v := .ref (mm_B Γ + 66)) smk_M_13 smb_M rfl smd_M_usesTouched_6 rfl ?_
  refine mm_iload_n (n := 10) (i := 1) smd_M_usesTouched_9 rfl rfl rfl ?_
  refine mm_iald (n := 11) sma_66 hT.1 smd_M_usesTouched_10 rfl ?_
  replace hT := hT.2
  refine mm_icmp_ge (n := 14) (tgt := 120) smd_M_usesTouched_11 rfl rfl (fun hc => ?_) (fun hc => ?_)
  · replace hT := hT.1 hc
    refine mm_iload_n (n := 121) (i := 2) smd_M_usesTouched_120 rfl rfl rfl ?_
    exact mm_zret rfl hT.1 smd_M_usesTouched_121 ⟨_, rfl, hT.2⟩
  · replace hT := hT.2 hc
    refine mm_bipush (n := 16) (v := 48) smd_M_usesTouched_14 rfl (by decide) ?_
    refine mm_iload_n (n := 17) (i := 1) smd_M_usesTouched_16 rfl rfl rfl ?_
    refine mm_imul (n := 18) smd_M_usesTouched_17 rfl ?_
    refine mm_iconst (n := 19) (v := 4) smd_M_usesTouched_18 rfl (by decide) ?_
    refine mm_iload_n (n := 20) (i := 3) smd_M_usesTouched_19 rfl rfl rfl ?_
    refine mm_imul (n := 21) smd_M_usesTouched_20 rfl ?_
    refine mm_iadd (n := 22) smd_M_usesTouched_21 rfl ?_
    refine mm_top (fun y4_22 e_y4_22 => ?_)
    replace hT := hT y4_22 e_y4_22
    refine mm_istore (n := 24) (i := 4) (L' := [some (.ref (mm_B Γ + 64)), some (.int x1), some (.int x2), some (.int x3), some (.int y4_22), none]) smd_M_usesTouched_22 rfl (by decide) rfl ?_
    refine mm_aload_n (n := 25) (i := 0) smd_M_usesTouched_24 rfl rfl rfl ?_
    refine mm_get (n := 28) (v := .ref (mm_B Γ + 65)) smk_M_7 smb_M rfl smd_M_usesTouched_25 rfl ?_
    refine mm_iload (n := 30) (i := 4) smd_M_usesTouched_28 rfl rfl ?_
    refine mm_iald (n := 31) sma_65 hT.1 smd_M_usesTouched_30 rfl ?_
    replace hT := hT.2
    refine mm_bipush (n := 33) (v := 6) smd_M_usesTouched_31 rfl (by decide) ?_
    refine mm_icmp_ne (n := 36) (tgt := 48) smd_M_usesTouched_33 rfl rfl (fun hc => ?_) (fun hc => ?_)
    · replace hT := hT.1 hc
      refine mm_aload_n (n := 49) (i := 0) smd_M_usesTouched_48 rfl rfl rfl ?_
      refine mm_get (n := 52) (v := .ref (mm_B Γ + 65)) smk_M_7 smb_M rfl smd_M_usesTouched_49 rfl ?_
      refine mm_iload (n := 54) (i := 4) smd_M_usesTouched_52 rfl rfl ?_
      refine mm_iald (n := 55) sma_65 hT.1 smd_M_usesTouched_54 rfl ?_
      replace hT := hT.2
      refine mm_bipush (n := 57) (v := 7) smd_M_usesTouched_55 rfl (by decide) ?_
      refine mm_icmp_eq (n := 60) (tgt := 72) smd_M_usesTouched_57 rfl rfl (fun hc => ?_) (fun hc => ?_)
      · replace hT := hT.1 hc
        refine mm_aload_n (n := 73) (i := 0) smd_M_usesTouched_72 rfl rfl rfl ?_
        refine mm_get (n := 76) (v := .ref (mm_B Γ + 65)) smk_M_7 smb_M rfl smd_M_usesTouched_73 rfl ?_
        refine mm_iload (n := 78) (i := 4) smd_M_usesTouched_76 rfl rfl ?_
        refine mm_iconst (n := 79) (v := 3) smd_M_usesTouched_78 rfl (by decide) ?_
        refine mm_iadd (n := 80) smd_M_usesTouched_79 rfl ?_
        refine mm_iald (n := 81) sma_65 hT.1 smd_M_usesTouched_80 rfl ?_
        replace hT := hT.2
        refine mm_iconst (n := 82) (v := 4) smd_M_usesTouched_81 rfl (by decide) ?_
        refine mm_idiv (n := 83) smd_M_usesTouched_82 rfl (by decide) ?_
        refine mm_goto (n := 87) smd_M_usesTouched_83 rfl ?_
        exact mm_weak (by refine ⟨rfl, rfl, rfl, rfl, trivial⟩) hT
      · replace hT := hT.2 hc
        refine mm_aload_n (n := 61) (i := 0) smd_M_usesTouched_60 rfl rfl rfl ?_
        refine mm_get (n := 64) (v := .ref (mm_B Γ + 65)) smk_M_7 smb_M rfl smd_M_usesTouched_61 rfl ?_
        refine mm_iload (n := 66) (i := 4) smd_M_usesTouched_64 rfl rfl ?_
        refine mm_iald (n := 67) sma_65 hT.1 smd_M_usesTouched_66 rfl ?_
        replace hT := hT.2
        refine mm_bipush (n := 69) (v := 8) smd_M_usesTouched_67 rfl (by decide) ?_
        refine mm_icmp_ne (n := 72) (tgt := 86) smd_M_usesTouched_69 rfl rfl (fun hc => ?_) (fun hc => ?_)
        · replace hT := hT.1 hc
          refine mm_iconst (n := 87) (v := -1) smd_M_usesTouched_86 rfl (by decide) ?_
          exact mm_weak (by refine ⟨rfl, rfl, rfl, rfl, trivial⟩) hT
        · replace hT := hT.2 hc
          refine mm_aload_n (n := 73) (i := 0) smd_M_usesTouched_72 rfl rfl rfl ?_
          refine mm_get (n := 76) (v := .ref (mm_B Γ + 65)) smk_M_7 smb_M rfl smd_M_usesTouched_73 rfl ?_
          refine mm_iload (n := 78) (i := 4) smd_M_usesTouched_76 rfl rfl ?_
          refine mm_iconst (n := 79) (v := 3) smd_M_usesTouched_78 rfl (by decide) ?_
          refine mm_iadd (n := 80) smd_M_usesTouched_79 rfl ?_
          refine mm_iald (n := 81) sma_65 hT.1 smd_M_usesTouched_80 rfl ?_
          replace hT := hT.2
          refine mm_iconst (n := 82) (v := 4) smd_M_usesTouched_81 rfl (by decide) ?_
          refine mm_idiv (n := 83) smd_M_usesTouched_82 rfl (by decide) ?_
          refine mm_goto (n := 87) smd_M_usesTouched_83 rfl ?_
          exact mm_weak (by refine ⟨rfl, rfl, rfl, rfl, trivial⟩) hT
    · replace hT := hT.2 hc
      refine mm_aload_n (n := 37) (i := 0) smd_M_usesTouched_36 rfl rfl rfl ?_
      refine mm_get (n := 40) (v := .ref (mm_B Γ + 65)) smk_M_7 smb_M rfl smd_M_usesTouched_37 rfl ?_
      refine mm_iload (n := 42) (i := 4) smd_M_usesTouched_40 rfl rfl ?_
      refine mm_iconst (n := 43) (v := 2) smd_M_usesTouched_42 rfl (by decide) ?_
      refine mm_iadd (n := 44) smd_M_usesTouched_43 rfl ?_
      refine mm_iald (n := 45) sma_65 hT.1 smd_M_usesTouched_44 rfl ?_
      replace hT := hT.2
      refine mm_goto (n := 87) smd_M_usesTouched_45 rfl ?_
      exact mm_weak (by refine ⟨rfl, rfl, rfl, rfl, trivial⟩) hT
set_option maxHeartbeats 4000000 in
set_option maxRecDepth 100000 in
theorem smr_M_usesTouched_87 {Γ : mm_Ctx} {post : Int32 → mm_Mem → Prop} {h : mm_Mem} (x1 : Int32) (x2 : Int32) (x3 : Int32) (s0 : Int32) (hT : (¬ x2 = 0 → (mm_W Γ smM_M_usesTouched (mm_pI post) 4 [some (.ref (mm_B Γ + 64)), some (.int x1), some (.int (1 : Int32)), some (.int (x3 + (1 : Int32))), none, none] [] h)) ∧ (x2 = 0 → ((s0 < 0 → (mm_W Γ smM_M_usesTouched (mm_pI post) 4 [some (.ref (mm_B Γ + 64)), some (.int x1), some (.int (0 : Int32)), some (.int (x3 + (1 : Int32))), none, none] [] h)) ∧ (¬ s0 < 0 → ((vp_in s0 3) ∧ (((h 69 s0.toNatClampNeg) = 0 → (mm_W Γ smM_M_usesTouched (mm_pI post) 4 [some (.ref (mm_B Γ + 64)), some (.int x1), some (.int (0 : Int32)), some (.int (x3 + (1 : Int32))), none, none] [] h)) ∧ (¬ (h 69 s0.toNatClampNeg) = 0 → (mm_W Γ smM_M_usesTouched (mm_pI post) 4 [some (.ref (mm_B Γ + 64)), some (.int x1), some (.int (1 : Int32)), some (.int (x3 + (1 : Int32))), none, none] [] h)))))))) : mm_W Γ smM_M_usesTouched (mm_pI post) 87 [some (.ref (mm_B Γ + 64)), some (.int x1), some (.int x2), some (.int x3), none, none] [.int s0] h := by
  refine mm_istore (n := 89) (i := 5) (L' := [some (.ref (mm_B Γ + 64)), some (.int x1), some (.int x2), some (.int x3), none, some (.int s0)]) smd_M_usesTouched_87 rfl (by decide) rfl ?_
  refine mm_iload_n (n := 90) (i := 2) smd_M_usesTouched_89 rfl rfl rfl ?_
  refine mm_if_ne (n := 93) (tgt := 108) smd_M_usesTouched_90 rfl rfl (fun hc => ?_) (fun hc => ?_)
  · replace hT := hT.1 hc
    refine mm_iconst (n := 109) (v := 1) smd_M_usesTouched_108 rfl (by decide) ?_
    refine mm_goto (n := 113) smd_M_usesTouched_109 rfl ?_
    refine mm_istore_n (n := 114) (i := 2) (L' := [some (.ref (mm_B Γ + 64)), some (.int x1), some (.int (1 : Int32)), some (.int x3), none, some (.int s0)]) smd_M_usesTouched_113 rfl rfl (by decide) rfl ?_
    refine mm_iinc (n := 117) (i := 3) (d := 1) (L' := [some (.ref (mm_B Γ + 64)), some (.int x1), some (.int (1 : Int32)), some (.int (x3 + (1 : Int32))), none, some (.int s0)]) smd_M_usesTouched_114 rfl rfl (by decide) (by decide) rfl ?_
    refine mm_goto (n := 4) smd_M_usesTouched_117 rfl ?_
    exact mm_weak (by refine ⟨rfl, rfl, rfl, rfl, trivial⟩) hT
  · replace hT := hT.2 hc
    refine mm_iload (n := 95) (i := 5) smd_M_usesTouched_93 rfl rfl ?_
    refine mm_if_lt (n := 98) (tgt := 112) smd_M_usesTouched_95 rfl rfl (fun hc => ?_) (fun hc => ?_)
    · replace hT := hT.1 hc
      refine mm_iconst (n := 113) (v := 0) smd_M_usesTouched_112 rfl (by decide) ?_
      refine mm_istore_n (n := 114) (i := 2) (L' := [some (.ref (mm_B Γ + 64)), some (.int x1), some (.int (0 : Int32)), some (.int x3), none, some (.int s0)]) smd_M_usesTouched_113 rfl rfl (by decide) rfl ?_
      refine mm_iinc (n := 117) (i := 3) (d := 1) (L' := [some (.ref (mm_B Γ + 64)), some (.int x1), some (.int (0 : Int32)), some (.int (x3 + (1 : Int32))), none, some (.int s0)]) smd_M_usesTouched_114 rfl rfl (by decide) (by decide) rfl ?_
      refine mm_goto (n := 4) smd_M_usesTouched_117 rfl ?_
      exact mm_weak (by refine ⟨rfl, rfl, rfl, rfl, trivial⟩) hT
    · replace hT := hT.2 hc
      refine mm_aload_n (n := 99) (i := 0) smd_M_usesTouched_98 rfl rfl rfl ?_
      refine mm_get (n := 102) (v := .ref (mm_B Γ + 69)) smk_M_22 smb_M rfl smd_M_usesTouched_99 rfl ?_
      refine mm_iload (n := 104) (i := 5) smd_M_usesTouched_102 rfl rfl ?_
      refine mm_zald (n := 105) sma_69 hT.1 smd_M_usesTouched_104 rfl ?_
      replace hT := hT.2
      refine mm_if_eq (n := 108) (tgt := 112) smd_M_usesTouched_105 rfl rfl (fun hc => ?_) (fun hc => ?_)
      · replace hT := hT.1 hc
        refine mm_iconst (n := 113) (v := 0) smd_M_usesTouched_112 rfl (by decide) ?_
        refine mm_istore_n (n := 114) (i := 2) (L' := [some (.ref (mm_B Γ + 64)), some (.int x1), some (.int (0 : Int32)), some (.int x3), none, some (.int s0)]) smd_M_usesTouched_113 rfl rfl (by decide) rfl ?_
        refine mm_iinc (n := 117) (i := 3) (d := 1) (L' := [some (.ref (mm_B Γ + 64)), some (.int x1), some (.int (0 : Int32)), some (.int (x3 + (1 : Int32))), none, some (.int s0)]) smd_M_usesTouched_114 rfl rfl (by decide) (by decide) rfl ?_
        refine mm_goto (n := 4) smd_M_usesTouched_117 rfl ?_
        exact mm_weak (by refine ⟨rfl, rfl, rfl, rfl, trivial⟩) hT
      · replace hT := hT.2 hc
        refine mm_iconst (n := 109) (v := 1) smd_M_usesTouched_108 rfl (by decide) ?_
        refine mm_goto (n := 113) smd_M_usesTouched_109 rfl ?_
        refine mm_istore_n (n := 114) (i := 2) (L' := [some (.ref (mm_B Γ + 64)), some (.int x1), some (.int (1 : Int32)), some (.int x3), none, some (.int s0)]) smd_M_usesTouched_113 rfl rfl (by decide) rfl ?_
        refine mm_iinc (n := 117) (i := 3) (d := 1) (L' := [some (.ref (mm_B Γ + 64)), some (.int x1), some (.int (1 : Int32)), some (.int (x3 + (1 : Int32))), none, some (.int s0)]) smd_M_usesTouched_114 rfl rfl (by decide) (by decide) rfl ?_
        refine mm_goto (n := 4) smd_M_usesTouched_117 rfl ?_
        exact mm_weak (by refine ⟨rfl, rfl, rfl, rfl, trivial⟩) hT
set_option maxHeartbeats 4000000 in
set_option maxRecDepth 100000 in
theorem smr_M_isChanged {Γ : mm_Ctx} {post : Int32 → mm_Mem → Prop} {h : mm_Mem} (x1 : Int32) (hT : mm_SI Γ smM_M_isOther [.ref (mm_B Γ + 64), .int x1] h (fun r2 h2 => (¬ r2 = 0 → (post (1 : Int32) h2)) ∧ (r2 = 0 → (mm_SI Γ smM_M_usesTouched [.ref (mm_B Γ + 64), .int x1] h2 (fun r10 h10 => (r10 = 0 → (post (0 : Int32) h10)) ∧ (¬ r10 = 0 → (post (1 : Int32) h10))))))) : mm_SI Γ smM_M_isChanged [.ref (mm_B Γ + 64), .int x1] h post := by
  refine mm_spec0 (M := smM_M_isChanged) 0 (by decide +kernel) rfl (Nat.le_of_ble_eq_true rfl) ?_
  show mm_W Γ smM_M_isChanged (mm_pI post) 0 [some (.ref (mm_B Γ + 64)), some (.int x1)] [] h
  refine mm_aload_n (n := 1) (i := 0) smd_M_isChanged_0 rfl rfl rfl ?_
  refine mm_iload_n (n := 2) (i := 1) smd_M_isChanged_1 rfl rfl rfl ?_
  refine mm_callVI (n := 5) (As := [.int x1]) (rest := []) smv_M_isOther smw_641 smb_M (mm_hRm (by decide) (by decide)) smd_M_isChanged_2 rfl rfl (Nat.le_of_ble_eq_true rfl) hT (fun r2 h2 hT => ?_)
  refine mm_if_ne (n := 8) (tgt := 16) smd_M_isChanged_5 rfl rfl (fun hc => ?_) (fun hc => ?_)
  · replace hT := hT.1 hc
    refine mm_iconst (n := 17) (v := 1) smd_M_isChanged_16 rfl (by decide) ?_
    refine mm_goto (n := 21) smd_M_isChanged_17 rfl ?_
    exact mm_zret rfl (Or.inr rfl) smd_M_isChanged_21 ⟨_, rfl, hT⟩
  · replace hT := hT.2 hc
    refine mm_aload_n (n := 9) (i := 0) smd_M_isChanged_8 rfl rfl rfl ?_
    refine mm_iload_n (n := 10) (i := 1) smd_M_isChanged_9 rfl rfl rfl ?_
    refine mm_callVI (n := 13) (As := [.int x1]) (rest := []) smv_M_usesTouched smw_645 smb_M (mm_hRm (by decide) (by decide)) smd_M_isChanged_10 rfl rfl (Nat.le_of_ble_eq_true rfl) hT (fun r10 h10 hT => ?_)
    refine mm_if_eq (n := 16) (tgt := 20) smd_M_isChanged_13 rfl rfl (fun hc => ?_) (fun hc => ?_)
    · replace hT := hT.1 hc
      refine mm_iconst (n := 21) (v := 0) smd_M_isChanged_20 rfl (by decide) ?_
      exact mm_zret rfl (Or.inl rfl) smd_M_isChanged_21 ⟨_, rfl, hT⟩
    · replace hT := hT.2 hc
      refine mm_iconst (n := 17) (v := 1) smd_M_isChanged_16 rfl (by decide) ?_
      refine mm_goto (n := 21) smd_M_isChanged_17 rfl ?_
      exact mm_zret rfl (Or.inr rfl) smd_M_isChanged_21 ⟨_, rfl, hT⟩
set_option maxHeartbeats 4000000 in
set_option maxRecDepth 100000 in
theorem smr_M_changed {Γ : mm_Ctx} {post : Int32 → mm_Mem → Prop} {h : mm_Mem} (x1 : Int32) (hT : ((h 64 5) = 0 → (post (0 : Int32) h)) ∧ (¬ (h 64 5) = 0 → (mm_SI Γ smM_M_isProcedure [.int x1] h (fun r8 h8 => (r8 = 0 → (post (0 : Int32) h8)) ∧ (¬ r8 = 0 → (mm_SI Γ smM_M_isChanged [.ref (mm_B Γ + 64), .int x1] h8 (fun r16 h16 => (r16 = 0 → (post (0 : Int32) h16)) ∧ (¬ r16 = 0 → (post (1 : Int32) h16))))))))) : mm_SI Γ smM_M_changed [.ref (mm_B Γ + 64), .int x1] h post := by
  refine mm_spec0 (M := smM_M_changed) 0 (by decide +kernel) rfl (Nat.le_of_ble_eq_true rfl) ?_
  show mm_W Γ smM_M_changed (mm_pI post) 0 [some (.ref (mm_B Γ + 64)), some (.int x1)] [] h
  refine mm_aload_n (n := 1) (i := 0) smd_M_changed_0 rfl rfl rfl ?_
  refine mm_get (n := 4) (v := .int (h 64 5)) smk_M_63 smb_M rfl smd_M_changed_1 rfl ?_
  refine mm_if_eq (n := 7) (tgt := 26) smd_M_changed_4 rfl rfl (fun hc => ?_) (fun hc => ?_)
  · replace hT := hT.1 hc
    refine mm_iconst (n := 27) (v := 0) smd_M_changed_26 rfl (by decide) ?_
    exact mm_zret rfl (Or.inl rfl) smd_M_changed_27 ⟨_, rfl, hT⟩
  · replace hT := hT.2 hc
    refine mm_iload_n (n := 8) (i := 1) smd_M_changed_7 rfl rfl rfl ?_
    refine mm_callSI (n := 11) (As := [.int x1]) (rest := []) smv_M_isProcedure smw_584 (mm_hRm (by decide) (by decide)) smd_M_changed_8 rfl rfl (Nat.le_of_ble_eq_true rfl) hT (fun r8 h8 hT => ?_)
    refine mm_if_eq (n := 14) (tgt := 26) smd_M_changed_11 rfl rfl (fun hc => ?_) (fun hc => ?_)
    · replace hT := hT.1 hc
      refine mm_iconst (n := 27) (v := 0) smd_M_changed_26 rfl (by decide) ?_
      exact mm_zret rfl (Or.inl rfl) smd_M_changed_27 ⟨_, rfl, hT⟩
    · replace hT := hT.2 hc
      refine mm_aload_n (n := 15) (i := 0) smd_M_changed_14 rfl rfl rfl ?_
      refine mm_iload_n (n := 16) (i := 1) smd_M_changed_15 rfl rfl rfl ?_
      refine mm_callVI (n := 19) (As := [.int x1]) (rest := []) smv_M_isChanged smw_637 smb_M (mm_hRm (by decide) (by decide)) smd_M_changed_16 rfl rfl (Nat.le_of_ble_eq_true rfl) hT (fun r16 h16 hT => ?_)
      refine mm_if_eq (n := 22) (tgt := 26) smd_M_changed_19 rfl rfl (fun hc => ?_) (fun hc => ?_)
      · replace hT := hT.1 hc
        refine mm_iconst (n := 27) (v := 0) smd_M_changed_26 rfl (by decide) ?_
        exact mm_zret rfl (Or.inl rfl) smd_M_changed_27 ⟨_, rfl, hT⟩
      · replace hT := hT.2 hc
        refine mm_iconst (n := 23) (v := 1) smd_M_changed_22 rfl (by decide) ?_
        refine mm_goto (n := 27) smd_M_changed_23 rfl ?_
        exact mm_zret rfl (Or.inr rfl) smd_M_changed_27 ⟨_, rfl, hT⟩
set_option maxHeartbeats 4000000 in
set_option maxRecDepth 100000 in
theorem smr_M_pointOf {Γ : mm_Ctx} {post : Int32 → mm_Mem → Prop} {h : mm_Mem} (x1 : Int32) (x2 : Int32) (hT : (vp_in ((6 : Int32) + x1) 12) ∧ (∀ y4_13 : Int32, y4_13 = (h 66 ((6 : Int32) + x1).toNatClampNeg) - (1 : Int32) → (mm_W Γ smM_M_pointOf (mm_pI post) 15 [some (.ref (mm_B Γ + 64)), some (.int x1), some (.int x2), some (.int (-1 : Int32)), some (.int y4_13), none] [] h))) : mm_SI Γ smM_M_pointOf [.ref (mm_B Γ + 64), .int x1, .int x2] h post := by
  refine mm_spec0 (M := smM_M_pointOf) 3 (by decide +kernel) rfl (Nat.le_of_ble_eq_true rfl) ?_
  show mm_W Γ smM_M_pointOf (mm_pI post) 0 [some (.ref (mm_B Γ + 64)), some (.int x1), some (.int x2), none, none, none] [] h
  refine mm_iconst (n := 1) (v := -1) smd_M_pointOf_0 rfl (by decide) ?_
  refine mm_istore_n (n := 2) (i := 3) (L' := [some (.ref (mm_B Γ + 64)), some (.int x1), some (.int x2), some (.int (-1 : Int32)), none, none]) smd_M_pointOf_1 rfl rfl (by decide) rfl ?_
  refine mm_aload_n (n := 3) (i := 0) smd_M_pointOf_2 rfl rfl rfl ?_
  refine mm_get (n := 6) (v := .ref (mm_B Γ + 66)) smk_M_13 smb_M rfl smd_M_pointOf_3 rfl ?_
  refine mm_bipush (n := 8) (v := 6) smd_M_pointOf_6 rfl (by decide) ?_
  refine mm_iload_n (n := 9) (i := 1) smd_M_pointOf_8 rfl rfl rfl ?_
  refine mm_iadd (n := 10) smd_M_pointOf_9 rfl ?_
  refine mm_iald (n := 11) sma_66 hT.1 smd_M_pointOf_10 rfl ?_
  replace hT := hT.2
  refine mm_iconst (n := 12) (v := 1) smd_M_pointOf_11 rfl (by decide) ?_
  refine mm_isub (n := 13) smd_M_pointOf_12 rfl ?_
  refine mm_top (fun y4_13 e_y4_13 => ?_)
  replace hT := hT y4_13 e_y4_13
  refine mm_istore (n := 15) (i := 4) (L' := [some (.ref (mm_B Γ + 64)), some (.int x1), some (.int x2), some (.int (-1 : Int32)), some (.int y4_13), none]) smd_M_pointOf_13 rfl (by decide) rfl ?_
  exact mm_weak (by refine ⟨rfl, rfl, rfl, rfl, rfl, trivial⟩) hT
set_option maxHeartbeats 4000000 in
set_option maxRecDepth 100000 in
theorem smr_M_pointOf_15 {Γ : mm_Ctx} {post : Int32 → mm_Mem → Prop} {h : mm_Mem} (x1 : Int32) (x2 : Int32) (x3 : Int32) (x4 : Int32) (hT : (x4 < 0 → (post x3 h)) ∧ (¬ x4 < 0 → (∀ y5_33 : Int32, y5_33 = ((288 : Int32) + ((48 : Int32) * x1)) + ((4 : Int32) * x4) → ((vp_in y5_33 576) ∧ ((¬ (h 65 y5_33.toNatClampNeg) = (12 : Int32) → (mm_W Γ smM_M_pointOf (mm_pI post) 15 [some (.ref (mm_B Γ + 64)), some (.int x1), some (.int x2), some (.int x3), some (.int (x4 + (-1 : Int32))), none] [] h)) ∧ ((h 65 y5_33.toNatClampNeg) = (12 : Int32) → ((vp_in (y5_33 + (1 : Int32)) 576) ∧ ((¬ (h 65 (y5_33 + (1 : Int32)).toNatClampNeg) = x2 → (mm_W Γ smM_M_pointOf (mm_pI post) 15 [some (.ref (mm_B Γ + 64)), some (.int x1), some (.int x2), some (.int x3), some (.int (x4 + (-1 : Int32))), none] [] h)) ∧ ((h 65 (y5_33 + (1 : Int32)).toNatClampNeg) = x2 → (mm_W Γ smM_M_pointOf (mm_pI post) 15 [some (.ref (mm_B Γ + 64)), some (.int x1), some (.int x2), some (.int x4), some (.int (x4 + (-1 : Int32))), none] [] h)))))))))) : mm_W Γ smM_M_pointOf (mm_pI post) 15 [some (.ref (mm_B Γ + 64)), some (.int x1), some (.int x2), some (.int x3), some (.int x4), none] [] h := by
  refine mm_iload (n := 17) (i := 4) smd_M_pointOf_15 rfl rfl ?_
  refine mm_if_lt (n := 20) (tgt := 73) smd_M_pointOf_17 rfl rfl (fun hc => ?_) (fun hc => ?_)
  · replace hT := hT.1 hc
    refine mm_iload_n (n := 74) (i := 3) smd_M_pointOf_73 rfl rfl rfl ?_
    exact mm_iret rfl smd_M_pointOf_74 ⟨_, rfl, hT⟩
  · replace hT := hT.2 hc
    refine mm_sipush (n := 23) (v := 288) smd_M_pointOf_20 rfl (by decide) ?_
    refine mm_bipush (n := 25) (v := 48) smd_M_pointOf_23 rfl (by decide) ?_
    refine mm_iload_n (n := 26) (i := 1) smd_M_pointOf_25 rfl rfl rfl ?_
    refine mm_imul (n := 27) smd_M_pointOf_26 rfl ?_
    refine mm_iadd (n := 28) smd_M_pointOf_27 rfl ?_
    refine mm_iconst (n := 29) (v := 4) smd_M_pointOf_28 rfl (by decide) ?_
    refine mm_iload (n := 31) (i := 4) smd_M_pointOf_29 rfl rfl ?_
    refine mm_imul (n := 32) smd_M_pointOf_31 rfl ?_
    refine mm_iadd (n := 33) smd_M_pointOf_32 rfl ?_
    refine mm_top (fun y5_33 e_y5_33 => ?_)
    replace hT := hT y5_33 e_y5_33
    refine mm_istore (n := 35) (i := 5) (L' := [some (.ref (mm_B Γ + 64)), some (.int x1), some (.int x2), some (.int x3), some (.int x4), some (.int y5_33)]) smd_M_pointOf_33 rfl (by decide) rfl ?_
    refine mm_aload_n (n := 36) (i := 0) smd_M_pointOf_35 rfl rfl rfl ?_
    refine mm_get (n := 39) (v := .ref (mm_B Γ + 65)) smk_M_7 smb_M rfl smd_M_pointOf_36 rfl ?_
    refine mm_iload (n := 41) (i := 5) smd_M_pointOf_39 rfl rfl ?_
    refine mm_iald (n := 42) sma_65 hT.1 smd_M_pointOf_41 rfl ?_
    replace hT := hT.2
    refine mm_bipush (n := 44) (v := 12) smd_M_pointOf_42 rfl (by decide) ?_
    refine mm_icmp_ne (n := 47) (tgt := 65) smd_M_pointOf_44 rfl rfl (fun hc => ?_) (fun hc => ?_)
    · replace hT := hT.1 hc
      refine mm_iload_n (n := 66) (i := 3) smd_M_pointOf_65 rfl rfl rfl ?_
      refine mm_istore_n (n := 67) (i := 3) (L' := [some (.ref (mm_B Γ + 64)), some (.int x1), some (.int x2), some (.int x3), some (.int x4), some (.int y5_33)]) smd_M_pointOf_66 rfl rfl (by decide) rfl ?_
      refine mm_iinc (n := 70) (i := 4) (d := -1) (L' := [some (.ref (mm_B Γ + 64)), some (.int x1), some (.int x2), some (.int x3), some (.int (x4 + (-1 : Int32))), some (.int y5_33)]) smd_M_pointOf_67 rfl rfl (by decide) (by decide) rfl ?_
      refine mm_goto (n := 15) smd_M_pointOf_70 rfl ?_
      exact mm_weak (by refine ⟨rfl, rfl, rfl, rfl, rfl, trivial⟩) hT
    · replace hT := hT.2 hc
      refine mm_aload_n (n := 48) (i := 0) smd_M_pointOf_47 rfl rfl rfl ?_
      refine mm_get (n := 51) (v := .ref (mm_B Γ + 65)) smk_M_7 smb_M rfl smd_M_pointOf_48 rfl ?_
      refine mm_iload (n := 53) (i := 5) smd_M_pointOf_51 rfl rfl ?_
      refine mm_iconst (n := 54) (v := 1) smd_M_pointOf_53 rfl (by decide) ?_
      refine mm_iadd (n := 55) smd_M_pointOf_54 rfl ?_
      refine mm_iald (n := 56) sma_65 hT.1 smd_M_pointOf_55 rfl ?_
      replace hT := hT.2
      refine mm_iload_n (n := 57) (i := 2) smd_M_pointOf_56 rfl rfl rfl ?_
      refine mm_icmp_ne (n := 60) (tgt := 65) smd_M_pointOf_57 rfl rfl (fun hc => ?_) (fun hc => ?_)
      · replace hT := hT.1 hc
        refine mm_iload_n (n := 66) (i := 3) smd_M_pointOf_65 rfl rfl rfl ?_
        refine mm_istore_n (n := 67) (i := 3) (L' := [some (.ref (mm_B Γ + 64)), some (.int x1), some (.int x2), some (.int x3), some (.int x4), some (.int y5_33)]) smd_M_pointOf_66 rfl rfl (by decide) rfl ?_
        refine mm_iinc (n := 70) (i := 4) (d := -1) (L' := [some (.ref (mm_B Γ + 64)), some (.int x1), some (.int x2), some (.int x3), some (.int (x4 + (-1 : Int32))), some (.int y5_33)]) smd_M_pointOf_67 rfl rfl (by decide) (by decide) rfl ?_
        refine mm_goto (n := 15) smd_M_pointOf_70 rfl ?_
        exact mm_weak (by refine ⟨rfl, rfl, rfl, rfl, rfl, trivial⟩) hT
      · replace hT := hT.2 hc
        refine mm_iload (n := 62) (i := 4) smd_M_pointOf_60 rfl rfl ?_
        refine mm_goto (n := 66) smd_M_pointOf_62 rfl ?_
        refine mm_istore_n (n := 67) (i := 3) (L' := [some (.ref (mm_B Γ + 64)), some (.int x1), some (.int x2), some (.int x4), some (.int x4), some (.int y5_33)]) smd_M_pointOf_66 rfl rfl (by decide) rfl ?_
        refine mm_iinc (n := 70) (i := 4) (d := -1) (L' := [some (.ref (mm_B Γ + 64)), some (.int x1), some (.int x2), some (.int x4), some (.int (x4 + (-1 : Int32))), some (.int y5_33)]) smd_M_pointOf_67 rfl rfl (by decide) (by decide) rfl ?_
        refine mm_goto (n := 15) smd_M_pointOf_70 rfl ?_
        exact mm_weak (by refine ⟨rfl, rfl, rfl, rfl, rfl, trivial⟩) hT
set_option maxHeartbeats 4000000 in
set_option maxRecDepth 100000 in
theorem smr_M_frameAt {Γ : mm_Ctx} {post : Int32 → mm_Mem → Prop} {h : mm_Mem} (x0 : Int32) (x1 : Int32) (hT : post (((36 : Int32) * x0) + ((6 : Int32) * x1)) h) : mm_SI Γ smM_M_frameAt [.int x0, .int x1] h post := by
  refine mm_spec0 (M := smM_M_frameAt) 0 (by decide +kernel) rfl (Nat.le_of_ble_eq_true rfl) ?_
  show mm_W Γ smM_M_frameAt (mm_pI post) 0 [some (.int x0), some (.int x1)] [] h
  refine mm_bipush (n := 2) (v := 36) smd_M_frameAt_0 rfl (by decide) ?_
  refine mm_iload_n (n := 3) (i := 0) smd_M_frameAt_2 rfl rfl rfl ?_
  refine mm_imul (n := 4) smd_M_frameAt_3 rfl ?_
  refine mm_bipush (n := 6) (v := 6) smd_M_frameAt_4 rfl (by decide) ?_
  refine mm_iload_n (n := 7) (i := 1) smd_M_frameAt_6 rfl rfl rfl ?_
  refine mm_imul (n := 8) smd_M_frameAt_7 rfl ?_
  refine mm_iadd (n := 9) smd_M_frameAt_8 rfl ?_
  exact mm_iret rfl smd_M_frameAt_9 ⟨_, rfl, hT⟩
set_option maxHeartbeats 4000000 in
set_option maxRecDepth 100000 in
theorem smr_M_isInTheWay {Γ : mm_Ctx} {post : Int32 → mm_Mem → Prop} {h : mm_Mem} (x1 : Int32) (x2 : Int32) (hT : mm_SI Γ smM_M_frameAt [.int x1, .int x2] h (fun r6 h6 => (vp_in r6 252) ∧ (∀ y3_10 : Int32, y3_10 = h6 78 r6.toNatClampNeg → (mm_SI Γ smM_M_isChanged [.ref (mm_B Γ + 64), .int y3_10] h6 (fun r13 h13 => (¬ r13 = 0 → (mm_SI Γ smM_M_frameAt [.int x1, .int x2] h13 (fun r32 h32 => (vp_in (r32 + (1 : Int32)) 252) ∧ (∀ y4_40 : Int32, y4_40 = ((48 : Int32) * y3_10) + ((4 : Int32) * (h32 78 (r32 + (1 : Int32)).toNatClampNeg)) → ((vp_in x1 7) ∧ (((x2 + (1 : Int32)) < (h32 77 x1.toNatClampNeg) → (post (1 : Int32) h32)) ∧ (¬ (x2 + (1 : Int32)) < (h32 77 x1.toNatClampNeg) → ((vp_in y4_40 576) ∧ ((¬ (h32 65 y4_40.toNatClampNeg) = (12 : Int32) → (post (1 : Int32) h32)) ∧ ((h32 65 y4_40.toNatClampNeg) = (12 : Int32) → ((vp_in (y4_40 + (1 : Int32)) 576) ∧ (mm_SI Γ smM_M_pointOf [.ref (mm_B Γ + 64), .int y3_10, .int (h32 65 (y4_40 + (1 : Int32)).toNatClampNeg)] h32 (fun r77 h77 => (0 ≤ r77 → (post (0 : Int32) h77)) ∧ (¬ 0 ≤ r77 → (post (1 : Int32) h77))))))))))))))) ∧ (r13 = 0 → (post (0 : Int32) h13))))))) : mm_SI Γ smM_M_isInTheWay [.ref (mm_B Γ + 64), .int x1, .int x2] h post := by
  refine mm_spec0 (M := smM_M_isInTheWay) 2 (by decide +kernel) rfl (Nat.le_of_ble_eq_true rfl) ?_
  show mm_W Γ smM_M_isInTheWay (mm_pI post) 0 [some (.ref (mm_B Γ + 64)), some (.int x1), some (.int x2), none, none] [] h
  refine mm_aload_n (n := 1) (i := 0) smd_M_isInTheWay_0 rfl rfl rfl ?_
  refine mm_get (n := 4) (v := .ref (mm_B Γ + 78)) smk_M_50 smb_M rfl smd_M_isInTheWay_1 rfl ?_
  refine mm_iload_n (n := 5) (i := 1) smd_M_isInTheWay_4 rfl rfl rfl ?_
  refine mm_iload_n (n := 6) (i := 2) smd_M_isInTheWay_5 rfl rfl rfl ?_
  refine mm_callSI (n := 9) (As := [.int x1, .int x2]) (rest := [.ref (mm_B Γ + 78)]) smv_M_frameAt smw_657 (mm_hRm (by decide) (by decide)) smd_M_isInTheWay_6 rfl rfl (Nat.le_of_ble_eq_true rfl) hT (fun r6 h6 hT => ?_)
  refine mm_iald (n := 10) sma_78 hT.1 smd_M_isInTheWay_9 rfl ?_
  replace hT := hT.2
  refine mm_top (fun y3_10 e_y3_10 => ?_)
  replace hT := hT y3_10 e_y3_10
  refine mm_istore_n (n := 11) (i := 3) (L' := [some (.ref (mm_B Γ + 64)), some (.int x1), some (.int x2), some (.int y3_10), none]) smd_M_isInTheWay_10 rfl rfl (by decide) rfl ?_
  refine mm_aload_n (n := 12) (i := 0) smd_M_isInTheWay_11 rfl rfl rfl ?_
  refine mm_iload_n (n := 13) (i := 3) smd_M_isInTheWay_12 rfl rfl rfl ?_
  refine mm_callVI (n := 16) (As := [.int y3_10]) (rest := []) smv_M_isChanged smw_637 smb_M (mm_hRm (by decide) (by decide)) smd_M_isInTheWay_13 rfl rfl (Nat.le_of_ble_eq_true rfl) hT (fun r13 h13 hT => ?_)
  refine mm_if_ne (n := 19) (tgt := 21) smd_M_isInTheWay_16 rfl rfl (fun hc => ?_) (fun hc => ?_)
  · replace hT := hT.1 hc
    refine mm_bipush (n := 23) (v := 48) smd_M_isInTheWay_21 rfl (by decide) ?_
    refine mm_iload_n (n := 24) (i := 3) smd_M_isInTheWay_23 rfl rfl rfl ?_
    refine mm_imul (n := 25) smd_M_isInTheWay_24 rfl ?_
    refine mm_iconst (n := 26) (v := 4) smd_M_isInTheWay_25 rfl (by decide) ?_
    refine mm_aload_n (n := 27) (i := 0) smd_M_isInTheWay_26 rfl rfl rfl ?_
    refine mm_get (n := 30) (v := .ref (mm_B Γ + 78)) smk_M_50 smb_M rfl smd_M_isInTheWay_27 rfl ?_
    refine mm_iload_n (n := 31) (i := 1) smd_M_isInTheWay_30 rfl rfl rfl ?_
    refine mm_iload_n (n := 32) (i := 2) smd_M_isInTheWay_31 rfl rfl rfl ?_
    refine mm_callSI (n := 35) (As := [.int x1, .int x2]) (rest := [.ref (mm_B Γ + 78), .int (4 : Int32), .int ((48 : Int32) * y3_10)]) smv_M_frameAt smw_657 (mm_hRm (by decide) (by decide)) smd_M_isInTheWay_32 rfl rfl (Nat.le_of_ble_eq_true rfl) hT (fun r32 h32 hT => ?_)
    refine mm_iconst (n := 36) (v := 1) smd_M_isInTheWay_35 rfl (by decide) ?_
    refine mm_iadd (n := 37) smd_M_isInTheWay_36 rfl ?_
    refine mm_iald (n := 38) sma_78 hT.1 smd_M_isInTheWay_37 rfl ?_
    replace hT := hT.2
    refine mm_imul (n := 39) smd_M_isInTheWay_38 rfl ?_
    refine mm_iadd (n := 40) smd_M_isInTheWay_39 rfl ?_
    refine mm_top (fun y4_40 e_y4_40 => ?_)
    replace hT := hT y4_40 e_y4_40
    refine mm_istore (n := 42) (i := 4) (L' := [some (.ref (mm_B Γ + 64)), some (.int x1), some (.int x2), some (.int y3_10), some (.int y4_40)]) smd_M_isInTheWay_40 rfl (by decide) rfl ?_
    refine mm_iload_n (n := 43) (i := 2) smd_M_isInTheWay_42 rfl rfl rfl ?_
    refine mm_iconst (n := 44) (v := 1) smd_M_isInTheWay_43 rfl (by decide) ?_
    refine mm_iadd (n := 45) smd_M_isInTheWay_44 rfl ?_
    refine mm_aload_n (n := 46) (i := 0) smd_M_isInTheWay_45 rfl rfl rfl ?_
    refine mm_get (n := 49) (v := .ref (mm_B Γ + 77)) smk_M_47 smb_M rfl smd_M_isInTheWay_46 rfl ?_
    refine mm_iload_n (n := 50) (i := 1) smd_M_isInTheWay_49 rfl rfl rfl ?_
    refine mm_iald (n := 51) sma_77 hT.1 smd_M_isInTheWay_50 rfl ?_
    replace hT := hT.2
    refine mm_icmp_lt (n := 54) (tgt := 83) smd_M_isInTheWay_51 rfl rfl (fun hc => ?_) (fun hc => ?_)
    · replace hT := hT.1 hc
      refine mm_iconst (n := 84) (v := 1) smd_M_isInTheWay_83 rfl (by decide) ?_
      refine mm_goto (n := 88) smd_M_isInTheWay_84 rfl ?_
      exact mm_zret rfl (Or.inr rfl) smd_M_isInTheWay_88 ⟨_, rfl, hT⟩
    · replace hT := hT.2 hc
      refine mm_aload_n (n := 55) (i := 0) smd_M_isInTheWay_54 rfl rfl rfl ?_
      refine mm_get (n := 58) (v := .ref (mm_B Γ + 65)) smk_M_7 smb_M rfl smd_M_isInTheWay_55 rfl ?_
      refine mm_iload (n := 60) (i := 4) smd_M_isInTheWay_58 rfl rfl ?_
      refine mm_iald (n := 61) sma_65 hT.1 smd_M_isInTheWay_60 rfl ?_
      replace hT := hT.2
      refine mm_bipush (n := 63) (v := 12) smd_M_isInTheWay_61 rfl (by decide) ?_
      refine mm_icmp_ne (n := 66) (tgt := 83) smd_M_isInTheWay_63 rfl rfl (fun hc => ?_) (fun hc => ?_)
      · replace hT := hT.1 hc
        refine mm_iconst (n := 84) (v := 1) smd_M_isInTheWay_83 rfl (by decide) ?_
        refine mm_goto (n := 88) smd_M_isInTheWay_84 rfl ?_
        exact mm_zret rfl (Or.inr rfl) smd_M_isInTheWay_88 ⟨_, rfl, hT⟩
      · replace hT := hT.2 hc
        refine mm_aload_n (n := 67) (i := 0) smd_M_isInTheWay_66 rfl rfl rfl ?_
        refine mm_iload_n (n := 68) (i := 3) smd_M_isInTheWay_67 rfl rfl rfl ?_
        refine mm_aload_n (n := 69) (i := 0) smd_M_isInTheWay_68 rfl rfl rfl ?_
        refine mm_get (n := 72) (v := .ref (mm_B Γ + 65)) smk_M_7 smb_M rfl smd_M_isInTheWay_69 rfl ?_
        refine mm_iload (n := 74) (i := 4) smd_M_isInTheWay_72 rfl rfl ?_
        refine mm_iconst (n := 75) (v := 1) smd_M_isInTheWay_74 rfl (by decide) ?_
        refine mm_iadd (n := 76) smd_M_isInTheWay_75 rfl ?_
        refine mm_iald (n := 77) sma_65 hT.1 smd_M_isInTheWay_76 rfl ?_
        replace hT := hT.2
        refine mm_callVI (n := 80) (As := [.int y3_10, .int (h32 65 (y4_40 + (1 : Int32)).toNatClampNeg)]) (rest := []) smv_M_pointOf smw_660 smb_M (mm_hRm (by decide) (by decide)) smd_M_isInTheWay_77 rfl rfl (Nat.le_of_ble_eq_true rfl) hT (fun r77 h77 hT => ?_)
        refine mm_if_ge (n := 83) (tgt := 87) smd_M_isInTheWay_80 rfl rfl (fun hc => ?_) (fun hc => ?_)
        · replace hT := hT.1 hc
          refine mm_iconst (n := 88) (v := 0) smd_M_isInTheWay_87 rfl (by decide) ?_
          exact mm_zret rfl (Or.inl rfl) smd_M_isInTheWay_88 ⟨_, rfl, hT⟩
        · replace hT := hT.2 hc
          refine mm_iconst (n := 84) (v := 1) smd_M_isInTheWay_83 rfl (by decide) ?_
          refine mm_goto (n := 88) smd_M_isInTheWay_84 rfl ?_
          exact mm_zret rfl (Or.inr rfl) smd_M_isInTheWay_88 ⟨_, rfl, hT⟩
  · replace hT := hT.2 hc
    refine mm_iconst (n := 20) (v := 0) smd_M_isInTheWay_19 rfl (by decide) ?_
    exact mm_zret rfl (Or.inl rfl) smd_M_isInTheWay_20 ⟨_, rfl, hT⟩
set_option maxHeartbeats 4000000 in
set_option maxRecDepth 100000 in
theorem smr_M_blocker {Γ : mm_Ctx} {post : Int32 → mm_Mem → Prop} {h : mm_Mem} (x1 : Int32) (hT : (¬ (h 64 5) = 0 → (mm_W Γ smM_M_blocker (mm_pI post) 11 [some (.ref (mm_B Γ + 64)), some (.int x1), some (.int (1 : Int32)), none] [] h)) ∧ ((h 64 5) = 0 → (post (0 : Int32) h))) : mm_SI Γ smM_M_blocker [.ref (mm_B Γ + 64), .int x1] h post := by
  refine mm_spec0 (M := smM_M_blocker) 2 (by decide +kernel) rfl (Nat.le_of_ble_eq_true rfl) ?_
  show mm_W Γ smM_M_blocker (mm_pI post) 0 [some (.ref (mm_B Γ + 64)), some (.int x1), none, none] [] h
  refine mm_aload_n (n := 1) (i := 0) smd_M_blocker_0 rfl rfl rfl ?_
  refine mm_get (n := 4) (v := .int (h 64 5)) smk_M_63 smb_M rfl smd_M_blocker_1 rfl ?_
  refine mm_if_ne (n := 7) (tgt := 9) smd_M_blocker_4 rfl rfl (fun hc => ?_) (fun hc => ?_)
  · replace hT := hT.1 hc
    refine mm_iconst (n := 10) (v := 1) smd_M_blocker_9 rfl (by decide) ?_
    refine mm_istore_n (n := 11) (i := 2) (L' := [some (.ref (mm_B Γ + 64)), some (.int x1), some (.int (1 : Int32)), none]) smd_M_blocker_10 rfl rfl (by decide) rfl ?_
    exact mm_weak (by refine ⟨rfl, rfl, rfl, trivial⟩) hT
  · replace hT := hT.2 hc
    refine mm_iconst (n := 8) (v := 0) smd_M_blocker_7 rfl (by decide) ?_
    exact mm_iret rfl smd_M_blocker_8 ⟨_, rfl, hT⟩
set_option maxHeartbeats 4000000 in
set_option maxRecDepth 100000 in
theorem smr_M_blocker_11 {Γ : mm_Ctx} {post : Int32 → mm_Mem → Prop} {h : mm_Mem} (x1 : Int32) (x2 : Int32) (hT : ((h 64 12) < x2 → (post (0 : Int32) h)) ∧ (¬ (h 64 12) < x2 → (mm_W Γ smM_M_blocker (mm_pI post) 21 [some (.ref (mm_B Γ + 64)), some (.int x1), some (.int x2), some (.int (0 : Int32))] [] h))) : mm_W Γ smM_M_blocker (mm_pI post) 11 [some (.ref (mm_B Γ + 64)), some (.int x1), some (.int x2), none] [] h := by
  refine mm_iload_n (n := 12) (i := 2) smd_M_blocker_11 rfl rfl rfl ?_
  refine mm_aload_n (n := 13) (i := 0) smd_M_blocker_12 rfl rfl rfl ?_
  refine mm_get (n := 16) (v := .int (h 64 12)) smk_M_103 smb_M rfl smd_M_blocker_13 rfl ?_
  refine mm_icmp_gt (n := 19) (tgt := 59) smd_M_blocker_16 rfl rfl (fun hc => ?_) (fun hc => ?_)
  · replace hT := hT.1 hc
    refine mm_iconst (n := 60) (v := 0) smd_M_blocker_59 rfl (by decide) ?_
    exact mm_iret rfl smd_M_blocker_60 ⟨_, rfl, hT⟩
  · replace hT := hT.2 hc
    refine mm_iconst (n := 20) (v := 0) smd_M_blocker_19 rfl (by decide) ?_
    refine mm_istore_n (n := 21) (i := 3) (L' := [some (.ref (mm_B Γ + 64)), some (.int x1), some (.int x2), some (.int (0 : Int32))]) smd_M_blocker_20 rfl rfl (by decide) rfl ?_
    exact mm_weak (by refine ⟨rfl, rfl, rfl, rfl, trivial⟩) hT
set_option maxHeartbeats 4000000 in
set_option maxRecDepth 100000 in
theorem smr_M_blocker_21 {Γ : mm_Ctx} {post : Int32 → mm_Mem → Prop} {h : mm_Mem} (x1 : Int32) (x2 : Int32) (x3 : Int32) (hT : (vp_in x2 7) ∧ (((h 77 x2.toNatClampNeg) ≤ x3 → (mm_W Γ smM_M_blocker (mm_pI post) 11 [some (.ref (mm_B Γ + 64)), some (.int x1), some (.int (x2 + (1 : Int32))), none] [] h)) ∧ (¬ (h 77 x2.toNatClampNeg) ≤ x3 → ((x2 < x1 → (mm_W Γ smM_M_blocker (mm_pI post) 21 [some (.ref (mm_B Γ + 64)), some (.int x1), some (.int x2), some (.int (x3 + (1 : Int32)))] [] h)) ∧ (¬ x2 < x1 → (mm_SI Γ smM_M_isInTheWay [.ref (mm_B Γ + 64), .int x2, .int x3] h (fun r39 h39 => (r39 = 0 → (mm_W Γ smM_M_blocker (mm_pI post) 21 [some (.ref (mm_B Γ + 64)), some (.int x1), some (.int x2), some (.int (x3 + (1 : Int32)))] [] h39)) ∧ (¬ r39 = 0 → (post x2 h39))))))))) : mm_W Γ smM_M_blocker (mm_pI post) 21 [some (.ref (mm_B Γ + 64)), some (.int x1), some (.int x2), some (.int x3)] [] h := by
  refine mm_iload_n (n := 22) (i := 3) smd_M_blocker_21 rfl rfl rfl ?_
  refine mm_aload_n (n := 23) (i := 0) smd_M_blocker_22 rfl rfl rfl ?_
  refine mm_get (n := 26) (v := .ref (mm_B Γ + 77)) smk_M_47 smb_M rfl smd_M_blocker_23 rfl ?_
  refine mm_iload_n (n := 27) (i := 2) smd_M_blocker_26 rfl rfl rfl ?_
  refine mm_iald (n := 28) sma_77 hT.1 smd_M_blocker_27 rfl ?_
  replace hT := hT.2
  refine mm_icmp_ge (n := 31) (tgt := 53) smd_M_blocker_28 rfl rfl (fun hc => ?_) (fun hc => ?_)
  · replace hT := hT.1 hc
    refine mm_iinc (n := 56) (i := 2) (d := 1) (L' := [some (.ref (mm_B Γ + 64)), some (.int x1), some (.int (x2 + (1 : Int32))), some (.int x3)]) smd_M_blocker_53 rfl rfl (by decide) (by decide) rfl ?_
    refine mm_goto (n := 11) smd_M_blocker_56 rfl ?_
    exact mm_weak (by refine ⟨rfl, rfl, rfl, trivial⟩) hT
  · replace hT := hT.2 hc
    refine mm_iload_n (n := 32) (i := 2) smd_M_blocker_31 rfl rfl rfl ?_
    refine mm_iload_n (n := 33) (i := 1) smd_M_blocker_32 rfl rfl rfl ?_
    refine mm_icmp_lt (n := 36) (tgt := 47) smd_M_blocker_33 rfl rfl (fun hc => ?_) (fun hc => ?_)
    · replace hT := hT.1 hc
      refine mm_iinc (n := 50) (i := 3) (d := 1) (L' := [some (.ref (mm_B Γ + 64)), some (.int x1), some (.int x2), some (.int (x3 + (1 : Int32)))]) smd_M_blocker_47 rfl rfl (by decide) (by decide) rfl ?_
      refine mm_goto (n := 21) smd_M_blocker_50 rfl ?_
      exact mm_weak (by refine ⟨rfl, rfl, rfl, rfl, trivial⟩) hT
    · replace hT := hT.2 hc
      refine mm_aload_n (n := 37) (i := 0) smd_M_blocker_36 rfl rfl rfl ?_
      refine mm_iload_n (n := 38) (i := 2) smd_M_blocker_37 rfl rfl rfl ?_
      refine mm_iload_n (n := 39) (i := 3) smd_M_blocker_38 rfl rfl rfl ?_
      refine mm_callVI (n := 42) (As := [.int x2, .int x3]) (rest := []) smv_M_isInTheWay smw_653 smb_M (mm_hRm (by decide) (by decide)) smd_M_blocker_39 rfl rfl (Nat.le_of_ble_eq_true rfl) hT (fun r39 h39 hT => ?_)
      refine mm_if_eq (n := 45) (tgt := 47) smd_M_blocker_42 rfl rfl (fun hc => ?_) (fun hc => ?_)
      · replace hT := hT.1 hc
        refine mm_iinc (n := 50) (i := 3) (d := 1) (L' := [some (.ref (mm_B Γ + 64)), some (.int x1), some (.int x2), some (.int (x3 + (1 : Int32)))]) smd_M_blocker_47 rfl rfl (by decide) (by decide) rfl ?_
        refine mm_goto (n := 21) smd_M_blocker_50 rfl ?_
        exact mm_weak (by refine ⟨rfl, rfl, rfl, rfl, trivial⟩) hT
      · replace hT := hT.2 hc
        refine mm_iload_n (n := 46) (i := 2) smd_M_blocker_45 rfl rfl rfl ?_
        exact mm_iret rfl smd_M_blocker_46 ⟨_, rfl, hT⟩
set_option maxHeartbeats 4000000 in
set_option maxRecDepth 100000 in
theorem smr_M_isObject {Γ : mm_Ctx} {post : Int32 → mm_Mem → Prop} {h : mm_Mem} (x1 : Int32) (hT : (x1 < (1 : Int32) → (post (0 : Int32) h)) ∧ (¬ x1 < (1 : Int32) → (((16 : Int32) < x1 → (post (0 : Int32) h)) ∧ (¬ (16 : Int32) < x1 → ((vp_in x1 17) ∧ (((h 71 x1.toNatClampNeg) < 0 → (post (0 : Int32) h)) ∧ (¬ (h 71 x1.toNatClampNeg) < 0 → (post (1 : Int32) h)))))))) : mm_SI Γ smM_M_isObject [.ref (mm_B Γ + 64), .int x1] h post := by
  refine mm_spec0 (M := smM_M_isObject) 0 (by decide +kernel) rfl (Nat.le_of_ble_eq_true rfl) ?_
  show mm_W Γ smM_M_isObject (mm_pI post) 0 [some (.ref (mm_B Γ + 64)), some (.int x1)] [] h
  refine mm_iload_n (n := 1) (i := 1) smd_M_isObject_0 rfl rfl rfl ?_
  refine mm_iconst (n := 2) (v := 1) smd_M_isObject_1 rfl (by decide) ?_
  refine mm_icmp_lt (n := 5) (tgt := 24) smd_M_isObject_2 rfl rfl (fun hc => ?_) (fun hc => ?_)
  · replace hT := hT.1 hc
    refine mm_iconst (n := 25) (v := 0) smd_M_isObject_24 rfl (by decide) ?_
    exact mm_zret rfl (Or.inl rfl) smd_M_isObject_25 ⟨_, rfl, hT⟩
  · replace hT := hT.2 hc
    refine mm_iload_n (n := 6) (i := 1) smd_M_isObject_5 rfl rfl rfl ?_
    refine mm_bipush (n := 8) (v := 16) smd_M_isObject_6 rfl (by decide) ?_
    refine mm_icmp_gt (n := 11) (tgt := 24) smd_M_isObject_8 rfl rfl (fun hc => ?_) (fun hc => ?_)
    · replace hT := hT.1 hc
      refine mm_iconst (n := 25) (v := 0) smd_M_isObject_24 rfl (by decide) ?_
      exact mm_zret rfl (Or.inl rfl) smd_M_isObject_25 ⟨_, rfl, hT⟩
    · replace hT := hT.2 hc
      refine mm_aload_n (n := 12) (i := 0) smd_M_isObject_11 rfl rfl rfl ?_
      refine mm_get (n := 15) (v := .ref (mm_B Γ + 71)) smk_M_29 smb_M rfl smd_M_isObject_12 rfl ?_
      refine mm_iload_n (n := 16) (i := 1) smd_M_isObject_15 rfl rfl rfl ?_
      refine mm_iald (n := 17) sma_71 hT.1 smd_M_isObject_16 rfl ?_
      replace hT := hT.2
      refine mm_if_lt (n := 20) (tgt := 24) smd_M_isObject_17 rfl rfl (fun hc => ?_) (fun hc => ?_)
      · replace hT := hT.1 hc
        refine mm_iconst (n := 25) (v := 0) smd_M_isObject_24 rfl (by decide) ?_
        exact mm_zret rfl (Or.inl rfl) smd_M_isObject_25 ⟨_, rfl, hT⟩
      · replace hT := hT.2 hc
        refine mm_iconst (n := 21) (v := 1) smd_M_isObject_20 rfl (by decide) ?_
        refine mm_goto (n := 25) smd_M_isObject_21 rfl ?_
        exact mm_zret rfl (Or.inr rfl) smd_M_isObject_25 ⟨_, rfl, hT⟩
set_option maxHeartbeats 4000000 in
set_option maxRecDepth 100000 in
theorem smr_M_mark {Γ : mm_Ctx} {post : mm_Mem → Prop} {h : mm_Mem} (x1 : Int32) (hT : mm_SI Γ smM_M_isObject [.ref (mm_B Γ + 64), .int x1] h (fun r2 h2 => (r2 = 0 → (post h2)) ∧ (¬ r2 = 0 → ((vp_in x1 17) ∧ (∀ h14 : mm_Mem, h14 = mm_wr h2 74 x1.toNatClampNeg (1 : Int32) → (post h14)))))) : mm_SV Γ smM_M_mark [.ref (mm_B Γ + 64), .int x1] h post := by
  refine mm_spec0 (M := smM_M_mark) 0 (by decide +kernel) rfl (Nat.le_of_ble_eq_true rfl) ?_
  show mm_W Γ smM_M_mark (mm_pV post) 0 [some (.ref (mm_B Γ + 64)), some (.int x1)] [] h
  refine mm_aload_n (n := 1) (i := 0) smd_M_mark_0 rfl rfl rfl ?_
  refine mm_iload_n (n := 2) (i := 1) smd_M_mark_1 rfl rfl rfl ?_
  refine mm_callVI (n := 5) (As := [.int x1]) (rest := []) smv_M_isObject smw_676 smb_M (mm_hRm (by decide) (by decide)) smd_M_mark_2 rfl rfl (Nat.le_of_ble_eq_true rfl) hT (fun r2 h2 hT => ?_)
  refine mm_if_eq (n := 8) (tgt := 15) smd_M_mark_5 rfl rfl (fun hc => ?_) (fun hc => ?_)
  · replace hT := hT.1 hc
    exact mm_vret rfl smd_M_mark_15 ⟨rfl, hT⟩
  · replace hT := hT.2 hc
    refine mm_aload_n (n := 9) (i := 0) smd_M_mark_8 rfl rfl rfl ?_
    refine mm_get (n := 12) (v := .ref (mm_B Γ + 74)) smk_M_38 smb_M rfl smd_M_mark_9 rfl ?_
    refine mm_iload_n (n := 13) (i := 1) smd_M_mark_12 rfl rfl rfl ?_
    refine mm_iconst (n := 14) (v := 1) smd_M_mark_13 rfl (by decide) ?_
    refine mm_zast (n := 15) sma_74 hT.1 (Or.inr rfl) smd_M_mark_14 rfl ?_
    replace hT := hT.2
    refine mm_nam (fun h14 e_h14 => ?_)
    replace hT := hT h14 e_h14
    exact mm_vret rfl smd_M_mark_15 ⟨rfl, hT⟩
set_option maxHeartbeats 4000000 in
set_option maxRecDepth 100000 in
theorem smr_M_countMarked {Γ : mm_Ctx} {post : Int32 → mm_Mem → Prop} {h : mm_Mem}  (hT : mm_W Γ smM_M_countMarked (mm_pI post) 4 [some (.ref (mm_B Γ + 64)), some (.int (0 : Int32)), some (.int (1 : Int32))] [] h) : mm_SI Γ smM_M_countMarked [.ref (mm_B Γ + 64)] h post := by
  refine mm_spec0 (M := smM_M_countMarked) 2 (by decide +kernel) rfl (Nat.le_of_ble_eq_true rfl) ?_
  show mm_W Γ smM_M_countMarked (mm_pI post) 0 [some (.ref (mm_B Γ + 64)), none, none] [] h
  refine mm_iconst (n := 1) (v := 0) smd_M_countMarked_0 rfl (by decide) ?_
  refine mm_istore_n (n := 2) (i := 1) (L' := [some (.ref (mm_B Γ + 64)), some (.int (0 : Int32)), none]) smd_M_countMarked_1 rfl rfl (by decide) rfl ?_
  refine mm_iconst (n := 3) (v := 1) smd_M_countMarked_2 rfl (by decide) ?_
  refine mm_istore_n (n := 4) (i := 2) (L' := [some (.ref (mm_B Γ + 64)), some (.int (0 : Int32)), some (.int (1 : Int32))]) smd_M_countMarked_3 rfl rfl (by decide) rfl ?_
  exact mm_weak (by refine ⟨rfl, rfl, rfl, trivial⟩) hT
set_option maxHeartbeats 4000000 in
set_option maxRecDepth 100000 in
theorem smr_M_countMarked_4 {Γ : mm_Ctx} {post : Int32 → mm_Mem → Prop} {h : mm_Mem} (x1 : Int32) (x2 : Int32) (hT : ((17 : Int32) ≤ x2 → (post x1 h)) ∧ (¬ (17 : Int32) ≤ x2 → ((vp_in x2 17) ∧ (((h 74 x2.toNatClampNeg) = 0 → (∀ y1_26 : Int32, y1_26 = x1 + (0 : Int32) → (mm_W Γ smM_M_countMarked (mm_pI post) 4 [some (.ref (mm_B Γ + 64)), some (.int y1_26), some (.int (x2 + (1 : Int32)))] [] h))) ∧ (¬ (h 74 x2.toNatClampNeg) = 0 → (∀ y1_26 : Int32, y1_26 = x1 + (1 : Int32) → (mm_W Γ smM_M_countMarked (mm_pI post) 4 [some (.ref (mm_B Γ + 64)), some (.int y1_26), some (.int (x2 + (1 : Int32)))] [] h))))))) : mm_W Γ smM_M_countMarked (mm_pI post) 4 [some (.ref (mm_B Γ + 64)), some (.int x1), some (.int x2)] [] h := by
  refine mm_iload_n (n := 5) (i := 2) smd_M_countMarked_4 rfl rfl rfl ?_
  refine mm_bipush (n := 7) (v := 17) smd_M_countMarked_5 rfl (by decide) ?_
  refine mm_icmp_ge (n := 10) (tgt := 33) smd_M_countMarked_7 rfl rfl (fun hc => ?_) (fun hc => ?_)
  · replace hT := hT.1 hc
    refine mm_iload_n (n := 34) (i := 1) smd_M_countMarked_33 rfl rfl rfl ?_
    exact mm_iret rfl smd_M_countMarked_34 ⟨_, rfl, hT⟩
  · replace hT := hT.2 hc
    refine mm_iload_n (n := 11) (i := 1) smd_M_countMarked_10 rfl rfl rfl ?_
    refine mm_aload_n (n := 12) (i := 0) smd_M_countMarked_11 rfl rfl rfl ?_
    refine mm_get (n := 15) (v := .ref (mm_B Γ + 74)) smk_M_38 smb_M rfl smd_M_countMarked_12 rfl ?_
    refine mm_iload_n (n := 16) (i := 2) smd_M_countMarked_15 rfl rfl rfl ?_
    refine mm_zald (n := 17) sma_74 hT.1 smd_M_countMarked_16 rfl ?_
    replace hT := hT.2
    refine mm_if_eq (n := 20) (tgt := 24) smd_M_countMarked_17 rfl rfl (fun hc => ?_) (fun hc => ?_)
    · replace hT := hT.1 hc
      refine mm_iconst (n := 25) (v := 0) smd_M_countMarked_24 rfl (by decide) ?_
      refine mm_iadd (n := 26) smd_M_countMarked_25 rfl ?_
      refine mm_top (fun y1_26 e_y1_26 => ?_)
      replace hT := hT y1_26 e_y1_26
      refine mm_istore_n (n := 27) (i := 1) (L' := [some (.ref (mm_B Γ + 64)), some (.int y1_26), some (.int x2)]) smd_M_countMarked_26 rfl rfl (by decide) rfl ?_
      refine mm_iinc (n := 30) (i := 2) (d := 1) (L' := [some (.ref (mm_B Γ + 64)), some (.int y1_26), some (.int (x2 + (1 : Int32)))]) smd_M_countMarked_27 rfl rfl (by decide) (by decide) rfl ?_
      refine mm_goto (n := 4) smd_M_countMarked_30 rfl ?_
      exact mm_weak (by refine ⟨rfl, rfl, rfl, trivial⟩) hT
    · replace hT := hT.2 hc
      refine mm_iconst (n := 21) (v := 1) smd_M_countMarked_20 rfl (by decide) ?_
      refine mm_goto (n := 25) smd_M_countMarked_21 rfl ?_
      refine mm_iadd (n := 26) smd_M_countMarked_25 rfl ?_
      refine mm_top (fun y1_26 e_y1_26 => ?_)
      replace hT := hT y1_26 e_y1_26
      refine mm_istore_n (n := 27) (i := 1) (L' := [some (.ref (mm_B Γ + 64)), some (.int y1_26), some (.int x2)]) smd_M_countMarked_26 rfl rfl (by decide) rfl ?_
      refine mm_iinc (n := 30) (i := 2) (d := 1) (L' := [some (.ref (mm_B Γ + 64)), some (.int y1_26), some (.int (x2 + (1 : Int32)))]) smd_M_countMarked_27 rfl rfl (by decide) (by decide) rfl ?_
      refine mm_goto (n := 4) smd_M_countMarked_30 rfl ?_
      exact mm_weak (by refine ⟨rfl, rfl, rfl, trivial⟩) hT
set_option maxHeartbeats 4000000 in
set_option maxRecDepth 100000 in
theorem smr_M_sweep {Γ : mm_Ctx} {post : Int32 → mm_Mem → Prop} {h : mm_Mem}  (hT : mm_W Γ smM_M_sweep (mm_pI post) 2 [some (.ref (mm_B Γ + 64)), some (.int (0 : Int32)), none, none] [] h) : mm_SI Γ smM_M_sweep [.ref (mm_B Γ + 64)] h post := by
  refine mm_spec0 (M := smM_M_sweep) 3 (by decide +kernel) rfl (Nat.le_of_ble_eq_true rfl) ?_
  show mm_W Γ smM_M_sweep (mm_pI post) 0 [some (.ref (mm_B Γ + 64)), none, none, none] [] h
  refine mm_iconst (n := 1) (v := 0) smd_M_sweep_0 rfl (by decide) ?_
  refine mm_istore_n (n := 2) (i := 1) (L' := [some (.ref (mm_B Γ + 64)), some (.int (0 : Int32)), none, none]) smd_M_sweep_1 rfl rfl (by decide) rfl ?_
  exact mm_weak (by refine ⟨rfl, rfl, trivial⟩) hT
set_option maxHeartbeats 4000000 in
set_option maxRecDepth 100000 in
theorem smr_M_sweep_2 {Γ : mm_Ctx} {post : Int32 → mm_Mem → Prop} {h : mm_Mem} (x1 : Int32) (hT : ((17 : Int32) ≤ x1 → (mm_W Γ smM_M_sweep (mm_pI post) 23 [some (.ref (mm_B Γ + 64)), some (.int (0 : Int32)), none, none] [] h)) ∧ (¬ (17 : Int32) ≤ x1 → ((vp_in x1 17) ∧ (∀ h14 : mm_Mem, h14 = mm_wr h 74 x1.toNatClampNeg (0 : Int32) → (mm_W Γ smM_M_sweep (mm_pI post) 2 [some (.ref (mm_B Γ + 64)), some (.int (x1 + (1 : Int32))), none, none] [] h14))))) : mm_W Γ smM_M_sweep (mm_pI post) 2 [some (.ref (mm_B Γ + 64)), some (.int x1), none, none] [] h := by
  refine mm_iload_n (n := 3) (i := 1) smd_M_sweep_2 rfl rfl rfl ?_
  refine mm_bipush (n := 5) (v := 17) smd_M_sweep_3 rfl (by decide) ?_
  refine mm_icmp_ge (n := 8) (tgt := 21) smd_M_sweep_5 rfl rfl (fun hc => ?_) (fun hc => ?_)
  · replace hT := hT.1 hc
    refine mm_iconst (n := 22) (v := 0) smd_M_sweep_21 rfl (by decide) ?_
    refine mm_istore_n (n := 23) (i := 1) (L' := [some (.ref (mm_B Γ + 64)), some (.int (0 : Int32)), none, none]) smd_M_sweep_22 rfl rfl (by decide) rfl ?_
    exact mm_weak (by refine ⟨rfl, rfl, trivial⟩) hT
  · replace hT := hT.2 hc
    refine mm_aload_n (n := 9) (i := 0) smd_M_sweep_8 rfl rfl rfl ?_
    refine mm_get (n := 12) (v := .ref (mm_B Γ + 74)) smk_M_38 smb_M rfl smd_M_sweep_9 rfl ?_
    refine mm_iload_n (n := 13) (i := 1) smd_M_sweep_12 rfl rfl rfl ?_
    refine mm_iconst (n := 14) (v := 0) smd_M_sweep_13 rfl (by decide) ?_
    refine mm_zast (n := 15) sma_74 hT.1 (Or.inl rfl) smd_M_sweep_14 rfl ?_
    replace hT := hT.2
    refine mm_nam (fun h14 e_h14 => ?_)
    replace hT := hT h14 e_h14
    refine mm_iinc (n := 18) (i := 1) (d := 1) (L' := [some (.ref (mm_B Γ + 64)), some (.int (x1 + (1 : Int32))), none, none]) smd_M_sweep_15 rfl rfl (by decide) (by decide) rfl ?_
    refine mm_goto (n := 2) smd_M_sweep_18 rfl ?_
    exact mm_weak (by refine ⟨rfl, rfl, trivial⟩) hT
set_option maxHeartbeats 4000000 in
set_option maxRecDepth 100000 in
theorem smr_M_sweep_23 {Γ : mm_Ctx} {post : Int32 → mm_Mem → Prop} {h : mm_Mem} (x1 : Int32) (hT : ((4 : Int32) ≤ x1 → (mm_W Γ smM_M_sweep (mm_pI post) 46 [some (.ref (mm_B Γ + 64)), some (.int (1 : Int32)), none, none] [] h)) ∧ (¬ (4 : Int32) ≤ x1 → ((vp_in x1 4) ∧ (mm_SV Γ smM_M_mark [.ref (mm_B Γ + 64), .int (h 70 x1.toNatClampNeg)] h (fun h35 => mm_W Γ smM_M_sweep (mm_pI post) 23 [some (.ref (mm_B Γ + 64)), some (.int (x1 + (1 : Int32))), none, none] [] h35))))) : mm_W Γ smM_M_sweep (mm_pI post) 23 [some (.ref (mm_B Γ + 64)), some (.int x1), none, none] [] h := by
  refine mm_iload_n (n := 24) (i := 1) smd_M_sweep_23 rfl rfl rfl ?_
  refine mm_iconst (n := 25) (v := 4) smd_M_sweep_24 rfl (by decide) ?_
  refine mm_icmp_ge (n := 28) (tgt := 44) smd_M_sweep_25 rfl rfl (fun hc => ?_) (fun hc => ?_)
  · replace hT := hT.1 hc
    refine mm_iconst (n := 45) (v := 1) smd_M_sweep_44 rfl (by decide) ?_
    refine mm_istore_n (n := 46) (i := 1) (L' := [some (.ref (mm_B Γ + 64)), some (.int (1 : Int32)), none, none]) smd_M_sweep_45 rfl rfl (by decide) rfl ?_
    exact mm_weak (by refine ⟨rfl, rfl, trivial⟩) hT
  · replace hT := hT.2 hc
    refine mm_aload_n (n := 29) (i := 0) smd_M_sweep_28 rfl rfl rfl ?_
    refine mm_aload_n (n := 30) (i := 0) smd_M_sweep_29 rfl rfl rfl ?_
    refine mm_get (n := 33) (v := .ref (mm_B Γ + 70)) smk_M_26 smb_M rfl smd_M_sweep_30 rfl ?_
    refine mm_iload_n (n := 34) (i := 1) smd_M_sweep_33 rfl rfl rfl ?_
    refine mm_iald (n := 35) sma_70 hT.1 smd_M_sweep_34 rfl ?_
    replace hT := hT.2
    refine mm_callVV (n := 38) (As := [.int (h 70 x1.toNatClampNeg)]) (rest := []) smv_M_mark smw_672 smb_M (mm_hRm (by decide) (by decide)) smd_M_sweep_35 rfl rfl (Nat.le_of_ble_eq_true rfl) hT (fun h35 hT => ?_)
    refine mm_iinc (n := 41) (i := 1) (d := 1) (L' := [some (.ref (mm_B Γ + 64)), some (.int (x1 + (1 : Int32))), none, none]) smd_M_sweep_38 rfl rfl (by decide) (by decide) rfl ?_
    refine mm_goto (n := 23) smd_M_sweep_41 rfl ?_
    exact mm_weak (by refine ⟨rfl, rfl, trivial⟩) hT
set_option maxHeartbeats 4000000 in
set_option maxRecDepth 100000 in
theorem smr_M_sweep_46 {Γ : mm_Ctx} {post : Int32 → mm_Mem → Prop} {h : mm_Mem} (x1 : Int32) (hT : ((h 64 12) < x1 → (mm_W Γ smM_M_sweep (mm_pI post) 111 [some (.ref (mm_B Γ + 64)), some (.int (-1 : Int32)), none, none] [] h)) ∧ (¬ (h 64 12) < x1 → (mm_W Γ smM_M_sweep (mm_pI post) 56 [some (.ref (mm_B Γ + 64)), some (.int x1), some (.int (0 : Int32)), none] [] h))) : mm_W Γ smM_M_sweep (mm_pI post) 46 [some (.ref (mm_B Γ + 64)), some (.int x1), none, none] [] h := by
  refine mm_iload_n (n := 47) (i := 1) smd_M_sweep_46 rfl rfl rfl ?_
  refine mm_aload_n (n := 48) (i := 0) smd_M_sweep_47 rfl rfl rfl ?_
  refine mm_get (n := 51) (v := .int (h 64 12)) smk_M_103 smb_M rfl smd_M_sweep_48 rfl ?_
  refine mm_icmp_gt (n := 54) (tgt := 109) smd_M_sweep_51 rfl rfl (fun hc => ?_) (fun hc => ?_)
  · replace hT := hT.1 hc
    refine mm_iconst (n := 110) (v := -1) smd_M_sweep_109 rfl (by decide) ?_
    refine mm_istore_n (n := 111) (i := 1) (L' := [some (.ref (mm_B Γ + 64)), some (.int (-1 : Int32)), none, none]) smd_M_sweep_110 rfl rfl (by decide) rfl ?_
    exact mm_weak (by refine ⟨rfl, rfl, trivial⟩) hT
  · replace hT := hT.2 hc
    refine mm_iconst (n := 55) (v := 0) smd_M_sweep_54 rfl (by decide) ?_
    refine mm_istore_n (n := 56) (i := 2) (L' := [some (.ref (mm_B Γ + 64)), some (.int x1), some (.int (0 : Int32)), none]) smd_M_sweep_55 rfl rfl (by decide) rfl ?_
    exact mm_weak (by refine ⟨rfl, rfl, rfl, trivial⟩) hT
set_option maxHeartbeats 4000000 in
set_option maxRecDepth 100000 in
theorem smr_M_sweep_111 {Γ : mm_Ctx} {post : Int32 → mm_Mem → Prop} {h : mm_Mem} (x1 : Int32) (hT : mm_SI Γ smM_M_countMarked [.ref (mm_B Γ + 64)] h (fun r113 h113 => (x1 = r113 → (mm_W Γ smM_M_sweep (mm_pI post) 191 [some (.ref (mm_B Γ + 64)), none, some (.int (0 : Int32)), some (.int (1 : Int32))] [] h113)) ∧ (¬ x1 = r113 → (mm_SI Γ smM_M_countMarked [.ref (mm_B Γ + 64)] h113 (fun r120 h120 => mm_W Γ smM_M_sweep (mm_pI post) 126 [some (.ref (mm_B Γ + 64)), some (.int r120), some (.int (1 : Int32)), none] [] h120))))) : mm_W Γ smM_M_sweep (mm_pI post) 111 [some (.ref (mm_B Γ + 64)), some (.int x1), none, none] [] h := by
  refine mm_iload_n (n := 112) (i := 1) smd_M_sweep_111 rfl rfl rfl ?_
  refine mm_aload_n (n := 113) (i := 0) smd_M_sweep_112 rfl rfl rfl ?_
  refine mm_callVI (n := 116) (As := []) (rest := [.int x1]) smv_M_countMarked smw_680 smb_M (mm_hRm (by decide) (by decide)) smd_M_sweep_113 rfl rfl (Nat.le_of_ble_eq_true rfl) hT (fun r113 h113 hT => ?_)
  refine mm_icmp_eq (n := 119) (tgt := 187) smd_M_sweep_116 rfl rfl (fun hc => ?_) (fun hc => ?_)
  · replace hT := hT.1 hc
    refine mm_iconst (n := 188) (v := 0) smd_M_sweep_187 rfl (by decide) ?_
    refine mm_istore_n (n := 189) (i := 2) (L' := [some (.ref (mm_B Γ + 64)), some (.int x1), some (.int (0 : Int32)), none]) smd_M_sweep_188 rfl rfl (by decide) rfl ?_
    refine mm_iconst (n := 190) (v := 1) smd_M_sweep_189 rfl (by decide) ?_
    refine mm_istore_n (n := 191) (i := 3) (L' := [some (.ref (mm_B Γ + 64)), some (.int x1), some (.int (0 : Int32)), some (.int (1 : Int32))]) smd_M_sweep_190 rfl rfl (by decide) rfl ?_
    exact mm_weak (by refine ⟨rfl, rfl, rfl, trivial⟩) hT
  · replace hT := hT.2 hc
    refine mm_aload_n (n := 120) (i := 0) smd_M_sweep_119 rfl rfl rfl ?_
    refine mm_callVI (n := 123) (As := []) (rest := []) smv_M_countMarked smw_680 smb_M (mm_hRm (by decide) (by decide)) smd_M_sweep_120 rfl rfl (Nat.le_of_ble_eq_true rfl) hT (fun r120 h120 hT => ?_)
    refine mm_istore_n (n := 124) (i := 1) (L' := [some (.ref (mm_B Γ + 64)), some (.int r120), none, none]) smd_M_sweep_123 rfl rfl (by decide) rfl ?_
    refine mm_iconst (n := 125) (v := 1) smd_M_sweep_124 rfl (by decide) ?_
    refine mm_istore_n (n := 126) (i := 2) (L' := [some (.ref (mm_B Γ + 64)), some (.int r120), some (.int (1 : Int32)), none]) smd_M_sweep_125 rfl rfl (by decide) rfl ?_
    exact mm_weak (by refine ⟨rfl, rfl, rfl, trivial⟩) hT
set_option maxHeartbeats 4000000 in
set_option maxRecDepth 100000 in
theorem smr_M_sweep_56 {Γ : mm_Ctx} {post : Int32 → mm_Mem → Prop} {h : mm_Mem} (x1 : Int32) (x2 : Int32) (hT : (vp_in x1 7) ∧ (((h 77 x1.toNatClampNeg) ≤ x2 → (mm_W Γ smM_M_sweep (mm_pI post) 46 [some (.ref (mm_B Γ + 64)), some (.int (x1 + (1 : Int32))), none, none] [] h)) ∧ (¬ (h 77 x1.toNatClampNeg) ≤ x2 → (mm_W Γ smM_M_sweep (mm_pI post) 68 [some (.ref (mm_B Γ + 64)), some (.int x1), some (.int x2), some (.int (0 : Int32))] [] h)))) : mm_W Γ smM_M_sweep (mm_pI post) 56 [some (.ref (mm_B Γ + 64)), some (.int x1), some (.int x2), none] [] h := by
  refine mm_iload_n (n := 57) (i := 2) smd_M_sweep_56 rfl rfl rfl ?_
  refine mm_aload_n (n := 58) (i := 0) smd_M_sweep_57 rfl rfl rfl ?_
  refine mm_get (n := 61) (v := .ref (mm_B Γ + 77)) smk_M_47 smb_M rfl smd_M_sweep_58 rfl ?_
  refine mm_iload_n (n := 62) (i := 1) smd_M_sweep_61 rfl rfl rfl ?_
  refine mm_iald (n := 63) sma_77 hT.1 smd_M_sweep_62 rfl ?_
  replace hT := hT.2
  refine mm_icmp_ge (n := 66) (tgt := 103) smd_M_sweep_63 rfl rfl (fun hc => ?_) (fun hc => ?_)
  · replace hT := hT.1 hc
    refine mm_iinc (n := 106) (i := 1) (d := 1) (L' := [some (.ref (mm_B Γ + 64)), some (.int (x1 + (1 : Int32))), some (.int x2), none]) smd_M_sweep_103 rfl rfl (by decide) (by decide) rfl ?_
    refine mm_goto (n := 46) smd_M_sweep_106 rfl ?_
    exact mm_weak (by refine ⟨rfl, rfl, trivial⟩) hT
  · replace hT := hT.2 hc
    refine mm_iconst (n := 67) (v := 0) smd_M_sweep_66 rfl (by decide) ?_
    refine mm_istore_n (n := 68) (i := 3) (L' := [some (.ref (mm_B Γ + 64)), some (.int x1), some (.int x2), some (.int (0 : Int32))]) smd_M_sweep_67 rfl rfl (by decide) rfl ?_
    exact mm_weak (by refine ⟨rfl, rfl, rfl, rfl, trivial⟩) hT
set_option maxHeartbeats 4000000 in
set_option maxRecDepth 100000 in
theorem smr_M_sweep_191 {Γ : mm_Ctx} {post : Int32 → mm_Mem → Prop} {h : mm_Mem} (x2 : Int32) (x3 : Int32) (hT : ((17 : Int32) ≤ x3 → (post x2 h)) ∧ (¬ (17 : Int32) ≤ x3 → ((vp_in x3 17) ∧ (((h 71 x3.toNatClampNeg) < 0 → (mm_W Γ smM_M_sweep (mm_pI post) 191 [some (.ref (mm_B Γ + 64)), none, some (.int x2), some (.int (x3 + (1 : Int32)))] [] h)) ∧ (¬ (h 71 x3.toNatClampNeg) < 0 → ((vp_in x3 17) ∧ ((¬ (h 74 x3.toNatClampNeg) = 0 → (mm_W Γ smM_M_sweep (mm_pI post) 191 [some (.ref (mm_B Γ + 64)), none, some (.int x2), some (.int (x3 + (1 : Int32)))] [] h)) ∧ ((h 74 x3.toNatClampNeg) = 0 → ((vp_in x3 17) ∧ (∀ h221 : mm_Mem, h221 = mm_wr h 71 x3.toNatClampNeg (-1 : Int32) → (mm_W Γ smM_M_sweep (mm_pI post) 191 [some (.ref (mm_B Γ + 64)), none, some (.int (x2 + (1 : Int32))), some (.int (x3 + (1 : Int32)))] [] h221))))))))))) : mm_W Γ smM_M_sweep (mm_pI post) 191 [some (.ref (mm_B Γ + 64)), none, some (.int x2), some (.int x3)] [] h := by
  refine mm_iload_n (n := 192) (i := 3) smd_M_sweep_191 rfl rfl rfl ?_
  refine mm_bipush (n := 194) (v := 17) smd_M_sweep_192 rfl (by decide) ?_
  refine mm_icmp_ge (n := 197) (tgt := 231) smd_M_sweep_194 rfl rfl (fun hc => ?_) (fun hc => ?_)
  · replace hT := hT.1 hc
    refine mm_iload_n (n := 232) (i := 2) smd_M_sweep_231 rfl rfl rfl ?_
    exact mm_iret rfl smd_M_sweep_232 ⟨_, rfl, hT⟩
  · replace hT := hT.2 hc
    refine mm_aload_n (n := 198) (i := 0) smd_M_sweep_197 rfl rfl rfl ?_
    refine mm_get (n := 201) (v := .ref (mm_B Γ + 71)) smk_M_29 smb_M rfl smd_M_sweep_198 rfl ?_
    refine mm_iload_n (n := 202) (i := 3) smd_M_sweep_201 rfl rfl rfl ?_
    refine mm_iald (n := 203) sma_71 hT.1 smd_M_sweep_202 rfl ?_
    replace hT := hT.2
    refine mm_if_lt (n := 206) (tgt := 225) smd_M_sweep_203 rfl rfl (fun hc => ?_) (fun hc => ?_)
    · replace hT := hT.1 hc
      refine mm_iinc (n := 228) (i := 3) (d := 1) (L' := [some (.ref (mm_B Γ + 64)), none, some (.int x2), some (.int (x3 + (1 : Int32)))]) smd_M_sweep_225 rfl rfl (by decide) (by decide) rfl ?_
      refine mm_goto (n := 191) smd_M_sweep_228 rfl ?_
      exact mm_weak (by refine ⟨rfl, rfl, rfl, trivial⟩) hT
    · replace hT := hT.2 hc
      refine mm_aload_n (n := 207) (i := 0) smd_M_sweep_206 rfl rfl rfl ?_
      refine mm_get (n := 210) (v := .ref (mm_B Γ + 74)) smk_M_38 smb_M rfl smd_M_sweep_207 rfl ?_
      refine mm_iload_n (n := 211) (i := 3) smd_M_sweep_210 rfl rfl rfl ?_
      refine mm_zald (n := 212) sma_74 hT.1 smd_M_sweep_211 rfl ?_
      replace hT := hT.2
      refine mm_if_ne (n := 215) (tgt := 225) smd_M_sweep_212 rfl rfl (fun hc => ?_) (fun hc => ?_)
      · replace hT := hT.1 hc
        refine mm_iinc (n := 228) (i := 3) (d := 1) (L' := [some (.ref (mm_B Γ + 64)), none, some (.int x2), some (.int (x3 + (1 : Int32)))]) smd_M_sweep_225 rfl rfl (by decide) (by decide) rfl ?_
        refine mm_goto (n := 191) smd_M_sweep_228 rfl ?_
        exact mm_weak (by refine ⟨rfl, rfl, rfl, trivial⟩) hT
      · replace hT := hT.2 hc
        refine mm_aload_n (n := 216) (i := 0) smd_M_sweep_215 rfl rfl rfl ?_
        refine mm_get (n := 219) (v := .ref (mm_B Γ + 71)) smk_M_29 smb_M rfl smd_M_sweep_216 rfl ?_
        refine mm_iload_n (n := 220) (i := 3) smd_M_sweep_219 rfl rfl rfl ?_
        refine mm_iconst (n := 221) (v := -1) smd_M_sweep_220 rfl (by decide) ?_
        refine mm_iast (n := 222) sma_71 hT.1 smd_M_sweep_221 rfl ?_
        replace hT := hT.2
        refine mm_nam (fun h221 e_h221 => ?_)
        replace hT := hT h221 e_h221
        refine mm_iinc (n := 225) (i := 2) (d := 1) (L' := [some (.ref (mm_B Γ + 64)), none, some (.int (x2 + (1 : Int32))), some (.int x3)]) smd_M_sweep_222 rfl rfl (by decide) (by decide) rfl ?_
        refine mm_iinc (n := 228) (i := 3) (d := 1) (L' := [some (.ref (mm_B Γ + 64)), none, some (.int (x2 + (1 : Int32))), some (.int (x3 + (1 : Int32)))]) smd_M_sweep_225 rfl rfl (by decide) (by decide) rfl ?_
        refine mm_goto (n := 191) smd_M_sweep_228 rfl ?_
        exact mm_weak (by refine ⟨rfl, rfl, rfl, trivial⟩) hT
set_option maxHeartbeats 4000000 in
set_option maxRecDepth 100000 in
theorem smr_M_sweep_126 {Γ : mm_Ctx} {post : Int32 → mm_Mem → Prop} {h : mm_Mem} (x1 : Int32) (x2 : Int32) (hT : ((17 : Int32) ≤ x2 → (mm_W Γ smM_M_sweep (mm_pI post) 111 [some (.ref (mm_B Γ + 64)), some (.int x1), none, none] [] h)) ∧ (¬ (17 : Int32) ≤ x2 → (mm_W Γ smM_M_sweep (mm_pI post) 134 [some (.ref (mm_B Γ + 64)), some (.int x1), some (.int x2), some (.int (0 : Int32))] [] h))) : mm_W Γ smM_M_sweep (mm_pI post) 126 [some (.ref (mm_B Γ + 64)), some (.int x1), some (.int x2), none] [] h := by
  refine mm_iload_n (n := 127) (i := 2) smd_M_sweep_126 rfl rfl rfl ?_
  refine mm_bipush (n := 129) (v := 17) smd_M_sweep_127 rfl (by decide) ?_
  refine mm_icmp_ge (n := 132) (tgt := 184) smd_M_sweep_129 rfl rfl (fun hc => ?_) (fun hc => ?_)
  · replace hT := hT.1 hc
    refine mm_goto (n := 111) smd_M_sweep_184 rfl ?_
    exact mm_weak (by refine ⟨rfl, rfl, trivial⟩) hT
  · replace hT := hT.2 hc
    refine mm_iconst (n := 133) (v := 0) smd_M_sweep_132 rfl (by decide) ?_
    refine mm_istore_n (n := 134) (i := 3) (L' := [some (.ref (mm_B Γ + 64)), some (.int x1), some (.int x2), some (.int (0 : Int32))]) smd_M_sweep_133 rfl rfl (by decide) rfl ?_
    exact mm_weak (by refine ⟨rfl, rfl, rfl, rfl, trivial⟩) hT
set_option maxHeartbeats 4000000 in
set_option maxRecDepth 100000 in
theorem smr_M_sweep_68 {Γ : mm_Ctx} {post : Int32 → mm_Mem → Prop} {h : mm_Mem} (x1 : Int32) (x2 : Int32) (x3 : Int32) (hT : ((3 : Int32) ≤ x3 → (mm_W Γ smM_M_sweep (mm_pI post) 56 [some (.ref (mm_B Γ + 64)), some (.int x1), some (.int (x2 + (1 : Int32))), none] [] h)) ∧ (¬ (3 : Int32) ≤ x3 → (mm_SI Γ smM_M_frameAt [.int x1, .int x2] h (fun r80 h80 => (vp_in ((r80 + (2 : Int32)) + x3) 252) ∧ (mm_SV Γ smM_M_mark [.ref (mm_B Γ + 64), .int (h80 78 ((r80 + (2 : Int32)) + x3).toNatClampNeg)] h80 (fun h88 => mm_W Γ smM_M_sweep (mm_pI post) 68 [some (.ref (mm_B Γ + 64)), some (.int x1), some (.int x2), some (.int (x3 + (1 : Int32)))] [] h88)))))) : mm_W Γ smM_M_sweep (mm_pI post) 68 [some (.ref (mm_B Γ + 64)), some (.int x1), some (.int x2), some (.int x3)] [] h := by
  refine mm_iload_n (n := 69) (i := 3) smd_M_sweep_68 rfl rfl rfl ?_
  refine mm_iconst (n := 70) (v := 3) smd_M_sweep_69 rfl (by decide) ?_
  refine mm_icmp_ge (n := 73) (tgt := 97) smd_M_sweep_70 rfl rfl (fun hc => ?_) (fun hc => ?_)
  · replace hT := hT.1 hc
    refine mm_iinc (n := 100) (i := 2) (d := 1) (L' := [some (.ref (mm_B Γ + 64)), some (.int x1), some (.int (x2 + (1 : Int32))), some (.int x3)]) smd_M_sweep_97 rfl rfl (by decide) (by decide) rfl ?_
    refine mm_goto (n := 56) smd_M_sweep_100 rfl ?_
    exact mm_weak (by refine ⟨rfl, rfl, rfl, trivial⟩) hT
  · replace hT := hT.2 hc
    refine mm_aload_n (n := 74) (i := 0) smd_M_sweep_73 rfl rfl rfl ?_
    refine mm_aload_n (n := 75) (i := 0) smd_M_sweep_74 rfl rfl rfl ?_
    refine mm_get (n := 78) (v := .ref (mm_B Γ + 78)) smk_M_50 smb_M rfl smd_M_sweep_75 rfl ?_
    refine mm_iload_n (n := 79) (i := 1) smd_M_sweep_78 rfl rfl rfl ?_
    refine mm_iload_n (n := 80) (i := 2) smd_M_sweep_79 rfl rfl rfl ?_
    refine mm_callSI (n := 83) (As := [.int x1, .int x2]) (rest := [.ref (mm_B Γ + 78), .ref (mm_B Γ + 64)]) smv_M_frameAt smw_657 (mm_hRm (by decide) (by decide)) smd_M_sweep_80 rfl rfl (Nat.le_of_ble_eq_true rfl) hT (fun r80 h80 hT => ?_)
    refine mm_iconst (n := 84) (v := 2) smd_M_sweep_83 rfl (by decide) ?_
    refine mm_iadd (n := 85) smd_M_sweep_84 rfl ?_
    refine mm_iload_n (n := 86) (i := 3) smd_M_sweep_85 rfl rfl rfl ?_
    refine mm_iadd (n := 87) smd_M_sweep_86 rfl ?_
    refine mm_iald (n := 88) sma_78 hT.1 smd_M_sweep_87 rfl ?_
    replace hT := hT.2
    refine mm_callVV (n := 91) (As := [.int (h80 78 ((r80 + (2 : Int32)) + x3).toNatClampNeg)]) (rest := []) smv_M_mark smw_672 smb_M (mm_hRm (by decide) (by decide)) smd_M_sweep_88 rfl rfl (Nat.le_of_ble_eq_true rfl) hT (fun h88 hT => ?_)
    refine mm_iinc (n := 94) (i := 3) (d := 1) (L' := [some (.ref (mm_B Γ + 64)), some (.int x1), some (.int x2), some (.int (x3 + (1 : Int32)))]) smd_M_sweep_91 rfl rfl (by decide) (by decide) rfl ?_
    refine mm_goto (n := 68) smd_M_sweep_94 rfl ?_
    exact mm_weak (by refine ⟨rfl, rfl, rfl, rfl, trivial⟩) hT
set_option maxHeartbeats 4000000 in
set_option maxRecDepth 100000 in
theorem smr_M_sweep_134 {Γ : mm_Ctx} {post : Int32 → mm_Mem → Prop} {h : mm_Mem} (x1 : Int32) (x2 : Int32) (x3 : Int32) (hT : (vp_in x2 17) ∧ (((h 74 x2.toNatClampNeg) = 0 → (mm_W Γ smM_M_sweep (mm_pI post) 126 [some (.ref (mm_B Γ + 64)), some (.int x1), some (.int (x2 + (1 : Int32))), none] [] h)) ∧ (¬ (h 74 x2.toNatClampNeg) = 0 → ((vp_in x2 17) ∧ ((vp_in (h 71 x2.toNatClampNeg) 6) ∧ (((h 67 (h 71 x2.toNatClampNeg).toNatClampNeg) ≤ x3 → (mm_W Γ smM_M_sweep (mm_pI post) 126 [some (.ref (mm_B Γ + 64)), some (.int x1), some (.int (x2 + (1 : Int32))), none] [] h)) ∧ (¬ (h 67 (h 71 x2.toNatClampNeg).toNatClampNeg) ≤ x3 → ((vp_in (((4 : Int32) * x2) + x3) 68) ∧ (mm_SV Γ smM_M_mark [.ref (mm_B Γ + 64), .int (h 72 (((4 : Int32) * x2) + x3).toNatClampNeg)] h (fun h169 => mm_W Γ smM_M_sweep (mm_pI post) 134 [some (.ref (mm_B Γ + 64)), some (.int x1), some (.int x2), some (.int (x3 + (1 : Int32)))] [] h169)))))))))) : mm_W Γ smM_M_sweep (mm_pI post) 134 [some (.ref (mm_B Γ + 64)), some (.int x1), some (.int x2), some (.int x3)] [] h := by
  refine mm_aload_n (n := 135) (i := 0) smd_M_sweep_134 rfl rfl rfl ?_
  refine mm_get (n := 138) (v := .ref (mm_B Γ + 74)) smk_M_38 smb_M rfl smd_M_sweep_135 rfl ?_
  refine mm_iload_n (n := 139) (i := 2) smd_M_sweep_138 rfl rfl rfl ?_
  refine mm_zald (n := 140) sma_74 hT.1 smd_M_sweep_139 rfl ?_
  replace hT := hT.2
  refine mm_if_eq (n := 143) (tgt := 178) smd_M_sweep_140 rfl rfl (fun hc => ?_) (fun hc => ?_)
  · replace hT := hT.1 hc
    refine mm_iinc (n := 181) (i := 2) (d := 1) (L' := [some (.ref (mm_B Γ + 64)), some (.int x1), some (.int (x2 + (1 : Int32))), some (.int x3)]) smd_M_sweep_178 rfl rfl (by decide) (by decide) rfl ?_
    refine mm_goto (n := 126) smd_M_sweep_181 rfl ?_
    exact mm_weak (by refine ⟨rfl, rfl, rfl, trivial⟩) hT
  · replace hT := hT.2 hc
    refine mm_iload_n (n := 144) (i := 3) smd_M_sweep_143 rfl rfl rfl ?_
    refine mm_aload_n (n := 145) (i := 0) smd_M_sweep_144 rfl rfl rfl ?_
    refine mm_get (n := 148) (v := .ref (mm_B Γ + 67)) smk_M_16 smb_M rfl smd_M_sweep_145 rfl ?_
    refine mm_aload_n (n := 149) (i := 0) smd_M_sweep_148 rfl rfl rfl ?_
    refine mm_get (n := 152) (v := .ref (mm_B Γ + 71)) smk_M_29 smb_M rfl smd_M_sweep_149 rfl ?_
    refine mm_iload_n (n := 153) (i := 2) smd_M_sweep_152 rfl rfl rfl ?_
    refine mm_iald (n := 154) sma_71 hT.1 smd_M_sweep_153 rfl ?_
    replace hT := hT.2
    refine mm_iald (n := 155) sma_67 hT.1 smd_M_sweep_154 rfl ?_
    replace hT := hT.2
    refine mm_icmp_ge (n := 158) (tgt := 178) smd_M_sweep_155 rfl rfl (fun hc => ?_) (fun hc => ?_)
    · replace hT := hT.1 hc
      refine mm_iinc (n := 181) (i := 2) (d := 1) (L' := [some (.ref (mm_B Γ + 64)), some (.int x1), some (.int (x2 + (1 : Int32))), some (.int x3)]) smd_M_sweep_178 rfl rfl (by decide) (by decide) rfl ?_
      refine mm_goto (n := 126) smd_M_sweep_181 rfl ?_
      exact mm_weak (by refine ⟨rfl, rfl, rfl, trivial⟩) hT
    · replace hT := hT.2 hc
      refine mm_aload_n (n := 159) (i := 0) smd_M_sweep_158 rfl rfl rfl ?_
      refine mm_aload_n (n := 160) (i := 0) smd_M_sweep_159 rfl rfl rfl ?_
      refine mm_get (n := 163) (v := .ref (mm_B Γ + 72)) smk_M_32 smb_M rfl smd_M_sweep_160 rfl ?_
      refine mm_iconst (n := 164) (v := 4) smd_M_sweep_163 rfl (by decide) ?_
      refine mm_iload_n (n := 165) (i := 2) smd_M_sweep_164 rfl rfl rfl ?_
      refine mm_imul (n := 166) smd_M_sweep_165 rfl ?_
      refine mm_iload_n (n := 167) (i := 3) smd_M_sweep_166 rfl rfl rfl ?_
      refine mm_iadd (n := 168) smd_M_sweep_167 rfl ?_
      refine mm_iald (n := 169) sma_72 hT.1 smd_M_sweep_168 rfl ?_
      replace hT := hT.2
      refine mm_callVV (n := 172) (As := [.int (h 72 (((4 : Int32) * x2) + x3).toNatClampNeg)]) (rest := []) smv_M_mark smw_672 smb_M (mm_hRm (by decide) (by decide)) smd_M_sweep_169 rfl rfl (Nat.le_of_ble_eq_true rfl) hT (fun h169 hT => ?_)
      refine mm_iinc (n := 175) (i := 3) (d := 1) (L' := [some (.ref (mm_B Γ + 64)), some (.int x1), some (.int x2), some (.int (x3 + (1 : Int32)))]) smd_M_sweep_172 rfl rfl (by decide) (by decide) rfl ?_
      refine mm_goto (n := 134) smd_M_sweep_175 rfl ?_
      exact mm_weak (by refine ⟨rfl, rfl, rfl, rfl, trivial⟩) hT
set_option maxHeartbeats 4000000 in
set_option maxRecDepth 100000 in
theorem smr_M_collect {Γ : mm_Ctx} {post : Int32 → mm_Mem → Prop} {h : mm_Mem}  (hT : mm_SI Γ smM_M_sweep [.ref (mm_B Γ + 64)] h (fun r1 h1 => post r1 h1)) : mm_SI Γ smM_M_collect [.ref (mm_B Γ + 64)] h post := by
  refine mm_spec0 (M := smM_M_collect) 0 (by decide +kernel) rfl (Nat.le_of_ble_eq_true rfl) ?_
  show mm_W Γ smM_M_collect (mm_pI post) 0 [some (.ref (mm_B Γ + 64))] [] h
  refine mm_aload_n (n := 1) (i := 0) smd_M_collect_0 rfl rfl rfl ?_
  refine mm_callVI (n := 4) (As := []) (rest := []) smv_M_sweep smw_668 smb_M (mm_hRm (by decide) (by decide)) smd_M_collect_1 rfl rfl (Nat.le_of_ble_eq_true rfl) hT (fun r1 h1 hT => ?_)
  exact mm_iret rfl smd_M_collect_4 ⟨_, rfl, hT⟩
set_option maxHeartbeats 4000000 in
set_option maxRecDepth 100000 in
theorem smr_M_free {Γ : mm_Ctx} {post : Int32 → mm_Mem → Prop} {h : mm_Mem}  (hT : mm_W Γ smM_M_free (mm_pI post) 2 [some (.ref (mm_B Γ + 64)), some (.int (1 : Int32))] [] h) : mm_SI Γ smM_M_free [.ref (mm_B Γ + 64)] h post := by
  refine mm_spec0 (M := smM_M_free) 1 (by decide +kernel) rfl (Nat.le_of_ble_eq_true rfl) ?_
  show mm_W Γ smM_M_free (mm_pI post) 0 [some (.ref (mm_B Γ + 64)), none] [] h
  refine mm_iconst (n := 1) (v := 1) smd_M_free_0 rfl (by decide) ?_
  refine mm_istore_n (n := 2) (i := 1) (L' := [some (.ref (mm_B Γ + 64)), some (.int (1 : Int32))]) smd_M_free_1 rfl rfl (by decide) rfl ?_
  exact mm_weak (by refine ⟨rfl, rfl, trivial⟩) hT
set_option maxHeartbeats 4000000 in
set_option maxRecDepth 100000 in
theorem smr_M_free_2 {Γ : mm_Ctx} {post : Int32 → mm_Mem → Prop} {h : mm_Mem} (x1 : Int32) (hT : ((17 : Int32) ≤ x1 → (post x1 h)) ∧ (¬ (17 : Int32) ≤ x1 → ((vp_in x1 17) ∧ (((h 71 x1.toNatClampNeg) < 0 → (post x1 h)) ∧ (¬ (h 71 x1.toNatClampNeg) < 0 → (mm_W Γ smM_M_free (mm_pI post) 2 [some (.ref (mm_B Γ + 64)), some (.int (x1 + (1 : Int32)))] [] h)))))) : mm_W Γ smM_M_free (mm_pI post) 2 [some (.ref (mm_B Γ + 64)), some (.int x1)] [] h := by
  refine mm_iload_n (n := 3) (i := 1) smd_M_free_2 rfl rfl rfl ?_
  refine mm_bipush (n := 5) (v := 17) smd_M_free_3 rfl (by decide) ?_
  refine mm_icmp_ge (n := 8) (tgt := 23) smd_M_free_5 rfl rfl (fun hc => ?_) (fun hc => ?_)
  · replace hT := hT.1 hc
    refine mm_iload_n (n := 24) (i := 1) smd_M_free_23 rfl rfl rfl ?_
    exact mm_iret rfl smd_M_free_24 ⟨_, rfl, hT⟩
  · replace hT := hT.2 hc
    refine mm_aload_n (n := 9) (i := 0) smd_M_free_8 rfl rfl rfl ?_
    refine mm_get (n := 12) (v := .ref (mm_B Γ + 71)) smk_M_29 smb_M rfl smd_M_free_9 rfl ?_
    refine mm_iload_n (n := 13) (i := 1) smd_M_free_12 rfl rfl rfl ?_
    refine mm_iald (n := 14) sma_71 hT.1 smd_M_free_13 rfl ?_
    replace hT := hT.2
    refine mm_if_lt (n := 17) (tgt := 23) smd_M_free_14 rfl rfl (fun hc => ?_) (fun hc => ?_)
    · replace hT := hT.1 hc
      refine mm_iload_n (n := 24) (i := 1) smd_M_free_23 rfl rfl rfl ?_
      exact mm_iret rfl smd_M_free_24 ⟨_, rfl, hT⟩
    · replace hT := hT.2 hc
      refine mm_iinc (n := 20) (i := 1) (d := 1) (L' := [some (.ref (mm_B Γ + 64)), some (.int (x1 + (1 : Int32)))]) smd_M_free_17 rfl rfl (by decide) (by decide) rfl ?_
      refine mm_goto (n := 2) smd_M_free_20 rfl ?_
      exact mm_weak (by refine ⟨rfl, rfl, trivial⟩) hT
set_option maxHeartbeats 4000000 in
set_option maxRecDepth 100000 in
theorem smr_M_make {Γ : mm_Ctx} {post : Int32 → mm_Mem → Prop} {h : mm_Mem} (x1 : Int32) (hT : mm_SI Γ smM_M_free [.ref (mm_B Γ + 64)] h (fun r1 h1 => (r1 ≤ (16 : Int32) → (mm_W Γ smM_M_make (mm_pI post) 14 [some (.ref (mm_B Γ + 64)), some (.int x1), none, none] [] h1)) ∧ (¬ r1 ≤ (16 : Int32) → (mm_SI Γ smM_M_sweep [.ref (mm_B Γ + 64)] h1 (fun r10 h10 => mm_W Γ smM_M_make (mm_pI post) 14 [some (.ref (mm_B Γ + 64)), some (.int x1), none, none] [] h10))))) : mm_SI Γ smM_M_make [.ref (mm_B Γ + 64), .int x1] h post := by
  refine mm_spec0 (M := smM_M_make) 2 (by decide +kernel) rfl (Nat.le_of_ble_eq_true rfl) ?_
  show mm_W Γ smM_M_make (mm_pI post) 0 [some (.ref (mm_B Γ + 64)), some (.int x1), none, none] [] h
  refine mm_aload_n (n := 1) (i := 0) smd_M_make_0 rfl rfl rfl ?_
  refine mm_callVI (n := 4) (As := []) (rest := []) smv_M_free smw_753 smb_M (mm_hRm (by decide) (by decide)) smd_M_make_1 rfl rfl (Nat.le_of_ble_eq_true rfl) hT (fun r1 h1 hT => ?_)
  refine mm_bipush (n := 6) (v := 16) smd_M_make_4 rfl (by decide) ?_
  refine mm_icmp_le (n := 9) (tgt := 14) smd_M_make_6 rfl rfl (fun hc => ?_) (fun hc => ?_)
  · replace hT := hT.1 hc
    exact mm_weak (by refine ⟨rfl, rfl, trivial⟩) hT
  · replace hT := hT.2 hc
    refine mm_aload_n (n := 10) (i := 0) smd_M_make_9 rfl rfl rfl ?_
    refine mm_callVI (n := 13) (As := []) (rest := []) smv_M_sweep smw_668 smb_M (mm_hRm (by decide) (by decide)) smd_M_make_10 rfl rfl (Nat.le_of_ble_eq_true rfl) hT (fun r10 h10 hT => ?_)
    refine mm_pop (n := 14) smd_M_make_13 rfl rfl ?_
    exact mm_weak (by refine ⟨rfl, rfl, trivial⟩) hT
set_option maxHeartbeats 4000000 in
set_option maxRecDepth 100000 in
theorem smr_M_make_14 {Γ : mm_Ctx} {post : Int32 → mm_Mem → Prop} {h : mm_Mem} (x1 : Int32) (hT : mm_SI Γ smM_M_free [.ref (mm_B Γ + 64)] h (fun r15 h15 => (r15 ≤ (16 : Int32) → ((vp_in r15 17) ∧ (∀ h33 : mm_Mem, h33 = mm_wr h15 71 r15.toNatClampNeg x1 → (mm_W Γ smM_M_make (mm_pI post) 36 [some (.ref (mm_B Γ + 64)), none, some (.int r15), some (.int (0 : Int32))] [] h33)))) ∧ (¬ r15 ≤ (16 : Int32) → (post (0 : Int32) h15)))) : mm_W Γ smM_M_make (mm_pI post) 14 [some (.ref (mm_B Γ + 64)), some (.int x1), none, none] [] h := by
  refine mm_aload_n (n := 15) (i := 0) smd_M_make_14 rfl rfl rfl ?_
  refine mm_callVI (n := 18) (As := []) (rest := []) smv_M_free smw_753 smb_M (mm_hRm (by decide) (by decide)) smd_M_make_15 rfl rfl (Nat.le_of_ble_eq_true rfl) hT (fun r15 h15 hT => ?_)
  refine mm_istore_n (n := 19) (i := 2) (L' := [some (.ref (mm_B Γ + 64)), some (.int x1), some (.int r15), none]) smd_M_make_18 rfl rfl (by decide) rfl ?_
  refine mm_iload_n (n := 20) (i := 2) smd_M_make_19 rfl rfl rfl ?_
  refine mm_bipush (n := 22) (v := 16) smd_M_make_20 rfl (by decide) ?_
  refine mm_icmp_le (n := 25) (tgt := 27) smd_M_make_22 rfl rfl (fun hc => ?_) (fun hc => ?_)
  · replace hT := hT.1 hc
    refine mm_aload_n (n := 28) (i := 0) smd_M_make_27 rfl rfl rfl ?_
    refine mm_get (n := 31) (v := .ref (mm_B Γ + 71)) smk_M_29 smb_M rfl smd_M_make_28 rfl ?_
    refine mm_iload_n (n := 32) (i := 2) smd_M_make_31 rfl rfl rfl ?_
    refine mm_iload_n (n := 33) (i := 1) smd_M_make_32 rfl rfl rfl ?_
    refine mm_iast (n := 34) sma_71 hT.1 smd_M_make_33 rfl ?_
    replace hT := hT.2
    refine mm_nam (fun h33 e_h33 => ?_)
    replace hT := hT h33 e_h33
    refine mm_iconst (n := 35) (v := 0) smd_M_make_34 rfl (by decide) ?_
    refine mm_istore_n (n := 36) (i := 3) (L' := [some (.ref (mm_B Γ + 64)), some (.int x1), some (.int r15), some (.int (0 : Int32))]) smd_M_make_35 rfl rfl (by decide) rfl ?_
    exact mm_weak (by refine ⟨rfl, rfl, rfl, trivial⟩) hT
  · replace hT := hT.2 hc
    refine mm_iconst (n := 26) (v := 0) smd_M_make_25 rfl (by decide) ?_
    exact mm_iret rfl smd_M_make_26 ⟨_, rfl, hT⟩
set_option maxHeartbeats 4000000 in
set_option maxRecDepth 100000 in
theorem smr_M_make_36 {Γ : mm_Ctx} {post : Int32 → mm_Mem → Prop} {h : mm_Mem} (x2 : Int32) (x3 : Int32) (hT : ((4 : Int32) ≤ x3 → (post x2 h)) ∧ (¬ (4 : Int32) ≤ x3 → ((vp_in (((4 : Int32) * x2) + x3) 68) ∧ (∀ h51 : mm_Mem, h51 = mm_wr h 72 (((4 : Int32) * x2) + x3).toNatClampNeg (0 : Int32) → (mm_W Γ smM_M_make (mm_pI post) 36 [some (.ref (mm_B Γ + 64)), none, some (.int x2), some (.int (x3 + (1 : Int32)))] [] h51))))) : mm_W Γ smM_M_make (mm_pI post) 36 [some (.ref (mm_B Γ + 64)), none, some (.int x2), some (.int x3)] [] h := by
  refine mm_iload_n (n := 37) (i := 3) smd_M_make_36 rfl rfl rfl ?_
  refine mm_iconst (n := 38) (v := 4) smd_M_make_37 rfl (by decide) ?_
  refine mm_icmp_ge (n := 41) (tgt := 58) smd_M_make_38 rfl rfl (fun hc => ?_) (fun hc => ?_)
  · replace hT := hT.1 hc
    refine mm_iload_n (n := 59) (i := 2) smd_M_make_58 rfl rfl rfl ?_
    exact mm_iret rfl smd_M_make_59 ⟨_, rfl, hT⟩
  · replace hT := hT.2 hc
    refine mm_aload_n (n := 42) (i := 0) smd_M_make_41 rfl rfl rfl ?_
    refine mm_get (n := 45) (v := .ref (mm_B Γ + 72)) smk_M_32 smb_M rfl smd_M_make_42 rfl ?_
    refine mm_iconst (n := 46) (v := 4) smd_M_make_45 rfl (by decide) ?_
    refine mm_iload_n (n := 47) (i := 2) smd_M_make_46 rfl rfl rfl ?_
    refine mm_imul (n := 48) smd_M_make_47 rfl ?_
    refine mm_iload_n (n := 49) (i := 3) smd_M_make_48 rfl rfl rfl ?_
    refine mm_iadd (n := 50) smd_M_make_49 rfl ?_
    refine mm_iconst (n := 51) (v := 0) smd_M_make_50 rfl (by decide) ?_
    refine mm_iast (n := 52) sma_72 hT.1 smd_M_make_51 rfl ?_
    replace hT := hT.2
    refine mm_nam (fun h51 e_h51 => ?_)
    replace hT := hT h51 e_h51
    refine mm_iinc (n := 55) (i := 3) (d := 1) (L' := [some (.ref (mm_B Γ + 64)), none, some (.int x2), some (.int (x3 + (1 : Int32)))]) smd_M_make_52 rfl rfl (by decide) (by decide) rfl ?_
    refine mm_goto (n := 36) smd_M_make_55 rfl ?_
    exact mm_weak (by refine ⟨rfl, rfl, rfl, trivial⟩) hT
set_option maxHeartbeats 4000000 in
set_option maxRecDepth 100000 in
theorem smr_M_typeOf {Γ : mm_Ctx} {post : Int32 → mm_Mem → Prop} {h : mm_Mem} (x1 : Int32) (hT : mm_SI Γ smM_M_isObject [.ref (mm_B Γ + 64), .int x1] h (fun r2 h2 => (r2 = 0 → (post (-1 : Int32) h2)) ∧ (¬ r2 = 0 → ((vp_in x1 17) ∧ (post (h2 71 x1.toNatClampNeg) h2))))) : mm_SI Γ smM_M_typeOf [.ref (mm_B Γ + 64), .int x1] h post := by
  refine mm_spec0 (M := smM_M_typeOf) 0 (by decide +kernel) rfl (Nat.le_of_ble_eq_true rfl) ?_
  show mm_W Γ smM_M_typeOf (mm_pI post) 0 [some (.ref (mm_B Γ + 64)), some (.int x1)] [] h
  refine mm_aload_n (n := 1) (i := 0) smd_M_typeOf_0 rfl rfl rfl ?_
  refine mm_iload_n (n := 2) (i := 1) smd_M_typeOf_1 rfl rfl rfl ?_
  refine mm_callVI (n := 5) (As := [.int x1]) (rest := []) smv_M_isObject smw_676 smb_M (mm_hRm (by decide) (by decide)) smd_M_typeOf_2 rfl rfl (Nat.le_of_ble_eq_true rfl) hT (fun r2 h2 hT => ?_)
  refine mm_if_eq (n := 8) (tgt := 17) smd_M_typeOf_5 rfl rfl (fun hc => ?_) (fun hc => ?_)
  · replace hT := hT.1 hc
    refine mm_iconst (n := 18) (v := -1) smd_M_typeOf_17 rfl (by decide) ?_
    exact mm_iret rfl smd_M_typeOf_18 ⟨_, rfl, hT⟩
  · replace hT := hT.2 hc
    refine mm_aload_n (n := 9) (i := 0) smd_M_typeOf_8 rfl rfl rfl ?_
    refine mm_get (n := 12) (v := .ref (mm_B Γ + 71)) smk_M_29 smb_M rfl smd_M_typeOf_9 rfl ?_
    refine mm_iload_n (n := 13) (i := 1) smd_M_typeOf_12 rfl rfl rfl ?_
    refine mm_iald (n := 14) sma_71 hT.1 smd_M_typeOf_13 rfl ?_
    replace hT := hT.2
    refine mm_goto (n := 18) smd_M_typeOf_14 rfl ?_
    exact mm_iret rfl smd_M_typeOf_18 ⟨_, rfl, hT⟩
set_option maxHeartbeats 4000000 in
set_option maxRecDepth 100000 in
theorem smr_M_field {Γ : mm_Ctx} {post : Int32 → mm_Mem → Prop} {h : mm_Mem} (x1 : Int32) (x2 : Int32) (hT : mm_SI Γ smM_M_isObject [.ref (mm_B Γ + 64), .int x1] h (fun r2 h2 => (r2 = 0 → (post (0 : Int32) h2)) ∧ (¬ r2 = 0 → ((x2 < 0 → (post (0 : Int32) h2)) ∧ (¬ x2 < 0 → ((vp_in x1 17) ∧ ((vp_in (h2 71 x1.toNatClampNeg) 6) ∧ (((h2 67 (h2 71 x1.toNatClampNeg).toNatClampNeg) ≤ x2 → (post (0 : Int32) h2)) ∧ (¬ (h2 67 (h2 71 x1.toNatClampNeg).toNatClampNeg) ≤ x2 → ((vp_in (((4 : Int32) * x1) + x2) 68) ∧ (post (h2 72 (((4 : Int32) * x1) + x2).toNatClampNeg) h2))))))))))) : mm_SI Γ smM_M_field [.ref (mm_B Γ + 64), .int x1, .int x2] h post := by
  refine mm_spec0 (M := smM_M_field) 0 (by decide +kernel) rfl (Nat.le_of_ble_eq_true rfl) ?_
  show mm_W Γ smM_M_field (mm_pI post) 0 [some (.ref (mm_B Γ + 64)), some (.int x1), some (.int x2)] [] h
  refine mm_aload_n (n := 1) (i := 0) smd_M_field_0 rfl rfl rfl ?_
  refine mm_iload_n (n := 2) (i := 1) smd_M_field_1 rfl rfl rfl ?_
  refine mm_callVI (n := 5) (As := [.int x1]) (rest := []) smv_M_isObject smw_676 smb_M (mm_hRm (by decide) (by decide)) smd_M_field_2 rfl rfl (Nat.le_of_ble_eq_true rfl) hT (fun r2 h2 hT => ?_)
  refine mm_if_eq (n := 8) (tgt := 40) smd_M_field_5 rfl rfl (fun hc => ?_) (fun hc => ?_)
  · replace hT := hT.1 hc
    refine mm_iconst (n := 41) (v := 0) smd_M_field_40 rfl (by decide) ?_
    exact mm_iret rfl smd_M_field_41 ⟨_, rfl, hT⟩
  · replace hT := hT.2 hc
    refine mm_iload_n (n := 9) (i := 2) smd_M_field_8 rfl rfl rfl ?_
    refine mm_if_lt (n := 12) (tgt := 40) smd_M_field_9 rfl rfl (fun hc => ?_) (fun hc => ?_)
    · replace hT := hT.1 hc
      refine mm_iconst (n := 41) (v := 0) smd_M_field_40 rfl (by decide) ?_
      exact mm_iret rfl smd_M_field_41 ⟨_, rfl, hT⟩
    · replace hT := hT.2 hc
      refine mm_iload_n (n := 13) (i := 2) smd_M_field_12 rfl rfl rfl ?_
      refine mm_aload_n (n := 14) (i := 0) smd_M_field_13 rfl rfl rfl ?_
      refine mm_get (n := 17) (v := .ref (mm_B Γ + 67)) smk_M_16 smb_M rfl smd_M_field_14 rfl ?_
      refine mm_aload_n (n := 18) (i := 0) smd_M_field_17 rfl rfl rfl ?_
      refine mm_get (n := 21) (v := .ref (mm_B Γ + 71)) smk_M_29 smb_M rfl smd_M_field_18 rfl ?_
      refine mm_iload_n (n := 22) (i := 1) smd_M_field_21 rfl rfl rfl ?_
      refine mm_iald (n := 23) sma_71 hT.1 smd_M_field_22 rfl ?_
      replace hT := hT.2
      refine mm_iald (n := 24) sma_67 hT.1 smd_M_field_23 rfl ?_
      replace hT := hT.2
      refine mm_icmp_ge (n := 27) (tgt := 40) smd_M_field_24 rfl rfl (fun hc => ?_) (fun hc => ?_)
      · replace hT := hT.1 hc
        refine mm_iconst (n := 41) (v := 0) smd_M_field_40 rfl (by decide) ?_
        exact mm_iret rfl smd_M_field_41 ⟨_, rfl, hT⟩
      · replace hT := hT.2 hc
        refine mm_aload_n (n := 28) (i := 0) smd_M_field_27 rfl rfl rfl ?_
        refine mm_get (n := 31) (v := .ref (mm_B Γ + 72)) smk_M_32 smb_M rfl smd_M_field_28 rfl ?_
        refine mm_iconst (n := 32) (v := 4) smd_M_field_31 rfl (by decide) ?_
        refine mm_iload_n (n := 33) (i := 1) smd_M_field_32 rfl rfl rfl ?_
        refine mm_imul (n := 34) smd_M_field_33 rfl ?_
        refine mm_iload_n (n := 35) (i := 2) smd_M_field_34 rfl rfl rfl ?_
        refine mm_iadd (n := 36) smd_M_field_35 rfl ?_
        refine mm_iald (n := 37) sma_72 hT.1 smd_M_field_36 rfl ?_
        replace hT := hT.2
        refine mm_goto (n := 41) smd_M_field_37 rfl ?_
        exact mm_iret rfl smd_M_field_41 ⟨_, rfl, hT⟩
set_option maxHeartbeats 4000000 in
set_option maxRecDepth 100000 in
theorem smr_M_heap {Γ : mm_Ctx} {post : Int32 → mm_Mem → Prop} {h : mm_Mem}  (hT : mm_W Γ smM_M_heap (mm_pI post) 4 [some (.ref (mm_B Γ + 64)), some (.int (0 : Int32)), some (.int (1 : Int32))] [] h) : mm_SI Γ smM_M_heap [.ref (mm_B Γ + 64)] h post := by
  refine mm_spec0 (M := smM_M_heap) 2 (by decide +kernel) rfl (Nat.le_of_ble_eq_true rfl) ?_
  show mm_W Γ smM_M_heap (mm_pI post) 0 [some (.ref (mm_B Γ + 64)), none, none] [] h
  refine mm_iconst (n := 1) (v := 0) smd_M_heap_0 rfl (by decide) ?_
  refine mm_istore_n (n := 2) (i := 1) (L' := [some (.ref (mm_B Γ + 64)), some (.int (0 : Int32)), none]) smd_M_heap_1 rfl rfl (by decide) rfl ?_
  refine mm_iconst (n := 3) (v := 1) smd_M_heap_2 rfl (by decide) ?_
  refine mm_istore_n (n := 4) (i := 2) (L' := [some (.ref (mm_B Γ + 64)), some (.int (0 : Int32)), some (.int (1 : Int32))]) smd_M_heap_3 rfl rfl (by decide) rfl ?_
  exact mm_weak (by refine ⟨rfl, rfl, rfl, trivial⟩) hT
set_option maxHeartbeats 4000000 in
set_option maxRecDepth 100000 in
theorem smr_M_heap_4 {Γ : mm_Ctx} {post : Int32 → mm_Mem → Prop} {h : mm_Mem} (x1 : Int32) (x2 : Int32) (hT : ((17 : Int32) ≤ x2 → (post x1 h)) ∧ (¬ (17 : Int32) ≤ x2 → ((vp_in x2 17) ∧ (((h 71 x2.toNatClampNeg) < 0 → (∀ y1_26 : Int32, y1_26 = x1 + (0 : Int32) → (mm_W Γ smM_M_heap (mm_pI post) 4 [some (.ref (mm_B Γ + 64)), some (.int y1_26), some (.int (x2 + (1 : Int32)))] [] h))) ∧ (¬ (h 71 x2.toNatClampNeg) < 0 → (∀ y1_26 : Int32, y1_26 = x1 + (1 : Int32) → (mm_W Γ smM_M_heap (mm_pI post) 4 [some (.ref (mm_B Γ + 64)), some (.int y1_26), some (.int (x2 + (1 : Int32)))] [] h))))))) : mm_W Γ smM_M_heap (mm_pI post) 4 [some (.ref (mm_B Γ + 64)), some (.int x1), some (.int x2)] [] h := by
  refine mm_iload_n (n := 5) (i := 2) smd_M_heap_4 rfl rfl rfl ?_
  refine mm_bipush (n := 7) (v := 17) smd_M_heap_5 rfl (by decide) ?_
  refine mm_icmp_ge (n := 10) (tgt := 33) smd_M_heap_7 rfl rfl (fun hc => ?_) (fun hc => ?_)
  · replace hT := hT.1 hc
    refine mm_iload_n (n := 34) (i := 1) smd_M_heap_33 rfl rfl rfl ?_
    exact mm_iret rfl smd_M_heap_34 ⟨_, rfl, hT⟩
  · replace hT := hT.2 hc
    refine mm_iload_n (n := 11) (i := 1) smd_M_heap_10 rfl rfl rfl ?_
    refine mm_aload_n (n := 12) (i := 0) smd_M_heap_11 rfl rfl rfl ?_
    refine mm_get (n := 15) (v := .ref (mm_B Γ + 71)) smk_M_29 smb_M rfl smd_M_heap_12 rfl ?_
    refine mm_iload_n (n := 16) (i := 2) smd_M_heap_15 rfl rfl rfl ?_
    refine mm_iald (n := 17) sma_71 hT.1 smd_M_heap_16 rfl ?_
    replace hT := hT.2
    refine mm_if_lt (n := 20) (tgt := 24) smd_M_heap_17 rfl rfl (fun hc => ?_) (fun hc => ?_)
    · replace hT := hT.1 hc
      refine mm_iconst (n := 25) (v := 0) smd_M_heap_24 rfl (by decide) ?_
      refine mm_iadd (n := 26) smd_M_heap_25 rfl ?_
      refine mm_top (fun y1_26 e_y1_26 => ?_)
      replace hT := hT y1_26 e_y1_26
      refine mm_istore_n (n := 27) (i := 1) (L' := [some (.ref (mm_B Γ + 64)), some (.int y1_26), some (.int x2)]) smd_M_heap_26 rfl rfl (by decide) rfl ?_
      refine mm_iinc (n := 30) (i := 2) (d := 1) (L' := [some (.ref (mm_B Γ + 64)), some (.int y1_26), some (.int (x2 + (1 : Int32)))]) smd_M_heap_27 rfl rfl (by decide) (by decide) rfl ?_
      refine mm_goto (n := 4) smd_M_heap_30 rfl ?_
      exact mm_weak (by refine ⟨rfl, rfl, rfl, trivial⟩) hT
    · replace hT := hT.2 hc
      refine mm_iconst (n := 21) (v := 1) smd_M_heap_20 rfl (by decide) ?_
      refine mm_goto (n := 25) smd_M_heap_21 rfl ?_
      refine mm_iadd (n := 26) smd_M_heap_25 rfl ?_
      refine mm_top (fun y1_26 e_y1_26 => ?_)
      replace hT := hT y1_26 e_y1_26
      refine mm_istore_n (n := 27) (i := 1) (L' := [some (.ref (mm_B Γ + 64)), some (.int y1_26), some (.int x2)]) smd_M_heap_26 rfl rfl (by decide) rfl ?_
      refine mm_iinc (n := 30) (i := 2) (d := 1) (L' := [some (.ref (mm_B Γ + 64)), some (.int y1_26), some (.int (x2 + (1 : Int32)))]) smd_M_heap_27 rfl rfl (by decide) (by decide) rfl ?_
      refine mm_goto (n := 4) smd_M_heap_30 rfl ?_
      exact mm_weak (by refine ⟨rfl, rfl, rfl, trivial⟩) hT
set_option maxHeartbeats 4000000 in
set_option maxRecDepth 100000 in
theorem smr_M_isMadeOver {Γ : mm_Ctx} {post : Int32 → mm_Mem → Prop} {h : mm_Mem} (x1 : Int32) (hT : (vp_in x1 17) ∧ (∀ y2_6 : Int32, y2_6 = h 71 x1.toNatClampNeg → (mm_W Γ smM_M_isMadeOver (mm_pI post) 9 [some (.ref (mm_B Γ + 64)), some (.int x1), some (.int y2_6), some (.int (0 : Int32)), none, none, none] [] h))) : mm_SI Γ smM_M_isMadeOver [.ref (mm_B Γ + 64), .int x1] h post := by
  refine mm_spec0 (M := smM_M_isMadeOver) 5 (by decide +kernel) rfl (Nat.le_of_ble_eq_true rfl) ?_
  show mm_W Γ smM_M_isMadeOver (mm_pI post) 0 [some (.ref (mm_B Γ + 64)), some (.int x1), none, none, none, none, none] [] h
  refine mm_aload_n (n := 1) (i := 0) smd_M_isMadeOver_0 rfl rfl rfl ?_
  refine mm_get (n := 4) (v := .ref (mm_B Γ + 71)) smk_M_29 smb_M rfl smd_M_isMadeOver_1 rfl ?_
  refine mm_iload_n (n := 5) (i := 1) smd_M_isMadeOver_4 rfl rfl rfl ?_
  refine mm_iald (n := 6) sma_71 hT.1 smd_M_isMadeOver_5 rfl ?_
  replace hT := hT.2
  refine mm_top (fun y2_6 e_y2_6 => ?_)
  replace hT := hT y2_6 e_y2_6
  refine mm_istore_n (n := 7) (i := 2) (L' := [some (.ref (mm_B Γ + 64)), some (.int x1), some (.int y2_6), none, none, none, none]) smd_M_isMadeOver_6 rfl rfl (by decide) rfl ?_
  refine mm_iconst (n := 8) (v := 0) smd_M_isMadeOver_7 rfl (by decide) ?_
  refine mm_istore_n (n := 9) (i := 3) (L' := [some (.ref (mm_B Γ + 64)), some (.int x1), some (.int y2_6), some (.int (0 : Int32)), none, none, none]) smd_M_isMadeOver_8 rfl rfl (by decide) rfl ?_
  exact mm_weak (by refine ⟨rfl, rfl, rfl, rfl, trivial⟩) hT
set_option maxHeartbeats 4000000 in
set_option maxRecDepth 100000 in
theorem smr_M_isMadeOver_9 {Γ : mm_Ctx} {post : Int32 → mm_Mem → Prop} {h : mm_Mem} (x1 : Int32) (x2 : Int32) (x3 : Int32) (hT : (vp_in ((3 : Int32) + x2) 6) ∧ (((h 67 ((3 : Int32) + x2).toNatClampNeg) ≤ x3 → (post (1 : Int32) h)) ∧ (¬ (h 67 ((3 : Int32) + x2).toNatClampNeg) ≤ x3 → (∀ y4_29 : Int32, y4_29 = ((12 : Int32) * x2) + ((3 : Int32) * x3) → ((vp_in (y4_29 + (1 : Int32)) 36) ∧ ((vp_in (((4 : Int32) * x1) + (h 68 (y4_29 + (1 : Int32)).toNatClampNeg)) 68) ∧ (∀ y5_49 : Int32, y5_49 = h 73 (((4 : Int32) * x1) + (h 68 (y4_29 + (1 : Int32)).toNatClampNeg)).toNatClampNeg → ((vp_in (y4_29 + (2 : Int32)) 36) ∧ (∀ y6_60 : Int32, y6_60 = h 68 (y4_29 + (2 : Int32)).toNatClampNeg → ((vp_in y4_29 36) ∧ ((¬ (h 68 y4_29.toNatClampNeg) = (2 : Int32) → (mm_W Γ smM_M_isMadeOver (mm_pI post) 80 [some (.ref (mm_B Γ + 64)), some (.int x1), some (.int x2), some (.int x3), some (.int y4_29), some (.int y5_49), some (.int y6_60)] [] h)) ∧ ((h 68 y4_29.toNatClampNeg) = (2 : Int32) → ((¬ y5_49 = 0 → (mm_W Γ smM_M_isMadeOver (mm_pI post) 80 [some (.ref (mm_B Γ + 64)), some (.int x1), some (.int x2), some (.int x3), some (.int y4_29), some (.int y5_49), some (.int y6_60)] [] h)) ∧ (y5_49 = 0 → (post (0 : Int32) h))))))))))))))) : mm_W Γ smM_M_isMadeOver (mm_pI post) 9 [some (.ref (mm_B Γ + 64)), some (.int x1), some (.int x2), some (.int x3), none, none, none] [] h := by
  refine mm_iload_n (n := 10) (i := 3) smd_M_isMadeOver_9 rfl rfl rfl ?_
  refine mm_aload_n (n := 11) (i := 0) smd_M_isMadeOver_10 rfl rfl rfl ?_
  refine mm_get (n := 14) (v := .ref (mm_B Γ + 67)) smk_M_16 smb_M rfl smd_M_isMadeOver_11 rfl ?_
  refine mm_iconst (n := 15) (v := 3) smd_M_isMadeOver_14 rfl (by decide) ?_
  refine mm_iload_n (n := 16) (i := 2) smd_M_isMadeOver_15 rfl rfl rfl ?_
  refine mm_iadd (n := 17) smd_M_isMadeOver_16 rfl ?_
  refine mm_iald (n := 18) sma_67 hT.1 smd_M_isMadeOver_17 rfl ?_
  replace hT := hT.2
  refine mm_icmp_ge (n := 21) (tgt := 135) smd_M_isMadeOver_18 rfl rfl (fun hc => ?_) (fun hc => ?_)
  · replace hT := hT.1 hc
    refine mm_iconst (n := 136) (v := 1) smd_M_isMadeOver_135 rfl (by decide) ?_
    exact mm_zret rfl (Or.inr rfl) smd_M_isMadeOver_136 ⟨_, rfl, hT⟩
  · replace hT := hT.2 hc
    refine mm_bipush (n := 23) (v := 12) smd_M_isMadeOver_21 rfl (by decide) ?_
    refine mm_iload_n (n := 24) (i := 2) smd_M_isMadeOver_23 rfl rfl rfl ?_
    refine mm_imul (n := 25) smd_M_isMadeOver_24 rfl ?_
    refine mm_iconst (n := 26) (v := 3) smd_M_isMadeOver_25 rfl (by decide) ?_
    refine mm_iload_n (n := 27) (i := 3) smd_M_isMadeOver_26 rfl rfl rfl ?_
    refine mm_imul (n := 28) smd_M_isMadeOver_27 rfl ?_
    refine mm_iadd (n := 29) smd_M_isMadeOver_28 rfl ?_
    refine mm_top (fun y4_29 e_y4_29 => ?_)
    replace hT := hT y4_29 e_y4_29
    refine mm_istore (n := 31) (i := 4) (L' := [some (.ref (mm_B Γ + 64)), some (.int x1), some (.int x2), some (.int x3), some (.int y4_29), none, none]) smd_M_isMadeOver_29 rfl (by decide) rfl ?_
    refine mm_aload_n (n := 32) (i := 0) smd_M_isMadeOver_31 rfl rfl rfl ?_
    refine mm_get (n := 35) (v := .ref (mm_B Γ + 73)) smk_M_35 smb_M rfl smd_M_isMadeOver_32 rfl ?_
    refine mm_iconst (n := 36) (v := 4) smd_M_isMadeOver_35 rfl (by decide) ?_
    refine mm_iload_n (n := 37) (i := 1) smd_M_isMadeOver_36 rfl rfl rfl ?_
    refine mm_imul (n := 38) smd_M_isMadeOver_37 rfl ?_
    refine mm_aload_n (n := 39) (i := 0) smd_M_isMadeOver_38 rfl rfl rfl ?_
    refine mm_get (n := 42) (v := .ref (mm_B Γ + 68)) smk_M_19 smb_M rfl smd_M_isMadeOver_39 rfl ?_
    refine mm_iload (n := 44) (i := 4) smd_M_isMadeOver_42 rfl rfl ?_
    refine mm_iconst (n := 45) (v := 1) smd_M_isMadeOver_44 rfl (by decide) ?_
    refine mm_iadd (n := 46) smd_M_isMadeOver_45 rfl ?_
    refine mm_iald (n := 47) sma_68 hT.1 smd_M_isMadeOver_46 rfl ?_
    replace hT := hT.2
    refine mm_iadd (n := 48) smd_M_isMadeOver_47 rfl ?_
    refine mm_iald (n := 49) sma_73 hT.1 smd_M_isMadeOver_48 rfl ?_
    replace hT := hT.2
    refine mm_top (fun y5_49 e_y5_49 => ?_)
    replace hT := hT y5_49 e_y5_49
    refine mm_istore (n := 51) (i := 5) (L' := [some (.ref (mm_B Γ + 64)), some (.int x1), some (.int x2), some (.int x3), some (.int y4_29), some (.int y5_49), none]) smd_M_isMadeOver_49 rfl (by decide) rfl ?_
    refine mm_aload_n (n := 52) (i := 0) smd_M_isMadeOver_51 rfl rfl rfl ?_
    refine mm_get (n := 55) (v := .ref (mm_B Γ + 68)) smk_M_19 smb_M rfl smd_M_isMadeOver_52 rfl ?_
    refine mm_iload (n := 57) (i := 4) smd_M_isMadeOver_55 rfl rfl ?_
    refine mm_iconst (n := 58) (v := 2) smd_M_isMadeOver_57 rfl (by decide) ?_
    refine mm_iadd (n := 59) smd_M_isMadeOver_58 rfl ?_
    refine mm_iald (n := 60) sma_68 hT.1 smd_M_isMadeOver_59 rfl ?_
    replace hT := hT.2
    refine mm_top (fun y6_60 e_y6_60 => ?_)
    replace hT := hT y6_60 e_y6_60
    refine mm_istore (n := 62) (i := 6) (L' := [some (.ref (mm_B Γ + 64)), some (.int x1), some (.int x2), some (.int x3), some (.int y4_29), some (.int y5_49), some (.int y6_60)]) smd_M_isMadeOver_60 rfl (by decide) rfl ?_
    refine mm_aload_n (n := 63) (i := 0) smd_M_isMadeOver_62 rfl rfl rfl ?_
    refine mm_get (n := 66) (v := .ref (mm_B Γ + 68)) smk_M_19 smb_M rfl smd_M_isMadeOver_63 rfl ?_
    refine mm_iload (n := 68) (i := 4) smd_M_isMadeOver_66 rfl rfl ?_
    refine mm_iald (n := 69) sma_68 hT.1 smd_M_isMadeOver_68 rfl ?_
    replace hT := hT.2
    refine mm_iconst (n := 70) (v := 2) smd_M_isMadeOver_69 rfl (by decide) ?_
    refine mm_icmp_ne (n := 73) (tgt := 80) smd_M_isMadeOver_70 rfl rfl (fun hc => ?_) (fun hc => ?_)
    · replace hT := hT.1 hc
      exact mm_weak (by refine ⟨rfl, rfl, rfl, rfl, rfl, rfl, rfl, trivial⟩) hT
    · replace hT := hT.2 hc
      refine mm_iload (n := 75) (i := 5) smd_M_isMadeOver_73 rfl rfl ?_
      refine mm_if_ne (n := 78) (tgt := 80) smd_M_isMadeOver_75 rfl rfl (fun hc => ?_) (fun hc => ?_)
      · replace hT := hT.1 hc
        exact mm_weak (by refine ⟨rfl, rfl, rfl, rfl, rfl, rfl, rfl, trivial⟩) hT
      · replace hT := hT.2 hc
        refine mm_iconst (n := 79) (v := 0) smd_M_isMadeOver_78 rfl (by decide) ?_
        exact mm_zret rfl (Or.inl rfl) smd_M_isMadeOver_79 ⟨_, rfl, hT⟩
set_option maxHeartbeats 4000000 in
set_option maxRecDepth 100000 in
theorem smr_M_isMadeOver_80 {Γ : mm_Ctx} {post : Int32 → mm_Mem → Prop} {h : mm_Mem} (x1 : Int32) (x2 : Int32) (x3 : Int32) (x4 : Int32) (x5 : Int32) (x6 : Int32) (hT : (vp_in x4 36) ∧ ((¬ (h 68 x4.toNatClampNeg) = 0 → ((vp_in x4 36) ∧ ((¬ (h 68 x4.toNatClampNeg) = (1 : Int32) → ((¬ x5 = 0) ∧ ((vp_in (((4 : Int32) * x1) + x3) 68) ∧ (∀ h128 : mm_Mem, h128 = mm_wr h 72 (((4 : Int32) * x1) + x3).toNatClampNeg (x6 / x5) → (mm_W Γ smM_M_isMadeOver (mm_pI post) 9 [some (.ref (mm_B Γ + 64)), some (.int x1), some (.int x2), some (.int (x3 + (1 : Int32))), none, none, none] [] h128))))) ∧ ((h 68 x4.toNatClampNeg) = (1 : Int32) → ((vp_in (((4 : Int32) * x1) + x3) 68) ∧ (∀ h128 : mm_Mem, h128 = mm_wr h 72 (((4 : Int32) * x1) + x3).toNatClampNeg (x5 + x6) → (mm_W Γ smM_M_isMadeOver (mm_pI post) 9 [some (.ref (mm_B Γ + 64)), some (.int x1), some (.int x2), some (.int (x3 + (1 : Int32))), none, none, none] [] h128))))))) ∧ ((h 68 x4.toNatClampNeg) = 0 → ((vp_in (((4 : Int32) * x1) + x3) 68) ∧ (∀ h128 : mm_Mem, h128 = mm_wr h 72 (((4 : Int32) * x1) + x3).toNatClampNeg x6 → (mm_W Γ smM_M_isMadeOver (mm_pI post) 9 [some (.ref (mm_B Γ + 64)), some (.int x1), some (.int x2), some (.int (x3 + (1 : Int32))), none, none, none] [] h128)))))) : mm_W Γ smM_M_isMadeOver (mm_pI post) 80 [some (.ref (mm_B Γ + 64)), some (.int x1), some (.int x2), some (.int x3), some (.int x4), some (.int x5), some (.int x6)] [] h := by
  refine mm_aload_n (n := 81) (i := 0) smd_M_isMadeOver_80 rfl rfl rfl ?_
  refine mm_get (n := 84) (v := .ref (mm_B Γ + 72)) smk_M_32 smb_M rfl smd_M_isMadeOver_81 rfl ?_
  refine mm_iconst (n := 85) (v := 4) smd_M_isMadeOver_84 rfl (by decide) ?_
  refine mm_iload_n (n := 86) (i := 1) smd_M_isMadeOver_85 rfl rfl rfl ?_
  refine mm_imul (n := 87) smd_M_isMadeOver_86 rfl ?_
  refine mm_iload_n (n := 88) (i := 3) smd_M_isMadeOver_87 rfl rfl rfl ?_
  refine mm_iadd (n := 89) smd_M_isMadeOver_88 rfl ?_
  refine mm_aload_n (n := 90) (i := 0) smd_M_isMadeOver_89 rfl rfl rfl ?_
  refine mm_get (n := 93) (v := .ref (mm_B Γ + 68)) smk_M_19 smb_M rfl smd_M_isMadeOver_90 rfl ?_
  refine mm_iload (n := 95) (i := 4) smd_M_isMadeOver_93 rfl rfl ?_
  refine mm_iald (n := 96) sma_68 hT.1 smd_M_isMadeOver_95 rfl ?_
  replace hT := hT.2
  refine mm_if_ne (n := 99) (tgt := 104) smd_M_isMadeOver_96 rfl rfl (fun hc => ?_) (fun hc => ?_)
  · replace hT := hT.1 hc
    refine mm_aload_n (n := 105) (i := 0) smd_M_isMadeOver_104 rfl rfl rfl ?_
    refine mm_get (n := 108) (v := .ref (mm_B Γ + 68)) smk_M_19 smb_M rfl smd_M_isMadeOver_105 rfl ?_
    refine mm_iload (n := 110) (i := 4) smd_M_isMadeOver_108 rfl rfl ?_
    refine mm_iald (n := 111) sma_68 hT.1 smd_M_isMadeOver_110 rfl ?_
    replace hT := hT.2
    refine mm_iconst (n := 112) (v := 1) smd_M_isMadeOver_111 rfl (by decide) ?_
    refine mm_icmp_ne (n := 115) (tgt := 123) smd_M_isMadeOver_112 rfl rfl (fun hc => ?_) (fun hc => ?_)
    · replace hT := hT.1 hc
      refine mm_iload (n := 125) (i := 6) smd_M_isMadeOver_123 rfl rfl ?_
      refine mm_iload (n := 127) (i := 5) smd_M_isMadeOver_125 rfl rfl ?_
      refine mm_idiv (n := 128) smd_M_isMadeOver_127 rfl hT.1 ?_
      replace hT := hT.2
      refine mm_iast (n := 129) sma_72 hT.1 smd_M_isMadeOver_128 rfl ?_
      replace hT := hT.2
      refine mm_nam (fun h128 e_h128 => ?_)
      replace hT := hT h128 e_h128
      refine mm_iinc (n := 132) (i := 3) (d := 1) (L' := [some (.ref (mm_B Γ + 64)), some (.int x1), some (.int x2), some (.int (x3 + (1 : Int32))), some (.int x4), some (.int x5), some (.int x6)]) smd_M_isMadeOver_129 rfl rfl (by decide) (by decide) rfl ?_
      refine mm_goto (n := 9) smd_M_isMadeOver_132 rfl ?_
      exact mm_weak (by refine ⟨rfl, rfl, rfl, rfl, trivial⟩) hT
    · replace hT := hT.2 hc
      refine mm_iload (n := 117) (i := 5) smd_M_isMadeOver_115 rfl rfl ?_
      refine mm_iload (n := 119) (i := 6) smd_M_isMadeOver_117 rfl rfl ?_
      refine mm_iadd (n := 120) smd_M_isMadeOver_119 rfl ?_
      refine mm_goto (n := 128) smd_M_isMadeOver_120 rfl ?_
      refine mm_iast (n := 129) sma_72 hT.1 smd_M_isMadeOver_128 rfl ?_
      replace hT := hT.2
      refine mm_nam (fun h128 e_h128 => ?_)
      replace hT := hT h128 e_h128
      refine mm_iinc (n := 132) (i := 3) (d := 1) (L' := [some (.ref (mm_B Γ + 64)), some (.int x1), some (.int x2), some (.int (x3 + (1 : Int32))), some (.int x4), some (.int x5), some (.int x6)]) smd_M_isMadeOver_129 rfl rfl (by decide) (by decide) rfl ?_
      refine mm_goto (n := 9) smd_M_isMadeOver_132 rfl ?_
      exact mm_weak (by refine ⟨rfl, rfl, rfl, rfl, trivial⟩) hT
  · replace hT := hT.2 hc
    refine mm_iload (n := 101) (i := 6) smd_M_isMadeOver_99 rfl rfl ?_
    refine mm_goto (n := 128) smd_M_isMadeOver_101 rfl ?_
    refine mm_iast (n := 129) sma_72 hT.1 smd_M_isMadeOver_128 rfl ?_
    replace hT := hT.2
    refine mm_nam (fun h128 e_h128 => ?_)
    replace hT := hT h128 e_h128
    refine mm_iinc (n := 132) (i := 3) (d := 1) (L' := [some (.ref (mm_B Γ + 64)), some (.int x1), some (.int x2), some (.int (x3 + (1 : Int32))), some (.int x4), some (.int x5), some (.int x6)]) smd_M_isMadeOver_129 rfl rfl (by decide) (by decide) rfl ?_
    refine mm_goto (n := 9) smd_M_isMadeOver_132 rfl ?_
    exact mm_weak (by refine ⟨rfl, rfl, rfl, rfl, trivial⟩) hT
set_option maxHeartbeats 4000000 in
set_option maxRecDepth 100000 in
theorem smr_M_areMadeOver {Γ : mm_Ctx} {post : Int32 → mm_Mem → Prop} {h : mm_Mem} (x1 : Int32) (hT : mm_W Γ smM_M_areMadeOver (mm_pI post) 2 [some (.ref (mm_B Γ + 64)), some (.int x1), some (.int (0 : Int32)), none, none] [] h) : mm_SI Γ smM_M_areMadeOver [.ref (mm_B Γ + 64), .int x1] h post := by
  refine mm_spec0 (M := smM_M_areMadeOver) 3 (by decide +kernel) rfl (Nat.le_of_ble_eq_true rfl) ?_
  show mm_W Γ smM_M_areMadeOver (mm_pI post) 0 [some (.ref (mm_B Γ + 64)), some (.int x1), none, none, none] [] h
  refine mm_iconst (n := 1) (v := 0) smd_M_areMadeOver_0 rfl (by decide) ?_
  refine mm_istore_n (n := 2) (i := 2) (L' := [some (.ref (mm_B Γ + 64)), some (.int x1), some (.int (0 : Int32)), none, none]) smd_M_areMadeOver_1 rfl rfl (by decide) rfl ?_
  exact mm_weak (by refine ⟨rfl, rfl, rfl, trivial⟩) hT
set_option maxHeartbeats 4000000 in
set_option maxRecDepth 100000 in
theorem smr_M_areMadeOver_2 {Γ : mm_Ctx} {post : Int32 → mm_Mem → Prop} {h : mm_Mem} (x1 : Int32) (x2 : Int32) (hT : ((68 : Int32) ≤ x2 → (mm_W Γ smM_M_areMadeOver (mm_pI post) 33 [some (.ref (mm_B Γ + 64)), none, some (.int x1), some (.int (1 : Int32)), some (.int (1 : Int32))] [] h)) ∧ (¬ (68 : Int32) ≤ x2 → ((vp_in x2 68) ∧ ((vp_in x2 68) ∧ (∀ h19 : mm_Mem, h19 = mm_wr h 73 x2.toNatClampNeg (h 72 x2.toNatClampNeg) → (mm_W Γ smM_M_areMadeOver (mm_pI post) 2 [some (.ref (mm_B Γ + 64)), some (.int x1), some (.int (x2 + (1 : Int32))), none, none] [] h19)))))) : mm_W Γ smM_M_areMadeOver (mm_pI post) 2 [some (.ref (mm_B Γ + 64)), some (.int x1), some (.int x2), none, none] [] h := by
  refine mm_iload_n (n := 3) (i := 2) smd_M_areMadeOver_2 rfl rfl rfl ?_
  refine mm_bipush (n := 5) (v := 68) smd_M_areMadeOver_3 rfl (by decide) ?_
  refine mm_icmp_ge (n := 8) (tgt := 26) smd_M_areMadeOver_5 rfl rfl (fun hc => ?_) (fun hc => ?_)
  · replace hT := hT.1 hc
    refine mm_iload_n (n := 27) (i := 1) smd_M_areMadeOver_26 rfl rfl rfl ?_
    refine mm_istore_n (n := 28) (i := 2) (L' := [some (.ref (mm_B Γ + 64)), some (.int x1), some (.int x1), none, none]) smd_M_areMadeOver_27 rfl rfl (by decide) rfl ?_
    refine mm_iconst (n := 29) (v := 1) smd_M_areMadeOver_28 rfl (by decide) ?_
    refine mm_istore_n (n := 30) (i := 3) (L' := [some (.ref (mm_B Γ + 64)), some (.int x1), some (.int x1), some (.int (1 : Int32)), none]) smd_M_areMadeOver_29 rfl rfl (by decide) rfl ?_
    refine mm_iconst (n := 31) (v := 1) smd_M_areMadeOver_30 rfl (by decide) ?_
    refine mm_istore (n := 33) (i := 4) (L' := [some (.ref (mm_B Γ + 64)), some (.int x1), some (.int x1), some (.int (1 : Int32)), some (.int (1 : Int32))]) smd_M_areMadeOver_31 rfl (by decide) rfl ?_
    exact mm_weak (by refine ⟨rfl, rfl, rfl, rfl, trivial⟩) hT
  · replace hT := hT.2 hc
    refine mm_aload_n (n := 9) (i := 0) smd_M_areMadeOver_8 rfl rfl rfl ?_
    refine mm_get (n := 12) (v := .ref (mm_B Γ + 73)) smk_M_35 smb_M rfl smd_M_areMadeOver_9 rfl ?_
    refine mm_iload_n (n := 13) (i := 2) smd_M_areMadeOver_12 rfl rfl rfl ?_
    refine mm_aload_n (n := 14) (i := 0) smd_M_areMadeOver_13 rfl rfl rfl ?_
    refine mm_get (n := 17) (v := .ref (mm_B Γ + 72)) smk_M_32 smb_M rfl smd_M_areMadeOver_14 rfl ?_
    refine mm_iload_n (n := 18) (i := 2) smd_M_areMadeOver_17 rfl rfl rfl ?_
    refine mm_iald (n := 19) sma_72 hT.1 smd_M_areMadeOver_18 rfl ?_
    replace hT := hT.2
    refine mm_iast (n := 20) sma_73 hT.1 smd_M_areMadeOver_19 rfl ?_
    replace hT := hT.2
    refine mm_nam (fun h19 e_h19 => ?_)
    replace hT := hT h19 e_h19
    refine mm_iinc (n := 23) (i := 2) (d := 1) (L' := [some (.ref (mm_B Γ + 64)), some (.int x1), some (.int (x2 + (1 : Int32))), none, none]) smd_M_areMadeOver_20 rfl rfl (by decide) (by decide) rfl ?_
    refine mm_goto (n := 2) smd_M_areMadeOver_23 rfl ?_
    exact mm_weak (by refine ⟨rfl, rfl, rfl, trivial⟩) hT
set_option maxHeartbeats 4000000 in
set_option maxRecDepth 100000 in
theorem smr_M_areMadeOver_33 {Γ : mm_Ctx} {post : Int32 → mm_Mem → Prop} {h : mm_Mem} (x2 : Int32) (x3 : Int32) (x4 : Int32) (hT : ((17 : Int32) ≤ x4 → (mm_W Γ smM_M_areMadeOver (mm_pI post) 114 [some (.ref (mm_B Γ + 64)), none, none, some (.int x3), some (.int (0 : Int32))] [] h)) ∧ (¬ (17 : Int32) ≤ x4 → ((x3 = 0 → (mm_W Γ smM_M_areMadeOver (mm_pI post) 114 [some (.ref (mm_B Γ + 64)), none, none, some (.int x3), some (.int (0 : Int32))] [] h)) ∧ (¬ x3 = 0 → ((vp_in x4 17) ∧ (((h 71 x4.toNatClampNeg) < 0 → (mm_W Γ smM_M_areMadeOver (mm_pI post) 33 [some (.ref (mm_B Γ + 64)), none, some (.int x2), some (.int x3), some (.int (x4 + (1 : Int32)))] [] h)) ∧ (¬ (h 71 x4.toNatClampNeg) < 0 → ((vp_in x4 17) ∧ ((vp_in (h 71 x4.toNatClampNeg) 3) ∧ (((h 69 (h 71 x4.toNatClampNeg).toNatClampNeg) = 0 → (mm_W Γ smM_M_areMadeOver (mm_pI post) 33 [some (.ref (mm_B Γ + 64)), none, some (.int x2), some (.int x3), some (.int (x4 + (1 : Int32)))] [] h)) ∧ (¬ (h 69 (h 71 x4.toNatClampNeg).toNatClampNeg) = 0 → ((vp_in x4 17) ∧ ((vp_in ((3 : Int32) + (h 71 x4.toNatClampNeg)) 6) ∧ (∀ y2_85 : Int32, y2_85 = x2 - (h 67 ((3 : Int32) + (h 71 x4.toNatClampNeg)).toNatClampNeg) → ((y2_85 < 0 → (mm_W Γ smM_M_areMadeOver (mm_pI post) 33 [some (.ref (mm_B Γ + 64)), none, some (.int y2_85), some (.int (0 : Int32)), some (.int (x4 + (1 : Int32)))] [] h)) ∧ (¬ y2_85 < 0 → (mm_SI Γ smM_M_isMadeOver [.ref (mm_B Γ + 64), .int x4] h (fun r93 h93 => (r93 = 0 → (mm_W Γ smM_M_areMadeOver (mm_pI post) 33 [some (.ref (mm_B Γ + 64)), none, some (.int y2_85), some (.int (0 : Int32)), some (.int (x4 + (1 : Int32)))] [] h93)) ∧ (¬ r93 = 0 → (mm_W Γ smM_M_areMadeOver (mm_pI post) 33 [some (.ref (mm_B Γ + 64)), none, some (.int y2_85), some (.int (1 : Int32)), some (.int (x4 + (1 : Int32)))] [] h93)))))))))))))))))))) : mm_W Γ smM_M_areMadeOver (mm_pI post) 33 [some (.ref (mm_B Γ + 64)), none, some (.int x2), some (.int x3), some (.int x4)] [] h := by
  refine mm_iload (n := 35) (i := 4) smd_M_areMadeOver_33 rfl rfl ?_
  refine mm_bipush (n := 37) (v := 17) smd_M_areMadeOver_35 rfl (by decide) ?_
  refine mm_icmp_ge (n := 40) (tgt := 111) smd_M_areMadeOver_37 rfl rfl (fun hc => ?_) (fun hc => ?_)
  · replace hT := hT.1 hc
    refine mm_iconst (n := 112) (v := 0) smd_M_areMadeOver_111 rfl (by decide) ?_
    refine mm_istore (n := 114) (i := 4) (L' := [some (.ref (mm_B Γ + 64)), none, some (.int x2), some (.int x3), some (.int (0 : Int32))]) smd_M_areMadeOver_112 rfl (by decide) rfl ?_
    exact mm_weak (by refine ⟨rfl, rfl, rfl, trivial⟩) hT
  · replace hT := hT.2 hc
    refine mm_iload_n (n := 41) (i := 3) smd_M_areMadeOver_40 rfl rfl rfl ?_
    refine mm_if_eq (n := 44) (tgt := 111) smd_M_areMadeOver_41 rfl rfl (fun hc => ?_) (fun hc => ?_)
    · replace hT := hT.1 hc
      refine mm_iconst (n := 112) (v := 0) smd_M_areMadeOver_111 rfl (by decide) ?_
      refine mm_istore (n := 114) (i := 4) (L' := [some (.ref (mm_B Γ + 64)), none, some (.int x2), some (.int x3), some (.int (0 : Int32))]) smd_M_areMadeOver_112 rfl (by decide) rfl ?_
      exact mm_weak (by refine ⟨rfl, rfl, rfl, trivial⟩) hT
    · replace hT := hT.2 hc
      refine mm_aload_n (n := 45) (i := 0) smd_M_areMadeOver_44 rfl rfl rfl ?_
      refine mm_get (n := 48) (v := .ref (mm_B Γ + 71)) smk_M_29 smb_M rfl smd_M_areMadeOver_45 rfl ?_
      refine mm_iload (n := 50) (i := 4) smd_M_areMadeOver_48 rfl rfl ?_
      refine mm_iald (n := 51) sma_71 hT.1 smd_M_areMadeOver_50 rfl ?_
      replace hT := hT.2
      refine mm_if_lt (n := 54) (tgt := 105) smd_M_areMadeOver_51 rfl rfl (fun hc => ?_) (fun hc => ?_)
      · replace hT := hT.1 hc
        refine mm_iinc (n := 108) (i := 4) (d := 1) (L' := [some (.ref (mm_B Γ + 64)), none, some (.int x2), some (.int x3), some (.int (x4 + (1 : Int32)))]) smd_M_areMadeOver_105 rfl rfl (by decide) (by decide) rfl ?_
        refine mm_goto (n := 33) smd_M_areMadeOver_108 rfl ?_
        exact mm_weak (by refine ⟨rfl, rfl, rfl, rfl, trivial⟩) hT
      · replace hT := hT.2 hc
        refine mm_aload_n (n := 55) (i := 0) smd_M_areMadeOver_54 rfl rfl rfl ?_
        refine mm_get (n := 58) (v := .ref (mm_B Γ + 69)) smk_M_22 smb_M rfl smd_M_areMadeOver_55 rfl ?_
        refine mm_aload_n (n := 59) (i := 0) smd_M_areMadeOver_58 rfl rfl rfl ?_
        refine mm_get (n := 62) (v := .ref (mm_B Γ + 71)) smk_M_29 smb_M rfl smd_M_areMadeOver_59 rfl ?_
        refine mm_iload (n := 64) (i := 4) smd_M_areMadeOver_62 rfl rfl ?_
        refine mm_iald (n := 65) sma_71 hT.1 smd_M_areMadeOver_64 rfl ?_
        replace hT := hT.2
        refine mm_zald (n := 66) sma_69 hT.1 smd_M_areMadeOver_65 rfl ?_
        replace hT := hT.2
        refine mm_if_eq (n := 69) (tgt := 105) smd_M_areMadeOver_66 rfl rfl (fun hc => ?_) (fun hc => ?_)
        · replace hT := hT.1 hc
          refine mm_iinc (n := 108) (i := 4) (d := 1) (L' := [some (.ref (mm_B Γ + 64)), none, some (.int x2), some (.int x3), some (.int (x4 + (1 : Int32)))]) smd_M_areMadeOver_105 rfl rfl (by decide) (by decide) rfl ?_
          refine mm_goto (n := 33) smd_M_areMadeOver_108 rfl ?_
          exact mm_weak (by refine ⟨rfl, rfl, rfl, rfl, trivial⟩) hT
        · replace hT := hT.2 hc
          refine mm_iload_n (n := 70) (i := 2) smd_M_areMadeOver_69 rfl rfl rfl ?_
          refine mm_aload_n (n := 71) (i := 0) smd_M_areMadeOver_70 rfl rfl rfl ?_
          refine mm_get (n := 74) (v := .ref (mm_B Γ + 67)) smk_M_16 smb_M rfl smd_M_areMadeOver_71 rfl ?_
          refine mm_iconst (n := 75) (v := 3) smd_M_areMadeOver_74 rfl (by decide) ?_
          refine mm_aload_n (n := 76) (i := 0) smd_M_areMadeOver_75 rfl rfl rfl ?_
          refine mm_get (n := 79) (v := .ref (mm_B Γ + 71)) smk_M_29 smb_M rfl smd_M_areMadeOver_76 rfl ?_
          refine mm_iload (n := 81) (i := 4) smd_M_areMadeOver_79 rfl rfl ?_
          refine mm_iald (n := 82) sma_71 hT.1 smd_M_areMadeOver_81 rfl ?_
          replace hT := hT.2
          refine mm_iadd (n := 83) smd_M_areMadeOver_82 rfl ?_
          refine mm_iald (n := 84) sma_67 hT.1 smd_M_areMadeOver_83 rfl ?_
          replace hT := hT.2
          refine mm_isub (n := 85) smd_M_areMadeOver_84 rfl ?_
          refine mm_top (fun y2_85 e_y2_85 => ?_)
          replace hT := hT y2_85 e_y2_85
          refine mm_istore_n (n := 86) (i := 2) (L' := [some (.ref (mm_B Γ + 64)), none, some (.int y2_85), some (.int x3), some (.int x4)]) smd_M_areMadeOver_85 rfl rfl (by decide) rfl ?_
          refine mm_iload_n (n := 87) (i := 2) smd_M_areMadeOver_86 rfl rfl rfl ?_
          refine mm_if_lt (n := 90) (tgt := 103) smd_M_areMadeOver_87 rfl rfl (fun hc => ?_) (fun hc => ?_)
          · replace hT := hT.1 hc
            refine mm_iconst (n := 104) (v := 0) smd_M_areMadeOver_103 rfl (by decide) ?_
            refine mm_istore_n (n := 105) (i := 3) (L' := [some (.ref (mm_B Γ + 64)), none, some (.int y2_85), some (.int (0 : Int32)), some (.int x4)]) smd_M_areMadeOver_104 rfl rfl (by decide) rfl ?_
            refine mm_iinc (n := 108) (i := 4) (d := 1) (L' := [some (.ref (mm_B Γ + 64)), none, some (.int y2_85), some (.int (0 : Int32)), some (.int (x4 + (1 : Int32)))]) smd_M_areMadeOver_105 rfl rfl (by decide) (by decide) rfl ?_
            refine mm_goto (n := 33) smd_M_areMadeOver_108 rfl ?_
            exact mm_weak (by refine ⟨rfl, rfl, rfl, rfl, trivial⟩) hT
          · replace hT := hT.2 hc
            refine mm_aload_n (n := 91) (i := 0) smd_M_areMadeOver_90 rfl rfl rfl ?_
            refine mm_iload (n := 93) (i := 4) smd_M_areMadeOver_91 rfl rfl ?_
            refine mm_callVI (n := 96) (As := [.int x4]) (rest := []) smv_M_isMadeOver smw_705 smb_M (mm_hRm (by decide) (by decide)) smd_M_areMadeOver_93 rfl rfl (Nat.le_of_ble_eq_true rfl) hT (fun r93 h93 hT => ?_)
            refine mm_if_eq (n := 99) (tgt := 103) smd_M_areMadeOver_96 rfl rfl (fun hc => ?_) (fun hc => ?_)
            · replace hT := hT.1 hc
              refine mm_iconst (n := 104) (v := 0) smd_M_areMadeOver_103 rfl (by decide) ?_
              refine mm_istore_n (n := 105) (i := 3) (L' := [some (.ref (mm_B Γ + 64)), none, some (.int y2_85), some (.int (0 : Int32)), some (.int x4)]) smd_M_areMadeOver_104 rfl rfl (by decide) rfl ?_
              refine mm_iinc (n := 108) (i := 4) (d := 1) (L' := [some (.ref (mm_B Γ + 64)), none, some (.int y2_85), some (.int (0 : Int32)), some (.int (x4 + (1 : Int32)))]) smd_M_areMadeOver_105 rfl rfl (by decide) (by decide) rfl ?_
              refine mm_goto (n := 33) smd_M_areMadeOver_108 rfl ?_
              exact mm_weak (by refine ⟨rfl, rfl, rfl, rfl, trivial⟩) hT
            · replace hT := hT.2 hc
              refine mm_iconst (n := 100) (v := 1) smd_M_areMadeOver_99 rfl (by decide) ?_
              refine mm_goto (n := 104) smd_M_areMadeOver_100 rfl ?_
              refine mm_istore_n (n := 105) (i := 3) (L' := [some (.ref (mm_B Γ + 64)), none, some (.int y2_85), some (.int (1 : Int32)), some (.int x4)]) smd_M_areMadeOver_104 rfl rfl (by decide) rfl ?_
              refine mm_iinc (n := 108) (i := 4) (d := 1) (L' := [some (.ref (mm_B Γ + 64)), none, some (.int y2_85), some (.int (1 : Int32)), some (.int (x4 + (1 : Int32)))]) smd_M_areMadeOver_105 rfl rfl (by decide) (by decide) rfl ?_
              refine mm_goto (n := 33) smd_M_areMadeOver_108 rfl ?_
              exact mm_weak (by refine ⟨rfl, rfl, rfl, rfl, trivial⟩) hT
set_option maxHeartbeats 4000000 in
set_option maxRecDepth 100000 in
theorem smr_M_areMadeOver_114 {Γ : mm_Ctx} {post : Int32 → mm_Mem → Prop} {h : mm_Mem} (x3 : Int32) (x4 : Int32) (hT : ((68 : Int32) ≤ x4 → ((x3 = 0 ∨ x3 = 1) ∧ post x3 h)) ∧ (¬ (68 : Int32) ≤ x4 → ((¬ x3 = 0 → ((x3 = 0 ∨ x3 = 1) ∧ post x3 h)) ∧ (x3 = 0 → ((vp_in x4 68) ∧ ((vp_in x4 68) ∧ (∀ h138 : mm_Mem, h138 = mm_wr h 72 x4.toNatClampNeg (h 73 x4.toNatClampNeg) → (mm_W Γ smM_M_areMadeOver (mm_pI post) 114 [some (.ref (mm_B Γ + 64)), none, none, some (.int x3), some (.int (x4 + (1 : Int32)))] [] h138)))))))) : mm_W Γ smM_M_areMadeOver (mm_pI post) 114 [some (.ref (mm_B Γ + 64)), none, none, some (.int x3), some (.int x4)] [] h := by
  refine mm_iload (n := 116) (i := 4) smd_M_areMadeOver_114 rfl rfl ?_
  refine mm_bipush (n := 118) (v := 68) smd_M_areMadeOver_116 rfl (by decide) ?_
  refine mm_icmp_ge (n := 121) (tgt := 145) smd_M_areMadeOver_118 rfl rfl (fun hc => ?_) (fun hc => ?_)
  · replace hT := hT.1 hc
    refine mm_iload_n (n := 146) (i := 3) smd_M_areMadeOver_145 rfl rfl rfl ?_
    exact mm_zret rfl hT.1 smd_M_areMadeOver_146 ⟨_, rfl, hT.2⟩
  · replace hT := hT.2 hc
    refine mm_iload_n (n := 122) (i := 3) smd_M_areMadeOver_121 rfl rfl rfl ?_
    refine mm_if_ne (n := 125) (tgt := 145) smd_M_areMadeOver_122 rfl rfl (fun hc => ?_) (fun hc => ?_)
    · replace hT := hT.1 hc
      refine mm_iload_n (n := 146) (i := 3) smd_M_areMadeOver_145 rfl rfl rfl ?_
      exact mm_zret rfl hT.1 smd_M_areMadeOver_146 ⟨_, rfl, hT.2⟩
    · replace hT := hT.2 hc
      refine mm_aload_n (n := 126) (i := 0) smd_M_areMadeOver_125 rfl rfl rfl ?_
      refine mm_get (n := 129) (v := .ref (mm_B Γ + 72)) smk_M_32 smb_M rfl smd_M_areMadeOver_126 rfl ?_
      refine mm_iload (n := 131) (i := 4) smd_M_areMadeOver_129 rfl rfl ?_
      refine mm_aload_n (n := 132) (i := 0) smd_M_areMadeOver_131 rfl rfl rfl ?_
      refine mm_get (n := 135) (v := .ref (mm_B Γ + 73)) smk_M_35 smb_M rfl smd_M_areMadeOver_132 rfl ?_
      refine mm_iload (n := 137) (i := 4) smd_M_areMadeOver_135 rfl rfl ?_
      refine mm_iald (n := 138) sma_73 hT.1 smd_M_areMadeOver_137 rfl ?_
      replace hT := hT.2
      refine mm_iast (n := 139) sma_72 hT.1 smd_M_areMadeOver_138 rfl ?_
      replace hT := hT.2
      refine mm_nam (fun h138 e_h138 => ?_)
      replace hT := hT h138 e_h138
      refine mm_iinc (n := 142) (i := 4) (d := 1) (L' := [some (.ref (mm_B Γ + 64)), none, none, some (.int x3), some (.int (x4 + (1 : Int32)))]) smd_M_areMadeOver_139 rfl rfl (by decide) (by decide) rfl ?_
      refine mm_goto (n := 114) smd_M_areMadeOver_142 rfl ?_
      exact mm_weak (by refine ⟨rfl, rfl, rfl, trivial⟩) hT
set_option maxHeartbeats 4000000 in
set_option maxRecDepth 100000 in
theorem smr_M_moveFrames {Γ : mm_Ctx} {post : mm_Mem → Prop} {h : mm_Mem}  (hT : mm_W Γ smM_M_moveFrames (mm_pV post) 2 [some (.ref (mm_B Γ + 64)), some (.int (1 : Int32)), none, none, none] [] h) : mm_SV Γ smM_M_moveFrames [.ref (mm_B Γ + 64)] h post := by
  refine mm_spec0 (M := smM_M_moveFrames) 4 (by decide +kernel) rfl (Nat.le_of_ble_eq_true rfl) ?_
  show mm_W Γ smM_M_moveFrames (mm_pV post) 0 [some (.ref (mm_B Γ + 64)), none, none, none, none] [] h
  refine mm_iconst (n := 1) (v := 1) smd_M_moveFrames_0 rfl (by decide) ?_
  refine mm_istore_n (n := 2) (i := 1) (L' := [some (.ref (mm_B Γ + 64)), some (.int (1 : Int32)), none, none, none]) smd_M_moveFrames_1 rfl rfl (by decide) rfl ?_
  exact mm_weak (by refine ⟨rfl, rfl, trivial⟩) hT
set_option maxHeartbeats 4000000 in
set_option maxRecDepth 100000 in
theorem smr_M_moveFrames_2 {Γ : mm_Ctx} {post : mm_Mem → Prop} {h : mm_Mem} (x1 : Int32) (hT : ((h 64 12) < x1 → (post h)) ∧ (¬ (h 64 12) < x1 → (mm_W Γ smM_M_moveFrames (mm_pV post) 12 [some (.ref (mm_B Γ + 64)), some (.int x1), some (.int (0 : Int32)), none, none] [] h))) : mm_W Γ smM_M_moveFrames (mm_pV post) 2 [some (.ref (mm_B Γ + 64)), some (.int x1), none, none, none] [] h := by
  refine mm_iload_n (n := 3) (i := 1) smd_M_moveFrames_2 rfl rfl rfl ?_
  refine mm_aload_n (n := 4) (i := 0) smd_M_moveFrames_3 rfl rfl rfl ?_
  refine mm_get (n := 7) (v := .int (h 64 12)) smk_M_103 smb_M rfl smd_M_moveFrames_4 rfl ?_
  refine mm_icmp_gt (n := 10) (tgt := 94) smd_M_moveFrames_7 rfl rfl (fun hc => ?_) (fun hc => ?_)
  · replace hT := hT.1 hc
    exact mm_vret rfl smd_M_moveFrames_94 ⟨rfl, hT⟩
  · replace hT := hT.2 hc
    refine mm_iconst (n := 11) (v := 0) smd_M_moveFrames_10 rfl (by decide) ?_
    refine mm_istore_n (n := 12) (i := 2) (L' := [some (.ref (mm_B Γ + 64)), some (.int x1), some (.int (0 : Int32)), none, none]) smd_M_moveFrames_11 rfl rfl (by decide) rfl ?_
    exact mm_weak (by refine ⟨rfl, rfl, rfl, trivial⟩) hT
set_option maxHeartbeats 4000000 in
set_option maxRecDepth 100000 in
theorem smr_M_moveFrames_12 {Γ : mm_Ctx} {post : mm_Mem → Prop} {h : mm_Mem} (x1 : Int32) (x2 : Int32) (hT : (vp_in x1 7) ∧ (((h 77 x1.toNatClampNeg) ≤ x2 → (mm_W Γ smM_M_moveFrames (mm_pV post) 2 [some (.ref (mm_B Γ + 64)), some (.int (x1 + (1 : Int32))), none, none, none] [] h)) ∧ (¬ (h 77 x1.toNatClampNeg) ≤ x2 → (mm_SI Γ smM_M_frameAt [.int x1, .int x2] h (fun r24 h24 => (vp_in r24 252) ∧ (∀ y4_34 : Int32, y4_34 = h24 78 r24.toNatClampNeg → (mm_SI Γ smM_M_isChanged [.ref (mm_B Γ + 64), .int y4_34] h24 (fun r39 h39 => (r39 = 0 → (mm_W Γ smM_M_moveFrames (mm_pV post) 12 [some (.ref (mm_B Γ + 64)), some (.int x1), some (.int (x2 + (1 : Int32))), none, none] [] h39)) ∧ (¬ r39 = 0 → ((vp_in (r24 + (1 : Int32)) 252) ∧ ((vp_in ((((48 : Int32) * y4_34) + ((4 : Int32) * (h39 78 (r24 + (1 : Int32)).toNatClampNeg))) + (1 : Int32)) 576) ∧ (mm_SI Γ smM_M_pointOf [.ref (mm_B Γ + 64), .int y4_34, .int (h39 65 ((((48 : Int32) * y4_34) + ((4 : Int32) * (h39 78 (r24 + (1 : Int32)).toNatClampNeg))) + (1 : Int32)).toNatClampNeg)] h39 (fun r78 h78 => (vp_in (r24 + (1 : Int32)) 252) ∧ (∀ h81 : mm_Mem, h81 = mm_wr h78 78 (r24 + (1 : Int32)).toNatClampNeg r78 → (mm_W Γ smM_M_moveFrames (mm_pV post) 12 [some (.ref (mm_B Γ + 64)), some (.int x1), some (.int (x2 + (1 : Int32))), none, none] [] h81))))))))))))))) : mm_W Γ smM_M_moveFrames (mm_pV post) 12 [some (.ref (mm_B Γ + 64)), some (.int x1), some (.int x2), none, none] [] h := by
  refine mm_iload_n (n := 13) (i := 2) smd_M_moveFrames_12 rfl rfl rfl ?_
  refine mm_aload_n (n := 14) (i := 0) smd_M_moveFrames_13 rfl rfl rfl ?_
  refine mm_get (n := 17) (v := .ref (mm_B Γ + 77)) smk_M_47 smb_M rfl smd_M_moveFrames_14 rfl ?_
  refine mm_iload_n (n := 18) (i := 1) smd_M_moveFrames_17 rfl rfl rfl ?_
  refine mm_iald (n := 19) sma_77 hT.1 smd_M_moveFrames_18 rfl ?_
  replace hT := hT.2
  refine mm_icmp_ge (n := 22) (tgt := 88) smd_M_moveFrames_19 rfl rfl (fun hc => ?_) (fun hc => ?_)
  · replace hT := hT.1 hc
    refine mm_iinc (n := 91) (i := 1) (d := 1) (L' := [some (.ref (mm_B Γ + 64)), some (.int (x1 + (1 : Int32))), some (.int x2), none, none]) smd_M_moveFrames_88 rfl rfl (by decide) (by decide) rfl ?_
    refine mm_goto (n := 2) smd_M_moveFrames_91 rfl ?_
    exact mm_weak (by refine ⟨rfl, rfl, trivial⟩) hT
  · replace hT := hT.2 hc
    refine mm_iload_n (n := 23) (i := 1) smd_M_moveFrames_22 rfl rfl rfl ?_
    refine mm_iload_n (n := 24) (i := 2) smd_M_moveFrames_23 rfl rfl rfl ?_
    refine mm_callSI (n := 27) (As := [.int x1, .int x2]) (rest := []) smv_M_frameAt smw_657 (mm_hRm (by decide) (by decide)) smd_M_moveFrames_24 rfl rfl (Nat.le_of_ble_eq_true rfl) hT (fun r24 h24 hT => ?_)
    refine mm_istore_n (n := 28) (i := 3) (L' := [some (.ref (mm_B Γ + 64)), some (.int x1), some (.int x2), some (.int r24), none]) smd_M_moveFrames_27 rfl rfl (by decide) rfl ?_
    refine mm_aload_n (n := 29) (i := 0) smd_M_moveFrames_28 rfl rfl rfl ?_
    refine mm_get (n := 32) (v := .ref (mm_B Γ + 78)) smk_M_50 smb_M rfl smd_M_moveFrames_29 rfl ?_
    refine mm_iload_n (n := 33) (i := 3) smd_M_moveFrames_32 rfl rfl rfl ?_
    refine mm_iald (n := 34) sma_78 hT.1 smd_M_moveFrames_33 rfl ?_
    replace hT := hT.2
    refine mm_top (fun y4_34 e_y4_34 => ?_)
    replace hT := hT y4_34 e_y4_34
    refine mm_istore (n := 36) (i := 4) (L' := [some (.ref (mm_B Γ + 64)), some (.int x1), some (.int x2), some (.int r24), some (.int y4_34)]) smd_M_moveFrames_34 rfl (by decide) rfl ?_
    refine mm_aload_n (n := 37) (i := 0) smd_M_moveFrames_36 rfl rfl rfl ?_
    refine mm_iload (n := 39) (i := 4) smd_M_moveFrames_37 rfl rfl ?_
    refine mm_callVI (n := 42) (As := [.int y4_34]) (rest := []) smv_M_isChanged smw_637 smb_M (mm_hRm (by decide) (by decide)) smd_M_moveFrames_39 rfl rfl (Nat.le_of_ble_eq_true rfl) hT (fun r39 h39 hT => ?_)
    refine mm_if_eq (n := 45) (tgt := 82) smd_M_moveFrames_42 rfl rfl (fun hc => ?_) (fun hc => ?_)
    · replace hT := hT.1 hc
      refine mm_iinc (n := 85) (i := 2) (d := 1) (L' := [some (.ref (mm_B Γ + 64)), some (.int x1), some (.int (x2 + (1 : Int32))), some (.int r24), some (.int y4_34)]) smd_M_moveFrames_82 rfl rfl (by decide) (by decide) rfl ?_
      refine mm_goto (n := 12) smd_M_moveFrames_85 rfl ?_
      exact mm_weak (by refine ⟨rfl, rfl, rfl, trivial⟩) hT
    · replace hT := hT.2 hc
      refine mm_aload_n (n := 46) (i := 0) smd_M_moveFrames_45 rfl rfl rfl ?_
      refine mm_get (n := 49) (v := .ref (mm_B Γ + 78)) smk_M_50 smb_M rfl smd_M_moveFrames_46 rfl ?_
      refine mm_iload_n (n := 50) (i := 3) smd_M_moveFrames_49 rfl rfl rfl ?_
      refine mm_iconst (n := 51) (v := 1) smd_M_moveFrames_50 rfl (by decide) ?_
      refine mm_iadd (n := 52) smd_M_moveFrames_51 rfl ?_
      refine mm_aload_n (n := 53) (i := 0) smd_M_moveFrames_52 rfl rfl rfl ?_
      refine mm_iload (n := 55) (i := 4) smd_M_moveFrames_53 rfl rfl ?_
      refine mm_aload_n (n := 56) (i := 0) smd_M_moveFrames_55 rfl rfl rfl ?_
      refine mm_get (n := 59) (v := .ref (mm_B Γ + 65)) smk_M_7 smb_M rfl smd_M_moveFrames_56 rfl ?_
      refine mm_bipush (n := 61) (v := 48) smd_M_moveFrames_59 rfl (by decide) ?_
      refine mm_iload (n := 63) (i := 4) smd_M_moveFrames_61 rfl rfl ?_
      refine mm_imul (n := 64) smd_M_moveFrames_63 rfl ?_
      refine mm_iconst (n := 65) (v := 4) smd_M_moveFrames_64 rfl (by decide) ?_
      refine mm_aload_n (n := 66) (i := 0) smd_M_moveFrames_65 rfl rfl rfl ?_
      refine mm_get (n := 69) (v := .ref (mm_B Γ + 78)) smk_M_50 smb_M rfl smd_M_moveFrames_66 rfl ?_
      refine mm_iload_n (n := 70) (i := 3) smd_M_moveFrames_69 rfl rfl rfl ?_
      refine mm_iconst (n := 71) (v := 1) smd_M_moveFrames_70 rfl (by decide) ?_
      refine mm_iadd (n := 72) smd_M_moveFrames_71 rfl ?_
      refine mm_iald (n := 73) sma_78 hT.1 smd_M_moveFrames_72 rfl ?_
      replace hT := hT.2
      refine mm_imul (n := 74) smd_M_moveFrames_73 rfl ?_
      refine mm_iadd (n := 75) smd_M_moveFrames_74 rfl ?_
      refine mm_iconst (n := 76) (v := 1) smd_M_moveFrames_75 rfl (by decide) ?_
      refine mm_iadd (n := 77) smd_M_moveFrames_76 rfl ?_
      refine mm_iald (n := 78) sma_65 hT.1 smd_M_moveFrames_77 rfl ?_
      replace hT := hT.2
      refine mm_callVI (n := 81) (As := [.int y4_34, .int (h39 65 ((((48 : Int32) * y4_34) + ((4 : Int32) * (h39 78 (r24 + (1 : Int32)).toNatClampNeg))) + (1 : Int32)).toNatClampNeg)]) (rest := [.int (r24 + (1 : Int32)), .ref (mm_B Γ + 78)]) smv_M_pointOf smw_660 smb_M (mm_hRm (by decide) (by decide)) smd_M_moveFrames_78 rfl rfl (Nat.le_of_ble_eq_true rfl) hT (fun r78 h78 hT => ?_)
      refine mm_iast (n := 82) sma_78 hT.1 smd_M_moveFrames_81 rfl ?_
      replace hT := hT.2
      refine mm_nam (fun h81 e_h81 => ?_)
      replace hT := hT h81 e_h81
      refine mm_iinc (n := 85) (i := 2) (d := 1) (L' := [some (.ref (mm_B Γ + 64)), some (.int x1), some (.int (x2 + (1 : Int32))), some (.int r24), some (.int y4_34)]) smd_M_moveFrames_82 rfl rfl (by decide) (by decide) rfl ?_
      refine mm_goto (n := 12) smd_M_moveFrames_85 rfl ?_
      exact mm_weak (by refine ⟨rfl, rfl, rfl, trivial⟩) hT
set_option maxHeartbeats 4000000 in
set_option maxRecDepth 100000 in
theorem smr_M_attempt {Γ : mm_Ctx} {post : Int32 → mm_Mem → Prop} {h : mm_Mem} (x1 : Int32) (hT : (0 ≤ x1 → ((¬ (h 64 5) = 0 → (mm_SI Γ smM_M_blocker [.ref (mm_B Γ + 64), .int (0 : Int32)] h (fun r17 h17 => (r17 ≤ 0 → (mm_SI Γ smM_M_sweep [.ref (mm_B Γ + 64)] h17 (fun r26 h26 => mm_SI Γ smM_M_areMadeOver [.ref (mm_B Γ + 64), .int x1] h26 (fun r32 h32 => (¬ r32 = 0 → (mm_SV Γ smM_M_moveFrames [.ref (mm_B Γ + 64)] h32 (fun h41 => mm_W Γ smM_M_attempt (mm_pI post) 46 [some (.ref (mm_B Γ + 64)), none, some (.int (0 : Int32))] [] h41))) ∧ (r32 = 0 → (post (2 : Int32) h32)))))) ∧ (¬ r17 ≤ 0 → (post (0 : Int32) h17))))) ∧ ((h 64 5) = 0 → (post (3 : Int32) h)))) ∧ (¬ 0 ≤ x1 → (post (-1 : Int32) h))) : mm_SI Γ smM_M_attempt [.ref (mm_B Γ + 64), .int x1] h post := by
  refine mm_spec0 (M := smM_M_attempt) 1 (by decide +kernel) rfl (Nat.le_of_ble_eq_true rfl) ?_
  show mm_W Γ smM_M_attempt (mm_pI post) 0 [some (.ref (mm_B Γ + 64)), some (.int x1), none] [] h
  refine mm_iload_n (n := 1) (i := 1) smd_M_attempt_0 rfl rfl rfl ?_
  refine mm_if_ge (n := 4) (tgt := 6) smd_M_attempt_1 rfl rfl (fun hc => ?_) (fun hc => ?_)
  · replace hT := hT.1 hc
    refine mm_aload_n (n := 7) (i := 0) smd_M_attempt_6 rfl rfl rfl ?_
    refine mm_get (n := 10) (v := .int (h 64 5)) smk_M_63 smb_M rfl smd_M_attempt_7 rfl ?_
    refine mm_if_ne (n := 13) (tgt := 15) smd_M_attempt_10 rfl rfl (fun hc => ?_) (fun hc => ?_)
    · replace hT := hT.1 hc
      refine mm_aload_n (n := 16) (i := 0) smd_M_attempt_15 rfl rfl rfl ?_
      refine mm_iconst (n := 17) (v := 0) smd_M_attempt_16 rfl (by decide) ?_
      refine mm_callVI (n := 20) (As := [.int (0 : Int32)]) (rest := []) smv_M_blocker smw_700 smb_M (mm_hRm (by decide) (by decide)) smd_M_attempt_17 rfl rfl (Nat.le_of_ble_eq_true rfl) hT (fun r17 h17 hT => ?_)
      refine mm_if_le (n := 23) (tgt := 25) smd_M_attempt_20 rfl rfl (fun hc => ?_) (fun hc => ?_)
      · replace hT := hT.1 hc
        refine mm_aload_n (n := 26) (i := 0) smd_M_attempt_25 rfl rfl rfl ?_
        refine mm_callVI (n := 29) (As := []) (rest := []) smv_M_sweep smw_668 smb_M (mm_hRm (by decide) (by decide)) smd_M_attempt_26 rfl rfl (Nat.le_of_ble_eq_true rfl) hT (fun r26 h26 hT => ?_)
        refine mm_pop (n := 30) smd_M_attempt_29 rfl rfl ?_
        refine mm_aload_n (n := 31) (i := 0) smd_M_attempt_30 rfl rfl rfl ?_
        refine mm_iload_n (n := 32) (i := 1) smd_M_attempt_31 rfl rfl rfl ?_
        refine mm_callVI (n := 35) (As := [.int x1]) (rest := []) smv_M_areMadeOver smw_701 smb_M (mm_hRm (by decide) (by decide)) smd_M_attempt_32 rfl rfl (Nat.le_of_ble_eq_true rfl) hT (fun r32 h32 hT => ?_)
        refine mm_if_ne (n := 38) (tgt := 40) smd_M_attempt_35 rfl rfl (fun hc => ?_) (fun hc => ?_)
        · replace hT := hT.1 hc
          refine mm_aload_n (n := 41) (i := 0) smd_M_attempt_40 rfl rfl rfl ?_
          refine mm_callVV (n := 44) (As := []) (rest := []) smv_M_moveFrames smw_709 smb_M (mm_hRm (by decide) (by decide)) smd_M_attempt_41 rfl rfl (Nat.le_of_ble_eq_true rfl) hT (fun h41 hT => ?_)
          refine mm_iconst (n := 45) (v := 0) smd_M_attempt_44 rfl (by decide) ?_
          refine mm_istore_n (n := 46) (i := 2) (L' := [some (.ref (mm_B Γ + 64)), some (.int x1), some (.int (0 : Int32))]) smd_M_attempt_45 rfl rfl (by decide) rfl ?_
          exact mm_weak (by refine ⟨rfl, rfl, trivial⟩) hT
        · replace hT := hT.2 hc
          refine mm_iconst (n := 39) (v := 2) smd_M_attempt_38 rfl (by decide) ?_
          exact mm_iret rfl smd_M_attempt_39 ⟨_, rfl, hT⟩
      · replace hT := hT.2 hc
        refine mm_iconst (n := 24) (v := 0) smd_M_attempt_23 rfl (by decide) ?_
        exact mm_iret rfl smd_M_attempt_24 ⟨_, rfl, hT⟩
    · replace hT := hT.2 hc
      refine mm_iconst (n := 14) (v := 3) smd_M_attempt_13 rfl (by decide) ?_
      exact mm_iret rfl smd_M_attempt_14 ⟨_, rfl, hT⟩
  · replace hT := hT.2 hc
    refine mm_iconst (n := 5) (v := -1) smd_M_attempt_4 rfl (by decide) ?_
    exact mm_iret rfl smd_M_attempt_5 ⟨_, rfl, hT⟩
set_option maxHeartbeats 4000000 in
set_option maxRecDepth 100000 in
theorem smr_M_attempt_46 {Γ : mm_Ctx} {post : Int32 → mm_Mem → Prop} {h : mm_Mem} (x2 : Int32) (hT : ((288 : Int32) ≤ x2 → (mm_W Γ smM_M_attempt (mm_pI post) 77 [some (.ref (mm_B Γ + 64)), none, some (.int (0 : Int32))] [] h)) ∧ (¬ (288 : Int32) ≤ x2 → ((vp_in ((288 : Int32) + x2) 576) ∧ ((vp_in x2 576) ∧ (∀ h68 : mm_Mem, h68 = mm_wr h 65 x2.toNatClampNeg (h 65 ((288 : Int32) + x2).toNatClampNeg) → (mm_W Γ smM_M_attempt (mm_pI post) 46 [some (.ref (mm_B Γ + 64)), none, some (.int (x2 + (1 : Int32)))] [] h68)))))) : mm_W Γ smM_M_attempt (mm_pI post) 46 [some (.ref (mm_B Γ + 64)), none, some (.int x2)] [] h := by
  refine mm_iload_n (n := 47) (i := 2) smd_M_attempt_46 rfl rfl rfl ?_
  refine mm_sipush (n := 50) (v := 288) smd_M_attempt_47 rfl (by decide) ?_
  refine mm_icmp_ge (n := 53) (tgt := 75) smd_M_attempt_50 rfl rfl (fun hc => ?_) (fun hc => ?_)
  · replace hT := hT.1 hc
    refine mm_iconst (n := 76) (v := 0) smd_M_attempt_75 rfl (by decide) ?_
    refine mm_istore_n (n := 77) (i := 2) (L' := [some (.ref (mm_B Γ + 64)), none, some (.int (0 : Int32))]) smd_M_attempt_76 rfl rfl (by decide) rfl ?_
    exact mm_weak (by refine ⟨rfl, rfl, trivial⟩) hT
  · replace hT := hT.2 hc
    refine mm_aload_n (n := 54) (i := 0) smd_M_attempt_53 rfl rfl rfl ?_
    refine mm_get (n := 57) (v := .ref (mm_B Γ + 65)) smk_M_7 smb_M rfl smd_M_attempt_54 rfl ?_
    refine mm_iload_n (n := 58) (i := 2) smd_M_attempt_57 rfl rfl rfl ?_
    refine mm_aload_n (n := 59) (i := 0) smd_M_attempt_58 rfl rfl rfl ?_
    refine mm_get (n := 62) (v := .ref (mm_B Γ + 65)) smk_M_7 smb_M rfl smd_M_attempt_59 rfl ?_
    refine mm_sipush (n := 65) (v := 288) smd_M_attempt_62 rfl (by decide) ?_
    refine mm_iload_n (n := 66) (i := 2) smd_M_attempt_65 rfl rfl rfl ?_
    refine mm_iadd (n := 67) smd_M_attempt_66 rfl ?_
    refine mm_iald (n := 68) sma_65 hT.1 smd_M_attempt_67 rfl ?_
    replace hT := hT.2
    refine mm_iast (n := 69) sma_65 hT.1 smd_M_attempt_68 rfl ?_
    replace hT := hT.2
    refine mm_nam (fun h68 e_h68 => ?_)
    replace hT := hT h68 e_h68
    refine mm_iinc (n := 72) (i := 2) (d := 1) (L' := [some (.ref (mm_B Γ + 64)), none, some (.int (x2 + (1 : Int32)))]) smd_M_attempt_69 rfl rfl (by decide) (by decide) rfl ?_
    refine mm_goto (n := 46) smd_M_attempt_72 rfl ?_
    exact mm_weak (by refine ⟨rfl, rfl, trivial⟩) hT
set_option maxHeartbeats 4000000 in
set_option maxRecDepth 100000 in
theorem smr_M_attempt_77 {Γ : mm_Ctx} {post : Int32 → mm_Mem → Prop} {h : mm_Mem} (x2 : Int32) (hT : ((6 : Int32) ≤ x2 → (mm_W Γ smM_M_attempt (mm_pI post) 106 [some (.ref (mm_B Γ + 64)), none, some (.int (0 : Int32))] [] h)) ∧ (¬ (6 : Int32) ≤ x2 → ((vp_in ((6 : Int32) + x2) 12) ∧ ((vp_in x2 12) ∧ (∀ h97 : mm_Mem, h97 = mm_wr h 66 x2.toNatClampNeg (h 66 ((6 : Int32) + x2).toNatClampNeg) → (mm_W Γ smM_M_attempt (mm_pI post) 77 [some (.ref (mm_B Γ + 64)), none, some (.int (x2 + (1 : Int32)))] [] h97)))))) : mm_W Γ smM_M_attempt (mm_pI post) 77 [some (.ref (mm_B Γ + 64)), none, some (.int x2)] [] h := by
  refine mm_iload_n (n := 78) (i := 2) smd_M_attempt_77 rfl rfl rfl ?_
  refine mm_bipush (n := 80) (v := 6) smd_M_attempt_78 rfl (by decide) ?_
  refine mm_icmp_ge (n := 83) (tgt := 104) smd_M_attempt_80 rfl rfl (fun hc => ?_) (fun hc => ?_)
  · replace hT := hT.1 hc
    refine mm_iconst (n := 105) (v := 0) smd_M_attempt_104 rfl (by decide) ?_
    refine mm_istore_n (n := 106) (i := 2) (L' := [some (.ref (mm_B Γ + 64)), none, some (.int (0 : Int32))]) smd_M_attempt_105 rfl rfl (by decide) rfl ?_
    exact mm_weak (by refine ⟨rfl, rfl, trivial⟩) hT
  · replace hT := hT.2 hc
    refine mm_aload_n (n := 84) (i := 0) smd_M_attempt_83 rfl rfl rfl ?_
    refine mm_get (n := 87) (v := .ref (mm_B Γ + 66)) smk_M_13 smb_M rfl smd_M_attempt_84 rfl ?_
    refine mm_iload_n (n := 88) (i := 2) smd_M_attempt_87 rfl rfl rfl ?_
    refine mm_aload_n (n := 89) (i := 0) smd_M_attempt_88 rfl rfl rfl ?_
    refine mm_get (n := 92) (v := .ref (mm_B Γ + 66)) smk_M_13 smb_M rfl smd_M_attempt_89 rfl ?_
    refine mm_bipush (n := 94) (v := 6) smd_M_attempt_92 rfl (by decide) ?_
    refine mm_iload_n (n := 95) (i := 2) smd_M_attempt_94 rfl rfl rfl ?_
    refine mm_iadd (n := 96) smd_M_attempt_95 rfl ?_
    refine mm_iald (n := 97) sma_66 hT.1 smd_M_attempt_96 rfl ?_
    replace hT := hT.2
    refine mm_iast (n := 98) sma_66 hT.1 smd_M_attempt_97 rfl ?_
    replace hT := hT.2
    refine mm_nam (fun h97 e_h97 => ?_)
    replace hT := hT h97 e_h97
    refine mm_iinc (n := 101) (i := 2) (d := 1) (L' := [some (.ref (mm_B Γ + 64)), none, some (.int (x2 + (1 : Int32)))]) smd_M_attempt_98 rfl rfl (by decide) (by decide) rfl ?_
    refine mm_goto (n := 77) smd_M_attempt_101 rfl ?_
    exact mm_weak (by refine ⟨rfl, rfl, trivial⟩) hT
set_option maxHeartbeats 4000000 in
set_option maxRecDepth 100000 in
theorem smr_M_attempt_106 {Γ : mm_Ctx} {post : Int32 → mm_Mem → Prop} {h : mm_Mem} (x2 : Int32) (hT : ((3 : Int32) ≤ x2 → (mm_SV Γ smM_M_settle [.ref (mm_B Γ + 64)] h (fun h132 => ∀ h137 : mm_Mem, h137 = mm_wr h132 64 5 (0 : Int32) → (∀ h147 : mm_Mem, h147 = mm_wr h137 64 6 ((h137 64 6) + (1 : Int32)) → (post (1 : Int32) h147))))) ∧ (¬ (3 : Int32) ≤ x2 → ((vp_in ((3 : Int32) + x2) 6) ∧ ((vp_in x2 6) ∧ (∀ h124 : mm_Mem, h124 = mm_wr h 67 x2.toNatClampNeg (h 67 ((3 : Int32) + x2).toNatClampNeg) → (mm_W Γ smM_M_attempt (mm_pI post) 106 [some (.ref (mm_B Γ + 64)), none, some (.int (x2 + (1 : Int32)))] [] h124)))))) : mm_W Γ smM_M_attempt (mm_pI post) 106 [some (.ref (mm_B Γ + 64)), none, some (.int x2)] [] h := by
  refine mm_iload_n (n := 107) (i := 2) smd_M_attempt_106 rfl rfl rfl ?_
  refine mm_iconst (n := 108) (v := 3) smd_M_attempt_107 rfl (by decide) ?_
  refine mm_icmp_ge (n := 111) (tgt := 131) smd_M_attempt_108 rfl rfl (fun hc => ?_) (fun hc => ?_)
  · replace hT := hT.1 hc
    refine mm_aload_n (n := 132) (i := 0) smd_M_attempt_131 rfl rfl rfl ?_
    refine mm_callVV (n := 135) (As := []) (rest := []) smv_M_settle smw_610 smb_M (mm_hRm (by decide) (by decide)) smd_M_attempt_132 rfl rfl (Nat.le_of_ble_eq_true rfl) hT (fun h132 hT => ?_)
    refine mm_aload_n (n := 136) (i := 0) smd_M_attempt_135 rfl rfl rfl ?_
    refine mm_iconst (n := 137) (v := 0) smd_M_attempt_136 rfl (by decide) ?_
    refine mm_put (n := 140) smk_M_63 smp_M_5 smb_M rfl (Nat.le_of_ble_eq_true rfl) rfl rfl smd_M_attempt_137 rfl ?_
    refine mm_nam (fun h137 e_h137 => ?_)
    replace hT := hT h137 e_h137
    refine mm_aload_n (n := 141) (i := 0) smd_M_attempt_140 rfl rfl rfl ?_
    refine mm_dup (n := 142) smd_M_attempt_141 rfl rfl ?_
    refine mm_get (n := 145) (v := .int (h137 64 6)) smk_M_139 smb_M rfl smd_M_attempt_142 rfl ?_
    refine mm_iconst (n := 146) (v := 1) smd_M_attempt_145 rfl (by decide) ?_
    refine mm_iadd (n := 147) smd_M_attempt_146 rfl ?_
    refine mm_put (n := 150) smk_M_139 smp_M_6 smb_M rfl (Nat.le_of_ble_eq_true rfl) rfl rfl smd_M_attempt_147 rfl ?_
    refine mm_nam (fun h147 e_h147 => ?_)
    replace hT := hT h147 e_h147
    refine mm_iconst (n := 151) (v := 1) smd_M_attempt_150 rfl (by decide) ?_
    exact mm_iret rfl smd_M_attempt_151 ⟨_, rfl, hT⟩
  · replace hT := hT.2 hc
    refine mm_aload_n (n := 112) (i := 0) smd_M_attempt_111 rfl rfl rfl ?_
    refine mm_get (n := 115) (v := .ref (mm_B Γ + 67)) smk_M_16 smb_M rfl smd_M_attempt_112 rfl ?_
    refine mm_iload_n (n := 116) (i := 2) smd_M_attempt_115 rfl rfl rfl ?_
    refine mm_aload_n (n := 117) (i := 0) smd_M_attempt_116 rfl rfl rfl ?_
    refine mm_get (n := 120) (v := .ref (mm_B Γ + 67)) smk_M_16 smb_M rfl smd_M_attempt_117 rfl ?_
    refine mm_iconst (n := 121) (v := 3) smd_M_attempt_120 rfl (by decide) ?_
    refine mm_iload_n (n := 122) (i := 2) smd_M_attempt_121 rfl rfl rfl ?_
    refine mm_iadd (n := 123) smd_M_attempt_122 rfl ?_
    refine mm_iald (n := 124) sma_67 hT.1 smd_M_attempt_123 rfl ?_
    replace hT := hT.2
    refine mm_iast (n := 125) sma_67 hT.1 smd_M_attempt_124 rfl ?_
    replace hT := hT.2
    refine mm_nam (fun h124 e_h124 => ?_)
    replace hT := hT h124 e_h124
    refine mm_iinc (n := 128) (i := 2) (d := 1) (L' := [some (.ref (mm_B Γ + 64)), none, some (.int (x2 + (1 : Int32)))]) smd_M_attempt_125 rfl rfl (by decide) (by decide) rfl ?_
    refine mm_goto (n := 106) smd_M_attempt_128 rfl ?_
    exact mm_weak (by refine ⟨rfl, rfl, trivial⟩) hT
set_option maxHeartbeats 4000000 in
set_option maxRecDepth 100000 in
theorem smr_M_version {Γ : mm_Ctx} {post : Int32 → mm_Mem → Prop} {h : mm_Mem}  (hT : post (h 64 6) h) : mm_SI Γ smM_M_version [.ref (mm_B Γ + 64)] h post := by
  refine mm_spec0 (M := smM_M_version) 0 (by decide +kernel) rfl (Nat.le_of_ble_eq_true rfl) ?_
  show mm_W Γ smM_M_version (mm_pI post) 0 [some (.ref (mm_B Γ + 64))] [] h
  refine mm_aload_n (n := 1) (i := 0) smd_M_version_0 rfl rfl rfl ?_
  refine mm_get (n := 4) (v := .int (h 64 6)) smk_M_139 smb_M rfl smd_M_version_1 rfl ?_
  exact mm_iret rfl smd_M_version_4 ⟨_, rfl, hT⟩
set_option maxHeartbeats 4000000 in
set_option maxRecDepth 100000 in
theorem smr_M_isTask {Γ : mm_Ctx} {post : Int32 → mm_Mem → Prop} {h : mm_Mem} (x1 : Int32) (hT : (x1 < (1 : Int32) → (post (0 : Int32) h)) ∧ (¬ x1 < (1 : Int32) → (((h 64 12) < x1 → (post (0 : Int32) h)) ∧ (¬ (h 64 12) < x1 → (post (1 : Int32) h))))) : mm_SI Γ smM_M_isTask [.ref (mm_B Γ + 64), .int x1] h post := by
  refine mm_spec0 (M := smM_M_isTask) 0 (by decide +kernel) rfl (Nat.le_of_ble_eq_true rfl) ?_
  show mm_W Γ smM_M_isTask (mm_pI post) 0 [some (.ref (mm_B Γ + 64)), some (.int x1)] [] h
  refine mm_iload_n (n := 1) (i := 1) smd_M_isTask_0 rfl rfl rfl ?_
  refine mm_iconst (n := 2) (v := 1) smd_M_isTask_1 rfl (by decide) ?_
  refine mm_icmp_lt (n := 5) (tgt := 17) smd_M_isTask_2 rfl rfl (fun hc => ?_) (fun hc => ?_)
  · replace hT := hT.1 hc
    refine mm_iconst (n := 18) (v := 0) smd_M_isTask_17 rfl (by decide) ?_
    exact mm_zret rfl (Or.inl rfl) smd_M_isTask_18 ⟨_, rfl, hT⟩
  · replace hT := hT.2 hc
    refine mm_iload_n (n := 6) (i := 1) smd_M_isTask_5 rfl rfl rfl ?_
    refine mm_aload_n (n := 7) (i := 0) smd_M_isTask_6 rfl rfl rfl ?_
    refine mm_get (n := 10) (v := .int (h 64 12)) smk_M_103 smb_M rfl smd_M_isTask_7 rfl ?_
    refine mm_icmp_gt (n := 13) (tgt := 17) smd_M_isTask_10 rfl rfl (fun hc => ?_) (fun hc => ?_)
    · replace hT := hT.1 hc
      refine mm_iconst (n := 18) (v := 0) smd_M_isTask_17 rfl (by decide) ?_
      exact mm_zret rfl (Or.inl rfl) smd_M_isTask_18 ⟨_, rfl, hT⟩
    · replace hT := hT.2 hc
      refine mm_iconst (n := 14) (v := 1) smd_M_isTask_13 rfl (by decide) ?_
      refine mm_goto (n := 18) smd_M_isTask_14 rfl ?_
      exact mm_zret rfl (Or.inr rfl) smd_M_isTask_18 ⟨_, rfl, hT⟩
set_option maxHeartbeats 4000000 in
set_option maxRecDepth 100000 in
theorem smr_M_push {Γ : mm_Ctx} {post : mm_Mem → Prop} {h : mm_Mem} (x1 : Int32) (x2 : Int32) (x3 : Int32) (x4 : Int32) (hT : (vp_in x1 7) ∧ (mm_SI Γ smM_M_frameAt [.int x1, .int (h 77 x1.toNatClampNeg)] h (fun r7 h7 => (vp_in r7 252) ∧ (∀ h19 : mm_Mem, h19 = mm_wr h7 78 r7.toNatClampNeg x2 → ((vp_in (r7 + (1 : Int32)) 252) ∧ (∀ h29 : mm_Mem, h29 = mm_wr h19 78 (r7 + (1 : Int32)).toNatClampNeg (0 : Int32) → ((vp_in (r7 + (2 : Int32)) 252) ∧ (∀ h39 : mm_Mem, h39 = mm_wr h29 78 (r7 + (2 : Int32)).toNatClampNeg x3 → ((vp_in (r7 + (3 : Int32)) 252) ∧ (∀ h49 : mm_Mem, h49 = mm_wr h39 78 (r7 + (3 : Int32)).toNatClampNeg (0 : Int32) → ((vp_in (r7 + (4 : Int32)) 252) ∧ (∀ h59 : mm_Mem, h59 = mm_wr h49 78 (r7 + (4 : Int32)).toNatClampNeg (0 : Int32) → ((vp_in (r7 + (5 : Int32)) 252) ∧ (∀ h70 : mm_Mem, h70 = mm_wr h59 78 (r7 + (5 : Int32)).toNatClampNeg x4 → ((vp_in x1 7) ∧ ((vp_in x1 7) ∧ (∀ h80 : mm_Mem, h80 = mm_wr h70 77 x1.toNatClampNeg ((h70 77 x1.toNatClampNeg) + (1 : Int32)) → (post h80)))))))))))))))))) : mm_SV Γ smM_M_push [.ref (mm_B Γ + 64), .int x1, .int x2, .int x3, .int x4] h post := by
  refine mm_spec0 (M := smM_M_push) 1 (by decide +kernel) rfl (Nat.le_of_ble_eq_true rfl) ?_
  show mm_W Γ smM_M_push (mm_pV post) 0 [some (.ref (mm_B Γ + 64)), some (.int x1), some (.int x2), some (.int x3), some (.int x4), none] [] h
  refine mm_iload_n (n := 1) (i := 1) smd_M_push_0 rfl rfl rfl ?_
  refine mm_aload_n (n := 2) (i := 0) smd_M_push_1 rfl rfl rfl ?_
  refine mm_get (n := 5) (v := .ref (mm_B Γ + 77)) smk_M_47 smb_M rfl smd_M_push_2 rfl ?_
  refine mm_iload_n (n := 6) (i := 1) smd_M_push_5 rfl rfl rfl ?_
  refine mm_iald (n := 7) sma_77 hT.1 smd_M_push_6 rfl ?_
  replace hT := hT.2
  refine mm_callSI (n := 10) (As := [.int x1, .int (h 77 x1.toNatClampNeg)]) (rest := []) smv_M_frameAt smw_657 (mm_hRm (by decide) (by decide)) smd_M_push_7 rfl rfl (Nat.le_of_ble_eq_true rfl) hT (fun r7 h7 hT => ?_)
  refine mm_istore (n := 12) (i := 5) (L' := [some (.ref (mm_B Γ + 64)), some (.int x1), some (.int x2), some (.int x3), some (.int x4), some (.int r7)]) smd_M_push_10 rfl (by decide) rfl ?_
  refine mm_aload_n (n := 13) (i := 0) smd_M_push_12 rfl rfl rfl ?_
  refine mm_get (n := 16) (v := .ref (mm_B Γ + 78)) smk_M_50 smb_M rfl smd_M_push_13 rfl ?_
  refine mm_iload (n := 18) (i := 5) smd_M_push_16 rfl rfl ?_
  refine mm_iload_n (n := 19) (i := 2) smd_M_push_18 rfl rfl rfl ?_
  refine mm_iast (n := 20) sma_78 hT.1 smd_M_push_19 rfl ?_
  replace hT := hT.2
  refine mm_nam (fun h19 e_h19 => ?_)
  replace hT := hT h19 e_h19
  refine mm_aload_n (n := 21) (i := 0) smd_M_push_20 rfl rfl rfl ?_
  refine mm_get (n := 24) (v := .ref (mm_B Γ + 78)) smk_M_50 smb_M rfl smd_M_push_21 rfl ?_
  refine mm_iload (n := 26) (i := 5) smd_M_push_24 rfl rfl ?_
  refine mm_iconst (n := 27) (v := 1) smd_M_push_26 rfl (by decide) ?_
  refine mm_iadd (n := 28) smd_M_push_27 rfl ?_
  refine mm_iconst (n := 29) (v := 0) smd_M_push_28 rfl (by decide) ?_
  refine mm_iast (n := 30) sma_78 hT.1 smd_M_push_29 rfl ?_
  replace hT := hT.2
  refine mm_nam (fun h29 e_h29 => ?_)
  replace hT := hT h29 e_h29
  refine mm_aload_n (n := 31) (i := 0) smd_M_push_30 rfl rfl rfl ?_
  refine mm_get (n := 34) (v := .ref (mm_B Γ + 78)) smk_M_50 smb_M rfl smd_M_push_31 rfl ?_
  refine mm_iload (n := 36) (i := 5) smd_M_push_34 rfl rfl ?_
  refine mm_iconst (n := 37) (v := 2) smd_M_push_36 rfl (by decide) ?_
  refine mm_iadd (n := 38) smd_M_push_37 rfl ?_
  refine mm_iload_n (n := 39) (i := 3) smd_M_push_38 rfl rfl rfl ?_
  refine mm_iast (n := 40) sma_78 hT.1 smd_M_push_39 rfl ?_
  replace hT := hT.2
  refine mm_nam (fun h39 e_h39 => ?_)
  replace hT := hT h39 e_h39
  refine mm_aload_n (n := 41) (i := 0) smd_M_push_40 rfl rfl rfl ?_
  refine mm_get (n := 44) (v := .ref (mm_B Γ + 78)) smk_M_50 smb_M rfl smd_M_push_41 rfl ?_
  refine mm_iload (n := 46) (i := 5) smd_M_push_44 rfl rfl ?_
  refine mm_iconst (n := 47) (v := 3) smd_M_push_46 rfl (by decide) ?_
  refine mm_iadd (n := 48) smd_M_push_47 rfl ?_
  refine mm_iconst (n := 49) (v := 0) smd_M_push_48 rfl (by decide) ?_
  refine mm_iast (n := 50) sma_78 hT.1 smd_M_push_49 rfl ?_
  replace hT := hT.2
  refine mm_nam (fun h49 e_h49 => ?_)
  replace hT := hT h49 e_h49
  refine mm_aload_n (n := 51) (i := 0) smd_M_push_50 rfl rfl rfl ?_
  refine mm_get (n := 54) (v := .ref (mm_B Γ + 78)) smk_M_50 smb_M rfl smd_M_push_51 rfl ?_
  refine mm_iload (n := 56) (i := 5) smd_M_push_54 rfl rfl ?_
  refine mm_iconst (n := 57) (v := 4) smd_M_push_56 rfl (by decide) ?_
  refine mm_iadd (n := 58) smd_M_push_57 rfl ?_
  refine mm_iconst (n := 59) (v := 0) smd_M_push_58 rfl (by decide) ?_
  refine mm_iast (n := 60) sma_78 hT.1 smd_M_push_59 rfl ?_
  replace hT := hT.2
  refine mm_nam (fun h59 e_h59 => ?_)
  replace hT := hT h59 e_h59
  refine mm_aload_n (n := 61) (i := 0) smd_M_push_60 rfl rfl rfl ?_
  refine mm_get (n := 64) (v := .ref (mm_B Γ + 78)) smk_M_50 smb_M rfl smd_M_push_61 rfl ?_
  refine mm_iload (n := 66) (i := 5) smd_M_push_64 rfl rfl ?_
  refine mm_iconst (n := 67) (v := 5) smd_M_push_66 rfl (by decide) ?_
  refine mm_iadd (n := 68) smd_M_push_67 rfl ?_
  refine mm_iload (n := 70) (i := 4) smd_M_push_68 rfl rfl ?_
  refine mm_iast (n := 71) sma_78 hT.1 smd_M_push_70 rfl ?_
  replace hT := hT.2
  refine mm_nam (fun h70 e_h70 => ?_)
  replace hT := hT h70 e_h70
  refine mm_aload_n (n := 72) (i := 0) smd_M_push_71 rfl rfl rfl ?_
  refine mm_get (n := 75) (v := .ref (mm_B Γ + 77)) smk_M_47 smb_M rfl smd_M_push_72 rfl ?_
  refine mm_iload_n (n := 76) (i := 1) smd_M_push_75 rfl rfl rfl ?_
  refine mm_dup2 (n := 77) smd_M_push_76 rfl rfl rfl ?_
  refine mm_iald (n := 78) sma_77 hT.1 smd_M_push_77 rfl ?_
  replace hT := hT.2
  refine mm_iconst (n := 79) (v := 1) smd_M_push_78 rfl (by decide) ?_
  refine mm_iadd (n := 80) smd_M_push_79 rfl ?_
  refine mm_iast (n := 81) sma_77 hT.1 smd_M_push_80 rfl ?_
  replace hT := hT.2
  refine mm_nam (fun h80 e_h80 => ?_)
  replace hT := hT h80 e_h80
  exact mm_vret rfl smd_M_push_81 ⟨rfl, hT⟩
set_option maxHeartbeats 4000000 in
set_option maxRecDepth 100000 in
theorem smr_M_spawn {Γ : mm_Ctx} {post : Int32 → mm_Mem → Prop} {h : mm_Mem} (x1 : Int32) (x2 : Int32) (hT : mm_SI Γ smM_M_isProcedure [.int x1] h (fun r1 h1 => (r1 = 0 → (post (-1 : Int32) h1)) ∧ (¬ r1 = 0 → ((vp_in x1 12) ∧ ((¬ (h1 66 x1.toNatClampNeg) = 0 → ((¬ (h1 64 12) = (6 : Int32) → (∀ h37 : mm_Mem, h37 = mm_wr h1 64 12 ((h1 64 12) + (1 : Int32)) → (mm_SV Γ smM_M_push [.ref (mm_B Γ + 64), .int (h37 64 12), .int x1, .int x2, .int (0 : Int32)] h37 (fun h48 => post (h48 64 12) h48)))) ∧ ((h1 64 12) = (6 : Int32) → (post (-3 : Int32) h1)))) ∧ ((h1 66 x1.toNatClampNeg) = 0 → (post (-1 : Int32) h1))))))) : mm_SI Γ smM_M_spawn [.ref (mm_B Γ + 64), .int x1, .int x2] h post := by
  refine mm_spec0 (M := smM_M_spawn) 0 (by decide +kernel) rfl (Nat.le_of_ble_eq_true rfl) ?_
  show mm_W Γ smM_M_spawn (mm_pI post) 0 [some (.ref (mm_B Γ + 64)), some (.int x1), some (.int x2)] [] h
  refine mm_iload_n (n := 1) (i := 1) smd_M_spawn_0 rfl rfl rfl ?_
  refine mm_callSI (n := 4) (As := [.int x1]) (rest := []) smv_M_isProcedure smw_584 (mm_hRm (by decide) (by decide)) smd_M_spawn_1 rfl rfl (Nat.le_of_ble_eq_true rfl) hT (fun r1 h1 hT => ?_)
  refine mm_if_eq (n := 7) (tgt := 16) smd_M_spawn_4 rfl rfl (fun hc => ?_) (fun hc => ?_)
  · replace hT := hT.1 hc
    refine mm_iconst (n := 17) (v := -1) smd_M_spawn_16 rfl (by decide) ?_
    exact mm_iret rfl smd_M_spawn_17 ⟨_, rfl, hT⟩
  · replace hT := hT.2 hc
    refine mm_aload_n (n := 8) (i := 0) smd_M_spawn_7 rfl rfl rfl ?_
    refine mm_get (n := 11) (v := .ref (mm_B Γ + 66)) smk_M_13 smb_M rfl smd_M_spawn_8 rfl ?_
    refine mm_iload_n (n := 12) (i := 1) smd_M_spawn_11 rfl rfl rfl ?_
    refine mm_iald (n := 13) sma_66 hT.1 smd_M_spawn_12 rfl ?_
    replace hT := hT.2
    refine mm_if_ne (n := 16) (tgt := 18) smd_M_spawn_13 rfl rfl (fun hc => ?_) (fun hc => ?_)
    · replace hT := hT.1 hc
      refine mm_aload_n (n := 19) (i := 0) smd_M_spawn_18 rfl rfl rfl ?_
      refine mm_get (n := 22) (v := .int (h1 64 12)) smk_M_103 smb_M rfl smd_M_spawn_19 rfl ?_
      refine mm_bipush (n := 24) (v := 6) smd_M_spawn_22 rfl (by decide) ?_
      refine mm_icmp_ne (n := 27) (tgt := 30) smd_M_spawn_24 rfl rfl (fun hc => ?_) (fun hc => ?_)
      · replace hT := hT.1 hc
        refine mm_aload_n (n := 31) (i := 0) smd_M_spawn_30 rfl rfl rfl ?_
        refine mm_dup (n := 32) smd_M_spawn_31 rfl rfl ?_
        refine mm_get (n := 35) (v := .int (h1 64 12)) smk_M_103 smb_M rfl smd_M_spawn_32 rfl ?_
        refine mm_iconst (n := 36) (v := 1) smd_M_spawn_35 rfl (by decide) ?_
        refine mm_iadd (n := 37) smd_M_spawn_36 rfl ?_
        refine mm_put (n := 40) smk_M_103 smp_M_12 smb_M rfl (Nat.le_of_ble_eq_true rfl) rfl rfl smd_M_spawn_37 rfl ?_
        refine mm_nam (fun h37 e_h37 => ?_)
        replace hT := hT h37 e_h37
        refine mm_aload_n (n := 41) (i := 0) smd_M_spawn_40 rfl rfl rfl ?_
        refine mm_aload_n (n := 42) (i := 0) smd_M_spawn_41 rfl rfl rfl ?_
        refine mm_get (n := 45) (v := .int (h37 64 12)) smk_M_103 smb_M rfl smd_M_spawn_42 rfl ?_
        refine mm_iload_n (n := 46) (i := 1) smd_M_spawn_45 rfl rfl rfl ?_
        refine mm_iload_n (n := 47) (i := 2) smd_M_spawn_46 rfl rfl rfl ?_
        refine mm_iconst (n := 48) (v := 0) smd_M_spawn_47 rfl (by decide) ?_
        refine mm_callVV (n := 51) (As := [.int (h37 64 12), .int x1, .int x2, .int (0 : Int32)]) (rest := []) smv_M_push smw_721 smb_M (mm_hRm (by decide) (by decide)) smd_M_spawn_48 rfl rfl (Nat.le_of_ble_eq_true rfl) hT (fun h48 hT => ?_)
        refine mm_aload_n (n := 52) (i := 0) smd_M_spawn_51 rfl rfl rfl ?_
        refine mm_get (n := 55) (v := .int (h48 64 12)) smk_M_103 smb_M rfl smd_M_spawn_52 rfl ?_
        exact mm_iret rfl smd_M_spawn_55 ⟨_, rfl, hT⟩
      · replace hT := hT.2 hc
        refine mm_bipush (n := 29) (v := -3) smd_M_spawn_27 rfl (by decide) ?_
        exact mm_iret rfl smd_M_spawn_29 ⟨_, rfl, hT⟩
    · replace hT := hT.2 hc
      refine mm_iconst (n := 17) (v := -1) smd_M_spawn_16 rfl (by decide) ?_
      exact mm_iret rfl smd_M_spawn_17 ⟨_, rfl, hT⟩
set_option maxHeartbeats 4000000 in
set_option maxRecDepth 100000 in
theorem smr_M_fault {Γ : mm_Ctx} {post : Int32 → mm_Mem → Prop} {h : mm_Mem} (x1 : Int32) (hT : (vp_in x1 7) ∧ (∀ h6 : mm_Mem, h6 = mm_wr h 77 x1.toNatClampNeg (0 : Int32) → (post (3 : Int32) h6))) : mm_SI Γ smM_M_fault [.ref (mm_B Γ + 64), .int x1] h post := by
  refine mm_spec0 (M := smM_M_fault) 0 (by decide +kernel) rfl (Nat.le_of_ble_eq_true rfl) ?_
  show mm_W Γ smM_M_fault (mm_pI post) 0 [some (.ref (mm_B Γ + 64)), some (.int x1)] [] h
  refine mm_aload_n (n := 1) (i := 0) smd_M_fault_0 rfl rfl rfl ?_
  refine mm_get (n := 4) (v := .ref (mm_B Γ + 77)) smk_M_47 smb_M rfl smd_M_fault_1 rfl ?_
  refine mm_iload_n (n := 5) (i := 1) smd_M_fault_4 rfl rfl rfl ?_
  refine mm_iconst (n := 6) (v := 0) smd_M_fault_5 rfl (by decide) ?_
  refine mm_iast (n := 7) sma_77 hT.1 smd_M_fault_6 rfl ?_
  replace hT := hT.2
  refine mm_nam (fun h6 e_h6 => ?_)
  replace hT := hT h6 e_h6
  refine mm_iconst (n := 8) (v := 3) smd_M_fault_7 rfl (by decide) ?_
  exact mm_iret rfl smd_M_fault_8 ⟨_, rfl, hT⟩
set_option maxHeartbeats 4000000 in
set_option maxRecDepth 100000 in
theorem smr_M_giveBack {Γ : mm_Ctx} {post : Int32 → mm_Mem → Prop} {h : mm_Mem} (x1 : Int32) (x2 : Int32) (hT : (vp_in x1 7) ∧ ((vp_in x1 7) ∧ (∀ h9 : mm_Mem, h9 = mm_wr h 77 x1.toNatClampNeg ((h 77 x1.toNatClampNeg) - (1 : Int32)) → ((vp_in x1 7) ∧ ((¬ (h9 77 x1.toNatClampNeg) = 0 → ((vp_in x1 7) ∧ (mm_SI Γ smM_M_frameAt [.int x1, .int (h9 77 x1.toNatClampNeg)] h9 (fun r39 h39 => (vp_in (r39 + (5 : Int32)) 252) ∧ (∀ y3_45 : Int32, y3_45 = h39 78 (r39 + (5 : Int32)).toNatClampNeg → ((vp_in x1 7) ∧ (mm_SI Γ smM_M_frameAt [.int x1, .int ((h39 77 x1.toNatClampNeg) - (1 : Int32))] h39 (fun r59 h59 => (vp_in ((r59 + (2 : Int32)) + y3_45) 252) ∧ (∀ h67 : mm_Mem, h67 = mm_wr h59 78 ((r59 + (2 : Int32)) + y3_45).toNatClampNeg x2 → (post (0 : Int32) h67)))))))))) ∧ ((h9 77 x1.toNatClampNeg) = 0 → ((vp_in x1 7) ∧ (∀ h25 : mm_Mem, h25 = mm_wr h9 76 x1.toNatClampNeg x2 → (post (2 : Int32) h25))))))))) : mm_SI Γ smM_M_giveBack [.ref (mm_B Γ + 64), .int x1, .int x2] h post := by
  refine mm_spec0 (M := smM_M_giveBack) 1 (by decide +kernel) rfl (Nat.le_of_ble_eq_true rfl) ?_
  show mm_W Γ smM_M_giveBack (mm_pI post) 0 [some (.ref (mm_B Γ + 64)), some (.int x1), some (.int x2), none] [] h
  refine mm_aload_n (n := 1) (i := 0) smd_M_giveBack_0 rfl rfl rfl ?_
  refine mm_get (n := 4) (v := .ref (mm_B Γ + 77)) smk_M_47 smb_M rfl smd_M_giveBack_1 rfl ?_
  refine mm_iload_n (n := 5) (i := 1) smd_M_giveBack_4 rfl rfl rfl ?_
  refine mm_dup2 (n := 6) smd_M_giveBack_5 rfl rfl rfl ?_
  refine mm_iald (n := 7) sma_77 hT.1 smd_M_giveBack_6 rfl ?_
  replace hT := hT.2
  refine mm_iconst (n := 8) (v := 1) smd_M_giveBack_7 rfl (by decide) ?_
  refine mm_isub (n := 9) smd_M_giveBack_8 rfl ?_
  refine mm_iast (n := 10) sma_77 hT.1 smd_M_giveBack_9 rfl ?_
  replace hT := hT.2
  refine mm_nam (fun h9 e_h9 => ?_)
  replace hT := hT h9 e_h9
  refine mm_aload_n (n := 11) (i := 0) smd_M_giveBack_10 rfl rfl rfl ?_
  refine mm_get (n := 14) (v := .ref (mm_B Γ + 77)) smk_M_47 smb_M rfl smd_M_giveBack_11 rfl ?_
  refine mm_iload_n (n := 15) (i := 1) smd_M_giveBack_14 rfl rfl rfl ?_
  refine mm_iald (n := 16) sma_77 hT.1 smd_M_giveBack_15 rfl ?_
  replace hT := hT.2
  refine mm_if_ne (n := 19) (tgt := 28) smd_M_giveBack_16 rfl rfl (fun hc => ?_) (fun hc => ?_)
  · replace hT := hT.1 hc
    refine mm_aload_n (n := 29) (i := 0) smd_M_giveBack_28 rfl rfl rfl ?_
    refine mm_get (n := 32) (v := .ref (mm_B Γ + 78)) smk_M_50 smb_M rfl smd_M_giveBack_29 rfl ?_
    refine mm_iload_n (n := 33) (i := 1) smd_M_giveBack_32 rfl rfl rfl ?_
    refine mm_aload_n (n := 34) (i := 0) smd_M_giveBack_33 rfl rfl rfl ?_
    refine mm_get (n := 37) (v := .ref (mm_B Γ + 77)) smk_M_47 smb_M rfl smd_M_giveBack_34 rfl ?_
    refine mm_iload_n (n := 38) (i := 1) smd_M_giveBack_37 rfl rfl rfl ?_
    refine mm_iald (n := 39) sma_77 hT.1 smd_M_giveBack_38 rfl ?_
    replace hT := hT.2
    refine mm_callSI (n := 42) (As := [.int x1, .int (h9 77 x1.toNatClampNeg)]) (rest := [.ref (mm_B Γ + 78)]) smv_M_frameAt smw_657 (mm_hRm (by decide) (by decide)) smd_M_giveBack_39 rfl rfl (Nat.le_of_ble_eq_true rfl) hT (fun r39 h39 hT => ?_)
    refine mm_iconst (n := 43) (v := 5) smd_M_giveBack_42 rfl (by decide) ?_
    refine mm_iadd (n := 44) smd_M_giveBack_43 rfl ?_
    refine mm_iald (n := 45) sma_78 hT.1 smd_M_giveBack_44 rfl ?_
    replace hT := hT.2
    refine mm_top (fun y3_45 e_y3_45 => ?_)
    replace hT := hT y3_45 e_y3_45
    refine mm_istore_n (n := 46) (i := 3) (L' := [some (.ref (mm_B Γ + 64)), some (.int x1), some (.int x2), some (.int y3_45)]) smd_M_giveBack_45 rfl rfl (by decide) rfl ?_
    refine mm_aload_n (n := 47) (i := 0) smd_M_giveBack_46 rfl rfl rfl ?_
    refine mm_get (n := 50) (v := .ref (mm_B Γ + 78)) smk_M_50 smb_M rfl smd_M_giveBack_47 rfl ?_
    refine mm_iload_n (n := 51) (i := 1) smd_M_giveBack_50 rfl rfl rfl ?_
    refine mm_aload_n (n := 52) (i := 0) smd_M_giveBack_51 rfl rfl rfl ?_
    refine mm_get (n := 55) (v := .ref (mm_B Γ + 77)) smk_M_47 smb_M rfl smd_M_giveBack_52 rfl ?_
    refine mm_iload_n (n := 56) (i := 1) smd_M_giveBack_55 rfl rfl rfl ?_
    refine mm_iald (n := 57) sma_77 hT.1 smd_M_giveBack_56 rfl ?_
    replace hT := hT.2
    refine mm_iconst (n := 58) (v := 1) smd_M_giveBack_57 rfl (by decide) ?_
    refine mm_isub (n := 59) smd_M_giveBack_58 rfl ?_
    refine mm_callSI (n := 62) (As := [.int x1, .int ((h39 77 x1.toNatClampNeg) - (1 : Int32))]) (rest := [.ref (mm_B Γ + 78)]) smv_M_frameAt smw_657 (mm_hRm (by decide) (by decide)) smd_M_giveBack_59 rfl rfl (Nat.le_of_ble_eq_true rfl) hT (fun r59 h59 hT => ?_)
    refine mm_iconst (n := 63) (v := 2) smd_M_giveBack_62 rfl (by decide) ?_
    refine mm_iadd (n := 64) smd_M_giveBack_63 rfl ?_
    refine mm_iload_n (n := 65) (i := 3) smd_M_giveBack_64 rfl rfl rfl ?_
    refine mm_iadd (n := 66) smd_M_giveBack_65 rfl ?_
    refine mm_iload_n (n := 67) (i := 2) smd_M_giveBack_66 rfl rfl rfl ?_
    refine mm_iast (n := 68) sma_78 hT.1 smd_M_giveBack_67 rfl ?_
    replace hT := hT.2
    refine mm_nam (fun h67 e_h67 => ?_)
    replace hT := hT h67 e_h67
    refine mm_iconst (n := 69) (v := 0) smd_M_giveBack_68 rfl (by decide) ?_
    exact mm_iret rfl smd_M_giveBack_69 ⟨_, rfl, hT⟩
  · replace hT := hT.2 hc
    refine mm_aload_n (n := 20) (i := 0) smd_M_giveBack_19 rfl rfl rfl ?_
    refine mm_get (n := 23) (v := .ref (mm_B Γ + 76)) smk_M_44 smb_M rfl smd_M_giveBack_20 rfl ?_
    refine mm_iload_n (n := 24) (i := 1) smd_M_giveBack_23 rfl rfl rfl ?_
    refine mm_iload_n (n := 25) (i := 2) smd_M_giveBack_24 rfl rfl rfl ?_
    refine mm_iast (n := 26) sma_76 hT.1 smd_M_giveBack_25 rfl ?_
    replace hT := hT.2
    refine mm_nam (fun h25 e_h25 => ?_)
    replace hT := hT h25 e_h25
    refine mm_iconst (n := 27) (v := 2) smd_M_giveBack_26 rfl (by decide) ?_
    exact mm_iret rfl smd_M_giveBack_27 ⟨_, rfl, hT⟩
set_option maxHeartbeats 4000000 in
set_option maxRecDepth 100000 in
theorem smr_M_take {Γ : mm_Ctx} {post : Int32 → mm_Mem → Prop} {h : mm_Mem} (x1 : Int32) (hT : (vp_in ((8 : Int32) * x1) 56) ∧ (∀ y2_9 : Int32, y2_9 = h 80 ((8 : Int32) * x1).toNatClampNeg → ((vp_in x1 7) ∧ ((vp_in x1 7) ∧ (∀ h19 : mm_Mem, h19 = mm_wr h 79 x1.toNatClampNeg ((h 79 x1.toNatClampNeg) - (1 : Int32)) → (mm_W Γ smM_M_take (mm_pI post) 22 [some (.ref (mm_B Γ + 64)), some (.int x1), some (.int y2_9), some (.int (0 : Int32))] [] h19)))))) : mm_SI Γ smM_M_take [.ref (mm_B Γ + 64), .int x1] h post := by
  refine mm_spec0 (M := smM_M_take) 2 (by decide +kernel) rfl (Nat.le_of_ble_eq_true rfl) ?_
  show mm_W Γ smM_M_take (mm_pI post) 0 [some (.ref (mm_B Γ + 64)), some (.int x1), none, none] [] h
  refine mm_aload_n (n := 1) (i := 0) smd_M_take_0 rfl rfl rfl ?_
  refine mm_get (n := 4) (v := .ref (mm_B Γ + 80)) smk_M_56 smb_M rfl smd_M_take_1 rfl ?_
  refine mm_bipush (n := 6) (v := 8) smd_M_take_4 rfl (by decide) ?_
  refine mm_iload_n (n := 7) (i := 1) smd_M_take_6 rfl rfl rfl ?_
  refine mm_imul (n := 8) smd_M_take_7 rfl ?_
  refine mm_iald (n := 9) sma_80 hT.1 smd_M_take_8 rfl ?_
  replace hT := hT.2
  refine mm_top (fun y2_9 e_y2_9 => ?_)
  replace hT := hT y2_9 e_y2_9
  refine mm_istore_n (n := 10) (i := 2) (L' := [some (.ref (mm_B Γ + 64)), some (.int x1), some (.int y2_9), none]) smd_M_take_9 rfl rfl (by decide) rfl ?_
  refine mm_aload_n (n := 11) (i := 0) smd_M_take_10 rfl rfl rfl ?_
  refine mm_get (n := 14) (v := .ref (mm_B Γ + 79)) smk_M_53 smb_M rfl smd_M_take_11 rfl ?_
  refine mm_iload_n (n := 15) (i := 1) smd_M_take_14 rfl rfl rfl ?_
  refine mm_dup2 (n := 16) smd_M_take_15 rfl rfl rfl ?_
  refine mm_iald (n := 17) sma_79 hT.1 smd_M_take_16 rfl ?_
  replace hT := hT.2
  refine mm_iconst (n := 18) (v := 1) smd_M_take_17 rfl (by decide) ?_
  refine mm_isub (n := 19) smd_M_take_18 rfl ?_
  refine mm_iast (n := 20) sma_79 hT.1 smd_M_take_19 rfl ?_
  replace hT := hT.2
  refine mm_nam (fun h19 e_h19 => ?_)
  replace hT := hT h19 e_h19
  refine mm_iconst (n := 21) (v := 0) smd_M_take_20 rfl (by decide) ?_
  refine mm_istore_n (n := 22) (i := 3) (L' := [some (.ref (mm_B Γ + 64)), some (.int x1), some (.int y2_9), some (.int (0 : Int32))]) smd_M_take_21 rfl rfl (by decide) rfl ?_
  exact mm_weak (by refine ⟨rfl, rfl, rfl, rfl, trivial⟩) hT
set_option maxHeartbeats 4000000 in
set_option maxRecDepth 100000 in
theorem smr_M_take_22 {Γ : mm_Ctx} {post : Int32 → mm_Mem → Prop} {h : mm_Mem} (x1 : Int32) (x2 : Int32) (x3 : Int32) (hT : (vp_in x1 7) ∧ (((h 79 x1.toNatClampNeg) ≤ x3 → (post x2 h)) ∧ (¬ (h 79 x1.toNatClampNeg) ≤ x3 → ((vp_in ((((8 : Int32) * x1) + x3) + (1 : Int32)) 56) ∧ ((vp_in (((8 : Int32) * x1) + x3) 56) ∧ (∀ h55 : mm_Mem, h55 = mm_wr h 80 (((8 : Int32) * x1) + x3).toNatClampNeg (h 80 ((((8 : Int32) * x1) + x3) + (1 : Int32)).toNatClampNeg) → (mm_W Γ smM_M_take (mm_pI post) 22 [some (.ref (mm_B Γ + 64)), some (.int x1), some (.int x2), some (.int (x3 + (1 : Int32)))] [] h55))))))) : mm_W Γ smM_M_take (mm_pI post) 22 [some (.ref (mm_B Γ + 64)), some (.int x1), some (.int x2), some (.int x3)] [] h := by
  refine mm_iload_n (n := 23) (i := 3) smd_M_take_22 rfl rfl rfl ?_
  refine mm_aload_n (n := 24) (i := 0) smd_M_take_23 rfl rfl rfl ?_
  refine mm_get (n := 27) (v := .ref (mm_B Γ + 79)) smk_M_53 smb_M rfl smd_M_take_24 rfl ?_
  refine mm_iload_n (n := 28) (i := 1) smd_M_take_27 rfl rfl rfl ?_
  refine mm_iald (n := 29) sma_79 hT.1 smd_M_take_28 rfl ?_
  replace hT := hT.2
  refine mm_icmp_ge (n := 32) (tgt := 62) smd_M_take_29 rfl rfl (fun hc => ?_) (fun hc => ?_)
  · replace hT := hT.1 hc
    refine mm_iload_n (n := 63) (i := 2) smd_M_take_62 rfl rfl rfl ?_
    exact mm_iret rfl smd_M_take_63 ⟨_, rfl, hT⟩
  · replace hT := hT.2 hc
    refine mm_aload_n (n := 33) (i := 0) smd_M_take_32 rfl rfl rfl ?_
    refine mm_get (n := 36) (v := .ref (mm_B Γ + 80)) smk_M_56 smb_M rfl smd_M_take_33 rfl ?_
    refine mm_bipush (n := 38) (v := 8) smd_M_take_36 rfl (by decide) ?_
    refine mm_iload_n (n := 39) (i := 1) smd_M_take_38 rfl rfl rfl ?_
    refine mm_imul (n := 40) smd_M_take_39 rfl ?_
    refine mm_iload_n (n := 41) (i := 3) smd_M_take_40 rfl rfl rfl ?_
    refine mm_iadd (n := 42) smd_M_take_41 rfl ?_
    refine mm_aload_n (n := 43) (i := 0) smd_M_take_42 rfl rfl rfl ?_
    refine mm_get (n := 46) (v := .ref (mm_B Γ + 80)) smk_M_56 smb_M rfl smd_M_take_43 rfl ?_
    refine mm_bipush (n := 48) (v := 8) smd_M_take_46 rfl (by decide) ?_
    refine mm_iload_n (n := 49) (i := 1) smd_M_take_48 rfl rfl rfl ?_
    refine mm_imul (n := 50) smd_M_take_49 rfl ?_
    refine mm_iload_n (n := 51) (i := 3) smd_M_take_50 rfl rfl rfl ?_
    refine mm_iadd (n := 52) smd_M_take_51 rfl ?_
    refine mm_iconst (n := 53) (v := 1) smd_M_take_52 rfl (by decide) ?_
    refine mm_iadd (n := 54) smd_M_take_53 rfl ?_
    refine mm_iald (n := 55) sma_80 hT.1 smd_M_take_54 rfl ?_
    replace hT := hT.2
    refine mm_iast (n := 56) sma_80 hT.1 smd_M_take_55 rfl ?_
    replace hT := hT.2
    refine mm_nam (fun h55 e_h55 => ?_)
    replace hT := hT h55 e_h55
    refine mm_iinc (n := 59) (i := 3) (d := 1) (L' := [some (.ref (mm_B Γ + 64)), some (.int x1), some (.int x2), some (.int (x3 + (1 : Int32)))]) smd_M_take_56 rfl rfl (by decide) (by decide) rfl ?_
    refine mm_goto (n := 22) smd_M_take_59 rfl ?_
    exact mm_weak (by refine ⟨rfl, rfl, rfl, rfl, trivial⟩) hT
set_option maxHeartbeats 4000000 in
set_option maxRecDepth 100000 in
theorem smr_M_act {Γ : mm_Ctx} {post : Int32 → mm_Mem → Prop} {h : mm_Mem} (x1 : Int32) (hT : (vp_in x1 7) ∧ (mm_SI Γ smM_M_frameAt [.int x1, .int ((h 77 x1.toNatClampNeg) - (1 : Int32))] h (fun r9 h9 => (vp_in r9 252) ∧ ((vp_in (r9 + (1 : Int32)) 252) ∧ (∀ y3_33 : Int32, y3_33 = ((48 : Int32) * (h9 78 r9.toNatClampNeg)) + ((4 : Int32) * (h9 78 (r9 + (1 : Int32)).toNatClampNeg)) → ((vp_in y3_33 576) ∧ (∀ y4_40 : Int32, y4_40 = h9 65 y3_33.toNatClampNeg → ((vp_in (y3_33 + (1 : Int32)) 576) ∧ (∀ y5_50 : Int32, y5_50 = h9 65 (y3_33 + (1 : Int32)).toNatClampNeg → ((vp_in (y3_33 + (2 : Int32)) 576) ∧ (∀ y6_60 : Int32, y6_60 = h9 65 (y3_33 + (2 : Int32)).toNatClampNeg → ((vp_in (y3_33 + (3 : Int32)) 576) ∧ (∀ y7_70 : Int32, y7_70 = h9 65 (y3_33 + (3 : Int32)).toNatClampNeg → (∀ y8_75 : Int32, y8_75 = r9 + (2 : Int32) → ((¬ y4_40 = (11 : Int32) → (mm_W Γ smM_M_act (mm_pI post) 95 [some (.ref (mm_B Γ + 64)), some (.int x1), some (.int r9), none, some (.int y4_40), some (.int y5_50), some (.int y6_60), some (.int y7_70), some (.int y8_75)] [] h9)) ∧ (y4_40 = (11 : Int32) → ((vp_in x1 7) ∧ ((¬ (h9 79 x1.toNatClampNeg) = 0 → (mm_W Γ smM_M_act (mm_pI post) 95 [some (.ref (mm_B Γ + 64)), some (.int x1), some (.int r9), none, some (.int y4_40), some (.int y5_50), some (.int y6_60), some (.int y7_70), some (.int y8_75)] [] h9)) ∧ ((h9 79 x1.toNatClampNeg) = 0 → (post (1 : Int32) h9)))))))))))))))))))) : mm_SI Γ smM_M_act [.ref (mm_B Γ + 64), .int x1] h post := by
  refine mm_spec0 (M := smM_M_act) 7 (by decide +kernel) rfl (Nat.le_of_ble_eq_true rfl) ?_
  show mm_W Γ smM_M_act (mm_pI post) 0 [some (.ref (mm_B Γ + 64)), some (.int x1), none, none, none, none, none, none, none] [] h
  refine mm_iload_n (n := 1) (i := 1) smd_M_act_0 rfl rfl rfl ?_
  refine mm_aload_n (n := 2) (i := 0) smd_M_act_1 rfl rfl rfl ?_
  refine mm_get (n := 5) (v := .ref (mm_B Γ + 77)) smk_M_47 smb_M rfl smd_M_act_2 rfl ?_
  refine mm_iload_n (n := 6) (i := 1) smd_M_act_5 rfl rfl rfl ?_
  refine mm_iald (n := 7) sma_77 hT.1 smd_M_act_6 rfl ?_
  replace hT := hT.2
  refine mm_iconst (n := 8) (v := 1) smd_M_act_7 rfl (by decide) ?_
  refine mm_isub (n := 9) smd_M_act_8 rfl ?_
  refine mm_callSI (n := 12) (As := [.int x1, .int ((h 77 x1.toNatClampNeg) - (1 : Int32))]) (rest := []) smv_M_frameAt smw_657 (mm_hRm (by decide) (by decide)) smd_M_act_9 rfl rfl (Nat.le_of_ble_eq_true rfl) hT (fun r9 h9 hT => ?_)
  refine mm_istore_n (n := 13) (i := 2) (L' := [some (.ref (mm_B Γ + 64)), some (.int x1), some (.int r9), none, none, none, none, none, none]) smd_M_act_12 rfl rfl (by decide) rfl ?_
  refine mm_bipush (n := 15) (v := 48) smd_M_act_13 rfl (by decide) ?_
  refine mm_aload_n (n := 16) (i := 0) smd_M_act_15 rfl rfl rfl ?_
  refine mm_get (n := 19) (v := .ref (mm_B Γ + 78)) smk_M_50 smb_M rfl smd_M_act_16 rfl ?_
  refine mm_iload_n (n := 20) (i := 2) smd_M_act_19 rfl rfl rfl ?_
  refine mm_iald (n := 21) sma_78 hT.1 smd_M_act_20 rfl ?_
  replace hT := hT.2
  refine mm_imul (n := 22) smd_M_act_21 rfl ?_
  refine mm_iconst (n := 23) (v := 4) smd_M_act_22 rfl (by decide) ?_
  refine mm_aload_n (n := 24) (i := 0) smd_M_act_23 rfl rfl rfl ?_
  refine mm_get (n := 27) (v := .ref (mm_B Γ + 78)) smk_M_50 smb_M rfl smd_M_act_24 rfl ?_
  refine mm_iload_n (n := 28) (i := 2) smd_M_act_27 rfl rfl rfl ?_
  refine mm_iconst (n := 29) (v := 1) smd_M_act_28 rfl (by decide) ?_
  refine mm_iadd (n := 30) smd_M_act_29 rfl ?_
  refine mm_iald (n := 31) sma_78 hT.1 smd_M_act_30 rfl ?_
  replace hT := hT.2
  refine mm_imul (n := 32) smd_M_act_31 rfl ?_
  refine mm_iadd (n := 33) smd_M_act_32 rfl ?_
  refine mm_top (fun y3_33 e_y3_33 => ?_)
  replace hT := hT y3_33 e_y3_33
  refine mm_istore_n (n := 34) (i := 3) (L' := [some (.ref (mm_B Γ + 64)), some (.int x1), some (.int r9), some (.int y3_33), none, none, none, none, none]) smd_M_act_33 rfl rfl (by decide) rfl ?_
  refine mm_aload_n (n := 35) (i := 0) smd_M_act_34 rfl rfl rfl ?_
  refine mm_get (n := 38) (v := .ref (mm_B Γ + 65)) smk_M_7 smb_M rfl smd_M_act_35 rfl ?_
  refine mm_iload_n (n := 39) (i := 3) smd_M_act_38 rfl rfl rfl ?_
  refine mm_iald (n := 40) sma_65 hT.1 smd_M_act_39 rfl ?_
  replace hT := hT.2
  refine mm_top (fun y4_40 e_y4_40 => ?_)
  replace hT := hT y4_40 e_y4_40
  refine mm_istore (n := 42) (i := 4) (L' := [some (.ref (mm_B Γ + 64)), some (.int x1), some (.int r9), some (.int y3_33), some (.int y4_40), none, none, none, none]) smd_M_act_40 rfl (by decide) rfl ?_
  refine mm_aload_n (n := 43) (i := 0) smd_M_act_42 rfl rfl rfl ?_
  refine mm_get (n := 46) (v := .ref (mm_B Γ + 65)) smk_M_7 smb_M rfl smd_M_act_43 rfl ?_
  refine mm_iload_n (n := 47) (i := 3) smd_M_act_46 rfl rfl rfl ?_
  refine mm_iconst (n := 48) (v := 1) smd_M_act_47 rfl (by decide) ?_
  refine mm_iadd (n := 49) smd_M_act_48 rfl ?_
  refine mm_iald (n := 50) sma_65 hT.1 smd_M_act_49 rfl ?_
  replace hT := hT.2
  refine mm_top (fun y5_50 e_y5_50 => ?_)
  replace hT := hT y5_50 e_y5_50
  refine mm_istore (n := 52) (i := 5) (L' := [some (.ref (mm_B Γ + 64)), some (.int x1), some (.int r9), some (.int y3_33), some (.int y4_40), some (.int y5_50), none, none, none]) smd_M_act_50 rfl (by decide) rfl ?_
  refine mm_aload_n (n := 53) (i := 0) smd_M_act_52 rfl rfl rfl ?_
  refine mm_get (n := 56) (v := .ref (mm_B Γ + 65)) smk_M_7 smb_M rfl smd_M_act_53 rfl ?_
  refine mm_iload_n (n := 57) (i := 3) smd_M_act_56 rfl rfl rfl ?_
  refine mm_iconst (n := 58) (v := 2) smd_M_act_57 rfl (by decide) ?_
  refine mm_iadd (n := 59) smd_M_act_58 rfl ?_
  refine mm_iald (n := 60) sma_65 hT.1 smd_M_act_59 rfl ?_
  replace hT := hT.2
  refine mm_top (fun y6_60 e_y6_60 => ?_)
  replace hT := hT y6_60 e_y6_60
  refine mm_istore (n := 62) (i := 6) (L' := [some (.ref (mm_B Γ + 64)), some (.int x1), some (.int r9), some (.int y3_33), some (.int y4_40), some (.int y5_50), some (.int y6_60), none, none]) smd_M_act_60 rfl (by decide) rfl ?_
  refine mm_aload_n (n := 63) (i := 0) smd_M_act_62 rfl rfl rfl ?_
  refine mm_get (n := 66) (v := .ref (mm_B Γ + 65)) smk_M_7 smb_M rfl smd_M_act_63 rfl ?_
  refine mm_iload_n (n := 67) (i := 3) smd_M_act_66 rfl rfl rfl ?_
  refine mm_iconst (n := 68) (v := 3) smd_M_act_67 rfl (by decide) ?_
  refine mm_iadd (n := 69) smd_M_act_68 rfl ?_
  refine mm_iald (n := 70) sma_65 hT.1 smd_M_act_69 rfl ?_
  replace hT := hT.2
  refine mm_top (fun y7_70 e_y7_70 => ?_)
  replace hT := hT y7_70 e_y7_70
  refine mm_istore (n := 72) (i := 7) (L' := [some (.ref (mm_B Γ + 64)), some (.int x1), some (.int r9), some (.int y3_33), some (.int y4_40), some (.int y5_50), some (.int y6_60), some (.int y7_70), none]) smd_M_act_70 rfl (by decide) rfl ?_
  refine mm_iload_n (n := 73) (i := 2) smd_M_act_72 rfl rfl rfl ?_
  refine mm_iconst (n := 74) (v := 2) smd_M_act_73 rfl (by decide) ?_
  refine mm_iadd (n := 75) smd_M_act_74 rfl ?_
  refine mm_top (fun y8_75 e_y8_75 => ?_)
  replace hT := hT y8_75 e_y8_75
  refine mm_istore (n := 77) (i := 8) (L' := [some (.ref (mm_B Γ + 64)), some (.int x1), some (.int r9), some (.int y3_33), some (.int y4_40), some (.int y5_50), some (.int y6_60), some (.int y7_70), some (.int y8_75)]) smd_M_act_75 rfl (by decide) rfl ?_
  refine mm_iload (n := 79) (i := 4) smd_M_act_77 rfl rfl ?_
  refine mm_bipush (n := 81) (v := 11) smd_M_act_79 rfl (by decide) ?_
  refine mm_icmp_ne (n := 84) (tgt := 95) smd_M_act_81 rfl rfl (fun hc => ?_) (fun hc => ?_)
  · replace hT := hT.1 hc
    exact mm_weak (by refine ⟨rfl, rfl, rfl, rfl, rfl, rfl, rfl, rfl, trivial⟩) hT
  · replace hT := hT.2 hc
    refine mm_aload_n (n := 85) (i := 0) smd_M_act_84 rfl rfl rfl ?_
    refine mm_get (n := 88) (v := .ref (mm_B Γ + 79)) smk_M_53 smb_M rfl smd_M_act_85 rfl ?_
    refine mm_iload_n (n := 89) (i := 1) smd_M_act_88 rfl rfl rfl ?_
    refine mm_iald (n := 90) sma_79 hT.1 smd_M_act_89 rfl ?_
    replace hT := hT.2
    refine mm_if_ne (n := 93) (tgt := 95) smd_M_act_90 rfl rfl (fun hc => ?_) (fun hc => ?_)
    · replace hT := hT.1 hc
      exact mm_weak (by refine ⟨rfl, rfl, rfl, rfl, rfl, rfl, rfl, rfl, trivial⟩) hT
    · replace hT := hT.2 hc
      refine mm_iconst (n := 94) (v := 1) smd_M_act_93 rfl (by decide) ?_
      exact mm_iret rfl smd_M_act_94 ⟨_, rfl, hT⟩
set_option maxHeartbeats 4000000 in
set_option maxRecDepth 100000 in
theorem smr_M_act_95 {Γ : mm_Ctx} {post : Int32 → mm_Mem → Prop} {h : mm_Mem} (x1 : Int32) (x2 : Int32) (x4 : Int32) (x5 : Int32) (x6 : Int32) (x7 : Int32) (x8 : Int32) (hT : (vp_in (x2 + (1 : Int32)) 252) ∧ ((vp_in (x2 + (1 : Int32)) 252) ∧ (∀ h106 : mm_Mem, h106 = mm_wr h 78 (x2 + (1 : Int32)).toNatClampNeg ((h 78 (x2 + (1 : Int32)).toNatClampNeg) + (1 : Int32)) → ((x4 = 0 → ((vp_in (x8 + x5) 252) ∧ (mm_SI Γ smM_M_giveBack [.ref (mm_B Γ + 64), .int x1, .int (h106 78 (x8 + x5).toNatClampNeg)] h106 (fun r184 h184 => post r184 h184)))) ∧ (x4 = 1 → ((vp_in (x8 + x5) 252) ∧ (∀ h199 : mm_Mem, h199 = mm_wr h106 78 (x8 + x5).toNatClampNeg x6 → (post (0 : Int32) h199)))) ∧ (x4 = 2 → ((vp_in (x8 + x6) 252) ∧ ((vp_in (x8 + x7) 252) ∧ ((vp_in (x8 + x5) 252) ∧ (∀ h232 : mm_Mem, h232 = mm_wr h106 78 (x8 + x5).toNatClampNeg ((h106 78 (x8 + x6).toNatClampNeg) + (h106 78 (x8 + x7).toNatClampNeg)) → (post (0 : Int32) h232)))))) ∧ (x4 = 3 → ((vp_in (x8 + x6) 252) ∧ ((vp_in (x8 + x7) 252) ∧ ((vp_in (x8 + x5) 252) ∧ (∀ h265 : mm_Mem, h265 = mm_wr h106 78 (x8 + x5).toNatClampNeg ((h106 78 (x8 + x6).toNatClampNeg) - (h106 78 (x8 + x7).toNatClampNeg)) → (post (0 : Int32) h265)))))) ∧ (x4 = 4 → ((vp_in (x8 + x5) 252) ∧ ((¬ (h106 78 (x8 + x5).toNatClampNeg) = 0 → (post (0 : Int32) h106)) ∧ ((h106 78 (x8 + x5).toNatClampNeg) = 0 → ((vp_in (x2 + (1 : Int32)) 252) ∧ (∀ h290 : mm_Mem, h290 = mm_wr h106 78 (x2 + (1 : Int32)).toNatClampNeg x6 → (post (0 : Int32) h290))))))) ∧ (x4 = 5 → ((vp_in x1 7) ∧ ((¬ (h106 77 x1.toNatClampNeg) = (6 : Int32) → ((vp_in (x8 + x7) 252) ∧ (mm_SV Γ smM_M_push [.ref (mm_B Γ + 64), .int x1, .int x6, .int (h106 78 (x8 + x7).toNatClampNeg), .int x5] h106 (fun h326 => post (0 : Int32) h326)))) ∧ ((h106 77 x1.toNatClampNeg) = (6 : Int32) → (mm_SI Γ smM_M_fault [.ref (mm_B Γ + 64), .int x1] h106 (fun r306 h306 => post r306 h306)))))) ∧ (x4 = 6 → (mm_SI Γ smM_M_create [.ref (mm_B Γ + 64), .int x1, .int (x8 + x5), .int x6] h106 (fun r340 h340 => post r340 h340))) ∧ (x4 = 7 ∨ x4 = 8 → (mm_SI Γ smM_M_access [.ref (mm_B Γ + 64), .int x1, .int x4, .int x8, .int x5, .int x6, .int x7] h106 (fun r356 h356 => post r356 h356))) ∧ (x4 = 9 → ((vp_in x6 4) ∧ ((vp_in (x8 + x5) 252) ∧ (∀ h376 : mm_Mem, h376 = mm_wr h106 78 (x8 + x5).toNatClampNeg (h106 70 x6.toNatClampNeg) → (post (0 : Int32) h376))))) ∧ (x4 = 10 → ((vp_in (x8 + x5) 252) ∧ ((vp_in x6 4) ∧ (∀ h395 : mm_Mem, h395 = mm_wr h106 70 x6.toNatClampNeg (h106 78 (x8 + x5).toNatClampNeg) → (post (0 : Int32) h395))))) ∧ (x4 = 11 → (mm_SI Γ smM_M_take [.ref (mm_B Γ + 64), .int x1] h106 (fun r409 h409 => (vp_in (x8 + x5) 252) ∧ (∀ h412 : mm_Mem, h412 = mm_wr h409 78 (x8 + x5).toNatClampNeg r409 → (post (0 : Int32) h412))))) ∧ (¬ x4 = 0 → ¬ x4 = 1 → ¬ x4 = 2 → ¬ x4 = 3 → ¬ x4 = 4 → ¬ x4 = 5 → ¬ x4 = 6 → ¬ x4 = 7 → ¬ x4 = 8 → ¬ x4 = 9 → ¬ x4 = 10 → ¬ x4 = 11 → (post (0 : Int32) h106)))))) : mm_W Γ smM_M_act (mm_pI post) 95 [some (.ref (mm_B Γ + 64)), some (.int x1), some (.int x2), none, some (.int x4), some (.int x5), some (.int x6), some (.int x7), some (.int x8)] [] h := by
  refine mm_aload_n (n := 96) (i := 0) smd_M_act_95 rfl rfl rfl ?_
  refine mm_get (n := 99) (v := .ref (mm_B Γ + 78)) smk_M_50 smb_M rfl smd_M_act_96 rfl ?_
  refine mm_iload_n (n := 100) (i := 2) smd_M_act_99 rfl rfl rfl ?_
  refine mm_iconst (n := 101) (v := 1) smd_M_act_100 rfl (by decide) ?_
  refine mm_iadd (n := 102) smd_M_act_101 rfl ?_
  refine mm_dup2 (n := 103) smd_M_act_102 rfl rfl rfl ?_
  refine mm_iald (n := 104) sma_78 hT.1 smd_M_act_103 rfl ?_
  replace hT := hT.2
  refine mm_iconst (n := 105) (v := 1) smd_M_act_104 rfl (by decide) ?_
  refine mm_iadd (n := 106) smd_M_act_105 rfl ?_
  refine mm_iast (n := 107) sma_78 hT.1 smd_M_act_106 rfl ?_
  replace hT := hT.2
  refine mm_nam (fun h106 e_h106 => ?_)
  replace hT := hT h106 e_h106
  refine mm_iload (n := 109) (i := 4) smd_M_act_107 rfl rfl ?_
  by_cases e : x4 = 0
  · refine mm_tIn (tgt := 172) smd_M_act_109 0 e (by decide) (by decide) rfl rfl ?_
    replace hT := hT.1 (e)
    refine mm_aload_n (n := 173) (i := 0) smd_M_act_172 rfl rfl rfl ?_
    refine mm_iload_n (n := 174) (i := 1) smd_M_act_173 rfl rfl rfl ?_
    refine mm_aload_n (n := 175) (i := 0) smd_M_act_174 rfl rfl rfl ?_
    refine mm_get (n := 178) (v := .ref (mm_B Γ + 78)) smk_M_50 smb_M rfl smd_M_act_175 rfl ?_
    refine mm_iload (n := 180) (i := 8) smd_M_act_178 rfl rfl ?_
    refine mm_iload (n := 182) (i := 5) smd_M_act_180 rfl rfl ?_
    refine mm_iadd (n := 183) smd_M_act_182 rfl ?_
    refine mm_iald (n := 184) sma_78 hT.1 smd_M_act_183 rfl ?_
    replace hT := hT.2
    refine mm_callVI (n := 187) (As := [.int x1, .int (h106 78 (x8 + x5).toNatClampNeg)]) (rest := []) smv_M_giveBack smw_737 smb_M (mm_hRm (by decide) (by decide)) smd_M_act_184 rfl rfl (Nat.le_of_ble_eq_true rfl) hT (fun r184 h184 hT => ?_)
    exact mm_iret rfl smd_M_act_187 ⟨_, rfl, hT⟩
  have n0 := e
  clear e
  by_cases e : x4 = 1
  · refine mm_tIn (tgt := 188) smd_M_act_109 1 e (by decide) (by decide) rfl rfl ?_
    replace hT := hT.2.1 (e)
    refine mm_aload_n (n := 189) (i := 0) smd_M_act_188 rfl rfl rfl ?_
    refine mm_get (n := 192) (v := .ref (mm_B Γ + 78)) smk_M_50 smb_M rfl smd_M_act_189 rfl ?_
    refine mm_iload (n := 194) (i := 8) smd_M_act_192 rfl rfl ?_
    refine mm_iload (n := 196) (i := 5) smd_M_act_194 rfl rfl ?_
    refine mm_iadd (n := 197) smd_M_act_196 rfl ?_
    refine mm_iload (n := 199) (i := 6) smd_M_act_197 rfl rfl ?_
    refine mm_iast (n := 200) sma_78 hT.1 smd_M_act_199 rfl ?_
    replace hT := hT.2
    refine mm_nam (fun h199 e_h199 => ?_)
    replace hT := hT h199 e_h199
    refine mm_iconst (n := 201) (v := 0) smd_M_act_200 rfl (by decide) ?_
    exact mm_iret rfl smd_M_act_201 ⟨_, rfl, hT⟩
  have n1 := e
  clear e
  by_cases e : x4 = 2
  · refine mm_tIn (tgt := 202) smd_M_act_109 2 e (by decide) (by decide) rfl rfl ?_
    replace hT := hT.2.2.1 (e)
    refine mm_aload_n (n := 203) (i := 0) smd_M_act_202 rfl rfl rfl ?_
    refine mm_get (n := 206) (v := .ref (mm_B Γ + 78)) smk_M_50 smb_M rfl smd_M_act_203 rfl ?_
    refine mm_iload (n := 208) (i := 8) smd_M_act_206 rfl rfl ?_
    refine mm_iload (n := 210) (i := 5) smd_M_act_208 rfl rfl ?_
    refine mm_iadd (n := 211) smd_M_act_210 rfl ?_
    refine mm_aload_n (n := 212) (i := 0) smd_M_act_211 rfl rfl rfl ?_
    refine mm_get (n := 215) (v := .ref (mm_B Γ + 78)) smk_M_50 smb_M rfl smd_M_act_212 rfl ?_
    refine mm_iload (n := 217) (i := 8) smd_M_act_215 rfl rfl ?_
    refine mm_iload (n := 219) (i := 6) smd_M_act_217 rfl rfl ?_
    refine mm_iadd (n := 220) smd_M_act_219 rfl ?_
    refine mm_iald (n := 221) sma_78 hT.1 smd_M_act_220 rfl ?_
    replace hT := hT.2
    refine mm_aload_n (n := 222) (i := 0) smd_M_act_221 rfl rfl rfl ?_
    refine mm_get (n := 225) (v := .ref (mm_B Γ + 78)) smk_M_50 smb_M rfl smd_M_act_222 rfl ?_
    refine mm_iload (n := 227) (i := 8) smd_M_act_225 rfl rfl ?_
    refine mm_iload (n := 229) (i := 7) smd_M_act_227 rfl rfl ?_
    refine mm_iadd (n := 230) smd_M_act_229 rfl ?_
    refine mm_iald (n := 231) sma_78 hT.1 smd_M_act_230 rfl ?_
    replace hT := hT.2
    refine mm_iadd (n := 232) smd_M_act_231 rfl ?_
    refine mm_iast (n := 233) sma_78 hT.1 smd_M_act_232 rfl ?_
    replace hT := hT.2
    refine mm_nam (fun h232 e_h232 => ?_)
    replace hT := hT h232 e_h232
    refine mm_iconst (n := 234) (v := 0) smd_M_act_233 rfl (by decide) ?_
    exact mm_iret rfl smd_M_act_234 ⟨_, rfl, hT⟩
  have n2 := e
  clear e
  by_cases e : x4 = 3
  · refine mm_tIn (tgt := 235) smd_M_act_109 3 e (by decide) (by decide) rfl rfl ?_
    replace hT := hT.2.2.2.1 (e)
    refine mm_aload_n (n := 236) (i := 0) smd_M_act_235 rfl rfl rfl ?_
    refine mm_get (n := 239) (v := .ref (mm_B Γ + 78)) smk_M_50 smb_M rfl smd_M_act_236 rfl ?_
    refine mm_iload (n := 241) (i := 8) smd_M_act_239 rfl rfl ?_
    refine mm_iload (n := 243) (i := 5) smd_M_act_241 rfl rfl ?_
    refine mm_iadd (n := 244) smd_M_act_243 rfl ?_
    refine mm_aload_n (n := 245) (i := 0) smd_M_act_244 rfl rfl rfl ?_
    refine mm_get (n := 248) (v := .ref (mm_B Γ + 78)) smk_M_50 smb_M rfl smd_M_act_245 rfl ?_
    refine mm_iload (n := 250) (i := 8) smd_M_act_248 rfl rfl ?_
    refine mm_iload (n := 252) (i := 6) smd_M_act_250 rfl rfl ?_
    refine mm_iadd (n := 253) smd_M_act_252 rfl ?_
    refine mm_iald (n := 254) sma_78 hT.1 smd_M_act_253 rfl ?_
    replace hT := hT.2
    refine mm_aload_n (n := 255) (i := 0) smd_M_act_254 rfl rfl rfl ?_
    refine mm_get (n := 258) (v := .ref (mm_B Γ + 78)) smk_M_50 smb_M rfl smd_M_act_255 rfl ?_
    refine mm_iload (n := 260) (i := 8) smd_M_act_258 rfl rfl ?_
    refine mm_iload (n := 262) (i := 7) smd_M_act_260 rfl rfl ?_
    refine mm_iadd (n := 263) smd_M_act_262 rfl ?_
    refine mm_iald (n := 264) sma_78 hT.1 smd_M_act_263 rfl ?_
    replace hT := hT.2
    refine mm_isub (n := 265) smd_M_act_264 rfl ?_
    refine mm_iast (n := 266) sma_78 hT.1 smd_M_act_265 rfl ?_
    replace hT := hT.2
    refine mm_nam (fun h265 e_h265 => ?_)
    replace hT := hT h265 e_h265
    refine mm_iconst (n := 267) (v := 0) smd_M_act_266 rfl (by decide) ?_
    exact mm_iret rfl smd_M_act_267 ⟨_, rfl, hT⟩
  have n3 := e
  clear e
  by_cases e : x4 = 4
  · refine mm_tIn (tgt := 268) smd_M_act_109 4 e (by decide) (by decide) rfl rfl ?_
    replace hT := hT.2.2.2.2.1 (e)
    refine mm_aload_n (n := 269) (i := 0) smd_M_act_268 rfl rfl rfl ?_
    refine mm_get (n := 272) (v := .ref (mm_B Γ + 78)) smk_M_50 smb_M rfl smd_M_act_269 rfl ?_
    refine mm_iload (n := 274) (i := 8) smd_M_act_272 rfl rfl ?_
    refine mm_iload (n := 276) (i := 5) smd_M_act_274 rfl rfl ?_
    refine mm_iadd (n := 277) smd_M_act_276 rfl ?_
    refine mm_iald (n := 278) sma_78 hT.1 smd_M_act_277 rfl ?_
    replace hT := hT.2
    refine mm_if_ne (n := 281) (tgt := 291) smd_M_act_278 rfl rfl (fun hc => ?_) (fun hc => ?_)
    · replace hT := hT.1 hc
      refine mm_iconst (n := 292) (v := 0) smd_M_act_291 rfl (by decide) ?_
      exact mm_iret rfl smd_M_act_292 ⟨_, rfl, hT⟩
    · replace hT := hT.2 hc
      refine mm_aload_n (n := 282) (i := 0) smd_M_act_281 rfl rfl rfl ?_
      refine mm_get (n := 285) (v := .ref (mm_B Γ + 78)) smk_M_50 smb_M rfl smd_M_act_282 rfl ?_
      refine mm_iload_n (n := 286) (i := 2) smd_M_act_285 rfl rfl rfl ?_
      refine mm_iconst (n := 287) (v := 1) smd_M_act_286 rfl (by decide) ?_
      refine mm_iadd (n := 288) smd_M_act_287 rfl ?_
      refine mm_iload (n := 290) (i := 6) smd_M_act_288 rfl rfl ?_
      refine mm_iast (n := 291) sma_78 hT.1 smd_M_act_290 rfl ?_
      replace hT := hT.2
      refine mm_nam (fun h290 e_h290 => ?_)
      replace hT := hT h290 e_h290
      refine mm_iconst (n := 292) (v := 0) smd_M_act_291 rfl (by decide) ?_
      exact mm_iret rfl smd_M_act_292 ⟨_, rfl, hT⟩
  have n4 := e
  clear e
  by_cases e : x4 = 5
  · refine mm_tIn (tgt := 293) smd_M_act_109 5 e (by decide) (by decide) rfl rfl ?_
    replace hT := hT.2.2.2.2.2.1 (e)
    refine mm_aload_n (n := 294) (i := 0) smd_M_act_293 rfl rfl rfl ?_
    refine mm_get (n := 297) (v := .ref (mm_B Γ + 77)) smk_M_47 smb_M rfl smd_M_act_294 rfl ?_
    refine mm_iload_n (n := 298) (i := 1) smd_M_act_297 rfl rfl rfl ?_
    refine mm_iald (n := 299) sma_77 hT.1 smd_M_act_298 rfl ?_
    replace hT := hT.2
    refine mm_bipush (n := 301) (v := 6) smd_M_act_299 rfl (by decide) ?_
    refine mm_icmp_ne (n := 304) (tgt := 310) smd_M_act_301 rfl rfl (fun hc => ?_) (fun hc => ?_)
    · replace hT := hT.1 hc
      refine mm_aload_n (n := 311) (i := 0) smd_M_act_310 rfl rfl rfl ?_
      refine mm_iload_n (n := 312) (i := 1) smd_M_act_311 rfl rfl rfl ?_
      refine mm_iload (n := 314) (i := 6) smd_M_act_312 rfl rfl ?_
      refine mm_aload_n (n := 315) (i := 0) smd_M_act_314 rfl rfl rfl ?_
      refine mm_get (n := 318) (v := .ref (mm_B Γ + 78)) smk_M_50 smb_M rfl smd_M_act_315 rfl ?_
      refine mm_iload (n := 320) (i := 8) smd_M_act_318 rfl rfl ?_
      refine mm_iload (n := 322) (i := 7) smd_M_act_320 rfl rfl ?_
      refine mm_iadd (n := 323) smd_M_act_322 rfl ?_
      refine mm_iald (n := 324) sma_78 hT.1 smd_M_act_323 rfl ?_
      replace hT := hT.2
      refine mm_iload (n := 326) (i := 5) smd_M_act_324 rfl rfl ?_
      refine mm_callVV (n := 329) (As := [.int x1, .int x6, .int (h106 78 (x8 + x7).toNatClampNeg), .int x5]) (rest := []) smv_M_push smw_721 smb_M (mm_hRm (by decide) (by decide)) smd_M_act_326 rfl rfl (Nat.le_of_ble_eq_true rfl) hT (fun h326 hT => ?_)
      refine mm_iconst (n := 330) (v := 0) smd_M_act_329 rfl (by decide) ?_
      exact mm_iret rfl smd_M_act_330 ⟨_, rfl, hT⟩
    · replace hT := hT.2 hc
      refine mm_aload_n (n := 305) (i := 0) smd_M_act_304 rfl rfl rfl ?_
      refine mm_iload_n (n := 306) (i := 1) smd_M_act_305 rfl rfl rfl ?_
      refine mm_callVI (n := 309) (As := [.int x1]) (rest := []) smv_M_fault smw_741 smb_M (mm_hRm (by decide) (by decide)) smd_M_act_306 rfl rfl (Nat.le_of_ble_eq_true rfl) hT (fun r306 h306 hT => ?_)
      exact mm_iret rfl smd_M_act_309 ⟨_, rfl, hT⟩
  have n5 := e
  clear e
  by_cases e : x4 = 6
  · refine mm_tIn (tgt := 331) smd_M_act_109 6 e (by decide) (by decide) rfl rfl ?_
    replace hT := hT.2.2.2.2.2.2.1 (e)
    refine mm_aload_n (n := 332) (i := 0) smd_M_act_331 rfl rfl rfl ?_
    refine mm_iload_n (n := 333) (i := 1) smd_M_act_332 rfl rfl rfl ?_
    refine mm_iload (n := 335) (i := 8) smd_M_act_333 rfl rfl ?_
    refine mm_iload (n := 337) (i := 5) smd_M_act_335 rfl rfl ?_
    refine mm_iadd (n := 338) smd_M_act_337 rfl ?_
    refine mm_iload (n := 340) (i := 6) smd_M_act_338 rfl rfl ?_
    refine mm_callVI (n := 343) (As := [.int x1, .int (x8 + x5), .int x6]) (rest := []) smv_M_create smw_745 smb_M (mm_hRm (by decide) (by decide)) smd_M_act_340 rfl rfl (Nat.le_of_ble_eq_true rfl) hT (fun r340 h340 hT => ?_)
    exact mm_iret rfl smd_M_act_343 ⟨_, rfl, hT⟩
  have n6 := e
  clear e
  by_cases e : x4 = 7
  · refine mm_tIn (tgt := 344) smd_M_act_109 7 e (by decide) (by decide) rfl rfl ?_
    replace hT := hT.2.2.2.2.2.2.2.1 (Or.inl e)
    refine mm_aload_n (n := 345) (i := 0) smd_M_act_344 rfl rfl rfl ?_
    refine mm_iload_n (n := 346) (i := 1) smd_M_act_345 rfl rfl rfl ?_
    refine mm_iload (n := 348) (i := 4) smd_M_act_346 rfl rfl ?_
    refine mm_iload (n := 350) (i := 8) smd_M_act_348 rfl rfl ?_
    refine mm_iload (n := 352) (i := 5) smd_M_act_350 rfl rfl ?_
    refine mm_iload (n := 354) (i := 6) smd_M_act_352 rfl rfl ?_
    refine mm_iload (n := 356) (i := 7) smd_M_act_354 rfl rfl ?_
    refine mm_callVI (n := 359) (As := [.int x1, .int x4, .int x8, .int x5, .int x6, .int x7]) (rest := []) smv_M_access smw_757 smb_M (mm_hRm (by decide) (by decide)) smd_M_act_356 rfl rfl (Nat.le_of_ble_eq_true rfl) hT (fun r356 h356 hT => ?_)
    exact mm_iret rfl smd_M_act_359 ⟨_, rfl, hT⟩
  have n7 := e
  clear e
  by_cases e : x4 = 8
  · refine mm_tIn (tgt := 344) smd_M_act_109 8 e (by decide) (by decide) rfl rfl ?_
    replace hT := hT.2.2.2.2.2.2.2.1 (Or.inr (e))
    refine mm_aload_n (n := 345) (i := 0) smd_M_act_344 rfl rfl rfl ?_
    refine mm_iload_n (n := 346) (i := 1) smd_M_act_345 rfl rfl rfl ?_
    refine mm_iload (n := 348) (i := 4) smd_M_act_346 rfl rfl ?_
    refine mm_iload (n := 350) (i := 8) smd_M_act_348 rfl rfl ?_
    refine mm_iload (n := 352) (i := 5) smd_M_act_350 rfl rfl ?_
    refine mm_iload (n := 354) (i := 6) smd_M_act_352 rfl rfl ?_
    refine mm_iload (n := 356) (i := 7) smd_M_act_354 rfl rfl ?_
    refine mm_callVI (n := 359) (As := [.int x1, .int x4, .int x8, .int x5, .int x6, .int x7]) (rest := []) smv_M_access smw_757 smb_M (mm_hRm (by decide) (by decide)) smd_M_act_356 rfl rfl (Nat.le_of_ble_eq_true rfl) hT (fun r356 h356 hT => ?_)
    exact mm_iret rfl smd_M_act_359 ⟨_, rfl, hT⟩
  have n8 := e
  clear e
  by_cases e : x4 = 9
  · refine mm_tIn (tgt := 360) smd_M_act_109 9 e (by decide) (by decide) rfl rfl ?_
    replace hT := hT.2.2.2.2.2.2.2.2.1 (e)
    refine mm_aload_n (n := 361) (i := 0) smd_M_act_360 rfl rfl rfl ?_
    refine mm_get (n := 364) (v := .ref (mm_B Γ + 78)) smk_M_50 smb_M rfl smd_M_act_361 rfl ?_
    refine mm_iload (n := 366) (i := 8) smd_M_act_364 rfl rfl ?_
    refine mm_iload (n := 368) (i := 5) smd_M_act_366 rfl rfl ?_
    refine mm_iadd (n := 369) smd_M_act_368 rfl ?_
    refine mm_aload_n (n := 370) (i := 0) smd_M_act_369 rfl rfl rfl ?_
    refine mm_get (n := 373) (v := .ref (mm_B Γ + 70)) smk_M_26 smb_M rfl smd_M_act_370 rfl ?_
    refine mm_iload (n := 375) (i := 6) smd_M_act_373 rfl rfl ?_
    refine mm_iald (n := 376) sma_70 hT.1 smd_M_act_375 rfl ?_
    replace hT := hT.2
    refine mm_iast (n := 377) sma_78 hT.1 smd_M_act_376 rfl ?_
    replace hT := hT.2
    refine mm_nam (fun h376 e_h376 => ?_)
    replace hT := hT h376 e_h376
    refine mm_iconst (n := 378) (v := 0) smd_M_act_377 rfl (by decide) ?_
    exact mm_iret rfl smd_M_act_378 ⟨_, rfl, hT⟩
  have n9 := e
  clear e
  by_cases e : x4 = 10
  · refine mm_tIn (tgt := 379) smd_M_act_109 10 e (by decide) (by decide) rfl rfl ?_
    replace hT := hT.2.2.2.2.2.2.2.2.2.1 (e)
    refine mm_aload_n (n := 380) (i := 0) smd_M_act_379 rfl rfl rfl ?_
    refine mm_get (n := 383) (v := .ref (mm_B Γ + 70)) smk_M_26 smb_M rfl smd_M_act_380 rfl ?_
    refine mm_iload (n := 385) (i := 6) smd_M_act_383 rfl rfl ?_
    refine mm_aload_n (n := 386) (i := 0) smd_M_act_385 rfl rfl rfl ?_
    refine mm_get (n := 389) (v := .ref (mm_B Γ + 78)) smk_M_50 smb_M rfl smd_M_act_386 rfl ?_
    refine mm_iload (n := 391) (i := 8) smd_M_act_389 rfl rfl ?_
    refine mm_iload (n := 393) (i := 5) smd_M_act_391 rfl rfl ?_
    refine mm_iadd (n := 394) smd_M_act_393 rfl ?_
    refine mm_iald (n := 395) sma_78 hT.1 smd_M_act_394 rfl ?_
    replace hT := hT.2
    refine mm_iast (n := 396) sma_70 hT.1 smd_M_act_395 rfl ?_
    replace hT := hT.2
    refine mm_nam (fun h395 e_h395 => ?_)
    replace hT := hT h395 e_h395
    refine mm_iconst (n := 397) (v := 0) smd_M_act_396 rfl (by decide) ?_
    exact mm_iret rfl smd_M_act_397 ⟨_, rfl, hT⟩
  have n10 := e
  clear e
  by_cases e : x4 = 11
  · refine mm_tIn (tgt := 398) smd_M_act_109 11 e (by decide) (by decide) rfl rfl ?_
    replace hT := hT.2.2.2.2.2.2.2.2.2.2.1 (e)
    refine mm_aload_n (n := 399) (i := 0) smd_M_act_398 rfl rfl rfl ?_
    refine mm_get (n := 402) (v := .ref (mm_B Γ + 78)) smk_M_50 smb_M rfl smd_M_act_399 rfl ?_
    refine mm_iload (n := 404) (i := 8) smd_M_act_402 rfl rfl ?_
    refine mm_iload (n := 406) (i := 5) smd_M_act_404 rfl rfl ?_
    refine mm_iadd (n := 407) smd_M_act_406 rfl ?_
    refine mm_aload_n (n := 408) (i := 0) smd_M_act_407 rfl rfl rfl ?_
    refine mm_iload_n (n := 409) (i := 1) smd_M_act_408 rfl rfl rfl ?_
    refine mm_callVI (n := 412) (As := [.int x1]) (rest := [.int (x8 + x5), .ref (mm_B Γ + 78)]) smv_M_take smw_761 smb_M (mm_hRm (by decide) (by decide)) smd_M_act_409 rfl rfl (Nat.le_of_ble_eq_true rfl) hT (fun r409 h409 hT => ?_)
    refine mm_iast (n := 413) sma_78 hT.1 smd_M_act_412 rfl ?_
    replace hT := hT.2
    refine mm_nam (fun h412 e_h412 => ?_)
    replace hT := hT h412 e_h412
    refine mm_iconst (n := 414) (v := 0) smd_M_act_413 rfl (by decide) ?_
    exact mm_iret rfl smd_M_act_414 ⟨_, rfl, hT⟩
  have n11 := e
  clear e
  refine mm_tOut (tgt := 415) smd_M_act_109 (by have m0 := lv_neT n0 (show (0 : Int32).toInt = 0 by decide); have m1 := lv_neT n1 (show (1 : Int32).toInt = 1 by decide); have m2 := lv_neT n2 (show (2 : Int32).toInt = 2 by decide); have m3 := lv_neT n3 (show (3 : Int32).toInt = 3 by decide); have m4 := lv_neT n4 (show (4 : Int32).toInt = 4 by decide); have m5 := lv_neT n5 (show (5 : Int32).toInt = 5 by decide); have m6 := lv_neT n6 (show (6 : Int32).toInt = 6 by decide); have m7 := lv_neT n7 (show (7 : Int32).toInt = 7 by decide); have m8 := lv_neT n8 (show (8 : Int32).toInt = 8 by decide); have m9 := lv_neT n9 (show (9 : Int32).toInt = 9 by decide); have m10 := lv_neT n10 (show (10 : Int32).toInt = 10 by decide); have m11 := lv_neT n11 (show (11 : Int32).toInt = 11 by decide); omega) rfl ?_
  replace hT := hT.2.2.2.2.2.2.2.2.2.2.2 n0 n1 n2 n3 n4 n5 n6 n7 n8 n9 n10 n11
  refine mm_iconst (n := 416) (v := 0) smd_M_act_415 rfl (by decide) ?_
  exact mm_iret rfl smd_M_act_416 ⟨_, rfl, hT⟩
set_option maxHeartbeats 4000000 in
set_option maxRecDepth 100000 in
theorem smr_M_create {Γ : mm_Ctx} {post : Int32 → mm_Mem → Prop} {h : mm_Mem} (x1 : Int32) (x2 : Int32) (x3 : Int32) (hT : mm_SI Γ smM_M_make [.ref (mm_B Γ + 64), .int x3] h (fun r2 h2 => (¬ r2 = 0 → ((vp_in x2 252) ∧ (∀ h25 : mm_Mem, h25 = mm_wr h2 78 x2.toNatClampNeg r2 → (post (0 : Int32) h25)))) ∧ (r2 = 0 → (mm_SI Γ smM_M_fault [.ref (mm_B Γ + 64), .int x1] h2 (fun r14 h14 => post r14 h14))))) : mm_SI Γ smM_M_create [.ref (mm_B Γ + 64), .int x1, .int x2, .int x3] h post := by
  refine mm_spec0 (M := smM_M_create) 1 (by decide +kernel) rfl (Nat.le_of_ble_eq_true rfl) ?_
  show mm_W Γ smM_M_create (mm_pI post) 0 [some (.ref (mm_B Γ + 64)), some (.int x1), some (.int x2), some (.int x3), none] [] h
  refine mm_aload_n (n := 1) (i := 0) smd_M_create_0 rfl rfl rfl ?_
  refine mm_iload_n (n := 2) (i := 3) smd_M_create_1 rfl rfl rfl ?_
  refine mm_callVI (n := 5) (As := [.int x3]) (rest := []) smv_M_make smw_749 smb_M (mm_hRm (by decide) (by decide)) smd_M_create_2 rfl rfl (Nat.le_of_ble_eq_true rfl) hT (fun r2 h2 hT => ?_)
  refine mm_istore (n := 7) (i := 4) (L' := [some (.ref (mm_B Γ + 64)), some (.int x1), some (.int x2), some (.int x3), some (.int r2)]) smd_M_create_5 rfl (by decide) rfl ?_
  refine mm_iload (n := 9) (i := 4) smd_M_create_7 rfl rfl ?_
  refine mm_if_ne (n := 12) (tgt := 18) smd_M_create_9 rfl rfl (fun hc => ?_) (fun hc => ?_)
  · replace hT := hT.1 hc
    refine mm_aload_n (n := 19) (i := 0) smd_M_create_18 rfl rfl rfl ?_
    refine mm_get (n := 22) (v := .ref (mm_B Γ + 78)) smk_M_50 smb_M rfl smd_M_create_19 rfl ?_
    refine mm_iload_n (n := 23) (i := 2) smd_M_create_22 rfl rfl rfl ?_
    refine mm_iload (n := 25) (i := 4) smd_M_create_23 rfl rfl ?_
    refine mm_iast (n := 26) sma_78 hT.1 smd_M_create_25 rfl ?_
    replace hT := hT.2
    refine mm_nam (fun h25 e_h25 => ?_)
    replace hT := hT h25 e_h25
    refine mm_iconst (n := 27) (v := 0) smd_M_create_26 rfl (by decide) ?_
    exact mm_iret rfl smd_M_create_27 ⟨_, rfl, hT⟩
  · replace hT := hT.2 hc
    refine mm_aload_n (n := 13) (i := 0) smd_M_create_12 rfl rfl rfl ?_
    refine mm_iload_n (n := 14) (i := 1) smd_M_create_13 rfl rfl rfl ?_
    refine mm_callVI (n := 17) (As := [.int x1]) (rest := []) smv_M_fault smw_741 smb_M (mm_hRm (by decide) (by decide)) smd_M_create_14 rfl rfl (Nat.le_of_ble_eq_true rfl) hT (fun r14 h14 hT => ?_)
    exact mm_iret rfl smd_M_create_17 ⟨_, rfl, hT⟩
set_option maxHeartbeats 4000000 in
set_option maxRecDepth 100000 in
theorem smr_M_access {Γ : mm_Ctx} {post : Int32 → mm_Mem → Prop} {h : mm_Mem} (x1 : Int32) (x2 : Int32) (x3 : Int32) (x4 : Int32) (x5 : Int32) (x6 : Int32) (hT : (¬ x2 = (7 : Int32) → ((vp_in (x3 + x4) 252) ∧ (mm_W Γ smM_M_access (mm_pI post) 27 [some (.ref (mm_B Γ + 64)), some (.int x1), some (.int x2), some (.int x3), some (.int x4), some (.int x5), some (.int x6), none] [.int (h 78 (x3 + x4).toNatClampNeg)] h))) ∧ (x2 = (7 : Int32) → ((vp_in (x3 + x5) 252) ∧ (mm_W Γ smM_M_access (mm_pI post) 27 [some (.ref (mm_B Γ + 64)), some (.int x1), some (.int x2), some (.int x3), some (.int x4), some (.int x5), some (.int x6), none] [.int (h 78 (x3 + x5).toNatClampNeg)] h)))) : mm_SI Γ smM_M_access [.ref (mm_B Γ + 64), .int x1, .int x2, .int x3, .int x4, .int x5, .int x6] h post := by
  refine mm_spec0 (M := smM_M_access) 1 (by decide +kernel) rfl (Nat.le_of_ble_eq_true rfl) ?_
  show mm_W Γ smM_M_access (mm_pI post) 0 [some (.ref (mm_B Γ + 64)), some (.int x1), some (.int x2), some (.int x3), some (.int x4), some (.int x5), some (.int x6), none] [] h
  refine mm_iload_n (n := 1) (i := 2) smd_M_access_0 rfl rfl rfl ?_
  refine mm_bipush (n := 3) (v := 7) smd_M_access_1 rfl (by decide) ?_
  refine mm_icmp_ne (n := 6) (tgt := 18) smd_M_access_3 rfl rfl (fun hc => ?_) (fun hc => ?_)
  · replace hT := hT.1 hc
    refine mm_aload_n (n := 19) (i := 0) smd_M_access_18 rfl rfl rfl ?_
    refine mm_get (n := 22) (v := .ref (mm_B Γ + 78)) smk_M_50 smb_M rfl smd_M_access_19 rfl ?_
    refine mm_iload_n (n := 23) (i := 3) smd_M_access_22 rfl rfl rfl ?_
    refine mm_iload (n := 25) (i := 4) smd_M_access_23 rfl rfl ?_
    refine mm_iadd (n := 26) smd_M_access_25 rfl ?_
    refine mm_iald (n := 27) sma_78 hT.1 smd_M_access_26 rfl ?_
    replace hT := hT.2
    exact mm_weak (by refine ⟨rfl, rfl, rfl, rfl, rfl, rfl, rfl, trivial⟩) hT
  · replace hT := hT.2 hc
    refine mm_aload_n (n := 7) (i := 0) smd_M_access_6 rfl rfl rfl ?_
    refine mm_get (n := 10) (v := .ref (mm_B Γ + 78)) smk_M_50 smb_M rfl smd_M_access_7 rfl ?_
    refine mm_iload_n (n := 11) (i := 3) smd_M_access_10 rfl rfl rfl ?_
    refine mm_iload (n := 13) (i := 5) smd_M_access_11 rfl rfl ?_
    refine mm_iadd (n := 14) smd_M_access_13 rfl ?_
    refine mm_iald (n := 15) sma_78 hT.1 smd_M_access_14 rfl ?_
    replace hT := hT.2
    refine mm_goto (n := 27) smd_M_access_15 rfl ?_
    exact mm_weak (by refine ⟨rfl, rfl, rfl, rfl, rfl, rfl, rfl, trivial⟩) hT
set_option maxHeartbeats 4000000 in
set_option maxRecDepth 100000 in
theorem smr_M_access_27 {Γ : mm_Ctx} {post : Int32 → mm_Mem → Prop} {h : mm_Mem} (x1 : Int32) (x2 : Int32) (x3 : Int32) (x4 : Int32) (x5 : Int32) (x6 : Int32) (s0 : Int32) (hT : mm_SI Γ smM_M_isObject [.ref (mm_B Γ + 64), .int s0] h (fun r32 h32 => (r32 = 0 → (mm_SI Γ smM_M_fault [.ref (mm_B Γ + 64), .int x1] h32 (fun r54 h54 => post r54 h54))) ∧ (¬ r32 = 0 → ((vp_in s0 17) ∧ (((h32 71 s0.toNatClampNeg) = (x6 / (4 : Int32)) → ((¬ x2 = (7 : Int32) → ((vp_in (x3 + x5) 252) ∧ ((vp_in (((4 : Int32) * s0) + (x6 - x6 / (4 : Int32) * (4 : Int32))) 68) ∧ (∀ h112 : mm_Mem, h112 = mm_wr h32 72 (((4 : Int32) * s0) + (x6 - x6 / (4 : Int32) * (4 : Int32))).toNatClampNeg (h32 78 (x3 + x5).toNatClampNeg) → (post (0 : Int32) h112))))) ∧ (x2 = (7 : Int32) → ((vp_in (((4 : Int32) * s0) + (x6 - x6 / (4 : Int32) * (4 : Int32))) 68) ∧ ((vp_in (x3 + x4) 252) ∧ (∀ h86 : mm_Mem, h86 = mm_wr h32 78 (x3 + x4).toNatClampNeg (h32 72 (((4 : Int32) * s0) + (x6 - x6 / (4 : Int32) * (4 : Int32))).toNatClampNeg) → (post (0 : Int32) h86))))))) ∧ (¬ (h32 71 s0.toNatClampNeg) = (x6 / (4 : Int32)) → (mm_SI Γ smM_M_fault [.ref (mm_B Γ + 64), .int x1] h32 (fun r54 h54 => post r54 h54)))))))) : mm_W Γ smM_M_access (mm_pI post) 27 [some (.ref (mm_B Γ + 64)), some (.int x1), some (.int x2), some (.int x3), some (.int x4), some (.int x5), some (.int x6), none] [.int s0] h := by
  refine mm_istore (n := 29) (i := 7) (L' := [some (.ref (mm_B Γ + 64)), some (.int x1), some (.int x2), some (.int x3), some (.int x4), some (.int x5), some (.int x6), some (.int s0)]) smd_M_access_27 rfl (by decide) rfl ?_
  refine mm_aload_n (n := 30) (i := 0) smd_M_access_29 rfl rfl rfl ?_
  refine mm_iload (n := 32) (i := 7) smd_M_access_30 rfl rfl ?_
  refine mm_callVI (n := 35) (As := [.int s0]) (rest := []) smv_M_isObject smw_676 smb_M (mm_hRm (by decide) (by decide)) smd_M_access_32 rfl rfl (Nat.le_of_ble_eq_true rfl) hT (fun r32 h32 hT => ?_)
  refine mm_if_eq (n := 38) (tgt := 52) smd_M_access_35 rfl rfl (fun hc => ?_) (fun hc => ?_)
  · replace hT := hT.1 hc
    refine mm_aload_n (n := 53) (i := 0) smd_M_access_52 rfl rfl rfl ?_
    refine mm_iload_n (n := 54) (i := 1) smd_M_access_53 rfl rfl rfl ?_
    refine mm_callVI (n := 57) (As := [.int x1]) (rest := []) smv_M_fault smw_741 smb_M (mm_hRm (by decide) (by decide)) smd_M_access_54 rfl rfl (Nat.le_of_ble_eq_true rfl) hT (fun r54 h54 hT => ?_)
    exact mm_iret rfl smd_M_access_57 ⟨_, rfl, hT⟩
  · replace hT := hT.2 hc
    refine mm_aload_n (n := 39) (i := 0) smd_M_access_38 rfl rfl rfl ?_
    refine mm_get (n := 42) (v := .ref (mm_B Γ + 71)) smk_M_29 smb_M rfl smd_M_access_39 rfl ?_
    refine mm_iload (n := 44) (i := 7) smd_M_access_42 rfl rfl ?_
    refine mm_iald (n := 45) sma_71 hT.1 smd_M_access_44 rfl ?_
    replace hT := hT.2
    refine mm_iload (n := 47) (i := 6) smd_M_access_45 rfl rfl ?_
    refine mm_iconst (n := 48) (v := 4) smd_M_access_47 rfl (by decide) ?_
    refine mm_idiv (n := 49) smd_M_access_48 rfl (by decide) ?_
    refine mm_icmp_eq (n := 52) (tgt := 58) smd_M_access_49 rfl rfl (fun hc => ?_) (fun hc => ?_)
    · replace hT := hT.1 hc
      refine mm_iload_n (n := 59) (i := 2) smd_M_access_58 rfl rfl rfl ?_
      refine mm_bipush (n := 61) (v := 7) smd_M_access_59 rfl (by decide) ?_
      refine mm_icmp_ne (n := 64) (tgt := 90) smd_M_access_61 rfl rfl (fun hc => ?_) (fun hc => ?_)
      · replace hT := hT.1 hc
        refine mm_aload_n (n := 91) (i := 0) smd_M_access_90 rfl rfl rfl ?_
        refine mm_get (n := 94) (v := .ref (mm_B Γ + 72)) smk_M_32 smb_M rfl smd_M_access_91 rfl ?_
        refine mm_iconst (n := 95) (v := 4) smd_M_access_94 rfl (by decide) ?_
        refine mm_iload (n := 97) (i := 7) smd_M_access_95 rfl rfl ?_
        refine mm_imul (n := 98) smd_M_access_97 rfl ?_
        refine mm_iload (n := 100) (i := 6) smd_M_access_98 rfl rfl ?_
        refine mm_iconst (n := 101) (v := 4) smd_M_access_100 rfl (by decide) ?_
        refine mm_irem (n := 102) smd_M_access_101 rfl (by decide) ?_
        refine mm_iadd (n := 103) smd_M_access_102 rfl ?_
        refine mm_aload_n (n := 104) (i := 0) smd_M_access_103 rfl rfl rfl ?_
        refine mm_get (n := 107) (v := .ref (mm_B Γ + 78)) smk_M_50 smb_M rfl smd_M_access_104 rfl ?_
        refine mm_iload_n (n := 108) (i := 3) smd_M_access_107 rfl rfl rfl ?_
        refine mm_iload (n := 110) (i := 5) smd_M_access_108 rfl rfl ?_
        refine mm_iadd (n := 111) smd_M_access_110 rfl ?_
        refine mm_iald (n := 112) sma_78 hT.1 smd_M_access_111 rfl ?_
        replace hT := hT.2
        refine mm_iast (n := 113) sma_72 hT.1 smd_M_access_112 rfl ?_
        replace hT := hT.2
        refine mm_nam (fun h112 e_h112 => ?_)
        replace hT := hT h112 e_h112
        refine mm_iconst (n := 114) (v := 0) smd_M_access_113 rfl (by decide) ?_
        exact mm_iret rfl smd_M_access_114 ⟨_, rfl, hT⟩
      · replace hT := hT.2 hc
        refine mm_aload_n (n := 65) (i := 0) smd_M_access_64 rfl rfl rfl ?_
        refine mm_get (n := 68) (v := .ref (mm_B Γ + 78)) smk_M_50 smb_M rfl smd_M_access_65 rfl ?_
        refine mm_iload_n (n := 69) (i := 3) smd_M_access_68 rfl rfl rfl ?_
        refine mm_iload (n := 71) (i := 4) smd_M_access_69 rfl rfl ?_
        refine mm_iadd (n := 72) smd_M_access_71 rfl ?_
        refine mm_aload_n (n := 73) (i := 0) smd_M_access_72 rfl rfl rfl ?_
        refine mm_get (n := 76) (v := .ref (mm_B Γ + 72)) smk_M_32 smb_M rfl smd_M_access_73 rfl ?_
        refine mm_iconst (n := 77) (v := 4) smd_M_access_76 rfl (by decide) ?_
        refine mm_iload (n := 79) (i := 7) smd_M_access_77 rfl rfl ?_
        refine mm_imul (n := 80) smd_M_access_79 rfl ?_
        refine mm_iload (n := 82) (i := 6) smd_M_access_80 rfl rfl ?_
        refine mm_iconst (n := 83) (v := 4) smd_M_access_82 rfl (by decide) ?_
        refine mm_irem (n := 84) smd_M_access_83 rfl (by decide) ?_
        refine mm_iadd (n := 85) smd_M_access_84 rfl ?_
        refine mm_iald (n := 86) sma_72 hT.1 smd_M_access_85 rfl ?_
        replace hT := hT.2
        refine mm_iast (n := 87) sma_78 hT.1 smd_M_access_86 rfl ?_
        replace hT := hT.2
        refine mm_nam (fun h86 e_h86 => ?_)
        replace hT := hT h86 e_h86
        refine mm_goto (n := 113) smd_M_access_87 rfl ?_
        refine mm_iconst (n := 114) (v := 0) smd_M_access_113 rfl (by decide) ?_
        exact mm_iret rfl smd_M_access_114 ⟨_, rfl, hT⟩
    · replace hT := hT.2 hc
      refine mm_aload_n (n := 53) (i := 0) smd_M_access_52 rfl rfl rfl ?_
      refine mm_iload_n (n := 54) (i := 1) smd_M_access_53 rfl rfl rfl ?_
      refine mm_callVI (n := 57) (As := [.int x1]) (rest := []) smv_M_fault smw_741 smb_M (mm_hRm (by decide) (by decide)) smd_M_access_54 rfl rfl (Nat.le_of_ble_eq_true rfl) hT (fun r54 h54 hT => ?_)
      exact mm_iret rfl smd_M_access_57 ⟨_, rfl, hT⟩
set_option maxHeartbeats 4000000 in
set_option maxRecDepth 100000 in
theorem smr_M_step {Γ : mm_Ctx} {post : Int32 → mm_Mem → Prop} {h : mm_Mem} (x1 : Int32) (x2 : Int32) (hT : mm_SI Γ smM_M_isTask [.ref (mm_B Γ + 64), .int x1] h (fun r2 h2 => (r2 = 0 → (post (-1 : Int32) h2)) ∧ (¬ r2 = 0 → ((x2 < (1 : Int32) → (post (-1 : Int32) h2)) ∧ (¬ x2 < (1 : Int32) → ((x2 ≤ (200 : Int32) → ((vp_in x1 7) ∧ ((¬ (h2 75 x1.toNatClampNeg) = (1 : Int32) → ((vp_in x1 7) ∧ (∀ y3_42 : Int32, y3_42 = h2 75 x1.toNatClampNeg → (mm_W Γ smM_M_step (mm_pI post) 46 [some (.ref (mm_B Γ + 64)), some (.int x1), some (.int x2), some (.int y3_42), some (.int (0 : Int32))] [] h2)))) ∧ ((h2 75 x1.toNatClampNeg) = (1 : Int32) → (mm_W Γ smM_M_step (mm_pI post) 46 [some (.ref (mm_B Γ + 64)), some (.int x1), some (.int x2), some (.int (0 : Int32)), some (.int (0 : Int32))] [] h2))))) ∧ (¬ x2 ≤ (200 : Int32) → (post (-1 : Int32) h2)))))))) : mm_SI Γ smM_M_step [.ref (mm_B Γ + 64), .int x1, .int x2] h post := by
  refine mm_spec0 (M := smM_M_step) 2 (by decide +kernel) rfl (Nat.le_of_ble_eq_true rfl) ?_
  show mm_W Γ smM_M_step (mm_pI post) 0 [some (.ref (mm_B Γ + 64)), some (.int x1), some (.int x2), none, none] [] h
  refine mm_aload_n (n := 1) (i := 0) smd_M_step_0 rfl rfl rfl ?_
  refine mm_iload_n (n := 2) (i := 1) smd_M_step_1 rfl rfl rfl ?_
  refine mm_callVI (n := 5) (As := [.int x1]) (rest := []) smv_M_isTask smw_729 smb_M (mm_hRm (by decide) (by decide)) smd_M_step_2 rfl rfl (Nat.le_of_ble_eq_true rfl) hT (fun r2 h2 hT => ?_)
  refine mm_if_eq (n := 8) (tgt := 20) smd_M_step_5 rfl rfl (fun hc => ?_) (fun hc => ?_)
  · replace hT := hT.1 hc
    refine mm_iconst (n := 21) (v := -1) smd_M_step_20 rfl (by decide) ?_
    exact mm_iret rfl smd_M_step_21 ⟨_, rfl, hT⟩
  · replace hT := hT.2 hc
    refine mm_iload_n (n := 9) (i := 2) smd_M_step_8 rfl rfl rfl ?_
    refine mm_iconst (n := 10) (v := 1) smd_M_step_9 rfl (by decide) ?_
    refine mm_icmp_lt (n := 13) (tgt := 20) smd_M_step_10 rfl rfl (fun hc => ?_) (fun hc => ?_)
    · replace hT := hT.1 hc
      refine mm_iconst (n := 21) (v := -1) smd_M_step_20 rfl (by decide) ?_
      exact mm_iret rfl smd_M_step_21 ⟨_, rfl, hT⟩
    · replace hT := hT.2 hc
      refine mm_iload_n (n := 14) (i := 2) smd_M_step_13 rfl rfl rfl ?_
      refine mm_sipush (n := 17) (v := 200) smd_M_step_14 rfl (by decide) ?_
      refine mm_icmp_le (n := 20) (tgt := 22) smd_M_step_17 rfl rfl (fun hc => ?_) (fun hc => ?_)
      · replace hT := hT.1 hc
        refine mm_aload_n (n := 23) (i := 0) smd_M_step_22 rfl rfl rfl ?_
        refine mm_get (n := 26) (v := .ref (mm_B Γ + 75)) smk_M_41 smb_M rfl smd_M_step_23 rfl ?_
        refine mm_iload_n (n := 27) (i := 1) smd_M_step_26 rfl rfl rfl ?_
        refine mm_iald (n := 28) sma_75 hT.1 smd_M_step_27 rfl ?_
        replace hT := hT.2
        refine mm_iconst (n := 29) (v := 1) smd_M_step_28 rfl (by decide) ?_
        refine mm_icmp_ne (n := 32) (tgt := 36) smd_M_step_29 rfl rfl (fun hc => ?_) (fun hc => ?_)
        · replace hT := hT.1 hc
          refine mm_aload_n (n := 37) (i := 0) smd_M_step_36 rfl rfl rfl ?_
          refine mm_get (n := 40) (v := .ref (mm_B Γ + 75)) smk_M_41 smb_M rfl smd_M_step_37 rfl ?_
          refine mm_iload_n (n := 41) (i := 1) smd_M_step_40 rfl rfl rfl ?_
          refine mm_iald (n := 42) sma_75 hT.1 smd_M_step_41 rfl ?_
          replace hT := hT.2
          refine mm_top (fun y3_42 e_y3_42 => ?_)
          replace hT := hT y3_42 e_y3_42
          refine mm_istore_n (n := 43) (i := 3) (L' := [some (.ref (mm_B Γ + 64)), some (.int x1), some (.int x2), some (.int y3_42), none]) smd_M_step_42 rfl rfl (by decide) rfl ?_
          refine mm_iconst (n := 44) (v := 0) smd_M_step_43 rfl (by decide) ?_
          refine mm_istore (n := 46) (i := 4) (L' := [some (.ref (mm_B Γ + 64)), some (.int x1), some (.int x2), some (.int y3_42), some (.int (0 : Int32))]) smd_M_step_44 rfl (by decide) rfl ?_
          exact mm_weak (by refine ⟨rfl, rfl, rfl, rfl, rfl, trivial⟩) hT
        · replace hT := hT.2 hc
          refine mm_iconst (n := 33) (v := 0) smd_M_step_32 rfl (by decide) ?_
          refine mm_goto (n := 42) smd_M_step_33 rfl ?_
          refine mm_istore_n (n := 43) (i := 3) (L' := [some (.ref (mm_B Γ + 64)), some (.int x1), some (.int x2), some (.int (0 : Int32)), none]) smd_M_step_42 rfl rfl (by decide) rfl ?_
          refine mm_iconst (n := 44) (v := 0) smd_M_step_43 rfl (by decide) ?_
          refine mm_istore (n := 46) (i := 4) (L' := [some (.ref (mm_B Γ + 64)), some (.int x1), some (.int x2), some (.int (0 : Int32)), some (.int (0 : Int32))]) smd_M_step_44 rfl (by decide) rfl ?_
          exact mm_weak (by refine ⟨rfl, rfl, rfl, rfl, rfl, trivial⟩) hT
      · replace hT := hT.2 hc
        refine mm_iconst (n := 21) (v := -1) smd_M_step_20 rfl (by decide) ?_
        exact mm_iret rfl smd_M_step_21 ⟨_, rfl, hT⟩
set_option maxHeartbeats 4000000 in
set_option maxRecDepth 100000 in
theorem smr_M_step_46 {Γ : mm_Ctx} {post : Int32 → mm_Mem → Prop} {h : mm_Mem} (x1 : Int32) (x2 : Int32) (x3 : Int32) (x4 : Int32) (hT : (x2 ≤ x4 → ((vp_in x1 7) ∧ (∀ h74 : mm_Mem, h74 = mm_wr h 75 x1.toNatClampNeg x3 → (post x3 h74)))) ∧ (¬ x2 ≤ x4 → ((¬ x3 = 0 → ((vp_in x1 7) ∧ (∀ h74 : mm_Mem, h74 = mm_wr h 75 x1.toNatClampNeg x3 → (post x3 h74)))) ∧ (x3 = 0 → (mm_SI Γ smM_M_act [.ref (mm_B Γ + 64), .int x1] h (fun r58 h58 => mm_W Γ smM_M_step (mm_pI post) 46 [some (.ref (mm_B Γ + 64)), some (.int x1), some (.int x2), some (.int r58), some (.int (x4 + (1 : Int32)))] [] h58)))))) : mm_W Γ smM_M_step (mm_pI post) 46 [some (.ref (mm_B Γ + 64)), some (.int x1), some (.int x2), some (.int x3), some (.int x4)] [] h := by
  refine mm_iload (n := 48) (i := 4) smd_M_step_46 rfl rfl ?_
  refine mm_iload_n (n := 49) (i := 2) smd_M_step_48 rfl rfl rfl ?_
  refine mm_icmp_ge (n := 52) (tgt := 68) smd_M_step_49 rfl rfl (fun hc => ?_) (fun hc => ?_)
  · replace hT := hT.1 hc
    refine mm_aload_n (n := 69) (i := 0) smd_M_step_68 rfl rfl rfl ?_
    refine mm_get (n := 72) (v := .ref (mm_B Γ + 75)) smk_M_41 smb_M rfl smd_M_step_69 rfl ?_
    refine mm_iload_n (n := 73) (i := 1) smd_M_step_72 rfl rfl rfl ?_
    refine mm_iload_n (n := 74) (i := 3) smd_M_step_73 rfl rfl rfl ?_
    refine mm_iast (n := 75) sma_75 hT.1 smd_M_step_74 rfl ?_
    replace hT := hT.2
    refine mm_nam (fun h74 e_h74 => ?_)
    replace hT := hT h74 e_h74
    refine mm_iload_n (n := 76) (i := 3) smd_M_step_75 rfl rfl rfl ?_
    exact mm_iret rfl smd_M_step_76 ⟨_, rfl, hT⟩
  · replace hT := hT.2 hc
    refine mm_iload_n (n := 53) (i := 3) smd_M_step_52 rfl rfl rfl ?_
    refine mm_if_ne (n := 56) (tgt := 68) smd_M_step_53 rfl rfl (fun hc => ?_) (fun hc => ?_)
    · replace hT := hT.1 hc
      refine mm_aload_n (n := 69) (i := 0) smd_M_step_68 rfl rfl rfl ?_
      refine mm_get (n := 72) (v := .ref (mm_B Γ + 75)) smk_M_41 smb_M rfl smd_M_step_69 rfl ?_
      refine mm_iload_n (n := 73) (i := 1) smd_M_step_72 rfl rfl rfl ?_
      refine mm_iload_n (n := 74) (i := 3) smd_M_step_73 rfl rfl rfl ?_
      refine mm_iast (n := 75) sma_75 hT.1 smd_M_step_74 rfl ?_
      replace hT := hT.2
      refine mm_nam (fun h74 e_h74 => ?_)
      replace hT := hT h74 e_h74
      refine mm_iload_n (n := 76) (i := 3) smd_M_step_75 rfl rfl rfl ?_
      exact mm_iret rfl smd_M_step_76 ⟨_, rfl, hT⟩
    · replace hT := hT.2 hc
      refine mm_aload_n (n := 57) (i := 0) smd_M_step_56 rfl rfl rfl ?_
      refine mm_iload_n (n := 58) (i := 1) smd_M_step_57 rfl rfl rfl ?_
      refine mm_callVI (n := 61) (As := [.int x1]) (rest := []) smv_M_act smw_733 smb_M (mm_hRm (by decide) (by decide)) smd_M_step_58 rfl rfl (Nat.le_of_ble_eq_true rfl) hT (fun r58 h58 hT => ?_)
      refine mm_istore_n (n := 62) (i := 3) (L' := [some (.ref (mm_B Γ + 64)), some (.int x1), some (.int x2), some (.int r58), some (.int x4)]) smd_M_step_61 rfl rfl (by decide) rfl ?_
      refine mm_iinc (n := 65) (i := 4) (d := 1) (L' := [some (.ref (mm_B Γ + 64)), some (.int x1), some (.int x2), some (.int r58), some (.int (x4 + (1 : Int32)))]) smd_M_step_62 rfl rfl (by decide) (by decide) rfl ?_
      refine mm_goto (n := 46) smd_M_step_65 rfl ?_
      exact mm_weak (by refine ⟨rfl, rfl, rfl, rfl, rfl, trivial⟩) hT
set_option maxHeartbeats 4000000 in
set_option maxRecDepth 100000 in
theorem smr_M_send {Γ : mm_Ctx} {post : Int32 → mm_Mem → Prop} {h : mm_Mem} (x1 : Int32) (x2 : Int32) (hT : mm_SI Γ smM_M_isTask [.ref (mm_B Γ + 64), .int x1] h (fun r2 h2 => (¬ r2 = 0 → ((vp_in x1 7) ∧ (((h2 75 x1.toNatClampNeg) ≤ (1 : Int32) → ((vp_in x1 7) ∧ ((¬ (h2 79 x1.toNatClampNeg) = (8 : Int32) → ((vp_in x1 7) ∧ ((vp_in (((8 : Int32) * x1) + (h2 79 x1.toNatClampNeg)) 56) ∧ (∀ h53 : mm_Mem, h53 = mm_wr h2 80 (((8 : Int32) * x1) + (h2 79 x1.toNatClampNeg)).toNatClampNeg x2 → ((vp_in x1 7) ∧ ((vp_in x1 7) ∧ (∀ h63 : mm_Mem, h63 = mm_wr h53 79 x1.toNatClampNeg ((h53 79 x1.toNatClampNeg) + (1 : Int32)) → ((vp_in x1 7) ∧ (post (h63 79 x1.toNatClampNeg) h63))))))))) ∧ ((h2 79 x1.toNatClampNeg) = (8 : Int32) → (post (-3 : Int32) h2))))) ∧ (¬ (h2 75 x1.toNatClampNeg) ≤ (1 : Int32) → (post (-2 : Int32) h2))))) ∧ (r2 = 0 → (post (-1 : Int32) h2)))) : mm_SI Γ smM_M_send [.ref (mm_B Γ + 64), .int x1, .int x2] h post := by
  refine mm_spec0 (M := smM_M_send) 0 (by decide +kernel) rfl (Nat.le_of_ble_eq_true rfl) ?_
  show mm_W Γ smM_M_send (mm_pI post) 0 [some (.ref (mm_B Γ + 64)), some (.int x1), some (.int x2)] [] h
  refine mm_aload_n (n := 1) (i := 0) smd_M_send_0 rfl rfl rfl ?_
  refine mm_iload_n (n := 2) (i := 1) smd_M_send_1 rfl rfl rfl ?_
  refine mm_callVI (n := 5) (As := [.int x1]) (rest := []) smv_M_isTask smw_729 smb_M (mm_hRm (by decide) (by decide)) smd_M_send_2 rfl rfl (Nat.le_of_ble_eq_true rfl) hT (fun r2 h2 hT => ?_)
  refine mm_if_ne (n := 8) (tgt := 10) smd_M_send_5 rfl rfl (fun hc => ?_) (fun hc => ?_)
  · replace hT := hT.1 hc
    refine mm_aload_n (n := 11) (i := 0) smd_M_send_10 rfl rfl rfl ?_
    refine mm_get (n := 14) (v := .ref (mm_B Γ + 75)) smk_M_41 smb_M rfl smd_M_send_11 rfl ?_
    refine mm_iload_n (n := 15) (i := 1) smd_M_send_14 rfl rfl rfl ?_
    refine mm_iald (n := 16) sma_75 hT.1 smd_M_send_15 rfl ?_
    replace hT := hT.2
    refine mm_iconst (n := 17) (v := 1) smd_M_send_16 rfl (by decide) ?_
    refine mm_icmp_le (n := 20) (tgt := 23) smd_M_send_17 rfl rfl (fun hc => ?_) (fun hc => ?_)
    · replace hT := hT.1 hc
      refine mm_aload_n (n := 24) (i := 0) smd_M_send_23 rfl rfl rfl ?_
      refine mm_get (n := 27) (v := .ref (mm_B Γ + 79)) smk_M_53 smb_M rfl smd_M_send_24 rfl ?_
      refine mm_iload_n (n := 28) (i := 1) smd_M_send_27 rfl rfl rfl ?_
      refine mm_iald (n := 29) sma_79 hT.1 smd_M_send_28 rfl ?_
      replace hT := hT.2
      refine mm_bipush (n := 31) (v := 8) smd_M_send_29 rfl (by decide) ?_
      refine mm_icmp_ne (n := 34) (tgt := 37) smd_M_send_31 rfl rfl (fun hc => ?_) (fun hc => ?_)
      · replace hT := hT.1 hc
        refine mm_aload_n (n := 38) (i := 0) smd_M_send_37 rfl rfl rfl ?_
        refine mm_get (n := 41) (v := .ref (mm_B Γ + 80)) smk_M_56 smb_M rfl smd_M_send_38 rfl ?_
        refine mm_bipush (n := 43) (v := 8) smd_M_send_41 rfl (by decide) ?_
        refine mm_iload_n (n := 44) (i := 1) smd_M_send_43 rfl rfl rfl ?_
        refine mm_imul (n := 45) smd_M_send_44 rfl ?_
        refine mm_aload_n (n := 46) (i := 0) smd_M_send_45 rfl rfl rfl ?_
        refine mm_get (n := 49) (v := .ref (mm_B Γ + 79)) smk_M_53 smb_M rfl smd_M_send_46 rfl ?_
        refine mm_iload_n (n := 50) (i := 1) smd_M_send_49 rfl rfl rfl ?_
        refine mm_iald (n := 51) sma_79 hT.1 smd_M_send_50 rfl ?_
        replace hT := hT.2
        refine mm_iadd (n := 52) smd_M_send_51 rfl ?_
        refine mm_iload_n (n := 53) (i := 2) smd_M_send_52 rfl rfl rfl ?_
        refine mm_iast (n := 54) sma_80 hT.1 smd_M_send_53 rfl ?_
        replace hT := hT.2
        refine mm_nam (fun h53 e_h53 => ?_)
        replace hT := hT h53 e_h53
        refine mm_aload_n (n := 55) (i := 0) smd_M_send_54 rfl rfl rfl ?_
        refine mm_get (n := 58) (v := .ref (mm_B Γ + 79)) smk_M_53 smb_M rfl smd_M_send_55 rfl ?_
        refine mm_iload_n (n := 59) (i := 1) smd_M_send_58 rfl rfl rfl ?_
        refine mm_dup2 (n := 60) smd_M_send_59 rfl rfl rfl ?_
        refine mm_iald (n := 61) sma_79 hT.1 smd_M_send_60 rfl ?_
        replace hT := hT.2
        refine mm_iconst (n := 62) (v := 1) smd_M_send_61 rfl (by decide) ?_
        refine mm_iadd (n := 63) smd_M_send_62 rfl ?_
        refine mm_iast (n := 64) sma_79 hT.1 smd_M_send_63 rfl ?_
        replace hT := hT.2
        refine mm_nam (fun h63 e_h63 => ?_)
        replace hT := hT h63 e_h63
        refine mm_aload_n (n := 65) (i := 0) smd_M_send_64 rfl rfl rfl ?_
        refine mm_get (n := 68) (v := .ref (mm_B Γ + 79)) smk_M_53 smb_M rfl smd_M_send_65 rfl ?_
        refine mm_iload_n (n := 69) (i := 1) smd_M_send_68 rfl rfl rfl ?_
        refine mm_iald (n := 70) sma_79 hT.1 smd_M_send_69 rfl ?_
        replace hT := hT.2
        exact mm_iret rfl smd_M_send_70 ⟨_, rfl, hT⟩
      · replace hT := hT.2 hc
        refine mm_bipush (n := 36) (v := -3) smd_M_send_34 rfl (by decide) ?_
        exact mm_iret rfl smd_M_send_36 ⟨_, rfl, hT⟩
    · replace hT := hT.2 hc
      refine mm_bipush (n := 22) (v := -2) smd_M_send_20 rfl (by decide) ?_
      exact mm_iret rfl smd_M_send_22 ⟨_, rfl, hT⟩
  · replace hT := hT.2 hc
    refine mm_iconst (n := 9) (v := -1) smd_M_send_8 rfl (by decide) ?_
    exact mm_iret rfl smd_M_send_9 ⟨_, rfl, hT⟩
set_option maxHeartbeats 4000000 in
set_option maxRecDepth 100000 in
theorem smr_M_state {Γ : mm_Ctx} {post : Int32 → mm_Mem → Prop} {h : mm_Mem} (x1 : Int32) (hT : mm_SI Γ smM_M_isTask [.ref (mm_B Γ + 64), .int x1] h (fun r2 h2 => (r2 = 0 → (post (-1 : Int32) h2)) ∧ (¬ r2 = 0 → ((vp_in x1 7) ∧ (post (h2 75 x1.toNatClampNeg) h2))))) : mm_SI Γ smM_M_state [.ref (mm_B Γ + 64), .int x1] h post := by
  refine mm_spec0 (M := smM_M_state) 0 (by decide +kernel) rfl (Nat.le_of_ble_eq_true rfl) ?_
  show mm_W Γ smM_M_state (mm_pI post) 0 [some (.ref (mm_B Γ + 64)), some (.int x1)] [] h
  refine mm_aload_n (n := 1) (i := 0) smd_M_state_0 rfl rfl rfl ?_
  refine mm_iload_n (n := 2) (i := 1) smd_M_state_1 rfl rfl rfl ?_
  refine mm_callVI (n := 5) (As := [.int x1]) (rest := []) smv_M_isTask smw_729 smb_M (mm_hRm (by decide) (by decide)) smd_M_state_2 rfl rfl (Nat.le_of_ble_eq_true rfl) hT (fun r2 h2 hT => ?_)
  refine mm_if_eq (n := 8) (tgt := 17) smd_M_state_5 rfl rfl (fun hc => ?_) (fun hc => ?_)
  · replace hT := hT.1 hc
    refine mm_iconst (n := 18) (v := -1) smd_M_state_17 rfl (by decide) ?_
    exact mm_iret rfl smd_M_state_18 ⟨_, rfl, hT⟩
  · replace hT := hT.2 hc
    refine mm_aload_n (n := 9) (i := 0) smd_M_state_8 rfl rfl rfl ?_
    refine mm_get (n := 12) (v := .ref (mm_B Γ + 75)) smk_M_41 smb_M rfl smd_M_state_9 rfl ?_
    refine mm_iload_n (n := 13) (i := 1) smd_M_state_12 rfl rfl rfl ?_
    refine mm_iald (n := 14) sma_75 hT.1 smd_M_state_13 rfl ?_
    replace hT := hT.2
    refine mm_goto (n := 18) smd_M_state_14 rfl ?_
    exact mm_iret rfl smd_M_state_18 ⟨_, rfl, hT⟩
set_option maxHeartbeats 4000000 in
set_option maxRecDepth 100000 in
theorem smr_M_result {Γ : mm_Ctx} {post : Int32 → mm_Mem → Prop} {h : mm_Mem} (x1 : Int32) (hT : mm_SI Γ smM_M_isTask [.ref (mm_B Γ + 64), .int x1] h (fun r2 h2 => (r2 = 0 → (post (0 : Int32) h2)) ∧ (¬ r2 = 0 → ((vp_in x1 7) ∧ (post (h2 76 x1.toNatClampNeg) h2))))) : mm_SI Γ smM_M_result [.ref (mm_B Γ + 64), .int x1] h post := by
  refine mm_spec0 (M := smM_M_result) 0 (by decide +kernel) rfl (Nat.le_of_ble_eq_true rfl) ?_
  show mm_W Γ smM_M_result (mm_pI post) 0 [some (.ref (mm_B Γ + 64)), some (.int x1)] [] h
  refine mm_aload_n (n := 1) (i := 0) smd_M_result_0 rfl rfl rfl ?_
  refine mm_iload_n (n := 2) (i := 1) smd_M_result_1 rfl rfl rfl ?_
  refine mm_callVI (n := 5) (As := [.int x1]) (rest := []) smv_M_isTask smw_729 smb_M (mm_hRm (by decide) (by decide)) smd_M_result_2 rfl rfl (Nat.le_of_ble_eq_true rfl) hT (fun r2 h2 hT => ?_)
  refine mm_if_eq (n := 8) (tgt := 17) smd_M_result_5 rfl rfl (fun hc => ?_) (fun hc => ?_)
  · replace hT := hT.1 hc
    refine mm_iconst (n := 18) (v := 0) smd_M_result_17 rfl (by decide) ?_
    exact mm_iret rfl smd_M_result_18 ⟨_, rfl, hT⟩
  · replace hT := hT.2 hc
    refine mm_aload_n (n := 9) (i := 0) smd_M_result_8 rfl rfl rfl ?_
    refine mm_get (n := 12) (v := .ref (mm_B Γ + 76)) smk_M_44 smb_M rfl smd_M_result_9 rfl ?_
    refine mm_iload_n (n := 13) (i := 1) smd_M_result_12 rfl rfl rfl ?_
    refine mm_iald (n := 14) sma_76 hT.1 smd_M_result_13 rfl ?_
    replace hT := hT.2
    refine mm_goto (n := 18) smd_M_result_14 rfl ?_
    exact mm_iret rfl smd_M_result_18 ⟨_, rfl, hT⟩
set_option maxHeartbeats 4000000 in
set_option maxRecDepth 100000 in
theorem smr_M_frames {Γ : mm_Ctx} {post : Int32 → mm_Mem → Prop} {h : mm_Mem} (x1 : Int32) (hT : mm_SI Γ smM_M_isTask [.ref (mm_B Γ + 64), .int x1] h (fun r2 h2 => (r2 = 0 → (post (-1 : Int32) h2)) ∧ (¬ r2 = 0 → ((vp_in x1 7) ∧ (post (h2 77 x1.toNatClampNeg) h2))))) : mm_SI Γ smM_M_frames [.ref (mm_B Γ + 64), .int x1] h post := by
  refine mm_spec0 (M := smM_M_frames) 0 (by decide +kernel) rfl (Nat.le_of_ble_eq_true rfl) ?_
  show mm_W Γ smM_M_frames (mm_pI post) 0 [some (.ref (mm_B Γ + 64)), some (.int x1)] [] h
  refine mm_aload_n (n := 1) (i := 0) smd_M_frames_0 rfl rfl rfl ?_
  refine mm_iload_n (n := 2) (i := 1) smd_M_frames_1 rfl rfl rfl ?_
  refine mm_callVI (n := 5) (As := [.int x1]) (rest := []) smv_M_isTask smw_729 smb_M (mm_hRm (by decide) (by decide)) smd_M_frames_2 rfl rfl (Nat.le_of_ble_eq_true rfl) hT (fun r2 h2 hT => ?_)
  refine mm_if_eq (n := 8) (tgt := 17) smd_M_frames_5 rfl rfl (fun hc => ?_) (fun hc => ?_)
  · replace hT := hT.1 hc
    refine mm_iconst (n := 18) (v := -1) smd_M_frames_17 rfl (by decide) ?_
    exact mm_iret rfl smd_M_frames_18 ⟨_, rfl, hT⟩
  · replace hT := hT.2 hc
    refine mm_aload_n (n := 9) (i := 0) smd_M_frames_8 rfl rfl rfl ?_
    refine mm_get (n := 12) (v := .ref (mm_B Γ + 77)) smk_M_47 smb_M rfl smd_M_frames_9 rfl ?_
    refine mm_iload_n (n := 13) (i := 1) smd_M_frames_12 rfl rfl rfl ?_
    refine mm_iald (n := 14) sma_77 hT.1 smd_M_frames_13 rfl ?_
    replace hT := hT.2
    refine mm_goto (n := 18) smd_M_frames_14 rfl ?_
    exact mm_iret rfl smd_M_frames_18 ⟨_, rfl, hT⟩
set_option maxHeartbeats 4000000 in
set_option maxRecDepth 100000 in
theorem smr_M_frame {Γ : mm_Ctx} {post : Int32 → mm_Mem → Prop} {h : mm_Mem} (x1 : Int32) (x2 : Int32) (x3 : Int32) (hT : mm_SI Γ smM_M_isTask [.ref (mm_B Γ + 64), .int x1] h (fun r2 h2 => (r2 = 0 → (post (-1 : Int32) h2)) ∧ (¬ r2 = 0 → ((x2 < 0 → (post (-1 : Int32) h2)) ∧ (¬ x2 < 0 → ((vp_in x1 7) ∧ (((h2 77 x1.toNatClampNeg) ≤ x2 → (post (-1 : Int32) h2)) ∧ (¬ (h2 77 x1.toNatClampNeg) ≤ x2 → ((x3 < 0 → (post (-1 : Int32) h2)) ∧ (¬ x3 < 0 → (((5 : Int32) ≤ x3 → (post (-1 : Int32) h2)) ∧ (¬ (5 : Int32) ≤ x3 → (mm_SI Γ smM_M_frameAt [.int x1, .int x2] h2 (fun r37 h37 => (vp_in (r37 + x3) 252) ∧ (post (h37 78 (r37 + x3).toNatClampNeg) h37))))))))))))))) : mm_SI Γ smM_M_frame [.ref (mm_B Γ + 64), .int x1, .int x2, .int x3] h post := by
  refine mm_spec0 (M := smM_M_frame) 0 (by decide +kernel) rfl (Nat.le_of_ble_eq_true rfl) ?_
  show mm_W Γ smM_M_frame (mm_pI post) 0 [some (.ref (mm_B Γ + 64)), some (.int x1), some (.int x2), some (.int x3)] [] h
  refine mm_aload_n (n := 1) (i := 0) smd_M_frame_0 rfl rfl rfl ?_
  refine mm_iload_n (n := 2) (i := 1) smd_M_frame_1 rfl rfl rfl ?_
  refine mm_callVI (n := 5) (As := [.int x1]) (rest := []) smv_M_isTask smw_729 smb_M (mm_hRm (by decide) (by decide)) smd_M_frame_2 rfl rfl (Nat.le_of_ble_eq_true rfl) hT (fun r2 h2 hT => ?_)
  refine mm_if_eq (n := 8) (tgt := 46) smd_M_frame_5 rfl rfl (fun hc => ?_) (fun hc => ?_)
  · replace hT := hT.1 hc
    refine mm_iconst (n := 47) (v := -1) smd_M_frame_46 rfl (by decide) ?_
    exact mm_iret rfl smd_M_frame_47 ⟨_, rfl, hT⟩
  · replace hT := hT.2 hc
    refine mm_iload_n (n := 9) (i := 2) smd_M_frame_8 rfl rfl rfl ?_
    refine mm_if_lt (n := 12) (tgt := 46) smd_M_frame_9 rfl rfl (fun hc => ?_) (fun hc => ?_)
    · replace hT := hT.1 hc
      refine mm_iconst (n := 47) (v := -1) smd_M_frame_46 rfl (by decide) ?_
      exact mm_iret rfl smd_M_frame_47 ⟨_, rfl, hT⟩
    · replace hT := hT.2 hc
      refine mm_iload_n (n := 13) (i := 2) smd_M_frame_12 rfl rfl rfl ?_
      refine mm_aload_n (n := 14) (i := 0) smd_M_frame_13 rfl rfl rfl ?_
      refine mm_get (n := 17) (v := .ref (mm_B Γ + 77)) smk_M_47 smb_M rfl smd_M_frame_14 rfl ?_
      refine mm_iload_n (n := 18) (i := 1) smd_M_frame_17 rfl rfl rfl ?_
      refine mm_iald (n := 19) sma_77 hT.1 smd_M_frame_18 rfl ?_
      replace hT := hT.2
      refine mm_icmp_ge (n := 22) (tgt := 46) smd_M_frame_19 rfl rfl (fun hc => ?_) (fun hc => ?_)
      · replace hT := hT.1 hc
        refine mm_iconst (n := 47) (v := -1) smd_M_frame_46 rfl (by decide) ?_
        exact mm_iret rfl smd_M_frame_47 ⟨_, rfl, hT⟩
      · replace hT := hT.2 hc
        refine mm_iload_n (n := 23) (i := 3) smd_M_frame_22 rfl rfl rfl ?_
        refine mm_if_lt (n := 26) (tgt := 46) smd_M_frame_23 rfl rfl (fun hc => ?_) (fun hc => ?_)
        · replace hT := hT.1 hc
          refine mm_iconst (n := 47) (v := -1) smd_M_frame_46 rfl (by decide) ?_
          exact mm_iret rfl smd_M_frame_47 ⟨_, rfl, hT⟩
        · replace hT := hT.2 hc
          refine mm_iload_n (n := 27) (i := 3) smd_M_frame_26 rfl rfl rfl ?_
          refine mm_iconst (n := 28) (v := 5) smd_M_frame_27 rfl (by decide) ?_
          refine mm_icmp_ge (n := 31) (tgt := 46) smd_M_frame_28 rfl rfl (fun hc => ?_) (fun hc => ?_)
          · replace hT := hT.1 hc
            refine mm_iconst (n := 47) (v := -1) smd_M_frame_46 rfl (by decide) ?_
            exact mm_iret rfl smd_M_frame_47 ⟨_, rfl, hT⟩
          · replace hT := hT.2 hc
            refine mm_aload_n (n := 32) (i := 0) smd_M_frame_31 rfl rfl rfl ?_
            refine mm_get (n := 35) (v := .ref (mm_B Γ + 78)) smk_M_50 smb_M rfl smd_M_frame_32 rfl ?_
            refine mm_iload_n (n := 36) (i := 1) smd_M_frame_35 rfl rfl rfl ?_
            refine mm_iload_n (n := 37) (i := 2) smd_M_frame_36 rfl rfl rfl ?_
            refine mm_callSI (n := 40) (As := [.int x1, .int x2]) (rest := [.ref (mm_B Γ + 78)]) smv_M_frameAt smw_657 (mm_hRm (by decide) (by decide)) smd_M_frame_37 rfl rfl (Nat.le_of_ble_eq_true rfl) hT (fun r37 h37 hT => ?_)
            refine mm_iload_n (n := 41) (i := 3) smd_M_frame_40 rfl rfl rfl ?_
            refine mm_iadd (n := 42) smd_M_frame_41 rfl ?_
            refine mm_iald (n := 43) sma_78 hT.1 smd_M_frame_42 rfl ?_
            replace hT := hT.2
            refine mm_goto (n := 47) smd_M_frame_43 rfl ?_
            exact mm_iret rfl smd_M_frame_47 ⟨_, rfl, hT⟩
set_option maxHeartbeats 4000000 in
set_option maxRecDepth 100000 in
theorem smr_M_global {Γ : mm_Ctx} {post : Int32 → mm_Mem → Prop} {h : mm_Mem} (x1 : Int32) (hT : (x1 < 0 → (post (0 : Int32) h)) ∧ (¬ x1 < 0 → (((4 : Int32) ≤ x1 → (post (0 : Int32) h)) ∧ (¬ (4 : Int32) ≤ x1 → ((vp_in x1 4) ∧ (post (h 70 x1.toNatClampNeg) h)))))) : mm_SI Γ smM_M_global [.ref (mm_B Γ + 64), .int x1] h post := by
  refine mm_spec0 (M := smM_M_global) 0 (by decide +kernel) rfl (Nat.le_of_ble_eq_true rfl) ?_
  show mm_W Γ smM_M_global (mm_pI post) 0 [some (.ref (mm_B Γ + 64)), some (.int x1)] [] h
  refine mm_iload_n (n := 1) (i := 1) smd_M_global_0 rfl rfl rfl ?_
  refine mm_if_lt (n := 4) (tgt := 18) smd_M_global_1 rfl rfl (fun hc => ?_) (fun hc => ?_)
  · replace hT := hT.1 hc
    refine mm_iconst (n := 19) (v := 0) smd_M_global_18 rfl (by decide) ?_
    exact mm_iret rfl smd_M_global_19 ⟨_, rfl, hT⟩
  · replace hT := hT.2 hc
    refine mm_iload_n (n := 5) (i := 1) smd_M_global_4 rfl rfl rfl ?_
    refine mm_iconst (n := 6) (v := 4) smd_M_global_5 rfl (by decide) ?_
    refine mm_icmp_ge (n := 9) (tgt := 18) smd_M_global_6 rfl rfl (fun hc => ?_) (fun hc => ?_)
    · replace hT := hT.1 hc
      refine mm_iconst (n := 19) (v := 0) smd_M_global_18 rfl (by decide) ?_
      exact mm_iret rfl smd_M_global_19 ⟨_, rfl, hT⟩
    · replace hT := hT.2 hc
      refine mm_aload_n (n := 10) (i := 0) smd_M_global_9 rfl rfl rfl ?_
      refine mm_get (n := 13) (v := .ref (mm_B Γ + 70)) smk_M_26 smb_M rfl smd_M_global_10 rfl ?_
      refine mm_iload_n (n := 14) (i := 1) smd_M_global_13 rfl rfl rfl ?_
      refine mm_iald (n := 15) sma_70 hT.1 smd_M_global_14 rfl ?_
      replace hT := hT.2
      refine mm_goto (n := 19) smd_M_global_15 rfl ?_
      exact mm_iret rfl smd_M_global_19 ⟨_, rfl, hT⟩
