set_option maxHeartbeats 4000000 in
set_option maxRecDepth 100000 in
theorem smr_H_has {Γ : mm_Ctx} {post : Int32 → mm_Mem → Prop} {h : mm_Mem} (x1 : Int32) (hT : (x1 < (1 : Int32) → (post (0 : Int32) h)) ∧ (¬ x1 < (1 : Int32) → (((16 : Int32) < x1 → (post (0 : Int32) h)) ∧ (¬ (16 : Int32) < x1 → ((vp_in x1 17) ∧ (((h 21 x1.toNatClampNeg) = (-1 : Int32) → (post (0 : Int32) h)) ∧ (¬ (h 21 x1.toNatClampNeg) = (-1 : Int32) → (post (1 : Int32) h)))))))) : mm_SI Γ smM_H_has [.ref (mm_B Γ + 20), .int x1] h post := by
  refine mm_spec0 (M := smM_H_has) 0 (by decide +kernel) rfl (Nat.le_of_ble_eq_true rfl) ?_
  show mm_W Γ smM_H_has (mm_pI post) 0 [some (.ref (mm_B Γ + 20)), some (.int x1)] [] h
  refine mm_iload_n (n := 1) (i := 1) smd_H_has_0 rfl rfl rfl ?_
  refine mm_iconst (n := 2) (v := 1) smd_H_has_1 rfl (by decide) ?_
  refine mm_icmp_lt (n := 5) (tgt := 25) smd_H_has_2 rfl rfl (fun hc => ?_) (fun hc => ?_)
  · replace hT := hT.1 hc
    refine mm_iconst (n := 26) (v := 0) smd_H_has_25 rfl (by decide) ?_
    exact mm_zret rfl (Or.inl rfl) smd_H_has_26 ⟨_, rfl, hT⟩
  · replace hT := hT.2 hc
    refine mm_iload_n (n := 6) (i := 1) smd_H_has_5 rfl rfl rfl ?_
    refine mm_bipush (n := 8) (v := 16) smd_H_has_6 rfl (by decide) ?_
    refine mm_icmp_gt (n := 11) (tgt := 25) smd_H_has_8 rfl rfl (fun hc => ?_) (fun hc => ?_)
    · replace hT := hT.1 hc
      refine mm_iconst (n := 26) (v := 0) smd_H_has_25 rfl (by decide) ?_
      exact mm_zret rfl (Or.inl rfl) smd_H_has_26 ⟨_, rfl, hT⟩
    · replace hT := hT.2 hc
      refine mm_aload_n (n := 12) (i := 0) smd_H_has_11 rfl rfl rfl ?_
      refine mm_get (n := 15) (v := .ref (mm_B Γ + 21)) smk_H_9 smb_H rfl smd_H_has_12 rfl ?_
      refine mm_iload_n (n := 16) (i := 1) smd_H_has_15 rfl rfl rfl ?_
      refine mm_iald (n := 17) sma_21 hT.1 smd_H_has_16 rfl ?_
      replace hT := hT.2
      refine mm_iconst (n := 18) (v := -1) smd_H_has_17 rfl (by decide) ?_
      refine mm_icmp_eq (n := 21) (tgt := 25) smd_H_has_18 rfl rfl (fun hc => ?_) (fun hc => ?_)
      · replace hT := hT.1 hc
        refine mm_iconst (n := 26) (v := 0) smd_H_has_25 rfl (by decide) ?_
        exact mm_zret rfl (Or.inl rfl) smd_H_has_26 ⟨_, rfl, hT⟩
      · replace hT := hT.2 hc
        refine mm_iconst (n := 22) (v := 1) smd_H_has_21 rfl (by decide) ?_
        refine mm_goto (n := 26) smd_H_has_22 rfl ?_
        exact mm_zret rfl (Or.inr rfl) smd_H_has_26 ⟨_, rfl, hT⟩
set_option maxHeartbeats 4000000 in
set_option maxRecDepth 100000 in
theorem smr_H_count {Γ : mm_Ctx} {post : Int32 → mm_Mem → Prop} {h : mm_Mem}  (hT : mm_W Γ smM_H_count (mm_pI post) 4 [some (.ref (mm_B Γ + 20)), some (.int (0 : Int32)), some (.int (1 : Int32))] [] h) : mm_SI Γ smM_H_count [.ref (mm_B Γ + 20)] h post := by
  refine mm_spec0 (M := smM_H_count) 2 (by decide +kernel) rfl (Nat.le_of_ble_eq_true rfl) ?_
  show mm_W Γ smM_H_count (mm_pI post) 0 [some (.ref (mm_B Γ + 20)), none, none] [] h
  refine mm_iconst (n := 1) (v := 0) smd_H_count_0 rfl (by decide) ?_
  refine mm_istore_n (n := 2) (i := 1) (L' := [some (.ref (mm_B Γ + 20)), some (.int (0 : Int32)), none]) smd_H_count_1 rfl rfl (by decide) rfl ?_
  refine mm_iconst (n := 3) (v := 1) smd_H_count_2 rfl (by decide) ?_
  refine mm_istore_n (n := 4) (i := 2) (L' := [some (.ref (mm_B Γ + 20)), some (.int (0 : Int32)), some (.int (1 : Int32))]) smd_H_count_3 rfl rfl (by decide) rfl ?_
  exact mm_weak (by refine ⟨rfl, rfl, rfl, trivial⟩) hT
set_option maxHeartbeats 4000000 in
set_option maxRecDepth 100000 in
theorem smr_H_count_4 {Γ : mm_Ctx} {post : Int32 → mm_Mem → Prop} {h : mm_Mem} (x1 : Int32) (x2 : Int32) (hT : ((16 : Int32) < x2 → (post x1 h)) ∧ (¬ (16 : Int32) < x2 → (mm_SI Γ smM_H_has [.ref (mm_B Γ + 20), .int x2] h (fun r13 h13 => (r13 = 0 → (∀ y1_25 : Int32, y1_25 = x1 + (0 : Int32) → (mm_W Γ smM_H_count (mm_pI post) 4 [some (.ref (mm_B Γ + 20)), some (.int y1_25), some (.int (x2 + (1 : Int32)))] [] h13))) ∧ (¬ r13 = 0 → (∀ y1_25 : Int32, y1_25 = x1 + (1 : Int32) → (mm_W Γ smM_H_count (mm_pI post) 4 [some (.ref (mm_B Γ + 20)), some (.int y1_25), some (.int (x2 + (1 : Int32)))] [] h13))))))) : mm_W Γ smM_H_count (mm_pI post) 4 [some (.ref (mm_B Γ + 20)), some (.int x1), some (.int x2)] [] h := by
  refine mm_iload_n (n := 5) (i := 2) smd_H_count_4 rfl rfl rfl ?_
  refine mm_bipush (n := 7) (v := 16) smd_H_count_5 rfl (by decide) ?_
  refine mm_icmp_gt (n := 10) (tgt := 32) smd_H_count_7 rfl rfl (fun hc => ?_) (fun hc => ?_)
  · replace hT := hT.1 hc
    refine mm_iload_n (n := 33) (i := 1) smd_H_count_32 rfl rfl rfl ?_
    exact mm_iret rfl smd_H_count_33 ⟨_, rfl, hT⟩
  · replace hT := hT.2 hc
    refine mm_iload_n (n := 11) (i := 1) smd_H_count_10 rfl rfl rfl ?_
    refine mm_aload_n (n := 12) (i := 0) smd_H_count_11 rfl rfl rfl ?_
    refine mm_iload_n (n := 13) (i := 2) smd_H_count_12 rfl rfl rfl ?_
    refine mm_callVI (n := 16) (As := [.int x2]) (rest := [.int x1]) smv_H_has smw_356 smb_H (mm_hRm (by decide) (by decide)) smd_H_count_13 rfl rfl (Nat.le_of_ble_eq_true rfl) hT (fun r13 h13 hT => ?_)
    refine mm_if_eq (n := 19) (tgt := 23) smd_H_count_16 rfl rfl (fun hc => ?_) (fun hc => ?_)
    · replace hT := hT.1 hc
      refine mm_iconst (n := 24) (v := 0) smd_H_count_23 rfl (by decide) ?_
      refine mm_iadd (n := 25) smd_H_count_24 rfl ?_
      refine mm_top (fun y1_25 e_y1_25 => ?_)
      replace hT := hT y1_25 e_y1_25
      refine mm_istore_n (n := 26) (i := 1) (L' := [some (.ref (mm_B Γ + 20)), some (.int y1_25), some (.int x2)]) smd_H_count_25 rfl rfl (by decide) rfl ?_
      refine mm_iinc (n := 29) (i := 2) (d := 1) (L' := [some (.ref (mm_B Γ + 20)), some (.int y1_25), some (.int (x2 + (1 : Int32)))]) smd_H_count_26 rfl rfl (by decide) (by decide) rfl ?_
      refine mm_goto (n := 4) smd_H_count_29 rfl ?_
      exact mm_weak (by refine ⟨rfl, rfl, rfl, trivial⟩) hT
    · replace hT := hT.2 hc
      refine mm_iconst (n := 20) (v := 1) smd_H_count_19 rfl (by decide) ?_
      refine mm_goto (n := 24) smd_H_count_20 rfl ?_
      refine mm_iadd (n := 25) smd_H_count_24 rfl ?_
      refine mm_top (fun y1_25 e_y1_25 => ?_)
      replace hT := hT y1_25 e_y1_25
      refine mm_istore_n (n := 26) (i := 1) (L' := [some (.ref (mm_B Γ + 20)), some (.int y1_25), some (.int x2)]) smd_H_count_25 rfl rfl (by decide) rfl ?_
      refine mm_iinc (n := 29) (i := 2) (d := 1) (L' := [some (.ref (mm_B Γ + 20)), some (.int y1_25), some (.int (x2 + (1 : Int32)))]) smd_H_count_26 rfl rfl (by decide) (by decide) rfl ?_
      refine mm_goto (n := 4) smd_H_count_29 rfl ?_
      exact mm_weak (by refine ⟨rfl, rfl, rfl, trivial⟩) hT
set_option maxHeartbeats 4000000 in
set_option maxRecDepth 100000 in
theorem smr_H_leastFree {Γ : mm_Ctx} {post : Int32 → mm_Mem → Prop} {h : mm_Mem}  (hT : mm_W Γ smM_H_leastFree (mm_pI post) 2 [some (.ref (mm_B Γ + 20)), some (.int (1 : Int32))] [] h) : mm_SI Γ smM_H_leastFree [.ref (mm_B Γ + 20)] h post := by
  refine mm_spec0 (M := smM_H_leastFree) 1 (by decide +kernel) rfl (Nat.le_of_ble_eq_true rfl) ?_
  show mm_W Γ smM_H_leastFree (mm_pI post) 0 [some (.ref (mm_B Γ + 20)), none] [] h
  refine mm_iconst (n := 1) (v := 1) smd_H_leastFree_0 rfl (by decide) ?_
  refine mm_istore_n (n := 2) (i := 1) (L' := [some (.ref (mm_B Γ + 20)), some (.int (1 : Int32))]) smd_H_leastFree_1 rfl rfl (by decide) rfl ?_
  exact mm_weak (by refine ⟨rfl, rfl, trivial⟩) hT
set_option maxHeartbeats 4000000 in
set_option maxRecDepth 100000 in
theorem smr_H_leastFree_2 {Γ : mm_Ctx} {post : Int32 → mm_Mem → Prop} {h : mm_Mem} (x1 : Int32) (hT : ((16 : Int32) < x1 → (post (-1 : Int32) h)) ∧ (¬ (16 : Int32) < x1 → (mm_SI Γ smM_H_has [.ref (mm_B Γ + 20), .int x1] h (fun r10 h10 => (¬ r10 = 0 → (mm_W Γ smM_H_leastFree (mm_pI post) 2 [some (.ref (mm_B Γ + 20)), some (.int (x1 + (1 : Int32)))] [] h10)) ∧ (r10 = 0 → (post x1 h10)))))) : mm_W Γ smM_H_leastFree (mm_pI post) 2 [some (.ref (mm_B Γ + 20)), some (.int x1)] [] h := by
  refine mm_iload_n (n := 3) (i := 1) smd_H_leastFree_2 rfl rfl rfl ?_
  refine mm_bipush (n := 5) (v := 16) smd_H_leastFree_3 rfl (by decide) ?_
  refine mm_icmp_gt (n := 8) (tgt := 24) smd_H_leastFree_5 rfl rfl (fun hc => ?_) (fun hc => ?_)
  · replace hT := hT.1 hc
    refine mm_iconst (n := 25) (v := -1) smd_H_leastFree_24 rfl (by decide) ?_
    exact mm_iret rfl smd_H_leastFree_25 ⟨_, rfl, hT⟩
  · replace hT := hT.2 hc
    refine mm_aload_n (n := 9) (i := 0) smd_H_leastFree_8 rfl rfl rfl ?_
    refine mm_iload_n (n := 10) (i := 1) smd_H_leastFree_9 rfl rfl rfl ?_
    refine mm_callVI (n := 13) (As := [.int x1]) (rest := []) smv_H_has smw_356 smb_H (mm_hRm (by decide) (by decide)) smd_H_leastFree_10 rfl rfl (Nat.le_of_ble_eq_true rfl) hT (fun r10 h10 hT => ?_)
    refine mm_if_ne (n := 16) (tgt := 18) smd_H_leastFree_13 rfl rfl (fun hc => ?_) (fun hc => ?_)
    · replace hT := hT.1 hc
      refine mm_iinc (n := 21) (i := 1) (d := 1) (L' := [some (.ref (mm_B Γ + 20)), some (.int (x1 + (1 : Int32)))]) smd_H_leastFree_18 rfl rfl (by decide) (by decide) rfl ?_
      refine mm_goto (n := 2) smd_H_leastFree_21 rfl ?_
      exact mm_weak (by refine ⟨rfl, rfl, trivial⟩) hT
    · replace hT := hT.2 hc
      refine mm_iload_n (n := 17) (i := 1) smd_H_leastFree_16 rfl rfl rfl ?_
      exact mm_iret rfl smd_H_leastFree_17 ⟨_, rfl, hT⟩
set_option maxHeartbeats 4000000 in
set_option maxRecDepth 100000 in
theorem smr_H_begin {Γ : mm_Ctx} {post : mm_Mem → Prop} {h : mm_Mem} (x1 : Int32) (x2 : Int32) (hT : (vp_in x1 17) ∧ (∀ h6 : mm_Mem, h6 = mm_wr h 21 x1.toNatClampNeg x2 → (mm_W Γ smM_H_begin (mm_pV post) 9 [some (.ref (mm_B Γ + 20)), some (.int x1), none, some (.int (0 : Int32))] [] h6))) : mm_SV Γ smM_H_begin [.ref (mm_B Γ + 20), .int x1, .int x2] h post := by
  refine mm_spec0 (M := smM_H_begin) 1 (by decide +kernel) rfl (Nat.le_of_ble_eq_true rfl) ?_
  show mm_W Γ smM_H_begin (mm_pV post) 0 [some (.ref (mm_B Γ + 20)), some (.int x1), some (.int x2), none] [] h
  refine mm_aload_n (n := 1) (i := 0) smd_H_begin_0 rfl rfl rfl ?_
  refine mm_get (n := 4) (v := .ref (mm_B Γ + 21)) smk_H_9 smb_H rfl smd_H_begin_1 rfl ?_
  refine mm_iload_n (n := 5) (i := 1) smd_H_begin_4 rfl rfl rfl ?_
  refine mm_iload_n (n := 6) (i := 2) smd_H_begin_5 rfl rfl rfl ?_
  refine mm_iast (n := 7) sma_21 hT.1 smd_H_begin_6 rfl ?_
  replace hT := hT.2
  refine mm_nam (fun h6 e_h6 => ?_)
  replace hT := hT h6 e_h6
  refine mm_iconst (n := 8) (v := 0) smd_H_begin_7 rfl (by decide) ?_
  refine mm_istore_n (n := 9) (i := 3) (L' := [some (.ref (mm_B Γ + 20)), some (.int x1), some (.int x2), some (.int (0 : Int32))]) smd_H_begin_8 rfl rfl (by decide) rfl ?_
  exact mm_weak (by refine ⟨rfl, rfl, rfl, trivial⟩) hT
set_option maxHeartbeats 4000000 in
set_option maxRecDepth 100000 in
theorem smr_H_begin_9 {Γ : mm_Ctx} {post : mm_Mem → Prop} {h : mm_Mem} (x1 : Int32) (x3 : Int32) (hT : ((4 : Int32) ≤ x3 → (post h)) ∧ (¬ (4 : Int32) ≤ x3 → ((vp_in ((x1 * (4 : Int32)) + x3) 68) ∧ (∀ h24 : mm_Mem, h24 = mm_wr h 22 ((x1 * (4 : Int32)) + x3).toNatClampNeg (0 : Int32) → (mm_W Γ smM_H_begin (mm_pV post) 9 [some (.ref (mm_B Γ + 20)), some (.int x1), none, some (.int (x3 + (1 : Int32)))] [] h24))))) : mm_W Γ smM_H_begin (mm_pV post) 9 [some (.ref (mm_B Γ + 20)), some (.int x1), none, some (.int x3)] [] h := by
  refine mm_iload_n (n := 10) (i := 3) smd_H_begin_9 rfl rfl rfl ?_
  refine mm_iconst (n := 11) (v := 4) smd_H_begin_10 rfl (by decide) ?_
  refine mm_icmp_ge (n := 14) (tgt := 31) smd_H_begin_11 rfl rfl (fun hc => ?_) (fun hc => ?_)
  · replace hT := hT.1 hc
    exact mm_vret rfl smd_H_begin_31 ⟨rfl, hT⟩
  · replace hT := hT.2 hc
    refine mm_aload_n (n := 15) (i := 0) smd_H_begin_14 rfl rfl rfl ?_
    refine mm_get (n := 18) (v := .ref (mm_B Γ + 22)) smk_H_15 smb_H rfl smd_H_begin_15 rfl ?_
    refine mm_iload_n (n := 19) (i := 1) smd_H_begin_18 rfl rfl rfl ?_
    refine mm_iconst (n := 20) (v := 4) smd_H_begin_19 rfl (by decide) ?_
    refine mm_imul (n := 21) smd_H_begin_20 rfl ?_
    refine mm_iload_n (n := 22) (i := 3) smd_H_begin_21 rfl rfl rfl ?_
    refine mm_iadd (n := 23) smd_H_begin_22 rfl ?_
    refine mm_iconst (n := 24) (v := 0) smd_H_begin_23 rfl (by decide) ?_
    refine mm_iast (n := 25) sma_22 hT.1 smd_H_begin_24 rfl ?_
    replace hT := hT.2
    refine mm_nam (fun h24 e_h24 => ?_)
    replace hT := hT h24 e_h24
    refine mm_iinc (n := 28) (i := 3) (d := 1) (L' := [some (.ref (mm_B Γ + 20)), some (.int x1), none, some (.int (x3 + (1 : Int32)))]) smd_H_begin_25 rfl rfl (by decide) (by decide) rfl ?_
    refine mm_goto (n := 9) smd_H_begin_28 rfl ?_
    exact mm_weak (by refine ⟨rfl, rfl, rfl, trivial⟩) hT
set_option maxHeartbeats 4000000 in
set_option maxRecDepth 100000 in
theorem smr_H_cellOf {Γ : mm_Ctx} {post : Int32 → mm_Mem → Prop} {h : mm_Mem} (x1 : Int32) (x2 : Int32) (hT : mm_SI Γ smM_H_has [.ref (mm_B Γ + 20), .int x1] h (fun r2 h2 => (r2 = 0 → (post (-1 : Int32) h2)) ∧ (¬ r2 = 0 → ((vp_in x1 17) ∧ ((¬ (h2 21 x1.toNatClampNeg) = (x2 / (4 : Int32)) → (post (-1 : Int32) h2)) ∧ ((h2 21 x1.toNatClampNeg) = (x2 / (4 : Int32)) → (post ((x1 * (4 : Int32)) + (x2 - x2 / (4 : Int32) * (4 : Int32))) h2))))))) : mm_SI Γ smM_H_cellOf [.ref (mm_B Γ + 20), .int x1, .int x2] h post := by
  refine mm_spec0 (M := smM_H_cellOf) 0 (by decide +kernel) rfl (Nat.le_of_ble_eq_true rfl) ?_
  show mm_W Γ smM_H_cellOf (mm_pI post) 0 [some (.ref (mm_B Γ + 20)), some (.int x1), some (.int x2)] [] h
  refine mm_aload_n (n := 1) (i := 0) smd_H_cellOf_0 rfl rfl rfl ?_
  refine mm_iload_n (n := 2) (i := 1) smd_H_cellOf_1 rfl rfl rfl ?_
  refine mm_callVI (n := 5) (As := [.int x1]) (rest := []) smv_H_has smw_356 smb_H (mm_hRm (by decide) (by decide)) smd_H_cellOf_2 rfl rfl (Nat.le_of_ble_eq_true rfl) hT (fun r2 h2 hT => ?_)
  refine mm_if_eq (n := 8) (tgt := 30) smd_H_cellOf_5 rfl rfl (fun hc => ?_) (fun hc => ?_)
  · replace hT := hT.1 hc
    refine mm_iconst (n := 31) (v := -1) smd_H_cellOf_30 rfl (by decide) ?_
    exact mm_iret rfl smd_H_cellOf_31 ⟨_, rfl, hT⟩
  · replace hT := hT.2 hc
    refine mm_aload_n (n := 9) (i := 0) smd_H_cellOf_8 rfl rfl rfl ?_
    refine mm_get (n := 12) (v := .ref (mm_B Γ + 21)) smk_H_9 smb_H rfl smd_H_cellOf_9 rfl ?_
    refine mm_iload_n (n := 13) (i := 1) smd_H_cellOf_12 rfl rfl rfl ?_
    refine mm_iald (n := 14) sma_21 hT.1 smd_H_cellOf_13 rfl ?_
    replace hT := hT.2
    refine mm_iload_n (n := 15) (i := 2) smd_H_cellOf_14 rfl rfl rfl ?_
    refine mm_iconst (n := 16) (v := 4) smd_H_cellOf_15 rfl (by decide) ?_
    refine mm_idiv (n := 17) smd_H_cellOf_16 rfl (by decide) ?_
    refine mm_icmp_ne (n := 20) (tgt := 30) smd_H_cellOf_17 rfl rfl (fun hc => ?_) (fun hc => ?_)
    · replace hT := hT.1 hc
      refine mm_iconst (n := 31) (v := -1) smd_H_cellOf_30 rfl (by decide) ?_
      exact mm_iret rfl smd_H_cellOf_31 ⟨_, rfl, hT⟩
    · replace hT := hT.2 hc
      refine mm_iload_n (n := 21) (i := 1) smd_H_cellOf_20 rfl rfl rfl ?_
      refine mm_iconst (n := 22) (v := 4) smd_H_cellOf_21 rfl (by decide) ?_
      refine mm_imul (n := 23) smd_H_cellOf_22 rfl ?_
      refine mm_iload_n (n := 24) (i := 2) smd_H_cellOf_23 rfl rfl rfl ?_
      refine mm_iconst (n := 25) (v := 4) smd_H_cellOf_24 rfl (by decide) ?_
      refine mm_irem (n := 26) smd_H_cellOf_25 rfl (by decide) ?_
      refine mm_iadd (n := 27) smd_H_cellOf_26 rfl ?_
      refine mm_goto (n := 31) smd_H_cellOf_27 rfl ?_
      exact mm_iret rfl smd_H_cellOf_31 ⟨_, rfl, hT⟩
set_option maxHeartbeats 4000000 in
set_option maxRecDepth 100000 in
theorem smr_H_unmarkAll {Γ : mm_Ctx} {post : mm_Mem → Prop} {h : mm_Mem}  (hT : ∀ h2 : mm_Mem, h2 = mm_wr h 20 5 (0 : Int32) → (mm_W Γ smM_H_unmarkAll (mm_pV post) 7 [some (.ref (mm_B Γ + 20)), some (.int (0 : Int32))] [] h2)) : mm_SV Γ smM_H_unmarkAll [.ref (mm_B Γ + 20)] h post := by
  refine mm_spec0 (M := smM_H_unmarkAll) 1 (by decide +kernel) rfl (Nat.le_of_ble_eq_true rfl) ?_
  show mm_W Γ smM_H_unmarkAll (mm_pV post) 0 [some (.ref (mm_B Γ + 20)), none] [] h
  refine mm_aload_n (n := 1) (i := 0) smd_H_unmarkAll_0 rfl rfl rfl ?_
  refine mm_iconst (n := 2) (v := 0) smd_H_unmarkAll_1 rfl (by decide) ?_
  refine mm_put (n := 5) smk_H_32 smp_H_5 smb_H rfl (Nat.le_of_ble_eq_true rfl) rfl rfl smd_H_unmarkAll_2 rfl ?_
  refine mm_nam (fun h2 e_h2 => ?_)
  replace hT := hT h2 e_h2
  refine mm_iconst (n := 6) (v := 0) smd_H_unmarkAll_5 rfl (by decide) ?_
  refine mm_istore_n (n := 7) (i := 1) (L' := [some (.ref (mm_B Γ + 20)), some (.int (0 : Int32))]) smd_H_unmarkAll_6 rfl rfl (by decide) rfl ?_
  exact mm_weak (by refine ⟨rfl, rfl, trivial⟩) hT
set_option maxHeartbeats 4000000 in
set_option maxRecDepth 100000 in
theorem smr_H_unmarkAll_7 {Γ : mm_Ctx} {post : mm_Mem → Prop} {h : mm_Mem} (x1 : Int32) (hT : ((16 : Int32) < x1 → (post h)) ∧ (¬ (16 : Int32) < x1 → ((vp_in x1 17) ∧ (∀ h19 : mm_Mem, h19 = mm_wr h 24 x1.toNatClampNeg (0 : Int32) → (mm_W Γ smM_H_unmarkAll (mm_pV post) 7 [some (.ref (mm_B Γ + 20)), some (.int (x1 + (1 : Int32)))] [] h19))))) : mm_W Γ smM_H_unmarkAll (mm_pV post) 7 [some (.ref (mm_B Γ + 20)), some (.int x1)] [] h := by
  refine mm_iload_n (n := 8) (i := 1) smd_H_unmarkAll_7 rfl rfl rfl ?_
  refine mm_bipush (n := 10) (v := 16) smd_H_unmarkAll_8 rfl (by decide) ?_
  refine mm_icmp_gt (n := 13) (tgt := 26) smd_H_unmarkAll_10 rfl rfl (fun hc => ?_) (fun hc => ?_)
  · replace hT := hT.1 hc
    exact mm_vret rfl smd_H_unmarkAll_26 ⟨rfl, hT⟩
  · replace hT := hT.2 hc
    refine mm_aload_n (n := 14) (i := 0) smd_H_unmarkAll_13 rfl rfl rfl ?_
    refine mm_get (n := 17) (v := .ref (mm_B Γ + 24)) smk_H_21 smb_H rfl smd_H_unmarkAll_14 rfl ?_
    refine mm_iload_n (n := 18) (i := 1) smd_H_unmarkAll_17 rfl rfl rfl ?_
    refine mm_iconst (n := 19) (v := 0) smd_H_unmarkAll_18 rfl (by decide) ?_
    refine mm_zast (n := 20) sma_24 hT.1 (Or.inl rfl) smd_H_unmarkAll_19 rfl ?_
    replace hT := hT.2
    refine mm_nam (fun h19 e_h19 => ?_)
    replace hT := hT h19 e_h19
    refine mm_iinc (n := 23) (i := 1) (d := 1) (L' := [some (.ref (mm_B Γ + 20)), some (.int (x1 + (1 : Int32)))]) smd_H_unmarkAll_20 rfl rfl (by decide) (by decide) rfl ?_
    refine mm_goto (n := 7) smd_H_unmarkAll_23 rfl ?_
    exact mm_weak (by refine ⟨rfl, rfl, trivial⟩) hT
set_option maxHeartbeats 4000000 in
set_option maxRecDepth 100000 in
theorem smr_H_mark {Γ : mm_Ctx} {post : mm_Mem → Prop} {h : mm_Mem} (x1 : Int32) (hT : mm_SI Γ smM_H_has [.ref (mm_B Γ + 20), .int x1] h (fun r2 h2 => (r2 = 0 → (post h2)) ∧ (¬ r2 = 0 → ((vp_in x1 17) ∧ ((¬ (h2 24 x1.toNatClampNeg) = 0 → (post h2)) ∧ ((h2 24 x1.toNatClampNeg) = 0 → ((vp_in x1 17) ∧ (∀ h23 : mm_Mem, h23 = mm_wr h2 24 x1.toNatClampNeg (1 : Int32) → ((vp_in (h23 20 5) 16) ∧ (∀ h33 : mm_Mem, h33 = mm_wr h23 25 (h23 20 5).toNatClampNeg x1 → (∀ h41 : mm_Mem, h41 = mm_wr h33 20 5 ((h33 20 5) + (1 : Int32)) → (post h41)))))))))))) : mm_SV Γ smM_H_mark [.ref (mm_B Γ + 20), .int x1] h post := by
  refine mm_spec0 (M := smM_H_mark) 0 (by decide +kernel) rfl (Nat.le_of_ble_eq_true rfl) ?_
  show mm_W Γ smM_H_mark (mm_pV post) 0 [some (.ref (mm_B Γ + 20)), some (.int x1)] [] h
  refine mm_aload_n (n := 1) (i := 0) smd_H_mark_0 rfl rfl rfl ?_
  refine mm_iload_n (n := 2) (i := 1) smd_H_mark_1 rfl rfl rfl ?_
  refine mm_callVI (n := 5) (As := [.int x1]) (rest := []) smv_H_has smw_356 smb_H (mm_hRm (by decide) (by decide)) smd_H_mark_2 rfl rfl (Nat.le_of_ble_eq_true rfl) hT (fun r2 h2 hT => ?_)
  refine mm_if_eq (n := 8) (tgt := 44) smd_H_mark_5 rfl rfl (fun hc => ?_) (fun hc => ?_)
  · replace hT := hT.1 hc
    exact mm_vret rfl smd_H_mark_44 ⟨rfl, hT⟩
  · replace hT := hT.2 hc
    refine mm_aload_n (n := 9) (i := 0) smd_H_mark_8 rfl rfl rfl ?_
    refine mm_get (n := 12) (v := .ref (mm_B Γ + 24)) smk_H_21 smb_H rfl smd_H_mark_9 rfl ?_
    refine mm_iload_n (n := 13) (i := 1) smd_H_mark_12 rfl rfl rfl ?_
    refine mm_zald (n := 14) sma_24 hT.1 smd_H_mark_13 rfl ?_
    replace hT := hT.2
    refine mm_if_ne (n := 17) (tgt := 44) smd_H_mark_14 rfl rfl (fun hc => ?_) (fun hc => ?_)
    · replace hT := hT.1 hc
      exact mm_vret rfl smd_H_mark_44 ⟨rfl, hT⟩
    · replace hT := hT.2 hc
      refine mm_aload_n (n := 18) (i := 0) smd_H_mark_17 rfl rfl rfl ?_
      refine mm_get (n := 21) (v := .ref (mm_B Γ + 24)) smk_H_21 smb_H rfl smd_H_mark_18 rfl ?_
      refine mm_iload_n (n := 22) (i := 1) smd_H_mark_21 rfl rfl rfl ?_
      refine mm_iconst (n := 23) (v := 1) smd_H_mark_22 rfl (by decide) ?_
      refine mm_zast (n := 24) sma_24 hT.1 (Or.inr rfl) smd_H_mark_23 rfl ?_
      replace hT := hT.2
      refine mm_nam (fun h23 e_h23 => ?_)
      replace hT := hT h23 e_h23
      refine mm_aload_n (n := 25) (i := 0) smd_H_mark_24 rfl rfl rfl ?_
      refine mm_get (n := 28) (v := .ref (mm_B Γ + 25)) smk_H_25 smb_H rfl smd_H_mark_25 rfl ?_
      refine mm_aload_n (n := 29) (i := 0) smd_H_mark_28 rfl rfl rfl ?_
      refine mm_get (n := 32) (v := .int (h23 20 5)) smk_H_32 smb_H rfl smd_H_mark_29 rfl ?_
      refine mm_iload_n (n := 33) (i := 1) smd_H_mark_32 rfl rfl rfl ?_
      refine mm_iast (n := 34) sma_25 hT.1 smd_H_mark_33 rfl ?_
      replace hT := hT.2
      refine mm_nam (fun h33 e_h33 => ?_)
      replace hT := hT h33 e_h33
      refine mm_aload_n (n := 35) (i := 0) smd_H_mark_34 rfl rfl rfl ?_
      refine mm_dup (n := 36) smd_H_mark_35 rfl rfl ?_
      refine mm_get (n := 39) (v := .int (h33 20 5)) smk_H_32 smb_H rfl smd_H_mark_36 rfl ?_
      refine mm_iconst (n := 40) (v := 1) smd_H_mark_39 rfl (by decide) ?_
      refine mm_iadd (n := 41) smd_H_mark_40 rfl ?_
      refine mm_put (n := 44) smk_H_32 smp_H_5 smb_H rfl (Nat.le_of_ble_eq_true rfl) rfl rfl smd_H_mark_41 rfl ?_
      refine mm_nam (fun h41 e_h41 => ?_)
      replace hT := hT h41 e_h41
      exact mm_vret rfl smd_H_mark_44 ⟨rfl, hT⟩
set_option maxHeartbeats 4000000 in
set_option maxRecDepth 100000 in
theorem smr_H_markFromMarked {Γ : mm_Ctx} {post : mm_Mem → Prop} {h : mm_Mem}  (hT : mm_W Γ smM_H_markFromMarked (mm_pV post) 2 [some (.ref (mm_B Γ + 20)), some (.int (0 : Int32)), none] [] h) : mm_SV Γ smM_H_markFromMarked [.ref (mm_B Γ + 20)] h post := by
  refine mm_spec0 (M := smM_H_markFromMarked) 2 (by decide +kernel) rfl (Nat.le_of_ble_eq_true rfl) ?_
  show mm_W Γ smM_H_markFromMarked (mm_pV post) 0 [some (.ref (mm_B Γ + 20)), none, none] [] h
  refine mm_iconst (n := 1) (v := 0) smd_H_markFromMarked_0 rfl (by decide) ?_
  refine mm_istore_n (n := 2) (i := 1) (L' := [some (.ref (mm_B Γ + 20)), some (.int (0 : Int32)), none]) smd_H_markFromMarked_1 rfl rfl (by decide) rfl ?_
  exact mm_weak (by refine ⟨rfl, rfl, trivial⟩) hT
set_option maxHeartbeats 4000000 in
set_option maxRecDepth 100000 in
theorem smr_H_markFromMarked_2 {Γ : mm_Ctx} {post : mm_Mem → Prop} {h : mm_Mem} (x1 : Int32) (hT : ((h 20 5) ≤ x1 → (post h)) ∧ (¬ (h 20 5) ≤ x1 → (((16 : Int32) ≤ x1 → (post h)) ∧ (¬ (16 : Int32) ≤ x1 → (mm_W Γ smM_H_markFromMarked (mm_pV post) 18 [some (.ref (mm_B Γ + 20)), some (.int x1), some (.int (0 : Int32))] [] h))))) : mm_W Γ smM_H_markFromMarked (mm_pV post) 2 [some (.ref (mm_B Γ + 20)), some (.int x1), none] [] h := by
  refine mm_iload_n (n := 3) (i := 1) smd_H_markFromMarked_2 rfl rfl rfl ?_
  refine mm_aload_n (n := 4) (i := 0) smd_H_markFromMarked_3 rfl rfl rfl ?_
  refine mm_get (n := 7) (v := .int (h 20 5)) smk_H_32 smb_H rfl smd_H_markFromMarked_4 rfl ?_
  refine mm_icmp_ge (n := 10) (tgt := 54) smd_H_markFromMarked_7 rfl rfl (fun hc => ?_) (fun hc => ?_)
  · replace hT := hT.1 hc
    exact mm_vret rfl smd_H_markFromMarked_54 ⟨rfl, hT⟩
  · replace hT := hT.2 hc
    refine mm_iload_n (n := 11) (i := 1) smd_H_markFromMarked_10 rfl rfl rfl ?_
    refine mm_bipush (n := 13) (v := 16) smd_H_markFromMarked_11 rfl (by decide) ?_
    refine mm_icmp_ge (n := 16) (tgt := 54) smd_H_markFromMarked_13 rfl rfl (fun hc => ?_) (fun hc => ?_)
    · replace hT := hT.1 hc
      exact mm_vret rfl smd_H_markFromMarked_54 ⟨rfl, hT⟩
    · replace hT := hT.2 hc
      refine mm_iconst (n := 17) (v := 0) smd_H_markFromMarked_16 rfl (by decide) ?_
      refine mm_istore_n (n := 18) (i := 2) (L' := [some (.ref (mm_B Γ + 20)), some (.int x1), some (.int (0 : Int32))]) smd_H_markFromMarked_17 rfl rfl (by decide) rfl ?_
      exact mm_weak (by refine ⟨rfl, rfl, rfl, trivial⟩) hT
set_option maxHeartbeats 4000000 in
set_option maxRecDepth 100000 in
theorem smr_H_markFromMarked_18 {Γ : mm_Ctx} {post : mm_Mem → Prop} {h : mm_Mem} (x1 : Int32) (x2 : Int32) (hT : ((4 : Int32) ≤ x2 → (mm_W Γ smM_H_markFromMarked (mm_pV post) 2 [some (.ref (mm_B Γ + 20)), some (.int (x1 + (1 : Int32))), none] [] h)) ∧ (¬ (4 : Int32) ≤ x2 → ((vp_in x1 16) ∧ ((vp_in (((h 25 x1.toNatClampNeg) * (4 : Int32)) + x2) 68) ∧ (mm_SV Γ smM_H_mark [.ref (mm_B Γ + 20), .int (h 22 (((h 25 x1.toNatClampNeg) * (4 : Int32)) + x2).toNatClampNeg)] h (fun h39 => mm_W Γ smM_H_markFromMarked (mm_pV post) 18 [some (.ref (mm_B Γ + 20)), some (.int x1), some (.int (x2 + (1 : Int32)))] [] h39)))))) : mm_W Γ smM_H_markFromMarked (mm_pV post) 18 [some (.ref (mm_B Γ + 20)), some (.int x1), some (.int x2)] [] h := by
  refine mm_iload_n (n := 19) (i := 2) smd_H_markFromMarked_18 rfl rfl rfl ?_
  refine mm_iconst (n := 20) (v := 4) smd_H_markFromMarked_19 rfl (by decide) ?_
  refine mm_icmp_ge (n := 23) (tgt := 48) smd_H_markFromMarked_20 rfl rfl (fun hc => ?_) (fun hc => ?_)
  · replace hT := hT.1 hc
    refine mm_iinc (n := 51) (i := 1) (d := 1) (L' := [some (.ref (mm_B Γ + 20)), some (.int (x1 + (1 : Int32))), some (.int x2)]) smd_H_markFromMarked_48 rfl rfl (by decide) (by decide) rfl ?_
    refine mm_goto (n := 2) smd_H_markFromMarked_51 rfl ?_
    exact mm_weak (by refine ⟨rfl, rfl, trivial⟩) hT
  · replace hT := hT.2 hc
    refine mm_aload_n (n := 24) (i := 0) smd_H_markFromMarked_23 rfl rfl rfl ?_
    refine mm_aload_n (n := 25) (i := 0) smd_H_markFromMarked_24 rfl rfl rfl ?_
    refine mm_get (n := 28) (v := .ref (mm_B Γ + 22)) smk_H_15 smb_H rfl smd_H_markFromMarked_25 rfl ?_
    refine mm_aload_n (n := 29) (i := 0) smd_H_markFromMarked_28 rfl rfl rfl ?_
    refine mm_get (n := 32) (v := .ref (mm_B Γ + 25)) smk_H_25 smb_H rfl smd_H_markFromMarked_29 rfl ?_
    refine mm_iload_n (n := 33) (i := 1) smd_H_markFromMarked_32 rfl rfl rfl ?_
    refine mm_iald (n := 34) sma_25 hT.1 smd_H_markFromMarked_33 rfl ?_
    replace hT := hT.2
    refine mm_iconst (n := 35) (v := 4) smd_H_markFromMarked_34 rfl (by decide) ?_
    refine mm_imul (n := 36) smd_H_markFromMarked_35 rfl ?_
    refine mm_iload_n (n := 37) (i := 2) smd_H_markFromMarked_36 rfl rfl rfl ?_
    refine mm_iadd (n := 38) smd_H_markFromMarked_37 rfl ?_
    refine mm_iald (n := 39) sma_22 hT.1 smd_H_markFromMarked_38 rfl ?_
    replace hT := hT.2
    refine mm_callVV (n := 42) (As := [.int (h 22 (((h 25 x1.toNatClampNeg) * (4 : Int32)) + x2).toNatClampNeg)]) (rest := []) smv_H_mark smw_364 smb_H (mm_hRm (by decide) (by decide)) smd_H_markFromMarked_39 rfl rfl (Nat.le_of_ble_eq_true rfl) hT (fun h39 hT => ?_)
    refine mm_iinc (n := 45) (i := 2) (d := 1) (L' := [some (.ref (mm_B Γ + 20)), some (.int x1), some (.int (x2 + (1 : Int32)))]) smd_H_markFromMarked_42 rfl rfl (by decide) (by decide) rfl ?_
    refine mm_goto (n := 18) smd_H_markFromMarked_45 rfl ?_
    exact mm_weak (by refine ⟨rfl, rfl, rfl, trivial⟩) hT
set_option maxHeartbeats 4000000 in
set_option maxRecDepth 100000 in
theorem smr_H_dropUnmarked {Γ : mm_Ctx} {post : Int32 → mm_Mem → Prop} {h : mm_Mem}  (hT : mm_W Γ smM_H_dropUnmarked (mm_pI post) 4 [some (.ref (mm_B Γ + 20)), some (.int (0 : Int32)), some (.int (1 : Int32))] [] h) : mm_SI Γ smM_H_dropUnmarked [.ref (mm_B Γ + 20)] h post := by
  refine mm_spec0 (M := smM_H_dropUnmarked) 2 (by decide +kernel) rfl (Nat.le_of_ble_eq_true rfl) ?_
  show mm_W Γ smM_H_dropUnmarked (mm_pI post) 0 [some (.ref (mm_B Γ + 20)), none, none] [] h
  refine mm_iconst (n := 1) (v := 0) smd_H_dropUnmarked_0 rfl (by decide) ?_
  refine mm_istore_n (n := 2) (i := 1) (L' := [some (.ref (mm_B Γ + 20)), some (.int (0 : Int32)), none]) smd_H_dropUnmarked_1 rfl rfl (by decide) rfl ?_
  refine mm_iconst (n := 3) (v := 1) smd_H_dropUnmarked_2 rfl (by decide) ?_
  refine mm_istore_n (n := 4) (i := 2) (L' := [some (.ref (mm_B Γ + 20)), some (.int (0 : Int32)), some (.int (1 : Int32))]) smd_H_dropUnmarked_3 rfl rfl (by decide) rfl ?_
  exact mm_weak (by refine ⟨rfl, rfl, rfl, trivial⟩) hT
set_option maxHeartbeats 4000000 in
set_option maxRecDepth 100000 in
theorem smr_H_dropUnmarked_4 {Γ : mm_Ctx} {post : Int32 → mm_Mem → Prop} {h : mm_Mem} (x1 : Int32) (x2 : Int32) (hT : ((16 : Int32) < x2 → (post x1 h)) ∧ (¬ (16 : Int32) < x2 → (mm_SI Γ smM_H_has [.ref (mm_B Γ + 20), .int x2] h (fun r12 h12 => (r12 = 0 → (mm_W Γ smM_H_dropUnmarked (mm_pI post) 4 [some (.ref (mm_B Γ + 20)), some (.int x1), some (.int (x2 + (1 : Int32)))] [] h12)) ∧ (¬ r12 = 0 → ((vp_in x2 17) ∧ ((¬ (h12 24 x2.toNatClampNeg) = 0 → (mm_W Γ smM_H_dropUnmarked (mm_pI post) 4 [some (.ref (mm_B Γ + 20)), some (.int x1), some (.int (x2 + (1 : Int32)))] [] h12)) ∧ ((h12 24 x2.toNatClampNeg) = 0 → ((vp_in x2 17) ∧ (∀ h33 : mm_Mem, h33 = mm_wr h12 21 x2.toNatClampNeg (-1 : Int32) → (mm_W Γ smM_H_dropUnmarked (mm_pI post) 4 [some (.ref (mm_B Γ + 20)), some (.int (x1 + (1 : Int32))), some (.int (x2 + (1 : Int32)))] [] h33))))))))))) : mm_W Γ smM_H_dropUnmarked (mm_pI post) 4 [some (.ref (mm_B Γ + 20)), some (.int x1), some (.int x2)] [] h := by
  refine mm_iload_n (n := 5) (i := 2) smd_H_dropUnmarked_4 rfl rfl rfl ?_
  refine mm_bipush (n := 7) (v := 16) smd_H_dropUnmarked_5 rfl (by decide) ?_
  refine mm_icmp_gt (n := 10) (tgt := 43) smd_H_dropUnmarked_7 rfl rfl (fun hc => ?_) (fun hc => ?_)
  · replace hT := hT.1 hc
    refine mm_iload_n (n := 44) (i := 1) smd_H_dropUnmarked_43 rfl rfl rfl ?_
    exact mm_iret rfl smd_H_dropUnmarked_44 ⟨_, rfl, hT⟩
  · replace hT := hT.2 hc
    refine mm_aload_n (n := 11) (i := 0) smd_H_dropUnmarked_10 rfl rfl rfl ?_
    refine mm_iload_n (n := 12) (i := 2) smd_H_dropUnmarked_11 rfl rfl rfl ?_
    refine mm_callVI (n := 15) (As := [.int x2]) (rest := []) smv_H_has smw_356 smb_H (mm_hRm (by decide) (by decide)) smd_H_dropUnmarked_12 rfl rfl (Nat.le_of_ble_eq_true rfl) hT (fun r12 h12 hT => ?_)
    refine mm_if_eq (n := 18) (tgt := 37) smd_H_dropUnmarked_15 rfl rfl (fun hc => ?_) (fun hc => ?_)
    · replace hT := hT.1 hc
      refine mm_iinc (n := 40) (i := 2) (d := 1) (L' := [some (.ref (mm_B Γ + 20)), some (.int x1), some (.int (x2 + (1 : Int32)))]) smd_H_dropUnmarked_37 rfl rfl (by decide) (by decide) rfl ?_
      refine mm_goto (n := 4) smd_H_dropUnmarked_40 rfl ?_
      exact mm_weak (by refine ⟨rfl, rfl, rfl, trivial⟩) hT
    · replace hT := hT.2 hc
      refine mm_aload_n (n := 19) (i := 0) smd_H_dropUnmarked_18 rfl rfl rfl ?_
      refine mm_get (n := 22) (v := .ref (mm_B Γ + 24)) smk_H_21 smb_H rfl smd_H_dropUnmarked_19 rfl ?_
      refine mm_iload_n (n := 23) (i := 2) smd_H_dropUnmarked_22 rfl rfl rfl ?_
      refine mm_zald (n := 24) sma_24 hT.1 smd_H_dropUnmarked_23 rfl ?_
      replace hT := hT.2
      refine mm_if_ne (n := 27) (tgt := 37) smd_H_dropUnmarked_24 rfl rfl (fun hc => ?_) (fun hc => ?_)
      · replace hT := hT.1 hc
        refine mm_iinc (n := 40) (i := 2) (d := 1) (L' := [some (.ref (mm_B Γ + 20)), some (.int x1), some (.int (x2 + (1 : Int32)))]) smd_H_dropUnmarked_37 rfl rfl (by decide) (by decide) rfl ?_
        refine mm_goto (n := 4) smd_H_dropUnmarked_40 rfl ?_
        exact mm_weak (by refine ⟨rfl, rfl, rfl, trivial⟩) hT
      · replace hT := hT.2 hc
        refine mm_aload_n (n := 28) (i := 0) smd_H_dropUnmarked_27 rfl rfl rfl ?_
        refine mm_get (n := 31) (v := .ref (mm_B Γ + 21)) smk_H_9 smb_H rfl smd_H_dropUnmarked_28 rfl ?_
        refine mm_iload_n (n := 32) (i := 2) smd_H_dropUnmarked_31 rfl rfl rfl ?_
        refine mm_iconst (n := 33) (v := -1) smd_H_dropUnmarked_32 rfl (by decide) ?_
        refine mm_iast (n := 34) sma_21 hT.1 smd_H_dropUnmarked_33 rfl ?_
        replace hT := hT.2
        refine mm_nam (fun h33 e_h33 => ?_)
        replace hT := hT h33 e_h33
        refine mm_iinc (n := 37) (i := 1) (d := 1) (L' := [some (.ref (mm_B Γ + 20)), some (.int (x1 + (1 : Int32))), some (.int x2)]) smd_H_dropUnmarked_34 rfl rfl (by decide) (by decide) rfl ?_
        refine mm_iinc (n := 40) (i := 2) (d := 1) (L' := [some (.ref (mm_B Γ + 20)), some (.int (x1 + (1 : Int32))), some (.int (x2 + (1 : Int32)))]) smd_H_dropUnmarked_37 rfl rfl (by decide) (by decide) rfl ?_
        refine mm_goto (n := 4) smd_H_dropUnmarked_40 rfl ?_
        exact mm_weak (by refine ⟨rfl, rfl, rfl, trivial⟩) hT
set_option maxHeartbeats 4000000 in
set_option maxRecDepth 100000 in
theorem smr_H_makeOver {Γ : mm_Ctx} {post : Int32 → mm_Mem → Prop} {h : mm_Mem} {u2 : Nat} (h_u2 : u2 = 1 ∨ u2 = 8) (x3 : Int32) (hT : ∀ h15 : mm_Mem, h15 = mm_cp h 22 23 68 → (mm_W Γ smM_H_makeOver (mm_pI post) 24 [some (.ref (mm_B Γ + 20)), some (.ref (mm_B Γ + 15)), some (.ref (mm_B Γ + u2)), none, some (.int x3), some (.int (1 : Int32)), none] [] h15)) : mm_SI Γ smM_H_makeOver [.ref (mm_B Γ + 20), .ref (mm_B Γ + 15), .ref (mm_B Γ + u2), .int x3] h post := by
  refine mm_spec0 (M := smM_H_makeOver) 3 (by decide +kernel) rfl (Nat.le_of_ble_eq_true rfl) ?_
  show mm_W Γ smM_H_makeOver (mm_pI post) 0 [some (.ref (mm_B Γ + 20)), some (.ref (mm_B Γ + 15)), some (.ref (mm_B Γ + u2)), some (.int x3), none, none, none] [] h
  refine mm_aload_n (n := 1) (i := 0) smd_H_makeOver_0 rfl rfl rfl ?_
  refine mm_get (n := 4) (v := .ref (mm_B Γ + 22)) smk_H_15 smb_H rfl smd_H_makeOver_1 rfl ?_
  refine mm_iconst (n := 5) (v := 0) smd_H_makeOver_4 rfl (by decide) ?_
  refine mm_aload_n (n := 6) (i := 0) smd_H_makeOver_5 rfl rfl rfl ?_
  refine mm_get (n := 9) (v := .ref (mm_B Γ + 23)) smk_H_18 smb_H rfl smd_H_makeOver_6 rfl ?_
  refine mm_iconst (n := 10) (v := 0) smd_H_makeOver_9 rfl (by decide) ?_
  refine mm_aload_n (n := 11) (i := 0) smd_H_makeOver_10 rfl rfl rfl ?_
  refine mm_get (n := 14) (v := .ref (mm_B Γ + 22)) smk_H_15 smb_H rfl smd_H_makeOver_11 rfl ?_
  refine mm_alen (n := 15) (v := 68) sma_22 (by decide) smd_H_makeOver_14 rfl ?_
  refine mm_copy (n := 18) (q0 := 22) (q1 := 23) smc_H_40 sma_22 sma_23 (by decide) (by decide) ⟨Nat.le_of_ble_eq_true rfl, Nat.le_of_ble_eq_true rfl⟩ smd_H_makeOver_15 rfl ?_
  refine mm_nam (fun h15 e_h15 => ?_)
  replace hT := hT h15 e_h15
  refine mm_iload_n (n := 19) (i := 3) smd_H_makeOver_18 rfl rfl rfl ?_
  refine mm_istore (n := 21) (i := 4) (L' := [some (.ref (mm_B Γ + 20)), some (.ref (mm_B Γ + 15)), some (.ref (mm_B Γ + u2)), some (.int x3), some (.int x3), none, none]) smd_H_makeOver_19 rfl (by decide) rfl ?_
  refine mm_iconst (n := 22) (v := 1) smd_H_makeOver_21 rfl (by decide) ?_
  refine mm_istore (n := 24) (i := 5) (L' := [some (.ref (mm_B Γ + 20)), some (.ref (mm_B Γ + 15)), some (.ref (mm_B Γ + u2)), some (.int x3), some (.int x3), some (.int (1 : Int32)), none]) smd_H_makeOver_22 rfl (by decide) rfl ?_
  exact mm_weak (by refine ⟨rfl, rfl, rfl, rfl, rfl, trivial⟩) hT
set_option maxHeartbeats 4000000 in
set_option maxRecDepth 100000 in
theorem smr_H_makeOver_24 {Γ : mm_Ctx} {post : Int32 → mm_Mem → Prop} {h : mm_Mem} {u2 : Nat} (h_u2 : u2 = 1 ∨ u2 = 8) (x4 : Int32) (x5 : Int32) (hT : ((16 : Int32) < x5 → (∀ h116 : mm_Mem, h116 = mm_cp h 23 22 68 → (post (1 : Int32) h116))) ∧ (¬ (16 : Int32) < x5 → (mm_SI Γ smM_H_has [.ref (mm_B Γ + 20), .int x5] h (fun r34 h34 => (r34 = 0 → (mm_W Γ smM_H_makeOver (mm_pI post) 24 [some (.ref (mm_B Γ + 20)), some (.ref (mm_B Γ + 15)), some (.ref (mm_B Γ + u2)), none, some (.int x4), some (.int (x5 + (1 : Int32))), none] [] h34)) ∧ (¬ r34 = 0 → ((vp_in x5 17) ∧ ((vp_in (h34 21 x5.toNatClampNeg) 3) ∧ (((h34 16 (h34 21 x5.toNatClampNeg).toNatClampNeg) = 0 → (mm_W Γ smM_H_makeOver (mm_pI post) 24 [some (.ref (mm_B Γ + 20)), some (.ref (mm_B Γ + 15)), some (.ref (mm_B Γ + u2)), none, some (.int x4), some (.int (x5 + (1 : Int32))), none] [] h34)) ∧ (¬ (h34 16 (h34 21 x5.toNatClampNeg).toNatClampNeg) = 0 → ((vp_in x5 17) ∧ ((vp_in (h34 21 x5.toNatClampNeg) 3) ∧ (∀ y6_67 : Int32, y6_67 = h34 (u2 + 6) (h34 21 x5.toNatClampNeg).toNatClampNeg → ((x4 < y6_67 → (post (0 : Int32) h34)) ∧ (¬ x4 < y6_67 → (mm_SI Γ smM_H_makeOverOne [.ref (mm_B Γ + 20), .int x5, .ref (mm_B Γ + 15)] h34 (fun r80 h80 => (¬ r80 = 0 → (∀ y4_93 : Int32, y4_93 = x4 - y6_67 → (mm_W Γ smM_H_makeOver (mm_pI post) 24 [some (.ref (mm_B Γ + 20)), some (.ref (mm_B Γ + 15)), some (.ref (mm_B Γ + u2)), none, some (.int y4_93), some (.int (x5 + (1 : Int32))), none] [] h80))) ∧ (r80 = 0 → (post (0 : Int32) h80)))))))))))))))))) : mm_W Γ smM_H_makeOver (mm_pI post) 24 [some (.ref (mm_B Γ + 20)), some (.ref (mm_B Γ + 15)), some (.ref (mm_B Γ + u2)), none, some (.int x4), some (.int x5), none] [] h := by
  refine mm_iload (n := 26) (i := 5) smd_H_makeOver_24 rfl rfl ?_
  refine mm_bipush (n := 28) (v := 16) smd_H_makeOver_26 rfl (by decide) ?_
  refine mm_icmp_gt (n := 31) (tgt := 101) smd_H_makeOver_28 rfl rfl (fun hc => ?_) (fun hc => ?_)
  · replace hT := hT.1 hc
    refine mm_aload_n (n := 102) (i := 0) smd_H_makeOver_101 rfl rfl rfl ?_
    refine mm_get (n := 105) (v := .ref (mm_B Γ + 23)) smk_H_18 smb_H rfl smd_H_makeOver_102 rfl ?_
    refine mm_iconst (n := 106) (v := 0) smd_H_makeOver_105 rfl (by decide) ?_
    refine mm_aload_n (n := 107) (i := 0) smd_H_makeOver_106 rfl rfl rfl ?_
    refine mm_get (n := 110) (v := .ref (mm_B Γ + 22)) smk_H_15 smb_H rfl smd_H_makeOver_107 rfl ?_
    refine mm_iconst (n := 111) (v := 0) smd_H_makeOver_110 rfl (by decide) ?_
    refine mm_aload_n (n := 112) (i := 0) smd_H_makeOver_111 rfl rfl rfl ?_
    refine mm_get (n := 115) (v := .ref (mm_B Γ + 22)) smk_H_15 smb_H rfl smd_H_makeOver_112 rfl ?_
    refine mm_alen (n := 116) (v := 68) sma_22 (by decide) smd_H_makeOver_115 rfl ?_
    refine mm_copy (n := 119) (q0 := 23) (q1 := 22) smc_H_40 sma_23 sma_22 (by decide) (by decide) ⟨Nat.le_of_ble_eq_true rfl, Nat.le_of_ble_eq_true rfl⟩ smd_H_makeOver_116 rfl ?_
    refine mm_nam (fun h116 e_h116 => ?_)
    replace hT := hT h116 e_h116
    refine mm_iconst (n := 120) (v := 1) smd_H_makeOver_119 rfl (by decide) ?_
    exact mm_zret rfl (Or.inr rfl) smd_H_makeOver_120 ⟨_, rfl, hT⟩
  · replace hT := hT.2 hc
    refine mm_aload_n (n := 32) (i := 0) smd_H_makeOver_31 rfl rfl rfl ?_
    refine mm_iload (n := 34) (i := 5) smd_H_makeOver_32 rfl rfl ?_
    refine mm_callVI (n := 37) (As := [.int x5]) (rest := []) smv_H_has smw_356 smb_H (mm_hRm (by decide) (by decide)) smd_H_makeOver_34 rfl rfl (Nat.le_of_ble_eq_true rfl) hT (fun r34 h34 hT => ?_)
    refine mm_if_eq (n := 40) (tgt := 95) smd_H_makeOver_37 rfl rfl (fun hc => ?_) (fun hc => ?_)
    · replace hT := hT.1 hc
      refine mm_iinc (n := 98) (i := 5) (d := 1) (L' := [some (.ref (mm_B Γ + 20)), some (.ref (mm_B Γ + 15)), some (.ref (mm_B Γ + u2)), none, some (.int x4), some (.int (x5 + (1 : Int32))), none]) smd_H_makeOver_95 rfl rfl (by decide) (by decide) rfl ?_
      refine mm_goto (n := 24) smd_H_makeOver_98 rfl ?_
      exact mm_weak (by refine ⟨rfl, rfl, rfl, rfl, rfl, trivial⟩) hT
    · replace hT := hT.2 hc
      refine mm_aload_n (n := 41) (i := 1) smd_H_makeOver_40 rfl rfl rfl ?_
      refine mm_get (n := 44) (v := .ref (mm_B Γ + 16)) smk_H_46 smb_R rfl smd_H_makeOver_41 rfl ?_
      refine mm_aload_n (n := 45) (i := 0) smd_H_makeOver_44 rfl rfl rfl ?_
      refine mm_get (n := 48) (v := .ref (mm_B Γ + 21)) smk_H_9 smb_H rfl smd_H_makeOver_45 rfl ?_
      refine mm_iload (n := 50) (i := 5) smd_H_makeOver_48 rfl rfl ?_
      refine mm_iald (n := 51) sma_21 hT.1 smd_H_makeOver_50 rfl ?_
      replace hT := hT.2
      refine mm_zald (n := 52) sma_16 hT.1 smd_H_makeOver_51 rfl ?_
      replace hT := hT.2
      refine mm_if_eq (n := 55) (tgt := 95) smd_H_makeOver_52 rfl rfl (fun hc => ?_) (fun hc => ?_)
      · replace hT := hT.1 hc
        refine mm_iinc (n := 98) (i := 5) (d := 1) (L' := [some (.ref (mm_B Γ + 20)), some (.ref (mm_B Γ + 15)), some (.ref (mm_B Γ + u2)), none, some (.int x4), some (.int (x5 + (1 : Int32))), none]) smd_H_makeOver_95 rfl rfl (by decide) (by decide) rfl ?_
        refine mm_goto (n := 24) smd_H_makeOver_98 rfl ?_
        exact mm_weak (by refine ⟨rfl, rfl, rfl, rfl, rfl, trivial⟩) hT
      · replace hT := hT.2 hc
        refine mm_aload_n (n := 56) (i := 2) smd_H_makeOver_55 rfl rfl rfl ?_
        refine mm_get (n := 59) (v := .ref (mm_B Γ + (u2 + 6))) smk_H_51 (smb_V h_u2) rfl smd_H_makeOver_56 rfl ?_
        refine mm_aload_n (n := 60) (i := 0) smd_H_makeOver_59 rfl rfl rfl ?_
        refine mm_get (n := 63) (v := .ref (mm_B Γ + 21)) smk_H_9 smb_H rfl smd_H_makeOver_60 rfl ?_
        refine mm_iload (n := 65) (i := 5) smd_H_makeOver_63 rfl rfl ?_
        refine mm_iald (n := 66) sma_21 hT.1 smd_H_makeOver_65 rfl ?_
        replace hT := hT.2
        refine mm_iald (n := 67) (sma_V6 h_u2) hT.1 smd_H_makeOver_66 rfl ?_
        replace hT := hT.2
        refine mm_top (fun y6_67 e_y6_67 => ?_)
        replace hT := hT y6_67 e_y6_67
        refine mm_istore (n := 69) (i := 6) (L' := [some (.ref (mm_B Γ + 20)), some (.ref (mm_B Γ + 15)), some (.ref (mm_B Γ + u2)), none, some (.int x4), some (.int x5), some (.int y6_67)]) smd_H_makeOver_67 rfl (by decide) rfl ?_
        refine mm_iload (n := 71) (i := 4) smd_H_makeOver_69 rfl rfl ?_
        refine mm_iload (n := 73) (i := 6) smd_H_makeOver_71 rfl rfl ?_
        refine mm_icmp_lt (n := 76) (tgt := 86) smd_H_makeOver_73 rfl rfl (fun hc => ?_) (fun hc => ?_)
        · replace hT := hT.1 hc
          refine mm_iconst (n := 87) (v := 0) smd_H_makeOver_86 rfl (by decide) ?_
          exact mm_zret rfl (Or.inl rfl) smd_H_makeOver_87 ⟨_, rfl, hT⟩
        · replace hT := hT.2 hc
          refine mm_aload_n (n := 77) (i := 0) smd_H_makeOver_76 rfl rfl rfl ?_
          refine mm_iload (n := 79) (i := 5) smd_H_makeOver_77 rfl rfl ?_
          refine mm_aload_n (n := 80) (i := 1) smd_H_makeOver_79 rfl rfl rfl ?_
          refine mm_callVI (n := 83) (As := [.int x5, .ref (mm_B Γ + 15)]) (rest := []) smv_H_makeOverOne smw_374 smb_H (mm_hRm (by decide) (by decide)) smd_H_makeOver_80 rfl rfl (Nat.le_of_ble_eq_true rfl) hT (fun r80 h80 hT => ?_)
          refine mm_if_ne (n := 86) (tgt := 88) smd_H_makeOver_83 rfl rfl (fun hc => ?_) (fun hc => ?_)
          · replace hT := hT.1 hc
            refine mm_iload (n := 90) (i := 4) smd_H_makeOver_88 rfl rfl ?_
            refine mm_iload (n := 92) (i := 6) smd_H_makeOver_90 rfl rfl ?_
            refine mm_isub (n := 93) smd_H_makeOver_92 rfl ?_
            refine mm_top (fun y4_93 e_y4_93 => ?_)
            replace hT := hT y4_93 e_y4_93
            refine mm_istore (n := 95) (i := 4) (L' := [some (.ref (mm_B Γ + 20)), some (.ref (mm_B Γ + 15)), some (.ref (mm_B Γ + u2)), none, some (.int y4_93), some (.int x5), some (.int y6_67)]) smd_H_makeOver_93 rfl (by decide) rfl ?_
            refine mm_iinc (n := 98) (i := 5) (d := 1) (L' := [some (.ref (mm_B Γ + 20)), some (.ref (mm_B Γ + 15)), some (.ref (mm_B Γ + u2)), none, some (.int y4_93), some (.int (x5 + (1 : Int32))), some (.int y6_67)]) smd_H_makeOver_95 rfl rfl (by decide) (by decide) rfl ?_
            refine mm_goto (n := 24) smd_H_makeOver_98 rfl ?_
            exact mm_weak (by refine ⟨rfl, rfl, rfl, rfl, rfl, trivial⟩) hT
          · replace hT := hT.2 hc
            refine mm_iconst (n := 87) (v := 0) smd_H_makeOver_86 rfl (by decide) ?_
            exact mm_zret rfl (Or.inl rfl) smd_H_makeOver_87 ⟨_, rfl, hT⟩
set_option maxHeartbeats 4000000 in
set_option maxRecDepth 100000 in
theorem smr_H_makeOverOne {Γ : mm_Ctx} {post : Int32 → mm_Mem → Prop} {h : mm_Mem} (x1 : Int32) (hT : ∀ y3_3 : Int32, y3_3 = x1 * (4 : Int32) → (mm_W Γ smM_H_makeOverOne (mm_pI post) 7 [some (.ref (mm_B Γ + 20)), some (.int x1), some (.ref (mm_B Γ + 15)), some (.int y3_3), some (.int (0 : Int32)), none] [] h)) : mm_SI Γ smM_H_makeOverOne [.ref (mm_B Γ + 20), .int x1, .ref (mm_B Γ + 15)] h post := by
  refine mm_spec0 (M := smM_H_makeOverOne) 3 (by decide +kernel) rfl (Nat.le_of_ble_eq_true rfl) ?_
  show mm_W Γ smM_H_makeOverOne (mm_pI post) 0 [some (.ref (mm_B Γ + 20)), some (.int x1), some (.ref (mm_B Γ + 15)), none, none, none] [] h
  refine mm_iload_n (n := 1) (i := 1) smd_H_makeOverOne_0 rfl rfl rfl ?_
  refine mm_iconst (n := 2) (v := 4) smd_H_makeOverOne_1 rfl (by decide) ?_
  refine mm_imul (n := 3) smd_H_makeOverOne_2 rfl ?_
  refine mm_top (fun y3_3 e_y3_3 => ?_)
  replace hT := hT y3_3 e_y3_3
  refine mm_istore_n (n := 4) (i := 3) (L' := [some (.ref (mm_B Γ + 20)), some (.int x1), some (.ref (mm_B Γ + 15)), some (.int y3_3), none, none]) smd_H_makeOverOne_3 rfl rfl (by decide) rfl ?_
  refine mm_iconst (n := 5) (v := 0) smd_H_makeOverOne_4 rfl (by decide) ?_
  refine mm_istore (n := 7) (i := 4) (L' := [some (.ref (mm_B Γ + 20)), some (.int x1), some (.ref (mm_B Γ + 15)), some (.int y3_3), some (.int (0 : Int32)), none]) smd_H_makeOverOne_5 rfl (by decide) rfl ?_
  exact mm_weak (by refine ⟨rfl, rfl, rfl, rfl, rfl, trivial⟩) hT
set_option maxHeartbeats 4000000 in
set_option maxRecDepth 100000 in
theorem smr_H_makeOverOne_7 {Γ : mm_Ctx} {post : Int32 → mm_Mem → Prop} {h : mm_Mem} (x1 : Int32) (x3 : Int32) (x4 : Int32) (hT : ((4 : Int32) ≤ x4 → (post (1 : Int32) h)) ∧ (¬ (4 : Int32) ≤ x4 → ((vp_in x1 17) ∧ (∀ y5_24 : Int32, y5_24 = ((h 21 x1.toNatClampNeg) * (4 : Int32)) + x4 → (mm_SI Γ smM_R_isFaulty [.ref (mm_B Γ + 15), .int y5_24, .ref (mm_B Γ + 22), .int x3] h (fun r34 h34 => (r34 = 0 → (mm_SI Γ smM_R_valueOf [.ref (mm_B Γ + 15), .int y5_24, .ref (mm_B Γ + 22), .int x3] h34 (fun r58 h58 => (vp_in (x3 + x4) 68) ∧ (∀ h61 : mm_Mem, h61 = mm_wr h58 23 (x3 + x4).toNatClampNeg r58 → (mm_W Γ smM_H_makeOverOne (mm_pI post) 7 [some (.ref (mm_B Γ + 20)), some (.int x1), some (.ref (mm_B Γ + 15)), some (.int x3), some (.int (x4 + (1 : Int32))), none] [] h61))))) ∧ (¬ r34 = 0 → (post (0 : Int32) h34)))))))) : mm_W Γ smM_H_makeOverOne (mm_pI post) 7 [some (.ref (mm_B Γ + 20)), some (.int x1), some (.ref (mm_B Γ + 15)), some (.int x3), some (.int x4), none] [] h := by
  refine mm_iload (n := 9) (i := 4) smd_H_makeOverOne_7 rfl rfl ?_
  refine mm_iconst (n := 10) (v := 4) smd_H_makeOverOne_9 rfl (by decide) ?_
  refine mm_icmp_ge (n := 13) (tgt := 68) smd_H_makeOverOne_10 rfl rfl (fun hc => ?_) (fun hc => ?_)
  · replace hT := hT.1 hc
    refine mm_iconst (n := 69) (v := 1) smd_H_makeOverOne_68 rfl (by decide) ?_
    exact mm_zret rfl (Or.inr rfl) smd_H_makeOverOne_69 ⟨_, rfl, hT⟩
  · replace hT := hT.2 hc
    refine mm_aload_n (n := 14) (i := 0) smd_H_makeOverOne_13 rfl rfl rfl ?_
    refine mm_get (n := 17) (v := .ref (mm_B Γ + 21)) smk_H_9 smb_H rfl smd_H_makeOverOne_14 rfl ?_
    refine mm_iload_n (n := 18) (i := 1) smd_H_makeOverOne_17 rfl rfl rfl ?_
    refine mm_iald (n := 19) sma_21 hT.1 smd_H_makeOverOne_18 rfl ?_
    replace hT := hT.2
    refine mm_iconst (n := 20) (v := 4) smd_H_makeOverOne_19 rfl (by decide) ?_
    refine mm_imul (n := 21) smd_H_makeOverOne_20 rfl ?_
    refine mm_iload (n := 23) (i := 4) smd_H_makeOverOne_21 rfl rfl ?_
    refine mm_iadd (n := 24) smd_H_makeOverOne_23 rfl ?_
    refine mm_top (fun y5_24 e_y5_24 => ?_)
    replace hT := hT y5_24 e_y5_24
    refine mm_istore (n := 26) (i := 5) (L' := [some (.ref (mm_B Γ + 20)), some (.int x1), some (.ref (mm_B Γ + 15)), some (.int x3), some (.int x4), some (.int y5_24)]) smd_H_makeOverOne_24 rfl (by decide) rfl ?_
    refine mm_aload_n (n := 27) (i := 2) smd_H_makeOverOne_26 rfl rfl rfl ?_
    refine mm_iload (n := 29) (i := 5) smd_H_makeOverOne_27 rfl rfl ?_
    refine mm_aload_n (n := 30) (i := 0) smd_H_makeOverOne_29 rfl rfl rfl ?_
    refine mm_get (n := 33) (v := .ref (mm_B Γ + 22)) smk_H_15 smb_H rfl smd_H_makeOverOne_30 rfl ?_
    refine mm_iload_n (n := 34) (i := 3) smd_H_makeOverOne_33 rfl rfl rfl ?_
    refine mm_callVI (n := 37) (As := [.int y5_24, .ref (mm_B Γ + 22), .int x3]) (rest := []) smv_R_isFaulty smw_378 smb_R (mm_hRm (by decide) (by decide)) smd_H_makeOverOne_34 rfl rfl (Nat.le_of_ble_eq_true rfl) hT (fun r34 h34 hT => ?_)
    refine mm_if_eq (n := 40) (tgt := 42) smd_H_makeOverOne_37 rfl rfl (fun hc => ?_) (fun hc => ?_)
    · replace hT := hT.1 hc
      refine mm_aload_n (n := 43) (i := 0) smd_H_makeOverOne_42 rfl rfl rfl ?_
      refine mm_get (n := 46) (v := .ref (mm_B Γ + 23)) smk_H_18 smb_H rfl smd_H_makeOverOne_43 rfl ?_
      refine mm_iload_n (n := 47) (i := 3) smd_H_makeOverOne_46 rfl rfl rfl ?_
      refine mm_iload (n := 49) (i := 4) smd_H_makeOverOne_47 rfl rfl ?_
      refine mm_iadd (n := 50) smd_H_makeOverOne_49 rfl ?_
      refine mm_aload_n (n := 51) (i := 2) smd_H_makeOverOne_50 rfl rfl rfl ?_
      refine mm_iload (n := 53) (i := 5) smd_H_makeOverOne_51 rfl rfl ?_
      refine mm_aload_n (n := 54) (i := 0) smd_H_makeOverOne_53 rfl rfl rfl ?_
      refine mm_get (n := 57) (v := .ref (mm_B Γ + 22)) smk_H_15 smb_H rfl smd_H_makeOverOne_54 rfl ?_
      refine mm_iload_n (n := 58) (i := 3) smd_H_makeOverOne_57 rfl rfl rfl ?_
      refine mm_callVI (n := 61) (As := [.int y5_24, .ref (mm_B Γ + 22), .int x3]) (rest := [.int (x3 + x4), .ref (mm_B Γ + 23)]) smv_R_valueOf smw_382 smb_R (mm_hRm (by decide) (by decide)) smd_H_makeOverOne_58 rfl rfl (Nat.le_of_ble_eq_true rfl) hT (fun r58 h58 hT => ?_)
      refine mm_iast (n := 62) sma_23 hT.1 smd_H_makeOverOne_61 rfl ?_
      replace hT := hT.2
      refine mm_nam (fun h61 e_h61 => ?_)
      replace hT := hT h61 e_h61
      refine mm_iinc (n := 65) (i := 4) (d := 1) (L' := [some (.ref (mm_B Γ + 20)), some (.int x1), some (.ref (mm_B Γ + 15)), some (.int x3), some (.int (x4 + (1 : Int32))), some (.int y5_24)]) smd_H_makeOverOne_62 rfl rfl (by decide) (by decide) rfl ?_
      refine mm_goto (n := 7) smd_H_makeOverOne_65 rfl ?_
      exact mm_weak (by refine ⟨rfl, rfl, rfl, rfl, rfl, trivial⟩) hT
    · replace hT := hT.2 hc
      refine mm_iconst (n := 41) (v := 0) smd_H_makeOverOne_40 rfl (by decide) ?_
      exact mm_zret rfl (Or.inl rfl) smd_H_makeOverOne_41 ⟨_, rfl, hT⟩
