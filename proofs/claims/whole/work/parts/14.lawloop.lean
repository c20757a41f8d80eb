abbrev smM_L : mm_MD := (x, code, 4, ret, 7)
abbrev mm_El (Γ : mm_Ctx) (b Len : Nat) (xs : Nat → Int32) : mm_E := (room_1, 81, 2340, (fun args s => args = #[Value.ref b] ∧ va_X b Len xs s s.heap ∧ b < s.heap.size ∧ s.heap.size = mm_B Γ), (fun below args s => lw_Z below args s))
section LW
variable {Γ : mm_Ctx} {b Len pc n : Nat} {xs : Nat → Int32} {L : List (Option Value)} {st : List Value} {h : mm_Mem}
theorem mm_sld {i : Int32} (hin : vp_in i Len) (hd : decode code pc = .ok (.iaload, 1)) (hn : pc + 1 = n) (k : mm_WG Γ smM_L (mm_El Γ b Len xs) n L (.int (xs i.toNatClampNeg) :: st) h) : mm_WG Γ smM_L (mm_El Γ b Len xs) pc L (.int i :: .ref b :: st) h := by
  subst hn
  intro p e s m args below meth c F X H locs ls hP hS hL
  have X0 := X
  obtain ⟨h1, h2, h3, h4⟩ := X0
  exact va_sld F.1 F.2.1 h2 h3 (fun q => by have := q.1; rw [← h4] at this; omega) hS hin hd (k p e s m args below meth c F X H locs ls hP hS hL)
theorem mm_slen {v : Int32} (hv : Int32.ofNat Len = v) (hd : decode code pc = .ok (.arraylength, 1)) (hn : pc + 1 = n) (k : mm_WG Γ smM_L (mm_El Γ b Len xs) n L (.int v :: st) h) : mm_WG Γ smM_L (mm_El Γ b Len xs) pc L (.ref b :: st) h := by
  subst hn
  subst hv
  intro p e s m args below meth c F X H locs ls hP hS hL
  have X0 := X
  obtain ⟨h1, h2, h3, h4⟩ := X0
  exact va_slen F.1 F.2.1 h2 h3 (fun q => by have := q.1; rw [← h4] at this; omega) hS hd (k p e s m args below meth c F X H locs ls hP hS hL)
theorem mm_lret (hd : decode code pc = .ok (.ireturn, 1)) : mm_WG Γ smM_L (mm_El Γ b Len xs) pc L [.int 1] h := by
  intro p e s m args below meth c F X H locs ls hP hS hL
  obtain ⟨rfl, h2, h3, h4⟩ := X
  refine va_forget (fun q hq => by have := (hS.2.2 q hq).1; rw [h4]; exact this) ?_
  refine W.widen (k := 600000) (n := 7302250) (Nat.le_of_ble_eq_true rfl) (Nat.le_of_ble_eq_true rfl) ?_
  exact lw_ret F.1 F.2.1 F.2.2.1 F.2.2.2.2.2.2.1 hd
theorem mm_hRl {M' : mm_MD} (h1 : M'.2.2.2.2 + 1 ≤ 9) (h2 : M'.2.2.1 ≤ 17) : mm_hR M' (mm_El Γ b Len xs) := ⟨h1, (by show 8 + (M'.2.2.1 + 11) + 36 * M'.2.2.2.2 ≤ 332; omega), Nat.le_of_ble_eq_true rfl, Nat.le_of_ble_eq_true rfl⟩
end LW
set_option maxHeartbeats 8000000 in
set_option maxRecDepth 100000 in
theorem smr_L_18 {Γ : mm_Ctx} {b Len : Nat} {xs : Nat → Int32} {h : mm_Mem} (i : Int32) (hT : (((nI Len) - (7 : Int32)) < i → (True)) ∧ (¬ ((nI Len) - (7 : Int32)) < i → ((vp_in i Len) ∧ (∀ z : Int32, z = (xs i.toNatClampNeg) &&& (31 : Int32) → ((z = 0 → ((vp_in (i + (1 : Int32)) Len) ∧ ((vp_in (i + (2 : Int32)) Len) ∧ ((vp_in (i + (3 : Int32)) Len) ∧ ((vp_in (i + (4 : Int32)) Len) ∧ ((vp_in (i + (5 : Int32)) Len) ∧ ((vp_in (i + (6 : Int32)) Len) ∧ (mm_SI Γ smM_S_word [.ref (mm_B Γ + 0), .int (xs (i + (1 : Int32)).toNatClampNeg), .int (xs (i + (2 : Int32)).toNatClampNeg), .int (xs (i + (3 : Int32)).toNatClampNeg), .int (xs (i + (4 : Int32)).toNatClampNeg), .int (xs (i + (5 : Int32)).toNatClampNeg), .int (xs (i + (6 : Int32)).toNatClampNeg)] h (fun r1 h1 => (vp_in (i + (1 : Int32)) Len) ∧ ((vp_in (i + (2 : Int32)) Len) ∧ ((vp_in (i + (3 : Int32)) Len) ∧ ((vp_in (i + (4 : Int32)) Len) ∧ ((vp_in (i + (5 : Int32)) Len) ∧ ((vp_in (i + (6 : Int32)) Len) ∧ (mm_SI Γ smM_M_word [.ref (mm_B Γ + 64), .int (xs (i + (1 : Int32)).toNatClampNeg), .int (xs (i + (2 : Int32)).toNatClampNeg), .int (xs (i + (3 : Int32)).toNatClampNeg), .int (xs (i + (4 : Int32)).toNatClampNeg), .int (xs (i + (5 : Int32)).toNatClampNeg), .int (xs (i + (6 : Int32)).toNatClampNeg)] h1 (fun r2 h2 => (r1 = r2 → (mm_WG Γ smM_L (mm_El Γ b Len xs) 18 [some (.ref b), some (.ref (mm_B Γ + 0)), some (.ref (mm_B Γ + 64)), some (.int (i + (7 : Int32)))] [] h2)) ∧ (¬ r1 = r2 → (False)))))))))))))))))) ∧ (z = 1 → ((vp_in (i + (1 : Int32)) Len) ∧ ((vp_in (i + (2 : Int32)) Len) ∧ (mm_SI Γ smM_S_cut [.ref (mm_B Γ + 0), .int (xs (i + (1 : Int32)).toNatClampNeg), .int (xs (i + (2 : Int32)).toNatClampNeg)] h (fun r1 h1 => (vp_in (i + (1 : Int32)) Len) ∧ ((vp_in (i + (2 : Int32)) Len) ∧ (mm_SI Γ smM_M_cut [.ref (mm_B Γ + 64), .int (xs (i + (1 : Int32)).toNatClampNeg), .int (xs (i + (2 : Int32)).toNatClampNeg)] h1 (fun r2 h2 => (r1 = r2 → (mm_WG Γ smM_L (mm_El Γ b Len xs) 18 [some (.ref b), some (.ref (mm_B Γ + 0)), some (.ref (mm_B Γ + 64)), some (.int (i + (7 : Int32)))] [] h2)) ∧ (¬ r1 = r2 → (False)))))))))) ∧ (z = 2 → ((vp_in (i + (1 : Int32)) Len) ∧ ((vp_in (i + (2 : Int32)) Len) ∧ (mm_SI Γ smM_S_fields [.ref (mm_B Γ + 0), .int (xs (i + (1 : Int32)).toNatClampNeg), .int (xs (i + (2 : Int32)).toNatClampNeg)] h (fun r1 h1 => (vp_in (i + (1 : Int32)) Len) ∧ ((vp_in (i + (2 : Int32)) Len) ∧ (mm_SI Γ smM_M_fields [.ref (mm_B Γ + 64), .int (xs (i + (1 : Int32)).toNatClampNeg), .int (xs (i + (2 : Int32)).toNatClampNeg)] h1 (fun r2 h2 => (r1 = r2 → (mm_WG Γ smM_L (mm_El Γ b Len xs) 18 [some (.ref b), some (.ref (mm_B Γ + 0)), some (.ref (mm_B Γ + 64)), some (.int (i + (7 : Int32)))] [] h2)) ∧ (¬ r1 = r2 → (False)))))))))) ∧ (z = 3 → ((vp_in (i + (1 : Int32)) Len) ∧ ((vp_in (i + (2 : Int32)) Len) ∧ ((vp_in (i + (3 : Int32)) Len) ∧ ((vp_in (i + (4 : Int32)) Len) ∧ ((vp_in (i + (5 : Int32)) Len) ∧ (mm_SI Γ smM_S_rule [.ref (mm_B Γ + 0), .int (xs (i + (1 : Int32)).toNatClampNeg), .int (xs (i + (2 : Int32)).toNatClampNeg), .int (xs (i + (3 : Int32)).toNatClampNeg), .int (xs (i + (4 : Int32)).toNatClampNeg), .int (xs (i + (5 : Int32)).toNatClampNeg)] h (fun r1 h1 => (vp_in (i + (1 : Int32)) Len) ∧ ((vp_in (i + (2 : Int32)) Len) ∧ ((vp_in (i + (3 : Int32)) Len) ∧ ((vp_in (i + (4 : Int32)) Len) ∧ ((vp_in (i + (5 : Int32)) Len) ∧ (mm_SI Γ smM_M_rule [.ref (mm_B Γ + 64), .int (xs (i + (1 : Int32)).toNatClampNeg), .int (xs (i + (2 : Int32)).toNatClampNeg), .int (xs (i + (3 : Int32)).toNatClampNeg), .int (xs (i + (4 : Int32)).toNatClampNeg), .int (xs (i + (5 : Int32)).toNatClampNeg)] h1 (fun r2 h2 => (r1 = r2 → (mm_WG Γ smM_L (mm_El Γ b Len xs) 18 [some (.ref b), some (.ref (mm_B Γ + 0)), some (.ref (mm_B Γ + 64)), some (.int (i + (7 : Int32)))] [] h2)) ∧ (¬ r1 = r2 → (False)))))))))))))))) ∧ (z = 4 → (mm_SI Γ smM_S_reset [.ref (mm_B Γ + 0)] h (fun r1 h1 => mm_SI Γ smM_M_reset [.ref (mm_B Γ + 64)] h1 (fun r2 h2 => (r1 = r2 → (mm_WG Γ smM_L (mm_El Γ b Len xs) 18 [some (.ref b), some (.ref (mm_B Γ + 0)), some (.ref (mm_B Γ + 64)), some (.int (i + (7 : Int32)))] [] h2)) ∧ (¬ r1 = r2 → (False)))))) ∧ (z = 5 → (mm_SI Γ smM_S_stage [.ref (mm_B Γ + 0)] h (fun r1 h1 => mm_SI Γ smM_M_stage [.ref (mm_B Γ + 64)] h1 (fun r2 h2 => (r1 = r2 → (mm_WG Γ smM_L (mm_El Γ b Len xs) 18 [some (.ref b), some (.ref (mm_B Γ + 0)), some (.ref (mm_B Γ + 64)), some (.int (i + (7 : Int32)))] [] h2)) ∧ (¬ r1 = r2 → (False)))))) ∧ (z = 6 → (mm_SI Γ smM_S_withdraw [.ref (mm_B Γ + 0)] h (fun r1 h1 => mm_SI Γ smM_M_withdraw [.ref (mm_B Γ + 64)] h1 (fun r2 h2 => (r1 = r2 → (mm_WG Γ smM_L (mm_El Γ b Len xs) 18 [some (.ref b), some (.ref (mm_B Γ + 0)), some (.ref (mm_B Γ + 64)), some (.int (i + (7 : Int32)))] [] h2)) ∧ (¬ r1 = r2 → (False)))))) ∧ (z = 7 → ((vp_in (i + (1 : Int32)) Len) ∧ (mm_SI Γ smM_S_changed [.ref (mm_B Γ + 0), .int (xs (i + (1 : Int32)).toNatClampNeg)] h (fun r1 h1 => (vp_in (i + (1 : Int32)) Len) ∧ (mm_SI Γ smM_M_changed [.ref (mm_B Γ + 64), .int (xs (i + (1 : Int32)).toNatClampNeg)] h1 (fun r2 h2 => (r1 = r2 → (mm_WG Γ smM_L (mm_El Γ b Len xs) 18 [some (.ref b), some (.ref (mm_B Γ + 0)), some (.ref (mm_B Γ + 64)), some (.int (i + (7 : Int32)))] [] h2)) ∧ (¬ r1 = r2 → (False)))))))) ∧ (z = 8 → ((vp_in (i + (1 : Int32)) Len) ∧ (mm_SI Γ smM_S_blocker [.ref (mm_B Γ + 0), .int (xs (i + (1 : Int32)).toNatClampNeg)] h (fun r1 h1 => (vp_in (i + (1 : Int32)) Len) ∧ (mm_SI Γ smM_M_blocker [.ref (mm_B Γ + 64), .int (xs (i + (1 : Int32)).toNatClampNeg)] h1 (fun r2 h2 => (r1 = r2 → (mm_WG Γ smM_L (mm_El Γ b Len xs) 18 [some (.ref b), some (.ref (mm_B Γ + 0)), some (.ref (mm_B Γ + 64)), some (.int (i + (7 : Int32)))] [] h2)) ∧ (¬ r1 = r2 → (False)))))))) ∧ (z = 9 → ((vp_in (i + (1 : Int32)) Len) ∧ (mm_SI Γ smM_S_attempt [.ref (mm_B Γ + 0), .int (xs (i + (1 : Int32)).toNatClampNeg)] h (fun r1 h1 => (vp_in (i + (1 : Int32)) Len) ∧ (mm_SI Γ smM_M_attempt [.ref (mm_B Γ + 64), .int (xs (i + (1 : Int32)).toNatClampNeg)] h1 (fun r2 h2 => (r1 = r2 → (mm_WG Γ smM_L (mm_El Γ b Len xs) 18 [some (.ref b), some (.ref (mm_B Γ + 0)), some (.ref (mm_B Γ + 64)), some (.int (i + (7 : Int32)))] [] h2)) ∧ (¬ r1 = r2 → (False)))))))) ∧ (z = 10 → (mm_SI Γ smM_S_version [.ref (mm_B Γ + 0)] h (fun r1 h1 => mm_SI Γ smM_M_version [.ref (mm_B Γ + 64)] h1 (fun r2 h2 => (r1 = r2 → (mm_WG Γ smM_L (mm_El Γ b Len xs) 18 [some (.ref b), some (.ref (mm_B Γ + 0)), some (.ref (mm_B Γ + 64)), some (.int (i + (7 : Int32)))] [] h2)) ∧ (¬ r1 = r2 → (False)))))) ∧ (z = 11 → ((vp_in (i + (1 : Int32)) Len) ∧ ((vp_in (i + (2 : Int32)) Len) ∧ (mm_SI Γ smM_S_spawn [.ref (mm_B Γ + 0), .int (xs (i + (1 : Int32)).toNatClampNeg), .int (xs (i + (2 : Int32)).toNatClampNeg)] h (fun r1 h1 => (vp_in (i + (1 : Int32)) Len) ∧ ((vp_in (i + (2 : Int32)) Len) ∧ (mm_SI Γ smM_M_spawn [.ref (mm_B Γ + 64), .int (xs (i + (1 : Int32)).toNatClampNeg), .int (xs (i + (2 : Int32)).toNatClampNeg)] h1 (fun r2 h2 => (r1 = r2 → (mm_WG Γ smM_L (mm_El Γ b Len xs) 18 [some (.ref b), some (.ref (mm_B Γ + 0)), some (.ref (mm_B Γ + 64)), some (.int (i + (7 : Int32)))] [] h2)) ∧ (¬ r1 = r2 → (False)))))))))) ∧ (z = 12 → ((vp_in (i + (1 : Int32)) Len) ∧ ((vp_in (i + (2 : Int32)) Len) ∧ (mm_SI Γ smM_S_step [.ref (mm_B Γ + 0), .int (xs (i + (1 : Int32)).toNatClampNeg), .int (xs (i + (2 : Int32)).toNatClampNeg)] h (fun r1 h1 => (vp_in (i + (1 : Int32)) Len) ∧ ((vp_in (i + (2 : Int32)) Len) ∧ (mm_SI Γ smM_M_step [.ref (mm_B Γ + 64), .int (xs (i + (1 : Int32)).toNatClampNeg), .int (xs (i + (2 : Int32)).toNatClampNeg)] h1 (fun r2 h2 => (r1 = r2 → (mm_WG Γ smM_L (mm_El Γ b Len xs) 18 [some (.ref b), some (.ref (mm_B Γ + 0)), some (.ref (mm_B Γ + 64)), some (.int (i + (7 : Int32)))] [] h2)) ∧ (¬ r1 = r2 → (False)))))))))) ∧ (z = 13 → ((vp_in (i + (1 : Int32)) Len) ∧ ((vp_in (i + (2 : Int32)) Len) ∧ (mm_SI Γ smM_S_send [.ref (mm_B Γ + 0), .int (xs (i + (1 : Int32)).toNatClampNeg), .int (xs (i + (2 : Int32)).toNatClampNeg)] h (fun r1 h1 => (vp_in (i + (1 : Int32)) Len) ∧ ((vp_in (i + (2 : Int32)) Len) ∧ (mm_SI Γ smM_M_send [.ref (mm_B Γ + 64), .int (xs (i + (1 : Int32)).toNatClampNeg), .int (xs (i + (2 : Int32)).toNatClampNeg)] h1 (fun r2 h2 => (r1 = r2 → (mm_WG Γ smM_L (mm_El Γ b Len xs) 18 [some (.ref b), some (.ref (mm_B Γ + 0)), some (.ref (mm_B Γ + 64)), some (.int (i + (7 : Int32)))] [] h2)) ∧ (¬ r1 = r2 → (False)))))))))) ∧ (z = 14 → ((vp_in (i + (1 : Int32)) Len) ∧ (mm_SI Γ smM_S_state [.ref (mm_B Γ + 0), .int (xs (i + (1 : Int32)).toNatClampNeg)] h (fun r1 h1 => (vp_in (i + (1 : Int32)) Len) ∧ (mm_SI Γ smM_M_state [.ref (mm_B Γ + 64), .int (xs (i + (1 : Int32)).toNatClampNeg)] h1 (fun r2 h2 => (r1 = r2 → (mm_WG Γ smM_L (mm_El Γ b Len xs) 18 [some (.ref b), some (.ref (mm_B Γ + 0)), some (.ref (mm_B Γ + 64)), some (.int (i + (7 : Int32)))] [] h2)) ∧ (¬ r1 = r2 → (False)))))))) ∧ (z = 15 → ((vp_in (i + (1 : Int32)) Len) ∧ (mm_SI Γ smM_S_result [.ref (mm_B Γ + 0), .int (xs (i + (1 : Int32)).toNatClampNeg)] h (fun r1 h1 => (vp_in (i + (1 : Int32)) Len) ∧ (mm_SI Γ smM_M_result [.ref (mm_B Γ + 64), .int (xs (i + (1 : Int32)).toNatClampNeg)] h1 (fun r2 h2 => (r1 = r2 → (mm_WG Γ smM_L (mm_El Γ b Len xs) 18 [some (.ref b), some (.ref (mm_B Γ + 0)), some (.ref (mm_B Γ + 64)), some (.int (i + (7 : Int32)))] [] h2)) ∧ (¬ r1 = r2 → (False)))))))) ∧ (z = 16 → ((vp_in (i + (1 : Int32)) Len) ∧ (mm_SI Γ smM_S_frames [.ref (mm_B Γ + 0), .int (xs (i + (1 : Int32)).toNatClampNeg)] h (fun r1 h1 => (vp_in (i + (1 : Int32)) Len) ∧ (mm_SI Γ smM_M_frames [.ref (mm_B Γ + 64), .int (xs (i + (1 : Int32)).toNatClampNeg)] h1 (fun r2 h2 => (r1 = r2 → (mm_WG Γ smM_L (mm_El Γ b Len xs) 18 [some (.ref b), some (.ref (mm_B Γ + 0)), some (.ref (mm_B Γ + 64)), some (.int (i + (7 : Int32)))] [] h2)) ∧ (¬ r1 = r2 → (False)))))))) ∧ (z = 17 → ((vp_in (i + (1 : Int32)) Len) ∧ ((vp_in (i + (2 : Int32)) Len) ∧ ((vp_in (i + (3 : Int32)) Len) ∧ (mm_SI Γ smM_S_frame [.ref (mm_B Γ + 0), .int (xs (i + (1 : Int32)).toNatClampNeg), .int (xs (i + (2 : Int32)).toNatClampNeg), .int (xs (i + (3 : Int32)).toNatClampNeg)] h (fun r1 h1 => (vp_in (i + (1 : Int32)) Len) ∧ ((vp_in (i + (2 : Int32)) Len) ∧ ((vp_in (i + (3 : Int32)) Len) ∧ (mm_SI Γ smM_M_frame [.ref (mm_B Γ + 64), .int (xs (i + (1 : Int32)).toNatClampNeg), .int (xs (i + (2 : Int32)).toNatClampNeg), .int (xs (i + (3 : Int32)).toNatClampNeg)] h1 (fun r2 h2 => (r1 = r2 → (mm_WG Γ smM_L (mm_El Γ b Len xs) 18 [some (.ref b), some (.ref (mm_B Γ + 0)), some (.ref (mm_B Γ + 64)), some (.int (i + (7 : Int32)))] [] h2)) ∧ (¬ r1 = r2 → (False)))))))))))) ∧ (z = 18 → ((vp_in (i + (1 : Int32)) Len) ∧ (mm_SI Γ smM_S_global [.ref (mm_B Γ + 0), .int (xs (i + (1 : Int32)).toNatClampNeg)] h (fun r1 h1 => (vp_in (i + (1 : Int32)) Len) ∧ (mm_SI Γ smM_M_global [.ref (mm_B Γ + 64), .int (xs (i + (1 : Int32)).toNatClampNeg)] h1 (fun r2 h2 => (r1 = r2 → (mm_WG Γ smM_L (mm_El Γ b Len xs) 18 [some (.ref b), some (.ref (mm_B Γ + 0)), some (.ref (mm_B Γ + 64)), some (.int (i + (7 : Int32)))] [] h2)) ∧ (¬ r1 = r2 → (False)))))))) ∧ (z = 19 → ((vp_in (i + (1 : Int32)) Len) ∧ (mm_SI Γ smM_S_typeOf [.ref (mm_B Γ + 0), .int (xs (i + (1 : Int32)).toNatClampNeg)] h (fun r1 h1 => (vp_in (i + (1 : Int32)) Len) ∧ (mm_SI Γ smM_M_typeOf [.ref (mm_B Γ + 64), .int (xs (i + (1 : Int32)).toNatClampNeg)] h1 (fun r2 h2 => (r1 = r2 → (mm_WG Γ smM_L (mm_El Γ b Len xs) 18 [some (.ref b), some (.ref (mm_B Γ + 0)), some (.ref (mm_B Γ + 64)), some (.int (i + (7 : Int32)))] [] h2)) ∧ (¬ r1 = r2 → (False)))))))) ∧ (z = 20 → ((vp_in (i + (1 : Int32)) Len) ∧ ((vp_in (i + (2 : Int32)) Len) ∧ (mm_SI Γ smM_S_field [.ref (mm_B Γ + 0), .int (xs (i + (1 : Int32)).toNatClampNeg), .int (xs (i + (2 : Int32)).toNatClampNeg)] h (fun r1 h1 => (vp_in (i + (1 : Int32)) Len) ∧ ((vp_in (i + (2 : Int32)) Len) ∧ (mm_SI Γ smM_M_field [.ref (mm_B Γ + 64), .int (xs (i + (1 : Int32)).toNatClampNeg), .int (xs (i + (2 : Int32)).toNatClampNeg)] h1 (fun r2 h2 => (r1 = r2 → (mm_WG Γ smM_L (mm_El Γ b Len xs) 18 [some (.ref b), some (.ref (mm_B Γ + 0)), some (.ref (mm_B Γ + 64)), some (.int (i + (7 : Int32)))] [] h2)) ∧ (¬ r1 = r2 → (False)))))))))) ∧ (z = 21 → (mm_SI Γ smM_S_heap [.ref (mm_B Γ + 0)] h (fun r1 h1 => mm_SI Γ smM_M_heap [.ref (mm_B Γ + 64)] h1 (fun r2 h2 => (r1 = r2 → (mm_WG Γ smM_L (mm_El Γ b Len xs) 18 [some (.ref b), some (.ref (mm_B Γ + 0)), some (.ref (mm_B Γ + 64)), some (.int (i + (7 : Int32)))] [] h2)) ∧ (¬ r1 = r2 → (False)))))) ∧ (z = 22 → (mm_SI Γ smM_S_collect [.ref (mm_B Γ + 0)] h (fun r1 h1 => mm_SI Γ smM_M_collect [.ref (mm_B Γ + 64)] h1 (fun r2 h2 => (r1 = r2 → (mm_WG Γ smM_L (mm_El Γ b Len xs) 18 [some (.ref b), some (.ref (mm_B Γ + 0)), some (.ref (mm_B Γ + 64)), some (.int (i + (7 : Int32)))] [] h2)) ∧ (¬ r1 = r2 → (False)))))) ∧ (mm_WG Γ smM_L (mm_El Γ b Len xs) 18 [some (.ref b), some (.ref (mm_B Γ + 0)), some (.ref (mm_B Γ + 64)), some (.int (i + (7 : Int32)))] [] h)))))) : mm_WG Γ smM_L (mm_El Γ b Len xs) 18 [some (.ref b), some (.ref (mm_B Γ + 0)), some (.ref (mm_B Γ + 64)), some (.int i)] [] h := by
  refine mm_iload_n (n := 19) (i := 3) smd_L_law_18 rfl rfl rfl ?_
  refine mm_aload_n (n := 20) (i := 0) smd_L_law_19 rfl rfl rfl ?_
  refine mm_slen (n := 21) (v := nI Len) rfl smd_L_law_20 rfl ?_
  refine mm_bipush (n := 23) (v := 7) smd_L_law_21 rfl (by decide) ?_
  refine mm_isub (n := 24) smd_L_law_23 rfl ?_
  refine mm_icmp_gt (n := 27) (tgt := 787) smd_L_law_24 rfl rfl (fun hc => ?_) (fun hc => ?_)
  · replace hT := hT.1 hc
    refine mm_iconst (n := 788) (v := 1) smd_L_law_787 rfl (by decide) ?_
    exact mm_lret smd_L_law_788
  · replace hT := hT.2 hc
    refine mm_aload_n (n := 28) (i := 0) smd_L_law_27 rfl rfl rfl ?_
    refine mm_iload_n (n := 29) (i := 3) smd_L_law_28 rfl rfl rfl ?_
    refine mm_sld (n := 30) hT.1 smd_L_law_29 rfl ?_
    replace hT := hT.2
    refine mm_bipush (n := 32) (v := 31) smd_L_law_30 rfl (by decide) ?_
    refine mm_iand (n := 33) smd_L_law_32 rfl ?_
    refine mm_top (fun z e_z => ?_)
    replace hT := hT z e_z
    by_cases e : z = 0
    · refine mm_tIn (tgt := 140) smd_L_law_33 0 e (by decide) (by decide) rfl rfl ?_
      replace hT := hT.1 e
      refine mm_aload_n (n := 141) (i := 1) smd_L_law_140 rfl rfl rfl ?_
      refine mm_aload_n (n := 142) (i := 0) smd_L_law_141 rfl rfl rfl ?_
      refine mm_iload_n (n := 143) (i := 3) smd_L_law_142 rfl rfl rfl ?_
      refine mm_iconst (n := 144) (v := 1) smd_L_law_143 rfl (by decide) ?_
      refine mm_iadd (n := 145) smd_L_law_144 rfl ?_
      refine mm_sld (n := 146) hT.1 smd_L_law_145 rfl ?_
      replace hT := hT.2
      refine mm_aload_n (n := 147) (i := 0) smd_L_law_146 rfl rfl rfl ?_
      refine mm_iload_n (n := 148) (i := 3) smd_L_law_147 rfl rfl rfl ?_
      refine mm_iconst (n := 149) (v := 2) smd_L_law_148 rfl (by decide) ?_
      refine mm_iadd (n := 150) smd_L_law_149 rfl ?_
      refine mm_sld (n := 151) hT.1 smd_L_law_150 rfl ?_
      replace hT := hT.2
      refine mm_aload_n (n := 152) (i := 0) smd_L_law_151 rfl rfl rfl ?_
      refine mm_iload_n (n := 153) (i := 3) smd_L_law_152 rfl rfl rfl ?_
      refine mm_iconst (n := 154) (v := 3) smd_L_law_153 rfl (by decide) ?_
      refine mm_iadd (n := 155) smd_L_law_154 rfl ?_
      refine mm_sld (n := 156) hT.1 smd_L_law_155 rfl ?_
      replace hT := hT.2
      refine mm_aload_n (n := 157) (i := 0) smd_L_law_156 rfl rfl rfl ?_
      refine mm_iload_n (n := 158) (i := 3) smd_L_law_157 rfl rfl rfl ?_
      refine mm_iconst (n := 159) (v := 4) smd_L_law_158 rfl (by decide) ?_
      refine mm_iadd (n := 160) smd_L_law_159 rfl ?_
      refine mm_sld (n := 161) hT.1 smd_L_law_160 rfl ?_
      replace hT := hT.2
      refine mm_aload_n (n := 162) (i := 0) smd_L_law_161 rfl rfl rfl ?_
      refine mm_iload_n (n := 163) (i := 3) smd_L_law_162 rfl rfl rfl ?_
      refine mm_iconst (n := 164) (v := 5) smd_L_law_163 rfl (by decide) ?_
      refine mm_iadd (n := 165) smd_L_law_164 rfl ?_
      refine mm_sld (n := 166) hT.1 smd_L_law_165 rfl ?_
      replace hT := hT.2
      refine mm_aload_n (n := 167) (i := 0) smd_L_law_166 rfl rfl rfl ?_
      refine mm_iload_n (n := 168) (i := 3) smd_L_law_167 rfl rfl rfl ?_
      refine mm_bipush (n := 170) (v := 6) smd_L_law_168 rfl (by decide) ?_
      refine mm_iadd (n := 171) smd_L_law_170 rfl ?_
      refine mm_sld (n := 172) hT.1 smd_L_law_171 rfl ?_
      replace hT := hT.2
      refine mm_callVI (n := 175) (As := [.int (xs (i + (1 : Int32)).toNatClampNeg), .int (xs (i + (2 : Int32)).toNatClampNeg), .int (xs (i + (3 : Int32)).toNatClampNeg), .int (xs (i + (4 : Int32)).toNatClampNeg), .int (xs (i + (5 : Int32)).toNatClampNeg), .int (xs (i + (6 : Int32)).toNatClampNeg)]) (rest := []) smv_S_word smw_212 smb_S (mm_hRl (by decide) (by decide)) smd_L_law_172 rfl rfl (Nat.le_of_ble_eq_true rfl) hT (fun r1 h1 hT => ?_)
      refine mm_aload_n (n := 176) (i := 2) smd_L_law_175 rfl rfl rfl ?_
      refine mm_aload_n (n := 177) (i := 0) smd_L_law_176 rfl rfl rfl ?_
      refine mm_iload_n (n := 178) (i := 3) smd_L_law_177 rfl rfl rfl ?_
      refine mm_iconst (n := 179) (v := 1) smd_L_law_178 rfl (by decide) ?_
      refine mm_iadd (n := 180) smd_L_law_179 rfl ?_
      refine mm_sld (n := 181) hT.1 smd_L_law_180 rfl ?_
      replace hT := hT.2
      refine mm_aload_n (n := 182) (i := 0) smd_L_law_181 rfl rfl rfl ?_
      refine mm_iload_n (n := 183) (i := 3) smd_L_law_182 rfl rfl rfl ?_
      refine mm_iconst (n := 184) (v := 2) smd_L_law_183 rfl (by decide) ?_
      refine mm_iadd (n := 185) smd_L_law_184 rfl ?_
      refine mm_sld (n := 186) hT.1 smd_L_law_185 rfl ?_
      replace hT := hT.2
      refine mm_aload_n (n := 187) (i := 0) smd_L_law_186 rfl rfl rfl ?_
      refine mm_iload_n (n := 188) (i := 3) smd_L_law_187 rfl rfl rfl ?_
      refine mm_iconst (n := 189) (v := 3) smd_L_law_188 rfl (by decide) ?_
      refine mm_iadd (n := 190) smd_L_law_189 rfl ?_
      refine mm_sld (n := 191) hT.1 smd_L_law_190 rfl ?_
      replace hT := hT.2
      refine mm_aload_n (n := 192) (i := 0) smd_L_law_191 rfl rfl rfl ?_
      refine mm_iload_n (n := 193) (i := 3) smd_L_law_192 rfl rfl rfl ?_
      refine mm_iconst (n := 194) (v := 4) smd_L_law_193 rfl (by decide) ?_
      refine mm_iadd (n := 195) smd_L_law_194 rfl ?_
      refine mm_sld (n := 196) hT.1 smd_L_law_195 rfl ?_
      replace hT := hT.2
      refine mm_aload_n (n := 197) (i := 0) smd_L_law_196 rfl rfl rfl ?_
      refine mm_iload_n (n := 198) (i := 3) smd_L_law_197 rfl rfl rfl ?_
      refine mm_iconst (n := 199) (v := 5) smd_L_law_198 rfl (by decide) ?_
      refine mm_iadd (n := 200) smd_L_law_199 rfl ?_
      refine mm_sld (n := 201) hT.1 smd_L_law_200 rfl ?_
      replace hT := hT.2
      refine mm_aload_n (n := 202) (i := 0) smd_L_law_201 rfl rfl rfl ?_
      refine mm_iload_n (n := 203) (i := 3) smd_L_law_202 rfl rfl rfl ?_
      refine mm_bipush (n := 205) (v := 6) smd_L_law_203 rfl (by decide) ?_
      refine mm_iadd (n := 206) smd_L_law_205 rfl ?_
      refine mm_sld (n := 207) hT.1 smd_L_law_206 rfl ?_
      replace hT := hT.2
      refine mm_callVI (n := 210) (As := [.int (xs (i + (1 : Int32)).toNatClampNeg), .int (xs (i + (2 : Int32)).toNatClampNeg), .int (xs (i + (3 : Int32)).toNatClampNeg), .int (xs (i + (4 : Int32)).toNatClampNeg), .int (xs (i + (5 : Int32)).toNatClampNeg), .int (xs (i + (6 : Int32)).toNatClampNeg)]) (rest := [.int r1]) smv_M_word smw_580 smb_M (mm_hRl (by decide) (by decide)) smd_L_law_207 rfl rfl (Nat.le_of_ble_eq_true rfl) hT (fun r2 h2 hT => ?_)
      refine mm_icmp_eq (n := 213) (tgt := 781) smd_L_law_210 rfl rfl (fun hc => ?_) (fun hc => ?_)
      · replace hT := hT.1 hc
        refine mm_iinc (n := 784) (i := 3) (d := 7) (L' := [some (.ref b), some (.ref (mm_B Γ + 0)), some (.ref (mm_B Γ + 64)), some (.int (i + (7 : Int32)))]) smd_L_law_781 rfl rfl (by decide) (by decide) rfl ?_
        refine mm_goto (n := 18) smd_L_law_784 rfl ?_
        exact hT
      · replace hT := hT.2 hc
        refine mm_iconst (n := 214) (v := 0) smd_L_law_213 rfl (by decide) ?_
        exact hT.elim
    have n0 := e
    clear e
    by_cases e : z = 1
    · refine mm_tIn (tgt := 215) smd_L_law_33 1 e (by decide) (by decide) rfl rfl ?_
      replace hT := hT.2.1 e
      refine mm_aload_n (n := 216) (i := 1) smd_L_law_215 rfl rfl rfl ?_
      refine mm_aload_n (n := 217) (i := 0) smd_L_law_216 rfl rfl rfl ?_
      refine mm_iload_n (n := 218) (i := 3) smd_L_law_217 rfl rfl rfl ?_
      refine mm_iconst (n := 219) (v := 1) smd_L_law_218 rfl (by decide) ?_
      refine mm_iadd (n := 220) smd_L_law_219 rfl ?_
      refine mm_sld (n := 221) hT.1 smd_L_law_220 rfl ?_
      replace hT := hT.2
      refine mm_aload_n (n := 222) (i := 0) smd_L_law_221 rfl rfl rfl ?_
      refine mm_iload_n (n := 223) (i := 3) smd_L_law_222 rfl rfl rfl ?_
      refine mm_iconst (n := 224) (v := 2) smd_L_law_223 rfl (by decide) ?_
      refine mm_iadd (n := 225) smd_L_law_224 rfl ?_
      refine mm_sld (n := 226) hT.1 smd_L_law_225 rfl ?_
      replace hT := hT.2
      refine mm_callVI (n := 229) (As := [.int (xs (i + (1 : Int32)).toNatClampNeg), .int (xs (i + (2 : Int32)).toNatClampNeg)]) (rest := []) smv_S_cut smw_229 smb_S (mm_hRl (by decide) (by decide)) smd_L_law_226 rfl rfl (Nat.le_of_ble_eq_true rfl) hT (fun r1 h1 hT => ?_)
      refine mm_aload_n (n := 230) (i := 2) smd_L_law_229 rfl rfl rfl ?_
      refine mm_aload_n (n := 231) (i := 0) smd_L_law_230 rfl rfl rfl ?_
      refine mm_iload_n (n := 232) (i := 3) smd_L_law_231 rfl rfl rfl ?_
      refine mm_iconst (n := 233) (v := 1) smd_L_law_232 rfl (by decide) ?_
      refine mm_iadd (n := 234) smd_L_law_233 rfl ?_
      refine mm_sld (n := 235) hT.1 smd_L_law_234 rfl ?_
      replace hT := hT.2
      refine mm_aload_n (n := 236) (i := 0) smd_L_law_235 rfl rfl rfl ?_
      refine mm_iload_n (n := 237) (i := 3) smd_L_law_236 rfl rfl rfl ?_
      refine mm_iconst (n := 238) (v := 2) smd_L_law_237 rfl (by decide) ?_
      refine mm_iadd (n := 239) smd_L_law_238 rfl ?_
      refine mm_sld (n := 240) hT.1 smd_L_law_239 rfl ?_
      replace hT := hT.2
      refine mm_callVI (n := 243) (As := [.int (xs (i + (1 : Int32)).toNatClampNeg), .int (xs (i + (2 : Int32)).toNatClampNeg)]) (rest := [.int r1]) smv_M_cut smw_587 smb_M (mm_hRl (by decide) (by decide)) smd_L_law_240 rfl rfl (Nat.le_of_ble_eq_true rfl) hT (fun r2 h2 hT => ?_)
      refine mm_icmp_eq (n := 246) (tgt := 781) smd_L_law_243 rfl rfl (fun hc => ?_) (fun hc => ?_)
      · replace hT := hT.1 hc
        refine mm_iinc (n := 784) (i := 3) (d := 7) (L' := [some (.ref b), some (.ref (mm_B Γ + 0)), some (.ref (mm_B Γ + 64)), some (.int (i + (7 : Int32)))]) smd_L_law_781 rfl rfl (by decide) (by decide) rfl ?_
        refine mm_goto (n := 18) smd_L_law_784 rfl ?_
        exact hT
      · replace hT := hT.2 hc
        refine mm_iconst (n := 247) (v := 0) smd_L_law_246 rfl (by decide) ?_
        exact hT.elim
    have n1 := e
    clear e
    by_cases e : z = 2
    · refine mm_tIn (tgt := 248) smd_L_law_33 2 e (by decide) (by decide) rfl rfl ?_
      replace hT := hT.2.2.1 e
      refine mm_aload_n (n := 249) (i := 1) smd_L_law_248 rfl rfl rfl ?_
      refine mm_aload_n (n := 250) (i := 0) smd_L_law_249 rfl rfl rfl ?_
      refine mm_iload_n (n := 251) (i := 3) smd_L_law_250 rfl rfl rfl ?_
      refine mm_iconst (n := 252) (v := 1) smd_L_law_251 rfl (by decide) ?_
      refine mm_iadd (n := 253) smd_L_law_252 rfl ?_
      refine mm_sld (n := 254) hT.1 smd_L_law_253 rfl ?_
      replace hT := hT.2
      refine mm_aload_n (n := 255) (i := 0) smd_L_law_254 rfl rfl rfl ?_
      refine mm_iload_n (n := 256) (i := 3) smd_L_law_255 rfl rfl rfl ?_
      refine mm_iconst (n := 257) (v := 2) smd_L_law_256 rfl (by decide) ?_
      refine mm_iadd (n := 258) smd_L_law_257 rfl ?_
      refine mm_sld (n := 259) hT.1 smd_L_law_258 rfl ?_
      replace hT := hT.2
      refine mm_callVI (n := 262) (As := [.int (xs (i + (1 : Int32)).toNatClampNeg), .int (xs (i + (2 : Int32)).toNatClampNeg)]) (rest := []) smv_S_fields smw_233 smb_S (mm_hRl (by decide) (by decide)) smd_L_law_259 rfl rfl (Nat.le_of_ble_eq_true rfl) hT (fun r1 h1 hT => ?_)
      refine mm_aload_n (n := 263) (i := 2) smd_L_law_262 rfl rfl rfl ?_
      refine mm_aload_n (n := 264) (i := 0) smd_L_law_263 rfl rfl rfl ?_
      refine mm_iload_n (n := 265) (i := 3) smd_L_law_264 rfl rfl rfl ?_
      refine mm_iconst (n := 266) (v := 1) smd_L_law_265 rfl (by decide) ?_
      refine mm_iadd (n := 267) smd_L_law_266 rfl ?_
      refine mm_sld (n := 268) hT.1 smd_L_law_267 rfl ?_
      replace hT := hT.2
      refine mm_aload_n (n := 269) (i := 0) smd_L_law_268 rfl rfl rfl ?_
      refine mm_iload_n (n := 270) (i := 3) smd_L_law_269 rfl rfl rfl ?_
      refine mm_iconst (n := 271) (v := 2) smd_L_law_270 rfl (by decide) ?_
      refine mm_iadd (n := 272) smd_L_law_271 rfl ?_
      refine mm_sld (n := 273) hT.1 smd_L_law_272 rfl ?_
      replace hT := hT.2
      refine mm_callVI (n := 276) (As := [.int (xs (i + (1 : Int32)).toNatClampNeg), .int (xs (i + (2 : Int32)).toNatClampNeg)]) (rest := [.int r1]) smv_M_fields smw_591 smb_M (mm_hRl (by decide) (by decide)) smd_L_law_273 rfl rfl (Nat.le_of_ble_eq_true rfl) hT (fun r2 h2 hT => ?_)
      refine mm_icmp_eq (n := 279) (tgt := 781) smd_L_law_276 rfl rfl (fun hc => ?_) (fun hc => ?_)
      · replace hT := hT.1 hc
        refine mm_iinc (n := 784) (i := 3) (d := 7) (L' := [some (.ref b), some (.ref (mm_B Γ + 0)), some (.ref (mm_B Γ + 64)), some (.int (i + (7 : Int32)))]) smd_L_law_781 rfl rfl (by decide) (by decide) rfl ?_
        refine mm_goto (n := 18) smd_L_law_784 rfl ?_
        exact hT
      · replace hT := hT.2 hc
        refine mm_iconst (n := 280) (v := 0) smd_L_law_279 rfl (by decide) ?_
        exact hT.elim
    have n2 := e
    clear e
    by_cases e : z = 3
    · refine mm_tIn (tgt := 281) smd_L_law_33 3 e (by decide) (by decide) rfl rfl ?_
      replace hT := hT.2.2.2.1 e
      refine mm_aload_n (n := 282) (i := 1) smd_L_law_281 rfl rfl rfl ?_
      refine mm_aload_n (n := 283) (i := 0) smd_L_law_282 rfl rfl rfl ?_
      refine mm_iload_n (n := 284) (i := 3) smd_L_law_283 rfl rfl rfl ?_
      refine mm_iconst (n := 285) (v := 1) smd_L_law_284 rfl (by decide) ?_
      refine mm_iadd (n := 286) smd_L_law_285 rfl ?_
      refine mm_sld (n := 287) hT.1 smd_L_law_286 rfl ?_
      replace hT := hT.2
      refine mm_aload_n (n := 288) (i := 0) smd_L_law_287 rfl rfl rfl ?_
      refine mm_iload_n (n := 289) (i := 3) smd_L_law_288 rfl rfl rfl ?_
      refine mm_iconst (n := 290) (v := 2) smd_L_law_289 rfl (by decide) ?_
      refine mm_iadd (n := 291) smd_L_law_290 rfl ?_
      refine mm_sld (n := 292) hT.1 smd_L_law_291 rfl ?_
      replace hT := hT.2
      refine mm_aload_n (n := 293) (i := 0) smd_L_law_292 rfl rfl rfl ?_
      refine mm_iload_n (n := 294) (i := 3) smd_L_law_293 rfl rfl rfl ?_
      refine mm_iconst (n := 295) (v := 3) smd_L_law_294 rfl (by decide) ?_
      refine mm_iadd (n := 296) smd_L_law_295 rfl ?_
      refine mm_sld (n := 297) hT.1 smd_L_law_296 rfl ?_
      replace hT := hT.2
      refine mm_aload_n (n := 298) (i := 0) smd_L_law_297 rfl rfl rfl ?_
      refine mm_iload_n (n := 299) (i := 3) smd_L_law_298 rfl rfl rfl ?_
      refine mm_iconst (n := 300) (v := 4) smd_L_law_299 rfl (by decide) ?_
      refine mm_iadd (n := 301) smd_L_law_300 rfl ?_
      refine mm_sld (n := 302) hT.1 smd_L_law_301 rfl ?_
      replace hT := hT.2
      refine mm_aload_n (n := 303) (i := 0) smd_L_law_302 rfl rfl rfl ?_
      refine mm_iload_n (n := 304) (i := 3) smd_L_law_303 rfl rfl rfl ?_
      refine mm_iconst (n := 305) (v := 5) smd_L_law_304 rfl (by decide) ?_
      refine mm_iadd (n := 306) smd_L_law_305 rfl ?_
      refine mm_sld (n := 307) hT.1 smd_L_law_306 rfl ?_
      replace hT := hT.2
      refine mm_callVI (n := 310) (As := [.int (xs (i + (1 : Int32)).toNatClampNeg), .int (xs (i + (2 : Int32)).toNatClampNeg), .int (xs (i + (3 : Int32)).toNatClampNeg), .int (xs (i + (4 : Int32)).toNatClampNeg), .int (xs (i + (5 : Int32)).toNatClampNeg)]) (rest := []) smv_S_rule smw_245 smb_S (mm_hRl (by decide) (by decide)) smd_L_law_307 rfl rfl (Nat.le_of_ble_eq_true rfl) hT (fun r1 h1 hT => ?_)
      refine mm_aload_n (n := 311) (i := 2) smd_L_law_310 rfl rfl rfl ?_
      refine mm_aload_n (n := 312) (i := 0) smd_L_law_311 rfl rfl rfl ?_
      refine mm_iload_n (n := 313) (i := 3) smd_L_law_312 rfl rfl rfl ?_
      refine mm_iconst (n := 314) (v := 1) smd_L_law_313 rfl (by decide) ?_
      refine mm_iadd (n := 315) smd_L_law_314 rfl ?_
      refine mm_sld (n := 316) hT.1 smd_L_law_315 rfl ?_
      replace hT := hT.2
      refine mm_aload_n (n := 317) (i := 0) smd_L_law_316 rfl rfl rfl ?_
      refine mm_iload_n (n := 318) (i := 3) smd_L_law_317 rfl rfl rfl ?_
      refine mm_iconst (n := 319) (v := 2) smd_L_law_318 rfl (by decide) ?_
      refine mm_iadd (n := 320) smd_L_law_319 rfl ?_
      refine mm_sld (n := 321) hT.1 smd_L_law_320 rfl ?_
      replace hT := hT.2
      refine mm_aload_n (n := 322) (i := 0) smd_L_law_321 rfl rfl rfl ?_
      refine mm_iload_n (n := 323) (i := 3) smd_L_law_322 rfl rfl rfl ?_
      refine mm_iconst (n := 324) (v := 3) smd_L_law_323 rfl (by decide) ?_
      refine mm_iadd (n := 325) smd_L_law_324 rfl ?_
      refine mm_sld (n := 326) hT.1 smd_L_law_325 rfl ?_
      replace hT := hT.2
      refine mm_aload_n (n := 327) (i := 0) smd_L_law_326 rfl rfl rfl ?_
      refine mm_iload_n (n := 328) (i := 3) smd_L_law_327 rfl rfl rfl ?_
      refine mm_iconst (n := 329) (v := 4) smd_L_law_328 rfl (by decide) ?_
      refine mm_iadd (n := 330) smd_L_law_329 rfl ?_
      refine mm_sld (n := 331) hT.1 smd_L_law_330 rfl ?_
      replace hT := hT.2
      refine mm_aload_n (n := 332) (i := 0) smd_L_law_331 rfl rfl rfl ?_
      refine mm_iload_n (n := 333) (i := 3) smd_L_law_332 rfl rfl rfl ?_
      refine mm_iconst (n := 334) (v := 5) smd_L_law_333 rfl (by decide) ?_
      refine mm_iadd (n := 335) smd_L_law_334 rfl ?_
      refine mm_sld (n := 336) hT.1 smd_L_law_335 rfl ?_
      replace hT := hT.2
      refine mm_callVI (n := 339) (As := [.int (xs (i + (1 : Int32)).toNatClampNeg), .int (xs (i + (2 : Int32)).toNatClampNeg), .int (xs (i + (3 : Int32)).toNatClampNeg), .int (xs (i + (4 : Int32)).toNatClampNeg), .int (xs (i + (5 : Int32)).toNatClampNeg)]) (rest := [.int r1]) smv_M_rule smw_602 smb_M (mm_hRl (by decide) (by decide)) smd_L_law_336 rfl rfl (Nat.le_of_ble_eq_true rfl) hT (fun r2 h2 hT => ?_)
      refine mm_icmp_eq (n := 342) (tgt := 781) smd_L_law_339 rfl rfl (fun hc => ?_) (fun hc => ?_)
      · replace hT := hT.1 hc
        refine mm_iinc (n := 784) (i := 3) (d := 7) (L' := [some (.ref b), some (.ref (mm_B Γ + 0)), some (.ref (mm_B Γ + 64)), some (.int (i + (7 : Int32)))]) smd_L_law_781 rfl rfl (by decide) (by decide) rfl ?_
        refine mm_goto (n := 18) smd_L_law_784 rfl ?_
        exact hT
      · replace hT := hT.2 hc
        refine mm_iconst (n := 343) (v := 0) smd_L_law_342 rfl (by decide) ?_
        exact hT.elim
    have n3 := e
    clear e
    by_cases e : z = 4
    · refine mm_tIn (tgt := 344) smd_L_law_33 4 e (by decide) (by decide) rfl rfl ?_
      replace hT := hT.2.2.2.2.1 e
      refine mm_aload_n (n := 345) (i := 1) smd_L_law_344 rfl rfl rfl ?_
      refine mm_callVI (n := 348) (As := []) (rest := []) smv_S_reset smw_250 smb_S (mm_hRl (by decide) (by decide)) smd_L_law_345 rfl rfl (Nat.le_of_ble_eq_true rfl) hT (fun r1 h1 hT => ?_)
      refine mm_aload_n (n := 349) (i := 2) smd_L_law_348 rfl rfl rfl ?_
      refine mm_callVI (n := 352) (As := []) (rest := [.int r1]) smv_M_reset smw_606 smb_M (mm_hRl (by decide) (by decide)) smd_L_law_349 rfl rfl (Nat.le_of_ble_eq_true rfl) hT (fun r2 h2 hT => ?_)
      refine mm_icmp_eq (n := 355) (tgt := 781) smd_L_law_352 rfl rfl (fun hc => ?_) (fun hc => ?_)
      · replace hT := hT.1 hc
        refine mm_iinc (n := 784) (i := 3) (d := 7) (L' := [some (.ref b), some (.ref (mm_B Γ + 0)), some (.ref (mm_B Γ + 64)), some (.int (i + (7 : Int32)))]) smd_L_law_781 rfl rfl (by decide) (by decide) rfl ?_
        refine mm_goto (n := 18) smd_L_law_784 rfl ?_
        exact hT
      · replace hT := hT.2 hc
        refine mm_iconst (n := 356) (v := 0) smd_L_law_355 rfl (by decide) ?_
        exact hT.elim
    have n4 := e
    clear e
    by_cases e : z = 5
    · refine mm_tIn (tgt := 357) smd_L_law_33 5 e (by decide) (by decide) rfl rfl ?_
      replace hT := hT.2.2.2.2.2.1 e
      refine mm_aload_n (n := 358) (i := 1) smd_L_law_357 rfl rfl rfl ?_
      refine mm_callVI (n := 361) (As := []) (rest := []) smv_S_stage smw_266 smb_S (mm_hRl (by decide) (by decide)) smd_L_law_358 rfl rfl (Nat.le_of_ble_eq_true rfl) hT (fun r1 h1 hT => ?_)
      refine mm_aload_n (n := 362) (i := 2) smd_L_law_361 rfl rfl rfl ?_
      refine mm_callVI (n := 365) (As := []) (rest := [.int r1]) smv_M_stage smw_614 smb_M (mm_hRl (by decide) (by decide)) smd_L_law_362 rfl rfl (Nat.le_of_ble_eq_true rfl) hT (fun r2 h2 hT => ?_)
      refine mm_icmp_eq (n := 368) (tgt := 781) smd_L_law_365 rfl rfl (fun hc => ?_) (fun hc => ?_)
      · replace hT := hT.1 hc
        refine mm_iinc (n := 784) (i := 3) (d := 7) (L' := [some (.ref b), some (.ref (mm_B Γ + 0)), some (.ref (mm_B Γ + 64)), some (.int (i + (7 : Int32)))]) smd_L_law_781 rfl rfl (by decide) (by decide) rfl ?_
        refine mm_goto (n := 18) smd_L_law_784 rfl ?_
        exact hT
      · replace hT := hT.2 hc
        refine mm_iconst (n := 369) (v := 0) smd_L_law_368 rfl (by decide) ?_
        exact hT.elim
    have n5 := e
    clear e
    by_cases e : z = 6
    · refine mm_tIn (tgt := 370) smd_L_law_33 6 e (by decide) (by decide) rfl rfl ?_
      replace hT := hT.2.2.2.2.2.2.1 e
      refine mm_aload_n (n := 371) (i := 1) smd_L_law_370 rfl rfl rfl ?_
      refine mm_callVI (n := 374) (As := []) (rest := []) smv_S_withdraw smw_294 smb_S (mm_hRl (by decide) (by decide)) smd_L_law_371 rfl rfl (Nat.le_of_ble_eq_true rfl) hT (fun r1 h1 hT => ?_)
      refine mm_aload_n (n := 375) (i := 2) smd_L_law_374 rfl rfl rfl ?_
      refine mm_callVI (n := 378) (As := []) (rest := [.int r1]) smv_M_withdraw smw_629 smb_M (mm_hRl (by decide) (by decide)) smd_L_law_375 rfl rfl (Nat.le_of_ble_eq_true rfl) hT (fun r2 h2 hT => ?_)
      refine mm_icmp_eq (n := 381) (tgt := 781) smd_L_law_378 rfl rfl (fun hc => ?_) (fun hc => ?_)
      · replace hT := hT.1 hc
        refine mm_iinc (n := 784) (i := 3) (d := 7) (L' := [some (.ref b), some (.ref (mm_B Γ + 0)), some (.ref (mm_B Γ + 64)), some (.int (i + (7 : Int32)))]) smd_L_law_781 rfl rfl (by decide) (by decide) rfl ?_
        refine mm_goto (n := 18) smd_L_law_784 rfl ?_
        exact hT
      · replace hT := hT.2 hc
        refine mm_iconst (n := 382) (v := 0) smd_L_law_381 rfl (by decide) ?_
        exact hT.elim
    have n6 := e
    clear e
    by_cases e : z = 7
    · refine mm_tIn (tgt := 383) smd_L_law_33 7 e (by decide) (by decide) rfl rfl ?_
      replace hT := hT.2.2.2.2.2.2.2.1 e
      refine mm_aload_n (n := 384) (i := 1) smd_L_law_383 rfl rfl rfl ?_
      refine mm_aload_n (n := 385) (i := 0) smd_L_law_384 rfl rfl rfl ?_
      refine mm_iload_n (n := 386) (i := 3) smd_L_law_385 rfl rfl rfl ?_
      refine mm_iconst (n := 387) (v := 1) smd_L_law_386 rfl (by decide) ?_
      refine mm_iadd (n := 388) smd_L_law_387 rfl ?_
      refine mm_sld (n := 389) hT.1 smd_L_law_388 rfl ?_
      replace hT := hT.2
      refine mm_callVI (n := 392) (As := [.int (xs (i + (1 : Int32)).toNatClampNeg)]) (rest := []) smv_S_changed smw_298 smb_S (mm_hRl (by decide) (by decide)) smd_L_law_389 rfl rfl (Nat.le_of_ble_eq_true rfl) hT (fun r1 h1 hT => ?_)
      refine mm_aload_n (n := 393) (i := 2) smd_L_law_392 rfl rfl rfl ?_
      refine mm_aload_n (n := 394) (i := 0) smd_L_law_393 rfl rfl rfl ?_
      refine mm_iload_n (n := 395) (i := 3) smd_L_law_394 rfl rfl rfl ?_
      refine mm_iconst (n := 396) (v := 1) smd_L_law_395 rfl (by decide) ?_
      refine mm_iadd (n := 397) smd_L_law_396 rfl ?_
      refine mm_sld (n := 398) hT.1 smd_L_law_397 rfl ?_
      replace hT := hT.2
      refine mm_callVI (n := 401) (As := [.int (xs (i + (1 : Int32)).toNatClampNeg)]) (rest := [.int r1]) smv_M_changed smw_633 smb_M (mm_hRl (by decide) (by decide)) smd_L_law_398 rfl rfl (Nat.le_of_ble_eq_true rfl) hT (fun r2 h2 hT => ?_)
      refine mm_icmp_eq (n := 404) (tgt := 781) smd_L_law_401 rfl rfl (fun hc => ?_) (fun hc => ?_)
      · replace hT := hT.1 hc
        refine mm_iinc (n := 784) (i := 3) (d := 7) (L' := [some (.ref b), some (.ref (mm_B Γ + 0)), some (.ref (mm_B Γ + 64)), some (.int (i + (7 : Int32)))]) smd_L_law_781 rfl rfl (by decide) (by decide) rfl ?_
        refine mm_goto (n := 18) smd_L_law_784 rfl ?_
        exact hT
      · replace hT := hT.2 hc
        refine mm_iconst (n := 405) (v := 0) smd_L_law_404 rfl (by decide) ?_
        exact hT.elim
    have n7 := e
    clear e
    by_cases e : z = 8
    · refine mm_tIn (tgt := 406) smd_L_law_33 8 e (by decide) (by decide) rfl rfl ?_
      replace hT := hT.2.2.2.2.2.2.2.2.1 e
      refine mm_aload_n (n := 407) (i := 1) smd_L_law_406 rfl rfl rfl ?_
      refine mm_aload_n (n := 408) (i := 0) smd_L_law_407 rfl rfl rfl ?_
      refine mm_iload_n (n := 409) (i := 3) smd_L_law_408 rfl rfl rfl ?_
      refine mm_iconst (n := 410) (v := 1) smd_L_law_409 rfl (by decide) ?_
      refine mm_iadd (n := 411) smd_L_law_410 rfl ?_
      refine mm_sld (n := 412) hT.1 smd_L_law_411 rfl ?_
      replace hT := hT.2
      refine mm_callVI (n := 415) (As := [.int (xs (i + (1 : Int32)).toNatClampNeg)]) (rest := []) smv_S_blocker smw_318 smb_S (mm_hRl (by decide) (by decide)) smd_L_law_412 rfl rfl (Nat.le_of_ble_eq_true rfl) hT (fun r1 h1 hT => ?_)
      refine mm_aload_n (n := 416) (i := 2) smd_L_law_415 rfl rfl rfl ?_
      refine mm_aload_n (n := 417) (i := 0) smd_L_law_416 rfl rfl rfl ?_
      refine mm_iload_n (n := 418) (i := 3) smd_L_law_417 rfl rfl rfl ?_
      refine mm_iconst (n := 419) (v := 1) smd_L_law_418 rfl (by decide) ?_
      refine mm_iadd (n := 420) smd_L_law_419 rfl ?_
      refine mm_sld (n := 421) hT.1 smd_L_law_420 rfl ?_
      replace hT := hT.2
      refine mm_callVI (n := 424) (As := [.int (xs (i + (1 : Int32)).toNatClampNeg)]) (rest := [.int r1]) smv_M_blocker smw_649 smb_M (mm_hRl (by decide) (by decide)) smd_L_law_421 rfl rfl (Nat.le_of_ble_eq_true rfl) hT (fun r2 h2 hT => ?_)
      refine mm_icmp_eq (n := 427) (tgt := 781) smd_L_law_424 rfl rfl (fun hc => ?_) (fun hc => ?_)
      · replace hT := hT.1 hc
        refine mm_iinc (n := 784) (i := 3) (d := 7) (L' := [some (.ref b), some (.ref (mm_B Γ + 0)), some (.ref (mm_B Γ + 64)), some (.int (i + (7 : Int32)))]) smd_L_law_781 rfl rfl (by decide) (by decide) rfl ?_
        refine mm_goto (n := 18) smd_L_law_784 rfl ?_
        exact hT
      · replace hT := hT.2 hc
        refine mm_iconst (n := 428) (v := 0) smd_L_law_427 rfl (by decide) ?_
        exact hT.elim
    have n8 := e
    clear e
    by_cases e : z = 9
    · refine mm_tIn (tgt := 429) smd_L_law_33 9 e (by decide) (by decide) rfl rfl ?_
      replace hT := hT.2.2.2.2.2.2.2.2.2.1 e
      refine mm_aload_n (n := 430) (i := 1) smd_L_law_429 rfl rfl rfl ?_
      refine mm_aload_n (n := 431) (i := 0) smd_L_law_430 rfl rfl rfl ?_
      refine mm_iload_n (n := 432) (i := 3) smd_L_law_431 rfl rfl rfl ?_
      refine mm_iconst (n := 433) (v := 1) smd_L_law_432 rfl (by decide) ?_
      refine mm_iadd (n := 434) smd_L_law_433 rfl ?_
      refine mm_sld (n := 435) hT.1 smd_L_law_434 rfl ?_
      replace hT := hT.2
      refine mm_callVI (n := 438) (As := [.int (xs (i + (1 : Int32)).toNatClampNeg)]) (rest := []) smv_S_attempt smw_340 smb_S (mm_hRl (by decide) (by decide)) smd_L_law_435 rfl rfl (Nat.le_of_ble_eq_true rfl) hT (fun r1 h1 hT => ?_)
      refine mm_aload_n (n := 439) (i := 2) smd_L_law_438 rfl rfl rfl ?_
      refine mm_aload_n (n := 440) (i := 0) smd_L_law_439 rfl rfl rfl ?_
      refine mm_iload_n (n := 441) (i := 3) smd_L_law_440 rfl rfl rfl ?_
      refine mm_iconst (n := 442) (v := 1) smd_L_law_441 rfl (by decide) ?_
      refine mm_iadd (n := 443) smd_L_law_442 rfl ?_
      refine mm_sld (n := 444) hT.1 smd_L_law_443 rfl ?_
      replace hT := hT.2
      refine mm_callVI (n := 447) (As := [.int (xs (i + (1 : Int32)).toNatClampNeg)]) (rest := [.int r1]) smv_M_attempt smw_696 smb_M (mm_hRl (by decide) (by decide)) smd_L_law_444 rfl rfl (Nat.le_of_ble_eq_true rfl) hT (fun r2 h2 hT => ?_)
      refine mm_icmp_eq (n := 450) (tgt := 781) smd_L_law_447 rfl rfl (fun hc => ?_) (fun hc => ?_)
      · replace hT := hT.1 hc
        refine mm_iinc (n := 784) (i := 3) (d := 7) (L' := [some (.ref b), some (.ref (mm_B Γ + 0)), some (.ref (mm_B Γ + 64)), some (.int (i + (7 : Int32)))]) smd_L_law_781 rfl rfl (by decide) (by decide) rfl ?_
        refine mm_goto (n := 18) smd_L_law_784 rfl ?_
        exact hT
      · replace hT := hT.2 hc
        refine mm_iconst (n := 451) (v := 0) smd_L_law_450 rfl (by decide) ?_
        exact hT.elim
    have n9 := e
    clear e
    by_cases e : z = 10
    · refine mm_tIn (tgt := 452) smd_L_law_33 10 e (by decide) (by decide) rfl rfl ?_
      replace hT := hT.2.2.2.2.2.2.2.2.2.2.1 e
      refine mm_aload_n (n := 453) (i := 1) smd_L_law_452 rfl rfl rfl ?_
      refine mm_callVI (n := 456) (As := []) (rest := []) smv_S_version smw_394 smb_S (mm_hRl (by decide) (by decide)) smd_L_law_453 rfl rfl (Nat.le_of_ble_eq_true rfl) hT (fun r1 h1 hT => ?_)
      refine mm_aload_n (n := 457) (i := 2) smd_L_law_456 rfl rfl rfl ?_
      refine mm_callVI (n := 460) (As := []) (rest := [.int r1]) smv_M_version smw_713 smb_M (mm_hRl (by decide) (by decide)) smd_L_law_457 rfl rfl (Nat.le_of_ble_eq_true rfl) hT (fun r2 h2 hT => ?_)
      refine mm_icmp_eq (n := 463) (tgt := 781) smd_L_law_460 rfl rfl (fun hc => ?_) (fun hc => ?_)
      · replace hT := hT.1 hc
        refine mm_iinc (n := 784) (i := 3) (d := 7) (L' := [some (.ref b), some (.ref (mm_B Γ + 0)), some (.ref (mm_B Γ + 64)), some (.int (i + (7 : Int32)))]) smd_L_law_781 rfl rfl (by decide) (by decide) rfl ?_
        refine mm_goto (n := 18) smd_L_law_784 rfl ?_
        exact hT
      · replace hT := hT.2 hc
        refine mm_iconst (n := 464) (v := 0) smd_L_law_463 rfl (by decide) ?_
        exact hT.elim
    have n10 := e
    clear e
    by_cases e : z = 11
    · refine mm_tIn (tgt := 465) smd_L_law_33 11 e (by decide) (by decide) rfl rfl ?_
      replace hT := hT.2.2.2.2.2.2.2.2.2.2.2.1 e
      refine mm_aload_n (n := 466) (i := 1) smd_L_law_465 rfl rfl rfl ?_
      refine mm_aload_n (n := 467) (i := 0) smd_L_law_466 rfl rfl rfl ?_
      refine mm_iload_n (n := 468) (i := 3) smd_L_law_467 rfl rfl rfl ?_
      refine mm_iconst (n := 469) (v := 1) smd_L_law_468 rfl (by decide) ?_
      refine mm_iadd (n := 470) smd_L_law_469 rfl ?_
      refine mm_sld (n := 471) hT.1 smd_L_law_470 rfl ?_
      replace hT := hT.2
      refine mm_aload_n (n := 472) (i := 0) smd_L_law_471 rfl rfl rfl ?_
      refine mm_iload_n (n := 473) (i := 3) smd_L_law_472 rfl rfl rfl ?_
      refine mm_iconst (n := 474) (v := 2) smd_L_law_473 rfl (by decide) ?_
      refine mm_iadd (n := 475) smd_L_law_474 rfl ?_
      refine mm_sld (n := 476) hT.1 smd_L_law_475 rfl ?_
      replace hT := hT.2
      refine mm_callVI (n := 479) (As := [.int (xs (i + (1 : Int32)).toNatClampNeg), .int (xs (i + (2 : Int32)).toNatClampNeg)]) (rest := []) smv_S_spawn smw_398 smb_S (mm_hRl (by decide) (by decide)) smd_L_law_476 rfl rfl (Nat.le_of_ble_eq_true rfl) hT (fun r1 h1 hT => ?_)
      refine mm_aload_n (n := 480) (i := 2) smd_L_law_479 rfl rfl rfl ?_
      refine mm_aload_n (n := 481) (i := 0) smd_L_law_480 rfl rfl rfl ?_
      refine mm_iload_n (n := 482) (i := 3) smd_L_law_481 rfl rfl rfl ?_
      refine mm_iconst (n := 483) (v := 1) smd_L_law_482 rfl (by decide) ?_
      refine mm_iadd (n := 484) smd_L_law_483 rfl ?_
      refine mm_sld (n := 485) hT.1 smd_L_law_484 rfl ?_
      replace hT := hT.2
      refine mm_aload_n (n := 486) (i := 0) smd_L_law_485 rfl rfl rfl ?_
      refine mm_iload_n (n := 487) (i := 3) smd_L_law_486 rfl rfl rfl ?_
      refine mm_iconst (n := 488) (v := 2) smd_L_law_487 rfl (by decide) ?_
      refine mm_iadd (n := 489) smd_L_law_488 rfl ?_
      refine mm_sld (n := 490) hT.1 smd_L_law_489 rfl ?_
      replace hT := hT.2
      refine mm_callVI (n := 493) (As := [.int (xs (i + (1 : Int32)).toNatClampNeg), .int (xs (i + (2 : Int32)).toNatClampNeg)]) (rest := [.int r1]) smv_M_spawn smw_717 smb_M (mm_hRl (by decide) (by decide)) smd_L_law_490 rfl rfl (Nat.le_of_ble_eq_true rfl) hT (fun r2 h2 hT => ?_)
      refine mm_icmp_eq (n := 496) (tgt := 781) smd_L_law_493 rfl rfl (fun hc => ?_) (fun hc => ?_)
      · replace hT := hT.1 hc
        refine mm_iinc (n := 784) (i := 3) (d := 7) (L' := [some (.ref b), some (.ref (mm_B Γ + 0)), some (.ref (mm_B Γ + 64)), some (.int (i + (7 : Int32)))]) smd_L_law_781 rfl rfl (by decide) (by decide) rfl ?_
        refine mm_goto (n := 18) smd_L_law_784 rfl ?_
        exact hT
      · replace hT := hT.2 hc
        refine mm_iconst (n := 497) (v := 0) smd_L_law_496 rfl (by decide) ?_
        exact hT.elim
    have n11 := e
    clear e
    by_cases e : z = 12
    · refine mm_tIn (tgt := 498) smd_L_law_33 12 e (by decide) (by decide) rfl rfl ?_
      replace hT := hT.2.2.2.2.2.2.2.2.2.2.2.2.1 e
      refine mm_aload_n (n := 499) (i := 1) smd_L_law_498 rfl rfl rfl ?_
      refine mm_aload_n (n := 500) (i := 0) smd_L_law_499 rfl rfl rfl ?_
      refine mm_iload_n (n := 501) (i := 3) smd_L_law_500 rfl rfl rfl ?_
      refine mm_iconst (n := 502) (v := 1) smd_L_law_501 rfl (by decide) ?_
      refine mm_iadd (n := 503) smd_L_law_502 rfl ?_
      refine mm_sld (n := 504) hT.1 smd_L_law_503 rfl ?_
      replace hT := hT.2
      refine mm_aload_n (n := 505) (i := 0) smd_L_law_504 rfl rfl rfl ?_
      refine mm_iload_n (n := 506) (i := 3) smd_L_law_505 rfl rfl rfl ?_
      refine mm_iconst (n := 507) (v := 2) smd_L_law_506 rfl (by decide) ?_
      refine mm_iadd (n := 508) smd_L_law_507 rfl ?_
      refine mm_sld (n := 509) hT.1 smd_L_law_508 rfl ?_
      replace hT := hT.2
      refine mm_callVI (n := 512) (As := [.int (xs (i + (1 : Int32)).toNatClampNeg), .int (xs (i + (2 : Int32)).toNatClampNeg)]) (rest := []) smv_S_step smw_411 smb_S (mm_hRl (by decide) (by decide)) smd_L_law_509 rfl rfl (Nat.le_of_ble_eq_true rfl) hT (fun r1 h1 hT => ?_)
      refine mm_aload_n (n := 513) (i := 2) smd_L_law_512 rfl rfl rfl ?_
      refine mm_aload_n (n := 514) (i := 0) smd_L_law_513 rfl rfl rfl ?_
      refine mm_iload_n (n := 515) (i := 3) smd_L_law_514 rfl rfl rfl ?_
      refine mm_iconst (n := 516) (v := 1) smd_L_law_515 rfl (by decide) ?_
      refine mm_iadd (n := 517) smd_L_law_516 rfl ?_
      refine mm_sld (n := 518) hT.1 smd_L_law_517 rfl ?_
      replace hT := hT.2
      refine mm_aload_n (n := 519) (i := 0) smd_L_law_518 rfl rfl rfl ?_
      refine mm_iload_n (n := 520) (i := 3) smd_L_law_519 rfl rfl rfl ?_
      refine mm_iconst (n := 521) (v := 2) smd_L_law_520 rfl (by decide) ?_
      refine mm_iadd (n := 522) smd_L_law_521 rfl ?_
      refine mm_sld (n := 523) hT.1 smd_L_law_522 rfl ?_
      replace hT := hT.2
      refine mm_callVI (n := 526) (As := [.int (xs (i + (1 : Int32)).toNatClampNeg), .int (xs (i + (2 : Int32)).toNatClampNeg)]) (rest := [.int r1]) smv_M_step smw_725 smb_M (mm_hRl (by decide) (by decide)) smd_L_law_523 rfl rfl (Nat.le_of_ble_eq_true rfl) hT (fun r2 h2 hT => ?_)
      refine mm_icmp_eq (n := 529) (tgt := 781) smd_L_law_526 rfl rfl (fun hc => ?_) (fun hc => ?_)
      · replace hT := hT.1 hc
        refine mm_iinc (n := 784) (i := 3) (d := 7) (L' := [some (.ref b), some (.ref (mm_B Γ + 0)), some (.ref (mm_B Γ + 64)), some (.int (i + (7 : Int32)))]) smd_L_law_781 rfl rfl (by decide) (by decide) rfl ?_
        refine mm_goto (n := 18) smd_L_law_784 rfl ?_
        exact hT
      · replace hT := hT.2 hc
        refine mm_iconst (n := 530) (v := 0) smd_L_law_529 rfl (by decide) ?_
        exact hT.elim
    have n12 := e
    clear e
    by_cases e : z = 13
    · refine mm_tIn (tgt := 531) smd_L_law_33 13 e (by decide) (by decide) rfl rfl ?_
      replace hT := hT.2.2.2.2.2.2.2.2.2.2.2.2.2.1 e
      refine mm_aload_n (n := 532) (i := 1) smd_L_law_531 rfl rfl rfl ?_
      refine mm_aload_n (n := 533) (i := 0) smd_L_law_532 rfl rfl rfl ?_
      refine mm_iload_n (n := 534) (i := 3) smd_L_law_533 rfl rfl rfl ?_
      refine mm_iconst (n := 535) (v := 1) smd_L_law_534 rfl (by decide) ?_
      refine mm_iadd (n := 536) smd_L_law_535 rfl ?_
      refine mm_sld (n := 537) hT.1 smd_L_law_536 rfl ?_
      replace hT := hT.2
      refine mm_aload_n (n := 538) (i := 0) smd_L_law_537 rfl rfl rfl ?_
      refine mm_iload_n (n := 539) (i := 3) smd_L_law_538 rfl rfl rfl ?_
      refine mm_iconst (n := 540) (v := 2) smd_L_law_539 rfl (by decide) ?_
      refine mm_iadd (n := 541) smd_L_law_540 rfl ?_
      refine mm_sld (n := 542) hT.1 smd_L_law_541 rfl ?_
      replace hT := hT.2
      refine mm_callVI (n := 545) (As := [.int (xs (i + (1 : Int32)).toNatClampNeg), .int (xs (i + (2 : Int32)).toNatClampNeg)]) (rest := []) smv_S_send smw_467 smb_S (mm_hRl (by decide) (by decide)) smd_L_law_542 rfl rfl (Nat.le_of_ble_eq_true rfl) hT (fun r1 h1 hT => ?_)
      refine mm_aload_n (n := 546) (i := 2) smd_L_law_545 rfl rfl rfl ?_
      refine mm_aload_n (n := 547) (i := 0) smd_L_law_546 rfl rfl rfl ?_
      refine mm_iload_n (n := 548) (i := 3) smd_L_law_547 rfl rfl rfl ?_
      refine mm_iconst (n := 549) (v := 1) smd_L_law_548 rfl (by decide) ?_
      refine mm_iadd (n := 550) smd_L_law_549 rfl ?_
      refine mm_sld (n := 551) hT.1 smd_L_law_550 rfl ?_
      replace hT := hT.2
      refine mm_aload_n (n := 552) (i := 0) smd_L_law_551 rfl rfl rfl ?_
      refine mm_iload_n (n := 553) (i := 3) smd_L_law_552 rfl rfl rfl ?_
      refine mm_iconst (n := 554) (v := 2) smd_L_law_553 rfl (by decide) ?_
      refine mm_iadd (n := 555) smd_L_law_554 rfl ?_
      refine mm_sld (n := 556) hT.1 smd_L_law_555 rfl ?_
      replace hT := hT.2
      refine mm_callVI (n := 559) (As := [.int (xs (i + (1 : Int32)).toNatClampNeg), .int (xs (i + (2 : Int32)).toNatClampNeg)]) (rest := [.int r1]) smv_M_send smw_765 smb_M (mm_hRl (by decide) (by decide)) smd_L_law_556 rfl rfl (Nat.le_of_ble_eq_true rfl) hT (fun r2 h2 hT => ?_)
      refine mm_icmp_eq (n := 562) (tgt := 781) smd_L_law_559 rfl rfl (fun hc => ?_) (fun hc => ?_)
      · replace hT := hT.1 hc
        refine mm_iinc (n := 784) (i := 3) (d := 7) (L' := [some (.ref b), some (.ref (mm_B Γ + 0)), some (.ref (mm_B Γ + 64)), some (.int (i + (7 : Int32)))]) smd_L_law_781 rfl rfl (by decide) (by decide) rfl ?_
        refine mm_goto (n := 18) smd_L_law_784 rfl ?_
        exact hT
      · replace hT := hT.2 hc
        refine mm_iconst (n := 563) (v := 0) smd_L_law_562 rfl (by decide) ?_
        exact hT.elim
    have n13 := e
    clear e
    by_cases e : z = 14
    · refine mm_tIn (tgt := 564) smd_L_law_33 14 e (by decide) (by decide) rfl rfl ?_
      replace hT := hT.2.2.2.2.2.2.2.2.2.2.2.2.2.2.1 e
      refine mm_aload_n (n := 565) (i := 1) smd_L_law_564 rfl rfl rfl ?_
      refine mm_aload_n (n := 566) (i := 0) smd_L_law_565 rfl rfl rfl ?_
      refine mm_iload_n (n := 567) (i := 3) smd_L_law_566 rfl rfl rfl ?_
      refine mm_iconst (n := 568) (v := 1) smd_L_law_567 rfl (by decide) ?_
      refine mm_iadd (n := 569) smd_L_law_568 rfl ?_
      refine mm_sld (n := 570) hT.1 smd_L_law_569 rfl ?_
      replace hT := hT.2
      refine mm_callVI (n := 573) (As := [.int (xs (i + (1 : Int32)).toNatClampNeg)]) (rest := []) smv_S_state smw_475 smb_S (mm_hRl (by decide) (by decide)) smd_L_law_570 rfl rfl (Nat.le_of_ble_eq_true rfl) hT (fun r1 h1 hT => ?_)
      refine mm_aload_n (n := 574) (i := 2) smd_L_law_573 rfl rfl rfl ?_
      refine mm_aload_n (n := 575) (i := 0) smd_L_law_574 rfl rfl rfl ?_
      refine mm_iload_n (n := 576) (i := 3) smd_L_law_575 rfl rfl rfl ?_
      refine mm_iconst (n := 577) (v := 1) smd_L_law_576 rfl (by decide) ?_
      refine mm_iadd (n := 578) smd_L_law_577 rfl ?_
      refine mm_sld (n := 579) hT.1 smd_L_law_578 rfl ?_
      replace hT := hT.2
      refine mm_callVI (n := 582) (As := [.int (xs (i + (1 : Int32)).toNatClampNeg)]) (rest := [.int r1]) smv_M_state smw_769 smb_M (mm_hRl (by decide) (by decide)) smd_L_law_579 rfl rfl (Nat.le_of_ble_eq_true rfl) hT (fun r2 h2 hT => ?_)
      refine mm_icmp_eq (n := 585) (tgt := 781) smd_L_law_582 rfl rfl (fun hc => ?_) (fun hc => ?_)
      · replace hT := hT.1 hc
        refine mm_iinc (n := 784) (i := 3) (d := 7) (L' := [some (.ref b), some (.ref (mm_B Γ + 0)), some (.ref (mm_B Γ + 64)), some (.int (i + (7 : Int32)))]) smd_L_law_781 rfl rfl (by decide) (by decide) rfl ?_
        refine mm_goto (n := 18) smd_L_law_784 rfl ?_
        exact hT
      · replace hT := hT.2 hc
        refine mm_iconst (n := 586) (v := 0) smd_L_law_585 rfl (by decide) ?_
        exact hT.elim
    have n14 := e
    clear e
    by_cases e : z = 15
    · refine mm_tIn (tgt := 587) smd_L_law_33 15 e (by decide) (by decide) rfl rfl ?_
      replace hT := hT.2.2.2.2.2.2.2.2.2.2.2.2.2.2.2.1 e
      refine mm_aload_n (n := 588) (i := 1) smd_L_law_587 rfl rfl rfl ?_
      refine mm_aload_n (n := 589) (i := 0) smd_L_law_588 rfl rfl rfl ?_
      refine mm_iload_n (n := 590) (i := 3) smd_L_law_589 rfl rfl rfl ?_
      refine mm_iconst (n := 591) (v := 1) smd_L_law_590 rfl (by decide) ?_
      refine mm_iadd (n := 592) smd_L_law_591 rfl ?_
      refine mm_sld (n := 593) hT.1 smd_L_law_592 rfl ?_
      replace hT := hT.2
      refine mm_callVI (n := 596) (As := [.int (xs (i + (1 : Int32)).toNatClampNeg)]) (rest := []) smv_S_result smw_479 smb_S (mm_hRl (by decide) (by decide)) smd_L_law_593 rfl rfl (Nat.le_of_ble_eq_true rfl) hT (fun r1 h1 hT => ?_)
      refine mm_aload_n (n := 597) (i := 2) smd_L_law_596 rfl rfl rfl ?_
      refine mm_aload_n (n := 598) (i := 0) smd_L_law_597 rfl rfl rfl ?_
      refine mm_iload_n (n := 599) (i := 3) smd_L_law_598 rfl rfl rfl ?_
      refine mm_iconst (n := 600) (v := 1) smd_L_law_599 rfl (by decide) ?_
      refine mm_iadd (n := 601) smd_L_law_600 rfl ?_
      refine mm_sld (n := 602) hT.1 smd_L_law_601 rfl ?_
      replace hT := hT.2
      refine mm_callVI (n := 605) (As := [.int (xs (i + (1 : Int32)).toNatClampNeg)]) (rest := [.int r1]) smv_M_result smw_773 smb_M (mm_hRl (by decide) (by decide)) smd_L_law_602 rfl rfl (Nat.le_of_ble_eq_true rfl) hT (fun r2 h2 hT => ?_)
      refine mm_icmp_eq (n := 608) (tgt := 781) smd_L_law_605 rfl rfl (fun hc => ?_) (fun hc => ?_)
      · replace hT := hT.1 hc
        refine mm_iinc (n := 784) (i := 3) (d := 7) (L' := [some (.ref b), some (.ref (mm_B Γ + 0)), some (.ref (mm_B Γ + 64)), some (.int (i + (7 : Int32)))]) smd_L_law_781 rfl rfl (by decide) (by decide) rfl ?_
        refine mm_goto (n := 18) smd_L_law_784 rfl ?_
        exact hT
      · replace hT := hT.2 hc
        refine mm_iconst (n := 609) (v := 0) smd_L_law_608 rfl (by decide) ?_
        exact hT.elim
    have n15 := e
    clear e
    by_cases e : z = 16
    · refine mm_tIn (tgt := 610) smd_L_law_33 16 e (by decide) (by decide) rfl rfl ?_
      replace hT := hT.2.2.2.2.2.2.2.2.2.2.2.2.2.2.2.2.1 e
      refine mm_aload_n (n := 611) (i := 1) smd_L_law_610 rfl rfl rfl ?_
      refine mm_aload_n (n := 612) (i := 0) smd_L_law_611 rfl rfl rfl ?_
      refine mm_iload_n (n := 613) (i := 3) smd_L_law_612 rfl rfl rfl ?_
      refine mm_iconst (n := 614) (v := 1) smd_L_law_613 rfl (by decide) ?_
      refine mm_iadd (n := 615) smd_L_law_614 rfl ?_
      refine mm_sld (n := 616) hT.1 smd_L_law_615 rfl ?_
      replace hT := hT.2
      refine mm_callVI (n := 619) (As := [.int (xs (i + (1 : Int32)).toNatClampNeg)]) (rest := []) smv_S_frames smw_483 smb_S (mm_hRl (by decide) (by decide)) smd_L_law_616 rfl rfl (Nat.le_of_ble_eq_true rfl) hT (fun r1 h1 hT => ?_)
      refine mm_aload_n (n := 620) (i := 2) smd_L_law_619 rfl rfl rfl ?_
      refine mm_aload_n (n := 621) (i := 0) smd_L_law_620 rfl rfl rfl ?_
      refine mm_iload_n (n := 622) (i := 3) smd_L_law_621 rfl rfl rfl ?_
      refine mm_iconst (n := 623) (v := 1) smd_L_law_622 rfl (by decide) ?_
      refine mm_iadd (n := 624) smd_L_law_623 rfl ?_
      refine mm_sld (n := 625) hT.1 smd_L_law_624 rfl ?_
      replace hT := hT.2
      refine mm_callVI (n := 628) (As := [.int (xs (i + (1 : Int32)).toNatClampNeg)]) (rest := [.int r1]) smv_M_frames smw_777 smb_M (mm_hRl (by decide) (by decide)) smd_L_law_625 rfl rfl (Nat.le_of_ble_eq_true rfl) hT (fun r2 h2 hT => ?_)
      refine mm_icmp_eq (n := 631) (tgt := 781) smd_L_law_628 rfl rfl (fun hc => ?_) (fun hc => ?_)
      · replace hT := hT.1 hc
        refine mm_iinc (n := 784) (i := 3) (d := 7) (L' := [some (.ref b), some (.ref (mm_B Γ + 0)), some (.ref (mm_B Γ + 64)), some (.int (i + (7 : Int32)))]) smd_L_law_781 rfl rfl (by decide) (by decide) rfl ?_
        refine mm_goto (n := 18) smd_L_law_784 rfl ?_
        exact hT
      · replace hT := hT.2 hc
        refine mm_iconst (n := 632) (v := 0) smd_L_law_631 rfl (by decide) ?_
        exact hT.elim
    have n16 := e
    clear e
    by_cases e : z = 17
    · refine mm_tIn (tgt := 633) smd_L_law_33 17 e (by decide) (by decide) rfl rfl ?_
      replace hT := hT.2.2.2.2.2.2.2.2.2.2.2.2.2.2.2.2.2.1 e
      refine mm_aload_n (n := 634) (i := 1) smd_L_law_633 rfl rfl rfl ?_
      refine mm_aload_n (n := 635) (i := 0) smd_L_law_634 rfl rfl rfl ?_
      refine mm_iload_n (n := 636) (i := 3) smd_L_law_635 rfl rfl rfl ?_
      refine mm_iconst (n := 637) (v := 1) smd_L_law_636 rfl (by decide) ?_
      refine mm_iadd (n := 638) smd_L_law_637 rfl ?_
      refine mm_sld (n := 639) hT.1 smd_L_law_638 rfl ?_
      replace hT := hT.2
      refine mm_aload_n (n := 640) (i := 0) smd_L_law_639 rfl rfl rfl ?_
      refine mm_iload_n (n := 641) (i := 3) smd_L_law_640 rfl rfl rfl ?_
      refine mm_iconst (n := 642) (v := 2) smd_L_law_641 rfl (by decide) ?_
      refine mm_iadd (n := 643) smd_L_law_642 rfl ?_
      refine mm_sld (n := 644) hT.1 smd_L_law_643 rfl ?_
      replace hT := hT.2
      refine mm_aload_n (n := 645) (i := 0) smd_L_law_644 rfl rfl rfl ?_
      refine mm_iload_n (n := 646) (i := 3) smd_L_law_645 rfl rfl rfl ?_
      refine mm_iconst (n := 647) (v := 3) smd_L_law_646 rfl (by decide) ?_
      refine mm_iadd (n := 648) smd_L_law_647 rfl ?_
      refine mm_sld (n := 649) hT.1 smd_L_law_648 rfl ?_
      replace hT := hT.2
      refine mm_callVI (n := 652) (As := [.int (xs (i + (1 : Int32)).toNatClampNeg), .int (xs (i + (2 : Int32)).toNatClampNeg), .int (xs (i + (3 : Int32)).toNatClampNeg)]) (rest := []) smv_S_frame smw_487 smb_S (mm_hRl (by decide) (by decide)) smd_L_law_649 rfl rfl (Nat.le_of_ble_eq_true rfl) hT (fun r1 h1 hT => ?_)
      refine mm_aload_n (n := 653) (i := 2) smd_L_law_652 rfl rfl rfl ?_
      refine mm_aload_n (n := 654) (i := 0) smd_L_law_653 rfl rfl rfl ?_
      refine mm_iload_n (n := 655) (i := 3) smd_L_law_654 rfl rfl rfl ?_
      refine mm_iconst (n := 656) (v := 1) smd_L_law_655 rfl (by decide) ?_
      refine mm_iadd (n := 657) smd_L_law_656 rfl ?_
      refine mm_sld (n := 658) hT.1 smd_L_law_657 rfl ?_
      replace hT := hT.2
      refine mm_aload_n (n := 659) (i := 0) smd_L_law_658 rfl rfl rfl ?_
      refine mm_iload_n (n := 660) (i := 3) smd_L_law_659 rfl rfl rfl ?_
      refine mm_iconst (n := 661) (v := 2) smd_L_law_660 rfl (by decide) ?_
      refine mm_iadd (n := 662) smd_L_law_661 rfl ?_
      refine mm_sld (n := 663) hT.1 smd_L_law_662 rfl ?_
      replace hT := hT.2
      refine mm_aload_n (n := 664) (i := 0) smd_L_law_663 rfl rfl rfl ?_
      refine mm_iload_n (n := 665) (i := 3) smd_L_law_664 rfl rfl rfl ?_
      refine mm_iconst (n := 666) (v := 3) smd_L_law_665 rfl (by decide) ?_
      refine mm_iadd (n := 667) smd_L_law_666 rfl ?_
      refine mm_sld (n := 668) hT.1 smd_L_law_667 rfl ?_
      replace hT := hT.2
      refine mm_callVI (n := 671) (As := [.int (xs (i + (1 : Int32)).toNatClampNeg), .int (xs (i + (2 : Int32)).toNatClampNeg), .int (xs (i + (3 : Int32)).toNatClampNeg)]) (rest := [.int r1]) smv_M_frame smw_781 smb_M (mm_hRl (by decide) (by decide)) smd_L_law_668 rfl rfl (Nat.le_of_ble_eq_true rfl) hT (fun r2 h2 hT => ?_)
      refine mm_icmp_eq (n := 674) (tgt := 781) smd_L_law_671 rfl rfl (fun hc => ?_) (fun hc => ?_)
      · replace hT := hT.1 hc
        refine mm_iinc (n := 784) (i := 3) (d := 7) (L' := [some (.ref b), some (.ref (mm_B Γ + 0)), some (.ref (mm_B Γ + 64)), some (.int (i + (7 : Int32)))]) smd_L_law_781 rfl rfl (by decide) (by decide) rfl ?_
        refine mm_goto (n := 18) smd_L_law_784 rfl ?_
        exact hT
      · replace hT := hT.2 hc
        refine mm_iconst (n := 675) (v := 0) smd_L_law_674 rfl (by decide) ?_
        exact hT.elim
    have n17 := e
    clear e
    by_cases e : z = 18
    · refine mm_tIn (tgt := 676) smd_L_law_33 18 e (by decide) (by decide) rfl rfl ?_
      replace hT := hT.2.2.2.2.2.2.2.2.2.2.2.2.2.2.2.2.2.2.1 e
      refine mm_aload_n (n := 677) (i := 1) smd_L_law_676 rfl rfl rfl ?_
      refine mm_aload_n (n := 678) (i := 0) smd_L_law_677 rfl rfl rfl ?_
      refine mm_iload_n (n := 679) (i := 3) smd_L_law_678 rfl rfl rfl ?_
      refine mm_iconst (n := 680) (v := 1) smd_L_law_679 rfl (by decide) ?_
      refine mm_iadd (n := 681) smd_L_law_680 rfl ?_
      refine mm_sld (n := 682) hT.1 smd_L_law_681 rfl ?_
      replace hT := hT.2
      refine mm_callVI (n := 685) (As := [.int (xs (i + (1 : Int32)).toNatClampNeg)]) (rest := []) smv_S_global smw_491 smb_S (mm_hRl (by decide) (by decide)) smd_L_law_682 rfl rfl (Nat.le_of_ble_eq_true rfl) hT (fun r1 h1 hT => ?_)
      refine mm_aload_n (n := 686) (i := 2) smd_L_law_685 rfl rfl rfl ?_
      refine mm_aload_n (n := 687) (i := 0) smd_L_law_686 rfl rfl rfl ?_
      refine mm_iload_n (n := 688) (i := 3) smd_L_law_687 rfl rfl rfl ?_
      refine mm_iconst (n := 689) (v := 1) smd_L_law_688 rfl (by decide) ?_
      refine mm_iadd (n := 690) smd_L_law_689 rfl ?_
      refine mm_sld (n := 691) hT.1 smd_L_law_690 rfl ?_
      replace hT := hT.2
      refine mm_callVI (n := 694) (As := [.int (xs (i + (1 : Int32)).toNatClampNeg)]) (rest := [.int r1]) smv_M_global smw_785 smb_M (mm_hRl (by decide) (by decide)) smd_L_law_691 rfl rfl (Nat.le_of_ble_eq_true rfl) hT (fun r2 h2 hT => ?_)
      refine mm_icmp_eq (n := 697) (tgt := 781) smd_L_law_694 rfl rfl (fun hc => ?_) (fun hc => ?_)
      · replace hT := hT.1 hc
        refine mm_iinc (n := 784) (i := 3) (d := 7) (L' := [some (.ref b), some (.ref (mm_B Γ + 0)), some (.ref (mm_B Γ + 64)), some (.int (i + (7 : Int32)))]) smd_L_law_781 rfl rfl (by decide) (by decide) rfl ?_
        refine mm_goto (n := 18) smd_L_law_784 rfl ?_
        exact hT
      · replace hT := hT.2 hc
        refine mm_iconst (n := 698) (v := 0) smd_L_law_697 rfl (by decide) ?_
        exact hT.elim
    have n18 := e
    clear e
    by_cases e : z = 19
    · refine mm_tIn (tgt := 699) smd_L_law_33 19 e (by decide) (by decide) rfl rfl ?_
      replace hT := hT.2.2.2.2.2.2.2.2.2.2.2.2.2.2.2.2.2.2.2.1 e
      refine mm_aload_n (n := 700) (i := 1) smd_L_law_699 rfl rfl rfl ?_
      refine mm_aload_n (n := 701) (i := 0) smd_L_law_700 rfl rfl rfl ?_
      refine mm_iload_n (n := 702) (i := 3) smd_L_law_701 rfl rfl rfl ?_
      refine mm_iconst (n := 703) (v := 1) smd_L_law_702 rfl (by decide) ?_
      refine mm_iadd (n := 704) smd_L_law_703 rfl ?_
      refine mm_sld (n := 705) hT.1 smd_L_law_704 rfl ?_
      replace hT := hT.2
      refine mm_callVI (n := 708) (As := [.int (xs (i + (1 : Int32)).toNatClampNeg)]) (rest := []) smv_S_typeOf smw_495 smb_S (mm_hRl (by decide) (by decide)) smd_L_law_705 rfl rfl (Nat.le_of_ble_eq_true rfl) hT (fun r1 h1 hT => ?_)
      refine mm_aload_n (n := 709) (i := 2) smd_L_law_708 rfl rfl rfl ?_
      refine mm_aload_n (n := 710) (i := 0) smd_L_law_709 rfl rfl rfl ?_
      refine mm_iload_n (n := 711) (i := 3) smd_L_law_710 rfl rfl rfl ?_
      refine mm_iconst (n := 712) (v := 1) smd_L_law_711 rfl (by decide) ?_
      refine mm_iadd (n := 713) smd_L_law_712 rfl ?_
      refine mm_sld (n := 714) hT.1 smd_L_law_713 rfl ?_
      replace hT := hT.2
      refine mm_callVI (n := 717) (As := [.int (xs (i + (1 : Int32)).toNatClampNeg)]) (rest := [.int r1]) smv_M_typeOf smw_684 smb_M (mm_hRl (by decide) (by decide)) smd_L_law_714 rfl rfl (Nat.le_of_ble_eq_true rfl) hT (fun r2 h2 hT => ?_)
      refine mm_icmp_eq (n := 720) (tgt := 781) smd_L_law_717 rfl rfl (fun hc => ?_) (fun hc => ?_)
      · replace hT := hT.1 hc
        refine mm_iinc (n := 784) (i := 3) (d := 7) (L' := [some (.ref b), some (.ref (mm_B Γ + 0)), some (.ref (mm_B Γ + 64)), some (.int (i + (7 : Int32)))]) smd_L_law_781 rfl rfl (by decide) (by decide) rfl ?_
        refine mm_goto (n := 18) smd_L_law_784 rfl ?_
        exact hT
      · replace hT := hT.2 hc
        refine mm_iconst (n := 721) (v := 0) smd_L_law_720 rfl (by decide) ?_
        exact hT.elim
    have n19 := e
    clear e
    by_cases e : z = 20
    · refine mm_tIn (tgt := 722) smd_L_law_33 20 e (by decide) (by decide) rfl rfl ?_
      replace hT := hT.2.2.2.2.2.2.2.2.2.2.2.2.2.2.2.2.2.2.2.2.1 e
      refine mm_aload_n (n := 723) (i := 1) smd_L_law_722 rfl rfl rfl ?_
      refine mm_aload_n (n := 724) (i := 0) smd_L_law_723 rfl rfl rfl ?_
      refine mm_iload_n (n := 725) (i := 3) smd_L_law_724 rfl rfl rfl ?_
      refine mm_iconst (n := 726) (v := 1) smd_L_law_725 rfl (by decide) ?_
      refine mm_iadd (n := 727) smd_L_law_726 rfl ?_
      refine mm_sld (n := 728) hT.1 smd_L_law_727 rfl ?_
      replace hT := hT.2
      refine mm_aload_n (n := 729) (i := 0) smd_L_law_728 rfl rfl rfl ?_
      refine mm_iload_n (n := 730) (i := 3) smd_L_law_729 rfl rfl rfl ?_
      refine mm_iconst (n := 731) (v := 2) smd_L_law_730 rfl (by decide) ?_
      refine mm_iadd (n := 732) smd_L_law_731 rfl ?_
      refine mm_sld (n := 733) hT.1 smd_L_law_732 rfl ?_
      replace hT := hT.2
      refine mm_callVI (n := 736) (As := [.int (xs (i + (1 : Int32)).toNatClampNeg), .int (xs (i + (2 : Int32)).toNatClampNeg)]) (rest := []) smv_S_field smw_500 smb_S (mm_hRl (by decide) (by decide)) smd_L_law_733 rfl rfl (Nat.le_of_ble_eq_true rfl) hT (fun r1 h1 hT => ?_)
      refine mm_aload_n (n := 737) (i := 2) smd_L_law_736 rfl rfl rfl ?_
      refine mm_aload_n (n := 738) (i := 0) smd_L_law_737 rfl rfl rfl ?_
      refine mm_iload_n (n := 739) (i := 3) smd_L_law_738 rfl rfl rfl ?_
      refine mm_iconst (n := 740) (v := 1) smd_L_law_739 rfl (by decide) ?_
      refine mm_iadd (n := 741) smd_L_law_740 rfl ?_
      refine mm_sld (n := 742) hT.1 smd_L_law_741 rfl ?_
      replace hT := hT.2
      refine mm_aload_n (n := 743) (i := 0) smd_L_law_742 rfl rfl rfl ?_
      refine mm_iload_n (n := 744) (i := 3) smd_L_law_743 rfl rfl rfl ?_
      refine mm_iconst (n := 745) (v := 2) smd_L_law_744 rfl (by decide) ?_
      refine mm_iadd (n := 746) smd_L_law_745 rfl ?_
      refine mm_sld (n := 747) hT.1 smd_L_law_746 rfl ?_
      replace hT := hT.2
      refine mm_callVI (n := 750) (As := [.int (xs (i + (1 : Int32)).toNatClampNeg), .int (xs (i + (2 : Int32)).toNatClampNeg)]) (rest := [.int r1]) smv_M_field smw_688 smb_M (mm_hRl (by decide) (by decide)) smd_L_law_747 rfl rfl (Nat.le_of_ble_eq_true rfl) hT (fun r2 h2 hT => ?_)
      refine mm_icmp_eq (n := 753) (tgt := 781) smd_L_law_750 rfl rfl (fun hc => ?_) (fun hc => ?_)
      · replace hT := hT.1 hc
        refine mm_iinc (n := 784) (i := 3) (d := 7) (L' := [some (.ref b), some (.ref (mm_B Γ + 0)), some (.ref (mm_B Γ + 64)), some (.int (i + (7 : Int32)))]) smd_L_law_781 rfl rfl (by decide) (by decide) rfl ?_
        refine mm_goto (n := 18) smd_L_law_784 rfl ?_
        exact hT
      · replace hT := hT.2 hc
        refine mm_iconst (n := 754) (v := 0) smd_L_law_753 rfl (by decide) ?_
        exact hT.elim
    have n20 := e
    clear e
    by_cases e : z = 21
    · refine mm_tIn (tgt := 755) smd_L_law_33 21 e (by decide) (by decide) rfl rfl ?_
      replace hT := hT.2.2.2.2.2.2.2.2.2.2.2.2.2.2.2.2.2.2.2.2.2.1 e
      refine mm_aload_n (n := 756) (i := 1) smd_L_law_755 rfl rfl rfl ?_
      refine mm_callVI (n := 759) (As := []) (rest := []) smv_S_heap smw_504 smb_S (mm_hRl (by decide) (by decide)) smd_L_law_756 rfl rfl (Nat.le_of_ble_eq_true rfl) hT (fun r1 h1 hT => ?_)
      refine mm_aload_n (n := 760) (i := 2) smd_L_law_759 rfl rfl rfl ?_
      refine mm_callVI (n := 763) (As := []) (rest := [.int r1]) smv_M_heap smw_692 smb_M (mm_hRl (by decide) (by decide)) smd_L_law_760 rfl rfl (Nat.le_of_ble_eq_true rfl) hT (fun r2 h2 hT => ?_)
      refine mm_icmp_eq (n := 766) (tgt := 781) smd_L_law_763 rfl rfl (fun hc => ?_) (fun hc => ?_)
      · replace hT := hT.1 hc
        refine mm_iinc (n := 784) (i := 3) (d := 7) (L' := [some (.ref b), some (.ref (mm_B Γ + 0)), some (.ref (mm_B Γ + 64)), some (.int (i + (7 : Int32)))]) smd_L_law_781 rfl rfl (by decide) (by decide) rfl ?_
        refine mm_goto (n := 18) smd_L_law_784 rfl ?_
        exact hT
      · replace hT := hT.2 hc
        refine mm_iconst (n := 767) (v := 0) smd_L_law_766 rfl (by decide) ?_
        exact hT.elim
    have n21 := e
    clear e
    by_cases e : z = 22
    · refine mm_tIn (tgt := 768) smd_L_law_33 22 e (by decide) (by decide) rfl rfl ?_
      replace hT := hT.2.2.2.2.2.2.2.2.2.2.2.2.2.2.2.2.2.2.2.2.2.2.1 e
      refine mm_aload_n (n := 769) (i := 1) smd_L_law_768 rfl rfl rfl ?_
      refine mm_callVI (n := 772) (As := []) (rest := []) smv_S_collect smw_512 smb_S (mm_hRl (by decide) (by decide)) smd_L_law_769 rfl rfl (Nat.le_of_ble_eq_true rfl) hT (fun r1 h1 hT => ?_)
      refine mm_aload_n (n := 773) (i := 2) smd_L_law_772 rfl rfl rfl ?_
      refine mm_callVI (n := 776) (As := []) (rest := [.int r1]) smv_M_collect smw_664 smb_M (mm_hRl (by decide) (by decide)) smd_L_law_773 rfl rfl (Nat.le_of_ble_eq_true rfl) hT (fun r2 h2 hT => ?_)
      refine mm_icmp_eq (n := 779) (tgt := 781) smd_L_law_776 rfl rfl (fun hc => ?_) (fun hc => ?_)
      · replace hT := hT.1 hc
        refine mm_iinc (n := 784) (i := 3) (d := 7) (L' := [some (.ref b), some (.ref (mm_B Γ + 0)), some (.ref (mm_B Γ + 64)), some (.int (i + (7 : Int32)))]) smd_L_law_781 rfl rfl (by decide) (by decide) rfl ?_
        refine mm_goto (n := 18) smd_L_law_784 rfl ?_
        exact hT
      · replace hT := hT.2 hc
        refine mm_iconst (n := 780) (v := 0) smd_L_law_779 rfl (by decide) ?_
        exact hT.elim
    have n22 := e
    clear e
    refine mm_tOut (tgt := 781) smd_L_law_33 (by have m0 := lv_neT n0 (show (0 : Int32).toInt = 0 by decide); have m1 := lv_neT n1 (show (1 : Int32).toInt = 1 by decide); have m2 := lv_neT n2 (show (2 : Int32).toInt = 2 by decide); have m3 := lv_neT n3 (show (3 : Int32).toInt = 3 by decide); have m4 := lv_neT n4 (show (4 : Int32).toInt = 4 by decide); have m5 := lv_neT n5 (show (5 : Int32).toInt = 5 by decide); have m6 := lv_neT n6 (show (6 : Int32).toInt = 6 by decide); have m7 := lv_neT n7 (show (7 : Int32).toInt = 7 by decide); have m8 := lv_neT n8 (show (8 : Int32).toInt = 8 by decide); have m9 := lv_neT n9 (show (9 : Int32).toInt = 9 by decide); have m10 := lv_neT n10 (show (10 : Int32).toInt = 10 by decide); have m11 := lv_neT n11 (show (11 : Int32).toInt = 11 by decide); have m12 := lv_neT n12 (show (12 : Int32).toInt = 12 by decide); have m13 := lv_neT n13 (show (13 : Int32).toInt = 13 by decide); have m14 := lv_neT n14 (show (14 : Int32).toInt = 14 by decide); have m15 := lv_neT n15 (show (15 : Int32).toInt = 15 by decide); have m16 := lv_neT n16 (show (16 : Int32).toInt = 16 by decide); have m17 := lv_neT n17 (show (17 : Int32).toInt = 17 by decide); have m18 := lv_neT n18 (show (18 : Int32).toInt = 18 by decide); have m19 := lv_neT n19 (show (19 : Int32).toInt = 19 by decide); have m20 := lv_neT n20 (show (20 : Int32).toInt = 20 by decide); have m21 := lv_neT n21 (show (21 : Int32).toInt = 21 by decide); have m22 := lv_neT n22 (show (22 : Int32).toInt = 22 by decide); omega) rfl ?_
    replace hT := hT.2.2.2.2.2.2.2.2.2.2.2.2.2.2.2.2.2.2.2.2.2.2.2
    refine mm_iinc (n := 784) (i := 3) (d := 7) (L' := [some (.ref b), some (.ref (mm_B Γ + 0)), some (.ref (mm_B Γ + 64)), some (.int (i + (7 : Int32)))]) smd_L_law_781 rfl rfl (by decide) (by decide) rfl ?_
    refine mm_goto (n := 18) smd_L_law_784 rfl ?_
    exact hT
