section MR
variable {Γ : mm_Ctx} {M : mm_MD} {E : mm_E} {pc n : Nat} {L L' : List (Option Value)} {st : List Value} {h : mm_Mem}
theorem mm_iconst {z : Int} {v : Int32} (hd : decode M.2.1 pc = .ok (.iconst z, 1)) (hn : pc + 1 = n) (hv : Int32.ofInt z = v) (k : mm_WG Γ M E n L (.int v :: st) h) : mm_WG Γ M E pc L (st) h := by
  subst hn
  intro p e s m args below meth c F X H locs ls hP hS hL
  exact lv_iconst F.1 F.2.1 hd hv (k p e s m args below meth c F X H locs ls hP hS hL)
theorem mm_bipush {z : Int} {v : Int32} (hd : decode M.2.1 pc = .ok (.bipush z, 2)) (hn : pc + 2 = n) (hv : (Int8.ofInt z).toInt32 = v) (k : mm_WG Γ M E n L (.int v :: st) h) : mm_WG Γ M E pc L (st) h := by
  subst hn
  intro p e s m args below meth c F X H locs ls hP hS hL
  exact lv_bipush F.1 F.2.1 hd hv (k p e s m args below meth c F X H locs ls hP hS hL)
theorem mm_sipush {z : Int} {v : Int32} (hd : decode M.2.1 pc = .ok (.sipush z, 3)) (hn : pc + 3 = n) (hv : (Int16.ofInt z).toInt32 = v) (k : mm_WG Γ M E n L (.int v :: st) h) : mm_WG Γ M E pc L (st) h := by
  subst hn
  intro p e s m args below meth c F X H locs ls hP hS hL
  exact lv_sipush F.1 F.2.1 hd hv (k p e s m args below meth c F X H locs ls hP hS hL)
theorem mm_iload_n {k0 : Fin 4} {i : Nat} {x : Int32} (hd : decode M.2.1 pc = .ok (.iload_n k0, 1)) (hn : pc + 1 = n) (hi : (k0 : Nat) = i) (hl : L[i]? = some (some (.int x))) (k : mm_WG Γ M E n L (.int x :: st) h) : mm_WG Γ M E pc L (st) h := by
  subst hn
  intro p e s m args below meth c F X H locs ls hP hS hL
  exact lv_iload_n F.1 F.2.1 hd hi (mm_L_at hL hl) (k p e s m args below meth c F X H locs ls hP hS hL)
theorem mm_aload_n {k0 : Fin 4} {i : Nat} {x : Nat} (hd : decode M.2.1 pc = .ok (.aload_n k0, 1)) (hn : pc + 1 = n) (hi : (k0 : Nat) = i) (hl : L[i]? = some (some (.ref x))) (k : mm_WG Γ M E n L (.ref x :: st) h) : mm_WG Γ M E pc L (st) h := by
  subst hn
  intro p e s m args below meth c F X H locs ls hP hS hL
  exact lv_aload_n F.1 F.2.1 hd hi (mm_L_at hL hl) (k p e s m args below meth c F X H locs ls hP hS hL)
theorem mm_iload {i : Nat} {x : Int32} (hd : decode M.2.1 pc = .ok (.iload i, 2)) (hn : pc + 2 = n) (hl : L[i]? = some (some (.int x))) (k : mm_WG Γ M E n L (.int x :: st) h) : mm_WG Γ M E pc L (st) h := by
  subst hn
  intro p e s m args below meth c F X H locs ls hP hS hL
  exact lv_iload F.1 F.2.1 hd (mm_L_at hL hl) (k p e s m args below meth c F X H locs ls hP hS hL)
theorem mm_aload {i : Nat} {x : Nat} (hd : decode M.2.1 pc = .ok (.aload i, 2)) (hn : pc + 2 = n) (hl : L[i]? = some (some (.ref x))) (k : mm_WG Γ M E n L (.ref x :: st) h) : mm_WG Γ M E pc L (st) h := by
  subst hn
  intro p e s m args below meth c F X H locs ls hP hS hL
  exact lv_aload F.1 F.2.1 hd (mm_L_at hL hl) (k p e s m args below meth c F X H locs ls hP hS hL)
theorem mm_istore_n {k0 : Fin 4} {i : Nat} {x : Int32} (hd : decode M.2.1 pc = .ok (.istore_n k0, 1)) (hn : pc + 1 = n) (hi : (k0 : Nat) = i) (hm : i < M.2.2.1) (hs : L.set i (some (.int x)) = L') (k : mm_WG Γ M E n L' st h) : mm_WG Γ M E pc L (.int x :: st) h := by
  subst hn
  subst hs
  intro p e s m args below meth c F X H locs ls hP hS hL
  exact lv_istore_n F.1 F.2.1 hd hi hL.1 hm rfl (fun ls' h' => k p e s m args below meth c F X H locs ls' hP hS (mm_L_set hL rfl h'))
theorem mm_astore_n {k0 : Fin 4} {i : Nat} {x : Nat} (hd : decode M.2.1 pc = .ok (.astore_n k0, 1)) (hn : pc + 1 = n) (hi : (k0 : Nat) = i) (hm : i < M.2.2.1) (hs : L.set i (some (.ref x)) = L') (k : mm_WG Γ M E n L' st h) : mm_WG Γ M E pc L (.ref x :: st) h := by
  subst hn
  subst hs
  intro p e s m args below meth c F X H locs ls hP hS hL
  exact lv_astore_n F.1 F.2.1 hd hi hL.1 hm rfl (fun ls' h' => k p e s m args below meth c F X H locs ls' hP hS (mm_L_set hL rfl h'))
theorem mm_istore {i : Nat} {x : Int32} (hd : decode M.2.1 pc = .ok (.istore i, 2)) (hn : pc + 2 = n) (hm : i < M.2.2.1) (hs : L.set i (some (.int x)) = L') (k : mm_WG Γ M E n L' st h) : mm_WG Γ M E pc L (.int x :: st) h := by
  subst hn
  subst hs
  intro p e s m args below meth c F X H locs ls hP hS hL
  exact lv_istore F.1 F.2.1 hd hL.1 hm rfl (fun ls' h' => k p e s m args below meth c F X H locs ls' hP hS (mm_L_set hL rfl h'))
theorem mm_astore {i : Nat} {x : Nat} (hd : decode M.2.1 pc = .ok (.astore i, 2)) (hn : pc + 2 = n) (hm : i < M.2.2.1) (hs : L.set i (some (.ref x)) = L') (k : mm_WG Γ M E n L' st h) : mm_WG Γ M E pc L (.ref x :: st) h := by
  subst hn
  subst hs
  intro p e s m args below meth c F X H locs ls hP hS hL
  exact lv_astore F.1 F.2.1 hd hL.1 hm rfl (fun ls' h' => k p e s m args below meth c F X H locs ls' hP hS (mm_L_set hL rfl h'))
theorem mm_iinc {i : Nat} {z : Int} {x d : Int32} (hd : decode M.2.1 pc = .ok (.iinc i z, 3)) (hn : pc + 3 = n) (hl : L[i]? = some (some (.int x))) (hv : Int32.ofInt z = d) (hm : i < M.2.2.1) (hs : L.set i (some (.int (x + d))) = L') (k : mm_WG Γ M E n L' st h) : mm_WG Γ M E pc L st h := by
  subst hn
  subst hs
  subst hv
  intro p e s m args below meth c F X H locs ls hP hS hL
  obtain ⟨j, hj⟩ := List.getElem?_of_mem ((mm_kn_mem L 0 i (.int x)).mpr ⟨i, by omega, hl⟩)
  exact lv_iinc F.1 F.2.1 hd hL.1 hj rfl hm rfl (fun ls' h' => k p e s m args below meth c F X H locs ls' hP hS (mm_L_set hL rfl h'))
theorem mm_iadd {a b : Int32} (hd : decode M.2.1 pc = .ok (.iadd, 1)) (hn : pc + 1 = n) (k : mm_WG Γ M E n L (.int (a + b) :: st) h) : mm_WG Γ M E pc L (.int b :: .int a :: st) h := by
  subst hn
  intro p e s m args below meth c F X H locs ls hP hS hL
  exact lv_iadd F.1 F.2.1 hd (k p e s m args below meth c F X H locs ls hP hS hL)
theorem mm_isub {a b : Int32} (hd : decode M.2.1 pc = .ok (.isub, 1)) (hn : pc + 1 = n) (k : mm_WG Γ M E n L (.int (a - b) :: st) h) : mm_WG Γ M E pc L (.int b :: .int a :: st) h := by
  subst hn
  intro p e s m args below meth c F X H locs ls hP hS hL
  exact lv_isub F.1 F.2.1 hd (k p e s m args below meth c F X H locs ls hP hS hL)
theorem mm_imul {a b : Int32} (hd : decode M.2.1 pc = .ok (.imul, 1)) (hn : pc + 1 = n) (k : mm_WG Γ M E n L (.int (a * b) :: st) h) : mm_WG Γ M E pc L (.int b :: .int a :: st) h := by
  subst hn
  intro p e s m args below meth c F X H locs ls hP hS hL
  exact lv_imul F.1 F.2.1 hd (k p e s m args below meth c F X H locs ls hP hS hL)
theorem mm_iand {a b : Int32} (hd : decode M.2.1 pc = .ok (.iand, 1)) (hn : pc + 1 = n) (k : mm_WG Γ M E n L (.int (a &&& b) :: st) h) : mm_WG Γ M E pc L (.int b :: .int a :: st) h := by
  subst hn
  intro p e s m args below meth c F X H locs ls hP hS hL
  exact lv_iand F.1 F.2.1 hd (k p e s m args below meth c F X H locs ls hP hS hL)
theorem mm_idiv {a b : Int32} (hd : decode M.2.1 pc = .ok (.idiv, 1)) (hn : pc + 1 = n) (hb : ¬ b = 0) (k : mm_WG Γ M E n L (.int (a / b) :: st) h) : mm_WG Γ M E pc L (.int b :: .int a :: st) h := by
  subst hn
  intro p e s m args below meth c F X H locs ls hP hS hL
  exact lv_idiv F.1 F.2.1 hd hb (k p e s m args below meth c F X H locs ls hP hS hL)
theorem mm_irem {a b : Int32} (hd : decode M.2.1 pc = .ok (.irem, 1)) (hn : pc + 1 = n) (hb : ¬ b = 0) (k : mm_WG Γ M E n L (.int (a - a / b * b) :: st) h) : mm_WG Γ M E pc L (.int b :: .int a :: st) h := by
  subst hn
  intro p e s m args below meth c F X H locs ls hP hS hL
  exact lv_irem F.1 F.2.1 hd hb (k p e s m args below meth c F X H locs ls hP hS hL)
theorem mm_dup {v : Value} (hd : decode M.2.1 pc = .ok (.dup, 1)) (hn : pc + 1 = n) (hv : v.category = 1) (k : mm_WG Γ M E n L (v :: v :: st) h) : mm_WG Γ M E pc L (v :: st) h := by
  subst hn
  intro p e s m args below meth c F X H locs ls hP hS hL
  exact lv_dup F.1 F.2.1 hd hv (k p e s m args below meth c F X H locs ls hP hS hL)
theorem mm_pop {v : Value} (hd : decode M.2.1 pc = .ok (.pop, 1)) (hn : pc + 1 = n) (hv : v.category = 1) (k : mm_WG Γ M E n L (st) h) : mm_WG Γ M E pc L (v :: st) h := by
  subst hn
  intro p e s m args below meth c F X H locs ls hP hS hL
  exact lv_pop F.1 F.2.1 hd hv (k p e s m args below meth c F X H locs ls hP hS hL)
theorem mm_dup2 {v u : Value} (hd : decode M.2.1 pc = .ok (.dup2, 1)) (hn : pc + 1 = n) (hv : v.category = 1) (hu : u.category = 1) (k : mm_WG Γ M E n L (v :: u :: v :: u :: st) h) : mm_WG Γ M E pc L (v :: u :: st) h := by
  subst hn
  intro p e s m args below meth c F X H locs ls hP hS hL
  exact lv_dup2_11 F.1 F.2.1 hd hv hu (k p e s m args below meth c F X H locs ls hP hS hL)
theorem mm_if_eq {x : Int32} {off : Int} {tgt : Nat} (hd : decode M.2.1 pc = .ok (.ifCond .eq off, 3)) (hn : pc + 3 = n) (ht : (pc : Int) + off = (tgt : Int)) (kt : x = 0 → mm_WG Γ M E tgt L st h) (kf : ¬ x = 0 → mm_WG Γ M E n L st h) : mm_WG Γ M E pc L (.int x :: st) h := by
  subst hn
  intro p e s m args below meth c F X H locs ls hP hS hL
  exact lv_if_eq F.1 F.2.1 hd ht (fun q => kt q p e s m args below meth c F X H locs ls hP hS hL) (fun q => kf q p e s m args below meth c F X H locs ls hP hS hL)
theorem mm_if_ne {x : Int32} {off : Int} {tgt : Nat} (hd : decode M.2.1 pc = .ok (.ifCond .ne off, 3)) (hn : pc + 3 = n) (ht : (pc : Int) + off = (tgt : Int)) (kt : ¬ x = 0 → mm_WG Γ M E tgt L st h) (kf : x = 0 → mm_WG Γ M E n L st h) : mm_WG Γ M E pc L (.int x :: st) h := by
  subst hn
  intro p e s m args below meth c F X H locs ls hP hS hL
  exact lv_if_ne F.1 F.2.1 hd ht (fun q => kt q p e s m args below meth c F X H locs ls hP hS hL) (fun q => kf q p e s m args below meth c F X H locs ls hP hS hL)
theorem mm_if_lt {x : Int32} {off : Int} {tgt : Nat} (hd : decode M.2.1 pc = .ok (.ifCond .lt off, 3)) (hn : pc + 3 = n) (ht : (pc : Int) + off = (tgt : Int)) (kt : x < 0 → mm_WG Γ M E tgt L st h) (kf : ¬ x < 0 → mm_WG Γ M E n L st h) : mm_WG Γ M E pc L (.int x :: st) h := by
  subst hn
  intro p e s m args below meth c F X H locs ls hP hS hL
  exact lv_if_lt F.1 F.2.1 hd ht (fun q => kt q p e s m args below meth c F X H locs ls hP hS hL) (fun q => kf q p e s m args below meth c F X H locs ls hP hS hL)
theorem mm_if_ge {x : Int32} {off : Int} {tgt : Nat} (hd : decode M.2.1 pc = .ok (.ifCond .ge off, 3)) (hn : pc + 3 = n) (ht : (pc : Int) + off = (tgt : Int)) (kt : 0 ≤ x → mm_WG Γ M E tgt L st h) (kf : ¬ 0 ≤ x → mm_WG Γ M E n L st h) : mm_WG Γ M E pc L (.int x :: st) h := by
  subst hn
  intro p e s m args below meth c F X H locs ls hP hS hL
  exact lv_if_ge F.1 F.2.1 hd ht (fun q => kt q p e s m args below meth c F X H locs ls hP hS hL) (fun q => kf q p e s m args below meth c F X H locs ls hP hS hL)
theorem mm_if_gt {x : Int32} {off : Int} {tgt : Nat} (hd : decode M.2.1 pc = .ok (.ifCond .gt off, 3)) (hn : pc + 3 = n) (ht : (pc : Int) + off = (tgt : Int)) (kt : 0 < x → mm_WG Γ M E tgt L st h) (kf : ¬ 0 < x → mm_WG Γ M E n L st h) : mm_WG Γ M E pc L (.int x :: st) h := by
  subst hn
  intro p e s m args below meth c F X H locs ls hP hS hL
  exact lv_if_gt F.1 F.2.1 hd ht (fun q => kt q p e s m args below meth c F X H locs ls hP hS hL) (fun q => kf q p e s m args below meth c F X H locs ls hP hS hL)
theorem mm_if_le {x : Int32} {off : Int} {tgt : Nat} (hd : decode M.2.1 pc = .ok (.ifCond .le off, 3)) (hn : pc + 3 = n) (ht : (pc : Int) + off = (tgt : Int)) (kt : x ≤ 0 → mm_WG Γ M E tgt L st h) (kf : ¬ x ≤ 0 → mm_WG Γ M E n L st h) : mm_WG Γ M E pc L (.int x :: st) h := by
  subst hn
  intro p e s m args below meth c F X H locs ls hP hS hL
  exact lv_if_le F.1 F.2.1 hd ht (fun q => kt q p e s m args below meth c F X H locs ls hP hS hL) (fun q => kf q p e s m args below meth c F X H locs ls hP hS hL)
theorem mm_icmp_eq {x y : Int32} {off : Int} {tgt : Nat} (hd : decode M.2.1 pc = .ok (.if_icmp .eq off, 3)) (hn : pc + 3 = n) (ht : (pc : Int) + off = (tgt : Int)) (kt : x = y → mm_WG Γ M E tgt L st h) (kf : ¬ x = y → mm_WG Γ M E n L st h) : mm_WG Γ M E pc L (.int y :: .int x :: st) h := by
  subst hn
  intro p e s m args below meth c F X H locs ls hP hS hL
  exact lv_icmp_eq F.1 F.2.1 hd ht (fun q => kt q p e s m args below meth c F X H locs ls hP hS hL) (fun q => kf q p e s m args below meth c F X H locs ls hP hS hL)
theorem mm_icmp_ne {x y : Int32} {off : Int} {tgt : Nat} (hd : decode M.2.1 pc = .ok (.if_icmp .ne off, 3)) (hn : pc + 3 = n) (ht : (pc : Int) + off = (tgt : Int)) (kt : ¬ x = y → mm_WG Γ M E tgt L st h) (kf : x = y → mm_WG Γ M E n L st h) : mm_WG Γ M E pc L (.int y :: .int x :: st) h := by
  subst hn
  intro p e s m args below meth c F X H locs ls hP hS hL
  exact lv_icmp_ne F.1 F.2.1 hd ht (fun q => kt q p e s m args below meth c F X H locs ls hP hS hL) (fun q => kf q p e s m args below meth c F X H locs ls hP hS hL)
theorem mm_icmp_lt {x y : Int32} {off : Int} {tgt : Nat} (hd : decode M.2.1 pc = .ok (.if_icmp .lt off, 3)) (hn : pc + 3 = n) (ht : (pc : Int) + off = (tgt : Int)) (kt : x < y → mm_WG Γ M E tgt L st h) (kf : ¬ x < y → mm_WG Γ M E n L st h) : mm_WG Γ M E pc L (.int y :: .int x :: st) h := by
  subst hn
  intro p e s m args below meth c F X H locs ls hP hS hL
  exact lv_icmp_lt F.1 F.2.1 hd ht (fun q => kt q p e s m args below meth c F X H locs ls hP hS hL) (fun q => kf q p e s m args below meth c F X H locs ls hP hS hL)
theorem mm_icmp_ge {x y : Int32} {off : Int} {tgt : Nat} (hd : decode M.2.1 pc = .ok (.if_icmp .ge off, 3)) (hn : pc + 3 = n) (ht : (pc : Int) + off = (tgt : Int)) (kt : y ≤ x → mm_WG Γ M E tgt L st h) (kf : ¬ y ≤ x → mm_WG Γ M E n L st h) : mm_WG Γ M E pc L (.int y :: .int x :: st) h := by
  subst hn
  intro p e s m args below meth c F X H locs ls hP hS hL
  exact lv_icmp_ge F.1 F.2.1 hd ht (fun q => kt q p e s m args below meth c F X H locs ls hP hS hL) (fun q => kf q p e s m args below meth c F X H locs ls hP hS hL)
theorem mm_icmp_gt {x y : Int32} {off : Int} {tgt : Nat} (hd : decode M.2.1 pc = .ok (.if_icmp .gt off, 3)) (hn : pc + 3 = n) (ht : (pc : Int) + off = (tgt : Int)) (kt : y < x → mm_WG Γ M E tgt L st h) (kf : ¬ y < x → mm_WG Γ M E n L st h) : mm_WG Γ M E pc L (.int y :: .int x :: st) h := by
  subst hn
  intro p e s m args below meth c F X H locs ls hP hS hL
  exact lv_icmp_gt F.1 F.2.1 hd ht (fun q => kt q p e s m args below meth c F X H locs ls hP hS hL) (fun q => kf q p e s m args below meth c F X H locs ls hP hS hL)
theorem mm_icmp_le {x y : Int32} {off : Int} {tgt : Nat} (hd : decode M.2.1 pc = .ok (.if_icmp .le off, 3)) (hn : pc + 3 = n) (ht : (pc : Int) + off = (tgt : Int)) (kt : x ≤ y → mm_WG Γ M E tgt L st h) (kf : ¬ x ≤ y → mm_WG Γ M E n L st h) : mm_WG Γ M E pc L (.int y :: .int x :: st) h := by
  subst hn
  intro p e s m args below meth c F X H locs ls hP hS hL
  exact lv_icmp_le F.1 F.2.1 hd ht (fun q => kt q p e s m args below meth c F X H locs ls hP hS hL) (fun q => kf q p e s m args below meth c F X H locs ls hP hS hL)
theorem mm_goto {off : Int} (hd : decode M.2.1 pc = .ok (.goto off, 3)) (ht : (pc : Int) + off = (n : Int)) (k : mm_WG Γ M E n L st h) : mm_WG Γ M E pc L st h := by
  intro p e s m args below meth c F X H locs ls hP hS hL
  exact lv_goto F.1 F.2.1 hd ht (k p e s m args below meth c F X H locs ls hP hS hL)
theorem mm_tIn {dflt lo hi : Int} {offs : Array Int} {len : Nat} {x : Int32} {off : Int} {tgt : Nat} (hd : decode M.2.1 pc = .ok (.tableswitch dflt lo hi offs, len)) (v : Int32) (hx : x = v) (h1 : ¬ v.toInt < lo) (h2 : ¬ hi < v.toInt) (ho : offs[(v.toInt - lo).toNat]? = some off) (ht : (pc : Int) + off = (tgt : Int)) (k : mm_WG Γ M E tgt L st h) : mm_WG Γ M E pc L (.int x :: st) h := by
  subst hx
  intro p e s m args below meth c F X H locs ls hP hS hL
  exact lv_tableIn F.1 F.2.1 hd h1 h2 ho ht (k p e s m args below meth c F X H locs ls hP hS hL)
theorem mm_tOut {dflt lo hi : Int} {offs : Array Int} {len : Nat} {x : Int32} {tgt : Nat} (hd : decode M.2.1 pc = .ok (.tableswitch dflt lo hi offs, len)) (h1 : x.toInt < lo ∨ hi < x.toInt) (ht : (pc : Int) + dflt = (tgt : Int)) (k : mm_WG Γ M E tgt L st h) : mm_WG Γ M E pc L (.int x :: st) h := by
  intro p e s m args below meth c F X H locs ls hP hS hL
  exact lv_tableOut F.1 F.2.1 hd h1 ht (k p e s m args below meth c F X H locs ls hP hS hL)
theorem mm_lsw {dflt : Int} {ps : Array (Int × Int)} {len : Nat} {x : Int32} {off : Int} {tgt : Nat} (hd : decode M.2.1 pc = .ok (.lookupswitch dflt ps, len)) (hp : (ps.toList.zip (ps.toList.drop 1)).all (fun (a, next) => a.1 < next.1) = true) (ho : Op.lookupswitch.offset ps.toList dflt x.toInt = off) (ht : (pc : Int) + off = (tgt : Int)) (k : mm_WG Γ M E tgt L st h) : mm_WG Γ M E pc L (.int x :: st) h := by
  intro p e s m args below meth c F X H locs ls hP hS hL
  exact lv_lookup F.1 F.2.1 hd hp ho ht (k p e s m args below meth c F X H locs ls hP hS hL)
theorem mm_top {x : Int32} (k : ∀ y : Int32, y = x → mm_WG Γ M E pc L (.int y :: st) h) : mm_WG Γ M E pc L (.int x :: st) h := k x rfl
theorem mm_weak (hl : mm_le L' L) (k : mm_WG Γ M E pc L' st h) : mm_WG Γ M E pc L st h := by
  intro p e s m args below meth c F X H locs ls hP hS hL
  exact k p e s m args below meth c F X H locs ls hP hS (mm_L_sub hL (mm_le_at _ _ hl))
theorem mm_nam (k : ∀ h' : mm_Mem, h' = h → mm_WG Γ M E pc L st h') : mm_WG Γ M E pc L st h := k h rfl
theorem mm_iald {q nn : Nat} {i : Int32} (ha : mm_ai Γ q nn) (hin : vp_in i nn) (hd : decode M.2.1 pc = .ok (.iaload, 1)) (hn : pc + 1 = n) (k : mm_WG Γ M E n L (.int (h q i.toNatClampNeg) :: st) h) : mm_WG Γ M E pc L (.int i :: .ref (mm_B Γ + q) :: st) h := by
  subst hn
  intro p e s m args below meth c F X H locs ls hP hS hL
  exact va_iald F.1 F.2.1 F.2.2.2.2.2.2.2.1 hP q 0 (by rw [mm_ws_at ha.1, ha.2]) rfl hin hd (k p e s m args below meth c F X H locs ls hP hS hL)
theorem mm_zald {q nn : Nat} {i : Int32} (ha : mm_az Γ q nn) (hin : vp_in i nn) (hd : decode M.2.1 pc = .ok (.baload, 1)) (hn : pc + 1 = n) (k : mm_WG Γ M E n L (.int (h q i.toNatClampNeg) :: st) h) : mm_WG Γ M E pc L (.int i :: .ref (mm_B Γ + q) :: st) h := by
  subst hn
  intro p e s m args below meth c F X H locs ls hP hS hL
  exact va_zald F.1 F.2.1 F.2.2.2.2.2.2.2.1 hP q 1 (by rw [mm_ws_at ha.1, ha.2]) rfl hin hd (k p e s m args below meth c F X H locs ls hP hS hL)
theorem mm_iast {q nn : Nat} {i x : Int32} (ha : mm_ai Γ q nn) (hin : vp_in i nn) (hd : decode M.2.1 pc = .ok (.iastore, 1)) (hn : pc + 1 = n) (k : mm_WG Γ M E n L st (mm_wr h q i.toNatClampNeg x)) : mm_WG Γ M E pc L (.int x :: .int i :: .ref (mm_B Γ + q) :: st) h := by
  subst hn
  intro p e s m args below meth c F X H locs ls hP hS hL
  refine va_iast F.1 F.2.1 F.2.2.2.2.2.2.2.1 hP mm_DD hS q 0 (by rw [mm_ws_at ha.1, ha.2]) rfl hin hd (fun H1 locs1 hP1 hD1 hS1 => ?_)
  refine k p e s m args below meth c F X H1 locs1 ls ?_ hS1 hL
  rw [← ha.2, mm_ws_set _ ha.1] at hP1
  exact hP1
theorem mm_zast {q nn : Nat} {i x : Int32} (ha : mm_az Γ q nn) (hin : vp_in i nn) (hx : x = 0 ∨ x = 1) (hd : decode M.2.1 pc = .ok (.bastore, 1)) (hn : pc + 1 = n) (k : mm_WG Γ M E n L st (mm_wr h q i.toNatClampNeg x)) : mm_WG Γ M E pc L (.int x :: .int i :: .ref (mm_B Γ + q) :: st) h := by
  subst hn
  have hx' : vp_nar .boolean x = x := by rcases hx with rfl | rfl <;> rfl
  intro p e s m args below meth c F X H locs ls hP hS hL
  refine va_zast F.1 F.2.1 F.2.2.2.2.2.2.2.1 hP mm_DD hS q 1 (by rw [mm_ws_at ha.1, ha.2]) rfl hin hd (fun H1 locs1 hP1 hD1 hS1 => ?_)
  refine k p e s m args below meth c F X H1 locs1 ls ?_ hS1 hL
  rw [hx', ← ha.2, mm_ws_set _ ha.1] at hP1
  exact hP1
theorem mm_alen {q nn : Nat} {v : Int32} (ha : mm_ai Γ q nn) (hv : Int32.ofNat nn = v) (hd : decode M.2.1 pc = .ok (.arraylength, 1)) (hn : pc + 1 = n) (k : mm_WG Γ M E n L (.int v :: st) h) : mm_WG Γ M E pc L (.ref (mm_B Γ + q) :: st) h := by
  subst hn
  intro p e s m args below meth c F X H locs ls hP hS hL
  exact va_alen F.1 F.2.1 F.2.2.2.2.2.2.2.1 hP q 0 (by rw [mm_ws_at ha.1, ha.2]) rfl hv hd (k p e s m args below meth c F X H locs ls hP hS hL)
theorem mm_aald {i : Int32} (hin : vp_in i 6) (hd : decode M.2.1 pc = .ok (.aaload, 1)) (hn : pc + 1 = n) (k : mm_WG Γ M E n L (.ref (mm_B Γ + (28 + 6 * i.toNatClampNeg)) :: st) h) : mm_WG Γ M E pc L (.int i :: .ref (mm_B Γ + 27) :: st) h := by
  subst hn
  intro p e s m args below meth c F X H locs ls hP hS hL
  exact va_aldq F.1 F.2.1 F.2.2.2.2.2.2.2.1 hP 27 2 (f := fun i => some (mm_B Γ + (28 + 6 * i))) (n := 6) (by rw [mm_ws_at (by omega)]; rfl) rfl hin hd (k p e s m args below meth c F X H locs ls hP hS hL)
def mm_isT (t : Nat) : Prop := ∃ i, i < 6 ∧ t = 28 + 6 * i
theorem mm_taald {i : Int32} (hin : vp_in i 6) (hd : decode M.2.1 pc = .ok (.aaload, 1)) (hn : pc + 1 = n) (k : ∀ t : Nat, t = 28 + 6 * i.toNatClampNeg → mm_isT t → mm_WG Γ M E n L (.ref (mm_B Γ + t) :: st) h) : mm_WG Γ M E pc L (.int i :: .ref (mm_B Γ + 27) :: st) h :=
  mm_aald hin hd hn (k _ rfl ⟨i.toNatClampNeg, Nat.not_le.mp (fun q => hin (Or.inr q)), rfl⟩)
def mm_lk (own : String) (idx ci k : Nat) : Prop := ∃ (C : String) (T : u_T) (N : Nat), mm_cl[ci]? = some (C, T, N) ∧ (∀ w ∈ u_ws C T N, w ∈ mm_all) ∧ Cond.fieldLink own idx (T k).1 (T k).2.1 (T k).2.2.1 ∈ mm_all ∧ k < N
theorem mm_get {q ci kf idx : Nat} {Fd : (Nat → Int32) → List Value} {v : Value} (lk : mm_lk M.1.cls idx ci kf) (ho : mm_ob Γ q ci Fd) (hv : (Fd (h q))[kf]? = some v) (hd : decode M.2.1 pc = .ok (.getfield idx, 3)) (hn : pc + 3 = n) (k : mm_WG Γ M E n L (v :: st) h) : mm_WG Γ M E pc L (.ref (mm_B Γ + q) :: st) h := by
  subst hn
  obtain ⟨C, T, N, h1, h2, h3, h4⟩ := lk
  intro p e s m args below meth c F X H locs ls hP hS hL
  exact va_get (D := mm_D Γ) F.1 F.2.1 F.2.2.2.2.2.1 h2 F.2.2.2.2.1 F.2.2.2.2.2.2.2.1 hP q (by rw [mm_ws_at ho.1, ho.2]) h1 kf h4 (F.2.2.2.2.2.1 _ h3) (fun _ h9 => h9) hv hd (k p e s m args below meth c F X H locs ls hP hS hL)
def mm_lp (ci k : Nat) (ty : FieldType) : Prop := ∃ (C : String) (T : u_T) (N : Nat) (ty0 : Nat → FieldType), mm_cl[ci]? = some (C, T, N) ∧ (∀ k, k < N → parseFieldDescriptor (T k).2.2.1 = some (ty0 k)) ∧ (∀ a, a < N → ∀ b, b < N → a ≠ b → (T a).2.1 ≠ (T b).2.1) ∧ (T k).2.2.2 = false ∧ parseFieldDescriptor (T k).2.2.1 = some ty
theorem mm_put {q ci kf idx : Nat} {Fd : (Nat → Int32) → List Value} {x : Int32} {ty : FieldType} (lk : mm_lk M.1.cls idx ci kf) (lp : mm_lp ci kf ty) (ho : mm_ob Γ q ci Fd) (hF : (Fd (h q)).set kf (.int x) = Fd (upd (h q) kf x)) (hl : kf < (Fd (h q)).length) (hna : narrow ty (.int x) = .int x) (hfi : fits ty (.int x) = true) (hd : decode M.2.1 pc = .ok (.putfield idx, 3)) (hn : pc + 3 = n) (k : mm_WG Γ M E n L st (mm_wr h q kf x)) : mm_WG Γ M E pc L (.int x :: .ref (mm_B Γ + q) :: st) h := by
  subst hn
  obtain ⟨C, T, N, h1, h2, h3, h4⟩ := lk
  obtain ⟨C', T', N', ty0, g1, g2, g3, g4, g5⟩ := lp
  cases h1.symm.trans g1
  intro p e s m args below meth c F X H locs ls hP hS hL
  refine va_put (D := mm_D Γ) F.1 F.2.1 F.2.2.2.2.2.1 h2 ty0 g2 g3 F.2.2.2.2.1 F.2.2.2.2.2.2.2.1 hP mm_DD hS q (by rw [mm_ws_at ho.1, ho.2]) h1 kf h4 (F.2.2.2.2.2.1 _ h3) (fun _ h9 => h9) g4 g5 hna hfi hl hd (fun H1 locs1 hP1 hD1 hS1 => ?_)
  refine k p e s m args below meth c F X H1 locs1 ls ?_ hS1 hL
  rw [hF, ← ho.2, mm_ws_set _ ho.1] at hP1
  exact hP1
end MR
