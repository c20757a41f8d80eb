/-! the growing world: the cells that were made, in the order of their making -/
def mg_ws (B : Nat) (cs : List va_E) : va_W := cs.mapIdx (fun i e => (B + i, e))
theorem mg_at {B : Nat} {cs : List va_E} (k : Nat) : (mg_ws B cs)[k]? = cs[k]?.map (fun e => (B + k, e)) := by simp [mg_ws]
theorem mg_ws_set {B : Nat} {cs : List va_E} (q : Nat) (e : va_E) : (mg_ws B cs).set q (B + q, e) = mg_ws B (cs.set q e) := by
  apply List.ext_getElem?
  intro j
  rw [List.getElem?_set, mg_at, mg_at, List.getElem?_set]
  by_cases hj : q = j
  · subst hj
    simp [mg_ws]
  · simp [hj]
theorem mg_ws_app {B : Nat} {cs : List va_E} (e : va_E) : mg_ws B (cs ++ [e]) = mg_ws B cs ++ [(B + cs.length, e)] := by simp [mg_ws, List.mapIdx_append]
def mg_A (Γ : mm_Ctx) : Nat → Prop := fun q => mm_B Γ ≤ q
theorem mg_DD {Γ : mm_Ctx} {cs : List va_E} : va_D (mg_A Γ) (mg_ws (mm_B Γ) cs) := by
  have key : ∀ (k : Nat) (q : Nat × va_E), (mg_ws (mm_B Γ) cs)[k]? = some q → q.1 = mm_B Γ + k := by
    intro k q hk
    rw [mg_at] at hk
    cases hc : cs[k]? with
    | none => rw [hc] at hk; cases hk
    | some e => rw [hc] at hk; cases hk; rfl
  refine ⟨fun i j p q hi hj e => ?_, fun k q hk => ?_⟩
  · have h1 := key i p hi
    have h2 := key j q hj
    omega
  · show mm_B Γ ≤ q.1
    rw [key k q hk]
    exact Nat.le_add_right _ _
def mg_PW (Γ : mm_Ctx) (cs : List va_E) (H : Heap) : Prop := va_P (mm_D Γ) mm_cl (mg_ws (mm_B Γ) cs) H ∧ H.size = mm_B Γ + cs.length
abbrev mg_E : Type := Room × (Array Value → State → Prop) × (List Frame → Array Value → State → State → Prop)
def mg_W (Γ : mm_Ctx) (M : mm_MD) (E : mg_E) (kc ks : Nat) (pc : Nat) (L : List (Option Value)) (st : List Value) (cs : List va_E) : Prop :=
  ∀ (p : Program) (e : Env) (s : State) (m : MethodId) (args : Array Value) (below : List Frame) (meth : Method) (c : Code), mm_Fx Γ M p s m args meth c → (M.1.name = "<init>" → meth.name = "<init>") ∧ E.2.1 args s →
    ∀ (H : Heap) (locs : List Loc) (ls : Array Slot), mg_PW Γ cs H → va_S (mg_A Γ) s.heap H locs ∧ mm_B Γ ≤ s.heap.size → mm_L ls M.2.2.1 L →
      W p Γ.1 e E.1 s m args below meth c H locs kc ks (E.2.2 below args s) (F0 m pc ls st)
def mg_Q (Γ : mm_Ctx) (cs : List va_E) : Array Value → State → Outcome → State → Prop := fun _ st oc t => oc = .returned none ∧ mg_PW Γ cs t.heap ∧ va_F (mg_A Γ) st t
def mg_rm (M : mm_MD) (mc ms : Nat) : Room := { frames := M.2.2.2.2, cells := mc, slots := ms, locals := 36 * M.2.2.2.2 }
abbrev mg_Em (Γ : mm_Ctx) (M : mm_MD) (cs : List va_E) (mc ms : Nat) : mg_E := (mg_rm M mc ms, (fun _ _ => True), (fun below args s => MQ below (mg_Q Γ cs) args s mc ms (mg_A Γ)))
def mg_S (Γ : mm_Ctx) (M : mm_MD) (q : Nat) (cs cs' : List va_E) (mc ms : Nat) : Prop :=
  Met Γ.1 M.1 (mm_wsM M) (mg_rm M mc ms) (va_Pc [.ref (mm_B Γ + q)] (fun U => mg_PW Γ cs U.heap ∧ mm_KW Γ U)) (mg_Q Γ cs') mc ms (mg_A Γ)
section GR
variable {Γ : mm_Ctx} {M M' : mm_MD} {E : mg_E} {kc ks pc n : Nat} {L L' : List (Option Value)} {st rest : List Value} {cs cs' : List va_E}
theorem mg_iconst {z : Int} {v : Int32} (hd : decode M.2.1 pc = .ok (.iconst z, 1)) (hn : pc + 1 = n) (hv : Int32.ofInt z = v) (k : mg_W Γ M E kc ks n L (.int v :: st) cs) : mg_W Γ M E kc ks pc L (st) cs := by
  subst hn
  intro p e s m args below meth c F X H locs ls hP hS hL
  exact lv_iconst F.1 F.2.1 hd hv (k p e s m args below meth c F X H locs ls hP hS hL)
theorem mg_bipush {z : Int} {v : Int32} (hd : decode M.2.1 pc = .ok (.bipush z, 2)) (hn : pc + 2 = n) (hv : (Int8.ofInt z).toInt32 = v) (k : mg_W Γ M E kc ks n L (.int v :: st) cs) : mg_W Γ M E kc ks pc L (st) cs := by
  subst hn
  intro p e s m args below meth c F X H locs ls hP hS hL
  exact lv_bipush F.1 F.2.1 hd hv (k p e s m args below meth c F X H locs ls hP hS hL)
theorem mg_sipush {z : Int} {v : Int32} (hd : decode M.2.1 pc = .ok (.sipush z, 3)) (hn : pc + 3 = n) (hv : (Int16.ofInt z).toInt32 = v) (k : mg_W Γ M E kc ks n L (.int v :: st) cs) : mg_W Γ M E kc ks pc L (st) cs := by
  subst hn
  intro p e s m args below meth c F X H locs ls hP hS hL
  exact lv_sipush F.1 F.2.1 hd hv (k p e s m args below meth c F X H locs ls hP hS hL)
theorem mg_iload_n {k0 : Fin 4} {i : Nat} {x : Int32} (hd : decode M.2.1 pc = .ok (.iload_n k0, 1)) (hn : pc + 1 = n) (hi : (k0 : Nat) = i) (hl : L[i]? = some (some (.int x))) (k : mg_W Γ M E kc ks n L (.int x :: st) cs) : mg_W Γ M E kc ks pc L (st) cs := by
  subst hn
  intro p e s m args below meth c F X H locs ls hP hS hL
  exact lv_iload_n F.1 F.2.1 hd hi (mm_L_at hL hl) (k p e s m args below meth c F X H locs ls hP hS hL)
theorem mg_aload_n {k0 : Fin 4} {i : Nat} {x : Nat} (hd : decode M.2.1 pc = .ok (.aload_n k0, 1)) (hn : pc + 1 = n) (hi : (k0 : Nat) = i) (hl : L[i]? = some (some (.ref x))) (k : mg_W Γ M E kc ks n L (.ref x :: st) cs) : mg_W Γ M E kc ks pc L (st) cs := by
  subst hn
  intro p e s m args below meth c F X H locs ls hP hS hL
  exact lv_aload_n F.1 F.2.1 hd hi (mm_L_at hL hl) (k p e s m args below meth c F X H locs ls hP hS hL)
theorem mg_istore_n {k0 : Fin 4} {i : Nat} {x : Int32} (hd : decode M.2.1 pc = .ok (.istore_n k0, 1)) (hn : pc + 1 = n) (hi : (k0 : Nat) = i) (hm : i < M.2.2.1) (hs : L.set i (some (.int x)) = L') (k : mg_W Γ M E kc ks n L' st cs) : mg_W Γ M E kc ks pc L (.int x :: st) cs := by
  subst hn
  subst hs
  intro p e s m args below meth c F X H locs ls hP hS hL
  exact lv_istore_n F.1 F.2.1 hd hi hL.1 hm rfl (fun ls' h' => k p e s m args below meth c F X H locs ls' hP hS (mm_L_set hL rfl h'))
theorem mg_astore_n {k0 : Fin 4} {i : Nat} {x : Nat} (hd : decode M.2.1 pc = .ok (.astore_n k0, 1)) (hn : pc + 1 = n) (hi : (k0 : Nat) = i) (hm : i < M.2.2.1) (hs : L.set i (some (.ref x)) = L') (k : mg_W Γ M E kc ks n L' st cs) : mg_W Γ M E kc ks pc L (.ref x :: st) cs := by
  subst hn
  subst hs
  intro p e s m args below meth c F X H locs ls hP hS hL
  exact lv_astore_n F.1 F.2.1 hd hi hL.1 hm rfl (fun ls' h' => k p e s m args below meth c F X H locs ls' hP hS (mm_L_set hL rfl h'))
theorem mg_iinc {i : Nat} {z : Int} {x v : Int32} (hd : decode M.2.1 pc = .ok (.iinc i z, 3)) (hn : pc + 3 = n) (hl : L[i]? = some (some (.int x))) (hv : x + Int32.ofInt z = v) (hm : i < M.2.2.1) (hs : L.set i (some (.int v)) = L') (k : mg_W Γ M E kc ks n L' st cs) : mg_W Γ M E kc ks pc L st cs := by
  subst hn
  subst hs
  intro p e s m args below meth c F X H locs ls hP hS hL
  obtain ⟨j, hj⟩ := List.getElem?_of_mem ((mm_kn_mem L 0 i (.int x)).mpr ⟨i, by omega, hl⟩)
  exact lv_iinc F.1 F.2.1 hd hL.1 hj hv hm rfl (fun ls' h' => k p e s m args below meth c F X H locs ls' hP hS (mm_L_set hL rfl h'))
theorem mg_dup {v : Value} (hd : decode M.2.1 pc = .ok (.dup, 1)) (hn : pc + 1 = n) (hv : v.category = 1) (k : mg_W Γ M E kc ks n L (v :: v :: st) cs) : mg_W Γ M E kc ks pc L (v :: st) cs := by
  subst hn
  intro p e s m args below meth c F X H locs ls hP hS hL
  exact lv_dup F.1 F.2.1 hd hv (k p e s m args below meth c F X H locs ls hP hS hL)
theorem mg_icmp_ge_t {x y : Int32} {off : Int} {tgt : Nat} (hd : decode M.2.1 pc = .ok (.if_icmp .ge off, 3)) (ht : (pc : Int) + off = (tgt : Int)) (hc : y ≤ x) (k : mg_W Γ M E kc ks tgt L st cs) : mg_W Γ M E kc ks pc L (.int y :: .int x :: st) cs := by
  intro p e s m args below meth c F X H locs ls hP hS hL
  exact lv_icmp_ge F.1 F.2.1 hd ht (fun _ => (k p e s m args below meth c F X H locs ls hP hS hL)) (fun q => absurd hc q)
theorem mg_icmp_ge_f {x y : Int32} {off : Int} (tgt : Nat) (hd : decode M.2.1 pc = .ok (.if_icmp .ge off, 3)) (hn : pc + 3 = n) (ht : (pc : Int) + off = (tgt : Int)) (hc : ¬ y ≤ x) (k : mg_W Γ M E kc ks n L st cs) : mg_W Γ M E kc ks pc L (.int y :: .int x :: st) cs := by
  subst hn
  intro p e s m args below meth c F X H locs ls hP hS hL
  exact lv_icmp_ge F.1 F.2.1 hd ht (fun q => absurd q hc) (fun _ => (k p e s m args below meth c F X H locs ls hP hS hL))
theorem mg_icmp_gt_t {x y : Int32} {off : Int} {tgt : Nat} (hd : decode M.2.1 pc = .ok (.if_icmp .gt off, 3)) (ht : (pc : Int) + off = (tgt : Int)) (hc : y < x) (k : mg_W Γ M E kc ks tgt L st cs) : mg_W Γ M E kc ks pc L (.int y :: .int x :: st) cs := by
  intro p e s m args below meth c F X H locs ls hP hS hL
  exact lv_icmp_gt F.1 F.2.1 hd ht (fun _ => (k p e s m args below meth c F X H locs ls hP hS hL)) (fun q => absurd hc q)
theorem mg_icmp_gt_f {x y : Int32} {off : Int} (tgt : Nat) (hd : decode M.2.1 pc = .ok (.if_icmp .gt off, 3)) (hn : pc + 3 = n) (ht : (pc : Int) + off = (tgt : Int)) (hc : ¬ y < x) (k : mg_W Γ M E kc ks n L st cs) : mg_W Γ M E kc ks pc L (.int y :: .int x :: st) cs := by
  subst hn
  intro p e s m args below meth c F X H locs ls hP hS hL
  exact lv_icmp_gt F.1 F.2.1 hd ht (fun q => absurd q hc) (fun _ => (k p e s m args below meth c F X H locs ls hP hS hL))
theorem mg_goto {off : Int} (hd : decode M.2.1 pc = .ok (.goto off, 3)) (ht : (pc : Int) + off = (n : Int)) (k : mg_W Γ M E kc ks n L st cs) : mg_W Γ M E kc ks pc L st cs := by
  intro p e s m args below meth c F X H locs ls hP hS hL
  exact lv_goto F.1 F.2.1 hd ht (k p e s m args below meth c F X H locs ls hP hS hL)
theorem mg_obj {idx a : Nat} (lk : Cond.methodLink M.1.cls idx Lib.objectInit ∈ mm_all) (h1 : Cond.instanceMethod Lib.objectInit ∈ mm_all) (h2 : Cond.code Lib.objectInit ⟨#[0xb1]⟩ 1 none ∈ mm_all) (hd : decode M.2.1 pc = .ok (.invokespecial idx, 3)) (hn : pc + 3 = n) (hf : 1 ≤ E.1.frames) (hl : (st.map fun v => v.category).sum + 12 ≤ E.1.locals) (k : mg_W Γ M E kc ks n L st cs) : mg_W Γ M E kc ks pc L (.ref a :: st) cs := by
  subst hn
  intro p e s m args below meth c F X H locs ls hP hS hL
  have hw := F.2.2.2.2.2.1
  exact W.objInit F.1 F.2.1 F.2.2.2.2.1 (hw _ lk) (hw _ h1) (hw _ h2) rfl (by rw [F.2.2.2.1]; exact hL.1.1) rfl hd hf (by show 2 * 0 + _ + 12 ≤ _; omega) (k p e s m args below meth c F X H locs ls hP hS hL)
theorem mg_get {q ci kf idx : Nat} {fs : List Value} {v : Value} (lk : mm_lk M.1.cls idx ci kf) (ho : cs[q]? = some (.inr (ci, fs))) (hv : fs[kf]? = some v) (hd : decode M.2.1 pc = .ok (.getfield idx, 3)) (hn : pc + 3 = n) (k : mg_W Γ M E kc ks n L (v :: st) cs) : mg_W Γ M E kc ks pc L (.ref (mm_B Γ + q) :: st) cs := by
  subst hn
  obtain ⟨C, T, N, h1, h2, h3, h4⟩ := lk
  intro p e s m args below meth c F X H locs ls hP hS hL
  exact va_get (D := mm_D Γ) F.1 F.2.1 F.2.2.2.2.2.1 h2 F.2.2.2.2.1 F.2.2.2.2.2.2.2.1 hP.1 q (by rw [mg_at, ho]; rfl) h1 kf h4 (F.2.2.2.2.2.1 _ h3) (fun _ h9 => h9) hv hd (k p e s m args below meth c F X H locs ls hP hS hL)
def mg_lf (ci k : Nat) (own : String) (ty : FieldType) : Prop := ∃ (C : String) (T : u_T) (N : Nat) (ty0 : Nat → FieldType), mm_cl[ci]? = some (C, T, N) ∧ (∀ k, k < N → parseFieldDescriptor (T k).2.2.1 = some (ty0 k)) ∧ (∀ a, a < N → ∀ b, b < N → a ≠ b → (T a).2.1 ≠ (T b).2.1) ∧ (T k).2.2.2 = true ∧ (T k).1 = own ∧ parseFieldDescriptor (T k).2.2.1 = some ty
theorem mg_S_put {A : Nat → Prop} {H0 H H1 : Heap} {locs : List Loc} {a k : Nat} (h : va_S A H0 H locs) (z : H1.size = H.size) (oq : ∀ q : Nat, q ≠ a → H1[q]? = H[q]?) (ha : A a) : va_S A H0 H1 (locs ++ [⟨a, k⟩]) := h.put z oq ha
theorem mg_putF {q ci kf idx r : Nat} {fs : List Value} {ty : FieldType} (hi0 : M.1.name = "<init>") (lk : mm_lk M.1.cls idx ci kf) (lf : mg_lf ci kf M.1.cls ty) (ho : cs[q]? = some (.inr (ci, fs))) (hl : kf < fs.length) (hn0 : narrow ty (.ref r) = .ref r) (hfit : fits ty (.ref r) = true) (hd : decode M.2.1 pc = .ok (.putfield idx, 3)) (hn : pc + 3 = n) (hcs : cs.set q (.inr (ci, fs.set kf (.ref r))) = cs') (k : mg_W Γ M E kc ks n L st cs') : mg_W Γ M E kc ks pc L (.ref r :: .ref (mm_B Γ + q) :: st) cs := by
  subst hn
  subst hcs
  obtain ⟨C, T, N, h1, hin, h3, hk⟩ := lk
  obtain ⟨C', T', N', ty0, g1, hty, hnm, hfin, hdecl, hdd⟩ := lf
  cases h1.symm.trans g1
  intro p e s m args below meth c F X H locs ls hP hS hL
  have hts := F.2.2.2.2.2.1
  have hown := F.2.2.2.2.1
  have hK := F.2.2.2.2.2.2.2.1
  have he : (mg_ws (mm_B Γ) cs)[q]? = some (mm_B Γ + q, .inr (ci, fs)) := by rw [mg_at, ho]; rfl
  have hap := va_apart (own := M.1.cls) hts hin ty0 hty hnm hK h1
  obtain ⟨r0, h1', cell, q1, q2, q3, q4⟩ := hP.1 q _ he
  have hr : r0 = (C, T, N) := Option.some.inj (h1'.symm.trans h1)
  subst hr
  obtain ⟨hSl, hfc, kC, hkC, hkind⟩ := hK.1 ci _ h1
  obtain ⟨cf, kf0, fi, f, hi, hsl⟩ := hSl kf hk
  have hlay := hts _ (hin _ (u_in_lay hk))
  unfold u_lay at hlay
  rw [if_pos hfin] at hlay
  have hst := (u_facts hfc hkC (u_lays hts hin hk) hi).1
  have hcf : m.cls = cf := by
    obtain ⟨_, _, c', _, _, _, -, -, hf', -, -, -, hown2, -⟩ := Cond.laysFinal_spec hlay
    have e1 : c' = cf := by have := hi.symm.trans hf'; simp at this; exact this.1.symm
    rw [hdecl] at hown2
    rw [← e1]; exact Option.some.inj (hown.symm.trans hown2)
  have h6 := u_fits hfc hkC hkind (Or.inr hlay) hi hdd hn0 hfit
  refine W.putFinK F.1 F.2.1 hown (hts _ h3) hi hst hcf (X.1 hi0) (by rw [q2]; exact h6) q1 q3 (by rw [hsl]; exact k2_hasslot (q4 kf hk)) rfl rfl hd fun H' e1 e2 e3 => ?_
  rw [hsl] at e1 ⊢
  have hP' := hP.1.set (e := .inr (ci, fs.set kf (.ref r))) mg_DD he ⟨_, h1, t_OB.to (V := updV (vp_V fs) kf (.ref r)) ⟨_, e1, q2, q3, t_set q4 hap hk _⟩ (fun j _ => vp_updV_set hl _ j)⟩ e3
  rw [mg_ws_set] at hP'
  exact k p e s m args below meth c F X H' _ ls ⟨hP', by rw [e2, hP.2]; simp⟩ ⟨hS.1.put e2 e3 (mg_DD.2 q _ he), hS.2⟩ hL
theorem mg_iast {q nn : Nat} {f : Nat → Int32} {i x : Int32} (ha : cs[q]? = some (.inl (mm_cI Γ, nn, .inl f))) (hin : vp_in i nn) (hd : decode M.2.1 pc = .ok (.iastore, 1)) (hn : pc + 1 = n) (hcs : cs.set q (.inl (mm_cI Γ, nn, .inl (upd f i.toNatClampNeg x))) = cs') (k : mg_W Γ M E kc ks n L st cs') : mg_W Γ M E kc ks pc L (.int x :: .int i :: .ref (mm_B Γ + q) :: st) cs := by
  subst hn
  subst hcs
  intro p e s m args below meth c F X H locs ls hP hS hL
  have hK := F.2.2.2.2.2.2.2.1
  have he : (mg_ws (mm_B Γ) cs)[q]? = some (mm_B Γ + q, .inl (mm_cI Γ, nn, .inl f)) := by rw [mg_at, ha]; rfl
  refine W.iast F.1 F.2.1 (hP.1 q _ he) ((hK.2 0 _ rfl).1 nn (fun j => .int (f j))) (fun q => by cases q) (by show ¬ (i < 0 ∨ (arrV _ _ _).slots.size ≤ _); rw [arrV_size]; exact hin) rfl rfl hd fun H1 e1 z oq => ?_
  have hP' := hP.1.set (e := .inl (mm_cI Γ, nn, .inl (upd f i.toNatClampNeg x))) mg_DD he (by
    show H1[_]? = some (vp_cell _ _)
    rw [e1, vp_cell_i, vp_cell_i, arrV_store]
    congr 2
    funext q
    by_cases hq : q = i.toNatClampNeg
    · subst hq
      simp [updV, upd]
    · simp [updV, upd, hq]) oq
  rw [mg_ws_set] at hP'
  exact k p e s m args below meth c F X H1 _ ls ⟨hP', by rw [z, hP.2]; simp⟩ ⟨hS.1.put z oq (mg_DD.2 q _ he), hS.2⟩ hL
theorem mg_aast {q q2 nn ci : Nat} {f : Nat → Option Nat} {vs : List Value} {i : Int32} (ha : cs[q]? = some (.inl (mm_cT Γ, nn, .inr (.inr (.inr (.inr f)))))) (hv : cs[q2]? = some (.inr (2, vs))) (hin : vp_in i nn) (hd : decode M.2.1 pc = .ok (.aastore, 1)) (hn : pc + 1 = n) (hcs : cs.set q (.inl (mm_cT Γ, nn, .inr (.inr (.inr (.inr (va_up f i.toNatClampNeg (some (mm_B Γ + q2)))))))) = cs') (k : mg_W Γ M E kc ks n L st cs') : mg_W Γ M E kc ks pc L (.ref (mm_B Γ + q2) :: .int i :: .ref (mm_B Γ + q) :: st) cs := by
  subst hn
  subst hcs
  intro p e s m args below meth c F X H locs ls hP hS hL
  have hK := F.2.2.2.2.2.2.2.1
  have he : (mg_ws (mm_B Γ) cs)[q]? = some (mm_B Γ + q, .inl (mm_cT Γ, nn, .inr (.inr (.inr (.inr f))))) := by rw [mg_at, ha]; rfl
  have he2 : (mg_ws (mm_B Γ) cs)[q2]? = some (mm_B Γ + q2, .inr (2, vs)) := by rw [mg_at, hv]; rfl
  have hlt : i.toNatClampNeg < nn := Nat.not_le.mp fun q => hin (Or.inr q)
  have h0 : ¬ i < 0 := fun q => hin (Or.inl q)
  obtain ⟨r', hr', cellV, g1, g2, g3, -⟩ := hP.1 q2 _ he2
  have hcls := (hK.1 2 (smR_T, smF_T, 9) rfl).2
  obtain ⟨kA, comp, k1, k2, k3, -⟩ := (hK.2 2 _ rfl).2
  have hcomp : comp = (mm_D Γ).1 2 := Option.some.inj (k3.symm.trans hcls.1)
  subst hcomp
  obtain ⟨kC, hkC, -⟩ := hcls.2
  refine W.aast F.1 F.2.1 (hP.1 q _ he) (fun q h => by cases h) (fun h => by cases h) k1 k2 rfl hkC ⟨h0, by show _ < (arrV _ _ _).slots.size; rw [arrV_size]; exact hlt⟩ g1 (fun q h => by rw [g3] at h; cases h) (by rw [g2]; exact hkC) (by rw [g2]; exact va_assign hcls) rfl rfl hd fun H1 e1 z oq => ?_
  have hP' := hP.1.set (e := .inl (mm_cT Γ, nn, .inr (.inr (.inr (.inr (va_up f i.toNatClampNeg (some (mm_B Γ + q2)))))))) mg_DD he (by
    show H1[_]? = some (vp_cell _ _)
    rw [e1, vp_cell_q, vp_cell_q, arrV_store]
    congr 2
    funext q
    by_cases hq : q = i.toNatClampNeg
    · subst hq
      simp [updV, va_up, va_rf]
    · simp [updV, va_up, hq]) oq
  rw [mg_ws_set] at hP'
  exact k p e s m args below meth c F X H1 _ ls ⟨hP', by rw [z, hP.2]; simp⟩ ⟨hS.1.put z oq (mg_DD.2 q _ he), hS.2⟩ hL
theorem mg_push {H H1 : Heap} {e : va_E} (hP : mg_PW Γ cs H) (z1 : H1.size = H.size + 1) (o1 : ∀ q, q < H.size → H1[q]? = H[q]?) (he : va_at (mm_D Γ) mm_cl (mm_B Γ + cs.length, e) H1) : mg_PW Γ (cs ++ [e]) H1 := by
  refine ⟨?_, by rw [z1, hP.2]; simp; omega⟩
  rw [mg_ws_app]
  refine va_P.app (hP.1.kept (fun k x hx => o1 x.1 ((hP.1 k x hx).lt))) (fun k x hx => ?_)
  have hz : k < 1 := (List.getElem?_eq_some_iff.mp hx).1
  rw [show k = 0 by omega] at hx
  cases hx
  exact he
theorem mg_S_push {H0 H H1 : Heap} {locs : List Loc} (hS : va_S (mg_A Γ) H0 H locs) (z1 : H1.size = H.size + 1) (o1 : ∀ q, q < H.size → H1[q]? = H[q]?) : va_S (mg_A Γ) H0 H1 locs :=
  ⟨Nat.le_trans hS.1 (by omega), fun x h1 h2 => (o1 x (Nat.lt_of_lt_of_le h1 hS.1)).trans (hS.2.1 x h1 h2), hS.2.2⟩
theorem mg_newi {z : Int32} {nn kc' ks' r : Nat} (hw : Cond.arrayClass .int ∈ mm_all) (hz0 : ¬ z < 0) (hz : z.toNatClampNeg = nn) (hb : nn * componentBytes .int ≤ 536870912) (hc' : kc + 1 = kc') (hs' : ks + nn = ks') (hc : kc' ≤ E.1.cells) (hs : ks' ≤ E.1.slots) (hd : decode M.2.1 pc = .ok (.newarray .int, 2)) (hn : pc + 2 = n) (hr : cs.length = r) (hcs : cs ++ [.inl (mm_cI Γ, nn, .inl (fun _ => 0))] = cs') (k : mg_W Γ M E kc' ks' n L (.ref (mm_B Γ + r) :: st) cs') : mg_W Γ M E kc ks pc L (.int z :: st) cs := by
  subst hn
  subst hcs
  subst hr
  subst hc'
  subst hs'
  intro p e s m args below meth c F X H locs ls hP hS hL
  refine va_newaK (atype := .int) F.1 F.2.1 (F.2.2.2.2.2.1 _ hw) rfl hd rfl hz0 hz hb hc hs hP.2 fun H' cA e1 z1 o1 hAr hNm => ?_
  have hcA : cA = mm_cI Γ := by
    have h2 : s.vm.findClass ("[" ++ (.int : FieldType).toString) = some (mm_cI Γ) := (F.2.2.2.2.2.2.2.1.2 0 _ rfl).2
    exact Option.some.inj (hNm.symm.trans h2)
  subst hcA
  exact k p e s m args below meth c F X H' locs ls (mg_push hP (by rw [z1, hP.2]) (by rw [hP.2]; exact o1) e1) ⟨mg_S_push hS.1 (by rw [z1, hP.2]) (by rw [hP.2]; exact o1), hS.2⟩ hL
theorem mg_newz {z : Int32} {nn kc' ks' r : Nat} (hw : Cond.arrayClass .boolean ∈ mm_all) (hz0 : ¬ z < 0) (hz : z.toNatClampNeg = nn) (hb : nn * componentBytes .boolean ≤ 536870912) (hc' : kc + 1 = kc') (hs' : ks + nn = ks') (hc : kc' ≤ E.1.cells) (hs : ks' ≤ E.1.slots) (hd : decode M.2.1 pc = .ok (.newarray .boolean, 2)) (hn : pc + 2 = n) (hr : cs.length = r) (hcs : cs ++ [.inl (mm_cZ Γ, nn, .inl (fun _ => 0))] = cs') (k : mg_W Γ M E kc' ks' n L (.ref (mm_B Γ + r) :: st) cs') : mg_W Γ M E kc ks pc L (.int z :: st) cs := by
  subst hn
  subst hcs
  subst hr
  subst hc'
  subst hs'
  intro p e s m args below meth c F X H locs ls hP hS hL
  refine va_newaK (atype := .boolean) F.1 F.2.1 (F.2.2.2.2.2.1 _ hw) rfl hd rfl hz0 hz hb hc hs hP.2 fun H' cA e1 z1 o1 hAr hNm => ?_
  have hcA : cA = mm_cZ Γ := by
    have h2 : s.vm.findClass ("[" ++ (.boolean : FieldType).toString) = some (mm_cZ Γ) := (F.2.2.2.2.2.2.2.1.2 1 _ rfl).2
    exact Option.some.inj (hNm.symm.trans h2)
  subst hcA
  exact k p e s m args below meth c F X H' locs ls (mg_push hP (by rw [z1, hP.2]) (by rw [hP.2]; exact o1) e1) ⟨mg_S_push hS.1 (by rw [z1, hP.2]) (by rw [hP.2]; exact o1), hS.2⟩ hL
theorem mg_newq {z : Int32} {nn kc' ks' r idx : Nat} (lk : Cond.classLink M.1.cls idx "SwitchedModules$Task" ∈ mm_all) (hz0 : ¬ z < 0) (hz : z.toNatClampNeg = nn) (hb : nn * 4 ≤ 536870912) (hc' : kc + 1 = kc') (hs' : ks + nn = ks') (hc : kc' ≤ E.1.cells) (hs : ks' ≤ E.1.slots) (hd : decode M.2.1 pc = .ok (.anewarray idx, 3)) (hn : pc + 3 = n) (hr : cs.length = r) (hcs : cs ++ [.inl (mm_cT Γ, nn, .inr (.inr (.inr (.inr (fun _ => none)))))] = cs') (k : mg_W Γ M E kc' ks' n L (.ref (mm_B Γ + r) :: st) cs') : mg_W Γ M E kc ks pc L (.int z :: st) cs := by
  subst hn
  subst hcs
  subst hr
  subst hc'
  subst hs'
  subst hz
  intro p e s m args below meth c F X H locs ls hP hS hL
  refine W.anew F.1 F.2.1 F.2.2.2.2.1 (F.2.2.2.2.2.1 _ lk) (va_AO.use F.2.2.2.2.2.2.2.2.2.2.2.2) rfl hd rfl hz0 hb hc hs fun cA kA comp f1 f2 f3 f4 => ?_
  have hcA : cA = mm_cT Γ := by
    obtain ⟨_, _, _, _, _, h2⟩ := (F.2.2.2.2.2.2.2.1.2 2 _ rfl).2
    exact Option.some.inj (f1.symm.trans h2)
  subst hcA
  generalize hH1 : H.push ({ cls := mm_cT Γ, slots := Array.replicate z.toNatClampNeg .null, vm := .none } : Cell) = H1
  have z1 : H1.size = H.size + 1 := by rw [← hH1, Array.size_push]
  have e1 : H1[H.size]? = some (arrV (mm_cT Γ) z.toNatClampNeg (fun _ => .null)) := by rw [← hH1, Array.getElem?_push_size, ← arrV_new]
  have o1 : ∀ q : Nat, q < H.size → H1[q]? = H[q]? := fun q hq => by rw [← hH1, Array.getElem?_push, if_neg (Nat.ne_of_lt hq)]
  rw [hP.2]
  refine k p e s m args below meth c F X H1 locs ls (mg_push hP z1 o1 ?_) ⟨mg_S_push hS.1 z1 o1, hS.2⟩ hL
  show H1[_]? = some (vp_cell _ _)
  rw [vp_cell_q, ← hP.2]
  exact e1
theorem mg_new {idx ci N kc' ks' r : Nat} {C : String} {T : u_T} {fs : List Value} (ty : Nat → FieldType) (hcl : mm_cl[ci]? = some (C, T, N)) (hin : ∀ w ∈ u_ws C T N, w ∈ mm_all) (hty : ∀ k, k < N → parseFieldDescriptor (T k).2.2.1 = some (ty k)) (lk : Cond.classLink M.1.cls idx C ∈ mm_all) (li : Cond.instantiable C N ∈ mm_all) (lz : Cond.initialized C ∈ mm_all) (hfs : ∀ j, j < N → defaultValue (ty j) = vp_V fs j) (hc' : kc + 1 = kc') (hs' : ks + N = ks') (hc : kc' ≤ E.1.cells) (hs : ks' ≤ E.1.slots) (hd : decode M.2.1 pc = .ok (.new idx, 3)) (hn : pc + 3 = n) (hr : cs.length = r) (hcs : cs ++ [.inr (ci, fs)] = cs') (k : mg_W Γ M E kc' ks' n L (.ref (mm_B Γ + r) :: st) cs') : mg_W Γ M E kc ks pc L st cs := by
  subst hn
  subst hcs
  subst hr
  subst hc'
  subst hs'
  intro p e s m args below meth c F X H locs ls hP hS hL
  have hts := F.2.2.2.2.2.1
  have hKn := F.2.2.2.2.2.2.2.1.1 ci _ hcl
  refine W.newcK F.1 F.2.1 F.2.2.2.2.1 (hts _ lk) (hts _ li) (hts _ lz) rfl hd hc hs hKn.2.1 hP.2 fun H1 kC hkC e1 z1 o1 => ?_
  exact k p e s m args below meth c F X H1 locs ls (mg_push hP (by rw [z1, hP.2]) (by rw [hP.2]; exact o1) ⟨_, hcl, (u_born ty hts hin hKn hkC e1 hty).to hfs⟩) ⟨mg_S_push hS.1 (by rw [z1, hP.2]) (by rw [hP.2]; exact o1), hS.2⟩ hL
theorem mg_blind {q : Nat} : FrameBlind (va_Pc [.ref (mm_B Γ + q)] (fun U => mg_PW Γ cs U.heap ∧ mm_KW Γ U)) := fun a U g mk q => by
  obtain ⟨q0, qP, qK⟩ := q
  exact ⟨q0, qP, mm_KW_same (s := U) (U := U.calling g mk a) rfl qK⟩
theorem mg_after {mc ms : Nat} {p : Program} {e : Env} {R : Room} {s : State} {m : MethodId} {args : Array Value} {below : List Frame} {meth : Method} {c : Code} {H : Heap} {locs : List Loc} {c0 s0 : Nat} {ls : Array Slot} {st0 : List Value} {a : Array Value} {Q : State → Prop} (hr : va_Run p Γ.1 e R s m args below meth c H locs c0 s0 mc ms (F0 m pc ls st0) rest (mg_Q Γ cs' a) (mg_A Γ)) (hS : va_S (mg_A Γ) s.heap H locs)
    (kk : ∀ (H1 : Heap) (locs1 : List Loc), mg_PW Γ cs' H1 → va_S (mg_A Γ) s.heap H1 locs1 → W p Γ.1 e R s m args below meth c H1 locs1 (c0 + mc) (s0 + ms) Q (F0 m (pc + 3) ls rest)) : W p Γ.1 e R s m args below meth c H locs c0 s0 Q (F0 m pc ls st0) := by
  intro T hT X
  obtain ⟨v, st₀, t, T', L1, h0, X', hL, e1, e2, ⟨hv, hP, hz, hk⟩, stp⟩ := hr T hT X
  cases hv
  rw [h0] at hz hk
  obtain ⟨t2, a1, b1⟩ := kk T'.heap (locs ++ L1) (by rw [e1]; exact hP) ⟨Nat.le_trans hS.1 (by rw [e1]; exact hz), fun q h1 h2 => by rw [e1, hk q (Nat.lt_of_lt_of_le h1 hS.1) h2]; exact hS.2.1 q h1 h2, fun q hq => by
      rcases List.mem_append.mp hq with h | h
      · exact hS.2.2 q h
      · exact hL q h⟩ T' rfl X'
  exact ⟨t2, stp t2 a1, b1⟩
def mg_cB (M' : mm_MD) : Prop := Cond.code M'.1 M'.2.1 M'.2.2.1 none ∈ mm_all ∧ M'.2.2.2.1 = none ∧ Cond.initialized M'.1.cls ∈ mm_all ∧ M'.1.cls ≠ "java/lang/invoke/MethodHandle" ∧ M'.1.cls ≠ "java/lang/invoke/VarHandle" ∧ (parseMethodDescriptor M'.1.desc).map (fun d => d.parameters.length) = some 0 ∧ M'.1.name = "<init>" ∧ Cond.instanceMethod M'.1 ∈ mm_all
abbrev mg_hR (M' : mm_MD) (R : Room) (kc ks mc ms : Nat) : Prop := M'.2.2.2.2 + 1 ≤ R.frames ∧ 8 + (M'.2.2.1 + 11) + 36 * M'.2.2.2.2 ≤ R.locals ∧ kc + mc ≤ R.cells ∧ ks + ms ≤ R.slots
theorem mg_callI {idx q mc ms kc' ks' : Nat} (cv : mg_cB M') (lk : Cond.methodLink M.1.cls idx M'.1 ∈ mm_all) (hR : mg_hR M' E.1 kc ks mc ms) (hM : mg_S Γ M' q cs cs' mc ms) (hd : decode M.2.1 pc = .ok (.invokespecial idx, 3)) (hn : pc + 3 = n) (hr : (rest.map fun v => v.category).sum ≤ 8) (hc' : kc + mc = kc') (hs' : ks + ms = ks') (k : mg_W Γ M E kc' ks' n L rest cs') : mg_W Γ M E kc ks pc L (.ref (mm_B Γ + q) :: rest) cs := by
  subst hn
  subst hc'
  subst hs'
  intro p e s m args below meth c F X H locs ls hP hS hL
  obtain ⟨c1, c0, c2, c3, c4, c5, c6, c7⟩ := cv
  have hw := F.2.2.2.2.2.1
  have hK := F.2.2.2.2.2.2.2
  refine mg_after (cs' := cs') (va_runI (As := []) (rest := rest) (nL := M.2.2.1) (Ts := mm_all) (own := M.1.cls) ⟨F.1, F.2.1, F.2.2.2.1, F.2.2.2.2.1, hw⟩ hM ⟨callB_of 0 hw (mm_goodIn (fun _ h => h) (by rw [c0]; exact c1)) (by rw [mm_wsM, c0]) rfl rfl (hw _ c2) (hw _ lk) ⟨c3, c4, c5⟩ ⟨hR.1, hR.2.1⟩, c6, hw _ c7⟩ ⟨mg_blind, fun U hU hW => ⟨rfl, by rw [hU]; exact hP, mm_KW_warm hW hK⟩⟩ rfl rfl hL.1.1 rfl (lv_room hr) hd ⟨hR.2.2.1, hR.2.2.2⟩) hS.1 (fun H1 locs1 hP1 hS1 => ?_)
  exact k p e s m args below meth c F X H1 locs1 ls hP1 ⟨hS1, hS.2⟩ hL
theorem mg_callIN {idx q mc ms kc' ks' : Nat} {host : String} (cv : mg_cB M') (lk : ∀ U : State, mm_KW Γ U → va_Nw (Cond.methodLinkNest M.1.cls idx M'.1 host) U) (hR : mg_hR M' E.1 kc ks mc ms) (hM : mg_S Γ M' q cs cs' mc ms) (hd : decode M.2.1 pc = .ok (.invokespecial idx, 3)) (hn : pc + 3 = n) (hr : (rest.map fun v => v.category).sum ≤ 8) (hc' : kc + mc = kc') (hs' : ks + ms = ks') (k : mg_W Γ M E kc' ks' n L rest cs') : mg_W Γ M E kc ks pc L (.ref (mm_B Γ + q) :: rest) cs := by
  subst hn
  subst hc'
  subst hs'
  intro p e s m args below meth c F X H locs ls hP hS hL
  obtain ⟨c1, c0, c2, c3, c4, c5, c6, c7⟩ := cv
  have hw := F.2.2.2.2.2.1
  have hK := F.2.2.2.2.2.2.2
  have hB : va_CN E.1 s args M.1.cls idx M'.1 host M'.2.1 M'.2.2.1 none (mm_wsM M') (mg_rm M' mc ms) mc ms 0 := by
    refine ⟨⟨rfl, rfl, hR.1, hR.2.1, pay_in hw (mm_goodIn (fun _ h => h) (by rw [c0]; exact c1)), by rw [mm_wsM, c0]; exact List.mem_cons_self⟩, hw _ c1, hw _ c2, ⟨c3, c4⟩, fun sig hs => ?_, va_Nw.use rfl (lk s hK)⟩
    rw [hs] at c5
    exact (Option.some.inj c5).symm
  refine mg_after (cs' := cs') (va_runIN (As := []) (rest := rest) (nL := M.2.2.1) (Ts := mm_all) (own := M.1.cls) ⟨F.1, F.2.1, F.2.2.2.1, F.2.2.2.2.1, hw⟩ hM ⟨hB, c6, hw _ c7⟩ ⟨mg_blind, fun U hU hW => ⟨rfl, by rw [hU]; exact hP, mm_KW_warm hW hK⟩⟩ rfl rfl hL.1.1 rfl (lv_room hr) hd ⟨hR.2.2.1, hR.2.2.2⟩) hS.1 (fun H1 locs1 hP1 hS1 => ?_)
  exact k p e s m args below meth c F X H1 locs1 ls hP1 ⟨hS1, hS.2⟩ hL
end GR
section GE
variable {Γ : mm_Ctx} {M : mm_MD} {pc mc ms q : Nat} {L : List (Option Value)} {cs cs' : List va_E}
theorem mg_vret (hr : M.2.2.2.1 = none) (hd : decode M.2.1 pc = .ok (.return_, 1)) : mg_W Γ M (mg_Em Γ M cs mc ms) mc ms pc L [] cs := by
  intro p e s m args below meth c F X H locs ls hP hS hL
  exact W.vret F.1 F.2.1 (F.2.2.1.trans hr) (fun t ht hW => ⟨rfl, by rw [ht]; exact hP, hS.1.F ht⟩) hS.1.2.2 hd F.2.2.2.2.2.2.1
theorem mg_spec (j : Nat) (hy : plainName M.1.cls = true) (hl : 1 ≤ M.2.2.1) (hq : 0 ≤ cs.length) (k : mg_W Γ M (mg_Em Γ M cs' mc ms) 0 0 0 (some (.ref (mm_B Γ + q)) :: List.replicate j none) [] cs) : mg_S Γ M q cs cs' mc ms := by
  refine Met.ofW (cc := M.2.1) (maxL := M.2.2.1) (ret := M.2.2.2.1) hy rfl ?_
  intro p e s m args' below meth c s₁ B hml hv
  obtain ⟨rfl, hP, hK⟩ := hv
  have hts := atoms_spec (ws := mm_wsM M) B.pre
  rw [lg_entry_eq]
  refine k p e s m _ below meth c ⟨B.exec, B.bytes, B.returns, hml, findClass_of_methodNamed B.named, fun w hw => hts w (List.mem_cons_of_mem _ hw), B.notSynchronized, hK⟩ ⟨fun hi => ((name_of_methodNamed B.named B.method).1).trans hi, trivial⟩ s.heap [] _ hP ⟨va_S.rf, by rw [hP.2]; exact Nat.le_add_right _ _⟩ ?_
  have h0 := lv_entry [.ref (mm_B Γ + q)] (n := M.2.2.1) hl
  refine ⟨⟨h0.1, h0.2.1, fun x hx => h0.2.2 x ?_⟩, fun i v hi => ?_⟩
  · obtain ⟨a, w⟩ := x
    obtain ⟨t, e1, e2⟩ := (mm_kn_mem _ 0 a w).mp hx
    cases t with
    | zero =>
      simp at e2
      subst e2
      have : a = 0 := by omega
      subst this
      exact List.mem_cons_self
    | succ t =>
      rw [List.getElem?_cons_succ] at e2
      have := List.eq_of_mem_replicate (List.mem_of_getElem? e2)
      cases this
  · cases i with
    | zero =>
      simp at hi
      subst hi
      rfl
    | succ t =>
      rw [List.getElem?_cons_succ] at hi
      have := List.eq_of_mem_replicate (List.mem_of_getElem? hi)
      cases this
end GE
