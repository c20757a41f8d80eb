section MC
variable {Γ : mm_Ctx} {M M' : mm_MD} {E : mm_E} {pc n : Nat} {L : List (Option Value)} {st rest As : List Value} {h : mm_Mem} {post : Option Value → mm_Mem → Prop}
theorem mm_blind {av : List Value} : FrameBlind (va_Pc av (fun U => mm_PW Γ h U.heap ∧ mm_KW Γ U)) := fun a U g mk q => by
  obtain ⟨q0, qP, qK⟩ := q
  exact ⟨q0, qP, mm_KW_same (s := U) (U := U.calling g mk a) rfl qK⟩
theorem mm_after {p : Program} {e : Env} {R : Room} {s : State} {m : MethodId} {args : Array Value} {below : List Frame} {meth : Method} {c : Code} {H : Heap} {locs : List Loc} {cs sl : Nat} {ls : Array Slot} {st0 : List Value} {a : Array Value} {Q : State → Prop} (hr : va_Run p Γ.1 e R s m args below meth c H locs cs sl 0 0 (F0 m pc ls st0) rest (mm_Q Γ post a) (mm_A Γ)) (hS : va_S (mm_A Γ) s.heap H locs)
    (kk : ∀ (r : Option Value) (h' : mm_Mem) (H1 : Heap) (locs1 : List Loc), post r h' → mm_PW Γ h' H1 → va_S (mm_A Γ) s.heap H1 locs1 → W p Γ.1 e R s m args below meth c H1 locs1 cs sl Q (F0 m (pc + 3) ls (r.toList ++ rest))) : W p Γ.1 e R s m args below meth c H locs cs sl Q (F0 m pc ls st0) := by
  intro T hT X
  obtain ⟨v, st₀, t, T', L1, h0, X', hL, e1, e2, ⟨⟨r, h', hv, hp, hP, hK⟩, hz, hk⟩, stp⟩ := hr T hT X
  cases hv
  rw [h0] at hz hk
  obtain ⟨t2, a1, b1⟩ := kk v h' T'.heap (locs ++ L1) hp (by rw [e1]; exact hP) ⟨Nat.le_trans hS.1 (by rw [e1]; exact hz), fun q h1 h2 => by rw [e1, hk q (Nat.lt_of_lt_of_le h1 hS.1) h2]; exact hS.2.1 q h1 h2, fun q hq => by
      rcases List.mem_append.mp hq with h | h
      · exact hS.2.2 q h
      · exact hL q h⟩ T' rfl X'
  exact ⟨t2, stp t2 a1, b1⟩
def mm_cB (M' : mm_MD) (na : Nat) : Prop := Cond.code M'.1 M'.2.1 M'.2.2.1 M'.2.2.2.1 ∈ mm_all ∧ Cond.initialized M'.1.cls ∈ mm_all ∧ M'.1.cls ≠ "java/lang/invoke/MethodHandle" ∧ M'.1.cls ≠ "java/lang/invoke/VarHandle" ∧ (parseMethodDescriptor M'.1.desc).map (fun d => d.parameters.length) = some na
def mm_cV (M' : mm_MD) (na ci : Nat) : Prop := mm_cB M' na ∧ Cond.instanceMethod M'.1 ∈ mm_all ∧ Cond.selects M'.1.cls M'.1 M'.1 ∈ mm_all ∧ ∃ (T : u_T) (N : Nat), mm_cl[ci]? = some (M'.1.cls, T, N)
def mm_cS (M' : mm_MD) (na : Nat) : Prop := mm_cB M' na ∧ Cond.static M'.1 ∈ mm_all
abbrev mm_hR (M' : mm_MD) (E : mm_E) : Prop := M'.2.2.2.2 + 1 ≤ E.1.frames ∧ 8 + (M'.2.2.1 + 11) + 36 * M'.2.2.2.2 ≤ E.1.locals ∧ E.2.1 ≤ E.1.cells ∧ E.2.2.1 ≤ E.1.slots
theorem mm_hRm (h1 : M'.2.2.2.2 + 1 ≤ M.2.2.2.2) (h2 : M'.2.2.1 ≤ 17) : mm_hR M' (mm_Em Γ M post) := ⟨h1, (by show 8 + (M'.2.2.1 + 11) + 36 * M'.2.2.2.2 ≤ 36 * M.2.2.2.2; omega), Nat.le_refl _, Nat.le_refl _⟩
theorem mm_callV {q ci idx : Nat} {Fd : (Nat → Int32) → List Value} (cv : mm_cV M' As.length ci) (lk : Cond.methodLink M.1.cls idx M'.1 ∈ mm_all) (ho : mm_ob Γ q ci Fd) (hR : mm_hR M' E) (hM : mm_S Γ M' (.ref (mm_B Γ + q) :: As) h post) (hd : decode M.2.1 pc = .ok (.invokevirtual idx, 3)) (hn : pc + 3 = n) (hst : st = As.reverse ++ .ref (mm_B Γ + q) :: rest) (hr : (rest.map fun v => v.category).sum ≤ 8)
    (k : ∀ (r : Option Value) (h' : mm_Mem), post r h' → mm_WG Γ M E n L (r.toList ++ rest) h') : mm_WG Γ M E pc L st h := by
  subst hn
  subst hst
  intro p e s m args below meth c F X H locs ls hP hS hL
  obtain ⟨⟨c1, c2, c3, c4, c5⟩, c6, c7, T, N, c8⟩ := cv
  have hw := F.2.2.2.2.2.1
  have hK := F.2.2.2.2.2.2.2
  refine mm_after (post := post) (va_runV (C := M'.1.cls) (As := As) (rest := rest) (nL := M.2.2.1) (Ts := mm_all) (own := M.1.cls) (b := mm_B Γ + q) ⟨F.1, F.2.1, F.2.2.2.1, F.2.2.2.2.1, hw⟩ hM ⟨callB_of As.length hw (mm_goodIn (fun _ h => h) c1) rfl rfl rfl (hw _ c2) (hw _ lk) ⟨c3, c4, c5⟩ ⟨hR.1, hR.2.1⟩, hw _ c6, hw _ c7⟩ ⟨mm_blind, va_recv hK.1 hP c8 (by rw [mm_ws_at ho.1, ho.2]), fun U hU hW => ⟨rfl, by rw [hU]; exact hP, mm_KW_warm hW hK⟩⟩ rfl rfl hL.1.1 rfl (lv_room hr) hd ⟨hR.2.2.1, hR.2.2.2⟩) hS (fun r h' H1 locs1 hp hP1 hS1 => ?_)
  exact k r h' hp p e s m args below meth c F X H1 locs1 ls hP1 hS1 hL
theorem mm_callS {idx : Nat} (cv : mm_cS M' As.length) (lk : Cond.methodLink M.1.cls idx M'.1 ∈ mm_all) (hR : mm_hR M' E) (hM : mm_S Γ M' As h post) (hd : decode M.2.1 pc = .ok (.invokestatic idx, 3)) (hn : pc + 3 = n) (hst : st = As.reverse ++ rest) (hr : (rest.map fun v => v.category).sum ≤ 8)
    (k : ∀ (r : Option Value) (h' : mm_Mem), post r h' → mm_WG Γ M E n L (r.toList ++ rest) h') : mm_WG Γ M E pc L st h := by
  subst hn
  subst hst
  intro p e s m args below meth c F X H locs ls hP hS hL
  obtain ⟨⟨c1, c2, c3, c4, c5⟩, c6⟩ := cv
  have hw := F.2.2.2.2.2.1
  have hK := F.2.2.2.2.2.2.2
  refine mm_after (post := post) (va_runS (As := As) (rest := rest) (nL := M.2.2.1) (Ts := mm_all) (own := M.1.cls) ⟨F.1, F.2.1, F.2.2.2.1, F.2.2.2.2.1, hw⟩ hM ⟨callB_of As.length hw (mm_goodIn (fun _ h => h) c1) rfl rfl rfl (hw _ c2) (hw _ lk) ⟨c3, c4, c5⟩ ⟨hR.1, hR.2.1⟩, hw _ c6⟩ ⟨mm_blind, fun U hU hW => ⟨rfl, by rw [hU]; exact hP, mm_KW_warm hW hK⟩⟩ rfl rfl hL.1.1 rfl (lv_room hr) hd ⟨hR.2.2.1, hR.2.2.2⟩) hS (fun r h' H1 locs1 hp hP1 hS1 => ?_)
  exact k r h' hp p e s m args below meth c F X H1 locs1 ls hP1 hS1 hL
theorem mm_callSN {idx : Nat} {host : String} (cv : mm_cS M' As.length) (lk : mm_nest = Cond.methodLinkNest M.1.cls idx M'.1 host) (hR : mm_hR M' E) (hM : mm_S Γ M' As h post) (hd : decode M.2.1 pc = .ok (.invokestatic idx, 3)) (hn : pc + 3 = n) (hst : st = As.reverse ++ rest) (hr : (rest.map fun v => v.category).sum ≤ 8)
    (k : ∀ (r : Option Value) (h' : mm_Mem), post r h' → mm_WG Γ M E n L (r.toList ++ rest) h') : mm_WG Γ M E pc L st h := by
  subst hn
  subst hst
  intro p e s m args below meth c F X H locs ls hP hS hL
  obtain ⟨⟨c1, c2, c3, c4, c5⟩, c6⟩ := cv
  have hw := F.2.2.2.2.2.1
  have hK := F.2.2.2.2.2.2.2
  have hB : va_CN E.1 s args M.1.cls idx M'.1 host M'.2.1 M'.2.2.1 M'.2.2.2.1 (mm_wsM M') (mm_rm M') 0 0 As.length := by
    refine ⟨⟨rfl, rfl, hR.1, hR.2.1, pay_in hw (mm_goodIn (fun _ h => h) c1), List.mem_cons_self⟩, hw _ c1, hw _ c2, ⟨c3, c4⟩, fun sig hs => ?_, va_Nw.use rfl (by rw [← lk]; exact hK.2.1)⟩
    rw [hs] at c5
    exact (Option.some.inj c5).symm
  refine mm_after (post := post) (va_runSN (As := As) (rest := rest) (nL := M.2.2.1) (Ts := mm_all) (own := M.1.cls) ⟨F.1, F.2.1, F.2.2.2.1, F.2.2.2.2.1, hw⟩ hM ⟨hB, hw _ c6, trivial⟩ ⟨mm_blind, fun U hU hW => ⟨rfl, by rw [hU]; exact hP, mm_KW_warm hW hK⟩⟩ rfl rfl hL.1.1 rfl (lv_room hr) hd ⟨hR.2.2.1, hR.2.2.2⟩) hS (fun r h' H1 locs1 hp hP1 hS1 => ?_)
  exact k r h' hp p e s m args below meth c F X H1 locs1 ls hP1 hS1 hL
theorem mm_callVI {q ci idx : Nat} {Fd : (Nat → Int32) → List Value} {pI : Int32 → mm_Mem → Prop} (cv : mm_cV M' As.length ci) (lk : Cond.methodLink M.1.cls idx M'.1 ∈ mm_all) (ho : mm_ob Γ q ci Fd) (hR : mm_hR M' E) (hd : decode M.2.1 pc = .ok (.invokevirtual idx, 3)) (hn : pc + 3 = n) (hst : st = As.reverse ++ .ref (mm_B Γ + q) :: rest) (hr : (rest.map fun v => v.category).sum ≤ 8) (hM : mm_SI Γ M' (.ref (mm_B Γ + q) :: As) h pI)
    (k : ∀ (x : Int32) (h' : mm_Mem), pI x h' → mm_WG Γ M E n L (.int x :: rest) h') : mm_WG Γ M E pc L st h :=
  mm_callV cv lk ho hR hM hd hn hst hr (fun r h' hp => by
    obtain ⟨x, rfl, hp⟩ := hp
    exact k x h' hp)
theorem mm_callVV {q ci idx : Nat} {Fd : (Nat → Int32) → List Value} {pV : mm_Mem → Prop} (cv : mm_cV M' As.length ci) (lk : Cond.methodLink M.1.cls idx M'.1 ∈ mm_all) (ho : mm_ob Γ q ci Fd) (hR : mm_hR M' E) (hd : decode M.2.1 pc = .ok (.invokevirtual idx, 3)) (hn : pc + 3 = n) (hst : st = As.reverse ++ .ref (mm_B Γ + q) :: rest) (hr : (rest.map fun v => v.category).sum ≤ 8) (hM : mm_SV Γ M' (.ref (mm_B Γ + q) :: As) h pV)
    (k : ∀ (h' : mm_Mem), pV h' → mm_WG Γ M E n L rest h') : mm_WG Γ M E pc L st h :=
  mm_callV cv lk ho hR hM hd hn hst hr (fun r h' hp => by
    obtain ⟨rfl, hp⟩ := hp
    exact k h' hp)
theorem mm_callSI {idx : Nat} {pI : Int32 → mm_Mem → Prop} (cv : mm_cS M' As.length) (lk : Cond.methodLink M.1.cls idx M'.1 ∈ mm_all) (hR : mm_hR M' E) (hd : decode M.2.1 pc = .ok (.invokestatic idx, 3)) (hn : pc + 3 = n) (hst : st = As.reverse ++ rest) (hr : (rest.map fun v => v.category).sum ≤ 8) (hM : mm_SI Γ M' As h pI)
    (k : ∀ (x : Int32) (h' : mm_Mem), pI x h' → mm_WG Γ M E n L (.int x :: rest) h') : mm_WG Γ M E pc L st h :=
  mm_callS cv lk hR hM hd hn hst hr (fun r h' hp => by
    obtain ⟨x, rfl, hp⟩ := hp
    exact k x h' hp)
theorem mm_callSV {idx : Nat} {pV : mm_Mem → Prop} (cv : mm_cS M' As.length) (lk : Cond.methodLink M.1.cls idx M'.1 ∈ mm_all) (hR : mm_hR M' E) (hd : decode M.2.1 pc = .ok (.invokestatic idx, 3)) (hn : pc + 3 = n) (hst : st = As.reverse ++ rest) (hr : (rest.map fun v => v.category).sum ≤ 8) (hM : mm_SV Γ M' As h pV)
    (k : ∀ (h' : mm_Mem), pV h' → mm_WG Γ M E n L rest h') : mm_WG Γ M E pc L st h :=
  mm_callS cv lk hR hM hd hn hst hr (fun r h' hp => by
    obtain ⟨rfl, hp⟩ := hp
    exact k h' hp)
theorem mm_callSNI {idx : Nat} {host : String} {pI : Int32 → mm_Mem → Prop} (cv : mm_cS M' As.length) (lk : mm_nest = Cond.methodLinkNest M.1.cls idx M'.1 host) (hR : mm_hR M' E) (hd : decode M.2.1 pc = .ok (.invokestatic idx, 3)) (hn : pc + 3 = n) (hst : st = As.reverse ++ rest) (hr : (rest.map fun v => v.category).sum ≤ 8) (hM : mm_SI Γ M' As h pI)
    (k : ∀ (x : Int32) (h' : mm_Mem), pI x h' → mm_WG Γ M E n L (.int x :: rest) h') : mm_WG Γ M E pc L st h :=
  mm_callSN cv lk hR hM hd hn hst hr (fun r h' hp => by
    obtain ⟨x, rfl, hp⟩ := hp
    exact k x h' hp)
/-! Math.max, System.arraycopy -/
def mm_cX (own : String) (idx : Nat) : Prop := Cond.methodLink own idx Lib.Math.max.name ∈ mm_all ∧ Cond.static Lib.Math.max.name ∈ mm_all ∧ Cond.initialized "java/lang/Math" ∈ mm_all ∧ Cond.code Lib.Math.max.name Lib.Math.max.code 2 (some .int) ∈ mm_all
theorem mm_max {idx : Nat} {x y : Int32} (cv : mm_cX M.1.cls idx) (hR : 1 ≤ E.1.frames ∧ (rest.map fun v => v.category).sum + 13 ≤ E.1.locals ∧ E.2.1 ≤ E.1.cells ∧ E.2.2.1 ≤ E.1.slots) (hd : decode M.2.1 pc = .ok (.invokestatic idx, 3)) (hn : pc + 3 = n) (k : mm_WG Γ M E n L (.int (if x < y then y else x) :: rest) h) : mm_WG Γ M E pc L (.int y :: .int x :: rest) h := by
  subst hn
  intro p e s m args below meth c F X H locs ls hP hS hL
  have hw := F.2.2.2.2.2.1
  exact va_mmax F.1 F.2.1 (by rw [F.2.2.2.1]; exact hL.1.1.symm) F.2.2.2.2.1 (hw _ cv.1) (hw _ cv.2.1) (hw _ cv.2.2.1) (hw _ cv.2.2.2) hR.1 hR.2.1 hR.2.2.1 hR.2.2.2 hd (k p e s m args below meth c F X H locs ls hP hS hL)
def mm_cC (own : String) (idx : Nat) : Prop := Cond.methodLink own idx arraycopyName ∈ mm_all ∧ Cond.native arraycopyName ∈ mm_all ∧ Cond.static arraycopyName ∈ mm_all ∧ Cond.initialized "java/lang/System" ∈ mm_all
theorem mm_copy {idx q0 q1 nn : Nat} {z : Int32} (cv : mm_cC M.1.cls idx) (ha0 : mm_ai Γ q0 nn) (ha1 : mm_ai Γ q1 nn) (hz0 : ¬ z < 0) (hz : z.toNatClampNeg = nn) (hR : 1 ≤ E.1.frames ∧ (rest.map fun v => v.category).sum + (nativeFrameWords "java/lang/System" "arraycopy" 5 + 11) ≤ E.1.locals) (hd : decode M.2.1 pc = .ok (.invokestatic idx, 3)) (hn : pc + 3 = n) (k : mm_WG Γ M E n L rest (mm_cp h q0 q1 nn)) : mm_WG Γ M E pc L (.int z :: .int 0 :: .ref (mm_B Γ + q1) :: .int 0 :: .ref (mm_B Γ + q0) :: rest) h := by
  subst hn
  intro p e s m args below meth c F X H locs ls hP hS hL
  have hw := F.2.2.2.2.2.1
  have e0 : (0 : Int32).toNatClampNeg = 0 := by decide
  refine va_copyi F.1 F.2.1 (by rw [F.2.2.2.1]; exact hL.1.1.symm) F.2.2.2.2.1 (hw _ cv.1) (hw _ cv.2.1) (hw _ cv.2.2.1) (hw _ cv.2.2.2) F.2.2.2.2.2.2.2.1 hP mm_DD hS q0 q1 0 0 (by rw [mm_ws_at ha0.1, ha0.2]) (by rw [mm_ws_at ha1.1, ha1.2]) rfl rfl rfl (by decide) (by decide) hz0 (by rw [e0, hz]; omega) (by rw [e0, hz]; omega) (fun _ _ => rfl) hR.1 hR.2 hd (fun H1 locs1 hP1 hD1 hS1 => ?_)
  refine k p e s m args below meth c F X H1 locs1 ls ?_ hS1 hL
  rw [e0, hz, ← ha1.2, mm_ws_set _ ha1.1] at hP1
  exact hP1
end MC
section ME
variable {Γ : mm_Ctx} {M : mm_MD} {pc : Nat} {L : List (Option Value)} {h : mm_Mem} {post : Option Value → mm_Mem → Prop}
theorem mm_iret {x : Int32} (hr : M.2.2.2.1 = some .int) (hd : decode M.2.1 pc = .ok (.ireturn, 1)) (hp : post (some (.int x)) h) : mm_W Γ M post pc L [.int x] h := by
  intro p e s m args below meth c F X H locs ls hP hS hL
  exact W.iret F.1 F.2.1 (F.2.2.1.trans hr) (fun t ht hW => ⟨⟨_, h, rfl, hp, by rw [ht]; exact hP, mm_KW_warm hW F.2.2.2.2.2.2.2⟩, hS.F ht⟩) hS.2.2 hd F.2.2.2.2.2.2.1
theorem mm_zret {x : Int32} (hr : M.2.2.2.1 = some .boolean) (hx : x = 0 ∨ x = 1) (hd : decode M.2.1 pc = .ok (.ireturn, 1)) (hp : post (some (.int x)) h) : mm_W Γ M post pc L [.int x] h := by
  intro p e s m args below meth c F X H locs ls hP hS hL
  exact W.zret F.1 F.2.1 (F.2.2.1.trans hr) (by rcases hx with rfl | rfl <;> rfl) (fun t ht hW => ⟨⟨_, h, rfl, hp, by rw [ht]; exact hP, mm_KW_warm hW F.2.2.2.2.2.2.2⟩, hS.F ht⟩) hS.2.2 hd F.2.2.2.2.2.2.1
theorem mm_vret (hr : M.2.2.2.1 = none) (hd : decode M.2.1 pc = .ok (.return_, 1)) (hp : post none h) : mm_W Γ M post pc L [] h := by
  intro p e s m args below meth c F X H locs ls hP hS hL
  exact W.vret F.1 F.2.1 (F.2.2.1.trans hr) (fun t ht hW => ⟨⟨_, h, rfl, hp, by rw [ht]; exact hP, mm_KW_warm hW F.2.2.2.2.2.2.2⟩, hS.F ht⟩) hS.2.2 hd F.2.2.2.2.2.2.1
theorem mm_args : ∀ (vs : List Value) (i j : Nat) (v : Value), (∀ u ∈ vs, u.category = 1) → vs[i]? = some v → (j + i, v) ∈ lv_args j vs
  | [], i, j, v, _, h => by simp at h
  | w :: vs, i, j, v, hc, h => by
    have hw : w.category = 1 := hc w List.mem_cons_self
    rw [lv_args, if_neg (by omega)]
    cases i with
    | zero =>
      simp at h
      rw [h]
      exact List.mem_cons_self
    | succ i =>
      have := mm_args vs i (j + 1) v (fun u hu => hc u (List.mem_cons_of_mem _ hu)) (by simpa using h)
      rw [show j + (i + 1) = j + 1 + i by omega]
      exact List.mem_cons_of_mem _ this
theorem mm_spec {av : List Value} (hy : plainName M.1.cls = true) (hc : ∀ u ∈ av, u.category = 1) (hl : (lg_sl av).length ≤ M.2.2.1) (hL : ∀ (i : Nat) (v : Value), L[i]? = some (some v) → av[i]? = some v) (k : mm_W Γ M post 0 L [] h) : mm_S Γ M av h post := by
  refine Met.ofW (cc := M.2.1) (maxL := M.2.2.1) (ret := M.2.2.2.1) hy rfl ?_
  intro p e s m args' below meth c s₁ B hml hv
  obtain ⟨rfl, hP, hK⟩ := hv
  have hts := atoms_spec (ws := mm_wsM M) B.pre
  rw [lg_entry_eq]
  refine k p e s m _ below meth c ⟨B.exec, B.bytes, B.returns, hml, findClass_of_methodNamed B.named, fun w hw => hts w (List.mem_cons_of_mem _ hw), B.notSynchronized, hK⟩ trivial s.heap [] _ hP va_S.rf ?_
  have h0 := lv_entry av (n := M.2.2.1) hl
  refine ⟨⟨h0.1, h0.2.1, fun q hq => h0.2.2 q ?_⟩, fun i v hi => hc v (List.mem_of_getElem? (hL i v hi))⟩
  obtain ⟨j, w⟩ := q
  obtain ⟨t, e1, e2⟩ := (mm_kn_mem _ 0 j w).mp hq
  have e3 : j = 0 + t := e1
  rw [e3]
  exact mm_args av t 0 w hc (hL t w e2)
theorem mm_spec0 {av : List Value} (j : Nat) (hy : plainName M.1.cls = true) (hc : av.all (fun u => u.category == 1) = true) (hl : (lg_sl av).length ≤ M.2.2.1) (k : mm_W Γ M post 0 (av.map some ++ List.replicate j none) [] h) : mm_S Γ M av h post := by
  refine mm_spec hy (fun u hu => by simpa using List.all_eq_true.mp hc u hu) hl (fun i v hi => ?_) k
  by_cases hl2 : i < av.length
  · rw [List.getElem?_append_left (by simpa using hl2), List.getElem?_map] at hi
    cases ha : av[i]? with
    | none => rw [ha] at hi; cases hi
    | some w => rw [ha] at hi; cases hi; rfl
  · rw [List.getElem?_append_right (by simpa using hl2)] at hi
    have := List.eq_of_mem_replicate (List.mem_of_getElem? hi)
    cases this
end ME
