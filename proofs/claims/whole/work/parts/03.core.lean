/-! the small machine: one memory of rows of ints, the shape of all objects fixed; a judgement over W with it, a rule an instruction -/
abbrev mm_Mem : Type := Nat → Nat → Int32
abbrev mm_Ctx : Type := Launch × Nat × va_G × ClassId × ClassId × ClassId
abbrev mm_MD : Type := MethodName × ByteArray × Nat × Option FieldType × Nat
abbrev mm_B (Γ : mm_Ctx) : Nat := Γ.2.1
abbrev mm_D (Γ : mm_Ctx) : va_G := Γ.2.2.1
abbrev mm_cI (Γ : mm_Ctx) : ClassId := Γ.2.2.2.1
abbrev mm_cZ (Γ : mm_Ctx) : ClassId := Γ.2.2.2.2.1
abbrev mm_cT (Γ : mm_Ctx) : ClassId := Γ.2.2.2.2.2
/-! words -/
def mm_all : List Cond := lw_tbl.filter goodWord
theorem mm_mem {w : Cond} (n : Nat) (h : lw_tbl[n]? = some w) (g : goodWord w = true) : w ∈ mm_all := List.mem_filter.mpr ⟨List.mem_of_getElem? h, g⟩
abbrev mm_wsM (M : mm_MD) : List Cond := Cond.code M.1 M.2.1 M.2.2.1 M.2.2.2.1 :: mm_all
theorem mm_goodIn {M' : mm_MD} {big : List Cond} (hb : ∀ w ∈ mm_all, w ∈ big) (hc : Cond.code M'.1 M'.2.1 M'.2.2.1 M'.2.2.2.1 ∈ mm_all) : GoodIn big (mm_wsM M') := by
  intro w hw
  have h : w ∈ mm_all := by
    rcases List.mem_cons.mp hw with rfl | h
    · exact hc
    · exact h
  exact ⟨hb w h, good_of_word (List.mem_filter.mp h).2⟩
def mm_rm (M : mm_MD) : Room := { frames := M.2.2.2.2, cells := 0, slots := 0, locals := 36 * M.2.2.2.2 }
/-! the world -/
abbrev mm_cl : List vw_C := [(smR_H, smF_H, 6), (smR_R, smF_R, 4), (smR_T, smF_T, 9), (smR_V, smF_V, 6), (smR_S, smF_S, 9), (smR_M, smF_M, 19)]
abbrev mm_tys (Γ : mm_Ctx) : List (ClassId × FieldType) := [(mm_cI Γ, .int), (mm_cZ Γ, .boolean), (mm_cT Γ, .object "SwitchedModules$Task")]
def mm_lens : List Nat := [0, 0, 6, 72, 72, 72, 72, 3, 0, 6, 72, 72, 72, 72, 3, 0, 3, 12, 12, 12, 0, 17, 68, 68, 17, 16, 4, 6, 0, 6, 6, 18, 6, 8, 0, 6, 6, 18, 6, 8, 0, 6, 6, 18, 6, 8, 0, 6, 6, 18, 6, 8, 0, 6, 6, 18, 6, 8, 0, 6, 6, 18, 6, 8, 0, 576, 12, 6, 36, 3, 4, 17, 68, 68, 17, 7, 7, 7, 252, 7, 56]
def mm_cell (Γ : mm_Ctx) (k : Nat) (r : Nat → Int32) : va_E :=
  if k = 0 then .inr (4, [.ref (mm_B Γ + 1), .ref (mm_B Γ + 8), .ref (mm_B Γ + 15), .ref (mm_B Γ + 20), .ref (mm_B Γ + 26), .ref (mm_B Γ + 27), .int (r 6), .int (r 7), .int (r 8)])
  else if k = 1 ∨ k = 8 then .inr (3, [.ref (mm_B Γ + (k + 1)), .ref (mm_B Γ + (k + 2)), .ref (mm_B Γ + (k + 3)), .ref (mm_B Γ + (k + 4)), .ref (mm_B Γ + (k + 5)), .ref (mm_B Γ + (k + 6))])
  else if k = 15 then .inr (1, [.ref (mm_B Γ + 16), .ref (mm_B Γ + 17), .ref (mm_B Γ + 18), .ref (mm_B Γ + 19)])
  else if k = 20 then .inr (0, [.ref (mm_B Γ + 21), .ref (mm_B Γ + 22), .ref (mm_B Γ + 23), .ref (mm_B Γ + 24), .ref (mm_B Γ + 25), .int (r 5)])
  else if k = 27 then .inl (mm_cT Γ, 6, .inr (.inr (.inr (.inr (fun i => some (mm_B Γ + (28 + 6 * i)))))))
  else if k = 64 then .inr (5, [.ref (mm_B Γ + 65), .ref (mm_B Γ + 66), .ref (mm_B Γ + 67), .ref (mm_B Γ + 68), .ref (mm_B Γ + 69), .int (r 5), .int (r 6), .ref (mm_B Γ + 70), .ref (mm_B Γ + 71), .ref (mm_B Γ + 72), .ref (mm_B Γ + 73), .ref (mm_B Γ + 74), .int (r 12), .ref (mm_B Γ + 75), .ref (mm_B Γ + 76), .ref (mm_B Γ + 77), .ref (mm_B Γ + 78), .ref (mm_B Γ + 79), .ref (mm_B Γ + 80)])
  else if 28 ≤ k ∧ k < 64 ∧ (k - 28) % 6 = 0 then .inr (2, [.ref (mm_B Γ + (k + 1)), .ref (mm_B Γ + (k + 2)), .ref (mm_B Γ + (k + 3)), .ref (mm_B Γ + (k + 4)), .ref (mm_B Γ + (k + 5)), .int (r 5), .int (r 6), .int (r 7), .int (r 8)])
  else if k = 16 ∨ k = 24 ∨ k = 69 ∨ k = 74 then .inl (mm_cZ Γ, mm_lens.getD k 0, .inl r)
  else .inl (mm_cI Γ, mm_lens.getD k 0, .inl r)
def mm_ws (Γ : mm_Ctx) (h : mm_Mem) : va_W := (List.range 81).map (fun k => (mm_B Γ + k, mm_cell Γ k (h k)))
theorem mm_ws_at {Γ : mm_Ctx} {h : mm_Mem} {k : Nat} (hk : k < 81) : (mm_ws Γ h)[k]? = some (mm_B Γ + k, mm_cell Γ k (h k)) := by
  simp [mm_ws, hk]
theorem mm_ws_of {Γ : mm_Ctx} {h : mm_Mem} {k : Nat} {q : Nat × va_E} (hk : (mm_ws Γ h)[k]? = some q) : k < 81 ∧ q = (mm_B Γ + k, mm_cell Γ k (h k)) := by
  by_cases hl : k < 81
  · rw [mm_ws_at hl] at hk
    exact ⟨hl, (Option.some.inj hk).symm⟩
  · exfalso
    have : (mm_ws Γ h).length ≤ k := by simp [mm_ws]; omega
    rw [List.getElem?_eq_none this] at hk
    cases hk
theorem mm_ws_set {Γ : mm_Ctx} {h : mm_Mem} {k : Nat} (r : Nat → Int32) (hk : k < 81) : (mm_ws Γ h).set k (mm_B Γ + k, mm_cell Γ k r) = mm_ws Γ (va_up h k r) := by
  apply List.ext_getElem?
  intro j
  rw [List.getElem?_set]
  by_cases hj : k = j
  · subst hj
    have hl : k < (mm_ws Γ h).length := by simp [mm_ws, hk]
    rw [if_pos rfl, if_pos hl, mm_ws_at hk]
    simp [va_up]
  · rw [if_neg hj]
    by_cases hl : j < 81
    · rw [mm_ws_at hl, mm_ws_at hl]
      have : ¬ j = k := fun e => hj e.symm
      simp [va_up, this]
    · have h1 : (mm_ws Γ h).length ≤ j := by simp [mm_ws]; omega
      have h2 : (mm_ws Γ (va_up h k r)).length ≤ j := by simp [mm_ws]; omega
      rw [List.getElem?_eq_none h1, List.getElem?_eq_none h2]
def mm_A (Γ : mm_Ctx) : Nat → Prop := fun q => mm_B Γ ≤ q ∧ q < mm_B Γ + 81
theorem mm_DD {Γ : mm_Ctx} {h : mm_Mem} : va_D (mm_A Γ) (mm_ws Γ h) := by
  refine ⟨fun i j p q hi hj e => ?_, fun k q hk => ?_⟩
  · obtain ⟨h1, rfl⟩ := mm_ws_of hi
    obtain ⟨h2, rfl⟩ := mm_ws_of hj
    have e' : mm_B Γ + i = mm_B Γ + j := e
    omega
  · obtain ⟨h1, rfl⟩ := mm_ws_of hk
    exact ⟨Nat.le_add_right _ _, Nat.add_lt_add_left h1 _⟩
abbrev mm_PW (Γ : mm_Ctx) (h : mm_Mem) (H : Heap) : Prop := va_P (mm_D Γ) mm_cl (mm_ws Γ h) H
abbrev mm_nest : Cond := Cond.methodLinkNest "SwitchedModules$Version" 30 smy_S_isWithin "SwitchedModules"
abbrev mm_nestV : Cond := Cond.methodLinkNest "SwitchedModules" 9 smy_V_init "SwitchedModules"
abbrev mm_nestR : Cond := Cond.methodLinkNest "SwitchedModules" 21 smy_R_init "SwitchedModules"
abbrev mm_nestT : Cond := Cond.methodLinkNest "SwitchedModules" 43 smy_T_init "SwitchedModules"
def mm_KW (Γ : mm_Ctx) (U : State) : Prop := va_K (mm_D Γ) mm_cl (mm_tys Γ) U ∧ va_Nw mm_nest U ∧ va_Nw mm_nestV U ∧ va_Nw mm_nestR U ∧ va_Nw mm_nestT U ∧ va_AO "SwitchedModules$Task" U
theorem mm_KW_warm {Γ : mm_Ctx} {s U : State} (hW : s.WarmedH U.vm) (h : mm_KW Γ s) : mm_KW Γ U := ⟨va_K.moved hW.alike h.1, va_Nw.warmM hW h.2.1, va_Nw.warmM hW h.2.2.1, va_Nw.warmM hW h.2.2.2.1, va_Nw.warmM hW h.2.2.2.2.1, va_AO.moved hW.alike h.2.2.2.2.2⟩
theorem mm_KW_same {Γ : mm_Ctx} {s U : State} (hv : s.vm = U.vm) (h : mm_KW Γ s) : mm_KW Γ U := by
  have ha : s.vm.Alike U.vm := by rw [hv]; exact Vm.Alike.refl _
  exact ⟨va_K.moved ha h.1, va_Nw.same rfl hv h.2.1, va_Nw.same rfl hv h.2.2.1, va_Nw.same rfl hv h.2.2.2.1, va_Nw.same rfl hv h.2.2.2.2.1, va_AO.moved ha h.2.2.2.2.2⟩
def mm_wr (h : mm_Mem) (q i : Nat) (x : Int32) : mm_Mem := va_up h q (upd (h q) i x)
def mm_cp (h : mm_Mem) (q0 q1 n : Nat) : mm_Mem := va_up h q1 (va_cpy (h q0) (h q1) 0 0 n)
/-! what a handle is -/
def mm_ai (Γ : mm_Ctx) (q n : Nat) : Prop := q < 81 ∧ ∀ r, mm_cell Γ q r = .inl (mm_cI Γ, n, .inl r)
def mm_az (Γ : mm_Ctx) (q n : Nat) : Prop := q < 81 ∧ ∀ r, mm_cell Γ q r = .inl (mm_cZ Γ, n, .inl r)
def mm_ob (Γ : mm_Ctx) (q ci : Nat) (F : (Nat → Int32) → List Value) : Prop := q < 81 ∧ ∀ r, mm_cell Γ q r = .inr (ci, F r)
/-! locals -/
def mm_kn : Nat → List (Option Value) → List (Nat × Value)
  | _, [] => []
  | i, none :: l => mm_kn (i + 1) l
  | i, some v :: l => (i, v) :: mm_kn (i + 1) l
theorem mm_kn_mem : ∀ (L : List (Option Value)) (i j : Nat) (v : Value), (j, v) ∈ mm_kn i L ↔ ∃ t, j = i + t ∧ L[t]? = some (some v)
  | [], i, j, v => by simp [mm_kn]
  | none :: l, i, j, v => by
    rw [mm_kn, mm_kn_mem l (i + 1) j v]
    constructor
    · rintro ⟨t, rfl, h⟩
      exact ⟨t + 1, by omega, by simpa using h⟩
    · rintro ⟨t, rfl, h⟩
      cases t with
      | zero => simp at h
      | succ t => exact ⟨t, by omega, by simpa using h⟩
  | some w :: l, i, j, v => by
    rw [mm_kn, List.mem_cons, mm_kn_mem l (i + 1) j v]
    constructor
    · rintro (h | ⟨t, rfl, h⟩)
      · cases h
        exact ⟨0, by omega, by simp⟩
      · exact ⟨t + 1, by omega, by simpa using h⟩
    · rintro ⟨t, rfl, h⟩
      cases t with
      | zero =>
        simp at h
        left
        rw [h]
        rfl
      | succ t => exact Or.inr ⟨t, by omega, by simpa using h⟩
def mm_L (ls : Array Slot) (nL : Nat) (L : List (Option Value)) : Prop := lv_has ls nL (mm_kn 0 L) ∧ ∀ (i : Nat) (v : Value), L[i]? = some (some v) → v.category = 1
theorem mm_L_at {ls : Array Slot} {nL : Nat} {L : List (Option Value)} (h : mm_L ls nL L) {i : Nat} {v : Value} (hi : L[i]? = some (some v)) : ls[i]? = some (.val v) :=
  h.1.2.2 (i, v) ((mm_kn_mem L 0 i v).mpr ⟨i, by omega, hi⟩)
theorem mm_L_set {ls ls' : Array Slot} {nL i : Nat} {L : List (Option Value)} {v : Value} (h : mm_L ls nL L) (hv : v.category = 1) (h' : lv_has ls' nL ((i, v) :: (mm_kn 0 L).filter (fun q => !(q.1 == i) && !(q.1 + 1 == i && q.2.category == 2)))) : mm_L ls' nL (L.set i (some v)) := by
  refine ⟨⟨h'.1, h'.2.1, fun q hq => h'.2.2 q ?_⟩, fun j w hj => ?_⟩
  · obtain ⟨j, w⟩ := q
    obtain ⟨t, e1, e2⟩ := (mm_kn_mem _ 0 j w).mp hq
    have e3 : j = t := by omega
    subst e3
    rw [List.getElem?_set] at e2
    by_cases hji : i = j
    · subst hji
      rw [if_pos rfl] at e2
      split at e2
      · cases e2
        exact List.mem_cons_self
      · cases e2
    · rw [if_neg hji] at e2
      refine List.mem_cons_of_mem _ (List.mem_filter.mpr ⟨(mm_kn_mem L 0 j w).mpr ⟨j, by omega, e2⟩, ?_⟩)
      have hc := h.2 j w e2
      have : ¬ j = i := fun e => hji e.symm
      simp [hc, this]
  · rw [List.getElem?_set] at hj
    by_cases hji : i = j
    · subst hji
      rw [if_pos rfl] at hj
      split at hj
      · cases hj
        exact hv
      · cases hj
    · rw [if_neg hji] at hj
      exact h.2 j w hj
/-- fewer known locals -/
theorem mm_L_sub {ls : Array Slot} {nL : Nat} {L L' : List (Option Value)} (h : mm_L ls nL L) (hs : ∀ (i : Nat) (v : Value), L'[i]? = some (some v) → L[i]? = some (some v)) : mm_L ls nL L' := by
  refine ⟨⟨h.1.1, h.1.2.1, fun q hq => ?_⟩, fun j w hj => h.2 j w (hs j w hj)⟩
  obtain ⟨j, w⟩ := q
  obtain ⟨t, e1, e2⟩ := (mm_kn_mem _ 0 j w).mp hq
  have e3 : j = t := by omega
  subst e3
  exact mm_L_at h (hs j w e2)
def mm_le : List (Option Value) → List (Option Value) → Prop
  | [], _ => True
  | none :: l, [] => mm_le l []
  | some _ :: _, [] => False
  | none :: l, _ :: r => mm_le l r
  | some v :: l, w :: r => w = some v ∧ mm_le l r
theorem mm_le_at : ∀ (L' L : List (Option Value)), mm_le L' L → ∀ (i : Nat) (v : Value), L'[i]? = some (some v) → L[i]? = some (some v)
  | [], _, _, i, v, hi => by simp at hi
  | none :: l, [], h, i, v, hi => by
    cases i with
    | zero => simp at hi
    | succ i =>
      have := mm_le_at l [] h i v (by simpa using hi)
      simp at this
  | some _ :: _, [], h, _, _, _ => h.elim
  | none :: l, w :: r, h, i, v, hi => by
    cases i with
    | zero => simp at hi
    | succ i =>
      have := mm_le_at l r h i v (by simpa using hi)
      simpa using this
  | some u :: l, w :: r, h, i, v, hi => by
    cases i with
    | zero =>
      simp at hi
      simp [h.1, hi]
    | succ i =>
      have := mm_le_at l r h.2 i v (by simpa using hi)
      simpa using this
/-! the judgement -/
abbrev mm_E : Type := Room × Nat × Nat × (Array Value → State → Prop) × (List Frame → Array Value → State → State → Prop)
def mm_Fx (Γ : mm_Ctx) (M : mm_MD) (p : Program) (s : State) (m : MethodId) (args : Array Value) (meth : Method) (c : Code) : Prop :=
  p.tables.exec = Jvm.exec ∧ c.code = M.2.1 ∧ meth.sig.returnType = M.2.2.2.1 ∧ c.maxLocals = M.2.2.1 ∧ s.vm.findClass M.1.cls = some m.cls ∧ (∀ w ∈ mm_all, w.before args s = true) ∧ meth.locks = false ∧ mm_KW Γ s
def mm_WG (Γ : mm_Ctx) (M : mm_MD) (E : mm_E) (pc : Nat) (L : List (Option Value)) (st : List Value) (h : mm_Mem) : Prop :=
  ∀ (p : Program) (e : Env) (s : State) (m : MethodId) (args : Array Value) (below : List Frame) (meth : Method) (c : Code), mm_Fx Γ M p s m args meth c → E.2.2.2.1 args s →
    ∀ (H : Heap) (locs : List Loc) (ls : Array Slot), mm_PW Γ h H → va_S (mm_A Γ) s.heap H locs → mm_L ls M.2.2.1 L →
      W p Γ.1 e E.1 s m args below meth c H locs E.2.1 E.2.2.1 (E.2.2.2.2 below args s) (F0 m pc ls st)
def mm_Q (Γ : mm_Ctx) (post : Option Value → mm_Mem → Prop) : Array Value → State → Outcome → State → Prop := fun _ st oc t =>
  (∃ (r : Option Value) (h' : mm_Mem), oc = .returned r ∧ post r h' ∧ mm_PW Γ h' t.heap ∧ mm_KW Γ t) ∧ va_F (mm_A Γ) st t
abbrev mm_Em (Γ : mm_Ctx) (M : mm_MD) (post : Option Value → mm_Mem → Prop) : mm_E := (mm_rm M, 0, 0, (fun _ _ => True), (fun below args s => MQ below (mm_Q Γ post) args s 0 0 (mm_A Γ)))
abbrev mm_W (Γ : mm_Ctx) (M : mm_MD) (post : Option Value → mm_Mem → Prop) (pc : Nat) (L : List (Option Value)) (st : List Value) (h : mm_Mem) : Prop := mm_WG Γ M (mm_Em Γ M post) pc L st h
def mm_S (Γ : mm_Ctx) (M : mm_MD) (args : List Value) (h : mm_Mem) (post : Option Value → mm_Mem → Prop) : Prop :=
  Met Γ.1 M.1 (mm_wsM M) (mm_rm M) (va_Pc args (fun U => mm_PW Γ h U.heap ∧ mm_KW Γ U)) (mm_Q Γ post) 0 0 (mm_A Γ)
abbrev mm_pI (post : Int32 → mm_Mem → Prop) : Option Value → mm_Mem → Prop := fun r h' => ∃ x, r = some (.int x) ∧ post x h'
abbrev mm_pV (post : mm_Mem → Prop) : Option Value → mm_Mem → Prop := fun r h' => r = none ∧ post h'
abbrev mm_SI (Γ : mm_Ctx) (M : mm_MD) (args : List Value) (h : mm_Mem) (post : Int32 → mm_Mem → Prop) : Prop := mm_S Γ M args h (mm_pI post)
abbrev mm_SV (Γ : mm_Ctx) (M : mm_MD) (args : List Value) (h : mm_Mem) (post : mm_Mem → Prop) : Prop := mm_S Γ M args h (mm_pV post)
