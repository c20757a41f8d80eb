/-! pure toolbox -/
def mmB (r : Int32) (P : Prop) : Prop := (P ∧ r = 1) ∨ (¬ P ∧ r = 0)
theorem mmB_1 {P : Prop} (h : P) : mmB 1 P := Or.inl ⟨h, rfl⟩
theorem mmB_0 {P : Prop} (h : ¬ P) : mmB 0 P := Or.inr ⟨h, rfl⟩
theorem mmB_iff {r : Int32} {P P' : Prop} (h : mmB r P) (e : P ↔ P') : mmB r P' := by
  rcases h with ⟨h1, h2⟩ | ⟨h1, h2⟩
  · exact Or.inl ⟨e.mp h1, h2⟩
  · exact Or.inr ⟨fun q => h1 (e.mpr q), h2⟩
theorem mmB_z {r : Int32} {P : Prop} (h : mmB r P) : r = 0 ∨ r = 1 := by
  rcases h with ⟨h1, h2⟩ | ⟨h1, h2⟩
  · exact Or.inr h2
  · exact Or.inl h2
theorem mmB_br {r : Int32} {P X Y : Prop} (h : mmB r P) (t : P → Y) (f : ¬ P → X) : (r = 0 → X) ∧ (¬ r = 0 → Y) := by
  rcases h with ⟨h1, h2⟩ | ⟨h1, h2⟩
  · subst h2
    exact ⟨fun q => absurd q (by decide), fun _ => t h1⟩
  · subst h2
    exact ⟨fun _ => f h1, fun q => absurd rfl q⟩
theorem mmB_eq {r r' : Int32} {P P' : Prop} (h : mmB r P) (h' : mmB r' P') (e : P ↔ P') : r = r' := by
  rcases h with ⟨h1, h2⟩ | ⟨h1, h2⟩ <;> rcases h' with ⟨g1, g2⟩ | ⟨g1, g2⟩
  · rw [h2, g2]
  · exact absurd (e.mp h1) g1
  · exact absurd (e.mpr g1) h1
  · rw [h2, g2]
section US
variable {Γ : mm_Ctx} {M : mm_MD} {av : List Value} {h : mm_Mem} {P : Prop}
abbrev mm_B1 (Γ : mm_Ctx) (M : mm_MD) (av : List Value) (h : mm_Mem) (P : Prop) : Prop := mm_SI Γ M av h (fun r h' => h' = h ∧ mmB r P)
abbrev mm_I1 (Γ : mm_Ctx) (M : mm_MD) (av : List Value) (h : mm_Mem) (e : Int32) : Prop := mm_SI Γ M av h (fun r h' => h' = h ∧ r = e)
theorem us_br {X Y : mm_Mem → Prop} (sp : mm_B1 Γ M av h P) (t : P → Y h) (f : ¬ P → X h) : mm_SI Γ M av h (fun r h' => (r = 0 → X h') ∧ (¬ r = 0 → Y h')) :=
  mm_SI_mono sp (fun r h' q => by
    obtain ⟨rfl, q⟩ := q
    exact mmB_br q t f)
theorem us_br' {X Y : mm_Mem → Prop} (sp : mm_B1 Γ M av h P) (t : P → Y h) (f : ¬ P → X h) : mm_SI Γ M av h (fun r h' => (¬ r = 0 → Y h') ∧ (r = 0 → X h')) :=
  mm_SI_mono sp (fun r h' q => by
    obtain ⟨rfl, q⟩ := q
    exact ⟨(mmB_br q t f).2, (mmB_br q t f).1⟩)
theorem us_z {X : Int32 → mm_Mem → Prop} (sp : mm_B1 Γ M av h P) (t : P → X 1 h) (f : ¬ P → X 0 h) : mm_SI Γ M av h (fun r h' => (r = 0 ∨ r = 1) ∧ X r h') :=
  mm_SI_mono sp (fun r h' q => by
    obtain ⟨rfl, q⟩ := q
    refine ⟨mmB_z q, ?_⟩
    rcases q with ⟨h1, rfl⟩ | ⟨h1, rfl⟩
    · exact t h1
    · exact f h1)
theorem us_eq {X : Int32 → mm_Mem → Prop} {e : Int32} (sp : mm_I1 Γ M av h e) (k : X e h) : mm_SI Γ M av h X :=
  mm_SI_mono sp (fun r h' q => by
    obtain ⟨rfl, rfl⟩ := q
    exact k)
theorem us_b {X : Int32 → mm_Mem → Prop} (sp : mm_B1 Γ M av h P) (k : ∀ r, mmB r P → X r h) : mm_SI Γ M av h X :=
  mm_SI_mono sp (fun r h' q => by
    obtain ⟨rfl, q⟩ := q
    exact k r q)
end US
theorem br_n {c A B : Prop} (h : ¬ c) (a : A) : (¬ c → A) ∧ (c → B) := ⟨fun _ => a, fun q => absurd q h⟩
theorem br_p {c A B : Prop} (h : c) (b : B) : (¬ c → A) ∧ (c → B) := ⟨fun q => absurd h q, fun _ => b⟩
theorem br_cn {c A B : Prop} (a : ¬ c → A) (b : c → B) : (¬ c → A) ∧ (c → B) := ⟨a, b⟩
theorem vin_iff {x : Int32} {n : Nat} (hn : n < 2 ^ 31) : vp_in x n ↔ ¬ x < 0 ∧ ¬ nI n ≤ x := by
  rw [vp_in_iff, Int32.lt_iff_toInt_lt, Int32.le_iff_toInt_le, nI_toInt hn, Int32.toInt_zero]
  omega
theorem vin_of {x : Int32} {n : Nat} (h : vp_in x n) (hn : n < 2 ^ 31) : ∃ j, j < n ∧ x = nI j ∧ x.toNatClampNeg = j := by
  obtain ⟨j, h1, rfl⟩ := vp_in_of h hn
  exact ⟨j, h1, rfl, nI_clamp (by omega)⟩
theorem vin_nI {k n : Nat} (hk : k < 2 ^ 31) : vp_in (nI k) n ↔ k < n := by
  rw [vp_in_iff, nI_toInt hk]
  omega
/-- a number in 0 .. n -/
def rg (x : Int32) (n : Nat) : Prop := ∃ k, k ≤ n ∧ x = nI k
theorem rg_cl {x : Int32} {n : Nat} (h : rg x n) (hn : n < 2 ^ 31) : x = nI x.toNatClampNeg ∧ x.toNatClampNeg ≤ n := by
  obtain ⟨k, h1, rfl⟩ := h
  rw [nI_clamp (by omega)]
  exact ⟨rfl, h1⟩
theorem nI_in' {a b : Nat} (ha : a < 2 ^ 31) (hb : b < 2 ^ 31) (h : nI a = nI b) : a = b := (nI_eq ha hb).mp h
theorem mw_ne {h : mm_Mem} {q i q' : Nat} {x : Int32} (hne : q' ≠ q) : mm_wr h q i x q' = h q' := by
  funext j
  simp [mm_wr, va_up, hne]
theorem mw_eq {h : mm_Mem} {q i : Nat} {x : Int32} : mm_wr h q i x q = upd (h q) i x := by
  funext j
  simp [mm_wr, va_up]
theorem mw_at {h : mm_Mem} {q i q' j : Nat} {x : Int32} : mm_wr h q i x q' j = if q' = q ∧ j = i then x else h q' j := by
  by_cases h1 : q' = q
  · subst h1
    rw [mw_eq]
    simp [upd]
  · rw [mw_ne h1]
    simp [h1]
theorem mc_ne {h : mm_Mem} {q0 q1 n q' : Nat} (hne : q' ≠ q1) : mm_cp h q0 q1 n q' = h q' := by
  funext j
  simp [mm_cp, va_up, hne]
theorem mc_at {h : mm_Mem} {q0 q1 n j : Nat} : mm_cp h q0 q1 n q1 j = if j < n then h q0 j else h q1 j := by
  simp [mm_cp, va_up, va_cpy]
/-! leaves of the class -/
section LF
variable {Γ : mm_Ctx} {h : mm_Mem}
theorem sp_isWithin {x b : Int32} : mm_B1 Γ smM_S_isWithin [.int x, .int b] h (¬ x < 0 ∧ ¬ b ≤ x) :=
  smr_S_isWithin _ _ ⟨fun h1 => ⟨rfl, mmB_0 (fun q => q.1 h1)⟩, fun h1 => ⟨fun h2 => ⟨rfl, mmB_0 (fun q => q.2 h2)⟩, fun h2 => ⟨rfl, mmB_1 ⟨h1, h2⟩⟩⟩⟩
theorem sp_within {x : Int32} (n : Nat) {b : Int32} (hb : b = nI n) (hn : n < 2 ^ 31) : mm_B1 Γ smM_S_isWithin [.int x, .int b] h (vp_in x n) := by
  subst hb
  exact mm_SI_mono sp_isWithin (fun r h' q => ⟨q.1, mmB_iff q.2 (vin_iff hn).symm⟩)
theorem sp_V_at {x y : Int32} : mm_I1 Γ smM_V_at [.int x, .int y] h (x * 12 + y) := smr_V_at _ _ ⟨rfl, rfl⟩
theorem sp_at {x y : Int32} (p i : Nat) (hx : x = nI p) (hy : y = nI i) : mm_I1 Γ smM_V_at [.int x, .int y] h (nI (12 * p + i)) := by
  subst hx
  subst hy
  refine mm_SI_mono sp_V_at (fun r h' q => ⟨q.1, ?_⟩)
  rw [q.2]
  show nI p * nI 12 + nI i = _
  rw [pk_mul, nI_add, Nat.mul_comm]
theorem sp_isLocal {x : Int32} : mm_B1 Γ smM_V_isLocal [.int x] h (vp_in x 3) :=
  smr_V_isLocal _ (us_z (sp_within 3 rfl (by decide)) (fun q => ⟨rfl, mmB_1 q⟩) (fun q => ⟨rfl, mmB_0 q⟩))
theorem sp_M_isProcedure {x : Int32} : mm_B1 Γ smM_M_isProcedure [.int x] h (vp_in x 6) :=
  smr_M_isProcedure _ ⟨fun h1 => ⟨rfl, mmB_0 (fun q => ((vin_iff (by decide)).mp q).1 h1)⟩, fun h1 => ⟨fun h2 => ⟨rfl, mmB_0 (fun q => ((vin_iff (by decide)).mp q).2 h2)⟩, fun h2 => ⟨rfl, mmB_1 ((vin_iff (by decide)).mpr ⟨h1, h2⟩)⟩⟩⟩
theorem sp_M_isType {x : Int32} : mm_B1 Γ smM_M_isType [.int x] h (vp_in x 3) :=
  smr_M_isType _ ⟨fun h1 => ⟨rfl, mmB_0 (fun q => ((vin_iff (by decide)).mp q).1 h1)⟩, fun h1 => ⟨fun h2 => ⟨rfl, mmB_0 (fun q => ((vin_iff (by decide)).mp q).2 h2)⟩, fun h2 => ⟨rfl, mmB_1 ((vin_iff (by decide)).mpr ⟨h1, h2⟩)⟩⟩⟩
theorem sp_M_isLocal {x : Int32} : mm_B1 Γ smM_M_isLocal [.int x] h (vp_in x 3) :=
  smr_M_isLocal _ ⟨fun h1 => ⟨rfl, mmB_0 (fun q => ((vin_iff (by decide)).mp q).1 h1)⟩, fun h1 => ⟨fun h2 => ⟨rfl, mmB_0 (fun q => ((vin_iff (by decide)).mp q).2 h2)⟩, fun h2 => ⟨rfl, mmB_1 ((vin_iff (by decide)).mpr ⟨h1, h2⟩)⟩⟩⟩
theorem sp_M_frameAt {x y : Int32} (t k : Nat) (hx : x = nI t) (hy : y = nI k) : mm_I1 Γ smM_M_frameAt [.int x, .int y] h (nI (36 * t + 6 * k)) := by
  subst hx
  subst hy
  refine smr_M_frameAt _ _ ⟨rfl, ?_⟩
  show nI 36 * nI t + nI 6 * nI k = _
  rw [pk_mul, pk_mul, nI_add]
/-- the number j+1 of a task that was begun -/
theorem task_of {x : Int32} {n : Nat} (hn : n ≤ 6) : (¬ x < 1 ∧ ¬ nI n < x) ↔ ∃ j, j < n ∧ x = nI (j + 1) := by
  constructor
  · rintro ⟨h1, h2⟩
    have e1 : ¬ x.toInt < 1 := by
      intro q
      exact h1 (Int32.lt_iff_toInt_lt.mpr (by simpa using q))
    have e2 : ¬ (n : Int) < x.toInt := by
      intro q
      exact h2 (Int32.lt_iff_toInt_lt.mpr (by rw [nI_toInt (by omega)]; exact q))
    refine ⟨x.toInt.toNat - 1, by omega, Int32.toInt_inj.mp ?_⟩
    rw [nI_toInt (by omega)]
    omega
  · rintro ⟨j, h1, rfl⟩
    refine ⟨?_, nI_nlt (by omega) (by omega)⟩
    exact nI_nlt (a := j + 1) (b := 1) (by omega) (by omega)
theorem sp_S_isTask {x : Int32} {n : Nat} (hn : n ≤ 6) (e : h 0 6 = nI n) : mm_B1 Γ smM_S_isTask [.ref (mm_B Γ + 0), .int x] h (∃ j, j < n ∧ x = nI (j + 1)) := by
  refine smr_S_isTask _ ⟨fun h1 => ⟨rfl, mmB_0 (fun q => ((task_of hn).mpr q).1 h1)⟩, fun h1 => ⟨fun h2 => ⟨rfl, mmB_0 (fun q => ((task_of hn).mpr q).2 (by rw [← e]; exact h2))⟩, fun h2 => ⟨rfl, mmB_1 ((task_of hn).mp ⟨h1, by rw [← e]; exact h2⟩)⟩⟩⟩
theorem sp_M_isTask {x : Int32} {n : Nat} (hn : n ≤ 6) (e : h 64 12 = nI n) : mm_B1 Γ smM_M_isTask [.ref (mm_B Γ + 64), .int x] h (∃ j, j < n ∧ x = nI (j + 1)) := by
  refine smr_M_isTask _ ⟨fun h1 => ⟨rfl, mmB_0 (fun q => ((task_of hn).mpr q).1 h1)⟩, fun h1 => ⟨fun h2 => ⟨rfl, mmB_0 (fun q => ((task_of hn).mpr q).2 (by rw [← e]; exact h2))⟩, fun h2 => ⟨rfl, mmB_1 ((task_of hn).mp ⟨h1, by rw [← e]; exact h2⟩)⟩⟩⟩
end LF
