section SP
variable {Γ : mm_Ctx}
def tpush (g : mm_Mem) (j d : Nat) (p a to : Int32) : mm_Mem := mm_wr (mm_wr (mm_wr (mm_wr (mm_wr (mm_wr (mm_wr g (28 + 6 * j + 1) d p) (28 + 6 * j + 2) d 0) (28 + 6 * j + 4) d to) (28 + 6 * j) 5 (nI (d + 1))) (28 + 6 * j + 3) (3 * d) a) (28 + 6 * j + 3) (3 * d + 1) 0) (28 + 6 * j + 3) (3 * d + 2) 0
def mpush (h : mm_Mem) (T d : Nat) (p a to : Int32) : mm_Mem := mm_wr (mm_wr (mm_wr (mm_wr (mm_wr (mm_wr (mm_wr h 78 (36 * T + 6 * d) p) 78 (36 * T + 6 * d + 1) 0) 78 (36 * T + 6 * d + 2) a) 78 (36 * T + 6 * d + 3) 0) 78 (36 * T + 6 * d + 4) 0) 78 (36 * T + 6 * d + 5) to) 77 T (nI (d + 1))
theorem loc_ix {d x : Nat} : (nI (d + 1) - 1) * 3 + nI x = nI (3 * d + x) := by
  rw [nI_pred]
  show nI d * nI 3 + nI x = _
  rw [pk_mul, nI_add, Nat.mul_comm]
theorem sp_T_local {g : mm_Mem} {j d x : Nat} (hj : j < 6) (hd : d < 6) (ed : g (28 + 6 * j) 5 = nI (d + 1)) (hx : x < 3) : mm_I1 Γ smM_T_local [.ref (mm_B Γ + (28 + 6 * j)), .int (nI x)] g (g (28 + 6 * j + 3) (3 * d + x)) := by
  refine smr_T_local (isT_j hj) _ ?_
  rw [ed, loc_ix, nI_clamp (by omega)]
  exact ⟨vp_in_nI (by omega) (by decide), rfl, rfl⟩
theorem sp_T_setLocal {g : mm_Mem} {j d x : Nat} (hj : j < 6) (hd : d < 6) (ed : g (28 + 6 * j) 5 = nI (d + 1)) (hx : x < 3) (v : Int32) : mm_SV Γ smM_T_setLocal [.ref (mm_B Γ + (28 + 6 * j)), .int (nI x), .int v] g (fun g' => g' = mm_wr g (28 + 6 * j + 3) (3 * d + x) v) := by
  refine smr_T_setLocal (isT_j hj) _ _ ?_
  rw [ed, loc_ix, nI_clamp (by omega)]
  exact ⟨vp_in_nI (by omega) (by decide), fun h1 e1 => e1⟩
theorem sp_T_push {g : mm_Mem} {j d : Nat} (hj : j < 6) (hd : d < 6) (ed : g (28 + 6 * j) 5 = nI d) (p a to : Int32) : mm_SV Γ smM_T_push [.ref (mm_B Γ + (28 + 6 * j)), .int p, .int a, .int to] g (fun g' => g' = tpush g j d p a to) := by
  have ht := isT_j hj
  have v6 : vp_in (nI d) 6 := vp_in_nI hd (by decide)
  refine smr_T_push ht _ _ _ ?_
  rw [ed, nI_clamp (by omega)]
  refine ⟨v6, fun h9 e9 => ?_⟩
  have d9 : h9 (28 + 6 * j) 5 = nI d := by rw [e9, mw_miss (by omega), ed]
  rw [d9, nI_clamp (by omega)]
  refine ⟨v6, fun h19 e19 => ?_⟩
  have d19 : h19 (28 + 6 * j) 5 = nI d := by rw [e19, mw_miss (by omega), d9]
  rw [d19, nI_clamp (by omega)]
  refine ⟨v6, fun h29 e29 h37 e37 => ?_⟩
  have d29 : h29 (28 + 6 * j) 5 = nI d := by rw [e29, mw_miss (by omega), d19]
  rw [d29, nI_1] at e37
  have d37 : h37 (28 + 6 * j) 5 = nI (d + 1) := by rw [e37, mw_hit]
  refine us_v (sp_T_setLocal (x := 0) hj hd d37 (by omega) a) ?_
  refine smr_T_push_49 ht _ (br_f (by decide) (us_v (sp_T_setLocal (x := 1) hj hd (by rw [mw_miss (by omega)]; exact d37) (by omega) 0) ?_))
  refine smr_T_push_49 ht _ (br_f (by decide) (us_v (sp_T_setLocal (x := 2) hj hd (by rw [mw_miss (by omega), mw_miss (by omega)]; exact d37) (by omega) 0) ?_))
  refine smr_T_push_49 ht _ (br_t (by decide) ?_)
  rw [e37, e29, e19, e9]
  rfl
theorem sp_M_push {h : mm_Mem} {T d : Nat} (hT : T < 7) (hd : d < 6) (ed : h 77 T = nI d) (p a to : Int32) : mm_SV Γ smM_M_push [.ref (mm_B Γ + 64), .int (nI T), .int p, .int a, .int to] h (fun h' => h' = mpush h T d p a to) := by
  have v7 : vp_in (nI T) 7 := vp_in_nI hT (by decide)
  refine smr_M_push _ _ _ _ ?_
  rw [nI_clamp (n := T) (by omega), ed]
  refine ⟨v7, us_eq (sp_M_frameAt T d rfl rfl) ?_⟩
  have g1 : nI (36 * T + 6 * d) + 1 = nI (36 * T + 6 * d + 1) := nI_add _ 1
  have g2 : nI (36 * T + 6 * d) + 2 = nI (36 * T + 6 * d + 2) := nI_add _ 2
  have g3 : nI (36 * T + 6 * d) + 3 = nI (36 * T + 6 * d + 3) := nI_add _ 3
  have g4 : nI (36 * T + 6 * d) + 4 = nI (36 * T + 6 * d + 4) := nI_add _ 4
  have g5 : nI (36 * T + 6 * d) + 5 = nI (36 * T + 6 * d + 5) := nI_add _ 5
  rw [g1, g2, g3, g4, g5, nI_clamp (n := 36 * T + 6 * d) (by omega), nI_clamp (n := 36 * T + 6 * d + 1) (by omega), nI_clamp (n := 36 * T + 6 * d + 2) (by omega), nI_clamp (n := 36 * T + 6 * d + 3) (by omega), nI_clamp (n := 36 * T + 6 * d + 4) (by omega), nI_clamp (n := 36 * T + 6 * d + 5) (by omega)]
  refine ⟨vp_in_nI (by omega) (by decide), fun m1 e1 => ⟨vp_in_nI (by omega) (by decide), fun m2 e2 => ⟨vp_in_nI (by omega) (by decide), fun m3 e3 => ⟨vp_in_nI (by omega) (by decide), fun m4 e4 => ⟨vp_in_nI (by omega) (by decide), fun m5 e5 => ⟨vp_in_nI (by omega) (by decide), fun m6 e6 => ⟨v7, v7, fun m7 e7 => ?_⟩⟩⟩⟩⟩⟩⟩
  have d6 : m6 77 T = nI d := by rw [e6, mw_miss (by omega), e5, mw_miss (by omega), e4, mw_miss (by omega), e3, mw_miss (by omega), e2, mw_miss (by omega), e1, mw_miss (by omega), ed]
  rw [e7, d6, nI_1, e6, e5, e4, e3, e2, e1]
  rfl
theorem tpush_ne {g : mm_Mem} {j d q : Nat} {p a to : Int32} (hq : ¬ (28 + 6 * j ≤ q ∧ q ≤ 28 + 6 * j + 4)) : tpush g j d p a to q = g q := by
  unfold tpush
  simp (disch := omega) only [mw_ne]
theorem mpush_ne {h : mm_Mem} {T d q : Nat} {p a to : Int32} (hq : ¬ (q = 77 ∨ q = 78)) : mpush h T d p a to q = h q := by
  unfold mpush
  simp (disch := omega) only [mw_ne]
theorem tpush_5 {g : mm_Mem} {j d : Nat} {p a to : Int32} : tpush g j d p a to (28 + 6 * j) 5 = nI (d + 1) := by
  unfold tpush
  simp (disch := omega) only [mw_miss, mw_hit]
theorem tpush_o {g : mm_Mem} {j d k : Nat} {p a to : Int32} (hk : ¬ k = 5) : tpush g j d p a to (28 + 6 * j) k = g (28 + 6 * j) k := by
  unfold tpush
  simp (disch := omega) only [mw_miss]
theorem tpush_old {g : mm_Mem} {j d k : Nat} {p a to : Int32} (hk : k < d) : tpush g j d p a to (28 + 6 * j + 1) k = g (28 + 6 * j + 1) k ∧ tpush g j d p a to (28 + 6 * j + 2) k = g (28 + 6 * j + 2) k ∧ (∀ x, x < 3 → tpush g j d p a to (28 + 6 * j + 3) (3 * k + x) = g (28 + 6 * j + 3) (3 * k + x)) ∧ tpush g j d p a to (28 + 6 * j + 4) k = g (28 + 6 * j + 4) k := by
  unfold tpush
  refine ⟨?_, ?_, fun x hx => ?_, ?_⟩ <;> simp (disch := omega) only [mw_miss]
theorem tpush_new {g : mm_Mem} {j d : Nat} {p a to : Int32} : tpush g j d p a to (28 + 6 * j + 1) d = p ∧ tpush g j d p a to (28 + 6 * j + 2) d = 0 ∧ tpush g j d p a to (28 + 6 * j + 3) (3 * d) = a ∧ tpush g j d p a to (28 + 6 * j + 3) (3 * d + 1) = 0 ∧ tpush g j d p a to (28 + 6 * j + 3) (3 * d + 2) = 0 ∧ tpush g j d p a to (28 + 6 * j + 4) d = to := by
  unfold tpush
  refine ⟨?_, ?_, ?_, ?_, ?_, ?_⟩ <;> simp (disch := omega) only [mw_miss, mw_hit]
theorem mpush_77 {h : mm_Mem} {T d x : Nat} {p a to : Int32} : mpush h T d p a to 77 x = if x = T then nI (d + 1) else h 77 x := by
  unfold mpush
  by_cases hx : x = T
  · subst hx
    rw [mw_hit, if_pos rfl]
  · rw [if_neg hx]
    simp (disch := omega) only [mw_miss]
theorem mpush_out {h : mm_Mem} {T d x : Nat} {p a to : Int32} (hx : ¬ (36 * T + 6 * d ≤ x ∧ x < 36 * T + 6 * d + 6)) : mpush h T d p a to 78 x = h 78 x := by
  unfold mpush
  simp (disch := omega) only [mw_miss]
theorem mpush_new {h : mm_Mem} {T d : Nat} {p a to : Int32} : mpush h T d p a to 78 (36 * T + 6 * d) = p ∧ mpush h T d p a to 78 (36 * T + 6 * d + 1) = 0 ∧ mpush h T d p a to 78 (36 * T + 6 * d + 2) = a ∧ mpush h T d p a to 78 (36 * T + 6 * d + 3) = 0 ∧ mpush h T d p a to 78 (36 * T + 6 * d + 4) = 0 ∧ mpush h T d p a to 78 (36 * T + 6 * d + 5) = to := by
  unfold mpush
  refine ⟨?_, ?_, ?_, ?_, ?_, ?_⟩ <;> simp (disch := omega) only [mw_miss, mw_hit]
theorem mpush_78 {h h' : mm_Mem} {T d : Nat} {p a to : Int32} (e : h 78 = h' 78) : mpush h T d p a to 78 = mpush h' T d p a to 78 := by
  funext x
  by_cases hx : 36 * T + 6 * d ≤ x ∧ x < 36 * T + 6 * d + 6
  · obtain ⟨m1, m2, m3, m4, m5, m6⟩ := mpush_new (h := h) (T := T) (d := d) (p := p) (a := a) (to := to)
    obtain ⟨n1, n2, n3, n4, n5, n6⟩ := mpush_new (h := h') (T := T) (d := d) (p := p) (a := a) (to := to)
    have : x = 36 * T + 6 * d ∨ x = 36 * T + 6 * d + 1 ∨ x = 36 * T + 6 * d + 2 ∨ x = 36 * T + 6 * d + 3 ∨ x = 36 * T + 6 * d + 4 ∨ x = 36 * T + 6 * d + 5 := by omega
    rcases this with rfl | rfl | rfl | rfl | rfl | rfl
    · exact m1.trans n1.symm
    · exact m2.trans n2.symm
    · exact m3.trans n3.symm
    · exact m4.trans n4.symm
    · exact m5.trans n5.symm
    · exact m6.trans n6.symm
  · rw [mpush_out hx, mpush_out hx, e]
/-- the frames of a task, on both sides -/
def Lfr (g h : mm_Mem) (i d : Nat) : Prop := ∀ k, k < d → h 78 (36 * (i + 1) + 6 * k) = g (28 + 6 * i + 1) k ∧ h 78 (36 * (i + 1) + 6 * k + 1) = g (28 + 6 * i + 2) k ∧ (∀ x, x < 3 → h 78 (36 * (i + 1) + 6 * k + 2 + x) = g (28 + 6 * i + 3) (3 * k + x)) ∧ h 78 (36 * (i + 1) + 6 * k + 5) = g (28 + 6 * i + 4) k
theorem push_Lfr {g h : mm_Mem} {j d : Nat} {p a to : Int32} (k : Lfr g h j d) : Lfr (tpush g j d p a to) (mpush h (j + 1) d p a to) j (d + 1) := by
  intro x hx
  by_cases hd : x = d
  · subst hd
    obtain ⟨t1, t2, t3, t4, t5, t6⟩ := tpush_new (g := g) (j := j) (d := x) (p := p) (a := a) (to := to)
    obtain ⟨m1, m2, m3, m4, m5, m6⟩ := mpush_new (h := h) (T := j + 1) (d := x) (p := p) (a := a) (to := to)
    refine ⟨m1.trans t1.symm, m2.trans t2.symm, fun y hy => ?_, m6.trans t6.symm⟩
    have : y = 0 ∨ y = 1 ∨ y = 2 := by omega
    rcases this with rfl | rfl | rfl
    · exact m3.trans t3.symm
    · exact m4.trans t4.symm
    · exact m5.trans t5.symm
  · obtain ⟨t1, t2, t3, t4⟩ := tpush_old (g := g) (j := j) (d := d) (p := p) (a := a) (to := to) (k := x) (by omega)
    obtain ⟨f1, f2, f3, f4⟩ := k x (by omega)
    refine ⟨by rw [t1, mpush_out (by omega)]; exact f1, by rw [t2, mpush_out (by omega)]; exact f2, fun y hy => ?_, by rw [t4, mpush_out (by omega)]; exact f4⟩
    rw [t3 y hy, mpush_out (by omega)]
    exact f3 y hy
theorem sp_hasProcedure {v : Nat} (hv : v = 1 ∨ v = 8) {h : mm_Mem} {x : Int32} : mm_B1 Γ smM_V_hasProcedure [.ref (mm_B Γ + v), .int x] h (vp_in x 6 ∧ ¬ h (v + 1) x.toNatClampNeg ≤ 0) :=
  smr_V_hasProcedure hv _ (us_br (sp_within 6 rfl (by decide)) (fun a => ⟨a, fun b => ⟨rfl, mmB_0 (fun q => q.2 b)⟩, fun b => ⟨rfl, mmB_1 ⟨a, b⟩⟩⟩) (fun a => ⟨rfl, mmB_0 (fun q => a q.1)⟩))
theorem Rel_spawn {h : mm_Mem} (hR : Rel h) {n p l : Nat} (hT : Itasks h n) (hn : n < 6) (hp : p < 6) (el : h 2 p = nI l) (hl : 0 < l) (hl2 : l ≤ 12) (a : Int32) : Rel (mpush (mm_wr (mm_wr (tpush h n 0 (nI p) a 0) 0 6 (nI (n + 1))) 64 12 (nI (n + 1))) (n + 1) 0 (nI p) a 0) := by
  obtain ⟨z1, z2, z3, z4⟩ := hT.2.2.2 n (Nat.le_refl _) hn
  have hLn := Rel_lt hR hn
  generalize e2 : mpush (mm_wr (mm_wr (tpush h n 0 (nI p) a 0) 0 6 (nI (n + 1))) 64 12 (nI (n + 1))) (n + 1) 0 (nI p) a 0 = h2
  have ec : ∀ q, ¬ q = 0 → q < 64 → h2 q = tpush h n 0 (nI p) a 0 q := fun q h1 h2 => by
    rw [← e2, mpush_ne (by omega), mw_ne (by omega), mw_ne (by omega)]
  have er : ∀ q, 64 < q → h2 q = mpush h (n + 1) 0 (nI p) a 0 q := fun q h1 => by
    funext x
    rw [← e2]
    by_cases hq : q = 77 ∨ q = 78
    · rcases hq with rfl | rfl
      · rw [mpush_77, mpush_77, mw_miss (by omega), mw_miss (by omega), tpush_ne (by omega)]
      · rw [mpush_78 (h' := h) (by rw [mw_ne (by omega), mw_ne (by omega), tpush_ne (by omega)])]
    · rw [mpush_ne hq, mpush_ne hq, mw_miss (by omega), mw_miss (by omega), tpush_ne (by omega)]
  have e06 : h2 0 6 = nI (n + 1) := by rw [← e2, mpush_ne (by omega), mw_miss (by omega), mw_hit]
  have e0o : ∀ k, ¬ k = 6 → h2 0 k = h 0 k := fun k hk => by rw [← e2, mpush_ne (by omega), mw_miss (by omega), mw_miss (by omega), tpush_ne (by omega)]
  have f12 : h2 64 12 = nI (n + 1) := by rw [← e2, mpush_ne (by omega), mw_hit]
  have f64 : ∀ k, ¬ k = 12 → h2 64 k = h 64 k := fun k hk => by rw [← e2, mpush_ne (by omega), mw_miss (by omega), mw_miss (by omega), tpush_ne (by omega)]
  have ho : onlyT n h h2 := by
    refine ⟨fun q h1 h2 h3 => by rw [ec q (by omega) h2, tpush_ne (by omega)], fun x hx => ⟨by rw [er 75 (by omega), mpush_ne (by omega)], by rw [er 76 (by omega), mpush_ne (by omega)], by rw [er 77 (by omega), mpush_77, if_neg hx], by rw [er 79 (by omega), mpush_ne (by omega)]⟩, fun x hx => by rw [er 78 (by omega), mpush_out (by omega)], fun x _ => by rw [er 80 (by omega), mpush_ne (by omega)]⟩
  refine Rel_tk hR (fun q h1 h2 => by rw [ec q (by omega) (by omega), tpush_ne (by omega)]) (e0o 8 (by omega)) (e0o 7 (by omega)) (fun q h1 h2 => by rw [er q h1, mpush_ne (by omega)]) (f64 5 (by omega)) (f64 6 (by omega)) (f12.trans e06.symm) ⟨n + 1, by omega, e06, fun i hi => ?_, fun i h1 h2' => ?_⟩ (fun i hi => ?_)
  · by_cases hin : i = n
    · subst hin
      have d1 : h2 (28 + 6 * i) 5 = nI 1 := by rw [ec _ (by omega) (by omega), tpush_5]
      have d6 : ∀ k, ¬ k = 5 → h2 (28 + 6 * i) k = h (28 + 6 * i) k := fun k hk => by rw [ec _ (by omega) (by omega), tpush_o hk]
      unfold Itask dep
      rw [d1, d6 6 (by omega), d6 7 (by omega), z2, z3, nI_clamp (by omega)]
      refine ⟨⟨1, by omega, rfl⟩, rg_0 _, rg_0 _, ⟨fun q => absurd q (by omega), fun q => ?_⟩, fun k hk => ?_⟩
      · rcases q with q | q
        · exact absurd q (by decide)
        · exact absurd q (by decide)
      · obtain rfl : k = 0 := by omega
        obtain ⟨t1, t2, t3, t4, t5, t6⟩ := tpush_new (g := h) (j := i) (d := 0) (p := nI p) (a := a) (to := 0)
        refine ⟨p, 0, 0, hp, ?_, by omega, ?_, ?_, ?_⟩
        · show 0 < (h2 2 p).toNatClampNeg
          rw [ec 2 (by omega) (by omega), tpush_ne (by omega), el, nI_clamp (by omega)]
          exact hl
        · rw [ec _ (by omega) (by omega), t1]
        · rw [ec _ (by omega) (by omega), t2]
          rfl
        · rw [ec _ (by omega) (by omega), t6]
          rfl
    · exact onlyT_I ho hin (by omega) (by rw [ec 2 (by omega) (by omega), tpush_ne (by omega)]) (hT.2.2.1 i (by omega))
  · rw [ec _ (by omega) (by omega), tpush_ne (by omega)]
    exact hT.2.2.2 i (by omega) h2'
  · by_cases hin : i = n
    · subst hin
      have d1 : h2 (28 + 6 * i) 5 = nI 1 := by rw [ec _ (by omega) (by omega), tpush_5]
      have d6 : ∀ k, ¬ k = 5 → h2 (28 + 6 * i) k = h (28 + 6 * i) k := fun k hk => by rw [ec _ (by omega) (by omega), tpush_o hk]
      have hL0 : Lfr h h i 0 := fun k hk => absurd hk (by omega)
      have hL1 := push_Lfr (p := nI p) (a := a) (to := 0) hL0
      unfold Ltask dep
      rw [d1, d6 6 (by omega), d6 7 (by omega), d6 8 (by omega), z2, z3, z4, nI_clamp (by omega), cl_0]
      refine ⟨by rw [er 77 (by omega), mpush_77, if_pos rfl], by rw [er 79 (by omega), mpush_ne (by omega), hLn.2.1, z2], by rw [er 75 (by omega), mpush_ne (by omega), hLn.2.2.1, z3], by rw [er 76 (by omega), mpush_ne (by omega), hLn.2.2.2.1, z4], fun k hk => ?_, fun k hk => absurd hk (by omega)⟩
      rw [er 78 (by omega), ec _ (by omega) (by omega), ec _ (by omega) (by omega), ec _ (by omega) (by omega), ec _ (by omega) (by omega)]
      exact hL1 k hk
    · obtain ⟨q1, q2⟩ := Itasks_q hT hi
      exact onlyT_L ho hin hi q1 q2 (Rel_lt hR hi)
theorem pr_spawn (x0 x1 : Int32) : mm_pair Γ Rel smM_S_spawn smM_M_spawn [.int x0, .int x1] := by
  intro h hR
  obtain ⟨n, hn, e0, e64, hT⟩ := Rel_task hR
  refine smr_S_spawn _ _ (us_br' (sp_hasProcedure (Or.inl rfl)) (fun hp => ?_) (fun hp => ?_))
  · obtain ⟨p, hp6, rfl, ep⟩ := vin_of hp.1 (by decide)
    obtain ⟨l, hl, el⟩ := hR.1.1.1.1 p hp6
    have el2 : h 2 p = nI l := el
    have hl0 : 0 < l := by
      have h2 := hp.2
      rw [ep] at h2
      have : ¬ nI l ≤ nI 0 := by
        rw [← el]
        exact h2
      rw [nI_leI (by omega) (by omega)] at this
      omega
    have e66 : h 66 p = nI l := by
      have := hR.2.2.1.1 p hp6
      rw [Nat.zero_add] at this
      rw [this]
      exact el
    rw [e0]
    have run : ∀ (h1 : mm_Mem) (post : Int32 → mm_Mem → Prop), h1 66 p = nI l → h1 64 12 = nI n → h1 77 (n + 1) = h 77 (n + 1) → (n = 6 → post (-3) h1) → (n < 6 → post (nI (n + 1)) (mpush (mm_wr h1 64 12 (nI (n + 1))) (n + 1) 0 (nI p) x1 0)) → mm_SI Γ smM_M_spawn [.ref (mm_B Γ + 64), .int (nI p), .int x1] h1 post := by
      intro h1 post u66 u12 u77 k6 kw
      refine smr_M_spawn _ _ (us_br sp_M_isProcedure (fun _ => ⟨vp_in_nI (by omega) (by decide), ?_⟩) (fun q => absurd hp.1 q))
      rw [ep, u66, u12]
      refine br_n (nI_ne0 hl0 (by omega)) ⟨fun a m1 e1 => ?_, fun a => k6 (nI_in' (by omega) (by omega) a)⟩
      have hn6 : n < 6 := by
        have : ¬ n = 6 := fun e => a (by rw [e]; rfl)
        omega
      rw [nI_1] at e1
      have g12 : m1 64 12 = nI (n + 1) := by rw [e1, mw_hit]
      have g77 : m1 77 (n + 1) = nI 0 := by
        rw [e1, mw_miss (by omega), u77, (Rel_lt hR hn6).1, (hT.2.2.2 n (Nat.le_refl _) hn6).1]
        rfl
      rw [g12]
      refine us_v (sp_M_push (T := n + 1) (d := 0) (by omega) (by omega) g77 _ _ _) ?_
      rw [mpush_ne (by omega), g12, e1]
      exact kw hn6
    refine ⟨fun a => ?_, fun a => ?_⟩
    · have hn6 : n < 6 := (nI_ltI (a := n) (b := 6) (by omega) (by omega)).mp a
      refine ⟨vp_in_nI hn6 (by decide), fun t ht hT' => ?_⟩
      rw [nI_clamp (by omega)] at ht
      subst ht
      have d0 : h (28 + 6 * n) 5 = nI 0 := (hT.2.2.2 n (Nat.le_refl _) hn6).1
      refine us_v (sp_T_push (d := 0) hn6 (by omega) d0 _ _ _) (fun m1 e1 => ?_)
      rw [tpush_ne (by omega), e0, nI_1] at e1
      have g06 : m1 0 6 = nI (n + 1) := by rw [e1, mw_hit]
      rw [g06]
      refine run m1 _ ?_ ?_ ?_ (fun z => absurd z (by omega)) (fun _ => ⟨rfl, ?_⟩)
      · rw [e1, mw_miss (by omega), tpush_ne (by omega), e66]
      · rw [e1, mw_miss (by omega), tpush_ne (by omega), e64]
      · rw [e1, mw_miss (by omega), tpush_ne (by omega)]
      · rw [e1]
        exact Rel_spawn hR hT hn6 hp6 el2 hl0 hl x1
    · have hn6 : n = 6 := by
        have : ¬ n < 6 := fun z => a (nI_lt (a := n) (b := 6) z (by omega))
        omega
      exact run h _ e66 e64 rfl (fun _ => ⟨rfl, hR⟩) (fun z => absurd z (by omega))
  · refine smr_M_spawn _ _ (us_br sp_M_isProcedure (fun hq => ?_) (fun _ => ⟨rfl, hR⟩))
    obtain ⟨p, hp6, rfl, ep⟩ := vin_of hq (by decide)
    obtain ⟨l, hl, el⟩ := hR.1.1.1.1 p hp6
    have hl0 : l = 0 := by
      refine Decidable.byContradiction (fun hne => hp ⟨hq, ?_⟩)
      rw [ep, el]
      exact nI_nle (by omega) (by omega)
    have e66 : h 66 p = 0 := by
      have := hR.2.2.1.1 p hp6
      rw [Nat.zero_add] at this
      rw [this, el, hl0]
      rfl
    rw [ep, e66]
    exact ⟨vp_in_nI (by omega) (by decide), br_p rfl ⟨rfl, hR⟩⟩
end SP
