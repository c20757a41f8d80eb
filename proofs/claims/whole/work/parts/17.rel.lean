/-! the relation between the class's rows of g and the reference's rows of h; the invariant of the class's rows -/
/-- an instruction of the version at v is right -/
def rightW (g : mm_Mem) (v p w : Nat) : Prop :=
  if g (v + 2) w = 0 ∨ g (v + 2) w = 1 ∨ g (v + 2) w = 11 then vp_in (g (v + 3) w) 3
  else if g (v + 2) w = 2 ∨ g (v + 2) w = 3 then vp_in (g (v + 3) w) 3 ∧ vp_in (g (v + 4) w) 3 ∧ vp_in (g (v + 5) w) 3
  else if g (v + 2) w = 4 then vp_in (g (v + 3) w) 3 ∧ vp_in (g (v + 4) w) (g (v + 1) p).toNatClampNeg
  else if g (v + 2) w = 5 then vp_in (g (v + 3) w) 3 ∧ (vp_in (g (v + 4) w) 6 ∧ ¬ g (v + 1) (g (v + 4) w).toNatClampNeg ≤ 0) ∧ vp_in (g (v + 5) w) 3
  else if g (v + 2) w = 6 then vp_in (g (v + 3) w) 3 ∧ vp_in (g (v + 4) w) 3 ∧ ¬ g (v + 6) (g (v + 4) w).toNatClampNeg ≤ 0
  else if g (v + 2) w = 7 ∨ g (v + 2) w = 8 then vp_in (g (v + 3) w) 3 ∧ vp_in (g (v + 4) w) 3 ∧ vp_in (g (v + 5) w) 12 ∧ (g (v + 5) w).toNatClampNeg % 4 < (g (v + 6) ((g (v + 5) w).toNatClampNeg / 4)).toNatClampNeg
  else if g (v + 2) w = 9 ∨ g (v + 2) w = 10 then vp_in (g (v + 3) w) 3 ∧ vp_in (g (v + 4) w) 4
  else if g (v + 2) w = 12 then vp_in (g (v + 3) w) 4
  else False
def lenV (g : mm_Mem) (v p : Nat) : Nat := (g (v + 1) p).toNatClampNeg
def okW (g : mm_Mem) (v p i : Nat) : Prop := rightW g v p (12 * p + i) ∧ (i + 1 = lenV g v p → g (v + 2) (12 * p + i) = 0)
def okV (g : mm_Mem) (v : Nat) : Prop := ∀ p i, p < 6 → i < lenV g v p → okW g v p i
def Iv (g : mm_Mem) (v : Nat) : Prop := (∀ p, p < 6 → rg (g (v + 1) p) 12) ∧ (∀ t, t < 3 → rg (g (v + 6) t) 4)
def zr (g : mm_Mem) (r : Nat) : Prop := g 17 r = 0 ∧ g 18 r = 0 ∧ g 19 r = 0
def srcOK (g : mm_Mem) : Prop := ∀ t f, t < 3 → f < (g 14 t).toNatClampNeg → ¬ g 17 (4 * t + f) = 0 → (g 18 (4 * t + f)).toNatClampNeg < (g 7 t).toNatClampNeg
def Irul (g : mm_Mem) : Prop := (∀ r, r < 12 → rg (g 17 r) 2 ∧ rg (g 18 r) 3) ∧ (∀ t f, t < 3 → f < 4 → (g 14 t).toNatClampNeg ≤ f → zr g (4 * t + f)) ∧ (∀ t, t < 3 → (g 16 t = 0 ∨ g 16 t = 1) ∧ (g 16 t = 0 → g 7 t = g 14 t ∧ ∀ f, f < 4 → zr g (4 * t + f)))
def Istg (g : mm_Mem) : Prop := (g 0 8 = 0 ∨ g 0 8 = 1) ∧ (g 0 8 = 1 → okV g 8 ∧ srcOK g)
def live (g : mm_Mem) (o : Nat) : Prop := 1 ≤ o ∧ o ≤ 16 ∧ ¬ g 21 o = -1
def wid (g : mm_Mem) (o : Nat) : Nat := (g 7 (g 21 o).toNatClampNeg).toNatClampNeg
def Iheap (g : mm_Mem) : Prop := (∀ o, live g o → rg (g 21 o) 2) ∧ (∀ o, live g o → ∀ f, f < 4 → wid g o ≤ f → g 22 (4 * o + f) = 0)
def dep (g : mm_Mem) (i : Nat) : Nat := (g (28 + 6 * i) 5).toNatClampNeg
def Itask (g : mm_Mem) (i : Nat) : Prop := rg (g (28 + 6 * i) 5) 6 ∧ rg (g (28 + 6 * i) 6) 8 ∧ rg (g (28 + 6 * i) 7) 3 ∧ (dep g i = 0 ↔ (g (28 + 6 * i) 7 = 2 ∨ g (28 + 6 * i) 7 = 3)) ∧
  ∀ k, k < dep g i → ∃ p w a, p < 6 ∧ w < lenV g 1 p ∧ a < 3 ∧ g (28 + 6 * i + 1) k = nI p ∧ g (28 + 6 * i + 2) k = nI w ∧ g (28 + 6 * i + 4) k = nI a
def Itasks (g : mm_Mem) (n : Nat) : Prop := n ≤ 6 ∧ g 0 6 = nI n ∧ (∀ i, i < n → Itask g i) ∧ (∀ i, n ≤ i → i < 6 → g (28 + 6 * i) 5 = 0 ∧ g (28 + 6 * i) 6 = 0 ∧ g (28 + 6 * i) 7 = 0 ∧ g (28 + 6 * i) 8 = 0)
def Inv (g : mm_Mem) : Prop := (Iv g 1 ∧ okV g 1) ∧ Iv g 8 ∧ Istg g ∧ Irul g ∧ Iheap g ∧ ∃ n, Itasks g n
def Lver (g h : mm_Mem) (v cb lb wb : Nat) : Prop := (∀ p, p < 6 → h 66 (lb + p) = g (v + 1) p) ∧ (∀ w, w < 72 → h 65 (cb + 4 * w) = g (v + 2) w ∧ h 65 (cb + 4 * w + 1) = g (v + 3) w ∧ h 65 (cb + 4 * w + 2) = g (v + 4) w ∧ h 65 (cb + 4 * w + 3) = g (v + 5) w) ∧ (∀ t, t < 3 → h 67 (wb + t) = g (v + 6) t)
def Lint (g h : mm_Mem) : Prop := h 64 5 = g 0 8 ∧ h 64 6 = g 0 7 ∧ h 64 12 = g 0 6
def Lrul (g h : mm_Mem) : Prop := (∀ r, r < 12 → h 68 (3 * r) = g 17 r ∧ h 68 (3 * r + 1) = g 18 r ∧ h 68 (3 * r + 2) = g 19 r) ∧ (∀ t, t < 3 → h 69 t = g 16 t)
def Lglob (g h : mm_Mem) : Prop := ∀ x, x < 4 → h 70 x = g 26 x
def Lheap (g h : mm_Mem) : Prop := (∀ o, 1 ≤ o → o ≤ 16 → h 71 o = g 21 o) ∧ (∀ o, live g o → ∀ f, f < wid g o → h 72 (4 * o + f) = g 22 (4 * o + f))
def Ltask (g h : mm_Mem) (i : Nat) : Prop := h 77 (i + 1) = g (28 + 6 * i) 5 ∧ h 79 (i + 1) = g (28 + 6 * i) 6 ∧ h 75 (i + 1) = g (28 + 6 * i) 7 ∧ h 76 (i + 1) = g (28 + 6 * i) 8 ∧
  (∀ k, k < dep g i → h 78 (36 * (i + 1) + 6 * k) = g (28 + 6 * i + 1) k ∧ h 78 (36 * (i + 1) + 6 * k + 1) = g (28 + 6 * i + 2) k ∧ (∀ x, x < 3 → h 78 (36 * (i + 1) + 6 * k + 2 + x) = g (28 + 6 * i + 3) (3 * k + x)) ∧ h 78 (36 * (i + 1) + 6 * k + 5) = g (28 + 6 * i + 4) k) ∧
  (∀ j, j < (g (28 + 6 * i) 6).toNatClampNeg → h 80 (8 * (i + 1) + j) = g (28 + 6 * i + 5) j)
def Rl (g h : mm_Mem) : Prop := Lint g h ∧ Lver g h 1 0 0 0 ∧ Lver g h 8 288 6 3 ∧ Lrul g h ∧ Lglob g h ∧ Lheap g h ∧ ∀ i, i < 6 → Ltask g h i
def Rel (h : mm_Mem) : Prop := Inv h ∧ Rl h h
/-! what each part looks at -/
section CG
variable {g g' h h' : mm_Mem}
theorem rightW_congr {v p w : Nat} (e : ∀ q, v < q → q ≤ v + 6 → g' q = g q) : rightW g' v p w ↔ rightW g v p w := by
  unfold rightW
  rw [e (v + 1) (by omega) (by omega), e (v + 2) (by omega) (by omega), e (v + 3) (by omega) (by omega), e (v + 4) (by omega) (by omega), e (v + 5) (by omega) (by omega), e (v + 6) (by omega) (by omega)]
theorem lenV_congr {v p : Nat} (e : ∀ q, v < q → q ≤ v + 6 → g' q = g q) : lenV g' v p = lenV g v p := by
  unfold lenV
  rw [e (v + 1) (by omega) (by omega)]
theorem okV_congr {v : Nat} (e : ∀ q, v < q → q ≤ v + 6 → g' q = g q) (k : okV g v) : okV g' v := by
  intro p i hp hi
  rw [lenV_congr e] at hi
  obtain ⟨h1, h2⟩ := k p i hp hi
  refine ⟨(rightW_congr e).mpr h1, ?_⟩
  rw [lenV_congr e, e (v + 2) (by omega) (by omega)]
  exact h2
theorem Iv_congr {v : Nat} (e1 : g' (v + 1) = g (v + 1)) (e6 : g' (v + 6) = g (v + 6)) (k : Iv g v) : Iv g' v := by
  unfold Iv
  rw [e1, e6]
  exact k
theorem srcOK_congr (e7 : g' 7 = g 7) (e14 : g' 14 = g 14) (e17 : g' 17 = g 17) (e18 : g' 18 = g 18) (k : srcOK g) : srcOK g' := by
  unfold srcOK
  rw [e7, e14, e17, e18]
  exact k
theorem Irul_congr (e7 : g' 7 = g 7) (e14 : g' 14 = g 14) (e16 : g' 16 = g 16) (e17 : g' 17 = g 17) (e18 : g' 18 = g 18) (e19 : g' 19 = g 19) (k : Irul g) : Irul g' := by
  unfold Irul zr
  rw [e7, e14, e16, e17, e18, e19]
  exact k
theorem Istg_congr (e0 : g' 0 8 = g 0 8) (e : ∀ q, 8 < q → q ≤ 14 → g' q = g q) (e7 : g' 7 = g 7) (e17 : g' 17 = g 17) (e18 : g' 18 = g 18) (k : Istg g) : Istg g' := by
  refine ⟨by rw [e0]; exact k.1, fun h1 => ?_⟩
  rw [e0] at h1
  obtain ⟨a, b⟩ := k.2 h1
  exact ⟨okV_congr e a, srcOK_congr e7 (e 14 (by omega) (by omega)) e17 e18 b⟩
theorem live_congr (e21 : g' 21 = g 21) (o : Nat) : live g' o ↔ live g o := by
  unfold live
  rw [e21]
theorem wid_congr (e7 : g' 7 = g 7) (e21 : g' 21 = g 21) (o : Nat) : wid g' o = wid g o := by
  unfold wid
  rw [e7, e21]
theorem Iheap_congr (e7 : g' 7 = g 7) (e21 : g' 21 = g 21) (e22 : g' 22 = g 22) (k : Iheap g) : Iheap g' := by
  unfold Iheap live wid
  rw [e7, e21, e22]
  exact k
theorem dep_congr {i : Nat} (e : g' (28 + 6 * i) 5 = g (28 + 6 * i) 5) : dep g' i = dep g i := by
  unfold dep
  rw [e]
theorem Itask_congr {i : Nat} (e2 : g' 2 = g 2) (e0 : g' (28 + 6 * i) = g (28 + 6 * i)) (e : ∀ j, 1 ≤ j → j ≤ 4 → g' (28 + 6 * i + j) = g (28 + 6 * i + j)) (k : Itask g i) : Itask g' i := by
  unfold Itask dep lenV
  rw [e0, e 1 (by omega) (by omega), e 2 (by omega) (by omega), e 4 (by omega) (by omega), e2]
  exact k
theorem Itasks_congr {n : Nat} (e06 : g' 0 6 = g 0 6) (e2 : g' 2 = g 2) (e : ∀ q, 28 ≤ q → q < 64 → g' q = g q) (k : Itasks g n) : Itasks g' n := by
  obtain ⟨k1, k2, k3, k4⟩ := k
  refine ⟨k1, by rw [e06]; exact k2, fun i hi => ?_, fun i h1 h2 => ?_⟩
  · exact Itask_congr e2 (e _ (by omega) (by omega)) (fun j _ _ => e _ (by omega) (by omega)) (k3 i hi)
  · rw [e _ (by omega) (by omega)]
    exact k4 i h1 h2
theorem Lver_congr {v cb lb wb : Nat} (e : ∀ q, v < q → q ≤ v + 6 → g' q = g q) (e65 : h' 65 = h 65) (e66 : h' 66 = h 66) (e67 : h' 67 = h 67) (k : Lver g h v cb lb wb) : Lver g' h' v cb lb wb := by
  unfold Lver
  rw [e (v + 1) (by omega) (by omega), e (v + 2) (by omega) (by omega), e (v + 3) (by omega) (by omega), e (v + 4) (by omega) (by omega), e (v + 5) (by omega) (by omega), e (v + 6) (by omega) (by omega), e65, e66, e67]
  exact k
theorem Lrul_congr (e16 : g' 16 = g 16) (e17 : g' 17 = g 17) (e18 : g' 18 = g 18) (e19 : g' 19 = g 19) (e68 : h' 68 = h 68) (e69 : h' 69 = h 69) (k : Lrul g h) : Lrul g' h' := by
  unfold Lrul
  rw [e16, e17, e18, e19, e68, e69]
  exact k
theorem Lglob_congr (e26 : g' 26 = g 26) (e70 : h' 70 = h 70) (k : Lglob g h) : Lglob g' h' := by
  unfold Lglob
  rw [e26, e70]
  exact k
theorem Lheap_congr (e7 : g' 7 = g 7) (e21 : g' 21 = g 21) (e22 : g' 22 = g 22) (e71 : h' 71 = h 71) (e72 : h' 72 = h 72) (k : Lheap g h) : Lheap g' h' := by
  unfold Lheap live wid
  rw [e7, e21, e22, e71, e72]
  exact k
theorem Ltask_congr {i : Nat} (e : ∀ j, j ≤ 5 → g' (28 + 6 * i + j) = g (28 + 6 * i + j)) (e75 : h' 75 = h 75) (e76 : h' 76 = h 76) (e77 : h' 77 = h 77) (e78 : h' 78 = h 78) (e79 : h' 79 = h 79) (e80 : h' 80 = h 80) (k : Ltask g h i) : Ltask g' h' i := by
  have e0 : g' (28 + 6 * i) = g (28 + 6 * i) := e 0 (by omega)
  unfold Ltask dep
  rw [e0, e 1 (by omega), e 2 (by omega), e 3 (by omega), e 4 (by omega), e 5 (by omega), e75, e76, e77, e78, e79, e80]
  exact k
end CG
/-! rows of the class, rows of the reference -/
theorem Inv_congr {g g' : mm_Mem} (e : ∀ q, q < 64 → g' q = g q) (k : Inv g) : Inv g' := by
  obtain ⟨⟨k1, k2⟩, k3, k4, k5, k6, n, k7⟩ := k
  refine ⟨⟨Iv_congr (e _ (by omega)) (e _ (by omega)) k1, okV_congr (fun q _ _ => e q (by omega)) k2⟩, Iv_congr (e _ (by omega)) (e _ (by omega)) k3, Istg_congr (by rw [e 0 (by omega)]) (fun q _ _ => e q (by omega)) (e _ (by omega)) (e _ (by omega)) (e _ (by omega)) k4, Irul_congr (e _ (by omega)) (e _ (by omega)) (e _ (by omega)) (e _ (by omega)) (e _ (by omega)) (e _ (by omega)) k5, Iheap_congr (e _ (by omega)) (e _ (by omega)) (e _ (by omega)) k6, n, Itasks_congr (by rw [e 0 (by omega)]) (e _ (by omega)) (fun q _ _ => e q (by omega)) k7⟩
theorem Rl_congr {g g' h h' : mm_Mem} (e : ∀ q, q < 64 → g' q = g q) (f : ∀ q, 64 ≤ q → h' q = h q) (k : Rl g h) : Rl g' h' := by
  obtain ⟨⟨a1, a2, a3⟩, k2, k3, k4, k5, k6, k7⟩ := k
  refine ⟨⟨by rw [e 0 (by omega), f 64 (by omega)]; exact a1, by rw [e 0 (by omega), f 64 (by omega)]; exact a2, by rw [e 0 (by omega), f 64 (by omega)]; exact a3⟩, Lver_congr (fun q _ _ => e q (by omega)) (f _ (by omega)) (f _ (by omega)) (f _ (by omega)) k2, Lver_congr (fun q _ _ => e q (by omega)) (f _ (by omega)) (f _ (by omega)) (f _ (by omega)) k3, Lrul_congr (e _ (by omega)) (e _ (by omega)) (e _ (by omega)) (e _ (by omega)) (f _ (by omega)) (f _ (by omega)) k4, Lglob_congr (e _ (by omega)) (f _ (by omega)) k5, Lheap_congr (e _ (by omega)) (e _ (by omega)) (e _ (by omega)) (f _ (by omega)) (f _ (by omega)) k6, fun i hi => Ltask_congr (fun j _ => e _ (by omega)) (f _ (by omega)) (f _ (by omega)) (f _ (by omega)) (f _ (by omega)) (f _ (by omega)) (f _ (by omega)) (k7 i hi)⟩
/-! the start -/
theorem h0_z {q i : Nat} (h1 : ¬ q = 21) (h2 : ¬ q = 71) : sg_h0 q i = 0 := by
  unfold sg_h0
  rw [if_neg (by omega)]
theorem h0_m {q i : Nat} (h1 : q = 21 ∨ q = 71) (hi : i < 17) : sg_h0 q i = -1 := by
  unfold sg_h0
  rw [if_pos h1, sg_m1_at, if_pos hi]
theorem rg_0 (n : Nat) : rg 0 n := ⟨0, Nat.zero_le _, rfl⟩
theorem cl_0 : (0 : Int32).toNatClampNeg = 0 := by decide
theorem Rel_0 : Rel sg_h0 := by
  have z : ∀ q i, ¬ q = 21 → ¬ q = 71 → sg_h0 q i = 0 := fun q i => h0_z
  have nl : ∀ o, ¬ live sg_h0 o := by
    intro o ho
    exact ho.2.2 (h0_m (Or.inl rfl) (by have := ho.2.1; omega))
  have ln : ∀ v p, v = 1 ∨ v = 8 → lenV sg_h0 v p = 0 := by
    intro v p hv
    unfold lenV
    rw [z _ _ (by omega) (by omega)]
    exact cl_0
  refine ⟨⟨⟨⟨fun p _ => ?_, fun t _ => ?_⟩, fun p i _ hi => ?_⟩, ⟨fun p _ => ?_, fun t _ => ?_⟩, ⟨Or.inl (z _ _ (by omega) (by omega)), fun h1 => ?_⟩, ⟨fun r _ => ?_, fun t f _ _ _ => ?_, fun t _ => ?_⟩, ⟨fun o ho => absurd ho (nl o), fun o ho => absurd ho (nl o)⟩, 0, by omega, z _ _ (by omega) (by omega), fun i hi => absurd hi (by omega), fun i _ _ => ?_⟩, ?_⟩
  · rw [z _ _ (by omega) (by omega)]
    exact rg_0 _
  · rw [z _ _ (by omega) (by omega)]
    exact rg_0 _
  · rw [ln 1 p (Or.inl rfl)] at hi
    omega
  · rw [z _ _ (by omega) (by omega)]
    exact rg_0 _
  · rw [z _ _ (by omega) (by omega)]
    exact rg_0 _
  · rw [z _ _ (by omega) (by omega)] at h1
    exact absurd h1 (by decide)
  · rw [z _ _ (by omega) (by omega), z _ _ (by omega) (by omega)]
    exact ⟨rg_0 _, rg_0 _⟩
  · exact ⟨z _ _ (by omega) (by omega), z _ _ (by omega) (by omega), z _ _ (by omega) (by omega)⟩
  · refine ⟨Or.inl (z _ _ (by omega) (by omega)), fun _ => ⟨?_, fun f _ => ⟨z _ _ (by omega) (by omega), z _ _ (by omega) (by omega), z _ _ (by omega) (by omega)⟩⟩⟩
    rw [z _ _ (by omega) (by omega), z _ _ (by omega) (by omega)]
  · exact ⟨z _ _ (by omega) (by omega), z _ _ (by omega) (by omega), z _ _ (by omega) (by omega), z _ _ (by omega) (by omega)⟩
  · have zz : ∀ q i q' i', ¬ q = 21 → ¬ q = 71 → ¬ q' = 21 → ¬ q' = 71 → sg_h0 q i = sg_h0 q' i' := by
      intro q i q' i' a b c d
      rw [z q i a b, z q' i' c d]
    refine ⟨⟨zz _ _ _ _ (by omega) (by omega) (by omega) (by omega), zz _ _ _ _ (by omega) (by omega) (by omega) (by omega), zz _ _ _ _ (by omega) (by omega) (by omega) (by omega)⟩, ⟨fun p _ => zz _ _ _ _ (by omega) (by omega) (by omega) (by omega), fun w _ => ⟨zz _ _ _ _ (by omega) (by omega) (by omega) (by omega), zz _ _ _ _ (by omega) (by omega) (by omega) (by omega), zz _ _ _ _ (by omega) (by omega) (by omega) (by omega), zz _ _ _ _ (by omega) (by omega) (by omega) (by omega)⟩, fun t _ => zz _ _ _ _ (by omega) (by omega) (by omega) (by omega)⟩, ⟨fun p _ => zz _ _ _ _ (by omega) (by omega) (by omega) (by omega), fun w _ => ⟨zz _ _ _ _ (by omega) (by omega) (by omega) (by omega), zz _ _ _ _ (by omega) (by omega) (by omega) (by omega), zz _ _ _ _ (by omega) (by omega) (by omega) (by omega), zz _ _ _ _ (by omega) (by omega) (by omega) (by omega)⟩, fun t _ => zz _ _ _ _ (by omega) (by omega) (by omega) (by omega)⟩, ⟨fun r _ => ⟨zz _ _ _ _ (by omega) (by omega) (by omega) (by omega), zz _ _ _ _ (by omega) (by omega) (by omega) (by omega), zz _ _ _ _ (by omega) (by omega) (by omega) (by omega)⟩, fun t _ => zz _ _ _ _ (by omega) (by omega) (by omega) (by omega)⟩, fun x _ => zz _ _ _ _ (by omega) (by omega) (by omega) (by omega), ⟨fun o h1 h2 => ?_, fun o ho => absurd ho (nl o)⟩, fun i hi => ⟨zz _ _ _ _ (by omega) (by omega) (by omega) (by omega), zz _ _ _ _ (by omega) (by omega) (by omega) (by omega), zz _ _ _ _ (by omega) (by omega) (by omega) (by omega), zz _ _ _ _ (by omega) (by omega) (by omega) (by omega), fun k hk => ?_, fun j hj => ?_⟩⟩
    · rw [h0_m (Or.inl rfl) (by omega), h0_m (Or.inr rfl) (by omega)]
    · unfold dep at hk
      rw [z _ _ (by omega) (by omega), cl_0] at hk
      omega
    · rw [z _ _ (by omega) (by omega), cl_0] at hj
      omega
