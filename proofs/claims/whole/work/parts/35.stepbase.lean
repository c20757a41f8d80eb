section ST
variable {Γ : mm_Ctx}
/-! one instruction of a task: what is kept -/
def Ltk (g h : mm_Mem) (i : Nat) : Prop := h 77 (i + 1) = g (28 + 6 * i) 5 ∧ h 79 (i + 1) = g (28 + 6 * i) 6 ∧ h 76 (i + 1) = g (28 + 6 * i) 8 ∧ Lfr g h i (dep g i) ∧ (∀ q, q < (g (28 + 6 * i) 6).toNatClampNeg → h 80 (8 * (i + 1) + q) = g (28 + 6 * i + 5) q)
def Rs (j : Nat) (g h : mm_Mem) : Prop := Lint g h ∧ Lver g h 1 0 0 0 ∧ Lver g h 8 288 6 3 ∧ Lrul g h ∧ Lglob g h ∧ Lheap g h ∧ (∀ i, i < 6 → ¬ i = j → Ltask g h i) ∧ Ltk g h j
def IT (g : mm_Mem) (n : Nat) : Prop := Inv g ∧ Itasks g n
def onlyC (j : Nat) (g g' : mm_Mem) : Prop := ∀ q, 28 ≤ q → q < 64 → ¬ (28 + 6 * j ≤ q ∧ q < 34 + 6 * j) → g' q = g q
def onlyR (j : Nat) (h h' : mm_Mem) : Prop := h' 75 = h 75 ∧ (∀ x, ¬ x = j + 1 → h' 76 x = h 76 x ∧ h' 77 x = h 77 x ∧ h' 79 x = h 79 x) ∧ (∀ x, ¬ (36 * (j + 1) ≤ x ∧ x < 36 * (j + 1) + 36) → h' 78 x = h 78 x) ∧ (∀ x, ¬ (8 * (j + 1) ≤ x ∧ x < 8 * (j + 1) + 8) → h' 80 x = h 80 x)
theorem onlyC_n {j : Nat} {g g' : mm_Mem} (e : ∀ q, 28 ≤ q → q < 64 → g' q = g q) : onlyC j g g' := fun q h1 h2 _ => e q h1 h2
theorem onlyR_n {j : Nat} {h h' : mm_Mem} (e : ∀ q, 75 ≤ q → h' q = h q) : onlyR j h h' := ⟨e 75 (by omega), fun x _ => ⟨by rw [e 76 (by omega)], by rw [e 77 (by omega)], by rw [e 79 (by omega)]⟩, fun x _ => by rw [e 78 (by omega)], fun x _ => by rw [e 80 (by omega)]⟩
theorem only_L {j i : Nat} {g g' h h' : mm_Mem} (ho : onlyC j g g') (hr : onlyR j h h') (hij : ¬ i = j) (hi : i < 6) (hd : dep g i ≤ 6) (hq : (g (28 + 6 * i) 6).toNatClampNeg ≤ 8) (k : Ltask g h i) : Ltask g' h' i := by
  obtain ⟨o1, o2, o3, o4⟩ := hr
  have e : ∀ x, x ≤ 5 → g' (28 + 6 * i + x) = g (28 + 6 * i + x) := fun x hx => ho _ (by omega) (by omega) (by omega)
  have e0 : g' (28 + 6 * i) = g (28 + 6 * i) := e 0 (by omega)
  obtain ⟨c76, c77, c79⟩ := o2 (i + 1) (by omega)
  obtain ⟨k1, k2, k3, k4, k5, k6⟩ := k
  have ed : dep g' i = dep g i := dep_congr (by rw [e0])
  refine ⟨by rw [c77, e0, k1], by rw [c79, e0, k2], by rw [o1, e0, k3], by rw [c76, e0, k4], fun x hx => ?_, fun x hx => ?_⟩
  · rw [ed] at hx
    obtain ⟨f1, f2, f3, f4⟩ := k5 x hx
    rw [e 1 (by omega), e 2 (by omega), e 3 (by omega), e 4 (by omega), o3 _ (by omega), o3 _ (by omega), o3 _ (by omega)]
    refine ⟨f1, f2, fun y hy => ?_, f4⟩
    rw [o3 _ (by omega)]
    exact f3 y hy
  · rw [e0] at hx
    rw [e 5 (by omega), o4 _ (by omega)]
    exact k6 x hx
theorem keepI {g g' : mm_Mem} {j n : Nat} (hI : IT g n) (hj : j < n) (ec : ∀ q, q < 20 → g' q = g q) (eo : onlyC j g g') (ih : Iheap g') (it : Itask g' j) : IT g' n := by
  obtain ⟨⟨⟨k1, k2⟩, k3, k4, k5, -, -⟩, hT⟩ := hI
  have hn := hT.1
  have hT' : Itasks g' n := by
    refine ⟨hT.1, by rw [ec 0 (by omega)]; exact hT.2.1, fun i hi => ?_, fun i h1 h2 => ?_⟩
    · by_cases hij : i = j
      · subst hij
        exact it
      · exact Itask_congr (ec 2 (by omega)) (eo _ (by omega) (by omega) (by omega)) (fun x _ _ => eo _ (by omega) (by omega) (by omega)) (hT.2.2.1 i hi)
    · rw [eo _ (by omega) (by omega) (by omega)]
      exact hT.2.2.2 i h1 h2
  exact ⟨⟨⟨Iv_congr (ec _ (by omega)) (ec _ (by omega)) k1, okV_congr (fun q _ _ => ec q (by omega)) k2⟩, Iv_congr (ec _ (by omega)) (ec _ (by omega)) k3, Istg_congr (by rw [ec 0 (by omega)]) (fun q _ _ => ec q (by omega)) (ec _ (by omega)) (ec _ (by omega)) (ec _ (by omega)) k4, Irul_congr (ec _ (by omega)) (ec _ (by omega)) (ec _ (by omega)) (ec _ (by omega)) (ec _ (by omega)) (ec _ (by omega)) k5, ih, n, hT'⟩, hT'⟩
theorem keepL {g g' h h' : mm_Mem} {j n : Nat} (hI : IT g n) (hL : Rs j g h) (ec : ∀ q, q < 20 → g' q = g q) (eo : onlyC j g g') (er : ∀ q, 64 ≤ q → q ≤ 69 → h' q = h q) (ho : onlyR j h h') (lg : Lglob g' h') (lh : Lheap g' h') (lt : Ltk g' h' j) : Rs j g' h' := by
  obtain ⟨⟨a1, a2, a3⟩, d2, d3, d4, -, -, d7, -⟩ := hL
  refine ⟨⟨by rw [er 64 (by omega) (by omega), ec 0 (by omega)]; exact a1, by rw [er 64 (by omega) (by omega), ec 0 (by omega)]; exact a2, by rw [er 64 (by omega) (by omega), ec 0 (by omega)]; exact a3⟩, Lver_congr (fun q _ _ => ec q (by omega)) (er _ (by omega) (by omega)) (er _ (by omega) (by omega)) (er _ (by omega) (by omega)) d2, Lver_congr (fun q _ _ => ec q (by omega)) (er _ (by omega) (by omega)) (er _ (by omega) (by omega)) (er _ (by omega) (by omega)) d3, Lrul_congr (ec _ (by omega)) (ec _ (by omega)) (ec _ (by omega)) (ec _ (by omega)) (er _ (by omega) (by omega)) (er _ (by omega) (by omega)) d4, lg, lh, fun i hi hij => ?_, lt⟩
  obtain ⟨q1, q2⟩ := Itasks_q hI.2 hi
  exact only_L eo ho hij hi q1 q2 (d7 i hi hij)
/-- the task alone -/
theorem keepI_t {g g' : mm_Mem} {j n : Nat} (hI : IT g n) (hj : j < n) (ec : ∀ q, q < 28 → g' q = g q) (eo : onlyC j g g') (it : Itask g' j) : IT g' n :=
  keepI hI hj (fun q hq => ec q (by omega)) eo (Iheap_congr (ec _ (by omega)) (ec _ (by omega)) (ec _ (by omega)) hI.1.2.2.2.2.1) it
theorem keepL_t {g g' h h' : mm_Mem} {j n : Nat} (hI : IT g n) (hL : Rs j g h) (ec : ∀ q, q < 28 → g' q = g q) (eo : onlyC j g g') (er : ∀ q, 64 ≤ q → q ≤ 74 → h' q = h q) (ho : onlyR j h h') (lt : Ltk g' h' j) : Rs j g' h' :=
  keepL hI hL (fun q hq => ec q (by omega)) eo (fun q h1 h2 => er q h1 (by omega)) ho (Lglob_congr (ec _ (by omega)) (er _ (by omega) (by omega)) hL.2.2.2.2.1) (Lheap_congr (ec _ (by omega)) (ec _ (by omega)) (ec _ (by omega)) (er _ (by omega) (by omega)) (er _ (by omega) (by omega)) hL.2.2.2.2.2.1) lt
/-- no task -/
theorem keepI_n {g g' : mm_Mem} {j n : Nat} (hI : IT g n) (hj : j < n) (ec : ∀ q, q < 20 → g' q = g q) (et : ∀ q, 28 ≤ q → q < 64 → g' q = g q) (ih : Iheap g') : IT g' n := by
  have hn := hI.2.1
  exact keepI hI hj ec (onlyC_n et) ih (Itask_congr (ec _ (by omega)) (et _ (by omega) (by omega)) (fun x _ _ => et _ (by omega) (by omega)) (hI.2.2.2.1 j hj))
theorem keepL_n {g g' h h' : mm_Mem} {j n : Nat} (hI : IT g n) (hj : j < n) (hL : Rs j g h) (ec : ∀ q, q < 20 → g' q = g q) (et : ∀ q, 28 ≤ q → q < 64 → g' q = g q) (er : ∀ q, 64 ≤ q → q ≤ 69 → h' q = h q) (rt : ∀ q, 75 ≤ q → h' q = h q) (lg : Lglob g' h') (lh : Lheap g' h') : Rs j g' h' := by
  have hn := hI.2.1
  refine keepL hI hL ec (onlyC_n et) er (onlyR_n rt) lg lh ?_
  obtain ⟨k1, k2, k3, k4, k5⟩ := hL.2.2.2.2.2.2.2
  have e0 : g' (28 + 6 * j) = g (28 + 6 * j) := et _ (by omega) (by omega)
  have ed : dep g' j = dep g j := dep_congr (by rw [e0])
  unfold Ltk Lfr
  rw [ed, e0, rt 77 (by omega), rt 79 (by omega), rt 76 (by omega), rt 78 (by omega), rt 80 (by omega), et (28 + 6 * j + 1) (by omega) (by omega), et (28 + 6 * j + 2) (by omega) (by omega), et (28 + 6 * j + 3) (by omega) (by omega), et (28 + 6 * j + 4) (by omega) (by omega), et (28 + 6 * j + 5) (by omega) (by omega)]
  exact ⟨k1, k2, k3, k4, k5⟩
/-! the frame at the top -/
def Fo (g : mm_Mem) (j k : Nat) : Prop := ∃ p w a, p < 6 ∧ w < lenV g 1 p ∧ a < 3 ∧ g (28 + 6 * j + 1) k = nI p ∧ g (28 + 6 * j + 2) k = nI w ∧ g (28 + 6 * j + 4) k = nI a
theorem Fo_congr {g g' : mm_Mem} {j k : Nat} (e2 : g' 2 = g 2) (a1 : g' (28 + 6 * j + 1) k = g (28 + 6 * j + 1) k) (a2 : g' (28 + 6 * j + 2) k = g (28 + 6 * j + 2) k) (a4 : g' (28 + 6 * j + 4) k = g (28 + 6 * j + 4) k) (h : Fo g j k) : Fo g' j k := by
  unfold Fo lenV
  rw [a1, a2, a4, e2]
  exact h
theorem Itask_mk {g : mm_Mem} {j d : Nat} (a5 : g (28 + 6 * j) 5 = nI d) (hd : d ≤ 6) (a6 : rg (g (28 + 6 * j) 6) 8) (a7 : rg (g (28 + 6 * j) 7) 3) (ai : d = 0 ↔ (g (28 + 6 * j) 7 = 2 ∨ g (28 + 6 * j) 7 = 3)) (fr : ∀ k, k < d → Fo g j k) : Itask g j := by
  have ed : dep g j = d := by
    unfold dep
    rw [a5, nI_clamp (by omega)]
  unfold Itask
  rw [ed]
  exact ⟨⟨d, hd, a5⟩, a6, a7, ai, fr⟩
def Cur (g : mm_Mem) (j n d p w : Nat) : Prop := IT g n ∧ j < n ∧ dep g j = d + 1 ∧ g (28 + 6 * j) 5 = nI (d + 1) ∧ d < 6 ∧ p < 6 ∧ w < lenV g 1 p ∧ g (28 + 6 * j + 1) d = nI p ∧ g (28 + 6 * j + 2) d = nI w ∧ g (28 + 6 * j) 7 = 0
theorem Cur_of {g : mm_Mem} {j n : Nat} (hI : IT g n) (hj : j < n) (h7 : g (28 + 6 * j) 7 = 0) : ∃ d p w, Cur g j n d p w := by
  obtain ⟨ed, hd6⟩ := dep_of (hI.2.2.2.1 j hj)
  obtain ⟨-, -, -, a4, a5⟩ := hI.2.2.2.1 j hj
  have hd0 : ¬ dep g j = 0 := fun z => by
    rcases a4.mp z with z | z
    · rw [h7] at z
      exact absurd z (by decide)
    · rw [h7] at z
      exact absurd z (by decide)
  obtain ⟨d, hd⟩ : ∃ d, dep g j = d + 1 := ⟨dep g j - 1, by omega⟩
  obtain ⟨p, w, a, hp, hw, ha, e1, e2, e3⟩ := a5 d (by omega)
  exact ⟨d, p, w, hI, hj, hd, by rw [ed, hd], by omega, hp, hw, e1, e2, h7⟩
theorem Cur_j {g : mm_Mem} {j n d p w : Nat} (C : Cur g j n d p w) : j < 6 ∧ lenV g 1 p ≤ 12 ∧ g 2 p = nI (lenV g 1 p) := by
  obtain ⟨hI, hj, hd, ed, hd6, hp, hw, e1, e2, h7⟩ := C
  have hn := hI.2.1
  obtain ⟨el, hl⟩ := lenV_of hI.1.1.1 hp
  exact ⟨by omega, hl, el⟩
theorem Cur_Fo {g : mm_Mem} {j n d p w : Nat} (C : Cur g j n d p w) {k : Nat} (hk : k ≤ d) : Fo g j k := (C.1.2.2.2.1 j C.2.1).2.2.2.2 k (by rw [C.2.2.1]; omega)
theorem Cur_mk {g g' : mm_Mem} {j n d p w w' : Nat} (C : Cur g j n d p w) (hI : IT g' n) (e2 : g' 2 = g 2) (a5 : g' (28 + 6 * j) 5 = g (28 + 6 * j) 5) (a7 : g' (28 + 6 * j) 7 = g (28 + 6 * j) 7) (a1 : g' (28 + 6 * j + 1) d = g (28 + 6 * j + 1) d) (hw : w' < lenV g 1 p) (a2 : g' (28 + 6 * j + 2) d = nI w') : Cur g' j n d p w' := by
  obtain ⟨-, hj, hd, ed, hd6, hp, -, e1, -, h7⟩ := C
  refine ⟨hI, hj, by rw [dep_congr a5]; exact hd, by rw [a5]; exact ed, hd6, hp, ?_, by rw [a1]; exact e1, a2, by rw [a7]; exact h7⟩
  unfold lenV at hw ⊢
  rw [e2]
  exact hw
/-- rows of the task but its locals are kept: the task is right -/
theorem Itask_top {g g' : mm_Mem} {j n d p w : Nat} (C : Cur g j n d p w) (e2 : g' 2 = g 2) (a5 : g' (28 + 6 * j) 5 = g (28 + 6 * j) 5) (a6 : rg (g' (28 + 6 * j) 6) 8) (a7 : g' (28 + 6 * j) 7 = g (28 + 6 * j) 7) (fr : ∀ k, k ≤ d → Fo g' j k) : Itask g' j := by
  obtain ⟨hI, hj, hd, ed, hd6, hp, hw, e1, e2, h7⟩ := C
  refine Itask_mk (d := d + 1) (by rw [a5]; exact ed) (by omega) a6 (by rw [a7, h7]; exact rg_0 _) ⟨fun z => absurd z (by omega), fun z => ?_⟩ (fun k hk => fr k (by omega))
  rw [a7, h7] at z
  rcases z with z | z
  · exact absurd z (by decide)
  · exact absurd z (by decide)
/-! a local is set -/
theorem kL {g : mm_Mem} {j n d p w : Nat} (C : Cur g j n d p w) (x : Nat) (v : Int32) : IT (mm_wr g (28 + 6 * j + 3) x v) n := by
  obtain ⟨hj6, -, -⟩ := Cur_j C
  obtain ⟨-, b6, -⟩ := C.1.2.2.2.1 j C.2.1
  have e : ∀ q, ¬ q = 28 + 6 * j + 3 → mm_wr g (28 + 6 * j + 3) x v q = g q := fun q hq => mw_ne hq
  refine keepI_t C.1 C.2.1 (fun q hq => e q (by omega)) (fun q h1 h2 h3 => e q (by omega)) (Itask_top C (e _ (by omega)) (by rw [e _ (by omega)]) (by rw [e _ (by omega)]; exact b6) (by rw [e _ (by omega)]) (fun k hk => Fo_congr (e _ (by omega)) (by rw [e _ (by omega)]) (by rw [e _ (by omega)]) (by rw [e _ (by omega)]) (Cur_Fo C hk)))
theorem kLL {g h : mm_Mem} {j n d p w : Nat} (C : Cur g j n d p w) (hL : Rs j g h) {x : Nat} (hx : x < 3) (v : Int32) : Rs j (mm_wr g (28 + 6 * j + 3) (3 * d + x) v) (mm_wr h 78 (36 * (j + 1) + 6 * d + 2 + x) v) := by
  obtain ⟨hj6, -, -⟩ := Cur_j C
  have hd6 := C.2.2.2.2.1
  have e : ∀ q, ¬ q = 28 + 6 * j + 3 → mm_wr g (28 + 6 * j + 3) (3 * d + x) v q = g q := fun q hq => mw_ne hq
  have f : ∀ q, ¬ q = 78 → mm_wr h 78 (36 * (j + 1) + 6 * d + 2 + x) v q = h q := fun q hq => mw_ne hq
  refine keepL_t C.1 hL (fun q hq => e q (by omega)) (fun q h1 h2 h3 => e q (by omega)) (fun q h1 h2 => f q (by omega)) ⟨f _ (by omega), fun y hy => ⟨by rw [f _ (by omega)], by rw [f _ (by omega)], by rw [f _ (by omega)]⟩, fun y hy => mw_miss (by omega), fun y hy => by rw [f _ (by omega)]⟩ ?_
  obtain ⟨k1, k2, k3, k4, k5⟩ := hL.2.2.2.2.2.2.2
  unfold Ltk
  rw [dep_congr (by rw [e _ (by omega)]), e (28 + 6 * j) (by omega), f 77 (by omega), f 79 (by omega), f 76 (by omega), f 80 (by omega), e (28 + 6 * j + 5) (by omega)]
  refine ⟨k1, k2, k3, fun k hk => ?_, k5⟩
  obtain ⟨l1, l2, l3, l4⟩ := k4 k hk
  rw [C.2.2.1] at hk
  rw [e (28 + 6 * j + 1) (by omega), e (28 + 6 * j + 2) (by omega), e (28 + 6 * j + 4) (by omega)]
  refine ⟨by rw [mw_miss (by omega)]; exact l1, by rw [mw_miss (by omega)]; exact l2, fun y hy => ?_, by rw [mw_miss (by omega)]; exact l4⟩
  by_cases hky : k = d ∧ y = x
  · obtain ⟨rfl, rfl⟩ := hky
    rw [mw_hit, mw_hit]
  · rw [mw_miss (by omega), mw_miss (by omega)]
    exact l3 y hy
/-! the place is set -/
theorem kP {g : mm_Mem} {j n d p w : Nat} (C : Cur g j n d p w) {x : Nat} (hx : x < lenV g 1 p) : Cur (mm_wr g (28 + 6 * j + 2) d (nI x)) j n d p x := by
  obtain ⟨hj6, -, -⟩ := Cur_j C
  obtain ⟨-, b6, -⟩ := C.1.2.2.2.1 j C.2.1
  have e : ∀ q, ¬ q = 28 + 6 * j + 2 → mm_wr g (28 + 6 * j + 2) d (nI x) q = g q := fun q hq => mw_ne hq
  have el : ∀ p, lenV (mm_wr g (28 + 6 * j + 2) d (nI x)) 1 p = lenV g 1 p := fun p => by
    unfold lenV
    rw [e _ (by omega)]
  refine Cur_mk C (keepI_t C.1 C.2.1 (fun q hq => e q (by omega)) (fun q h1 h2 h3 => e q (by omega)) (Itask_top C (e _ (by omega)) (by rw [e _ (by omega)]) (by rw [e _ (by omega)]; exact b6) (by rw [e _ (by omega)]) (fun k hk => ?_))) (e _ (by omega)) (by rw [e _ (by omega)]) (by rw [e _ (by omega)]) (by rw [e _ (by omega)]) hx mw_hit
  by_cases hkd : k = d
  · subst hkd
    obtain ⟨p', w', a, hp, hw, ha, e1, e2, e3⟩ := Cur_Fo C (Nat.le_refl k)
    have hp' : p = p' := by
      have := C.2.2.2.2.2.2.2.1.symm.trans e1
      exact nI_in' (by have := C.2.2.2.2.2.1; omega) (by omega) this
    subst hp'
    exact ⟨p, x, a, hp, by rw [el]; exact hx, ha, by rw [e _ (by omega)]; exact e1, mw_hit, by rw [e _ (by omega)]; exact e3⟩
  · exact Fo_congr (e _ (by omega)) (by rw [e _ (by omega)]) (mw_miss (by omega)) (by rw [e _ (by omega)]) (Cur_Fo C hk)
theorem kPL {g h : mm_Mem} {j n d p w : Nat} (C : Cur g j n d p w) (hL : Rs j g h) (v : Int32) : Rs j (mm_wr g (28 + 6 * j + 2) d v) (mm_wr h 78 (36 * (j + 1) + 6 * d + 1) v) := by
  obtain ⟨hj6, -, -⟩ := Cur_j C
  have hd6 := C.2.2.2.2.1
  have e : ∀ q, ¬ q = 28 + 6 * j + 2 → mm_wr g (28 + 6 * j + 2) d v q = g q := fun q hq => mw_ne hq
  have f : ∀ q, ¬ q = 78 → mm_wr h 78 (36 * (j + 1) + 6 * d + 1) v q = h q := fun q hq => mw_ne hq
  refine keepL_t C.1 hL (fun q hq => e q (by omega)) (fun q h1 h2 h3 => e q (by omega)) (fun q h1 h2 => f q (by omega)) ⟨f _ (by omega), fun y hy => ⟨by rw [f _ (by omega)], by rw [f _ (by omega)], by rw [f _ (by omega)]⟩, fun y hy => mw_miss (by omega), fun y hy => by rw [f _ (by omega)]⟩ ?_
  obtain ⟨k1, k2, k3, k4, k5⟩ := hL.2.2.2.2.2.2.2
  unfold Ltk
  rw [dep_congr (by rw [e _ (by omega)]), e (28 + 6 * j) (by omega), f 77 (by omega), f 79 (by omega), f 76 (by omega), f 80 (by omega), e (28 + 6 * j + 5) (by omega)]
  refine ⟨k1, k2, k3, fun k hk => ?_, k5⟩
  obtain ⟨l1, l2, l3, l4⟩ := k4 k hk
  rw [C.2.2.1] at hk
  rw [e (28 + 6 * j + 1) (by omega), e (28 + 6 * j + 3) (by omega), e (28 + 6 * j + 4) (by omega)]
  refine ⟨by rw [mw_miss (by omega)]; exact l1, ?_, fun y hy => by rw [mw_miss (by omega)]; exact l3 y hy, by rw [mw_miss (by omega)]; exact l4⟩
  by_cases hkd : k = d
  · subst hkd
    rw [mw_hit, mw_hit]
  · rw [mw_miss (by omega), mw_miss (by omega)]
    exact l2
/-! a fault -/
theorem kF {g : mm_Mem} {j n d p w : Nat} (C : Cur g j n d p w) : IT (mm_wr (mm_wr g (28 + 6 * j) 5 0) (28 + 6 * j) 7 3) n := by
  obtain ⟨hj6, -, -⟩ := Cur_j C
  obtain ⟨-, b6, -⟩ := C.1.2.2.2.1 j C.2.1
  have e : ∀ q, ¬ q = 28 + 6 * j → mm_wr (mm_wr g (28 + 6 * j) 5 0) (28 + 6 * j) 7 3 q = g q := fun q hq => by rw [mw_ne hq, mw_ne hq]
  refine keepI_t C.1 C.2.1 (fun q hq => e q (by omega)) (fun q h1 h2 h3 => e q (by omega)) (Itask_mk (d := 0) (by rw [mw_miss (by omega), mw_hit]; rfl) (by omega) (by rw [mw_miss (by omega), mw_miss (by omega)]; exact b6) (by rw [mw_hit]; exact ⟨3, by omega, rfl⟩) ⟨fun _ => Or.inr mw_hit, fun _ => rfl⟩ (fun k hk => absurd hk (by omega)))
theorem kFL {g h : mm_Mem} {j n d p w : Nat} (C : Cur g j n d p w) (hL : Rs j g h) : Rs j (mm_wr (mm_wr g (28 + 6 * j) 5 0) (28 + 6 * j) 7 3) (mm_wr h 77 (j + 1) 0) := by
  obtain ⟨hj6, -, -⟩ := Cur_j C
  have e : ∀ q, ¬ q = 28 + 6 * j → mm_wr (mm_wr g (28 + 6 * j) 5 0) (28 + 6 * j) 7 3 q = g q := fun q hq => by rw [mw_ne hq, mw_ne hq]
  have eo : ∀ x, ¬ x = 5 → ¬ x = 7 → mm_wr (mm_wr g (28 + 6 * j) 5 0) (28 + 6 * j) 7 3 (28 + 6 * j) x = g (28 + 6 * j) x := fun x h1 h2 => by rw [mw_miss (by omega), mw_miss (by omega)]
  have e5 : mm_wr (mm_wr g (28 + 6 * j) 5 0) (28 + 6 * j) 7 3 (28 + 6 * j) 5 = 0 := by rw [mw_miss (by omega), mw_hit]
  have f : ∀ q, ¬ q = 77 → mm_wr h 77 (j + 1) 0 q = h q := fun q hq => mw_ne hq
  refine keepL_t C.1 hL (fun q hq => e q (by omega)) (fun q h1 h2 h3 => e q (by omega)) (fun q h1 h2 => f q (by omega)) ⟨f _ (by omega), fun y hy => ⟨by rw [f _ (by omega)], mw_miss (by omega), by rw [f _ (by omega)]⟩, fun y hy => by rw [f _ (by omega)], fun y hy => by rw [f _ (by omega)]⟩ ?_
  obtain ⟨k1, k2, k3, k4, k5⟩ := hL.2.2.2.2.2.2.2
  unfold Ltk dep
  rw [e5, eo 6 (by omega) (by omega), eo 8 (by omega) (by omega), f 79 (by omega), f 76 (by omega), f 80 (by omega), e (28 + 6 * j + 5) (by omega), cl_0]
  exact ⟨mw_hit, k2, k3, fun k hk => absurd hk (by omega), k5⟩
theorem sp_T_fail {g : mm_Mem} {j : Nat} (hj : j < 6) : mm_SV Γ smM_T_fail [.ref (mm_B Γ + (28 + 6 * j))] g (fun g' => g' = mm_wr (mm_wr g (28 + 6 * j) 5 0) (28 + 6 * j) 7 3) :=
  smr_T_fail (isT_j hj) (fun h1 e1 h2 e2 => by rw [e2, e1])
theorem sp_M_fault {h : mm_Mem} {j : Nat} (hj : j < 6) : mm_SI Γ smM_M_fault [.ref (mm_B Γ + 64), .int (nI (j + 1))] h (fun r h' => h' = mm_wr h 77 (j + 1) 0 ∧ r = 3) := by
  refine smr_M_fault _ ⟨tk3 hj, fun h1 e1 => ⟨?_, rfl⟩⟩
  rw [e1, tk4 hj]
end ST
