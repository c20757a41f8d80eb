section ST
variable {Γ : mm_Ctx}
theorem rem4 {c : Nat} (hc : c < 12) : nI c - nI c / 4 * 4 = nI (c % 4) := pk_rem (a := c) (d := 4) (by omega) (by decide) (by decide)
def isFd (g : mm_Mem) (v : Nat) (x : Int32) : Prop := vp_in x 12 ∧ x.toNatClampNeg % 4 < (g (v + 6) (x.toNatClampNeg / 4)).toNatClampNeg
theorem sp_isFieldOfType {v : Nat} (hv : v = 1 ∨ v = 8) {g : mm_Mem} (hI : Iv g v) {x : Int32} : mm_B1 Γ smM_V_isFieldOfType [.ref (mm_B Γ + v), .int x] g (isFd g v x) := by
  refine smr_V_isFieldOfType hv _ (us_br (sp_within 12 rfl (by decide)) (fun a => ?_) (fun a => ⟨rfl, mmB_0 (fun q => a q.1)⟩))
  obtain ⟨c, hc, rfl, ec⟩ := vin_of a (by decide)
  obtain ⟨w, hw, ew⟩ := hI.2 (c / 4) (by omega)
  rw [div4 hc, nI_clamp (n := c / 4) (by omega), show nI c - nI (c / 4) * 4 = nI (c % 4) from by rw [← div4 hc]; exact rem4 hc, ew]
  have iff1 : isFd g v (nI c) ↔ c % 4 < w := by
    unfold isFd
    rw [ec, ew, nI_clamp (by omega)]
    exact ⟨fun q => q.2, fun q => ⟨a, q⟩⟩
  refine ⟨vp_in_nI (by omega) (by decide), fun b => ⟨rfl, mmB_0 (fun q => ?_)⟩, fun b => ⟨rfl, mmB_1 (iff1.mpr ?_)⟩⟩
  · have h1 := iff1.mp q
    have h2 := (nI_leI (a := w) (b := c % 4) (by omega) (by omega)).mp b
    omega
  · have h2 : ¬ w ≤ c % 4 := fun z => b (nI_le z (by omega))
    omega
theorem sp_M_isField {g h : mm_Mem} (hI : Iv g 8) (L8 : Lver g h 8 288 6 3) {x : Int32} : mm_B1 Γ smM_M_isField [.ref (mm_B Γ + 64), .int x] h (isFd g 8 x) := by
  refine smr_M_isField _ ⟨fun a => ⟨rfl, mmB_0 (fun q => ((vin_iff (by decide)).mp q.1).1 a)⟩, fun a => ⟨fun b => ⟨rfl, mmB_0 (fun q => ((vin_iff (by decide)).mp q.1).2 b)⟩, fun b => ?_⟩⟩
  have hv := (vin_iff (x := x) (n := 12) (by decide)).mpr ⟨a, b⟩
  obtain ⟨c, hc, rfl, ec⟩ := vin_of hv (by decide)
  obtain ⟨w, hw, ew⟩ := hI.2 (c / 4) (by omega)
  have e3 : (3 : Int32) + nI (c / 4) = nI (3 + c / 4) := nI_add 3 _
  have e67 : h 67 (3 + c / 4) = nI w := (L8.2.2 (c / 4) (by omega)).trans ew
  rw [show nI c - nI c / 4 * 4 = nI (c % 4) from rem4 hc, div4 hc, e3, nI_clamp (n := 3 + c / 4) (by omega), e67]
  have iff1 : isFd g 8 (nI c) ↔ c % 4 < w := by
    unfold isFd
    rw [ec, ew, nI_clamp (by omega)]
    exact ⟨fun q => q.2, fun q => ⟨hv, q⟩⟩
  refine ⟨vp_in_nI (by omega) (by decide), fun b => ⟨rfl, mmB_0 (fun q => ?_)⟩, fun b => ⟨rfl, mmB_1 (iff1.mpr ?_)⟩⟩
  · have h1 := iff1.mp q
    have h2 := (nI_leI (a := w) (b := c % 4) (by omega) (by omega)).mp b
    omega
  · have h2 : ¬ w ≤ c % 4 := fun z => b (nI_le z (by omega))
    omega
section RW
variable {g : mm_Mem} {v p w : Nat}
theorem rw_0 (e : g (v + 2) w = 0 ∨ g (v + 2) w = 1 ∨ g (v + 2) w = 11) : rightW g v p w ↔ vp_in (g (v + 3) w) 3 := by
  unfold rightW
  rw [if_pos e]
theorem rw_2 (e : g (v + 2) w = 2 ∨ g (v + 2) w = 3) : rightW g v p w ↔ vp_in (g (v + 3) w) 3 ∧ vp_in (g (v + 4) w) 3 ∧ vp_in (g (v + 5) w) 3 := by
  rcases e with e | e <;> simp [rightW, e]
theorem rw_4 (e : g (v + 2) w = 4) : rightW g v p w ↔ vp_in (g (v + 3) w) 3 ∧ vp_in (g (v + 4) w) (g (v + 1) p).toNatClampNeg := by
  simp [rightW, e]
theorem rw_5 (e : g (v + 2) w = 5) : rightW g v p w ↔ vp_in (g (v + 3) w) 3 ∧ (vp_in (g (v + 4) w) 6 ∧ ¬ g (v + 1) (g (v + 4) w).toNatClampNeg ≤ 0) ∧ vp_in (g (v + 5) w) 3 := by
  simp [rightW, e]
theorem rw_6 (e : g (v + 2) w = 6) : rightW g v p w ↔ vp_in (g (v + 3) w) 3 ∧ vp_in (g (v + 4) w) 3 ∧ ¬ g (v + 6) (g (v + 4) w).toNatClampNeg ≤ 0 := by
  simp [rightW, e]
theorem rw_7 (e : g (v + 2) w = 7 ∨ g (v + 2) w = 8) : rightW g v p w ↔ vp_in (g (v + 3) w) 3 ∧ vp_in (g (v + 4) w) 3 ∧ isFd g v (g (v + 5) w) := by
  unfold isFd
  rcases e with e | e <;> simp [rightW, e]
theorem rw_9 (e : g (v + 2) w = 9 ∨ g (v + 2) w = 10) : rightW g v p w ↔ vp_in (g (v + 3) w) 3 ∧ vp_in (g (v + 4) w) 4 := by
  rcases e with e | e <;> simp [rightW, e]
theorem rw_12 (e : g (v + 2) w = 12) : rightW g v p w ↔ vp_in (g (v + 3) w) 4 := by
  simp [rightW, e]
theorem rw_no (n0 : ¬ g (v + 2) w = 0) (n1 : ¬ g (v + 2) w = 1) (n2 : ¬ g (v + 2) w = 2) (n3 : ¬ g (v + 2) w = 3) (n4 : ¬ g (v + 2) w = 4) (n5 : ¬ g (v + 2) w = 5) (n6 : ¬ g (v + 2) w = 6) (n7 : ¬ g (v + 2) w = 7) (n8 : ¬ g (v + 2) w = 8) (n9 : ¬ g (v + 2) w = 9) (n10 : ¬ g (v + 2) w = 10) (n11 : ¬ g (v + 2) w = 11) (n12 : ¬ g (v + 2) w = 12) : ¬ rightW g v p w := by
  simp [rightW, n0, n1, n2, n3, n4, n5, n6, n7, n8, n9, n10, n11, n12]
end RW
theorem sp_V_isRight {v : Nat} (hv : v = 1 ∨ v = 8) {g : mm_Mem} (hI : Iv g v) {p w : Nat} (hp : p < 6) (hw : w < 72) : mm_B1 Γ smM_V_isRight [.ref (mm_B Γ + v), .int (nI p), .int (nI w)] g (rightW g v p w) := by
  have w72 : vp_in (nI w) 72 := vp_in_nI hw (by decide)
  have v6 : vp_in (nI p) 6 := vp_in_nI hp (by decide)
  obtain ⟨el, hl⟩ := lenV_of hI hp
  refine smr_V_isRight hv _ _ ?_
  rw [nI_clamp (n := w) (by omega), nI_clamp (n := p) (by omega)]
  refine ⟨w72, fun e => ⟨w72, ?_⟩, fun e => ⟨w72, ?_⟩, fun e => ⟨w72, ?_⟩, fun e => ⟨w72, ?_⟩, fun e => ⟨w72, ?_⟩, fun e => ⟨w72, ?_⟩, fun e => ⟨w72, ?_⟩, fun e => ⟨w72, ?_⟩, fun n0 n1 n2 n3 n4 n5 n6 n7 n8 n9 n10 n11 n12 => ⟨rfl, mmB_0 (rw_no n0 n1 n2 n3 n4 n5 n6 n7 n8 n9 n10 n11 n12)⟩⟩
  · exact us_z sp_isLocal (fun a => ⟨rfl, mmB_1 ((rw_0 e).mpr a)⟩) (fun a => ⟨rfl, mmB_0 (fun q => a ((rw_0 e).mp q))⟩)
  · refine us_br sp_isLocal (fun a => ⟨w72, us_br sp_isLocal (fun b => ⟨w72, us_br sp_isLocal (fun c => ⟨rfl, mmB_1 ((rw_2 e).mpr ⟨a, b, c⟩)⟩) (fun c => ⟨rfl, mmB_0 (fun q => c ((rw_2 e).mp q).2.2)⟩)⟩) (fun b => ⟨rfl, mmB_0 (fun q => b ((rw_2 e).mp q).2.1)⟩)⟩) (fun a => ⟨rfl, mmB_0 (fun q => a ((rw_2 e).mp q).1)⟩)
  · refine us_br sp_isLocal (fun a => ⟨w72, v6, us_br (sp_within (lenV g v p) el (by omega)) (fun b => ⟨rfl, mmB_1 ((rw_4 e).mpr ⟨a, b⟩)⟩) (fun b => ⟨rfl, mmB_0 (fun q => b ((rw_4 e).mp q).2)⟩)⟩) (fun a => ⟨rfl, mmB_0 (fun q => a ((rw_4 e).mp q).1)⟩)
  · refine us_br sp_isLocal (fun a => ⟨w72, us_br (sp_hasProcedure hv) (fun b => ⟨w72, us_br sp_isLocal (fun c => ⟨rfl, mmB_1 ((rw_5 e).mpr ⟨a, b, c⟩)⟩) (fun c => ⟨rfl, mmB_0 (fun q => c ((rw_5 e).mp q).2.2)⟩)⟩) (fun b => ⟨rfl, mmB_0 (fun q => b ((rw_5 e).mp q).2.1)⟩)⟩) (fun a => ⟨rfl, mmB_0 (fun q => a ((rw_5 e).mp q).1)⟩)
  · refine us_br sp_isLocal (fun a => ⟨w72, us_br (sp_within 3 rfl (by decide)) (fun b => ⟨w72, b, fun c => ⟨rfl, mmB_0 (fun q => ((rw_6 e).mp q).2.2 c)⟩, fun c => ⟨rfl, mmB_1 ((rw_6 e).mpr ⟨a, b, c⟩)⟩⟩) (fun b => ⟨rfl, mmB_0 (fun q => b ((rw_6 e).mp q).2.1)⟩)⟩) (fun a => ⟨rfl, mmB_0 (fun q => a ((rw_6 e).mp q).1)⟩)
  · refine us_br sp_isLocal (fun a => ⟨w72, us_br sp_isLocal (fun b => ⟨w72, us_br (sp_isFieldOfType hv hI) (fun c => ⟨rfl, mmB_1 ((rw_7 e).mpr ⟨a, b, c⟩)⟩) (fun c => ⟨rfl, mmB_0 (fun q => c ((rw_7 e).mp q).2.2)⟩)⟩) (fun b => ⟨rfl, mmB_0 (fun q => b ((rw_7 e).mp q).2.1)⟩)⟩) (fun a => ⟨rfl, mmB_0 (fun q => a ((rw_7 e).mp q).1)⟩)
  · refine us_br sp_isLocal (fun a => ⟨w72, us_br (sp_within 4 rfl (by decide)) (fun b => ⟨rfl, mmB_1 ((rw_9 e).mpr ⟨a, b⟩)⟩) (fun b => ⟨rfl, mmB_0 (fun q => b ((rw_9 e).mp q).2)⟩)⟩) (fun a => ⟨rfl, mmB_0 (fun q => a ((rw_9 e).mp q).1)⟩)
  · exact us_z (sp_within 4 rfl (by decide)) (fun a => ⟨rfl, mmB_1 ((rw_12 e).mpr a)⟩) (fun a => ⟨rfl, mmB_0 (fun q => a ((rw_12 e).mp q))⟩)
theorem sp_M_isRight {g h : mm_Mem} (hI : Iv g 8) (L8 : Lver g h 8 288 6 3) {p i : Nat} (hp : p < 6) (hi : i < 12) : mm_B1 Γ smM_M_isRight [.ref (mm_B Γ + 64), .int (nI p), .int (nI i)] h (rightW g 8 p (12 * p + i)) := by
  obtain ⟨el, hl⟩ := lenV_of hI hp
  refine smr_M_isRight _ _ (fun y ey => ?_)
  have ey' : y = nI (288 + 4 * (12 * p + i)) := by
    rw [ey]
    show nI 288 + nI 48 * nI p + nI 4 * nI i = _
    rw [pk_mul, pk_mul, nI_add, nI_add]
    congr 1
    omega
  subst ey'
  obtain ⟨a1, a2, a3, a4⟩ := L8.2.1 (12 * p + i) (by omega)
  have g1 : nI (288 + 4 * (12 * p + i)) + 1 = nI (288 + 4 * (12 * p + i) + 1) := nI_add _ 1
  have g2 : nI (288 + 4 * (12 * p + i)) + 2 = nI (288 + 4 * (12 * p + i) + 2) := nI_add _ 2
  have g3 : nI (288 + 4 * (12 * p + i)) + 3 = nI (288 + 4 * (12 * p + i) + 3) := nI_add _ 3
  have e6 : (6 : Int32) + nI p = nI (6 + p) := nI_add 6 p
  rw [g1, g2, g3, e6, nI_clamp (n := 288 + 4 * (12 * p + i)) (by omega), nI_clamp (n := 288 + 4 * (12 * p + i) + 1) (by omega), nI_clamp (n := 288 + 4 * (12 * p + i) + 2) (by omega), nI_clamp (n := 288 + 4 * (12 * p + i) + 3) (by omega), nI_clamp (n := 6 + p) (by omega), a1, a2, a3, a4]
  have hw72 : 12 * p + i < 72 := by omega
  generalize 12 * p + i = w at hw72 ⊢
  have f66 : h 66 (6 + p) = nI (lenV g 8 p) := (L8.1 p hp).trans el
  have v12 : vp_in (nI (6 + p)) 12 := vp_in_nI (by omega) (by decide)
  refine ⟨vp_in_nI (by omega) (by decide), fun op eop => ⟨vp_in_nI (by omega) (by decide), fun a ea => ⟨vp_in_nI (by omega) (by decide), fun b eb => ⟨vp_in_nI (by omega) (by decide), fun c ec => ?_⟩⟩⟩⟩
  subst eop
  subst ea
  subst eb
  subst ec
  refine ⟨fun e => ?_, fun e => ?_, fun e => ?_, fun e => ?_, fun e => ?_, fun e => ?_, fun e => ?_, fun e => ?_, fun n0 n1 n2 n3 n4 n5 n6 n7 n8 n9 n10 n11 n12 => ⟨rfl, mmB_0 (rw_no n0 n1 n2 n3 n4 n5 n6 n7 n8 n9 n10 n11 n12)⟩⟩
  · exact us_z sp_M_isLocal (fun a => ⟨rfl, mmB_1 ((rw_0 e).mpr a)⟩) (fun a => ⟨rfl, mmB_0 (fun q => a ((rw_0 e).mp q))⟩)
  · refine us_br sp_M_isLocal (fun a => us_br sp_M_isLocal (fun b => us_br sp_M_isLocal (fun c => ⟨rfl, mmB_1 ((rw_2 e).mpr ⟨a, b, c⟩)⟩) (fun c => ⟨rfl, mmB_0 (fun q => c ((rw_2 e).mp q).2.2)⟩)) (fun b => ⟨rfl, mmB_0 (fun q => b ((rw_2 e).mp q).2.1)⟩)) (fun a => ⟨rfl, mmB_0 (fun q => a ((rw_2 e).mp q).1)⟩)
  · refine us_br sp_M_isLocal (fun a => ?_) (fun a => ⟨rfl, mmB_0 (fun q => a ((rw_4 e).mp q).1)⟩)
    rw [f66]
    have vi := vin_iff (x := g (8 + 4) w) (n := lenV g 8 p) (by omega)
    exact ⟨fun b => ⟨rfl, mmB_0 (fun q => (vi.mp ((rw_4 e).mp q).2).1 b)⟩, fun b => ⟨v12, fun c => ⟨rfl, mmB_0 (fun q => (vi.mp ((rw_4 e).mp q).2).2 c)⟩, fun c => ⟨rfl, mmB_1 ((rw_4 e).mpr ⟨a, vi.mpr ⟨b, c⟩⟩)⟩⟩⟩
  · refine us_br sp_M_isLocal (fun a => us_br sp_M_isLocal (fun c => us_br sp_M_isProcedure (fun b => ?_) (fun b => ⟨rfl, mmB_0 (fun q => b ((rw_5 e).mp q).2.1.1)⟩)) (fun c => ⟨rfl, mmB_0 (fun q => c ((rw_5 e).mp q).2.2)⟩)) (fun a => ⟨rfl, mmB_0 (fun q => a ((rw_5 e).mp q).1)⟩)
    obtain ⟨p', hp', ep', cp'⟩ := vin_of b (by decide)
    have r5 := rw_5 (p := p) e
    rw [cp'] at r5
    have e6' : (6 : Int32) + nI p' = nI (6 + p') := nI_add 6 p'
    rw [ep', e6', nI_clamp (n := 6 + p') (by omega), L8.1 p' hp']
    exact ⟨vp_in_nI (by omega) (by decide), fun d => ⟨rfl, mmB_0 (fun q => (r5.mp q).2.1.2 d)⟩, fun d => ⟨rfl, mmB_1 (r5.mpr ⟨a, ⟨b, d⟩, c⟩)⟩⟩
  · refine us_br sp_M_isLocal (fun a => us_br sp_M_isType (fun b => ?_) (fun b => ⟨rfl, mmB_0 (fun q => b ((rw_6 e).mp q).2.1)⟩)) (fun a => ⟨rfl, mmB_0 (fun q => a ((rw_6 e).mp q).1)⟩)
    obtain ⟨t, ht, et, ct⟩ := vin_of b (by decide)
    have r6 := rw_6 (p := p) e
    rw [ct] at r6
    have e3' : (3 : Int32) + nI t = nI (3 + t) := nI_add 3 t
    rw [et, e3', nI_clamp (n := 3 + t) (by omega), L8.2.2 t ht]
    exact ⟨vp_in_nI (by omega) (by decide), fun d => ⟨rfl, mmB_0 (fun q => (r6.mp q).2.2 d)⟩, fun d => ⟨rfl, mmB_1 (r6.mpr ⟨a, b, d⟩)⟩⟩
  · refine us_br sp_M_isLocal (fun a => us_br sp_M_isLocal (fun b => us_br (sp_M_isField hI L8) (fun c => ⟨rfl, mmB_1 ((rw_7 e).mpr ⟨a, b, c⟩)⟩) (fun c => ⟨rfl, mmB_0 (fun q => c ((rw_7 e).mp q).2.2)⟩)) (fun b => ⟨rfl, mmB_0 (fun q => b ((rw_7 e).mp q).2.1)⟩)) (fun a => ⟨rfl, mmB_0 (fun q => a ((rw_7 e).mp q).1)⟩)
  · refine us_br sp_M_isLocal (fun a => ?_) (fun a => ⟨rfl, mmB_0 (fun q => a ((rw_9 e).mp q).1)⟩)
    have vi := vin_iff (x := g (8 + 4) w) (n := 4) (by decide)
    exact ⟨fun b => ⟨rfl, mmB_0 (fun q => (vi.mp ((rw_9 e).mp q).2).1 b)⟩, fun b => ⟨fun c => ⟨rfl, mmB_0 (fun q => (vi.mp ((rw_9 e).mp q).2).2 c)⟩, fun c => ⟨rfl, mmB_1 ((rw_9 e).mpr ⟨a, vi.mpr ⟨b, c⟩⟩)⟩⟩⟩
  · have vi := vin_iff (x := g (8 + 3) w) (n := 4) (by decide)
    exact ⟨fun b => ⟨rfl, mmB_0 (fun q => (vi.mp ((rw_12 e).mp q)).1 b)⟩, fun b => ⟨fun c => ⟨rfl, mmB_0 (fun q => (vi.mp ((rw_12 e).mp q)).2 c)⟩, fun c => ⟨rfl, mmB_1 ((rw_12 e).mpr (vi.mpr ⟨b, c⟩))⟩⟩⟩
/-- (p, i) is the first wrong word -/
def before (p' i' p i : Nat) : Prop := p' < p ∨ p' = p ∧ i' < i
def fstBad (g : mm_Mem) (v p i : Nat) : Prop := p < 6 ∧ i < lenV g v p ∧ ¬ okW g v p i ∧ ∀ p' i', p' < 6 → i' < lenV g v p' → before p' i' p i → okW g v p' i'
theorem fstBad_eq {g : mm_Mem} {v p i p' i' : Nat} (h1 : fstBad g v p i) (h2 : fstBad g v p' i') : p = p' ∧ i = i' := by
  obtain ⟨a1, a2, a3, a4⟩ := h1
  obtain ⟨b1, b2, b3, b4⟩ := h2
  by_cases c : before p i p' i'
  · exact absurd (b4 p i a1 a2 c) a3
  · by_cases d : before p' i' p i
    · exact absurd (a4 p' i' b1 b2 d) b3
    · unfold before at c d
      omega
theorem sp_firstWrong {v : Nat} (hv : v = 1 ∨ v = 8) {g : mm_Mem} (hI : Iv g v) : mm_SI Γ smM_V_firstWrongWord [.ref (mm_B Γ + v)] g (fun r g' => g' = g ∧ ((r = -1 ∧ okV g v) ∨ ∃ p i, fstBad g v p i ∧ r = nI (12 * p + i))) := by
  generalize hpost : (fun (r : Int32) (g' : mm_Mem) => g' = g ∧ ((r = -1 ∧ okV g v) ∨ ∃ p i, fstBad g v p i ∧ r = nI (12 * p + i))) = post
  have inner : ∀ p, p < 6 → ((∀ p' i', p' < 6 → i' < lenV g v p' → before p' i' (p + 1) 0 → okW g v p' i') → mm_W Γ smM_V_firstWrongWord (mm_pI post) 2 [some (.ref (mm_B Γ + v)), some (.int (nI (p + 1))), none, none, none] [] g) → ∀ d i, i + d = lenV g v p → (∀ p' i', p' < 6 → i' < lenV g v p' → before p' i' p i → okW g v p' i') → mm_W Γ smM_V_firstWrongWord (mm_pI post) 10 [some (.ref (mm_B Γ + v)), some (.int (nI p)), some (.int (nI i)), none, none] [] g := by
    intro p hp knext
    obtain ⟨el, hl⟩ := lenV_of hI hp
    have v6 : vp_in (nI p) 6 := vp_in_nI hp (by decide)
    intro d
    induction d with
    | zero =>
      intro i hi hb
      refine smr_V_firstWrongWord_10 hv _ _ ?_
      rw [nI_clamp (n := p) (by omega), el, nI_1]
      refine ⟨v6, br_t (nI_le (by omega) (by omega)) (knext (fun p' i' h1 h2 h3 => ?_))⟩
      refine hb p' i' h1 h2 ?_
      unfold before at h3 ⊢
      by_cases hpp : p' = p
      · subst hpp
        omega
      · omega
    | succ d ih =>
      intro i hi hb
      refine smr_V_firstWrongWord_10 hv _ _ ?_
      rw [nI_clamp (n := p) (by omega), el]
      refine ⟨v6, br_f (nI_ge (by omega) (by omega)) (us_eq (sp_at p i rfl rfl) ?_)⟩
      have w72 : vp_in (nI (12 * p + i)) 72 := vp_in_nI (by omega) (by decide)
      rw [el, nI_clamp (n := 12 * p + i) (by omega)]
      have bad : ¬ okW g v p i → post (nI (12 * p + i)) g := by
        intro hn
        rw [← hpost]
        exact ⟨rfl, Or.inr ⟨p, i, ⟨hp, by omega, hn, hb⟩, rfl⟩⟩
      have run : (i + 1 = lenV g v p → g (v + 2) (12 * p + i) = 0) → mm_SI Γ smM_V_isRight [.ref (mm_B Γ + v), .int (nI p), .int (nI (12 * p + i))] g (fun r62 h62 => (¬ r62 = 0 → mm_W Γ smM_V_firstWrongWord (mm_pI post) 10 [some (.ref (mm_B Γ + v)), some (.int (nI p)), some (.int (nI i + 1)), none, none] [] h62) ∧ (r62 = 0 → post (nI (12 * p + i)) h62)) := by
        intro hend
        refine us_br' (sp_V_isRight hv hI hp (by omega)) (fun a => ?_) (fun a => bad (fun q => a q.1))
        rw [nI_1]
        refine ih (i + 1) (by omega) (fun p' i' h1 h2 h3 => ?_)
        by_cases hpi : p' = p ∧ i' = i
        · obtain ⟨rfl, rfl⟩ := hpi
          exact ⟨a, hend⟩
        · refine hb p' i' h1 h2 ?_
          unfold before at h3 ⊢
          omega
      have e1 : nI (lenV g v p) - 1 = nI (lenV g v p - 1) := by
        have : lenV g v p = (lenV g v p - 1) + 1 := by omega
        rw [this, nI_pred]
        rfl
      rw [e1]
      refine ⟨v6, fun ne => br_p rfl (run (fun h1 => ?_)), fun eq => ⟨w72, fun z => br_p rfl (run (fun _ => z)), fun z => br_n (by decide) (bad (fun q => z (q.2 ?_)))⟩⟩
      · exfalso
        apply ne
        congr 1
        omega
      · have := nI_in' (by omega) (by omega) eq
        omega
  have outer : ∀ d p, p + d = 6 → (∀ p' i', p' < 6 → i' < lenV g v p' → before p' i' p 0 → okW g v p' i') → mm_W Γ smM_V_firstWrongWord (mm_pI post) 2 [some (.ref (mm_B Γ + v)), some (.int (nI p)), none, none, none] [] g := by
    intro d
    induction d with
    | zero =>
      intro p hp hb
      obtain rfl : p = 6 := by omega
      refine smr_V_firstWrongWord_2 hv _ (br_t (by decide) ?_)
      rw [← hpost]
      refine ⟨rfl, Or.inl ⟨rfl, fun p' i' h1 h2 => hb p' i' h1 h2 (Or.inl h1)⟩⟩
    | succ d ih =>
      intro p hp hb
      exact smr_V_firstWrongWord_2 hv _ (br_f (nI_ge (a := p) (b := 6) (by omega) (by omega)) (inner p (by omega) (ih (p + 1) (by omega)) (lenV g v p) 0 (by omega) hb))
  exact smr_V_firstWrongWord hv (outer 6 0 rfl (fun p' i' h1 h2 h3 => by unfold before at h3; omega))
end ST
