/-! ===== the pure side 71: what every call keeps ===== -/
def VV (σ : St) (x : Int) : Prop := -1 ≤ x ∧ x ≤ σ 1 6
def C1 (σ : St) : Prop := GO σ 20 ∧ inI (σ 20 8) ∧ VV σ (σ 20 9) ∧ (σ 20 9 = σ 1 6 → GrOK σ)
def C2 (σ : St) : Prop := VV σ (σ 35 1) ∧ (σ 35 1 = σ 1 6 → RoundsOK σ)
def C3 (σ : St) : Prop := GO σ 42 ∧ VV σ (σ 41 2) ∧ (σ 41 2 = σ 1 6 → DryOK σ)
def C4 (σ : St) : Prop := VV σ (σ 62 1) ∧ (σ 62 1 = σ 1 6 → NetOK σ)
def C5 (σ : St) : Prop := VV σ (σ 65 1) ∧ (σ 65 1 = σ 1 6 → HullOK σ)
theorem GrOK.mv {σ τ : St} (hC : ∀ k, k < 7 → τ k = σ k) (hk : ∀ k, 20 ≤ k → k ≤ 34 → τ k = σ k) (h : GrOK σ) : GrOK τ := by
  obtain ⟨w, w1, w2, w3⟩ := h
  have e20 := hk 20 (by omega) (by omega)
  exact ⟨w, w1, by rw [e20]; exact w2, (w3.cC hC).mv (fun k a b => hk k (by omega) (by omega)) (by rw [e20]) (by rw [e20]) (by rw [e20])⟩
theorem RoundsOK.mv {σ τ : St} (hC : ∀ k, k < 7 → τ k = σ k) (hk : ∀ k, 35 ≤ k → k ≤ 40 → τ k = σ k) (h : RoundsOK σ) : RoundsOK τ := by
  obtain ⟨M, U, V, W, h1, h2⟩ := h
  refine ⟨M, U, V, W, ?_, by rw [TL_cC hC]; exact h2⟩
  unfold RC at h1 ⊢
  rw [rB_cC hC, rA_cC hC, rU_cC hC, rD_cC hC, hk 35 (by omega) (by omega), hk 36 (by omega) (by omega), hk 37 (by omega) (by omega), hk 38 (by omega) (by omega), hk 39 (by omega) (by omega), hk 40 (by omega) (by omega)]
  exact h1
theorem DryOK.mv {σ τ : St} (hC : ∀ k, k < 7 → τ k = σ k) (hk : ∀ k, 41 ≤ k → k ≤ 61 → τ k = σ k) (h : DryOK σ) : DryOK τ := by
  unfold DryOK at h ⊢
  rw [VS_cC hC, BC_cC hC]
  have e := hk 41 (by omega) (by omega)
  exact h.mv (by rw [e]) (by rw [e]) (by rw [e]) (fun k a b => hk k (by omega) (by omega))
theorem NetOK.mv {σ τ : St} (hC : ∀ k, k < 7 → τ k = σ k) (hk : ∀ k, 62 ≤ k → k ≤ 64 → τ k = σ k) (h : NetOK σ) : NetOK τ := by
  unfold NetOK at h ⊢
  rw [pC_cC hC, key_cC hC, hk 62 (by omega) (by omega), hk 63 (by omega) (by omega)]
  exact h
theorem HullOK.mv {σ τ : St} (hC : ∀ k, k < 7 → τ k = σ k) (hk : ∀ k, 65 ≤ k → k ≤ 66 → τ k = σ k) (h : HullOK σ) : HullOK τ := by
  obtain ⟨L, l1, l2, l3, l4, l5⟩ := h
  exact ⟨L, l1, (orbEnd_cC hC L).mpr l2, fun i hi z => l3 i hi ((orbEnd_cC hC i).mp z), by rw [hk 65 (by omega) (by omega)]; exact l4, fun i hi => by rw [hk 66 (by omega) (by omega), orb_cC hC]; exact l5 i hi⟩
theorem C1.mv {σ τ : St} (h : C1 σ) (hC : ∀ k, k < 7 → τ k = σ k) (hk : ∀ k, 20 ≤ k → k ≤ 34 → τ k = σ k) : C1 τ := by
  have e := hk 20 (by omega) (by omega)
  have e1 := hC 1 (by omega)
  exact ⟨h.1.mv (by rw [e]) (by rw [e]), by rw [e]; exact h.2.1, by unfold VV; rw [e, e1]; exact h.2.2.1, fun z => (h.2.2.2 (by rw [e, e1] at z; exact z)).mv hC hk⟩
theorem C2.mv {σ τ : St} (h : C2 σ) (hC : ∀ k, k < 7 → τ k = σ k) (hk : ∀ k, 35 ≤ k → k ≤ 40 → τ k = σ k) : C2 τ := by
  have e := hk 35 (by omega) (by omega)
  have e1 := hC 1 (by omega)
  exact ⟨by unfold VV; rw [e, e1]; exact h.1, fun z => (h.2 (by rw [e, e1] at z; exact z)).mv hC hk⟩
theorem C3.mv {σ τ : St} (h : C3 σ) (hC : ∀ k, k < 7 → τ k = σ k) (hk : ∀ k, 41 ≤ k → k ≤ 61 → τ k = σ k) : C3 τ := by
  have e := hk 41 (by omega) (by omega)
  have e' := hk 42 (by omega) (by omega)
  have e1 := hC 1 (by omega)
  exact ⟨h.1.mv (by rw [e']) (by rw [e']), by unfold VV; rw [e, e1]; exact h.2.1, fun z => (h.2.2 (by rw [e, e1] at z; exact z)).mv hC hk⟩
theorem C4.mv {σ τ : St} (h : C4 σ) (hC : ∀ k, k < 7 → τ k = σ k) (hk : ∀ k, 62 ≤ k → k ≤ 64 → τ k = σ k) : C4 τ := by
  have e := hk 62 (by omega) (by omega)
  have e1 := hC 1 (by omega)
  exact ⟨by unfold VV; rw [e, e1]; exact h.1, fun z => (h.2 (by rw [e, e1] at z; exact z)).mv hC hk⟩
theorem C5.mv {σ τ : St} (h : C5 σ) (hC : ∀ k, k < 7 → τ k = σ k) (hk : ∀ k, 65 ≤ k → k ≤ 66 → τ k = σ k) : C5 τ := by
  have e := hk 65 (by omega) (by omega)
  have e1 := hC 1 (by omega)
  exact ⟨by unfold VV; rw [e, e1]; exact h.1, fun z => (h.2 (by rw [e, e1] at z; exact z)).mv hC hk⟩
def KEEP (n : Nat) (σC σM : St) : Prop := RA σC σM ∧ (0 ≤ σC 1 6 ∧ σC 1 6 ≤ 10 * (n : Int)) ∧ C1 σC ∧ C2 σC ∧ C3 σC ∧ C4 σC ∧ C5 σC
/-- after a call that may change the map -/
theorem KEEP.st {n : Nat} {σC σM τC τM : St} (h : KEEP n σC σM) (hA : RA τC τM) (hS : CSt σC τC) : KEEP (n + 1) τC τM := by
  obtain ⟨-, ⟨v0, v1⟩, c1, c2, c3, c4, c5⟩ := h
  obtain ⟨k20, s⟩ := hS
  rcases s with ⟨s1, s2⟩ | s
  · have e20 := k20 20 (by omega)
    have e35 := k20 35 (by omega)
    have e41 := k20 41 (by omega)
    have e42 := k20 42 (by omega)
    have e62 := k20 62 (by omega)
    have e65 := k20 65 (by omega)
    obtain ⟨a1, a2, a3, -⟩ := c1
    obtain ⟨b3, -⟩ := c2
    obtain ⟨d1, d3, -⟩ := c3
    obtain ⟨f3, -⟩ := c4
    obtain ⟨g3, -⟩ := c5
    unfold VV at a3 b3 d3 f3 g3
    refine ⟨hA, ⟨by omega, by omega⟩, ⟨a1.mv (by rw [e20]) (by rw [e20]), by rw [e20]; exact a2, ?_, ?_⟩, ⟨?_, ?_⟩, ⟨d1.mv (by rw [e42]) (by rw [e42]), ?_, ?_⟩, ⟨?_, ?_⟩, ⟨?_, ?_⟩⟩
    · unfold VV; rw [e20]; omega
    · rw [e20]; omega
    · unfold VV; rw [e35]; omega
    · rw [e35]; omega
    · unfold VV; rw [e41]; omega
    · rw [e41]; omega
    · unfold VV; rw [e62]; omega
    · rw [e62]; omega
    · unfold VV; rw [e65]; omega
    · rw [e65]; omega
  · have e1 := s 1 (by omega)
    refine ⟨hA, by rw [e1]; omega, c1.mv s (fun k a _ => k20 k a), c2.mv s (fun k a _ => k20 k (by omega)), c3.mv s (fun k a _ => k20 k (by omega)), c4.mv s (fun k a _ => k20 k (by omega)), c5.mv s (fun k a _ => k20 k (by omega))⟩
/-- after a call that only asks -/
theorem KEEP.mk {n : Nat} {σC σM τC τM : St} (h : KEEP n σC σM) (hC : ∀ k, k < 20 → τC k = σC k) (hM : ∀ k, 0 < k → k < 13 ∨ k = 31 ∨ k = 32 → τM k = σM k) (h0 : ∀ j, j < 3 ∨ j = 8 → τM 0 j = σM 0 j) (c1 : C1 τC) (c2 : C2 τC) (c3 : C3 τC) (c4 : C4 τC) (c5 : C5 τC) : KEEP (n + 1) τC τM := by
  have e1 := hC 1 (by omega)
  refine ⟨(h.1.cC hC).cM hM h0, by rw [e1]; have := h.2.1; omega, c1, c2, c3, c4, c5⟩
theorem KEEP.v {n : Nat} {σC σM : St} (h : KEEP n σC σM) (hn : n < 512) : inI (σC 1 6) ∧ ∀ x, VV σC x → inI x := by
  have := h.2.1
  refine ⟨by unfold inI; omega, fun x hx => ?_⟩
  unfold VV at hx
  unfold inI; omega
theorem KEEP.same {n : Nat} {σC σM : St} (h : KEEP n σC σM) : KEEP (n + 1) σC σM := h.st h.1 CSt.refl
