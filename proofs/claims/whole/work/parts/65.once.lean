/-! ===== the pure side 45: draw, drawOnce ===== -/
def GO (σ : St) (g : Nat) : Prop := ∃ o s : Nat, GD g o s ∧ σ g 4 = (o : Int) ∧ σ g 5 = (s : Int)
def GX (σC τ : St) (g w : Nat) (wt : Bool) : Prop := GO τ g ∧ (pC σC w = true → GR σC τ g w wt) ∧ (pC σC w = false → ∃ o s : Nat, GD g o s ∧ τ g 4 = (o : Int) ∧ τ g 5 = (s : Int) ∧ τ o 0 = 0)
theorem bl_cC {σ τ : St} (hC : ∀ k, k < 7 → τ k = σ k) : bl τ = bl σ := by
  funext wt v w
  have eo : ∀ u, offC τ u = offC σ u := fun u => by unfold offC; rw [hC 5 (by omega), hC 6 (by omega)]
  unfold bl
  rw [hC 3 (by omega), hC 4 (by omega), eo, eo]
theorem sdL_cC {σ τ : St} (hC : ∀ k, k < 7 → τ k = σ k) : sdL τ = sdL σ := by
  funext i
  unfold sdL
  rw [hC 1 (by omega)]
theorem LSn_cC {σ τ : St} (hC : ∀ k, k < 7 → τ k = σ k) : LSn τ = LSn σ := by
  funext w n l
  unfold LSn
  rw [pC_cC hC]
theorem lnOK_cC {σ τ : St} (hC : ∀ k, k < 7 → τ k = σ k) : lnOK τ = lnOK σ := by
  funext wt w n Ln
  unfold lnOK
  rw [pC_cC hC, bl_cC hC, sdL_cC hC]
theorem GX.cC {σ σ' τ : St} {g w : Nat} {wt : Bool} (hC : ∀ k, k < 7 → σ' k = σ k) (h : GX σ τ g w wt) : GX σ' τ g w wt := by
  unfold GX GR at *
  rw [pC_cC hC, lnOK_cC hC, LSn_cC hC]
  exact h
theorem GX.mv {σC τ τ' : St} {g w : Nat} {wt : Bool} (h : GX σC τ g w wt) (hk : ∀ k, g < k → k ≤ g + 14 → τ' k = τ k) (h4 : τ' g 4 = τ g 4) (h5 : τ' g 5 = τ g 5) (h7 : τ' g 7 = τ g 7) : GX σC τ' g w wt := by
  obtain ⟨⟨o, s, a1, a2, a3⟩, h2, h3⟩ := h
  refine ⟨⟨o, s, a1, by rw [h4]; exact a2, by rw [h5]; exact a3⟩, fun pw => ?_, fun pw => ?_⟩
  · obtain ⟨o, s, m, f, E, b1, b2, b3, b4, b5, b6, b7, b8, b9, b10, b11, b12⟩ := h2 pw
    have gb := b1.b
    have ep : ptO τ' o = ptO τ o := by
      funext i
      unfold ptO
      rw [hk (o + 1) (by omega) (by omega), hk (o + 2) (by omega) (by omega), hk (o + 3) (by omega) (by omega)]
    have el : lnG τ' g = lnG τ g := by
      funext i
      unfold lnG
      rw [hk (g + 1) (by omega) (by omega), hk (g + 2) (by omega) (by omega), hk (g + 3) (by omega) (by omega)]
    exact ⟨o, s, m, f, E, b1, by rw [h4]; exact b2, by rw [h5]; exact b3, by rw [hk o (by omega) (by omega)]; exact b4, b5, by rw [ep]; exact b6, by rw [el]; exact b7, by rw [ep, el]; exact b8, by rw [h7]; exact b9, b10, by rw [ep]; exact b11, by rw [ep, el]; exact b12⟩
  · obtain ⟨o, s, b1, b2, b3, b4⟩ := h3 pw
    have gb := b1.b
    exact ⟨o, s, b1, by rw [h4]; exact b2, by rw [h5]; exact b3, by rw [hk o (by omega) (by omega)]; exact b4⟩
theorem draw_spec {σC σM : St} (h : Rw σC σM) {g w : Nat} (wt : Bool) (hg : 20 ≤ g) (hO : GO σC g) (hw : w < 24) : ∃ υ, f_X1_draw σC g (w : Int) (bI wt) = some υ ∧ (∀ k, k < g ∨ g + 14 < k → υ k = σC k) ∧ (∀ j, j ≠ 4 → j ≠ 5 → j ≠ 7 → υ g j = σC g j) ∧ GX σC υ g w wt := by
  obtain ⟨o, s, hG, h4, h5⟩ := hO
  obtain ⟨n1, n2⟩ := hG.ln
  have gb := hG.b
  obtain ⟨τ, eτ⟩ : ∃ τ, τ = up2 (up2 σC o 0 0) g 7 0 := ⟨_, rfl⟩
  have tk : ∀ k, k ≠ o → k ≠ g → τ k = σC k := fun k a b => by rw [eτ, up2_k b, up2_k a]
  have tj : ∀ j, j ≠ 7 → τ g j = σC g j := fun j hj => by rw [eτ, up2_j hj, up2_k (by omega)]
  have t7 : τ g 7 = 0 := by rw [eτ, up2_same]
  have t0 : τ o 0 = 0 := by rw [eτ, up2_k (by omega), up2_same]
  have iC : ∀ k, k < 7 → τ k = σC k := fun k hk => tk k (by omega) (by omega)
  have ic : f_X9_isCounted τ (w : Int) = some (bI (pC σC w)) := by
    have := (h.cC iC).cnC hw
    rw [pC_cC iC] at this
    exact this
  have st : ∀ x : Option St, (∀ r, r = bI (pC σC w) → jchk (inI r) (if r = 0 then some τ else jbind (f_X1_beginWithMap τ g) (fun σ_5 => jlet (0 : Int) (fun x3_6 => jbind (jloop (fun (q : (St × Int)) => match q with | (σ, x3) => f_X1_draw_b31 σ g (w : Int) (bI wt) x3) 1000 (σ_5, x3_6)) (fun σ_12 => jlet (1 : Int) (fun x3_13 => jbind (jloop (fun (q : (St × Int)) => match q with | (σ, x3) => f_X1_draw_b83 σ g x3) 1000 (σ_12, x3_13)) (fun σ_20 => some σ_20)))))) = x) → f_X1_draw σC g (w : Int) (bI wt) = x := by
    intro x hx
    rw [f_X1_draw, f_X1_draw_b0, h4, cast_n, jlet_v, jchk_t n2, jlet_v, jlet_v, ← eτ, ic, jbind_s]
    exact hx _ rfl
  cases pw : pC σC w with
  | false =>
    refine ⟨τ, st _ (fun r hr => ?_), fun k hk => tk k (by omega) (by omega), fun j _ _ c => tj j c, ⟨o, s, hG, by rw [tj 4 (by decide)]; exact h4, by rw [tj 5 (by decide)]; exact h5⟩, fun z => (Bool.noConfusion (pw.symm.trans z)), fun _ => ⟨o, s, hG, by rw [tj 4 (by decide)]; exact h4, by rw [tj 5 (by decide)]; exact h5, t0⟩⟩
    rw [hr, pw, bI_f, jc_I (by omega) (by omega), if_pos rfl]
  | true =>
    obtain ⟨β, b0, b1⟩ := begin_spec (σ := σC) (τ := τ) (w := w) (wt := wt) h hg hG (fun _ _ => rfl) (by rw [tj 4 (by decide)]; exact h4) (by rw [tj 5 (by decide)]; exact h5) t0 (fun k hk => tk k (by omega) (by omega)) (fun j _ _ c => tj j c) t7
    obtain ⟨μ, u0, o', s', m, ⟨hG', g4, g5, g0, g6, g7', g8, g9, g10, g11⟩, gl, gm, g7⟩ := draw_loop h hg (fun _ _ => rfl) hw pw b1 1000 (by omega)
    have hole : ct (fun u => pC σC u && decide (u ≠ w)) 24 < 24 := ct_hole (m := w) (by simp) 24 hw
    have gb' := hG'.b
    obtain ⟨υ, v0, v1, v2, f, v3, v4, v5⟩ := first_loop hG' g4 g0 (show m ≤ 27 by omega) (fun i hi => (g8 i hi).1) g7 1000 (by omega)
    have ep : ptO υ o' = ptO μ o' := by
      funext i
      unfold ptO
      rw [v1 (o' + 1) (by omega), v1 (o' + 2) (by omega), v1 (o' + 3) (by omega)]
    have el : lnG υ g = lnG μ g := by
      funext i
      unfold lnG
      rw [v1 (g + 1) (by omega), v1 (g + 2) (by omega), v1 (g + 3) (by omega)]
    refine ⟨υ, st _ (fun r hr => ?_), fun k hk => by rw [v1 k (by omega), g6 k hk], fun j a b c => by rw [v2 j c, g7' j a b c], ⟨o', s', hG', by rw [v2 4 (by decide)]; exact g4, by rw [v2 5 (by decide)]; exact g5⟩, fun _ => ⟨o', s', m, f, fun i => (μ (o' + 4) i).toNat, hG', by rw [v2 4 (by decide)]; exact g4, by rw [v2 5 (by decide)]; exact g5, by rw [v1 o' (by omega)]; exact g0, by omega, by rw [ep]; exact fun i hi => (g8 i hi).1, by rw [el]; exact gl, by rw [ep, el]; exact g10, v3, v4, by rw [ep]; exact v5, by rw [ep, el]; exact g11⟩, fun z => Bool.noConfusion (pw.symm.trans z)⟩
    rw [hr, pw, bI_t, jc_I (by omega) (by omega), if_neg (by omega), b0, jbind_s, jlet_v, u0, jbind_s, jlet_v, v0, jbind_s]
/-- the component's ground is right -/
def GrOK (σ : St) : Prop := ∃ w : Nat, w < 24 ∧ σ 20 8 = (w : Int) ∧ GX σ σ 20 w true
theorem once_spec {σC σM : St} (h : Rw σC σM) (hO : GO σC 20) (h8 : inI (σC 20 8)) (h9 : inI (σC 20 9)) (h6 : inI (σC 1 6)) (hc : σC 20 9 = σC 1 6 → GrOK σC) {w : Nat} (hw : w < 24) : ∃ τ, f_X1_drawOnce σC 20 (w : Int) = some τ ∧ (∀ k, k < 20 ∨ 34 < k → τ k = σC k) ∧ GO τ 20 ∧ τ 20 8 = (w : Int) ∧ τ 20 9 = σC 1 6 ∧ GX τ τ 20 w true := by
  obtain ⟨a1, a2⟩ := h8
  obtain ⟨b1, b2⟩ := h9
  obtain ⟨c1, c2⟩ := h6
  have nw : ∃ τ, f_X1_drawOnce_b22 σC 20 (w : Int) = some τ ∧ (∀ k, k < 20 ∨ 34 < k → τ k = σC k) ∧ GO τ 20 ∧ τ 20 8 = (w : Int) ∧ τ 20 9 = σC 1 6 ∧ GX τ τ 20 w true := by
    obtain ⟨υ, u0, u1, u2, u3⟩ := draw_spec h (g := 20) true (by omega) hO hw
    rw [bI_t] at u0
    have e6 : υ 1 6 = σC 1 6 := by rw [u1 1 (by omega)]
    have fr : ∀ k, k < 20 ∨ 34 < k → up2 (up2 υ 20 8 (w : Int)) 20 9 (σC 1 6) k = σC k := fun k hk => by rw [up2_k (by omega), up2_k (by omega), u1 k (by omega)]
    have gx : GX σC (up2 (up2 υ 20 8 (w : Int)) 20 9 (σC 1 6)) 20 w true := u3.mv (fun k hk _ => by rw [up2_k (by omega), up2_k (by omega)]) (by rw [up2_j (by decide), up2_j (by decide)]) (by rw [up2_j (by decide), up2_j (by decide)]) (by rw [up2_j (by decide), up2_j (by decide)])
    refine ⟨up2 (up2 υ 20 8 (w : Int)) 20 9 (σC 1 6), ?_, fr, gx.1, by rw [up2_j (by decide), up2_same], up2_same, gx.cC (fun k hk => fr k (by omega))⟩
    rw [f_X1_drawOnce_b22, u0, jbind_s, jlet_v, jlet_v, up2_k (k' := 1) (by decide), e6]
  rw [f_X1_drawOnce, f_X1_drawOnce_b0, jc_II (by omega) (by omega) (by omega) (by omega)]
  by_cases q8 : σC 20 8 = (w : Int)
  · rw [if_pos q8, jc_II (by omega) (by omega) (by omega) (by omega)]
    by_cases q9 : σC 20 9 = σC 1 6
    · rw [if_pos q9]
      obtain ⟨w', w1, w2, w3⟩ := hc q9
      have e : w' = w := by omega
      subst e
      exact ⟨σC, rfl, fun _ _ => rfl, hO, q8, q9, w3⟩
    · rw [if_neg q9]; exact nw
  · rw [if_neg q8]; exact nw
