/-! ===== the pure side 62: the component's largest dry round ===== -/
theorem BC.mv {σ τ τ' : St} {S : Pt → Prop} (h : BC σ S τ) (h1 : τ' 41 3 = τ 41 3) (h2 : τ' 41 5 = τ 41 5) (h3 : τ' 41 6 = τ 41 6) (hk : ∀ k, 57 < k → k < 61 → τ' k = τ k) : BC σ S τ' := by
  have ep : ptO τ' 57 0 = ptO τ 57 0 := by
    unfold ptO
    rw [hk 58 (by omega) (by omega), hk 59 (by omega) (by omega), hk 60 (by omega) (by omega)]
  unfold BC
  rw [ep, h1, h2, h3]
  exact h
theorem wsq_cC {σ τ : St} (hC : ∀ k, k < 7 → τ k = σ k) : wsq τ = wsq σ := by
  funext P w
  unfold wsq
  rw [hC 3 (by omega), hC 4 (by omega)]
theorem NEa_cC {σ τ : St} (hC : ∀ k, k < 7 → τ k = σ k) : NEa τ = NEa σ := by
  funext P w
  unfold NEa
  rw [pC_cC hC, wsq_cC hC]
theorem cu_cC {σ τ : St} (hC : ∀ k, k < 7 → τ k = σ k) : cu τ = cu σ := by
  funext w l
  unfold cu
  rw [sdL_cC hC, bl_cC hC]
theorem VX_cC {σ τ : St} (hC : ∀ k, k < 7 → τ k = σ k) : VX τ = VX σ := by
  funext w p
  unfold VX
  rw [pC_cC hC, cu_cC hC, LSn_cC hC]
theorem VS_cC {σ τ : St} (hC : ∀ k, k < 7 → τ k = σ k) : VS τ = VS σ := by
  funext w p
  unfold VS
  rw [VX_cC hC]
theorem vl_cC {σ τ : St} (hC : ∀ k, k < 7 → τ k = σ k) : vl τ = vl σ := by
  funext P a
  unfold vl
  rw [NEa_cC hC, wsq_cC hC]
theorem BST_cC {σ τ : St} (hC : ∀ k, k < 7 → τ k = σ k) : BST τ = BST σ := by
  funext S P a
  unfold BST
  rw [vl_cC hC]
theorem BC_cC {σ τ : St} (hC : ∀ k, k < 7 → τ k = σ k) : BC τ = BC σ := by
  funext S υ
  unfold BC
  rw [BST_cC hC]
/-- what finding the largest dry round may change -/
def FO (τ υ : St) : Prop := (∀ k, k < 41 ∨ 61 < k → υ k = τ k) ∧ ∀ j, j ≠ 3 → j ≠ 5 → j ≠ 6 → υ 41 j = τ 41 j
def DryOK (σ : St) : Prop := BC σ (fun X => ∃ w, w < 24 ∧ VS σ w X) σ
theorem GO.mv {τ τ' : St} {g : Nat} (h : GO τ g) (h4 : τ' g 4 = τ g 4) (h5 : τ' g 5 = τ g 5) : GO τ' g := by
  obtain ⟨o, s, a, b, c⟩ := h
  exact ⟨o, s, a, by rw [h4]; exact b, by rw [h5]; exact c⟩
theorem dry_loop {σC σM τ : St} (h : Rw σC σM) (hC : ∀ k, k < 7 → τ k = σC k) (hO : GO τ 42) (h3 : τ 41 3 = 0) (fuel : Nat) (hf' : 24 < fuel) : ∃ υ, jloop (fun (q : (St × Int)) => match q with | (σ, x1) => f_X0_findOnce_b33 σ x1) fuel (τ, 0) = some υ ∧ FO τ υ ∧ GO υ 42 ∧ BC σC (fun X => ∃ w, w < 24 ∧ VS σC w X) υ := by
  refine loopC (pC σC) (I := fun n q => q.2 = ((ct (pC σC) n : Nat) : Int) ∧ FO τ q.1 ∧ GO q.1 42 ∧ BC σC (fun X => ∃ w, w < n ∧ VS σC w X) q.1) (J := _) ?_ ?_ ?_ 24 0 fuel _ (by omega) (by omega) ⟨rfl, ⟨fun _ _ => rfl, fun _ _ _ _ => rfl⟩, hO, Or.inl ⟨h3, fun P z => by
    obtain ⟨w, w1, -⟩ := z
    exact absurd w1 (Nat.not_lt_zero w)⟩⟩
  · rintro n ⟨μ, _⟩ hn pn ⟨rfl, i1, i2, i3⟩
    dsimp only at i1 i2 i3
    left
    have mC : ∀ k, k < 7 → μ k = σC k := fun k hk => by rw [i1.1 k (by omega), hC k hk]
    obtain ⟨c1, c2⟩ := h.ct24 hn pn
    have mn := h.many
    have cast1 : ((ct (pC σC) (n + 1) : Nat) : Int) = ((ct (pC σC) n : Nat) : Int) + 1 := by rw [ct_t pn]; omega
    obtain ⟨ρ, r1, r2, r3, r4⟩ := draw_spec (h.cC mC) (g := 42) false (by omega) i2 hn
    have rC : ∀ k, k < 7 → ρ k = σC k := fun k hk => by rw [r2 k (by omega), mC k hk]
    have r4' : GX σC ρ 42 n false := r4.cC (fun k hk => (mC k hk).symm)
    obtain ⟨υ, u1, u2, u3⟩ := inner_loop (τ := ρ) h rC hn pn r4' (i3.mv (by rw [r2 41 (by omega)]) (by rw [r2 41 (by omega)]) (by rw [r2 41 (by omega)]) (fun k a b => r2 k (by omega))) ((ct (pC σC) n : Nat) : Int) 1000 (by omega)
    refine ⟨(υ, ((ct (pC σC) (n + 1) : Nat) : Int)), ?_, rfl, ⟨fun k hk => ?_, fun j x y z => ?_⟩, ?_, u3.cong (fun X => ?_)⟩
    · show f_X0_findOnce_b33 μ ((ct (pC σC) n : Nat) : Int) = _
      rw [f_X0_findOnce_b33, mC 1 (by omega), mn, jc_II (by omega) (by omega) (by omega) (by omega), if_pos (by omega), jc_ix (by omega) (by omega), cast_n, mC 2 (by omega), h.kth hn pn, jlet_v]
      rw [bI_f] at r1
      rw [r1, jbind_s, jlet_v, u1, jbind_s, jlet_v, cast1]
    · dsimp only
      rw [u2.1 k (by omega) (by omega), r2 k (by omega), i1.1 k hk]
    · dsimp only
      rw [u2.2 j x y z, r2 41 (by omega), i1.2 j x y z]
    · dsimp only
      exact r4.1.mv (by rw [u2.1 42 (by omega) (by omega)]) (by rw [u2.1 42 (by omega) (by omega)])
    · constructor
      · rintro (⟨w, w1, w2⟩ | z)
        · exact ⟨w, by omega, w2⟩
        · exact ⟨n, by omega, z⟩
      · rintro ⟨w, w1, w2⟩
        by_cases e : w = n
        · rw [e] at w2; exact Or.inr w2
        · exact Or.inl ⟨w, by omega, w2⟩
  · rintro n ⟨μ, _⟩ hn pn ⟨rfl, i1, i2, i3⟩
    refine ⟨by dsimp only; rw [ct_f pn], i1, i2, i3.cong (fun X => ⟨fun ⟨w, w1, w2⟩ => ⟨w, by omega, w2⟩, fun ⟨w, w1, w2⟩ => ?_⟩)⟩
    by_cases e : w = n
    · obtain ⟨p, ⟨-, pw, -⟩, -⟩ := w2
      rw [e, pn] at pw
      cases pw
    · exact ⟨w, by omega, w2⟩
  · rintro ⟨μ, _⟩ ⟨rfl, i1, i2, i3⟩
    dsimp only at i1 i2 i3
    refine ⟨μ, ?_, i1, i2, i3⟩
    show f_X0_findOnce_b33 μ ((ct (pC σC) 24 : Nat) : Int) = _
    have c2 := ct_le (pC σC) 24
    rw [f_X0_findOnce_b33, i1.1 1 (by omega), hC 1 (by omega), h.many, jc_II (by omega) (by omega) (by omega) (by omega), if_neg (by omega)]
theorem dry_spec {σC σM : St} (h : Rw σC σM) (hO : GO σC 42) (h2 : inI (σC 41 2)) (h6 : inI (σC 1 6)) (hc : σC 41 2 = σC 1 6 → DryOK σC) : ∃ τ, f_X0_findOnce σC = some τ ∧ (∀ k, k < 41 ∨ 61 < k → τ k = σC k) ∧ τ 41 2 = σC 1 6 ∧ GO τ 42 ∧ DryOK τ := by
  rw [f_X0_findOnce, f_X0_findOnce_b0, jchk_t ⟨h2, h6⟩]
  by_cases e : σC 41 2 = σC 1 6
  · rw [if_pos e]
    exact ⟨σC, rfl, fun _ _ => rfl, e, hO, hc e⟩
  · rw [if_neg e, jlet_v, jchk_t (Or.inl rfl), jlet_v, jlet_v]
    obtain ⟨μ, eμ⟩ : ∃ μ, μ = up2 (up2 σC 41 2 (σC 1 6)) 41 3 0 := ⟨_, rfl⟩
    rw [← eμ]
    have mk : ∀ k, k ≠ 41 → μ k = σC k := fun k hk => by rw [eμ, up2_k hk, up2_k hk]
    obtain ⟨υ, u1, u2, u3, u4⟩ := dry_loop (τ := μ) h (fun k hk => mk k (by omega)) (hO.mv (by rw [mk 42 (by decide)]) (by rw [mk 42 (by decide)])) (by rw [eμ, up2_same]) 1000 (by omega)
    have uC : ∀ k, k < 7 → υ k = σC k := fun k hk => by rw [u2.1 k (by omega), mk k (by omega)]
    refine ⟨υ, ?_, fun k hk => by rw [u2.1 k hk, mk k (by omega)], ?_, u3, ?_⟩
    · rw [u1, jbind_s]
    · rw [u2.2 2 (by decide) (by decide) (by decide), eμ, up2_j (by decide), up2_same]
    · unfold DryOK
      rw [BC_cC uC, VS_cC uC]
      exact u4
