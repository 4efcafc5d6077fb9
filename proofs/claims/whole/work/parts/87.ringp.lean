/-! ===== the pure side 67: the model tries the rings' middles ===== -/
def ringP (σ : St) (u v w : Nat) : Pt := (σ 3 u * rD σ u v w + rA σ u v w, σ 4 u * rD σ u v w + rU σ u v w, rD σ u v w)
theorem rp_id (ux uy tx ty D A U : Int) : (((ux * D + A) - D * tx) * ((ux * D + A) - D * tx) + ((uy * D + U) - D * ty) * ((uy * D + U) - D * ty)) - (A * A + U * U) = D * (((ux - tx) * (ux - tx) + (uy - ty) * (uy - ty)) * D - 2 * ((tx - ux) * A + (ty - uy) * U)) := by grind
theorem ring_wsq (σ : St) (u v w t : Nat) : wsq σ (ringP σ u v w) t - (rA σ u v w * rA σ u v w + rU σ u v w * rU σ u v w) = rD σ u v w * rO σ u v w t := rp_id _ _ _ _ _ _ _
theorem ring_near {σ : St} {u v w : Nat} (h : Acc σ u v w) : NEa σ (ringP σ u v w) u ∧ wsq σ (ringP σ u v w) u = rA σ u v w * rA σ u v w + rU σ u v w * rU σ u v w := by
  obtain ⟨h1, h2, h3, h4, h5, h6, h7, h8, h9⟩ := h
  have e := ring_wsq σ u v w u
  rw [(rO_self σ u v w).1, Int.mul_zero] at e
  refine ⟨⟨by omega, h4, fun t ht pt => ?_⟩, by omega⟩
  have f := ring_wsq σ u v w t
  have := Int.mul_nonneg (show 0 ≤ rD σ u v w by have := rD_pos h7; omega) (h8 t ht pt)
  omega
theorem rD_le {σC σM : St} (h : Rw σC σM) {u v w : Nat} (hu : u < 24) (hv : v < 24) (hw : w < 24) : rD σC u v w ≤ 2000000 := by
  obtain ⟨-, -, u1, u2⟩ := h.rng hu
  obtain ⟨-, -, v1, v2⟩ := h.rng hv
  obtain ⟨-, -, w1, w2⟩ := h.rng hw
  have t := tri_bd v1.1 v1.2 v2.1 v2.2 w1.1 w1.2 w2.1 w2.2 u1.1 u1.2 u2.1 u2.2
  have e : trn σC u v w = (σC 3 v - σC 3 u) * (σC 4 w - σC 4 u) - (σC 3 w - σC 3 u) * (σC 4 v - σC 4 u) := by unfold trn; grind
  rw [← e] at t
  unfold rD
  split <;> omega
def RK (σ : St) (X : Pt) (u v w : Nat) : Prop := Acc σ u v w ∧ mapP σ X ∧ X = ringP σ u v w
theorem ring_loop2 {σC υ : St} (h : Rw σC υ) {M : Nat} {U V W : Nat → Nat} (hR : RMd σC υ M U V W) (hT : TL σC (cdn 24 0 0) M U V W) {S : Pt → Prop} (hB : BM σC S υ) (fuel : Nat) (hf' : 48 < fuel) : ∃ ω, jloop (fun (q : (St × Int)) => match q with | (σ, x1) => f_X11_largestOf_b114 σ x1) fuel (υ, 0) = some ω ∧ MT υ ω ∧ BM σC (fun X => S X ∨ ∃ u v w, RK σC X u v w) ω := by
  have M48 := hT.bound h
  have wd := h.1.1
  have hg := h.1.2.1
  obtain ⟨g29, gr⟩ := hR
  have lp : ∃ ω, jloop (fun (q : (St × Int)) => match q with | (σ, x1) => f_X11_largestOf_b114 σ x1) fuel (υ, 0) = some ω ∧ MT υ ω ∧ BM σC (fun X => S X ∨ ∃ i, i < M ∧ RK σC X (U i) (V i) (W i)) ω := by
    refine jloop_ex (I := fun n q => q.2 = (n : Int) ∧ MT υ q.1 ∧ BM σC (fun X => S X ∨ ∃ i, i < n ∧ RK σC X (U i) (V i) (W i)) q.1) (N := M) (J := _) ?_ ?_ M 0 fuel _ (by omega) (by omega) ⟨rfl, MT.refl _, hB.cong (fun X => ⟨Or.inl, fun z => by
      rcases z with z | ⟨i, i1, -⟩
      · exact z
      · exact absurd i1 (Nat.not_lt_zero i)⟩)⟩
    · rintro n ⟨μ, _⟩ hn ⟨rfl, i1, i2⟩
      dsimp only at i1 i2
      show ∃ s', f_X11_largestOf_b114 μ (n : Int) = some (.inl s') ∧ _
      have R := MT.R h i1
      obtain ⟨acc, -⟩ := hT.1 n hn
      obtain ⟨c1, c2, c3, c4, c5, c6, c7, -⟩ := id acc
      obtain ⟨-, e1, e2, e3⟩ := gr n hn
      obtain ⟨ρ, r0, r1, r2, r3, r4, r5, r6, r7⟩ := mid_spec (σC := σC) (σM := υ) (τ := μ) R (i := n) (u := U n) (v := V n) (w := W n) (by omega) (by omega) (by omega) c3 c4 c5 c6 (by rw [i1.1 22 (by decide)]; exact e1) (by rw [i1.1 23 (by decide)]; exact e2) (by rw [i1.1 24 (by decide)]; exact e3)
      have em : mpt ρ = ringP σC (U n) (V n) (W n) := by unfold mpt ringP; rw [r3, r4, r5]
      obtain ⟨X, eX⟩ : ∃ X, X = ringP σC (U n) (V n) (W n) := ⟨_, rfl⟩
      have x1 : ρ 0 34 = X.1 := by rw [eX, r3]; rfl
      have x2 : ρ 0 35 = X.2.1 := by rw [eX, r4]; rfl
      have x3 : ρ 0 36 = X.2.2 := by rw [eX, r5]; rfl
      obtain ⟨q1, q2, q3, -⟩ := r_rng h (show U n < 24 by omega) (show V n < 24 by omega) c3
      have dp := rD_pos c7
      have dl := rD_le h (show U n < 24 by omega) (show V n < 24 by omega) c3
      obtain ⟨-, -, a1, a2⟩ := h.rng (show U n < 24 by omega)
      have m1 := mul_bd (a := σC 3 (U n)) (b := rD σC (U n) (V n) (W n)) (A := 1000) (B := 2000000) (by omega) (by omega) (by omega) (by omega)
      have m2 := mul_bd (a := σC 4 (U n)) (b := rD σC (U n) (V n) (W n)) (A := 1000) (B := 2000000) (by omega) (by omega) (by omega) (by omega)
      have k1 : -6000000000 ≤ X.1 ∧ X.1 ≤ 6000000000 := by rw [eX]; unfold ringP; dsimp only; omega
      have k2 : -6000000000 ≤ X.2.1 ∧ X.2.1 ≤ 6000000000 := by rw [eX]; unfold ringP; dsimp only; omega
      have k3 : 0 < X.2.2 ∧ X.2.2 ≤ 2000000 := by rw [eX]; unfold ringP; dsimp only; omega
      have m3 := mul_bd (a := σC 1 0) (b := X.2.2) (A := 1000) (B := 2000000) (by omega) (by omega) (by omega) (by omega)
      have m4 := mul_bd (a := σC 1 1) (b := X.2.2) (A := 1000) (B := 2000000) (by omega) (by omega) (by omega) (by omega)
      have t0 : ρ 0 0 = σC 1 0 := by rw [r2 0 (by decide)]; exact R.2.2.1
      have t1 : ρ 0 1 = σC 1 1 := by rw [r2 1 (by decide)]; exact R.2.2.2.1
      have t29 : μ 0 29 = (M : Int) := by rw [i1.2 29 (by decide)]; exact g29
      have mt : MT υ ρ := i1.trans ⟨r1, fun j hj => r2 j (by omega)⟩
      have b2 := i2.mv (τ' := ρ) (fun j a b => r2 j (by omega))
      have no : ¬ mapP σC X → BM σC (fun X => S X ∨ ∃ i, i < n + 1 ∧ RK σC X (U i) (V i) (W i)) ρ := fun hn' => b2.cong (fun Y => by
        constructor
        · rintro (z | ⟨i, j1, j2⟩)
          · exact Or.inl z
          · exact Or.inr ⟨i, by omega, j2⟩
        · rintro (z | ⟨i, j1, j2⟩)
          · exact Or.inl z
          · by_cases e : i = n
            · rw [e] at j2
              rw [j2.2.2, ← eX] at j2
              exact absurd j2.2.1 hn'
            · exact Or.inr ⟨i, by omega, j2⟩)
      rw [f_X11_largestOf_b114, t29, jc_II (by omega) (by omega) (by omega) (by omega), if_pos (by omega), r0, jbind_s, x1, x2, x3, t0, t1, jc_LL (by omega) (by omega) (by omega) (by omega)]
      by_cases z1 : X.1 < 0
      · rw [if_pos z1, jlet_v, cast_s]
        exact ⟨_, rfl, rfl, mt, no (fun z => by have := z.2.1; omega)⟩
      · rw [if_neg z1, jc_I (by omega) (by omega), jc_LL (by omega) (by omega) (by omega) (by omega)]
        by_cases z2 : σC 1 0 * X.2.2 < X.1
        · rw [if_pos z2, jlet_v, cast_s]
          exact ⟨_, rfl, rfl, mt, no (fun z => by have := z.2.2.1; omega)⟩
        · rw [if_neg z2, jc_LL (by omega) (by omega) (by omega) (by omega)]
          by_cases z3 : X.2.1 < 0
          · rw [if_pos z3, jlet_v, cast_s]
            exact ⟨_, rfl, rfl, mt, no (fun z => by have := z.2.2.2.1; omega)⟩
          · rw [if_neg z3, jc_I (by omega) (by omega), jc_LL (by omega) (by omega) (by omega) (by omega)]
            by_cases z4 : σC 1 1 * X.2.2 < X.2.1
            · rw [if_pos z4, jlet_v, cast_s]
              exact ⟨_, rfl, rfl, mt, no (fun z => by have := z.2.2.2.2; omega)⟩
            · rw [if_neg z4]
              have mm : mapP σC X := ⟨k3.1, by omega, by omega, by omega, by omega⟩
              obtain ⟨n1, n2⟩ := ring_near acc
              have w1 := Int.mul_le_mul_of_nonneg_right wd.2 (show 0 ≤ X.2.2 by omega)
              have w2 := Int.mul_le_mul_of_nonneg_right hg.2 (show 0 ≤ X.2.2 by omega)
              obtain ⟨ω, o1, o2, o3, o4⟩ := better_spec (τ := ρ) h (by rw [em, ← eX]; exact ⟨k3.1, k3.2, by omega, by omega, by omega, by omega⟩) ⟨U n, by rw [em]; exact n1, by rw [em, n2, r6]⟩ (by rw [em, r7]; rfl) b2
              rw [em, ← eX] at o4
              rw [o1, jbind_s, jlet_v, cast_s]
              refine ⟨_, rfl, rfl, mt.trans ⟨o2, fun j hj => o3 j (by omega)⟩, o4.cong (fun Y => ?_)⟩
              constructor
              · rintro ((z | ⟨i, j1, j2⟩) | z)
                · exact Or.inl z
                · exact Or.inr ⟨i, by omega, j2⟩
                · exact Or.inr ⟨n, by omega, acc, by rw [z]; exact mm, by rw [z, eX]⟩
              · rintro (z | ⟨i, j1, j2⟩)
                · exact Or.inl (Or.inl z)
                · by_cases e : i = n
                  · rw [e] at j2
                    exact Or.inr (by rw [j2.2.2, eX])
                  · exact Or.inl (Or.inr ⟨i, by omega, j2⟩)
    · rintro ⟨μ, _⟩ ⟨rfl, i1, i2⟩
      dsimp only at i1 i2
      refine ⟨μ, ?_, i1, i2⟩
      show f_X11_largestOf_b114 μ (M : Int) = _
      rw [f_X11_largestOf_b114, i1.2 29 (by decide), g29, jc_II (by omega) (by omega) (by omega) (by omega), if_neg (by omega)]
  obtain ⟨ω, l1, l2, l3⟩ := lp
  refine ⟨ω, l1, l2, l3.cong (fun X => ?_)⟩
  constructor
  · rintro (z | ⟨i, i1, i2⟩)
    · exact Or.inl z
    · exact Or.inr ⟨_, _, _, i2⟩
  · rintro (z | ⟨u, v, w, z⟩)
    · exact Or.inl z
    · obtain ⟨c1, c2, c3, -⟩ := z.1
      obtain ⟨i, i1, rfl, rfl, rfl⟩ := hT.2.2 u v w z.1 (by unfold cdn; omega)
      exact Or.inr ⟨i, i1, z⟩
/-- all that the model tries -/
def KS (σ : St) (X : Pt) : Prop := ((∃ k, k < 4 ∧ X = cnr σ k) ∨ PT σ 24 0 X) ∨ ∃ u v w, RK σ X u v w
theorem largestOf_spec {σC σM : St} (h : Rw σC σM) (hs : ∃ w, w < 24 ∧ pC σC w = true) : ∃ υ, f_X11_largestOf σM = some υ ∧ (∀ k, k ≠ 0 → k < 21 ∨ 24 < k → υ k = σM k) ∧ (∀ j, j < 29 ∨ 44 < j → υ 0 j = σM 0 j) ∧ BM σC (KS σC) υ := by
  obtain ⟨β, eβ⟩ : ∃ β, β = up2 σM 0 39 0 := ⟨_, rfl⟩
  have bk : ∀ k, k ≠ 0 → β k = σM k := fun k hk => by rw [eβ, up2_k hk]
  have bj : ∀ j, j ≠ 39 → β 0 j = σM 0 j := fun j hj => by rw [eβ, up2_j hj]
  have R : Rw σC β := h.cM (fun k a b => bk k (by omega)) (bj 0 (by decide)) (bj 1 (by decide)) (bj 2 (by decide))
  obtain ⟨τ1, a1, a2, a3⟩ := corner_loop (τ := β) R hs (by rw [eβ, up2_same]) 1000 (by omega)
  have R1 := MT.R R a2
  obtain ⟨τ2, b1, b2, b3⟩ := pair_out (τ := τ1) R1 a3 1000 (by omega)
  have R2 := MT.R R1 b2
  obtain ⟨τ3, c1, c2, c3, M, U, V, W, c4, c5⟩ := ringsM_spec R2
  have R3 : Rw σC τ3 := R2.cM (fun k a b => c2 k (by omega) (by omega)) (c3 0 (by decide)) (c3 1 (by decide)) (c3 2 (by decide))
  obtain ⟨ω, d1, d2, d3⟩ := ring_loop2 R3 c4 c5 (b3.mv (τ' := τ3) (fun j a b => c3 j (by omega))) 1000 (by omega)
  refine ⟨ω, ?_, fun k a b => by rw [d2.1 k a, c2 k a b, b2.1 k a, a2.1 k a, bk k a], fun j hj => by rw [d2.2 j (by omega), c3 j (by omega), b2.2 j (by omega), a2.2 j (by omega), bj j (by omega)], d3⟩
  rw [f_X11_largestOf, f_X11_largestOf_b0, jchk_t (Or.inl rfl), jlet_v, jlet_v, ← eβ, a1, jbind_s, jlet_v, b1, jbind_s, c1, jbind_s, jlet_v, d1, jbind_s]
