/-! ===== the pure side 5: calls that change the map ===== -/
theorem Fr.at {P : Wr} {σ τ : St} (h : Fr P σ τ) (k j : Nat) (h1 : k ∉ P.1) (h2 : (k, j) ∉ P.2) : τ k j = σ k j := h k j h1 h2
theorem Fr.all {P : Wr} {σ τ : St} (h : Fr P σ τ) (k : Nat) (h1 : k ∉ P.1) (h2 : P.2.all (fun x => x.1 != k) = true) : τ k = σ k := by
  funext j
  refine h k j h1 (fun z => ?_)
  have := List.all_eq_true.mp h2 _ z
  simp at this
theorem RP.fr {σC σM τC τM : St} (h : RP σC σM) (hC : ∀ k, 7 ≤ k → k ≤ 13 → τC k = σC k) (hM : ∀ k, 6 ≤ k → k ≤ 12 → τM k = σM k) (h8 : τM 0 8 = σM 0 8) : RP τC τM := by
  obtain ⟨p, q, p8, q8, a1, a2, a3, a4⟩ := h
  refine ⟨p, q, p8, q8, ?_, ?_, ?_, fun j hj => (a4 j hj).mv ?_ ?_ ?_ ?_ ?_ ?_⟩
  · rw [hC 7 (by omega) (by omega)]; exact a1
  · rw [hC 7 (by omega) (by omega)]; exact a2
  · rw [h8]; exact a3
  · rw [hC 8 (by omega) (by omega)]
  · rw [hC 9 (by omega) (by omega)]
  · intro k w hk hw
    rw [hC k (by omega) (by omega)]
  · rw [hM 11 (by omega) (by omega)]
  · rw [hM 12 (by omega) (by omega)]
  · intro k w hk hw
    rw [hM k (by omega) (by omega)]
/-- the sheets -/
def RS (σC σM : St) : Prop := (∀ s, s < 8 → σM 31 s = σC 15 s ∧ -1 ≤ σC 15 s ∧ σC 15 s ≤ 8) ∧ ∀ j, j < 64 → (σM 32 (4 * j) = σC 16 j ∧ σM 32 (4 * j + 1) = σC 17 j ∧ σM 32 (4 * j + 2) = σC 18 j ∧ σM 32 (4 * j + 3) = σC 19 j) ∧ inI (σC 16 j) ∧ inI (σC 17 j) ∧ inI (σC 18 j) ∧ inI (σC 19 j)
theorem RS.fr {σC σM τC τM : St} (h : RS σC σM) (hC : ∀ k, 15 ≤ k → k ≤ 19 → τC k = σC k) (h1 : τM 31 = σM 31) (h2 : τM 32 = σM 32) : RS τC τM := by
  unfold RS
  rw [hC 15 (by omega) (by omega), hC 16 (by omega) (by omega), hC 17 (by omega) (by omega), hC 18 (by omega) (by omega), hC 19 (by omega) (by omega), h1, h2]
  exact h
/-- wells, past and sheets of both sides -/
def RA (σC σM : St) : Prop := Rw σC σM ∧ RP σC σM ∧ RS σC σM
/-- what a call may do to the component: caches stay, the version grows, or the wells stay -/
def CSt (σ τ : St) : Prop := (∀ k, 20 ≤ k → τ k = σ k) ∧ ((σ 1 6 < τ 1 6 ∧ τ 1 6 ≤ σ 1 6 + 10) ∨ ∀ k, k < 7 → τ k = σ k)
theorem CSt.refl {σ : St} : CSt σ σ := ⟨fun _ _ => rfl, Or.inr fun _ _ => rfl⟩
theorem anew {μ σM : St} (hw : WF (μ 1 0) (μ 1 1) (μ 5) (μ 3) (μ 4) (μ 6)) (hs : 0 ≤ μ 1 2 ∧ μ 1 2 ≤ 3) (h0 : σM 0 0 = μ 1 0) (h1 : σM 0 1 = μ 1 1) (h2 : σM 0 2 = μ 1 2) (hR : RM σM (μ 5) (μ 3) (μ 4) (μ 6)) : ∃ τ, f_X9_countAnew μ = some τ ∧ Fr wr_X9_countAnew μ τ ∧ τ 1 6 = μ 1 6 + 1 ∧ Rw τ σM := by
  obtain ⟨τ, t0, tF, t6, t3, t4, tw⟩ := countAnew_spec (σ := μ) (fun w hw' => (hw.rng hw').1)
  have e5 := tF.all 5 (by decide) (by decide)
  have e3 := tF.all 3 (by decide) (by decide)
  have e4 := tF.all 4 (by decide) (by decide)
  have e6 := tF.all 6 (by decide) (by decide)
  have f0 := tF.at 1 0 (by decide) (by decide)
  have f1 := tF.at 1 1 (by decide) (by decide)
  have f2 := tF.at 1 2 (by decide) (by decide)
  have ep : pC τ = pC μ := by
    funext w
    unfold pC
    rw [f2, e5, e6]
  have eh : hC_ τ = hC_ μ := by
    funext w
    unfold hC_
    rw [e5]
  refine ⟨τ, t0, tF, t6, ?_⟩
  unfold Rw
  rw [ep, eh, f0, f1, f2, e3, e4, e5, e6]
  exact ⟨hw, hs, h0, h1, h2, hR, t3, t4, tw⟩
theorem season_eq {σC σM : St} (h : RA σC σM) {x : Int} (hx : inI x) : ∃ v τC τM, f_X10_season σC x = some (v, τC) ∧ f_X11_season σM x = some (v, τM) ∧ RA τC τM ∧ CSt σC τC := by
  obtain ⟨x1, x2⟩ := hx
  by_cases c1 : x < 0
  · refine ⟨-1, σC, σM, ?_, ?_, h, CSt.refl⟩
    · rw [f_X10_season, f_X10_season_b0, jc_I x1 x2, if_pos c1]
    · rw [f_X11_season, f_X11_season_b0, jc_I x1 x2, if_pos c1]
  by_cases c2 : x < 4
  · obtain ⟨⟨hw, hs, h0, h1, h2, hR, hr⟩, hp, hS⟩ := h
    obtain ⟨τ, t0, tF, t6, tR⟩ := anew (μ := up2 σC 1 2 x) (σM := up2 σM 0 2 x) (by rw [up2_j (by decide), up2_j (by decide), up2_k (by decide), up2_k (by decide), up2_k (by decide), up2_k (by decide)]; exact hw) (by rw [up2_same]; omega) (by rw [up2_j (by decide), up2_j (by decide)]; exact h0) (by rw [up2_j (by decide), up2_j (by decide)]; exact h1) (by rw [up2_same, up2_same]) (by rw [up2_k (by decide), up2_k (by decide), up2_k (by decide), up2_k (by decide)]; exact hR)
    refine ⟨σC 1 2, τ, up2 σM 0 2 x, ?_, ?_, ⟨tR, hp.fr ?_ ?_ ?_, hS.fr ?_ ?_ ?_⟩, ?_, Or.inl ?_⟩
    · rw [f_X10_season, f_X10_season_b0, jc_I x1 x2, if_neg c1, jc_II (by omega) (by omega) (by omega) (by omega), if_pos c2, jlet_v, f_X9_turnTo, f_X9_turnTo_b0, jlet_v, t0, jbind_s, jbind_s]
    · rw [f_X11_season, f_X11_season_b0, jc_I x1 x2, if_neg c1, jc_II (by omega) (by omega) (by omega) (by omega), if_neg (by omega), jlet_v, jlet_v, h2]
    · intro k k1 k2
      funext j
      rw [tF.at k j (by simp; omega) (by simp; omega), up2_k (by omega)]
    · intro k k1 k2
      rw [up2_k (by omega)]
    · rw [up2_j (by decide)]
    · intro k k1 k2
      funext j
      rw [tF.at k j (by simp; omega) (by simp; omega), up2_k (by omega)]
    · rw [up2_k (by decide)]
    · rw [up2_k (by decide)]
    · intro k k1
      funext j
      rw [tF.at k j (by simp; omega) (by simp; omega), up2_k (by omega)]
    · rw [t6, up2_j (by decide)]
      omega
  · refine ⟨-1, σC, σM, ?_, ?_, h, CSt.refl⟩
    · rw [f_X10_season, f_X10_season_b0, jc_I x1 x2, if_neg c1, jc_II (by omega) (by omega) (by omega) (by omega), if_neg c2]
    · rw [f_X11_season, f_X11_season_b0, jc_I x1 x2, if_neg c1, jc_II (by omega) (by omega) (by omega) (by omega), if_pos (by omega)]
theorem first_or (P : Nat → Prop) : ∀ N : Nat, (∀ w, w < N → ¬ P w) ∨ ∃ m, m < N ∧ P m ∧ ∀ w, w < m → ¬ P w
  | 0 => Or.inl fun w hw => absurd hw (Nat.not_lt_zero w)
  | N + 1 => by
    rcases first_or P N with h | ⟨m, h1, h2⟩
    · by_cases q : P N
      · exact Or.inr ⟨N, by omega, q, h⟩
      · refine Or.inl fun w hw => ?_
        by_cases e : w = N
        · rw [e]; exact q
        · exact h w (by omega)
    · exact Or.inr ⟨m, by omega, h2⟩
/-- a well stands outside of this size -/
def outW (σ : St) (x y : Int) (w : Nat) : Prop := σ 5 w ≠ -1 ∧ (x < σ 3 w ∨ y < σ 4 w)
theorem fit_go {σ : St} {x y : Int} {w : Nat} (hw : w < 24) (hK : -1 ≤ σ 5 w ∧ σ 5 w ≤ 4) (hX : 0 ≤ σ 3 w ∧ σ 3 w ≤ 1000) (hY : 0 ≤ σ 4 w ∧ σ 4 w ≤ 1000) (hx : inI x) (hy : inI y) (h : ¬ outW σ x y w) : f_X9_fitInto_b28 σ x y (w : Int) = some (.inl ((w : Int) + 1)) := by
  obtain ⟨x1, x2⟩ := hx
  obtain ⟨y1, y2⟩ := hy
  unfold outW at h
  rw [f_X9_fitInto_b28, jc_II (by omega) (by omega) (by omega) (by omega), if_pos (by omega), has_in hw hK, jbind_s]
  by_cases q : σ 5 w = -1
  · rw [if_pos q, jc_I (by omega) (by omega), if_pos rfl, jlet_v]
  · rw [if_neg q, jc_I (by omega) (by omega), if_neg (by omega), jc_ix (by omega) (by omega), cast_n, jc_II (by omega) (by omega) (by omega) (by omega), if_neg (by omega), jc_ix (by omega) (by omega), jc_II (by omega) (by omega) (by omega) (by omega), if_neg (by omega), jlet_v]
theorem fit_out {σ : St} {x y : Int} {w : Nat} (hw : w < 24) (hK : -1 ≤ σ 5 w ∧ σ 5 w ≤ 4) (hX : 0 ≤ σ 3 w ∧ σ 3 w ≤ 1000) (hY : 0 ≤ σ 4 w ∧ σ 4 w ≤ 1000) (hx : inI x) (hy : inI y) (h : outW σ x y w) : f_X9_fitInto_b28 σ x y (w : Int) = some (.inr (.inl ())) := by
  obtain ⟨x1, x2⟩ := hx
  obtain ⟨y1, y2⟩ := hy
  unfold outW at h
  rw [f_X9_fitInto_b28, jc_II (by omega) (by omega) (by omega) (by omega), if_pos (by omega), has_in hw hK, jbind_s, if_neg h.1, jc_I (by omega) (by omega), if_neg (by omega), jc_ix (by omega) (by omega), cast_n, jc_II (by omega) (by omega) (by omega) (by omega)]
  by_cases q : x < σ 3 w
  · rw [if_pos q]
  · rw [if_neg q, jc_ix (by omega) (by omega), jc_II (by omega) (by omega) (by omega) (by omega), if_pos (by omega)]
theorem fitM_go {σC σM : St} (h : Rw σC σM) {x y : Int} {w : Nat} (hw : w < 24) (hx : inI x) (hy : inI y) (ho : ¬ outW σC x y w) : f_X11_rectangle_b28 σM x y (w : Int) = some (.inl ((w : Int) + 1)) := by
  obtain ⟨x1, x2⟩ := hx
  obtain ⟨y1, y2⟩ := hy
  unfold outW at ho
  obtain ⟨-, -, r3, r4⟩ := h.rng hw
  rw [f_X11_rectangle_b28, jc_II (by omega) (by omega) (by omega) (by omega), if_pos (by omega), jc_ix (by omega) (by omega), cast_n]
  rcases h.2.2.2.2.2.1 w hw with ⟨h1, h2⟩ | ⟨h1, h2, h3, h4, h5, h6⟩
  · rw [h1, jc_I (by omega) (by omega), if_pos rfl, jlet_v]
  · rw [h1, jc_I (by omega) (by omega), if_neg (by omega), jc_ix (by omega) (by omega), h4, h5, jc_II (by omega) (by omega) (by omega) (by omega), if_neg (by omega), jc_ix (by omega) (by omega), jc_II (by omega) (by omega) (by omega) (by omega), if_neg (by omega), jlet_v]
theorem fitM_out {σC σM : St} (h : Rw σC σM) {x y : Int} {w : Nat} (hw : w < 24) (hx : inI x) (hy : inI y) (ho : outW σC x y w) : f_X11_rectangle_b28 σM x y (w : Int) = some (.inr (.inl ())) := by
  obtain ⟨x1, x2⟩ := hx
  obtain ⟨y1, y2⟩ := hy
  unfold outW at ho
  obtain ⟨-, -, r3, r4⟩ := h.rng hw
  rw [f_X11_rectangle_b28, jc_II (by omega) (by omega) (by omega) (by omega), if_pos (by omega), jc_ix (by omega) (by omega), cast_n]
  rcases h.2.2.2.2.2.1 w hw with ⟨h1, h2⟩ | ⟨h1, h2, h3, h4, h5, h6⟩
  · exact absurd h2 ho.1
  · rw [h1, jc_I (by omega) (by omega), if_neg (by omega), jc_ix (by omega) (by omega), h4, h5, jc_II (by omega) (by omega) (by omega) (by omega)]
    by_cases q : x < σC 3 w
    · rw [if_pos q]
    · rw [if_neg q, jc_ix (by omega) (by omega), jc_II (by omega) (by omega) (by omega) (by omega), if_pos (by omega)]
