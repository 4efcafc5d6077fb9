/-! ===== the pure side 5: calls that change the map ===== -/
theorem Fr.at {P : Wr} {σ τ : St} (h : Fr P σ τ) (k j : Nat) (h1 : k ∉ P.1) (h2 : (k, j) ∉ P.2) : τ k j = σ k j := h k j h1 h2
theorem Fr.all {P : Wr} {σ τ : St} (h : Fr P σ τ) (k : Nat) (h1 : k ∉ P.1) (h2 : P.2.all (fun x => x.1 != k) = true) : τ k = σ k := by
  funext j
  refine h k j h1 (fun z => ?_)
  have := List.all_eq_true.mp h2 _ z
  simp at this
theorem RP.fr {σC σM τC τM : St} (h : RP σC σM) (hC : ∀ k, 7 ≤ k → k ≤ 13 → τC k = σC k) (hM : ∀ k, 6 ≤ k → k ≤ 12 → τM k = σM k) (h8 : τM 0 8 = σM 0 8) : RP τC τM := by
  obtain ⟨p, q, p8, q8, a1, a2, a3, a4⟩ := h
  refine ⟨p, q, p8, q8, ?_, ?_, ?_, fun j hj => (a4 j hj).mv ?_ ?_ ?_ ?_ ?_ ?_⟩
  · rw [hC 7 (by omega) (by omega)]; exact a1
  · rw [hC 7 (by omega) (by omega)]; exact a2
  · rw [h8]; exact a3
  · rw [hC 8 (by omega) (by omega)]
  · rw [hC 9 (by omega) (by omega)]
  · intro k w hk hw
    rw [hC k (by omega) (by omega)]
  · rw [hM 11 (by omega) (by omega)]
  · rw [hM 12 (by omega) (by omega)]
  · intro k w hk hw
    rw [hM k (by omega) (by omega)]
/-- the sheets -/
def RS (σC σM : St) : Prop := (∀ s, s < 8 → σM 31 s = σC 15 s ∧ -1 ≤ σC 15 s ∧ σC 15 s ≤ 8) ∧ ∀ j, j < 64 → (σM 32 (4 * j) = σC 16 j ∧ σM 32 (4 * j + 1) = σC 17 j ∧ σM 32 (4 * j + 2) = σC 18 j ∧ σM 32 (4 * j + 3) = σC 19 j) ∧ inI (σC 16 j) ∧ inI (σC 17 j) ∧ inI (σC 18 j) ∧ inI (σC 19 j)
theorem RS.fr {σC σM τC τM : St} (h : RS σC σM) (hC : ∀ k, 15 ≤ k → k ≤ 19 → τC k = σC k) (h1 : τM 31 = σM 31) (h2 : τM 32 = σM 32) : RS τC τM := by
  unfold RS
  rw [hC 15 (by omega) (by omega), hC 16 (by omega) (by omega), hC 17 (by omega) (by omega), hC 18 (by omega) (by omega), hC 19 (by omega) (by omega), h1, h2]
  exact h
/-- wells, past and sheets of both sides -/
def RA (σC σM : St) : Prop := Rw σC σM ∧ RP σC σM ∧ RS σC σM
/-- what a call may do to the component: caches stay, the version grows, or the wells stay -/
def CSt (σ τ : St) : Prop := (∀ k, 20 ≤ k → τ k = σ k) ∧ ((σ 1 6 < τ 1 6 ∧ τ 1 6 ≤ σ 1 6 + 10) ∨ ∀ k, k < 7 → τ k = σ k)
theorem CSt.refl {σ : St} : CSt σ σ := ⟨fun _ _ => rfl, Or.inr fun _ _ => rfl⟩
theorem anew {μ σM : St} (hw : WF (μ 1 0) (μ 1 1) (μ 5) (μ 3) (μ 4) (μ 6)) (hs : 0 ≤ μ 1 2 ∧ μ 1 2 ≤ 3) (h0 : σM 0 0 = μ 1 0) (h1 : σM 0 1 = μ 1 1) (h2 : σM 0 2 = μ 1 2) (hR : RM σM (μ 5) (μ 3) (μ 4) (μ 6)) : ∃ τ, f_X9_countAnew μ = some τ ∧ Fr wr_X9_countAnew μ τ ∧ τ 1 6 = μ 1 6 + 1 ∧ Rw τ σM := by
  obtain ⟨τ, t0, tF, t6, t3, t4, tw⟩ := countAnew_spec (σ := μ) (fun w hw' => (hw.rng hw').1)
  have e5 := tF.all 5 (by decide) (by decide)
  have e3 := tF.all 3 (by decide) (by decide)
  have e4 := tF.all 4 (by decide) (by decide)
  have e6 := tF.all 6 (by decide) (by decide)
  have f0 := tF.at 1 0 (by decide) (by decide)
  have f1 := tF.at 1 1 (by decide) (by decide)
  have f2 := tF.at 1 2 (by decide) (by decide)
  have ep : pC τ = pC μ := by
    funext w
    unfold pC
    rw [f2, e5, e6]
  have eh : hC_ τ = hC_ μ := by
    funext w
    unfold hC_
    rw [e5]
  refine ⟨τ, t0, tF, t6, ?_⟩
  unfold Rw
  rw [ep, eh, f0, f1, f2, e3, e4, e5, e6]
  exact ⟨hw, hs, h0, h1, h2, hR, t3, t4, tw⟩
theorem season_eq {σC σM : St} (h : RA σC σM) {x : Int} (hx : inI x) : ∃ v τC τM, f_X10_season σC x = some (v, τC) ∧ f_X11_season σM x = some (v, τM) ∧ RA τC τM ∧ CSt σC τC := by
  obtain ⟨x1, x2⟩ := hx
  by_cases c1 : x < 0
  · refine ⟨-1, σC, σM, ?_, ?_, h, CSt.refl⟩
    · rw [f_X10_season, f_X10_season_b0, jc_I x1 x2, if_pos c1]
    · rw [f_X11_season, f_X11_season_b0, jc_I x1 x2, if_pos c1]
  by_cases c2 : x < 4
  · obtain ⟨⟨hw, hs, h0, h1, h2, hR, hr⟩, hp, hS⟩ := h
    obtain ⟨τ, t0, tF, t6, tR⟩ := anew (μ := up2 σC 1 2 x) (σM := up2 σM 0 2 x) (by rw [up2_j (by decide), up2_j (by decide), up2_k (by decide), up2_k (by decide), up2_k (by decide), up2_k (by decide)]; exact hw) (by rw [up2_same]; omega) (by rw [up2_j (by decide), up2_j (by decide)]; exact h0) (by rw [up2_j (by decide), up2_j (by decide)]; exact h1) (by rw [up2_same, up2_same]) (by rw [up2_k (by decide), up2_k (by decide), up2_k (by decide), up2_k (by decide)]; exact hR)
    refine ⟨σC 1 2, τ, up2 σM 0 2 x, ?_, ?_, ⟨tR, hp.fr ?_ ?_ ?_, hS.fr ?_ ?_ ?_⟩, ?_, Or.inl ?_⟩
    · rw [f_X10_season, f_X10_season_b0, jc_I x1 x2, if_neg c1, jc_II (by omega) (by omega) (by omega) (by omega), if_pos c2, jlet_v, f_X9_turnTo, f_X9_turnTo_b0, jlet_v, t0, jbind_s, jbind_s]
    · rw [f_X11_season, f_X11_season_b0, jc_I x1 x2, if_neg c1, jc_II (by omega) (by omega) (by omega) (by omega), if_neg (by omega), jlet_v, jlet_v, h2]
    · intro k k1 k2
      funext j
      rw [tF.at k j (by simp; omega) (by simp; omega), up2_k (by omega)]
    · intro k k1 k2
      rw [up2_k (by omega)]
    · rw [up2_j (by decide)]
    · intro k k1 k2
      funext j
      rw [tF.at k j (by simp; omega) (by simp; omega), up2_k (by omega)]
    · rw [up2_k (by decide)]
    · rw [up2_k (by decide)]
    · intro k k1
      funext j
      rw [tF.at k j (by simp; omega) (by simp; omega), up2_k (by omega)]
    · rw [t6, up2_j (by decide)]
      omega
  · refine ⟨-1, σC, σM, ?_, ?_, h, CSt.refl⟩
    · rw [f_X10_season, f_X10_season_b0, jc_I x1 x2, if_neg c1, jc_II (by omega) (by omega) (by omega) (by omega), if_neg c2]
    · rw [f_X11_season, f_X11_season_b0, jc_I x1 x2, if_neg c1, jc_II (by omega) (by omega) (by omega) (by omega), if_pos (by omega)]
theorem first_or (P : Nat → Prop) : ∀ N : Nat, (∀ w, w < N → ¬ P w) ∨ ∃ m, m < N ∧ P m ∧ ∀ w, w < m → ¬ P w
  | 0 => Or.inl fun w hw => absurd hw (Nat.not_lt_zero w)
  | N + 1 => by
    rcases first_or P N with h | ⟨m, h1, h2⟩
    · by_cases q : P N
      · exact Or.inr ⟨N, by omega, q, h⟩
      · refine Or.inl fun w hw => ?_
        by_cases e : w = N
        · rw [e]; exact q
        · exact h w (by omega)
    · exact Or.inr ⟨m, by omega, h2⟩
/-- a well stands outside of this size -/
def outW (σ : St) (x y : Int) (w : Nat) : Prop := σ 5 w ≠ -1 ∧ (x < σ 3 w ∨ y < σ 4 w)
theorem fit_go {σ : St} {x y : Int} {w : Nat} (hw : w < 24) (hK : -1 ≤ σ 5 w ∧ σ 5 w ≤ 4) (hX : 0 ≤ σ 3 w ∧ σ 3 w ≤ 1000) (hY : 0 ≤ σ 4 w ∧ σ 4 w ≤ 1000) (hx : inI x) (hy : inI y) (h : ¬ outW σ x y w) : f_X9_fitInto_b28 σ x y (w : Int) = some (.inl ((w : Int) + 1)) := by
  obtain ⟨x1, x2⟩ := hx
  obtain ⟨y1, y2⟩ := hy
  unfold outW at h
  rw [f_X9_fitInto_b28, jc_II (by omega) (by omega) (by omega) (by omega), if_pos (by omega), has_in hw hK, jbind_s]
  by_cases q : σ 5 w = -1
  · rw [if_pos q, jc_I (by omega) (by omega), if_pos rfl, jlet_v]
  · rw [if_neg q, jc_I (by omega) (by omega), if_neg (by omega), jc_ix (by omega) (by omega), cast_n, jc_II (by omega) (by omega) (by omega) (by omega), if_neg (by omega), jc_ix (by omega) (by omega), jc_II (by omega) (by omega) (by omega) (by omega), if_neg (by omega), jlet_v]
theorem fit_out {σ : St} {x y : Int} {w : Nat} (hw : w < 24) (hK : -1 ≤ σ 5 w ∧ σ 5 w ≤ 4) (hX : 0 ≤ σ 3 w ∧ σ 3 w ≤ 1000) (hY : 0 ≤ σ 4 w ∧ σ 4 w ≤ 1000) (hx : inI x) (hy : inI y) (h : outW σ x y w) : f_X9_fitInto_b28 σ x y (w : Int) = some (.inr (.inl ())) := by
  obtain ⟨x1, x2⟩ := hx
  obtain ⟨y1, y2⟩ := hy
  unfold outW at h
  rw [f_X9_fitInto_b28, jc_II (by omega) (by omega) (by omega) (by omega), if_pos (by omega), has_in hw hK, jbind_s, if_neg h.1, jc_I (by omega) (by omega), if_neg (by omega), jc_ix (by omega) (by omega), cast_n, jc_II (by omega) (by omega) (by omega) (by omega)]
  by_cases q : x < σ 3 w
  · rw [if_pos q]
  · rw [if_neg q, jc_ix (by omega) (by omega), jc_II (by omega) (by omega) (by omega) (by omega), if_pos (by omega)]
theorem fitM_go {σC σM : St} (h : Rw σC σM) {x y : Int} {w : Nat} (hw : w < 24) (hx : inI x) (hy : inI y) (ho : ¬ outW σC x y w) : f_X11_rectangle_b28 σM x y (w : Int) = some (.inl ((w : Int) + 1)) := by
  obtain ⟨x1, x2⟩ := hx
  obtain ⟨y1, y2⟩ := hy
  unfold outW at ho
  obtain ⟨-, -, r3, r4⟩ := h.rng hw
  rw [f_X11_rectangle_b28, jc_II (by omega) (by omega) (by omega) (by omega), if_pos (by omega), jc_ix (by omega) (by omega), cast_n]
  rcases h.2.2.2.2.2.1 w hw with ⟨h1, h2⟩ | ⟨h1, h2, h3, h4, h5, h6⟩
  · rw [h1, jc_I (by omega) (by omega), if_pos rfl, jlet_v]
  · rw [h1, jc_I (by omega) (by omega), if_neg (by omega), jc_ix (by omega) (by omega), h4, h5, jc_II (by omega) (by omega) (by omega) (by omega), if_neg (by omega), jc_ix (by omega) (by omega), jc_II (by omega) (by omega) (by omega) (by omega), if_neg (by omega), jlet_v]
theorem fitM_out {σC σM : St} (h : Rw σC σM) {x y : Int} {w : Nat} (hw : w < 24) (hx : inI x) (hy : inI y) (ho : outW σC x y w) : f_X11_rectangle_b28 σM x y (w : Int) = some (.inr (.inl ())) := by
  obtain ⟨x1, x2⟩ := hx
  obtain ⟨y1, y2⟩ := hy
  unfold outW at ho
  obtain ⟨-, -, r3, r4⟩ := h.rng hw
  rw [f_X11_rectangle_b28, jc_II (by omega) (by omega) (by omega) (by omega), if_pos (by omega), jc_ix (by omega) (by omega), cast_n]
  rcases h.2.2.2.2.2.1 w hw with ⟨h1, h2⟩ | ⟨h1, h2, h3, h4, h5, h6⟩
  · exact absurd h2 ho.1
  · rw [h1, jc_I (by omega) (by omega), if_neg (by omega), jc_ix (by omega) (by omega), h4, h5, jc_II (by omega) (by omega) (by omega) (by omega)]
    by_cases q : x < σC 3 w
    · rw [if_pos q]
    · rw [if_neg q, jc_ix (by omega) (by omega), jc_II (by omega) (by omega) (by omega) (by omega), if_pos (by omega)]
/-- the search over the wells, on both sides: found or not -/
theorem fit_both {σC σM : St} (h : Rw σC σM) {x y : Int} (hx : inI x) (hy : inI y) (fuel : Nat) (hf : 24 < fuel) : (jloop (fun (x3 : Int) => f_X9_fitInto_b28 σC x y x3) fuel 0 = some (.inl ()) ∧ jloop (fun (x3 : Int) => f_X11_rectangle_b28 σM x y x3) fuel 0 = some (.inl ())) ∨ ((∀ w, w < 24 → ¬ outW σC x y w) ∧ jloop (fun (x3 : Int) => f_X9_fitInto_b28 σC x y x3) fuel 0 = some (.inr ()) ∧ jloop (fun (x3 : Int) => f_X11_rectangle_b28 σM x y x3) fuel 0 = some (.inr ())) := by
  rcases first_or (outW σC x y) 24 with q | ⟨m, hm, q1, q2⟩
  · refine Or.inr ⟨q, ?_, ?_⟩
    · refine jloop_for0 (g := fun a => (a : Int)) (N := 24) (e := _) rfl hf (fun a ha => ?_) ?_
      · obtain ⟨r1, r2, r3, r4⟩ := h.rng ha
        rw [fit_go ha r1 r3 r4 hx hy (q a ha), cast_s]
      · show f_X9_fitInto_b28 σC x y ((24 : Nat) : Int) = _
        rw [f_X9_fitInto_b28, jc_II (by omega) (by omega) (by omega) (by omega), if_neg (by omega)]
    · refine jloop_for0 (g := fun a => (a : Int)) (N := 24) (e := _) rfl hf (fun a ha => ?_) ?_
      · rw [fitM_go h ha hx hy (q a ha), cast_s]
      · show f_X11_rectangle_b28 σM x y ((24 : Nat) : Int) = _
        rw [f_X11_rectangle_b28, jc_II (by omega) (by omega) (by omega) (by omega), if_neg (by omega)]
  · refine Or.inl ⟨?_, ?_⟩
    · refine jloop_for0 (g := fun a => (a : Int)) (N := m) (e := _) rfl (by omega) (fun a ha => ?_) ?_
      · obtain ⟨r1, r2, r3, r4⟩ := h.rng (w := a) (by omega)
        rw [fit_go (by omega) r1 r3 r4 hx hy (q2 a ha), cast_s]
      · obtain ⟨r1, r2, r3, r4⟩ := h.rng hm
        exact fit_out hm r1 r3 r4 hx hy q1
    · refine jloop_for0 (g := fun a => (a : Int)) (N := m) (e := _) rfl (by omega) (fun a ha => ?_) ?_
      · rw [fitM_go h (by omega) hx hy (q2 a ha), cast_s]
      · exact fitM_out h hm hx hy q1
theorem after {σC σM : St} (h : RA σC σM) : ∃ τC τM, f_X5_remember σC = some τC ∧ f_X11_keeps σM = some τM ∧ RA τC τM ∧ (∀ k, k < 7 ∨ 13 < k → τC k = σC k) ∧ (∀ k, 0 < k → k < 6 ∨ 12 < k → τM k = σM k) ∧ (∀ j, j ≠ 8 → τM 0 j = σM 0 j) := by
  obtain ⟨hw, hp, hs⟩ := h
  obtain ⟨τC, τM, t0, u0, tF, uF, hp'⟩ := past_step hw.1 hw.2.2.2.2.2.1 hw.2.2.1 hw.2.2.2.1 hp
  have tk : ∀ k, k < 7 ∨ 13 < k → τC k = σC k := by
    intro k hk
    funext j
    exact tF.at k j (by simp; omega) (by simp; omega)
  have uk : ∀ k, 0 < k → k < 6 ∨ 12 < k → τM k = σM k := by
    intro k h0 hk
    funext j
    exact uF.at k j (by simp; omega) (by simp; omega)
  have u8 : ∀ j, j ≠ 8 → τM 0 j = σM 0 j := fun j hj => uF.at 0 j (by decide) (by simp; omega)
  refine ⟨τC, τM, t0, u0, ⟨?_, hp', hs.fr (fun k k1 k2 => tk k (by omega)) (uk 31 (by omega) (by omega)) (uk 32 (by omega) (by omega))⟩, tk, uk, u8⟩
  have ep : pC τC = pC σC := by
    funext w
    unfold pC
    rw [tk 1 (by omega), tk 5 (by omega), tk 6 (by omega)]
  have eh : hC_ τC = hC_ σC := by
    funext w
    unfold hC_
    rw [tk 5 (by omega)]
  unfold Rw RM
  rw [ep, eh, tk 1 (by omega), tk 2 (by omega), tk 3 (by omega), tk 4 (by omega), tk 5 (by omega), tk 6 (by omega), u8 0 (by decide), u8 1 (by decide), u8 2 (by decide), uk 1 (by omega) (by omega), uk 2 (by omega) (by omega), uk 3 (by omega) (by omega), uk 4 (by omega) (by omega), uk 5 (by omega) (by omega)]
  exact hw
/-- new wells on both sides, counted -/
theorem newmap {τC τM μC μM : St} (hp : RP τC τM) (hS : RS τC τM) (hC : ∀ k, 7 ≤ k → μC k = τC k) (h6 : μC 1 6 = τC 1 6) (hM : ∀ k, 5 < k → μM k = τM k) (h8 : μM 0 8 = τM 0 8) (hw : WF (μC 1 0) (μC 1 1) (μC 5) (μC 3) (μC 4) (μC 6)) (hs : 0 ≤ μC 1 2 ∧ μC 1 2 ≤ 3) (h0 : μM 0 0 = μC 1 0) (h1 : μM 0 1 = μC 1 1) (h2 : μM 0 2 = μC 1 2) (hR : RM μM (μC 5) (μC 3) (μC 4) (μC 6)) : ∃ υ, f_X9_countAnew μC = some υ ∧ RA υ μM ∧ υ 1 6 = τC 1 6 + 1 ∧ (∀ k, 7 ≤ k → υ k = τC k) ∧ (∀ k, 3 ≤ k → k < 7 → υ k = μC k) := by
  obtain ⟨υ, t0, tF, t6, tR⟩ := anew hw hs h0 h1 h2 hR
  have e : ∀ k, 7 ≤ k → υ k = τC k := by
    intro k hk
    funext j
    rw [tF.at k j (by simp; omega) (by simp; omega), hC k hk]
  refine ⟨υ, t0, ⟨tR, hp.fr (fun k k1 k2 => e k k1) (fun k k1 k2 => hM k (by omega)) h8, hS.fr (fun k k1 k2 => e k (by omega)) (hM 31 (by omega)) (hM 32 (by omega))⟩, by rw [t6, h6], e, ?_⟩
  intro k k1 k2
  funext j
  exact tF.at k j (by simp; omega) (by simp; omega)
theorem rectangle_eq {σC σM : St} (h : RA σC σM) {x y : Int} (hx : inI x) (hy : inI y) : ∃ v τC τM, f_X10_rectangle σC x y = some (v, τC) ∧ f_X11_rectangle σM x y = some (v, τM) ∧ RA τC τM ∧ CSt σC τC := by
  have no : ∀ {a : Option Int} {b : Option (Int × St)}, f_X9_fitInto_b0 σC x y = some 0 → f_X11_rectangle_b0 σM x y = some (0, σM) → ∃ v τC τM, f_X10_rectangle σC x y = some (v, τC) ∧ f_X11_rectangle σM x y = some (v, τM) ∧ RA τC τM ∧ CSt σC τC := by
    intro a b e1 e2
    refine ⟨0, σC, σM, ?_, ?_, h, CSt.refl⟩
    · rw [f_X10_rectangle, f_X10_rectangle_b0, f_X9_fitInto, e1, jz_0, jbind_s, jc_I (by omega) (by omega), if_pos rfl]; rfl
    · rw [f_X11_rectangle, e2]; rfl
  have hx' := hx
  have hy' := hy
  obtain ⟨x1, x2⟩ := hx
  obtain ⟨y1, y2⟩ := hy
  by_cases c1 : x < 1
  · refine no (a := none) (b := none) ?_ ?_
    · rw [f_X9_fitInto_b0, jc_II (by omega) (by omega) (by omega) (by omega), if_pos c1]
    · rw [f_X11_rectangle_b0, jc_II (by omega) (by omega) (by omega) (by omega), if_pos c1]
  by_cases c2 : (1000 : Int) < x
  · refine no (a := none) (b := none) ?_ ?_
    · rw [f_X9_fitInto_b0, jc_II (by omega) (by omega) (by omega) (by omega), if_neg c1, jc_II (by omega) (by omega) (by omega) (by omega), if_pos c2]
    · rw [f_X11_rectangle_b0, jc_II (by omega) (by omega) (by omega) (by omega), if_neg c1, jc_II (by omega) (by omega) (by omega) (by omega), if_pos c2]
  by_cases c3 : y < 1
  · refine no (a := none) (b := none) ?_ ?_
    · rw [f_X9_fitInto_b0, jc_II (by omega) (by omega) (by omega) (by omega), if_neg c1, jc_II (by omega) (by omega) (by omega) (by omega), if_neg c2, jc_II (by omega) (by omega) (by omega) (by omega), if_pos c3]
    · rw [f_X11_rectangle_b0, jc_II (by omega) (by omega) (by omega) (by omega), if_neg c1, jc_II (by omega) (by omega) (by omega) (by omega), if_neg c2, jc_II (by omega) (by omega) (by omega) (by omega), if_pos c3]
  by_cases c4 : (1000 : Int) < y
  · refine no (a := none) (b := none) ?_ ?_
    · rw [f_X9_fitInto_b0, jc_II (by omega) (by omega) (by omega) (by omega), if_neg c1, jc_II (by omega) (by omega) (by omega) (by omega), if_neg c2, jc_II (by omega) (by omega) (by omega) (by omega), if_neg c3, jc_II (by omega) (by omega) (by omega) (by omega), if_pos c4]
    · rw [f_X11_rectangle_b0, jc_II (by omega) (by omega) (by omega) (by omega), if_neg c1, jc_II (by omega) (by omega) (by omega) (by omega), if_neg c2, jc_II (by omega) (by omega) (by omega) (by omega), if_neg c3, jc_II (by omega) (by omega) (by omega) (by omega), if_pos c4]
  rcases fit_both h.1 hx' hy' 1000 (by omega) with ⟨l1, l2⟩ | ⟨ho, l1, l2⟩
  · refine no (a := none) (b := none) ?_ ?_
    · rw [f_X9_fitInto_b0, jc_II (by omega) (by omega) (by omega) (by omega), if_neg c1, jc_II (by omega) (by omega) (by omega) (by omega), if_neg c2, jc_II (by omega) (by omega) (by omega) (by omega), if_neg c3, jc_II (by omega) (by omega) (by omega) (by omega), if_neg c4, jlet_v, l1, jbind_s]
    · rw [f_X11_rectangle_b0, jc_II (by omega) (by omega) (by omega) (by omega), if_neg c1, jc_II (by omega) (by omega) (by omega) (by omega), if_neg c2, jc_II (by omega) (by omega) (by omega) (by omega), if_neg c3, jc_II (by omega) (by omega) (by omega) (by omega), if_neg c4, jlet_v, l2, jbind_s]
  · obtain ⟨τC, τM, t0, u0, ⟨hw, hp, hS⟩, tk, uk, u8⟩ := after h
    have ho' : ∀ w, w < 24 → ¬ outW τC x y w := by
      intro w hw'
      unfold outW
      rw [tk 5 (by omega), tk 3 (by omega), tk 4 (by omega)]
      exact ho w hw'
    obtain ⟨w1, w2, w3, w4⟩ := hw.1
    obtain ⟨υ, v0, vR, v6, vk, -⟩ := newmap (μC := up2 (up2 τC 1 0 x) 1 1 y) (μM := up2 (up2 τM 0 0 x) 0 1 y) hp hS (fun k hk => by rw [up2_k (by omega), up2_k (by omega)]) (by rw [up2_j (by decide), up2_j (by decide)]) (fun k hk => by rw [up2_k (by omega), up2_k (by omega)]) (by rw [up2_j (by decide), up2_j (by decide)]) (by
      rw [up2_same, up2_j (by decide), up2_same]
      simp only [up2_k, ne_eq, Nat.reduceEqDiff, not_false_eq_true]
      refine ⟨by omega, by omega, fun w hw' => ?_, w4⟩
      have o := ho' w hw'
      unfold outW at o
      rcases w3 w hw' with z | ⟨z1, z2⟩
      · exact Or.inl z
      · refine Or.inr ⟨z1, ?_⟩
        have : τC 5 w ≠ -1 := by
          unfold okK at z1
          omega
        omega) (by rw [up2_j (by decide), up2_j (by decide)]; exact hw.2.1) (by rw [up2_j (by decide), up2_same, up2_j (by decide), up2_same]) (by rw [up2_same, up2_same]) (by rw [up2_j (by decide), up2_j (by decide), up2_j (by decide), up2_j (by decide)]; exact hw.2.2.2.2.1) (by
      have := hw.2.2.2.2.2.1
      unfold RM at this ⊢
      simp only [up2_k, ne_eq, Nat.reduceEqDiff, not_false_eq_true]
      exact this)
    refine ⟨1, υ, _, ?_, ?_, vR, ?_, Or.inl ?_⟩
    · rw [f_X10_rectangle, f_X10_rectangle_b0, f_X9_fitInto, f_X9_fitInto_b0, jc_II (by omega) (by omega) (by omega) (by omega), if_neg c1, jc_II (by omega) (by omega) (by omega) (by omega), if_neg c2, jc_II (by omega) (by omega) (by omega) (by omega), if_neg c3, jc_II (by omega) (by omega) (by omega) (by omega), if_neg c4, jlet_v, l1, jbind_s, jz_1, jbind_s, jc_I (by omega) (by omega), if_neg (by omega), t0, jbind_s, f_X9_resize, f_X9_resize_b0, jlet_v, jlet_v, v0, jbind_s, jbind_s]
      rfl
    · rw [f_X11_rectangle, f_X11_rectangle_b0, jc_II (by omega) (by omega) (by omega) (by omega), if_neg c1, jc_II (by omega) (by omega) (by omega) (by omega), if_neg c2, jc_II (by omega) (by omega) (by omega) (by omega), if_neg c3, jc_II (by omega) (by omega) (by omega) (by omega), if_neg c4, jlet_v, l2, jbind_s]
      dsimp only
      rw [u0, jbind_s, jlet_v, jlet_v]
      rfl
    · intro k hk
      rw [vk k (by omega), tk k (by omega)]
    · rw [v6, tk 1 (by omega)]
      omega
