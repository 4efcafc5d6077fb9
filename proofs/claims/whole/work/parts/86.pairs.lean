/-! ===== the pure side 66: the model tries corners and pairs ===== -/
def TS (σ : St) (v w : Nat) (X : Pt) : Prop := TP σ v w 0 0 X ∨ TP σ v w (σ 1 0) (σ 1 1) X
theorem sides_spec {σC τ : St} (h : Rw σC τ) {v w : Nat} (hv : v < 24) (hw : w < 24) (pv : pC σC v = true) (pw : pC σC w = true) {S : Pt → Prop} (hB : BM σC S τ) : ∃ υ, f_X11_triesSides τ (v : Int) (w : Int) = some υ ∧ MT τ υ ∧ BM σC (fun X => S X ∨ TS σC v w X) υ := by
  obtain ⟨-, -, v1, v2⟩ := h.rng hv
  obtain ⟨-, -, w1, w2⟩ := h.rng hw
  obtain ⟨-, a1, a2, -⟩ := h.M hv pv
  obtain ⟨-, b1, b2, -⟩ := h.M hw pw
  have wd := h.1.1
  have hg := h.1.2.1
  obtain ⟨μ, υ, m1, m2, u1, u2, u3⟩ := side_pair (x := 0) (y := 0) h hv hw pv (by omega) (by omega) (by omega) (by omega) hB
  have R := MT.R h u2
  obtain ⟨μ', υ', m1', m2', u1', u2', u3'⟩ := side_pair (x := σC 1 0) (y := σC 1 1) R hv hw pv (by omega) (by omega) (by omega) (by omega) u3
  have t0 : τ 0 0 = σC 1 0 := h.2.2.1
  have t1 : τ 0 1 = σC 1 1 := h.2.2.2.1
  have m0 : μ 0 0 = σC 1 0 := by rw [m2.2 0 (by decide), t0]
  have r0 : υ 0 0 = σC 1 0 := R.2.2.1
  have r1 : υ 0 1 = σC 1 1 := R.2.2.2.1
  have n0 : μ' 0 0 = σC 1 0 := by rw [m2'.2 0 (by decide), r0]
  have n1 : μ' 0 1 = σC 1 1 := by rw [m2'.2 1 (by decide), r1]
  have q0 : f_X11_triesSides_b79 τ (bA σC v w) (bB σC v w) (bC' σC v w) 0 = some (.inl (υ, 1)) := by
    rw [f_X11_triesSides_b79, jc_II (by omega) (by omega) (by omega) (by omega), if_pos (by omega), jc_I (by omega) (by omega), if_pos rfl, f_X11_triesSides_b105, jc_I (by omega) (by omega), if_pos rfl, f_X11_triesSides_b121, t1, jc_I (by omega) (by omega), m1, jbind_s, jc_I (by omega) (by omega), if_pos rfl, f_X11_triesSides_b150, jc_I (by omega) (by omega), if_pos rfl, f_X11_triesSides_b166, m0, jc_I (by omega) (by omega), u1, jbind_s, jlet_v]
    rfl
  have q1 : f_X11_triesSides_b79 υ (bA σC v w) (bB σC v w) (bC' σC v w) 1 = some (.inl (υ', 2)) := by
    rw [f_X11_triesSides_b79, jc_II (by omega) (by omega) (by omega) (by omega), if_pos (by omega), jc_I (by omega) (by omega), if_neg (by decide), r0, jc_I (by omega) (by omega), f_X11_triesSides_b105, jc_I (by omega) (by omega), if_neg (by decide), r0, jc_I (by omega) (by omega), f_X11_triesSides_b121, r1, jc_I (by omega) (by omega), m1', jbind_s, jc_I (by omega) (by omega), if_neg (by decide), n1, jc_I (by omega) (by omega), f_X11_triesSides_b150, jc_I (by omega) (by omega), if_neg (by decide), n1, jc_I (by omega) (by omega), f_X11_triesSides_b166, n0, jc_I (by omega) (by omega), u1', jbind_s, jlet_v]
    rfl
  have q2 : f_X11_triesSides_b79 υ' (bA σC v w) (bB σC v w) (bC' σC v w) 2 = some (.inr υ') := by
    rw [f_X11_triesSides_b79, jc_II (by omega) (by omega) (by omega) (by omega), if_neg (by omega)]
  have lp : ∀ n, jloop (fun (q : (St × Int)) => match q with | (σ, x9) => f_X11_triesSides_b79 σ (bA σC v w) (bB σC v w) (bC' σC v w) x9) (n + 1 + 1 + 1) (τ, 0) = some υ' := fun n => jloop_inl q0 (jloop_inl q1 (jloop_inr q2))
  refine ⟨υ', ?_, u2.trans u2', u3'.cong (fun X => ?_)⟩
  · have sq : ∀ a b : Int, f_X11_square a b = some (a * a + b * b) := fun a b => rfl
    rw [f_X11_triesSides, f_X11_triesSides_b0, jc_ix (by omega) (by omega), jc_ix (by omega) (by omega), cast_n, cast_n, a1, a2, b1, b2, jc_I (by omega) (by omega), jlet_v, jc_ix (by omega) (by omega), jc_ix (by omega) (by omega), jc_I (by omega) (by omega), jlet_v, jc_ix (by omega) (by omega), jc_I (by omega) (by omega), jc_ix (by omega) (by omega), jc_I (by omega) (by omega), sq, jbind_s, jc_ix (by omega) (by omega), jc_I (by omega) (by omega), jc_ix (by omega) (by omega), jc_I (by omega) (by omega), sq, jbind_s, jlet_v, jlet_v]
    exact jbind_of (lp 997) rfl
  · unfold TS
    constructor
    · rintro ((z | z) | z)
      · exact Or.inl z
      · exact Or.inr (Or.inl z)
      · exact Or.inr (Or.inr z)
    · rintro (z | z | z)
      · exact Or.inl (Or.inl z)
      · exact Or.inl (Or.inr z)
      · exact Or.inr z
/-- the map's corners -/
def cnr (σ : St) (k : Nat) : Pt := (if k = 1 ∨ k = 2 then σ 1 0 else 0, if 1 < k then σ 1 1 else 0, 1)
theorem corner_loop {σC τ : St} (h : Rw σC τ) (hs : ∃ w, w < 24 ∧ pC σC w = true) (h39 : τ 0 39 = 0) (fuel : Nat) (hf' : 4 < fuel) : ∃ υ, jloop (fun (q : (St × Int)) => match q with | (σ, x1) => f_X11_largestOf_b7 σ x1) fuel (τ, 0) = some υ ∧ MT τ υ ∧ BM σC (fun X => ∃ k, k < 4 ∧ X = cnr σC k) υ := by
  have wd := h.1.1
  have hg := h.1.2.1
  refine jloop_ex (I := fun n q => q.2 = (n : Int) ∧ MT τ q.1 ∧ BM σC (fun X => ∃ k, k < n ∧ X = cnr σC k) q.1) (N := 4) (J := _) ?_ ?_ 4 0 fuel _ (by omega) (by omega) ⟨rfl, MT.refl _, Or.inl ⟨h39, fun P z => by
    obtain ⟨k, k1, -⟩ := z
    exact absurd k1 (Nat.not_lt_zero k)⟩⟩
  · rintro n ⟨μ, _⟩ hn ⟨rfl, i1, i2⟩
    dsimp only at i1 i2
    have R := MT.R h i1
    have t0 : μ 0 0 = σC 1 0 := R.2.2.1
    have t1 : μ 0 1 = σC 1 1 := R.2.2.2.1
    obtain ⟨υ, u1, u2, u3⟩ := tries_spec (x := (cnr σC n).1) (y := (cnr σC n).2.1) (d := 1) R (by
      unfold okQ cnr
      dsimp only
      split <;> split <;> omega) hs i2
    refine ⟨(υ, ((n + 1 : Nat) : Int)), ?_, rfl, i1.trans u2, u3.cong (fun X => ?_)⟩
    · show f_X11_largestOf_b7 μ (n : Int) = _
      unfold cnr at u1
      dsimp only at u1
      rcases (by omega : n = 0 ∨ n = 1 ∨ n = 2 ∨ n = 3) with e | e | e | e <;> subst e
      · rw [if_neg (by decide), if_neg (by decide)] at u1
        rw [f_X11_largestOf_b7, jc_II (by omega) (by omega) (by omega) (by omega), if_pos (by omega), jc_II (by omega) (by omega) (by omega) (by omega), if_neg (by omega), jc_II (by omega) (by omega) (by omega) (by omega), if_neg (by omega), f_X11_largestOf_b32, jc_II (by omega) (by omega) (by omega) (by omega), if_neg (by omega), f_X11_largestOf_b46, u1, jbind_s, jlet_v]
        rfl
      · rw [if_pos (by decide), if_neg (by decide)] at u1
        rw [f_X11_largestOf_b7, jc_II (by omega) (by omega) (by omega) (by omega), if_pos (by omega), jc_II (by omega) (by omega) (by omega) (by omega), if_pos (by omega), f_X11_largestOf_b23, t0, jc_I (by omega) (by omega), f_X11_largestOf_b32, jc_II (by omega) (by omega) (by omega) (by omega), if_neg (by omega), f_X11_largestOf_b46, u1, jbind_s, jlet_v]
        rfl
      · rw [if_pos (by decide), if_pos (by decide)] at u1
        rw [f_X11_largestOf_b7, jc_II (by omega) (by omega) (by omega) (by omega), if_pos (by omega), jc_II (by omega) (by omega) (by omega) (by omega), if_neg (by omega), jc_II (by omega) (by omega) (by omega) (by omega), if_pos (by omega), f_X11_largestOf_b23, t0, jc_I (by omega) (by omega), f_X11_largestOf_b32, jc_II (by omega) (by omega) (by omega) (by omega), if_pos (by omega), t1, jc_I (by omega) (by omega), f_X11_largestOf_b46, u1, jbind_s, jlet_v]
        rfl
      · rw [if_neg (by decide), if_pos (by decide)] at u1
        rw [f_X11_largestOf_b7, jc_II (by omega) (by omega) (by omega) (by omega), if_pos (by omega), jc_II (by omega) (by omega) (by omega) (by omega), if_neg (by omega), jc_II (by omega) (by omega) (by omega) (by omega), if_neg (by omega), f_X11_largestOf_b32, jc_II (by omega) (by omega) (by omega) (by omega), if_pos (by omega), t1, jc_I (by omega) (by omega), f_X11_largestOf_b46, u1, jbind_s, jlet_v]
        rfl
    · constructor
      · rintro (⟨k, k1, k2⟩ | z)
        · exact ⟨k, by omega, k2⟩
        · exact ⟨n, by omega, z⟩
      · rintro ⟨k, k1, k2⟩
        by_cases e : k = n
        · rw [e] at k2; exact Or.inr k2
        · exact Or.inl ⟨k, by omega, k2⟩
  · rintro ⟨μ, _⟩ ⟨rfl, i1, i2⟩
    dsimp only at i1 i2
    refine ⟨μ, ?_, i1, i2⟩
    show f_X11_largestOf_b7 μ ((4 : Nat) : Int) = _
    rw [f_X11_largestOf_b7, jc_II (by omega) (by omega) (by omega) (by omega), if_neg (by omega)]
/-- what is tried for pairs before (v, w) -/
def PT (σ : St) (v w : Nat) (X : Pt) : Prop := ∃ a b, a < b ∧ b < 24 ∧ (a < v ∨ (a = v ∧ b < w)) ∧ pC σ a = true ∧ pC σ b = true ∧ TS σ a b X
theorem pair_in {σC τ : St} (h : Rw σC τ) {S : Pt → Prop} {v : Nat} (hv : v < 24) (hB : BM σC (fun X => S X ∨ PT σC v (v + 1) X) τ) (fuel : Nat) (hf' : 24 < fuel) : ∃ υ, jloop (fun (q : (St × Int)) => match q with | (σ, x2) => f_X11_largestOf_b68 σ (v : Int) x2) fuel (τ, ((v + 1 : Nat) : Int)) = some υ ∧ MT τ υ ∧ BM σC (fun X => S X ∨ PT σC (v + 1) 0 X) υ := by
  refine jloop_ex (I := fun n q => q.2 = (n : Int) ∧ v < n ∧ MT τ q.1 ∧ BM σC (fun X => S X ∨ PT σC v n X) q.1) (N := 24) (J := _) ?_ ?_ (24 - (v + 1)) (v + 1) fuel _ (by omega) (by omega) ⟨rfl, by omega, MT.refl _, hB⟩
  · rintro n ⟨μ, _⟩ hn ⟨rfl, vn, i1, i2⟩
    dsimp only at i1 i2
    have R := MT.R h i1
    have no : (pC σC v = false ∨ pC σC n = false) → BM σC (fun X => S X ∨ PT σC v (n + 1) X) μ := fun hz => i2.cong (fun X => by
      unfold PT
      constructor
      · rintro (z | ⟨a, b, c1, c2, c3, c4⟩)
        · exact Or.inl z
        · exact Or.inr ⟨a, b, c1, c2, by omega, c4⟩
      · rintro (z | ⟨a, b, c1, c2, c3, c4, c5, c6⟩)
        · exact Or.inl z
        · by_cases e : a = v ∧ b = n
          · rw [e.1] at c4
            rw [e.2] at c5
            rcases hz with y | y
            · rw [y] at c4; cases c4
            · rw [y] at c5; cases c5
          · exact Or.inr ⟨a, b, c1, c2, by omega, c4, c5, c6⟩)
    cases pv : pC σC v with
    | false =>
      refine ⟨(μ, ((n + 1 : Nat) : Int)), ?_, rfl, by omega, i1, no (Or.inl pv)⟩
      show f_X11_largestOf_b68 μ (v : Int) (n : Int) = _
      rw [f_X11_largestOf_b68, jc_II (by omega) (by omega) (by omega) (by omega), if_pos (by omega), R.cnM hv, pv, bI_f, jbind_s, jc_I (by omega) (by omega), if_pos rfl, jlet_v, cast_s]
    | true =>
      cases pn : pC σC n with
      | false =>
        refine ⟨(μ, ((n + 1 : Nat) : Int)), ?_, rfl, by omega, i1, no (Or.inr pn)⟩
        show f_X11_largestOf_b68 μ (v : Int) (n : Int) = _
        rw [f_X11_largestOf_b68, jc_II (by omega) (by omega) (by omega) (by omega), if_pos (by omega), R.cnM hv, pv, bI_t, jbind_s, jc_I (by omega) (by omega), if_neg (by omega), R.cnM hn, pn, bI_f, jbind_s, jc_I (by omega) (by omega), if_pos rfl, jlet_v, cast_s]
      | true =>
        obtain ⟨υ, u1, u2, u3⟩ := sides_spec R hv hn pv pn i2
        refine ⟨(υ, ((n + 1 : Nat) : Int)), ?_, rfl, by omega, i1.trans u2, u3.cong (fun X => ?_)⟩
        · show f_X11_largestOf_b68 μ (v : Int) (n : Int) = _
          rw [f_X11_largestOf_b68, jc_II (by omega) (by omega) (by omega) (by omega), if_pos (by omega), R.cnM hv, pv, bI_t, jbind_s, jc_I (by omega) (by omega), if_neg (by omega), R.cnM hn, pn, bI_t, jbind_s, jc_I (by omega) (by omega), if_neg (by omega), u1, jbind_s, jlet_v, cast_s]
        · unfold PT
          constructor
          · rintro ((z | ⟨a, b, c1, c2, c3, c4⟩) | z)
            · exact Or.inl z
            · exact Or.inr ⟨a, b, c1, c2, by omega, c4⟩
            · exact Or.inr ⟨v, n, vn, hn, by omega, pv, pn, z⟩
          · rintro (z | ⟨a, b, c1, c2, c3, c4, c5, c6⟩)
            · exact Or.inl (Or.inl z)
            · by_cases e : a = v ∧ b = n
              · rw [e.1, e.2] at c6; exact Or.inr c6
              · exact Or.inl (Or.inr ⟨a, b, c1, c2, by omega, c4, c5, c6⟩)
  · rintro ⟨μ, _⟩ ⟨rfl, vn, i1, i2⟩
    dsimp only at i1 i2
    refine ⟨μ, ?_, i1, i2.cong (fun X => ?_)⟩
    · show f_X11_largestOf_b68 μ (v : Int) ((24 : Nat) : Int) = _
      rw [f_X11_largestOf_b68, jc_II (by omega) (by omega) (by omega) (by omega), if_neg (by omega)]
    · unfold PT
      constructor
      · rintro (z | ⟨a, b, c1, c2, c3, c4⟩)
        · exact Or.inl z
        · exact Or.inr ⟨a, b, c1, c2, by omega, c4⟩
      · rintro (z | ⟨a, b, c1, c2, c3, c4⟩)
        · exact Or.inl z
        · exact Or.inr ⟨a, b, c1, c2, by omega, c4⟩
theorem pair_out {σC τ : St} (h : Rw σC τ) {S : Pt → Prop} (hB : BM σC S τ) (fuel : Nat) (hf' : 24 < fuel) : ∃ υ, jloop (fun (q : (St × Int)) => match q with | (σ, x1) => f_X11_largestOf_b58 σ x1) fuel (τ, 0) = some υ ∧ MT τ υ ∧ BM σC (fun X => S X ∨ PT σC 24 0 X) υ := by
  refine jloop_ex (I := fun n q => q.2 = (n : Int) ∧ MT τ q.1 ∧ BM σC (fun X => S X ∨ PT σC n 0 X) q.1) (N := 24) (J := _) ?_ ?_ 24 0 fuel _ (by omega) (by omega) ⟨rfl, MT.refl _, hB.cong (fun X => ⟨Or.inl, fun z => by
    rcases z with z | ⟨a, b, -, -, c3, -⟩
    · exact z
    · omega⟩)⟩
  · rintro n ⟨μ, _⟩ hn ⟨rfl, i1, i2⟩
    dsimp only at i1 i2
    obtain ⟨υ, u1, u2, u3⟩ := pair_in (MT.R h i1) hn (S := S) (i2.cong (fun X => by
      unfold PT
      constructor
      · rintro (z | ⟨a, b, c1, c2, c3, c4⟩)
        · exact Or.inl z
        · exact Or.inr ⟨a, b, c1, c2, by omega, c4⟩
      · rintro (z | ⟨a, b, c1, c2, c3, c4⟩)
        · exact Or.inl z
        · exact Or.inr ⟨a, b, c1, c2, by omega, c4⟩)) 1000 (by omega)
    refine ⟨(υ, ((n + 1 : Nat) : Int)), ?_, rfl, i1.trans u2, u3⟩
    show f_X11_largestOf_b58 μ (n : Int) = _
    rw [f_X11_largestOf_b58, jc_II (by omega) (by omega) (by omega) (by omega), if_pos (by omega), jlet_v, cast_s, u1, jbind_s, jlet_v]
  · rintro ⟨μ, _⟩ ⟨rfl, i1, i2⟩
    dsimp only at i1 i2
    refine ⟨μ, ?_, i1, i2⟩
    show f_X11_largestOf_b58 μ ((24 : Nat) : Int) = _
    rw [f_X11_largestOf_b58, jc_II (by omega) (by omega) (by omega) (by omega), if_neg (by omega)]
