/-! ===== the pure side 64: the model tries a point ===== -/
/-- what trying a point may change -/
def MT (τ υ : St) : Prop := (∀ k, k ≠ 0 → υ k = τ k) ∧ ∀ j, j < 34 ∨ 44 < j → υ 0 j = τ 0 j
theorem MT.refl (τ : St) : MT τ τ := ⟨fun _ _ => rfl, fun _ _ => rfl⟩
theorem MT.trans {a b c : St} (h1 : MT a b) (h2 : MT b c) : MT a c := ⟨fun k x => by rw [h2.1 k x, h1.1 k x], fun j x => by rw [h2.2 j x, h1.2 j x]⟩
theorem MT.R {σC σM τM : St} (h : Rw σC σM) (hS : MT σM τM) : Rw σC τM := h.cM (fun k a b => hS.1 k (by omega)) (hS.2 0 (by decide)) (hS.2 1 (by decide)) (hS.2 2 (by decide))
theorem tries_loop {σC β : St} (h : Rw σC β) {P : Pt} (ok : okQ P) (h37 : β 0 37 = -1) (fuel : Nat) (hf' : 24 < fuel) : ∃ υ, jloop (fun (q : (St × Int)) => match q with | (σ, x7) => f_X11_tries_b35 σ P.1 P.2.1 P.2.2 x7) fuel (β, 0) = some υ ∧ (∀ k, k ≠ 0 → υ k = β k) ∧ (∀ j, j ≠ 37 → υ 0 j = β 0 j) ∧ ((∀ w, w < 24 → pC σC w = false) ∨ vl σC P (υ 0 37)) := by
  refine jloop_ex (I := fun n q => q.2 = (n : Int) ∧ (∀ k, k ≠ 0 → q.1 k = β k) ∧ (∀ j, j ≠ 37 → q.1 0 j = β 0 j) ∧ ((q.1 0 37 = -1 ∧ ∀ w, w < n → pC σC w = false) ∨ ∃ w, w < n ∧ w < 24 ∧ pC σC w = true ∧ q.1 0 37 = wsq σC P w ∧ ∀ u, u < n → u < 24 → pC σC u = true → wsq σC P w ≤ wsq σC P u)) (N := 24) (J := _) ?_ ?_ 24 0 fuel _ (by omega) (by omega) ⟨rfl, fun _ _ => rfl, fun _ _ => rfl, Or.inl ⟨h37, fun w hw => absurd hw (Nat.not_lt_zero w)⟩⟩
  · rintro n ⟨μ, _⟩ hn ⟨rfl, i1, i2, i3⟩
    dsimp only at i1 i2 i3
    show ∃ s', f_X11_tries_b35 μ P.1 P.2.1 P.2.2 (n : Int) = some (.inl s') ∧ _
    have R : Rw σC μ := h.cM (fun k a b => i1 k (by omega)) (i2 0 (by decide)) (i2 1 (by decide)) (i2 2 (by decide))
    cases pn : pC σC n with
    | false =>
      rw [f_X11_tries_b35, jc_II (by omega) (by omega) (by omega) (by omega), if_pos (by omega), R.cnM hn, pn, bI_f, jbind_s, jc_I (by omega) (by omega), if_pos rfl, jlet_v, cast_s]
      refine ⟨_, rfl, rfl, i1, i2, ?_⟩
      rcases i3 with ⟨a, b⟩ | ⟨w, a1, a2, a3, a4, a5⟩
      · refine Or.inl ⟨a, fun w hw => ?_⟩
        by_cases e : w = n
        · rw [e]; exact pn
        · exact b w (by omega)
      · refine Or.inr ⟨w, by omega, a2, a3, a4, fun u hu hu2 pu => ?_⟩
        by_cases e : u = n
        · rw [e, pn] at pu; cases pu
        · exact a5 u (by omega) hu2 pu
    | true =>
      obtain ⟨-, a1, a2, -⟩ := R.M hn pn
      obtain ⟨-, -, v1, v2⟩ := h.rng hn
      obtain ⟨r1, r2⟩ := wsq_rng h ok hn
      have sq : f_X11_square (P.1 - P.2.2 * σC 3 n) (P.2.1 - P.2.2 * σC 4 n) = some (wsq σC P n) := by rw [f_X11_square, f_X11_square_b0]; rfl
      have hd : f_X11_tries_b35 μ P.1 P.2.1 P.2.2 (n : Int) = jchk (inL (μ 0 37) ∧ inL (-1)) (if μ 0 37 = (-1) then f_X11_tries_b106 μ P.1 P.2.1 P.2.2 (n : Int) (wsq σC P n) else jchk (inL (wsq σC P n) ∧ inL (μ 0 37)) (if wsq σC P n < μ 0 37 then f_X11_tries_b106 μ P.1 P.2.1 P.2.2 (n : Int) (wsq σC P n) else jlet ((n : Int) + 1) (fun x7_12 => some (.inl (μ, x7_12))))) := by
        rw [f_X11_tries_b35, jc_II (by omega) (by omega) (by omega) (by omega), if_pos (by omega), R.cnM hn, pn, bI_t, jbind_s, jc_I (by omega) (by omega), if_neg (by omega), jc_ix (by omega) (by omega), cast_n, a1, jc_I (by omega) (by omega), jc_ix (by omega) (by omega), a2, jc_I (by omega) (by omega), sq, jbind_s, jlet_v]
      rw [hd]
      have put : ((μ 0 37 = -1 ∧ ∀ w, w < n → pC σC w = false) ∨ ∃ w, w < n ∧ w < 24 ∧ pC σC w = true ∧ μ 0 37 = wsq σC P w ∧ wsq σC P n < wsq σC P w ∧ ∀ u, u < n → u < 24 → pC σC u = true → wsq σC P w ≤ wsq σC P u) → ∃ s', f_X11_tries_b106 μ P.1 P.2.1 P.2.2 (n : Int) (wsq σC P n) = some (.inl s') ∧ s'.2 = ((n + 1 : Nat) : Int) ∧ (∀ k, k ≠ 0 → s'.1 k = β k) ∧ (∀ j, j ≠ 37 → s'.1 0 j = β 0 j) ∧ ((s'.1 0 37 = -1 ∧ ∀ w, w < n + 1 → pC σC w = false) ∨ ∃ w, w < n + 1 ∧ w < 24 ∧ pC σC w = true ∧ s'.1 0 37 = wsq σC P w ∧ ∀ u, u < n + 1 → u < 24 → pC σC u = true → wsq σC P w ≤ wsq σC P u) := fun hs => by
        rw [f_X11_tries_b106, jlet_v, jlet_v, cast_s]
        refine ⟨_, rfl, rfl, fun k hk => by dsimp only; rw [up2_k hk, i1 k hk], fun j hj => by dsimp only; rw [up2_j hj, i2 j hj], Or.inr ⟨n, by omega, hn, pn, by dsimp only; rw [up2_same], fun u hu hu2 pu => ?_⟩⟩
        by_cases e : u = n
        · rw [e]; omega
        · rcases hs with ⟨-, b⟩ | ⟨w, b1, b2, b3, b4, b5, b6⟩
          · rw [b u (by omega)] at pu; cases pu
          · have := b6 u (by omega) hu2 pu
            omega
      rcases i3 with ⟨c1, c2⟩ | ⟨w, c1, c2, c3, c4, c5⟩
      · rw [c1, jc_LL (by omega) (by omega) (by omega) (by omega), if_pos rfl]
        exact put (Or.inl ⟨c1, c2⟩)
      · obtain ⟨r3, r4⟩ := wsq_rng h ok c2
        rw [c4, jc_LL (by omega) (by omega) (by omega) (by omega), if_neg (by omega), jc_LL (by omega) (by omega) (by omega) (by omega)]
        by_cases g : wsq σC P n < wsq σC P w
        · rw [if_pos g]
          exact put (Or.inr ⟨w, c1, c2, c3, c4, g, c5⟩)
        · rw [if_neg g, jlet_v, cast_s]
          refine ⟨_, rfl, rfl, i1, i2, Or.inr ⟨w, by omega, c2, c3, c4, fun u hu hu2 pu => ?_⟩⟩
          by_cases e : u = n
          · rw [e]; omega
          · exact c5 u (by omega) hu2 pu
  · rintro ⟨μ, _⟩ ⟨rfl, i1, i2, i3⟩
    dsimp only at i1 i2 i3
    refine ⟨μ, ?_, i1, i2, ?_⟩
    · show f_X11_tries_b35 μ P.1 P.2.1 P.2.2 ((24 : Nat) : Int) = _
      rw [f_X11_tries_b35, jc_II (by omega) (by omega) (by omega) (by omega), if_neg (by omega)]
    · rcases i3 with ⟨a, b⟩ | ⟨w, a1, a2, a3, a4, a5⟩
      · exact Or.inl b
      · exact Or.inr ⟨w, ⟨a2, a3, fun u hu pu => a5 u hu hu pu⟩, a4⟩
theorem tries_spec {σC τ : St} (h : Rw σC τ) {x y d : Int} (ok : okQ (x, y, d)) (hs : ∃ w, w < 24 ∧ pC σC w = true) {S : Pt → Prop} (hB : BM σC S τ) : ∃ υ, f_X11_tries τ x y d = some υ ∧ MT τ υ ∧ BM σC (fun X => S X ∨ X = (x, y, d)) υ := by
  obtain ⟨β, eβ⟩ : ∃ β, β = up2 (up2 (up2 (up2 (up2 τ 0 34 x) 0 35 y) 0 36 d) 0 37 (-1)) 0 38 (d * d) := ⟨_, rfl⟩
  have bk : ∀ k, k ≠ 0 → β k = τ k := fun k hk => by rw [eβ, up2_k hk, up2_k hk, up2_k hk, up2_k hk, up2_k hk]
  have bj : ∀ j, j < 34 ∨ 38 < j → β 0 j = τ 0 j := fun j hj => by rw [eβ, up2_j (by omega), up2_j (by omega), up2_j (by omega), up2_j (by omega), up2_j (by omega)]
  have R : Rw σC β := h.cM (fun k a b => bk k (by omega)) (bj 0 (by decide)) (bj 1 (by decide)) (bj 2 (by decide))
  obtain ⟨μ, l1, l2, l3, l4⟩ := tries_loop (β := β) (P := (x, y, d)) R ok (by rw [eβ, up2_j (by decide), up2_same]) 1000 (by omega)
  have va : vl σC (x, y, d) (μ 0 37) := by
    rcases l4 with z | z
    · obtain ⟨w, w1, w2⟩ := hs
      rw [z w w1] at w2
      cases w2
    · exact z
  have em : mpt μ = (x, y, d) := by
    unfold mpt
    rw [l3 34 (by decide), l3 35 (by decide), l3 36 (by decide), eβ]
    simp (disch := decide) only [up2_j, up2_same]
  obtain ⟨υ, u1, u2, u3, u4⟩ := better_spec (τ := μ) h (by rw [em]; exact ok) (by rw [em]; exact va) (by rw [em, l3 38 (by decide), eβ, up2_same]) (hB.mv (fun j a b => by rw [l3 j (by omega), bj j (by omega)]))
  rw [em] at u4
  refine ⟨υ, ?_, ⟨fun k hk => by rw [u2 k hk, l2 k hk, bk k hk], fun j hj => by rw [u3 j (by omega), l3 j (by omega), bj j (by omega)]⟩, u4⟩
  dsimp only at l1
  rw [f_X11_tries, f_X11_tries_b0, jlet_v, jlet_v, jlet_v, jlet_v, jlet_v, jlet_v, ← eβ, l1, jbind_s, u1, jbind_s]
