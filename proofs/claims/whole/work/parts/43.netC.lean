/-! ===== the pure side 23: the component's net ===== -/
theorem fillL_loop {σ : St} {k n : Nat} {v : Int} (hn : n ≤ 900) (fuel : Nat) (hf : n < fuel) : jloop (fun (q : (St × Int)) => match q with | (σ, x3) => f_J7_fill_d0a16_b6 σ k n v x3 n) fuel (σ, 0) = some (upr σ k (flt (σ k) v n)) := by
  refine jloop_for0 (g := fun a => (upr σ k (flt (σ k) v a), (a : Int))) (N := n) (e := _) ?_ hf (fun a ha => ?_) ?_
  · have : flt (σ k) v 0 = σ k := by
      funext j
      simp [flt]
    rw [this, upr_self]; rfl
  · show f_J7_fill_d0a16_b6 (upr σ k (flt (σ k) v a)) k n v (a : Int) (n : Int) = _
    rw [f_J7_fill_d0a16_b6, jc_II (by omega) (by omega) (by omega) (by omega), if_pos (by omega), jc_ix (by omega) (by omega), jlet_v, jlet_v, cast_n, cast_s]
    unfold up2
    rw [upr_same, flt_step, upr_upr]
  · show f_J7_fill_d0a16_b6 (upr σ k (flt (σ k) v n)) k n v (n : Int) (n : Int) = _
    rw [f_J7_fill_d0a16_b6, jc_II (by omega) (by omega) (by omega) (by omega), if_neg (by omega)]
theorem fillL_spec {σ : St} {k n : Nat} {v : Int} (hn : n ≤ 900) : f_J7_fill_d0a16 σ k n v = some (upr σ k (flt (σ k) v n)) := by
  rw [f_J7_fill_d0a16, f_J7_fill_d0a16_b0, jlet_v, jlet_v, fillL_loop hn 1000 (by omega), jbind_s]
theorem add_loop {τ : St} {m : Nat} {x : Int} (hm : m < 23) (hx : 0 ≤ x ∧ x < 4000000000) (hr : ∀ i, i < m → 0 ≤ τ 63 i ∧ τ 63 i < 4000000000) (ha : asc (τ 63) m) (hne : ∀ i, i < m → τ 63 i ≠ x) (fuel : Nat) (hf : 24 < fuel) : ∃ e, jloop (fun (q : (St × Int × Int)) => match q with | (σ, x3, x4) => f_X3_addInOrder_b23 σ x x3 x4) fuel (τ, (m : Int), (m : Int) - 1) = some e ∧ ∃ a, a ≤ m ∧ e.2 = (a : Int) ∧ (∀ k, k ≠ 63 → e.1 k = τ k) ∧ (∀ j, j < a → e.1 63 j = τ 63 j) ∧ (∀ j, a < j → j ≤ m → e.1 63 j = τ 63 (j - 1)) ∧ (∀ j, a ≤ j → j < m → x < τ 63 j) ∧ ∀ j, j < a → τ 63 j < x := by
  refine jloop_or (I := fun i s => s.2.1 = ((m - i : Nat) : Int) ∧ s.2.2 = ((m - i : Nat) : Int) - 1 ∧ (∀ k, k ≠ 63 → s.1 k = τ k) ∧ (∀ j, j < m - i → s.1 63 j = τ 63 j) ∧ (∀ j, m - i < j → j ≤ m → s.1 63 j = τ 63 (j - 1)) ∧ ∀ j, m - i ≤ j → j < m → x < τ 63 j) (N := m) (J := _) ?_ ?_ m 0 fuel _ (by omega) (by omega) ⟨rfl, rfl, fun _ _ => rfl, fun _ _ => rfl, fun j h1 h2 => absurd h2 (by omega), fun j h1 h2 => absurd h2 (by omega)⟩
  · rintro i ⟨μ, _, _⟩ hi ⟨rfl, rfl, i1, i2, i3, i4⟩
    dsimp only at i1 i2 i3 i4
    show (∃ s', f_X3_addInOrder_b23 μ x ((m - i : Nat) : Int) (((m - i : Nat) : Int) - 1) = some (.inl s') ∧ _) ∨ ∃ e, f_X3_addInOrder_b23 μ x ((m - i : Nat) : Int) (((m - i : Nat) : Int) - 1) = some (.inr e) ∧ _
    have e1 : ((m - i : Nat) : Int) - 1 = ((m - (i + 1) : Nat) : Int) := by omega
    have e2 : ((m - (i + 1) : Nat) : Int) + 1 = ((m - i : Nat) : Int) := by omega
    have e3 : ((m - (i + 1) : Nat) : Int) + (-1) = ((m - (i + 1) : Nat) : Int) - 1 := by omega
    have fx := i2 (m - (i + 1)) (by omega)
    have fr := hr (m - (i + 1)) (by omega)
    rw [e1, f_X3_addInOrder_b23, jc_I (by omega) (by omega), if_neg (by omega), jc_ix (by omega) (by omega), cast_n, fx, jc_LL (by omega) (by omega) (by omega) (by omega)]
    by_cases c : x < τ 63 (m - (i + 1))
    · left
      rw [if_pos c, jc_ix (by omega) (by omega), e2, jc_ix (by omega) (by omega), jlet_v, jlet_v, jlet_v, cast_n, e3]
      refine ⟨_, rfl, rfl, rfl, fun k hk => ?_, fun j hj => ?_, fun j h1 h2 => ?_, fun j h1 h2 => ?_⟩
      · dsimp only
        rw [up2_k hk, i1 k hk]
      · dsimp only
        rw [up2_j (by omega)]
        exact i2 j (by omega)
      · dsimp only
        by_cases e : j = m - i
        · rw [e, up2_same, show m - i - 1 = m - (i + 1) by omega]
        · rw [up2_j e]
          exact i3 j (by omega) h2
      · by_cases e : j = m - (i + 1)
        · rw [e]; exact c
        · exact i4 j (by omega) h2
    · right
      rw [if_neg c]
      refine ⟨_, rfl, m - i, by omega, rfl, i1, i2, i3, i4, fun j hj => ?_⟩
      have := hne (m - (i + 1)) (by omega)
      by_cases e : j = m - (i + 1)
      · rw [e]; omega
      · have := ha j (m - (i + 1)) (by omega) (by omega)
        omega
  · rintro ⟨μ, _, _⟩ ⟨rfl, rfl, i1, i2, i3, i4⟩
    refine ⟨(μ, ((m - m : Nat) : Int)), ?_, m - m, by omega, rfl, i1, i2, i3, i4, fun j hj => absurd hj (by omega)⟩
    show f_X3_addInOrder_b23 μ x ((m - m : Nat) : Int) (((m - m : Nat) : Int) - 1) = _
    rw [f_X3_addInOrder_b23, jc_I (by omega) (by omega), if_pos (by omega)]
theorem add_spec {τ : St} {m : Nat} {x : Int} (hm : m < 23) (h2 : τ 62 2 = (m : Int)) (hx : 0 ≤ x ∧ x < 4000000000) (hr : ∀ i, i < m → 0 ≤ τ 63 i ∧ τ 63 i < 4000000000) (ha : asc (τ 63) m) (hne : ∀ i, i < m → τ 63 i ≠ x) : ∃ υ, f_X3_addInOrder τ x = some υ ∧ (∀ k, k ≠ 62 → k ≠ 63 → υ k = τ k) ∧ (∀ j, j ≠ 2 → υ 62 j = τ 62 j) ∧ υ 62 2 = ((m + 1 : Nat) : Int) ∧ asc (υ 63) (m + 1) ∧ (∀ y, (∃ i, i < m + 1 ∧ υ 63 i = y) ↔ ((∃ i, i < m ∧ τ 63 i = y) ∨ y = x)) := by
  obtain ⟨⟨μ, _⟩, e0, a, a1, rfl, a2, a3, a4, a5, a6⟩ := add_loop hm hx hr ha hne 1000 (by omega)
  dsimp only at a2 a3 a4
  have v : ∀ j, up2 (up2 μ 63 a x) 62 2 ((m : Int) + 1) 63 j = if j = a then x else μ 63 j := by
    intro j
    rw [up2_k (k' := 63) (by decide)]
    by_cases c : j = a
    · rw [c, up2_same, if_pos rfl]
    · rw [up2_j c, if_neg c]
  refine ⟨up2 (up2 μ 63 a x) 62 2 ((m : Int) + 1), ?_, fun k k1 k2 => ?_, fun j hj => ?_, ?_, ?_, ?_⟩
  · rw [f_X3_addInOrder, f_X3_addInOrder_b0, h2, jc_II (by omega) (by omega) (by omega) (by omega), if_pos (by omega), jlet_v, jlet_v, e0, jbind_s]
    dsimp only
    rw [jc_ix (by omega) (by omega), jlet_v, jlet_v, cast_n, up2_k (k' := 62) (by decide), a2 62 (by decide), h2]
  · rw [up2_k k1, up2_k k2, a2 k k2]
  · rw [up2_j hj, up2_k (k' := 62) (by decide), a2 62 (by decide)]
  · rw [up2_same]; omega
  · intro i j hij hj
    rw [v, v]
    by_cases c1 : i = a
    · rw [if_pos c1, if_neg (by omega), a4 j (by omega) (by omega)]
      exact a5 (j - 1) (by omega) (by omega)
    · rw [if_neg c1]
      by_cases c2 : j = a
      · rw [if_pos c2, a3 i (by omega)]
        exact a6 i (by omega)
      · rw [if_neg c2]
        by_cases c3 : j < a
        · rw [a3 i (by omega), a3 j c3]
          exact ha i j hij (by omega)
        · rw [a4 j (by omega) (by omega)]
          by_cases c4 : i < a
          · rw [a3 i c4]
            have := a6 i c4
            have := a5 (j - 1) (by omega) (by omega)
            omega
          · rw [a4 i (by omega) (by omega)]
            exact ha (i - 1) (j - 1) (by omega) (by omega)
  · intro y
    constructor
    · rintro ⟨i, hi, e⟩
      rw [v] at e
      by_cases c1 : i = a
      · rw [if_pos c1] at e
        exact Or.inr e.symm
      · rw [if_neg c1] at e
        by_cases c2 : i < a
        · rw [a3 i c2] at e
          exact Or.inl ⟨i, by omega, e⟩
        · rw [a4 i (by omega) (by omega)] at e
          exact Or.inl ⟨i - 1, by omega, e⟩
    · rintro (⟨i, hi, e⟩ | e)
      · by_cases c2 : i < a
        · exact ⟨i, by omega, by rw [v, if_neg (by omega), a3 i c2]; exact e⟩
        · exact ⟨i + 1, by omega, by rw [v, if_neg (by omega), a4 (i + 1) (by omega) (by omega)]; exact e⟩
      · exact ⟨a, by omega, by rw [v, if_pos rfl]; exact e.symm⟩
theorem key_cC {σ τ : St} (hC : ∀ k, k < 7 → τ k = σ k) : key τ = key σ := by
  funext u v
  unfold key
  rw [sqd_cC hC]
def upN (k g : Int) : Int := if g = -1 then -1 else if k < g then k else g
theorem reach_spec {σC σM τ : St} (h : Rw σC σM) (hC : ∀ k, k < 7 → τ k = σC k) (hG : ∀ w, w < 24 → pC σC w = true → -1 ≤ τ 64 (ct (pC σC) w) ∧ τ 64 (ct (pC σC) w) ≤ 1152921504606846976) {k : Nat} (hk : k < 24) (pk : pC σC k = true) (fuel : Nat) (hf : 24 < fuel) : ∃ υ, jloop (fun (q : (St × Int)) => match q with | (σ, x2) => f_X3_reachFrom_b2 σ ((ct (pC σC) k : Nat) : Int) x2) fuel (τ, 0) = some υ ∧ (∀ k, k ≠ 64 → υ k = τ k) ∧ ∀ w, w < 24 → pC σC w = true → υ 64 (ct (pC σC) w) = upN (key σC k w) (τ 64 (ct (pC σC) w)) := by
  have hm := h.many
  obtain ⟨v1, v2⟩ := h.ct24 hk pk
  have key0 : ∃ υ, jloop (fun (q : (St × Int)) => match q with | (σ, x2) => f_X3_reachFrom_b2 σ ((ct (pC σC) k : Nat) : Int) x2) fuel (τ, 0) = some υ ∧ (∀ k, k ≠ 64 → υ k = τ k) ∧ ∀ w, w < 24 → pC σC w = true → υ 64 (ct (pC σC) w) = if w < 24 then upN (key σC k w) (τ 64 (ct (pC σC) w)) else τ 64 (ct (pC σC) w) := by
    refine loopC (pC σC) (I := fun n s => s.2 = ((ct (pC σC) n : Nat) : Int) ∧ (∀ k, k ≠ 64 → s.1 k = τ k) ∧ ∀ w, w < 24 → pC σC w = true → s.1 64 (ct (pC σC) w) = if w < n then upN (key σC k w) (τ 64 (ct (pC σC) w)) else τ 64 (ct (pC σC) w)) (J := _) ?_ ?_ ?_ 24 0 fuel _ (by omega) (by omega) ⟨rfl, fun _ _ => rfl, fun w _ _ => by rw [if_neg (by omega)]⟩
    · rintro n ⟨μ, _⟩ hn hp ⟨rfl, i1, i2⟩
      left
      dsimp only at i1 i2
      have iC : ∀ k, k < 7 → μ k = σC k := fun k hk => by rw [i1 k (by omega), hC k hk]
      obtain ⟨c1, c2⟩ := h.ct24 hn hp
      have g0 := i2 n hn hp
      rw [if_neg (by omega)] at g0
      have gr := hG n hn hp
      have d1 := h.keyr hk hn
      have rest : ∀ w, w < 24 → w ≠ n → pC σC w = true → μ 64 (ct (pC σC) w) = if w < n + 1 then upN (key σC k w) (τ 64 (ct (pC σC) w)) else τ 64 (ct (pC σC) w) := by
        intro w hw e pw
        rw [i2 w hw pw]
        by_cases e2 : w < n
        · rw [if_pos e2, if_pos (by omega)]
        · rw [if_neg e2, if_neg (by omega)]
      by_cases c : τ 64 (ct (pC σC) n) = -1
      · refine ⟨(μ, ((ct (pC σC) (n + 1) : Nat) : Int)), ?_, rfl, i1, fun w hw pw => ?_⟩
        · show f_X3_reachFrom_b2 μ ((ct (pC σC) k : Nat) : Int) ((ct (pC σC) n : Nat) : Int) = _
          rw [f_X3_reachFrom_b2, iC 1 (by decide), hm, jc_II (by omega) (by omega) (by omega) (by omega), if_pos (by omega), jc_ix (by omega) (by omega), cast_n, g0, jc_LL (by omega) (by omega) (by omega) (by omega), if_pos c, jlet_v, ct_t hp, cast_s]
        · dsimp only
          by_cases e : w = n
          · rw [e, g0, if_pos (by omega), upN, if_pos c, c]
          · exact rest w hw e pw
      · refine ⟨(up2 μ 64 (ct (pC σC) n) (upN (key σC k n) (τ 64 (ct (pC σC) n))), ((ct (pC σC) (n + 1) : Nat) : Int)), ?_, rfl, fun k' hk' => ?_, fun w hw pw => ?_⟩
        · show f_X3_reachFrom_b2 μ ((ct (pC σC) k : Nat) : Int) ((ct (pC σC) n : Nat) : Int) = _
          have ps := pipe_spec (h.cC iC) hk hn
          rw [key_cC iC] at ps
          rw [f_X3_reachFrom_b2, iC 1 (by decide), hm, jc_II (by omega) (by omega) (by omega) (by omega), if_pos (by omega), jc_ix (by omega) (by omega), cast_n, g0, jc_LL (by omega) (by omega) (by omega) (by omega), if_neg c, jc_ix (by omega) (by omega), jc_ix (by omega) (by omega), jc_ix (by omega) (by omega), cast_n, iC 2 (by decide), h.kth hk pk, h.kth hn hp, ps, jbind_s, jc_LL (by omega) (by omega) (by omega) (by omega), jc_ix (by omega) (by omega), jlet_v, jlet_v, ct_t hp, cast_s, upN, if_neg c]
        · dsimp only
          rw [up2_k hk', i1 k' hk']
        · dsimp only
          by_cases e : w = n
          · rw [e, up2_same, if_pos (by omega)]
          · rw [up2_j (fun z => e (ct_inj pw hp z))]
            exact rest w hw e pw
    · rintro n ⟨μ, _⟩ hn hp ⟨rfl, i1, i2⟩
      refine ⟨by dsimp only; rw [ct_f hp], i1, fun w hw pw => ?_⟩
      have := i2 w hw pw
      dsimp only at this ⊢
      rw [this]
      by_cases e : w = n
      · rw [e, hp] at pw; cases pw
      · by_cases e2 : w < n
        · rw [if_pos e2, if_pos (by omega)]
        · rw [if_neg e2, if_neg (by omega)]
    · rintro ⟨μ, _⟩ ⟨rfl, i1, i2⟩
      refine ⟨μ, ?_, i1, i2⟩
      have := ct_le (pC σC) 24
      show f_X3_reachFrom_b2 μ ((ct (pC σC) k : Nat) : Int) ((ct (pC σC) 24 : Nat) : Int) = _
      dsimp only at i1
      rw [f_X3_reachFrom_b2, i1 1 (by decide), hC 1 (by decide), hm, jc_II (by omega) (by omega) (by omega) (by omega), if_neg (by omega)]
  obtain ⟨υ, e0, e1, e2⟩ := key0
  refine ⟨υ, e0, e1, fun w hw pw => ?_⟩
  rw [e2 w hw pw, if_pos hw]
theorem leastReach_spec {σC σM τ : St} (h : Rw σC σM) (hC : ∀ k, k < 7 → τ k = σC k) (hG : ∀ w, w < 24 → pC σC w = true → -1 ≤ τ 64 (ct (pC σC) w) ∧ τ 64 (ct (pC σC) w) ≤ 1152921504606846976) (h0 : 0 < ct (pC σC) 24) (hex : ∃ w, w < 24 ∧ pC σC w = true ∧ τ 64 (ct (pC σC) w) ≠ -1) : ∃ k, k < 24 ∧ pC σC k = true ∧ τ 64 (ct (pC σC) k) ≠ -1 ∧ (∀ w, w < 24 → pC σC w = true → τ 64 (ct (pC σC) w) ≠ -1 → τ 64 (ct (pC σC) k) ≤ τ 64 (ct (pC σC) w)) ∧ f_X3_leastReach τ = some ((ct (pC σC) k : Nat) : Int) := by
  have hm := h.many
  have h24 := ct_le (pC σC) 24
  obtain ⟨k, k1, k2, k3, k4, k5⟩ := least_loop (p := pC σC) (G := fun w => τ 64 (ct (pC σC) w)) (body := fun (q : (Int × Int)) => match q with | (x1, x2) => f_X3_leastReach_b4 τ x1 x2) h0 (fun v w hv hw pv pw => by
    show f_X3_leastReach_b4 τ ((ct (pC σC) v : Nat) : Int) ((ct (pC σC) w : Nat) : Int) = _
    obtain ⟨a1, a2⟩ := h.ct24 (show v < 24 by omega) pv
    obtain ⟨b1, b2⟩ := h.ct24 hw pw
    have g1 := hG v (by omega) pv
    have g2 := hG w hw pw
    rw [f_X3_leastReach_b4, hC 1 (by decide), hm, jc_II (by omega) (by omega) (by omega) (by omega), if_pos (by omega), jc_ix (by omega) (by omega), cast_n, cast_n, jc_LL (by omega) (by omega) (by omega) (by omega)]
    by_cases c1 : τ 64 (ct (pC σC) w) = -1
    · rw [if_pos c1, jlet_v, if_pos c1, cast_s]
    · rw [if_neg c1, jc_ix (by omega) (by omega), jc_LL (by omega) (by omega) (by omega) (by omega), if_neg c1]
      by_cases c2 : τ 64 (ct (pC σC) v) = -1
      · rw [if_pos c2, jlet_v, jlet_v, if_pos c2, cast_s]
      · rw [if_neg c2, jc_ix (by omega) (by omega), jc_ix (by omega) (by omega), jc_LL (by omega) (by omega) (by omega) (by omega), if_neg c2]
        by_cases c3 : τ 64 (ct (pC σC) w) < τ 64 (ct (pC σC) v)
        · rw [if_pos c3, jlet_v, jlet_v, if_pos c3, cast_s]
        · rw [if_neg c3, jlet_v, if_neg c3, cast_s]) (fun v hv pv => by
    show f_X3_leastReach_b4 τ ((ct (pC σC) v : Nat) : Int) ((ct (pC σC) 24 : Nat) : Int) = _
    rw [f_X3_leastReach_b4, hC 1 (by decide), hm, jc_II (by omega) (by omega) (by omega) (by omega), if_neg (by omega)]) hex 1000 (by omega)
  refine ⟨k, k1, k2, k3, k4, ?_⟩
  rw [f_X3_leastReach, f_X3_leastReach_b0, jlet_v, jlet_v, k5, jbind_s]
