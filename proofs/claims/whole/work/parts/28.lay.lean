/-! ===== the pure side 8: lay ===== -/
theorem ct_add {p q : Nat → Bool} {m : Nat} (hp : p m = false) (hq : q m = true) (h : ∀ k, k ≠ m → q k = p k) : ∀ n, m < n → ct q n = ct p n + 1
  | 0, hn => absurd hn (Nat.not_lt_zero m)
  | n + 1, hn => by
    by_cases e : n = m
    · subst e
      rw [ct_t hq, ct_f hp, ct_cong (fun k hk => h k (by omega))]
    · have ih := ct_add hp hq h n (by omega)
      cases c : p n with
      | true => rw [ct_t c, ct_t (by rw [h n e]; exact c), ih]
      | false => rw [ct_f c, ct_f (by rw [h n e]; exact c), ih]
theorem ct_all {p : Nat → Bool} : ∀ n, (∀ k, k < n → p k = true) → ct p n = n
  | 0, _ => rfl
  | n + 1, h => by rw [ct_t (h n (by omega)), ct_all n (fun k hk => h k (by omega))]
theorem ct_hole {p : Nat → Bool} {m : Nat} (hp : p m = false) : ∀ n, m < n → ct p n < n
  | 0, hn => absurd hn (Nat.not_lt_zero m)
  | n + 1, hn => by
    by_cases e : n = m
    · subst e
      rw [ct_f hp]
      have := ct_le p n
      omega
    · have ih := ct_hole hp n (by omega)
      cases c : p n with
      | true => rw [ct_t c]; omega
      | false => rw [ct_f c]; omega
/-- line j of sheet s is at this place -/
def atL (σ : St) (s j : Nat) (x y : Int) : Prop := σ 16 (s * 8 + j) = x ∧ σ 17 (s * 8 + j) = y
theorem before_both {σC : St} {s a : Nat} (hs : s < 8) (ha : a < 8) (hr : ∀ j, j < 64 → inI (σC 16 j) ∧ inI (σC 17 j)) (fuel : Nat) (hf : 8 < fuel) : ((∃ j, j < a ∧ atL σC s j (σC 16 (s * 8 + a)) (σC 17 (s * 8 + a))) ∧ jloop (fun (x4 : Int) => f_X7_isTakenBefore_b13 σC ((s * 8 + a : Nat) : Int) x4) fuel ((s * 8 : Nat) : Int) = some (.inl ())) ∨ ((∀ j, j < a → ¬ atL σC s j (σC 16 (s * 8 + a)) (σC 17 (s * 8 + a))) ∧ jloop (fun (x4 : Int) => f_X7_isTakenBefore_b13 σC ((s * 8 + a : Nat) : Int) x4) fuel ((s * 8 : Nat) : Int) = some (.inr ())) := by
  obtain ⟨⟨a1, a2⟩, a3, a4⟩ := hr (s * 8 + a) (by omega)
  have go : ∀ j, j < a → ¬ atL σC s j (σC 16 (s * 8 + a)) (σC 17 (s * 8 + a)) → f_X7_isTakenBefore_b13 σC ((s * 8 + a : Nat) : Int) ((s * 8 + j : Nat) : Int) = some (.inl ((s * 8 + (j + 1) : Nat) : Int)) := by
    intro j hj hn
    unfold atL at hn
    obtain ⟨⟨b1, b2⟩, b3, b4⟩ := hr (s * 8 + j) (by omega)
    rw [f_X7_isTakenBefore_b13, jc_II (by omega) (by omega) (by omega) (by omega), if_pos (by omega), jc_ix (by omega) (by omega), jc_ix (by omega) (by omega), cast_n, cast_n, jc_II (by omega) (by omega) (by omega) (by omega)]
    by_cases c : σC 16 (s * 8 + j) = σC 16 (s * 8 + a)
    · rw [if_pos c, jc_ix (by omega) (by omega), jc_ix (by omega) (by omega), jc_II (by omega) (by omega) (by omega) (by omega), if_neg (fun z => hn ⟨c, z⟩), jlet_v, cast_s]
      rfl
    · rw [if_neg c, jlet_v, cast_s]
      rfl
  rcases first_or (fun j => atL σC s j (σC 16 (s * 8 + a)) (σC 17 (s * 8 + a))) a with q | ⟨m, hm, q1, q2⟩
  · refine Or.inr ⟨q, ?_⟩
    refine jloop_for0 (g := fun b => ((s * 8 + b : Nat) : Int)) (N := a) (e := _) rfl (by omega) (fun b hb => go b hb (q b hb)) ?_
    show f_X7_isTakenBefore_b13 σC ((s * 8 + a : Nat) : Int) ((s * 8 + a : Nat) : Int) = _
    rw [f_X7_isTakenBefore_b13, jc_II (by omega) (by omega) (by omega) (by omega), if_neg (by omega)]
  · refine Or.inl ⟨⟨m, hm, q1⟩, ?_⟩
    refine jloop_for0 (g := fun b => ((s * 8 + b : Nat) : Int)) (N := m) (e := _) rfl (by omega) (fun b hb => go b (by omega) (q2 b hb)) ?_
    show f_X7_isTakenBefore_b13 σC ((s * 8 + a : Nat) : Int) ((s * 8 + m : Nat) : Int) = _
    obtain ⟨⟨b1, b2⟩, b3, b4⟩ := hr (s * 8 + m) (by omega)
    rw [f_X7_isTakenBefore_b13, jc_II (by omega) (by omega) (by omega) (by omega), if_pos (by omega), jc_ix (by omega) (by omega), jc_ix (by omega) (by omega), cast_n, cast_n, jc_II (by omega) (by omega) (by omega) (by omega), if_pos q1.1, jc_ix (by omega) (by omega), jc_ix (by omega) (by omega), jc_II (by omega) (by omega) (by omega) (by omega), if_pos q1.2]
/-- i lines of sheet s are sunk in the model: M, at the places m; c is the component's map then -/
def LayI (σC σM : St) (s i : Nat) (M : St) : Prop := ∃ (c : St) (m : Nat → Nat), Rm c M ∧ c 1 = σC 1 ∧ (∀ w, w < 24 → (c 5 w = -1 ↔ σC 5 w = -1 ∧ ∀ j, j < i → m j ≠ w)) ∧ (∀ x y, (∃ w, w < 24 ∧ takenW c x y w) ↔ (∃ w, w < 24 ∧ takenW σC x y w) ∨ ∃ j, j < i ∧ atL σC s j x y) ∧ ct (hC_ c) 24 = ct (hC_ σC) 24 + i ∧ (∀ k, k = 0 ∨ (5 < k ∧ k ≠ 33) → M k = σM k) ∧ (∀ k w, (∀ j, j < i → m j ≠ w) → k < 6 → M k w = σM k w) ∧ ∀ j, j < i → m j < 24 ∧ M 33 j = (m j : Int) ∧ σC 5 (m j) = -1 ∧ (∀ a, a < j → m a ≠ m j) ∧ (∀ w, w < m j → σC 5 w ≠ -1 ∨ ∃ a, a < j ∧ m a = w) ∧ (M 1 (m j) = 1 ∧ M 2 (m j) = σC 16 (s * 8 + j) ∧ M 3 (m j) = σC 17 (s * 8 + j) ∧ M 4 (m j) = σC 18 (s * 8 + j) ∧ M 5 (m j) = σC 19 (s * 8 + j)) ∧ (okK (σC 18 (s * 8 + j)) (σC 19 (s * 8 + j)) ∧ 0 ≤ σC 16 (s * 8 + j) ∧ σC 16 (s * 8 + j) ≤ σC 1 0 ∧ 0 ≤ σC 17 (s * 8 + j) ∧ σC 17 (s * 8 + j) ≤ σC 1 1) ∧ (∀ w, w < 24 → ¬ takenW σC (σC 16 (s * 8 + j)) (σC 17 (s * 8 + j)) w) ∧ ∀ a, a < j → ¬ atL σC s a (σC 16 (s * 8 + j)) (σC 17 (s * 8 + j))
