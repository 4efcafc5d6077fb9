/-! ===== the pure side 15: keep, the component's ways ===== -/
def upG (d r g : Int) : Int := if g = -1 then -1 else if (if d < r then r else d) < g then (if d < r then r else d) else g
theorem ct_add2 {p q : Nat → Bool} {m : Nat} (hp : p m = false) (hq : q m = true) : ∀ n, (∀ k, k < n → k ≠ m → q k = p k) → m < n → ct q n = ct p n + 1
  | 0, _, hn => absurd hn (Nat.not_lt_zero m)
  | n + 1, h, hn => by
    by_cases e : n = m
    · subst e
      rw [ct_t hq, ct_f hp, ct_cong (fun k hk => h k (by omega) (by omega))]
    · have ih := ct_add2 hp hq n (fun k hk => h k (by omega)) (by omega)
      cases c : p n with
      | true => rw [ct_t c, ct_t (by rw [h n (by omega) e]; exact c), ih]
      | false => rw [ct_f c, ct_f (by rw [h n (by omega) e]; exact c), ih]
theorem chain_spec {σC σM τ : St} (h : Rw σC σM) (hC : ∀ k, k ≠ 68 → τ k = σC k) (hG : ∀ w, w < 24 → pC σC w = true → -1 ≤ τ 68 (ct (pC σC) w) ∧ τ 68 (ct (pC σC) w) ≤ 4000000) {r : Int} (hr : 0 ≤ r ∧ r ≤ 4000000) {k : Nat} (hk : k < 24) (pk : pC σC k = true) (fuel : Nat) (hf : 24 < fuel) : ∃ υ, jloop (fun (q : (St × Int)) => match q with | (σ, x4) => f_X8_chainFrom_b3 σ ((ct (pC σC) k : Nat) : Int) r x4) fuel (τ, 0) = some υ ∧ (∀ k, k ≠ 68 → υ k = σC k) ∧ ∀ w, w < 24 → pC σC w = true → υ 68 (ct (pC σC) w) = upG (sqd σC k w) r (τ 68 (ct (pC σC) w)) := by
  have hm := h.many
  obtain ⟨v1, v2⟩ := h.ct24 hk pk
  have key : ∃ υ, jloop (fun (q : (St × Int)) => match q with | (σ, x4) => f_X8_chainFrom_b3 σ ((ct (pC σC) k : Nat) : Int) r x4) fuel (τ, 0) = some υ ∧ (∀ k, k ≠ 68 → υ k = σC k) ∧ ∀ w, w < 24 → pC σC w = true → υ 68 (ct (pC σC) w) = if w < 24 then upG (sqd σC k w) r (τ 68 (ct (pC σC) w)) else τ 68 (ct (pC σC) w) := by
    refine loopC (pC σC) (I := fun n s => s.2 = ((ct (pC σC) n : Nat) : Int) ∧ (∀ k, k ≠ 68 → s.1 k = σC k) ∧ ∀ w, w < 24 → pC σC w = true → s.1 68 (ct (pC σC) w) = if w < n then upG (sqd σC k w) r (τ 68 (ct (pC σC) w)) else τ 68 (ct (pC σC) w)) (J := _) ?_ ?_ ?_ 24 0 fuel _ (by omega) (by omega) ⟨rfl, hC, fun w _ _ => by rw [if_neg (by omega)]⟩
    · rintro n ⟨μ, _⟩ hn hp ⟨rfl, i1, i2⟩
      left
      dsimp only at i1 i2
      obtain ⟨c1, c2⟩ := h.ct24 hn hp
      have g0 := i2 n hn hp
      rw [if_neg (by omega)] at g0
      have gr := hG n hn hp
      have d1 := h.sq2 hk hn
      have nx : ∀ (x : Int) (w : Nat), w < 24 → pC σC w = true → x = upG (sqd σC k n) r (τ 68 (ct (pC σC) n)) → up2 μ 68 (ct (pC σC) n) x 68 (ct (pC σC) w) = if w < n + 1 then upG (sqd σC k w) r (τ 68 (ct (pC σC) w)) else τ 68 (ct (pC σC) w) := by
        intro x w hw pw hx
        by_cases e : w = n
        · rw [e, up2_same, if_pos (by omega), hx]
        · rw [up2_j (fun z => e (ct_inj pw hp z)), i2 w hw pw]
          by_cases e2 : w < n
          · rw [if_pos e2, if_pos (by omega)]
          · rw [if_neg e2, if_neg (by omega)]
      by_cases c : τ 68 (ct (pC σC) n) = -1
      · refine ⟨(μ, ((ct (pC σC) (n + 1) : Nat) : Int)), ?_, rfl, i1, fun w hw pw => ?_⟩
        · show f_X8_chainFrom_b3 μ ((ct (pC σC) k : Nat) : Int) r ((ct (pC σC) n : Nat) : Int) = _
          rw [f_X8_chainFrom_b3, i1 1 (by decide), hm, jc_II (by omega) (by omega) (by omega) (by omega), if_pos (by omega), jc_ix (by omega) (by omega), cast_n, g0, jc_LL (by omega) (by omega) (by omega) (by omega), if_pos c, jlet_v, ct_t hp, cast_s]
        · dsimp only
          by_cases e : w = n
          · rw [e, g0, if_pos (by omega), upG, if_pos c, c]
          · rw [i2 w hw pw]
            by_cases e2 : w < n
            · rw [if_pos e2, if_pos (by omega)]
            · rw [if_neg e2, if_neg (by omega)]
      · refine ⟨(up2 μ 68 (ct (pC σC) n) (upG (sqd σC k n) r (τ 68 (ct (pC σC) n))), ((ct (pC σC) (n + 1) : Nat) : Int)), ?_, rfl, fun k' hk' => ?_, fun w hw pw => ?_⟩
        · show f_X8_chainFrom_b3 μ ((ct (pC σC) k : Nat) : Int) r ((ct (pC σC) n : Nat) : Int) = _
          have sq : f_X9_square μ (k : Int) (n : Int) = some (sqd σC k n) := by
            rw [square_spec hk hn]
            unfold sqd
            rw [i1 3 (by decide), i1 4 (by decide)]
          have m1 : -2147483648 ≤ (if sqd σC k n < r then r else sqd σC k n) ∧ (if sqd σC k n < r then r else sqd σC k n) < 2147483648 := by
            split <;> omega
          rw [f_X8_chainFrom_b3, i1 1 (by decide), hm, jc_II (by omega) (by omega) (by omega) (by omega), if_pos (by omega), jc_ix (by omega) (by omega), cast_n, g0, jc_LL (by omega) (by omega) (by omega) (by omega), if_neg c, jc_ix (by omega) (by omega), jc_ix (by omega) (by omega), cast_n, i1 2 (by decide), h.kth hk pk, h.kth hn hp, sq, jbind_s, jc_I (by omega) (by omega), jlet_v, jc_ix (by omega) (by omega), jc_LL (by omega) (by omega) (by omega) (by omega), jc_LL (by omega) (by omega) (by omega) (by omega), jc_ix (by omega) (by omega), jlet_v, jlet_v, ct_t hp, cast_s, upG, if_neg c]
        · dsimp only
          rw [up2_k hk', i1 k' hk']
        · exact nx _ w hw pw rfl
    · rintro n ⟨μ, _⟩ hn hp ⟨rfl, i1, i2⟩
      refine ⟨by dsimp only; rw [ct_f hp], i1, fun w hw pw => ?_⟩
      have := i2 w hw pw
      dsimp only at this ⊢
      rw [this]
      by_cases e : w = n
      · rw [e, hp] at pw; cases pw
      · by_cases e2 : w < n
        · rw [if_pos e2, if_pos (by omega)]
        · rw [if_neg e2, if_neg (by omega)]
    · rintro ⟨μ, _⟩ ⟨rfl, i1, i2⟩
      refine ⟨μ, ?_, i1, i2⟩
      have := ct_le (pC σC) 24
      show f_X8_chainFrom_b3 μ ((ct (pC σC) k : Nat) : Int) r ((ct (pC σC) 24 : Nat) : Int) = _
      dsimp only at i1
      rw [f_X8_chainFrom_b3, i1 1 (by decide), hm, jc_II (by omega) (by omega) (by omega) (by omega), if_neg (by omega)]
  obtain ⟨υ, e0, e1, e2⟩ := key
  refine ⟨υ, e0, e1, fun w hw pw => ?_⟩
  rw [e2 w hw pw, if_pos hw]
theorem leastGap_spec {σC σM τ : St} (h : Rw σC σM) (hC : ∀ k, k ≠ 68 → τ k = σC k) (hG : ∀ w, w < 24 → pC σC w = true → -1 ≤ τ 68 (ct (pC σC) w) ∧ τ 68 (ct (pC σC) w) ≤ 4000000) (h0 : 0 < ct (pC σC) 24) (hex : ∃ w, w < 24 ∧ pC σC w = true ∧ τ 68 (ct (pC σC) w) ≠ -1) : ∃ k, k < 24 ∧ pC σC k = true ∧ τ 68 (ct (pC σC) k) ≠ -1 ∧ (∀ w, w < 24 → pC σC w = true → τ 68 (ct (pC σC) w) ≠ -1 → τ 68 (ct (pC σC) k) ≤ τ 68 (ct (pC σC) w)) ∧ f_X8_leastGap τ = some ((ct (pC σC) k : Nat) : Int) := by
  have hm := h.many
  have h24 := ct_le (pC σC) 24
  obtain ⟨k, k1, k2, k3, k4, k5⟩ := least_loop (p := pC σC) (G := fun w => τ 68 (ct (pC σC) w)) (body := fun (q : (Int × Int)) => match q with | (x1, x2) => f_X8_leastGap_b4 τ x1 x2) h0 (fun v w hv hw pv pw => by
    show f_X8_leastGap_b4 τ ((ct (pC σC) v : Nat) : Int) ((ct (pC σC) w : Nat) : Int) = _
    obtain ⟨a1, a2⟩ := h.ct24 (show v < 24 by omega) pv
    obtain ⟨b1, b2⟩ := h.ct24 hw pw
    have g1 := hG v (by omega) pv
    have g2 := hG w hw pw
    rw [f_X8_leastGap_b4, hC 1 (by decide), hm, jc_II (by omega) (by omega) (by omega) (by omega), if_pos (by omega), jc_ix (by omega) (by omega), cast_n, cast_n, jc_LL (by omega) (by omega) (by omega) (by omega)]
    by_cases c1 : τ 68 (ct (pC σC) w) = -1
    · rw [if_pos c1, jlet_v, if_pos c1, cast_s]
    · rw [if_neg c1, jc_ix (by omega) (by omega), jc_LL (by omega) (by omega) (by omega) (by omega), if_neg c1]
      by_cases c2 : τ 68 (ct (pC σC) v) = -1
      · rw [if_pos c2, jlet_v, jlet_v, if_pos c2, cast_s]
      · rw [if_neg c2, jc_ix (by omega) (by omega), jc_ix (by omega) (by omega), jc_LL (by omega) (by omega) (by omega) (by omega), if_neg c2]
        by_cases c3 : τ 68 (ct (pC σC) w) < τ 68 (ct (pC σC) v)
        · rw [if_pos c3, jlet_v, jlet_v, if_pos c3, cast_s]
        · rw [if_neg c3, jlet_v, if_neg c3, cast_s]) (fun v hv pv => by
    show f_X8_leastGap_b4 τ ((ct (pC σC) v : Nat) : Int) ((ct (pC σC) 24 : Nat) : Int) = _
    rw [f_X8_leastGap_b4, hC 1 (by decide), hm, jc_II (by omega) (by omega) (by omega) (by omega), if_neg (by omega)]) hex 1000 (by omega)
  refine ⟨k, k1, k2, k3, k4, ?_⟩
  rw [f_X8_leastGap, f_X8_leastGap_b0, jlet_v, jlet_v, k5, jbind_s]
theorem ct_sub {p q : Nat → Bool} : ∀ n, (∀ k, k < n → q k = true → p k = true) → ct q n ≤ ct p n ∧ (ct q n < ct p n → ∃ k, k < n ∧ p k = true ∧ q k = false) ∧ (ct q n = ct p n → ∀ k, k < n → p k = true → q k = true)
  | 0, _ => ⟨Nat.le_refl _, fun z => absurd z (Nat.lt_irrefl _), fun _ k hk => absurd hk (Nat.not_lt_zero k)⟩
  | n + 1, h => by
    obtain ⟨h1, h2, h3⟩ := ct_sub n (fun k hk => h k (by omega))
    cases a : q n with
    | true =>
      have b := h n (by omega) a
      rw [ct_t a, ct_t b]
      refine ⟨by omega, fun z => ?_, fun z k hk pk => ?_⟩
      · obtain ⟨k, k1, k2⟩ := h2 (by omega)
        exact ⟨k, by omega, k2⟩
      · by_cases e : k = n
        · rw [e]; exact a
        · exact h3 (by omega) k (by omega) pk
    | false =>
      rw [ct_f a]
      cases b : p n with
      | true =>
        rw [ct_t b]
        exact ⟨by omega, fun _ => ⟨n, by omega, b, a⟩, fun z => by omega⟩
      | false =>
        rw [ct_f b]
        refine ⟨h1, fun z => ?_, fun z k hk pk => ?_⟩
        · obtain ⟨k, k1, k2⟩ := h2 z
          exact ⟨k, by omega, k2⟩
        · by_cases e : k = n
          · rw [e, b] at pk; cases pk
          · exact h3 z k (by omega) pk
/-- the wells done: how many -/
def dn (p : Nat → Bool) (G : Nat → Int) (w : Nat) : Bool := p w && decide (G w = -1)
theorem widest_loop {σC σM τ0 : St} (h : Rw σC σM) {f l : Nat} (hl : l ≤ 3) (hf : f < l) {a b : Nat → Int} (ha : ∀ w, w < 24 → isRim σC w (Tb f l true) (a w)) (hb : ∀ w, w < 24 → isRim σC w (Tb f l false) (b w)) (h0 : 0 < ct (pC σC) 24) (hC : ∀ k, k ≠ 68 → τ0 k = σC k) (hG : ∀ w, w < 24 → pC σC w = true → τ0 68 (ct (pC σC) w) = a w) (fuel : Nat) (hfu : 24 < fuel) : ∃ e, jloop (fun (q : (St × Int × Int)) => match q with | (σ, x5, x7) => f_X8_widest_b67 σ (f : Int) (l : Int) x5 x7) fuel (τ0, 1152921504606846976, 0) = some e ∧ (∀ k, k ≠ 68 → e.1 k = σC k) ∧ conn (pC σC) (sqd σC) a b e.2 ∧ ∀ t, conn (pC σC) (sqd σC) a b t → e.2 ≤ t := by
  have hm := h.many
  have h24 := ct_le (pC σC) 24
  refine jloop_ex (I := fun i s => s.2.2 = (i : Int) ∧ (∀ k, k ≠ 68 → s.1 k = σC k) ∧ (∀ w, w < 24 → pC σC w = true → -1 ≤ s.1 68 (ct (pC σC) w) ∧ s.1 68 (ct (pC σC) w) ≤ 4000000) ∧ (0 ≤ s.2.1 ∧ s.2.1 ≤ 1152921504606846976) ∧ (∃ va, KI (pC σC) (sqd σC) a b 1152921504606846976 (fun w => s.1 68 (ct (pC σC) w) = -1) (fun w => s.1 68 (ct (pC σC) w)) va s.2.1 ∧ ∀ w, w < 24 → pC σC w = true → s.1 68 (ct (pC σC) w) = -1 → va w ≤ 4000000) ∧ ct (dn (pC σC) (fun w => s.1 68 (ct (pC σC) w))) 24 = i) (N := ct (pC σC) 24) (J := _) ?_ ?_ (ct (pC σC) 24) 0 fuel _ (by omega) (by omega) ?_
  · rintro i ⟨τ, best, _⟩ hi ⟨rfl, i1, i2, i3, ⟨va, i4, i4'⟩, i5⟩
    dsimp only at i1 i2 i3 i4 i4' i5
    show ∃ s', f_X8_widest_b67 τ (f : Int) (l : Int) best (i : Int) = some (.inl s') ∧ _
    have sub := ct_sub (p := pC σC) (q := dn (pC σC) (fun w => τ 68 (ct (pC σC) w))) 24 (fun k _ z => by
      simp only [dn, Bool.and_eq_true] at z
      exact z.1)
    obtain ⟨w, hw, pw, dw⟩ := sub.2.1 (by omega)
    obtain ⟨k, k1, k2, k3, k4, k5⟩ := leastGap_spec h i1 i2 h0 ⟨w, hw, pw, fun z => by simp [dn, pw, z] at dw⟩
    obtain ⟨kc1, kc2⟩ := h.ct24 k1 k2
    have gk := i2 k k1 k2
    obtain ⟨r, r1, r2⟩ := toRim_spec h (τ := τ) (fun k hk => i1 k (by omega)) k1 hl hf false
    rw [bI_f] at r1
    have er : r = b k := isRim_one r2 (hb k k1)
    have rr := isRim_rng h k1 r2
    have iC : ∀ k', k' ≠ 68 → up2 τ 68 (ct (pC σC) k) (-1) k' = σC k' := fun k' hk' => by rw [up2_k hk', i1 k' hk']
    have gU : ∀ w, w < 24 → pC σC w = true → up2 τ 68 (ct (pC σC) k) (-1) 68 (ct (pC σC) w) = if w = k then -1 else τ 68 (ct (pC σC) w) := by
      intro w hw pw
      by_cases e : w = k
      · rw [e, up2_same, if_pos rfl]
      · rw [up2_j (fun z => e (ct_inj pw k2 z)), if_neg e]
    obtain ⟨υ, u0, u1, u2⟩ := chain_spec h iC (fun w hw pw => by
      rw [gU w hw pw]
      have := i2 w hw pw
      split <;> omega) (r := τ 68 (ct (pC σC) k)) (by omega) k1 k2 1000 (by omega)
    have uw : ∀ w, w < 24 → pC σC w = true → υ 68 (ct (pC σC) w) = if w = k ∨ τ 68 (ct (pC σC) w) = -1 then -1 else if (if sqd σC k w < τ 68 (ct (pC σC) k) then τ 68 (ct (pC σC) k) else sqd σC k w) < τ 68 (ct (pC σC) w) then (if sqd σC k w < τ 68 (ct (pC σC) k) then τ 68 (ct (pC σC) k) else sqd σC k w) else τ 68 (ct (pC σC) w) := by
      intro w hw pw
      rw [u2 w hw pw, gU w hw pw, upG]
      by_cases e : w = k
      · rw [if_pos e, if_pos rfl, if_pos (Or.inl e)]
      · rw [if_neg e]
        by_cases e2 : τ 68 (ct (pC σC) w) = -1
        · rw [if_pos e2, if_pos (Or.inr e2)]
        · have nz : ¬ (w = k ∨ τ 68 (ct (pC σC) w) = -1) := fun z => z.elim e e2
          rw [if_neg e2, if_neg nz]
    have uD : ∀ w, w < 24 → pC σC w = true → (υ 68 (ct (pC σC) w) = -1 ↔ (τ 68 (ct (pC σC) w) = -1 ∨ w = k)) := by
      intro w hw pw
      rw [uw w hw pw]
      have d1 := h.sq2 k1 hw
      by_cases c : w = k ∨ τ 68 (ct (pC σC) w) = -1
      · rw [if_pos c]
        exact ⟨fun _ => c.symm, fun _ => rfl⟩
      · rw [if_neg c]
        refine ⟨fun z => ?_, fun z => absurd z.symm c⟩
        have n1 := i2 w hw pw
        have n2 : τ 68 (ct (pC σC) w) ≠ -1 := fun y => c (Or.inr y)
        exfalso
        revert z
        generalize τ 68 (ct (pC σC) w) = A at *
        generalize τ 68 (ct (pC σC) k) = B at *
        generalize sqd σC k w = C at *
        repeat' split
        all_goals (intro z; omega)
    refine ⟨(υ, (if (if r < τ 68 (ct (pC σC) k) then τ 68 (ct (pC σC) k) else r) < best then (if r < τ 68 (ct (pC σC) k) then τ 68 (ct (pC σC) k) else r) else best), ((i + 1 : Nat) : Int)), ?_, rfl, u1, ?_, ?_, ⟨fun w => if w = k then τ 68 (ct (pC σC) k) else va w, ?_, ?_⟩, ?_⟩
    · rw [f_X8_widest_b67, i1 1 (by decide), hm, jc_II (by omega) (by omega) (by omega) (by omega), if_pos (by omega), k5, jbind_s, jlet_v, jc_ix (by omega) (by omega), jlet_v, jc_ix (by omega) (by omega), cast_n, i1 2 (by decide), h.kth k1 k2, r1, jbind_s, jc_LL (by omega) (by omega) (by omega) (by omega), jlet_v]
      have m1 : -2147483648 ≤ (if r < τ 68 (ct (pC σC) k) then τ 68 (ct (pC σC) k) else r) ∧ (if r < τ 68 (ct (pC σC) k) then τ 68 (ct (pC σC) k) else r) < 2147483648 := by
        split <;> omega
      rw [jc_LL (by omega) (by omega) (by omega) (by omega), jlet_v, jc_ix (by omega) (by omega), jlet_v, f_X8_chainFrom, f_X8_chainFrom_b0, jlet_v, u0, jbind_s, jbind_s, jlet_v, cast_s]
    · intro w hw pw
      dsimp only
      rw [uw w hw pw]
      have := i2 w hw pw
      have d1 := h.sq2 k1 hw
      repeat' split
      all_goals omega
    · dsimp only
      repeat' split
      all_goals omega
    · refine i4.step k1 k2 k3 (fun w hw pw dw => k4 w hw pw dw) uD (fun w hw pw dw => ?_) ?_
      · dsimp only at dw ⊢
        have e := uw w hw pw
        rw [if_neg (fun z => dw ((uD w hw pw).mpr z.symm))] at e
        rw [e]
        generalize τ 68 (ct (pC σC) k) = A
        generalize τ 68 (ct (pC σC) w) = B
        generalize sqd σC k w = C
        repeat' split
        all_goals omega
      · rw [er]
        dsimp only
        generalize τ 68 (ct (pC σC) k) = A
        generalize b k = B
        repeat' split
        all_goals omega
    · intro w hw pw z
      dsimp only at z ⊢
      by_cases e : w = k
      · rw [if_pos e]; omega
      · rw [if_neg e]
        rcases (uD w hw pw).mp z with z | z
        · exact i4' w hw pw z
        · exact absurd z e
    · dsimp only
      rw [ct_add2 (p := dn (pC σC) (fun w => τ 68 (ct (pC σC) w))) (m := k) (by simp [dn, k3]) (by
        have := (uD k k1 k2).mpr (Or.inr rfl)
        simp [dn, k2, this]) 24 (fun w hw hk => by
        cases pw : pC σC w with
        | false => simp [dn, pw]
        | true =>
          have := uD w hw pw
          by_cases c : τ 68 (ct (pC σC) w) = -1
          · simp [dn, pw, c, this.mpr (Or.inl c)]
          · have : υ 68 (ct (pC σC) w) ≠ -1 := fun z => by
              rcases this.mp z with z | z
              · exact c z
              · exact hk z
            simp [dn, pw, c, this]) k1, i5]
  · rintro ⟨τ, best, _⟩ ⟨rfl, i1, i2, i3, ⟨va, i4, i4'⟩, i5⟩
    dsimp only at i1 i2 i3 i4 i4' i5
    have sub := ct_sub (p := pC σC) (q := dn (pC σC) (fun w => τ 68 (ct (pC σC) w))) 24 (fun k _ z => by
      simp only [dn, Bool.and_eq_true] at z
      exact z.1)
    have all : ∀ w, w < 24 → pC σC w = true → τ 68 (ct (pC σC) w) = -1 := fun w hw pw => by
      have := sub.2.2 i5 w hw pw
      simp only [dn, Bool.and_eq_true, decide_eq_true_eq] at this
      exact this.2
    refine ⟨(τ, best), ?_, i1, ?_, ?_⟩
    · show f_X8_widest_b67 τ (f : Int) (l : Int) best ((ct (pC σC) 24 : Nat) : Int) = _
      rw [f_X8_widest_b67, i1 1 (by decide), hm, jc_II (by omega) (by omega) (by omega) (by omega), if_neg (by omega)]
    · obtain ⟨w, hw, pw, -⟩ := first_p h0
      rcases i4.2.1 with z | z
      · exfalso
        have b1 := isRim_rng h hw (hb w hw)
        have b2 := i4' w hw pw (all w hw pw)
        rcases i4.2.2.2.2.2.2.2 w hw pw (all w hw pw) with y | y
        · omega
        · omega
      · exact z
    · intro t ht
      exact i4.least all ht
  · refine ⟨rfl, hC, fun w hw pw => ?_, ⟨by dsimp only; omega, by dsimp only; omega⟩, ⟨fun w => τ0 68 (ct (pC σC) w), KI.init (fun w hw pw => ?_) (fun w hw pw => hG w hw pw), fun w hw pw z => ?_⟩, ?_⟩
    · have := isRim_rng h hw (ha w hw)
      dsimp only
      rw [hG w hw pw]
      omega
    · have := isRim_rng h hw (ha w hw)
      dsimp only
      rw [hG w hw pw]
      omega
    · have := isRim_rng h hw (ha w hw)
      dsimp only
      rw [hG w hw pw]
      omega
    · dsimp only
      rw [ct_zero]
      intro w hw
      cases pw : pC σC w with
      | false => simp [dn, pw]
      | true =>
        have := isRim_rng h hw (ha w hw)
        have e : τ0 68 (ct (pC σC) w) ≠ -1 := by
          rw [hG w hw pw]
          omega
        simp [dn, e]
theorem widest_spec {σC σM : St} (h : Rw σC σM) {x1 x2 f l : Nat} (hl : l ≤ 3) (hf : f < l) (hx : (f = x1 ∧ l = x2) ∨ (f = x2 ∧ l = x1)) (h0 : 0 < ct (pC σC) 24) {a b : Nat → Int} (ha : ∀ w, w < 24 → isRim σC w (Tb f l true) (a w)) (hb : ∀ w, w < 24 → isRim σC w (Tb f l false) (b w)) : ∃ v υ, f_X8_widest σC (x1 : Int) (x2 : Int) = some (v, υ) ∧ (∀ k, k ≠ 68 → υ k = σC k) ∧ conn (pC σC) (sqd σC) a b v ∧ ∀ t, conn (pC σC) (sqd σC) a b t → v ≤ t := by
  obtain ⟨τ, t0, t1, t2⟩ := gaps_spec h hl hf 1152921504606846976 1000 (by omega)
  obtain ⟨⟨υ, v⟩, e0, e1, e2, e3⟩ := widest_loop h hl hf ha hb h0 t1 (fun w hw pw => isRim_one (t2 w hw pw) (ha w hw)) 1000 (by omega)
  have m1 : (if (x2 : Int) < (x1 : Int) then (x2 : Int) else (x1 : Int)) = (f : Int) := by split <;> omega
  have m2 : (if (x1 : Int) < (x2 : Int) then (x2 : Int) else (x1 : Int)) = (l : Int) := by split <;> omega
  refine ⟨v, υ, ?_, e1, e2, e3⟩
  rw [f_X8_widest, f_X8_widest_b0, jc_II (by omega) (by omega) (by omega) (by omega), m1, jlet_v, jc_II (by omega) (by omega) (by omega) (by omega), m2, jlet_v, jlet_v, jlet_v, t0, jbind_s, jlet_v, e0, jbind_s]
