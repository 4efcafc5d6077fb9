/-! ===== the pure side 8: lay ===== -/
theorem ct_add {p q : Nat → Bool} {m : Nat} (hp : p m = false) (hq : q m = true) (h : ∀ k, k ≠ m → q k = p k) : ∀ n, m < n → ct q n = ct p n + 1
  | 0, hn => absurd hn (Nat.not_lt_zero m)
  | n + 1, hn => by
    by_cases e : n = m
    · subst e
      rw [ct_t hq, ct_f hp, ct_cong (fun k hk => h k (by omega))]
    · have ih := ct_add hp hq h n (by omega)
      cases c : p n with
      | true => rw [ct_t c, ct_t (by rw [h n e]; exact c), ih]
      | false => rw [ct_f c, ct_f (by rw [h n e]; exact c), ih]
theorem ct_all {p : Nat → Bool} : ∀ n, (∀ k, k < n → p k = true) → ct p n = n
  | 0, _ => rfl
  | n + 1, h => by rw [ct_t (h n (by omega)), ct_all n (fun k hk => h k (by omega))]
theorem ct_hole {p : Nat → Bool} {m : Nat} (hp : p m = false) : ∀ n, m < n → ct p n < n
  | 0, hn => absurd hn (Nat.not_lt_zero m)
  | n + 1, hn => by
    by_cases e : n = m
    · subst e
      rw [ct_f hp]
      have := ct_le p n
      omega
    · have ih := ct_hole hp n (by omega)
      cases c : p n with
      | true => rw [ct_t c]; omega
      | false => rw [ct_f c]; omega
/-- line j of sheet s is at this place -/
def atL (σ : St) (s j : Nat) (x y : Int) : Prop := σ 16 (s * 8 + j) = x ∧ σ 17 (s * 8 + j) = y
theorem before_both {σC : St} {s a : Nat} (hs : s < 8) (ha : a < 8) (hr : ∀ j, j < 64 → inI (σC 16 j) ∧ inI (σC 17 j)) (fuel : Nat) (hf : 8 < fuel) : ((∃ j, j < a ∧ atL σC s j (σC 16 (s * 8 + a)) (σC 17 (s * 8 + a))) ∧ jloop (fun (x4 : Int) => f_X7_isTakenBefore_b13 σC ((s * 8 + a : Nat) : Int) x4) fuel ((s * 8 : Nat) : Int) = some (.inl ())) ∨ ((∀ j, j < a → ¬ atL σC s j (σC 16 (s * 8 + a)) (σC 17 (s * 8 + a))) ∧ jloop (fun (x4 : Int) => f_X7_isTakenBefore_b13 σC ((s * 8 + a : Nat) : Int) x4) fuel ((s * 8 : Nat) : Int) = some (.inr ())) := by
  obtain ⟨⟨a1, a2⟩, a3, a4⟩ := hr (s * 8 + a) (by omega)
  have go : ∀ j, j < a → ¬ atL σC s j (σC 16 (s * 8 + a)) (σC 17 (s * 8 + a)) → f_X7_isTakenBefore_b13 σC ((s * 8 + a : Nat) : Int) ((s * 8 + j : Nat) : Int) = some (.inl ((s * 8 + (j + 1) : Nat) : Int)) := by
    intro j hj hn
    unfold atL at hn
    obtain ⟨⟨b1, b2⟩, b3, b4⟩ := hr (s * 8 + j) (by omega)
    rw [f_X7_isTakenBefore_b13, jc_II (by omega) (by omega) (by omega) (by omega), if_pos (by omega), jc_ix (by omega) (by omega), jc_ix (by omega) (by omega), cast_n, cast_n, jc_II (by omega) (by omega) (by omega) (by omega)]
    by_cases c : σC 16 (s * 8 + j) = σC 16 (s * 8 + a)
    · rw [if_pos c, jc_ix (by omega) (by omega), jc_ix (by omega) (by omega), jc_II (by omega) (by omega) (by omega) (by omega), if_neg (fun z => hn ⟨c, z⟩), jlet_v, cast_s]
      rfl
    · rw [if_neg c, jlet_v, cast_s]
      rfl
  rcases first_or (fun j => atL σC s j (σC 16 (s * 8 + a)) (σC 17 (s * 8 + a))) a with q | ⟨m, hm, q1, q2⟩
  · refine Or.inr ⟨q, ?_⟩
    refine jloop_for0 (g := fun b => ((s * 8 + b : Nat) : Int)) (N := a) (e := _) rfl (by omega) (fun b hb => go b hb (q b hb)) ?_
    show f_X7_isTakenBefore_b13 σC ((s * 8 + a : Nat) : Int) ((s * 8 + a : Nat) : Int) = _
    rw [f_X7_isTakenBefore_b13, jc_II (by omega) (by omega) (by omega) (by omega), if_neg (by omega)]
  · refine Or.inl ⟨⟨m, hm, q1⟩, ?_⟩
    refine jloop_for0 (g := fun b => ((s * 8 + b : Nat) : Int)) (N := m) (e := _) rfl (by omega) (fun b hb => go b (by omega) (q2 b hb)) ?_
    show f_X7_isTakenBefore_b13 σC ((s * 8 + a : Nat) : Int) ((s * 8 + m : Nat) : Int) = _
    obtain ⟨⟨b1, b2⟩, b3, b4⟩ := hr (s * 8 + m) (by omega)
    rw [f_X7_isTakenBefore_b13, jc_II (by omega) (by omega) (by omega) (by omega), if_pos (by omega), jc_ix (by omega) (by omega), jc_ix (by omega) (by omega), cast_n, cast_n, jc_II (by omega) (by omega) (by omega) (by omega), if_pos q1.1, jc_ix (by omega) (by omega), jc_ix (by omega) (by omega), jc_II (by omega) (by omega) (by omega) (by omega), if_pos q1.2]
/-- i lines of sheet s are sunk in the model: M, at the places m; c is the component's map then -/
def LayI (σC σM : St) (s i : Nat) (M : St) : Prop := ∃ (c : St) (m : Nat → Nat), Rm c M ∧ c 1 = σC 1 ∧ (∀ w, w < 24 → (c 5 w = -1 ↔ σC 5 w = -1 ∧ ∀ j, j < i → m j ≠ w)) ∧ (∀ x y, (∃ w, w < 24 ∧ takenW c x y w) ↔ (∃ w, w < 24 ∧ takenW σC x y w) ∨ ∃ j, j < i ∧ atL σC s j x y) ∧ ct (hC_ c) 24 = ct (hC_ σC) 24 + i ∧ (∀ k, k = 0 ∨ (5 < k ∧ k ≠ 33) → M k = σM k) ∧ (∀ k w, (∀ j, j < i → m j ≠ w) → k < 6 → M k w = σM k w) ∧ ∀ j, j < i → m j < 24 ∧ M 33 j = (m j : Int) ∧ σC 5 (m j) = -1 ∧ (∀ a, a < j → m a ≠ m j) ∧ (∀ w, w < m j → σC 5 w ≠ -1 ∨ ∃ a, a < j ∧ m a = w) ∧ (M 1 (m j) = 1 ∧ M 2 (m j) = σC 16 (s * 8 + j) ∧ M 3 (m j) = σC 17 (s * 8 + j) ∧ M 4 (m j) = σC 18 (s * 8 + j) ∧ M 5 (m j) = σC 19 (s * 8 + j)) ∧ (okK (σC 18 (s * 8 + j)) (σC 19 (s * 8 + j)) ∧ 0 ≤ σC 16 (s * 8 + j) ∧ σC 16 (s * 8 + j) ≤ σC 1 0 ∧ 0 ≤ σC 17 (s * 8 + j) ∧ σC 17 (s * 8 + j) ≤ σC 1 1) ∧ (∀ w, w < 24 → ¬ takenW σC (σC 16 (s * 8 + j)) (σC 17 (s * 8 + j)) w) ∧ ∀ a, a < j → ¬ atL σC s a (σC 16 (s * 8 + j)) (σC 17 (s * 8 + j))
theorem WF.put {wide high : Int} {K X Y N : Nat → Int} (h : WF wide high K X Y N) {w : Nat} {x y k n : Int} (hv : (k = -1 ∧ x = 0 ∧ y = 0 ∧ n = 0) ∨ (okK k n ∧ 0 ≤ x ∧ x ≤ wide ∧ 0 ≤ y ∧ y ≤ high)) (hd : ∀ v, v < 24 → v ≠ w → K v ≠ -1 → X v = x → Y v = y → False) : WF wide high (up1 K w k) (up1 X w x) (up1 Y w y) (up1 N w n) := by
  obtain ⟨w1, w2, w3, w4⟩ := h
  have s1 : ∀ {f : Nat → Int} {v : Int}, up1 f w v w = v := by intro f v; simp [up1]
  have s2 : ∀ {f : Nat → Int} {v : Int} {u : Nat}, u ≠ w → up1 f w v u = f u := by intro f v u hu; simp [up1, hu]
  refine ⟨w1, w2, fun u hu => ?_, fun a b ha hb ka kb xe ye => ?_⟩
  · by_cases c : u = w
    · rw [c, s1, s1, s1, s1]; exact hv
    · rw [s2 c, s2 c, s2 c, s2 c]; exact w3 u hu
  · by_cases ca : a = w
    · by_cases cb : b = w
      · rw [ca, cb]
      · rw [ca, s1] at ka xe ye
        rw [s2 cb] at kb xe ye
        exact (hd b hb cb kb xe.symm ye.symm).elim
    · by_cases cb : b = w
      · rw [cb, s1] at kb xe ye
        rw [s2 ca] at ka xe ye
        exact (hd a ha ca ka xe ye).elim
      · rw [s2 ca] at ka xe ye
        rw [s2 cb] at kb xe ye
        exact w4 a b ha hb ka kb xe ye
theorem snk_in {M : St} {m : Nat} {x y k n : Int} : snk M m x y k n 1 m = 1 ∧ snk M m x y k n 2 m = x ∧ snk M m x y k n 3 m = y ∧ snk M m x y k n 4 m = k ∧ snk M m x y k n 5 m = n := by
  unfold snk
  simp [up2, upr, up1]
theorem snk_a {M : St} {m a k' : Nat} {x y k n : Int} (h : a ≠ m) : snk M m x y k n k' a = M k' a := by
  unfold snk
  rw [up2_a h, up2_a h, up2_a h, up2_a h, up2_a h]
theorem snk_k {M : St} {m k' : Nat} {x y k n : Int} (h : k' = 0 ∨ 5 < k') : snk M m x y k n k' = M k' := by
  unfold snk
  rw [up2_k (by omega), up2_k (by omega), up2_k (by omega), up2_k (by omega), up2_k (by omega)]
theorem lay_step {σC σM M : St} {s i : Nat} (h : RA σC σM) (hs : s < 8) (hi : i < 8) (hL : LayI σC σM s i M) : (f_X10_maySink σC (s : Int) (i : Int) = some 1 ∧ ∃ m : Nat, m < 24 ∧ f_X11_sinks M (σC 16 (s * 8 + i)) (σC 17 (s * 8 + i)) (σC 18 (s * 8 + i)) (σC 19 (s * 8 + i)) = some ((m : Int), snk M m (σC 16 (s * 8 + i)) (σC 17 (s * 8 + i)) (σC 18 (s * 8 + i)) (σC 19 (s * 8 + i))) ∧ LayI σC σM s (i + 1) (up2 (snk M m (σC 16 (s * 8 + i)) (σC 17 (s * 8 + i)) (σC 18 (s * 8 + i)) (σC 19 (s * 8 + i))) 33 i (m : Int))) ∨ (f_X10_maySink σC (s : Int) (i : Int) = some 0 ∧ ∃ v : Int, -3 ≤ v ∧ v < 0 ∧ f_X11_sinks M (σC 16 (s * 8 + i)) (σC 17 (s * 8 + i)) (σC 18 (s * 8 + i)) (σC 19 (s * 8 + i)) = some (v, M)) := by
  obtain ⟨c, m, hR, l1, l2, l3, l4, l5, l6, l7⟩ := hL
  have hS := h.2.2.2
  obtain ⟨-, rx, ry, rk, rn⟩ := hS (s * 8 + i) (by omega)
  have ea : (s : Int) * 8 + (i : Int) = ((s * 8 + i : Nat) : Int) := by omega
  have eb : (s : Int) * 8 = ((s * 8 : Nat) : Int) := by omega
  have h3 := h.1.2.2.2.2.2.2.1
  have hle := ct_le (hC_ σC) 24
  have bf := before_both (σC := σC) hs hi (fun j hj => ⟨(hS j hj).2.1, (hS j hj).2.2.1⟩) 1000 (by omega)
  have sC := sinks_spec h.1.m rx ry rk rn
  have sM := sinks_spec hR rx ry rk rn
  rw [l1] at sM
  have no1 : f_X9_mayBe σC (σC 16 (s * 8 + i)) (σC 17 (s * 8 + i)) (σC 18 (s * 8 + i)) (σC 19 (s * 8 + i)) = some 0 → f_X10_maySink σC (s : Int) (i : Int) = some 0 := by
    intro e
    rw [f_X10_maySink, f_X10_maySink_b0, ea, jlet_v, jc_ix (by omega) (by omega), jc_ix (by omega) (by omega), jc_ix (by omega) (by omega), jc_ix (by omega) (by omega), cast_n, e, jbind_s, jc_I (by omega) (by omega), if_pos rfl, jz_0]
  have no2 : f_X9_mayBe σC (σC 16 (s * 8 + i)) (σC 17 (s * 8 + i)) (σC 18 (s * 8 + i)) (σC 19 (s * 8 + i)) = some 1 → f_X9_isTaken σC (σC 16 (s * 8 + i)) (σC 17 (s * 8 + i)) = some 1 → f_X10_maySink σC (s : Int) (i : Int) = some 0 := by
    intro e e2
    rw [f_X10_maySink, f_X10_maySink_b0, ea, jlet_v, jc_ix (by omega) (by omega), jc_ix (by omega) (by omega), jc_ix (by omega) (by omega), jc_ix (by omega) (by omega), cast_n, e, jbind_s, jc_I (by omega) (by omega), if_neg (by omega), jc_ix (by omega) (by omega), jc_ix (by omega) (by omega), e2, jbind_s, jc_I (by omega) (by omega), if_neg (by omega), jz_0]
  have yes : f_X9_mayBe σC (σC 16 (s * 8 + i)) (σC 17 (s * 8 + i)) (σC 18 (s * 8 + i)) (σC 19 (s * 8 + i)) = some 1 → f_X9_isTaken σC (σC 16 (s * 8 + i)) (σC 17 (s * 8 + i)) = some 0 → ∀ b, f_X7_isTakenBefore σC (s : Int) (i : Int) = some b → (b = 0 ∨ b = 1) → f_X10_maySink σC (s : Int) (i : Int) = some (if b = 0 then (if ct (hC_ σC) 24 + i < 24 then 1 else 0) else 0) := by
    intro e e2 b e3 hb
    rw [f_X10_maySink, f_X10_maySink_b0, ea, jlet_v, jc_ix (by omega) (by omega), jc_ix (by omega) (by omega), jc_ix (by omega) (by omega), jc_ix (by omega) (by omega), cast_n, e, jbind_s, jc_I (by omega) (by omega), if_neg (by omega), jc_ix (by omega) (by omega), jc_ix (by omega) (by omega), e2, jbind_s, jc_I (by omega) (by omega), if_pos (by omega), e3, jbind_s, jc_I (by omega) (by omega)]
    by_cases b0 : b = 0
    · rw [if_pos b0, if_pos b0, h3, jc_II (by omega) (by omega) (by omega) (by omega)]
      by_cases c24 : ct (hC_ σC) 24 + i < 24
      · rw [if_pos (by omega), if_pos c24, jz_1]
      · rw [if_neg (by omega), if_neg c24, jz_0]
    · rw [if_neg b0, if_neg b0, jz_0]
  have tb1 : (∃ j, j < i ∧ atL σC s j (σC 16 (s * 8 + i)) (σC 17 (s * 8 + i))) → f_X7_isTakenBefore σC (s : Int) (i : Int) = some 1 := by
    intro hj
    rcases bf with ⟨-, b⟩ | ⟨hn, -⟩
    · rw [f_X7_isTakenBefore, f_X7_isTakenBefore_b0, ea, eb, jlet_v, jlet_v, b, jbind_s]
      rfl
    · obtain ⟨j, j1, j2⟩ := hj
      exact absurd j2 (hn j j1)
  have tb0 : (∀ j, j < i → ¬ atL σC s j (σC 16 (s * 8 + i)) (σC 17 (s * 8 + i))) → f_X7_isTakenBefore σC (s : Int) (i : Int) = some 0 := by
    intro hj
    rcases bf with ⟨⟨j, j1, j2⟩, -⟩ | ⟨-, b⟩
    · exact absurd j2 (hj j j1)
    · rw [f_X7_isTakenBefore, f_X7_isTakenBefore_b0, ea, eb, jlet_v, jlet_v, b, jbind_s]
      rfl
  rcases sM with ⟨-, m2, m3⟩ | ⟨-, m2, ⟨m3, -, m5⟩ | ⟨m3, -, ⟨m5, -, m7⟩ | ⟨w, hw, m5, m6, -, m8⟩⟩⟩
  · refine Or.inr ⟨?_, -1, by omega, by omega, m3⟩
    rcases sC with ⟨c1, -⟩ | ⟨-, c2, -⟩
    · exact no1 c1
    · exact absurd c2 m2
  · refine Or.inr ⟨?_, -2, by omega, by omega, m5⟩
    rcases sC with ⟨-, c2, -⟩ | ⟨c1, -, ⟨c3, c4, -⟩ | ⟨c3, c4, -⟩⟩
    · exact absurd m2 c2
    · exact no2 c1 c4
    · rcases (l3 _ _).mp m3 with ⟨w, hw, z⟩ | z
      · exact absurd z (c3 w hw)
      · rw [yes c1 c4 1 (tb1 z) (Or.inr rfl), if_neg (by omega)]
  · refine Or.inr ⟨?_, -3, by omega, by omega, m7⟩
    have full : ct (hC_ c) 24 = 24 := ct_all 24 (fun k hk => by simp [hC_, m5 k hk])
    rcases sC with ⟨-, c2, -⟩ | ⟨c1, -, ⟨⟨w, hw, c3⟩, c4, -⟩ | ⟨c3, c4, -⟩⟩
    · exact absurd m2 c2
    · obtain ⟨u, hu, z⟩ := (l3 _ _).mpr (Or.inl ⟨w, hw, c3⟩)
      exact absurd z (m3 u hu)
    · rw [yes c1 c4 0 (tb0 (fun j hj z => by
        obtain ⟨u, hu, z'⟩ := (l3 _ _).mpr (Or.inr ⟨j, hj, z⟩)
        exact m3 u hu z')) (Or.inl rfl), if_pos rfl, if_neg (by omega)]
  · have hole : ct (hC_ c) 24 < 24 := ct_hole (m := w) (by simp [hC_, m5]) 24 hw
    have nb : ∀ j, j < i → ¬ atL σC s j (σC 16 (s * 8 + i)) (σC 17 (s * 8 + i)) := fun j hj z => by
        obtain ⟨u, hu, z'⟩ := (l3 _ _).mpr (Or.inr ⟨j, hj, z⟩)
        exact m3 u hu z'
    have nt : ∀ w, w < 24 → ¬ takenW σC (σC 16 (s * 8 + i)) (σC 17 (s * 8 + i)) w := fun w hw z => by
        obtain ⟨u, hu, z'⟩ := (l3 _ _).mpr (Or.inl ⟨w, hw, z⟩)
        exact m3 u hu z'
    refine Or.inl ⟨?_, w, hw, m8, ?_⟩
    · rcases sC with ⟨-, c2, -⟩ | ⟨c1, -, ⟨⟨w', hw', c3⟩, c4, -⟩ | ⟨c3, c4, -⟩⟩
      · exact absurd m2 c2
      · exact absurd c3 (nt w' hw')
      · rw [yes c1 c4 0 (tb0 nb) (Or.inl rfl), if_pos rfl, if_pos (by omega)]
    · have hKn : σC 18 (s * 8 + i) ≠ -1 := by
        have := m2.1
        unfold okK at this
        omega
      obtain ⟨fw, mm⟩ := (l2 w hw).mp m5
      obtain ⟨m', n1, n2⟩ : ∃ m' : Nat → Nat, m' i = w ∧ ∀ j, j < i → m' j = m j := ⟨fun j => if j = i then w else m j, by simp, fun j hj => by
        show (if j = i then w else m j) = m j
        rw [if_neg (by omega)]⟩
      have q1 : ∀ u, (∀ j, j < i + 1 → m' j ≠ u) ↔ (u ≠ w ∧ ∀ j, j < i → m j ≠ u) := by
        intro u
        constructor
        · intro z
          refine ⟨fun e => z i (by omega) (by rw [n1, e]), fun j hj => ?_⟩
          rw [← n2 j hj]
          exact z j (by omega)
        · intro z j hj
          by_cases e : j = i
          · rw [e, n1]
            exact fun e => z.1 e.symm
          · rw [n2 j (by omega)]
            exact z.2 j (by omega)
      generalize eX : σC 16 (s * 8 + i) = X at *
      generalize eY : σC 17 (s * 8 + i) = Y at *
      generalize eK : σC 18 (s * 8 + i) = K at *
      generalize eN : σC 19 (s * 8 + i) = N at *
      have e3 : up2 (up2 (up2 (up2 c 3 w X) 4 w Y) 5 w K) 6 w N 3 = up1 (c 3) w X := by simp [up2, upr]
      have e4 : up2 (up2 (up2 (up2 c 3 w X) 4 w Y) 5 w K) 6 w N 4 = up1 (c 4) w Y := by simp [up2, upr]
      have e5 : up2 (up2 (up2 (up2 c 3 w X) 4 w Y) 5 w K) 6 w N 5 = up1 (c 5) w K := by simp [up2, upr]
      have e6 : up2 (up2 (up2 (up2 c 3 w X) 4 w Y) 5 w K) 6 w N 6 = up1 (c 6) w N := by simp [up2, upr]
      have e1 : up2 (up2 (up2 (up2 c 3 w X) 4 w Y) 5 w K) 6 w N 1 = c 1 := by simp [up2, upr]
      have s1 : ∀ {f : Nat → Int} {v : Int}, up1 f w v w = v := by intro f v; simp [up1]
      have s2 : ∀ {f : Nat → Int} {v : Int} {u : Nat}, u ≠ w → up1 f w v u = f u := by intro f v u hu; simp [up1, hu]
      obtain ⟨k1, k2, k3, k4, k5⟩ := snk_in (M := M) (m := w) (x := X) (y := Y) (k := K) (n := N)
      have t5 : ∀ u, u < 24 → (up1 (c 5) w K u = -1 ↔ σC 5 u = -1 ∧ ∀ j, j < i + 1 → m' j ≠ u) := by
        intro u hu
        rw [q1]
        by_cases e : u = w
        · rw [e, s1]
          exact ⟨fun z => absurd z hKn, fun z => absurd rfl z.2.1⟩
        · rw [s2 e, l2 u hu]
          exact ⟨fun z => ⟨z.1, e, z.2⟩, fun z => ⟨z.1, z.2.2⟩⟩
      refine ⟨up2 (up2 (up2 (up2 c 3 w X) 4 w Y) 5 w K) 6 w N, m', ⟨?_, ?_, ?_, ?_⟩, ?_, ?_, ?_, ?_, ?_, ?_, ?_⟩
      · rw [e1, e3, e4, e5, e6]
        refine hR.1.put (Or.inr (by rw [l1]; exact m2)) (fun v hv hvw kv xv yv => m3 v hv ⟨kv, xv, yv⟩)
      · rw [e1, up2_k (by omega), snk_k (by omega)]; exact hR.2.1
      · rw [e1, up2_k (by omega), snk_k (by omega)]; exact hR.2.2.1
      · rw [e3, e4, e5, e6]
        intro u hu
        rw [up2_k (by omega), up2_k (by omega), up2_k (by omega), up2_k (by omega), up2_k (by omega)]
        by_cases e : u = w
        · rw [e, s1, s1, s1, s1]
          exact Or.inr ⟨k1, hKn, k4, k2, k3, k5⟩
        · rw [s2 e, s2 e, s2 e, s2 e, snk_a e, snk_a e, snk_a e, snk_a e, snk_a e]
          exact hR.2.2.2 u hu
      · rw [e1, l1]
      · rw [e5]
        exact t5
      · intro x y
        have u3 := l3 x y
        unfold takenW at u3 ⊢
        rw [e3, e4, e5]
        constructor
        · rintro ⟨u, hu, z1, z2, z3⟩
          by_cases e : u = w
          · rw [e, s1] at z1 z2 z3
            exact Or.inr ⟨i, by omega, by unfold atL; rw [eX, eY]; exact ⟨z2, z3⟩⟩
          · rw [s2 e] at z1 z2 z3
            rcases u3.mp ⟨u, hu, z1, z2, z3⟩ with z | ⟨j, hj, z⟩
            · exact Or.inl z
            · exact Or.inr ⟨j, by omega, z⟩
        · intro z
          by_cases zi : X = x ∧ Y = y
          · exact ⟨w, hw, by rw [s1]; exact hKn, by rw [s1]; exact zi.1, by rw [s1]; exact zi.2⟩
          · obtain ⟨u, hu, z1, z2, z3⟩ := u3.mpr (by
              rcases z with z | ⟨j, hj, z⟩
              · exact Or.inl z
              · by_cases e : j = i
                · rw [e] at z
                  unfold atL at z
                  rw [eX, eY] at z
                  exact absurd z zi
                · exact Or.inr ⟨j, by omega, z⟩)
            have e : u ≠ w := fun e => by rw [e] at z1; exact z1 m5
            exact ⟨u, hu, by rw [s2 e]; exact z1, by rw [s2 e]; exact z2, by rw [s2 e]; exact z3⟩
      · rw [ct_add (p := hC_ c) (m := w) (by simp [hC_, m5]) (by unfold hC_; rw [e5, s1]; simp [hKn]) (fun u hu => by unfold hC_; rw [e5, s2 hu]) 24 hw, l4]
        omega
      · intro k hk
        rw [up2_k (by omega), snk_k (by omega)]
        exact l5 k hk
      · intro k u hu hk
        have := (q1 u).mp hu
        rw [up2_k (by omega), snk_a this.1]
        exact l6 k u this.2 hk
      · intro j hj
        by_cases e : j = i
        · subst e
          rw [n1, eX, eY, eK, eN, up2_k (k' := 1) (by decide), up2_k (k' := 2) (by decide), up2_k (k' := 3) (by decide), up2_k (k' := 4) (by decide), up2_k (k' := 5) (by decide)]
          refine ⟨hw, up2_same, fw, fun a ha => ?_, fun u hu => ?_, ⟨k1, k2, k3, k4, k5⟩, m2, nt, nb⟩
          · rw [n2 a ha]; exact mm a ha
          · by_cases z : σC 5 u = -1
            · right
              by_cases z2 : ∃ a, a < j ∧ m' a = u
              · exact z2
              · exact absurd ((l2 u (by omega)).mpr ⟨z, fun a ha z3 => z2 ⟨a, ha, by rw [n2 a ha]; exact z3⟩⟩) (m6 u hu)
            · exact Or.inl z
        · have hj' : j < i := by omega
          obtain ⟨a1, a2, a3, a4, a5, a6, a7⟩ := l7 j hj'
          have ne : m j ≠ w := mm j hj'
          rw [n2 j hj', up2_k (k' := 1) (by decide), up2_k (k' := 2) (by decide), up2_k (k' := 3) (by decide), up2_k (k' := 4) (by decide), up2_k (k' := 5) (by decide), snk_a ne, snk_a ne, snk_a ne, snk_a ne, snk_a ne, up2_j (by omega), snk_k (by omega)]
          refine ⟨a1, a2, a3, fun a ha => ?_, fun u hu => ?_, a6, a7⟩
          · rw [n2 a (by omega)]; exact a4 a ha
          · rcases a5 u hu with z | ⟨a, ha, z⟩
            · exact Or.inl z
            · exact Or.inr ⟨a, ha, by rw [n2 a (by omega)]; exact z⟩
/-- the wells at some places made to be there, or not -/
def setS (m : Nat → Nat) (v : Int) (M : St) : Nat → St
  | 0 => M
  | a + 1 => up2 (setS m v M a) 1 (m a) v
theorem setS_k {m : Nat → Nat} {v : Int} {M : St} {k : Nat} (hk : k ≠ 1) : ∀ a, setS m v M a k = M k
  | 0 => rfl
  | a + 1 => by
    show up2 (setS m v M a) 1 (m a) v k = M k
    rw [up2_k hk, setS_k hk a]
theorem setS_in {m : Nat → Nat} {v : Int} {M : St} {j : Nat} : ∀ a, j < a → setS m v M a 1 (m j) = v
  | 0, h => absurd h (Nat.not_lt_zero j)
  | a + 1, h => by
    show up2 (setS m v M a) 1 (m a) v 1 (m j) = v
    by_cases e : m j = m a
    · rw [e, up2_same]
    · rw [up2_j e]
      refine setS_in a ?_
      by_cases e2 : j = a
      · rw [e2] at e; exact absurd rfl e
      · omega
theorem setS_out {m : Nat → Nat} {v : Int} {M : St} {w : Nat} : ∀ a, (∀ j, j < a → m j ≠ w) → setS m v M a 1 w = M 1 w
  | 0, _ => rfl
  | a + 1, h => by
    show up2 (setS m v M a) 1 (m a) v 1 w = M 1 w
    rw [up2_j (fun e => h a (by omega) e.symm), setS_out a (fun j hj => h j (by omega))]
theorem un_loop {M : St} {m : Nat → Nat} {n : Nat} (hn : n ≤ 8) (h : ∀ j, j < n → m j < 24 ∧ M 33 j = (m j : Int)) (fuel : Nat) (hf : 8 < fuel) : jloop (fun (q : (St × Int)) => match q with | (σ, x5) => f_X11_lay_b103 σ (n : Int) x5) fuel (M, 0) = some (setS m 0 M n) := by
  refine jloop_for0 (g := fun a => (setS m 0 M a, (a : Int))) (N := n) (e := _) rfl (by omega) (fun a ha => ?_) ?_
  · show f_X11_lay_b103 (setS m 0 M a) (n : Int) (a : Int) = _
    obtain ⟨h1, h2⟩ := h a ha
    rw [f_X11_lay_b103, jc_II (by omega) (by omega) (by omega) (by omega), if_pos (by omega), jc_ix (by omega) (by omega), cast_n, setS_k (by decide), h2, jchk_t ⟨⟨by omega, by omega⟩, Or.inl rfl⟩, jlet_v, jlet_v, cast_n, cast_s]
    rfl
  · show f_X11_lay_b103 (setS m 0 M n) (n : Int) (n : Int) = _
    rw [f_X11_lay_b103, jc_II (by omega) (by omega) (by omega) (by omega), if_neg (by omega)]
theorem un_loop2 {M : St} {m : Nat → Nat} {n : Nat} (hn : n ≤ 8) (h : ∀ j, j < n → m j < 24 ∧ M 33 j = (m j : Int)) (fuel : Nat) (hf : 8 < fuel) : jloop (fun (q : (St × Int)) => match q with | (σ, x3) => f_X11_lay_b141 σ (n : Int) x3) fuel (M, 0) = some (setS m 0 M n) := by
  refine jloop_for0 (g := fun a => (setS m 0 M a, (a : Int))) (N := n) (e := _) rfl (by omega) (fun a ha => ?_) ?_
  · show f_X11_lay_b141 (setS m 0 M a) (n : Int) (a : Int) = _
    obtain ⟨h1, h2⟩ := h a ha
    rw [f_X11_lay_b141, jc_II (by omega) (by omega) (by omega) (by omega), if_pos (by omega), jc_ix (by omega) (by omega), cast_n, setS_k (by decide), h2, jchk_t ⟨⟨by omega, by omega⟩, Or.inl rfl⟩, jlet_v, jlet_v, cast_n, cast_s]
    rfl
  · show f_X11_lay_b141 (setS m 0 M n) (n : Int) (n : Int) = _
    rw [f_X11_lay_b141, jc_II (by omega) (by omega) (by omega) (by omega), if_neg (by omega)]
theorem re_loop {M : St} {m : Nat → Nat} {n : Nat} (hn : n ≤ 8) (h : ∀ j, j < n → m j < 24 ∧ M 33 j = (m j : Int)) (fuel : Nat) (hf : 8 < fuel) : jloop (fun (q : (St × Int)) => match q with | (σ, x3) => f_X11_lay_b170 σ (n : Int) x3) fuel (M, 0) = some (setS m 1 M n) := by
  refine jloop_for0 (g := fun a => (setS m 1 M a, (a : Int))) (N := n) (e := _) rfl (by omega) (fun a ha => ?_) ?_
  · show f_X11_lay_b170 (setS m 1 M a) (n : Int) (a : Int) = _
    obtain ⟨h1, h2⟩ := h a ha
    rw [f_X11_lay_b170, jc_II (by omega) (by omega) (by omega) (by omega), if_pos (by omega), jc_ix (by omega) (by omega), cast_n, setS_k (by decide), h2, jchk_t ⟨⟨by omega, by omega⟩, Or.inr rfl⟩, jlet_v, jlet_v, cast_n, cast_s]
    rfl
  · show f_X11_lay_b170 (setS m 1 M n) (n : Int) (n : Int) = _
    rw [f_X11_lay_b170, jc_II (by omega) (by omega) (by omega) (by omega), if_neg (by omega)]
/-- the model's lines, as the component has them -/
theorem lay_check {σC σM : St} {s n : Nat} (h : RA σC σM) (hs : s < 8) (hn : n ≤ 8) (fuel : Nat) (hf : 8 < fuel) : ∃ e, jloop (fun (q : (St × Int)) => match q with | (σ, x3) => f_X11_lay_b29 σ (s : Int) (n : Int) x3) fuel (σM, 0) = some e ∧ ((∃ M, e = .inr M ∧ LayI σC σM s n M ∧ ∀ j, j < n → f_X10_maySink σC (s : Int) ((j : Nat) : Int) = some 1) ∨ ∃ (k : Nat) (M : St), k < n ∧ e = .inl (M, (k : Int)) ∧ LayI σC σM s k M ∧ f_X10_maySink σC (s : Int) (k : Int) = some 0 ∧ ∀ j, j < k → f_X10_maySink σC (s : Int) ((j : Nat) : Int) = some 1) := by
  refine jloop_or (I := fun a st => st.2 = (a : Int) ∧ LayI σC σM s a st.1 ∧ ∀ j, j < a → f_X10_maySink σC (s : Int) ((j : Nat) : Int) = some 1) (N := n) (J := _) ?_ ?_ n 0 fuel (σM, 0) (by omega) (by omega) ?_
  · rintro a ⟨M, x⟩ ha ⟨rfl, hL, hj⟩
    show (∃ s', f_X11_lay_b29 M (s : Int) (n : Int) (a : Int) = some (.inl s') ∧ _) ∨ ∃ e, f_X11_lay_b29 M (s : Int) (n : Int) (a : Int) = some (.inr e) ∧ _
    have hS := h.2.2.2
    obtain ⟨⟨c1, c2, c3, c4⟩, -⟩ := hS (s * 8 + a) (by omega)
    have e32 : M 32 = σM 32 := by
      obtain ⟨c, m, -, -, -, -, -, l5, -⟩ := hL
      exact l5 32 (by omega)
    have e0 : 32 * (s : Int) + 4 * (a : Int) = ((4 * (s * 8 + a) : Nat) : Int) := by omega
    have e1 : ((4 * (s * 8 + a) : Nat) : Int) + 1 = ((4 * (s * 8 + a) + 1 : Nat) : Int) := by omega
    have e2 : ((4 * (s * 8 + a) : Nat) : Int) + 2 = ((4 * (s * 8 + a) + 2 : Nat) : Int) := by omega
    have e3 : ((4 * (s * 8 + a) : Nat) : Int) + 3 = ((4 * (s * 8 + a) + 3 : Nat) : Int) := by omega
    have ev : ∀ r μ, f_X11_sinks M (σC 16 (s * 8 + a)) (σC 17 (s * 8 + a)) (σC 18 (s * 8 + a)) (σC 19 (s * 8 + a)) = some (r, μ) → inI r → f_X11_lay_b29 M (s : Int) (n : Int) (a : Int) = if r < 0 then some (.inr (.inl (up2 μ 33 a r, (a : Int)))) else some (.inl (up2 μ 33 a r, ((a + 1 : Nat) : Int))) := by
      intro r μ e ⟨r1, r2⟩
      rw [f_X11_lay_b29, jc_II (by omega) (by omega) (by omega) (by omega), if_pos (by omega), jlet_v, e0, e1, e2, e3, jc_ix (by omega) (by omega), jc_ix (by omega) (by omega), jc_ix (by omega) (by omega), jc_ix (by omega) (by omega), cast_n, cast_n, cast_n, cast_n, e32, c1, c2, c3, c4, e, jbind_s]
      dsimp only
      rw [jc_ix (by omega) (by omega), jlet_v, jc_ix (by omega) (by omega), cast_n, up2_same, jc_I (by omega) (by omega), jlet_v, cast_s]
    rcases lay_step h hs (by omega) hL with ⟨y, m, hm, z1, z2⟩ | ⟨y, v, v1, v2, z1⟩
    · refine Or.inl ⟨_, (ev _ _ z1 ⟨by omega, by omega⟩).trans (if_neg (by omega)), rfl, z2, fun j hj' => ?_⟩
      by_cases e : j = a
      · rw [e]; exact y
      · exact hj j (by omega)
    · refine Or.inr ⟨_, (ev _ _ z1 ⟨by omega, by omega⟩).trans (if_pos (by omega)), Or.inr ⟨a, _, ha, rfl, ?_, y, hj⟩⟩
      obtain ⟨c, m, hR, l1, l2, l3, l4, l5, l6, l7⟩ := hL
      refine ⟨c, m, ?_, l1, l2, l3, l4, ?_, ?_, ?_⟩
      · unfold Rm RM
        simp only [up2_k, ne_eq, Nat.reduceEqDiff, not_false_eq_true]
        exact hR
      · intro k hk
        rw [up2_k (by omega)]
        exact l5 k hk
      · intro k w hk hw
        rw [up2_k (by omega)]
        exact l6 k w hk hw
      · intro j hj
        rw [up2_k (k' := 1) (by decide), up2_k (k' := 2) (by decide), up2_k (k' := 3) (by decide), up2_k (k' := 4) (by decide), up2_k (k' := 5) (by decide), up2_j (by omega)]
        exact l7 j hj
  · rintro ⟨M, x⟩ ⟨rfl, hL, hj⟩
    refine ⟨.inr M, ?_, Or.inl ⟨M, rfl, hL, hj⟩⟩
    show f_X11_lay_b29 M (s : Int) (n : Int) (n : Int) = _
    rw [f_X11_lay_b29, jc_II (by omega) (by omega) (by omega) (by omega), if_neg (by omega)]
  · refine ⟨rfl, ⟨σC, fun _ => 0, h.1.m, rfl, fun w _ => ⟨fun z => ⟨z, fun j hj => absurd hj (Nat.not_lt_zero j)⟩, fun z => z.1⟩, fun x y => ⟨fun z => Or.inl z, fun z => ?_⟩, rfl, fun _ _ => rfl, fun _ _ _ _ => rfl, fun j hj => absurd hj (Nat.not_lt_zero j)⟩, fun j hj => absurd hj (Nat.not_lt_zero j)⟩
    rcases z with z | ⟨j, hj, -⟩
    · exact z
    · exact absurd hj (Nat.not_lt_zero j)
/-- the component's look over the lines -/
theorem lay_lookY {σC : St} {s n : Nat} (hn : n ≤ 8) (h : ∀ j, j < n → f_X10_maySink σC (s : Int) ((j : Nat) : Int) = some 1) (fuel : Nat) (hf : 8 < fuel) : jloop (fun (x3 : Int) => f_X10_lay_b25 σC (s : Int) (n : Int) x3) fuel 0 = some (.inr ()) := by
  refine jloop_for0 (g := fun a => (a : Int)) (N := n) (e := _) rfl (by omega) (fun a ha => ?_) ?_
  · show f_X10_lay_b25 σC (s : Int) (n : Int) (a : Int) = _
    rw [f_X10_lay_b25, jc_II (by omega) (by omega) (by omega) (by omega), if_pos (by omega), h a ha, jbind_s, jc_I (by omega) (by omega), if_neg (by omega), jlet_v, cast_s]
  · show f_X10_lay_b25 σC (s : Int) (n : Int) (n : Int) = _
    rw [f_X10_lay_b25, jc_II (by omega) (by omega) (by omega) (by omega), if_neg (by omega)]
theorem lay_lookN {σC : St} {s n k : Nat} (hn : n ≤ 8) (hk : k < n) (h : ∀ j, j < k → f_X10_maySink σC (s : Int) ((j : Nat) : Int) = some 1) (h0 : f_X10_maySink σC (s : Int) (k : Int) = some 0) (fuel : Nat) (hf : 8 < fuel) : jloop (fun (x3 : Int) => f_X10_lay_b25 σC (s : Int) (n : Int) x3) fuel 0 = some (.inl (k : Int)) := by
  refine jloop_for0 (g := fun a => (a : Int)) (N := k) (e := _) rfl (by omega) (fun a ha => ?_) ?_
  · show f_X10_lay_b25 σC (s : Int) (n : Int) (a : Int) = _
    rw [f_X10_lay_b25, jc_II (by omega) (by omega) (by omega) (by omega), if_pos (by omega), h a ha, jbind_s, jc_I (by omega) (by omega), if_neg (by omega), jlet_v, cast_s]
  · show f_X10_lay_b25 σC (s : Int) (n : Int) (k : Int) = _
    rw [f_X10_lay_b25, jc_II (by omega) (by omega) (by omega) (by omega), if_pos (by omega), h0, jbind_s, jc_I (by omega) (by omega), if_pos rfl]
