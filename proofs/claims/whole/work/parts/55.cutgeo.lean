/-! ===== the pure side 35: what a cut leaves ===== -/
def nxi (m i : Nat) : Nat := if i + 1 < m then i + 1 else 0
/-- how far q is ahead of p along a line -/
def dr (L p q : Pt) : Int := (q.1 * p.2.2 - p.1 * q.2.2) * (- L.2.1) + (q.2.1 * p.2.2 - p.2.1 * q.2.2) * L.1
theorem dr_id {L p q : Pt} (hp : fl L p = 0) (hq : fl L q = 0) (r : Pt) : (L.1 * L.1 + L.2.1 * L.2.1) * dt3 p q r = dr L p q * fl L r := by
  unfold fl at hp hq ⊢
  unfold dr dt3
  grind
def nzL (L : Pt) : Prop := L.1 ≠ 0 ∨ L.2.1 ≠ 0
theorem nzL.pos {L : Pt} (h : nzL L) : 0 < L.1 * L.1 + L.2.1 * L.2.1 := dt_pos h
/-- an outline and the lines that made it -/
def OUT (Ln : Nat → Pt) (LS : Nat → Prop) (q : Nat → Pt) (E : Nat → Nat) (m : Nat) : Prop :=
  (∀ i, i < m → 0 < (q i).2.2) ∧ (∀ l, LS l → ∀ i, i < m → 0 ≤ fl (Ln l) (q i)) ∧
  (∀ p : Pt, 0 < p.2.2 → (∀ l, LS l → 0 ≤ fl (Ln l) p) → HU q m p) ∧
  (3 ≤ m → SCv q m ∧ ∀ i, i < m → LS (E i) ∧ fl (Ln (E i)) (q i) = 0 ∧ fl (Ln (E i)) (q (nxi m i)) = 0) ∧
  (m = 2 → ((q 0).1 * (q 1).2.2 ≠ (q 1).1 * (q 0).2.2 ∨ (q 0).2.1 * (q 1).2.2 ≠ (q 1).2.1 * (q 0).2.2) ∧ (∀ i, i < 2 → LS (E i) ∧ fl (Ln (E i)) (q 0) = 0 ∧ fl (Ln (E i)) (q 1) = 0) ∧ ∃ l1 l2, LS l1 ∧ LS l2 ∧ fl (Ln l1) (q 0) = 0 ∧ fl (Ln l1) (q 1) = 0 ∧ fl (Ln l2) (q 0) = 0 ∧ fl (Ln l2) (q 1) = 0 ∧ 0 < dr (Ln l1) (q 0) (q 1) ∧ dr (Ln l2) (q 0) (q 1) < 0)
theorem nxi_lt {m i : Nat} (h : 0 < m) : nxi m i < m := by
  unfold nxi
  split <;> omega
/-- the direction of an edge of a ring -/
theorem edge_dr {q : Nat → Pt} {m : Nat} (hm : 3 ≤ m) (h : SCv q m) {L : Pt} (hL : nzL L) {i : Nat} (hi : i < m) (h1 : fl L (q i) = 0) (h2 : fl L (q (nxi m i)) = 0) (hf : ∀ j, j < m → 0 ≤ fl L (q j)) : 0 < dr L (q i) (q (nxi m i)) := by
  have key : ∃ k, k < m ∧ 0 < dt3 (q i) (q (nxi m i)) (q k) := by
    unfold nxi
    by_cases c : i + 1 < m
    · rw [if_pos c]
      by_cases c2 : i + 2 < m
      · exact ⟨i + 2, c2, h i (i + 1) (i + 2) (by omega) (by omega) c2⟩
      · exact ⟨0, by omega, by rw [← dt3_rot (q 0)]; exact h 0 i (i + 1) (by omega) (by omega) c⟩
    · rw [if_neg c]
      exact ⟨1, by omega, by rw [dt3_rot]; exact h 0 1 i (by omega) (by omega) hi⟩
  obtain ⟨k, hk, pk⟩ := key
  have id := dr_id h1 h2 (q k)
  have p1 := Int.mul_pos hL.pos pk
  have fk := hf k hk
  by_cases c : 0 < dr L (q i) (q (nxi m i))
  · exact c
  · have := Int.mul_nonneg (show 0 ≤ - dr L (q i) (q (nxi m i)) by omega) fk
    rw [Int.neg_mul] at this
    omega
/-- a ring of three points or more holds all that its lines leave -/
theorem hull_of {Ln : Nat → Pt} {LS : Nat → Prop} {q : Nat → Pt} {E : Nat → Nat} {m : Nat} (hm : 3 ≤ m) (hn : ∀ l, LS l → nzL (Ln l)) (h : SCv q m) (hE : ∀ i, i < m → LS (E i) ∧ fl (Ln (E i)) (q i) = 0 ∧ fl (Ln (E i)) (q (nxi m i)) = 0) (hf : ∀ l, LS l → ∀ i, i < m → 0 ≤ fl (Ln l) (q i)) {p : Pt} (hp : ∀ l, LS l → 0 ≤ fl (Ln l) p) : HU q m p := by
  have ed : ∀ i, i < m → 0 ≤ dt3 (q i) (q (nxi m i)) p := by
    intro i hi
    obtain ⟨e1, e2, e3⟩ := hE i hi
    have d := edge_dr hm h (hn _ e1) hi e2 e3 (hf _ e1)
    have id := dr_id e2 e3 p
    have := Int.mul_nonneg (show 0 ≤ dr (Ln (E i)) (q i) (q (nxi m i)) by omega) (hp _ e1)
    exact pos_mul (hn _ e1).pos (by omega)
  refine fan hm h (fun i hi => ?_) ?_
  · have := ed i (by omega)
    unfold nxi at this
    rw [if_pos hi] at this
    exact this
  · have := ed (m - 1) (by omega)
    unfold nxi at this
    rw [if_neg (by omega)] at this
    exact this
theorem OUT.none {Ln : Nat → Pt} {LS LS' : Nat → Prop} {q : Nat → Pt} {E : Nat → Nat} {m l : Nat} (h : OUT Ln LS q E m) (hL : ∀ k, LS' k ↔ (LS k ∨ k = l)) (hi : ∀ i, i < m → 0 ≤ fl (Ln l) (q i)) : OUT Ln LS' q E m := by
  obtain ⟨h1, h2, h3, h4, h5⟩ := h
  have up : ∀ k, LS k → LS' k := fun k z => (hL k).mpr (Or.inl z)
  refine ⟨h1, fun k hk i hi' => ?_, fun p p0 hp => h3 p p0 (fun k hk => hp k (up k hk)), fun m3 => ⟨(h4 m3).1, fun i hi => ?_⟩, fun m2 => ?_⟩
  · rcases (hL k).mp hk with z | z
    · exact h2 k z i hi'
    · rw [z]; exact hi i hi'
  · obtain ⟨e1, e2⟩ := (h4 m3).2 i hi
    exact ⟨up _ e1, e2⟩
  · obtain ⟨g1, g2, l1, l2, g3, g4, g5⟩ := h5 m2
    exact ⟨g1, fun i hi => ⟨up _ (g2 i hi).1, (g2 i hi).2⟩, l1, l2, up _ g3, up _ g4, g5⟩
/-- a combination whose measure on a line is 0 from above or below is of points on it -/
theorem HU.on {q : Nat → Pt} {m : Nat} {p L : Pt} (h : HU q m p) (hf : ∀ i, i < m → fl L (q i) ≤ 0) (hp : 0 ≤ fl L p) {q' : Nat → Pt} {n : Nat} (hc : ∀ i, i < m → fl L (q i) = 0 → ∃ k, k < n ∧ q' k = q i) (p0 : 0 < p.2.2) : HU q' n p := by
  obtain ⟨i, j, k, hi, hj, hk, a, b, c, s, a0, b0, c0, s0, e1, e2, e3, lin⟩ := h.lin
  have e := lin L
  have z := Int.mul_nonneg (show 0 ≤ s by omega) hp
  have fi := hf i hi
  have fj := hf j hj
  have fk := hf k hk
  have m1 := Int.mul_nonneg a0 (show 0 ≤ - fl L (q i) by omega)
  have m2 := Int.mul_nonneg b0 (show 0 ≤ - fl L (q j) by omega)
  have m3 := Int.mul_nonneg c0 (show 0 ≤ - fl L (q k) by omega)
  rw [Int.mul_neg] at m1 m2 m3
  have pick : ∀ (x : Int) (t : Nat), t < m → 0 ≤ x → x * fl L (q t) = 0 → ∃ k, (k < n ∨ x = 0) ∧ (x = 0 ∨ q' k = q t) := by
    intro x t ht x0 hx
    rcases Int.mul_eq_zero.mp hx with y | y
    · exact ⟨0, Or.inr y, Or.inl y⟩
    · obtain ⟨k, k1, k2⟩ := hc t ht y
      exact ⟨k, Or.inl k1, Or.inr k2⟩
  obtain ⟨i', i1, i2⟩ := pick a i hi a0 (by omega)
  obtain ⟨j', j1, j2⟩ := pick b j hj b0 (by omega)
  obtain ⟨k', k1, k2⟩ := pick c k hk c0 (by omega)
  -- some weight is not 0
  have some_ : ∃ t, t < n := by
    rcases i1 with z | z
    · exact ⟨_, z⟩
    · rcases j1 with y | y
      · exact ⟨_, y⟩
      · rcases k1 with x | x
        · exact ⟨_, x⟩
        · exfalso
          rw [z, y, x] at e3
          have := Int.mul_pos s0 p0
          simp at e3
          omega
  obtain ⟨t, ht⟩ := some_
  have fix : ∀ (x : Int) (k t0 : Nat), (k < n ∨ x = 0) → (x = 0 ∨ q' k = q t0) → ∃ k', k' < n ∧ x * (q t0).1 = x * (q' k').1 ∧ x * (q t0).2.1 = x * (q' k').2.1 ∧ x * (q t0).2.2 = x * (q' k').2.2 := by
    intro x k t0 h1 h2
    by_cases x0 : x = 0
    · exact ⟨t, ht, by rw [x0, Int.zero_mul, Int.zero_mul], by rw [x0, Int.zero_mul, Int.zero_mul], by rw [x0, Int.zero_mul, Int.zero_mul]⟩
    · have h1' : k < n := by
        rcases h1 with z | z
        · exact z
        · exact absurd z x0
      have h2' : q' k = q t0 := by
        rcases h2 with z | z
        · exact absurd z x0
        · exact z
      exact ⟨k, h1', by rw [h2'], by rw [h2'], by rw [h2']⟩
  obtain ⟨i'', q1, q2, q3, q4⟩ := fix a i' i i1 i2
  obtain ⟨j'', r1, r2, r3, r4⟩ := fix b j' j j1 j2
  obtain ⟨k'', s1, s2, s3, s4⟩ := fix c k' k k1 k2
  exact ⟨i'', j'', k'', q1, r1, s1, a, b, c, s, a0, b0, c0, s0, by rw [e1, q2, r2, s2], by rw [e2, q3, r3, s3], by rw [e3, q4, r4, s4]⟩
theorem three_on {L p q r : Pt} (hL : nzL L) (hp : fl L p = 0) (hq : fl L q = 0) (hr : fl L r = 0) : dt3 p q r = 0 := by
  have := dr_id hp hq r
  rw [hr, Int.mul_zero] at this
  exact zero_mul_pos hL.pos this
