/-! ===== the pure side 34: a ring of points holds all that its lines leave ===== -/
/-- a point is put together from three of a ring -/
def HU (q : Nat → Pt) (m : Nat) (p : Pt) : Prop := ∃ i j k, i < m ∧ j < m ∧ k < m ∧ ∃ a b c s : Int, 0 ≤ a ∧ 0 ≤ b ∧ 0 ≤ c ∧ 0 < s ∧ s * p.1 = a * (q i).1 + b * (q j).1 + c * (q k).1 ∧ s * p.2.1 = a * (q i).2.1 + b * (q j).2.1 + c * (q k).2.1 ∧ s * p.2.2 = a * (q i).2.2 + b * (q j).2.2 + c * (q k).2.2
theorem bary (p q r t : Pt) : dt3 p q r * t.1 = dt3 q r t * p.1 + dt3 r p t * q.1 + dt3 p q t * r.1 ∧ dt3 p q r * t.2.1 = dt3 q r t * p.2.1 + dt3 r p t * q.2.1 + dt3 p q t * r.2.1 ∧ dt3 p q r * t.2.2 = dt3 q r t * p.2.2 + dt3 r p t * q.2.2 + dt3 p q t * r.2.2 := by
  unfold dt3
  refine ⟨?_, ?_, ?_⟩ <;> grind
/-- somewhere a row that begins at or above 0 and ends at or below it changes -/
theorem change {s : Nat → Int} : ∀ n, 0 ≤ s 1 → s (n + 2) ≤ 0 → ∃ i, 1 ≤ i ∧ i < n + 2 ∧ 0 ≤ s i ∧ s (i + 1) ≤ 0
  | 0, h1, h2 => ⟨1, by omega, by omega, h1, h2⟩
  | n + 1, h1, h2 => by
    by_cases c : s (n + 2) ≤ 0
    · obtain ⟨i, a, b, d⟩ := change n h1 c
      exact ⟨i, a, by omega, d⟩
    · exact ⟨n + 2, by omega, by omega, by omega, h2⟩
theorem fan {q : Nat → Pt} {m : Nat} (hm : 3 ≤ m) (h : SCv q m) {t : Pt} (he : ∀ i, i + 1 < m → 0 ≤ dt3 (q i) (q (i + 1)) t) (hl : 0 ≤ dt3 (q (m - 1)) (q 0) t) : HU q m t := by
  obtain ⟨n, rfl⟩ : ∃ n, m = n + 3 := ⟨m - 3, by omega⟩
  have e1 : n + 3 - 1 = n + 2 := by omega
  rw [e1] at hl
  have sw : ∀ a b : Pt, dt3 a b t = - dt3 b a t := by intro a b; unfold dt3; grind
  obtain ⟨i, a1, a2, a3, a4⟩ := change (s := fun i => dt3 (q 0) (q i) t) n (he 0 (by omega)) (by
    have := sw (q 0) (q (n + 2))
    show dt3 (q 0) (q (n + 2)) t ≤ 0
    omega)
  have D := h 0 i (i + 1) (by omega) (by omega) (by omega)
  obtain ⟨b1, b2, b3⟩ := bary (q 0) (q i) (q (i + 1)) t
  have e2 := he i (by omega)
  have e3 := sw (q (i + 1)) (q 0)
  exact ⟨0, i, i + 1, by omega, by omega, by omega, dt3 (q i) (q (i + 1)) t, dt3 (q (i + 1)) (q 0) t, dt3 (q 0) (q i) t, dt3 (q 0) (q i) (q (i + 1)), e2, by omega, a3, D, b1, b2, b3⟩
theorem HU.lin {q : Nat → Pt} {m : Nat} {p : Pt} (h : HU q m p) : ∃ i j k, i < m ∧ j < m ∧ k < m ∧ ∃ a b c s : Int, 0 ≤ a ∧ 0 ≤ b ∧ 0 ≤ c ∧ 0 < s ∧ s * p.1 = a * (q i).1 + b * (q j).1 + c * (q k).1 ∧ s * p.2.1 = a * (q i).2.1 + b * (q j).2.1 + c * (q k).2.1 ∧ s * p.2.2 = a * (q i).2.2 + b * (q j).2.2 + c * (q k).2.2 ∧ ∀ L : Pt, s * fl L p = a * fl L (q i) + b * fl L (q j) + c * fl L (q k) := by
  obtain ⟨i, j, k, hi, hj, hk, a, b, c, s, a0, b0, c0, s0, e1, e2, e3⟩ := h
  refine ⟨i, j, k, hi, hj, hk, a, b, c, s, a0, b0, c0, s0, e1, e2, e3, fun L => ?_⟩
  have e : s * fl L p = L.2.2 * (s * p.2.2) - L.1 * (s * p.1) - L.2.1 * (s * p.2.1) := by unfold fl; grind
  rw [e, e1, e2, e3]
  unfold fl
  grind
