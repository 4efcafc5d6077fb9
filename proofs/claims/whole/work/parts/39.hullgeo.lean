/-! ===== the pure side 19: hulls, the geometry ===== -/
def cr (a b c d : Int) : Int := a * d - b * c
def dt (a b c d : Int) : Int := a * c + b * d
theorem plk (d1 d2 a1 a2 b1 b2 c1 c2 : Int) : cr d1 d2 b1 b2 * cr a1 a2 c1 c2 = cr d1 d2 a1 a2 * cr b1 b2 c1 c2 + cr d1 d2 c1 c2 * cr a1 a2 b1 b2 := by
  unfold cr; grind
theorem idA (p q a b c d : Int) : cr p q c d * dt a b a b = cr p q a b * dt a b c d + dt p q a b * cr a b c d := by
  unfold cr dt; grind
theorem idB (p q a b c d : Int) : dt a b c d * dt p q p q = dt p q a b * dt p q c d + cr p q a b * cr p q c d := by
  unfold cr dt; grind
theorem pos_mul {x y : Int} (h : 0 < x) (h2 : 0 ≤ x * y) : 0 ≤ y := by
  by_cases c : 0 ≤ y
  · exact c
  · have := Int.mul_neg_of_pos_of_neg h (show y < 0 by omega)
    omega
theorem pos_mul' {x y : Int} (h : 0 < x) (h2 : 0 < x * y) : 0 < y := by
  by_cases c : 0 < y
  · exact c
  · have := Int.mul_nonneg (show 0 ≤ x by omega) (show 0 ≤ -y by omega)
    rw [Int.mul_neg] at this
    omega
theorem zero_mul_pos {x y : Int} (h : 0 < x) (h2 : x * y = 0) : y = 0 := by
  rcases Int.mul_eq_zero.mp h2 with z | z
  · omega
  · exact z
theorem dt_nn (a b : Int) : 0 ≤ dt a b a b := by
  have h1 := sq_nn a
  have h2 := sq_nn b
  unfold dt
  omega
theorem dt_pos {a b : Int} (h : a ≠ 0 ∨ b ≠ 0) : 0 < dt a b a b := by
  have h1 := sq_nn a
  have h2 := sq_nn b
  unfold dt
  rcases h with z | z
  · have : a * a ≠ 0 := fun e => by rcases Int.mul_eq_zero.mp e with y | y <;> exact z y
    omega
  · have : b * b ≠ 0 := fun e => by rcases Int.mul_eq_zero.mp e with y | y <;> exact z y
    omega
/-- on the left of d, or straight against it -/
def HD (d1 d2 a b : Int) : Prop := 0 < cr d1 d2 a b ∨ (cr d1 d2 a b = 0 ∧ dt d1 d2 a b < 0)
theorem HD.nz {d1 d2 a b : Int} (h : HD d1 d2 a b) : a ≠ 0 ∨ b ≠ 0 := by
  by_cases c : a = 0 ∧ b = 0
  · exfalso
    obtain ⟨rfl, rfl⟩ := c
    simp [HD, cr, dt] at h
  · omega
theorem HD.nn {d1 d2 a b : Int} (h : HD d1 d2 a b) : 0 ≤ cr d1 d2 a b := by
  rcases h with z | z <;> omega
theorem HD.d {d1 d2 a b : Int} (h : HD d1 d2 a b) : 0 < dt d1 d2 d1 d2 := by
  refine dt_pos ?_
  by_cases c : d1 = 0 ∧ d2 = 0
  · exfalso
    obtain ⟨rfl, rfl⟩ := c
    simp [HD, cr, dt] at h
  · omega
theorem HD.same {d1 d2 a b p q : Int} (ha : HD d1 d2 a b) (hp : HD d1 d2 p q) (h : cr a b p q = 0) : 0 < dt a b p q := by
  have i1 := idA d1 d2 a b p q
  rw [h, Int.mul_zero, Int.add_zero] at i1
  have na := dt_pos ha.nz
  rcases ha with z | ⟨z, z2⟩
  · rcases hp with y | ⟨y, y2⟩
    · refine pos_mul' z ?_
      rw [← i1]
      exact Int.mul_pos y na
    · rw [y, Int.zero_mul] at i1
      have e := zero_mul_pos z i1.symm
      exfalso
      have i2 := idB a b a b p q
      rw [e, h] at i2
      have hp' : HD d1 d2 p q := Or.inr ⟨y, y2⟩
      have i3 := idB a b p q p q
      rw [e, h] at i3
      have := Int.mul_pos (dt_pos hp'.nz) na
      simp at i3
      omega
  · rw [z, Int.zero_mul] at i1
    have e : cr d1 d2 p q = 0 := zero_mul_pos na (by rw [Int.mul_comm]; exact i1)
    rcases hp with y | ⟨y, y2⟩
    · omega
    · have i2 := idB d1 d2 a b p q
      rw [z, Int.zero_mul, Int.add_zero] at i2
      have hp' : HD d1 d2 p q := Or.inr ⟨y, y2⟩
      have := Int.mul_pos_of_neg_of_neg z2 y2
      refine pos_mul' hp'.d ?_
      rw [Int.mul_comm, i2]
      exact this
theorem HD.tr {d1 d2 a1 a2 b1 b2 c1 c2 : Int} (ha : HD d1 d2 a1 a2) (hb : HD d1 d2 b1 b2) (hc : HD d1 d2 c1 c2) (h1 : 0 ≤ cr a1 a2 b1 b2) (h2 : 0 ≤ cr b1 b2 c1 c2) : 0 ≤ cr a1 a2 c1 c2 := by
  have i1 := plk d1 d2 a1 a2 b1 b2 c1 c2
  have p1 := Int.mul_nonneg ha.nn h2
  have p2 := Int.mul_nonneg hc.nn h1
  rcases hb with z | ⟨z, z2⟩
  · exact pos_mul z (by omega)
  · have hb' : HD d1 d2 b1 b2 := Or.inr ⟨z, z2⟩
    have e : cr d1 d2 c1 c2 = 0 := by
      have i2 := idA c1 c2 d1 d2 b1 b2
      have s : cr c1 c2 b1 b2 = - cr b1 b2 c1 c2 := by unfold cr; grind
      have s2 : cr c1 c2 d1 d2 = - cr d1 d2 c1 c2 := by unfold cr; grind
      rw [s, s2, z, Int.mul_zero, Int.add_zero] at i2
      have p3 := Int.mul_nonneg h2 (dt_nn d1 d2)
      have p4 : 0 ≤ cr d1 d2 c1 c2 * (- dt d1 d2 b1 b2) := Int.mul_nonneg hc.nn (by omega)
      have : cr d1 d2 c1 c2 * dt d1 d2 b1 b2 = cr b1 b2 c1 c2 * dt d1 d2 d1 d2 := by grind
      rw [Int.mul_neg] at p4
      have : cr d1 d2 c1 c2 * dt d1 d2 b1 b2 = 0 := by omega
      rcases Int.mul_eq_zero.mp this with y | y
      · exact y
      · omega
    rcases hc with y | ⟨y, y2⟩
    · omega
    · have i2 := idA a1 a2 d1 d2 c1 c2
      have s2 : cr a1 a2 d1 d2 = - cr d1 d2 a1 a2 := by unfold cr; grind
      rw [s2, e, Int.mul_zero, Int.add_zero] at i2
      have p4 : 0 ≤ cr d1 d2 a1 a2 * (- dt d1 d2 c1 c2) := Int.mul_nonneg ha.nn (by omega)
      refine pos_mul hb'.d ?_
      grind
/-- u does not go before v, seen from the middle: on its left, or in its line and no farther -/
def NB (v1 v2 u1 u2 : Int) : Prop := 0 < cr v1 v2 u1 u2 ∨ (cr v1 v2 u1 u2 = 0 ∧ dt u1 u2 u1 u2 ≤ dt v1 v2 v1 v2)
theorem NB.step {d1 d2 b1 b2 w1 w2 v1 v2 : Int} (hb : HD d1 d2 b1 b2) (hw : HD d1 d2 w1 w2) (hv : HD d1 d2 v1 v2) (h : NB b1 b2 v1 v2) (h2 : cr b1 b2 w1 w2 < 0 ∨ (cr b1 b2 w1 w2 = 0 ∧ dt b1 b2 b1 b2 < dt w1 w2 w1 w2)) : NB w1 w2 v1 v2 := by
  have nn : 0 ≤ cr b1 b2 v1 v2 := by rcases h with z | z <;> omega
  have s : cr w1 w2 b1 b2 = - cr b1 b2 w1 w2 := by unfold cr; grind
  have wv : 0 ≤ cr w1 w2 v1 v2 := hw.tr hb hv (by rcases h2 with z | z <;> omega) nn
  by_cases q : 0 < cr w1 w2 v1 v2
  · exact Or.inl q
  · have e : cr w1 w2 v1 v2 = 0 := by omega
    rcases h2 with z | ⟨z, z2⟩
    · exfalso
      have i1 := plk d1 d2 w1 w2 b1 b2 v1 v2
      rw [e, Int.mul_zero] at i1
      have p1 := Int.mul_nonneg hw.nn nn
      have p2 := Int.mul_nonneg hv.nn (show 0 ≤ cr w1 w2 b1 b2 by omega)
      have : cr d1 d2 v1 v2 * cr w1 w2 b1 b2 = 0 := by omega
      have e2 : cr d1 d2 v1 v2 = 0 := by
        rcases Int.mul_eq_zero.mp this with y | y
        · exact y
        · omega
      have i2 := idA d1 d2 v1 v2 w1 w2
      have s2 : cr v1 v2 w1 w2 = - cr w1 w2 v1 v2 := by unfold cr; grind
      rw [e2, s2, e] at i2
      simp at i2
      have nv := dt_pos hv.nz
      have e3 : cr d1 d2 w1 w2 = 0 := by
        rcases Int.mul_eq_zero.mp i2 with y | y
        · exact y
        · omega
      rcases hw with y | ⟨y, y2⟩
      · omega
      · have i3 := idA w1 w2 d1 d2 b1 b2
        have s3 : cr w1 w2 d1 d2 = - cr d1 d2 w1 w2 := by unfold cr; grind
        rw [s3, e3] at i3
        simp at i3
        have s4 : dt w1 w2 d1 d2 = dt d1 d2 w1 w2 := by unfold dt; grind
        have p5 := Int.mul_pos (show 0 < cr w1 w2 b1 b2 by omega) (hb.d)
        have p6 : dt d1 d2 w1 w2 * cr d1 d2 b1 b2 ≤ 0 := by
          have := Int.mul_nonneg (show 0 ≤ - dt d1 d2 w1 w2 by omega) hb.nn
          rw [Int.neg_mul] at this
          omega
        rw [s4] at i3
        omega
    · right
      refine ⟨e, ?_⟩
      have i1 := idA b1 b2 w1 w2 v1 v2
      rw [z, e] at i1
      simp at i1
      have nw := dt_pos hw.nz
      have : cr b1 b2 v1 v2 = 0 := by
        rcases Int.mul_eq_zero.mp i1 with y | y
        · exact y
        · omega
      rcases h with y | y <;> omega
theorem far_lt {p1 p2 q1 q2 : Int} (h : cr p1 p2 q1 q2 = 0) (h2 : 0 < dt p1 p2 q1 q2) (h3 : dt q1 q2 q1 q2 ≤ dt p1 p2 p1 p2) (hne : p1 ≠ q1 ∨ p2 ≠ q2) (hp : 0 < dt p1 p2 p1 p2) : dt p1 p2 q1 q2 < dt p1 p2 p1 p2 := by
  by_cases c : dt p1 p2 q1 q2 < dt p1 p2 p1 p2
  · exact c
  · exfalso
    have i1 := idB p1 p2 q1 q2 q1 q2
    rw [h, Int.mul_zero, Int.add_zero] at i1
    have k1 := Int.mul_nonneg (show 0 ≤ dt p1 p2 q1 q2 - dt p1 p2 p1 p2 by omega) (show 0 ≤ dt p1 p2 q1 q2 by omega)
    have k2 := Int.mul_nonneg (show 0 ≤ dt p1 p2 q1 q2 - dt p1 p2 p1 p2 by omega) (show 0 ≤ dt p1 p2 p1 p2 by omega)
    have k3 := Int.mul_nonneg (show 0 ≤ dt p1 p2 p1 p2 - dt q1 q2 q1 q2 by omega) (show 0 ≤ dt p1 p2 p1 p2 by omega)
    generalize eA : dt p1 p2 q1 q2 = A at *
    generalize eP : dt p1 p2 p1 p2 = P at *
    generalize eQ : dt q1 q2 q1 q2 = Q at *
    rw [Int.sub_mul] at k1 k2 k3
    have c1 := Int.mul_comm A P
    have c2 := Int.mul_comm Q P
    have e1 : P * (P - Q) = 0 := by rw [Int.mul_sub]; omega
    have e2 : P * (A - P) = 0 := by rw [Int.mul_sub]; omega
    have e3 := zero_mul_pos hp e1
    have e4 := zero_mul_pos hp e2
    have e5 : (p1 - q1) * (p1 - q1) + (p2 - q2) * (p2 - q2) = P - 2 * A + Q := by
      rw [← eA, ← eP, ← eQ]
      unfold dt
      grind
    have n1 : 0 < dt (p1 - q1) (p2 - q2) (p1 - q1) (p2 - q2) := dt_pos (by omega)
    unfold dt at n1
    omega
