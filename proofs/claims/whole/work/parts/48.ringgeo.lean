/-! ===== the pure side 28: rings, the geometry ===== -/
/-- the round of three wells: how far its middle is, over rD; how far out a well is -/
def rD (σ : St) (u v w : Nat) : Int := 2 * (if 0 < trn σ u v w then trn σ u v w else - trn σ u v w)
def rS (σ : St) (u v w z : Nat) : Int := if trn σ u v w < 0 then - sqd σ u z else sqd σ u z
def rA (σ : St) (u v w : Nat) : Int := (σ 4 w - σ 4 u) * rS σ u v w v - (σ 4 v - σ 4 u) * rS σ u v w w
def rU (σ : St) (u v w : Nat) : Int := (σ 3 v - σ 3 u) * rS σ u v w w - (σ 3 w - σ 3 u) * rS σ u v w v
def rO (σ : St) (u v w t : Nat) : Int := sqd σ u t * rD σ u v w - 2 * ((σ 3 t - σ 3 u) * rA σ u v w + (σ 4 t - σ 4 u) * rU σ u v w)
theorem rO_self (σ : St) (u v w : Nat) : rO σ u v w u = 0 ∧ rO σ u v w v = 0 ∧ rO σ u v w w = 0 := by
  unfold rO rA rU rD rS
  by_cases c : trn σ u v w < 0
  · simp only [if_pos c, if_neg (show ¬ 0 < trn σ u v w by omega)]
    unfold trn sqd
    refine ⟨?_, ?_, ?_⟩ <;> grind
  · have e : (if 0 < trn σ u v w then trn σ u v w else - trn σ u v w) = trn σ u v w := by split <;> omega
    simp only [if_neg c, e]
    unfold trn sqd
    refine ⟨?_, ?_, ?_⟩ <;> grind
/-- these three are the first of a ring about an empty round -/
def Acc (σ : St) (u v w : Nat) : Prop := u < v ∧ v < w ∧ w < 24 ∧ pC σ u = true ∧ pC σ v = true ∧ pC σ w = true ∧ trn σ u v w ≠ 0 ∧ (∀ t, t < 24 → pC σ t = true → 0 ≤ rO σ u v w t) ∧ ∀ t, t < w → pC σ t = true → rO σ u v w t = 0 → t = u ∨ t = v
theorem rD_pos {σ : St} {u v w : Nat} (h : trn σ u v w ≠ 0) : 0 < rD σ u v w := by
  unfold rD
  split <;> omega
/-- a form that is not below 0 on a cone about the way up -/
theorem cone_up {b1 b2 a1 a2 g1 g2 : Int} (hb : 0 < b1 ∨ (b1 = 0 ∧ 0 < b2)) (ha : a1 < 0 ∨ (a1 = 0 ∧ a2 < 0)) (hc : 0 < cr b1 b2 a1 a2) (h1 : 0 ≤ dt g1 g2 b1 b2) (h2 : 0 ≤ dt g1 g2 a1 a2) : 0 < g2 ∨ (g2 = 0 ∧ g1 ≤ 0) := by
  have i1 : cr b1 b2 a1 a2 * g2 = (-a1) * dt g1 g2 b1 b2 + b1 * dt g1 g2 a1 a2 := by unfold cr dt; grind
  have p1 := Int.mul_nonneg (show 0 ≤ -a1 by omega) h1
  have p2 := Int.mul_nonneg (show 0 ≤ b1 by omega) h2
  have nn := pos_mul hc (by omega : 0 ≤ cr b1 b2 a1 a2 * g2)
  by_cases c : 0 < g2
  · exact Or.inl c
  · have e : g2 = 0 := by omega
    right
    refine ⟨e, ?_⟩
    by_cases c2 : g1 ≤ 0
    · exact c2
    · exfalso
      subst e
      have q2 : 0 ≤ a1 := pos_mul (show 0 < g1 by omega) (by unfold dt at h2; simp at h2; exact h2)
      have e1 : a1 = 0 := by omega
      subst e1
      have : a2 < 0 := by omega
      have k : cr b1 b2 0 a2 = b1 * a2 := by unfold cr; grind
      rw [k] at hc
      have := Int.mul_nonneg (show 0 ≤ b1 by omega) (show 0 ≤ -a2 by omega)
      rw [Int.mul_neg] at this
      omega
def lexlt (σ : St) (a b : Nat) : Prop := σ 3 a < σ 3 b ∨ (σ 3 a = σ 3 b ∧ σ 4 a < σ 4 b)
/-- one of three is the middle one -/
theorem lex_mid {σ : St} {u v w : Nat} (h1 : σ 3 u ≠ σ 3 v ∨ σ 4 u ≠ σ 4 v) (h2 : σ 3 u ≠ σ 3 w ∨ σ 4 u ≠ σ 4 w) (h3 : σ 3 v ≠ σ 3 w ∨ σ 4 v ≠ σ 4 w) : ∃ a m b, lexlt σ a m ∧ lexlt σ m b ∧ ((a = u ∧ m = v ∧ b = w) ∨ (a = u ∧ m = w ∧ b = v) ∨ (a = v ∧ m = u ∧ b = w) ∨ (a = v ∧ m = w ∧ b = u) ∨ (a = w ∧ m = u ∧ b = v) ∨ (a = w ∧ m = v ∧ b = u)) := by
  unfold lexlt
  have t1 : (σ 3 u < σ 3 v ∨ (σ 3 u = σ 3 v ∧ σ 4 u < σ 4 v)) ∨ (σ 3 v < σ 3 u ∨ (σ 3 v = σ 3 u ∧ σ 4 v < σ 4 u)) := by omega
  have t2 : (σ 3 u < σ 3 w ∨ (σ 3 u = σ 3 w ∧ σ 4 u < σ 4 w)) ∨ (σ 3 w < σ 3 u ∨ (σ 3 w = σ 3 u ∧ σ 4 w < σ 4 u)) := by omega
  have t3 : (σ 3 v < σ 3 w ∨ (σ 3 v = σ 3 w ∧ σ 4 v < σ 4 w)) ∨ (σ 3 w < σ 3 v ∨ (σ 3 w = σ 3 v ∧ σ 4 w < σ 4 v)) := by omega
  rcases t1 with t1 | t1
  · rcases t3 with t3 | t3
    · exact ⟨u, v, w, t1, t3, Or.inl ⟨rfl, rfl, rfl⟩⟩
    · rcases t2 with t2 | t2
      · exact ⟨u, w, v, t2, t3, Or.inr (Or.inl ⟨rfl, rfl, rfl⟩)⟩
      · exact ⟨w, u, v, t2, t1, Or.inr (Or.inr (Or.inr (Or.inr (Or.inl ⟨rfl, rfl, rfl⟩))))⟩
  · rcases t2 with t2 | t2
    · exact ⟨v, u, w, t1, t2, Or.inr (Or.inr (Or.inl ⟨rfl, rfl, rfl⟩))⟩
    · rcases t3 with t3 | t3
      · exact ⟨v, w, u, t3, t2, Or.inr (Or.inr (Or.inr (Or.inl ⟨rfl, rfl, rfl⟩)))⟩
      · exact ⟨w, v, u, t3, t1, Or.inr (Or.inr (Or.inr (Or.inr (Or.inr ⟨rfl, rfl, rfl⟩))))⟩
/-- a ring's mark: its middle well, and whether it lies above it -/
def MC (σ : St) (u v w : Nat) (c : Nat) : Prop := ∃ a m b, lexlt σ a m ∧ lexlt σ m b ∧ a < 24 ∧ m < 24 ∧ b < 24 ∧ pC σ a = true ∧ pC σ m = true ∧ pC σ b = true ∧ rO σ u v w a = 0 ∧ rO σ u v w m = 0 ∧ rO σ u v w b = 0 ∧ ((c = 2 * m + 1 ∧ 0 < cr (σ 3 b - σ 3 m) (σ 4 b - σ 4 m) (σ 3 a - σ 3 m) (σ 4 a - σ 4 m)) ∨ (c = 2 * m ∧ cr (σ 3 b - σ 3 m) (σ 4 b - σ 4 m) (σ 3 a - σ 3 m) (σ 4 a - σ 4 m) < 0))
theorem MC.ex {σC σM : St} (h : Rw σC σM) {u v w : Nat} (hA : Acc σC u v w) : ∃ c, c < 48 ∧ MC σC u v w c := by
  obtain ⟨uv, vw, hw, pu, pv, pw, tn, -⟩ := hA
  have hu : u < 24 := by omega
  have hv : v < 24 := by omega
  have d1 := h.apart hu hv pu pv (by omega)
  have d2 := h.apart hu hw pu pw (by omega)
  have d3 := h.apart hv hw pv pw (by omega)
  obtain ⟨o1, o2, o3⟩ := rO_self σC u v w
  obtain ⟨a, m, b, l1, l2, perm⟩ := lex_mid (σ := σC) (u := u) (v := v) (w := w) (by omega) (by omega) (by omega)
  have key : a < 24 ∧ m < 24 ∧ b < 24 ∧ pC σC a = true ∧ pC σC m = true ∧ pC σC b = true ∧ rO σC u v w a = 0 ∧ rO σC u v w m = 0 ∧ rO σC u v w b = 0 ∧ cr (σC 3 b - σC 3 m) (σC 4 b - σC 4 m) (σC 3 a - σC 3 m) (σC 4 a - σC 4 m) ≠ 0 := by
    rcases perm with ⟨rfl, rfl, rfl⟩ | ⟨rfl, rfl, rfl⟩ | ⟨rfl, rfl, rfl⟩ | ⟨rfl, rfl, rfl⟩ | ⟨rfl, rfl, rfl⟩ | ⟨rfl, rfl, rfl⟩
    · exact ⟨hu, hv, hw, pu, pv, pw, o1, o2, o3, fun z => tn (by unfold trn; unfold cr at z; grind)⟩
    · exact ⟨hu, hw, hv, pu, pw, pv, o1, o3, o2, fun z => tn (by unfold trn; unfold cr at z; grind)⟩
    · exact ⟨hv, hu, hw, pv, pu, pw, o2, o1, o3, fun z => tn (by unfold trn; unfold cr at z; grind)⟩
    · exact ⟨hv, hw, hu, pv, pw, pu, o2, o3, o1, fun z => tn (by unfold trn; unfold cr at z; grind)⟩
    · exact ⟨hw, hu, hv, pw, pu, pv, o3, o1, o2, fun z => tn (by unfold trn; unfold cr at z; grind)⟩
    · exact ⟨hw, hv, hu, pw, pv, pu, o3, o2, o1, fun z => tn (by unfold trn; unfold cr at z; grind)⟩
  obtain ⟨k1, k2, k3, k4, k5, k6, k7, k8, k9, k10⟩ := key
  by_cases c : 0 < cr (σC 3 b - σC 3 m) (σC 4 b - σC 4 m) (σC 3 a - σC 3 m) (σC 4 a - σC 4 m)
  · exact ⟨2 * m + 1, by omega, a, m, b, l1, l2, k1, k2, k3, k4, k5, k6, k7, k8, k9, Or.inl ⟨rfl, c⟩⟩
  · exact ⟨2 * m, by omega, a, m, b, l1, l2, k1, k2, k3, k4, k5, k6, k7, k8, k9, Or.inr ⟨rfl, by omega⟩⟩
def opf (px py D A U tx ty : Int) : Int := ((px - tx) * (px - tx) + (py - ty) * (py - ty)) * D - 2 * ((tx - px) * A + (ty - py) * U)
theorem lin_id (D1 D2 A1 A2 U1 U2 ux uy vx vy mx my tx ty : Int) : (D1 * opf vx vy D2 A2 U2 tx ty - D2 * opf ux uy D1 A1 U1 tx ty) - (D1 * opf vx vy D2 A2 U2 mx my - D2 * opf ux uy D1 A1 U1 mx my) = dt (2 * (D1 * D2 * (ux - vx) - D1 * A2 + D2 * A1)) (2 * (D1 * D2 * (uy - vy) - D1 * U2 + D2 * U1)) (tx - mx) (ty - my) := by
  unfold opf dt
  grind
/-- two rounds with one mark are one -/
theorem MC.same {σ : St} {u v w u' v' w' c : Nat} (hA : Acc σ u v w) (hB : Acc σ u' v' w') (h1 : MC σ u v w c) (h2 : MC σ u' v' w' c) (t : Nat) : rD σ u v w * rO σ u' v' w' t = rD σ u' v' w' * rO σ u v w t := by
  obtain ⟨a, m, b, l1, l2, ha, hm, hb, pa, pm, pb, oa, om, ob, hc⟩ := h1
  obtain ⟨a', m', b', l1', l2', ha', hm', hb', pa', pm', pb', oa', om', ob', hc'⟩ := h2
  have em : m' = m := by omega
  subst em
  have D1 := rD_pos hA.2.2.2.2.2.2.1
  have D2 := rD_pos hB.2.2.2.2.2.2.1
  have e1 := hA.2.2.2.2.2.2.2.1
  have e2 := hB.2.2.2.2.2.2.2.1
  obtain ⟨g1, hg1⟩ : ∃ g, g = 2 * (rD σ u v w * rD σ u' v' w' * (σ 3 u - σ 3 u') - rD σ u v w * rA σ u' v' w' + rD σ u' v' w' * rA σ u v w) := ⟨_, rfl⟩
  obtain ⟨g2, hg2⟩ : ∃ g, g = 2 * (rD σ u v w * rD σ u' v' w' * (σ 4 u - σ 4 u') - rD σ u v w * rU σ u' v' w' + rD σ u' v' w' * rU σ u v w) := ⟨_, rfl⟩
  have lin : ∀ t, rD σ u v w * rO σ u' v' w' t - rD σ u' v' w' * rO σ u v w t = dt g1 g2 (σ 3 t - σ 3 m') (σ 4 t - σ 4 m') := by
    intro t
    have id := lin_id (rD σ u v w) (rD σ u' v' w') (rA σ u v w) (rA σ u' v' w') (rU σ u v w) (rU σ u' v' w') (σ 3 u) (σ 4 u) (σ 3 u') (σ 4 u') (σ 3 m') (σ 4 m') (σ 3 t) (σ 4 t)
    rw [← hg1, ← hg2] at id
    have f1 : ∀ s, opf (σ 3 u) (σ 4 u) (rD σ u v w) (rA σ u v w) (rU σ u v w) (σ 3 s) (σ 4 s) = rO σ u v w s := fun _ => rfl
    have f2 : ∀ s, opf (σ 3 u') (σ 4 u') (rD σ u' v' w') (rA σ u' v' w') (rU σ u' v' w') (σ 3 s) (σ 4 s) = rO σ u' v' w' s := fun _ => rfl
    rw [f1, f1, f2, f2, om, om', Int.mul_zero, Int.mul_zero] at id
    omega
  have pa1 : 0 ≤ dt g1 g2 (σ 3 a - σ 3 m') (σ 4 a - σ 4 m') := by
    rw [← lin a, oa, Int.mul_zero, Int.sub_zero]
    exact Int.mul_nonneg (by omega) (e2 a ha pa)
  have pb1 : 0 ≤ dt g1 g2 (σ 3 b - σ 3 m') (σ 4 b - σ 4 m') := by
    rw [← lin b, ob, Int.mul_zero, Int.sub_zero]
    exact Int.mul_nonneg (by omega) (e2 b hb pb)
  have pa2 : 0 ≤ dt (-g1) (-g2) (σ 3 a' - σ 3 m') (σ 4 a' - σ 4 m') := by
    have : dt (-g1) (-g2) (σ 3 a' - σ 3 m') (σ 4 a' - σ 4 m') = - dt g1 g2 (σ 3 a' - σ 3 m') (σ 4 a' - σ 4 m') := by unfold dt; grind
    rw [this, ← lin a', oa', Int.mul_zero]
    have := Int.mul_nonneg (show 0 ≤ rD σ u' v' w' by omega) (e1 a' ha' pa')
    omega
  have pb2 : 0 ≤ dt (-g1) (-g2) (σ 3 b' - σ 3 m') (σ 4 b' - σ 4 m') := by
    have : dt (-g1) (-g2) (σ 3 b' - σ 3 m') (σ 4 b' - σ 4 m') = - dt g1 g2 (σ 3 b' - σ 3 m') (σ 4 b' - σ 4 m') := by unfold dt; grind
    rw [this, ← lin b', ob', Int.mul_zero]
    have := Int.mul_nonneg (show 0 ≤ rD σ u' v' w' by omega) (e1 b' hb' pb')
    omega
  have gz : g1 = 0 ∧ g2 = 0 := by
    unfold lexlt at l1 l2 l1' l2'
    rcases hc with ⟨c1, c2⟩ | ⟨c1, c2⟩
    · rcases hc' with ⟨c3, c4⟩ | ⟨c3, c4⟩
      · have q1 := cone_up (by omega) (by omega) c2 pb1 pa1
        have q2 := cone_up (by omega) (by omega) c4 pb2 pa2
        omega
      · omega
    · rcases hc' with ⟨c3, c4⟩ | ⟨c3, c4⟩
      · omega
      · have n1 : ∀ x y p q : Int, dt (-x) (-y) (-p) (-q) = dt x y p q := by intro x y p q; unfold dt; grind
        have n2 : ∀ x y p q : Int, cr (-x) (-y) (-p) (-q) = - cr p q x y := by intro x y p q; unfold cr; grind
        have q1 := cone_up (b1 := -(σ 3 a - σ 3 m')) (b2 := -(σ 4 a - σ 4 m')) (a1 := -(σ 3 b - σ 3 m')) (a2 := -(σ 4 b - σ 4 m')) (g1 := -g1) (g2 := -g2) (by omega) (by omega) (by rw [n2]; omega) (by rw [n1]; exact pa1) (by rw [n1]; exact pb1)
        have q2 := cone_up (b1 := -(σ 3 a' - σ 3 m')) (b2 := -(σ 4 a' - σ 4 m')) (a1 := -(σ 3 b' - σ 3 m')) (a2 := -(σ 4 b' - σ 4 m')) (g1 := -(-g1)) (g2 := -(-g2)) (by omega) (by omega) (by rw [n2]; omega) (by rw [n1]; exact pa2) (by rw [n1]; exact pb2)
        omega
  have := lin t
  rw [gz.1, gz.2] at this
  have z : dt 0 0 (σ 3 t - σ 3 m') (σ 4 t - σ 4 m') = 0 := by unfold dt; grind
  omega
theorem MC.inj {σ : St} {u v w u' v' w' c : Nat} (hA : Acc σ u v w) (hB : Acc σ u' v' w') (h1 : MC σ u v w c) (h2 : MC σ u' v' w' c) : u = u' ∧ v = v' ∧ w = w' := by
  have D1 := rD_pos hA.2.2.2.2.2.2.1
  have D2 := rD_pos hB.2.2.2.2.2.2.1
  have s := MC.same hA hB h1 h2
  have f1 : ∀ t, rO σ u v w t = 0 → rO σ u' v' w' t = 0 := fun t z => by
    have := s t
    rw [z, Int.mul_zero] at this
    exact zero_mul_pos D1 this
  have f2 : ∀ t, rO σ u' v' w' t = 0 → rO σ u v w t = 0 := fun t z => by
    have := s t
    rw [z, Int.mul_zero] at this
    exact zero_mul_pos D2 this.symm
  obtain ⟨o1, o2, o3⟩ := rO_self σ u v w
  obtain ⟨o4, o5, o6⟩ := rO_self σ u' v' w'
  obtain ⟨uv, vw, hw, pu, pv, pw, -, -, x1⟩ := hA
  obtain ⟨uv', vw', hw', pu', pv', pw', -, -, x2⟩ := hB
  have ew : w = w' := by
    rcases (by omega : w < w' ∨ w' < w ∨ w = w') with z | z | z
    · have a1 := x2 u (by omega) pu (f1 u o1)
      have a2 := x2 v (by omega) pv (f1 v o2)
      have a3 := x2 w z pw (f1 w o3)
      omega
    · have a1 := x1 u' (by omega) pu' (f2 u' o4)
      have a2 := x1 v' (by omega) pv' (f2 v' o5)
      have a3 := x1 w' z pw' (f2 w' o6)
      omega
    · exact z
  have a1 := x2 u (by omega) pu (f1 u o1)
  have a2 := x2 v (by omega) pv (f1 v o2)
  omega
