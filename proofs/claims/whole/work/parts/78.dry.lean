/-! ===== the pure side 58: the farthest points ===== -/
/-- the square of the distance from a well, times the square of what is below -/
def wsq (σ : St) (P : Pt) (w : Nat) : Int := (P.1 - P.2.2 * σ 3 w) * (P.1 - P.2.2 * σ 3 w) + (P.2.1 - P.2.2 * σ 4 w) * (P.2.1 - P.2.2 * σ 4 w)
def NEa (σ : St) (P : Pt) (w : Nat) : Prop := w < 24 ∧ pC σ w = true ∧ ∀ u, u < 24 → pC σ u = true → wsq σ P w ≤ wsq σ P u
theorem sq_z {a : Int} (h : a * a = 0) : a = 0 := by
  rcases Int.mul_eq_zero.mp h with z | z <;> exact z
theorem cv_id (D D' U V U' V' : Int) : 2 * (D' * (D' * (U * U + V * V) - D * (U * U' + V * V'))) = ((D * U' - D' * U) * (D * U' - D' * U) + (D * V' - D' * V) * (D * V' - D' * V)) + ((U * U + V * V) * (D' * D') - (U' * U' + V' * V') * (D * D)) := by grind
theorem cv_sum (a b c s D U V D1 U1 V1 D2 U2 V2 D3 U3 V3 : Int) (h1 : s * D = a * D1 + b * D2 + c * D3) (h2 : s * U = a * U1 + b * U2 + c * U3) (h3 : s * V = a * V1 + b * V2 + c * V3) : a * (D1 * (U * U + V * V) - D * (U * U1 + V * V1)) + b * (D2 * (U * U + V * V) - D * (U * U2 + V * V2)) + c * (D3 * (U * U + V * V) - D * (U * U3 + V * V3)) = 0 := by
  have e : a * (D1 * (U * U + V * V) - D * (U * U1 + V * V1)) + b * (D2 * (U * U + V * V) - D * (U * U2 + V * V2)) + c * (D3 * (U * U + V * V) - D * (U * U3 + V * V3)) = (a * D1 + b * D2 + c * D3) * (U * U + V * V) - D * (U * (a * U1 + b * U2 + c * U3) + V * (a * V1 + b * V2 + c * V3)) := by grind
  rw [e, ← h1, ← h2, ← h3]
  grind
theorem u_lin (s x d a x1 d1 b x2 d2 c x3 d3 k : Int) (h1 : s * x = a * x1 + b * x2 + c * x3) (h2 : s * d = a * d1 + b * d2 + c * d3) : s * (x - d * k) = a * (x1 - d1 * k) + b * (x2 - d2 * k) + c * (x3 - d3 * k) := by
  have e : s * (x - d * k) = s * x - (s * d) * k := by grind
  rw [e, h1, h2]; grind
theorem u_sm (x d x' d' k : Int) (h : d * (x' - d' * k) - d' * (x - d * k) = 0) : x * d' = x' * d := by grind
/-- how a corner stands to a point: farther, or on the right side -/
theorem cv_one {σ : St} {P Q : Pt} (w : Nat) (hP : 0 < P.2.2) (hQ : 0 < Q.2.2) : wsq σ P w * (Q.2.2 * Q.2.2) < wsq σ Q w * (P.2.2 * P.2.2) ∨ ∀ T, T = Q.2.2 * ((P.1 - P.2.2 * σ 3 w) * (P.1 - P.2.2 * σ 3 w) + (P.2.1 - P.2.2 * σ 4 w) * (P.2.1 - P.2.2 * σ 4 w)) - P.2.2 * ((P.1 - P.2.2 * σ 3 w) * (Q.1 - Q.2.2 * σ 3 w) + (P.2.1 - P.2.2 * σ 4 w) * (Q.2.1 - Q.2.2 * σ 4 w)) → 0 ≤ T ∧ (T = 0 → sm P Q) := by
  by_cases c : wsq σ P w * (Q.2.2 * Q.2.2) < wsq σ Q w * (P.2.2 * P.2.2)
  · exact Or.inl c
  · right
    intro T hT
    have i := cv_id P.2.2 Q.2.2 (P.1 - P.2.2 * σ 3 w) (P.2.1 - P.2.2 * σ 4 w) (Q.1 - Q.2.2 * σ 3 w) (Q.2.1 - Q.2.2 * σ 4 w)
    rw [← hT] at i
    have s1 := sq_nn (P.2.2 * (Q.1 - Q.2.2 * σ 3 w) - Q.2.2 * (P.1 - P.2.2 * σ 3 w))
    have s2 := sq_nn (P.2.2 * (Q.2.1 - Q.2.2 * σ 4 w) - Q.2.2 * (P.2.1 - P.2.2 * σ 4 w))
    unfold wsq at c
    have T0 : 0 ≤ Q.2.2 * T := by omega
    refine ⟨pos_mul hQ T0, fun z => ?_⟩
    rw [z, Int.mul_zero, Int.mul_zero] at i
    exact ⟨u_sm _ _ _ _ (σ 3 w) (sq_z (by omega)), u_sm _ _ _ _ (σ 4 w) (sq_z (by omega))⟩
theorem wz {a x : Int} (ha : 0 ≤ a) (h : 0 < a → 0 ≤ x) : 0 ≤ a * x := by
  by_cases c : 0 < a
  · exact Int.mul_nonneg ha (h c)
  · rw [show a = 0 by omega, Int.zero_mul]; omega
/-- a point put together from three is no farther than the farthest of them -/
theorem cvx {σ : St} {P Q1 Q2 Q3 : Pt} {a b c s : Int} (w : Nat) (hP : 0 < P.2.2) (h1 : 0 < Q1.2.2) (h2 : 0 < Q2.2.2) (h3 : 0 < Q3.2.2) (a0 : 0 ≤ a) (b0 : 0 ≤ b) (c0 : 0 ≤ c) (s0 : 0 < s) (e1 : s * P.1 = a * Q1.1 + b * Q2.1 + c * Q3.1) (e2 : s * P.2.1 = a * Q1.2.1 + b * Q2.2.1 + c * Q3.2.1) (e3 : s * P.2.2 = a * Q1.2.2 + b * Q2.2.2 + c * Q3.2.2) : ∃ Q, (Q = Q1 ∨ Q = Q2 ∨ Q = Q3) ∧ (wsq σ P w * (Q.2.2 * Q.2.2) < wsq σ Q w * (P.2.2 * P.2.2) ∨ sm P Q) := by
  rcases cv_one (σ := σ) w hP h1 with z1 | z1
  · exact ⟨Q1, Or.inl rfl, Or.inl z1⟩
  · rcases cv_one (σ := σ) w hP h2 with z2 | z2
    · exact ⟨Q2, Or.inr (Or.inl rfl), Or.inl z2⟩
    · rcases cv_one (σ := σ) w hP h3 with z3 | z3
      · exact ⟨Q3, Or.inr (Or.inr rfl), Or.inl z3⟩
      · obtain ⟨t1, y1⟩ := z1 _ rfl
        obtain ⟨t2, y2⟩ := z2 _ rfl
        obtain ⟨t3, y3⟩ := z3 _ rfl
        have sum := cv_sum a b c s _ _ _ _ _ _ _ _ _ _ _ _ e3 (u_lin _ _ _ _ _ _ _ _ _ _ _ _ (σ 3 w) e1 e3) (u_lin _ _ _ _ _ _ _ _ _ _ _ _ (σ 4 w) e2 e3)
        obtain ⟨x1, x2, x3⟩ := three_zero a0 b0 c0 t1 t2 t3 sum
        have pos := Int.mul_pos s0 hP
        by_cases ca : 0 < a
        · exact ⟨Q1, Or.inl rfl, Or.inr (y1 (x1 ca))⟩
        · by_cases cb : 0 < b
          · exact ⟨Q2, Or.inr (Or.inl rfl), Or.inr (y2 (x2 cb))⟩
          · by_cases cc : 0 < c
            · exact ⟨Q3, Or.inr (Or.inr rfl), Or.inr (y3 (x3 cc))⟩
            · exfalso
              rw [e3, show a = 0 by omega, show b = 0 by omega, show c = 0 by omega] at pos
              simp at pos
/-- a line of the ground of w, with nothing taken off -/
def cu (σ : St) (w l : Nat) : Pt := if l < 4 then sdL σ l else bl σ false (l - 4) w
theorem lnOK.cuc {σ : St} {w l : Nat} {Ln : Nat → Pt} (h : lnOK σ false w 24 Ln) (hl : LSn σ w 24 l) : Ln l = cu σ w l := by
  unfold cu
  rcases hl with z | ⟨v, v1, v2, v3, v4, v5⟩
  · rw [if_pos z]; exact h.1 l z
  · rw [if_neg (by omega), v5, show 4 + v - 4 = v by omega]; exact h.2 v v1 v2 v3 v4
theorem cu_ok {σC σM : St} (h : Rw σC σM) {w l : Nat} (hw : w < 24) (pw : pC σC w = true) (hl : LSn σC w 24 l) : okL (cu σC w l) ∧ nzL (cu σC w l) := by
  unfold cu
  rcases hl with z | ⟨v, v1, v2, v3, v4, v5⟩
  · have := cl_ok h hw pw (Or.inl z)
    unfold cl at this
    rw [if_pos z] at this
    rw [if_pos z]; exact this
  · rw [if_neg (by omega), v5, show 4 + v - 4 = v by omega]; exact bl_ok h false v2 hw v4 pw v3
theorem bis_id (x y d vx vy wx wy : Int) : ((x - 2 * d * vx) * (x - 2 * d * vx) + (y - 2 * d * vy) * (y - 2 * d * vy)) - ((x - 2 * d * wx) * (x - 2 * d * wx) + (y - 2 * d * wy) * (y - 2 * d * wy)) = (4 * d) * (((vx * vx + vy * vy) - (wx * wx + wy * wy) + 0) * d - (vx - wx) * x - (vy - wy) * y) := by grind
theorem bis_eq (σ : St) (p : Pt) (v w : Nat) : wsq σ (hf p) v - wsq σ (hf p) w = (4 * p.2.2) * fl (bl σ false v w) p := bis_id p.1 p.2.1 p.2.2 (σ 3 v) (σ 4 v) (σ 3 w) (σ 4 w)
/-- within the map, in the model's measure -/
def mapP (σ : St) (P : Pt) : Prop := 0 < P.2.2 ∧ 0 ≤ P.1 ∧ P.1 ≤ σ 1 0 * P.2.2 ∧ 0 ≤ P.2.1 ∧ P.2.1 ≤ σ 1 1 * P.2.2
theorem cell_iff {σ : St} {w : Nat} {p : Pt} (hw : w < 24) (pw : pC σ w = true) (hp : 0 < p.2.2) : (∀ l, LSn σ w 24 l → 0 ≤ fl (cu σ w l) p) ↔ (mapP σ (hf p) ∧ NEa σ (hf p) w) := by
  have sd : ∀ l, l < 4 → fl (cu σ w l) p = if l = 0 then p.2.1 else if l = 1 then 2 * σ 1 0 * p.2.2 - p.1 else if l = 2 then 2 * σ 1 1 * p.2.2 - p.2.1 else p.1 := fun l hl => by
    unfold cu fl sdL
    rw [if_pos hl]
    rcases (by omega : l = 0 ∨ l = 1 ∨ l = 2 ∨ l = 3) with z | z | z | z <;> rw [z] <;> simp
  have q1 : σ 1 0 * (2 * p.2.2) = 2 * σ 1 0 * p.2.2 := by grind
  have q2 : σ 1 1 * (2 * p.2.2) = 2 * σ 1 1 * p.2.2 := by grind
  constructor
  · intro h
    have h0 := h 0 (Or.inl (by omega))
    have h1 := h 1 (Or.inl (by omega))
    have h2 := h 2 (Or.inl (by omega))
    have h3 := h 3 (Or.inl (by omega))
    rw [sd _ (by omega)] at h0 h1 h2 h3
    simp at h0 h1 h2 h3
    refine ⟨⟨?_, h3, ?_, h0, ?_⟩, hw, pw, fun u hu pu => ?_⟩
    · show 0 < 2 * p.2.2; omega
    · show p.1 ≤ σ 1 0 * (2 * p.2.2); rw [q1]; omega
    · show p.2.1 ≤ σ 1 1 * (2 * p.2.2); rw [q2]; omega
    · by_cases e : u = w
      · rw [e]; omega
      · have f := h (4 + u) (Or.inr ⟨u, hu, hu, e, pu, rfl⟩)
        unfold cu at f
        rw [if_neg (by omega), show 4 + u - 4 = u by omega] at f
        have i := bis_eq σ p u w
        have := Int.mul_nonneg (show 0 ≤ 4 * p.2.2 by omega) f
        omega
  · rintro ⟨⟨-, m1, m2, m3, m4⟩, -, -, ne⟩ l hl
    have m2' : p.1 ≤ σ 1 0 * (2 * p.2.2) := m2
    have m4' : p.2.1 ≤ σ 1 1 * (2 * p.2.2) := m4
    have m1' : 0 ≤ p.1 := m1
    have m3' : 0 ≤ p.2.1 := m3
    rw [q1] at m2'
    rw [q2] at m4'
    rcases hl with z | ⟨v, v1, v2, v3, v4, v5⟩
    · rw [sd l z]
      rcases (by omega : l = 0 ∨ l = 1 ∨ l = 2 ∨ l = 3) with y | y | y | y <;> rw [y] <;> simp <;> omega
    · rw [v5]
      unfold cu
      rw [if_neg (by omega), show 4 + v - 4 = v by omega]
      have i := bis_eq σ p v w
      have n := ne v v2 v4
      exact pos_mul (show 0 < 4 * p.2.2 by omega) (by omega)
/-- a corner of the ground of w, with nothing taken off -/
def VX (σ : St) (w : Nat) (p : Pt) : Prop := w < 24 ∧ pC σ w = true ∧ 0 < p.2.2 ∧ (∀ l, LSn σ w 24 l → 0 ≤ fl (cu σ w l) p) ∧ ∃ l1 l2, LSn σ w 24 l1 ∧ LSn σ w 24 l2 ∧ fl (cu σ w l1) p = 0 ∧ fl (cu σ w l2) p = 0 ∧ par (cu σ w l1) (cu σ w l2) ≠ 0
theorem VX.near {σ : St} {w : Nat} {p : Pt} (h : VX σ w p) : mapP σ (hf p) ∧ NEa σ (hf p) w := (cell_iff h.1 h.2.1 h.2.2.1).mp h.2.2.2.1
/-- the ground's outline, for one who has not drawn it -/
theorem cell_of {σC σM : St} (h : Rw σC σM) (hO : GO σC 42) {w : Nat} (hw : w < 24) (pw : pC σC w = true) : ∃ (q : Nat → Pt) (E : Nat → Nat) (m : Nat), OUT (cu σC w) (LSn σC w 24) q E m ∧ TT (cu σC w) (LSn σC w 24) q m ∧ ∀ i, i < m → okP (q i) := by
  obtain ⟨υ, -, -, -, -, g, -⟩ := draw_spec h (g := 42) false (by omega) hO hw
  obtain ⟨o, s, m, f, E, -, -, -, -, -, b6, b7, b8, -, -, -, b12⟩ := g pw
  refine ⟨ptO υ o, E, m, b8.cong (fun l hl => (b7.cuc hl).symm), fun k hk => ?_, b6⟩
  obtain ⟨l1, l2, y1, y2, y3, y4, y5⟩ := b12 k hk
  rw [b7.cuc y1] at y3 y5
  rw [b7.cuc y2] at y4 y5
  exact ⟨l1, l2, y1, y2, y3, y4, y5⟩
theorem wsq_2 (σ : St) (P : Pt) (w : Nat) : wsq σ (2 * P.1, 2 * P.2.1, 2 * P.2.2) w = 4 * wsq σ P w := by unfold wsq; grind
theorem val_2 (a b c d : Int) (h : 4 * a * b < c * (2 * d * (2 * d))) : a * b < c * (d * d) := by
  have e1 : 4 * a * b = 4 * (a * b) := by grind
  have e2 : c * (2 * d * (2 * d)) = 4 * (c * (d * d)) := by grind
  omega
/-- no point of the map is farther than all corners -/
theorem dom {σC σM : St} (h : Rw σC σM) (hO : GO σC 42) {P : Pt} {w : Nat} (hP : mapP σC P) (hw : NEa σC P w) : ∃ p, VX σC w p ∧ okP p ∧ (wsq σC P w * ((hf p).2.2 * (hf p).2.2) < wsq σC (hf p) w * (P.2.2 * P.2.2) ∨ sm P (hf p)) := by
  obtain ⟨w24, pw, near⟩ := id hw
  obtain ⟨q, E, m, oo, tt, ok⟩ := cell_of h hO w24 pw
  obtain ⟨p0, m1, m2, m3, m4⟩ := id hP
  have d2 : 0 < ((2 * P.1, 2 * P.2.1, P.2.2) : Pt).2.2 := p0
  have fe := (cell_iff (σ := σC) (w := w) (p := (2 * P.1, 2 * P.2.1, P.2.2)) w24 pw d2).mpr ⟨⟨by show 0 < 2 * P.2.2; omega, by show 0 ≤ 2 * P.1; omega, by
      show 2 * P.1 ≤ σC 1 0 * (2 * P.2.2)
      have : σC 1 0 * (2 * P.2.2) = 2 * (σC 1 0 * P.2.2) := by grind
      omega, by show 0 ≤ 2 * P.2.1; omega, by
      show 2 * P.2.1 ≤ σC 1 1 * (2 * P.2.2)
      have : σC 1 1 * (2 * P.2.2) = 2 * (σC 1 1 * P.2.2) := by grind
      omega⟩, w24, pw, fun u hu pu => by
      have e1 := wsq_2 σC P w
      have e2 := wsq_2 σC P u
      have := near u hu pu
      show wsq σC (2 * P.1, 2 * P.2.1, 2 * P.2.2) w ≤ wsq σC (2 * P.1, 2 * P.2.1, 2 * P.2.2) u
      omega⟩
  obtain ⟨i, j, k, hi, hj, hk, a, b, c, s, a0, b0, c0, s0, e1, e2, e3⟩ := oo.2.2.1 _ d2 fe
  have Q0 : ∀ i, i < m → 0 < (hf (q i)).2.2 := fun i hi => by
    have := oo.1 i hi
    show 0 < 2 * (q i).2.2
    omega
  obtain ⟨Q, Q1, Q2⟩ := cvx (σ := σC) (P := (2 * P.1, 2 * P.2.1, 2 * P.2.2)) (Q1 := hf (q i)) (Q2 := hf (q j)) (Q3 := hf (q k)) w (by show 0 < 2 * P.2.2; omega) (Q0 i hi) (Q0 j hj) (Q0 k hk) a0 b0 c0 s0 e1 e2 (by
    show s * (2 * P.2.2) = a * (2 * (q i).2.2) + b * (2 * (q j).2.2) + c * (2 * (q k).2.2)
    have : s * P.2.2 = a * (q i).2.2 + b * (q j).2.2 + c * (q k).2.2 := e3
    have e : s * (2 * P.2.2) = 2 * (s * P.2.2) := by grind
    rw [e, this]; grind)
  obtain ⟨t, ht, rfl⟩ : ∃ t, t < m ∧ Q = hf (q t) := by
    rcases Q1 with z | z | z
    · exact ⟨i, hi, z⟩
    · exact ⟨j, hj, z⟩
    · exact ⟨k, hk, z⟩
  refine ⟨q t, ⟨w24, pw, oo.1 t ht, fun l hl => oo.2.1 l hl t ht, tt t ht⟩, ok t ht, ?_⟩
  rcases Q2 with z | z
  · left
    rw [wsq_2] at z
    exact val_2 _ _ _ _ z
  · right
    have z1 : 2 * P.1 * (hf (q t)).2.2 = (hf (q t)).1 * (2 * P.2.2) := z.1
    have z2 : 2 * P.2.1 * (hf (q t)).2.2 = (hf (q t)).2.1 * (2 * P.2.2) := z.2
    have g : ∀ x y u v : Int, 2 * x * y = u * (2 * v) → x * y = u * v := fun x y u v e => by
      have e1 : 2 * x * y = 2 * (x * y) := by grind
      have e2 : u * (2 * v) = 2 * (u * v) := by grind
      omega
    exact ⟨g _ _ _ _ z1, g _ _ _ _ z2⟩
