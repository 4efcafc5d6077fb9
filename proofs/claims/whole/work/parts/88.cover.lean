/-! ===== the pure side 68: every corner is a candidate of the model ===== -/
theorem le_r {a b k : Int} (hk : 0 < k) (h : a * k ≤ b * k) : a ≤ b := Int.le_of_mul_le_mul_right h hk
theorem on_line {b c z most d : Int} (hd : 0 < d) (hb : b ≠ 0) (e : c * (2 * d) = b * z) (z0 : 0 ≤ z) (z1 : z ≤ most * (2 * d)) : 0 ≤ ns b c ∧ ns b c ≤ most * ab b ∧ ns b c * (2 * d) = z * ab b := by
  have p : 0 < ab b := by unfold ab; split <;> omega
  have e' : ns b c * (2 * d) = z * ab b := by
    unfold ns ab
    by_cases n : b < 0
    · rw [if_pos n, if_pos n]; grind
    · rw [if_neg n, if_neg n, e, Int.mul_comm]
  have n0 := Int.mul_nonneg z0 (show 0 ≤ ab b by omega)
  have d2 : 0 < 2 * d := by omega
  refine ⟨pos_mul d2 (by rw [Int.mul_comm, e']; exact n0), le_r d2 ?_, e'⟩
  rw [e']
  have := Int.mul_le_mul_of_nonneg_right z1 (show 0 ≤ ab b by omega)
  have i : most * (2 * d) * ab b = most * ab b * (2 * d) := by grind
  omega
theorem mapP.sm {σ : St} {P Q : Pt} (hQ : 0 < Q.2.2) (hs : sm P Q) (h : mapP σ P) : mapP σ Q := by
  obtain ⟨h0, h1, h2, h3, h4⟩ := h
  obtain ⟨s1, s2⟩ := hs
  have g : ∀ x y W : Int, 0 ≤ x → x ≤ W * P.2.2 → x * Q.2.2 = y * P.2.2 → 0 ≤ y ∧ y ≤ W * Q.2.2 := fun x y W a b e => by
    have n := Int.mul_nonneg a (show 0 ≤ Q.2.2 by omega)
    have m := Int.mul_le_mul_of_nonneg_right b (show 0 ≤ Q.2.2 by omega)
    refine ⟨pos_mul h0 (by rw [Int.mul_comm, ← e]; exact n), le_r h0 ?_⟩
    have i : W * Q.2.2 * P.2.2 = W * P.2.2 * Q.2.2 := by grind
    omega
  obtain ⟨a1, a2⟩ := g _ _ _ h1 h2 s1
  obtain ⟨b1, b2⟩ := g _ _ _ h3 h4 s2
  exact ⟨hQ, a1, a2, b1, b2⟩
theorem side_val {σ : St} {l : Nat} {p : Pt} (hl : l < 4) (h : fl (sdL σ l) p = 0) : (l = 0 ∧ p.2.1 = 0) ∨ (l = 1 ∧ p.1 = σ 1 0 * (2 * p.2.2)) ∨ (l = 2 ∧ p.2.1 = σ 1 1 * (2 * p.2.2)) ∨ (l = 3 ∧ p.1 = 0) := by
  unfold fl sdL at h
  have q1 : σ 1 0 * (2 * p.2.2) = 2 * σ 1 0 * p.2.2 := by grind
  have q2 : σ 1 1 * (2 * p.2.2) = 2 * σ 1 1 * p.2.2 := by grind
  rw [q1, q2]
  rcases (by omega : l = 0 ∨ l = 1 ∨ l = 2 ∨ l = 3) with y | y | y | y <;> subst y <;> simp at h ⊢ <;> omega
theorem pair_line {σ : St} {v w : Nat} {p : Pt} (h : fl (bl σ false v w) p = 0) : (bC' σ v w * (2 * p.2.2) = bA σ v w * p.1 + bB σ v w * p.2.1) ∧ bC' σ w v * (2 * p.2.2) = bA σ w v * p.1 + bB σ w v * p.2.1 := by
  unfold fl bl at h
  unfold bC' bA bB
  simp at h
  constructor <;> grind
/-- a side and a line between two wells -/
theorem side_line {σ : St} {a b l : Nat} {p : Pt} (hd : 0 < p.2.2) (hl : l < 4) (hs : fl (sdL σ l) p = 0) (hm : mapP σ (hf p)) (e : bC' σ a b * (2 * p.2.2) = bA σ a b * p.1 + bB σ a b * p.2.1) (h1 : l = 0 ∨ l = 2 → bA σ a b ≠ 0) (h2 : l = 1 ∨ l = 3 → bB σ a b ≠ 0) : ∃ X, TS σ a b X ∧ sm X (hf p) := by
  obtain ⟨-, m1, m2, m3, m4⟩ := hm
  have m1' : 0 ≤ p.1 := m1
  have m2' : p.1 ≤ σ 1 0 * (2 * p.2.2) := m2
  have m3' : 0 ≤ p.2.1 := m3
  have m4' : p.2.1 ≤ σ 1 1 * (2 * p.2.2) := m4
  have hx : ∀ t, p.1 = t * (2 * p.2.2) → bB σ a b ≠ 0 → ∃ X, TO (bB σ a b) (bC' σ a b - bA σ a b * t) t (σ 1 1) true X ∧ sm X (hf p) := fun t et nb => by
    have e' : (bC' σ a b - bA σ a b * t) * (2 * p.2.2) = bB σ a b * p.2.1 := by
      rw [Int.sub_mul, e, et]; grind
    obtain ⟨o1, o2, o3⟩ := on_line hd nb e' m3' m4'
    refine ⟨_, ⟨nb, o1, o2, rfl⟩, ?_, ?_⟩
    · show t * ab (bB σ a b) * (2 * p.2.2) = p.1 * ab (bB σ a b)
      rw [et]; grind
    · exact o3
  have hy : ∀ t, p.2.1 = t * (2 * p.2.2) → bA σ a b ≠ 0 → ∃ X, TO (bA σ a b) (bC' σ a b - bB σ a b * t) t (σ 1 0) false X ∧ sm X (hf p) := fun t et nb => by
    have e' : (bC' σ a b - bB σ a b * t) * (2 * p.2.2) = bA σ a b * p.1 := by
      rw [Int.sub_mul, e, et]; grind
    obtain ⟨o1, o2, o3⟩ := on_line hd nb e' m1' m2'
    refine ⟨_, ⟨nb, o1, o2, rfl⟩, ?_, ?_⟩
    · exact o3
    · show t * ab (bA σ a b) * (2 * p.2.2) = p.2.1 * ab (bA σ a b)
      rw [et]; grind
  rcases side_val hl hs with ⟨y, z⟩ | ⟨y, z⟩ | ⟨y, z⟩ | ⟨y, z⟩
  · obtain ⟨X, x1, x2⟩ := hy 0 (by rw [z, Int.zero_mul]) (h1 (Or.inl y))
    exact ⟨X, Or.inl (Or.inr x1), x2⟩
  · obtain ⟨X, x1, x2⟩ := hx (σ 1 0) z (h2 (Or.inl y))
    exact ⟨X, Or.inr (Or.inl x1), x2⟩
  · obtain ⟨X, x1, x2⟩ := hy (σ 1 1) z (h1 (Or.inr y))
    exact ⟨X, Or.inr (Or.inr x1), x2⟩
  · obtain ⟨X, x1, x2⟩ := hx 0 (by rw [z, Int.zero_mul]) (h2 (Or.inr y))
    exact ⟨X, Or.inl (Or.inl x1), x2⟩
theorem two_sides {σ : St} {l1 l2 : Nat} {p : Pt} (h1 : l1 < 4) (h2 : l2 < 4) (f1 : fl (sdL σ l1) p = 0) (f2 : fl (sdL σ l2) p = 0) (hp : par (sdL σ l1) (sdL σ l2) ≠ 0) : ∃ k, k < 4 ∧ sm (cnr σ k) (hf p) := by
  unfold sm cnr hf
  dsimp only
  unfold par sdL at hp
  rcases side_val h1 f1 with ⟨y, z⟩ | ⟨y, z⟩ | ⟨y, z⟩ | ⟨y, z⟩ <;> rcases side_val h2 f2 with ⟨y', z'⟩ | ⟨y', z'⟩ | ⟨y', z'⟩ | ⟨y', z'⟩ <;> subst y <;> subst y' <;> simp at hp
  · exact ⟨1, by omega, by simp; omega⟩
  · exact ⟨0, by omega, by simp; omega⟩
  · exact ⟨1, by omega, by simp; omega⟩
  · exact ⟨2, by omega, by simp; omega⟩
  · exact ⟨2, by omega, by simp; omega⟩
  · exact ⟨3, by omega, by simp; omega⟩
  · exact ⟨0, by omega, by simp; omega⟩
  · exact ⟨3, by omega, by simp; omega⟩
/-- three of one distance are on no line -/
theorem turn_nz {ax ay bx b_ cx c_ x y d : Int} (hd : 0 < d) (e1 : ((bx * bx + b_ * b_) - (ax * ax + ay * ay) + 0) * d - (bx - ax) * x - (b_ - ay) * y = 0) (e2 : ((cx * cx + c_ * c_) - (ax * ax + ay * ay) + 0) * d - (cx - ax) * x - (c_ - ay) * y = 0) (nb : bx - ax ≠ 0 ∨ b_ - ay ≠ 0) (nc : cx - ax ≠ 0 ∨ c_ - ay ≠ 0) (ne : cx - bx ≠ 0 ∨ c_ - b_ ≠ 0) : (bx - ax) * (c_ - ay) - (b_ - ay) * (cx - ax) ≠ 0 := by
  intro z
  obtain ⟨B, eB⟩ : ∃ B, B = bx - ax := ⟨_, rfl⟩
  obtain ⟨B', eB'⟩ : ∃ B, B = b_ - ay := ⟨_, rfl⟩
  obtain ⟨C, eC⟩ : ∃ B, B = cx - ax := ⟨_, rfl⟩
  obtain ⟨C', eC'⟩ : ∃ B, B = c_ - ay := ⟨_, rfl⟩
  obtain ⟨q, eq⟩ : ∃ B, B = x - 2 * d * ax := ⟨_, rfl⟩
  obtain ⟨q', eq'⟩ : ∃ B, B = y - 2 * d * ay := ⟨_, rfl⟩
  have g1 : (B * B + B' * B') * d = B * q + B' * q' := by subst eB eB' eq eq'; grind
  have g2 : (C * C + C' * C') * d = C * q + C' * q' := by subst eC eC' eq eq'; grind
  have z' : B * C' - B' * C = 0 := by subst eB eB' eC eC'; exact z
  have pos : ∀ u v : Int, u ≠ 0 ∨ v ≠ 0 → 0 < u * u + v * v := fun u v hn => by
    have n1 := sq_nn u
    have n2 := sq_nn v
    have : u * u + v * v ≠ 0 := fun e => by
      have := sq_z (show u * u = 0 by omega)
      have := sq_z (show v * v = 0 by omega)
      omega
    omega
  have pB := pos B B' (by rw [eB, eB']; exact nb)
  have pC := pos C C' (by rw [eC, eC']; exact nc)
  have k1 : (B * B + B' * B') * (d * ((C * C + C' * C') - (B * C + B' * C'))) = 0 := by
    have i1 : (B * B + B' * B') * (C * q + C' * q') = (B * C + B' * C') * (B * q + B' * q') + (B * C' - B' * C) * (B * q' - B' * q) := by grind
    rw [← g1, ← g2, z', Int.zero_mul, Int.add_zero] at i1
    grind
  have k2 : (C * C + C' * C') * (d * ((B * B + B' * B') - (B * C + B' * C'))) = 0 := by
    have i1 : (C * C + C' * C') * (B * q + B' * q') = (B * C + B' * C') * (C * q + C' * q') - (B * C' - B' * C) * (C * q' - C' * q) := by grind
    rw [← g1, ← g2, z', Int.zero_mul, Int.sub_zero] at i1
    grind
  have cz : ∀ m n k : Int, 0 < m → 0 < n → m * (n * k) = 0 → k = 0 := fun m n k hm hn e => by
    rcases Int.mul_eq_zero.mp e with y | y
    · omega
    · rcases Int.mul_eq_zero.mp y with y | y <;> omega
  have r1 := cz _ _ _ pB hd k1
  have r2 := cz _ _ _ pC hd k2
  have last := pos (C - B) (C' - B') (by rw [eC, eB, eC', eB']; omega)
  have i : (C - B) * (C - B) + (C' - B') * (C' - B') = ((C * C + C' * C') - (B * C + B' * C')) + ((B * B + B' * B') - (B * C + B' * C')) := by grind
  omega
/-- the three least of three or more -/
theorem three_least {z : Nat → Bool} {w v u n : Nat} (hw : w < n) (hv : v < n) (hu : u < n) (a : v ≠ w) (b : u ≠ w) (c : v ≠ u) (zw : z w = true) (zv : z v = true) (zu : z u = true) : ∃ i j k, i < j ∧ j < k ∧ k < n ∧ z i = true ∧ z j = true ∧ z k = true ∧ ∀ t, t < k → z t = true → t = i ∨ t = j := by
  have so : ∀ x y t : Nat, x < y → y < t → t < n → z x = true → z y = true → z t = true → 2 < ct z n := fun x y t h1 h2 h3 q1 q2 q3 => by
    have := ct_lt q1 h1
    have := ct_lt q2 h2
    have := ct_lt q3 h3
    omega
  have big : 2 < ct z n := by
    rcases (by omega : (w < v ∧ v < u) ∨ (w < u ∧ u < v) ∨ (v < w ∧ w < u) ∨ (v < u ∧ u < w) ∨ (u < w ∧ w < v) ∨ (u < v ∧ v < w)) with ⟨h1, h2⟩ | ⟨h1, h2⟩ | ⟨h1, h2⟩ | ⟨h1, h2⟩ | ⟨h1, h2⟩ | ⟨h1, h2⟩
    · exact so _ _ _ h1 h2 hu zw zv zu
    · exact so _ _ _ h1 h2 hv zw zu zv
    · exact so _ _ _ h1 h2 hu zv zw zu
    · exact so _ _ _ h1 h2 hw zv zu zw
    · exact so _ _ _ h1 h2 hv zu zw zv
    · exact so _ _ _ h1 h2 hw zu zv zw
  obtain ⟨i, i1, i2, i3⟩ := ct_kth (show 0 < ct z n by omega)
  obtain ⟨j, j1, j2, j3⟩ := ct_kth (show 1 < ct z n by omega)
  obtain ⟨k, k1, k2, k3⟩ := ct_kth big
  have lt : ∀ x y : Nat, z y = true → ct z x < ct z y → x < y := fun x y zy h => by
    rcases Nat.lt_or_ge x y with q | q
    · exact q
    · rcases Nat.lt_or_ge y x with q' | q'
      · have := ct_lt zy q'; omega
      · have : x = y := by omega
        rw [this] at h; omega
  refine ⟨i, j, k, lt _ _ j2 (by omega), lt _ _ k2 (by omega), k1, i2, j2, k2, fun t ht zt => ?_⟩
  have := ct_lt zt ht
  rcases (by omega : ct z t = 0 ∨ ct z t = 1) with q | q
  · exact Or.inl (ct_inj zt i2 (by omega))
  · exact Or.inr (ct_inj zt j2 (by omega))
