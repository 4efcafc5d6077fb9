/-! ===== the pure side 44: a drawn ground ===== -/
/-- p comes before q: by x, then by y -/
def bef (p q : Pt) : Prop := p.1 * q.2.2 - q.1 * p.2.2 < 0 ∨ (p.1 * q.2.2 - q.1 * p.2.2 = 0 ∧ p.2.1 * q.2.2 < q.2.1 * p.2.2)
theorem bef.trans {p q r : Pt} (hp : 0 < p.2.2) (hq : 0 < q.2.2) (hr : 0 < r.2.2) (h1 : bef p q) (h2 : bef q r) : bef p r := by
  have i1 : q.2.2 * (p.1 * r.2.2 - r.1 * p.2.2) = r.2.2 * (p.1 * q.2.2 - q.1 * p.2.2) + p.2.2 * (q.1 * r.2.2 - r.1 * q.2.2) := by grind
  have i2 : q.2.2 * (r.2.1 * p.2.2 - p.2.1 * r.2.2) = r.2.2 * (q.2.1 * p.2.2 - p.2.1 * q.2.2) + p.2.2 * (r.2.1 * q.2.2 - q.2.1 * r.2.2) := by grind
  unfold bef at *
  generalize p.1 * q.2.2 - q.1 * p.2.2 = A at *
  generalize q.1 * r.2.2 - r.1 * q.2.2 = B at *
  generalize p.1 * r.2.2 - r.1 * p.2.2 = C at *
  have neg : A ≤ 0 ∧ B ≤ 0 := by omega
  have m1 := Int.mul_nonneg (show 0 ≤ r.2.2 by omega) (show 0 ≤ -A by omega)
  have m2 := Int.mul_nonneg (show 0 ≤ p.2.2 by omega) (show 0 ≤ -B by omega)
  rw [Int.mul_neg] at m1 m2
  by_cases c : A < 0 ∨ B < 0
  · left
    have : 0 < q.2.2 * (-C) := by
      rw [Int.mul_neg]
      rcases c with z | z
      · have := Int.mul_pos hr (show 0 < -A by omega)
        rw [Int.mul_neg] at this
        omega
      · have := Int.mul_pos hp (show 0 < -B by omega)
        rw [Int.mul_neg] at this
        omega
    have := pos_mul' hq this
    omega
  · right
    have a0 : A = 0 := by omega
    have b0 : B = 0 := by omega
    rw [a0, b0] at i1
    have c0 : C = 0 := zero_mul_pos hq (by rw [i1]; omega)
    refine ⟨c0, ?_⟩
    have y1 : 0 < q.2.1 * p.2.2 - p.2.1 * q.2.2 := by omega
    have y2 : 0 < r.2.1 * q.2.2 - q.2.1 * r.2.2 := by omega
    have := Int.mul_pos hr y1
    have := Int.mul_pos hp y2
    have := pos_mul' hq (show 0 < q.2.2 * (r.2.1 * p.2.2 - p.2.1 * r.2.2) by omega)
    omega
theorem bef.irr {p : Pt} : ¬ bef p p := by
  unfold bef
  omega
theorem bef_spec {τ : St} {g o s i j : Nat} (hG : GD g o s) (hi : i < 28) (hj : j < 28) (h1 : okP (ptO τ o i)) (h2 : okP (ptO τ o j)) : (bef (ptO τ o i) (ptO τ o j) ∧ f_X4_isBefore τ o (i : Int) (j : Int) = some 1) ∨ (¬ bef (ptO τ o i) (ptO τ o j) ∧ f_X4_isBefore τ o (i : Int) (j : Int) = some 0) := by
  obtain ⟨n1, n2⟩ := hG.ln
  obtain ⟨a1, a2, a3, a4, a5, a6⟩ := h1
  obtain ⟨b1, b2, b3, b4, b5, b6⟩ := h2
  have m1 := mul_bd (a := (ptO τ o i).1) (b := (ptO τ o j).2.2) (A := 4000000000) (B := 2000000) (by omega) (by omega) (by omega) (by omega)
  have m2 := mul_bd (a := (ptO τ o j).1) (b := (ptO τ o i).2.2) (A := 4000000000) (B := 2000000) (by omega) (by omega) (by omega) (by omega)
  have m3 := mul_bd (a := (ptO τ o i).2.1) (b := (ptO τ o j).2.2) (A := 4000000000) (B := 2000000) (by omega) (by omega) (by omega) (by omega)
  have m4 := mul_bd (a := (ptO τ o j).2.1) (b := (ptO τ o i).2.2) (A := 4000000000) (B := 2000000) (by omega) (by omega) (by omega) (by omega)
  have st : f_X4_isBefore τ o (i : Int) (j : Int) = jz (jchk (inL ((ptO τ o i).1 * (ptO τ o j).2.2 - (ptO τ o j).1 * (ptO τ o i).2.2) ∧ inL 0) (if (ptO τ o i).1 * (ptO τ o j).2.2 - (ptO τ o j).1 * (ptO τ o i).2.2 < 0 then some 1 else jchk (inL ((ptO τ o i).1 * (ptO τ o j).2.2 - (ptO τ o j).1 * (ptO τ o i).2.2) ∧ inL 0) (if (ptO τ o i).1 * (ptO τ o j).2.2 - (ptO τ o j).1 * (ptO τ o i).2.2 = 0 then jchk (inL ((ptO τ o i).2.1 * (ptO τ o j).2.2) ∧ inL ((ptO τ o j).2.1 * (ptO τ o i).2.2)) (if (ptO τ o i).2.1 * (ptO τ o j).2.2 < (ptO τ o j).2.1 * (ptO τ o i).2.2 then some 1 else some 0) else some 0))) := by
    rw [f_X4_isBefore, f_X4_isBefore_b0, n1, jc_ix (by omega) (by omega), jc_ix (by omega) (by omega), jc_ix (by omega) (by omega), jc_ix (by omega) (by omega), jlet_v, jc_ix (by omega) (by omega), jc_ix (by omega) (by omega), jc_ix (by omega) (by omega), jc_ix (by omega) (by omega), cast_n, cast_n]
    rfl
  rw [st, jc_LL (by omega) (by omega) (by omega) (by omega)]
  unfold bef
  by_cases c1 : (ptO τ o i).1 * (ptO τ o j).2.2 - (ptO τ o j).1 * (ptO τ o i).2.2 < 0
  · rw [if_pos c1]
    exact Or.inl ⟨Or.inl c1, rfl⟩
  · rw [if_neg c1, jc_LL (by omega) (by omega) (by omega) (by omega)]
    by_cases c2 : (ptO τ o i).1 * (ptO τ o j).2.2 - (ptO τ o j).1 * (ptO τ o i).2.2 = 0
    · rw [if_pos c2, jc_LL (by omega) (by omega) (by omega) (by omega)]
      by_cases c3 : (ptO τ o i).2.1 * (ptO τ o j).2.2 < (ptO τ o j).2.1 * (ptO τ o i).2.2
      · rw [if_pos c3]
        exact Or.inl ⟨Or.inr ⟨c2, c3⟩, rfl⟩
      · rw [if_neg c3]
        exact Or.inr ⟨by omega, rfl⟩
    · rw [if_neg c2]
      exact Or.inr ⟨by omega, rfl⟩
/-- a ground as it is when it is drawn -/
def GR (σC τ : St) (g w : Nat) (wt : Bool) : Prop := ∃ (o s m f : Nat) (E : Nat → Nat), GD g o s ∧ τ g 4 = (o : Int) ∧ τ g 5 = (s : Int) ∧ τ o 0 = (m : Int) ∧ m ≤ 27 ∧ (∀ i, i < m → okP (ptO τ o i)) ∧ lnOK σC wt w 24 (lnG τ g) ∧ OUT (lnG τ g) (LSn σC w 24) (ptO τ o) E m ∧ τ g 7 = (f : Int) ∧ (0 < m → f < m) ∧ (∀ i, i < m → ¬ bef (ptO τ o i) (ptO τ o f)) ∧ TT (lnG τ g) (LSn σC w 24) (ptO τ o) m
theorem first_loop {τ : St} {g o s m : Nat} (hG : GD g o s) (h4 : τ g 4 = (o : Int)) (h0 : τ o 0 = (m : Int)) (hm : m ≤ 27) (hP : ∀ i, i < m → okP (ptO τ o i)) (h7 : τ g 7 = 0) (fuel : Nat) (hf : 28 < fuel) : ∃ υ, jloop (fun (q : (St × Int)) => match q with | (σ, x3) => f_X1_draw_b83 σ g x3) fuel (τ, 1) = some υ ∧ (∀ k, k ≠ g → υ k = τ k) ∧ (∀ j, j ≠ 7 → υ g j = τ g j) ∧ ∃ f : Nat, υ g 7 = (f : Int) ∧ (0 < m → f < m) ∧ ∀ i, i < m → ¬ bef (ptO τ o i) (ptO τ o f) := by
  obtain ⟨n1, n2⟩ := hG.ln
  have gb := hG.b
  by_cases m0 : m = 0
  · refine ⟨τ, ?_, fun _ _ => rfl, fun _ _ => rfl, 0, h7, fun z => by omega, fun i hi => by omega⟩
    refine jloop_for0 (g := fun _ => (τ, (1 : Int))) (N := 0) (e := _) rfl (by omega) (fun a ha => absurd ha (Nat.not_lt_zero a)) ?_
    show f_X1_draw_b83 τ g 1 = _
    rw [f_X1_draw_b83, h4, cast_n, jlet_v, jchk_t n2, h0, jc_II (by omega) (by omega) (by omega) (by omega), if_neg (by omega)]
  · refine jloop_ex (I := fun n q => q.2 = (n : Int) ∧ 1 ≤ n ∧ (∀ k, k ≠ g → q.1 k = τ k) ∧ (∀ j, j ≠ 7 → q.1 g j = τ g j) ∧ ∃ f : Nat, q.1 g 7 = (f : Int) ∧ f < n ∧ f < m ∧ ∀ i, i < n → i < m → ¬ bef (ptO τ o i) (ptO τ o f)) (N := m) (J := _) ?_ ?_ (m - 1) 1 fuel _ (by omega) (by omega) ⟨rfl, by omega, fun _ _ => rfl, fun _ _ => rfl, 0, h7, by omega, by omega, fun i hi _ => by
      have : i = 0 := by omega
      rw [this]; exact bef.irr⟩
    · rintro n ⟨μ, _⟩ hn ⟨rfl, n1', i1, i2, f, i3, i4, i5, i6⟩
      dsimp only at i1 i2 i3
      show ∃ s', f_X1_draw_b83 μ g (n : Int) = some (.inl s') ∧ _
      have ep : ptO μ o = ptO τ o := by
        funext i
        unfold ptO
        rw [i1 (o + 1) (by omega), i1 (o + 2) (by omega), i1 (o + 3) (by omega)]
      have bs := bef_spec (τ := μ) (i := n) (j := f) hG (by omega) (by omega) (by rw [ep]; exact hP n hn) (by rw [ep]; exact hP f i5)
      rw [ep] at bs
      rw [f_X1_draw_b83, i2 4 (by decide), h4, cast_n, jlet_v, jchk_t n2, i1 o (by omega), h0, jc_II (by omega) (by omega) (by omega) (by omega), if_pos (by omega), jlet_v, jchk_t n2, i3]
      rcases bs with ⟨b1, b2⟩ | ⟨b1, b2⟩
      · rw [b2, jbind_s, jc_I (by omega) (by omega), if_neg (by omega), jlet_v, jlet_v]
        refine ⟨_, rfl, rfl, by omega, fun k hk => by dsimp only; rw [up2_k hk, i1 k hk], fun j hj => by dsimp only; rw [up2_j hj, i2 j hj], n, up2_same, by omega, hn, fun i hi him z => ?_⟩
        by_cases c : i = n
        · rw [c] at z; exact bef.irr z
        · exact i6 i (by omega) him (bef.trans (hP i him).1 (hP n hn).1 (hP f i5).1 z b1)
      · rw [b2, jbind_s, jc_I (by omega) (by omega), if_pos rfl, jlet_v]
        refine ⟨_, rfl, rfl, by omega, i1, i2, f, i3, by omega, i5, fun i hi him => ?_⟩
        by_cases c : i = n
        · rw [c]; exact b1
        · exact i6 i (by omega) him
    · rintro ⟨μ, _⟩ ⟨rfl, n1', i1, i2, f, i3, i4, i5, i6⟩
      refine ⟨μ, ?_, i1, i2, f, i3, fun _ => i5, fun i hi => i6 i hi hi⟩
      dsimp only at i1 i2
      show f_X1_draw_b83 μ g (m : Int) = _
      rw [f_X1_draw_b83, i2 4 (by decide), h4, cast_n, jlet_v, jchk_t n2, i1 o (by omega), h0, jc_II (by omega) (by omega) (by omega) (by omega), if_neg (by omega)]
/-- the map itself -/
theorem begin_spec {σC σM σ τ : St} (h : Rw σC σM) {g o s w : Nat} {wt : Bool} (hg : 20 ≤ g) (hG : GD g o s) (hσ : ∀ k, k < 7 → σ k = σC k) (h4 : τ g 4 = (o : Int)) (h5 : τ g 5 = (s : Int)) (h0 : τ o 0 = 0) (h6 : ∀ k, k < g ∨ g + 14 < k → τ k = σ k) (h7' : ∀ j, j ≠ 4 → j ≠ 5 → j ≠ 7 → τ g j = σ g j) (h7 : τ g 7 = 0) : ∃ υ, f_X1_beginWithMap τ g = some υ ∧ DI σC g w wt σ 0 υ := by
  obtain ⟨n1, n2⟩ := hG.ln
  have gb := hG.b
  have w1 := h.1.1
  have w2 := h.1.2.1
  have e1 : τ 1 = σC 1 := by rw [h6 1 (by omega), hσ 1 (by omega)]
  obtain ⟨R, eR⟩ : ∃ R, R = 2 * σC 1 0 := ⟨_, rfl⟩
  obtain ⟨T, eT⟩ : ∃ T, T = 2 * σC 1 1 := ⟨_, rfl⟩
  obtain ⟨t1, et1⟩ : ∃ x, x = setL τ g 0 0 (-1) 0 := ⟨_, rfl⟩
  obtain ⟨t2, et2⟩ : ∃ x, x = setL t1 g 1 1 0 R := ⟨_, rfl⟩
  obtain ⟨t3, et3⟩ : ∃ x, x = setL t2 g 2 0 1 T := ⟨_, rfl⟩
  obtain ⟨t4, et4⟩ : ∃ x, x = setL t3 g 3 (-1) 0 0 := ⟨_, rfl⟩
  obtain ⟨a1, ea1⟩ : ∃ x, x = addO t4 o 0 0 0 1 0 := ⟨_, rfl⟩
  obtain ⟨a2, ea2⟩ : ∃ x, x = addO a1 o 1 R 0 1 1 := ⟨_, rfl⟩
  obtain ⟨a3, ea3⟩ : ∃ x, x = addO a2 o 2 R T 1 2 := ⟨_, rfl⟩
  obtain ⟨a4, ea4⟩ : ∃ x, x = addO a3 o 3 0 T 1 3 := ⟨_, rfl⟩
  have l1 : f_X1_setLine τ g 0 0 (-1) 0 = some t1 := by rw [et1]; exact setLine_spec (l := 0) (by omega) ⟨by omega, by omega⟩ ⟨by omega, by omega⟩ ⟨by omega, by omega⟩
  have l2 : f_X1_setLine t1 g 1 1 0 R = some t2 := by rw [et2]; exact setLine_spec (l := 1) (by omega) ⟨by omega, by omega⟩ ⟨by omega, by omega⟩ ⟨by omega, by omega⟩
  have l3 : f_X1_setLine t2 g 2 0 1 T = some t3 := by rw [et3]; exact setLine_spec (l := 2) (by omega) ⟨by omega, by omega⟩ ⟨by omega, by omega⟩ ⟨by omega, by omega⟩
  have l4 : f_X1_setLine t3 g 3 (-1) 0 0 = some t4 := by rw [et4]; exact setLine_spec (l := 3) (by omega) ⟨by omega, by omega⟩ ⟨by omega, by omega⟩ ⟨by omega, by omega⟩
  have t4k : ∀ k, k < g + 1 ∨ g + 3 < k → t4 k = τ k := fun k hk => by rw [et4, setL_k hk, et3, setL_k hk, et2, setL_k hk, et1, setL_k hk]
  have t4l : ∀ i, i < 4 → lnG t4 g i = sdL σC i := fun i hi => by
    unfold sdL
    rw [et4, setL_ln, et3, setL_ln, et2, setL_ln, et1, setL_ln, ← eR, ← eT]
    rcases (by omega : i = 0 ∨ i = 1 ∨ i = 2 ∨ i = 3) with z | z | z | z <;> rw [z] <;> simp
  have z0 : t4 o 0 = ((0 : Nat) : Int) := by rw [t4k o (by omega)]; exact h0
  have A1 : f_X4_add t4 o 0 0 1 0 = some a1 := by rw [ea1]; exact add_spec4 n1 (by omega) z0
  have A2 : f_X4_add a1 o R 0 1 1 = some a2 := by rw [ea2]; exact add_spec4 n1 (by omega) (by rw [ea1]; exact addO_0)
  have A3 : f_X4_add a2 o R T 1 2 = some a3 := by rw [ea3]; exact add_spec4 n1 (by omega) (by rw [ea2]; exact addO_0)
  have A4 : f_X4_add a3 o 0 T 1 3 = some a4 := by rw [ea4]; exact add_spec4 n1 (by omega) (by rw [ea3]; exact addO_0)
  have a4k : ∀ k, k < o ∨ o + 4 < k → a4 k = t4 k := fun k hk => by rw [ea4, addO_k hk, ea3, addO_k hk, ea2, addO_k hk, ea1, addO_k hk]
  have g4 : ∀ {x : St}, (∀ k, k < o ∨ o + 4 < k → x k = t4 k) → x g 4 = (o : Int) := fun hx => by rw [hx g (by omega), t4k g (by omega)]; exact h4
  have a1k : ∀ k, k < o ∨ o + 4 < k → a1 k = t4 k := fun k hk => by rw [ea1, addO_k hk]
  have a2k : ∀ k, k < o ∨ o + 4 < k → a2 k = t4 k := fun k hk => by rw [ea2, addO_k hk, ea1, addO_k hk]
  have a3k : ∀ k, k < o ∨ o + 4 < k → a3 k = t4 k := fun k hk => by rw [ea3, addO_k hk, ea2, addO_k hk, ea1, addO_k hk]
  have pts : ∀ i, i < 4 → ptO a4 o i = if i = 0 then ((0 : Int), (0 : Int), (1 : Int)) else if i = 1 then (R, 0, 1) else if i = 2 then (R, T, 1) else (0, T, 1) := fun i hi => by
    rw [ea4, addO_pt, ea3, addO_pt, ea2, addO_pt, ea1, addO_pt]
    rcases (by omega : i = 0 ∨ i = 1 ∨ i = 2 ∨ i = 3) with z | z | z | z <;> rw [z] <;> simp
  have eds : ∀ i, i < 4 → a4 (o + 4) i = (i : Int) := fun i hi => by
    rw [ea4, addO_e, ea3, addO_e, ea2, addO_e, ea1, addO_e]
    rcases (by omega : i = 0 ∨ i = 1 ∨ i = 2 ∨ i = 3) with z | z | z | z <;> rw [z] <;> simp
  have lns : ∀ i, i < 4 → lnG a4 g i = sdL σC i := fun i hi => by
    have : lnG a4 g i = lnG t4 g i := by unfold lnG; rw [a4k (g + 1) (by omega), a4k (g + 2) (by omega), a4k (g + 3) (by omega)]
    rw [this]; exact t4l i hi
  have sdo : ∀ i, i < 4 → okL (sdL σC i) ∧ nzL (sdL σC i) := fun i hi => by
    unfold sdL okL nzL
    rcases (by omega : i = 0 ∨ i = 1 ∨ i = 2 ∨ i = 3) with z | z | z | z <;> rw [z] <;> simp <;> omega
  have L4 : ∀ l, LSn σC w 0 l ↔ l < 4 := fun l => by
    unfold LSn
    constructor
    · rintro (z | ⟨v, v1, -⟩)
      · exact z
      · exact absurd v1 (Nat.not_lt_zero v)
    · exact Or.inl
  have RT := Int.mul_pos (show 0 < R by omega) (show 0 < T by omega)
  have sc : SCv (ptO a4 o) 4 := fun i j k ij jk hk => by
    rw [pts i (by omega), pts j (by omega), pts k hk]
    rcases (by omega : (i = 0 ∧ j = 1 ∧ k = 2) ∨ (i = 0 ∧ j = 1 ∧ k = 3) ∨ (i = 0 ∧ j = 2 ∧ k = 3) ∨ (i = 1 ∧ j = 2 ∧ k = 3)) with ⟨x, y, z⟩ | ⟨x, y, z⟩ | ⟨x, y, z⟩ | ⟨x, y, z⟩ <;> rw [x, y, z] <;> simp [dt3] <;> grind
  have fe : ∀ l, l < 4 → ∀ i, i < 4 → 0 ≤ fl (lnG a4 g l) (ptO a4 o i) := fun l hl i hi => by
    rw [lns l hl, pts i hi]
    unfold sdL fl
    rw [← eR, ← eT]
    rcases (by omega : l = 0 ∨ l = 1 ∨ l = 2 ∨ l = 3) with z | z | z | z <;> rcases (by omega : i = 0 ∨ i = 1 ∨ i = 2 ∨ i = 3) with y | y | y | y <;> rw [z, y] <;> simp <;> omega
  have edg : ∀ i, i < 4 → LSn σC w 0 ((fun i => (a4 (o + 4) i).toNat) i) ∧ fl (lnG a4 g ((fun i => (a4 (o + 4) i).toNat) i)) (ptO a4 o i) = 0 ∧ fl (lnG a4 g ((fun i => (a4 (o + 4) i).toNat) i)) (ptO a4 o (nxi 4 i)) = 0 := fun i hi => by
    dsimp only
    rw [eds i hi, cast_n]
    refine ⟨(L4 i).mpr hi, ?_, ?_⟩
    · rw [lns i hi, pts i hi]
      unfold sdL fl
      rw [← eR, ← eT]
      rcases (by omega : i = 0 ∨ i = 1 ∨ i = 2 ∨ i = 3) with y | y | y | y <;> rw [y] <;> simp
    · rw [lns i hi, pts _ (nxi_lt (by omega))]
      unfold sdL fl nxi
      rw [← eR, ← eT]
      rcases (by omega : i = 0 ∨ i = 1 ∨ i = 2 ∨ i = 3) with y | y | y | y <;> rw [y] <;> simp
  have dpos : ∀ i, i < 4 → 0 < (ptO a4 o i).2.2 := fun i hi => by
    rw [pts i hi]
    rcases (by omega : i = 0 ∨ i = 1 ∨ i = 2 ∨ i = 3) with y | y | y | y <;> rw [y] <;> simp
  refine ⟨a4, ?_, o, s, 4, ⟨hG, g4 a4k, by rw [a4k g (by omega), t4k g (by omega)]; exact h5, by rw [ea4]; exact addO_0, fun k hk => by rw [a4k k (by omega), t4k k (by omega), h6 k hk], fun j x y z => by rw [a4k g (by omega), t4k g (by omega)]; exact h7' j x y z, fun i hi => ⟨?_, by rw [eds i hi]; omega, by rw [eds i hi]; omega⟩, fun l hl => ?_, ⟨fun i hi => ?_, fun l hl i hi => fe l ((L4 l).mp hl) i hi, fun p p0 hp => hull_of (by omega) (fun l hl => by rw [lns l ((L4 l).mp hl)]; exact (sdo l ((L4 l).mp hl)).2) sc edg (fun l hl i hi => fe l ((L4 l).mp hl) i hi) hp, fun _ => ⟨sc, edg⟩, fun z => by omega⟩, TT.sc (by omega) (fun l hl => by rw [lns l ((L4 l).mp hl)]; exact (sdo l ((L4 l).mp hl)).2) dpos sc edg⟩, ⟨lns, fun v hv => absurd hv (Nat.not_lt_zero v)⟩, by omega, by rw [a4k g (by omega), t4k g (by omega)]; exact h7⟩
  · rw [f_X1_beginWithMap, f_X1_beginWithMap_b0, jlet_v, jlet_v, e1, ← eR, ← eT, l1, jbind_s, l2, jbind_s, l3, jbind_s, l4, jbind_s, t4k g (by omega), h4, cast_n, jlet_v, jchk_t n2, A1, jbind_s, g4 a1k, cast_n, jlet_v, jchk_t n2, jc_I (by omega) (by omega), A2, jbind_s, g4 a2k, cast_n, jlet_v, jchk_t n2, jc_I (by omega) (by omega), jc_I (by omega) (by omega), A3, jbind_s, g4 a3k, cast_n, jlet_v, jchk_t n2, jc_I (by omega) (by omega), A4, jbind_s]
  · rw [pts i hi]
    unfold okP
    rcases (by omega : i = 0 ∨ i = 1 ∨ i = 2 ∨ i = 3) with y | y | y | y <;> rw [y] <;> simp <;> omega
  · have l4' := (L4 l).mp hl
    rw [lns l l4']
    exact ⟨by omega, sdo l l4'⟩
  · rw [pts i hi]
    rcases (by omega : i = 0 ∨ i = 1 ∨ i = 2 ∨ i = 3) with y | y | y | y <;> rw [y] <;> simp
