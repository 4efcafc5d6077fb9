/-! ===== the pure side 50: which corner comes behind which ===== -/
theorem dr_tr (L p q r : Pt) : q.2.2 * dr L p r = r.2.2 * dr L p q + p.2.2 * dr L q r := by unfold dr; grind
theorem dr_le {L p q r : Pt} (hp : 0 < p.2.2) (hq : 0 < q.2.2) (hr : 0 < r.2.2) (h1 : 0 ≤ dr L p q) (h2 : 0 ≤ dr L q r) : 0 ≤ dr L p r := sum_nn hq (by omega) (by omega) h1 h2 (dr_tr L p q r)
theorem dr_lt {L p q r : Pt} (hp : 0 < p.2.2) (hq : 0 < q.2.2) (hr : 0 < r.2.2) (h1 : 0 ≤ dr L p q) (h2 : 0 ≤ dr L q r) (h : 0 < dr L p q ∨ 0 < dr L q r) : 0 < dr L p r := sum_pos hq (by omega) (by omega) h1 h2 (by
  rcases h with z | z
  · exact Or.inl ⟨hr, z⟩
  · exact Or.inr ⟨hp, z⟩) (dr_tr L p q r)
theorem drs_id (A B x y d x' y' d' u v e u' v' e' : Int) (h1 : x * d' = x' * d) (h2 : y * d' = y' * d) (h3 : u * e' = u' * e) (h4 : v * e' = v' * e) : (d' * e') * ((u * d - x * e) * (-B) + (v * d - y * e) * A) = (d * e) * ((u' * d' - x' * e') * (-B) + (v' * d' - y' * e') * A) := by grind
theorem dr_sm {L p q p' q' : Pt} (hp : 0 < p.2.2) (hq : 0 < q.2.2) (hp' : 0 < p'.2.2) (hq' : 0 < q'.2.2) (h1 : sm p p') (h2 : sm q q') : (0 < dr L p q ↔ 0 < dr L p' q') ∧ (dr L p q = 0 ↔ dr L p' q' = 0) := by
  obtain ⟨x1, x2⟩ := sgn_tr (Int.mul_pos hp' hq') (Int.mul_pos hp hq) (show (p'.2.2 * q'.2.2) * dr L p q = (p.2.2 * q.2.2) * dr L p' q' from drs_id _ _ _ _ _ _ _ _ _ _ _ _ _ _ h1.1 h1.2 h2.1 h2.2)
  refine ⟨?_, x2⟩
  omega
theorem dz_id (A B C x y d u v e : Int) (h1 : C * d - A * x - B * y = 0) (h2 : C * e - A * u - B * v = 0) (h3 : (u * d - x * e) * (-B) + (v * d - y * e) * A = 0) : (A * A + B * B) * (x * e) = (A * A + B * B) * (u * d) ∧ (A * A + B * B) * (y * e) = (A * A + B * B) * (v * d) := by
  constructor <;> grind
theorem dr_zero {L p q : Pt} (hL : nzL L) (h1 : fl L p = 0) (h2 : fl L q = 0) (h3 : dr L p q = 0) : sm p q := by
  obtain ⟨x, y⟩ := dz_id _ _ _ _ _ _ _ _ _ h1 h2 h3
  exact ⟨mul_cancel hL.pos x, mul_cancel hL.pos y⟩
theorem al1_id (A B C x y d u v e : Int) (h1 : C * d - A * x - B * y = 0) (h2 : C * e - A * u - B * v = 0) : (-B) * ((u * d - x * e) * (-B) + (v * d - y * e) * A) = (A * A + B * B) * (u * d - x * e) ∧ A * ((u * d - x * e) * (-B) + (v * d - y * e) * A) = (A * A + B * B) * (v * d - y * e) := by
  constructor <;> grind
theorem sg3 {k l x y : Int} (hk : 0 < k) (hl : 0 < l) (e : k * x = l * y) : (x < 0 ↔ y < 0) ∧ (0 < x ↔ 0 < y) := by
  obtain ⟨a, b⟩ := sgn_tr hk hl e
  exact ⟨a, by omega⟩
theorem along_spec {τ : St} {l a b : Nat} (hl : l < 28) (ha : a < 400) (hb : b < 400) (hL : okA (lnM τ l)) (nz : nzL (lnM τ l)) (h1 : okX (ptM τ a)) (h2 : okX (ptM τ b)) (z1 : fl (lnM τ l) (ptM τ a) = 0) (z2 : fl (lnM τ l) (ptM τ b) = 0) : ∃ r, f_X11_along τ (l : Int) (a : Int) (b : Int) = some r ∧ -1 ≤ r ∧ r ≤ 1 ∧ (r < 0 ↔ dr (lnM τ l) (ptM τ b) (ptM τ a) < 0) ∧ (0 < r ↔ 0 < dr (lnM τ l) (ptM τ b) (ptM τ a)) := by
  obtain ⟨o1, o2⟩ := orderXY_spec ha hb h1 h2
  obtain ⟨a1, a2, a3, a4, a5, a6⟩ := hL
  have nn := nz.pos
  obtain ⟨i1, i2⟩ := al1_id _ _ _ _ _ _ _ _ _ z2 z1
  have i1' : (-(lnM τ l).2.1) * dr (lnM τ l) (ptM τ b) (ptM τ a) = ((lnM τ l).1 * (lnM τ l).1 + (lnM τ l).2.1 * (lnM τ l).2.1) * ((ptM τ a).1 * (ptM τ b).2.2 - (ptM τ b).1 * (ptM τ a).2.2) := i1
  have i2' : (lnM τ l).1 * dr (lnM τ l) (ptM τ b) (ptM τ a) = ((lnM τ l).1 * (lnM τ l).1 + (lnM τ l).2.1 * (lnM τ l).2.1) * ((ptM τ a).2.1 * (ptM τ b).2.2 - (ptM τ b).2.1 * (ptM τ a).2.2) := i2
  clear i1 i2
  have e13 : τ 13 l = (lnM τ l).1 := rfl
  have e14 : τ 14 l = (lnM τ l).2.1 := rfl
  generalize dr (lnM τ l) (ptM τ b) (ptM τ a) = d at *
  generalize (ptM τ a).1 * (ptM τ b).2.2 - (ptM τ b).1 * (ptM τ a).2.2 = u at *
  generalize (ptM τ a).2.1 * (ptM τ b).2.2 - (ptM τ b).2.1 * (ptM τ a).2.2 = v at *
  have ru := sg_rng u
  have rv := sg_rng v
  have nu := @sg_neg u
  have nv := @sg_neg v
  have pu := @sg_pos u
  have pv := @sg_pos v
  rw [f_X11_along, f_X11_along_b0, jc_ix (by omega) (by omega), cast_n, e14, jc_LL (by omega) (by omega) (by omega) (by omega)]
  by_cases c : (lnM τ l).2.1 = 0
  · rw [if_pos c, jc_ix (by omega) (by omega), e13, jc_LL (by omega) (by omega) (by omega) (by omega)]
    by_cases c2 : 0 < (lnM τ l).1
    · obtain ⟨s1, s2⟩ := sg3 c2 nn i2'
      rw [if_pos c2, f_X11_along_b53, o2, jbind_s]
      exact ⟨_, rfl, by omega, by omega, by omega, by omega⟩
    · have c3 : (lnM τ l).1 ≠ 0 := fun z => by
        rcases nz with y | y
        · exact y z
        · exact y c
      obtain ⟨s1, s2⟩ := sg3 (x := -d) (y := v) (show 0 < -(lnM τ l).1 by omega) nn (by rw [← i2', Int.neg_mul_neg])
      rw [if_neg c2, f_X11_along_b53, o2, jbind_s]
      exact ⟨_, rfl, by omega, by omega, by omega, by omega⟩
  · rw [if_neg c, jc_ix (by omega) (by omega), jc_LL (by omega) (by omega) (by omega) (by omega)]
    by_cases c2 : (lnM τ l).2.1 < 0
    · obtain ⟨s1, s2⟩ := sg3 (show 0 < -(lnM τ l).2.1 by omega) nn i1'
      rw [if_pos c2, f_X11_along_b27, o1, jbind_s]
      exact ⟨_, rfl, by omega, by omega, by omega, by omega⟩
    · obtain ⟨s1, s2⟩ := sg3 (x := -d) (y := u) (show 0 < (lnM τ l).2.1 by omega) nn (by rw [← i1', Int.neg_mul, Int.mul_neg])
      rw [if_neg c2, f_X11_along_b27, o1, jbind_s]
      exact ⟨_, rfl, by omega, by omega, by omega, by omega⟩
/-- the ends of a line so far -/
def EI (γ : St) (l n : Nat) (τ : St) : Prop := (∀ k, k ≠ 0 → τ k = γ k) ∧ (∀ j, j ≠ 27 → j ≠ 28 → τ 0 j = γ 0 j) ∧ ((τ 0 27 = -1 ∧ τ 0 28 = -1 ∧ ∀ k, k < n → fl (lnM γ l) (ptM γ k) ≠ 0) ∨ ∃ f e : Nat, f < n ∧ e < n ∧ τ 0 27 = (f : Int) ∧ τ 0 28 = (e : Int) ∧ fl (lnM γ l) (ptM γ f) = 0 ∧ fl (lnM γ l) (ptM γ e) = 0 ∧ ∀ k, k < n → fl (lnM γ l) (ptM γ k) = 0 → 0 ≤ dr (lnM γ l) (ptM γ f) (ptM γ k) ∧ 0 ≤ dr (lnM γ l) (ptM γ k) (ptM γ e))
theorem ends_spec {γ : St} {l n : Nat} (hl : l < 28) (hL : okA (lnM γ l)) (nz : nzL (lnM γ l)) (h20 : γ 0 20 = (n : Int)) (hn : n < 400) (hX : ∀ k, k < n → okX (ptM γ k)) : ∃ τ, f_X11_endsOn γ (l : Int) = some τ ∧ EI γ l n τ := by
  have lp : ∀ fuel, 400 < fuel → ∃ e, jloop (fun (q : (St × Int)) => match q with | (σ, x2) => f_X11_endsOn_b12 σ (l : Int) x2) fuel (up2 (up2 γ 0 27 (-1)) 0 28 (-1), 0) = some e ∧ EI γ l n e := by
    intro fuel hf
    refine jloop_ex (I := fun i q => q.2 = (i : Int) ∧ EI γ l i q.1) (N := n) (J := _) ?_ ?_ n 0 fuel _ (by omega) (by omega) ⟨rfl, fun k hk => by dsimp only; rw [up2_k hk, up2_k hk], fun j h1 h2 => by dsimp only; rw [up2_j h2, up2_j h1], Or.inl ⟨by dsimp only; rw [up2_j (by decide), up2_same], by dsimp only; rw [up2_same], fun k hk => absurd hk (Nat.not_lt_zero k)⟩⟩
    · rintro i ⟨μ, _⟩ hi ⟨rfl, i1, i2, i3⟩
      dsimp only at i1 i2 i3
      show ∃ s', f_X11_endsOn_b12 μ (l : Int) (i : Int) = some (.inl s') ∧ _
      have gen : ∀ ν : St, (∀ k, k ≠ 0 → ν k = γ k) → lnM ν l = lnM γ l ∧ ∀ k, ptM ν k = ptM γ k := fun ν hν => ⟨by unfold lnM; rw [hν 13 (by decide), hν 14 (by decide), hν 15 (by decide)], fun k => by unfold ptM; rw [hν 16 (by decide), hν 17 (by decide), hν 18 (by decide)]⟩
      have al : ∀ (ν : St) (b : Nat), (∀ k, k ≠ 0 → ν k = γ k) → b < n → fl (lnM γ l) (ptM γ i) = 0 → fl (lnM γ l) (ptM γ b) = 0 → ∃ r, f_X11_along ν (l : Int) (i : Int) (b : Int) = some r ∧ -1 ≤ r ∧ r ≤ 1 ∧ (r < 0 ↔ dr (lnM γ l) (ptM γ b) (ptM γ i) < 0) ∧ (0 < r ↔ 0 < dr (lnM γ l) (ptM γ b) (ptM γ i)) := fun ν b hν hb z1 z2 => by
        obtain ⟨g1, g2⟩ := gen ν hν
        have := along_spec (τ := ν) (l := l) (a := i) (b := b) hl (by omega) (by omega) (by rw [g1]; exact hL) (by rw [g1]; exact nz) (by rw [g2]; exact hX i hi) (by rw [g2]; exact hX b hb) (by rw [g1, g2]; exact z1) (by rw [g1, g2]; exact z2)
        rw [g1, g2, g2] at this
        exact this
      obtain ⟨g1, g2⟩ := gen μ i1
      have r := fl_rngX hL (hX i hi)
      have ov : f_X11_over μ (l : Int) (μ 16 i) (μ 17 i) (μ 18 i) = some (- fl (lnM γ l) (ptM γ i)) := by
        rw [over_spec hl, g1, show (μ 16 i, μ 17 i, μ 18 i) = ptM μ i from rfl, g2]
      have h20' : μ 0 20 = (n : Int) := by rw [i2 20 (by decide) (by decide)]; exact h20
      rw [f_X11_endsOn_b12, h20', jc_II (by omega) (by omega) (by omega) (by omega), if_pos (by omega), jc_ix (by omega) (by omega), jc_ix (by omega) (by omega), jc_ix (by omega) (by omega), cast_n, ov, jbind_s, jc_LL (by omega) (by omega) (by omega) (by omega)]
      by_cases on : fl (lnM γ l) (ptM γ i) = 0
      · rw [if_pos (by omega)]
        rcases i3 with ⟨c1, c2, c3⟩ | ⟨f, e, c1, c2, c3, c4, c5, c6, c7⟩
        · rw [c1, jc_II (by omega) (by omega) (by omega) (by omega), if_pos rfl, f_X11_endsOn_b72, jlet_v, f_X11_endsOn_b77, up2_j (by decide), c2, jc_II (by omega) (by omega) (by omega) (by omega), if_pos rfl, f_X11_endsOn_b98, jlet_v, jlet_v]
          refine ⟨_, rfl, rfl, fun k hk => by dsimp only; rw [up2_k hk, up2_k hk, i1 k hk], fun j h1 h2 => by dsimp only; rw [up2_j h2, up2_j h1, i2 j h1 h2], Or.inr ⟨i, i, by omega, by omega, by dsimp only; rw [up2_j (by decide), up2_same], by dsimp only; rw [up2_same], on, on, fun k hk z => ?_⟩⟩
          by_cases e : k = i
          · rw [e, dr_aa]; omega
          · exact absurd z (c3 k (by omega))
        · have fn : f < n := by omega
          have en : e < n := by omega
          have fin : ∀ ν : St, ∀ f' : Nat, (∀ k, k ≠ 0 → ν k = γ k) → (∀ j, j ≠ 27 → j ≠ 28 → ν 0 j = γ 0 j) → f' < i + 1 → ν 0 27 = (f' : Int) → ν 0 28 = (e : Int) → fl (lnM γ l) (ptM γ f') = 0 → (∀ k, k < i + 1 → fl (lnM γ l) (ptM γ k) = 0 → 0 ≤ dr (lnM γ l) (ptM γ f') (ptM γ k)) → ∃ s', f_X11_endsOn_b77 ν (l : Int) (i : Int) = some (.inl s') ∧ s'.2 = ((i + 1 : Nat) : Int) ∧ EI γ l (i + 1) s'.1 := by
            intro ν f' n1 n2 n3 n4 n5 n6 n7
            obtain ⟨r, r1, r2, r3, r4, r5⟩ := al ν e n1 en on c6
            rw [f_X11_endsOn_b77, n5, jc_II (by omega) (by omega) (by omega) (by omega), if_neg (by omega), r1, jbind_s, jc_I (by omega) (by omega)]
            by_cases q : 0 < r
            · rw [if_pos q, f_X11_endsOn_b98, jlet_v, jlet_v]
              refine ⟨_, rfl, rfl, fun k hk => by dsimp only; rw [up2_k hk, n1 k hk], fun j h1 h2 => by dsimp only; rw [up2_j h2, n2 j h1 h2], Or.inr ⟨f', i, n3, by omega, by dsimp only; rw [up2_j (by decide), n4], by dsimp only; rw [up2_same], n6, on, fun k hk z => ⟨n7 k hk z, ?_⟩⟩⟩
              by_cases x : k = i
              · rw [x, dr_aa]; omega
              · have := r5.mp q
                exact dr_le (hX k (by omega)).1 (hX e en).1 (hX i hi).1 (c7 k (by omega) z).2 (by omega)
            · rw [if_neg q, jlet_v]
              refine ⟨_, rfl, rfl, n1, n2, Or.inr ⟨f', e, n3, by omega, n4, n5, n6, c6, fun k hk z => ⟨n7 k hk z, ?_⟩⟩⟩
              by_cases x : k = i
              · rw [x, dr_sw]
                have : ¬ 0 < dr (lnM γ l) (ptM γ e) (ptM γ i) := fun y => q (r5.mpr y)
                omega
              · exact (c7 k (by omega) z).2
          obtain ⟨r, r1, r2, r3, r4, r5⟩ := al μ f i1 fn on c5
          rw [c3, jc_II (by omega) (by omega) (by omega) (by omega), if_neg (by omega), r1, jbind_s, jc_I (by omega) (by omega)]
          by_cases q : r < 0
          · rw [if_pos q, f_X11_endsOn_b72, jlet_v]
            refine fin _ i (fun k hk => by rw [up2_k hk, i1 k hk]) (fun j h1 h2 => by rw [up2_j h1, i2 j h1 h2]) (by omega) up2_same (by rw [up2_j (by decide), c4]) on (fun k hk z => ?_)
            by_cases x : k = i
            · rw [x, dr_aa]; omega
            · have := r4.mp q
              rw [dr_sw] at this
              exact dr_le (hX i hi).1 (hX f fn).1 (hX k (by omega)).1 (by omega) (c7 k (by omega) z).1
          · rw [if_neg q]
            refine fin μ f i1 i2 (by omega) c3 c4 c5 (fun k hk z => ?_)
            by_cases x : k = i
            · rw [x]
              have : ¬ dr (lnM γ l) (ptM γ f) (ptM γ i) < 0 := fun y => q (r4.mpr y)
              omega
            · exact (c7 k (by omega) z).1
      · rw [if_neg (by omega), jlet_v]
        refine ⟨_, rfl, rfl, i1, i2, ?_⟩
        rcases i3 with ⟨c1, c2, c3⟩ | ⟨f, e, c1, c2, c3, c4, c5, c6, c7⟩
        · refine Or.inl ⟨c1, c2, fun k hk => ?_⟩
          by_cases e : k = i
          · rw [e]; exact on
          · exact c3 k (by omega)
        · refine Or.inr ⟨f, e, by omega, by omega, c3, c4, c5, c6, fun k hk z => ?_⟩
          by_cases x : k = i
          · rw [x] at z; exact absurd z on
          · exact c7 k (by omega) z
    · rintro ⟨μ, _⟩ ⟨rfl, i1⟩
      dsimp only at i1
      refine ⟨μ, ?_, i1⟩
      show f_X11_endsOn_b12 μ (l : Int) (n : Int) = _
      have h20' : μ 0 20 = (n : Int) := by rw [i1.2.1 20 (by decide) (by decide)]; exact h20
      rw [f_X11_endsOn_b12, h20', jc_II (by omega) (by omega) (by omega) (by omega), if_neg (by omega)]
  obtain ⟨e, l1, l2⟩ := lp 1000 (by omega)
  refine ⟨e, ?_, l2⟩
  rw [f_X11_endsOn, f_X11_endsOn_b0, jlet_v, jlet_v, jlet_v, l1, jbind_s]
