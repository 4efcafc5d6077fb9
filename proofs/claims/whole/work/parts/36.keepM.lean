/-! ===== the pure side 16: keep, the model ===== -/
theorem toSides_spec {σC τ : St} (h : Rw σC τ) {w : Nat} (hw : w < 24) (pw : pC σC w = true) {x : Int} {T : Nat → Bool} (hT : ∀ s : Nat, s < 4 → jand (jshr x (s : Int)) 1 = bI (T s)) (hne : ∃ s, s < 4 ∧ T s = true) : ∃ r, f_X11_toSides τ (w : Int) x = some r ∧ isRim σC w T r := by
  obtain ⟨-, m2, m3, -⟩ := h.M hw pw
  have m0 := h.2.2.1
  have m1 := h.2.2.2.1
  have key : ∀ fuel, 4 < fuel → ∃ e, jloop (fun (q : (Int × Int)) => match q with | (x3, x5) => f_X11_toSides_b7 τ (w : Int) x x3 x5) fuel (9223372036854775807, 0) = some e ∧ isRim σC w T e := by
    intro fuel hfu
    refine jloop_ex (I := fun s q => q.2 = (s : Int) ∧ (0 ≤ q.1 ∧ q.1 ≤ 9223372036854775807) ∧ ((q.1 = 9223372036854775807 ∧ ∀ u, u < s → T u = false) ∨ ∃ u, u < s ∧ T u = true ∧ q.1 = 4 * sd σC w u * sd σC w u) ∧ ∀ u, u < s → T u = true → q.1 ≤ 4 * sd σC w u * sd σC w u) (N := 4) (J := _) ?_ ?_ 4 0 fuel _ (by omega) (by omega) ⟨rfl, ⟨by decide, by decide⟩, Or.inl ⟨rfl, fun u hu => absurd hu (Nat.not_lt_zero u)⟩, fun u hu => absurd hu (Nat.not_lt_zero u)⟩
    · rintro s ⟨v, _⟩ hs ⟨rfl, hx, i1, i2⟩
      dsimp only at hx i1 i2
      show ∃ s', f_X11_toSides_b7 τ (w : Int) x v (s : Int) = some (.inl s') ∧ _
      have hd := h.sdr hw s
      have d4 := sd4 hd
      have rb := bI_rng (T s)
      rw [f_X11_toSides_b7, jc_II (by omega) (by omega) (by omega) (by omega), if_pos (by omega), hT s hs, jc_I (by omega) (by omega)]
      cases Ts : T s with
      | false =>
        rw [bI_f, if_pos rfl, jlet_v, cast_s]
        refine ⟨_, rfl, rfl, hx, ?_, ?_⟩
        · rcases i1 with ⟨i1, i3⟩ | ⟨u, hu, i1⟩
          · refine Or.inl ⟨i1, fun u hu => ?_⟩
            by_cases e2 : u = s
            · rw [e2, Ts]
            · exact i3 u (by omega)
          · exact Or.inr ⟨u, by omega, i1⟩
        · intro u hu Tu
          by_cases e2 : u = s
          · rw [e2, Ts] at Tu; cases Tu
          · exact i2 u (by omega) Tu
      | true =>
        have st : (if (s : Int) = 0 then jchk (0 ≤ (w : Int) ∧ (w : Int) < 24) (jchk (inI (τ 3 (w : Int).toNat)) (f_X11_toSides_b89 τ (w : Int) x v (s : Int) (τ 3 (w : Int).toNat))) else jchk (inI (s : Int) ∧ inI 1) (if (s : Int) = 1 then jchk (0 ≤ (w : Int) ∧ (w : Int) < 24) (jchk (inI (τ 0 0 - τ 2 (w : Int).toNat)) (f_X11_toSides_b89 τ (w : Int) x v (s : Int) (τ 0 0 - τ 2 (w : Int).toNat))) else jchk (inI (s : Int) ∧ inI 2) (if (s : Int) = 2 then jchk (0 ≤ (w : Int) ∧ (w : Int) < 24) (jchk (inI (τ 0 1 - τ 3 (w : Int).toNat)) (f_X11_toSides_b89 τ (w : Int) x v (s : Int) (τ 0 1 - τ 3 (w : Int).toNat))) else jchk (0 ≤ (w : Int) ∧ (w : Int) < 24) (jchk (inI (τ 2 (w : Int).toNat)) (f_X11_toSides_b89 τ (w : Int) x v (s : Int) (τ 2 (w : Int).toNat)))))) = f_X11_toSides_b89 τ (w : Int) x v (s : Int) (sd σC w s) := by
          rw [cast_n, m0, m1, m2, m3]
          have w1 := h.1.1
          have w2 := h.1.2.1
          obtain ⟨-, -, r3, r4⟩ := h.1.rng hw
          unfold sd
          by_cases c0 : s = 0
          · simp (disch := omega) only [↓jlet_v, ↓jbind_s, ↓jc_I, ↓jc_II, ↓jc_ix, ↓if_pos, ↓if_neg, cast_n, jz_0, jz_1]
          by_cases c1 : s = 1
          · simp (disch := omega) only [↓jlet_v, ↓jbind_s, ↓jc_I, ↓jc_II, ↓jc_ix, ↓if_pos, ↓if_neg, cast_n, jz_0, jz_1]
          by_cases c2 : s = 2
          · simp (disch := omega) only [↓jlet_v, ↓jbind_s, ↓jc_I, ↓jc_II, ↓jc_ix, ↓if_pos, ↓if_neg, cast_n, jz_0, jz_1]
          · simp (disch := omega) only [↓jlet_v, ↓jbind_s, ↓jc_I, ↓jc_II, ↓jc_ix, ↓if_pos, ↓if_neg, cast_n, jz_0, jz_1]
        rw [bI_t, if_neg (by omega), jc_I (by omega) (by omega), st, f_X11_toSides_b89, jlet_v, jc_LL (by omega) (by omega) (by omega) (by omega)]
        by_cases c : 4 * sd σC w s * sd σC w s < v
        · rw [if_pos c, jlet_v, jlet_v, cast_s]
          refine ⟨_, rfl, rfl, by dsimp only; omega, Or.inr ⟨s, by omega, Ts, rfl⟩, fun u hu Tu => ?_⟩
          dsimp only
          by_cases e2 : u = s
          · rw [e2]; omega
          · have := i2 u (by omega) Tu
            omega
        · rw [if_neg c, jlet_v, cast_s]
          refine ⟨_, rfl, rfl, hx, ?_, fun u hu Tu => ?_⟩
          · rcases i1 with ⟨i1, i3⟩ | ⟨u, hu, i1⟩
            · omega
            · exact Or.inr ⟨u, by omega, i1⟩
          · dsimp only
            by_cases e2 : u = s
            · rw [e2]; omega
            · exact i2 u (by omega) Tu
    · rintro ⟨v, _⟩ ⟨rfl, hx, i1, i2⟩
      refine ⟨v, ?_, ?_, i2⟩
      · show f_X11_toSides_b7 τ (w : Int) x v ((4 : Nat) : Int) = _
        rw [f_X11_toSides_b7, jc_II (by omega) (by omega) (by omega) (by omega), if_neg (by omega)]
      · rcases i1 with ⟨-, i3⟩ | ⟨u, hu, i1⟩
        · obtain ⟨s, s1, s2⟩ := hne
          rw [i3 s s1] at s2
          cases s2
        · exact ⟨u, hu, i1⟩
  obtain ⟨e, e1, e2⟩ := key 1000 (by omega)
  refine ⟨e, ?_, e2⟩
  rw [f_X11_toSides, f_X11_toSides_b0, jlet_v, jlet_v, e1, jbind_s]
/-- four times the square to a corner -/
def crn (σ : St) (c w : Nat) : Int := 4 * ((σ 3 w - (if c = 1 ∨ c = 2 then σ 1 0 else 0)) * (σ 3 w - (if c = 1 ∨ c = 2 then σ 1 0 else 0)) + (σ 4 w - (if 1 < c then σ 1 1 else 0)) * (σ 4 w - (if 1 < c then σ 1 1 else 0)))
theorem crn_sd {σC σM : St} (_ : Rw σC σM) {w c : Nat} (hc : c < 4) : 4 * sd σC w c * sd σC w c ≤ crn σC c w ∧ 4 * sd σC w ((c + 3) % 4) * sd σC w ((c + 3) % 4) ≤ crn σC c w := by
  have key : ∀ x y : Int, 4 * x * x ≤ 4 * (x * x + y * y) ∧ 4 * y * y ≤ 4 * (x * x + y * y) := by
    intro x y
    have h1 := sq_nn x
    have h2 := sq_nn y
    have e1 : 4 * x * x = 4 * (x * x) := by grind
    have e2 : 4 * y * y = 4 * (y * y) := by grind
    omega
  have neg : ∀ x y : Int, 4 * (x - y) * (x - y) = 4 * (y - x) * (y - x) := by
    intro x y
    grind
  rcases (by omega : c = 0 ∨ c = 1 ∨ c = 2 ∨ c = 3) with rfl | rfl | rfl | rfl
  · have := key (σC 3 w - 0) (σC 4 w - 0)
    simp only [Int.sub_zero] at this
    simp [sd, crn]
    exact ⟨this.2, this.1⟩
  · have := key (σC 3 w - σC 1 0) (σC 4 w - 0)
    simp only [Int.sub_zero] at this
    simp [sd, crn]
    rw [neg (σC 1 0)]
    exact ⟨this.1, this.2⟩
  · have := key (σC 3 w - σC 1 0) (σC 4 w - σC 1 1)
    simp [sd, crn]
    rw [neg (σC 1 0), neg (σC 1 1)]
    exact ⟨this.2, this.1⟩
  · have := key (σC 3 w - 0) (σC 4 w - σC 1 1)
    simp only [Int.sub_zero] at this
    simp [sd, crn]
    rw [neg (σC 1 1)]
    exact ⟨this.1, this.2⟩
theorem crn_rng {σC σM : St} (h : Rw σC σM) {w c : Nat} (hw : w < 24) : 0 ≤ crn σC c w ∧ crn σC c w ≤ 8000000 := by
  have w1 := h.1.1
  have w2 := h.1.2.1
  obtain ⟨-, -, r3, r4⟩ := h.1.rng hw
  have c1 := sq_bd (a := σC 3 w - (if c = 1 ∨ c = 2 then σC 1 0 else 0)) (A := 1000) (by split <;> omega) (by split <;> omega)
  have c2 := sq_bd (a := σC 4 w - (if 1 < c then σC 1 1 else 0)) (A := 1000) (by split <;> omega) (by split <;> omega)
  unfold crn
  omega
theorem toCorner_spec {σC τ : St} (h : Rw σC τ) {c : Nat} (hc : c < 4) (h0 : 0 < ct (pC σC) 24) : ∃ w, w < 24 ∧ pC σC w = true ∧ f_X11_toCorner τ (c : Int) = some (crn σC c w) := by
  have m0 := h.2.2.1
  have m1 := h.2.2.2.1
  have key : ∀ fuel, 24 < fuel → ∃ e, jloop (fun (q : (Int × Int)) => match q with | (x2, x4) => f_X11_toCorner_b7 τ (c : Int) x2 x4) fuel (9223372036854775807, 0) = some e ∧ ∃ w, w < 24 ∧ pC σC w = true ∧ e = crn σC c w := by
    intro fuel hfu
    refine jloop_ex (I := fun s q => q.2 = (s : Int) ∧ (0 ≤ q.1 ∧ q.1 ≤ 9223372036854775807) ∧ ((q.1 = 9223372036854775807 ∧ ∀ u, u < s → pC σC u = false) ∨ ∃ u, u < s ∧ pC σC u = true ∧ q.1 = crn σC c u)) (N := 24) (J := _) ?_ ?_ 24 0 fuel _ (by omega) (by omega) ⟨rfl, ⟨by decide, by decide⟩, Or.inl ⟨rfl, fun u hu => absurd hu (Nat.not_lt_zero u)⟩⟩
    · rintro s ⟨v, _⟩ hs ⟨rfl, hx, i1⟩
      dsimp only at hx i1
      show ∃ s', f_X11_toCorner_b7 τ (c : Int) v (s : Int) = some (.inl s') ∧ _
      rw [f_X11_toCorner_b7, jc_II (by omega) (by omega) (by omega) (by omega), if_pos (by omega), h.cnM hs, jbind_s]
      cases hp : pC σC s with
      | false =>
        rw [bI_f, jc_I (by omega) (by omega), if_pos rfl, jlet_v, cast_s]
        refine ⟨_, rfl, rfl, hx, ?_⟩
        rcases i1 with ⟨i1, i2⟩ | ⟨u, hu, i1⟩
        · refine Or.inl ⟨i1, fun u hu => ?_⟩
          by_cases e : u = s
          · rw [e, hp]
          · exact i2 u (by omega)
        · exact Or.inr ⟨u, by omega, i1⟩
      | true =>
        obtain ⟨-, m2, m3, -⟩ := h.M hs hp
        have w1 := h.1.1
        have w2 := h.1.2.1
        obtain ⟨-, -, r3, r4⟩ := h.1.rng hs
        have cr := crn_rng h (c := c) hs
        have st : jchk (0 ≤ (s : Int) ∧ (s : Int) < 24) (jchk (inI (c : Int) ∧ inI 1) (if (c : Int) = 1 then f_X11_toCorner_b46 τ (c : Int) v (s : Int) 4 (τ 2 (s : Int).toNat) else jchk (inI (c : Int) ∧ inI 2) (if (c : Int) = 2 then f_X11_toCorner_b46 τ (c : Int) v (s : Int) 4 (τ 2 (s : Int).toNat) else f_X11_toCorner_b54 τ (c : Int) v (s : Int) 4 (τ 2 (s : Int).toNat) 0))) = some (.inl (if crn σC c s < v then crn σC c s else v, ((s + 1 : Nat) : Int))) := by
          have e76 : ∀ X Y Z : Int, inI (Y - Z) → 4 * (X * X + (Y - Z) * (Y - Z)) = crn σC c s → f_X11_toCorner_b76 τ (c : Int) v (s : Int) 4 X Y Z = some (.inl (if crn σC c s < v then crn σC c s else v, ((s + 1 : Nat) : Int))) := by
            intro X Y Z hi e
            obtain ⟨i1, i2⟩ := hi
            rw [f_X11_toCorner_b76, jc_I (by omega) (by omega), f_X11_square, f_X11_square_b0, jbind_s, jlet_v, e, jc_LL (by omega) (by omega) (by omega) (by omega)]
            by_cases q : crn σC c s < v
            · rw [if_pos q, if_pos q, jlet_v, jlet_v, cast_s]
            · rw [if_neg q, if_neg q, jlet_v, cast_s]
          have e54 : ∀ Z : Int, Z = (if c = 1 ∨ c = 2 then σC 1 0 else 0) → f_X11_toCorner_b54 τ (c : Int) v (s : Int) 4 (σC 3 s) Z = some (.inl (if crn σC c s < v then crn σC c s else v, ((s + 1 : Nat) : Int))) := by
            intro Z hZ
            have z1 : 0 ≤ Z ∧ Z ≤ 1000 := by
              rw [hZ]
              split <;> omega
            rw [f_X11_toCorner_b54, jc_I (by omega) (by omega), jc_ix (by omega) (by omega), jc_II (by omega) (by omega) (by omega) (by omega), cast_n, m3, m1]
            by_cases q : 1 < c
            · rw [if_pos (by omega), e76 _ _ _ ⟨by omega, by omega⟩]
              unfold crn
              rw [if_pos q, hZ]
            · rw [if_neg (by omega), e76 _ _ _ ⟨by omega, by omega⟩]
              unfold crn
              rw [if_neg q, hZ]
          rw [jc_ix (by omega) (by omega), jc_II (by omega) (by omega) (by omega) (by omega), cast_n, m2]
          by_cases q1 : c = 1
          · rw [if_pos (by omega), f_X11_toCorner_b46, m0, e54 _ (by rw [if_pos (Or.inl q1)])]
          · rw [if_neg (by omega), jc_II (by omega) (by omega) (by omega) (by omega)]
            by_cases q2 : c = 2
            · rw [if_pos (by omega), f_X11_toCorner_b46, m0, e54 _ (by rw [if_pos (Or.inr q2)])]
            · rw [if_neg (by omega), e54 _ (by rw [if_neg (fun z => z.elim q1 q2)])]
        rw [bI_t, jc_I (by omega) (by omega), if_neg (by omega), st]
        refine ⟨_, rfl, rfl, ?_, ?_⟩
        · dsimp only
          split <;> omega
        · dsimp only
          by_cases q : crn σC c s < v
          · rw [if_pos q]
            exact Or.inr ⟨s, by omega, hp, rfl⟩
          · rw [if_neg q]
            rcases i1 with ⟨i1, i2⟩ | ⟨u, hu, i1⟩
            · omega
            · exact Or.inr ⟨u, by omega, i1⟩
    · rintro ⟨v, _⟩ ⟨rfl, hx, i1⟩
      refine ⟨v, ?_, ?_⟩
      · show f_X11_toCorner_b7 τ (c : Int) v ((24 : Nat) : Int) = _
        rw [f_X11_toCorner_b7, jc_II (by omega) (by omega) (by omega) (by omega), if_neg (by omega)]
      · rcases i1 with ⟨-, i2⟩ | ⟨u, hu, i1⟩
        · have := ct_zero.mpr i2
          omega
        · exact ⟨u, hu, i1⟩
  obtain ⟨e, e1, w, e2, e3, e4⟩ := key 1000 (by omega)
  refine ⟨w, e2, e3, ?_⟩
  rw [f_X11_toCorner, f_X11_toCorner_b0, jlet_v, jlet_v, e1, jbind_s, e4]
