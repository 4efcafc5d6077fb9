/-! ===== the pure side 11: nearest, serves, next ===== -/
theorem Rw.cC {σC τC σM : St} (h : Rw σC σM) (hC : ∀ k, k < 7 → τC k = σC k) : Rw τC σM := by
  have ep : pC τC = pC σC := by
    funext w
    unfold pC
    rw [hC 1 (by omega), hC 5 (by omega), hC 6 (by omega)]
  have eh : hC_ τC = hC_ σC := by
    funext w
    unfold hC_
    rw [hC 5 (by omega)]
  unfold Rw
  rw [ep, eh, hC 1 (by omega), hC 2 (by omega), hC 3 (by omega), hC 4 (by omega), hC 5 (by omega), hC 6 (by omega)]
  exact h
theorem RA.cC {σC τC σM : St} (h : RA σC σM) (hC : ∀ k, k < 20 → τC k = σC k) : RA τC σM := ⟨h.1.cC (fun k hk => hC k (by omega)), h.2.1.fr (fun k _ h2 => hC k (by omega)) (fun _ _ _ => rfl) rfl, h.2.2.fr (fun k _ h2 => hC k (by omega)) rfl rfl⟩
theorem Rw.cM {σC σM τM : St} (h : Rw σC σM) (hM : ∀ k, 0 < k → k < 6 → τM k = σM k) (h0 : τM 0 0 = σM 0 0) (h1 : τM 0 1 = σM 0 1) (h2 : τM 0 2 = σM 0 2) : Rw σC τM := by
  unfold Rw RM
  rw [h0, h1, h2, hM 1 (by omega) (by omega), hM 2 (by omega) (by omega), hM 3 (by omega) (by omega), hM 4 (by omega) (by omega), hM 5 (by omega) (by omega)]
  exact h
theorem RA.cM {σC σM τM : St} (h : RA σC σM) (hM : ∀ k, 0 < k → k < 13 ∨ k = 31 ∨ k = 32 → τM k = σM k) (h0 : ∀ j, j < 3 ∨ j = 8 → τM 0 j = σM 0 j) : RA σC τM := ⟨h.1.cM (fun k h1 h2 => hM k h1 (by omega)) (h0 0 (by omega)) (h0 1 (by omega)) (h0 2 (by omega)), h.2.1.fr (fun _ _ _ => rfl) (fun k h1 h2 => hM k (by omega) (by omega)) (h0 8 (by omega)), h.2.2.fr (fun _ _ _ => rfl) (hM 31 (by omega) (by omega)) (hM 32 (by omega) (by omega))⟩
theorem pC_here {σ : St} {w : Nat} (h : pC σ w = true) : σ 5 w ≠ -1 := by
  intro e
  simp [pC, cn, e] at h
theorem Rw.M {σC σM : St} (h : Rw σC σM) {w : Nat} (hw : w < 24) (hp : pC σC w = true) : σM 4 w = σC 5 w ∧ σM 2 w = σC 3 w ∧ σM 3 w = σC 4 w ∧ σM 5 w = σC 6 w := by
  rcases h.2.2.2.2.2.1 w hw with ⟨-, z⟩ | ⟨-, -, z⟩
  · exact absurd z (pC_here hp)
  · exact z
theorem Rw.ct24 {σC σM : St} (_ : Rw σC σM) {w : Nat} (hw : w < 24) (hp : pC σC w = true) : ct (pC σC) w < ct (pC σC) 24 ∧ ct (pC σC) 24 ≤ 24 := ⟨ct_lt hp hw, ct_le _ _⟩
theorem Rw.many {σC σM : St} (h : Rw σC σM) : σC 1 4 = ((ct (pC σC) 24 : Nat) : Int) := h.2.2.2.2.2.2.2.1
theorem Rw.kth {σC σM : St} (h : Rw σC σM) {w : Nat} (hw : w < 24) (hp : pC σC w = true) : σC 2 (ct (pC σC) w) = (w : Int) := h.2.2.2.2.2.2.2.2 w hw hp
/-- the square of a distance -/
def sqd (σ : St) (v w : Nat) : Int := (σ 3 v - σ 3 w) * (σ 3 v - σ 3 w) + (σ 4 v - σ 4 w) * (σ 4 v - σ 4 w)
theorem Rw.sq2 {σC σM : St} (h : Rw σC σM) {v w : Nat} (hv : v < 24) (hw : w < 24) : 0 ≤ sqd σC v w ∧ sqd σC v w ≤ 2000000 := by
  obtain ⟨-, -, a1, a2⟩ := h.rng hv
  obtain ⟨-, -, b1, b2⟩ := h.rng hw
  have c1 := sq_bd (a := σC 3 v - σC 3 w) (A := 1000) (by omega) (by omega)
  have c2 := sq_bd (a := σC 4 v - σC 4 w) (A := 1000) (by omega) (by omega)
  unfold sqd
  omega
theorem square_spec {σ : St} {v w : Nat} (hv : v < 24) (hw : w < 24) : f_X9_square σ (v : Int) (w : Int) = some (sqd σ v w) := by
  rw [f_X9_square, f_X9_square_b0, jc_ix (by omega) (by omega), jc_ix (by omega) (by omega), jlet_v, jc_ix (by omega) (by omega), jc_ix (by omega) (by omega), jlet_v, cast_n, cast_n]
  rfl
theorem apart_spec {σC σM : St} (h : Rw σC σM) {v w : Nat} (hv : v < 24) (hw : w < 24) (pv : pC σC v = true) (pw : pC σC w = true) : f_X11_apart σM (v : Int) (w : Int) = some (sqd σC v w) := by
  obtain ⟨-, v2, v3, -⟩ := h.M hv pv
  obtain ⟨-, w2, w3, -⟩ := h.M hw pw
  obtain ⟨-, -, a1, a2⟩ := h.rng hv
  obtain ⟨-, -, b1, b2⟩ := h.rng hw
  rw [f_X11_apart, f_X11_apart_b0, cast_n, cast_n, v2, v3, w2, w3, jc_ix (by omega) (by omega), jc_ix (by omega) (by omega), jc_I (by omega) (by omega), jc_ix (by omega) (by omega), jc_ix (by omega) (by omega), jc_I (by omega) (by omega), f_X11_square, f_X11_square_b0, jbind_s]
  rfl
/-- the nearest of those below n -/
def nr (p : Nat → Bool) (d : Nat → Int) (x : Nat) : Nat → Int
  | 0 => -1
  | n + 1 => if p n = true ∧ n ≠ x ∧ (nr p d x n = -1 ∨ d n < d (nr p d x n).toNat) then (n : Int) else nr p d x n
theorem nr_rng (p : Nat → Bool) (d : Nat → Int) (x : Nat) : ∀ n, nr p d x n = -1 ∨ ∃ v : Nat, v < n ∧ p v = true ∧ nr p d x n = (v : Int)
  | 0 => Or.inl rfl
  | n + 1 => by
    unfold nr
    by_cases c : p n = true ∧ n ≠ x ∧ (nr p d x n = -1 ∨ d n < d (nr p d x n).toNat)
    · rw [if_pos c]
      exact Or.inr ⟨n, by omega, c.1, rfl⟩
    · rw [if_neg c]
      rcases nr_rng p d x n with z | ⟨v, hv, z⟩
      · exact Or.inl z
      · exact Or.inr ⟨v, by omega, z⟩
theorem nearC {σC σM : St} (h : Rw σC σM) {x : Nat} (hx : x < 24) (fuel : Nat) (hf : 24 < fuel) : jloop (fun (q : (Int × Int)) => match q with | (x2, x3) => f_X10_nearest_b17 σC (x : Int) x2 x3) fuel (-1, 0) = some (nr (pC σC) (fun v => sqd σC v x) x 24) := by
  have hm := h.many
  refine some_of (J := fun e => e = nr (pC σC) (fun v => sqd σC v x) x 24) (loopC (pC σC) (I := fun w s => s = (nr (pC σC) (fun v => sqd σC v x) x w, ((ct (pC σC) w : Nat) : Int))) (J := _) ?_ ?_ ?_ 24 0 fuel _ (by omega) (by omega) rfl) (fun _ z => z)
  · rintro w s hw hp rfl
    left
    obtain ⟨c1, c2⟩ := h.ct24 hw hp
    refine ⟨_, ?_, rfl⟩
    show f_X10_nearest_b17 σC (x : Int) (nr (pC σC) (fun v => sqd σC v x) x w) ((ct (pC σC) w : Nat) : Int) = _
    rw [f_X10_nearest_b17, hm, jc_II (by omega) (by omega) (by omega) (by omega), if_pos (by omega), jc_ix (by omega) (by omega), jlet_v, cast_n, h.kth hw hp, jc_II (by omega) (by omega) (by omega) (by omega), ct_t hp, nr]
    by_cases e : w = x
    · rw [if_pos (by omega), jlet_v, if_neg (fun z => z.2.1 e), cast_s]
    · rw [if_neg (by omega)]
      rcases nr_rng (pC σC) (fun v => sqd σC v x) x w with z | ⟨v, hv, pv, z⟩
      · rw [z, jc_II (by omega) (by omega) (by omega) (by omega), if_pos rfl, jlet_v, jlet_v, if_pos ⟨hp, e, Or.inl rfl⟩, cast_s]
      · have d1 := h.sq2 hw hx
        have d2 := h.sq2 (show v < 24 by omega) hx
        rw [z, jc_II (by omega) (by omega) (by omega) (by omega), if_neg (by omega), square_spec hw hx, jbind_s, square_spec (by omega) hx, jbind_s, jc_II (by omega) (by omega) (by omega) (by omega), cast_n]
        by_cases c : sqd σC w x < sqd σC v x
        · rw [if_pos c, jlet_v, jlet_v, if_pos ⟨hp, e, Or.inr c⟩, cast_s]
        · rw [if_neg c, jlet_v, if_neg (fun z => by rcases z.2.2 with z | z; omega; exact c z), cast_s]
  · rintro w s hw hp rfl
    rw [ct_f hp, nr, if_neg (fun z => by rw [hp] at z; exact absurd z.1 (by decide))]
  · rintro s rfl
    refine ⟨_, ?_, rfl⟩
    have := ct_le (pC σC) 24
    show f_X10_nearest_b17 σC (x : Int) _ ((ct (pC σC) 24 : Nat) : Int) = _
    rw [f_X10_nearest_b17, hm, jc_II (by omega) (by omega) (by omega) (by omega), if_neg (by omega)]
theorem nearM {σC σM : St} (h : Rw σC σM) {x : Nat} (hx : x < 24) (px : pC σC x = true) (fuel : Nat) (hf : 24 < fuel) : jloop (fun (q : (Int × Int)) => match q with | (x2, x3) => f_X11_nearest_b14 σM (x : Int) x2 x3) fuel (-1, 0) = some (nr (pC σC) (fun v => sqd σC v x) x 24) := by
  refine jloop_for0 (g := fun w => (nr (pC σC) (fun v => sqd σC v x) x w, (w : Int))) (N := 24) (e := _) rfl hf (fun w hw => ?_) ?_
  · show f_X11_nearest_b14 σM (x : Int) (nr (pC σC) (fun v => sqd σC v x) x w) (w : Int) = _
    rw [f_X11_nearest_b14, jc_II (by omega) (by omega) (by omega) (by omega), if_pos (by omega), jc_II (by omega) (by omega) (by omega) (by omega), nr]
    by_cases e : w = x
    · rw [if_pos (by omega), jlet_v, if_neg (fun z => z.2.1 e), cast_s]
    · rw [if_neg (by omega), h.cnM hw, jbind_s]
      cases hp : pC σC w with
      | false => rw [bI_f, jc_I (by omega) (by omega), if_pos rfl, jlet_v, if_neg (fun z => by simp at z), cast_s]
      | true =>
        rw [bI_t, jc_I (by omega) (by omega), if_neg (by omega)]
        rcases nr_rng (pC σC) (fun v => sqd σC v x) x w with z | ⟨v, hv, pv, z⟩
        · rw [z, jc_II (by omega) (by omega) (by omega) (by omega), if_pos rfl, jlet_v, jlet_v, if_pos ⟨rfl, e, Or.inl rfl⟩, cast_s]
        · have d1 := h.sq2 hw hx
          have d2 := h.sq2 (show v < 24 by omega) hx
          rw [z, jc_II (by omega) (by omega) (by omega) (by omega), if_neg (by omega), apart_spec h hw hx hp px, jbind_s, apart_spec h (by omega) hx pv px, jbind_s, jc_LL (by omega) (by omega) (by omega) (by omega), cast_n]
          by_cases c : sqd σC w x < sqd σC v x
          · rw [if_pos c, jlet_v, jlet_v, if_pos ⟨rfl, e, Or.inr c⟩, cast_s]
          · rw [if_neg c, jlet_v, if_neg (fun z => by rcases z.2.2 with z | z; omega; exact c z), cast_s]
  · show f_X11_nearest_b14 σM (x : Int) _ ((24 : Nat) : Int) = _
    rw [f_X11_nearest_b14, jc_II (by omega) (by omega) (by omega) (by omega), if_neg (by omega)]
theorem nearest_eq {σC σM : St} (h : Rw σC σM) {w : Int} (hw : inI w) : ∃ v, f_X10_nearest σC w = some v ∧ f_X11_nearest σM w = some v := by
  rcases ix24 w with q | ⟨x, hx, rfl⟩
  · refine ⟨-1, ?_, ?_⟩
    · rw [f_X10_nearest, f_X10_nearest_b0, cnC_out hw q, jbind_s, jc_I (by omega) (by omega), if_pos rfl]
    · rw [f_X11_nearest, f_X11_nearest_b0, cnM_out hw q, jbind_s, jc_I (by omega) (by omega), if_pos rfl]
  · cases hp : pC σC x with
    | false =>
      refine ⟨-1, ?_, ?_⟩
      · rw [f_X10_nearest, f_X10_nearest_b0, h.cnC hx, hp, bI_f, jbind_s, jc_I (by omega) (by omega), if_pos rfl]
      · rw [f_X11_nearest, f_X11_nearest_b0, h.cnM hx, hp, bI_f, jbind_s, jc_I (by omega) (by omega), if_pos rfl]
    | true =>
      refine ⟨nr (pC σC) (fun v => sqd σC v x) x 24, ?_, ?_⟩
      · rw [f_X10_nearest, f_X10_nearest_b0, h.cnC hx, hp, bI_t, jbind_s, jc_I (by omega) (by omega), if_neg (by omega), jlet_v, jlet_v, nearC h hx 1000 (by omega), jbind_s]
      · rw [f_X11_nearest, f_X11_nearest_b0, h.cnM hx, hp, bI_t, jbind_s, jc_I (by omega) (by omega), if_neg (by omega), jlet_v, jlet_v, nearM h hx hp 1000 (by omega), jbind_s]
/-- what is taken off at a well; a cost -/
def offC (σ : St) (w : Nat) : Int := if σ 5 w = 1 then σ 6 w else 0
def cst (σ : St) (x y q : Int) (w : Nat) : Int := (x - q * σ 3 w) * (x - q * σ 3 w) + (y - q * σ 4 w) * (y - q * σ 4 w) - q * q * offC σ w
theorem Rw.off {σC σM : St} (h : Rw σC σM) {w : Nat} (hw : w < 24) : 0 ≤ offC σC w ∧ offC σC w ≤ 1000000 := by
  have := (h.rng hw).2.1
  unfold offC
  split <;> omega
theorem takenOff_spec {σC σM : St} (h : Rw σC σM) {w : Nat} (hw : w < 24) : f_X9_takenOff σC (w : Int) = some (offC σC w) := by
  obtain ⟨r1, r2, -⟩ := h.rng hw
  rw [f_X9_takenOff, f_X9_takenOff_b0, has_in hw r1, jbind_s, cast_n]
  unfold offC
  by_cases c : σC 5 w = -1
  · simp (disch := omega) only [↓jlet_v, ↓jbind_s, ↓jc_I, ↓jc_II, ↓jc_ix, ↓if_pos, ↓if_neg, cast_n, jz_0, jz_1]
  · by_cases c2 : σC 5 w = 1
    · simp (disch := omega) only [↓jlet_v, ↓jbind_s, ↓jc_I, ↓jc_II, ↓jc_ix, ↓if_pos, ↓if_neg, cast_n, jz_0, jz_1]
    · simp (disch := omega) only [↓jlet_v, ↓jbind_s, ↓jc_I, ↓jc_II, ↓jc_ix, ↓if_pos, ↓if_neg, cast_n, jz_0, jz_1]
theorem offM_spec {σC σM : St} (h : Rw σC σM) {w : Nat} (hw : w < 24) (hp : pC σC w = true) : f_X11_off σM (w : Int) = some (offC σC w) := by
  obtain ⟨r1, r2, -⟩ := h.rng hw
  obtain ⟨m4, -, -, m5⟩ := h.M hw hp
  rw [f_X11_off, f_X11_off_b0, cast_n, m4, m5]
  unfold offC
  by_cases c2 : σC 5 w = 1
  · simp (disch := omega) only [↓jlet_v, ↓jbind_s, ↓jc_I, ↓jc_II, ↓jc_ix, ↓if_pos, ↓if_neg, cast_n, jz_0, jz_1]
  · simp (disch := omega) only [↓jlet_v, ↓jbind_s, ↓jc_I, ↓jc_II, ↓jc_ix, ↓if_pos, ↓if_neg, cast_n, jz_0, jz_1]
theorem costM_spec {σC σM : St} (h : Rw σC σM) {x y q : Int} (hx : inI x) (hy : inI y) (hq : inI q) {w : Nat} (hw : w < 24) (hp : pC σC w = true) : f_X11_cost σM (w : Int) x y q = some (cst σC x y q w) := by
  obtain ⟨x1, x2⟩ := hx
  obtain ⟨y1, y2⟩ := hy
  obtain ⟨q1, q2⟩ := hq
  obtain ⟨-, -, r1, r2⟩ := h.rng hw
  obtain ⟨-, m2, m3, -⟩ := h.M hw hp
  rw [f_X11_cost, f_X11_cost_b0, cast_n, m2, m3, jc_I (by omega) (by omega), jc_I (by omega) (by omega), jc_ix (by omega) (by omega), jc_I (by omega) (by omega), jlet_v, jc_I (by omega) (by omega), jc_I (by omega) (by omega), jc_ix (by omega) (by omega), jc_I (by omega) (by omega), jlet_v, offM_spec h hw hp, jbind_s, jc_I (by omega) (by omega), jc_I (by omega) (by omega)]
  unfold cst
  rw [show offC σC w * q * q = q * q * offC σC w by grind]
/-- a point that may be asked for -/
def isPt (σ : St) (x y q : Int) : Prop := 1 ≤ q ∧ q ≤ 1000 ∧ 0 ≤ x ∧ x ≤ σ 1 0 * q ∧ 0 ≤ y ∧ y ≤ σ 1 1 * q
theorem isPt_both {σC σM : St} (h : Rw σC σM) {x y q : Int} (hx : inI x) (hy : inI y) (hq : inI q) : (isPt σC x y q ∧ f_X10_isPoint σC x y q = some 1 ∧ f_X11_isPoint σM x y q = some 1) ∨ (¬ isPt σC x y q ∧ f_X10_isPoint σC x y q = some 0 ∧ f_X11_isPoint σM x y q = some 0) := by
  obtain ⟨x1, x2⟩ := hx
  obtain ⟨y1, y2⟩ := hy
  obtain ⟨q1, q2⟩ := hq
  have w1 := h.1.1
  have w2 := h.1.2.1
  have m0 := h.2.2.1
  have m1 := h.2.2.2.1
  unfold isPt
  by_cases c1 : q < 1
  · refine Or.inr ⟨by omega, ?_, ?_⟩
    · rw [f_X10_isPoint, f_X10_isPoint_b0]; simp (disch := omega) only [↓jlet_v, ↓jbind_s, ↓jc_I, ↓jc_II, ↓jc_ix, ↓if_pos, ↓if_neg, cast_n, jz_0, jz_1]
    · rw [f_X11_isPoint, f_X11_isPoint_b0]; simp (disch := omega) only [↓jlet_v, ↓jbind_s, ↓jc_I, ↓jc_II, ↓jc_ix, ↓if_pos, ↓if_neg, cast_n, jz_0, jz_1]
  by_cases c2 : 1000 < q
  · refine Or.inr ⟨by omega, ?_, ?_⟩
    · rw [f_X10_isPoint, f_X10_isPoint_b0]; simp (disch := omega) only [↓jlet_v, ↓jbind_s, ↓jc_I, ↓jc_II, ↓jc_ix, ↓if_pos, ↓if_neg, cast_n, jz_0, jz_1]
    · rw [f_X11_isPoint, f_X11_isPoint_b0]; simp (disch := omega) only [↓jlet_v, ↓jbind_s, ↓jc_I, ↓jc_II, ↓jc_ix, ↓if_pos, ↓if_neg, cast_n, jz_0, jz_1]
  have b1 := mul_bd (a := σC 1 0) (b := q) (A := 1000) (B := 1000) (by omega) (by omega) (by omega) (by omega)
  have b2 := mul_bd (a := σC 1 1) (b := q) (A := 1000) (B := 1000) (by omega) (by omega) (by omega) (by omega)
  rw [f_X10_isPoint, f_X10_isPoint_b0, f_X11_isPoint, f_X11_isPoint_b0, m0, m1]
  generalize σC 1 0 * q = W at *
  generalize σC 1 1 * q = H at *
  by_cases c3 : x < 0
  · refine Or.inr ⟨by omega, ?_, ?_⟩ <;> simp (disch := omega) only [↓jlet_v, ↓jbind_s, ↓jc_I, ↓jc_II, ↓jc_ix, ↓if_pos, ↓if_neg, cast_n, jz_0, jz_1]
  by_cases c4 : W < x
  · refine Or.inr ⟨by omega, ?_, ?_⟩
    · simp (disch := omega) only [↓jlet_v, ↓jbind_s, ↓jc_I, ↓jc_II, ↓jc_ix, ↓if_pos, ↓if_neg, cast_n, jz_0, jz_1]
    · by_cases c5 : y < 0
      · simp (disch := omega) only [↓jlet_v, ↓jbind_s, ↓jc_I, ↓jc_II, ↓jc_ix, ↓if_pos, ↓if_neg, cast_n, jz_0, jz_1]
      · simp (disch := omega) only [↓jlet_v, ↓jbind_s, ↓jc_I, ↓jc_II, ↓jc_ix, ↓if_pos, ↓if_neg, cast_n, jz_0, jz_1]
  by_cases c5 : y < 0
  · refine Or.inr ⟨by omega, ?_, ?_⟩ <;> simp (disch := omega) only [↓jlet_v, ↓jbind_s, ↓jc_I, ↓jc_II, ↓jc_ix, ↓if_pos, ↓if_neg, cast_n, jz_0, jz_1]
  by_cases c6 : H < y
  · refine Or.inr ⟨by omega, ?_, ?_⟩ <;> simp (disch := omega) only [↓jlet_v, ↓jbind_s, ↓jc_I, ↓jc_II, ↓jc_ix, ↓if_pos, ↓if_neg, cast_n, jz_0, jz_1]
  · refine Or.inl ⟨by omega, ?_, ?_⟩ <;> simp (disch := omega) only [↓jlet_v, ↓jbind_s, ↓jc_I, ↓jc_II, ↓jc_ix, ↓if_pos, ↓if_neg, cast_n, jz_0, jz_1]
theorem cst_rng {σC σM : St} (h : Rw σC σM) {x y q : Int} (hq : isPt σC x y q) {w : Nat} (hw : w < 24) : -1000000000000 ≤ cst σC x y q w ∧ cst σC x y q w ≤ 2000000000000 := by
  obtain ⟨q1, q2, x1, x2, y1, y2⟩ := hq
  have w1 := h.1.1
  have w2 := h.1.2.1
  obtain ⟨-, -, r1, r2⟩ := h.rng hw
  have r3 := h.off hw
  have b1 := mul_bd (a := σC 1 0) (b := q) (A := 1000) (B := 1000) (by omega) (by omega) (by omega) (by omega)
  have b2 := mul_bd (a := σC 1 1) (b := q) (A := 1000) (B := 1000) (by omega) (by omega) (by omega) (by omega)
  have b3 := mul_bd (a := q) (b := σC 3 w) (A := 1000) (B := 1000) (by omega) (by omega) (by omega) (by omega)
  have b4 := mul_bd (a := q) (b := σC 4 w) (A := 1000) (B := 1000) (by omega) (by omega) (by omega) (by omega)
  have p3 := Int.mul_nonneg (show 0 ≤ q by omega) (show 0 ≤ σC 3 w by omega)
  have p4 := Int.mul_nonneg (show 0 ≤ q by omega) (show 0 ≤ σC 4 w by omega)
  have b5 := mul_bd (a := q) (b := q) (A := 1000) (B := 1000) (by omega) (by omega) (by omega) (by omega)
  have b6 := mul_bd (a := q * q) (b := offC σC w) (A := 1000000) (B := 1000000) (by omega) (by omega) (by omega) (by omega)
  have p6 := Int.mul_nonneg (show 0 ≤ q * q from sq_nn q) (show 0 ≤ offC σC w by omega)
  have c1 := sq_bd (a := x - q * σC 3 w) (A := 1000000) (by omega) (by omega)
  have c2 := sq_bd (a := y - q * σC 4 w) (A := 1000000) (by omega) (by omega)
  unfold cst
  omega
theorem tell_spec {σC σM : St} (h : Rw σC σM) {x y q : Int} (hx : inI x) (hy : inI y) (hq : inI q) (fuel : Nat) (hf : 24 < fuel) : ∃ τ, jloop (fun (q' : (St × Int)) => match q' with | (σ, x4) => f_X10_tellCosts_b3 σ x y q x4) fuel (σC, 0) = some τ ∧ (∀ k, k ≠ 69 → τ k = σC k) ∧ ∀ w, w < 24 → pC σC w = true → τ 69 (ct (pC σC) w) = cst σC x y q w := by
  obtain ⟨x1, x2⟩ := hx
  obtain ⟨y1, y2⟩ := hy
  obtain ⟨q1, q2⟩ := hq
  have hm := h.many
  refine loopC (pC σC) (I := fun w s => s.2 = ((ct (pC σC) w : Nat) : Int) ∧ (∀ k, k ≠ 69 → s.1 k = σC k) ∧ ∀ v, v < w → pC σC v = true → s.1 69 (ct (pC σC) v) = cst σC x y q v) (J := _) ?_ ?_ ?_ 24 0 fuel _ (by omega) (by omega) ⟨rfl, fun _ _ => rfl, fun v hv => absurd hv (Nat.not_lt_zero v)⟩
  · rintro w ⟨τ, _⟩ hw hp ⟨rfl, i1, i2⟩
    left
    dsimp only at i1 i2
    obtain ⟨c1, c2⟩ := h.ct24 hw hp
    obtain ⟨-, -, r1, r2⟩ := h.rng hw
    have r3 := h.off hw
    refine ⟨(up2 τ 69 (ct (pC σC) w) (cst σC x y q w), ((ct (pC σC) (w + 1) : Nat) : Int)), ?_, rfl, fun k hk => ?_, fun v hv pv => ?_⟩
    · show f_X10_tellCosts_b3 τ x y q ((ct (pC σC) w : Nat) : Int) = _
      have hT : Rw τ σM := h.cC (fun k hk => i1 k (by omega))
      have o := takenOff_spec hT hw
      rw [f_X10_tellCosts_b3, i1 1 (by decide), hm, jc_II (by omega) (by omega) (by omega) (by omega), if_pos (by omega), jc_ix (by omega) (by omega), jlet_v, cast_n, i1 2 (by decide), h.kth hw hp, jc_I (by omega) (by omega), jc_I (by omega) (by omega), jc_ix (by omega) (by omega), i1 3 (by decide), cast_n, jc_I (by omega) (by omega), jlet_v, jc_I (by omega) (by omega), jc_I (by omega) (by omega), jc_ix (by omega) (by omega), i1 4 (by decide), jc_I (by omega) (by omega), jlet_v, jc_I (by omega) (by omega), jc_I (by omega) (by omega), o, jbind_s]
      have eo : offC τ w = offC σC w := by unfold offC; rw [i1 5 (by decide), i1 6 (by decide)]
      rw [eo, jc_I (by omega) (by omega), jc_ix (by omega) (by omega), jlet_v, jlet_v, ct_t hp, cast_s]
      rfl
    · dsimp only
      rw [up2_k hk, i1 k hk]
    · dsimp only
      by_cases e : v = w
      · rw [e, up2_same]
      · rw [up2_j (fun z => e (ct_inj pv hp z))]
        exact i2 v (by omega) pv
  · rintro w ⟨τ, _⟩ hw hp ⟨rfl, i1, i2⟩
    refine ⟨by dsimp only; rw [ct_f hp], i1, fun v hv pv => ?_⟩
    by_cases e : v = w
    · rw [e, hp] at pv
      cases pv
    · exact i2 v (by omega) pv
  · rintro ⟨τ, _⟩ ⟨rfl, i1, i2⟩
    refine ⟨τ, ?_, i1, i2⟩
    have := ct_le (pC σC) 24
    show f_X10_tellCosts_b3 τ x y q ((ct (pC σC) 24 : Nat) : Int) = _
    dsimp only at i1
    rw [f_X10_tellCosts_b3, i1 1 (by decide), hm, jc_II (by omega) (by omega) (by omega) (by omega), if_neg (by omega)]
