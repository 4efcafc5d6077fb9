/-! ===== the pure side 32: rings, ring, round ===== -/
theorem rings_one {σC σM τC τM : St} (hC : ∀ k, k < 7 → τC k = σC k) (hR : RoundsOK τC) (hS : SM σC σM (cdn 24 0 0) τM) : ∃ M U V W, RC σC τC M U V W ∧ RMd σC τM M U V W ∧ TL σC (cdn 24 0 0) M U V W := by
  obtain ⟨M, U, V, W, r1, r2⟩ := hR
  obtain ⟨-, -, M', U', V', W', s1, s2⟩ := hS
  rw [TL_cC hC] at r2
  unfold RC at r1
  rw [rB_cC hC, rA_cC hC, rU_cC hC, rD_cC hC] at r1
  obtain ⟨e, e2⟩ := r2.one s2
  subst e
  refine ⟨M, U, V, W, r1, ⟨s1.1, fun i hi => ?_⟩, r2⟩
  obtain ⟨q1, q2, q3⟩ := e2 i hi
  rw [q1, q2, q3]
  exact s1.2 i hi
theorem rings_eq {σC σM : St} (h : Rw σC σM) (h1 : inI (σC 35 1)) (h2 : inI (σC 1 6)) (hc : σC 35 1 = σC 1 6 → RoundsOK σC) : ∃ v τC τM, f_X10_rings σC = some (v, τC) ∧ f_X11_rings σM = some (v, τM) ∧ (∀ k, k < 35 ∨ 40 < k → τC k = σC k) ∧ τC 35 1 = σC 1 6 ∧ RoundsOK τC ∧ (∀ k, k ≠ 0 → k < 21 ∨ 24 < k → τM k = σM k) ∧ (∀ j, j ≠ 29 → τM 0 j = σM 0 j) := by
  obtain ⟨τ, t0, t1, t2, t3⟩ := find_spec h h1 h2 hc
  obtain ⟨υ, u0, u1⟩ := ringsM_spec h
  obtain ⟨M, U, V, W, r1, r2, -⟩ := rings_one (fun k hk => t1 k (by omega)) t3 u1
  refine ⟨(M : Int), τ, υ, ?_, ?_, t1, t2, t3, u1.1, u1.2.1⟩
  · rw [f_X10_rings, f_X10_rings_b0, t0, jbind_s, r1.1]
  · rw [f_X11_rings, f_X11_rings_b0, u0, jbind_s, r2.1]
theorem ring_eq {σC σM : St} (h : Rw σC σM) (h1 : inI (σC 35 1)) (h2 : inI (σC 1 6)) (hc : σC 35 1 = σC 1 6 → RoundsOK σC) {k : Int} (hk : inI k) : ∃ v τC τM, f_X10_ring σC k = some (v, τC) ∧ f_X11_ring σM k = some (v, τM) ∧ (∀ k, k < 35 ∨ 40 < k → τC k = σC k) ∧ τC 35 1 = σC 1 6 ∧ RoundsOK τC ∧ (∀ k, k ≠ 0 → k < 21 ∨ 24 < k → τM k = σM k) ∧ (∀ j, j ≠ 29 → τM 0 j = σM 0 j) := by
  obtain ⟨k1, k2⟩ := hk
  obtain ⟨τ, t0, t1, t2, t3⟩ := find_spec h h1 h2 hc
  obtain ⟨υ, u0, u1⟩ := ringsM_spec h
  obtain ⟨M, U, V, W, r1, r2, r3⟩ := rings_one (fun k hk => t1 k (by omega)) t3 u1
  have hb := r3.bound h
  by_cases c1 : k < 0
  · refine ⟨0, τ, υ, ?_, ?_, t1, t2, t3, u1.1, u1.2.1⟩
    · rw [f_X10_ring, f_X10_ring_b0, t0, jbind_s, jc_I (by omega) (by omega), if_pos c1]
    · rw [f_X11_ring, f_X11_ring_b0, u0, jbind_s, jc_I (by omega) (by omega), if_pos c1]
  by_cases c2 : k < (M : Int)
  · obtain ⟨i, rfl⟩ : ∃ i : Nat, k = (i : Int) := ⟨k.toNat, by omega⟩
    refine ⟨((nb (rB σC (U i) (V i) (W i)) 24 : Nat) : Int), τ, υ, ?_, ?_, t1, t2, t3, u1.1, u1.2.1⟩
    · rw [f_X10_ring, f_X10_ring_b0, t0, jbind_s, jc_I (by omega) (by omega), if_neg c1, r1.1, jc_II (by omega) (by omega) (by omega) (by omega), if_pos c2, jc_ix (by omega) (by omega), cast_n, (r1.2 i (by omega)).1]
    · rw [f_X11_ring, f_X11_ring_b0, u0, jbind_s, jc_I (by omega) (by omega), if_neg c1, r2.1, jc_II (by omega) (by omega) (by omega) (by omega), if_pos c2, jc_ix (by omega) (by omega), cast_n, (r2.2 i (by omega)).1]
  · refine ⟨0, τ, υ, ?_, ?_, t1, t2, t3, u1.1, u1.2.1⟩
    · rw [f_X10_ring, f_X10_ring_b0, t0, jbind_s, jc_I (by omega) (by omega), if_neg c1, r1.1, jc_II (by omega) (by omega) (by omega) (by omega), if_neg c2]
    · rw [f_X11_ring, f_X11_ring_b0, u0, jbind_s, jc_I (by omega) (by omega), if_neg c1, r2.1, jc_II (by omega) (by omega) (by omega) (by omega), if_neg c2]
theorem mid_id (ux uy vx vy wx wy : Int) : (ux * ux + uy * uy) * (vy - wy) + (vx * vx + vy * vy) * (wy - uy) + (wx * wx + wy * wy) * (uy - vy) = ux * (2 * ((vx - ux) * (wy - uy) - (vy - uy) * (wx - ux))) + ((wy - uy) * ((ux - vx) * (ux - vx) + (uy - vy) * (uy - vy)) - (vy - uy) * ((ux - wx) * (ux - wx) + (uy - wy) * (uy - wy))) := by grind
theorem mid_id2 (ux uy vx vy wx wy : Int) : (ux * ux + uy * uy) * (wx - vx) + (vx * vx + vy * vy) * (ux - wx) + (wx * wx + wy * wy) * (vx - ux) = uy * (2 * ((vx - ux) * (wy - uy) - (vy - uy) * (wx - ux))) + ((vx - ux) * ((ux - wx) * (ux - wx) + (uy - wy) * (uy - wy)) - (wx - ux) * ((ux - vx) * (ux - vx) + (uy - vy) * (uy - vy))) := by grind
theorem rad_id (ax ay bx by_ : Int) : (by_ * (ax * ax + ay * ay) - ay * (bx * bx + by_ * by_)) * (by_ * (ax * ax + ay * ay) - ay * (bx * bx + by_ * by_)) + (ax * (bx * bx + by_ * by_) - bx * (ax * ax + ay * ay)) * (ax * (bx * bx + by_ * by_) - bx * (ax * ax + ay * ay)) = (ax * ax + ay * ay) * ((ax - bx) * (ax - bx) + (ay - by_) * (ay - by_)) * (bx * bx + by_ * by_) := by grind
theorem rad_eq (σ : St) (u v w : Nat) : rA σ u v w * rA σ u v w + rU σ u v w * rU σ u v w = sqd σ u v * sqd σ v w * sqd σ w u := by
  have id := rad_id (σ 3 v - σ 3 u) (σ 4 v - σ 4 u) (σ 3 w - σ 3 u) (σ 4 w - σ 4 u)
  have e1 : (σ 3 v - σ 3 u) * (σ 3 v - σ 3 u) + (σ 4 v - σ 4 u) * (σ 4 v - σ 4 u) = sqd σ u v := by unfold sqd; grind
  have e2 : (σ 3 w - σ 3 u) * (σ 3 w - σ 3 u) + (σ 4 w - σ 4 u) * (σ 4 w - σ 4 u) = sqd σ w u := rfl
  have e3 : (σ 3 v - σ 3 u - (σ 3 w - σ 3 u)) * (σ 3 v - σ 3 u - (σ 3 w - σ 3 u)) + (σ 4 v - σ 4 u - (σ 4 w - σ 4 u)) * (σ 4 v - σ 4 u - (σ 4 w - σ 4 u)) = sqd σ v w := by unfold sqd; grind
  rw [e1, e2, e3] at id
  rw [← id]
  unfold rA rU rS
  rw [sqd_sym σ w u]
  generalize sqd σ u v = A
  generalize sqd σ u w = B
  by_cases c : trn σ u v w < 0
  · simp only [if_pos c]
    grind
  · simp only [if_neg c]
theorem mid_spec {σC σM τ : St} (h : Rw σC τ) {i u v w : Nat} (hi : i < 64) (hu : u < 24) (hv : v < 24) (hw : w < 24) (pu : pC σC u = true) (pv : pC σC v = true) (pw : pC σC w = true) (t22 : τ 22 i = (u : Int)) (t23 : τ 23 i = (v : Int)) (t24 : τ 24 i = (w : Int)) : ∃ υ, f_X11_middle τ (i : Int) = some υ ∧ (∀ k, k ≠ 0 → υ k = τ k) ∧ (∀ j, j < 34 ∨ 38 < j → υ 0 j = τ 0 j) ∧ υ 0 34 = σC 3 u * rD σC u v w + rA σC u v w ∧ υ 0 35 = σC 4 u * rD σC u v w + rU σC u v w ∧ υ 0 36 = rD σC u v w ∧ υ 0 37 = rA σC u v w * rA σC u v w + rU σC u v w * rU σC u v w ∧ υ 0 38 = rD σC u v w * rD σC u v w := by
  obtain ⟨-, u2, u3, -⟩ := h.M hu pu
  obtain ⟨-, v2, v3, -⟩ := h.M hv pv
  obtain ⟨-, w2, w3, -⟩ := h.M hw pw
  obtain ⟨-, -, a1, a2⟩ := h.rng hu
  obtain ⟨-, -, b1, b2⟩ := h.rng hv
  obtain ⟨-, -, c1, c2⟩ := h.rng hw
  have t1 := h.trr hu hv hw
  have i1 := mid_id (σC 3 u) (σC 4 u) (σC 3 v) (σC 4 v) (σC 3 w) (σC 4 w)
  have i2 := mid_id2 (σC 3 u) (σC 4 u) (σC 3 v) (σC 4 v) (σC 3 w) (σC 4 w)
  have et : (σC 3 v - σC 3 u) * (σC 4 w - σC 4 u) - (σC 4 v - σC 4 u) * (σC 3 w - σC 3 u) = trn σC u v w := rfl
  have e2 : (σC 3 u - σC 3 v) * (σC 3 u - σC 3 v) + (σC 4 u - σC 4 v) * (σC 4 u - σC 4 v) = sqd σC u v := rfl
  have e3 : (σC 3 u - σC 3 w) * (σC 3 u - σC 3 w) + (σC 4 u - σC 4 w) * (σC 4 u - σC 4 w) = sqd σC u w := rfl
  rw [et, e2, e3] at i1 i2
  have b255 : ∀ μ : St, (∀ k, k ≠ 0 → μ k = τ k) → (∀ j, j < 34 ∨ 38 < j → μ 0 j = τ 0 j) → f_X11_middle_b255 μ (u : Int) (v : Int) (w : Int) (trn σC u v w) = some (up2 (up2 μ 0 37 (sqd σC u v * sqd σC v w * sqd σC w u)) 0 38 (4 * trn σC u v w * trn σC u v w)) := by
    intro μ m1 m2
    have hR : Rw σC μ := h.cM (fun k h1 h2 => m1 k (by omega)) (m2 0 (by omega)) (m2 1 (by omega)) (m2 2 (by omega))
    rw [f_X11_middle_b255, apart_spec hR hu hv pu pv, jbind_s, apart_spec hR hv hw pv pw, jbind_s, apart_spec hR hw hu pw pu, jbind_s, jlet_v, jlet_v]
  have e38 : 4 * trn σC u v w * trn σC u v w = rD σC u v w * rD σC u v w := by
    unfold rD
    by_cases c : 0 < trn σC u v w
    · rw [if_pos c]; grind
    · rw [if_neg c]; grind
  have st : f_X11_middle τ (i : Int) = jchk (inL (2 * trn σC u v w) ∧ inL 0) (if 2 * trn σC u v w < 0 then f_X11_middle_b255 (up2 (up2 (up2 (up2 (up2 (up2 τ 0 36 (2 * trn σC u v w)) 0 34 (σC 3 u * (2 * trn σC u v w) + ((σC 4 w - σC 4 u) * sqd σC u v - (σC 4 v - σC 4 u) * sqd σC u w))) 0 35 (σC 4 u * (2 * trn σC u v w) + ((σC 3 v - σC 3 u) * sqd σC u w - (σC 3 w - σC 3 u) * sqd σC u v))) 0 36 (-(2 * trn σC u v w))) 0 34 (-(σC 3 u * (2 * trn σC u v w) + ((σC 4 w - σC 4 u) * sqd σC u v - (σC 4 v - σC 4 u) * sqd σC u w)))) 0 35 (-(σC 4 u * (2 * trn σC u v w) + ((σC 3 v - σC 3 u) * sqd σC u w - (σC 3 w - σC 3 u) * sqd σC u v)))) (u : Int) (v : Int) (w : Int) (trn σC u v w) else f_X11_middle_b255 (up2 (up2 (up2 τ 0 36 (2 * trn σC u v w)) 0 34 (σC 3 u * (2 * trn σC u v w) + ((σC 4 w - σC 4 u) * sqd σC u v - (σC 4 v - σC 4 u) * sqd σC u w))) 0 35 (σC 4 u * (2 * trn σC u v w) + ((σC 3 v - σC 3 u) * sqd σC u w - (σC 3 w - σC 3 u) * sqd σC u v))) (u : Int) (v : Int) (w : Int) (trn σC u v w)) := by
    rw [f_X11_middle, f_X11_middle_b0, jc_ix (by omega) (by omega), jlet_v, jc_ix (by omega) (by omega), jlet_v, jc_ix (by omega) (by omega), jlet_v, cast_n, t22, t23, t24, cast_n, cast_n, cast_n, u2, u3, v2, v3, w2, w3, jc_ix (by omega) (by omega), jc_I (by omega) (by omega), jc_ix (by omega) (by omega), jc_I (by omega) (by omega), f_X11_square, f_X11_square_b0, jbind_s, jlet_v, jc_ix (by omega) (by omega), jc_I (by omega) (by omega), jc_ix (by omega) (by omega), jc_I (by omega) (by omega), f_X11_square, f_X11_square_b0, jbind_s, jlet_v, jc_ix (by omega) (by omega), jc_I (by omega) (by omega), jc_ix (by omega) (by omega), jc_I (by omega) (by omega), f_X11_square, f_X11_square_b0, jbind_s, jlet_v, cross_spec h hu hv hw pu pv pw, jbind_s, jlet_v, jlet_v, up2_k (k' := 3) (by decide), u3, v3, w3, jc_ix (by omega) (by omega), jc_ix (by omega) (by omega), jc_I (by omega) (by omega), jc_ix (by omega) (by omega), jc_ix (by omega) (by omega), jc_I (by omega) (by omega), jc_ix (by omega) (by omega), jc_ix (by omega) (by omega), jc_I (by omega) (by omega), jlet_v, up2_k (k' := 2) (by decide), up2_k (k' := 2) (by decide), u2, v2, w2, jc_ix (by omega) (by omega), jc_ix (by omega) (by omega), jc_I (by omega) (by omega), jc_ix (by omega) (by omega), jc_ix (by omega) (by omega), jc_I (by omega) (by omega), jc_ix (by omega) (by omega), jc_ix (by omega) (by omega), jc_I (by omega) (by omega), jlet_v, i1, i2]
    simp only [jlet_v, up2_same, up2_j, ne_eq, Nat.reduceEqDiff, not_false_eq_true]
  by_cases c : trn σC u v w < 0
  · have d : rD σC u v w = -(2 * trn σC u v w) := by unfold rD; rw [if_neg (by omega)]; omega
    have a : rA σC u v w = -((σC 4 w - σC 4 u) * sqd σC u v - (σC 4 v - σC 4 u) * sqd σC u w) := by unfold rA rS; rw [if_pos c, if_pos c]; grind
    have b : rU σC u v w = -((σC 3 v - σC 3 u) * sqd σC u w - (σC 3 w - σC 3 u) * sqd σC u v) := by unfold rU rS; rw [if_pos c, if_pos c]; grind
    rw [jc_LL (by omega) (by omega) (by omega) (by omega), if_pos (by omega), b255 _ (fun k hk => by rw [up2_k hk, up2_k hk, up2_k hk, up2_k hk, up2_k hk, up2_k hk]) (fun j hj => by rw [up2_j (by omega), up2_j (by omega), up2_j (by omega), up2_j (by omega), up2_j (by omega), up2_j (by omega)])] at st
    refine ⟨_, st, fun k hk => by rw [up2_k hk, up2_k hk, up2_k hk, up2_k hk, up2_k hk, up2_k hk, up2_k hk, up2_k hk], fun j hj => by rw [up2_j (by omega), up2_j (by omega), up2_j (by omega), up2_j (by omega), up2_j (by omega), up2_j (by omega), up2_j (by omega), up2_j (by omega)], ?_, ?_, ?_, ?_, ?_⟩
    · rw [up2_j (by decide), up2_j (by decide), up2_j (by decide), up2_same, d, a]; grind
    · rw [up2_j (by decide), up2_j (by decide), up2_same, d, b]; grind
    · rw [up2_j (by decide), up2_j (by decide), up2_j (by decide), up2_j (by decide), up2_same, d]
    · rw [up2_j (by decide), up2_same, rad_eq]
    · rw [up2_same, e38]
  · have d : rD σC u v w = 2 * trn σC u v w := by unfold rD; split <;> omega
    have a : rA σC u v w = (σC 4 w - σC 4 u) * sqd σC u v - (σC 4 v - σC 4 u) * sqd σC u w := by unfold rA rS; rw [if_neg c, if_neg c]
    have b : rU σC u v w = (σC 3 v - σC 3 u) * sqd σC u w - (σC 3 w - σC 3 u) * sqd σC u v := by unfold rU rS; rw [if_neg c, if_neg c]
    rw [jc_LL (by omega) (by omega) (by omega) (by omega), if_neg (by omega), b255 _ (fun k hk => by rw [up2_k hk, up2_k hk, up2_k hk]) (fun j hj => by rw [up2_j (by omega), up2_j (by omega), up2_j (by omega)])] at st
    refine ⟨_, st, fun k hk => by rw [up2_k hk, up2_k hk, up2_k hk, up2_k hk, up2_k hk], fun j hj => by rw [up2_j (by omega), up2_j (by omega), up2_j (by omega), up2_j (by omega), up2_j (by omega)], ?_, ?_, ?_, ?_, ?_⟩
    · rw [up2_j (by decide), up2_j (by decide), up2_j (by decide), up2_same, d, a]
    · rw [up2_j (by decide), up2_j (by decide), up2_same, d, b]
    · rw [up2_j (by decide), up2_j (by decide), up2_j (by decide), up2_j (by decide), up2_same, d]
    · rw [up2_j (by decide), up2_same, rad_eq]
    · rw [up2_same, e38]
