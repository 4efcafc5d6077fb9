/-! ===== the pure side 32: rings, ring, round ===== -/
theorem rings_one {σC σM τC τM : St} (hC : ∀ k, k < 7 → τC k = σC k) (hR : RoundsOK τC) (hS : SM σC σM (cdn 24 0 0) τM) : ∃ M U V W, RC σC τC M U V W ∧ RMd σC τM M U V W ∧ TL σC (cdn 24 0 0) M U V W := by
  obtain ⟨M, U, V, W, r1, r2⟩ := hR
  obtain ⟨-, -, M', U', V', W', s1, s2⟩ := hS
  rw [TL_cC hC] at r2
  unfold RC at r1
  rw [rB_cC hC, rA_cC hC, rU_cC hC, rD_cC hC] at r1
  obtain ⟨e, e2⟩ := r2.one s2
  subst e
  refine ⟨M, U, V, W, r1, ⟨s1.1, fun i hi => ?_⟩, r2⟩
  obtain ⟨q1, q2, q3⟩ := e2 i hi
  rw [q1, q2, q3]
  exact s1.2 i hi
theorem rings_eq {σC σM : St} (h : Rw σC σM) (h1 : inI (σC 35 1)) (h2 : inI (σC 1 6)) (hc : σC 35 1 = σC 1 6 → RoundsOK σC) : ∃ v τC τM, f_X10_rings σC = some (v, τC) ∧ f_X11_rings σM = some (v, τM) ∧ (∀ k, k < 35 ∨ 40 < k → τC k = σC k) ∧ τC 35 1 = σC 1 6 ∧ RoundsOK τC ∧ (∀ k, k ≠ 0 → k < 21 ∨ 24 < k → τM k = σM k) ∧ (∀ j, j ≠ 29 → τM 0 j = σM 0 j) := by
  obtain ⟨τ, t0, t1, t2, t3⟩ := find_spec h h1 h2 hc
  obtain ⟨υ, u0, u1⟩ := ringsM_spec h
  obtain ⟨M, U, V, W, r1, r2, -⟩ := rings_one (fun k hk => t1 k (by omega)) t3 u1
  refine ⟨(M : Int), τ, υ, ?_, ?_, t1, t2, t3, u1.1, u1.2.1⟩
  · rw [f_X10_rings, f_X10_rings_b0, t0, jbind_s, r1.1]
  · rw [f_X11_rings, f_X11_rings_b0, u0, jbind_s, r2.1]
theorem ring_eq {σC σM : St} (h : Rw σC σM) (h1 : inI (σC 35 1)) (h2 : inI (σC 1 6)) (hc : σC 35 1 = σC 1 6 → RoundsOK σC) {k : Int} (hk : inI k) : ∃ v τC τM, f_X10_ring σC k = some (v, τC) ∧ f_X11_ring σM k = some (v, τM) ∧ (∀ k, k < 35 ∨ 40 < k → τC k = σC k) ∧ τC 35 1 = σC 1 6 ∧ RoundsOK τC ∧ (∀ k, k ≠ 0 → k < 21 ∨ 24 < k → τM k = σM k) ∧ (∀ j, j ≠ 29 → τM 0 j = σM 0 j) := by
  obtain ⟨k1, k2⟩ := hk
  obtain ⟨τ, t0, t1, t2, t3⟩ := find_spec h h1 h2 hc
  obtain ⟨υ, u0, u1⟩ := ringsM_spec h
  obtain ⟨M, U, V, W, r1, r2, r3⟩ := rings_one (fun k hk => t1 k (by omega)) t3 u1
  have hb := r3.bound h
  by_cases c1 : k < 0
  · refine ⟨0, τ, υ, ?_, ?_, t1, t2, t3, u1.1, u1.2.1⟩
    · rw [f_X10_ring, f_X10_ring_b0, t0, jbind_s, jc_I (by omega) (by omega), if_pos c1]
    · rw [f_X11_ring, f_X11_ring_b0, u0, jbind_s, jc_I (by omega) (by omega), if_pos c1]
  by_cases c2 : k < (M : Int)
  · obtain ⟨i, rfl⟩ : ∃ i : Nat, k = (i : Int) := ⟨k.toNat, by omega⟩
    refine ⟨((nb (rB σC (U i) (V i) (W i)) 24 : Nat) : Int), τ, υ, ?_, ?_, t1, t2, t3, u1.1, u1.2.1⟩
    · rw [f_X10_ring, f_X10_ring_b0, t0, jbind_s, jc_I (by omega) (by omega), if_neg c1, r1.1, jc_II (by omega) (by omega) (by omega) (by omega), if_pos c2, jc_ix (by omega) (by omega), cast_n, (r1.2 i (by omega)).1]
    · rw [f_X11_ring, f_X11_ring_b0, u0, jbind_s, jc_I (by omega) (by omega), if_neg c1, r2.1, jc_II (by omega) (by omega) (by omega) (by omega), if_pos c2, jc_ix (by omega) (by omega), cast_n, (r2.2 i (by omega)).1]
  · refine ⟨0, τ, υ, ?_, ?_, t1, t2, t3, u1.1, u1.2.1⟩
    · rw [f_X10_ring, f_X10_ring_b0, t0, jbind_s, jc_I (by omega) (by omega), if_neg c1, r1.1, jc_II (by omega) (by omega) (by omega) (by omega), if_neg c2]
    · rw [f_X11_ring, f_X11_ring_b0, u0, jbind_s, jc_I (by omega) (by omega), if_neg c1, r2.1, jc_II (by omega) (by omega) (by omega) (by omega), if_neg c2]
theorem mid_id (ux uy vx vy wx wy : Int) : (ux * ux + uy * uy) * (vy - wy) + (vx * vx + vy * vy) * (wy - uy) + (wx * wx + wy * wy) * (uy - vy) = ux * (2 * ((vx - ux) * (wy - uy) - (vy - uy) * (wx - ux))) + ((wy - uy) * ((ux - vx) * (ux - vx) + (uy - vy) * (uy - vy)) - (vy - uy) * ((ux - wx) * (ux - wx) + (uy - wy) * (uy - wy))) := by grind
theorem mid_id2 (ux uy vx vy wx wy : Int) : (ux * ux + uy * uy) * (wx - vx) + (vx * vx + vy * vy) * (ux - wx) + (wx * wx + wy * wy) * (vx - ux) = uy * (2 * ((vx - ux) * (wy - uy) - (vy - uy) * (wx - ux))) + ((vx - ux) * ((ux - wx) * (ux - wx) + (uy - wy) * (uy - wy)) - (wx - ux) * ((ux - vx) * (ux - vx) + (uy - vy) * (uy - vy))) := by grind
theorem rad_id (ax ay bx by_ : Int) : (by_ * (ax * ax + ay * ay) - ay * (bx * bx + by_ * by_)) * (by_ * (ax * ax + ay * ay) - ay * (bx * bx + by_ * by_)) + (ax * (bx * bx + by_ * by_) - bx * (ax * ax + ay * ay)) * (ax * (bx * bx + by_ * by_) - bx * (ax * ax + ay * ay)) = (ax * ax + ay * ay) * ((ax - bx) * (ax - bx) + (ay - by_) * (ay - by_)) * (bx * bx + by_ * by_) := by grind
theorem rad_eq (σ : St) (u v w : Nat) : rA σ u v w * rA σ u v w + rU σ u v w * rU σ u v w = sqd σ u v * sqd σ v w * sqd σ w u := by
  have id := rad_id (σ 3 v - σ 3 u) (σ 4 v - σ 4 u) (σ 3 w - σ 3 u) (σ 4 w - σ 4 u)
  have e1 : (σ 3 v - σ 3 u) * (σ 3 v - σ 3 u) + (σ 4 v - σ 4 u) * (σ 4 v - σ 4 u) = sqd σ u v := by unfold sqd; grind
  have e2 : (σ 3 w - σ 3 u) * (σ 3 w - σ 3 u) + (σ 4 w - σ 4 u) * (σ 4 w - σ 4 u) = sqd σ w u := rfl
  have e3 : (σ 3 v - σ 3 u - (σ 3 w - σ 3 u)) * (σ 3 v - σ 3 u - (σ 3 w - σ 3 u)) + (σ 4 v - σ 4 u - (σ 4 w - σ 4 u)) * (σ 4 v - σ 4 u - (σ 4 w - σ 4 u)) = sqd σ v w := by unfold sqd; grind
  rw [e1, e2, e3] at id
  rw [← id]
  unfold rA rU rS
  rw [sqd_sym σ w u]
  generalize sqd σ u v = A
  generalize sqd σ u w = B
  by_cases c : trn σ u v w < 0
  · simp only [if_pos c]
    grind
  · simp only [if_neg c]
theorem mid_spec {σC σM τ : St} (h : Rw σC τ) {i u v w : Nat} (hi : i < 64) (hu : u < 24) (hv : v < 24) (hw : w < 24) (pu : pC σC u = true) (pv : pC σC v = true) (pw : pC σC w = true) (t22 : τ 22 i = (u : Int)) (t23 : τ 23 i = (v : Int)) (t24 : τ 24 i = (w : Int)) : ∃ υ, f_X11_middle τ (i : Int) = some υ ∧ (∀ k, k ≠ 0 → υ k = τ k) ∧ (∀ j, j < 34 ∨ 38 < j → υ 0 j = τ 0 j) ∧ υ 0 34 = σC 3 u * rD σC u v w + rA σC u v w ∧ υ 0 35 = σC 4 u * rD σC u v w + rU σC u v w ∧ υ 0 36 = rD σC u v w ∧ υ 0 37 = rA σC u v w * rA σC u v w + rU σC u v w * rU σC u v w ∧ υ 0 38 = rD σC u v w * rD σC u v w := by
  obtain ⟨-, u2, u3, -⟩ := h.M hu pu
  obtain ⟨-, v2, v3, -⟩ := h.M hv pv
  obtain ⟨-, w2, w3, -⟩ := h.M hw pw
  obtain ⟨-, -, a1, a2⟩ := h.rng hu
  obtain ⟨-, -, b1, b2⟩ := h.rng hv
  obtain ⟨-, -, c1, c2⟩ := h.rng hw
  have t1 := h.trr hu hv hw
  have i1 := mid_id (σC 3 u) (σC 4 u) (σC 3 v) (σC 4 v) (σC 3 w) (σC 4 w)
  have i2 := mid_id2 (σC 3 u) (σC 4 u) (σC 3 v) (σC 4 v) (σC 3 w) (σC 4 w)
  have et : (σC 3 v - σC 3 u) * (σC 4 w - σC 4 u) - (σC 4 v - σC 4 u) * (σC 3 w - σC 3 u) = trn σC u v w := rfl
  have e2 : (σC 3 u - σC 3 v) * (σC 3 u - σC 3 v) + (σC 4 u - σC 4 v) * (σC 4 u - σC 4 v) = sqd σC u v := rfl
  have e3 : (σC 3 u - σC 3 w) * (σC 3 u - σC 3 w) + (σC 4 u - σC 4 w) * (σC 4 u - σC 4 w) = sqd σC u w := rfl
  rw [et, e2, e3] at i1 i2
  have b255 : ∀ μ : St, (∀ k, k ≠ 0 → μ k = τ k) → (∀ j, j < 34 ∨ 38 < j → μ 0 j = τ 0 j) → f_X11_middle_b255 μ (u : Int) (v : Int) (w : Int) (trn σC u v w) = some (up2 (up2 μ 0 37 (sqd σC u v * sqd σC v w * sqd σC w u)) 0 38 (4 * trn σC u v w * trn σC u v w)) := by
    intro μ m1 m2
    have hR : Rw σC μ := h.cM (fun k h1 h2 => m1 k (by omega)) (m2 0 (by omega)) (m2 1 (by omega)) (m2 2 (by omega))
    rw [f_X11_middle_b255, apart_spec hR hu hv pu pv, jbind_s, apart_spec hR hv hw pv pw, jbind_s, apart_spec hR hw hu pw pu, jbind_s, jlet_v, jlet_v]
  have e38 : 4 * trn σC u v w * trn σC u v w = rD σC u v w * rD σC u v w := by
    unfold rD
    by_cases c : 0 < trn σC u v w
    · rw [if_pos c]; grind
    · rw [if_neg c]; grind
  have st : f_X11_middle τ (i : Int) = jchk (inL (2 * trn σC u v w) ∧ inL 0) (if 2 * trn σC u v w < 0 then f_X11_middle_b255 (up2 (up2 (up2 (up2 (up2 (up2 τ 0 36 (2 * trn σC u v w)) 0 34 (σC 3 u * (2 * trn σC u v w) + ((σC 4 w - σC 4 u) * sqd σC u v - (σC 4 v - σC 4 u) * sqd σC u w))) 0 35 (σC 4 u * (2 * trn σC u v w) + ((σC 3 v - σC 3 u) * sqd σC u w - (σC 3 w - σC 3 u) * sqd σC u v))) 0 36 (-(2 * trn σC u v w))) 0 34 (-(σC 3 u * (2 * trn σC u v w) + ((σC 4 w - σC 4 u) * sqd σC u v - (σC 4 v - σC 4 u) * sqd σC u w)))) 0 35 (-(σC 4 u * (2 * trn σC u v w) + ((σC 3 v - σC 3 u) * sqd σC u w - (σC 3 w - σC 3 u) * sqd σC u v)))) (u : Int) (v : Int) (w : Int) (trn σC u v w) else f_X11_middle_b255 (up2 (up2 (up2 τ 0 36 (2 * trn σC u v w)) 0 34 (σC 3 u * (2 * trn σC u v w) + ((σC 4 w - σC 4 u) * sqd σC u v - (σC 4 v - σC 4 u) * sqd σC u w))) 0 35 (σC 4 u * (2 * trn σC u v w) + ((σC 3 v - σC 3 u) * sqd σC u w - (σC 3 w - σC 3 u) * sqd σC u v))) (u : Int) (v : Int) (w : Int) (trn σC u v w)) := by
    rw [f_X11_middle, f_X11_middle_b0, jc_ix (by omega) (by omega), jlet_v, jc_ix (by omega) (by omega), jlet_v, jc_ix (by omega) (by omega), jlet_v, cast_n, t22, t23, t24, cast_n, cast_n, cast_n, u2, u3, v2, v3, w2, w3, jc_ix (by omega) (by omega), jc_I (by omega) (by omega), jc_ix (by omega) (by omega), jc_I (by omega) (by omega), f_X11_square, f_X11_square_b0, jbind_s, jlet_v, jc_ix (by omega) (by omega), jc_I (by omega) (by omega), jc_ix (by omega) (by omega), jc_I (by omega) (by omega), f_X11_square, f_X11_square_b0, jbind_s, jlet_v, jc_ix (by omega) (by omega), jc_I (by omega) (by omega), jc_ix (by omega) (by omega), jc_I (by omega) (by omega), f_X11_square, f_X11_square_b0, jbind_s, jlet_v, cross_spec h hu hv hw pu pv pw, jbind_s, jlet_v, jlet_v, up2_k (k' := 3) (by decide), u3, v3, w3, jc_ix (by omega) (by omega), jc_ix (by omega) (by omega), jc_I (by omega) (by omega), jc_ix (by omega) (by omega), jc_ix (by omega) (by omega), jc_I (by omega) (by omega), jc_ix (by omega) (by omega), jc_ix (by omega) (by omega), jc_I (by omega) (by omega), jlet_v, up2_k (k' := 2) (by decide), up2_k (k' := 2) (by decide), u2, v2, w2, jc_ix (by omega) (by omega), jc_ix (by omega) (by omega), jc_I (by omega) (by omega), jc_ix (by omega) (by omega), jc_ix (by omega) (by omega), jc_I (by omega) (by omega), jc_ix (by omega) (by omega), jc_ix (by omega) (by omega), jc_I (by omega) (by omega), jlet_v, i1, i2]
    simp only [jlet_v, up2_same, up2_j, ne_eq, Nat.reduceEqDiff, not_false_eq_true]
  by_cases c : trn σC u v w < 0
  · have d : rD σC u v w = -(2 * trn σC u v w) := by unfold rD; rw [if_neg (by omega)]; omega
    have a : rA σC u v w = -((σC 4 w - σC 4 u) * sqd σC u v - (σC 4 v - σC 4 u) * sqd σC u w) := by unfold rA rS; rw [if_pos c, if_pos c]; grind
    have b : rU σC u v w = -((σC 3 v - σC 3 u) * sqd σC u w - (σC 3 w - σC 3 u) * sqd σC u v) := by unfold rU rS; rw [if_pos c, if_pos c]; grind
    rw [jc_LL (by omega) (by omega) (by omega) (by omega), if_pos (by omega), b255 _ (fun k hk => by rw [up2_k hk, up2_k hk, up2_k hk, up2_k hk, up2_k hk, up2_k hk]) (fun j hj => by rw [up2_j (by omega), up2_j (by omega), up2_j (by omega), up2_j (by omega), up2_j (by omega), up2_j (by omega)])] at st
    refine ⟨_, st, fun k hk => by rw [up2_k hk, up2_k hk, up2_k hk, up2_k hk, up2_k hk, up2_k hk, up2_k hk, up2_k hk], fun j hj => by rw [up2_j (by omega), up2_j (by omega), up2_j (by omega), up2_j (by omega), up2_j (by omega), up2_j (by omega), up2_j (by omega), up2_j (by omega)], ?_, ?_, ?_, ?_, ?_⟩
    · rw [up2_j (by decide), up2_j (by decide), up2_j (by decide), up2_same, d, a]; grind
    · rw [up2_j (by decide), up2_j (by decide), up2_same, d, b]; grind
    · rw [up2_j (by decide), up2_j (by decide), up2_j (by decide), up2_j (by decide), up2_same, d]
    · rw [up2_j (by decide), up2_same, rad_eq]
    · rw [up2_same, e38]
  · have d : rD σC u v w = 2 * trn σC u v w := by unfold rD; split <;> omega
    have a : rA σC u v w = (σC 4 w - σC 4 u) * sqd σC u v - (σC 4 v - σC 4 u) * sqd σC u w := by unfold rA rS; rw [if_neg c, if_neg c]
    have b : rU σC u v w = (σC 3 v - σC 3 u) * sqd σC u w - (σC 3 w - σC 3 u) * sqd σC u v := by unfold rU rS; rw [if_neg c, if_neg c]
    rw [jc_LL (by omega) (by omega) (by omega) (by omega), if_neg (by omega), b255 _ (fun k hk => by rw [up2_k hk, up2_k hk, up2_k hk]) (fun j hj => by rw [up2_j (by omega), up2_j (by omega), up2_j (by omega)])] at st
    refine ⟨_, st, fun k hk => by rw [up2_k hk, up2_k hk, up2_k hk, up2_k hk, up2_k hk], fun j hj => by rw [up2_j (by omega), up2_j (by omega), up2_j (by omega), up2_j (by omega), up2_j (by omega)], ?_, ?_, ?_, ?_, ?_⟩
    · rw [up2_j (by decide), up2_j (by decide), up2_j (by decide), up2_same, d, a]
    · rw [up2_j (by decide), up2_j (by decide), up2_same, d, b]
    · rw [up2_j (by decide), up2_j (by decide), up2_j (by decide), up2_j (by decide), up2_same, d]
    · rw [up2_j (by decide), up2_same, rad_eq]
    · rw [up2_same, e38]
/-- a point told, a square told -/
def tp (x y d what : Int) : Int := if what = 0 then x.tdiv (gd x d) else if what = 1 then d.tdiv (gd x d) else if what = 2 then y.tdiv (gd y d) else if what = 3 then d.tdiv (gd y d) else -1
def ts (t b what : Int) : Int := if what = 4 then t.tdiv (gd t b) else b.tdiv (gd t b)
theorem tellPoint_spec {x y d what : Int} (hx : inM x) (hy : inM y) (hd : 0 < d) (hd2 : d < 9223372036854775808) (hw : inI what) : f_X10_tellPoint x y d what = some (tp x y d what) := by
  obtain ⟨w1, w2⟩ := hw
  obtain ⟨a1, a2⟩ := aboveC hx hd hd2
  obtain ⟨b1, b2⟩ := aboveC hy hd hd2
  rw [f_X10_tellPoint, f_X10_tellPoint_b0, jc_I (by omega) (by omega), a1, a2, b1, b2]
  unfold tp
  by_cases c0 : what = 0
  · rw [if_pos c0, if_pos c0, jbind_s]
  rw [if_neg c0, if_neg c0]
  by_cases c1 : what = 1
  · rw [if_pos c1, if_pos c1, jbind_s]
  rw [if_neg c1, if_neg c1]
  by_cases c2 : what = 2
  · rw [if_pos c2, if_pos c2, jbind_s]
  rw [if_neg c2, if_neg c2]
  by_cases c3 : what = 3
  · rw [if_pos c3, if_pos c3, jbind_s]
  rw [if_neg c3, if_neg c3]
theorem tellSquare_spec {t b what : Int} (ht : inM t) (hb : 0 < b) (hb2 : b < 9223372036854775808) (hw : inI what) : f_X10_tellSquare t b what = some (ts t b what) := by
  obtain ⟨w1, w2⟩ := hw
  obtain ⟨a1, a2⟩ := aboveC ht hb hb2
  rw [f_X10_tellSquare, f_X10_tellSquare_b0, jc_II (by omega) (by omega) (by omega) (by omega), a1, a2]
  unfold ts
  by_cases c : what = 4
  · rw [if_pos c, if_pos c, jbind_s]
  · rw [if_neg c, if_neg c, jbind_s]
theorem midTold_spec {σ : St} {what : Int} (hx : inM (σ 0 34)) (hy : inM (σ 0 35)) (hd : 0 < σ 0 36) (hd2 : σ 0 36 < 9223372036854775808) (ht : inM (σ 0 37)) (hb : 0 < σ 0 38) (hb2 : σ 0 38 < 9223372036854775808) (hw : inI what) : f_X11_middleTold σ what = some (if what = 4 ∨ what = 5 then ts (σ 0 37) (σ 0 38) what else tp (σ 0 34) (σ 0 35) (σ 0 36) what) := by
  obtain ⟨w1, w2⟩ := hw
  obtain ⟨a1, a2⟩ := lowestM hx hd hd2
  obtain ⟨b1, b2⟩ := lowestM hy hd hd2
  obtain ⟨c1, c2⟩ := lowestM ht hb hb2
  rw [f_X11_middleTold, f_X11_middleTold_b0, f_X11_middleTold_b57, f_X11_middleTold_b57, f_X11_middleTold_b79, f_X11_middleTold_b79, f_X11_middleTold_b101, f_X11_middleTold_b101, a1, a2, b1, b2, c1, c2]
  unfold tp ts
  rcases (by omega : what = 0 ∨ what = 1 ∨ what = 2 ∨ what = 3 ∨ what = 4 ∨ what = 5 ∨ (what < 0 ∨ 5 < what)) with q | q | q | q | q | q | q <;> simp (disch := omega) only [↓jlet_v, ↓jbind_s, ↓jc_I, ↓jc_II, ↓jc_ix, ↓if_pos, ↓if_neg, cast_n, jz_0, jz_1]
theorem round_eq {σC σM : St} (h : Rw σC σM) (h1 : inI (σC 35 1)) (h2 : inI (σC 1 6)) (hc : σC 35 1 = σC 1 6 → RoundsOK σC) {k x : Int} (hk : inI k) (hx : inI x) : ∃ v τC τM, f_X10_round σC k x = some (v, τC) ∧ f_X11_round σM k x = some (v, τM) ∧ (∀ k, k < 35 ∨ 40 < k → τC k = σC k) ∧ τC 35 1 = σC 1 6 ∧ RoundsOK τC ∧ (∀ k, k ≠ 0 → k < 21 ∨ 24 < k → τM k = σM k) ∧ (∀ j, j < 29 ∨ 38 < j → τM 0 j = σM 0 j) := by
  have hx' := hx
  obtain ⟨k1, k2⟩ := hk
  obtain ⟨x1, x2⟩ := hx
  obtain ⟨τ, t0, t1, t2, t3⟩ := find_spec h h1 h2 hc
  obtain ⟨υ, u0, u1⟩ := ringsM_spec h
  have cc : ∀ k, k < 7 → τ k = σC k := fun k hk => t1 k (by omega)
  obtain ⟨M, U, V, W, r1, r2, r3⟩ := rings_one cc t3 u1
  have hb := r3.bound h
  have f0 : ∀ j, j < 29 ∨ 38 < j → υ 0 j = σM 0 j := fun j hj => u1.2.1 j (by omega)
  by_cases c1 : k < 0
  · refine ⟨-1, τ, υ, ?_, ?_, t1, t2, t3, u1.1, f0⟩
    · rw [f_X10_round, f_X10_round_b0, t0, jbind_s, f_X6_tell, f_X6_tell_b0, jc_I (by omega) (by omega), if_pos c1, jbind_s]
    · rw [f_X11_round, f_X11_round_b0, u0, jbind_s, jc_I (by omega) (by omega), if_pos c1]
  by_cases c2 : k < (M : Int)
  · obtain ⟨i, rfl⟩ : ∃ i : Nat, k = (i : Int) := ⟨k.toNat, by omega⟩
    have hA := (r3.1 i (by omega)).1
    obtain ⟨q36, q37, q38, q39, q40⟩ := r1.2 i (by omega)
    obtain ⟨p21, p22, p23, p24⟩ := r2.2 i (by omega)
    generalize U i = u at *
    generalize V i = v at *
    generalize W i = w at *
    have uv := hA.1
    have vw := hA.2.1
    have hw := hA.2.2.1
    have hu : u < 24 := by omega
    have hv : v < 24 := by omega
    obtain ⟨d1, d2, d3, -⟩ := r_rng h hu hv hw
    have dp := rD_pos hA.2.2.2.2.2.2.1
    obtain ⟨-, -, a1, a2⟩ := h.rng hu
    obtain ⟨μ, m0, m1, m2, m34, m35, m36, m37, m38⟩ := mid_spec (σM := σM) (u1.R h) (show i < 64 by omega) hu hv hw hA.2.2.2.1 hA.2.2.2.2.1 hA.2.2.2.2.2.1 p22 p23 p24
    have s1 := h.sq2 hu hv
    have s2 := h.sq2 hv hw
    have s3 := h.sq2 hw hu
    have b1 := mul_bd (a := σC 3 u) (b := rD σC u v w) (A := 1000) (B := 4000000) (by omega) (by omega) (by omega) (by omega)
    have b2 := mul_bd (a := σC 4 u) (b := rD σC u v w) (A := 1000) (B := 4000000) (by omega) (by omega) (by omega) (by omega)
    have b3 := mul_bd (a := sqd σC u v) (b := sqd σC v w) (A := 2000000) (B := 2000000) (by omega) (by omega) (by omega) (by omega)
    have b4 := mul_bd (a := sqd σC u v * sqd σC v w) (b := sqd σC w u) (A := 4000000000000) (B := 2000000) (by omega) (by omega) (by omega) (by omega)
    have b5 := mul_bd (a := rD σC u v w) (b := rD σC u v w) (A := 4000000) (B := 4000000) (by omega) (by omega) (by omega) (by omega)
    have b6 := Int.mul_pos dp dp
    have re := rad_eq σC u v w
    have X1 : inM (σC 3 u * rD σC u v w + rA σC u v w) := by constructor <;> omega
    have X2 : inM (σC 4 u * rD σC u v w + rU σC u v w) := by constructor <;> omega
    have X3 : inM (rA σC u v w * rA σC u v w + rU σC u v w * rU σC u v w) := by rw [re]; constructor <;> omega
    have mt := midTold_spec (σ := μ) (what := x) (by rw [m34]; exact X1) (by rw [m35]; exact X2) (by rw [m36]; exact dp) (by rw [m36]; omega) (by rw [m37]; exact X3) (by rw [m38]; exact b6) (by rw [m38]; omega) hx'
    rw [m34, m35, m36, m37, m38] at mt
    have e121 : f_X6_tell τ (i : Int) x = some (if x = 4 ∨ x = 5 then ts (rA σC u v w * rA σC u v w + rU σC u v w * rU σC u v w) (rD σC u v w * rD σC u v w) x else tp (σC 3 u * rD σC u v w + rA σC u v w) (σC 4 u * rD σC u v w + rU σC u v w) (rD σC u v w) x) := by
      rw [f_X6_tell, f_X6_tell_b0, jc_I (by omega) (by omega), if_neg c1, r1.1, jc_II (by omega) (by omega) (by omega) (by omega), if_pos c2, jc_ix (by omega) (by omega), cast_n, q37, jc_ix (by omega) (by omega), cast_n, cc 3 (by omega), cc 4 (by omega), q38, q39, q40, jc_I (by omega) (by omega), jc_ix (by omega) (by omega), jc_ix (by omega) (by omega), jlet_v, jc_ix (by omega) (by omega), jc_ix (by omega) (by omega), jc_I (by omega) (by omega), jc_ix (by omega) (by omega), jc_ix (by omega) (by omega), jlet_v, jc_ix (by omega) (by omega), jc_ix (by omega) (by omega), jc_ix (by omega) (by omega), jc_ix (by omega) (by omega), jlet_v, jc_II (by omega) (by omega) (by omega) (by omega)]
      have sq : ∀ t0 : Int, t0 = 1 → f_X6_tell_b121 τ (i : Int) x (σC 3 u * rD σC u v w + rA σC u v w) (σC 4 u * rD σC u v w + rU σC u v w) (rA σC u v w * rA σC u v w + rU σC u v w * rU σC u v w) t0 = some (ts (rA σC u v w * rA σC u v w + rU σC u v w * rU σC u v w) (rD σC u v w * rD σC u v w) x) := by
        intro t0 e
        rw [e, f_X6_tell_b121, jlet_v, jc_I (by omega) (by omega), if_neg (by omega), jc_ix (by omega) (by omega), jc_ix (by omega) (by omega), cast_n, q40, tellSquare_spec X3 b6 (by omega) hx', jbind_s]
      by_cases y4 : x = 4
      · rw [if_pos y4, sq 1 rfl, if_pos (Or.inl y4)]
      · rw [if_neg y4, jc_II (by omega) (by omega) (by omega) (by omega)]
        by_cases y5 : x = 5
        · rw [if_pos y5, sq 1 rfl, if_pos (Or.inr y5)]
        · rw [if_neg y5, if_neg (by omega), f_X6_tell_b121, jlet_v, jc_I (by omega) (by omega), if_pos rfl, jc_ix (by omega) (by omega), cast_n, q40, tellPoint_spec X1 X2 dp (by omega) hx', jbind_s]
    refine ⟨(if x = 4 ∨ x = 5 then ts (rA σC u v w * rA σC u v w + rU σC u v w * rU σC u v w) (rD σC u v w * rD σC u v w) x else tp (σC 3 u * rD σC u v w + rA σC u v w) (σC 4 u * rD σC u v w + rU σC u v w) (rD σC u v w) x), τ, μ, ?_, ?_, t1, t2, t3, fun k k0 hk => by rw [m1 k k0, u1.1 k k0 hk], fun j hj => by rw [m2 j (by omega), u1.2.1 j (by omega)]⟩
    · rw [f_X10_round, f_X10_round_b0, t0, jbind_s, e121, jbind_s]
    · rw [f_X11_round, f_X11_round_b0, u0, jbind_s, jc_I (by omega) (by omega), if_neg c1, r2.1, jc_II (by omega) (by omega) (by omega) (by omega), if_pos c2, m0, jbind_s, mt, jbind_s]
  · refine ⟨-1, τ, υ, ?_, ?_, t1, t2, t3, u1.1, f0⟩
    · rw [f_X10_round, f_X10_round_b0, t0, jbind_s, f_X6_tell, f_X6_tell_b0, jc_I (by omega) (by omega), if_neg c1, r1.1, jc_II (by omega) (by omega) (by omega) (by omega), if_neg c2, jbind_s]
    · rw [f_X11_round, f_X11_round_b0, u0, jbind_s, jc_I (by omega) (by omega), if_neg c1, r2.1, jc_II (by omega) (by omega) (by omega) (by omega), if_neg c2]
