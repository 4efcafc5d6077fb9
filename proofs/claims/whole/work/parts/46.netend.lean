/-! ===== the pure side 26: tree, pipe, closest ===== -/
/-- both nets are one -/
theorem net_one {σC σM τC τM : St} (h : Rw σC σM) (hC : ∀ k, k < 7 → τC k = σC k) (hN : NetOK τC) {m : Nat} (h5 : ∀ i, i < m → ∃ u v : Nat, u < v ∧ v < 24 ∧ pC σC u = true ∧ pC σC v = true ∧ τM 25 i = (u : Int) ∧ τM 26 i = (v : Int)) (h6 : asc (fun i => key σC (τM 25 i).toNat (τM 26 i).toNat) m) (h7 : ∀ x, (∃ i, i < m ∧ key σC (τM 25 i).toNat (τM 26 i).toNat = x) ↔ ∃ u v, TE (pC σC) (key σC) u v ∧ x = key σC u v) : m ≤ 23 ∧ τC 62 2 = (m : Int) ∧ ∀ i, i < m → ∃ u v : Nat, u < v ∧ v < 24 ∧ pC σC u = true ∧ pC σC v = true ∧ τM 25 i = (u : Int) ∧ τM 26 i = (v : Int) ∧ τC 63 i = key σC u v := by
  obtain ⟨N, n1, n2, n3, n4⟩ := hN
  rw [pC_cC hC, key_cC hC] at n4
  obtain ⟨e1, e2⟩ := asc_one n3 h6 (fun x => (n4 x).trans (h7 x).symm)
  subst e1
  refine ⟨n1, n2, fun i hi => ?_⟩
  obtain ⟨u, v, a1, a2, a3, a4, a5, a6⟩ := h5 i hi
  refine ⟨u, v, a1, a2, a3, a4, a5, a6, ?_⟩
  have := e2 i hi
  rw [a5, a6, cast_n, cast_n] at this
  exact this
theorem tell_net {σC σM τ : St} (h : Rw σC σM) {m k u v : Nat} (hm : m ≤ 23) (hk : k < m) (h2 : τ 62 2 = (m : Int)) (hu : u < v) (hv : v < 24) (e : τ 63 k = key σC u v) {x : Int} (hx : inI x) : f_X3_tell τ (k : Int) x = some (if x = 0 then (u : Int) else if x = 1 then (v : Int) else if x = 2 then sqd σC u v else -1) := by
  obtain ⟨x1, x2⟩ := hx
  obtain ⟨p1, p2, p3⟩ := key_parts h (show u < 24 by omega) hv
  have l1 : lo2 u v = u := by unfold lo2; rw [if_pos hu]
  have l2 : hi2 u v = v := by unfold hi2; rw [if_pos hu]
  rw [f_X3_tell, f_X3_tell_b0, jc_I (by omega) (by omega), if_neg (by omega), h2, jc_II (by omega) (by omega) (by omega) (by omega), if_pos (by omega), jc_I (by omega) (by omega), jc_ix (by omega) (by omega), cast_n, e, p1, p2, p3, l1, l2]
  by_cases c0 : x = 0
  · rw [if_pos c0, if_pos c0]
  by_cases c1 : x = 1
  · rw [if_neg c0, if_neg c0, if_pos c1, if_pos c1, jc_ix (by omega) (by omega)]
  by_cases c2 : x = 2
  · rw [if_neg c0, if_neg c0, if_neg c1, if_neg c1, if_pos c2, if_pos c2, jc_ix (by omega) (by omega)]
  · rw [if_neg c0, if_neg c0, if_neg c1, if_neg c1, if_neg c2, if_neg c2]
theorem tell_out {τ : St} {m : Nat} (hm : m ≤ 23) (h2 : τ 62 2 = (m : Int)) {k x : Int} (hk : inI k) (h : k < 0 ∨ (m : Int) ≤ k) : f_X3_tell τ k x = some (-1) := by
  obtain ⟨k1, k2⟩ := hk
  rw [f_X3_tell, f_X3_tell_b0, jc_I (by omega) (by omega)]
  by_cases c : k < 0
  · rw [if_pos c]
  · rw [if_neg c, h2, jc_II (by omega) (by omega) (by omega) (by omega), if_neg (by omega)]
theorem tree_eq {σC σM : St} (h : Rw σC σM) (h1 : inI (σC 62 1)) (h2 : inI (σC 1 6)) (hc : σC 62 1 = σC 1 6 → NetOK σC) : ∃ v τC τM, f_X10_tree σC = some (v, τC) ∧ f_X11_tree σM = some (v, τM) ∧ (∀ k, k ≠ 62 → k ≠ 63 → k ≠ 64 → τC k = σC k) ∧ τC 62 1 = σC 1 6 ∧ NetOK τC ∧ (∀ k, k ≠ 0 → k ≠ 25 → k ≠ 26 → k ≠ 27 → τM k = σM k) ∧ (∀ j, j ≠ 45 → τM 0 j = σM 0 j) := by
  obtain ⟨τ, t0, t1, t2, t3⟩ := join_spec h h1 h2 hc
  obtain ⟨m, υ, u0, -, u1, u2, u3, u4, u5⟩ := tree_spec h
  have cc : ∀ k, k < 7 → τ k = σC k := fun k hk => t1 k (by omega) (by omega) (by omega)
  obtain ⟨o1, o2, -⟩ := net_one h cc t3 u3 u4 u5
  refine ⟨(m : Int), τ, υ, ?_, u0, t1, t2, t3, u1, u2⟩
  rw [f_X10_tree, f_X10_tree_b0, t0, jbind_s, o2]
theorem pipe_eq {σC σM : St} (h : Rw σC σM) (h1 : inI (σC 62 1)) (h2 : inI (σC 1 6)) (hc : σC 62 1 = σC 1 6 → NetOK σC) {k x : Int} (hk : inI k) (hx : inI x) : ∃ v τC τM, f_X10_pipe σC k x = some (v, τC) ∧ f_X11_pipe σM k x = some (v, τM) ∧ (∀ k, k ≠ 62 → k ≠ 63 → k ≠ 64 → τC k = σC k) ∧ τC 62 1 = σC 1 6 ∧ NetOK τC ∧ (∀ k, k ≠ 0 → k ≠ 25 → k ≠ 26 → k ≠ 27 → τM k = σM k) ∧ (∀ j, j ≠ 45 → τM 0 j = σM 0 j) := by
  obtain ⟨τ, t0, t1, t2, t3⟩ := join_spec h h1 h2 hc
  obtain ⟨m, υ, u0, -, u1, u2, u3, u4, u5⟩ := tree_spec h
  have cc : ∀ k, k < 7 → τ k = σC k := fun k hk => t1 k (by omega) (by omega) (by omega)
  obtain ⟨o1, o2, o3⟩ := net_one h cc t3 u3 u4 u5
  by_cases c : k < 0 ∨ (m : Int) ≤ k
  · refine ⟨-1, τ, υ, ?_, ?_, t1, t2, t3, u1, u2⟩
    · rw [f_X10_pipe, f_X10_pipe_b0, t0, jbind_s, tell_out o1 o2 hk c, jbind_s]
    · obtain ⟨k1, k2⟩ := hk
      rw [f_X11_pipe, f_X11_pipe_b0, u0, jbind_s]
      dsimp only
      rw [jc_II (by omega) (by omega) (by omega) (by omega)]
      by_cases c2 : k < (m : Int)
      · rw [if_pos c2, jc_I (by omega) (by omega), if_pos (by omega)]
      · rw [if_neg c2]
  · obtain ⟨k1, k2⟩ := hk
    obtain ⟨i, rfl⟩ : ∃ i : Nat, k = (i : Int) := ⟨k.toNat, by omega⟩
    obtain ⟨u, v, a1, a2, a3, a4, a5, a6, a7⟩ := o3 i (by omega)
    have hR : Rw σC υ := h.cM (fun k h1 h2 => u1 k (by omega) (by omega) (by omega) (by omega)) (u2 0 (by decide)) (u2 1 (by decide)) (u2 2 (by decide))
    have tl := tell_net h (τ := τ) o1 (show i < m by omega) o2 a1 a2 a7 hx
    obtain ⟨x1, x2⟩ := hx
    refine ⟨(if x = 0 then (u : Int) else if x = 1 then (v : Int) else if x = 2 then sqd σC u v else -1), τ, υ, ?_, ?_, t1, t2, t3, u1, u2⟩
    · rw [f_X10_pipe, f_X10_pipe_b0, t0, jbind_s, tl, jbind_s]
    · rw [f_X11_pipe, f_X11_pipe_b0, u0, jbind_s]
      dsimp only
      rw [jc_II (by omega) (by omega) (by omega) (by omega), if_pos (by omega), jc_I (by omega) (by omega), if_neg (by omega), jc_I (by omega) (by omega), jc_ix (by omega) (by omega), cast_n, a5, a6]
      by_cases c0 : x = 0
      · rw [if_pos c0, if_pos c0]
      rw [if_neg c0, if_neg c0, jc_II (by omega) (by omega) (by omega) (by omega)]
      by_cases c1 : x = 1
      · rw [if_pos c1, if_pos c1, jc_ix (by omega) (by omega)]
      rw [if_neg c1, if_neg c1, jc_II (by omega) (by omega) (by omega) (by omega)]
      by_cases c2 : x = 2
      · rw [if_pos c2, if_pos c2, jc_ix (by omega) (by omega), jc_ix (by omega) (by omega), apart_spec hR (by omega) a2 a3 a4, jbind_s]
      · rw [if_neg c2, if_neg c2]
theorem closest_scan {σC σM : St} (h : Rw σC σM) (x1 : Int) : ∃ e : Int × Int, jloop (fun (q : (Int × Int × Int)) => match q with | (x2, x3, x4) => f_X11_closest_b7 σM x1 x2 x3 x4) 1000 (-1, -1, 0) = some e ∧ ((e.1 = -1 ∧ ∀ v w, v < w → w < 24 → ¬ (pC σC v = true ∧ pC σC w = true)) ∨ ∃ x y : Nat, e = ((x : Int), (y : Int)) ∧ x < y ∧ y < 24 ∧ (pC σC x = true ∧ pC σC y = true) ∧ ∀ v w, v < w → w < 24 → (pC σC v = true ∧ pC σC w = true) → key σC x y ≤ key σC v w) := by
  refine scan_outer (X := fun v w => pC σC v = true ∧ pC σC w = true) (fun v q hv hB => ?_) (fun a b => ?_) 1000 (by omega)
  · have cnt : ∀ w : Nat, w < 24 → f_X11_counts σM (w : Int) = some (bI (pC σC w)) := fun w hw => h.cnM hw
    obtain ⟨e, e1, e2⟩ := scan_inner (σ := σC) (X := fun v w => pC σC v = true ∧ pC σC w = true) hv (body := fun (q : (Int × Int × Int)) => match q with | (x2, x3, x5) => f_X11_closest_b20 σM x1 x2 x3 (v : Int) x5) (fun a b w vw hw nX => by
      show f_X11_closest_b20 σM x1 a b (v : Int) (w : Int) = _
      rw [f_X11_closest_b20, jc_II (by omega) (by omega) (by omega) (by omega), if_pos (by omega), cnt v hv, jbind_s]
      cases pv : pC σC v with
      | false => rw [bI_f, jc_I (by omega) (by omega), if_pos rfl, jlet_v, cast_s]
      | true =>
        rw [bI_t, jc_I (by omega) (by omega), if_neg (by omega), cnt w hw, jbind_s]
        cases pw : pC σC w with
        | false => rw [bI_f, jc_I (by omega) (by omega), if_pos rfl, jlet_v, cast_s]
        | true => exact absurd ⟨pv, pw⟩ nX) (fun b w vw hw X => by
      show f_X11_closest_b20 σM x1 (-1) b (v : Int) (w : Int) = _
      obtain ⟨pv, pw⟩ := X
      rw [f_X11_closest_b20, jc_II (by omega) (by omega) (by omega) (by omega), if_pos (by omega), cnt v hv, pv, jbind_s, bI_t, jc_I (by omega) (by omega), if_neg (by omega), cnt w hw, pw, jbind_s, bI_t, jc_I (by omega) (by omega), if_neg (by omega), jc_II (by omega) (by omega) (by omega) (by omega), if_pos rfl, f_X11_closest_b71, jlet_v, jlet_v, jlet_v, cast_s]) (fun x y w vw hw X xy hy X2 => by
      show f_X11_closest_b20 σM x1 (x : Int) (y : Int) (v : Int) (w : Int) = _
      obtain ⟨pv, pw⟩ := X
      obtain ⟨px, py⟩ := X2
      have d1 := h.sq2 hv hw
      have d2 := h.sq2 (show x < 24 by omega) hy
      rw [f_X11_closest_b20, jc_II (by omega) (by omega) (by omega) (by omega), if_pos (by omega), cnt v hv, pv, jbind_s, bI_t, jc_I (by omega) (by omega), if_neg (by omega), cnt w hw, pw, jbind_s, bI_t, jc_I (by omega) (by omega), if_neg (by omega), jc_II (by omega) (by omega) (by omega) (by omega), if_neg (by omega), apart_spec h hv hw pv pw, jbind_s, apart_spec h (by omega) hy px py, jbind_s, jc_LL (by omega) (by omega) (by omega) (by omega)]
      by_cases c : sqd σC v w < sqd σC x y
      · rw [if_pos c, if_pos c, f_X11_closest_b71, jlet_v, jlet_v, jlet_v, cast_s]
      · rw [if_neg c, if_neg c, jlet_v, cast_s]) (fun a b => by
      show f_X11_closest_b20 σM x1 a b (v : Int) ((24 : Nat) : Int) = _
      rw [f_X11_closest_b20, jc_II (by omega) (by omega) (by omega) (by omega), if_neg (by omega)]) hB 1000 (by omega)
    refine ⟨e, ?_, e2⟩
    show f_X11_closest_b7 σM x1 q.1 q.2 (v : Int) = _
    rw [f_X11_closest_b7, jc_II (by omega) (by omega) (by omega) (by omega), if_pos (by omega), jlet_v, cast_s, e1, jbind_s]
    dsimp only
    rw [jlet_v]
  · show f_X11_closest_b7 σM x1 a b ((24 : Nat) : Int) = _
    rw [f_X11_closest_b7, jc_II (by omega) (by omega) (by omega) (by omega), if_neg (by omega)]
theorem closest_eq {σC σM : St} (h : Rw σC σM) (h1 : inI (σC 62 1)) (h2 : inI (σC 1 6)) (hc : σC 62 1 = σC 1 6 → NetOK σC) {x : Int} (hx : inI x) : ∃ v τC, f_X10_closest σC x = some (v, τC) ∧ f_X11_closest σM x = some v ∧ (∀ k, k ≠ 62 → k ≠ 63 → k ≠ 64 → τC k = σC k) ∧ τC 62 1 = σC 1 6 ∧ NetOK τC := by
  obtain ⟨τ, t0, t1, t2, t3⟩ := join_spec h h1 h2 hc
  have cc : ∀ k, k < 7 → τ k = σC k := fun k hk => t1 k (by omega) (by omega) (by omega)
  have t3' := t3
  obtain ⟨N, n1, n2, n3, n4⟩ := t3
  rw [pC_cC cc, key_cC cc] at n4
  obtain ⟨⟨a, b⟩, e0, e1⟩ := closest_scan h x
  have hx' := hx
  obtain ⟨x1, x2⟩ := hx
  rcases e1 with ⟨e1, e2⟩ | ⟨u, v, e1, uv, hv, ⟨pu, pv⟩, hmin⟩
  · dsimp only at e1
    subst e1
    have hN : N = 0 := by
      by_cases c : N = 0
      · exact c
      · exfalso
        obtain ⟨p, q, ⟨hp, hq, pp, pq, ne, -⟩, -⟩ := (n4 (τ 63 0)).mp ⟨0, by omega, rfl⟩
        rcases (by omega : p < q ∨ q < p) with z | z
        · exact e2 p q z hq ⟨pp, pq⟩
        · exact e2 q p z hp ⟨pq, pp⟩
    refine ⟨-1, τ, ?_, ?_, t1, t2, t3'⟩
    · rw [f_X10_closest, f_X10_closest_b0, t0, jbind_s, tell_out n1 n2 ⟨by omega, by omega⟩ (Or.inr (by omega)), jbind_s]
    · rw [f_X11_closest, f_X11_closest_b0, jlet_v, jlet_v, jlet_v, e0, jbind_s]
      dsimp only
      rw [jc_II (by omega) (by omega) (by omega) (by omega), if_pos rfl]
  · cases e1
    have hu : u < 24 := by omega
    have minAll : ∀ p q, p < 24 → q < 24 → pC σC p = true → pC σC q = true → p ≠ q → key σC u v ≤ key σC p q := by
      intro p q hp hq pp pq ne
      rcases (by omega : p < q ∨ q < p) with z | z
      · exact hmin p q z hq ⟨pp, pq⟩
      · rw [key_sym σC p q]; exact hmin q p z hp ⟨pq, pp⟩
    have te : TE (pC σC) (key σC) u v := by
      refine ⟨hu, hv, pu, pv, by omega, fun r => ?_⟩
      have := r (fun z => z = u) rfl (fun p q hp hq pp pq ne _ k => by
        have := minAll p q hp hq pp pq ne
        omega)
      omega
    obtain ⟨i, hi, ei⟩ := (n4 (key σC u v)).mpr ⟨u, v, te, rfl⟩
    have e00 : τ 63 0 = key σC u v := by
      obtain ⟨p, q, ⟨hp, hq, pp, pq, ne, -⟩, ep⟩ := (n4 (τ 63 0)).mp ⟨0, by omega, rfl⟩
      have m1 := minAll p q hp hq pp pq ne
      by_cases c : i = 0
      · rw [c] at ei; exact ei
      · have := n3 0 i (by omega) hi
        omega
    have tl := tell_net h (τ := τ) n1 (show 0 < N by omega) n2 uv hv e00 hx'
    refine ⟨(if x = 0 then (u : Int) else if x = 1 then (v : Int) else if x = 2 then sqd σC u v else -1), τ, ?_, ?_, t1, t2, t3'⟩
    · rw [f_X10_closest, f_X10_closest_b0, t0, jbind_s, show (0 : Int) = ((0 : Nat) : Int) from rfl, tl, jbind_s]
      rfl
    · rw [f_X11_closest, f_X11_closest_b0, jlet_v, jlet_v, jlet_v, e0, jbind_s]
      dsimp only
      rw [jc_II (by omega) (by omega) (by omega) (by omega), if_neg (by omega), jc_I (by omega) (by omega)]
      by_cases c0 : x = 0
      · rw [if_pos c0, if_pos c0]
      rw [if_neg c0, if_neg c0, jc_II (by omega) (by omega) (by omega) (by omega)]
      by_cases c1 : x = 1
      · rw [if_pos c1, if_pos c1]
      rw [if_neg c1, if_neg c1, jc_II (by omega) (by omega) (by omega) (by omega)]
      by_cases c2 : x = 2
      · rw [if_pos c2, if_pos c2, apart_spec h hu hv pu pv, jbind_s]
      · rw [if_neg c2, if_neg c2]
