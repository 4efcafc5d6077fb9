/-! ===== the pure side 24: the component's net, joined ===== -/
theorem key_pair {σ : St} {u v x y : Nat} (hu : u < 24) (hv : v < 24) (hx : x < 24) (hy : y < 24) (h : key σ u v = key σ x y) : (u = x ∧ v = y) ∨ (u = y ∧ v = x) := by
  obtain ⟨h1, h2, -⟩ := key_inj hu hv hx hy h
  exact lo_hi_same h1 h2
/-- the component's net is right -/
def NetOK (σ : St) : Prop := ∃ N : Nat, N ≤ 23 ∧ σ 62 2 = (N : Int) ∧ asc (σ 63) N ∧ ∀ x, (∃ i, i < N ∧ σ 63 i = x) ↔ ∃ u v, TE (pC σ) (key σ) u v ∧ x = key σ u v
/-- what holds while the net grows; j is the well joined last -/
def JI (σC : St) (v0 : Int) (i : Nat) (τ : St) (j : Nat) : Prop :=
  j < 24 ∧ pC σC j = true ∧ (∀ k, k ≠ 62 → k ≠ 63 → k ≠ 64 → τ k = σC k) ∧ τ 62 1 = v0 ∧ τ 62 2 = (i : Int) ∧
  (∀ w, w < 24 → pC σC w = true → -1 ≤ τ 64 (ct (pC σC) w) ∧ τ 64 (ct (pC σC) w) ≤ 1152921504606846976) ∧ τ 64 (ct (pC σC) j) ≠ -1 ∧
  (∀ w, w < 24 → pC σC w = true → w ≠ j → τ 64 (ct (pC σC) w) ≠ -1 → (∀ u, u < 24 → pC σC u = true → τ 64 (ct (pC σC) u) = -1 → τ 64 (ct (pC σC) w) ≤ key σC u w) ∧ (τ 64 (ct (pC σC) w) = 1152921504606846976 ∨ ∃ u, u < 24 ∧ pC σC u = true ∧ τ 64 (ct (pC σC) u) = -1 ∧ τ 64 (ct (pC σC) w) = key σC u w)) ∧
  ct (dn (pC σC) (fun w => τ 64 (ct (pC σC) w))) 24 = i ∧ asc (τ 63) i ∧ (∀ a, a < i → 0 ≤ τ 63 a ∧ τ 63 a < 4000000000) ∧
  PI (pC σC) (key σC) (fun w => τ 64 (ct (pC σC) w) = -1 ∨ w = j) (fun x => ∃ a, a < i ∧ τ 63 a = x)
theorem join_step {σC σM τ : St} (h : Rw σC σM) {v0 : Int} {i j : Nat} (hi : i + 1 < ct (pC σC) 24) (hJ : JI σC v0 i τ j) : ∃ υ v, f_X3_joinOnce_b45 τ ((ct (pC σC) j : Nat) : Int) ((i + 1 : Nat) : Int) = some (.inl (υ, ((ct (pC σC) v : Nat) : Int), ((i + 1 + 1 : Nat) : Int))) ∧ JI σC v0 (i + 1) υ v := by
  obtain ⟨hj, pj, j1, j2, j3, j4, j5, j6, j7, j8, j9, j10⟩ := hJ
  have hm := h.many
  have h24 := ct_le (pC σC) 24
  obtain ⟨cj1, cj2⟩ := h.ct24 hj pj
  have iC : ∀ k, k < 7 → τ k = σC k := fun k hk => j1 k (by omega) (by omega) (by omega)
  have iC1 : ∀ k, k < 7 → up2 τ 64 (ct (pC σC) j) (-1) k = σC k := fun k hk => by rw [up2_k (by omega), iC k hk]
  have g1 : ∀ w, w < 24 → pC σC w = true → up2 τ 64 (ct (pC σC) j) (-1) 64 (ct (pC σC) w) = if w = j then -1 else τ 64 (ct (pC σC) w) := by
    intro w hw pw
    by_cases e : w = j
    · rw [e, up2_same, if_pos rfl]
    · rw [up2_j (fun z => e (ct_inj pw pj z)), if_neg e]
  obtain ⟨μ, m0, m1, m2⟩ := reach_spec h iC1 (fun w hw pw => by
    rw [g1 w hw pw]
    have := j4 w hw pw
    split <;> omega) hj pj 1000 (by omega)
  have iC2 : ∀ k, k < 7 → μ k = σC k := fun k hk => by rw [m1 k (by omega), iC1 k hk]
  have g2 : ∀ w, w < 24 → pC σC w = true → μ 64 (ct (pC σC) w) = if w = j ∨ τ 64 (ct (pC σC) w) = -1 then -1 else if key σC j w < τ 64 (ct (pC σC) w) then key σC j w else τ 64 (ct (pC σC) w) := by
    intro w hw pw
    rw [m2 w hw pw, g1 w hw pw, upN]
    by_cases e : w = j
    · rw [if_pos e, if_pos rfl, if_pos (Or.inl e)]
    · rw [if_neg e]
      by_cases e2 : τ 64 (ct (pC σC) w) = -1
      · rw [if_pos e2, if_pos (Or.inr e2)]
      · have nz : ¬ (w = j ∨ τ 64 (ct (pC σC) w) = -1) := fun z => z.elim e e2
        rw [if_neg e2, if_neg nz]
  have gd : ∀ w, w < 24 → pC σC w = true → (μ 64 (ct (pC σC) w) = -1 ↔ (τ 64 (ct (pC σC) w) = -1 ∨ w = j)) := by
    intro w hw pw
    rw [g2 w hw pw]
    have d := h.keyr hj hw
    have r := j4 w hw pw
    by_cases c : w = j ∨ τ 64 (ct (pC σC) w) = -1
    · rw [if_pos c]; exact ⟨fun _ => c.symm, fun _ => rfl⟩
    · rw [if_neg c]
      have n2 : τ 64 (ct (pC σC) w) ≠ -1 := fun z => c (Or.inr z)
      refine ⟨fun z => ?_, fun z => absurd z.symm c⟩
      exfalso
      revert z
      split
      · intro z; omega
      · intro z; omega
  have gr : ∀ w, w < 24 → pC σC w = true → -1 ≤ μ 64 (ct (pC σC) w) ∧ μ 64 (ct (pC σC) w) ≤ 1152921504606846976 := by
    intro w hw pw
    rw [g2 w hw pw]
    have d := h.keyr hj hw
    have r := j4 w hw pw
    split
    · omega
    · split <;> omega
  have gb : ∀ w, w < 24 → pC σC w = true → μ 64 (ct (pC σC) w) ≠ -1 → (∀ u, u < 24 → pC σC u = true → (τ 64 (ct (pC σC) u) = -1 ∨ u = j) → μ 64 (ct (pC σC) w) ≤ key σC u w) ∧ ∃ u, u < 24 ∧ pC σC u = true ∧ (τ 64 (ct (pC σC) u) = -1 ∨ u = j) ∧ μ 64 (ct (pC σC) w) = key σC u w := by
    intro w hw pw z
    have nz : ¬ (w = j ∨ τ 64 (ct (pC σC) w) = -1) := fun y => z ((gd w hw pw).mpr y.symm)
    have d := h.keyr hj hw
    obtain ⟨k1, k2⟩ := j6 w hw pw (fun e => nz (Or.inl e)) (fun e => nz (Or.inr e))
    rw [g2 w hw pw, if_neg nz]
    refine ⟨fun u hu pu y => ?_, ?_⟩
    · rcases y with y | y
      · have := k1 u hu pu y
        split <;> omega
      · rw [y]
        split <;> omega
    · by_cases c : key σC j w < τ 64 (ct (pC σC) w)
      · rw [if_pos c]
        exact ⟨j, hj, pj, Or.inr rfl, rfl⟩
      · rw [if_neg c]
        rcases k2 with y | ⟨u, hu, pu, y1, y2⟩
        · omega
        · exact ⟨u, hu, pu, Or.inl y1, y2⟩
  have cnt : ct (dn (pC σC) (fun w => μ 64 (ct (pC σC) w))) 24 = i + 1 := by
    rw [ct_add2 (p := dn (pC σC) (fun w => τ 64 (ct (pC σC) w))) (m := j) (by simp [dn, j5]) (by
      have := (gd j hj pj).mpr (Or.inr rfl)
      simp [dn, pj, this]) 24 (fun w hw hne => by
      cases pw : pC σC w with
      | false => simp [dn, pw]
      | true =>
        have := gd w hw pw
        by_cases c : τ 64 (ct (pC σC) w) = -1
        · simp [dn, pw, c, this.mpr (Or.inl c)]
        · have : μ 64 (ct (pC σC) w) ≠ -1 := fun z => (this.mp z).elim c hne
          simp [dn, pw, c, this]) hj, j7]
  have sub := ct_sub (p := pC σC) (q := dn (pC σC) (fun w => μ 64 (ct (pC σC) w))) 24 (fun k _ z => by
    simp only [dn, Bool.and_eq_true] at z
    exact z.1)
  obtain ⟨w, hw, pw, dw⟩ := sub.2.1 (by omega)
  obtain ⟨v, hv, pv, v1, v2, v3⟩ := leastReach_spec h iC2 gr (by omega) ⟨w, hw, pw, fun z => by simp [dn, pw, z] at dw⟩
  obtain ⟨cv1, cv2⟩ := h.ct24 hv pv
  obtain ⟨lb, u, hu, pu, du, ex⟩ := gb v hv pv v1
  have nv : ¬ (τ 64 (ct (pC σC) v) = -1 ∨ v = j) := fun z => v1 ((gd v hv pv).mpr z)
  have kr := h.keyr hu hv
  have e63 : μ 63 = τ 63 := by rw [m1 63 (by decide), up2_k (by omega)]
  have e62 : μ 62 = τ 62 := by rw [m1 62 (by decide), up2_k (by omega)]
  obtain ⟨υ, a0, a1, a2, a3, a4, a5⟩ := add_spec (τ := μ) (m := i) (x := key σC u v) (by omega) (by rw [e62]; exact j3) kr (by rw [e63]; exact j9) (by rw [e63]; exact j8) (fun a ha e => by
    rw [e63] at e
    obtain ⟨x, y, t, dx, dy, exy⟩ := j10.1 (key σC u v) ⟨a, ha, e⟩
    rcases key_pair hu hv t.1 t.2.1 exy with ⟨q1, q2⟩ | ⟨q1, q2⟩
    · rw [← q2] at dy; exact nv dy
    · rw [← q2] at dx; exact nv dx)
  have u64 : υ 64 = μ 64 := a1 64 (by decide) (by decide)
  refine ⟨υ, v, ?_, hv, pv, fun k k1 k2 k3 => ?_, ?_, a3, ?_, ?_, ?_, ?_, a4, ?_, ?_⟩
  · rw [f_X3_joinOnce_b45, iC 1 (by decide), hm, jc_II (by omega) (by omega) (by omega) (by omega), if_pos (by omega), jc_ix (by omega) (by omega), jlet_v, cast_n, f_X3_reachFrom, f_X3_reachFrom_b0, jlet_v, m0, jbind_s, jbind_s, v3, jbind_s, jlet_v, jc_ix (by omega) (by omega), cast_n, ex, a0, jbind_s, jlet_v, cast_s]
  · rw [a1 k k1 k2, m1 k k3, up2_k k3, j1 k k1 k2 k3]
  · rw [a2 1 (by decide), e62, j2]
  · rw [u64]; exact gr
  · rw [u64]; exact v1
  · rw [u64]
    intro w hw pw wv z
    obtain ⟨b1, u', b2, b3, b4, b5⟩ := gb w hw pw z
    exact ⟨fun u hu pu y => b1 u hu pu ((gd u hu pu).mp y), Or.inr ⟨u', b2, b3, (gd u' b2 b3).mpr b4, b5⟩⟩
  · rw [u64]; exact cnt
  · intro a ha
    rcases (a5 (υ 63 a)).mp ⟨a, ha, rfl⟩ with ⟨b, hb, e⟩ | e
    · rw [← e, e63]; exact j9 b hb
    · rw [e]; exact kr
  · refine j10.step (key_sym σC) hu hv pu pv du nv (fun a w ha hw pa pw da dw => ?_) (fun w hw pw => ?_) (fun x => ?_)
    · have z : μ 64 (ct (pC σC) w) ≠ -1 := fun z => dw ((gd w hw pw).mp z)
      have := (gb w hw pw z).1 a ha pa da
      have := v2 w hw pw z
      omega
    · rw [u64]
      have := gd w hw pw
      constructor
      · rintro (z | z)
        · exact Or.inl (this.mp z)
        · exact Or.inr z
      · rintro (z | z)
        · exact Or.inl (this.mpr z)
        · exact Or.inr z
    · rw [a5 x, e63]
theorem join_loop {σC σM τ0 : St} (h : Rw σC σM) {v0 : Int} (h0 : 0 < ct (pC σC) 24) {w0 : Nat} (hw0 : w0 < 24) (pw0 : pC σC w0 = true) (cw0 : ct (pC σC) w0 = 0) (hJ : JI σC v0 0 τ0 w0) (fuel : Nat) (hf : 24 < fuel) : ∃ τ, jloop (fun (q : (St × Int × Int)) => match q with | (σ, x1, x2) => f_X3_joinOnce_b45 σ x1 x2) fuel (τ0, 0, 1) = some τ ∧ (∀ k, k ≠ 62 → k ≠ 63 → k ≠ 64 → τ k = σC k) ∧ τ 62 1 = v0 ∧ NetOK τ := by
  have hm := h.many
  have h24 := ct_le (pC σC) 24
  refine jloop_ex (I := fun i s => ∃ j, s.2.1 = ((ct (pC σC) j : Nat) : Int) ∧ s.2.2 = ((i + 1 : Nat) : Int) ∧ JI σC v0 i s.1 j) (N := ct (pC σC) 24 - 1) (J := _) ?_ ?_ (ct (pC σC) 24 - 1) 0 fuel _ (by omega) (by omega) ⟨w0, by rw [cw0]; rfl, rfl, hJ⟩
  · rintro i ⟨τ, _, _⟩ hi ⟨j, rfl, rfl, i1⟩
    obtain ⟨υ, v, e1, e2⟩ := join_step h (by omega) i1
    exact ⟨_, e1, v, rfl, rfl, e2⟩
  · rintro ⟨τ, _, _⟩ ⟨j, rfl, rfl, hj, pj, j1, j2, j3, j4, j5, j6, j7, j8, j9, j10⟩
    dsimp only at j1 j2 j3 j4 j5 j6 j7 j8 j9 j10
    have iC : ∀ k, k < 7 → τ k = σC k := fun k hk => j1 k (by omega) (by omega) (by omega)
    refine ⟨τ, ?_, j1, j2, ct (pC σC) 24 - 1, by omega, j3, j8, ?_⟩
    · show f_X3_joinOnce_b45 τ ((ct (pC σC) j : Nat) : Int) ((ct (pC σC) 24 - 1 + 1 : Nat) : Int) = _
      rw [f_X3_joinOnce_b45, iC 1 (by decide), hm, jc_II (by omega) (by omega) (by omega) (by omega), if_neg (by omega)]
    · intro x
      rw [pC_cC iC, key_cC iC]
      refine j10.all (fun u v x y hu hv hx hy e => key_pair hu hv hx hy e) (fun w hw pw => ?_) x
      -- all but one are marked, and that one is j
      by_cases c : τ 64 (ct (pC σC) w) = -1
      · exact Or.inl c
      · right
        by_cases e : w = j
        · exact e
        · exfalso
          have l1 : ct (dn (pC σC) (fun w => τ 64 (ct (pC σC) w))) 24 + 1 = ct (fun u => dn (pC σC) (fun w => τ 64 (ct (pC σC) w)) u || decide (u = j)) 24 := by
            rw [ct_add2 (p := dn (pC σC) (fun w => τ 64 (ct (pC σC) w))) (q := fun u => dn (pC σC) (fun w => τ 64 (ct (pC σC) w)) u || decide (u = j)) (m := j) (by simp [dn, j5]) (by simp) 24 (fun u hu ue => by simp [ue]) hj]
          have sub := ct_sub (p := pC σC) (q := fun u => dn (pC σC) (fun w => τ 64 (ct (pC σC) w)) u || decide (u = j)) 24 (fun u _ z => by
            simp only [dn, Bool.or_eq_true, Bool.and_eq_true, decide_eq_true_eq] at z
            rcases z with z | z
            · exact z.1
            · rw [z]; exact pj)
          have e9 : ct (fun u => dn (pC σC) (fun w => τ 64 (ct (pC σC) w)) u || decide (u = j)) 24 = ct (pC σC) 24 := by
            rw [← l1, j7]
            clear sub l1 j6 j10
            omega
          have := sub.2.2 e9 w hw pw
          simp only [dn, Bool.or_eq_true, Bool.and_eq_true, decide_eq_true_eq] at this
          rcases this with z | z
          · exact c z.2
          · exact e z
theorem TE_none {p : Nat → Bool} {K : Nat → Nat → Int} (h : ct p 24 = 0) {u v : Nat} (t : TE p K u v) : False := by
  have := ct_zero.mp h u t.1
  rw [t.2.2.1] at this
  cases this
theorem join_spec {σC σM : St} (h : Rw σC σM) (h1 : inI (σC 62 1)) (h2 : inI (σC 1 6)) (hc : σC 62 1 = σC 1 6 → NetOK σC) : ∃ τ, f_X3_joinOnce σC = some τ ∧ (∀ k, k ≠ 62 → k ≠ 63 → k ≠ 64 → τ k = σC k) ∧ τ 62 1 = σC 1 6 ∧ NetOK τ := by
  obtain ⟨a1, a2⟩ := h1
  obtain ⟨b1, b2⟩ := h2
  by_cases c : σC 62 1 = σC 1 6
  · refine ⟨σC, ?_, fun _ _ _ _ => rfl, c, hc c⟩
    rw [f_X3_joinOnce, f_X3_joinOnce_b0, jc_II (by omega) (by omega) (by omega) (by omega), if_pos c]
  · have hm := h.many
    have h24 := ct_le (pC σC) 24
    have e : f_X3_joinOnce σC = jbind (jloop (fun (q : (St × Int × Int)) => match q with | (σ, x1, x2) => f_X3_joinOnce_b45 σ x1 x2) 1000 (upr (up2 (up2 σC 62 1 (σC 1 6)) 62 2 0) 64 (flt (up2 (up2 σC 62 1 (σC 1 6)) 62 2 0 64) 1152921504606846976 24), 0, 1)) (fun σ_12 => some σ_12) := by
      rw [f_X3_joinOnce, f_X3_joinOnce_b0, jc_II (by omega) (by omega) (by omega) (by omega), if_neg c, jlet_v, jlet_v, fillL_spec (by omega), jbind_s, jlet_v, jlet_v]
    have f1 : ∀ k, k ≠ 62 → k ≠ 63 → k ≠ 64 → upr (up2 (up2 σC 62 1 (σC 1 6)) 62 2 0) 64 (flt (up2 (up2 σC 62 1 (σC 1 6)) 62 2 0 64) 1152921504606846976 24) k = σC k := fun k k1 k2 k3 => by rw [upr_ne k3, up2_k k1, up2_k k1]
    have f64 : ∀ j, j < 24 → upr (up2 (up2 σC 62 1 (σC 1 6)) 62 2 0) 64 (flt (up2 (up2 σC 62 1 (σC 1 6)) 62 2 0 64) 1152921504606846976 24) 64 j = 1152921504606846976 := fun j hj => by
      rw [upr_same, flt, if_pos hj]
    have f62 : ∀ j, upr (up2 (up2 σC 62 1 (σC 1 6)) 62 2 0) 64 (flt (up2 (up2 σC 62 1 (σC 1 6)) 62 2 0 64) 1152921504606846976 24) 62 j = up2 (up2 σC 62 1 (σC 1 6)) 62 2 0 62 j := fun j => by rw [upr_ne (by decide)]
    by_cases h0 : 0 < ct (pC σC) 24
    · obtain ⟨w0, hw0, pw0, cw0⟩ := first_p h0
      have l64 : ∀ w, w < 24 → pC σC w = true → ct (pC σC) w < 24 := fun w hw pw => by
        have := h.ct24 hw pw
        omega
      have g0 : ∀ w, w < 24 → pC σC w = true → upr (up2 (up2 σC 62 1 (σC 1 6)) 62 2 0) 64 (flt (up2 (up2 σC 62 1 (σC 1 6)) 62 2 0 64) 1152921504606846976 24) 64 (ct (pC σC) w) = 1152921504606846976 := fun w hw pw => f64 _ (l64 w hw pw)
      obtain ⟨τ, t0, t1, t2, t3⟩ := join_loop h (v0 := σC 1 6) h0 hw0 pw0 cw0 (τ0 := upr (up2 (up2 σC 62 1 (σC 1 6)) 62 2 0) 64 (flt (up2 (up2 σC 62 1 (σC 1 6)) 62 2 0 64) 1152921504606846976 24)) (by
        refine ⟨hw0, pw0, f1, by rw [f62, up2_j (by decide), up2_same], by rw [f62, up2_same]; rfl, fun w hw pw => by rw [g0 w hw pw]; omega, by rw [g0 w0 hw0 pw0]; omega, fun w hw pw _ _ => ⟨fun u hu pu z => ?_, Or.inl (g0 w hw pw)⟩, ?_, fun i j hij hj => absurd hj (Nat.not_lt_zero j), fun a ha => absurd ha (Nat.not_lt_zero a), PI.init (w0 := w0) (fun w hw pw z => ?_) (fun x z => ?_)⟩
        · rw [g0 u hu pu] at z; omega
        · rw [ct_zero]
          intro w hw
          cases pw : pC σC w with
          | false => simp [dn, pw]
          | true => simp [dn, g0 w hw pw]
        · rcases z with z | z
          · rw [g0 w hw pw] at z; omega
          · exact z
        · obtain ⟨a, ha, -⟩ := z
          exact absurd ha (Nat.not_lt_zero a)) 1000 (by omega)
      refine ⟨τ, ?_, t1, t2, t3⟩
      rw [e, t0, jbind_s]
    · have z : ct (pC σC) 24 = 0 := by omega
      refine ⟨upr (up2 (up2 σC 62 1 (σC 1 6)) 62 2 0) 64 (flt (up2 (up2 σC 62 1 (σC 1 6)) 62 2 0 64) 1152921504606846976 24), ?_, f1, by rw [f62, up2_j (by decide), up2_same], 0, by omega, by rw [f62, up2_same]; rfl, fun i j hij hj => absurd hj (Nat.not_lt_zero j), fun x => ⟨fun y => ?_, fun y => ?_⟩⟩
      · have lz : ∀ fuel, 0 < fuel → jloop (fun (q : (St × Int × Int)) => match q with | (σ, x1, x2) => f_X3_joinOnce_b45 σ x1 x2) fuel (upr (up2 (up2 σC 62 1 (σC 1 6)) 62 2 0) 64 (flt (up2 (up2 σC 62 1 (σC 1 6)) 62 2 0 64) 1152921504606846976 24), 0, 1) = some (upr (up2 (up2 σC 62 1 (σC 1 6)) 62 2 0) 64 (flt (up2 (up2 σC 62 1 (σC 1 6)) 62 2 0 64) 1152921504606846976 24)) := by
          intro fuel hfu
          refine jloop_for0 (g := fun _ => (upr (up2 (up2 σC 62 1 (σC 1 6)) 62 2 0) 64 (flt (up2 (up2 σC 62 1 (σC 1 6)) 62 2 0 64) 1152921504606846976 24), (0 : Int), (1 : Int))) (N := 0) (e := _) rfl hfu (fun a ha => absurd ha (Nat.not_lt_zero a)) ?_
          show f_X3_joinOnce_b45 _ 0 1 = _
          rw [f_X3_joinOnce_b45, f1 1 (by decide) (by decide) (by decide), hm, z, jc_II (by omega) (by omega) (by omega) (by omega), if_neg (by omega)]
        rw [e, lz 1000 (by omega), jbind_s]
      · obtain ⟨i, hi, -⟩ := y
        exact absurd hi (Nat.not_lt_zero i)
      · obtain ⟨u, v, t, -⟩ := y
        rw [pC_cC (fun k hk => f1 k (by omega) (by omega) (by omega))] at t
        exact (TE_none z t).elim
