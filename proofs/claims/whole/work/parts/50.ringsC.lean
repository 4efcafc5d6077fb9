/-! ===== the pure side 30: rings, the component's search ===== -/
theorem rS_cC {σ τ : St} (hC : ∀ k, k < 7 → τ k = σ k) : rS τ = rS σ := by
  funext u v w z
  unfold rS
  rw [trn_cC hC, sqd_cC hC]
theorem rD_cC {σ τ : St} (hC : ∀ k, k < 7 → τ k = σ k) : rD τ = rD σ := by
  funext u v w
  unfold rD
  rw [trn_cC hC]
theorem rA_cC {σ τ : St} (hC : ∀ k, k < 7 → τ k = σ k) : rA τ = rA σ := by
  funext u v w
  unfold rA
  rw [rS_cC hC, hC 4 (by omega)]
theorem rU_cC {σ τ : St} (hC : ∀ k, k < 7 → τ k = σ k) : rU τ = rU σ := by
  funext u v w
  unfold rU
  rw [rS_cC hC, hC 3 (by omega)]
theorem rO_cC {σ τ : St} (hC : ∀ k, k < 7 → τ k = σ k) : rO τ = rO σ := by
  funext u v w t
  unfold rO
  rw [sqd_cC hC, rD_cC hC, rA_cC hC, rU_cC hC, hC 3 (by omega), hC 4 (by omega)]
theorem rB_cC {σ τ : St} (hC : ∀ k, k < 7 → τ k = σ k) : rB τ = rB σ := by
  funext u v w t
  unfold rB
  rw [pC_cC hC, rO_cC hC]
theorem Acc_cC {σ τ : St} (hC : ∀ k, k < 7 → τ k = σ k) : Acc τ = Acc σ := by
  funext u v w
  unfold Acc
  rw [pC_cC hC, rO_cC hC, trn_cC hC]
theorem TL_cC {σ τ : St} (hC : ∀ k, k < 7 → τ k = σ k) : TL τ = TL σ := by
  funext B M U V W
  unfold TL
  rw [Acc_cC hC]
/-- the component's rows of rings -/
def RC (σ τ : St) (M : Nat) (U V W : Nat → Nat) : Prop := τ 35 2 = (M : Int) ∧ ∀ i, i < M → τ 36 i = ((nb (rB σ (U i) (V i) (W i)) 24 : Nat) : Int) ∧ τ 37 i = (U i : Int) ∧ τ 38 i = rA σ (U i) (V i) (W i) ∧ τ 39 i = rU σ (U i) (V i) (W i) ∧ τ 40 i = rD σ (U i) (V i) (W i)
/-- the search has come to B -/
def SC (σC : St) (v0 : Int) (B : Nat) (τ : St) : Prop := (∀ k, k < 35 ∨ 40 < k → τ k = σC k) ∧ τ 35 1 = v0 ∧ ∃ M U V W, RC σC τ M U V W ∧ TL σC B M U V W
theorem SC.skip {σC τ : St} {v0 : Int} {B B' : Nat} (h : SC σC v0 B τ) (hB : B ≤ B') (no : ∀ u v w, Acc σC u v w → B ≤ cdn u v w → B' ≤ cdn u v w) : SC σC v0 B' τ := by
  obtain ⟨h1, h2, M, U, V, W, h3, h4⟩ := h
  exact ⟨h1, h2, M, U, V, W, h3, h4.skip hB no⟩
theorem look_spec {σC σM τ : St} (h : Rw σC σM) {v0 : Int} {u v w : Nat} (uv : u < v) (vw : v < w) (hw : w < 24) (pu : pC σC u = true) (pv : pC σC v = true) (pw : pC σC w = true) (hS : SC σC v0 (cdn u v w) τ) : ∃ υ, f_X6_look τ (u : Int) (v : Int) (w : Int) = some υ ∧ SC σC v0 (cdn u v w + 1) υ := by
  obtain ⟨h1, h2, M, U, V, W, ⟨h3, h4⟩, h5⟩ := hS
  have hu : u < 24 := by omega
  have hv : v < 24 := by omega
  have iC : ∀ k, k < 7 → τ k = σC k := fun k hk => h1 k (by omega)
  have sr := setRound_spec h iC hu hv hw
  obtain ⟨μ, eμ⟩ : ∃ μ, μ = up2 (up2 (up2 τ 35 10 (rD σC u v w)) 35 8 (rA σC u v w)) 35 9 (rU σC u v w) := ⟨_, rfl⟩
  rw [← eμ] at sr
  have m1 : ∀ k, k ≠ 35 → μ k = τ k := fun k hk => by rw [eμ, up2_k hk, up2_k hk, up2_k hk]
  have m10 : μ 35 10 = rD σC u v w := by rw [eμ, up2_j (by decide), up2_j (by decide), up2_same]
  have m8 : μ 35 8 = rA σC u v w := by rw [eμ, up2_j (by decide), up2_same]
  have m9 : μ 35 9 = rU σC u v w := by rw [eμ, up2_same]
  have mo : ∀ j, j ≠ 8 → j ≠ 9 → j ≠ 10 → μ 35 j = τ 35 j := fun j a b c => by rw [eμ, up2_j b, up2_j a, up2_j c]
  have mC : ∀ k, k < 7 → μ k = σC k := fun k hk => by rw [m1 k (by omega), iC k hk]
  have mF : ∀ k, k < 35 ∨ 40 < k → μ k = σC k := fun k hk => by rw [m1 k (by omega), h1 k hk]
  have stay : ¬ Acc σC u v w → SC σC v0 (cdn u v w + 1) μ := fun hn => by
    refine ⟨mF, by rw [mo 1 (by decide) (by decide) (by decide), h2], M, U, V, W, ⟨by rw [mo 2 (by decide) (by decide) (by decide), h3], fun i hi => ?_⟩, h5.no hv hw hn⟩
    rw [m1 36 (by decide), m1 37 (by decide), m1 38 (by decide), m1 39 (by decide), m1 40 (by decide)]
    exact h4 i hi
  by_cases c : trn σC u v w = 0
  · rw [if_pos c] at sr
    refine ⟨μ, ?_, stay (fun z => z.2.2.2.2.2.2.1 c)⟩
    rw [f_X6_look, f_X6_look_b0, sr, jbind_s]
    dsimp only
    rw [jc_I (by omega) (by omega), if_pos rfl]
  · rw [if_neg c] at sr
    obtain ⟨e, e0, e1⟩ := ringFrom_loop h mC hu hv hw m10 m8 m9 1000 (by omega)
    rcases e1 with ⟨rfl, t, ht, e1⟩ | ⟨rfl, e1⟩
    · refine ⟨μ, ?_, stay (fun z => ((acc_iff uv vw hw pu pv pw).mp z).2 t ht e1)⟩
      rw [f_X6_look, f_X6_look_b0, sr, jbind_s]
      dsimp only
      rw [jc_I (by omega) (by omega), if_neg (by omega), f_X6_ringFrom, f_X6_ringFrom_b0, jlet_v, jlet_v, e0, jbind_s]
      dsimp only
      rw [jbind_s, jlet_v, jc_I (by omega) (by omega), if_pos rfl]
    · have hA : Acc σC u v w := (acc_iff uv vw hw pu pv pw).mpr ⟨c, e1⟩
      have bp : nb (rB σC u v w) 24 ≠ 0 := nb_pos (k := u) hu (by
        have := (rO_self σC u v w).1
        simp [rB, pu, this])
      have bl := nb_24 (S := rB σC u v w) (w := 24) (by omega)
      obtain ⟨U', n1, n2⟩ : ∃ U' : Nat → Nat, U' M = u ∧ ∀ j, j < M → U' j = U j := ⟨fun j => if j = M then u else U j, by simp, fun j hj => by
        show (if j = M then u else U j) = U j
        rw [if_neg (by omega)]⟩
      obtain ⟨V', n3, n4⟩ : ∃ V' : Nat → Nat, V' M = v ∧ ∀ j, j < M → V' j = V j := ⟨fun j => if j = M then v else V j, by simp, fun j hj => by
        show (if j = M then v else V j) = V j
        rw [if_neg (by omega)]⟩
      obtain ⟨W', n5, n6⟩ : ∃ W' : Nat → Nat, W' M = w ∧ ∀ j, j < M → W' j = W j := ⟨fun j => if j = M then w else W j, by simp, fun j hj => by
        show (if j = M then w else W j) = W j
        rw [if_neg (by omega)]⟩
      have hT := h5.add hA n1 n3 n5 n2 n4 n6
      have hb := hT.bound h
      have m2 : μ 35 2 = (M : Int) := by rw [mo 2 (by decide) (by decide) (by decide), h3]
      refine ⟨up2 (up2 (up2 (up2 (up2 (up2 μ 36 M ((nb (rB σC u v w) 24 : Nat) : Int)) 37 M (u : Int)) 38 M (rA σC u v w)) 39 M (rU σC u v w)) 40 M (rD σC u v w)) 35 2 ((M : Int) + 1), ?_, fun k hk => ?_, ?_, M + 1, U', V', W', ⟨?_, fun i hi => ?_⟩, hT⟩
      · rw [f_X6_look, f_X6_look_b0, sr, jbind_s]
        dsimp only
        rw [jc_I (by omega) (by omega), if_neg (by omega), f_X6_ringFrom, f_X6_ringFrom_b0, jlet_v, jlet_v, e0, jbind_s]
        dsimp only
        rw [jbind_s, jlet_v, jc_I (by omega) (by omega), if_neg (by omega), m2, jc_II (by omega) (by omega) (by omega) (by omega), if_pos (by omega), jc_ix (by omega) (by omega), jlet_v, cast_n, up2_k (k' := 35) (by decide), m2, jc_ix (by omega) (by omega), jlet_v, cast_n, up2_k (k' := 35) (by decide), up2_k (k' := 35) (by decide), m2, m8, jc_ix (by omega) (by omega), jlet_v, cast_n, up2_k (k' := 35) (by decide), up2_k (k' := 35) (by decide), up2_k (k' := 35) (by decide), m2, m9, jc_ix (by omega) (by omega), jlet_v, cast_n, up2_k (k' := 35) (by decide), up2_k (k' := 35) (by decide), up2_k (k' := 35) (by decide), up2_k (k' := 35) (by decide), m2, m10, jc_ix (by omega) (by omega), jlet_v, cast_n, jlet_v, up2_k (k' := 35) (by decide), up2_k (k' := 35) (by decide), up2_k (k' := 35) (by decide), up2_k (k' := 35) (by decide), up2_k (k' := 35) (by decide), m2]
      · rw [up2_k (by omega), up2_k (by omega), up2_k (by omega), up2_k (by omega), up2_k (by omega), up2_k (by omega), mF k hk]
      · rw [up2_j (by decide), up2_k (k' := 35) (by decide), up2_k (k' := 35) (by decide), up2_k (k' := 35) (by decide), up2_k (k' := 35) (by decide), up2_k (k' := 35) (by decide), mo 1 (by decide) (by decide) (by decide), h2]
      · rw [up2_same]; omega
      · by_cases e : i = M
        · rw [e, n1, n3, n5]
          refine ⟨?_, ?_, ?_, ?_, ?_⟩
          · rw [up2_k (k' := 36) (by decide), up2_k (k' := 36) (by decide), up2_k (k' := 36) (by decide), up2_k (k' := 36) (by decide), up2_k (k' := 36) (by decide), up2_same]
          · rw [up2_k (k' := 37) (by decide), up2_k (k' := 37) (by decide), up2_k (k' := 37) (by decide), up2_k (k' := 37) (by decide), up2_same]
          · rw [up2_k (k' := 38) (by decide), up2_k (k' := 38) (by decide), up2_k (k' := 38) (by decide), up2_same]
          · rw [up2_k (k' := 39) (by decide), up2_k (k' := 39) (by decide), up2_same]
          · rw [up2_k (k' := 40) (by decide), up2_same]
        · have ge : ∀ k, k ≠ 35 → up2 (up2 (up2 (up2 (up2 (up2 μ 36 M ((nb (rB σC u v w) 24 : Nat) : Int)) 37 M (u : Int)) 38 M (rA σC u v w)) 39 M (rU σC u v w)) 40 M (rD σC u v w)) 35 2 ((M : Int) + 1) k i = τ k i := fun k hk => by rw [up2_k hk, up2_a e, up2_a e, up2_a e, up2_a e, up2_a e, m1 k hk]
          rw [n2 i (by omega), n4 i (by omega), n6 i (by omega), ge 36 (by decide), ge 37 (by decide), ge 38 (by decide), ge 39 (by decide), ge 40 (by decide)]
          exact h4 i (by omega)
theorem cdn_s (u v w : Nat) : cdn u v (w + 1) = cdn u v w + 1 := by
  unfold cdn
  omega
theorem ringsC_in {σC σM : St} (h : Rw σC σM) {v0 : Int} {u v : Nat} (uv : u < v) (hv : v < 24) (pu : pC σC u = true) (pv : pC σC v = true) {τ : St} (hS : SC σC v0 (cdn u v (v + 1)) τ) (fuel : Nat) (hf : 24 < fuel) : ∃ υ, jloop (fun (q : (St × Int)) => match q with | (σ, x3) => f_X6_findOnce_b63 σ ((ct (pC σC) u : Nat) : Int) ((ct (pC σC) v : Nat) : Int) x3) fuel (τ, ((ct (pC σC) (v + 1) : Nat) : Int)) = some υ ∧ SC σC v0 (cdn u v 24) υ := by
  have hm := h.many
  obtain ⟨cu1, cu2⟩ := h.ct24 (show u < 24 by omega) pu
  obtain ⟨cv1, cv2⟩ := h.ct24 hv pv
  refine loopC (pC σC) (I := fun w s => s.2 = ((ct (pC σC) w : Nat) : Int) ∧ v < w ∧ SC σC v0 (cdn u v w) s.1) (J := _) ?_ ?_ ?_ (24 - (v + 1)) (v + 1) fuel _ (by omega) (by omega) ⟨rfl, by omega, hS⟩
  · rintro w ⟨μ, _⟩ hw hp ⟨rfl, vw, i1⟩
    left
    dsimp only at i1
    obtain ⟨c1, c2⟩ := h.ct24 hw hp
    obtain ⟨υ, l1, l2⟩ := look_spec h uv vw hw pu pv hp i1
    refine ⟨(υ, ((ct (pC σC) (w + 1) : Nat) : Int)), ?_, rfl, by omega, by rw [cdn_s]; exact l2⟩
    show f_X6_findOnce_b63 μ ((ct (pC σC) u : Nat) : Int) ((ct (pC σC) v : Nat) : Int) ((ct (pC σC) w : Nat) : Int) = _
    rw [f_X6_findOnce_b63, i1.1 1 (by omega), hm, jc_II (by omega) (by omega) (by omega) (by omega), if_pos (by omega), jc_ix (by omega) (by omega), jc_ix (by omega) (by omega), jc_ix (by omega) (by omega), cast_n, cast_n, cast_n, i1.1 2 (by omega), h.kth (by omega) pu, h.kth hv pv, h.kth hw hp, l1, jbind_s, jlet_v, ct_t hp, cast_s]
  · rintro w ⟨μ, _⟩ hw hp ⟨rfl, vw, i1⟩
    refine ⟨by dsimp only; rw [ct_f hp], by omega, ?_⟩
    obtain ⟨h1, h2, M, U, V, W, h3, h5⟩ := i1
    rw [cdn_s]
    exact ⟨h1, h2, M, U, V, W, h3, h5.no hv hw (fun z => by have := z.2.2.2.2.2.1; rw [hp] at this; cases this)⟩
  · rintro ⟨μ, _⟩ ⟨rfl, vw, i1⟩
    refine ⟨μ, ?_, i1⟩
    have := ct_le (pC σC) 24
    show f_X6_findOnce_b63 μ ((ct (pC σC) u : Nat) : Int) ((ct (pC σC) v : Nat) : Int) ((ct (pC σC) 24 : Nat) : Int) = _
    dsimp only at i1
    rw [f_X6_findOnce_b63, i1.1 1 (by omega), hm, jc_II (by omega) (by omega) (by omega) (by omega), if_neg (by omega)]
theorem skip_w {σ : St} (u v : Nat) : ∀ u' v' w', Acc σ u' v' w' → cdn u v 0 ≤ cdn u' v' w' → v < 24 → cdn u v (v + 1) ≤ cdn u' v' w' := by
  intro u' v' w' hA hc hv
  have a1 := hA.1
  have a2 := hA.2.1
  have a3 := hA.2.2.1
  unfold cdn at *
  omega
theorem ringsC_mid {σC σM : St} (h : Rw σC σM) {v0 : Int} {u : Nat} (hu : u < 24) (pu : pC σC u = true) {τ : St} (hS : SC σC v0 (cdn u (u + 1) 0) τ) (fuel : Nat) (hf : 24 < fuel) : ∃ υ, jloop (fun (q : (St × Int)) => match q with | (σ, x2) => f_X6_findOnce_b48 σ ((ct (pC σC) u : Nat) : Int) x2) fuel (τ, ((ct (pC σC) (u + 1) : Nat) : Int)) = some υ ∧ SC σC v0 (cdn u 24 0) υ := by
  have hm := h.many
  refine loopC (pC σC) (I := fun v s => s.2 = ((ct (pC σC) v : Nat) : Int) ∧ u < v ∧ SC σC v0 (cdn u v 0) s.1) (J := _) ?_ ?_ ?_ (24 - (u + 1)) (u + 1) fuel _ (by omega) (by omega) ⟨rfl, by omega, hS⟩
  · rintro v ⟨μ, _⟩ hv hp ⟨rfl, uv, i1⟩
    left
    dsimp only at i1
    obtain ⟨c1, c2⟩ := h.ct24 hv hp
    obtain ⟨υ, l1, l2⟩ := ringsC_in h uv hv pu hp (i1.skip (by unfold cdn; omega) (fun u' v' w' hA hc => skip_w u v u' v' w' hA hc hv)) 1000 (by omega)
    refine ⟨(υ, ((ct (pC σC) (v + 1) : Nat) : Int)), ?_, rfl, by omega, ?_⟩
    · show f_X6_findOnce_b48 μ ((ct (pC σC) u : Nat) : Int) ((ct (pC σC) v : Nat) : Int) = _
      rw [ct_t hp] at l1
      rw [f_X6_findOnce_b48, i1.1 1 (by omega), hm, jc_II (by omega) (by omega) (by omega) (by omega), if_pos (by omega), jlet_v, cast_s, l1, jbind_s, jlet_v, ct_t hp]
    · have e : cdn u v 24 = cdn u (v + 1) 0 := by unfold cdn; omega
      dsimp only
      rw [← e]; exact l2
  · rintro v ⟨μ, _⟩ hv hp ⟨rfl, uv, i1⟩
    refine ⟨by dsimp only; rw [ct_f hp], by omega, i1.skip (by unfold cdn; omega) (fun u' v' w' hA hc => ?_)⟩
    by_cases c : u' = u ∧ v' = v
    · have := hA.2.2.2.2.1
      rw [c.2, hp] at this
      cases this
    · have a1 := hA.1
      have a2 := hA.2.1
      have a3 := hA.2.2.1
      unfold cdn at *
      omega
  · rintro ⟨μ, _⟩ ⟨rfl, uv, i1⟩
    refine ⟨μ, ?_, i1⟩
    have := ct_le (pC σC) 24
    show f_X6_findOnce_b48 μ ((ct (pC σC) u : Nat) : Int) ((ct (pC σC) 24 : Nat) : Int) = _
    dsimp only at i1
    rw [f_X6_findOnce_b48, i1.1 1 (by omega), hm, jc_II (by omega) (by omega) (by omega) (by omega), if_neg (by omega)]
theorem cdn_u {u u' v' w' : Nat} (h : cdn u 0 0 ≤ cdn u' v' w') (hv : v' < 24) (hw : w' < 24) : u ≤ u' := by
  by_cases c : u ≤ u'
  · exact c
  · exfalso
    have m : (u' + 1) * 576 ≤ u * 576 := Nat.mul_le_mul_right _ (by omega)
    simp only [cdn, Nat.zero_mul, Nat.add_zero] at h
    omega
theorem cdn_le {u v w u' v' w' : Nat} (h : u < u' ∨ (u = u' ∧ (v < v' ∨ (v = v' ∧ w ≤ w')))) (hv : v < 24) (hw : w < 24) : cdn u v w ≤ cdn u' v' w' := by
  unfold cdn
  rcases h with h | ⟨rfl, h | ⟨rfl, h⟩⟩
  · have m : (u + 1) * 576 ≤ u' * 576 := Nat.mul_le_mul_right _ h
    omega
  · have m : (v + 1) * 24 ≤ v' * 24 := Nat.mul_le_mul_right _ h
    omega
  · omega
theorem ringsC_out {σC σM : St} (h : Rw σC σM) {v0 : Int} {τ : St} (hS : SC σC v0 0 τ) (fuel : Nat) (hf : 24 < fuel) : ∃ υ, jloop (fun (q : (St × Int)) => match q with | (σ, x1) => f_X6_findOnce_b33 σ x1) fuel (τ, 0) = some υ ∧ SC σC v0 (cdn 24 0 0) υ := by
  have hm := h.many
  refine loopC (pC σC) (I := fun u s => s.2 = ((ct (pC σC) u : Nat) : Int) ∧ SC σC v0 (cdn u 0 0) s.1) (J := _) ?_ ?_ ?_ 24 0 fuel _ (by omega) (by omega) ⟨rfl, by
    have e : cdn 0 0 0 = 0 := by decide
    rw [e]; exact hS⟩
  · rintro u ⟨μ, _⟩ hu hp ⟨rfl, i1⟩
    left
    dsimp only at i1
    obtain ⟨c1, c2⟩ := h.ct24 hu hp
    obtain ⟨υ, l1, l2⟩ := ringsC_mid h hu hp (i1.skip (B' := cdn u (u + 1) 0) (by unfold cdn; omega) (fun u' v' w' hA hc => by
      have a1 := hA.1
      have a2 := hA.2.1
      have a3 := hA.2.2.1
      have q := cdn_u hc (by omega) (by omega)
      by_cases c : u + 1 < 24
      · exact cdn_le (by omega) c (by omega)
      · exfalso; omega)) 1000 (by omega)
    refine ⟨(υ, ((ct (pC σC) (u + 1) : Nat) : Int)), ?_, rfl, ?_⟩
    · show f_X6_findOnce_b33 μ ((ct (pC σC) u : Nat) : Int) = _
      rw [ct_t hp] at l1
      rw [f_X6_findOnce_b33, i1.1 1 (by omega), hm, jc_II (by omega) (by omega) (by omega) (by omega), if_pos (by omega), jlet_v, cast_s, l1, jbind_s, jlet_v, ct_t hp]
    · have e : cdn u 24 0 = cdn (u + 1) 0 0 := by unfold cdn; omega
      dsimp only
      rw [← e]; exact l2
  · rintro u ⟨μ, _⟩ hu hp ⟨rfl, i1⟩
    refine ⟨by dsimp only; rw [ct_f hp], i1.skip (by unfold cdn; omega) (fun u' v' w' hA hc => ?_)⟩
    by_cases c : u' = u
    · have := hA.2.2.2.1
      rw [c, hp] at this
      cases this
    · have a1 := hA.1
      have a2 := hA.2.1
      have a3 := hA.2.2.1
      have q := cdn_u hc (by omega) (by omega)
      exact cdn_le (by omega) (by omega) (by omega)
  · rintro ⟨μ, _⟩ ⟨rfl, i1⟩
    refine ⟨μ, ?_, i1⟩
    have := ct_le (pC σC) 24
    show f_X6_findOnce_b33 μ ((ct (pC σC) 24 : Nat) : Int) = _
    dsimp only at i1
    rw [f_X6_findOnce_b33, i1.1 1 (by omega), hm, jc_II (by omega) (by omega) (by omega) (by omega), if_neg (by omega)]
/-- the component's rings are right -/
def RoundsOK (σ : St) : Prop := ∃ M U V W, RC σ σ M U V W ∧ TL σ (cdn 24 0 0) M U V W
theorem find_spec {σC σM : St} (h : Rw σC σM) (h1 : inI (σC 35 1)) (h2 : inI (σC 1 6)) (hc : σC 35 1 = σC 1 6 → RoundsOK σC) : ∃ τ, f_X6_findOnce σC = some τ ∧ (∀ k, k < 35 ∨ 40 < k → τ k = σC k) ∧ τ 35 1 = σC 1 6 ∧ RoundsOK τ := by
  obtain ⟨a1, a2⟩ := h1
  obtain ⟨b1, b2⟩ := h2
  by_cases c : σC 35 1 = σC 1 6
  · refine ⟨σC, ?_, fun _ _ => rfl, c, hc c⟩
    rw [f_X6_findOnce, f_X6_findOnce_b0, jc_II (by omega) (by omega) (by omega) (by omega), if_pos c]
  · obtain ⟨τ, t0, t1, t2, M, U, V, W, t3, t4⟩ := ringsC_out h (v0 := σC 1 6) (τ := up2 (up2 σC 35 1 (σC 1 6)) 35 2 0) ⟨fun k hk => by rw [up2_k (by omega), up2_k (by omega)], by rw [up2_j (by decide), up2_same], 0, fun _ => 0, fun _ => 0, fun _ => 0, ⟨by rw [up2_same]; rfl, fun i hi => absurd hi (Nat.not_lt_zero i)⟩, fun i hi => absurd hi (Nat.not_lt_zero i), fun i j hij hj => absurd hj (Nat.not_lt_zero j), fun u v w _ hc => absurd hc (Nat.not_lt_zero _)⟩ 1000 (by omega)
    have cc : ∀ k, k < 7 → τ k = σC k := fun k hk => t1 k (by omega)
    refine ⟨τ, ?_, t1, t2, M, U, V, W, ?_, by rw [TL_cC cc]; exact t4⟩
    · rw [f_X6_findOnce, f_X6_findOnce_b0, jc_II (by omega) (by omega) (by omega) (by omega), if_neg c, jlet_v, jlet_v, jlet_v, t0, jbind_s]
    · unfold RC
      rw [rB_cC cc, rA_cC cc, rU_cC cc, rD_cC cc]
      exact t3
