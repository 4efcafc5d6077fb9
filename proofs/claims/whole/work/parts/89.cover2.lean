/-! ===== the pure side 69: every corner is a candidate of the model, the end ===== -/
theorem ring_of {σC σM : St} (h : Rw σC σM) {p : Pt} {w v u : Nat} (hd : 0 < p.2.2) (hm : mapP σC (hf p)) (hn : NEa σC (hf p) w) (hv : v < 24) (hu : u < 24) (pv : pC σC v = true) (pu : pC σC u = true) (vw : v ≠ w) (uw : u ≠ w) (vu : v ≠ u) (e1 : wsq σC (hf p) v = wsq σC (hf p) w) (e2 : wsq σC (hf p) u = wsq σC (hf p) w) : ∃ a b c, RK σC (ringP σC a b c) a b c ∧ sm (ringP σC a b c) (hf p) := by
  obtain ⟨hw, pw, near⟩ := id hn
  obtain ⟨z, ez⟩ : ∃ z : Nat → Bool, ∀ t, z t = true ↔ (pC σC t = true ∧ wsq σC (hf p) t = wsq σC (hf p) w) := ⟨fun t => pC σC t && decide (wsq σC (hf p) t = wsq σC (hf p) w), fun t => by simp⟩
  obtain ⟨a, b, c, ab', bc, c24, za, zb, zc, least⟩ := three_least hw hv hu vw uw vu ((ez w).mpr ⟨pw, rfl⟩) ((ez v).mpr ⟨pv, e1⟩) ((ez u).mpr ⟨pu, e2⟩)
  obtain ⟨pa, qa⟩ := (ez a).mp za
  obtain ⟨pb, qb⟩ := (ez b).mp zb
  obtain ⟨pc, qc⟩ := (ez c).mp zc
  have d4 : 0 < 4 * p.2.2 := by omega
  have zf : ∀ s t, wsq σC (hf p) s = wsq σC (hf p) t → fl (bl σC false s t) p = 0 := fun s t e => by
    have i := bis_eq σC p s t
    rw [e, Int.sub_self] at i
    rcases Int.mul_eq_zero.mp i.symm with y | y
    · omega
    · exact y
  have fb := zf b a (by omega)
  have fc := zf c a (by omega)
  have nb := (bl_ok h false (show b < 24 by omega) (show a < 24 by omega) pb pa (by omega)).2
  have nc := (bl_ok h false c24 (show a < 24 by omega) pc pa (by omega)).2
  have nn := (bl_ok h false c24 (show b < 24 by omega) pc pb (by omega)).2
  have tn : trn σC a b c ≠ 0 := turn_nz hd fb fc nb nc nn
  obtain ⟨s1, s2, s3⟩ := rO_self σC a b c
  have dp := rD_pos tn
  have ra := ring_wsq σC a b c a
  have rb := ring_wsq σC a b c b
  have rc := ring_wsq σC a b c c
  rw [s1, Int.mul_zero] at ra
  rw [s2, Int.mul_zero] at rb
  rw [s3, Int.mul_zero] at rc
  have zr : ∀ s t, wsq σC (ringP σC a b c) s = wsq σC (ringP σC a b c) t → fl (bl σC false s t) (2 * (ringP σC a b c).1, 2 * (ringP σC a b c).2.1, rD σC a b c) = 0 := fun s t e => by
    have i := bis_eq σC (2 * (ringP σC a b c).1, 2 * (ringP σC a b c).2.1, rD σC a b c) s t
    have j1 : wsq σC (hf (2 * (ringP σC a b c).1, 2 * (ringP σC a b c).2.1, rD σC a b c)) s = 4 * wsq σC (ringP σC a b c) s := wsq_2 σC (ringP σC a b c) s
    have j2 : wsq σC (hf (2 * (ringP σC a b c).1, 2 * (ringP σC a b c).2.1, rD σC a b c)) t = 4 * wsq σC (ringP σC a b c) t := wsq_2 σC (ringP σC a b c) t
    rw [j1, j2, e, Int.sub_self] at i
    rcases Int.mul_eq_zero.mp i.symm with y | y
    · have : 4 * rD σC a b c = 0 := y
      omega
    · exact y
  have hp : par (bl σC false b a) (bl σC false c a) ≠ 0 := by
    intro e
    apply tn
    unfold par bl at e
    unfold trn
    dsimp only at e
    rw [← e]; grind
  have m := meet_uniq hp (zr b a (by omega)) (zr c a (by omega)) fb fc
  have sR : sm (ringP σC a b c) (hf p) := by
    have g : ∀ x d y D : Int, 2 * x * d = y * D → x * (2 * d) = y * D := fun x d y D e => by rw [← e]; grind
    exact ⟨g _ _ _ _ m.1, g _ _ _ _ m.2⟩
  have d2 : 0 < (hf p).2.2 := by show 0 < 2 * p.2.2; omega
  have dR : 0 < (ringP σC a b c).2.2 := dp
  have sR' : sm (hf p) (ringP σC a b c) := ⟨sR.1.symm, sR.2.symm⟩
  have na : NEa σC (hf p) a := ⟨by omega, pa, fun t ht pt => by rw [qa]; exact near t ht pt⟩
  have nR := NEa.sm d2 dR sR' na
  refine ⟨a, b, c, ⟨⟨ab', bc, c24, pa, pb, pc, tn, fun t ht pt => ?_, fun t ht pt et => ?_⟩, mapP.sm dR sR' hm, rfl⟩, sR⟩
  · have i := ring_wsq σC a b c t
    have := nR.2.2 t ht pt
    exact pos_mul dp (by omega)
  · have i := ring_wsq σC a b c t
    rw [et, Int.mul_zero] at i
    have w1 := wsq_sm (σ := σC) sR t
    have w2 := wsq_sm (σ := σC) sR a
    rw [show wsq σC (ringP σC a b c) t = wsq σC (ringP σC a b c) a by omega, w2] at w1
    have := Int.eq_of_mul_eq_mul_right (by have := dd dR; omega) w1
    exact least t ht ((ez t).mpr ⟨pt, by omega⟩)
theorem TO.ok {b c t most W H : Int} {isX : Bool} {X : Pt} (b1 : -2000 ≤ b) (b2 : b ≤ 2000) (t0 : 0 ≤ t) (W1 : W ≤ 1000) (H1 : H ≤ 1000) (hx : isX = true → t ≤ W ∧ most = H) (hy : isX = false → t ≤ H ∧ most = W) (h : TO b c t most isX X) : okQ X ∧ 0 < X.2.2 ∧ 0 ≤ X.1 ∧ X.1 ≤ W * X.2.2 ∧ 0 ≤ X.2.1 ∧ X.2.1 ≤ H * X.2.2 := by
  obtain ⟨b0, n0, n1, rfl⟩ := h
  have d1 : 0 < ab b ∧ ab b ≤ 2000 := by unfold ab; split <;> omega
  obtain ⟨d, ed⟩ : ∃ d, d = ab b := ⟨_, rfl⟩
  obtain ⟨n, en⟩ : ∃ n, n = ns b c := ⟨_, rfl⟩
  have key : 0 < (onP b c t isX).2.2 ∧ (onP b c t isX).2.2 ≤ 2000 ∧ 0 ≤ (onP b c t isX).1 ∧ (onP b c t isX).1 ≤ W * (onP b c t isX).2.2 ∧ 0 ≤ (onP b c t isX).2.1 ∧ (onP b c t isX).2.1 ≤ H * (onP b c t isX).2.2 := by
    unfold onP
    rw [← ed] at d1 n1 ⊢
    rw [← en] at n0 n1 ⊢
    have td := Int.mul_nonneg t0 (show 0 ≤ d by omega)
    cases isX
    · obtain ⟨x1, x2⟩ := hy rfl
      have := Int.mul_le_mul_of_nonneg_right x1 (show 0 ≤ d by omega)
      rw [x2] at n1
      simp; omega
    · obtain ⟨x1, x2⟩ := hx rfl
      have := Int.mul_le_mul_of_nonneg_right x1 (show 0 ≤ d by omega)
      rw [x2] at n1
      simp; omega
  obtain ⟨k1, k2, k3, k4, k5, k6⟩ := key
  have w1 := Int.mul_le_mul_of_nonneg_right W1 (show 0 ≤ (onP b c t isX).2.2 by omega)
  have w2 := Int.mul_le_mul_of_nonneg_right H1 (show 0 ≤ (onP b c t isX).2.2 by omega)
  exact ⟨⟨k1, by omega, k3, by omega, k5, by omega⟩, k1, k3, k4, k5, k6⟩
theorem KS.ok {σC σM : St} (h : Rw σC σM) {X : Pt} (hX : KS σC X) : okQ X ∧ mapP σC X := by
  have wd := h.1.1
  have hg := h.1.2.1
  rcases hX with (⟨k, k4, rfl⟩ | ⟨a, b, a1, b1, -, pa, pb, ts⟩) | ⟨u, v, w, acc, hm, e⟩
  · unfold okQ mapP cnr
    dsimp only
    split <;> split <;> omega
  · obtain ⟨-, -, v1, v2⟩ := h.rng (show a < 24 by omega)
    obtain ⟨-, -, w1, w2⟩ := h.rng b1
    have r1 : -2000 ≤ bA σC a b ∧ bA σC a b ≤ 2000 := by unfold bA; omega
    have r2 : -2000 ≤ bB σC a b ∧ bB σC a b ≤ 2000 := by unfold bB; omega
    rcases ts with (z | z) | (z | z)
    · exact TO.ok (W := σC 1 0) (H := σC 1 1) r2.1 r2.2 (by omega) (by omega) (by omega) (fun _ => ⟨by omega, rfl⟩) (fun e => by cases e) z
    · exact TO.ok (W := σC 1 0) (H := σC 1 1) r1.1 r1.2 (by omega) (by omega) (by omega) (fun e => by cases e) (fun _ => ⟨by omega, rfl⟩) z
    · exact TO.ok (W := σC 1 0) (H := σC 1 1) r2.1 r2.2 (by omega) (by omega) (by omega) (fun _ => ⟨by omega, rfl⟩) (fun e => by cases e) z
    · exact TO.ok (W := σC 1 0) (H := σC 1 1) r1.1 r1.2 (by omega) (by omega) (by omega) (fun e => by cases e) (fun _ => ⟨by omega, rfl⟩) z
  · refine ⟨?_, hm⟩
    obtain ⟨c1, c2, c3, -⟩ := acc
    have dl := rD_le h (show u < 24 by omega) (show v < 24 by omega) c3
    have dl' : X.2.2 ≤ 2000000 := by rw [e]; exact dl
    obtain ⟨m0, m1, m2, m3, m4⟩ := hm
    have w1 := Int.mul_le_mul_of_nonneg_right (show σC 1 0 ≤ 1000 by omega) (show 0 ≤ X.2.2 by omega)
    have w2 := Int.mul_le_mul_of_nonneg_right (show σC 1 1 ≤ 1000 by omega) (show 0 ≤ X.2.2 by omega)
    exact ⟨m0, dl', m1, by omega, m3, by omega⟩
/-- a corner of a ground is one of the model's candidates -/
theorem cover {σC σM : St} (h : Rw σC σM) {p : Pt} {w : Nat} (hV : VX σC w p) : ∃ X, KS σC X ∧ sm X (hf p) := by
  obtain ⟨hm, hn⟩ := hV.near
  obtain ⟨hw, pw, hd, -, l1, l2, k1, k2, f1, f2, hp⟩ := hV
  have one : ∀ l v, l < 4 → v < 24 → v ≠ w → pC σC v = true → fl (sdL σC l) p = 0 → fl (bl σC false v w) p = 0 → par (sdL σC l) (bl σC false v w) ≠ 0 → ∃ X, KS σC X ∧ sm X (hf p) := fun l v hl hv ne pv g1 g2 hq => by
    obtain ⟨q1, q2⟩ := pair_line g2
    have nA : l = 0 ∨ l = 2 → σC 3 v - σC 3 w ≠ 0 := fun y e => hq (by
      unfold par sdL bl
      dsimp only
      rw [e]
      rcases y with y | y <;> subst y <;> simp)
    have nB : l = 1 ∨ l = 3 → σC 4 v - σC 4 w ≠ 0 := fun y e => hq (by
      unfold par sdL bl
      dsimp only
      rw [e]
      rcases y with y | y <;> subst y <;> simp)
    by_cases c : v < w
    · obtain ⟨X, x1, x2⟩ := side_line hd hl g1 hm q1 (fun y => by have := nA y; unfold bA; omega) (fun y => by have := nB y; unfold bB; omega)
      exact ⟨X, Or.inl (Or.inr ⟨v, w, c, hw, Or.inl hv, pv, pw, x1⟩), x2⟩
    · obtain ⟨X, x1, x2⟩ := side_line hd hl g1 hm q2 (fun y => by have := nA y; unfold bA; omega) (fun y => by have := nB y; unfold bB; omega)
      exact ⟨X, Or.inl (Or.inr ⟨w, v, by omega, hv, Or.inl hw, pw, pv, x1⟩), x2⟩
  have cs : ∀ l, l < 4 → cu σC w l = sdL σC l := fun l hl => by unfold cu; rw [if_pos hl]
  have cb : ∀ v, cu σC w (4 + v) = bl σC false v w := fun v => by unfold cu; rw [if_neg (by omega), show 4 + v - 4 = v by omega]
  rcases k1 with z1 | ⟨v, -, v2, v3, v4, rfl⟩
  · rcases k2 with z2 | ⟨u, -, u2, u3, u4, rfl⟩
    · rw [cs _ z1] at f1 hp
      rw [cs _ z2] at f2 hp
      obtain ⟨k, y1, y2⟩ := two_sides z1 z2 f1 f2 hp
      exact ⟨_, Or.inl (Or.inl ⟨k, y1, rfl⟩), y2⟩
    · rw [cs _ z1] at f1 hp
      rw [cb] at f2 hp
      exact one _ _ z1 u2 u3 u4 f1 f2 hp
  · rcases k2 with z2 | ⟨u, -, u2, u3, u4, rfl⟩
    · rw [cb] at f1 hp
      rw [cs _ z2] at f2 hp
      refine one _ _ z2 v2 v3 v4 f2 f1 (fun e => hp ?_)
      unfold par at e ⊢
      rw [Int.mul_comm (bl σC false v w).1, Int.mul_comm (sdL σC l2).1]
      have g : ∀ a b c d : Int, a * b - c * d = 0 → d * c - b * a = 0 := fun a b c d e => by grind
      rw [Int.mul_comm (sdL σC l2).2.1, Int.mul_comm (bl σC false v w).2.1]
      grind
    · rw [cb] at f1 f2
      rw [cb, cb] at hp
      have b1 := bis_eq σC p v w
      have b2 := bis_eq σC p u w
      rw [f1, Int.mul_zero] at b1
      rw [f2, Int.mul_zero] at b2
      have vu : v ≠ u := fun e => hp (by rw [e]; unfold par; exact Int.sub_self _)
      obtain ⟨a, b, c, r1, r2⟩ := ring_of h hd hm hn v2 u2 v4 u4 v3 u3 vu (by omega) (by omega)
      exact ⟨_, Or.inr ⟨a, b, c, r1⟩, r2⟩
