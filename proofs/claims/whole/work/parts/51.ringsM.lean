/-! ===== the pure side 31: rings, the model ===== -/
def wdet (ax ay bx by_ cx cy : Int) : Int := ((ax * ax + ay * ay) * (bx * cy - by_ * cx) - (bx * bx + by_ * by_) * (ax * cy - ay * cx)) + (cx * cx + cy * cy) * (ax * by_ - ay * bx)
theorem wdet_id (ux uy vx vy wx wy zx zy : Int) : wdet (ux - zx) (uy - zy) (vx - zx) (vy - zy) (wx - zx) (wy - zy) = - (((ux - zx) * (ux - zx) + (uy - zy) * (uy - zy)) * ((vx - ux) * (wy - uy) - (vy - uy) * (wx - ux)) - ((zx - ux) * ((wy - uy) * ((ux - vx) * (ux - vx) + (uy - vy) * (uy - vy)) - (vy - uy) * ((ux - wx) * (ux - wx) + (uy - wy) * (uy - wy))) + (zy - uy) * ((vx - ux) * ((ux - wx) * (ux - wx) + (uy - wy) * (uy - wy)) - (wx - ux) * ((ux - vx) * (ux - vx) + (uy - vy) * (uy - vy))))) := by
  unfold wdet
  grind
/-- the model's measure of how far within -/
def wI (σ : St) (u v w z : Nat) : Int := if trn σ u v w < 0 then - wdet (σ 3 u - σ 3 z) (σ 4 u - σ 4 z) (σ 3 v - σ 3 z) (σ 4 v - σ 4 z) (σ 3 w - σ 3 z) (σ 4 w - σ 4 z) else wdet (σ 3 u - σ 3 z) (σ 4 u - σ 4 z) (σ 3 v - σ 3 z) (σ 4 v - σ 4 z) (σ 3 w - σ 3 z) (σ 4 w - σ 4 z)
theorem wI_rO (σ : St) (u v w z : Nat) : 2 * wI σ u v w z = - rO σ u v w z := by
  have id := wdet_id (σ 3 u) (σ 4 u) (σ 3 v) (σ 4 v) (σ 3 w) (σ 4 w) (σ 3 z) (σ 4 z)
  have et : (σ 3 v - σ 3 u) * (σ 4 w - σ 4 u) - (σ 4 v - σ 4 u) * (σ 3 w - σ 3 u) = trn σ u v w := rfl
  have e1 : (σ 3 u - σ 3 z) * (σ 3 u - σ 3 z) + (σ 4 u - σ 4 z) * (σ 4 u - σ 4 z) = sqd σ u z := rfl
  have e2 : (σ 3 u - σ 3 v) * (σ 3 u - σ 3 v) + (σ 4 u - σ 4 v) * (σ 4 u - σ 4 v) = sqd σ u v := rfl
  have e3 : (σ 3 u - σ 3 w) * (σ 3 u - σ 3 w) + (σ 4 u - σ 4 w) * (σ 4 u - σ 4 w) = sqd σ u w := rfl
  rw [et, e1, e2, e3] at id
  unfold wI rO rA rU rD rS
  generalize wdet (σ 3 u - σ 3 z) (σ 4 u - σ 4 z) (σ 3 v - σ 3 z) (σ 4 v - σ 4 z) (σ 3 w - σ 3 z) (σ 4 w - σ 4 z) = D at *
  generalize trn σ u v w = T at *
  generalize sqd σ u z = A at *
  generalize sqd σ u v = B at *
  generalize sqd σ u w = C at *
  by_cases c : T < 0
  · simp only [if_pos c, if_neg (show ¬ 0 < T by omega)]
    rw [id]
    grind
  · have e : (if 0 < T then T else - T) = T := by split <;> omega
    simp only [if_neg c, e]
    rw [id]
    grind
theorem within_spec {σC σM : St} (h : Rw σC σM) {u v w z : Nat} (hu : u < 24) (hv : v < 24) (hw : w < 24) (hz : z < 24) (pu : pC σC u = true) (pv : pC σC v = true) (pw : pC σC w = true) (pz : pC σC z = true) : f_X11_within σM (u : Int) (v : Int) (w : Int) (z : Int) = some (wI σC u v w z) := by
  obtain ⟨-, u2, u3, -⟩ := h.M hu pu
  obtain ⟨-, v2, v3, -⟩ := h.M hv pv
  obtain ⟨-, w2, w3, -⟩ := h.M hw pw
  obtain ⟨-, z2, z3, -⟩ := h.M hz pz
  obtain ⟨-, -, a1, a2⟩ := h.rng hu
  obtain ⟨-, -, b1, b2⟩ := h.rng hv
  obtain ⟨-, -, c1, c2⟩ := h.rng hw
  obtain ⟨-, -, d1, d2⟩ := h.rng hz
  have t1 := h.trr hu hv hw
  rw [f_X11_within, f_X11_within_b0, cast_n, cast_n, cast_n, cast_n, u2, u3, v2, v3, w2, w3, z2, z3, jc_ix (by omega) (by omega), jc_ix (by omega) (by omega), jc_I (by omega) (by omega), jlet_v, jc_ix (by omega) (by omega), jc_ix (by omega) (by omega), jc_I (by omega) (by omega), jlet_v, jc_ix (by omega) (by omega), jc_ix (by omega) (by omega), jc_I (by omega) (by omega), jlet_v, jc_ix (by omega) (by omega), jc_ix (by omega) (by omega), jc_I (by omega) (by omega), jlet_v, jc_ix (by omega) (by omega), jc_ix (by omega) (by omega), jc_I (by omega) (by omega), jlet_v, jc_ix (by omega) (by omega), jc_ix (by omega) (by omega), jc_I (by omega) (by omega), jlet_v, f_X11_square, f_X11_square_b0, jbind_s, f_X11_square, f_X11_square_b0, jbind_s, f_X11_square, f_X11_square_b0, jbind_s, jlet_v, cross_spec h hu hv hw pu pv pw, jbind_s, jc_LL (by omega) (by omega) (by omega) (by omega)]
  unfold wI
  by_cases c : trn σC u v w < 0
  · rw [if_pos c, if_pos c]; rfl
  · rw [if_neg c, if_neg c]; rfl
theorem roundOf_loop {σC σM : St} (h : Rw σC σM) {u v w : Nat} (hu : u < 24) (hv : v < 24) (hw : w < 24) (pu : pC σC u = true) (pv : pC σC v = true) (pw : pC σC w = true) (fuel : Nat) (hf : 24 < fuel) : ∃ e, jloop (fun (q : (Int × Int)) => match q with | (x4, x5) => f_X11_roundOf_b6 σM (u : Int) (v : Int) (w : Int) x4 x5) fuel (0, 0) = some e ∧ ((e = .inl () ∧ ∃ t, t < 24 ∧ pC σC t = true ∧ rO σC u v w t < 0) ∨ (e = .inr ((nb (rB σC u v w) 24 : Nat) : Int) ∧ ∀ t, t < 24 → pC σC t = true → 0 ≤ rO σC u v w t)) := by
  obtain ⟨o1, o2, o3⟩ := rO_self σC u v w
  refine jloop_or (I := fun n s => s = (((nb (rB σC u v w) n : Nat) : Int), (n : Int)) ∧ ∀ t, t < n → pC σC t = true → 0 ≤ rO σC u v w t) (N := 24) (J := _) ?_ ?_ 24 0 fuel _ (by omega) (by omega) ⟨rfl, fun t ht => absurd ht (Nat.not_lt_zero t)⟩
  · rintro n s hn ⟨rfl, hg⟩
    show (∃ s', f_X11_roundOf_b6 σM (u : Int) (v : Int) (w : Int) ((nb (rB σC u v w) n : Nat) : Int) (n : Int) = some (.inl s') ∧ _) ∨ ∃ e, f_X11_roundOf_b6 σM (u : Int) (v : Int) (w : Int) ((nb (rB σC u v w) n : Nat) : Int) (n : Int) = some (.inr e) ∧ _
    rw [f_X11_roundOf_b6, jc_II (by omega) (by omega) (by omega) (by omega), if_pos (by omega), h.cnM hn, jbind_s]
    cases hp : pC σC n with
    | false =>
      left
      have e : rB σC u v w n = false := by simp [rB, hp]
      rw [bI_f, jc_I (by omega) (by omega), if_pos rfl, jlet_v, cast_s, ← nb_f e]
      refine ⟨_, rfl, rfl, fun t ht pt => ?_⟩
      by_cases e : t = n
      · rw [e, hp] at pt; cases pt
      · exact hg t (by omega) pt
    | true =>
      have r := (r_rng h hu hv hw).2.2.2 n hn
      have b56 : ∀ d : Int, 2 * d = - rO σC u v w n → (∃ s', f_X11_roundOf_b56 σM (u : Int) (v : Int) (w : Int) ((nb (rB σC u v w) n : Nat) : Int) (n : Int) d = some (.inl s') ∧ s' = (((nb (rB σC u v w) (n + 1) : Nat) : Int), ((n + 1 : Nat) : Int)) ∧ ∀ t, t < n + 1 → pC σC t = true → 0 ≤ rO σC u v w t) ∨ (∃ e, f_X11_roundOf_b56 σM (u : Int) (v : Int) (w : Int) ((nb (rB σC u v w) n : Nat) : Int) (n : Int) d = some (.inr e) ∧ ((e = .inl () ∧ ∃ t, t < 24 ∧ pC σC t = true ∧ rO σC u v w t < 0) ∨ (e = .inr ((nb (rB σC u v w) 24 : Nat) : Int) ∧ ∀ t, t < 24 → pC σC t = true → 0 ≤ rO σC u v w t))) := by
        intro d hd
        rw [f_X11_roundOf_b56, jlet_v, jc_LL (by omega) (by omega) (by omega) (by omega)]
        by_cases c1 : 0 < d
        · right
          rw [if_pos c1]
          exact ⟨_, rfl, Or.inl ⟨rfl, n, hn, hp, by omega⟩⟩
        · left
          have all : ∀ t, t < n + 1 → pC σC t = true → 0 ≤ rO σC u v w t := fun t ht pt => by
            by_cases e : t = n
            · rw [e]; omega
            · exact hg t (by omega) pt
          rw [if_neg c1, jc_LL (by omega) (by omega) (by omega) (by omega)]
          by_cases c2 : d = 0
          · have z : rO σC u v w n = 0 := by omega
            have e : rB σC u v w n = true := by simp [rB, hp, z]
            rw [if_pos c2, jlet_v, jlet_v, jor_nb hn e, cast_s]
            exact ⟨_, rfl, rfl, all⟩
          · have z : rO σC u v w n ≠ 0 := by omega
            have e : rB σC u v w n = false := by simp [rB, z]
            rw [if_neg c2, jlet_v, cast_s, ← nb_f e]
            exact ⟨_, rfl, rfl, all⟩
      rw [bI_t, jc_I (by omega) (by omega), if_neg (by omega), jc_II (by omega) (by omega) (by omega) (by omega)]
      by_cases c1 : n = u
      · rw [if_pos (by omega)]; exact b56 0 (by rw [c1, o1]; rfl)
      · rw [if_neg (by omega), jc_II (by omega) (by omega) (by omega) (by omega)]
        by_cases c2 : n = v
        · rw [if_pos (by omega)]; exact b56 0 (by rw [c2, o2]; rfl)
        · rw [if_neg (by omega), jc_II (by omega) (by omega) (by omega) (by omega)]
          by_cases c3 : n = w
          · rw [if_pos (by omega)]; exact b56 0 (by rw [c3, o3]; rfl)
          · rw [if_neg (by omega), within_spec h hu hv hw hn pu pv pw hp, jbind_s]
            exact b56 _ (wI_rO σC u v w n)
  · rintro s ⟨rfl, hg⟩
    refine ⟨_, ?_, Or.inr ⟨rfl, hg⟩⟩
    show f_X11_roundOf_b6 σM (u : Int) (v : Int) (w : Int) _ ((24 : Nat) : Int) = _
    rw [f_X11_roundOf_b6, jc_II (by omega) (by omega) (by omega) (by omega), if_neg (by omega)]
theorem nb_two {u v : Nat} (uv : u < v) : ∀ m, nb (fun t => decide (t = u) || decide (t = v)) (v + 1 + m) = 2 ^ u + 2 ^ v
  | 0 => by
    have z : nb (fun t => decide (t = u) || decide (t = v)) u = 0 := nb_zero (fun k hk => by simp; omega)
    have a : ∀ m, u + 1 + m ≤ v → nb (fun t => decide (t = u) || decide (t = v)) (u + 1 + m) = 2 ^ u := by
      intro m
      induction m with
      | zero => intro _; rw [Nat.add_zero, nb_t (by simp), z, Nat.zero_add]
      | succ m ih => intro hm; rw [show u + 1 + (m + 1) = (u + 1 + m) + 1 by omega, nb_f (by simp; omega), ih (by omega)]
    have b := a (v - (u + 1)) (by omega)
    rw [show u + 1 + (v - (u + 1)) = v by omega] at b
    rw [Nat.add_zero, nb_t (by simp), b]
  | m + 1 => by
    rw [show v + 1 + (m + 1) = (v + 1 + m) + 1 by omega, nb_f (by simp; omega), nb_two uv m]
theorem bits_iff {σ : St} {u v w : Nat} (uv : u < v) (vw : v < w) (hw : w < 24) (pu : pC σ u = true) (pv : pC σ v = true) : jand ((nb (rB σ u v w) 24 : Nat) : Int) (jshl 1 (w : Int) - 1) = jor (jshl 1 (u : Int)) (jshl 1 (v : Int)) ↔ ∀ t, t < w → pC σ t = true → rO σ u v w t = 0 → t = u ∨ t = v := by
  have l24 := nb_24 (S := rB σ u v w) (w := 24) (by omega)
  have lw := pw_lt hw
  have lu := pw_lt (show u < 24 by omega)
  have lv := pw_lt (show v < 24 by omega)
  have pos : 0 < 2 ^ w := Nat.two_pow_pos w
  have e1 : jshl 1 (w : Int) - 1 = ((2 ^ w - 1 : Nat) : Int) := by rw [jshl_n w hw]; omega
  obtain ⟨o1, o2, -⟩ := rO_self σ u v w
  have e2 : nb (rB σ u v w) 24 % 2 ^ w = nb (rB σ u v w) w := by
    have := nb_mod (rB σ u v w) w (24 - w)
    rw [show w + (24 - w) = 24 by omega] at this
    exact this
  have e3 : 2 ^ u ||| 2 ^ v = 2 ^ u + 2 ^ v := by
    have l : 2 ^ u < 2 ^ v := Nat.pow_lt_pow_right (by omega) uv
    have := Nat.two_pow_add_eq_or_of_lt l 1
    rw [Nat.mul_one] at this
    rw [Nat.or_comm, ← this, Nat.add_comm]
  have e4 : nb (fun t => decide (t = u) || decide (t = v)) w = 2 ^ u + 2 ^ v := by
    have := nb_two uv (w - (v + 1))
    rw [show v + 1 + (w - (v + 1)) = w by omega] at this
    exact this
  rw [e1, jand_n l24 (by omega), Nat.and_two_pow_sub_one_eq_mod, e2, jshl_n u (by omega), jshl_n v (by omega), jor_n lu lv, e3, ← e4]
  constructor
  · intro z t ht pt ot
    have := nb_inj (by omega : nb (rB σ u v w) w = nb (fun t => decide (t = u) || decide (t = v)) w) t ht
    have b : rB σ u v w t = true := by simp [rB, pt, ot]
    rw [b] at this
    simp at this
    exact this
  · intro z
    have : nb (rB σ u v w) w = nb (fun t => decide (t = u) || decide (t = v)) w := nb_cong (fun t ht => bool_iff (by
      simp only [rB, Bool.and_eq_true, Bool.or_eq_true, decide_eq_true_eq]
      constructor
      · intro y; exact z t ht y.1 y.2
      · rintro (y | y)
        · rw [y]; exact ⟨pu, o1⟩
        · rw [y]; exact ⟨pv, o2⟩))
    rw [this]
/-- the model's rows of rings -/
def RMd (σ τ : St) (M : Nat) (U V W : Nat → Nat) : Prop := τ 0 29 = (M : Int) ∧ ∀ i, i < M → τ 21 i = ((nb (rB σ (U i) (V i) (W i)) 24 : Nat) : Int) ∧ τ 22 i = (U i : Int) ∧ τ 23 i = (V i : Int) ∧ τ 24 i = (W i : Int)
def SM (σC σM : St) (B : Nat) (τ : St) : Prop := (∀ k, k ≠ 0 → k < 21 ∨ 24 < k → τ k = σM k) ∧ (∀ j, j ≠ 29 → τ 0 j = σM 0 j) ∧ ∃ M U V W, RMd σC τ M U V W ∧ TL σC B M U V W
theorem SM.skip {σC σM τ : St} {B B' : Nat} (h : SM σC σM B τ) (hB : B ≤ B') (no : ∀ u v w, Acc σC u v w → B ≤ cdn u v w → B' ≤ cdn u v w) : SM σC σM B' τ := by
  obtain ⟨h1, h2, M, U, V, W, h3, h4⟩ := h
  exact ⟨h1, h2, M, U, V, W, h3, h4.skip hB no⟩
theorem SM.no {σC σM τ : St} {u v w : Nat} (h : SM σC σM (cdn u v w) τ) (hv : v < 24) (hw : w < 24) (hn : ¬ Acc σC u v w) : SM σC σM (cdn u v (w + 1)) τ := by
  obtain ⟨h1, h2, M, U, V, W, h3, h4⟩ := h
  rw [cdn_s]
  exact ⟨h1, h2, M, U, V, W, h3, h4.no hv hw hn⟩
theorem SM.R {σC σM τ : St} {B : Nat} (h : Rw σC σM) (hS : SM σC σM B τ) : Rw σC τ := h.cM (fun k h1 h2 => hS.1 k (by omega) (by omega)) (hS.2.1 0 (by decide)) (hS.2.1 1 (by decide)) (hS.2.1 2 (by decide))
theorem ringsM_step {σC σM τ : St} (h : Rw σC σM) {u v w : Nat} (uv : u < v) (vw : v < w) (hw : w < 24) (hS : SM σC σM (cdn u v w) τ) : ∃ υ, f_X11_ringsOf_b27 τ (u : Int) (v : Int) (w : Int) = some (.inl (υ, ((w + 1 : Nat) : Int))) ∧ SM σC σM (cdn u v (w + 1)) υ := by
  have hR := hS.R h
  have hu : u < 24 := by omega
  have hv : v < 24 := by omega
  rw [f_X11_ringsOf_b27, jc_II (by omega) (by omega) (by omega) (by omega), if_pos (by omega), hR.cnM hu, jbind_s]
  cases pu : pC σC u with
  | false =>
    rw [bI_f, jc_I (by omega) (by omega), if_pos rfl, jlet_v, cast_s]
    exact ⟨τ, rfl, hS.no hv hw (fun z => by have := z.2.2.2.1; rw [pu] at this; cases this)⟩
  | true =>
    rw [bI_t, jc_I (by omega) (by omega), if_neg (by omega), hR.cnM hv, jbind_s]
    cases pv : pC σC v with
    | false =>
      rw [bI_f, jc_I (by omega) (by omega), if_pos rfl, jlet_v, cast_s]
      exact ⟨τ, rfl, hS.no hv hw (fun z => by have := z.2.2.2.2.1; rw [pv] at this; cases this)⟩
    | true =>
      rw [bI_t, jc_I (by omega) (by omega), if_neg (by omega), hR.cnM hw, jbind_s]
      cases pw : pC σC w with
      | false =>
        rw [bI_f, jc_I (by omega) (by omega), if_pos rfl, jlet_v, cast_s]
        exact ⟨τ, rfl, hS.no hv hw (fun z => by have := z.2.2.2.2.2.1; rw [pw] at this; cases this)⟩
      | true =>
        have t1 := h.trr hu hv hw
        rw [bI_t, jc_I (by omega) (by omega), if_neg (by omega), cross_spec hR hu hv hw pu pv pw, jbind_s, jc_LL (by omega) (by omega) (by omega) (by omega)]
        by_cases c : trn σC u v w = 0
        · rw [if_pos c, jlet_v, cast_s]
          exact ⟨τ, rfl, hS.no hv hw (fun z => z.2.2.2.2.2.2.1 c)⟩
        · rw [if_neg c, f_X11_roundOf, f_X11_roundOf_b0, jlet_v, jlet_v]
          obtain ⟨e, e0, e1⟩ := roundOf_loop hR hu hv hw pu pv pw 1000 (by omega)
          rw [e0, jbind_s]
          rcases e1 with ⟨rfl, t, ht, pt, e1⟩ | ⟨rfl, e1⟩
          · dsimp only
            rw [jbind_s, jlet_v, jc_I (by omega) (by omega), if_pos rfl, jlet_v, cast_s]
            exact ⟨τ, rfl, hS.no hv hw (fun z => by have := z.2.2.2.2.2.2.2.1 t ht pt; omega)⟩
          · have bp : nb (rB σC u v w) 24 ≠ 0 := nb_pos (k := u) hu (by
              have := (rO_self σC u v w).1
              simp [rB, pu, this])
            have bl := nb_24 (S := rB σC u v w) (w := 24) (by omega)
            have bi := bits_iff uv vw hw pu pv
            have r1 := jand_rng ((nb (rB σC u v w) 24 : Nat) : Int) (jshl 1 (w : Int) - 1)
            have r2 := jor_rng (jshl 1 (u : Int)) (jshl 1 (v : Int))
            dsimp only
            rw [jbind_s, jlet_v, jc_I (by omega) (by omega), if_neg (by omega), jchk_t ⟨r1, r2⟩]
            by_cases d : jand ((nb (rB σC u v w) 24 : Nat) : Int) (jshl 1 (w : Int) - 1) = jor (jshl 1 (u : Int)) (jshl 1 (v : Int))
            · have hA : Acc σC u v w := ⟨uv, vw, hw, pu, pv, pw, c, e1, bi.mp d⟩
              obtain ⟨h1, h2, M, U, V, W, ⟨h3, h4⟩, h5⟩ := hS
              have hb := h5.bound h
              obtain ⟨U', n1, n2⟩ : ∃ U' : Nat → Nat, U' M = u ∧ ∀ j, j < M → U' j = U j := ⟨fun j => if j = M then u else U j, by simp, fun j hj => by
                show (if j = M then u else U j) = U j
                rw [if_neg (by omega)]⟩
              obtain ⟨V', n3, n4⟩ : ∃ V' : Nat → Nat, V' M = v ∧ ∀ j, j < M → V' j = V j := ⟨fun j => if j = M then v else V j, by simp, fun j hj => by
                show (if j = M then v else V j) = V j
                rw [if_neg (by omega)]⟩
              obtain ⟨W', n5, n6⟩ : ∃ W' : Nat → Nat, W' M = w ∧ ∀ j, j < M → W' j = W j := ⟨fun j => if j = M then w else W j, by simp, fun j hj => by
                show (if j = M then w else W j) = W j
                rw [if_neg (by omega)]⟩
              have hT := h5.add hA n1 n3 n5 n2 n4 n6
              rw [if_pos d, h3, jc_ix (by omega) (by omega), jlet_v, cast_n, up2_k (k' := 0) (by decide), h3, jc_ix (by omega) (by omega), jlet_v, cast_n, up2_k (k' := 0) (by decide), up2_k (k' := 0) (by decide), h3, jc_ix (by omega) (by omega), jlet_v, cast_n, up2_k (k' := 0) (by decide), up2_k (k' := 0) (by decide), up2_k (k' := 0) (by decide), h3, jc_ix (by omega) (by omega), jlet_v, cast_n, up2_k (k' := 0) (by decide), up2_k (k' := 0) (by decide), up2_k (k' := 0) (by decide), up2_k (k' := 0) (by decide), h3, jlet_v, jlet_v, cast_s]
              refine ⟨_, rfl, fun k k0 hk => ?_, fun j hj => ?_, M + 1, U', V', W', ⟨?_, fun i hi => ?_⟩, by rw [cdn_s]; exact hT⟩
              · rw [up2_k k0, up2_k (by omega), up2_k (by omega), up2_k (by omega), up2_k (by omega), h1 k k0 hk]
              · rw [up2_j hj, up2_k (k' := 0) (by decide), up2_k (k' := 0) (by decide), up2_k (k' := 0) (by decide), up2_k (k' := 0) (by decide), h2 j hj]
              · rw [up2_same]
              · by_cases e : i = M
                · rw [e, n1, n3, n5]
                  refine ⟨?_, ?_, ?_, ?_⟩
                  · rw [up2_k (k' := 21) (by decide), up2_k (k' := 21) (by decide), up2_k (k' := 21) (by decide), up2_k (k' := 21) (by decide), up2_same]
                  · rw [up2_k (k' := 22) (by decide), up2_k (k' := 22) (by decide), up2_k (k' := 22) (by decide), up2_same]
                  · rw [up2_k (k' := 23) (by decide), up2_k (k' := 23) (by decide), up2_same]
                  · rw [up2_k (k' := 24) (by decide), up2_same]
                · have ge : ∀ k, k ≠ 0 → up2 (up2 (up2 (up2 (up2 τ 21 M ((nb (rB σC u v w) 24 : Nat) : Int)) 22 M (u : Int)) 23 M (v : Int)) 24 M (w : Int)) 0 29 ((M + 1 : Nat) : Int) k i = τ k i := fun k hk => by rw [up2_k hk, up2_a e, up2_a e, up2_a e, up2_a e]
                  rw [n2 i (by omega), n4 i (by omega), n6 i (by omega), ge 21 (by decide), ge 22 (by decide), ge 23 (by decide), ge 24 (by decide)]
                  exact h4 i (by omega)
            · rw [if_neg d, jlet_v, cast_s]
              exact ⟨τ, rfl, hS.no hv hw (fun z => d (bi.mpr z.2.2.2.2.2.2.2.2))⟩
theorem ringsM_in {σC σM : St} (h : Rw σC σM) {u v : Nat} (uv : u < v) (hv : v < 24) {τ : St} (hS : SM σC σM (cdn u v (v + 1)) τ) (fuel : Nat) (hf : 24 < fuel) : ∃ υ, jloop (fun (q : (St × Int)) => match q with | (σ, x3) => f_X11_ringsOf_b27 σ (u : Int) (v : Int) x3) fuel (τ, ((v + 1 : Nat) : Int)) = some υ ∧ SM σC σM (cdn u v 24) υ := by
  refine jloop_ex (I := fun w s => s.2 = (w : Int) ∧ v < w ∧ SM σC σM (cdn u v w) s.1) (N := 24) (J := _) ?_ ?_ (24 - (v + 1)) (v + 1) fuel _ (by omega) (by omega) ⟨rfl, by omega, hS⟩
  · rintro w ⟨μ, _⟩ hw ⟨rfl, vw, i1⟩
    obtain ⟨υ, l1, l2⟩ := ringsM_step h uv vw hw i1
    exact ⟨_, l1, rfl, by omega, l2⟩
  · rintro ⟨μ, _⟩ ⟨rfl, vw, i1⟩
    refine ⟨μ, ?_, i1⟩
    show f_X11_ringsOf_b27 μ (u : Int) (v : Int) ((24 : Nat) : Int) = _
    rw [f_X11_ringsOf_b27, jc_II (by omega) (by omega) (by omega) (by omega), if_neg (by omega)]
theorem ringsM_mid {σC σM : St} (h : Rw σC σM) {u : Nat} (hu : u < 24) {τ : St} (hS : SM σC σM (cdn u (u + 1) 0) τ) (fuel : Nat) (hf : 24 < fuel) : ∃ υ, jloop (fun (q : (St × Int)) => match q with | (σ, x2) => f_X11_ringsOf_b17 σ (u : Int) x2) fuel (τ, ((u + 1 : Nat) : Int)) = some υ ∧ SM σC σM (cdn u 24 0) υ := by
  refine jloop_ex (I := fun v s => s.2 = (v : Int) ∧ u < v ∧ SM σC σM (cdn u v 0) s.1) (N := 24) (J := _) ?_ ?_ (24 - (u + 1)) (u + 1) fuel _ (by omega) (by omega) ⟨rfl, by omega, hS⟩
  · rintro v ⟨μ, _⟩ hv ⟨rfl, uv, i1⟩
    obtain ⟨υ, l1, l2⟩ := ringsM_in h uv hv (i1.skip (by unfold cdn; omega) (fun u' v' w' hA hc => skip_w u v u' v' w' hA hc hv)) 1000 (by omega)
    refine ⟨(υ, ((v + 1 : Nat) : Int)), ?_, rfl, by omega, ?_⟩
    · show f_X11_ringsOf_b17 μ (u : Int) (v : Int) = _
      rw [f_X11_ringsOf_b17, jc_II (by omega) (by omega) (by omega) (by omega), if_pos (by omega), jlet_v, cast_s, l1, jbind_s, jlet_v]
    · have e : cdn u v 24 = cdn u (v + 1) 0 := by unfold cdn; omega
      dsimp only
      rw [← e]; exact l2
  · rintro ⟨μ, _⟩ ⟨rfl, uv, i1⟩
    refine ⟨μ, ?_, i1⟩
    show f_X11_ringsOf_b17 μ (u : Int) ((24 : Nat) : Int) = _
    rw [f_X11_ringsOf_b17, jc_II (by omega) (by omega) (by omega) (by omega), if_neg (by omega)]
theorem ringsM_spec {σC σM : St} (h : Rw σC σM) : ∃ υ, f_X11_ringsOf σM = some υ ∧ SM σC σM (cdn 24 0 0) υ := by
  have key : ∀ fuel, 24 < fuel → ∃ υ, jloop (fun (q : (St × Int)) => match q with | (σ, x1) => f_X11_ringsOf_b7 σ x1) fuel (up2 σM 0 29 0, 0) = some υ ∧ SM σC σM (cdn 24 0 0) υ := by
    intro fuel hf
    refine jloop_ex (I := fun u s => s.2 = (u : Int) ∧ SM σC σM (cdn u 0 0) s.1) (N := 24) (J := _) ?_ ?_ 24 0 fuel _ (by omega) (by omega) ⟨rfl, ?_⟩
    · rintro u ⟨μ, _⟩ hu ⟨rfl, i1⟩
      dsimp only at i1
      obtain ⟨υ, l1, l2⟩ := ringsM_mid h hu (i1.skip (B' := cdn u (u + 1) 0) (by unfold cdn; omega) (fun u' v' w' hA hc => by
        have a1 := hA.1
        have a2 := hA.2.1
        have a3 := hA.2.2.1
        have q := cdn_u hc (by omega) (by omega)
        by_cases c : u + 1 < 24
        · exact cdn_le (by omega) c (by omega)
        · exfalso; omega)) 1000 (by omega)
      refine ⟨(υ, ((u + 1 : Nat) : Int)), ?_, rfl, ?_⟩
      · show f_X11_ringsOf_b7 μ (u : Int) = _
        rw [f_X11_ringsOf_b7, jc_II (by omega) (by omega) (by omega) (by omega), if_pos (by omega), jlet_v, cast_s, l1, jbind_s, jlet_v]
      · have e : cdn u 24 0 = cdn (u + 1) 0 0 := by unfold cdn; omega
        dsimp only
        rw [← e]; exact l2
    · rintro ⟨μ, _⟩ ⟨rfl, i1⟩
      refine ⟨μ, ?_, i1⟩
      show f_X11_ringsOf_b7 μ ((24 : Nat) : Int) = _
      rw [f_X11_ringsOf_b7, jc_II (by omega) (by omega) (by omega) (by omega), if_neg (by omega)]
    · have e : cdn 0 0 0 = 0 := by decide
      rw [e]
      exact ⟨fun k k0 _ => by show up2 σM 0 29 0 k = _; rw [up2_k k0], fun j hj => by show up2 σM 0 29 0 0 j = _; rw [up2_j hj], 0, fun _ => 0, fun _ => 0, fun _ => 0, ⟨by show up2 σM 0 29 0 0 29 = _; rw [up2_same]; rfl, fun i hi => absurd hi (Nat.not_lt_zero i)⟩, fun i hi => absurd hi (Nat.not_lt_zero i), fun i j hij hj => absurd hj (Nat.not_lt_zero j), fun u v w _ hc => absurd hc (Nat.not_lt_zero _)⟩
  obtain ⟨υ, e0, e1⟩ := key 1000 (by omega)
  refine ⟨υ, ?_, e1⟩
  rw [f_X11_ringsOf, f_X11_ringsOf_b0, jlet_v, jlet_v, e0, jbind_s]
