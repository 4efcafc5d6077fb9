/-! ===== the pure side 29: rings, the component ===== -/
theorem pigeonN {N : Nat} {f : Nat → Int} (h : ∀ i, i < N + 1 → ∃ v : Nat, v < N ∧ f i = (v : Int)) (hd : ∀ i j, i < j → j < N + 1 → f i ≠ f j) : False := by
  have key : ∀ k, k ≤ N + 1 → ct (seen f k) N = k := by
    intro k
    induction k with
    | zero => intro _; exact ct_zero.mpr (fun _ _ => rfl)
    | succ k ih =>
      intro hk
      obtain ⟨v, hv, e⟩ := h k (by omega)
      have n0 : seen f k v = false := by
        cases c : seen f k v with
        | false => rfl
        | true =>
          obtain ⟨i, hi, e2⟩ := seen_iff.mp c
          exact absurd (by rw [e2, e]) (hd i k hi (by omega))
      rw [ct_add2 (p := seen f k) (m := v) n0 (by simp [seen, e]) N (fun w hw hne => by
        have : f k ≠ (w : Int) := by rw [e]; omega
        simp [seen, this]) hv, ih (by omega)]
  have := key (N + 1) (by omega)
  have := ct_le (seen f (N + 1)) N
  omega
def cdn (u v w : Nat) : Nat := u * 576 + v * 24 + w
def cd (u v w : Nat) : Int := ((cdn u v w : Nat) : Int)
/-- the rings among the threes below B, in order -/
def TL (σ : St) (B M : Nat) (U V W : Nat → Nat) : Prop := (∀ i, i < M → Acc σ (U i) (V i) (W i) ∧ cdn (U i) (V i) (W i) < B) ∧ asc (fun i => cd (U i) (V i) (W i)) M ∧ ∀ u v w, Acc σ u v w → cdn u v w < B → ∃ i, i < M ∧ U i = u ∧ V i = v ∧ W i = w
theorem TL.skip {σ : St} {B B' M : Nat} {U V W : Nat → Nat} (h : TL σ B M U V W) (hB : B ≤ B') (no : ∀ u v w, Acc σ u v w → B ≤ cdn u v w → B' ≤ cdn u v w) : TL σ B' M U V W := by
  refine ⟨fun i hi => ⟨(h.1 i hi).1, by have := (h.1 i hi).2; omega⟩, h.2.1, fun u v w hA hc => h.2.2 u v w hA ?_⟩
  by_cases c : cdn u v w < B
  · exact c
  · have := no u v w hA (by omega)
    omega
theorem code_inj {u v w u' v' w' : Nat} (h1 : v < 24) (h2 : w < 24) (h3 : v' < 24) (h4 : w' < 24) (h : cdn u v w = cdn u' v' w') : u = u' ∧ v = v' ∧ w = w' := by
  unfold cdn at h
  omega
theorem TL.no {σ : St} {u v w M : Nat} {U V W : Nat → Nat} (h : TL σ (cdn u v w) M U V W) (hv : v < 24) (hw : w < 24) (hn : ¬ Acc σ u v w) : TL σ (cdn u v w + 1) M U V W := by
  refine h.skip (by omega) (fun u' v' w' hA hc => ?_)
  by_cases c : cdn u' v' w' = cdn u v w
  · have := hA.2.1
    have := hA.2.2.1
    obtain ⟨e1, e2, e3⟩ := code_inj (by omega) (by omega) hv hw c
    rw [e1, e2, e3] at hA
    exact absurd hA hn
  · omega
theorem TL.add {σ : St} {u v w M : Nat} {U V W U' V' W' : Nat → Nat} (h : TL σ (cdn u v w) M U V W) (hA : Acc σ u v w) (e1 : U' M = u) (e2 : V' M = v) (e3 : W' M = w) (f1 : ∀ i, i < M → U' i = U i) (f2 : ∀ i, i < M → V' i = V i) (f3 : ∀ i, i < M → W' i = W i) : TL σ (cdn u v w + 1) (M + 1) U' V' W' := by
  refine ⟨fun i hi => ?_, fun i j hij hj => ?_, fun u' v' w' hB hc => ?_⟩
  · by_cases c : i = M
    · rw [c, e1, e2, e3]; exact ⟨hA, by omega⟩
    · rw [f1 i (by omega), f2 i (by omega), f3 i (by omega)]
      exact ⟨(h.1 i (by omega)).1, by have := (h.1 i (by omega)).2; omega⟩
  · dsimp only
    by_cases c : j = M
    · rw [c, e1, e2, e3, f1 i (by omega), f2 i (by omega), f3 i (by omega)]
      have := (h.1 i (by omega)).2
      unfold cd
      omega
    · rw [f1 i (by omega), f2 i (by omega), f3 i (by omega), f1 j (by omega), f2 j (by omega), f3 j (by omega)]
      exact h.2.1 i j hij (by omega)
  · by_cases c : cdn u' v' w' = cdn u v w
    · have := hA.2.1
      have := hA.2.2.1
      have := hB.2.1
      have := hB.2.2.1
      obtain ⟨q1, q2, q3⟩ := code_inj (by omega) (by omega) (by omega) (by omega) c
      exact ⟨M, by omega, by rw [e1, q1], by rw [e2, q2], by rw [e3, q3]⟩
    · obtain ⟨i, hi, q1, q2, q3⟩ := h.2.2 u' v' w' hB (by omega)
      exact ⟨i, by omega, by rw [f1 i hi]; exact q1, by rw [f2 i hi]; exact q2, by rw [f3 i hi]; exact q3⟩
theorem TL.bound {σC σM : St} (h : Rw σC σM) {B M : Nat} {U V W : Nat → Nat} (hT : TL σC B M U V W) : M ≤ 48 := by
  by_cases c : M ≤ 48
  · exact c
  · exfalso
    have hA : ∀ i, i < 49 → Acc σC (U i) (V i) (W i) := fun i hi => (hT.1 i (by omega)).1
    refine pigeonN (N := 48) (f := fun i => if hi : i < 49 then ((Classical.choose (MC.ex h (hA i hi)) : Nat) : Int) else 0) (fun i hi => ?_) (fun i j hij hj e => ?_)
    · have := Classical.choose_spec (MC.ex h (hA i hi))
      refine ⟨Classical.choose (MC.ex h (hA i hi)), this.1, ?_⟩
      rw [dif_pos hi]
    · have s1 := Classical.choose_spec (MC.ex h (hA i (by omega)))
      have s2 := Classical.choose_spec (MC.ex h (hA j hj))
      rw [dif_pos (show i < 49 by omega), dif_pos hj] at e
      have e' : Classical.choose (MC.ex h (hA i (by omega))) = Classical.choose (MC.ex h (hA j hj)) := by omega
      rw [e'] at s1
      obtain ⟨q1, q2, q3⟩ := MC.inj (hA i (by omega)) (hA j hj) s1.2 s2.2
      have : cd (U i) (V i) (W i) < cd (U j) (V j) (W j) := hT.2.1 i j hij (by omega)
      rw [q1, q2, q3] at this
      omega
theorem TL.one {σ : St} {B M M' : Nat} {U V W U' V' W' : Nat → Nat} (h : TL σ B M U V W) (h' : TL σ B M' U' V' W') : M = M' ∧ ∀ i, i < M → U i = U' i ∧ V i = V' i ∧ W i = W' i := by
  obtain ⟨e1, e2⟩ := asc_one h.2.1 h'.2.1 (fun x => by
    constructor
    · rintro ⟨i, hi, e⟩
      obtain ⟨a, b⟩ := h.1 i hi
      obtain ⟨j, hj, q1, q2, q3⟩ := h'.2.2 _ _ _ a b
      exact ⟨j, hj, by rw [q1, q2, q3]; exact e⟩
    · rintro ⟨i, hi, e⟩
      obtain ⟨a, b⟩ := h'.1 i hi
      obtain ⟨j, hj, q1, q2, q3⟩ := h.2.2 _ _ _ a b
      exact ⟨j, hj, by rw [q1, q2, q3]; exact e⟩)
  refine ⟨e1, fun i hi => ?_⟩
  have a := (h.1 i hi).1
  have b := (h'.1 i (by omega)).1
  have := e2 i hi
  unfold cd at this
  have a1 := a.2.1
  have a2 := a.2.2.1
  have b1 := b.2.1
  have b2 := b.2.2.1
  exact code_inj (by omega) (by omega) (by omega) (by omega) (by omega)
theorem r_rng {σC σM : St} (h : Rw σC σM) {u v w : Nat} (hu : u < 24) (hv : v < 24) (hw : w < 24) : (0 ≤ rD σC u v w ∧ rD σC u v w ≤ 4000000) ∧ (-4000000000 ≤ rA σC u v w ∧ rA σC u v w ≤ 4000000000) ∧ (-4000000000 ≤ rU σC u v w ∧ rU σC u v w ≤ 4000000000) ∧ ∀ t, t < 24 → -30000000000000 ≤ rO σC u v w t ∧ rO σC u v w t ≤ 30000000000000 := by
  have t1 := h.trr hu hv hw
  obtain ⟨-, -, u1, u2⟩ := h.rng hu
  obtain ⟨-, -, v1, v2⟩ := h.rng hv
  obtain ⟨-, -, w1, w2⟩ := h.rng hw
  have s1 := h.sq2 hu hv
  have s2 := h.sq2 hu hw
  have d : 0 ≤ rD σC u v w ∧ rD σC u v w ≤ 4000000 := by
    unfold rD
    split <;> omega
  have sv : -2000000 ≤ rS σC u v w v ∧ rS σC u v w v ≤ 2000000 := by
    unfold rS
    split <;> omega
  have sw : -2000000 ≤ rS σC u v w w ∧ rS σC u v w w ≤ 2000000 := by
    unfold rS
    split <;> omega
  have m1 := mul_bd (a := σC 4 w - σC 4 u) (b := rS σC u v w v) (A := 1000) (B := 2000000) (by omega) (by omega) (by omega) (by omega)
  have m2 := mul_bd (a := σC 4 v - σC 4 u) (b := rS σC u v w w) (A := 1000) (B := 2000000) (by omega) (by omega) (by omega) (by omega)
  have m3 := mul_bd (a := σC 3 v - σC 3 u) (b := rS σC u v w w) (A := 1000) (B := 2000000) (by omega) (by omega) (by omega) (by omega)
  have m4 := mul_bd (a := σC 3 w - σC 3 u) (b := rS σC u v w v) (A := 1000) (B := 2000000) (by omega) (by omega) (by omega) (by omega)
  have a : -4000000000 ≤ rA σC u v w ∧ rA σC u v w ≤ 4000000000 := by unfold rA; omega
  have b : -4000000000 ≤ rU σC u v w ∧ rU σC u v w ≤ 4000000000 := by unfold rU; omega
  refine ⟨d, a, b, fun t ht => ?_⟩
  obtain ⟨-, -, t1, t2⟩ := h.rng ht
  have s3 := h.sq2 hu ht
  have m5 := mul_bd (a := sqd σC u t) (b := rD σC u v w) (A := 2000000) (B := 4000000) (by omega) (by omega) (by omega) (by omega)
  have m6 := mul_bd (a := σC 3 t - σC 3 u) (b := rA σC u v w) (A := 1000) (B := 4000000000) (by omega) (by omega) (by omega) (by omega)
  have m7 := mul_bd (a := σC 4 t - σC 4 u) (b := rU σC u v w) (A := 1000) (B := 4000000000) (by omega) (by omega) (by omega) (by omega)
  unfold rO
  omega
def rB (σ : St) (u v w t : Nat) : Bool := pC σ t && decide (rO σ u v w t = 0)
theorem setRound_spec {σC σM τ : St} (h : Rw σC σM) (hC : ∀ k, k < 7 → τ k = σC k) {u v w : Nat} (hu : u < 24) (hv : v < 24) (hw : w < 24) : f_X6_setRound τ (u : Int) (v : Int) (w : Int) = some (if trn σC u v w = 0 then 0 else 1, up2 (up2 (up2 τ 35 10 (rD σC u v w)) 35 8 (rA σC u v w)) 35 9 (rU σC u v w)) := by
  have t1 := h.trr hu hv hw
  obtain ⟨-, -, u1, u2⟩ := h.rng hu
  obtain ⟨-, -, v1, v2⟩ := h.rng hv
  obtain ⟨-, -, w1, w2⟩ := h.rng hw
  have s1 := h.sq2 hu hv
  have s2 := h.sq2 hu hw
  have q1 := square_spec (σ := τ) hu hv
  have q2 := square_spec (σ := τ) hu hw
  rw [sqd_cC hC] at q1 q2
  have b77 : f_X6_setRound_b77 τ (u : Int) (v : Int) (w : Int) (trn σC u v w) (rS σC u v w v) (rS σC u v w w) = some (if trn σC u v w = 0 then 0 else 1, up2 (up2 (up2 τ 35 10 (rD σC u v w)) 35 8 (rA σC u v w)) 35 9 (rU σC u v w)) := by
    rw [f_X6_setRound_b77, jlet_v, jc_L (by omega) (by omega), show 2 * (if 0 < trn σC u v w then trn σC u v w else - trn σC u v w) = rD σC u v w from rfl, jlet_v, up2_k (k' := 4) (by decide), hC 4 (by decide), jc_ix (by omega) (by omega), jc_ix (by omega) (by omega), cast_n, cast_n, cast_n, jc_I (by omega) (by omega), jc_ix (by omega) (by omega), jc_ix (by omega) (by omega), jc_I (by omega) (by omega), jlet_v, up2_k (k' := 3) (by decide), up2_k (k' := 3) (by decide), hC 3 (by decide), jc_ix (by omega) (by omega), jc_ix (by omega) (by omega), jc_I (by omega) (by omega), jc_ix (by omega) (by omega), jc_ix (by omega) (by omega), jc_I (by omega) (by omega), jlet_v, jc_LL (by omega) (by omega) (by omega) (by omega)]
    by_cases c : trn σC u v w = 0
    · rw [if_pos c, if_pos c]; rfl
    · rw [if_neg c, if_neg c]; rfl
  rw [f_X6_setRound, f_X6_setRound_b0, turn_spec hu hv hw, trn_cC hC, jbind_s, jc_I (by omega) (by omega), jlet_v, jc_LL (by omega) (by omega) (by omega) (by omega), q1]
  by_cases c : trn σC u v w < 0
  · have e1 : rS σC u v w v = - sqd σC u v := by unfold rS; rw [if_pos c]
    have e2 : rS σC u v w w = - sqd σC u w := by unfold rS; rw [if_pos c]
    rw [if_pos c, jbind_s, jc_I (by omega) (by omega), f_X6_setRound_b44, jlet_v, jc_LL (by omega) (by omega) (by omega) (by omega), if_pos c, q2, jbind_s, jc_I (by omega) (by omega), ← e1, ← e2, b77]
    by_cases c2 : trn σC u v w = 0
    · rw [if_pos c2]; rfl
    · rw [if_neg c2]; rfl
  · have e1 : rS σC u v w v = sqd σC u v := by unfold rS; rw [if_neg c]
    have e2 : rS σC u v w w = sqd σC u w := by unfold rS; rw [if_neg c]
    rw [if_neg c, jbind_s, jc_I (by omega) (by omega), f_X6_setRound_b44, jlet_v, jc_LL (by omega) (by omega) (by omega) (by omega), if_neg c, q2, jbind_s, jc_I (by omega) (by omega), ← e1, ← e2, b77]
    by_cases c2 : trn σC u v w = 0
    · rw [if_pos c2]; rfl
    · rw [if_neg c2]; rfl
theorem outside_spec {σC σM τ : St} (h : Rw σC σM) (hC : ∀ k, k < 7 → τ k = σC k) {u v w t : Nat} (hu : u < 24) (ht : t < 24) (h10 : τ 35 10 = rD σC u v w) (h8 : τ 35 8 = rA σC u v w) (h9 : τ 35 9 = rU σC u v w) : f_X6_outsideBy τ (u : Int) (t : Int) = some (rO σC u v w t) := by
  obtain ⟨-, -, u1, u2⟩ := h.rng hu
  obtain ⟨-, -, t1, t2⟩ := h.rng ht
  have s1 := h.sq2 hu ht
  rw [f_X6_outsideBy, f_X6_outsideBy_b0, square_spec hu ht, sqd_cC hC, jbind_s, jc_I (by omega) (by omega), h10, h8, h9, hC 3 (by decide), hC 4 (by decide), jc_ix (by omega) (by omega), jc_ix (by omega) (by omega), cast_n, cast_n, jc_I (by omega) (by omega), jc_ix (by omega) (by omega), jc_ix (by omega) (by omega), jc_I (by omega) (by omega)]
  rfl
/-- a well that spoils a ring -/
def bad (σ : St) (u v w t : Nat) : Prop := pC σ t = true ∧ (rO σ u v w t < 0 ∨ (rO σ u v w t = 0 ∧ t < w ∧ t ≠ u ∧ t ≠ v))
theorem ringFrom_loop {σC σM τ : St} (h : Rw σC σM) (hC : ∀ k, k < 7 → τ k = σC k) {u v w : Nat} (hu : u < 24) (hv : v < 24) (hw : w < 24) (h10 : τ 35 10 = rD σC u v w) (h8 : τ 35 8 = rA σC u v w) (h9 : τ 35 9 = rU σC u v w) (fuel : Nat) (hf : 24 < fuel) : ∃ e, jloop (fun (q : (Int × Int)) => match q with | (x4, x5) => f_X6_ringFrom_b6 τ (u : Int) (v : Int) (w : Int) x4 x5) fuel (0, 0) = some e ∧ ((e = .inl () ∧ ∃ t, t < 24 ∧ bad σC u v w t) ∨ (e = .inr ((nb (rB σC u v w) 24 : Nat) : Int) ∧ ∀ t, t < 24 → ¬ bad σC u v w t)) := by
  have hm := h.many
  refine loopC (pC σC) (I := fun n s => s = (((nb (rB σC u v w) n : Nat) : Int), ((ct (pC σC) n : Nat) : Int)) ∧ ∀ t, t < n → ¬ bad σC u v w t) (J := _) ?_ ?_ ?_ 24 0 fuel _ (by omega) (by omega) ⟨rfl, fun t ht => absurd ht (Nat.not_lt_zero t)⟩
  · rintro n s hn hp ⟨rfl, hg⟩
    obtain ⟨c1, c2⟩ := h.ct24 hn hp
    have r := (r_rng h hu hv hw).2.2.2 n hn
    show (∃ s', f_X6_ringFrom_b6 τ (u : Int) (v : Int) (w : Int) ((nb (rB σC u v w) n : Nat) : Int) ((ct (pC σC) n : Nat) : Int) = some (.inl s') ∧ _) ∨ ∃ e, f_X6_ringFrom_b6 τ (u : Int) (v : Int) (w : Int) ((nb (rB σC u v w) n : Nat) : Int) ((ct (pC σC) n : Nat) : Int) = some (.inr e) ∧ _
    rw [f_X6_ringFrom_b6, hC 1 (by decide), hm, jc_II (by omega) (by omega) (by omega) (by omega), if_pos (by omega), jc_ix (by omega) (by omega), jlet_v, cast_n, hC 2 (by decide), h.kth hn hp, outside_spec h hC hu hn h10 h8 h9, jbind_s, jlet_v, jc_LL (by omega) (by omega) (by omega) (by omega)]
    have b73 : ¬ bad σC u v w n → ∃ s', f_X6_ringFrom_b73 τ (u : Int) (v : Int) (w : Int) ((nb (rB σC u v w) n : Nat) : Int) ((ct (pC σC) n : Nat) : Int) (n : Int) (rO σC u v w n) = some (.inl s') ∧ s' = (((nb (rB σC u v w) (n + 1) : Nat) : Int), ((ct (pC σC) (n + 1) : Nat) : Int)) ∧ ∀ t, t < n + 1 → ¬ bad σC u v w t := by
      intro nb'
      have all : ∀ t, t < n + 1 → ¬ bad σC u v w t := fun t ht => by
        by_cases e : t = n
        · rw [e]; exact nb'
        · exact hg t (by omega)
      rw [f_X6_ringFrom_b73, jc_LL (by omega) (by omega) (by omega) (by omega)]
      by_cases c : rO σC u v w n = 0
      · have e : rB σC u v w n = true := by simp [rB, hp, c]
        rw [if_pos c, jlet_v, jlet_v, jor_nb hn e, cast_s, ← ct_t hp]
        exact ⟨_, rfl, rfl, all⟩
      · have e : rB σC u v w n = false := by simp [rB, c]
        rw [if_neg c, jlet_v, cast_s, ← ct_t hp, ← nb_f e]
        exact ⟨_, rfl, rfl, all⟩
    by_cases d1 : rO σC u v w n < 0
    · right
      rw [if_pos d1]
      exact ⟨_, rfl, Or.inl ⟨rfl, n, hn, hp, Or.inl d1⟩⟩
    · rw [if_neg d1, jc_LL (by omega) (by omega) (by omega) (by omega)]
      by_cases d2 : rO σC u v w n = 0
      · rw [if_pos d2, jc_II (by omega) (by omega) (by omega) (by omega)]
        by_cases d3 : n < w
        · rw [if_pos (by omega), jc_II (by omega) (by omega) (by omega) (by omega)]
          by_cases d4 : n = u
          · rw [if_pos (by omega)]
            exact Or.inl (b73 (fun z => by rcases z.2 with y | y; exact d1 y; exact y.2.2.1 d4))
          · rw [if_neg (by omega), jc_II (by omega) (by omega) (by omega) (by omega)]
            by_cases d5 : n = v
            · rw [if_pos (by omega)]
              exact Or.inl (b73 (fun z => by rcases z.2 with y | y; exact d1 y; exact y.2.2.2 d5))
            · rw [if_neg (by omega)]
              exact Or.inr ⟨_, rfl, Or.inl ⟨rfl, n, hn, hp, Or.inr ⟨d2, d3, d4, d5⟩⟩⟩
        · rw [if_neg (by omega)]
          exact Or.inl (b73 (fun z => by rcases z.2 with y | y; exact d1 y; exact d3 y.2.1))
      · rw [if_neg d2]
        exact Or.inl (b73 (fun z => by rcases z.2 with y | y; exact d1 y; exact d2 y.1))
  · rintro n s hn hp ⟨rfl, hg⟩
    have e : rB σC u v w n = false := by simp [rB, hp]
    refine ⟨by rw [ct_f hp, nb_f e], fun t ht => ?_⟩
    by_cases e : t = n
    · rw [e]; exact fun z => by have := z.1; rw [hp] at this; cases this
    · exact hg t (by omega)
  · rintro s ⟨rfl, hg⟩
    refine ⟨_, ?_, Or.inr ⟨rfl, hg⟩⟩
    have := ct_le (pC σC) 24
    show f_X6_ringFrom_b6 τ (u : Int) (v : Int) (w : Int) _ ((ct (pC σC) 24 : Nat) : Int) = _
    rw [f_X6_ringFrom_b6, hC 1 (by decide), hm, jc_II (by omega) (by omega) (by omega) (by omega), if_neg (by omega)]
theorem acc_iff {σ : St} {u v w : Nat} (uv : u < v) (vw : v < w) (hw : w < 24) (pu : pC σ u = true) (pv : pC σ v = true) (pw : pC σ w = true) : Acc σ u v w ↔ (trn σ u v w ≠ 0 ∧ ∀ t, t < 24 → ¬ bad σ u v w t) := by
  constructor
  · rintro ⟨-, -, -, -, -, -, tn, h1, h2⟩
    refine ⟨tn, fun t ht z => ?_⟩
    rcases z.2 with y | ⟨y1, y2, y3, y4⟩
    · have := h1 t ht z.1
      omega
    · rcases h2 t y2 z.1 y1 with q | q
      · exact y3 q
      · exact y4 q
  · rintro ⟨tn, h1⟩
    refine ⟨uv, vw, hw, pu, pv, pw, tn, fun t ht pt => ?_, fun t ht pt e => ?_⟩
    · by_cases c : 0 ≤ rO σ u v w t
      · exact c
      · exact absurd ⟨pt, Or.inl (by omega)⟩ (h1 t ht)
    · by_cases c1 : t = u
      · exact Or.inl c1
      · by_cases c2 : t = v
        · exact Or.inr c2
        · exact absurd ⟨pt, Or.inr ⟨e, ht, c1, c2⟩⟩ (h1 t (by omega))
