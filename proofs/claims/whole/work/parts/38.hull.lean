/-! ===== the pure side 18: hulls ===== -/
def trn (σ : St) (a b c : Nat) : Int := (σ 3 b - σ 3 a) * (σ 4 c - σ 4 a) - (σ 4 b - σ 4 a) * (σ 3 c - σ 3 a)
theorem Rw.trr {σC σM : St} (h : Rw σC σM) {a b c : Nat} (ha : a < 24) (hb : b < 24) (hc : c < 24) : -2000000 ≤ trn σC a b c ∧ trn σC a b c ≤ 2000000 := by
  obtain ⟨-, -, a1, a2⟩ := h.rng ha
  obtain ⟨-, -, b1, b2⟩ := h.rng hb
  obtain ⟨-, -, c1, c2⟩ := h.rng hc
  have m1 := mul_bd (a := σC 3 b - σC 3 a) (b := σC 4 c - σC 4 a) (A := 1000) (B := 1000) (by omega) (by omega) (by omega) (by omega)
  have m2 := mul_bd (a := σC 4 b - σC 4 a) (b := σC 3 c - σC 3 a) (A := 1000) (B := 1000) (by omega) (by omega) (by omega) (by omega)
  unfold trn
  omega
theorem turn_spec {σ : St} {a b c : Nat} (ha : a < 24) (hb : b < 24) (hc : c < 24) : f_X9_turn σ (a : Int) (b : Int) (c : Int) = some (trn σ a b c) := by
  rw [f_X9_turn, f_X9_turn_b0, jc_ix (by omega) (by omega), jc_ix (by omega) (by omega), jc_ix (by omega) (by omega), jc_ix (by omega) (by omega), jc_ix (by omega) (by omega), jc_ix (by omega) (by omega), jc_ix (by omega) (by omega), jc_ix (by omega) (by omega), cast_n, cast_n, cast_n]
  rfl
theorem cross_spec {σC σM : St} (h : Rw σC σM) {a b c : Nat} (ha : a < 24) (hb : b < 24) (hc : c < 24) (pa : pC σC a = true) (pb : pC σC b = true) (pc : pC σC c = true) : f_X11_cross σM (a : Int) (b : Int) (c : Int) = some (trn σC a b c) := by
  obtain ⟨-, v2, v3, -⟩ := h.M ha pa
  obtain ⟨-, w2, w3, -⟩ := h.M hb pb
  obtain ⟨-, u2, u3, -⟩ := h.M hc pc
  obtain ⟨-, -, a1, a2⟩ := h.rng ha
  obtain ⟨-, -, b1, b2⟩ := h.rng hb
  obtain ⟨-, -, c1, c2⟩ := h.rng hc
  rw [f_X11_cross, f_X11_cross_b0, cast_n, cast_n, cast_n, v2, v3, w2, w3, u2, u3, jc_ix (by omega) (by omega), jc_ix (by omega) (by omega), jc_I (by omega) (by omega), jc_ix (by omega) (by omega), jc_ix (by omega) (by omega), jc_I (by omega) (by omega), jc_ix (by omega) (by omega), jc_ix (by omega) (by omega), jc_I (by omega) (by omega), jc_ix (by omega) (by omega), jc_ix (by omega) (by omega), jc_I (by omega) (by omega)]
  rfl
/-- the least place of those below n -/
def lp (σ : St) : Nat → Int
  | 0 => -1
  | n + 1 => if pC σ n = true ∧ (lp σ n = -1 ∨ σ 3 n < σ 3 (lp σ n).toNat ∨ (σ 3 n = σ 3 (lp σ n).toNat ∧ σ 4 n < σ 4 (lp σ n).toNat)) then (n : Int) else lp σ n
theorem lp_rng (σ : St) : ∀ n, (lp σ n = -1 ∧ ∀ u, u < n → pC σ u = false) ∨ ∃ v : Nat, v < n ∧ pC σ v = true ∧ lp σ n = (v : Int) ∧ ∀ u, u < n → pC σ u = true → σ 3 v < σ 3 u ∨ (σ 3 v = σ 3 u ∧ σ 4 v ≤ σ 4 u)
  | 0 => Or.inl ⟨rfl, fun u hu => absurd hu (Nat.not_lt_zero u)⟩
  | n + 1 => by
    unfold lp
    rcases lp_rng σ n with ⟨z1, z2⟩ | ⟨v, hv, pv, z1, z2⟩
    · rw [z1]
      cases hp : pC σ n with
      | true =>
        rw [if_pos ⟨rfl, Or.inl rfl⟩]
        refine Or.inr ⟨n, by omega, hp, rfl, fun u hu pu => ?_⟩
        by_cases e : u = n
        · rw [e]; omega
        · rw [z2 u (by omega)] at pu; cases pu
      | false =>
        rw [if_neg (fun z => by cases z.1)]
        refine Or.inl ⟨rfl, fun u hu => ?_⟩
        by_cases e : u = n
        · rw [e, hp]
        · exact z2 u (by omega)
    · rw [z1, cast_n]
      by_cases c : pC σ n = true ∧ ((v : Int) = -1 ∨ σ 3 n < σ 3 v ∨ (σ 3 n = σ 3 v ∧ σ 4 n < σ 4 v))
      · rw [if_pos c]
        refine Or.inr ⟨n, by omega, c.1, rfl, fun u hu pu => ?_⟩
        by_cases e : u = n
        · rw [e]; omega
        · have := z2 u (by omega) pu
          have := c.2
          omega
      · rw [if_neg c]
        refine Or.inr ⟨v, by omega, pv, rfl, fun u hu pu => ?_⟩
        by_cases e : u = n
        · rw [e]
          rw [e] at pu
          have : ¬ ((v : Int) = -1 ∨ σ 3 n < σ 3 v ∨ (σ 3 n = σ 3 v ∧ σ 4 n < σ 4 v)) := fun z => c ⟨pu, z⟩
          omega
        · exact z2 u (by omega) pu
/-- n goes before b, seen from a -/
def frt (σ : St) (a b n : Nat) : Prop := trn σ a b n < 0 ∨ (trn σ a b n = 0 ∧ sqd σ a b < sqd σ a n)
/-- the one that leaves all others on the left -/
def rm (σ : St) (a : Nat) : Nat → Int
  | 0 => -1
  | n + 1 => if pC σ n = true ∧ n ≠ a ∧ (rm σ a n = -1 ∨ trn σ a (rm σ a n).toNat n < 0 ∨ (trn σ a (rm σ a n).toNat n = 0 ∧ sqd σ a (rm σ a n).toNat < sqd σ a n)) then (n : Int) else rm σ a n
theorem rm_in (σ : St) (a : Nat) : ∀ n, rm σ a n = -1 ∨ ∃ v : Nat, v < n ∧ pC σ v = true ∧ v ≠ a ∧ rm σ a n = (v : Int)
  | 0 => Or.inl rfl
  | n + 1 => by
    unfold rm
    by_cases c : pC σ n = true ∧ n ≠ a ∧ (rm σ a n = -1 ∨ trn σ a (rm σ a n).toNat n < 0 ∨ (trn σ a (rm σ a n).toNat n = 0 ∧ sqd σ a (rm σ a n).toNat < sqd σ a n))
    · rw [if_pos c]
      exact Or.inr ⟨n, by omega, c.1, c.2.1, rfl⟩
    · rw [if_neg c]
      rcases rm_in σ a n with z | ⟨v, hv, z⟩
      · exact Or.inl z
      · exact Or.inr ⟨v, by omega, z⟩
theorem pC_cC {σ τ : St} (hC : ∀ k, k < 7 → τ k = σ k) : pC τ = pC σ := by
  funext w
  unfold pC
  rw [hC 1 (by omega), hC 5 (by omega), hC 6 (by omega)]
theorem lpC {σC σM : St} (h : Rw σC σM) (fuel : Nat) (hf : 24 < fuel) : jloop (fun (q : (Int × Int)) => match q with | (x1, x2) => f_X2_leastPlace_b4 σC x1 x2) fuel (-1, 0) = some (lp σC 24) := by
  have hm := h.many
  refine some_of (J := fun e => e = lp σC 24) (loopC (pC σC) (I := fun w s => s = (lp σC w, ((ct (pC σC) w : Nat) : Int))) (J := _) ?_ ?_ ?_ 24 0 fuel _ (by omega) (by omega) rfl) (fun _ z => z)
  · rintro w s hw hp rfl
    left
    obtain ⟨c1, c2⟩ := h.ct24 hw hp
    obtain ⟨-, -, r1, r2⟩ := h.rng hw
    refine ⟨_, ?_, rfl⟩
    show f_X2_leastPlace_b4 σC (lp σC w) ((ct (pC σC) w : Nat) : Int) = _
    rw [f_X2_leastPlace_b4, hm, jc_II (by omega) (by omega) (by omega) (by omega), if_pos (by omega), jc_ix (by omega) (by omega), jlet_v, cast_n, h.kth hw hp, ct_t hp, lp]
    rcases lp_rng σC w with ⟨z, -⟩ | ⟨v, hv, pv, z, -⟩
    · rw [z, jc_II (by omega) (by omega) (by omega) (by omega), if_pos rfl, jlet_v, jlet_v, if_pos ⟨hp, Or.inl rfl⟩, cast_s]
    · obtain ⟨-, -, r3, r4⟩ := h.rng (show v < 24 by omega)
      rw [z, jc_II (by omega) (by omega) (by omega) (by omega), if_neg (by omega), jc_ix (by omega) (by omega), jc_ix (by omega) (by omega), cast_n, cast_n, jc_II (by omega) (by omega) (by omega) (by omega)]
      by_cases d1 : σC 3 w < σC 3 v
      · rw [if_pos d1, jlet_v, jlet_v, if_pos ⟨hp, Or.inr (Or.inl d1)⟩, cast_s]
      · rw [if_neg d1, jc_ix (by omega) (by omega), jc_ix (by omega) (by omega), jc_II (by omega) (by omega) (by omega) (by omega)]
        by_cases d2 : σC 3 w = σC 3 v
        · rw [if_pos d2, jc_ix (by omega) (by omega), jc_ix (by omega) (by omega), jc_II (by omega) (by omega) (by omega) (by omega)]
          by_cases d3 : σC 4 w < σC 4 v
          · rw [if_pos d3, jlet_v, jlet_v, if_pos ⟨hp, Or.inr (Or.inr ⟨d2, d3⟩)⟩, cast_s]
          · rw [if_neg d3, jlet_v, if_neg (fun z => by omega), cast_s]
        · rw [if_neg d2, jlet_v, if_neg (fun z => by omega), cast_s]
  · rintro w s hw hp rfl
    rw [ct_f hp, lp, if_neg (fun z => by rw [hp] at z; exact absurd z.1 (by decide))]
  · rintro s rfl
    refine ⟨_, ?_, rfl⟩
    have := ct_le (pC σC) 24
    show f_X2_leastPlace_b4 σC _ ((ct (pC σC) 24 : Nat) : Int) = _
    rw [f_X2_leastPlace_b4, hm, jc_II (by omega) (by omega) (by omega) (by omega), if_neg (by omega)]
theorem lpM {σC σM : St} (h : Rw σC σM) (fuel : Nat) (hf : 24 < fuel) : jloop (fun (q : (Int × Int)) => match q with | (x1, x2) => f_X11_hull_b9 σM x1 x2) fuel (-1, 0) = some (lp σC 24) := by
  refine jloop_for0 (g := fun w => (lp σC w, (w : Int))) (N := 24) (e := _) rfl hf (fun w hw => ?_) ?_
  · show f_X11_hull_b9 σM (lp σC w) (w : Int) = _
    rw [f_X11_hull_b9, jc_II (by omega) (by omega) (by omega) (by omega), if_pos (by omega), h.cnM hw, jbind_s, lp]
    cases hp : pC σC w with
    | false => rw [bI_f, jc_I (by omega) (by omega), if_pos rfl, jlet_v, if_neg (fun z => by cases z.1), cast_s]
    | true =>
      rw [bI_t, jc_I (by omega) (by omega), if_neg (by omega)]
      obtain ⟨-, m2, m3, -⟩ := h.M hw hp
      obtain ⟨-, -, r1, r2⟩ := h.rng hw
      rcases lp_rng σC w with ⟨z, -⟩ | ⟨v, hv, pv, z, -⟩
      · rw [z, jc_II (by omega) (by omega) (by omega) (by omega), if_pos rfl, jlet_v, jlet_v, if_pos ⟨rfl, Or.inl rfl⟩, cast_s]
      · obtain ⟨-, n2, n3, -⟩ := h.M (show v < 24 by omega) pv
        obtain ⟨-, -, r3, r4⟩ := h.rng (show v < 24 by omega)
        rw [z, jc_II (by omega) (by omega) (by omega) (by omega), if_neg (by omega), jc_ix (by omega) (by omega), jc_ix (by omega) (by omega), cast_n, cast_n, m2, m3, n2, n3, jc_II (by omega) (by omega) (by omega) (by omega)]
        by_cases d1 : σC 3 w < σC 3 v
        · rw [if_pos d1, jlet_v, jlet_v, if_pos ⟨rfl, Or.inr (Or.inl d1)⟩, cast_s]
        · rw [if_neg d1, jc_ix (by omega) (by omega), jc_ix (by omega) (by omega), jc_II (by omega) (by omega) (by omega) (by omega)]
          by_cases d2 : σC 3 w = σC 3 v
          · rw [if_pos d2, jc_ix (by omega) (by omega), jc_ix (by omega) (by omega), jc_II (by omega) (by omega) (by omega) (by omega)]
            by_cases d3 : σC 4 w < σC 4 v
            · rw [if_pos d3, jlet_v, jlet_v, if_pos ⟨rfl, Or.inr (Or.inr ⟨d2, d3⟩)⟩, cast_s]
            · rw [if_neg d3, jlet_v, if_neg (fun z => by omega), cast_s]
          · rw [if_neg d2, jlet_v, if_neg (fun z => by omega), cast_s]
  · show f_X11_hull_b9 σM _ ((24 : Nat) : Int) = _
    rw [f_X11_hull_b9, jc_II (by omega) (by omega) (by omega) (by omega), if_neg (by omega)]
theorem rmC {σC σM : St} (h : Rw σC σM) {a : Nat} (ha : a < 24) (fuel : Nat) (hf : 24 < fuel) : jloop (fun (q : (Int × Int)) => match q with | (x2, x3) => f_X2_rightmostFrom_b4 σC (a : Int) x2 x3) fuel (-1, 0) = some (rm σC a 24) := by
  have hm := h.many
  refine some_of (J := fun e => e = rm σC a 24) (loopC (pC σC) (I := fun w s => s = (rm σC a w, ((ct (pC σC) w : Nat) : Int))) (J := _) ?_ ?_ ?_ 24 0 fuel _ (by omega) (by omega) rfl) (fun _ z => z)
  · rintro w s hw hp rfl
    left
    obtain ⟨c1, c2⟩ := h.ct24 hw hp
    refine ⟨_, ?_, rfl⟩
    show f_X2_rightmostFrom_b4 σC (a : Int) (rm σC a w) ((ct (pC σC) w : Nat) : Int) = _
    rw [f_X2_rightmostFrom_b4, hm, jc_II (by omega) (by omega) (by omega) (by omega), if_pos (by omega), jc_ix (by omega) (by omega), jlet_v, cast_n, h.kth hw hp, jc_II (by omega) (by omega) (by omega) (by omega), ct_t hp, rm]
    by_cases e : w = a
    · rw [if_pos (by omega), jlet_v, if_neg (fun z => z.2.1 e), cast_s]
    · rw [if_neg (by omega)]
      rcases rm_in σC a w with z | ⟨v, hv, pv, va, z⟩
      · rw [z, jc_II (by omega) (by omega) (by omega) (by omega), if_pos rfl, jlet_v, jlet_v, if_pos ⟨hp, e, Or.inl rfl⟩, cast_s]
      · have d1 := h.sq2 ha hw
        have d2 := h.sq2 ha (show v < 24 by omega)
        have d3 := h.trr ha (show v < 24 by omega) hw
        have fr : f_X2_isFartherRight σC (a : Int) (v : Int) (w : Int) = some (if trn σC a v w < 0 ∨ (trn σC a v w = 0 ∧ sqd σC a v < sqd σC a w) then 1 else 0) := by
          rw [f_X2_isFartherRight, f_X2_isFartherRight_b0, turn_spec ha (by omega) hw, jbind_s, jlet_v, jc_I (by omega) (by omega)]
          by_cases t1 : trn σC a v w < 0
          · rw [if_pos t1, if_pos (Or.inl t1)]; rfl
          · rw [if_neg t1, jc_I (by omega) (by omega)]
            by_cases t2 : trn σC a v w = 0
            · rw [if_pos t2, square_spec ha hw, jbind_s, square_spec ha (by omega), jbind_s, jc_II (by omega) (by omega) (by omega) (by omega)]
              by_cases t3 : sqd σC a v < sqd σC a w
              · rw [if_pos t3, if_pos (Or.inr ⟨t2, t3⟩)]; rfl
              · rw [if_neg t3, if_neg (fun z => by omega)]; rfl
            · rw [if_neg t2, if_neg (fun z => by omega)]; rfl
        rw [z, jc_II (by omega) (by omega) (by omega) (by omega), if_neg (by omega), fr, jbind_s, cast_n]
        by_cases t : trn σC a v w < 0 ∨ (trn σC a v w = 0 ∧ sqd σC a v < sqd σC a w)
        · rw [if_pos t, jc_I (by omega) (by omega), if_neg (by omega), jlet_v, jlet_v, if_pos ⟨hp, e, Or.inr t⟩, cast_s]
        · rw [if_neg t, jc_I (by omega) (by omega), if_pos rfl, jlet_v, if_neg (fun z => by omega), cast_s]
  · rintro w s hw hp rfl
    rw [ct_f hp, rm, if_neg (fun z => by rw [hp] at z; exact absurd z.1 (by decide))]
  · rintro s rfl
    refine ⟨_, ?_, rfl⟩
    have := ct_le (pC σC) 24
    show f_X2_rightmostFrom_b4 σC (a : Int) _ ((ct (pC σC) 24 : Nat) : Int) = _
    rw [f_X2_rightmostFrom_b4, hm, jc_II (by omega) (by omega) (by omega) (by omega), if_neg (by omega)]
theorem rmM {σC σM : St} (h : Rw σC σM) {a : Nat} (ha : a < 24) (pa : pC σC a = true) {x1 : Int} (fuel : Nat) (hf : 24 < fuel) : jloop (fun (q : (Int × Int)) => match q with | (x3, x4) => f_X11_hull_b128 σM x1 (a : Int) x3 x4) fuel (-1, 0) = some (rm σC a 24) := by
  refine jloop_for0 (g := fun w => (rm σC a w, (w : Int))) (N := 24) (e := _) rfl hf (fun w hw => ?_) ?_
  · show f_X11_hull_b128 σM x1 (a : Int) (rm σC a w) (w : Int) = _
    rw [f_X11_hull_b128, jc_II (by omega) (by omega) (by omega) (by omega), if_pos (by omega), jc_II (by omega) (by omega) (by omega) (by omega), rm]
    by_cases e : w = a
    · rw [if_pos (by omega), jlet_v, if_neg (fun z => z.2.1 e), cast_s]
    · rw [if_neg (by omega), h.cnM hw, jbind_s]
      cases hp : pC σC w with
      | false => rw [bI_f, jc_I (by omega) (by omega), if_pos rfl, jlet_v, if_neg (fun z => by cases z.1), cast_s]
      | true =>
        rw [bI_t, jc_I (by omega) (by omega), if_neg (by omega)]
        rcases rm_in σC a w with z | ⟨v, hv, pv, va, z⟩
        · rw [z, jc_II (by omega) (by omega) (by omega) (by omega), if_pos rfl, f_X11_hull_b172, jlet_v, jc_LL (by omega) (by omega) (by omega) (by omega), if_pos (by omega), jlet_v, jlet_v, if_pos ⟨rfl, e, Or.inl rfl⟩, cast_s]
        · have d1 := h.sq2 ha hw
          have d2 := h.sq2 ha (show v < 24 by omega)
          have d3 := h.trr ha (show v < 24 by omega) hw
          rw [z, jc_II (by omega) (by omega) (by omega) (by omega), if_neg (by omega), cross_spec h ha (by omega) hw pa pv hp, jbind_s, f_X11_hull_b172, jlet_v, jc_LL (by omega) (by omega) (by omega) (by omega), cast_n]
          by_cases t1 : trn σC a v w < 0
          · rw [if_pos t1, jlet_v, jlet_v, if_pos ⟨rfl, e, Or.inr (Or.inl t1)⟩, cast_s]
          · rw [if_neg t1, jc_LL (by omega) (by omega) (by omega) (by omega)]
            by_cases t2 : trn σC a v w = 0
            · rw [if_pos t2, apart_spec h ha hw pa hp, jbind_s, apart_spec h ha (by omega) pa pv, jbind_s, jc_LL (by omega) (by omega) (by omega) (by omega)]
              by_cases t3 : sqd σC a v < sqd σC a w
              · rw [if_pos t3, jlet_v, jlet_v, if_pos ⟨rfl, e, Or.inr (Or.inr ⟨t2, t3⟩)⟩, cast_s]
              · rw [if_neg t3, jlet_v, if_neg (fun z => by omega), cast_s]
            · rw [if_neg t2, jlet_v, if_neg (fun z => by omega), cast_s]
  · show f_X11_hull_b128 σM x1 (a : Int) _ ((24 : Nat) : Int) = _
    rw [f_X11_hull_b128, jc_II (by omega) (by omega) (by omega) (by omega), if_neg (by omega)]
