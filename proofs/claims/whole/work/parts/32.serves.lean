/-! ===== the pure side 12: serves, next ===== -/
theorem ct_zero {p : Nat → Bool} : ∀ {n : Nat}, ct p n = 0 ↔ ∀ k, k < n → p k = false
  | 0 => ⟨fun _ k hk => absurd hk (Nat.not_lt_zero k), fun _ => rfl⟩
  | n + 1 => by
    cases c : p n with
    | true =>
      rw [ct_t c]
      refine ⟨fun z => by omega, fun z => ?_⟩
      rw [z n (by omega)] at c
      cases c
    | false =>
      rw [ct_f c, ct_zero (n := n)]
      refine ⟨fun z k hk => ?_, fun z k hk => z k (by omega)⟩
      by_cases e : k = n
      · rw [e, c]
      · exact z k (by omega)
/-- those that go before v -/
def rk (p : Nat → Bool) (c : Nat → Int) (b : Bool) (v u : Nat) : Bool := p u && (decide (c u < c v) || (b && decide (u < v) && decide (c u = c v)))
theorem rank_spec {σC σM τ : St} (h : Rw σC σM) {c : Nat → Int} (hC : ∀ k, k ≠ 69 → τ k = σC k) (hc : ∀ w, w < 24 → pC σC w = true → τ 69 (ct (pC σC) w) = c w) (hr : ∀ w, w < 24 → -1000000000000 ≤ c w ∧ c w ≤ 2000000000000) (b : Bool) {v : Nat} (hv : v < 24) (pv : pC σC v = true) (fuel : Nat) (hf : 24 < fuel) : jloop (fun (q : (Int × Int)) => match q with | (x3, x4) => f_X10_rankOf_b5 τ ((ct (pC σC) v : Nat) : Int) (bI b) x3 x4) fuel (0, 0) = some ((ct (rk (pC σC) c b v) 24 : Nat) : Int) := by
  have hm := h.many
  obtain ⟨v1, v2⟩ := h.ct24 hv pv
  have r1 := hr v hv
  refine some_of (J := fun e => e = ((ct (rk (pC σC) c b v) 24 : Nat) : Int)) (loopC (pC σC) (I := fun w s => s = (((ct (rk (pC σC) c b v) w : Nat) : Int), ((ct (pC σC) w : Nat) : Int))) (J := _) ?_ ?_ ?_ 24 0 fuel _ (by omega) (by omega) rfl) (fun _ z => z)
  · rintro w s hw hp rfl
    left
    obtain ⟨c1, c2⟩ := h.ct24 hw hp
    have r2 := hr w hw
    refine ⟨_, ?_, rfl⟩
    show f_X10_rankOf_b5 τ ((ct (pC σC) v : Nat) : Int) (bI b) ((ct (rk (pC σC) c b v) w : Nat) : Int) ((ct (pC σC) w : Nat) : Int) = _
    rw [f_X10_rankOf_b5, hC 1 (by decide), hm, jc_II (by omega) (by omega) (by omega) (by omega), if_pos (by omega), jc_ix (by omega) (by omega), jc_ix (by omega) (by omega), cast_n, cast_n, hc w hw hp, hc v hv pv, jc_LL (by omega) (by omega) (by omega) (by omega)]
    have br := bI_rng b
    have key : (ct (pC σC) w < ct (pC σC) v) ↔ w < v := by
      refine ⟨fun z => ?_, fun z => ct_lt hp z⟩
      by_cases e : v < w
      · have := ct_lt pv e
        omega
      · by_cases e2 : w = v
        · rw [e2] at z; omega
        · omega
    by_cases a1 : c w < c v
    · have e : rk (pC σC) c b v w = true := by simp [rk, hp, a1]
      rw [if_pos a1, jlet_v, jlet_v, ct_t e, ct_t hp, cast_s, cast_s]
    · rw [if_neg a1, jc_I (by omega) (by omega)]
      cases b with
      | false =>
        have e : rk (pC σC) c false v w = false := by simp [rk, a1]
        rw [bI_f, if_pos rfl, jlet_v, ct_f e, ct_t hp, cast_s]
      | true =>
        rw [bI_t, if_neg (by omega), jc_II (by omega) (by omega) (by omega) (by omega)]
        by_cases a2 : w < v
        · have := key.mpr a2
          rw [if_pos (by omega), jc_ix (by omega) (by omega), jc_ix (by omega) (by omega), jc_LL (by omega) (by omega) (by omega) (by omega)]
          by_cases a3 : c w = c v
          · have e : rk (pC σC) c true v w = true := by simp [rk, hp, a2, a3]
            rw [if_pos a3, jlet_v, jlet_v, ct_t e, ct_t hp, cast_s, cast_s]
          · have e : rk (pC σC) c true v w = false := by simp [rk, a1, a3]
            rw [if_neg a3, jlet_v, ct_f e, ct_t hp, cast_s]
        · have : ¬ ct (pC σC) w < ct (pC σC) v := fun z => a2 (key.mp z)
          have e : rk (pC σC) c true v w = false := by simp [rk, a1, a2]
          rw [if_neg (by omega), jlet_v, ct_f e, ct_t hp, cast_s]
  · rintro w s hw hp rfl
    have e : rk (pC σC) c b v w = false := by simp [rk, hp]
    rw [ct_f hp, ct_f e]
  · rintro s rfl
    refine ⟨_, ?_, rfl⟩
    have := ct_le (pC σC) 24
    show f_X10_rankOf_b5 τ ((ct (pC σC) v : Nat) : Int) (bI b) _ ((ct (pC σC) 24 : Nat) : Int) = _
    rw [f_X10_rankOf_b5, hC 1 (by decide), hm, jc_II (by omega) (by omega) (by omega) (by omega), if_neg (by omega)]
/-- of those that count, those of the least cost among all below n -/
def lc (p : Nat → Bool) (c : Nat → Int) (n v : Nat) : Bool := decide (p v = true ∧ ∀ u, u < n → p u = true → c v ≤ c u)
theorem lc_rk {p : Nat → Bool} {c : Nat → Int} {v : Nat} (hp : p v = true) : (ct (rk p c false v) 24 = 0) ↔ lc p c 24 v = true := by
  rw [ct_zero]
  simp only [lc, rk, decide_eq_true_eq, Bool.false_and, Bool.or_false, Bool.and_eq_false_iff, decide_eq_false_iff_not]
  constructor
  · intro z
    refine ⟨hp, fun u hu pu => ?_⟩
    rcases z u hu with z | z
    · rw [z] at pu; cases pu
    · omega
  · intro z u hu
    cases pu : p u with
    | false => exact Or.inl rfl
    | true =>
      right
      have := z.2 u hu pu
      omega
theorem servC {σC σM τ : St} (h : Rw σC σM) {c : Nat → Int} (hC : ∀ k, k ≠ 69 → τ k = σC k) (hc : ∀ w, w < 24 → pC σC w = true → τ 69 (ct (pC σC) w) = c w) (hr : ∀ w, w < 24 → -1000000000000 ≤ c w ∧ c w ≤ 2000000000000) (fuel : Nat) (hf : 24 < fuel) : jloop (fun (q : (Int × Int)) => match q with | (x4, x5) => f_X10_serves_b25 τ x4 x5) fuel (0, 0) = some ((nb (lc (pC σC) c 24) 24 : Nat) : Int) := by
  have hm := h.many
  refine some_of (J := fun e => e = ((nb (lc (pC σC) c 24) 24 : Nat) : Int)) (loopC (pC σC) (I := fun w s => s = (((nb (lc (pC σC) c 24) w : Nat) : Int), ((ct (pC σC) w : Nat) : Int))) (J := _) ?_ ?_ ?_ 24 0 fuel _ (by omega) (by omega) rfl) (fun _ z => z)
  · rintro w s hw hp rfl
    left
    obtain ⟨c1, c2⟩ := h.ct24 hw hp
    refine ⟨_, ?_, rfl⟩
    show f_X10_serves_b25 τ ((nb (lc (pC σC) c 24) w : Nat) : Int) ((ct (pC σC) w : Nat) : Int) = _
    have rs := rank_spec h hC hc hr false hw hp 1000 (by omega)
    have rl := ct_le (rk (pC σC) c false w) 24
    rw [f_X10_serves_b25, hC 1 (by decide), hm, jc_II (by omega) (by omega) (by omega) (by omega), if_pos (by omega), f_X10_rankOf, f_X10_rankOf_b0, jlet_v, jlet_v]
    rw [bI_f] at rs
    rw [rs, jbind_s, jbind_s, jc_I (by omega) (by omega)]
    cases e : lc (pC σC) c 24 w with
    | true =>
      have := (lc_rk (c := c) hp).mpr e
      rw [if_pos (by omega), jc_ix (by omega) (by omega), jlet_v, jlet_v, cast_n, hC 2 (by decide), h.kth hw hp, jor_nb hw e, ct_t hp, cast_s]
    | false =>
      have : ct (rk (pC σC) c false w) 24 ≠ 0 := fun z => by
        rw [(lc_rk (c := c) hp).mp z] at e
        cases e
      rw [if_neg (by omega), jlet_v, nb_f e, ct_t hp, cast_s]
  · rintro w s hw hp rfl
    have e : lc (pC σC) c 24 w = false := by simp [lc, hp]
    rw [ct_f hp, nb_f e]
  · rintro s rfl
    refine ⟨_, ?_, rfl⟩
    have := ct_le (pC σC) 24
    show f_X10_serves_b25 τ _ ((ct (pC σC) 24 : Nat) : Int) = _
    rw [f_X10_serves_b25, hC 1 (by decide), hm, jc_II (by omega) (by omega) (by omega) (by omega), if_neg (by omega)]
theorem nb_24 {S : Nat → Bool} {w : Nat} (hw : w ≤ 24) : nb S w < 2147483648 := Nat.lt_of_lt_of_le (nb_lt S w) (Nat.le_trans (Nat.pow_le_pow_right (by omega) hw) (by decide))
theorem lc_iff {p : Nat → Bool} {c : Nat → Int} {n v : Nat} : lc p c n v = true ↔ (p v = true ∧ ∀ u, u < n → p u = true → c v ≤ c u) := by simp [lc]
theorem lc_same {p : Nat → Bool} {c : Nat → Int} {w v v0 : Nat} (h0 : v0 < w) (hm : lc p c w v0 = true) (hv : v < w) (hle : c v0 ≤ c w) : lc p c (w + 1) v = lc p c w v := by
  have e : lc p c (w + 1) v = true ↔ lc p c w v = true := by
    rw [lc_iff] at hm
    rw [lc_iff, lc_iff]
    refine ⟨fun z => ⟨z.1, fun u hu => z.2 u (by omega)⟩, fun z => ⟨z.1, fun u hu pu => ?_⟩⟩
    by_cases e : u = w
    · rw [e]
      have := z.2 v0 h0 hm.1
      omega
    · exact z.2 u (by omega) pu
  cases a : lc p c (w + 1) v with
  | true => exact (e.mp a).symm
  | false =>
    cases b : lc p c w v with
    | false => rfl
    | true => rw [e.mpr b] at a; cases a
theorem servM {σC σM : St} (h : Rw σC σM) {x y q : Int} (hx : inI x) (hy : inI y) (hq : inI q) (hr : ∀ w, w < 24 → -1000000000000 ≤ cst σC x y q w ∧ cst σC x y q w ≤ 2000000000000) (fuel : Nat) (hf : 24 < fuel) : jloop (fun (q' : (Int × Int × Int)) => match q' with | (x4, x5, x7) => f_X11_serves_b21 σM x y q x4 x5 x7) fuel (0, 0, 0) = some ((nb (lc (pC σC) (cst σC x y q) 24) 24 : Nat) : Int) := by
  refine some_of (J := fun e => e = ((nb (lc (pC σC) (cst σC x y q) 24) 24 : Nat) : Int)) (jloop_ex (I := fun w s => s.1 = ((nb (lc (pC σC) (cst σC x y q) w) w : Nat) : Int) ∧ s.2.2 = (w : Int) ∧ ((∀ v, v < w → pC σC v = false) ∨ ∃ v, v < w ∧ lc (pC σC) (cst σC x y q) w v = true ∧ s.2.1 = cst σC x y q v)) (N := 24) (J := _) ?_ ?_ 24 0 fuel _ (by omega) (by omega) ⟨rfl, rfl, Or.inl fun v hv => absurd hv (Nat.not_lt_zero v)⟩) (fun _ z => z)
  · rintro w ⟨f, l, _⟩ hw ⟨rfl, rfl, i3⟩
    dsimp only at i3
    show ∃ s', f_X11_serves_b21 σM x y q ((nb (lc (pC σC) (cst σC x y q) w) w : Nat) : Int) l (w : Int) = some (.inl s') ∧ _
    have hl := nb_24 (S := lc (pC σC) (cst σC x y q) w) (w := w) (by omega)
    rw [f_X11_serves_b21, jc_II (by omega) (by omega) (by omega) (by omega), if_pos (by omega), h.cnM hw, jbind_s]
    cases hp : pC σC w with
    | false =>
      rw [bI_f, jc_I (by omega) (by omega), if_pos rfl, jlet_v, cast_s]
      refine ⟨_, rfl, ?_, rfl, ?_⟩
      · dsimp only
        have e : lc (pC σC) (cst σC x y q) (w + 1) w = false := by simp [lc, hp]
        rw [nb_f e, nb_cong (fun v hv => ?_)]
        have e : lc (pC σC) (cst σC x y q) (w + 1) v = true ↔ lc (pC σC) (cst σC x y q) w v = true := by
          rw [lc_iff, lc_iff]
          refine ⟨fun z => ⟨z.1, fun u hu => z.2 u (by omega)⟩, fun z => ⟨z.1, fun u hu pu => ?_⟩⟩
          by_cases e : u = w
          · rw [e, hp] at pu; cases pu
          · exact z.2 u (by omega) pu
        cases a : lc (pC σC) (cst σC x y q) (w + 1) v with
        | true => exact e.mp a
        | false =>
          cases b : lc (pC σC) (cst σC x y q) w v with
          | false => rfl
          | true => rw [e.mpr b] at a; cases a
      · rcases i3 with i3 | ⟨v, hv, i4, i5⟩
        · left
          intro v hv
          by_cases e : v = w
          · rw [e, hp]
          · exact i3 v (by omega)
        · right
          refine ⟨v, by omega, ?_, i5⟩
          rw [lc_iff] at i4 ⊢
          refine ⟨i4.1, fun u hu pu => ?_⟩
          by_cases e : u = w
          · rw [e, hp] at pu; cases pu
          · exact i4.2 u (by omega) pu
    | true =>
      have r1 := hr w hw
      rw [bI_t, jc_I (by omega) (by omega), if_neg (by omega), costM_spec h hx hy hq hw hp, jbind_s, jlet_v, jc_I (by omega) (by omega)]
      have anew : (∀ v, v < w → pC σC v = true → cst σC x y q w < cst σC x y q v) → ∃ s', f_X11_serves_b64 σM x y q (w : Int) (cst σC x y q w) = some (.inl s') ∧ s'.1 = ((nb (lc (pC σC) (cst σC x y q) (w + 1)) (w + 1) : Nat) : Int) ∧ s'.2.2 = ((w + 1 : Nat) : Int) ∧ ((∀ v, v < w + 1 → pC σC v = false) ∨ ∃ v, v < w + 1 ∧ lc (pC σC) (cst σC x y q) (w + 1) v = true ∧ s'.2.1 = cst σC x y q v) := by
        intro hlt
        have e1 : lc (pC σC) (cst σC x y q) (w + 1) w = true := by
          rw [lc_iff]
          refine ⟨hp, fun u hu pu => ?_⟩
          by_cases e : u = w
          · rw [e]; omega
          · have := hlt u (by omega) pu
            omega
        have e0 : nb (lc (pC σC) (cst σC x y q) (w + 1)) w = 0 := nb_zero fun v hv => by
          cases a : lc (pC σC) (cst σC x y q) (w + 1) v with
          | false => rfl
          | true =>
            rw [lc_iff] at a
            have := a.2 w (by omega) hp
            have := hlt v hv a.1
            omega
        have e2 := jor_nb hw e1
        rw [e0] at e2
        rw [f_X11_serves_b64, jlet_v, jlet_v, f_X11_serves_b71, jc_LL (by omega) (by omega) (by omega) (by omega), if_pos rfl, jlet_v, jlet_v, cast_s]
        exact ⟨_, rfl, e2, rfl, Or.inr ⟨w, by omega, e1, rfl⟩⟩
      rcases i3 with i3 | ⟨v, hv, i4, i5⟩
      · rw [nb_zero (fun v hv => by simp [lc, i3 v hv]), if_pos (by rfl)]
        exact anew (fun v hv pv => by rw [i3 v hv] at pv; cases pv)
      · have n0 := nb_pos hv i4
        have r2 := hr v (by omega)
        rw [if_neg (by omega), i5, jc_LL (by omega) (by omega) (by omega) (by omega)]
        have i4' := lc_iff.mp i4
        by_cases c1 : cst σC x y q w < cst σC x y q v
        · rw [if_pos c1]
          refine anew (fun u hu pu => ?_)
          have := i4'.2 u hu pu
          omega
        · rw [if_neg c1, f_X11_serves_b71, jc_LL (by omega) (by omega) (by omega) (by omega)]
          have same : nb (lc (pC σC) (cst σC x y q) (w + 1)) w = nb (lc (pC σC) (cst σC x y q) w) w := nb_cong (fun u hu => lc_same hv i4 hu (by omega))
          have kept : lc (pC σC) (cst σC x y q) (w + 1) v = true := by rw [lc_same hv i4 hv (by omega)]; exact i4
          by_cases c2 : cst σC x y q w = cst σC x y q v
          · have e1 : lc (pC σC) (cst σC x y q) (w + 1) w = true := by
              rw [lc_iff]
              refine ⟨hp, fun u hu pu => ?_⟩
              by_cases e : u = w
              · rw [e]; omega
              · have := i4'.2 u (by omega) pu
                omega
            rw [if_pos c2, jlet_v, jlet_v, cast_s, ← same, jor_nb hw e1]
            exact ⟨_, rfl, rfl, rfl, Or.inr ⟨v, by omega, kept, rfl⟩⟩
          · have e1 : lc (pC σC) (cst σC x y q) (w + 1) w = false := by
              cases a : lc (pC σC) (cst σC x y q) (w + 1) w with
              | false => rfl
              | true =>
                have := (lc_iff.mp a).2 v (by omega) i4'.1
                omega
            rw [if_neg c2, jlet_v, cast_s, ← same, ← nb_f e1]
            exact ⟨_, rfl, rfl, rfl, Or.inr ⟨v, by omega, kept, rfl⟩⟩
  · rintro ⟨f, l, _⟩ ⟨rfl, rfl, -⟩
    refine ⟨_, ?_, rfl⟩
    show f_X11_serves_b21 σM x y q _ l ((24 : Nat) : Int) = _
    rw [f_X11_serves_b21, jc_II (by omega) (by omega) (by omega) (by omega), if_neg (by omega)]
theorem serves_eq {σC σM : St} (h : Rw σC σM) {x y q : Int} (hx : inI x) (hy : inI y) (hq : inI q) : ∃ v τC, f_X10_serves σC x y q = some (v, τC) ∧ f_X11_serves σM x y q = some v ∧ ∀ k, k ≠ 69 → τC k = σC k := by
  rcases isPt_both h hx hy hq with ⟨p0, p1, p2⟩ | ⟨p0, p1, p2⟩
  · obtain ⟨τ, t0, t1, t2⟩ := tell_spec h hx hy hq 1000 (by omega)
    have hr : ∀ w, w < 24 → _ := fun w hw => cst_rng h p0 (w := w) hw
    refine ⟨((nb (lc (pC σC) (cst σC x y q) 24) 24 : Nat) : Int), τ, ?_, ?_, t1⟩
    · rw [f_X10_serves, f_X10_serves_b0, p1, jbind_s, jc_I (by omega) (by omega), if_neg (by omega), f_X10_tellCosts, f_X10_tellCosts_b0, jlet_v, t0, jbind_s, jbind_s, jlet_v, jlet_v, servC h t1 t2 hr 1000 (by omega), jbind_s]
    · rw [f_X11_serves, f_X11_serves_b0, p2, jbind_s, jc_I (by omega) (by omega), if_neg (by omega), jlet_v, jlet_v, jlet_v, servM h hx hy hq hr 1000 (by omega), jbind_s]
  · refine ⟨-1, σC, ?_, ?_, fun _ _ => rfl⟩
    · rw [f_X10_serves, f_X10_serves_b0, p1, jbind_s, jc_I (by omega) (by omega), if_pos rfl]
    · rw [f_X11_serves, f_X11_serves_b0, p2, jbind_s, jc_I (by omega) (by omega), if_pos rfl]
theorem aheadM {σC σM : St} (h : Rw σC σM) {x y q k : Int} (hx : inI x) (hy : inI y) (hq : inI q) (hr : ∀ w, w < 24 → -1000000000000 ≤ cst σC x y q w ∧ cst σC x y q w ≤ 2000000000000) {w : Nat} (hw : w < 24) (pw : pC σC w = true) (fuel : Nat) (hf : 24 < fuel) : jloop (fun (q' : (Int × Int)) => match q' with | (x6, x7) => f_X11_next_b45 σM x y q k (w : Int) x6 x7) fuel (0, 0) = some ((ct (rk (pC σC) (cst σC x y q) true w) 24 : Nat) : Int) := by
  refine jloop_for0 (g := fun a => (((ct (rk (pC σC) (cst σC x y q) true w) a : Nat) : Int), (a : Int))) (N := 24) (e := _) rfl hf (fun a ha => ?_) ?_
  · show f_X11_next_b45 σM x y q k (w : Int) ((ct (rk (pC σC) (cst σC x y q) true w) a : Nat) : Int) (a : Int) = _
    rw [f_X11_next_b45, jc_II (by omega) (by omega) (by omega) (by omega), if_pos (by omega), jc_II (by omega) (by omega) (by omega) (by omega)]
    by_cases e : a = w
    · have e1 : rk (pC σC) (cst σC x y q) true w a = false := by simp [rk, e]
      rw [if_pos (by omega), jlet_v, ct_f e1, cast_s]
    · rw [if_neg (by omega), h.cnM ha, jbind_s]
      cases hp : pC σC a with
      | false =>
        have e1 : rk (pC σC) (cst σC x y q) true w a = false := by simp [rk, hp]
        rw [bI_f, jc_I (by omega) (by omega), if_pos rfl, jlet_v, ct_f e1, cast_s]
      | true =>
        have r1 := hr a ha
        have r2 := hr w hw
        rw [bI_t, jc_I (by omega) (by omega), if_neg (by omega), costM_spec h hx hy hq ha hp, jbind_s, costM_spec h hx hy hq hw pw, jbind_s, jlet_v, jc_LL (by omega) (by omega) (by omega) (by omega)]
        by_cases c1 : cst σC x y q a < cst σC x y q w
        · have e1 : rk (pC σC) (cst σC x y q) true w a = true := by simp [rk, hp, c1]
          rw [if_pos (by omega), jlet_v, jlet_v, ct_t e1, cast_s, cast_s]
        · rw [if_neg (by omega), jc_LL (by omega) (by omega) (by omega) (by omega)]
          by_cases c2 : cst σC x y q a = cst σC x y q w
          · rw [if_pos (by omega), jc_II (by omega) (by omega) (by omega) (by omega)]
            by_cases c3 : a < w
            · have e1 : rk (pC σC) (cst σC x y q) true w a = true := by simp [rk, hp, c2, c3]
              rw [if_pos (by omega), jlet_v, jlet_v, ct_t e1, cast_s, cast_s]
            · have e1 : rk (pC σC) (cst σC x y q) true w a = false := by simp [rk, c1, c3]
              rw [if_neg (by omega), jlet_v, ct_f e1, cast_s]
          · have e1 : rk (pC σC) (cst σC x y q) true w a = false := by simp [rk, c1, c2]
            rw [if_neg (by omega), jlet_v, ct_f e1, cast_s]
  · show f_X11_next_b45 σM x y q k (w : Int) _ ((24 : Nat) : Int) = _
    rw [f_X11_next_b45, jc_II (by omega) (by omega) (by omega) (by omega), if_neg (by omega)]
/-- the well that is k-th by cost -/
def isK (p : Nat → Bool) (c : Nat → Int) (k : Int) (w : Nat) : Prop := p w = true ∧ ((ct (rk p c true w) 24 : Nat) : Int) = k
theorem next_both {σC σM τ : St} (h : Rw σC σM) {x y q k : Int} (hx : inI x) (hy : inI y) (hq : inI q) (hk : inI k) (hr : ∀ w, w < 24 → -1000000000000 ≤ cst σC x y q w ∧ cst σC x y q w ≤ 2000000000000) (hC : ∀ k, k ≠ 69 → τ k = σC k) (hc : ∀ w, w < 24 → pC σC w = true → τ 69 (ct (pC σC) w) = cst σC x y q w) (fuel : Nat) (hf : 24 < fuel) : ((∀ w, w < 24 → ¬ isK (pC σC) (cst σC x y q) k w) ∧ jloop (fun (x5 : Int) => f_X10_next_b22 τ k x5) fuel 0 = some (.inr ()) ∧ jloop (fun (x5 : Int) => f_X11_next_b20 σM x y q k x5) fuel 0 = some (.inr ())) ∨ ∃ m : Nat, m < 24 ∧ isK (pC σC) (cst σC x y q) k m ∧ jloop (fun (x5 : Int) => f_X10_next_b22 τ k x5) fuel 0 = some (.inl ((ct (pC σC) m : Nat) : Int)) ∧ jloop (fun (x5 : Int) => f_X11_next_b20 σM x y q k x5) fuel 0 = some (.inl (m : Int)) := by
  obtain ⟨k1, k2⟩ := hk
  have hm := h.many
  have h24 := ct_le (pC σC) 24
  have stC : ∀ w, w < 24 → pC σC w = true → f_X10_next_b22 τ k ((ct (pC σC) w : Nat) : Int) = if ((ct (rk (pC σC) (cst σC x y q) true w) 24 : Nat) : Int) = k then some (.inr (.inl ((ct (pC σC) w : Nat) : Int))) else some (.inl ((ct (pC σC) (w + 1) : Nat) : Int)) := by
    intro w hw hp
    obtain ⟨c1, c2⟩ := h.ct24 hw hp
    have rs := rank_spec h hC hc hr true hw hp 1000 (by omega)
    have rl := ct_le (rk (pC σC) (cst σC x y q) true w) 24
    rw [bI_t] at rs
    rw [f_X10_next_b22, hC 1 (by decide), hm, jc_II (by omega) (by omega) (by omega) (by omega), if_pos (by omega), f_X10_rankOf, f_X10_rankOf_b0, jlet_v, jlet_v, rs, jbind_s, jbind_s, jc_II (by omega) (by omega) (by omega) (by omega), jlet_v, ct_t hp, cast_s]
  have stM : ∀ w, w < 24 → pC σC w = true → f_X11_next_b20 σM x y q k (w : Int) = if ((ct (rk (pC σC) (cst σC x y q) true w) 24 : Nat) : Int) = k then some (.inr (.inl (w : Int))) else some (.inl ((w + 1 : Nat) : Int)) := by
    intro w hw hp
    have rl := ct_le (rk (pC σC) (cst σC x y q) true w) 24
    rw [f_X11_next_b20, jc_II (by omega) (by omega) (by omega) (by omega), if_pos (by omega), h.cnM hw, hp, bI_t, jbind_s, jc_I (by omega) (by omega), if_neg (by omega), jlet_v, jlet_v, aheadM h hx hy hq hr hw hp 1000 (by omega), jbind_s, jc_II (by omega) (by omega) (by omega) (by omega), jlet_v, cast_s]
  have stM0 : ∀ w, w < 24 → pC σC w = false → f_X11_next_b20 σM x y q k (w : Int) = some (.inl ((w + 1 : Nat) : Int)) := by
    intro w hw hp
    rw [f_X11_next_b20, jc_II (by omega) (by omega) (by omega) (by omega), if_pos (by omega), h.cnM hw, hp, bI_f, jbind_s, jc_I (by omega) (by omega), if_pos rfl, jlet_v, cast_s]
  rcases first_or (isK (pC σC) (cst σC x y q) k) 24 with z | ⟨m, hm', z1, z2⟩
  · refine Or.inl ⟨z, ?_, ?_⟩
    · refine some_of (J := fun e => e = .inr ()) (loopC (pC σC) (I := fun w s => s = ((ct (pC σC) w : Nat) : Int)) (J := _) ?_ ?_ ?_ 24 0 fuel _ (by omega) (by omega) rfl) (fun _ z => z)
      · rintro w s hw hp rfl
        exact Or.inl ⟨_, (stC w hw hp).trans (if_neg (fun e => z w hw ⟨hp, e⟩)), rfl⟩
      · rintro w s hw hp rfl
        rw [ct_f hp]
      · rintro s rfl
        refine ⟨_, ?_, rfl⟩
        rw [f_X10_next_b22, hC 1 (by decide), hm, jc_II (by omega) (by omega) (by omega) (by omega), if_neg (by omega)]
    · refine jloop_for0 (g := fun a => (a : Int)) (N := 24) (e := _) rfl hf (fun a ha => ?_) ?_
      · cases hp : pC σC a with
        | true => rw [stM a ha hp, if_neg (fun e => z a ha ⟨hp, e⟩)]
        | false => rw [stM0 a ha hp]
      · show f_X11_next_b20 σM x y q k ((24 : Nat) : Int) = _
        rw [f_X11_next_b20, jc_II (by omega) (by omega) (by omega) (by omega), if_neg (by omega)]
  · refine Or.inr ⟨m, hm', z1, ?_, ?_⟩
    · refine some_of (J := fun e => e = .inl ((ct (pC σC) m : Nat) : Int)) (loopC (pC σC) (I := fun w s => w ≤ m ∧ s = ((ct (pC σC) w : Nat) : Int)) (J := _) ?_ ?_ ?_ 24 0 fuel _ (by omega) (by omega) ⟨by omega, rfl⟩) (fun _ z => z)
      · rintro w s hw hp ⟨h1, rfl⟩
        by_cases e : w = m
        · right
          rw [e]
          exact ⟨_, (stC m hm' z1.1).trans (if_pos z1.2), rfl⟩
        · exact Or.inl ⟨_, (stC w hw hp).trans (if_neg (fun e' => z2 w (by omega) ⟨hp, e'⟩)), by omega, rfl⟩
      · rintro w s hw hp ⟨h1, rfl⟩
        refine ⟨?_, by rw [ct_f hp]⟩
        by_cases e : w = m
        · rw [e, z1.1] at hp; cases hp
        · omega
      · rintro s ⟨h1, -⟩
        omega
    · refine jloop_for0 (g := fun a => (a : Int)) (N := m) (e := _) rfl (by omega) (fun a ha => ?_) ?_
      · cases hp : pC σC a with
        | true => rw [stM a (by omega) hp, if_neg (fun e => z2 a ha ⟨hp, e⟩)]
        | false => rw [stM0 a (by omega) hp]
      · rw [stM m hm' z1.1, if_pos z1.2]
theorem next_eq {σC σM : St} (h : Rw σC σM) {x y q k : Int} (hx : inI x) (hy : inI y) (hq : inI q) (hk : inI k) : ∃ v τC, f_X10_next σC x y q k = some (v, τC) ∧ f_X11_next σM x y q k = some v ∧ ∀ k, k ≠ 69 → τC k = σC k := by
  rcases isPt_both h hx hy hq with ⟨p0, p1, p2⟩ | ⟨p0, p1, p2⟩
  · obtain ⟨τ, t0, t1, t2⟩ := tell_spec h hx hy hq 1000 (by omega)
    have hr : ∀ w, w < 24 → _ := fun w hw => cst_rng h p0 (w := w) hw
    have hk' := hk
    obtain ⟨k1, k2⟩ := hk
    rcases next_both h hx hy hq hk' hr t1 t2 1000 (by omega) with ⟨z, e1, e2⟩ | ⟨m, hm, z, e1, e2⟩
    · refine ⟨-1, τ, ?_, ?_, t1⟩
      · rw [f_X10_next, f_X10_next_b0, p1, jbind_s, jc_I (by omega) (by omega), if_neg (by omega), f_X10_tellCosts, f_X10_tellCosts_b0, jlet_v, t0, jbind_s, jbind_s, jlet_v, e1, jbind_s]
      · rw [f_X11_next, f_X11_next_b0, p2, jbind_s, jc_I (by omega) (by omega), if_neg (by omega), jc_I (by omega) (by omega)]
        by_cases c : k < 0
        · rw [if_pos c]
        · rw [if_neg c, jlet_v, e2, jbind_s]
    · obtain ⟨c1, c2⟩ := h.ct24 hm z.1
      have hk0 := z.2
      refine ⟨(m : Int), τ, ?_, ?_, t1⟩
      · rw [f_X10_next, f_X10_next_b0, p1, jbind_s, jc_I (by omega) (by omega), if_neg (by omega), f_X10_tellCosts, f_X10_tellCosts_b0, jlet_v, t0, jbind_s, jbind_s, jlet_v, e1, jbind_s]
        dsimp only
        rw [jc_ix (by omega) (by omega), cast_n, t1 2 (by decide), h.kth hm z.1]
      · rw [f_X11_next, f_X11_next_b0, p2, jbind_s, jc_I (by omega) (by omega), if_neg (by omega), jc_I (by omega) (by omega), if_neg (by omega), jlet_v, e2, jbind_s]
  · refine ⟨-1, σC, ?_, ?_, fun _ _ => rfl⟩
    · rw [f_X10_next, f_X10_next_b0, p1, jbind_s, jc_I (by omega) (by omega), if_pos rfl]
    · rw [f_X11_next, f_X11_next_b0, p2, jbind_s, jc_I (by omega) (by omega), if_pos rfl]
