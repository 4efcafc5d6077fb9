/-! ===== the pure side 20: hulls, the end ===== -/
theorem sqd_dt (σ : St) (a b : Nat) : sqd σ a b = dt (σ 3 b - σ 3 a) (σ 4 b - σ 4 a) (σ 3 b - σ 3 a) (σ 4 b - σ 4 a) := by
  unfold sqd dt
  grind
theorem trn_cr (σ : St) (a b c : Nat) : trn σ a b c = cr (σ 3 b - σ 3 a) (σ 4 b - σ 4 a) (σ 3 c - σ 3 a) (σ 4 c - σ 4 a) := rfl
/-- a is a corner of the hull -/
def EX (σ : St) (a : Nat) : Prop := ∃ d1 d2, ∀ v, v < 24 → pC σ v = true → v ≠ a → HD d1 d2 (σ 3 v - σ 3 a) (σ 4 v - σ 4 a)
theorem Rw.apart {σC σM : St} (h : Rw σC σM) {u v : Nat} (hu : u < 24) (hv : v < 24) (pu : pC σC u = true) (pv : pC σC v = true) (hne : u ≠ v) : σC 3 u - σC 3 v ≠ 0 ∨ σC 4 u - σC 4 v ≠ 0 := by
  by_cases c : σC 3 u = σC 3 v ∧ σC 4 u = σC 4 v
  · exact absurd (h.1.2.2.2 u v hu hv (pC_here pu) (pC_here pv) c.1 c.2) hne
  · omega
theorem EX.start {σC σM : St} (h : Rw σC σM) {v : Nat} (hv : lp σC 24 = (v : Int)) : v < 24 ∧ pC σC v = true ∧ EX σC v := by
  rcases lp_rng σC 24 with ⟨z, -⟩ | ⟨u, hu, pu, z, z2⟩
  · omega
  · have e : u = v := by omega
    subst e
    refine ⟨hu, pu, 0, -1, fun w hw pw hne => ?_⟩
    have := z2 w hw pw
    have := h.apart hw hu pw pu hne
    unfold HD cr dt
    omega
theorem EX.scan {σC σM : St} (h : Rw σC σM) {a : Nat} (hE : EX σC a) : ∀ n, n ≤ 24 → (rm σC a n = -1 ∧ ∀ u, u < n → pC σC u = true → u = a) ∨ ∃ v : Nat, v < n ∧ pC σC v = true ∧ v ≠ a ∧ rm σC a n = (v : Int) ∧ ∀ u, u < n → pC σC u = true → u ≠ a → NB (σC 3 v - σC 3 a) (σC 4 v - σC 4 a) (σC 3 u - σC 3 a) (σC 4 u - σC 4 a)
  | 0, _ => Or.inl ⟨rfl, fun u hu => absurd hu (Nat.not_lt_zero u)⟩
  | n + 1, hn => by
    have ih := EX.scan h hE n (by omega)
    obtain ⟨d1, d2, hd⟩ := hE
    have self : ∀ x y : Int, NB x y x y := fun x y => Or.inr ⟨by unfold cr; grind, Int.le_refl _⟩
    rw [rm]
    rcases ih with ⟨z1, z2⟩ | ⟨v, hv, pv, va, z1, z2⟩
    · rw [z1]
      by_cases c : pC σC n = true ∧ n ≠ a
      · rw [if_pos ⟨c.1, c.2, Or.inl rfl⟩]
        refine Or.inr ⟨n, by omega, c.1, c.2, rfl, fun u hu pu ua => ?_⟩
        by_cases e : u = n
        · rw [e]; exact self _ _
        · exact absurd (z2 u (by omega) pu) ua
      · rw [if_neg (fun z => c ⟨z.1, z.2.1⟩)]
        refine Or.inl ⟨rfl, fun u hu pu => ?_⟩
        by_cases e : u = n
        · by_cases e2 : u = a
          · exact e2
          · rw [e] at pu e2
            exact absurd ⟨pu, e2⟩ c
        · exact z2 u (by omega) pu
    · rw [z1, cast_n]
      have hv' := hd v (by omega) pv va
      by_cases c : pC σC n = true ∧ n ≠ a ∧ ((v : Int) = -1 ∨ trn σC a v n < 0 ∨ (trn σC a v n = 0 ∧ sqd σC a v < sqd σC a n))
      · rw [if_pos c]
        obtain ⟨pn, na, c⟩ := c
        have hn' := hd n (by omega) pn na
        have c2 : trn σC a v n < 0 ∨ (trn σC a v n = 0 ∧ sqd σC a v < sqd σC a n) := by omega
        rw [sqd_dt, sqd_dt, trn_cr] at c2
        refine Or.inr ⟨n, by omega, pn, na, rfl, fun u hu pu ua => ?_⟩
        by_cases e : u = n
        · rw [e]; exact self _ _
        · exact NB.step hv' hn' (hd u (by omega) pu ua) (z2 u (by omega) pu ua) c2
      · rw [if_neg c]
        refine Or.inr ⟨v, by omega, pv, va, rfl, fun u hu pu ua => ?_⟩
        by_cases e : u = n
        · rw [e] at pu ua ⊢
          have : ¬ (trn σC a v n < 0 ∨ (trn σC a v n = 0 ∧ sqd σC a v < sqd σC a n)) := fun z => c ⟨pu, ua, Or.inr z⟩
          rw [sqd_dt, sqd_dt, trn_cr] at this
          unfold NB
          omega
        · exact z2 u (by omega) pu ua
theorem EX.next {σC σM : St} (h : Rw σC σM) {a w : Nat} (ha : a < 24) (pa : pC σC a = true) (hE : EX σC a) (hw : rm σC a 24 = (w : Int)) : w < 24 ∧ pC σC w = true ∧ w ≠ a ∧ EX σC w := by
  rcases EX.scan h hE 24 (by omega) with ⟨z, -⟩ | ⟨v, hv, pv, va, z1, z2⟩
  · omega
  · have e : v = w := by omega
    subst e
    refine ⟨hv, pv, va, σC 3 v - σC 3 a, σC 4 v - σC 4 a, fun u hu pu uv => ?_⟩
    have np := dt_pos (h.apart hv ha pv pa va)
    have e1 : cr (σC 3 v - σC 3 a) (σC 4 v - σC 4 a) (σC 3 u - σC 3 v) (σC 4 u - σC 4 v) = cr (σC 3 v - σC 3 a) (σC 4 v - σC 4 a) (σC 3 u - σC 3 a) (σC 4 u - σC 4 a) := by unfold cr; grind
    have e2 : dt (σC 3 v - σC 3 a) (σC 4 v - σC 4 a) (σC 3 u - σC 3 v) (σC 4 u - σC 4 v) = dt (σC 3 v - σC 3 a) (σC 4 v - σC 4 a) (σC 3 u - σC 3 a) (σC 4 u - σC 4 a) - dt (σC 3 v - σC 3 a) (σC 4 v - σC 4 a) (σC 3 v - σC 3 a) (σC 4 v - σC 4 a) := by unfold dt; grind
    unfold HD
    rw [e1, e2]
    by_cases ua : u = a
    · subst ua
      right
      have e3 : cr (σC 3 v - σC 3 u) (σC 4 v - σC 4 u) (σC 3 u - σC 3 u) (σC 4 u - σC 4 u) = 0 := by unfold cr; grind
      have e4 : dt (σC 3 v - σC 3 u) (σC 4 v - σC 4 u) (σC 3 u - σC 3 u) (σC 4 u - σC 4 u) = 0 := by unfold dt; grind
      omega
    · rcases z2 u hu pu ua with y | ⟨y, y2⟩
      · exact Or.inl y
      · obtain ⟨d1, d2, hd⟩ := hE
        have pos := (hd v hv pv va).same (hd u hu pu ua) y
        have ne := h.apart hu hv pu pv uv
        have := far_lt y pos y2 (by omega) np
        right
        omega
theorem EX.inj {σC σM : St} (h : Rw σC σM) {a b w : Nat} (ha : a < 24) (hb : b < 24) (pa : pC σC a = true) (pb : pC σC b = true) (hA : EX σC a) (hB : EX σC b) (wa : rm σC a 24 = (w : Int)) (wb : rm σC b 24 = (w : Int)) : a = b := by
  by_cases e : a = b
  · exact e
  · exfalso
    rcases EX.scan h hA 24 (by omega) with ⟨z, -⟩ | ⟨v, hv, pv, va, z1, z2⟩
    · omega
    have e1 : v = w := by omega
    subst e1
    rcases EX.scan h hB 24 (by omega) with ⟨z, -⟩ | ⟨v', hv', pv', vb, y1, y2⟩
    · omega
    have e2 : v' = v := by omega
    subst e2
    have n1 := z2 b hb pb (fun z => e z.symm)
    have n2 := y2 a ha pa e
    have s : cr (σC 3 v' - σC 3 b) (σC 4 v' - σC 4 b) (σC 3 a - σC 3 b) (σC 4 a - σC 4 b) = - cr (σC 3 v' - σC 3 a) (σC 4 v' - σC 4 a) (σC 3 b - σC 3 a) (σC 4 b - σC 4 a) := by unfold cr; grind
    unfold NB at n1 n2
    rw [s] at n2
    have c0 : cr (σC 3 v' - σC 3 a) (σC 4 v' - σC 4 a) (σC 3 b - σC 3 a) (σC 4 b - σC 4 a) = 0 := by omega
    obtain ⟨d1, d2, hd⟩ := hA
    obtain ⟨d3, d4, hd'⟩ := hB
    have pos := (hd v' hv pv va).same (hd b hb pb (fun z => e z.symm)) c0
    have pos2 := (hd' v' hv pv vb).same (hd' a ha pa e) (by rw [s, c0]; rfl)
    have np := dt_pos (h.apart hv ha pv pa va)
    have ne := h.apart hv hb pv pb vb
    have lt := far_lt c0 pos (by omega) (by omega) np
    have e3 : dt (σC 3 v' - σC 3 b) (σC 4 v' - σC 4 b) (σC 3 a - σC 3 b) (σC 4 a - σC 4 b) = dt (σC 3 b - σC 3 a) (σC 4 b - σC 4 a) (σC 3 b - σC 3 a) (σC 4 b - σC 4 a) - dt (σC 3 v' - σC 3 a) (σC 4 v' - σC 4 a) (σC 3 b - σC 3 a) (σC 4 b - σC 4 a) := by unfold dt; grind
    have i1 := idB (σC 3 v' - σC 3 a) (σC 4 v' - σC 4 a) (σC 3 b - σC 3 a) (σC 4 b - σC 4 a) (σC 3 b - σC 3 a) (σC 4 b - σC 4 a)
    rw [c0, Int.mul_zero, Int.add_zero] at i1
    generalize dt (σC 3 v' - σC 3 a) (σC 4 v' - σC 4 a) (σC 3 b - σC 3 a) (σC 4 b - σC 4 a) = A at *
    generalize dt (σC 3 v' - σC 3 a) (σC 4 v' - σC 4 a) (σC 3 v' - σC 3 a) (σC 4 v' - σC 4 a) = P at *
    generalize dt (σC 3 b - σC 3 a) (σC 4 b - σC 4 a) (σC 3 b - σC 3 a) (σC 4 b - σC 4 a) = Q at *
    have k1 := Int.mul_pos (show 0 < Q - A by omega) (show 0 < A by omega)
    have k2 := Int.mul_pos (show 0 < P - A by omega) (show 0 < Q by omega)
    rw [Int.sub_mul] at k1 k2
    have c1 := Int.mul_comm A Q
    have c2 := Int.mul_comm P Q
    omega
/-- the way round -/
def orb (σ : St) : Nat → Int
  | 0 => lp σ 24
  | n + 1 => if orb σ n = -1 then -1 else rm σ (orb σ n).toNat 24
theorem orb_E {σC σM : St} (h : Rw σC σM) : ∀ n, orb σC n = -1 ∨ ∃ v : Nat, v < 24 ∧ pC σC v = true ∧ orb σC n = (v : Int) ∧ EX σC v
  | 0 => by
    rcases lp_rng σC 24 with ⟨z, -⟩ | ⟨u, hu, pu, z, -⟩
    · exact Or.inl z
    · obtain ⟨e1, e2, e3⟩ := EX.start h z
      exact Or.inr ⟨u, e1, e2, z, e3⟩
  | n + 1 => by
    rw [orb]
    rcases orb_E h n with z | ⟨v, hv, pv, z, hE⟩
    · rw [if_pos z]; exact Or.inl rfl
    · rw [z, if_neg (by omega), cast_n]
      rcases rm_in σC v 24 with y | ⟨u, hu, pu, uv, y⟩
      · exact Or.inl y
      · obtain ⟨e1, e2, e3, e4⟩ := EX.next h hv pv hE y
        exact Or.inr ⟨u, e1, e2, y, e4⟩
theorem orb_inj {σC σM : St} (h : Rw σC σM) {i j : Nat} (hi : orb σC (i + 1) ≠ -1) (e : orb σC (i + 1) = orb σC (j + 1)) : orb σC i = orb σC j := by
  have hj : orb σC (j + 1) ≠ -1 := by rw [← e]; exact hi
  rcases orb_E h i with z | ⟨v, hv, pv, z, hE⟩
  · exact absurd (by rw [orb, if_pos z]) hi
  rcases orb_E h j with y | ⟨u, hu, pu, y, hF⟩
  · exact absurd (by rw [orb, if_pos y]) hj
  rw [orb, z, if_neg (by omega), cast_n] at hi e
  rw [orb, y, if_neg (by omega), cast_n] at e
  rcases rm_in σC v 24 with q | ⟨w, hw, pw, wv, q⟩
  · exact absurd q hi
  · rw [z, y, EX.inj h hv hu pv pu hE hF q (by rw [← e, q])]
/-- the way round ends here -/
def orbEnd (σ : St) (n : Nat) : Prop := orb σ n = -1 ∨ (0 < n ∧ orb σ n = orb σ 0)
def seen (f : Nat → Int) : Nat → Nat → Bool
  | 0, _ => false
  | k + 1, w => seen f k w || decide (f k = (w : Int))
theorem seen_iff {f : Nat → Int} {w : Nat} : ∀ {k : Nat}, seen f k w = true ↔ ∃ i, i < k ∧ f i = (w : Int)
  | 0 => ⟨fun z => absurd z (by simp [seen]), fun z => by
    obtain ⟨i, hi, -⟩ := z
    exact absurd hi (Nat.not_lt_zero i)⟩
  | k + 1 => by
    simp only [seen, Bool.or_eq_true, decide_eq_true_eq, seen_iff (k := k)]
    constructor
    · rintro (⟨i, hi, e⟩ | e)
      · exact ⟨i, by omega, e⟩
      · exact ⟨k, by omega, e⟩
    · rintro ⟨i, hi, e⟩
      by_cases c : i = k
      · rw [c] at e; exact Or.inr e
      · exact Or.inl ⟨i, by omega, e⟩
/-- no more than 24 different wells -/
theorem pigeon {f : Nat → Int} (h : ∀ i, i < 25 → ∃ v : Nat, v < 24 ∧ f i = (v : Int)) (hd : ∀ i j, i < j → j < 25 → f i ≠ f j) : False := by
  have key : ∀ k, k ≤ 25 → ct (seen f k) 24 = k := by
    intro k
    induction k with
    | zero => intro _; exact ct_zero.mpr (fun _ _ => rfl)
    | succ k ih =>
      intro hk
      obtain ⟨v, hv, e⟩ := h k (by omega)
      have n0 : seen f k v = false := by
        cases c : seen f k v with
        | false => rfl
        | true =>
          obtain ⟨i, hi, e2⟩ := seen_iff.mp c
          exact absurd (by rw [e2, e]) (hd i k hi (by omega))
      rw [ct_add2 (p := seen f k) (m := v) n0 (by simp [seen, e]) 24 (fun w hw hne => by
        have : f k ≠ (w : Int) := by rw [e]; omega
        simp [seen, this]) hv, ih (by omega)]
  have := key 25 (by omega)
  have := ct_le (seen f 25) 24
  omega
theorem orb_len {σC σM : St} (h : Rw σC σM) : ∃ L, L ≤ 24 ∧ orbEnd σC L ∧ ∀ i, i < L → ¬ orbEnd σC i := by
  rcases first_or (orbEnd σC) 25 with z | ⟨L, h1, h2, h3⟩
  · exfalso
    refine pigeon (f := orb σC) (fun i hi => ?_) ?_
    · rcases orb_E h i with y | ⟨v, hv, -, y, -⟩
      · exact absurd (Or.inl y) (z i hi)
      · exact ⟨v, hv, y⟩
    · intro i
      induction i with
      | zero => intro j h1 h2 e; exact z j h2 (Or.inr ⟨h1, e.symm⟩)
      | succ i ih =>
        intro j h1 h2 e
        obtain ⟨j', rfl⟩ : ∃ j', j = j' + 1 := ⟨j - 1, by omega⟩
        exact ih j' (by omega) (by omega) (orb_inj h (fun y => z (i + 1) (by omega) (Or.inl y)) e)
  · exact ⟨L, by omega, h2, h3⟩
theorem sqd_cC {σ τ : St} (hC : ∀ k, k < 7 → τ k = σ k) : sqd τ = sqd σ := by
  funext a b
  unfold sqd
  rw [hC 3 (by omega), hC 4 (by omega)]
theorem trn_cC {σ τ : St} (hC : ∀ k, k < 7 → τ k = σ k) : trn τ = trn σ := by
  funext a b c
  unfold trn
  rw [hC 3 (by omega), hC 4 (by omega)]
theorem lp_cC {σ τ : St} (hC : ∀ k, k < 7 → τ k = σ k) : ∀ n, lp τ n = lp σ n
  | 0 => rfl
  | n + 1 => by rw [lp, lp, lp_cC hC n, pC_cC hC, hC 3 (by omega), hC 4 (by omega)]
theorem rm_cC {σ τ : St} (hC : ∀ k, k < 7 → τ k = σ k) (a : Nat) : ∀ n, rm τ a n = rm σ a n
  | 0 => rfl
  | n + 1 => by rw [rm, rm, rm_cC hC a n, pC_cC hC, trn_cC hC, sqd_cC hC]
theorem orb_cC {σ τ : St} (hC : ∀ k, k < 7 → τ k = σ k) : ∀ n, orb τ n = orb σ n
  | 0 => lp_cC hC 24
  | n + 1 => by rw [orb, orb, orb_cC hC n, rm_cC hC]
theorem orbEnd_cC {σ τ : St} (hC : ∀ k, k < 7 → τ k = σ k) (n : Nat) : orbEnd τ n ↔ orbEnd σ n := by
  unfold orbEnd
  rw [orb_cC hC, orb_cC hC]
/-- the component's hull is right -/
def HullOK (σ : St) : Prop := ∃ L : Nat, L ≤ 24 ∧ orbEnd σ L ∧ (∀ i, i < L → ¬ orbEnd σ i) ∧ σ 65 2 = (L : Int) ∧ ∀ i, i < L → σ 66 i = orb σ i
theorem wrap_loop {σC σM τ0 : St} (h : Rw σC σM) {L : Nat} (hL : L ≤ 24) (hE : orbEnd σC L) (hn : ∀ i, i < L → ¬ orbEnd σC i) (hC : ∀ k, k ≠ 65 → k ≠ 66 → τ0 k = σC k) (h2 : τ0 65 2 = 0) (fuel : Nat) (hf : 24 < fuel) : ∃ τ, jloop (fun (q : (St × Int × Int)) => match q with | (σ, x2, x3) => f_X2_wrapOnce_b40 σ (lp σC 24) x2 x3) fuel (τ0, lp σC 24, 0) = some τ ∧ (∀ k, k ≠ 65 → k ≠ 66 → τ k = σC k) ∧ τ 65 1 = τ0 65 1 ∧ τ 65 2 = (L : Int) ∧ ∀ i, i < L → τ 66 i = orb σC i := by
  refine jloop_ex (I := fun i s => s.2.2 = (i : Int) ∧ s.2.1 = (if i = L then -1 else orb σC i) ∧ (∀ k, k ≠ 65 → k ≠ 66 → s.1 k = σC k) ∧ s.1 65 1 = τ0 65 1 ∧ s.1 65 2 = (i : Int) ∧ ∀ j, j < i → s.1 66 j = orb σC j) (N := L) (J := _) ?_ ?_ L 0 fuel _ (by omega) (by omega) ⟨rfl, ?_, hC, rfl, h2, fun j hj => absurd hj (Nat.not_lt_zero j)⟩
  · rintro i ⟨τ, _, _⟩ hi ⟨rfl, rfl, i1, i2, i3, i4⟩
    dsimp only at i1 i2 i3 i4
    show ∃ s', f_X2_wrapOnce_b40 τ (lp σC 24) (if i = L then -1 else orb σC i) (i : Int) = some (.inl s') ∧ _
    rcases orb_E h i with z | ⟨v, hv, pv, z, -⟩
    · exact absurd (Or.inl z) (hn i hi)
    rw [if_neg (by omega), z]
    have nx : orb σC (i + 1) = rm σC v 24 := by rw [orb, z, if_neg (by omega), cast_n]
    have rr : -1 ≤ rm σC v 24 ∧ rm σC v 24 < 24 := by
      rcases rm_in σC v 24 with y | ⟨u, hu, -, -, y⟩ <;> omega
    have lr : -1 ≤ lp σC 24 ∧ lp σC 24 < 24 := by
      rcases lp_rng σC 24 with ⟨y, -⟩ | ⟨u, hu, -, y, -⟩ <;> omega
    have iU : ∀ k, k ≠ 65 → k ≠ 66 → up2 (up2 τ 66 i (v : Int)) 65 2 ((i : Int) + 1) k = σC k := fun k h1 h2 => by rw [up2_k h1, up2_k h2, i1 k h1 h2]
    have hT : Rw (up2 (up2 τ 66 i (v : Int)) 65 2 ((i : Int) + 1)) σM := h.cC (fun k hk => iU k (by omega) (by omega))
    have rs := rmC hT hv 1000 (by omega)
    rw [rm_cC (fun k hk => iU k (by omega) (by omega))] at rs
    have st : f_X2_wrapOnce_b40 τ (lp σC 24) (v : Int) (i : Int) = some (.inl (up2 (up2 τ 66 i (v : Int)) 65 2 ((i : Int) + 1), (if rm σC v 24 = lp σC 24 then -1 else rm σC v 24), ((i + 1 : Nat) : Int))) := by
      rw [f_X2_wrapOnce_b40, jc_II (by omega) (by omega) (by omega) (by omega), if_pos (by omega), jc_II (by omega) (by omega) (by omega) (by omega), if_neg (by omega), i3, jc_ix (by omega) (by omega), cast_n, jlet_v, up2_k (k' := 65) (by decide), i3, jlet_v, f_X2_rightmostFrom, f_X2_rightmostFrom_b0, jlet_v, jlet_v, rs, jbind_s, jbind_s, jlet_v, jc_II (by omega) (by omega) (by omega) (by omega)]
      by_cases c : rm σC v 24 = lp σC 24
      · rw [if_pos c, jlet_v, jlet_v, if_pos c, cast_s]
      · rw [if_neg c, jlet_v, jlet_v, if_neg c, cast_s]
    refine ⟨_, st, rfl, ?_, iU, ?_, ?_, ?_⟩
    · dsimp only
      rw [← nx]
      have e0 : lp σC 24 = orb σC 0 := rfl
      by_cases c : i + 1 = L
      · rw [if_pos c]
        rw [← c] at hE
        rcases hE with y | ⟨-, y⟩
        · rw [y]; split <;> rfl
        · rw [y, e0, if_pos rfl]
      · rw [if_neg c, e0, if_neg (fun y => hn (i + 1) (by omega) (Or.inr ⟨by omega, y⟩))]
    · dsimp only
      rw [up2_j (by decide), up2_k (k' := 65) (by decide), i2]
    · dsimp only
      rw [up2_same]
      omega
    · intro j hj
      dsimp only
      rw [up2_k (k' := 66) (by decide)]
      by_cases e : j = i
      · rw [e, up2_same, z]
      · rw [up2_j e]
        exact i4 j (by omega)
  · rintro ⟨τ, _, _⟩ ⟨rfl, rfl, i1, i2, i3, i4⟩
    refine ⟨τ, ?_, i1, i2, i3, i4⟩
    show f_X2_wrapOnce_b40 τ (lp σC 24) (if L = L then -1 else orb σC L) (L : Int) = _
    rw [if_pos rfl, f_X2_wrapOnce_b40, jc_II (by omega) (by omega) (by omega) (by omega)]
    by_cases c : L < 24
    · rw [if_pos (by omega), jc_II (by omega) (by omega) (by omega) (by omega), if_pos rfl]
    · rw [if_neg (by omega)]
  · dsimp only
    by_cases c : 0 = L
    · rw [if_pos c]
      rw [← c] at hE
      rcases hE with y | ⟨y, -⟩
      · exact y
      · omega
    · rw [if_neg c]
      rfl
theorem wrap_spec {σC σM : St} (h : Rw σC σM) (h1 : inI (σC 65 1)) (h2 : inI (σC 1 6)) (hc : σC 65 1 = σC 1 6 → HullOK σC) : ∃ τ, f_X2_wrapOnce σC = some τ ∧ (∀ k, k ≠ 65 → k ≠ 66 → τ k = σC k) ∧ τ 65 1 = σC 1 6 ∧ HullOK τ := by
  obtain ⟨a1, a2⟩ := h1
  obtain ⟨b1, b2⟩ := h2
  by_cases c : σC 65 1 = σC 1 6
  · refine ⟨σC, ?_, fun _ _ _ => rfl, c, hc c⟩
    rw [f_X2_wrapOnce, f_X2_wrapOnce_b0, jc_II (by omega) (by omega) (by omega) (by omega), if_pos c]
  · have i1 : ∀ k, k ≠ 65 → k ≠ 66 → up2 (up2 σC 65 1 (σC 1 6)) 65 2 0 k = σC k := fun k h1 h2 => by rw [up2_k h1, up2_k h1]
    have hT : Rw (up2 (up2 σC 65 1 (σC 1 6)) 65 2 0) σM := h.cC (fun k hk => i1 k (by omega) (by omega))
    have ls := lpC hT 1000 (by omega)
    rw [lp_cC (fun k hk => i1 k (by omega) (by omega))] at ls
    obtain ⟨L, l1, l2, l3⟩ := orb_len h
    obtain ⟨τ, t0, t1, t2, t3, t4⟩ := wrap_loop h l1 l2 l3 i1 up2_same 1000 (by omega)
    have cc : ∀ k, k < 7 → τ k = σC k := fun k hk => t1 k (by omega) (by omega)
    refine ⟨τ, ?_, t1, ?_, L, l1, (orbEnd_cC cc L).mpr l2, fun i hi z => l3 i hi ((orbEnd_cC cc i).mp z), t3, fun i hi => by rw [orb_cC cc]; exact t4 i hi⟩
    · rw [f_X2_wrapOnce, f_X2_wrapOnce_b0, jc_II (by omega) (by omega) (by omega) (by omega), if_neg c, jlet_v, jlet_v, f_X2_leastPlace, f_X2_leastPlace_b0, jlet_v, jlet_v, ls, jbind_s, jbind_s, jlet_v, jlet_v, jlet_v, t0, jbind_s]
    · rw [t2, up2_j (by decide), up2_same]
theorem hullM_loop {σC σM τ0 : St} (h : Rw σC σM) {L : Nat} (hL : L ≤ 24) (hE : orbEnd σC L) (hn : ∀ i, i < L → ¬ orbEnd σC i) (hM : ∀ k, k ≠ 0 → k ≠ 28 → τ0 k = σM k) (h0 : ∀ j, j ≠ 49 → τ0 0 j = σM 0 j) (h49 : τ0 0 49 = 0) (fuel : Nat) (hf : 24 < fuel) : ∃ τ, jloop (fun (q : (St × Int)) => match q with | (σ, x2) => f_X11_hull_b86 σ (lp σC 24) x2) fuel (τ0, lp σC 24) = some τ ∧ (∀ k, k ≠ 0 → k ≠ 28 → τ k = σM k) ∧ (∀ j, j ≠ 49 → τ 0 j = σM 0 j) ∧ τ 0 49 = (L : Int) ∧ ∀ i, i < L → τ 28 i = orb σC i := by
  have lr : -1 ≤ lp σC 24 ∧ lp σC 24 < 24 := by
    rcases lp_rng σC 24 with ⟨y, -⟩ | ⟨u, hu, -, y, -⟩ <;> omega
  refine jloop_ex (I := fun i s => s.2 = orb σC i ∧ (∀ k, k ≠ 0 → k ≠ 28 → s.1 k = σM k) ∧ (∀ j, j ≠ 49 → s.1 0 j = σM 0 j) ∧ s.1 0 49 = (i : Int) ∧ ∀ j, j < i → s.1 28 j = orb σC j) (N := L) (J := _) ?_ ?_ L 0 fuel _ (by omega) (by omega) ⟨rfl, hM, h0, h49, fun j hj => absurd hj (Nat.not_lt_zero j)⟩
  · rintro i ⟨τ, _⟩ hi ⟨rfl, i1, i2, i3, i4⟩
    dsimp only at i1 i2 i3 i4
    show ∃ s', f_X11_hull_b86 τ (lp σC 24) (orb σC i) = some (.inl s') ∧ _
    rcases orb_E h i with z | ⟨v, hv, pv, z, -⟩
    · exact absurd (Or.inl z) (hn i hi)
    have nx : orb σC (i + 1) = rm σC v 24 := by rw [orb, z, if_neg (by omega), cast_n]
    have iU : ∀ k, k ≠ 0 → k ≠ 28 → up2 (up2 τ 28 i (v : Int)) 0 49 ((i : Int) + 1) k = σM k := fun k h1 h2 => by rw [up2_k h1, up2_k h2, i1 k h1 h2]
    have iV : ∀ j, j ≠ 49 → up2 (up2 τ 28 i (v : Int)) 0 49 ((i : Int) + 1) 0 j = σM 0 j := fun j hj => by rw [up2_j hj, up2_k (k' := 0) (by decide), i2 j hj]
    have hT : Rw σC (up2 (up2 τ 28 i (v : Int)) 0 49 ((i : Int) + 1)) := h.cM (fun k h1 h2 => iU k (by omega) (by omega)) (iV 0 (by decide)) (iV 1 (by decide)) (iV 2 (by decide))
    have rs := rmM hT hv pv (x1 := lp σC 24) 1000 (by omega)
    have st : f_X11_hull_b103 τ (lp σC 24) (v : Int) = some (.inl (up2 (up2 τ 28 i (v : Int)) 0 49 ((i : Int) + 1), rm σC v 24)) := by
      rw [f_X11_hull_b103, i3, jc_ix (by omega) (by omega), cast_n, jlet_v, up2_k (k' := 0) (by decide), i3, jlet_v, jlet_v, jlet_v, rs, jbind_s, jlet_v]
    have st2 : f_X11_hull_b86 τ (lp σC 24) (orb σC i) = f_X11_hull_b103 τ (lp σC 24) (v : Int) := by
      rw [z, f_X11_hull_b86, jc_II (by omega) (by omega) (by omega) (by omega), if_neg (by omega), i3, jc_I (by omega) (by omega)]
      by_cases c : i = 0
      · rw [if_pos (by omega)]
      · rw [if_neg (by omega), jc_II (by omega) (by omega) (by omega) (by omega), if_neg (fun y => hn i hi (Or.inr ⟨by omega, by rw [z, y]; rfl⟩))]
    refine ⟨_, st2.trans st, ?_, iU, iV, ?_, ?_⟩
    · dsimp only
      rw [nx]
    · dsimp only
      rw [up2_same]
      omega
    · intro j hj
      dsimp only
      rw [up2_k (k' := 28) (by decide)]
      by_cases e : j = i
      · rw [e, up2_same, z]
      · rw [up2_j e]
        exact i4 j (by omega)
  · rintro ⟨τ, _⟩ ⟨rfl, i1, i2, i3, i4⟩
    refine ⟨τ, ?_, i1, i2, i3, i4⟩
    dsimp only at i3
    show f_X11_hull_b86 τ (lp σC 24) (orb σC L) = _
    rcases hE with y | ⟨y1, y2⟩
    · rw [y, f_X11_hull_b86, jc_II (by omega) (by omega) (by omega) (by omega), if_pos rfl]
    · have e0 : orb σC 0 = lp σC 24 := rfl
      rw [y2, e0, f_X11_hull_b86, jc_II (by omega) (by omega) (by omega) (by omega)]
      by_cases c : lp σC 24 = -1
      · rw [if_pos c]
      · rw [if_neg c, i3, jc_I (by omega) (by omega), if_neg (by omega), jc_II (by omega) (by omega) (by omega) (by omega), if_pos rfl]
theorem hullM_spec {σC σM : St} (h : Rw σC σM) {L : Nat} (hL : L ≤ 24) (hE : orbEnd σC L) (hn : ∀ i, i < L → ¬ orbEnd σC i) : ∃ τ, f_X11_hull σM = some ((L : Int), τ) ∧ (∀ k, k ≠ 0 → k ≠ 28 → τ k = σM k) ∧ (∀ j, j ≠ 49 → τ 0 j = σM 0 j) ∧ ∀ i, i < L → τ 28 i = orb σC i := by
  have hT : Rw σC (up2 σM 0 49 0) := h.cM (fun k h1 h2 => up2_k (by omega)) (up2_j (by decide)) (up2_j (by decide)) (up2_j (by decide))
  obtain ⟨τ, t0, t1, t2, t3, t4⟩ := hullM_loop h hL hE hn (τ0 := up2 σM 0 49 0) (fun k h1 h2 => up2_k h1) (fun j hj => up2_j hj) up2_same 1000 (by omega)
  refine ⟨τ, ?_, t1, t2, t4⟩
  rw [f_X11_hull, f_X11_hull_b0, jlet_v, jlet_v, jlet_v, lpM hT 1000 (by omega), jbind_s, jlet_v, t0, jbind_s, t3]
theorem hull_eq {σC σM : St} (h : Rw σC σM) (h1 : inI (σC 65 1)) (h2 : inI (σC 1 6)) (hc : σC 65 1 = σC 1 6 → HullOK σC) : ∃ v τC τM, f_X10_hull σC = some (v, τC) ∧ f_X11_hull σM = some (v, τM) ∧ (∀ k, k ≠ 65 → k ≠ 66 → τC k = σC k) ∧ τC 65 1 = σC 1 6 ∧ HullOK τC ∧ (∀ k, k ≠ 0 → k ≠ 28 → τM k = σM k) ∧ (∀ j, j ≠ 49 → τM 0 j = σM 0 j) := by
  obtain ⟨τ, t0, t1, t2, t3⟩ := wrap_spec h h1 h2 hc
  have t3' := t3
  obtain ⟨L, l1, l2, l3, l4, l5⟩ := t3
  have cc : ∀ k, k < 7 → τ k = σC k := fun k hk => t1 k (by omega) (by omega)
  obtain ⟨υ, u0, u1, u2, u3⟩ := hullM_spec h l1 ((orbEnd_cC cc L).mp l2) (fun i hi z => l3 i hi ((orbEnd_cC cc i).mpr z))
  refine ⟨(L : Int), τ, υ, ?_, u0, t1, t2, t3', u1, u2⟩
  rw [f_X10_hull, f_X10_hull_b0, t0, jbind_s, l4]
theorem around_eq {σC σM : St} (h : Rw σC σM) (h1 : inI (σC 65 1)) (h2 : inI (σC 1 6)) (hc : σC 65 1 = σC 1 6 → HullOK σC) {k : Int} (hk : inI k) : ∃ v τC τM, f_X10_around σC k = some (v, τC) ∧ f_X11_around σM k = some (v, τM) ∧ (∀ k, k ≠ 65 → k ≠ 66 → τC k = σC k) ∧ τC 65 1 = σC 1 6 ∧ HullOK τC ∧ (∀ k, k ≠ 0 → k ≠ 28 → τM k = σM k) ∧ (∀ j, j ≠ 49 → τM 0 j = σM 0 j) := by
  obtain ⟨k1, k2⟩ := hk
  obtain ⟨τ, t0, t1, t2, t3⟩ := wrap_spec h h1 h2 hc
  have t3' := t3
  obtain ⟨L, l1, l2, l3, l4, l5⟩ := t3
  have cc : ∀ k, k < 7 → τ k = σC k := fun k hk => t1 k (by omega) (by omega)
  obtain ⟨υ, u0, u1, u2, u3⟩ := hullM_spec h l1 ((orbEnd_cC cc L).mp l2) (fun i hi z => l3 i hi ((orbEnd_cC cc i).mpr z))
  by_cases c1 : k < 0
  · refine ⟨-1, τ, σM, ?_, ?_, t1, t2, t3', fun _ _ _ => rfl, fun _ _ => rfl⟩
    · rw [f_X10_around, f_X10_around_b0, t0, jbind_s, jc_I (by omega) (by omega), if_pos c1]
    · rw [f_X11_around, f_X11_around_b0, jc_I (by omega) (by omega), if_pos c1]
  by_cases c2 : k < (L : Int)
  · obtain ⟨i, rfl⟩ : ∃ i : Nat, k = (i : Int) := ⟨k.toNat, by omega⟩
    refine ⟨orb σC i, τ, υ, ?_, ?_, t1, t2, t3', u1, u2⟩
    · rw [f_X10_around, f_X10_around_b0, t0, jbind_s, jc_I (by omega) (by omega), if_neg c1, l4, jc_II (by omega) (by omega) (by omega) (by omega), if_pos c2, jc_ix (by omega) (by omega), cast_n, l5 i (by omega), orb_cC cc]
    · rw [f_X11_around, f_X11_around_b0, jc_I (by omega) (by omega), if_neg c1, u0, jbind_s]
      dsimp only
      rw [jc_II (by omega) (by omega) (by omega) (by omega), if_pos c2, jc_ix (by omega) (by omega), cast_n, u3 i (by omega)]
  · refine ⟨-1, τ, υ, ?_, ?_, t1, t2, t3', u1, u2⟩
    · rw [f_X10_around, f_X10_around_b0, t0, jbind_s, jc_I (by omega) (by omega), if_neg c1, l4, jc_II (by omega) (by omega) (by omega) (by omega), if_neg c2]
    · rw [f_X11_around, f_X11_around_b0, jc_I (by omega) (by omega), if_neg c1, u0, jbind_s]
      dsimp only
      rw [jc_II (by omega) (by omega) (by omega) (by omega), if_neg c2]
