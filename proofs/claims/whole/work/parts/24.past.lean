/-! ===== the pure side 4: what is remembered ===== -/
theorem remember_spec {σ : St} {p q : Nat} (h0 : σ 7 0 = (p : Int)) (h1 : σ 7 1 = (q : Int)) (hp : p ≤ 8) (hq : q < 8) : ∃ τ, f_X5_remember σ = some τ ∧ Fr wr_X5_remember σ τ ∧ τ 7 0 = (if p = 8 then 8 else (p : Int) + 1) ∧ τ 7 1 = (((q + 1) % 8 : Nat) : Int) ∧ (∀ s, τ 8 s = if s = q then σ 1 0 else σ 8 s) ∧ (∀ s, τ 9 s = if s = q then σ 1 1 else σ 9 s) ∧ (∀ j, τ 10 j = if q * 24 ≤ j ∧ j < q * 24 + 24 then σ 3 (j - q * 24) else σ 10 j) ∧ (∀ j, τ 11 j = if q * 24 ≤ j ∧ j < q * 24 + 24 then σ 4 (j - q * 24) else σ 11 j) ∧ (∀ j, τ 12 j = if q * 24 ≤ j ∧ j < q * 24 + 24 then σ 5 (j - q * 24) else σ 12 j) ∧ (∀ j, τ 13 j = if q * 24 ≤ j ∧ j < q * 24 + 24 then σ 6 (j - q * 24) else σ 13 j) := by
  have e1 : ((q : Int) * 24).toNat = q * 24 := by omega
  have e2 : f_X5_remember σ = f_X5_remember_b116 (upr (upr (upr (upr (up2 (up2 σ 8 q (σ 1 0)) 9 q (σ 1 1)) 10 (va_cpy (σ 3) (σ 10) 0 (q * 24) 24)) 11 (va_cpy (σ 4) (σ 11) 0 (q * 24) 24)) 12 (va_cpy (σ 5) (σ 12) 0 (q * 24) 24)) 13 (va_cpy (σ 6) (σ 13) 0 (q * 24) 24)) (((q + 1) % 8 : Nat) : Int) := by
    rw [f_X5_remember, f_X5_remember_b0, jlet_v, h1, jc_ix (by omega) (by omega), jlet_v, cast_n]
    have c1 : ∀ {g : Nat → Int}, up2 σ 8 q (σ 1 0) 7 1 = (q : Int) := by
      intro g; rw [up2_k (by decide)]; exact h1
    rw [c1 (g := σ 0), jc_ix (by omega) (by omega), jlet_v, cast_n]
    rw [jchk_t ⟨by omega, by omega, by omega, by omega, by omega⟩, jlet_v, jchk_t ⟨by omega, by omega, by omega, by omega, by omega⟩, jlet_v, jchk_t ⟨by omega, by omega, by omega, by omega, by omega⟩, jlet_v, jchk_t ⟨by omega, by omega, by omega, by omega, by omega⟩, jlet_v, e1]
    simp only [upr_same, upr_ne, up2_k, ne_eq, Nat.reduceEqDiff, not_false_eq_true, h1]
    rw [jc_II (by omega) (by omega) (by omega) (by omega)]
    by_cases c : (q : Int) + 1 < 8
    · rw [if_pos c, show (((q + 1) % 8 : Nat) : Int) = (q : Int) + 1 by omega]; rfl
    · rw [if_neg c, show (((q + 1) % 8 : Nat) : Int) = 0 by omega]; rfl
  have e3 : ∀ (μ : St) (t : Int), μ 7 0 = (p : Int) → f_X5_remember_b116 μ t = some (up2 (up2 μ 7 1 t) 7 0 (if p = 8 then 8 else (p : Int) + 1)) := by
    intro μ t hm
    rw [f_X5_remember_b116, jlet_v, up2_j (by decide), hm, jc_II (by omega) (by omega) (by omega) (by omega), jlet_v]
    by_cases c : p = 8
    · rw [if_pos c, if_pos (by omega)]
    · rw [if_neg c, if_neg (by omega)]
  rw [e3 _ _ (by simp only [upr_ne, up2_k, ne_eq, Nat.reduceEqDiff, not_false_eq_true, h0])] at e2
  have e4 := fr_f_X5_remember e2
  refine ⟨_, e2, e4, up2_same, ?_, fun s => ?_, fun s => ?_, fun j => ?_, fun j => ?_, fun j => ?_, fun j => ?_⟩
  · rw [up2_j (by decide), up2_same]
  · simp [up2, upr, up1]
  · simp [up2, upr, up1]
  · simp [up2, upr, up1, va_cpy]
  · simp [up2, upr, up1, va_cpy]
  · simp [up2, upr, up1, va_cpy]
  · simp [up2, upr, up1, va_cpy]
/-- the model's rows go one down -/
def shR (σ : St) (i : Nat) : St := fun k j => if (k = 6 ∨ k = 7 ∨ k = 8 ∨ k = 9 ∨ k = 10) ∧ j < i then σ k (j + 24) else σ k j
theorem shR_step {σ : St} {a : Nat} : up2 (up2 (up2 (up2 (up2 (shR σ a) 6 a (σ 6 (a + 24))) 7 a (σ 7 (a + 24))) 8 a (σ 8 (a + 24))) 9 a (σ 9 (a + 24))) 10 a (σ 10 (a + 24)) = shR σ (a + 1) := by
  funext k j
  by_cases hj : j = a
  · subst hj
    by_cases h6 : k = 6
    · subst h6; simp [up2, upr, up1, shR]
    by_cases h7 : k = 7
    · subst h7; simp [up2, upr, up1, shR]
    by_cases h8 : k = 8
    · subst h8; simp [up2, upr, up1, shR]
    by_cases h9 : k = 9
    · subst h9; simp [up2, upr, up1, shR]
    by_cases h10 : k = 10
    · subst h10; simp [up2, upr, up1, shR]
    simp [up2, upr, up1, shR, h6, h7, h8, h9, h10]
  · have e : j < a + 1 ↔ j < a := by omega
    by_cases h6 : k = 6
    · subst h6; simp [up2, upr, up1, shR, hj, e]
    by_cases h7 : k = 7
    · subst h7; simp [up2, upr, up1, shR, hj, e]
    by_cases h8 : k = 8
    · subst h8; simp [up2, upr, up1, shR, hj, e]
    by_cases h9 : k = 9
    · subst h9; simp [up2, upr, up1, shR, hj, e]
    by_cases h10 : k = 10
    · subst h10; simp [up2, upr, up1, shR, hj, e]
    simp [up2, upr, up1, shR, h6, h7, h8, h9, h10]
theorem shR_up {σ : St} {a k : Nat} : shR σ a k (a + 24) = σ k (a + 24) := by
  unfold shR
  rw [if_neg (by omega)]
theorem shR_loop {σ : St} (hz : ∀ j, j < 192 → σ 6 j = 0 ∨ σ 6 j = 1) (fuel : Nat) (hf : 168 < fuel) : jloop (fun (q : (St × Int)) => match q with | (σ, x1) => f_X11_keeps_b11 σ x1) fuel (σ, 0) = some (shR σ 168) := by
  refine jloop_for0 (g := fun a => (shR σ a, (a : Int))) (N := 168) (e := _) ?_ hf (fun a ha => ?_) ?_
  · have : shR σ 0 = σ := by
      funext k j
      simp [shR]
    rw [this]; rfl
  · show f_X11_keeps_b11 (shR σ a) (a : Int) = _
    have e : ((a : Int) + 24).toNat = a + 24 := by omega
    rw [f_X11_keeps_b11, jc_II (by omega) (by omega) (by omega) (by omega), if_pos (by omega), jc_ix (by omega) (by omega), jchk_t ⟨by omega, by rw [e, shR_up]; exact hz _ (by omega)⟩, jlet_v, e, cast_n]
    simp only [jchk_t (show 0 ≤ (a : Int) + 24 ∧ (a : Int) + 24 < 192 by omega), jchk_t (show 0 ≤ (a : Int) ∧ (a : Int) < 192 by omega), jlet_v, up2_k, ne_eq, Nat.reduceEqDiff, not_false_eq_true, shR_up]
    rw [shR_step, cast_s]
  · show f_X11_keeps_b11 (shR σ 168) ((168 : Nat) : Int) = _
    rw [f_X11_keeps_b11, jc_II (by omega) (by omega) (by omega) (by omega), if_neg (by omega)]
def shS (σ : St) (i : Nat) : St := fun k j => if (k = 11 ∨ k = 12) ∧ j < i then σ k (j + 1) else σ k j
theorem shS_step {σ : St} {a : Nat} : up2 (up2 (shS σ a) 11 a (σ 11 (a + 1))) 12 a (σ 12 (a + 1)) = shS σ (a + 1) := by
  funext k j
  by_cases hj : j = a
  · subst hj
    by_cases h6 : k = 11
    · subst h6; simp [up2, upr, up1, shS]
    by_cases h7 : k = 12
    · subst h7; simp [up2, upr, up1, shS]
    simp [up2, upr, up1, shS, h6, h7]
  · have e : j < a + 1 ↔ j < a := by omega
    by_cases h6 : k = 11
    · subst h6; simp [up2, upr, up1, shS, hj, e]
    by_cases h7 : k = 12
    · subst h7; simp [up2, upr, up1, shS, hj, e]
    simp [up2, upr, up1, shS, h6, h7]
theorem shS_up {σ : St} {a k : Nat} : shS σ a k (a + 1) = σ k (a + 1) := by
  unfold shS
  rw [if_neg (by omega)]
theorem shS_loop {σ : St} (fuel : Nat) (hf : 7 < fuel) : jloop (fun (q : (St × Int)) => match q with | (σ, x1) => f_X11_keeps_b101 σ x1) fuel (σ, 0) = some (shS σ 7) := by
  refine jloop_for0 (g := fun a => (shS σ a, (a : Int))) (N := 7) (e := _) ?_ hf (fun a ha => ?_) ?_
  · have : shS σ 0 = σ := by
      funext k j
      simp [shS]
    rw [this]; rfl
  · show f_X11_keeps_b101 (shS σ a) (a : Int) = _
    have e : ((a : Int) + 1).toNat = a + 1 := by omega
    rw [f_X11_keeps_b101, jc_II (by omega) (by omega) (by omega) (by omega), if_pos (by omega), e, cast_n]
    simp only [jchk_t (show 0 ≤ (a : Int) + 1 ∧ (a : Int) + 1 < 8 by omega), jchk_t (show 0 ≤ (a : Int) ∧ (a : Int) < 8 by omega), jlet_v, up2_k, ne_eq, Nat.reduceEqDiff, not_false_eq_true, shS_up]
    rw [shS_step, cast_s]
  · show f_X11_keeps_b101 (shS σ 7) ((7 : Nat) : Int) = _
    rw [f_X11_keeps_b101, jc_II (by omega) (by omega) (by omega) (by omega), if_neg (by omega)]
/-- the model's wells go into its rows, at b -/
def inR (σ : St) (b i : Nat) : St := fun k j => if (k = 6 ∨ k = 7 ∨ k = 8 ∨ k = 9 ∨ k = 10) ∧ b ≤ j ∧ j < b + i then σ (k - 5) (j - b) else σ k j
theorem inR_step {σ : St} {a b : Nat} : up2 (up2 (up2 (up2 (up2 (inR σ b a) 6 (b + a) (σ 1 a)) 7 (b + a) (σ 2 a)) 8 (b + a) (σ 3 a)) 9 (b + a) (σ 4 a)) 10 (b + a) (σ 5 a) = inR σ b (a + 1) := by
  funext k j
  by_cases hj : j = b + a
  · subst hj
    by_cases h6 : k = 6
    · subst h6; simp [up2, upr, up1, inR]
    by_cases h7 : k = 7
    · subst h7; simp [up2, upr, up1, inR]
    by_cases h8 : k = 8
    · subst h8; simp [up2, upr, up1, inR]
    by_cases h9 : k = 9
    · subst h9; simp [up2, upr, up1, inR]
    by_cases h10 : k = 10
    · subst h10; simp [up2, upr, up1, inR]
    simp [up2, upr, up1, inR, h6, h7, h8, h9, h10]
  · have e : (b ≤ j ∧ j < b + (a + 1)) ↔ (b ≤ j ∧ j < b + a) := by omega
    by_cases h6 : k = 6
    · subst h6; simp [up2, upr, up1, inR, hj, e]
    by_cases h7 : k = 7
    · subst h7; simp [up2, upr, up1, inR, hj, e]
    by_cases h8 : k = 8
    · subst h8; simp [up2, upr, up1, inR, hj, e]
    by_cases h9 : k = 9
    · subst h9; simp [up2, upr, up1, inR, hj, e]
    by_cases h10 : k = 10
    · subst h10; simp [up2, upr, up1, inR, hj, e]
    simp [up2, upr, up1, inR, h6, h7, h8, h9, h10]
theorem inR_k {σ : St} {a b k : Nat} (h : k < 6 ∨ 10 < k) : inR σ b a k = σ k := by
  funext j
  unfold inR
  rw [if_neg (by omega)]
theorem inR_loop {σ : St} {p : Nat} (h8 : σ 0 8 = (p : Int)) (hp : p < 8) (hz : ∀ w, w < 24 → σ 1 w = 0 ∨ σ 1 w = 1) (fuel : Nat) (hf : 24 < fuel) : jloop (fun (q : (St × Int)) => match q with | (σ, x1) => f_X11_keeps_b149 σ x1) fuel (σ, 0) = some (inR σ (24 * p) 24) := by
  refine jloop_for0 (g := fun a => (inR σ (24 * p) a, (a : Int))) (N := 24) (e := _) ?_ hf (fun a ha => ?_) ?_
  · have : inR σ (24 * p) 0 = σ := by
      funext k j
      unfold inR
      rw [if_neg (by omega)]
    rw [this]; rfl
  · show f_X11_keeps_b149 (inR σ (24 * p) a) (a : Int) = _
    have e : (24 * (p : Int) + (a : Int)).toNat = 24 * p + a := by omega
    rw [f_X11_keeps_b149, jc_II (by omega) (by omega) (by omega) (by omega), if_pos (by omega), jlet_v, jc_ix (by omega) (by omega), inR_k (by omega), h8, inR_k (by omega), cast_n, jchk_t ⟨by omega, hz a ha⟩, jlet_v, e]
    simp only [jchk_t (show 0 ≤ (a : Int) ∧ (a : Int) < 24 by omega), jchk_t (show 0 ≤ 24 * (p : Int) + (a : Int) ∧ 24 * (p : Int) + (a : Int) < 192 by omega), jlet_v, up2_k, ne_eq, Nat.reduceEqDiff, not_false_eq_true]
    rw [inR_k (k := 2) (by omega), inR_k (k := 3) (by omega), inR_k (k := 4) (by omega), inR_k (k := 5) (by omega), inR_step, cast_s]
  · show f_X11_keeps_b149 (inR σ (24 * p) 24) ((24 : Nat) : Int) = _
    rw [f_X11_keeps_b149, jc_II (by omega) (by omega) (by omega) (by omega), if_neg (by omega)]
