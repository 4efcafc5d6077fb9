/-! ===== the pure side 4: what is remembered ===== -/
theorem remember_spec {σ : St} {p q : Nat} (h0 : σ 7 0 = (p : Int)) (h1 : σ 7 1 = (q : Int)) (hp : p ≤ 8) (hq : q < 8) : ∃ τ, f_X5_remember σ = some τ ∧ Fr wr_X5_remember σ τ ∧ τ 7 0 = (if p = 8 then 8 else (p : Int) + 1) ∧ τ 7 1 = (((q + 1) % 8 : Nat) : Int) ∧ (∀ s, τ 8 s = if s = q then σ 1 0 else σ 8 s) ∧ (∀ s, τ 9 s = if s = q then σ 1 1 else σ 9 s) ∧ (∀ j, τ 10 j = if q * 24 ≤ j ∧ j < q * 24 + 24 then σ 3 (j - q * 24) else σ 10 j) ∧ (∀ j, τ 11 j = if q * 24 ≤ j ∧ j < q * 24 + 24 then σ 4 (j - q * 24) else σ 11 j) ∧ (∀ j, τ 12 j = if q * 24 ≤ j ∧ j < q * 24 + 24 then σ 5 (j - q * 24) else σ 12 j) ∧ (∀ j, τ 13 j = if q * 24 ≤ j ∧ j < q * 24 + 24 then σ 6 (j - q * 24) else σ 13 j) := by
  have e1 : ((q : Int) * 24).toNat = q * 24 := by omega
  have e2 : f_X5_remember σ = f_X5_remember_b116 (upr (upr (upr (upr (up2 (up2 σ 8 q (σ 1 0)) 9 q (σ 1 1)) 10 (va_cpy (σ 3) (σ 10) 0 (q * 24) 24)) 11 (va_cpy (σ 4) (σ 11) 0 (q * 24) 24)) 12 (va_cpy (σ 5) (σ 12) 0 (q * 24) 24)) 13 (va_cpy (σ 6) (σ 13) 0 (q * 24) 24)) (((q + 1) % 8 : Nat) : Int) := by
    rw [f_X5_remember, f_X5_remember_b0, jlet_v, h1, jc_ix (by omega) (by omega), jlet_v, cast_n]
    have c1 : ∀ {g : Nat → Int}, up2 σ 8 q (σ 1 0) 7 1 = (q : Int) := by
      intro g; rw [up2_k (by decide)]; exact h1
    rw [c1 (g := σ 0), jc_ix (by omega) (by omega), jlet_v, cast_n]
    rw [jchk_t ⟨by omega, by omega, by omega, by omega, by omega⟩, jlet_v, jchk_t ⟨by omega, by omega, by omega, by omega, by omega⟩, jlet_v, jchk_t ⟨by omega, by omega, by omega, by omega, by omega⟩, jlet_v, jchk_t ⟨by omega, by omega, by omega, by omega, by omega⟩, jlet_v, e1]
    simp only [upr_same, upr_ne, up2_k, ne_eq, Nat.reduceEqDiff, not_false_eq_true, h1]
    rw [jc_II (by omega) (by omega) (by omega) (by omega)]
    by_cases c : (q : Int) + 1 < 8
    · rw [if_pos c, show (((q + 1) % 8 : Nat) : Int) = (q : Int) + 1 by omega]; rfl
    · rw [if_neg c, show (((q + 1) % 8 : Nat) : Int) = 0 by omega]; rfl
  have e3 : ∀ (μ : St) (t : Int), μ 7 0 = (p : Int) → f_X5_remember_b116 μ t = some (up2 (up2 μ 7 1 t) 7 0 (if p = 8 then 8 else (p : Int) + 1)) := by
    intro μ t hm
    rw [f_X5_remember_b116, jlet_v, up2_j (by decide), hm, jc_II (by omega) (by omega) (by omega) (by omega), jlet_v]
    by_cases c : p = 8
    · rw [if_pos c, if_pos (by omega)]
    · rw [if_neg c, if_neg (by omega)]
  rw [e3 _ _ (by simp only [upr_ne, up2_k, ne_eq, Nat.reduceEqDiff, not_false_eq_true, h0])] at e2
  have e4 := fr_f_X5_remember e2
  refine ⟨_, e2, e4, up2_same, ?_, fun s => ?_, fun s => ?_, fun j => ?_, fun j => ?_, fun j => ?_, fun j => ?_⟩
  · rw [up2_j (by decide), up2_same]
  · simp [up2, upr, up1]
  · simp [up2, upr, up1]
  · simp [up2, upr, up1, va_cpy]
  · simp [up2, upr, up1, va_cpy]
  · simp [up2, upr, up1, va_cpy]
  · simp [up2, upr, up1, va_cpy]
/-- the model's rows go one down -/
def shR (σ : St) (i : Nat) : St := fun k j => if (k = 6 ∨ k = 7 ∨ k = 8 ∨ k = 9 ∨ k = 10) ∧ j < i then σ k (j + 24) else σ k j
theorem shR_step {σ : St} {a : Nat} : up2 (up2 (up2 (up2 (up2 (shR σ a) 6 a (σ 6 (a + 24))) 7 a (σ 7 (a + 24))) 8 a (σ 8 (a + 24))) 9 a (σ 9 (a + 24))) 10 a (σ 10 (a + 24)) = shR σ (a + 1) := by
  funext k j
  by_cases hj : j = a
  · subst hj
    by_cases h6 : k = 6
    · subst h6; simp [up2, upr, up1, shR]
    by_cases h7 : k = 7
    · subst h7; simp [up2, upr, up1, shR]
    by_cases h8 : k = 8
    · subst h8; simp [up2, upr, up1, shR]
    by_cases h9 : k = 9
    · subst h9; simp [up2, upr, up1, shR]
    by_cases h10 : k = 10
    · subst h10; simp [up2, upr, up1, shR]
    simp [up2, upr, up1, shR, h6, h7, h8, h9, h10]
  · have e : j < a + 1 ↔ j < a := by omega
    by_cases h6 : k = 6
    · subst h6; simp [up2, upr, up1, shR, hj, e]
    by_cases h7 : k = 7
    · subst h7; simp [up2, upr, up1, shR, hj, e]
    by_cases h8 : k = 8
    · subst h8; simp [up2, upr, up1, shR, hj, e]
    by_cases h9 : k = 9
    · subst h9; simp [up2, upr, up1, shR, hj, e]
    by_cases h10 : k = 10
    · subst h10; simp [up2, upr, up1, shR, hj, e]
    simp [up2, upr, up1, shR, h6, h7, h8, h9, h10]
theorem shR_up {σ : St} {a k : Nat} : shR σ a k (a + 24) = σ k (a + 24) := by
  unfold shR
  rw [if_neg (by omega)]
theorem shR_loop {σ : St} (hz : ∀ j, j < 192 → σ 6 j = 0 ∨ σ 6 j = 1) (fuel : Nat) (hf : 168 < fuel) : jloop (fun (q : (St × Int)) => match q with | (σ, x1) => f_X11_keeps_b11 σ x1) fuel (σ, 0) = some (shR σ 168) := by
  refine jloop_for0 (g := fun a => (shR σ a, (a : Int))) (N := 168) (e := _) ?_ hf (fun a ha => ?_) ?_
  · have : shR σ 0 = σ := by
      funext k j
      simp [shR]
    rw [this]; rfl
  · show f_X11_keeps_b11 (shR σ a) (a : Int) = _
    have e : ((a : Int) + 24).toNat = a + 24 := by omega
    rw [f_X11_keeps_b11, jc_II (by omega) (by omega) (by omega) (by omega), if_pos (by omega), jc_ix (by omega) (by omega), jchk_t ⟨by omega, by rw [e, shR_up]; exact hz _ (by omega)⟩, jlet_v, e, cast_n]
    simp only [jchk_t (show 0 ≤ (a : Int) + 24 ∧ (a : Int) + 24 < 192 by omega), jchk_t (show 0 ≤ (a : Int) ∧ (a : Int) < 192 by omega), jlet_v, up2_k, ne_eq, Nat.reduceEqDiff, not_false_eq_true, shR_up]
    rw [shR_step, cast_s]
  · show f_X11_keeps_b11 (shR σ 168) ((168 : Nat) : Int) = _
    rw [f_X11_keeps_b11, jc_II (by omega) (by omega) (by omega) (by omega), if_neg (by omega)]
def shS (σ : St) (i : Nat) : St := fun k j => if (k = 11 ∨ k = 12) ∧ j < i then σ k (j + 1) else σ k j
theorem shS_step {σ : St} {a : Nat} : up2 (up2 (shS σ a) 11 a (σ 11 (a + 1))) 12 a (σ 12 (a + 1)) = shS σ (a + 1) := by
  funext k j
  by_cases hj : j = a
  · subst hj
    by_cases h6 : k = 11
    · subst h6; simp [up2, upr, up1, shS]
    by_cases h7 : k = 12
    · subst h7; simp [up2, upr, up1, shS]
    simp [up2, upr, up1, shS, h6, h7]
  · have e : j < a + 1 ↔ j < a := by omega
    by_cases h6 : k = 11
    · subst h6; simp [up2, upr, up1, shS, hj, e]
    by_cases h7 : k = 12
    · subst h7; simp [up2, upr, up1, shS, hj, e]
    simp [up2, upr, up1, shS, h6, h7]
theorem shS_up {σ : St} {a k : Nat} : shS σ a k (a + 1) = σ k (a + 1) := by
  unfold shS
  rw [if_neg (by omega)]
theorem shS_loop {σ : St} (fuel : Nat) (hf : 7 < fuel) : jloop (fun (q : (St × Int)) => match q with | (σ, x1) => f_X11_keeps_b101 σ x1) fuel (σ, 0) = some (shS σ 7) := by
  refine jloop_for0 (g := fun a => (shS σ a, (a : Int))) (N := 7) (e := _) ?_ hf (fun a ha => ?_) ?_
  · have : shS σ 0 = σ := by
      funext k j
      simp [shS]
    rw [this]; rfl
  · show f_X11_keeps_b101 (shS σ a) (a : Int) = _
    have e : ((a : Int) + 1).toNat = a + 1 := by omega
    rw [f_X11_keeps_b101, jc_II (by omega) (by omega) (by omega) (by omega), if_pos (by omega), e, cast_n]
    simp only [jchk_t (show 0 ≤ (a : Int) + 1 ∧ (a : Int) + 1 < 8 by omega), jchk_t (show 0 ≤ (a : Int) ∧ (a : Int) < 8 by omega), jlet_v, up2_k, ne_eq, Nat.reduceEqDiff, not_false_eq_true, shS_up]
    rw [shS_step, cast_s]
  · show f_X11_keeps_b101 (shS σ 7) ((7 : Nat) : Int) = _
    rw [f_X11_keeps_b101, jc_II (by omega) (by omega) (by omega) (by omega), if_neg (by omega)]
/-- the model's wells go into its rows, at b -/
def inR (σ : St) (b i : Nat) : St := fun k j => if (k = 6 ∨ k = 7 ∨ k = 8 ∨ k = 9 ∨ k = 10) ∧ b ≤ j ∧ j < b + i then σ (k - 5) (j - b) else σ k j
theorem inR_step {σ : St} {a b : Nat} : up2 (up2 (up2 (up2 (up2 (inR σ b a) 6 (b + a) (σ 1 a)) 7 (b + a) (σ 2 a)) 8 (b + a) (σ 3 a)) 9 (b + a) (σ 4 a)) 10 (b + a) (σ 5 a) = inR σ b (a + 1) := by
  funext k j
  by_cases hj : j = b + a
  · subst hj
    by_cases h6 : k = 6
    · subst h6; simp [up2, upr, up1, inR]
    by_cases h7 : k = 7
    · subst h7; simp [up2, upr, up1, inR]
    by_cases h8 : k = 8
    · subst h8; simp [up2, upr, up1, inR]
    by_cases h9 : k = 9
    · subst h9; simp [up2, upr, up1, inR]
    by_cases h10 : k = 10
    · subst h10; simp [up2, upr, up1, inR]
    simp [up2, upr, up1, inR, h6, h7, h8, h9, h10]
  · have e : (b ≤ j ∧ j < b + (a + 1)) ↔ (b ≤ j ∧ j < b + a) := by omega
    by_cases h6 : k = 6
    · subst h6; simp [up2, upr, up1, inR, hj, e]
    by_cases h7 : k = 7
    · subst h7; simp [up2, upr, up1, inR, hj, e]
    by_cases h8 : k = 8
    · subst h8; simp [up2, upr, up1, inR, hj, e]
    by_cases h9 : k = 9
    · subst h9; simp [up2, upr, up1, inR, hj, e]
    by_cases h10 : k = 10
    · subst h10; simp [up2, upr, up1, inR, hj, e]
    simp [up2, upr, up1, inR, h6, h7, h8, h9, h10]
theorem inR_k {σ : St} {a b k : Nat} (h : k < 6 ∨ 10 < k) : inR σ b a k = σ k := by
  funext j
  unfold inR
  rw [if_neg (by omega)]
theorem inR_loop {σ : St} {p : Nat} (h8 : σ 0 8 = (p : Int)) (hp : p < 8) (hz : ∀ w, w < 24 → σ 1 w = 0 ∨ σ 1 w = 1) (fuel : Nat) (hf : 24 < fuel) : jloop (fun (q : (St × Int)) => match q with | (σ, x1) => f_X11_keeps_b149 σ x1) fuel (σ, 0) = some (inR σ (24 * p) 24) := by
  refine jloop_for0 (g := fun a => (inR σ (24 * p) a, (a : Int))) (N := 24) (e := _) ?_ hf (fun a ha => ?_) ?_
  · have : inR σ (24 * p) 0 = σ := by
      funext k j
      unfold inR
      rw [if_neg (by omega)]
    rw [this]; rfl
  · show f_X11_keeps_b149 (inR σ (24 * p) a) (a : Int) = _
    have e : (24 * (p : Int) + (a : Int)).toNat = 24 * p + a := by omega
    rw [f_X11_keeps_b149, jc_II (by omega) (by omega) (by omega) (by omega), if_pos (by omega), jlet_v, jc_ix (by omega) (by omega), inR_k (by omega), h8, inR_k (by omega), cast_n, jchk_t ⟨by omega, hz a ha⟩, jlet_v, e]
    simp only [jchk_t (show 0 ≤ (a : Int) ∧ (a : Int) < 24 by omega), jchk_t (show 0 ≤ 24 * (p : Int) + (a : Int) ∧ 24 * (p : Int) + (a : Int) < 192 by omega), jlet_v, up2_k, ne_eq, Nat.reduceEqDiff, not_false_eq_true]
    rw [inR_k (k := 2) (by omega), inR_k (k := 3) (by omega), inR_k (k := 4) (by omega), inR_k (k := 5) (by omega), inR_step, cast_s]
  · show f_X11_keeps_b149 (inR σ (24 * p) 24) ((24 : Nat) : Int) = _
    rw [f_X11_keeps_b149, jc_II (by omega) (by omega) (by omega) (by omega), if_neg (by omega)]
def kpM (σ : St) (p : Nat) : St := up2 (up2 (up2 (inR σ (24 * p) 24) 11 p (σ 0 0)) 12 p (σ 0 1)) 0 8 ((p : Int) + 1)
theorem kpM_end {σ : St} {p : Nat} (h8 : σ 0 8 = (p : Int)) (hp : p < 8) {β : Type} {k : St → Option β} : jchk (0 ≤ inR σ (24 * p) 24 0 8 ∧ inR σ (24 * p) 24 0 8 < 8) (jlet (up2 (inR σ (24 * p) 24) 11 (inR σ (24 * p) 24 0 8).toNat (inR σ (24 * p) 24 0 0)) (fun σ_10 => jchk (0 ≤ σ_10 0 8 ∧ σ_10 0 8 < 8) (jlet (up2 σ_10 12 (σ_10 0 8).toNat (σ_10 0 1)) (fun σ_11 => jlet (up2 σ_11 0 8 (σ_11 0 8 + 1)) k)))) = k (kpM σ p) := by
  have e : inR σ (24 * p) 24 0 = σ 0 := inR_k (by omega)
  rw [e, h8, jc_ix (by omega) (by omega), jlet_v, cast_n, up2_k (by decide), e, h8, jc_ix (by omega) (by omega), jlet_v, cast_n, jlet_v, up2_k (by decide), up2_k (by decide), e, h8]
  rfl
theorem keeps_lt {σ : St} {p : Nat} (h8 : σ 0 8 = (p : Int)) (hp : p < 8) (hz : ∀ w, w < 24 → σ 1 w = 0 ∨ σ 1 w = 1) : f_X11_keeps σ = some (kpM σ p) := by
  rw [f_X11_keeps, f_X11_keeps_b0, jc_II (by omega) (by omega) (by omega) (by omega), if_neg (by omega), jlet_v, inR_loop h8 hp hz 1000 (by omega), jbind_s, kpM_end h8 hp]
def shM (σ : St) : St := up2 (shS (shR σ 168) 7) 0 8 7
theorem keeps_8 {σ : St} (h8 : σ 0 8 = 8) (hz : ∀ w, w < 24 → σ 1 w = 0 ∨ σ 1 w = 1) (hz2 : ∀ j, j < 192 → σ 6 j = 0 ∨ σ 6 j = 1) : f_X11_keeps σ = some (kpM (shM σ) 7) := by
  have e1 : shM σ 0 8 = ((7 : Nat) : Int) := up2_same
  have e2 : shM σ 1 = σ 1 := by
    unfold shM
    rw [up2_k (by decide)]
    funext j
    simp [shS, shR]
  rw [f_X11_keeps, f_X11_keeps_b0, jc_II (by omega) (by omega) (by omega) (by omega), if_pos h8, jlet_v, shR_loop hz2 1000 (by omega), jbind_s, jlet_v, shS_loop 1000 (by omega), jbind_s, jlet_v, jlet_v]
  rw [show up2 (shS (shR σ 168) 7) 0 8 7 = shM σ from rfl, inR_loop (σ := shM σ) e1 (by omega) (by rw [e2]; exact hz) 1000 (by omega), jbind_s, kpM_end e1 (by omega)]
theorem WF.cong {wide high : Int} {K X Y N K' X' Y' N' : Nat → Int} (h : WF wide high K X Y N) (hK : ∀ w, w < 24 → K' w = K w) (hX : ∀ w, w < 24 → X' w = X w) (hY : ∀ w, w < 24 → Y' w = Y w) (hN : ∀ w, w < 24 → N' w = N w) : WF wide high K' X' Y' N' := by
  obtain ⟨h1, h2, h3, h4⟩ := h
  refine ⟨h1, h2, fun w hw => ?_, fun v w hv hw => ?_⟩
  · rw [hK w hw, hX w hw, hY w hw, hN w hw]
    exact h3 w hw
  · rw [hK w hw, hX w hw, hY w hw, hK v hv, hX v hv, hY v hv]
    exact h4 v w hv hw
/-- what is remembered, on both sides -/
def Snap (σC : St) (s : Nat) (σM : St) (m : Nat) : Prop := WF (σC 8 s) (σC 9 s) (fun w => σC 12 (s * 24 + w)) (fun w => σC 10 (s * 24 + w)) (fun w => σC 11 (s * 24 + w)) (fun w => σC 13 (s * 24 + w)) ∧ σM 11 m = σC 8 s ∧ σM 12 m = σC 9 s ∧ ∀ w, w < 24 → (σM 6 (24 * m + w) = 0 ∧ σC 12 (s * 24 + w) = -1) ∨ (σM 6 (24 * m + w) = 1 ∧ σC 12 (s * 24 + w) ≠ -1 ∧ σM 9 (24 * m + w) = σC 12 (s * 24 + w) ∧ σM 7 (24 * m + w) = σC 10 (s * 24 + w) ∧ σM 8 (24 * m + w) = σC 11 (s * 24 + w) ∧ σM 10 (24 * m + w) = σC 13 (s * 24 + w))
theorem Snap.mv {σC τC σM τM : St} {s m m' : Nat} (h : Snap σC s σM m) (h8 : τC 8 s = σC 8 s) (h9 : τC 9 s = σC 9 s) (hC : ∀ k w, (k = 10 ∨ k = 11 ∨ k = 12 ∨ k = 13) → w < 24 → τC k (s * 24 + w) = σC k (s * 24 + w)) (h11 : τM 11 m' = σM 11 m) (h12 : τM 12 m' = σM 12 m) (hM : ∀ k w, (k = 6 ∨ k = 7 ∨ k = 8 ∨ k = 9 ∨ k = 10) → w < 24 → τM k (24 * m' + w) = σM k (24 * m + w)) : Snap τC s τM m' := by
  obtain ⟨a1, a2, a3, a4⟩ := h
  refine ⟨?_, ?_, ?_, fun w hw => ?_⟩
  · rw [h8, h9]
    exact a1.cong (fun w hw => hC 12 w (by omega) hw) (fun w hw => hC 10 w (by omega) hw) (fun w hw => hC 11 w (by omega) hw) (fun w hw => hC 13 w (by omega) hw)
  · rw [h11, h8, a2]
  · rw [h12, h9, a3]
  · rw [hC 12 w (by omega) hw, hC 10 w (by omega) hw, hC 11 w (by omega) hw, hC 13 w (by omega) hw, hM 6 w (by omega) hw, hM 7 w (by omega) hw, hM 8 w (by omega) hw, hM 9 w (by omega) hw, hM 10 w (by omega) hw]
    exact a4 w hw
def RP (σC σM : St) : Prop := ∃ p q : Nat, p ≤ 8 ∧ q < 8 ∧ σC 7 0 = (p : Int) ∧ σC 7 1 = (q : Int) ∧ σM 0 8 = (p : Int) ∧ ∀ j, j < p → Snap σC ((q + 8 - p + j) % 8) σM j
theorem RM.b1 {σ : St} {K X Y N : Nat → Int} (h : RM σ K X Y N) {w : Nat} (hw : w < 24) : σ 1 w = 0 ∨ σ 1 w = 1 := by
  rcases h w hw with q | q
  · exact Or.inl q.1
  · exact Or.inr q.1
theorem kpM_row {σ : St} {p m k w : Nat} (hm : m < p) (hk : k = 6 ∨ k = 7 ∨ k = 8 ∨ k = 9 ∨ k = 10) (hw : w < 24) : kpM σ p k (24 * m + w) = σ k (24 * m + w) := by
  unfold kpM
  rw [up2_k (by omega), up2_k (by omega), up2_k (by omega)]
  unfold inR
  rw [if_neg (by omega)]
theorem kpM_new {σ : St} {p k w : Nat} (hk : k = 6 ∨ k = 7 ∨ k = 8 ∨ k = 9 ∨ k = 10) (hw : w < 24) : kpM σ p k (24 * p + w) = σ (k - 5) w := by
  unfold kpM
  rw [up2_k (by omega), up2_k (by omega), up2_k (by omega)]
  unfold inR
  rw [if_pos (by omega), show 24 * p + w - 24 * p = w by omega]
theorem kpM_11 {σ : St} {p m : Nat} : kpM σ p 11 m = if m = p then σ 0 0 else σ 11 m := by simp [kpM, up2, upr, up1, inR]
theorem kpM_12 {σ : St} {p m : Nat} : kpM σ p 12 m = if m = p then σ 0 1 else σ 12 m := by simp [kpM, up2, upr, up1, inR]
theorem kpM_8 {σ : St} {p : Nat} : kpM σ p 0 8 = (p : Int) + 1 := up2_same
theorem shM_row {σ : St} {m k w : Nat} (hm : m < 7) (hk : k = 6 ∨ k = 7 ∨ k = 8 ∨ k = 9 ∨ k = 10) (hw : w < 24) : shM σ k (24 * m + w) = σ k (24 * (m + 1) + w) := by
  unfold shM
  rw [up2_k (by omega)]
  unfold shS
  rw [if_neg (by omega)]
  unfold shR
  rw [if_pos (by omega), show 24 * m + w + 24 = 24 * (m + 1) + w by omega]
theorem shM_s {σ : St} {m k : Nat} (hm : m < 7) (hk : k = 11 ∨ k = 12) : shM σ k m = σ k (m + 1) := by
  unfold shM
  rw [up2_k (by omega)]
  unfold shS
  rw [if_pos (by omega)]
  unfold shR
  rw [if_neg (by omega)]
theorem shM_k {σ : St} {k : Nat} (h1 : k ≠ 0) (h2 : k < 6) : shM σ k = σ k := by
  unfold shM
  rw [up2_k h1]
  funext j
  unfold shS
  rw [if_neg (by omega)]
  unfold shR
  rw [if_neg (by omega)]
theorem shM_0 {σ : St} {j : Nat} (h : j ≠ 8) : shM σ 0 j = σ 0 j := by
  unfold shM
  rw [up2_j h]
  unfold shS
  rw [if_neg (by omega)]
  unfold shR
  rw [if_neg (by omega)]
/-- the newest row on both sides -/
theorem Snap.new {σC σM : St} {τC τM : St} {s m : Nat} (hw : WF (σC 1 0) (σC 1 1) (σC 5) (σC 3) (σC 4) (σC 6)) (hm : RM σM (σC 5) (σC 3) (σC 4) (σC 6)) (h0 : σM 0 0 = σC 1 0) (h1 : σM 0 1 = σC 1 1) (c8 : τC 8 s = σC 1 0) (c9 : τC 9 s = σC 1 1) (c10 : ∀ w, w < 24 → τC 10 (s * 24 + w) = σC 3 w) (c11 : ∀ w, w < 24 → τC 11 (s * 24 + w) = σC 4 w) (c12 : ∀ w, w < 24 → τC 12 (s * 24 + w) = σC 5 w) (c13 : ∀ w, w < 24 → τC 13 (s * 24 + w) = σC 6 w) (m11 : τM 11 m = σM 0 0) (m12 : τM 12 m = σM 0 1) (hM : ∀ k w, (k = 6 ∨ k = 7 ∨ k = 8 ∨ k = 9 ∨ k = 10) → w < 24 → τM k (24 * m + w) = σM (k - 5) w) : Snap τC s τM m := by
  refine ⟨?_, ?_, ?_, fun w hw => ?_⟩
  · rw [c8, c9]
    exact hw.cong c12 c10 c11 c13
  · rw [m11, c8, h0]
  · rw [m12, c9, h1]
  · rw [c12 w hw, c10 w hw, c11 w hw, c13 w hw, hM 6 w (by omega) hw, hM 7 w (by omega) hw, hM 8 w (by omega) hw, hM 9 w (by omega) hw, hM 10 w (by omega) hw]
    exact hm w hw
theorem past_step {σC σM : St} (hw : WF (σC 1 0) (σC 1 1) (σC 5) (σC 3) (σC 4) (σC 6)) (hm : RM σM (σC 5) (σC 3) (σC 4) (σC 6)) (h0 : σM 0 0 = σC 1 0) (h1 : σM 0 1 = σC 1 1) (hp : RP σC σM) : ∃ τC τM, f_X5_remember σC = some τC ∧ f_X11_keeps σM = some τM ∧ Fr wr_X5_remember σC τC ∧ Fr wr_X11_keeps σM τM ∧ RP τC τM := by
  obtain ⟨p, q, p8, q8, a1, a2, a3, a4⟩ := hp
  obtain ⟨τC, t0, tF, t1, t2, c8, c9, c10, c11, c12, c13⟩ := remember_spec a1 a2 p8 q8
  have cN : ∀ k k', (∀ j, τC k j = if q * 24 ≤ j ∧ j < q * 24 + 24 then σC k' (j - q * 24) else σC k j) → ∀ w, w < 24 → τC k (q * 24 + w) = σC k' w := by
    intro k k' h w hw
    rw [h, if_pos (by omega), show q * 24 + w - q * 24 = w by omega]
  have cO : ∀ k k', (∀ j, τC k j = if q * 24 ≤ j ∧ j < q * 24 + 24 then σC k' (j - q * 24) else σC k j) → ∀ s w, s ≠ q → w < 24 → τC k (s * 24 + w) = σC k (s * 24 + w) := by
    intro k k' h s w hs hw
    rw [h, if_neg (by omega)]
  have cOs : ∀ s k w, s ≠ q → (k = 10 ∨ k = 11 ∨ k = 12 ∨ k = 13) → w < 24 → τC k (s * 24 + w) = σC k (s * 24 + w) := by
    intro s k w hs hk hw
    rcases hk with e | e | e | e
    · subst e; exact cO 10 3 c10 s w hs hw
    · subst e; exact cO 11 4 c11 s w hs hw
    · subst e; exact cO 12 5 c12 s w hs hw
    · subst e; exact cO 13 6 c13 s w hs hw
  by_cases c : p = 8
  · subst c
    have z : ∀ j, j < 192 → σM 6 j = 0 ∨ σM 6 j = 1 := by
      intro j hj
      have := (a4 (j / 24) (by omega)).2.2.2 (j % 24) (by omega)
      rw [show 24 * (j / 24) + j % 24 = j by omega] at this
      rcases this with x | x
      · exact Or.inl x.1
      · exact Or.inr x.1
    have k0 := keeps_8 (by omega) (fun w hw => hm.b1 hw) z
    refine ⟨τC, _, t0, k0, tF, fr_f_X11_keeps k0, 8, (q + 1) % 8, by omega, by omega, by rw [t1, if_pos rfl]; rfl, t2, kpM_8.trans (by omega), fun j hj => ?_⟩
    by_cases cj : j = 7
    · subst cj
      rw [show ((q + 1) % 8 + 8 - 8 + 7) % 8 = q by omega]
      refine Snap.new hw hm h0 h1 (by rw [c8, if_pos rfl]) (by rw [c9, if_pos rfl]) (cN 10 3 c10) (cN 11 4 c11) (cN 12 5 c12) (cN 13 6 c13) ?_ ?_ ?_
      · rw [kpM_11, if_pos rfl, shM_0 (by decide)]
      · rw [kpM_12, if_pos rfl, shM_0 (by decide)]
      · intro k w hk hw
        rw [kpM_new hk hw, shM_k (by omega) (by omega)]
    · have e : ((q + 1) % 8 + 8 - 8 + j) % 8 = (q + 8 - 8 + (j + 1)) % 8 := by omega
      have ne : (q + 8 - 8 + (j + 1)) % 8 ≠ q := by omega
      rw [e]
      refine (a4 (j + 1) (by omega)).mv (by rw [c8, if_neg ne]) (by rw [c9, if_neg ne]) (fun k w => cOs _ k w ne) ?_ ?_ ?_
      · rw [kpM_11, if_neg cj, shM_s (by omega) (by omega)]
      · rw [kpM_12, if_neg cj, shM_s (by omega) (by omega)]
      · intro k w hk hw
        rw [kpM_row (by omega) hk hw, shM_row (by omega) hk hw]
  · have k0 := keeps_lt a3 (by omega) (fun w hw => hm.b1 hw)
    refine ⟨τC, _, t0, k0, tF, fr_f_X11_keeps k0, p + 1, (q + 1) % 8, by omega, by omega, by rw [t1, if_neg c]; rfl, t2, kpM_8, fun j hj => ?_⟩
    by_cases cj : j = p
    · subst cj
      rw [show ((q + 1) % 8 + 8 - (j + 1) + j) % 8 = q by omega]
      refine Snap.new hw hm h0 h1 (by rw [c8, if_pos rfl]) (by rw [c9, if_pos rfl]) (cN 10 3 c10) (cN 11 4 c11) (cN 12 5 c12) (cN 13 6 c13) ?_ ?_ ?_
      · rw [kpM_11, if_pos rfl]
      · rw [kpM_12, if_pos rfl]
      · intro k w hk hw
        rw [kpM_new hk hw]
    · have e : ((q + 1) % 8 + 8 - (p + 1) + j) % 8 = (q + 8 - p + j) % 8 := by omega
      have ne : (q + 8 - p + j) % 8 ≠ q := by omega
      rw [e]
      refine (a4 j (by omega)).mv (by rw [c8, if_neg ne]) (by rw [c9, if_neg ne]) (fun k w => cOs _ k w ne) ?_ ?_ ?_
      · rw [kpM_11, if_neg cj]
      · rw [kpM_12, if_neg cj]
      · intro k w hk hw
        rw [kpM_row (by omega) hk hw]
