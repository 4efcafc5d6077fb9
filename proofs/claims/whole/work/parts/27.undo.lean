/-! ===== the pure side 7: undo, sheet, line ===== -/
def brR (σ : St) (b a : Nat) : St := fun k j => if (k = 1 ∨ k = 2 ∨ k = 3 ∨ k = 4 ∨ k = 5) ∧ j < a then σ (k + 5) (b + j) else σ k j
theorem brR_step {σ : St} {a b : Nat} : up2 (up2 (up2 (up2 (up2 (brR σ b a) 1 a (σ 6 (b + a))) 2 a (σ 7 (b + a))) 3 a (σ 8 (b + a))) 4 a (σ 9 (b + a))) 5 a (σ 10 (b + a)) = brR σ b (a + 1) := by
  funext k j
  by_cases hj : j = a
  · subst hj
    by_cases h6 : k = 1
    · subst h6; simp [up2, upr, up1, brR]
    by_cases h7 : k = 2
    · subst h7; simp [up2, upr, up1, brR]
    by_cases h8 : k = 3
    · subst h8; simp [up2, upr, up1, brR]
    by_cases h9 : k = 4
    · subst h9; simp [up2, upr, up1, brR]
    by_cases h10 : k = 5
    · subst h10; simp [up2, upr, up1, brR]
    simp [up2, upr, up1, brR, h6, h7, h8, h9, h10]
  · have e : (j < a + 1) ↔ (j < a) := by omega
    by_cases h6 : k = 1
    · subst h6; simp [up2, upr, up1, brR, hj, e]
    by_cases h7 : k = 2
    · subst h7; simp [up2, upr, up1, brR, hj, e]
    by_cases h8 : k = 3
    · subst h8; simp [up2, upr, up1, brR, hj, e]
    by_cases h9 : k = 4
    · subst h9; simp [up2, upr, up1, brR, hj, e]
    by_cases h10 : k = 5
    · subst h10; simp [up2, upr, up1, brR, hj, e]
    simp [up2, upr, up1, brR, h6, h7, h8, h9, h10]
theorem brR_k {σ : St} {a b k : Nat} (h : k < 1 ∨ 5 < k) : brR σ b a k = σ k := by
  funext j
  unfold brR
  rw [if_neg (by omega)]
theorem brR_in {σ : St} {b k w : Nat} (h : k = 1 ∨ k = 2 ∨ k = 3 ∨ k = 4 ∨ k = 5) (hw : w < 24) : brR σ b 24 k w = σ (k + 5) (b + w) := by
  unfold brR
  rw [if_pos ⟨h, hw⟩]
theorem brR_loop {σ : St} {p : Nat} (h8 : σ 0 8 = (p : Int)) (hp : p < 8) (hz : ∀ w, w < 24 → σ 6 (24 * p + w) = 0 ∨ σ 6 (24 * p + w) = 1) (fuel : Nat) (hf : 24 < fuel) : jloop (fun (q : (St × Int)) => match q with | (σ, x1) => f_X11_brings_b12 σ x1) fuel (σ, 0) = some (brR σ (24 * p) 24) := by
  refine jloop_for0 (g := fun a => (brR σ (24 * p) a, (a : Int))) (N := 24) (e := _) ?_ hf (fun a ha => ?_) ?_
  · have : brR σ (24 * p) 0 = σ := by
      funext k j
      unfold brR
      rw [if_neg (by omega)]
    rw [this]; rfl
  · show f_X11_brings_b12 (brR σ (24 * p) a) (a : Int) = _
    have e : (24 * (p : Int) + (a : Int)).toNat = 24 * p + a := by omega
    rw [f_X11_brings_b12, jc_II (by omega) (by omega) (by omega) (by omega), if_pos (by omega), jlet_v, brR_k (k := 0) (by omega), h8, jc_ix (by omega) (by omega), brR_k (k := 6) (by omega), e, jchk_t ⟨by omega, hz a ha⟩, jlet_v, cast_n]
    simp only [jchk_t (show 0 ≤ (a : Int) ∧ (a : Int) < 24 by omega), jchk_t (show 0 ≤ 24 * (p : Int) + (a : Int) ∧ 24 * (p : Int) + (a : Int) < 192 by omega), jlet_v, up2_k, ne_eq, Nat.reduceEqDiff, not_false_eq_true]
    rw [brR_k (k := 7) (by omega), brR_k (k := 8) (by omega), brR_k (k := 9) (by omega), brR_k (k := 10) (by omega), brR_step, cast_s]
  · show f_X11_brings_b12 (brR σ (24 * p) 24) ((24 : Nat) : Int) = _
    rw [f_X11_brings_b12, jc_II (by omega) (by omega) (by omega) (by omega), if_neg (by omega)]
def brM (σ : St) (p : Nat) : St := up2 (up2 (brR (up2 σ 0 8 (p : Int)) (24 * p) 24) 0 0 (σ 11 p)) 0 1 (σ 12 p)
theorem brings_spec {σ : St} {p : Nat} (h8 : σ 0 8 = (p : Int) + 1) (hp : p < 8) (hz : ∀ w, w < 24 → σ 6 (24 * p + w) = 0 ∨ σ 6 (24 * p + w) = 1) : f_X11_brings σ = some (brM σ p) := by
  have e : brR (up2 σ 0 8 (p : Int)) (24 * p) 24 0 = up2 σ 0 8 (p : Int) 0 := brR_k (by omega)
  have e11 : brR (up2 σ 0 8 (p : Int)) (24 * p) 24 11 = σ 11 := by rw [brR_k (by omega), up2_k (by omega)]
  have e12 : brR (up2 σ 0 8 (p : Int)) (24 * p) 24 12 = σ 12 := by rw [brR_k (by omega), up2_k (by omega)]
  rw [f_X11_brings, f_X11_brings_b0, jlet_v, h8, show (p : Int) + 1 - 1 = (p : Int) by omega, jlet_v, brR_loop up2_same hp (by rw [up2_k (by omega)]; exact hz) 1000 (by omega), jbind_s, e, e11, up2_same, jc_ix (by omega) (by omega), jlet_v, cast_n, up2_j (by decide), up2_k (k' := 12) (by decide), e, e12, up2_same, jc_ix (by omega) (by omega), jlet_v, cast_n]
  rfl
theorem jbind_id {α : Type} {x : Option α} : jbind x (fun s => some s) = x := by cases x <;> rfl
theorem cpyB {f g : Nat → Int} {s : Nat} (j : Nat) : va_cpy f g s 0 24 j = if j < 24 then f (s + j) else g j := by
  simp [va_cpy]
def tbC (σ : St) (p q : Nat) : St := upr (upr (upr (upr (up2 (up2 σ 7 0 (p : Int)) 7 1 (q : Int)) 3 (va_cpy (σ 10) (σ 3) (q * 24) 0 24)) 4 (va_cpy (σ 11) (σ 4) (q * 24) 0 24)) 5 (va_cpy (σ 12) (σ 5) (q * 24) 0 24)) 6 (va_cpy (σ 13) (σ 6) (q * 24) 0 24)
theorem takeBack38 {σ : St} {p q : Nat} (hq : q < 8) : f_X5_takeBack_b38 (up2 σ 7 0 (p : Int)) (q : Int) = jbind (f_X9_countAnew (up2 (up2 (tbC σ p q) 1 0 (σ 8 q)) 1 1 (σ 9 q))) (fun σ_8 => some (1, σ_8)) := by
  have e1 : ((q : Int) * 24).toNat = q * 24 := by omega
  rw [f_X5_takeBack_b38, jlet_v, jlet_v, up2_same, jchk_t ⟨by omega, by omega, by omega, by omega, by omega⟩, jlet_v, jchk_t ⟨by omega, by omega, by omega, by omega, by omega⟩, jlet_v, jchk_t ⟨by omega, by omega, by omega, by omega, by omega⟩, jlet_v, jchk_t ⟨by omega, by omega, by omega, by omega, by omega⟩, jlet_v, e1]
  simp only [upr_same, upr_ne, up2_k, up2_same, ne_eq, Nat.reduceEqDiff, not_false_eq_true]
  rw [jc_ix (by omega) (by omega), jc_ix (by omega) (by omega), cast_n, f_X9_resize, f_X9_resize_b0, jlet_v, jlet_v]
  rw [jbind_id]
  rfl
theorem undo_eq {σC σM : St} (h : RA σC σM) : ∃ v τC τM, f_X10_undo σC = some (v, τC) ∧ f_X11_undo σM = some (v, τM) ∧ RA τC τM ∧ CSt σC τC := by
  obtain ⟨hw, ⟨p, q, p8, q8, a1, a2, a3, a4⟩, hS⟩ := id h
  cases p with
  | zero =>
    refine ⟨-1, σC, σM, ?_, ?_, h, CSt.refl⟩
    · rw [f_X10_undo, f_X10_undo_b0, f_X5_takeBack, f_X5_takeBack_b0, a1, jc_I (by omega) (by omega), if_pos (by omega)]
      rw [show jzw (some (0, σC)) = some (0, σC) from rfl, jbind_s]
      dsimp only
      rw [jc_I (by omega) (by omega), if_pos rfl]
    · rw [f_X11_undo, f_X11_undo_b0, a3, jc_I (by omega) (by omega), if_pos (by omega)]
  | succ p =>
    have hz := a4 p (by omega)
    obtain ⟨q', hq', eq', eqI⟩ : ∃ q' : Nat, q' < 8 ∧ (q + 8 - (p + 1) + p) % 8 = q' ∧ (if (0 : Int) < (q : Int) then (q : Int) - 1 else 7) = (q' : Int) := by
      refine ⟨(q + 7) % 8, by omega, by omega, ?_⟩
      split <;> omega
    rw [eq'] at hz
    obtain ⟨z1, z2, z3, z4⟩ := hz
    have t3 : tbC σC p q' 3 = va_cpy (σC 10) (σC 3) (q' * 24) 0 24 := by simp [tbC, upr]
    have t4 : tbC σC p q' 4 = va_cpy (σC 11) (σC 4) (q' * 24) 0 24 := by simp [tbC, upr]
    have t5 : tbC σC p q' 5 = va_cpy (σC 12) (σC 5) (q' * 24) 0 24 := by simp [tbC, upr]
    have t6 : tbC σC p q' 6 = va_cpy (σC 13) (σC 6) (q' * 24) 0 24 := by simp [tbC, upr]
    have t1 : tbC σC p q' 1 = σC 1 := by simp [tbC, upr, up2]
    have tk : ∀ k, 7 ≤ k → tbC σC p q' k = up2 (up2 σC 7 0 (p : Int)) 7 1 (q' : Int) k := by
      intro k hk
      unfold tbC
      rw [upr_ne (by omega), upr_ne (by omega), upr_ne (by omega), upr_ne (by omega)]
    have b0 : ∀ j, brM σM p 0 j = if j = 1 then σM 12 p else if j = 0 then σM 11 p else if j = 8 then (p : Int) else σM 0 j := by
      intro j
      simp [brM, up2, upr, up1, brR]
    have bk : ∀ k, 5 < k → brM σM p k = σM k := by
      intro k hk
      unfold brM
      rw [up2_k (by omega), up2_k (by omega), brR_k (by omega), up2_k (by omega)]
    have bi : ∀ k w, (k = 1 ∨ k = 2 ∨ k = 3 ∨ k = 4 ∨ k = 5) → w < 24 → brM σM p k w = σM (k + 5) (24 * p + w) := by
      intro k w hk hw
      unfold brM
      rw [up2_k (by omega), up2_k (by omega), brR_in hk hw, up2_k (by omega)]
    obtain ⟨υ, v0, vR, v6, vk, vm⟩ := newmap (τC := up2 (up2 σC 7 0 (p : Int)) 7 1 (q' : Int)) (τM := up2 σM 0 8 (p : Int)) (μC := up2 (up2 (tbC σC p q') 1 0 (σC 8 q')) 1 1 (σC 9 q')) (μM := brM σM p) (by
        refine ⟨p, q', by omega, hq', ?_, up2_same, up2_same, fun j hj => ?_⟩
        · rw [up2_j (by decide), up2_same]
        · have := a4 j (by omega)
          rw [show (q' + 8 - p + j) % 8 = (q + 8 - (p + 1) + j) % 8 by omega]
          refine this.mv ?_ ?_ ?_ ?_ ?_ ?_
          · rw [up2_k (by omega), up2_k (by omega)]
          · rw [up2_k (by omega), up2_k (by omega)]
          · intro k w hk hw
            rw [up2_k (by omega), up2_k (by omega)]
          · rw [up2_k (by omega)]
          · rw [up2_k (by omega)]
          · intro k w hk hw
            rw [up2_k (by omega)]) (hS.fr (fun k h1 h2 => by rw [up2_k (by omega), up2_k (by omega)]) (by rw [up2_k (by omega)]) (by rw [up2_k (by omega)])) (fun k hk => by rw [up2_k (by omega), up2_k (by omega), tk k hk]) (by rw [up2_j (by decide), up2_j (by decide), t1, up2_k (by omega), up2_k (by omega)]) (fun k hk => by rw [bk k hk, up2_k (by omega)]) (by rw [b0, up2_same, if_neg (by decide), if_neg (by decide), if_pos rfl]) (by
        rw [up2_same, up2_j (by decide), up2_same]
        simp only [up2_k, ne_eq, Nat.reduceEqDiff, not_false_eq_true]
        rw [t3, t4, t5, t6]
        refine z1.cong (fun w hw => ?_) (fun w hw => ?_) (fun w hw => ?_) (fun w hw => ?_) <;> rw [cpyB, if_pos hw]) (by
        rw [up2_j (by decide), up2_j (by decide), t1]; exact hw.2.1) (by
        rw [b0, if_neg (by decide), if_pos rfl, up2_j (by decide), up2_same]; exact z2) (by
        rw [b0, if_pos rfl, up2_same]; exact z3) (by
        rw [b0, if_neg (by decide), if_neg (by decide), if_neg (by decide), up2_j (by decide), up2_j (by decide), t1]; exact hw.2.2.2.2.1) (by
        simp only [up2_k, ne_eq, Nat.reduceEqDiff, not_false_eq_true]
        rw [t3, t4, t5, t6]
        intro w hw
        rw [bi 1 w (by omega) hw, bi 2 w (by omega) hw, bi 3 w (by omega) hw, bi 4 w (by omega) hw, bi 5 w (by omega) hw, cpyB, if_pos hw, cpyB, if_pos hw, cpyB, if_pos hw, cpyB, if_pos hw]
        exact z4 w hw)
    refine ⟨(p : Int), υ, brM σM p, ?_, ?_, vR, ?_, Or.inl ?_⟩
    · have e1 : up2 σC 7 0 (((p + 1 : Nat) : Int) - 1) = up2 σC 7 0 (p : Int) := by
        rw [show ((p + 1 : Nat) : Int) - 1 = (p : Int) by omega]
      have e2 : f_X5_takeBack σC = some (1, υ) := by
        rw [f_X5_takeBack, f_X5_takeBack_b0, a1, jc_I (by omega) (by omega), if_neg (by omega), jlet_v, e1, up2_j (by decide), a2, jc_I (by omega) (by omega)]
        have e3 := takeBack38 (σ := σC) (p := p) hq'
        rw [v0, jbind_s] at e3
        by_cases c : (0 : Int) < (q : Int)
        · rw [if_pos c] at eqI ⊢
          rw [eqI, e3]
          rfl
        · rw [if_neg c] at eqI ⊢
          rw [eqI, e3]
          rfl
      rw [f_X10_undo, f_X10_undo_b0, e2, jbind_s]
      dsimp only
      rw [jc_I (by omega) (by omega), if_neg (by omega), vk 7 (by omega), up2_j (by decide), up2_same]
    · rw [f_X11_undo, f_X11_undo_b0, a3, jc_I (by omega) (by omega), if_neg (by omega), brings_spec (p := p) (by omega) (by omega) (fun w hw => by
        rcases z4 w hw with z | z
        · exact Or.inl z.1
        · exact Or.inr z.1), jbind_s, b0, if_neg (by decide), if_neg (by decide), if_pos rfl]
    · intro k hk
      rw [vk k (by omega), up2_k (by omega), up2_k (by omega)]
    · rw [v6, up2_k (by omega), up2_k (by omega)]
      omega
/-- a sheet's lines taken away -/
def wrR (σ : St) (b a : Nat) : St := fun k j => if (k = 16 ∨ k = 17 ∨ k = 18 ∨ k = 19) ∧ b ≤ j ∧ j < b + a then 0 else σ k j
theorem wrR_step {σ : St} {a b : Nat} : up2 (up2 (up2 (up2 (wrR σ b a) 16 (b + a) 0) 17 (b + a) 0) 18 (b + a) 0) 19 (b + a) 0 = wrR σ b (a + 1) := by
  funext k j
  by_cases hj : j = b + a
  · subst hj
    by_cases h6 : k = 16
    · subst h6; simp [up2, upr, up1, wrR]
    by_cases h7 : k = 17
    · subst h7; simp [up2, upr, up1, wrR]
    by_cases h8 : k = 18
    · subst h8; simp [up2, upr, up1, wrR]
    by_cases h9 : k = 19
    · subst h9; simp [up2, upr, up1, wrR]
    simp [up2, upr, up1, wrR, h6, h7, h8, h9]
  · have e : (b ≤ j ∧ j < b + (a + 1)) ↔ (b ≤ j ∧ j < b + a) := by omega
    by_cases h6 : k = 16
    · subst h6; simp [up2, upr, up1, wrR, hj, e]
    by_cases h7 : k = 17
    · subst h7; simp [up2, upr, up1, wrR, hj, e]
    by_cases h8 : k = 18
    · subst h8; simp [up2, upr, up1, wrR, hj, e]
    by_cases h9 : k = 19
    · subst h9; simp [up2, upr, up1, wrR, hj, e]
    simp [up2, upr, up1, wrR, h6, h7, h8, h9]
theorem write_spec {σ : St} {a : Nat} {x y k n : Int} (ha : a < 64) : f_X7_write σ (a : Int) x y k n = some (up2 (up2 (up2 (up2 σ 16 a x) 17 a y) 18 a k) 19 a n) := by
  rw [f_X7_write, f_X7_write_b0, jc_ix (by omega) (by omega), jlet_v, jc_ix (by omega) (by omega), jlet_v, jc_ix (by omega) (by omega), jlet_v, jc_ix (by omega) (by omega), jlet_v, cast_n]
theorem wrR_loop {σ : St} {s : Nat} (hs : s < 8) (fuel : Nat) (hf : 8 < fuel) : jloop (fun (q : (St × Int)) => match q with | (σ, x3) => f_X7_begin_b9 σ (s : Int) x3) fuel (σ, 0) = some (wrR σ (s * 8) 8) := by
  refine jloop_for0 (g := fun a => (wrR σ (s * 8) a, (a : Int))) (N := 8) (e := _) ?_ hf (fun a ha => ?_) ?_
  · have : wrR σ (s * 8) 0 = σ := by
      funext k j
      unfold wrR
      rw [if_neg (by omega)]
    rw [this]; rfl
  · show f_X7_begin_b9 (wrR σ (s * 8) a) (s : Int) (a : Int) = _
    rw [f_X7_begin_b9, jc_II (by omega) (by omega) (by omega) (by omega), if_pos (by omega), show (s : Int) * 8 + (a : Int) = ((s * 8 + a : Nat) : Int) by omega, write_spec (by omega), jbind_s, jlet_v, wrR_step, cast_s]
  · show f_X7_begin_b9 (wrR σ (s * 8) 8) (s : Int) ((8 : Nat) : Int) = _
    rw [f_X7_begin_b9, jc_II (by omega) (by omega) (by omega) (by omega), if_neg (by omega)]
def shN (σ : St) (b a : Nat) : St := fun k j => if k = 32 ∧ b ≤ j ∧ j < b + a then 0 else σ k j
theorem shN_loop {σ : St} {s : Nat} (hs : s < 8) (fuel : Nat) (hf : 32 < fuel) : jloop (fun (q : (St × Int)) => match q with | (σ, x3) => f_X11_sheet_b30 σ (s : Int) x3) fuel (σ, 0) = some (shN σ (32 * s) 32) := by
  refine jloop_for0 (g := fun a => (shN σ (32 * s) a, (a : Int))) (N := 32) (e := _) ?_ hf (fun a ha => ?_) ?_
  · have : shN σ (32 * s) 0 = σ := by
      funext k j
      unfold shN
      rw [if_neg (by omega)]
    rw [this]; rfl
  · show f_X11_sheet_b30 (shN σ (32 * s) a) (s : Int) (a : Int) = _
    have e : up2 (shN σ (32 * s) a) 32 (32 * s + a) 0 = shN σ (32 * s) (a + 1) := by
      funext k j
      by_cases hk : k = 32
      · subst hk
        by_cases hj : j = 32 * s + a
        · subst hj; simp [up2, upr, up1, shN]
        · have e : (32 * s ≤ j ∧ j < 32 * s + (a + 1)) ↔ (32 * s ≤ j ∧ j < 32 * s + a) := by omega
          simp [up2, upr, up1, shN, hj, e]
      · simp [up2, upr, up1, shN, hk]
    rw [f_X11_sheet_b30, jc_II (by omega) (by omega) (by omega) (by omega), if_pos (by omega), show 32 * (s : Int) + (a : Int) = ((32 * s + a : Nat) : Int) by omega, jc_ix (by omega) (by omega), jlet_v, jlet_v, cast_n, e, cast_s]
  · show f_X11_sheet_b30 (shN σ (32 * s) 32) (s : Int) ((32 : Nat) : Int) = _
    rw [f_X11_sheet_b30, jc_II (by omega) (by omega) (by omega) (by omega), if_neg (by omega)]
theorem ix8 (w : Int) : (w < 0 ∨ 8 ≤ w) ∨ ∃ k : Nat, k < 8 ∧ w = (k : Int) := by
  by_cases h : w < 0 ∨ 8 ≤ w
  · exact Or.inl h
  · exact Or.inr ⟨w.toNat, by omega, by omega⟩
theorem isSheet_in {s : Nat} (hs : s < 8) : f_X11_isSheet (s : Int) = some 1 := by
  rw [f_X11_isSheet, f_X11_isSheet_b0]; simp (disch := omega) only [↓jlet_v, ↓jbind_s, ↓jc_I, ↓jc_II, ↓jc_ix, ↓if_pos, ↓if_neg, cast_n, jz_0, jz_1]
theorem isSheet_out {s : Int} (hi : inI s) (h : s < 0 ∨ 8 ≤ s) : f_X11_isSheet s = some 0 := by
  obtain ⟨h1, h2⟩ := hi
  rw [f_X11_isSheet, f_X11_isSheet_b0]
  by_cases q : s < 0
  · simp (disch := omega) only [↓jlet_v, ↓jbind_s, ↓jc_I, ↓jc_II, ↓jc_ix, ↓if_pos, ↓if_neg, cast_n, jz_0, jz_1]
  · simp (disch := omega) only [↓jlet_v, ↓jbind_s, ↓jc_I, ↓jc_II, ↓jc_ix, ↓if_pos, ↓if_neg, cast_n, jz_0, jz_1]
/-- a state of the component in which only sheets differ -/
theorem RA.sheet {σC σM τC τM : St} (h : RA σC σM) (hC : ∀ k, k < 15 → τC k = σC k) (hM : ∀ k, k < 31 → τM k = σM k) (hS : RS τC τM) : RA τC τM := by
  obtain ⟨hw, hp, -⟩ := h
  refine ⟨?_, hp.fr (fun k _ h2 => hC k (by omega)) (fun k _ h2 => hM k (by omega)) (by rw [hM 0 (by omega)]), hS⟩
  have ep : pC τC = pC σC := by
    funext w
    unfold pC
    rw [hC 1 (by omega), hC 5 (by omega), hC 6 (by omega)]
  have eh : hC_ τC = hC_ σC := by
    funext w
    unfold hC_
    rw [hC 5 (by omega)]
  unfold Rw RM
  rw [ep, eh, hC 1 (by omega), hC 2 (by omega), hC 3 (by omega), hC 4 (by omega), hC 5 (by omega), hC 6 (by omega), hM 0 (by omega), hM 1 (by omega), hM 2 (by omega), hM 3 (by omega), hM 4 (by omega), hM 5 (by omega)]
  exact hw
theorem sheet_eq {σC σM : St} (h : RA σC σM) {x n : Int} (hx : inI x) (hn : inI n) : ∃ v τC τM, f_X10_sheet σC x n = some (v, τC) ∧ f_X11_sheet σM x n = some (v, τM) ∧ RA τC τM ∧ CSt σC τC := by
  have no : f_X10_sheet_b0 σC x n = some (0, σC) → f_X11_sheet_b0 σM x n = some (0, σM) → ∃ v τC τM, f_X10_sheet σC x n = some (v, τC) ∧ f_X11_sheet σM x n = some (v, τM) ∧ RA τC τM ∧ CSt σC τC := by
    intro e1 e2
    refine ⟨0, σC, σM, ?_, ?_, h, CSt.refl⟩
    · rw [f_X10_sheet, e1]; rfl
    · rw [f_X11_sheet, e2]; rfl
  obtain ⟨n1, n2⟩ := hn
  rcases ix8 x with q | ⟨s, hs, rfl⟩
  · have hi := isSheet_out hx q
    obtain ⟨x1, x2⟩ := hx
    refine no ?_ ?_
    · rw [f_X10_sheet_b0, jc_I (by omega) (by omega)]
      by_cases c : x < 0
      · rw [if_pos c]
      · rw [if_neg c, jc_II (by omega) (by omega) (by omega) (by omega), if_neg (by omega)]
    · rw [f_X11_sheet_b0, hi, jbind_s, jc_I (by omega) (by omega), if_pos rfl]
  · by_cases c1 : n < -1
    · refine no ?_ ?_
      · rw [f_X10_sheet_b0, jc_I (by omega) (by omega), if_neg (by omega), jc_II (by omega) (by omega) (by omega) (by omega), if_pos (by omega), jc_II (by omega) (by omega) (by omega) (by omega), if_pos (by omega)]
      · rw [f_X11_sheet_b0, isSheet_in hs, jbind_s, jc_I (by omega) (by omega), if_neg (by omega), jc_II (by omega) (by omega) (by omega) (by omega), if_pos (by omega)]
    by_cases c2 : (8 : Int) < n
    · refine no ?_ ?_
      · rw [f_X10_sheet_b0, jc_I (by omega) (by omega), if_neg (by omega), jc_II (by omega) (by omega) (by omega) (by omega), if_pos (by omega), jc_II (by omega) (by omega) (by omega) (by omega), if_neg (by omega), jc_II (by omega) (by omega) (by omega) (by omega), if_pos (by omega)]
      · rw [f_X11_sheet_b0, isSheet_in hs, jbind_s, jc_I (by omega) (by omega), if_neg (by omega), jc_II (by omega) (by omega) (by omega) (by omega), if_neg (by omega), jc_II (by omega) (by omega) (by omega) (by omega), if_pos (by omega)]
    refine ⟨1, wrR (up2 σC 15 s n) (s * 8) 8, shN (up2 σM 31 s n) (32 * s) 32, ?_, ?_, h.sheet ?_ ?_ ?_, ?_, Or.inr ?_⟩
    · rw [f_X10_sheet, f_X10_sheet_b0, jc_I (by omega) (by omega), if_neg (by omega), jc_II (by omega) (by omega) (by omega) (by omega), if_pos (by omega), jc_II (by omega) (by omega) (by omega) (by omega), if_neg (by omega), jc_II (by omega) (by omega) (by omega) (by omega), if_neg (by omega), f_X7_begin, f_X7_begin_b0, jc_ix (by omega) (by omega), jlet_v, jlet_v, cast_n, wrR_loop hs 1000 (by omega), jbind_s, jbind_s]
      rfl
    · rw [f_X11_sheet, f_X11_sheet_b0, isSheet_in hs, jbind_s, jc_I (by omega) (by omega), if_neg (by omega), jc_II (by omega) (by omega) (by omega) (by omega), if_neg (by omega), jc_II (by omega) (by omega) (by omega) (by omega), if_neg (by omega), jc_ix (by omega) (by omega), jlet_v, jlet_v, cast_n, shN_loop hs 1000 (by omega), jbind_s]
      rfl
    · intro k hk
      funext j
      unfold wrR
      rw [if_neg (by omega), up2_k (by omega)]
    · intro k hk
      funext j
      unfold shN
      rw [if_neg (by omega), up2_k (by omega)]
    · obtain ⟨s1, s2⟩ := h.2.2
      have e31 : shN (up2 σM 31 s n) (32 * s) 32 31 = up1 (σM 31) s n := by
        funext j
        unfold shN
        rw [if_neg (by omega)]
        simp [up2, upr]
      have e15 : wrR (up2 σC 15 s n) (s * 8) 8 15 = up1 (σC 15) s n := by
        funext j
        unfold wrR
        rw [if_neg (by omega)]
        simp [up2, upr]
      refine ⟨fun u hu => ?_, fun j hj => ?_⟩
      · rw [e31, e15]
        unfold up1
        by_cases c : u = s
        · rw [if_pos c, if_pos c]
          omega
        · rw [if_neg c, if_neg c]
          exact s1 u hu
      · unfold shN wrR
        by_cases c : s * 8 ≤ j ∧ j < s * 8 + 8
        · rw [if_pos (by omega), if_pos (by omega), if_pos (by omega), if_pos (by omega), if_pos (by omega), if_pos (by omega), if_pos (by omega), if_pos (by omega)]
          refine ⟨⟨rfl, rfl, rfl, rfl⟩, ⟨by omega, by omega⟩, ⟨by omega, by omega⟩, ⟨by omega, by omega⟩, by omega, by omega⟩
        · rw [if_neg (by omega), if_neg (by omega), if_neg (by omega), if_neg (by omega), if_neg (by omega), if_neg (by omega), if_neg (by omega), if_neg (by omega)]
          simp only [up2_k, ne_eq, Nat.reduceEqDiff, not_false_eq_true]
          exact s2 j hj
    · intro k hk
      funext j
      unfold wrR
      rw [if_neg (by omega), up2_k (by omega)]
    · intro k hk
      funext j
      unfold wrR
      rw [if_neg (by omega), up2_k (by omega)]
theorem shas_in {σ : St} {s : Nat} (hs : s < 8) (h : -1 ≤ σ 15 s ∧ σ 15 s ≤ 8) : f_X7_has σ (s : Int) = some (if σ 15 s = -1 then 0 else 1) := by
  rw [f_X7_has, f_X7_has_b0, cast_n]
  by_cases c : σ 15 s = -1
  · simp (disch := omega) only [↓jlet_v, ↓jbind_s, ↓jc_I, ↓jc_II, ↓jc_ix, ↓if_pos, ↓if_neg, cast_n, jz_0, jz_1]
  · simp (disch := omega) only [↓jlet_v, ↓jbind_s, ↓jc_I, ↓jc_II, ↓jc_ix, ↓if_pos, ↓if_neg, cast_n, jz_0, jz_1]
theorem shas_out {σ : St} {s : Int} (hi : inI s) (h : s < 0 ∨ 8 ≤ s) : f_X7_has σ s = some 0 := by
  obtain ⟨h1, h2⟩ := hi
  rw [f_X7_has, f_X7_has_b0]
  by_cases c : s < 0
  · simp (disch := omega) only [↓jlet_v, ↓jbind_s, ↓jc_I, ↓jc_II, ↓jc_ix, ↓if_pos, ↓if_neg, cast_n, jz_0, jz_1]
  · simp (disch := omega) only [↓jlet_v, ↓jbind_s, ↓jc_I, ↓jc_II, ↓jc_ix, ↓if_pos, ↓if_neg, cast_n, jz_0, jz_1]
theorem line_eq {σC σM : St} (h : RA σC σM) {x k a b c d : Int} (hx : inI x) (hk : inI k) (ha : inI a) (hb : inI b) (hc : inI c) (hd : inI d) : ∃ v τC τM, f_X10_line σC x k a b c d = some (v, τC) ∧ f_X11_line_ σM x k a b c d = some (v, τM) ∧ RA τC τM ∧ CSt σC τC := by
  have no : f_X7_hasLine_b0 σC x k = some 0 → f_X11_line__b0 σM x k a b c d = some (0, σM) → ∃ v τC τM, f_X10_line σC x k a b c d = some (v, τC) ∧ f_X11_line_ σM x k a b c d = some (v, τM) ∧ RA τC τM ∧ CSt σC τC := by
    intro e1 e2
    refine ⟨0, σC, σM, ?_, ?_, h, CSt.refl⟩
    · rw [f_X10_line, f_X10_line_b0, f_X7_hasLine, e1, jz_0, jbind_s, jc_I (by omega) (by omega), if_pos rfl]; rfl
    · rw [f_X11_line_, e2]; rfl
  obtain ⟨k1, k2⟩ := hk
  rcases ix8 x with q | ⟨s, hs, rfl⟩
  · have hi := isSheet_out hx q
    have hi2 := shas_out (σ := σC) hx q
    refine no ?_ ?_
    · rw [f_X7_hasLine_b0, hi2, jbind_s, jc_I (by omega) (by omega), if_pos rfl]
    · rw [f_X11_line__b0, hi, jbind_s, jc_I (by omega) (by omega), if_pos rfl]
  · obtain ⟨s1, s2⟩ := h.2.2
    obtain ⟨l1, l2, l3⟩ := s1 s hs
    by_cases c1 : 0 ≤ k ∧ k < σC 15 s
    · obtain ⟨k, rfl⟩ : ∃ m : Nat, k = (m : Int) := ⟨k.toNat, by omega⟩
      have ea : (s : Int) * 8 + (k : Int) = ((s * 8 + k : Nat) : Int) := by omega
      have e0 : 32 * (s : Int) + 4 * (k : Int) = ((4 * (s * 8 + k) : Nat) : Int) := by omega
      have e1 : ((4 * (s * 8 + k) : Nat) : Int) + 1 = ((4 * (s * 8 + k) + 1 : Nat) : Int) := by omega
      have e2 : ((4 * (s * 8 + k) : Nat) : Int) + 2 = ((4 * (s * 8 + k) + 2 : Nat) : Int) := by omega
      have e3 : ((4 * (s * 8 + k) : Nat) : Int) + 3 = ((4 * (s * 8 + k) + 3 : Nat) : Int) := by omega
      have hat : s * 8 + k < 64 := by omega
      generalize hm : s * 8 + k = m at *
      refine ⟨1, up2 (up2 (up2 (up2 σC 16 m a) 17 m b) 18 m c) 19 m d, up2 (up2 (up2 (up2 σM 32 (4 * m) a) 32 (4 * m + 1) b) 32 (4 * m + 2) c) 32 (4 * m + 3) d, ?_, ?_, h.sheet ?_ ?_ ?_, ?_, Or.inr ?_⟩
      · rw [f_X10_line, f_X10_line_b0, f_X7_hasLine, f_X7_hasLine_b0, shas_in hs ⟨l2, l3⟩, jbind_s, if_neg (by omega), jc_I (by omega) (by omega), if_neg (by omega), jc_I (by omega) (by omega), if_neg (by omega), jc_ix (by omega) (by omega), cast_n, jc_II (by omega) (by omega) (by omega) (by omega), if_pos (by omega), jz_1, jbind_s, jc_I (by omega) (by omega), if_neg (by omega), ea, write_spec hat, jbind_s]
        rfl
      · rw [f_X11_line_, f_X11_line__b0, isSheet_in hs, jbind_s, jc_I (by omega) (by omega), if_neg (by omega), jc_I (by omega) (by omega), if_neg (by omega), jc_ix (by omega) (by omega), cast_n, l1, jc_II (by omega) (by omega) (by omega) (by omega), if_pos (by omega), jlet_v, e0, jc_ix (by omega) (by omega), jlet_v, e1, e2, e3, jc_ix (by omega) (by omega), jlet_v, jc_ix (by omega) (by omega), jlet_v, jc_ix (by omega) (by omega), jlet_v, cast_n, cast_n, cast_n, cast_n]
        rfl
      · intro u hu
        rw [up2_k (by omega), up2_k (by omega), up2_k (by omega), up2_k (by omega)]
      · intro u hu
        rw [up2_k (by omega), up2_k (by omega), up2_k (by omega), up2_k (by omega)]
      · refine ⟨fun u hu => ?_, fun j hj => ?_⟩
        · rw [up2_k (by omega), up2_k (by omega), up2_k (by omega), up2_k (by omega), up2_k (by omega), up2_k (by omega), up2_k (by omega), up2_k (by omega)]
          exact s1 u hu
        · by_cases e : j = m
          · subst e
            simp [up2, upr, up1]
            exact ⟨ha, hb, hc, hd⟩
          · have f0 : ∀ t, t < 4 → 4 * j + t ≠ 4 * m ∧ 4 * j + t ≠ 4 * m + 1 ∧ 4 * j + t ≠ 4 * m + 2 ∧ 4 * j + t ≠ 4 * m + 3 := by
              intro t ht
              omega
            have g : ∀ t, t < 4 → up2 (up2 (up2 (up2 σM 32 (4 * m) a) 32 (4 * m + 1) b) 32 (4 * m + 2) c) 32 (4 * m + 3) d 32 (4 * j + t) = σM 32 (4 * j + t) := by
              intro t ht
              obtain ⟨f1, f2, f3, f4⟩ := f0 t ht
              rw [up2_j f4, up2_j f3, up2_j f2, up2_j f1]
            have g0 : up2 (up2 (up2 (up2 σM 32 (4 * m) a) 32 (4 * m + 1) b) 32 (4 * m + 2) c) 32 (4 * m + 3) d 32 (4 * j) = σM 32 (4 * j) := g 0 (by omega)
            rw [g0, g 1 (by omega), g 2 (by omega), g 3 (by omega)]
            simp only [up2_k, up2_j e, ne_eq, Nat.reduceEqDiff, not_false_eq_true]
            exact s2 j hj
      · intro u hu
        rw [up2_k (by omega), up2_k (by omega), up2_k (by omega), up2_k (by omega)]
      · intro u hu
        rw [up2_k (by omega), up2_k (by omega), up2_k (by omega), up2_k (by omega)]
    · refine no ?_ ?_
      · rw [f_X7_hasLine_b0, shas_in hs ⟨l2, l3⟩, jbind_s]
        by_cases c2 : σC 15 s = -1
        · rw [if_pos c2, jc_I (by omega) (by omega), if_pos rfl]
        · rw [if_neg c2, jc_I (by omega) (by omega), if_neg (by omega), jc_I (by omega) (by omega)]
          by_cases c3 : k < 0
          · rw [if_pos c3]
          · rw [if_neg c3, jc_ix (by omega) (by omega), cast_n, jc_II (by omega) (by omega) (by omega) (by omega), if_neg (by omega)]
      · rw [f_X11_line__b0, isSheet_in hs, jbind_s, jc_I (by omega) (by omega), if_neg (by omega), jc_I (by omega) (by omega)]
        by_cases c3 : k < 0
        · rw [if_pos c3]
        · rw [if_neg c3, jc_ix (by omega) (by omega), cast_n, l1, jc_II (by omega) (by omega) (by omega) (by omega), if_neg (by omega)]
