/-! ===== the pure side 6: fill, become, sink, undo ===== -/
theorem may_both {k n : Int} (hk : inI k) (hn : inI n) : (okK k n ∧ f_X10_mayHave k n = some 1 ∧ f_X11_mayBe k n = some 1) ∨ (¬ okK k n ∧ f_X10_mayHave k n = some 0 ∧ f_X11_mayBe k n = some 0) := by
  obtain ⟨k1, k2⟩ := hk
  obtain ⟨n1, n2⟩ := hn
  by_cases c1 : k < 0
  · refine Or.inr ⟨by unfold okK; omega, ?_, ?_⟩
    · rw [f_X10_mayHave, f_X10_mayHave_b0]; simp (disch := omega) only [↓jlet_v, ↓jbind_s, ↓jc_I, ↓jc_II, ↓jc_ix, ↓if_pos, ↓if_neg, cast_n, jz_0, jz_1]
    · rw [f_X11_mayBe, f_X11_mayBe_b0]; simp (disch := omega) only [↓jlet_v, ↓jbind_s, ↓jc_I, ↓jc_II, ↓jc_ix, ↓if_pos, ↓if_neg, cast_n, jz_0, jz_1]
  by_cases c2 : 5 ≤ k
  · refine Or.inr ⟨by unfold okK; omega, ?_, ?_⟩
    · rw [f_X10_mayHave, f_X10_mayHave_b0]; simp (disch := omega) only [↓jlet_v, ↓jbind_s, ↓jc_I, ↓jc_II, ↓jc_ix, ↓if_pos, ↓if_neg, cast_n, jz_0, jz_1]
    · rw [f_X11_mayBe, f_X11_mayBe_b0]; simp (disch := omega) only [↓jlet_v, ↓jbind_s, ↓jc_I, ↓jc_II, ↓jc_ix, ↓if_pos, ↓if_neg, cast_n, jz_0, jz_1]
  have key : ∀ lo hi : Int, lstN k.toNat = lo → mstN k.toNat = hi → inI lo → inI hi → f_X10_mayHave k n = some (if n < lo then 0 else if hi < n then 0 else 1) := by
    intro lo hi e1 e2 ⟨l1, l2⟩ ⟨m1, m2⟩
    rw [f_X10_mayHave, f_X10_mayHave_b0, e1, e2]
    by_cases q1 : n < lo
    · simp (disch := omega) only [↓jlet_v, ↓jbind_s, ↓jc_I, ↓jc_II, ↓jc_ix, ↓if_pos, ↓if_neg, cast_n, jz_0, jz_1]
    · by_cases q2 : hi < n
      · simp (disch := omega) only [↓jlet_v, ↓jbind_s, ↓jc_I, ↓jc_II, ↓jc_ix, ↓if_pos, ↓if_neg, cast_n, jz_0, jz_1]
      · simp (disch := omega) only [↓jlet_v, ↓jbind_s, ↓jc_I, ↓jc_II, ↓jc_ix, ↓if_pos, ↓if_neg, cast_n, jz_0, jz_1]
  rw [f_X11_mayBe, f_X11_mayBe_b0]
  unfold okK
  rcases (by omega : k = 0 ∨ k = 1 ∨ k = 2 ∨ k = 3 ∨ k = 4) with e | e | e | e | e
  · rw [key 0 0 (by rw [e]; rfl) (by rw [e]; rfl) (by decide) (by decide)]
    by_cases q : n = 0
    · refine Or.inl ⟨by omega, ?_, ?_⟩ <;> simp (disch := omega) only [↓jlet_v, ↓jbind_s, ↓jc_I, ↓jc_II, ↓jc_ix, ↓if_pos, ↓if_neg, cast_n, jz_0, jz_1]
    · refine Or.inr ⟨by omega, ?_, ?_⟩
      · by_cases q2 : n < 0
        · simp (disch := omega) only [↓jlet_v, ↓jbind_s, ↓jc_I, ↓jc_II, ↓jc_ix, ↓if_pos, ↓if_neg, cast_n, jz_0, jz_1]
        · simp (disch := omega) only [↓jlet_v, ↓jbind_s, ↓jc_I, ↓jc_II, ↓jc_ix, ↓if_pos, ↓if_neg, cast_n, jz_0, jz_1]
      · simp (disch := omega) only [↓jlet_v, ↓jbind_s, ↓jc_I, ↓jc_II, ↓jc_ix, ↓if_pos, ↓if_neg, cast_n, jz_0, jz_1]
  · rw [key 0 1000000 (by rw [e]; rfl) (by rw [e]; rfl) (by decide) (by decide)]
    by_cases q : n < 0
    · refine Or.inr ⟨by omega, ?_, ?_⟩ <;> simp (disch := omega) only [↓jlet_v, ↓jbind_s, ↓jc_I, ↓jc_II, ↓jc_ix, ↓if_pos, ↓if_neg, cast_n, jz_0, jz_1]
    · by_cases q2 : 1000000 < n
      · refine Or.inr ⟨by omega, ?_, ?_⟩ <;> simp (disch := omega) only [↓jlet_v, ↓jbind_s, ↓jc_I, ↓jc_II, ↓jc_ix, ↓if_pos, ↓if_neg, cast_n, jz_0, jz_1]
      · refine Or.inl ⟨by omega, ?_, ?_⟩ <;> simp (disch := omega) only [↓jlet_v, ↓jbind_s, ↓jc_I, ↓jc_II, ↓jc_ix, ↓if_pos, ↓if_neg, cast_n, jz_0, jz_1]
  · rw [key 0 999999 (by rw [e]; rfl) (by rw [e]; rfl) (by decide) (by decide)]
    by_cases q : n < 0
    · refine Or.inr ⟨by omega, ?_, ?_⟩ <;> simp (disch := omega) only [↓jlet_v, ↓jbind_s, ↓jc_I, ↓jc_II, ↓jc_ix, ↓if_pos, ↓if_neg, cast_n, jz_0, jz_1]
    · by_cases q2 : 999999 < n
      · refine Or.inr ⟨by omega, ?_, ?_⟩ <;> simp (disch := omega) only [↓jlet_v, ↓jbind_s, ↓jc_I, ↓jc_II, ↓jc_ix, ↓if_pos, ↓if_neg, cast_n, jz_0, jz_1]
      · refine Or.inl ⟨by omega, ?_, ?_⟩ <;> simp (disch := omega) only [↓jlet_v, ↓jbind_s, ↓jc_I, ↓jc_II, ↓jc_ix, ↓if_pos, ↓if_neg, cast_n, jz_0, jz_1]
  · rw [key 0 0 (by rw [e]; rfl) (by rw [e]; rfl) (by decide) (by decide)]
    by_cases q : n = 0
    · refine Or.inl ⟨by omega, ?_, ?_⟩ <;> simp (disch := omega) only [↓jlet_v, ↓jbind_s, ↓jc_I, ↓jc_II, ↓jc_ix, ↓if_pos, ↓if_neg, cast_n, jz_0, jz_1]
    · refine Or.inr ⟨by omega, ?_, ?_⟩
      · by_cases q2 : n < 0
        · simp (disch := omega) only [↓jlet_v, ↓jbind_s, ↓jc_I, ↓jc_II, ↓jc_ix, ↓if_pos, ↓if_neg, cast_n, jz_0, jz_1]
        · simp (disch := omega) only [↓jlet_v, ↓jbind_s, ↓jc_I, ↓jc_II, ↓jc_ix, ↓if_pos, ↓if_neg, cast_n, jz_0, jz_1]
      · simp (disch := omega) only [↓jlet_v, ↓jbind_s, ↓jc_I, ↓jc_II, ↓jc_ix, ↓if_pos, ↓if_neg, cast_n, jz_0, jz_1]
  · rw [key 1 15 (by rw [e]; rfl) (by rw [e]; rfl) (by decide) (by decide)]
    by_cases q : n < 1
    · refine Or.inr ⟨by omega, ?_, ?_⟩ <;> simp (disch := omega) only [↓jlet_v, ↓jbind_s, ↓jc_I, ↓jc_II, ↓jc_ix, ↓if_pos, ↓if_neg, cast_n, jz_0, jz_1]
    · by_cases q2 : 15 < n
      · refine Or.inr ⟨by omega, ?_, ?_⟩ <;> simp (disch := omega) only [↓jlet_v, ↓jbind_s, ↓jc_I, ↓jc_II, ↓jc_ix, ↓if_pos, ↓if_neg, cast_n, jz_0, jz_1]
      · refine Or.inl ⟨by omega, ?_, ?_⟩ <;> simp (disch := omega) only [↓jlet_v, ↓jbind_s, ↓jc_I, ↓jc_II, ↓jc_ix, ↓if_pos, ↓if_neg, cast_n, jz_0, jz_1]
/-- one well written on both sides -/
theorem put_eq {τC τM μM : St} (h : RA τC τM) {w : Nat} (hw : w < 24) {x y k n : Int} (hv : (k = -1 ∧ x = 0 ∧ y = 0 ∧ n = 0) ∨ (okK k n ∧ 0 ≤ x ∧ x ≤ τC 1 0 ∧ 0 ≤ y ∧ y ≤ τC 1 1)) (hd : k ≠ -1 → ∀ v, v < 24 → v ≠ w → τC 5 v ≠ -1 → τC 3 v = x → τC 4 v = y → False) (hM : ∀ k, 5 < k → μM k = τM k) (h0 : μM 0 = τM 0) (hm : ∀ k v, 0 < k → k < 6 → v < 24 → v ≠ w → μM k v = τM k v) (hn : (k = -1 ∧ μM 1 w = 0) ∨ (k ≠ -1 ∧ μM 1 w = 1 ∧ μM 4 w = k ∧ μM 2 w = x ∧ μM 3 w = y ∧ μM 5 w = n)) : ∃ υ, f_X9_put τC (w : Int) x y k n = some υ ∧ RA υ μM ∧ υ 1 6 = τC 1 6 + 1 ∧ (∀ k, 7 ≤ k → υ k = τC k) ∧ υ 3 = up1 (τC 3) w x ∧ υ 4 = up1 (τC 4) w y ∧ υ 5 = up1 (τC 5) w k ∧ υ 6 = up1 (τC 6) w n ∧ υ 1 0 = τC 1 0 ∧ υ 1 1 = τC 1 1 := by
  obtain ⟨hR, hp, hS⟩ := h
  obtain ⟨w1, w2, w3, w4⟩ := hR.1
  have e3 : up2 (up2 (up2 (up2 τC 3 w x) 4 w y) 5 w k) 6 w n 3 = up1 (τC 3) w x := by simp [up2, upr]
  have e4 : up2 (up2 (up2 (up2 τC 3 w x) 4 w y) 5 w k) 6 w n 4 = up1 (τC 4) w y := by simp [up2, upr]
  have e5 : up2 (up2 (up2 (up2 τC 3 w x) 4 w y) 5 w k) 6 w n 5 = up1 (τC 5) w k := by simp [up2, upr]
  have e6 : up2 (up2 (up2 (up2 τC 3 w x) 4 w y) 5 w k) 6 w n 6 = up1 (τC 6) w n := by simp [up2, upr]
  have e1 : up2 (up2 (up2 (up2 τC 3 w x) 4 w y) 5 w k) 6 w n 1 = τC 1 := by simp [up2, upr]
  have s1 : ∀ {f : Nat → Int} {v : Int}, up1 f w v w = v := by intro f v; simp [up1]
  have s2 : ∀ {f : Nat → Int} {v : Int} {u : Nat}, u ≠ w → up1 f w v u = f u := by intro f v u hu; simp [up1, hu]
  obtain ⟨υ, v0, vR, v6, vk, vm⟩ := newmap (μC := up2 (up2 (up2 (up2 τC 3 w x) 4 w y) 5 w k) 6 w n) (μM := μM) hp hS (fun k hk => by rw [up2_k (by omega), up2_k (by omega), up2_k (by omega), up2_k (by omega)]) (by rw [e1]) hM (by rw [h0]) (by
      rw [e1, e3, e4, e5, e6]
      refine ⟨w1, w2, fun u hu => ?_, fun a b ha hb ka kb xe ye => ?_⟩
      · by_cases c : u = w
        · rw [c, s1, s1, s1, s1]; exact hv
        · rw [s2 c, s2 c, s2 c, s2 c]; exact w3 u hu
      · by_cases ca : a = w
        · by_cases cb : b = w
          · rw [ca, cb]
          · rw [ca, s1] at ka xe ye
            rw [s2 cb] at kb xe ye
            exact (hd ka b hb cb kb xe.symm ye.symm).elim
        · by_cases cb : b = w
          · rw [cb, s1] at kb xe ye
            rw [s2 ca] at ka xe ye
            exact (hd kb a ha ca ka xe ye).elim
          · rw [s2 ca] at ka xe ye
            rw [s2 cb] at kb xe ye
            exact w4 a b ha hb ka kb xe ye) (by rw [e1]; exact hR.2.1) (by rw [e1, h0]; exact hR.2.2.1) (by rw [e1, h0]; exact hR.2.2.2.1) (by rw [e1, h0]; exact hR.2.2.2.2.1) (by
      rw [e3, e4, e5, e6]
      intro u hu
      by_cases c : u = w
      · rw [c, s1, s1, s1, s1]
        rcases hn with ⟨z1, z2⟩ | z
        · exact Or.inl ⟨z2, z1⟩
        · exact Or.inr ⟨z.2.1, z.1, z.2.2⟩
      · rw [s2 c, s2 c, s2 c, s2 c, hm 1 u (by omega) (by omega) hu c, hm 2 u (by omega) (by omega) hu c, hm 3 u (by omega) (by omega) hu c, hm 4 u (by omega) (by omega) hu c, hm 5 u (by omega) (by omega) hu c]
        exact hR.2.2.2.2.2.1 u hu)
  refine ⟨υ, ?_, vR, v6, vk, ?_, ?_, ?_, ?_, ?_, ?_⟩
  · rw [f_X9_put, f_X9_put_b0, jc_I (by omega) (by omega), if_neg (by omega), jc_II (by omega) (by omega) (by omega) (by omega), if_pos (by omega), jc_ix (by omega) (by omega), jlet_v, jc_ix (by omega) (by omega), jlet_v, jc_ix (by omega) (by omega), jlet_v, jc_ix (by omega) (by omega), jlet_v, cast_n, v0, jbind_s]
  · rw [vm 3 (by omega) (by omega), e3]
  · rw [vm 4 (by omega) (by omega), e4]
  · rw [vm 5 (by omega) (by omega), e5]
  · rw [vm 6 (by omega) (by omega), e6]
  · rw [← vR.1.2.2.1, h0, hR.2.2.1]
  · rw [← vR.1.2.2.2.1, h0, hR.2.2.2.1]
