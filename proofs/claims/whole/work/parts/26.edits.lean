/-! ===== the pure side 6: fill, become, sink, undo ===== -/
theorem up2_a {σ : St} {k j k' a : Nat} {v : Int} (h : a ≠ j) : up2 σ k j v k' a = σ k' a := by
  by_cases e : k' = k
  · rw [e, up2_j h]
  · rw [up2_k e]
theorem may_both {k n : Int} (hk : inI k) (hn : inI n) : (okK k n ∧ f_X10_mayHave k n = some 1 ∧ f_X11_mayBe k n = some 1) ∨ (¬ okK k n ∧ f_X10_mayHave k n = some 0 ∧ f_X11_mayBe k n = some 0) := by
  obtain ⟨k1, k2⟩ := hk
  obtain ⟨n1, n2⟩ := hn
  by_cases c1 : k < 0
  · refine Or.inr ⟨by unfold okK; omega, ?_, ?_⟩
    · rw [f_X10_mayHave, f_X10_mayHave_b0]; simp (disch := omega) only [↓jlet_v, ↓jbind_s, ↓jc_I, ↓jc_II, ↓jc_ix, ↓if_pos, ↓if_neg, cast_n, jz_0, jz_1]
    · rw [f_X11_mayBe, f_X11_mayBe_b0]; simp (disch := omega) only [↓jlet_v, ↓jbind_s, ↓jc_I, ↓jc_II, ↓jc_ix, ↓if_pos, ↓if_neg, cast_n, jz_0, jz_1]
  by_cases c2 : 5 ≤ k
  · refine Or.inr ⟨by unfold okK; omega, ?_, ?_⟩
    · rw [f_X10_mayHave, f_X10_mayHave_b0]; simp (disch := omega) only [↓jlet_v, ↓jbind_s, ↓jc_I, ↓jc_II, ↓jc_ix, ↓if_pos, ↓if_neg, cast_n, jz_0, jz_1]
    · rw [f_X11_mayBe, f_X11_mayBe_b0]; simp (disch := omega) only [↓jlet_v, ↓jbind_s, ↓jc_I, ↓jc_II, ↓jc_ix, ↓if_pos, ↓if_neg, cast_n, jz_0, jz_1]
  have key : ∀ lo hi : Int, lstN k.toNat = lo → mstN k.toNat = hi → inI lo → inI hi → f_X10_mayHave k n = some (if n < lo then 0 else if hi < n then 0 else 1) := by
    intro lo hi e1 e2 ⟨l1, l2⟩ ⟨m1, m2⟩
    rw [f_X10_mayHave, f_X10_mayHave_b0, e1, e2]
    by_cases q1 : n < lo
    · simp (disch := omega) only [↓jlet_v, ↓jbind_s, ↓jc_I, ↓jc_II, ↓jc_ix, ↓if_pos, ↓if_neg, cast_n, jz_0, jz_1]
    · by_cases q2 : hi < n
      · simp (disch := omega) only [↓jlet_v, ↓jbind_s, ↓jc_I, ↓jc_II, ↓jc_ix, ↓if_pos, ↓if_neg, cast_n, jz_0, jz_1]
      · simp (disch := omega) only [↓jlet_v, ↓jbind_s, ↓jc_I, ↓jc_II, ↓jc_ix, ↓if_pos, ↓if_neg, cast_n, jz_0, jz_1]
  rw [f_X11_mayBe, f_X11_mayBe_b0]
  unfold okK
  rcases (by omega : k = 0 ∨ k = 1 ∨ k = 2 ∨ k = 3 ∨ k = 4) with e | e | e | e | e
  · rw [key 0 0 (by rw [e]; rfl) (by rw [e]; rfl) ⟨by omega, by omega⟩ ⟨by omega, by omega⟩]
    by_cases q : n = 0
    · refine Or.inl ⟨by omega, ?_, ?_⟩ <;> simp (disch := omega) only [↓jlet_v, ↓jbind_s, ↓jc_I, ↓jc_II, ↓jc_ix, ↓if_pos, ↓if_neg, cast_n, jz_0, jz_1]
    · refine Or.inr ⟨by omega, ?_, ?_⟩
      · by_cases q2 : n < 0
        · simp (disch := omega) only [↓jlet_v, ↓jbind_s, ↓jc_I, ↓jc_II, ↓jc_ix, ↓if_pos, ↓if_neg, cast_n, jz_0, jz_1]
        · simp (disch := omega) only [↓jlet_v, ↓jbind_s, ↓jc_I, ↓jc_II, ↓jc_ix, ↓if_pos, ↓if_neg, cast_n, jz_0, jz_1]
      · simp (disch := omega) only [↓jlet_v, ↓jbind_s, ↓jc_I, ↓jc_II, ↓jc_ix, ↓if_pos, ↓if_neg, cast_n, jz_0, jz_1]
  · rw [key 0 1000000 (by rw [e]; rfl) (by rw [e]; rfl) ⟨by omega, by omega⟩ ⟨by omega, by omega⟩]
    by_cases q : n < 0
    · refine Or.inr ⟨by omega, ?_, ?_⟩ <;> simp (disch := omega) only [↓jlet_v, ↓jbind_s, ↓jc_I, ↓jc_II, ↓jc_ix, ↓if_pos, ↓if_neg, cast_n, jz_0, jz_1]
    · by_cases q2 : 1000000 < n
      · refine Or.inr ⟨by omega, ?_, ?_⟩ <;> simp (disch := omega) only [↓jlet_v, ↓jbind_s, ↓jc_I, ↓jc_II, ↓jc_ix, ↓if_pos, ↓if_neg, cast_n, jz_0, jz_1]
      · refine Or.inl ⟨by omega, ?_, ?_⟩ <;> simp (disch := omega) only [↓jlet_v, ↓jbind_s, ↓jc_I, ↓jc_II, ↓jc_ix, ↓if_pos, ↓if_neg, cast_n, jz_0, jz_1]
  · rw [key 0 999999 (by rw [e]; rfl) (by rw [e]; rfl) ⟨by omega, by omega⟩ ⟨by omega, by omega⟩]
    by_cases q : n < 0
    · refine Or.inr ⟨by omega, ?_, ?_⟩ <;> simp (disch := omega) only [↓jlet_v, ↓jbind_s, ↓jc_I, ↓jc_II, ↓jc_ix, ↓if_pos, ↓if_neg, cast_n, jz_0, jz_1]
    · by_cases q2 : 999999 < n
      · refine Or.inr ⟨by omega, ?_, ?_⟩ <;> simp (disch := omega) only [↓jlet_v, ↓jbind_s, ↓jc_I, ↓jc_II, ↓jc_ix, ↓if_pos, ↓if_neg, cast_n, jz_0, jz_1]
      · refine Or.inl ⟨by omega, ?_, ?_⟩ <;> simp (disch := omega) only [↓jlet_v, ↓jbind_s, ↓jc_I, ↓jc_II, ↓jc_ix, ↓if_pos, ↓if_neg, cast_n, jz_0, jz_1]
  · rw [key 0 0 (by rw [e]; rfl) (by rw [e]; rfl) ⟨by omega, by omega⟩ ⟨by omega, by omega⟩]
    by_cases q : n = 0
    · refine Or.inl ⟨by omega, ?_, ?_⟩ <;> simp (disch := omega) only [↓jlet_v, ↓jbind_s, ↓jc_I, ↓jc_II, ↓jc_ix, ↓if_pos, ↓if_neg, cast_n, jz_0, jz_1]
    · refine Or.inr ⟨by omega, ?_, ?_⟩
      · by_cases q2 : n < 0
        · simp (disch := omega) only [↓jlet_v, ↓jbind_s, ↓jc_I, ↓jc_II, ↓jc_ix, ↓if_pos, ↓if_neg, cast_n, jz_0, jz_1]
        · simp (disch := omega) only [↓jlet_v, ↓jbind_s, ↓jc_I, ↓jc_II, ↓jc_ix, ↓if_pos, ↓if_neg, cast_n, jz_0, jz_1]
      · simp (disch := omega) only [↓jlet_v, ↓jbind_s, ↓jc_I, ↓jc_II, ↓jc_ix, ↓if_pos, ↓if_neg, cast_n, jz_0, jz_1]
  · rw [key 1 15 (by rw [e]; rfl) (by rw [e]; rfl) ⟨by omega, by omega⟩ ⟨by omega, by omega⟩]
    by_cases q : n < 1
    · refine Or.inr ⟨by omega, ?_, ?_⟩ <;> simp (disch := omega) only [↓jlet_v, ↓jbind_s, ↓jc_I, ↓jc_II, ↓jc_ix, ↓if_pos, ↓if_neg, cast_n, jz_0, jz_1]
    · by_cases q2 : 15 < n
      · refine Or.inr ⟨by omega, ?_, ?_⟩ <;> simp (disch := omega) only [↓jlet_v, ↓jbind_s, ↓jc_I, ↓jc_II, ↓jc_ix, ↓if_pos, ↓if_neg, cast_n, jz_0, jz_1]
      · refine Or.inl ⟨by omega, ?_, ?_⟩ <;> simp (disch := omega) only [↓jlet_v, ↓jbind_s, ↓jc_I, ↓jc_II, ↓jc_ix, ↓if_pos, ↓if_neg, cast_n, jz_0, jz_1]
/-- one well written on both sides -/
theorem put_eq {τC τM μM : St} (h : RA τC τM) {w : Nat} (hw : w < 24) {x y k n : Int} (hv : (k = -1 ∧ x = 0 ∧ y = 0 ∧ n = 0) ∨ (okK k n ∧ 0 ≤ x ∧ x ≤ τC 1 0 ∧ 0 ≤ y ∧ y ≤ τC 1 1)) (hd : k ≠ -1 → ∀ v, v < 24 → v ≠ w → τC 5 v ≠ -1 → τC 3 v = x → τC 4 v = y → False) (hM : ∀ k, 5 < k → μM k = τM k) (h0 : μM 0 = τM 0) (hm : ∀ k v, 0 < k → k < 6 → v < 24 → v ≠ w → μM k v = τM k v) (hn : (k = -1 ∧ μM 1 w = 0) ∨ (k ≠ -1 ∧ μM 1 w = 1 ∧ μM 4 w = k ∧ μM 2 w = x ∧ μM 3 w = y ∧ μM 5 w = n)) : ∃ υ, f_X9_put τC (w : Int) x y k n = some υ ∧ RA υ μM ∧ υ 1 6 = τC 1 6 + 1 ∧ (∀ k, 7 ≤ k → υ k = τC k) ∧ υ 3 = up1 (τC 3) w x ∧ υ 4 = up1 (τC 4) w y ∧ υ 5 = up1 (τC 5) w k ∧ υ 6 = up1 (τC 6) w n ∧ υ 1 0 = τC 1 0 ∧ υ 1 1 = τC 1 1 := by
  obtain ⟨hR, hp, hS⟩ := h
  obtain ⟨w1, w2, w3, w4⟩ := hR.1
  have e3 : up2 (up2 (up2 (up2 τC 3 w x) 4 w y) 5 w k) 6 w n 3 = up1 (τC 3) w x := by simp [up2, upr]
  have e4 : up2 (up2 (up2 (up2 τC 3 w x) 4 w y) 5 w k) 6 w n 4 = up1 (τC 4) w y := by simp [up2, upr]
  have e5 : up2 (up2 (up2 (up2 τC 3 w x) 4 w y) 5 w k) 6 w n 5 = up1 (τC 5) w k := by simp [up2, upr]
  have e6 : up2 (up2 (up2 (up2 τC 3 w x) 4 w y) 5 w k) 6 w n 6 = up1 (τC 6) w n := by simp [up2, upr]
  have e1 : up2 (up2 (up2 (up2 τC 3 w x) 4 w y) 5 w k) 6 w n 1 = τC 1 := by simp [up2, upr]
  have s1 : ∀ {f : Nat → Int} {v : Int}, up1 f w v w = v := by intro f v; simp [up1]
  have s2 : ∀ {f : Nat → Int} {v : Int} {u : Nat}, u ≠ w → up1 f w v u = f u := by intro f v u hu; simp [up1, hu]
  obtain ⟨υ, v0, vR, v6, vk, vm⟩ := newmap (μC := up2 (up2 (up2 (up2 τC 3 w x) 4 w y) 5 w k) 6 w n) (μM := μM) hp hS (fun k hk => by rw [up2_k (by omega), up2_k (by omega), up2_k (by omega), up2_k (by omega)]) (by rw [e1]) hM (by rw [h0]) (by
      rw [e1, e3, e4, e5, e6]
      refine ⟨w1, w2, fun u hu => ?_, fun a b ha hb ka kb xe ye => ?_⟩
      · by_cases c : u = w
        · rw [c, s1, s1, s1, s1]; exact hv
        · rw [s2 c, s2 c, s2 c, s2 c]; exact w3 u hu
      · by_cases ca : a = w
        · by_cases cb : b = w
          · rw [ca, cb]
          · rw [ca, s1] at ka xe ye
            rw [s2 cb] at kb xe ye
            exact (hd ka b hb cb kb xe.symm ye.symm).elim
        · by_cases cb : b = w
          · rw [cb, s1] at kb xe ye
            rw [s2 ca] at ka xe ye
            exact (hd kb a ha ca ka xe ye).elim
          · rw [s2 ca] at ka xe ye
            rw [s2 cb] at kb xe ye
            exact w4 a b ha hb ka kb xe ye) (by rw [e1]; exact hR.2.1) (by rw [e1, h0]; exact hR.2.2.1) (by rw [e1, h0]; exact hR.2.2.2.1) (by rw [e1, h0]; exact hR.2.2.2.2.1) (by
      rw [e3, e4, e5, e6]
      intro u hu
      by_cases c : u = w
      · rw [c, s1, s1, s1, s1]
        rcases hn with ⟨z1, z2⟩ | z
        · exact Or.inl ⟨z2, z1⟩
        · exact Or.inr ⟨z.2.1, z.1, z.2.2⟩
      · rw [s2 c, s2 c, s2 c, s2 c, hm 1 u (by omega) (by omega) hu c, hm 2 u (by omega) (by omega) hu c, hm 3 u (by omega) (by omega) hu c, hm 4 u (by omega) (by omega) hu c, hm 5 u (by omega) (by omega) hu c]
        exact hR.2.2.2.2.2.1 u hu)
  refine ⟨υ, ?_, vR, v6, vk, ?_, ?_, ?_, ?_, ?_, ?_⟩
  · rw [f_X9_put, f_X9_put_b0, jc_I (by omega) (by omega), if_neg (by omega), jc_II (by omega) (by omega) (by omega) (by omega), if_pos (by omega), jc_ix (by omega) (by omega), jlet_v, jc_ix (by omega) (by omega), jlet_v, jc_ix (by omega) (by omega), jlet_v, jc_ix (by omega) (by omega), jlet_v, cast_n, v0, jbind_s]
  · rw [vm 3 (by omega) (by omega), e3]
  · rw [vm 4 (by omega) (by omega), e4]
  · rw [vm 5 (by omega) (by omega), e5]
  · rw [vm 6 (by omega) (by omega), e6]
  · rw [← vR.1.2.2.1, h0, hR.2.2.1]
  · rw [← vR.1.2.2.2.1, h0, hR.2.2.2.1]
theorem fill_eq {σC σM : St} (h : RA σC σM) {w : Int} (hw : inI w) : ∃ v τC τM, f_X10_fill σC w = some (v, τC) ∧ f_X11_fill σM w = some (v, τM) ∧ RA τC τM ∧ CSt σC τC := by
  rcases ix24 w with q | ⟨k, hk, rfl⟩
  · refine ⟨-1, σC, σM, ?_, ?_, h, CSt.refl⟩
    · rw [f_X10_fill, f_X10_fill_b0, has_out hw q, jbind_s, jc_I (by omega) (by omega), if_pos rfl]
    · rw [f_X11_fill, f_X11_fill_b0, wellM_out hw q, jbind_s, jc_I (by omega) (by omega), if_pos rfl]
  · have r := (h.1.rng hk).1
    by_cases c : σC 5 k = -1
    · refine ⟨-1, σC, σM, ?_, ?_, h, CSt.refl⟩
      · rw [f_X10_fill, f_X10_fill_b0, has_in hk r, if_pos c, jbind_s, jc_I (by omega) (by omega), if_pos rfl]
      · rw [f_X11_fill, f_X11_fill_b0, wellM h.1.2.2.2.2.2.1 hk, if_pos c, jbind_s, jc_I (by omega) (by omega), if_pos rfl]
    · obtain ⟨τC, τM, t0, u0, hA, tk, uk, u8⟩ := after h
      obtain ⟨υ, v0, vR, v6, vk, -⟩ := put_eq (μM := up2 τM 1 k 0) hA hk (x := 0) (y := 0) (k := -1) (n := 0) (Or.inl ⟨rfl, rfl, rfl, rfl⟩) (fun z => absurd rfl z) (fun k hk => up2_k (by omega)) (up2_k (by decide)) (fun k' v h1 h2 h3 h4 => by
        by_cases e : k' = 1
        · rw [e, up2_j h4]
        · rw [up2_k e]) (Or.inl ⟨rfl, up2_same⟩)
      have cM := countM vR.1 (x := 0) ⟨by omega, by omega⟩
      refine ⟨υ 1 3, υ, up2 τM 1 k 0, ?_, ?_, vR, ?_, Or.inl ?_⟩
      · rw [f_X10_fill, f_X10_fill_b0, has_in hk r, if_neg c, jbind_s, jc_I (by omega) (by omega), if_neg (by omega), t0, jbind_s, v0, jbind_s]
      · rw [f_X11_fill, f_X11_fill_b0, wellM h.1.2.2.2.2.2.1 hk, if_neg c, jbind_s, jc_I (by omega) (by omega), if_neg (by omega), u0, jbind_s, jchk_t ⟨⟨by omega, by omega⟩, Or.inl rfl⟩, jlet_v, cast_n, cM, if_pos rfl, jbind_s, vR.1.2.2.2.2.2.2.1]
      · intro k hk
        rw [vk k (by omega), tk k (by omega)]
      · rw [v6, tk 1 (by omega)]
        omega
theorem become_eq {σC σM : St} (h : RA σC σM) {w k n : Int} (hw : inI w) (hk : inI k) (hn : inI n) : ∃ v τC τM, f_X10_become σC w k n = some (v, τC) ∧ f_X11_become σM w k n = some (v, τM) ∧ RA τC τM ∧ CSt σC τC := by
  rcases ix24 w with q | ⟨w, hw', rfl⟩
  · refine ⟨-1, σC, σM, ?_, ?_, h, CSt.refl⟩
    · rw [f_X10_become, f_X10_become_b0, has_out hw q, jbind_s, jc_I (by omega) (by omega), if_pos rfl]
    · rw [f_X11_become, f_X11_become_b0, wellM_out hw q, jbind_s, jc_I (by omega) (by omega), if_pos rfl]
  · have r := (h.1.rng hw').1
    by_cases c : σC 5 w = -1
    · refine ⟨-1, σC, σM, ?_, ?_, h, CSt.refl⟩
      · rw [f_X10_become, f_X10_become_b0, has_in hw' r, if_pos c, jbind_s, jc_I (by omega) (by omega), if_pos rfl]
      · rw [f_X11_become, f_X11_become_b0, wellM h.1.2.2.2.2.2.1 hw', if_pos c, jbind_s, jc_I (by omega) (by omega), if_pos rfl]
    · rcases may_both hk hn with ⟨ok, m1, m2⟩ | ⟨ok, m1, m2⟩
      · obtain ⟨τC, τM, t0, u0, hA, tk, uk, u8⟩ := after h
        have hKn : k ≠ -1 := by unfold okK at ok; omega
        have c' : τC 5 w ≠ -1 := by rw [tk 5 (by omega)]; exact c
        rcases hA.1.2.2.2.2.2.1 w hw' with ⟨z1, z2⟩ | ⟨z1, z2, z3, z4, z5, z6⟩
        · exact absurd z2 c'
        obtain ⟨υ, v0, vR, v6, vk, -⟩ := put_eq (μM := up2 (up2 τM 4 w k) 5 w n) hA hw' (x := τC 3 w) (y := τC 4 w) (k := k) (n := n) (by
          rcases hA.1.1.2.2.1 w hw' with z | z
          · exact absurd z.1 c'
          · exact Or.inr ⟨ok, z.2⟩) (fun _ v hv hvw kv xv yv => hvw (hA.1.1.2.2.2 v w hv hw' kv c' xv yv)) (fun k hk => by rw [up2_k (by omega), up2_k (by omega)]) (by rw [up2_k (by omega), up2_k (by omega)]) (fun k' v h1 h2 h3 h4 => by
          by_cases e : k' = 5
          · rw [e, up2_j h4, up2_k (by omega)]
          · rw [up2_k e]
            by_cases e : k' = 4
            · rw [e, up2_j h4]
            · rw [up2_k e]) (Or.inr ⟨hKn, by rw [up2_k (by omega), up2_k (by omega)]; exact z1, by rw [up2_k (by omega), up2_same], by rw [up2_k (by omega), up2_k (by omega)]; exact z4, by rw [up2_k (by omega), up2_k (by omega)]; exact z5, up2_same⟩)
        refine ⟨σC 5 w, υ, _, ?_, ?_, vR, ?_, Or.inl ?_⟩
        · rw [f_X10_become, f_X10_become_b0, has_in hw' r, if_neg c, jbind_s, jc_I (by omega) (by omega), if_neg (by omega), m1, jbind_s, jc_I (by omega) (by omega), if_neg (by omega), jc_ix (by omega) (by omega), jlet_v, t0, jbind_s, jc_ix (by omega) (by omega), jc_ix (by omega) (by omega), cast_n, v0, jbind_s]
        · rw [f_X11_become, f_X11_become_b0, wellM h.1.2.2.2.2.2.1 hw', if_neg c, jbind_s, jc_I (by omega) (by omega), if_neg (by omega), m2, jbind_s, jc_I (by omega) (by omega), if_neg (by omega), u0, jbind_s, jc_ix (by omega) (by omega), jlet_v, jc_ix (by omega) (by omega), jlet_v, jc_ix (by omega) (by omega), jlet_v, cast_n, z3, tk 5 (by omega)]
        · intro k hk
          rw [vk k (by omega), tk k (by omega)]
        · rw [v6, tk 1 (by omega)]
          omega
      · refine ⟨-1, σC, σM, ?_, ?_, h, CSt.refl⟩
        · rw [f_X10_become, f_X10_become_b0, has_in hw' r, if_neg c, jbind_s, jc_I (by omega) (by omega), if_neg (by omega), m1, jbind_s, jc_I (by omega) (by omega), if_pos rfl]
        · rw [f_X11_become, f_X11_become_b0, wellM h.1.2.2.2.2.2.1 hw', if_neg c, jbind_s, jc_I (by omega) (by omega), if_neg (by omega), m2, jbind_s, jc_I (by omega) (by omega), if_pos rfl]
/-- maps of both sides, without the counts -/
def Rm (c M : St) : Prop := WF (c 1 0) (c 1 1) (c 5) (c 3) (c 4) (c 6) ∧ M 0 0 = c 1 0 ∧ M 0 1 = c 1 1 ∧ RM M (c 5) (c 3) (c 4) (c 6)
theorem Rw.m {σC σM : St} (h : Rw σC σM) : Rm σC σM := ⟨h.1, h.2.2.1, h.2.2.2.1, h.2.2.2.2.2.1⟩
theorem Rm.rng {c M : St} (h : Rm c M) {w : Nat} (hw : w < 24) : (-1 ≤ c 5 w ∧ c 5 w ≤ 4) ∧ (0 ≤ c 6 w ∧ c 6 w ≤ 1000000) ∧ (0 ≤ c 3 w ∧ c 3 w ≤ 1000) ∧ (0 ≤ c 4 w ∧ c 4 w ≤ 1000) := by
  have h1 := h.1.rng hw
  have h2 := h.1.1
  have h3 := h.1.2.1
  omega
def takenW (c : St) (x y : Int) (w : Nat) : Prop := c 5 w ≠ -1 ∧ c 3 w = x ∧ c 4 w = y
theorem taken_step {c M : St} (h : Rm c M) {x y k n : Int} {w : Nat} (hw : w < 24) (hx : inI x) (hy : inI y) (ho : ¬ takenW c x y w) : f_X9_isTaken_b2 c x y (w : Int) = some (.inl ((w : Int) + 1)) ∧ f_X11_sinks_b38 M x y k n (w : Int) = some (.inl ((w : Int) + 1)) := by
  obtain ⟨x1, x2⟩ := hx
  obtain ⟨y1, y2⟩ := hy
  unfold takenW at ho
  obtain ⟨r1, -, r3, r4⟩ := h.rng hw
  rw [f_X9_isTaken_b2, f_X11_sinks_b38, has_in hw r1, cast_n]
  rcases h.2.2.2 w hw with ⟨h1, h2⟩ | ⟨h1, h2, h3, h4, h5, h6⟩
  · constructor <;> simp (disch := omega) only [↓jlet_v, ↓jbind_s, ↓jc_I, ↓jc_II, ↓jc_ix, ↓if_pos, ↓if_neg, cast_n, jz_0, jz_1]
  · by_cases q : c 3 w = x
    · constructor <;> simp (disch := omega) only [↓jlet_v, ↓jbind_s, ↓jc_I, ↓jc_II, ↓jc_ix, ↓if_pos, ↓if_neg, cast_n, jz_0, jz_1]
    · constructor <;> simp (disch := omega) only [↓jlet_v, ↓jbind_s, ↓jc_I, ↓jc_II, ↓jc_ix, ↓if_pos, ↓if_neg, cast_n, jz_0, jz_1]
theorem taken_end {c M : St} (h : Rm c M) {x y k n : Int} {w : Nat} (hw : w < 24) (hx : inI x) (hy : inI y) (ho : takenW c x y w) : f_X9_isTaken_b2 c x y (w : Int) = some (.inr (.inl ())) ∧ f_X11_sinks_b38 M x y k n (w : Int) = some (.inr (.inl ())) := by
  obtain ⟨x1, x2⟩ := hx
  obtain ⟨y1, y2⟩ := hy
  obtain ⟨o1, o2, o3⟩ := ho
  obtain ⟨r1, -, r3, r4⟩ := h.rng hw
  rw [f_X9_isTaken_b2, f_X11_sinks_b38, has_in hw r1, cast_n]
  rcases h.2.2.2 w hw with ⟨h1, h2⟩ | ⟨h1, h2, h3, h4, h5, h6⟩
  · exact absurd h2 o1
  · constructor <;> simp (disch := omega) only [↓jlet_v, ↓jbind_s, ↓jc_I, ↓jc_II, ↓jc_ix, ↓if_pos, ↓if_neg, cast_n, jz_0, jz_1]
theorem taken_both {c M : St} (h : Rm c M) {x y k n : Int} (hx : inI x) (hy : inI y) (fuel : Nat) (hf : 24 < fuel) : ((∃ w, w < 24 ∧ takenW c x y w) ∧ jloop (fun (x3 : Int) => f_X9_isTaken_b2 c x y x3) fuel 0 = some (.inl ()) ∧ jloop (fun (x5 : Int) => f_X11_sinks_b38 M x y k n x5) fuel 0 = some (.inl ())) ∨ ((∀ w, w < 24 → ¬ takenW c x y w) ∧ jloop (fun (x3 : Int) => f_X9_isTaken_b2 c x y x3) fuel 0 = some (.inr ()) ∧ jloop (fun (x5 : Int) => f_X11_sinks_b38 M x y k n x5) fuel 0 = some (.inr ())) := by
  rcases first_or (takenW c x y) 24 with q | ⟨m, hm, q1, q2⟩
  · refine Or.inr ⟨q, ?_, ?_⟩
    · refine jloop_for0 (g := fun a => (a : Int)) (N := 24) (e := _) rfl hf (fun a ha => ?_) ?_
      · rw [(taken_step (k := k) (n := n) h ha hx hy (q a ha)).1, cast_s]
      · show f_X9_isTaken_b2 c x y ((24 : Nat) : Int) = _
        rw [f_X9_isTaken_b2, jc_II (by omega) (by omega) (by omega) (by omega), if_neg (by omega)]
    · refine jloop_for0 (g := fun a => (a : Int)) (N := 24) (e := _) rfl hf (fun a ha => ?_) ?_
      · rw [(taken_step h ha hx hy (q a ha)).2, cast_s]
      · show f_X11_sinks_b38 M x y k n ((24 : Nat) : Int) = _
        rw [f_X11_sinks_b38, jc_II (by omega) (by omega) (by omega) (by omega), if_neg (by omega)]
  · refine Or.inl ⟨⟨m, hm, q1⟩, ?_, ?_⟩
    · refine jloop_for0 (g := fun a => (a : Int)) (N := m) (e := _) rfl (by omega) (fun a ha => ?_) ?_
      · rw [(taken_step (k := k) (n := n) h (by omega) hx hy (q2 a ha)).1, cast_s]
      · exact (taken_end (k := k) (n := n) h hm hx hy q1).1
    · refine jloop_for0 (g := fun a => (a : Int)) (N := m) (e := _) rfl (by omega) (fun a ha => ?_) ?_
      · rw [(taken_step h (by omega) hx hy (q2 a ha)).2, cast_s]
      · exact (taken_end h hm hx hy q1).2
theorem free_step {c M : St} (h : Rm c M) {x y k n : Int} {w : Nat} (hw : w < 24) (ho : c 5 w ≠ -1) : f_X9_leastFree_b2 c (w : Int) = some (.inl ((w : Int) + 1)) ∧ f_X11_sinks_b89 M x y k n (w : Int) = some (.inl ((w : Int) + 1)) := by
  obtain ⟨r1, -, r3, r4⟩ := h.rng hw
  rw [f_X9_leastFree_b2, f_X11_sinks_b89, has_in hw r1, cast_n]
  rcases h.2.2.2 w hw with ⟨h1, h2⟩ | ⟨h1, h2, h3, h4, h5, h6⟩
  · exact absurd h2 ho
  · constructor <;> simp (disch := omega) only [↓jlet_v, ↓jbind_s, ↓jc_I, ↓jc_II, ↓jc_ix, ↓if_pos, ↓if_neg, cast_n, jz_0, jz_1]
theorem free_end {c M : St} (h : Rm c M) {x y k n : Int} {w : Nat} (hw : w < 24) (ho : c 5 w = -1) : f_X9_leastFree_b2 c (w : Int) = some (.inr (.inl (w : Int))) ∧ f_X11_sinks_b89 M x y k n (w : Int) = some (.inr (w : Int)) := by
  obtain ⟨r1, -, r3, r4⟩ := h.rng hw
  rw [f_X9_leastFree_b2, f_X11_sinks_b89, has_in hw r1, cast_n]
  rcases h.2.2.2 w hw with ⟨h1, h2⟩ | ⟨h1, h2, h3, h4, h5, h6⟩
  · constructor <;> simp (disch := omega) only [↓jlet_v, ↓jbind_s, ↓jc_I, ↓jc_II, ↓jc_ix, ↓if_pos, ↓if_neg, cast_n, jz_0, jz_1]
  · exact absurd ho h2
theorem free_both {c M : St} (h : Rm c M) {x y k n : Int} (fuel : Nat) (hf : 24 < fuel) : ((∀ w, w < 24 → c 5 w ≠ -1) ∧ jloop (fun (x1 : Int) => f_X9_leastFree_b2 c x1) fuel 0 = some (.inr ()) ∧ jloop (fun (x5 : Int) => f_X11_sinks_b89 M x y k n x5) fuel 0 = some 24) ∨ ∃ m : Nat, m < 24 ∧ c 5 m = -1 ∧ (∀ w, w < m → c 5 w ≠ -1) ∧ jloop (fun (x1 : Int) => f_X9_leastFree_b2 c x1) fuel 0 = some (.inl (m : Int)) ∧ jloop (fun (x5 : Int) => f_X11_sinks_b89 M x y k n x5) fuel 0 = some (m : Int) := by
  rcases first_or (fun w => c 5 w = -1) 24 with q | ⟨m, hm, q1, q2⟩
  · refine Or.inl ⟨q, ?_, ?_⟩
    · refine jloop_for0 (g := fun a => (a : Int)) (N := 24) (e := _) rfl hf (fun a ha => ?_) ?_
      · rw [(free_step (x := x) (y := y) (k := k) (n := n) h ha (q a ha)).1, cast_s]
      · show f_X9_leastFree_b2 c ((24 : Nat) : Int) = _
        rw [f_X9_leastFree_b2, jc_II (by omega) (by omega) (by omega) (by omega), if_neg (by omega)]
    · refine jloop_for0 (g := fun a => (a : Int)) (N := 24) (e := _) rfl hf (fun a ha => ?_) ?_
      · rw [(free_step h ha (q a ha)).2, cast_s]
      · show f_X11_sinks_b89 M x y k n ((24 : Nat) : Int) = _
        rw [f_X11_sinks_b89, jc_II (by omega) (by omega) (by omega) (by omega), if_neg (by omega)]
        rfl
  · refine Or.inr ⟨m, hm, q1, q2, ?_, ?_⟩
    · refine jloop_for0 (g := fun a => (a : Int)) (N := m) (e := _) rfl (by omega) (fun a ha => ?_) ?_
      · rw [(free_step (x := x) (y := y) (k := k) (n := n) h (by omega) (q2 a ha)).1, cast_s]
      · exact (free_end (x := x) (y := y) (k := k) (n := n) h hm q1).1
    · refine jloop_for0 (g := fun a => (a : Int)) (N := m) (e := _) rfl (by omega) (fun a ha => ?_) ?_
      · rw [(free_step h (by omega) (q2 a ha)).2, cast_s]
      · exact (free_end h hm q1).2
def snk (M : St) (m : Nat) (x y k n : Int) : St := up2 (up2 (up2 (up2 (up2 M 1 m 1) 2 m x) 3 m y) 4 m k) 5 m n
/-- the checks of both sides for one well to be -/
theorem sinks_spec {c M : St} (h : Rm c M) {x y k n : Int} (hx : inI x) (hy : inI y) (hk : inI k) (hn : inI n) : (f_X9_mayBe c x y k n = some 0 ∧ ¬ (okK k n ∧ 0 ≤ x ∧ x ≤ c 1 0 ∧ 0 ≤ y ∧ y ≤ c 1 1) ∧ f_X11_sinks M x y k n = some (-1, M)) ∨ (f_X9_mayBe c x y k n = some 1 ∧ (okK k n ∧ 0 ≤ x ∧ x ≤ c 1 0 ∧ 0 ≤ y ∧ y ≤ c 1 1) ∧ (((∃ w, w < 24 ∧ takenW c x y w) ∧ f_X9_isTaken c x y = some 1 ∧ f_X11_sinks M x y k n = some (-2, M)) ∨ ((∀ w, w < 24 → ¬ takenW c x y w) ∧ f_X9_isTaken c x y = some 0 ∧ (((∀ w, w < 24 → c 5 w ≠ -1) ∧ f_X9_leastFree c = some (-1) ∧ f_X11_sinks M x y k n = some (-3, M)) ∨ ∃ m : Nat, m < 24 ∧ c 5 m = -1 ∧ (∀ w, w < m → c 5 w ≠ -1) ∧ f_X9_leastFree c = some (m : Int) ∧ f_X11_sinks M x y k n = some ((m : Int), snk M m x y k n))))) := by
  have hx' := hx
  have hy' := hy
  obtain ⟨x1, x2⟩ := hx
  obtain ⟨y1, y2⟩ := hy
  have w1 := h.1.1
  have w2 := h.1.2.1
  have m0 := h.2.1
  have m1 := h.2.2.1
  by_cases c1 : x < 0
  · refine Or.inl ⟨?_, by omega, ?_⟩
    · rw [f_X9_mayBe, f_X9_mayBe_b0]; simp (disch := omega) only [↓jlet_v, ↓jbind_s, ↓jc_I, ↓jc_II, ↓jc_ix, ↓if_pos, ↓if_neg, cast_n, jz_0, jz_1]
    · rw [f_X11_sinks, f_X11_sinks_b0]; simp (disch := omega) only [↓jlet_v, ↓jbind_s, ↓jc_I, ↓jc_II, ↓jc_ix, ↓if_pos, ↓if_neg, cast_n, jz_0, jz_1]
  by_cases c2 : c 1 0 < x
  · refine Or.inl ⟨?_, by omega, ?_⟩
    · rw [f_X9_mayBe, f_X9_mayBe_b0]; simp (disch := omega) only [↓jlet_v, ↓jbind_s, ↓jc_I, ↓jc_II, ↓jc_ix, ↓if_pos, ↓if_neg, cast_n, jz_0, jz_1]
    · rw [f_X11_sinks, f_X11_sinks_b0]; simp (disch := omega) only [↓jlet_v, ↓jbind_s, ↓jc_I, ↓jc_II, ↓jc_ix, ↓if_pos, ↓if_neg, cast_n, jz_0, jz_1]
  by_cases c3 : y < 0
  · refine Or.inl ⟨?_, by omega, ?_⟩
    · rw [f_X9_mayBe, f_X9_mayBe_b0]; simp (disch := omega) only [↓jlet_v, ↓jbind_s, ↓jc_I, ↓jc_II, ↓jc_ix, ↓if_pos, ↓if_neg, cast_n, jz_0, jz_1]
    · rw [f_X11_sinks, f_X11_sinks_b0]; simp (disch := omega) only [↓jlet_v, ↓jbind_s, ↓jc_I, ↓jc_II, ↓jc_ix, ↓if_pos, ↓if_neg, cast_n, jz_0, jz_1]
  by_cases c4 : c 1 1 < y
  · refine Or.inl ⟨?_, by omega, ?_⟩
    · rw [f_X9_mayBe, f_X9_mayBe_b0]; simp (disch := omega) only [↓jlet_v, ↓jbind_s, ↓jc_I, ↓jc_II, ↓jc_ix, ↓if_pos, ↓if_neg, cast_n, jz_0, jz_1]
    · rw [f_X11_sinks, f_X11_sinks_b0]; simp (disch := omega) only [↓jlet_v, ↓jbind_s, ↓jc_I, ↓jc_II, ↓jc_ix, ↓if_pos, ↓if_neg, cast_n, jz_0, jz_1]
  rcases may_both hk hn with ⟨ok, k1, k2⟩ | ⟨ok, k1, k2⟩
  · refine Or.inr ⟨?_, ⟨ok, by omega, by omega, by omega, by omega⟩, ?_⟩
    · rw [f_X9_mayBe, f_X9_mayBe_b0, k1]; simp (disch := omega) only [↓jlet_v, ↓jbind_s, ↓jc_I, ↓jc_II, ↓jc_ix, ↓if_pos, ↓if_neg, cast_n, jz_0, jz_1]
    · rcases taken_both (k := k) (n := n) h hx' hy' 1000 (by omega) with ⟨t, l1, l2⟩ | ⟨t, l1, l2⟩
      · refine Or.inl ⟨t, ?_, ?_⟩
        · rw [f_X9_isTaken, f_X9_isTaken_b0, jlet_v, l1, jbind_s]; rfl
        · rw [f_X11_sinks, f_X11_sinks_b0, k2, jc_I (by omega) (by omega), if_neg (by omega), jc_II (by omega) (by omega) (by omega) (by omega), if_neg (by omega), jc_I (by omega) (by omega), if_neg (by omega), jc_II (by omega) (by omega) (by omega) (by omega), if_neg (by omega), jbind_s, jc_I (by omega) (by omega), if_neg (by omega), jlet_v, l2, jbind_s]
      · refine Or.inr ⟨t, ?_, ?_⟩
        · rw [f_X9_isTaken, f_X9_isTaken_b0, jlet_v, l1, jbind_s]; rfl
        · rcases free_both (x := x) (y := y) (k := k) (n := n) h 1000 (by omega) with ⟨t', l3, l4⟩ | ⟨m, hm, t', t2, l3, l4⟩
          · refine Or.inl ⟨t', ?_, ?_⟩
            · rw [f_X9_leastFree, f_X9_leastFree_b0, jlet_v, l3, jbind_s]
            · rw [f_X11_sinks, f_X11_sinks_b0, k2, jc_I (by omega) (by omega), if_neg (by omega), jc_II (by omega) (by omega) (by omega) (by omega), if_neg (by omega), jc_I (by omega) (by omega), if_neg (by omega), jc_II (by omega) (by omega) (by omega) (by omega), if_neg (by omega), jbind_s, jc_I (by omega) (by omega), if_neg (by omega), jlet_v, l2, jbind_s]
              dsimp only
              rw [jlet_v, l4, jbind_s, jc_II (by omega) (by omega) (by omega) (by omega), if_pos rfl]
          · refine Or.inr ⟨m, hm, t', t2, ?_, ?_⟩
            · rw [f_X9_leastFree, f_X9_leastFree_b0, jlet_v, l3, jbind_s]
            · rw [f_X11_sinks, f_X11_sinks_b0, k2, jc_I (by omega) (by omega), if_neg (by omega), jc_II (by omega) (by omega) (by omega) (by omega), if_neg (by omega), jc_I (by omega) (by omega), if_neg (by omega), jc_II (by omega) (by omega) (by omega) (by omega), if_neg (by omega), jbind_s, jc_I (by omega) (by omega), if_neg (by omega), jlet_v, l2, jbind_s]
              dsimp only
              rw [jlet_v, l4, jbind_s, jc_II (by omega) (by omega) (by omega) (by omega), if_neg (by omega), jchk_t ⟨⟨by omega, by omega⟩, Or.inr rfl⟩, jlet_v, jc_ix (by omega) (by omega), jlet_v, jc_ix (by omega) (by omega), jlet_v, jc_ix (by omega) (by omega), jlet_v, jc_ix (by omega) (by omega), jlet_v, cast_n]
              rfl
  · refine Or.inl ⟨?_, fun z => ok z.1, ?_⟩
    · rw [f_X9_mayBe, f_X9_mayBe_b0, k1]; simp (disch := omega) only [↓jlet_v, ↓jbind_s, ↓jc_I, ↓jc_II, ↓jc_ix, ↓if_pos, ↓if_neg, cast_n, jz_0, jz_1]
    · rw [f_X11_sinks, f_X11_sinks_b0, k2]; simp (disch := omega) only [↓jlet_v, ↓jbind_s, ↓jc_I, ↓jc_II, ↓jc_ix, ↓if_pos, ↓if_neg, cast_n, jz_0, jz_1]
theorem sink_eq {σC σM : St} (h : RA σC σM) {x y k n : Int} (hx : inI x) (hy : inI y) (hk : inI k) (hn : inI n) : ∃ v τC τM, f_X10_sink σC x y k n = some (v, τC) ∧ f_X11_sink σM x y k n = some (v, τM) ∧ RA τC τM ∧ CSt σC τC := by
  rcases sinks_spec h.1.m hx hy hk hn with ⟨s1, s2, s3⟩ | ⟨s1, s2, ⟨s3, s4, s5⟩ | ⟨s3, s4, ⟨s5, s6, s7⟩ | ⟨m, hm, s5, -, s6, s7⟩⟩⟩
  · refine ⟨-1, σC, σM, ?_, ?_, h, CSt.refl⟩
    · rw [f_X10_sink, f_X10_sink_b0, s1, jbind_s, jc_I (by omega) (by omega), if_pos rfl]
    · rw [f_X11_sink, f_X11_sink_b0, s3, jbind_s]
      dsimp only
      rw [jlet_v, jc_I (by omega) (by omega), if_pos (by omega)]
  · refine ⟨-2, σC, σM, ?_, ?_, h, CSt.refl⟩
    · rw [f_X10_sink, f_X10_sink_b0, s1, jbind_s, jc_I (by omega) (by omega), if_neg (by omega), s4, jbind_s, jc_I (by omega) (by omega), if_neg (by omega)]
    · rw [f_X11_sink, f_X11_sink_b0, s5, jbind_s]
      dsimp only
      rw [jlet_v, jc_I (by omega) (by omega), if_pos (by omega)]
  · refine ⟨-3, σC, σM, ?_, ?_, h, CSt.refl⟩
    · rw [f_X10_sink, f_X10_sink_b0, s1, jbind_s, jc_I (by omega) (by omega), if_neg (by omega), s4, jbind_s, jc_I (by omega) (by omega), if_pos (by omega), s6, jbind_s, jlet_v, jc_II (by omega) (by omega) (by omega) (by omega), if_pos (by omega)]
    · rw [f_X11_sink, f_X11_sink_b0, s7, jbind_s]
      dsimp only
      rw [jlet_v, jc_I (by omega) (by omega), if_pos (by omega)]
  · have hKn : k ≠ -1 := by
      have := s2.1
      unfold okK at this
      omega
    have g1 : ∀ {a : Nat}, a ≠ m → ∀ k', up2 (snk σM m x y k n) 1 m 0 k' a = σM k' a := by
      intro a ha k'
      unfold snk
      rw [up2_a ha, up2_a ha, up2_a ha, up2_a ha, up2_a ha, up2_a ha]
    have g2 : ∀ k', k' = 0 ∨ 5 < k' → up2 (snk σM m x y k n) 1 m 0 k' = σM k' := by
      intro k' hk'
      unfold snk
      rw [up2_k (by omega), up2_k (by omega), up2_k (by omega), up2_k (by omega), up2_k (by omega), up2_k (by omega)]
    have hA : RA σC (up2 (snk σM m x y k n) 1 m 0) := by
      obtain ⟨⟨r1, r2, r3, r4, r5, r6, r7⟩, hp, hS⟩ := h
      refine ⟨⟨r1, r2, ?_, ?_, ?_, ?_, r7⟩, hp.fr (fun _ _ _ => rfl) (fun k' a b => g2 k' (by omega)) (by rw [g2 0 (by omega)]), hS.fr (fun _ _ _ => rfl) (g2 31 (by omega)) (g2 32 (by omega))⟩
      · rw [g2 0 (by omega)]; exact r3
      · rw [g2 0 (by omega)]; exact r4
      · rw [g2 0 (by omega)]; exact r5
      · intro u hu
        by_cases e : u = m
        · rw [e]
          exact Or.inl ⟨up2_same, s5⟩
        · rw [g1 e, g1 e, g1 e, g1 e, g1 e]
          exact r6 u hu
    obtain ⟨τC, τM, t0, u0, hA', tk, uk, u8⟩ := after hA
    have g3 : ∀ k', 1 < k' → k' < 6 → τM k' = snk σM m x y k n k' := by
      intro k' h1 h2
      rw [uk k' (by omega) (by omega), up2_k (by omega)]
    obtain ⟨υ, v0, vR, v6, vk, -⟩ := put_eq (μM := up2 τM 1 m 1) hA' hm (x := x) (y := y) (k := k) (n := n) (by rw [tk 1 (by omega)]; exact Or.inr s2) (fun _ v hv hvw kv xv yv => by
        rw [tk 5 (by omega)] at kv
        rw [tk 3 (by omega)] at xv
        rw [tk 4 (by omega)] at yv
        exact s3 v hv ⟨kv, xv, yv⟩) (fun k hk => by rw [up2_k (by omega)]) (by rw [up2_k (by omega)]) (fun k' v h1 h2 h3 h4 => by
        by_cases e : k' = 1
        · rw [e, up2_j h4]
        · rw [up2_k e]) (Or.inr ⟨hKn, up2_same, by rw [up2_k (by omega), g3 4 (by omega) (by omega)]; simp [snk, up2, upr, up1], by rw [up2_k (by omega), g3 2 (by omega) (by omega)]; simp [snk, up2, upr, up1], by rw [up2_k (by omega), g3 3 (by omega) (by omega)]; simp [snk, up2, upr, up1], by rw [up2_k (by omega), g3 5 (by omega) (by omega)]; simp [snk, up2, upr, up1]⟩)
    refine ⟨(m : Int), υ, _, ?_, ?_, vR, ?_, Or.inl ?_⟩
    · rw [f_X10_sink, f_X10_sink_b0, s1, jbind_s, jc_I (by omega) (by omega), if_neg (by omega), s4, jbind_s, jc_I (by omega) (by omega), if_pos (by omega), s6, jbind_s, jlet_v, jc_II (by omega) (by omega) (by omega) (by omega), if_neg (by omega), t0, jbind_s, v0, jbind_s]
    · rw [f_X11_sink, f_X11_sink_b0, s7, jbind_s]
      dsimp only
      rw [jlet_v, jc_I (by omega) (by omega), if_neg (by omega), jchk_t ⟨⟨by omega, by omega⟩, Or.inl rfl⟩, jlet_v, cast_n, u0, jbind_s, jchk_t ⟨⟨by omega, by omega⟩, Or.inr rfl⟩, jlet_v]
    · intro k hk
      rw [vk k (by omega), tk k (by omega)]
    · rw [v6, tk 1 (by omega)]
      omega
