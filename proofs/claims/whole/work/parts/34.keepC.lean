/-! ===== the pure side 14: keep, the component ===== -/
def Tb (f l : Nat) (b : Bool) (s : Nat) : Bool := (decide (f ≤ s ∧ s < l)) == b
theorem toSide_spec {σ : St} {w s : Nat} (hw : w < 24) (hs : s < 4) : f_X8_toSide σ (w : Int) (s : Int) = some (sd σ w s) := by
  rw [f_X8_toSide, f_X8_toSide_b0, cast_n, jc_I (by omega) (by omega)]
  unfold sd
  by_cases c0 : s = 0
  · simp (disch := omega) only [↓jlet_v, ↓jbind_s, ↓jc_I, ↓jc_II, ↓jc_ix, ↓if_pos, ↓if_neg, cast_n, jz_0, jz_1]
  by_cases c1 : s = 1
  · simp (disch := omega) only [↓jlet_v, ↓jbind_s, ↓jc_I, ↓jc_II, ↓jc_ix, ↓if_pos, ↓if_neg, cast_n, jz_0, jz_1]
  by_cases c2 : s = 2
  · simp (disch := omega) only [↓jlet_v, ↓jbind_s, ↓jc_I, ↓jc_II, ↓jc_ix, ↓if_pos, ↓if_neg, cast_n, jz_0, jz_1]
  · simp (disch := omega) only [↓jlet_v, ↓jbind_s, ↓jc_I, ↓jc_II, ↓jc_ix, ↓if_pos, ↓if_neg, cast_n, jz_0, jz_1]
theorem rim31 {σ : St} {w f l s : Nat} {b t : Bool} {x : Int} (hw : w < 24) (hs : s < 4) (hx : 0 ≤ x ∧ x ≤ 1152921504606846976) (hd : 0 ≤ sd σ w s ∧ sd σ w s ≤ 1000) : f_X8_toRim_b31 σ (w : Int) (f : Int) (l : Int) (bI b) x (s : Int) (bI t) = some (.inl (if t = b then (if 4 * sd σ w s * sd σ w s < x then 4 * sd σ w s * sd σ w s else x) else x, ((s + 1 : Nat) : Int))) := by
  have b1 := bI_rng b
  have b2 := bI_rng t
  have d4 := sd4 hd
  rw [f_X8_toRim_b31, jc_II (by omega) (by omega) (by omega) (by omega)]
  by_cases e : t = b
  · rw [if_pos (by rw [e]), if_pos e, toSide_spec hw hs, jbind_s, jc_I (by omega) (by omega), jlet_v, jc_LL (by omega) (by omega) (by omega) (by omega), jlet_v, jlet_v, cast_s]
  · have : bI t ≠ bI b := by
      cases t <;> cases b <;> simp_all [bI]
    rw [if_neg this, if_neg e, jlet_v, cast_s]
theorem toRim_spec {σC σM τ : St} (h : Rw σC σM) (hC : ∀ k, k < 7 → τ k = σC k) {w f l : Nat} (hw : w < 24) (hl : l ≤ 3) (hf : f < l) (b : Bool) : ∃ r, f_X8_toRim τ (w : Int) (f : Int) (l : Int) (bI b) = some r ∧ isRim σC w (Tb f l b) r := by
  have es : ∀ s, sd τ w s = sd σC w s := by
    intro s
    unfold sd
    rw [hC 1 (by omega), hC 3 (by omega), hC 4 (by omega)]
  have key : ∀ fuel, 4 < fuel → ∃ e, jloop (fun (q : (Int × Int)) => match q with | (x5, x7) => f_X8_toRim_b8 τ (w : Int) (f : Int) (l : Int) (bI b) x5 x7) fuel (1152921504606846976, 0) = some e ∧ isRim σC w (Tb f l b) e := by
    intro fuel hfu
    refine jloop_ex (I := fun s q => q.2 = (s : Int) ∧ (0 ≤ q.1 ∧ q.1 ≤ 1152921504606846976) ∧ ((q.1 = 1152921504606846976 ∧ ∀ u, u < s → Tb f l b u = false) ∨ ∃ u, u < s ∧ Tb f l b u = true ∧ q.1 = 4 * sd σC w u * sd σC w u) ∧ ∀ u, u < s → Tb f l b u = true → q.1 ≤ 4 * sd σC w u * sd σC w u) (N := 4) (J := _) ?_ ?_ 4 0 fuel _ (by omega) (by omega) ⟨rfl, ⟨by decide, by decide⟩, Or.inl ⟨rfl, fun u hu => absurd hu (Nat.not_lt_zero u)⟩, fun u hu => absurd hu (Nat.not_lt_zero u)⟩
    · rintro s ⟨x, _⟩ hs ⟨rfl, hx, i1, i2⟩
      dsimp only at hx i1 i2
      have hd := h.sdr hw s
      have d4 := sd4 hd
      have st : f_X8_toRim_b8 τ (w : Int) (f : Int) (l : Int) (bI b) x (s : Int) = f_X8_toRim_b31 τ (w : Int) (f : Int) (l : Int) (bI b) x (s : Int) (bI (decide (f ≤ s ∧ s < l))) := by
        rw [f_X8_toRim_b8, jc_II (by omega) (by omega) (by omega) (by omega), if_pos (by omega), jc_II (by omega) (by omega) (by omega) (by omega)]
        by_cases c1 : s < f
        · have e : decide (f ≤ s ∧ s < l) = false := by simp; omega
          rw [if_pos (by omega), f_X8_toRim_b30, e, bI_f]
        · rw [if_neg (by omega), jc_II (by omega) (by omega) (by omega) (by omega)]
          by_cases c2 : s < l
          · have e : decide (f ≤ s ∧ s < l) = true := by simp; omega
            rw [if_pos (by omega), e, bI_t]
          · have e : decide (f ≤ s ∧ s < l) = false := by simp; omega
            rw [if_neg (by omega), f_X8_toRim_b30, e, bI_f]
      refine ⟨_, st.trans (rim31 hw hs hx (by rw [es]; exact hd)), rfl, ?_, ?_, ?_⟩
      · dsimp only
        rw [es]
        repeat' split
        all_goals omega
      · dsimp only
        rw [es]
        by_cases e : decide (f ≤ s ∧ s < l) = b
        · have T1 : Tb f l b s = true := by simp [Tb, e]
          rw [if_pos e]
          by_cases c : 4 * sd σC w s * sd σC w s < x
          · rw [if_pos c]
            exact Or.inr ⟨s, by omega, T1, rfl⟩
          · rw [if_neg c]
            rcases i1 with ⟨i1, -⟩ | ⟨u, hu, i1⟩
            · omega
            · exact Or.inr ⟨u, by omega, i1⟩
        · have T0 : Tb f l b s = false := by simp only [Tb, beq_eq_false_iff_ne]; exact e
          rw [if_neg e]
          rcases i1 with ⟨i1, i3⟩ | ⟨u, hu, i1⟩
          · refine Or.inl ⟨i1, fun u hu => ?_⟩
            by_cases e2 : u = s
            · rw [e2, T0]
            · exact i3 u (by omega)
          · exact Or.inr ⟨u, by omega, i1⟩
      · intro u hu Tu
        dsimp only
        rw [es]
        by_cases e : decide (f ≤ s ∧ s < l) = b
        · rw [if_pos e]
          by_cases e2 : u = s
          · rw [e2]
            split <;> omega
          · have := i2 u (by omega) Tu
            split <;> omega
        · rw [if_neg e]
          by_cases e2 : u = s
          · rw [e2] at Tu
            have T0 : Tb f l b s = false := by simp only [Tb, beq_eq_false_iff_ne]; exact e
            rw [T0] at Tu
            cases Tu
          · exact i2 u (by omega) Tu
    · rintro ⟨x, _⟩ ⟨rfl, hx, i1, i2⟩
      refine ⟨x, ?_, ?_, i2⟩
      · show f_X8_toRim_b8 τ (w : Int) (f : Int) (l : Int) (bI b) x ((4 : Nat) : Int) = _
        rw [f_X8_toRim_b8, jc_II (by omega) (by omega) (by omega) (by omega), if_neg (by omega)]
      · rcases i1 with ⟨-, i3⟩ | ⟨u, hu, i1⟩
        · exfalso
          cases b with
          | true =>
            have := i3 f (by omega)
            simp [Tb, hf] at this
          | false =>
            have := i3 3 (by omega)
            simp [Tb] at this
            omega
        · exact ⟨u, hu, i1⟩
  obtain ⟨e, e1, e2⟩ := key 1000 (by omega)
  refine ⟨e, ?_, e2⟩
  rw [f_X8_toRim, f_X8_toRim_b0, jlet_v, jlet_v, e1, jbind_s]
theorem isRim_rng {σC σM : St} (h : Rw σC σM) {w : Nat} (hw : w < 24) {T : Nat → Bool} {r : Int} (hr : isRim σC w T r) : 0 ≤ r ∧ r ≤ 4000000 := by
  obtain ⟨⟨s, s1, s2, s3⟩, -⟩ := hr
  have := sd4 (h.sdr hw s)
  omega
/-- the first loop: all gaps -/
theorem gaps_spec {σC σM : St} (h : Rw σC σM) {f l : Nat} (hl : l ≤ 3) (hf : f < l) (B : Int) (fuel : Nat) (hfu : 24 < fuel) : ∃ τ, jloop (fun (q : (St × Int)) => match q with | (σ, x7) => f_X8_widest_b21 σ (f : Int) (l : Int) B x7) fuel (σC, 0) = some τ ∧ (∀ k, k ≠ 68 → τ k = σC k) ∧ ∀ w, w < 24 → pC σC w = true → isRim σC w (Tb f l true) (τ 68 (ct (pC σC) w)) := by
  have hm := h.many
  refine loopC (pC σC) (I := fun w s => s.2 = ((ct (pC σC) w : Nat) : Int) ∧ (∀ k, k ≠ 68 → s.1 k = σC k) ∧ ∀ v, v < w → pC σC v = true → isRim σC v (Tb f l true) (s.1 68 (ct (pC σC) v))) (J := _) ?_ ?_ ?_ 24 0 fuel _ (by omega) (by omega) ⟨rfl, fun _ _ => rfl, fun v hv => absurd hv (Nat.not_lt_zero v)⟩
  · rintro w ⟨τ, _⟩ hw hp ⟨rfl, i1, i2⟩
    left
    dsimp only at i1 i2
    obtain ⟨c1, c2⟩ := h.ct24 hw hp
    obtain ⟨r, r1, r2⟩ := toRim_spec h (τ := τ) (fun k hk => i1 k (by omega)) hw hl hf true
    refine ⟨(up2 τ 68 (ct (pC σC) w) r, ((ct (pC σC) (w + 1) : Nat) : Int)), ?_, rfl, fun k hk => ?_, fun v hv pv => ?_⟩
    · show f_X8_widest_b21 τ (f : Int) (l : Int) B ((ct (pC σC) w : Nat) : Int) = _
      rw [bI_t] at r1
      rw [f_X8_widest_b21, i1 1 (by decide), hm, jc_II (by omega) (by omega) (by omega) (by omega), if_pos (by omega), jc_ix (by omega) (by omega), cast_n, i1 2 (by decide), h.kth hw hp, r1, jbind_s, jc_ix (by omega) (by omega), jlet_v, jlet_v, ct_t hp, cast_s]
    · dsimp only
      rw [up2_k hk, i1 k hk]
    · dsimp only
      by_cases e : v = w
      · rw [e, up2_same]; exact r2
      · rw [up2_j (fun z => e (ct_inj pv hp z))]
        exact i2 v (by omega) pv
  · rintro w ⟨τ, _⟩ hw hp ⟨rfl, i1, i2⟩
    refine ⟨by dsimp only; rw [ct_f hp], i1, fun v hv pv => ?_⟩
    by_cases e : v = w
    · rw [e, hp] at pv
      cases pv
    · exact i2 v (by omega) pv
  · rintro ⟨τ, _⟩ ⟨rfl, i1, i2⟩
    refine ⟨τ, ?_, i1, i2⟩
    have := ct_le (pC σC) 24
    show f_X8_widest_b21 τ (f : Int) (l : Int) B ((ct (pC σC) 24 : Nat) : Int) = _
    dsimp only at i1
    rw [f_X8_widest_b21, i1 1 (by decide), hm, jc_II (by omega) (by omega) (by omega) (by omega), if_neg (by omega)]
theorem first_p {p : Nat → Bool} (h : 0 < ct p 24) : ∃ w, w < 24 ∧ p w = true ∧ ct p w = 0 := by
  obtain ⟨w, h1, h2, h3⟩ := ct_kth h
  exact ⟨w, h1, h2, h3⟩
/-- the least of a row over the wells that count, -1 being out; both Ways and Net look for it so -/
theorem least_loop {p : Nat → Bool} {G : Nat → Int} {body : Int × Int → Option ((Int × Int) ⊕ Int)} (h0 : 0 < ct p 24) (hb : ∀ v w, v < w → w < 24 → p v = true → p w = true → body (((ct p v : Nat) : Int), ((ct p w : Nat) : Int)) = some (.inl (if G w = -1 then ((ct p v : Nat) : Int) else if G v = -1 then ((ct p w : Nat) : Int) else if G w < G v then ((ct p w : Nat) : Int) else ((ct p v : Nat) : Int), ((ct p w + 1 : Nat) : Int)))) (he : ∀ v : Nat, v < 24 → p v = true → body (((ct p v : Nat) : Int), ((ct p 24 : Nat) : Int)) = some (.inr ((ct p v : Nat) : Int))) (hex : ∃ w, w < 24 ∧ p w = true ∧ G w ≠ -1) (fuel : Nat) (hf : 24 < fuel) : ∃ k, k < 24 ∧ p k = true ∧ G k ≠ -1 ∧ (∀ w, w < 24 → p w = true → G w ≠ -1 → G k ≤ G w) ∧ jloop body fuel (0, 1) = some ((ct p k : Nat) : Int) := by
  obtain ⟨w0, hw0, pw0, cw0⟩ := first_p h0
  have key : ∃ e, jloop body fuel (0, 1) = some e ∧ ∃ k, k < 24 ∧ p k = true ∧ G k ≠ -1 ∧ (∀ w, w < 24 → p w = true → G w ≠ -1 → G k ≤ G w) ∧ e = ((ct p k : Nat) : Int) := by
    refine loopC p (I := fun w s => ∃ v, v < w ∧ p v = true ∧ s = (((ct p v : Nat) : Int), ((ct p w : Nat) : Int)) ∧ ((G v = -1 ∧ ∀ u, u < w → p u = true → G u = -1) ∨ (G v ≠ -1 ∧ ∀ u, u < w → p u = true → G u ≠ -1 → G v ≤ G u))) (J := _) ?_ ?_ ?_ (24 - (w0 + 1)) (w0 + 1) fuel _ (by omega) (by omega) ?_
    · rintro w s hw hp ⟨v, hv, pv, rfl, i1⟩
      left
      refine ⟨_, hb v w hv hw pv hp, ?_⟩
      rw [ct_t hp]
      by_cases c1 : G w = -1
      · refine ⟨v, by omega, pv, by rw [if_pos c1], ?_⟩
        rcases i1 with ⟨i1, i2⟩ | ⟨i1, i2⟩
        · refine Or.inl ⟨i1, fun u hu pu => ?_⟩
          by_cases e : u = w
          · rw [e]; exact c1
          · exact i2 u (by omega) pu
        · refine Or.inr ⟨i1, fun u hu pu z => ?_⟩
          by_cases e : u = w
          · rw [e] at z; exact absurd c1 z
          · exact i2 u (by omega) pu z
      · rw [if_neg c1]
        rcases i1 with ⟨i1, i2⟩ | ⟨i1, i2⟩
        · refine ⟨w, by omega, hp, by rw [if_pos i1], Or.inr ⟨c1, fun u hu pu z => ?_⟩⟩
          by_cases e : u = w
          · rw [e]; omega
          · exact absurd (i2 u (by omega) pu) z
        · rw [if_neg i1]
          by_cases c2 : G w < G v
          · refine ⟨w, by omega, hp, by rw [if_pos c2], Or.inr ⟨c1, fun u hu pu z => ?_⟩⟩
            by_cases e : u = w
            · rw [e]; omega
            · have := i2 u (by omega) pu z
              omega
          · refine ⟨v, by omega, pv, by rw [if_neg c2], Or.inr ⟨i1, fun u hu pu z => ?_⟩⟩
            by_cases e : u = w
            · rw [e]; omega
            · exact i2 u (by omega) pu z
    · rintro w s hw hp ⟨v, hv, pv, rfl, i1⟩
      refine ⟨v, by omega, pv, by rw [ct_f hp], ?_⟩
      rcases i1 with ⟨i1, i2⟩ | ⟨i1, i2⟩
      · refine Or.inl ⟨i1, fun u hu pu => ?_⟩
        by_cases e : u = w
        · rw [e, hp] at pu; cases pu
        · exact i2 u (by omega) pu
      · refine Or.inr ⟨i1, fun u hu pu z => ?_⟩
        by_cases e : u = w
        · rw [e, hp] at pu; cases pu
        · exact i2 u (by omega) pu z
    · rintro s ⟨v, hv, pv, rfl, i1⟩
      refine ⟨_, he v hv pv, v, hv, pv, ?_⟩
      rcases i1 with ⟨i1, i2⟩ | ⟨i1, i2⟩
      · obtain ⟨w, hw, pw, z⟩ := hex
        exact absurd (i2 w hw pw) z
      · exact ⟨i1, i2, rfl⟩
    · refine ⟨w0, by omega, pw0, ?_, ?_⟩
      · rw [ct_t pw0, cw0]; rfl
      · have only : ∀ u, u < w0 + 1 → p u = true → u = w0 := by
          intro u hu pu
          by_cases e : u = w0
          · exact e
          · have := ct_lt pu (show u < w0 by omega)
            omega
        by_cases c : G w0 = -1
        · exact Or.inl ⟨c, fun u hu pu => by rw [only u hu pu]; exact c⟩
        · exact Or.inr ⟨c, fun u hu pu _ => by rw [only u hu pu]; omega⟩
  obtain ⟨e, e1, k, k1, k2, k3, k4, k5⟩ := key
  exact ⟨k, k1, k2, k3, k4, by rw [e1, k5]⟩
