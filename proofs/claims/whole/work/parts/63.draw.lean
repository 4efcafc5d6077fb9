/-! ===== the pure side 43: a ground is drawn ===== -/
def setL (τ : St) (g l : Nat) (a b c : Int) : St := up2 (up2 (up2 τ (g + 1) l a) (g + 2) l b) (g + 3) l c
theorem setLine_spec {τ : St} {g l : Nat} {a b c : Int} (hl : l < 28) (ha : inI a) (hb : inI b) (hc : inI c) : f_X1_setLine τ g (l : Int) a b c = some (setL τ g l a b c) := by
  rw [f_X1_setLine, f_X1_setLine_b0, jchk_t ha, jc_ix (by omega) (by omega), jlet_v, jchk_t hb, jc_ix (by omega) (by omega), jlet_v, jchk_t hc, jc_ix (by omega) (by omega), jlet_v, cast_n]
  rfl
theorem setL_k {τ : St} {g l k : Nat} {a b c : Int} (h : k < g + 1 ∨ g + 3 < k) : setL τ g l a b c k = τ k := by
  unfold setL
  rw [up2_k (by omega), up2_k (by omega), up2_k (by omega)]
theorem setL_ln {τ : St} {g l i : Nat} {a b c : Int} : lnG (setL τ g l a b c) g i = if i = l then (a, b, c) else lnG τ g i := by
  unfold lnG setL
  by_cases e : i = l
  · rw [if_pos e, e]
    rw [up2_k (k' := g + 1) (by omega), up2_k (k' := g + 1) (by omega), up2_same, up2_k (k' := g + 2) (by omega), up2_same, up2_same]
  · rw [if_neg e, up2_a e, up2_a e, up2_a e, up2_a e, up2_a e, up2_a e, up2_a e, up2_a e, up2_a e]
theorem setL_pt {τ : St} {g o s l i : Nat} {a b c : Int} (hG : GD g o s) : ptO (setL τ g l a b c) o i = ptO τ o i := by
  have := hG.b
  unfold ptO
  rw [setL_k (by omega), setL_k (by omega), setL_k (by omega)]
/-- the border of w with v -/
def bl (σ : St) (wt : Bool) (v w : Nat) : Pt := (σ 3 v - σ 3 w, σ 4 v - σ 4 w, (σ 3 v * σ 3 v + σ 4 v * σ 4 v) - (σ 3 w * σ 3 w + σ 4 w * σ 4 w) + (if wt = true then offC σ w - offC σ v else 0))
theorem bl_ok {σC σM : St} (h : Rw σC σM) (wt : Bool) {v w : Nat} (hv : v < 24) (hw : w < 24) (pv : pC σC v = true) (pw : pC σC w = true) (hne : v ≠ w) : okL (bl σC wt v w) ∧ nzL (bl σC wt v w) := by
  obtain ⟨-, -, v1, v2⟩ := h.rng hv
  obtain ⟨-, -, w1, w2⟩ := h.rng hw
  have o1 := h.off hv
  have o2 := h.off hw
  have a1 := sq_bd (a := σC 3 v) (A := 1000) (by omega) (by omega)
  have a2 := sq_bd (a := σC 4 v) (A := 1000) (by omega) (by omega)
  have a3 := sq_bd (a := σC 3 w) (A := 1000) (by omega) (by omega)
  have a4 := sq_bd (a := σC 4 w) (A := 1000) (by omega) (by omega)
  refine ⟨⟨?_, ?_, ?_, ?_, ?_, ?_⟩, h.apart hv hw pv pw hne⟩ <;> unfold bl <;> dsimp only
  · omega
  · omega
  · omega
  · omega
  · split <;> omega
  · split <;> omega
theorem setBorder_spec {σC σM τ : St} (h : Rw σC σM) (hC : ∀ k, k < 7 → τ k = σC k) {g v w : Nat} (wt : Bool) (hv : v < 24) (hw : w < 24) (pv : pC σC v = true) (pw : pC σC w = true) (hne : v ≠ w) : f_X1_setBorder τ g (v : Int) (w : Int) (bI wt) = some (setL τ g (4 + v) (bl σC wt v w).1 (bl σC wt v w).2.1 (bl σC wt v w).2.2) := by
  obtain ⟨⟨k1, k2, k3, k4, k5, k6⟩, -⟩ := bl_ok h wt hv hw pv pw hne
  have hT := h.cC hC
  have fo : ∀ u : Nat, u < 24 → f_X1_fromOrigin τ g (u : Int) = some (σC 3 u * σC 3 u + σC 4 u * σC 4 u) := fun u hu => by
    rw [f_X1_fromOrigin, f_X1_fromOrigin_b0, jc_ix (by omega) (by omega), jc_ix (by omega) (by omega), jc_ix (by omega) (by omega), jc_ix (by omega) (by omega), cast_n, hC 3 (by omega), hC 4 (by omega)]
  have eo : ∀ u, offC τ u = offC σC u := fun u => by unfold offC; rw [hC 5 (by omega), hC 6 (by omega)]
  have b39 : ∀ c : Int, c = (bl σC wt v w).2.2 → f_X1_setBorder_b39 τ g (v : Int) (w : Int) c = some (setL τ g (4 + v) (bl σC wt v w).1 (bl σC wt v w).2.1 (bl σC wt v w).2.2) := fun c hc => by
    rw [f_X1_setBorder_b39, jc_ix (by omega) (by omega), jc_ix (by omega) (by omega), jc_ix (by omega) (by omega), jc_ix (by omega) (by omega), cast_n, cast_n, hC 3 (by omega), hC 4 (by omega), show (4 : Int) + (v : Int) = ((4 + v : Nat) : Int) by omega, hc]
    rw [show σC 3 v - σC 3 w = (bl σC wt v w).1 from rfl, show σC 4 v - σC 4 w = (bl σC wt v w).2.1 from rfl, setLine_spec (by omega) ⟨by omega, by omega⟩ ⟨by omega, by omega⟩ ⟨by omega, by omega⟩, jbind_s]
  rw [f_X1_setBorder, f_X1_setBorder_b0, fo v hv, jbind_s, fo w hw, jbind_s, jlet_v]
  cases wt with
  | false =>
    rw [bI_f, jc_I (by omega) (by omega), if_pos rfl]
    exact b39 _ (by unfold bl; simp)
  | true =>
    rw [bI_t, jc_I (by omega) (by omega), if_neg (by omega), takenOff_spec hT hw, jbind_s, takenOff_spec hT hv, jbind_s, jlet_v, eo, eo]
    exact b39 _ (by unfold bl; simp)
theorem OUT.cong {Ln Ln' : Nat → Pt} {LS : Nat → Prop} {q : Nat → Pt} {E : Nat → Nat} {m : Nat} (h : OUT Ln LS q E m) (e : ∀ l, LS l → Ln' l = Ln l) : OUT Ln' LS q E m := by
  obtain ⟨h1, h2, h3, h4, h5⟩ := h
  refine ⟨h1, fun l hl i hi => by rw [e l hl]; exact h2 l hl i hi, fun p p0 hp => h3 p p0 (fun l hl => by rw [← e l hl]; exact hp l hl), fun m3 => ⟨(h4 m3).1, fun i hi => ?_⟩, fun m2 => ?_⟩
  · obtain ⟨a, b⟩ := (h4 m3).2 i hi
    rw [e _ a]; exact ⟨a, b⟩
  · obtain ⟨a, b, l1, l2, c1, c2, c3⟩ := h5 m2
    refine ⟨a, fun i hi => ?_, l1, l2, c1, c2, by rw [e _ c1, e _ c2]; exact c3⟩
    obtain ⟨x, y⟩ := b i hi
    rw [e _ x]; exact ⟨x, y⟩
/-- the map's sides -/
def sdL (σ : St) (i : Nat) : Pt := if i = 0 then (0, -1, 0) else if i = 1 then (1, 0, 2 * σ 1 0) else if i = 2 then (0, 1, 2 * σ 1 1) else (-1, 0, 0)
/-- the lines of those below n that count, and the sides -/
def LSn (σ : St) (w n l : Nat) : Prop := l < 4 ∨ ∃ v, v < n ∧ v < 24 ∧ v ≠ w ∧ pC σ v = true ∧ l = 4 + v
def lnOK (σ : St) (wt : Bool) (w n : Nat) (Ln : Nat → Pt) : Prop := (∀ i, i < 4 → Ln i = sdL σ i) ∧ ∀ v, v < n → v < 24 → v ≠ w → pC σ v = true → Ln (4 + v) = bl σ wt v w
/-- while a ground is drawn -/
def DI (σC : St) (g w : Nat) (wt : Bool) (σ : St) (n : Nat) (τ : St) : Prop := ∃ o s m, GI σ τ g o s m (LSn σC w n) ∧ lnOK σC wt w n (lnG τ g) ∧ m ≤ 4 + ct (fun u => pC σC u && decide (u ≠ w)) n ∧ τ g 7 = 0
theorem mul_01 {x c : Int} (h1 : 0 ≤ x) (h2 : x ≤ 1000) : (0 ≤ c → 0 ≤ x * c ∧ x * c ≤ 1000 * c) ∧ (c ≤ 0 → 1000 * c ≤ x * c ∧ x * c ≤ 0) := by
  constructor
  · intro hc
    exact ⟨Int.mul_nonneg h1 hc, Int.mul_le_mul_of_nonneg_right h2 hc⟩
  · intro hc
    have a := Int.mul_nonneg h1 (show 0 ≤ -c by omega)
    have b := Int.mul_le_mul_of_nonneg_right h2 (show 0 ≤ -c by omega)
    rw [Int.mul_neg] at a
    rw [Int.mul_neg] at b
    omega
/-- a triangle in a square of side 1000 -/
theorem tri_bd {a b c d e f : Int} (a0 : 0 ≤ a) (a1 : a ≤ 1000) (b0 : 0 ≤ b) (b1 : b ≤ 1000) (c0 : 0 ≤ c) (c1 : c ≤ 1000) (d0 : 0 ≤ d) (d1 : d ≤ 1000) (e0 : 0 ≤ e) (e1 : e ≤ 1000) (f0 : 0 ≤ f) (f1 : f ≤ 1000) : -1000000 ≤ (a - e) * (d - f) - (c - e) * (b - f) ∧ (a - e) * (d - f) - (c - e) * (b - f) ≤ 1000000 := by
  have i : (a - e) * (d - f) - (c - e) * (b - f) = a * (d - f) + c * (f - b) + e * (b - d) := by grind
  rw [i]
  obtain ⟨p1, p2⟩ := mul_01 (c := d - f) a0 a1
  obtain ⟨q1, q2⟩ := mul_01 (c := f - b) c0 c1
  obtain ⟨r1, r2⟩ := mul_01 (c := b - d) e0 e1
  generalize a * (d - f) = x at *
  generalize c * (f - b) = y at *
  generalize e * (b - d) = z at *
  omega
theorem PB_two {σC σM : St} (h : Rw σC σM) {wt : Bool} {v u w : Nat} (hv : v < 24) (hu : u < 24) (hw : w < 24) : PB (bl σC wt v w) (bl σC wt u w) := by
  obtain ⟨-, -, v1, v2⟩ := h.rng hv
  obtain ⟨-, -, u1, u2⟩ := h.rng hu
  obtain ⟨-, -, w1, w2⟩ := h.rng hw
  exact tri_bd v1.1 v1.2 v2.1 v2.2 u1.1 u1.2 u2.1 u2.2 w1.1 w1.2 w2.1 w2.2
theorem PB_side {σC σM : St} (h : Rw σC σM) {wt : Bool} {k u w : Nat} (hu : u < 24) (hw : w < 24) : PB (sdL σC k) (bl σC wt u w) := by
  obtain ⟨-, -, u1, u2⟩ := h.rng hu
  obtain ⟨-, -, w1, w2⟩ := h.rng hw
  unfold PB sdL bl
  dsimp only
  split
  · dsimp only; omega
  · split
    · dsimp only; omega
    · split
      · dsimp only; omega
      · dsimp only; omega
theorem draw_step {σC σM σ τ : St} (h : Rw σC σM) {g w n : Nat} {wt : Bool} (hg : 20 ≤ g) (hσ : ∀ k, k < 7 → σ k = σC k) (hn : n < 24) (hw : w < 24) (pn : pC σC n = true) (pw : pC σC w = true) (hD : DI σC g w wt σ n τ) : ∃ υ, f_X1_draw_b31 τ g (w : Int) (bI wt) ((ct (pC σC) n : Nat) : Int) = some (.inl (υ, ((ct (pC σC) (n + 1) : Nat) : Int))) ∧ DI σC g w wt σ (n + 1) υ := by
  obtain ⟨o, s, m, hGI, hl, hm, h7⟩ := hD
  obtain ⟨hG, h4, h5, h0, h6, h7', h8, h9, h10, h11⟩ := id hGI
  have gb := hG.b
  obtain ⟨c1, c2⟩ := h.ct24 hn pn
  have iC : ∀ k, k < 7 → τ k = σC k := fun k hk => by rw [h6 k (by omega), hσ k hk]
  have mn := h.many
  have cast1 : ((ct (pC σC) (n + 1) : Nat) : Int) = ((ct (pC σC) n : Nat) : Int) + 1 := by rw [ct_t pn]; omega
  by_cases e : n = w
  · refine ⟨τ, ?_, o, s, m, ?_, ⟨hl.1, fun v hv v24 vw pv => hl.2 v (by omega) v24 vw pv⟩, ?_, h7⟩
    · rw [f_X1_draw_b31, iC 1 (by omega), mn, jc_II (by omega) (by omega) (by omega) (by omega), if_pos (by omega), jc_ix (by omega) (by omega), jlet_v, cast_n, iC 2 (by omega), h.kth hn pn, jc_II (by omega) (by omega) (by omega) (by omega), if_pos (by omega), jlet_v, cast1]
    · have : LSn σC w (n + 1) = LSn σC w n := by
        funext l
        apply propext
        unfold LSn
        constructor
        · rintro (z | ⟨v, v1, v2, v3, v4⟩)
          · exact Or.inl z
          · exact Or.inr ⟨v, by omega, v2, v3, v4⟩
        · rintro (z | ⟨v, v1, v2, v3, v4⟩)
          · exact Or.inl z
          · exact Or.inr ⟨v, by omega, v2, v3, v4⟩
      rw [this]; exact hGI
    · rw [ct_f (by simp [e])]; exact hm
  · have cnt : ct (fun u => pC σC u && decide (u ≠ w)) (n + 1) = ct (fun u => pC σC u && decide (u ≠ w)) n + 1 := ct_t (by simp [pn, e])
    have hole : ct (fun u => pC σC u && decide (u ≠ w)) 24 < 24 := ct_hole (m := w) (by simp) 24 hw
    have mono := ct_mono (fun u => pC σC u && decide (u ≠ w)) (n + 1) (24 - (n + 1))
    rw [show n + 1 + (24 - (n + 1)) = 24 by omega] at mono
    obtain ⟨bo, bn⟩ := bl_ok h wt hn hw pn pw e
    have sb := setBorder_spec h iC (g := g) wt hn hw pn pw e
    obtain ⟨μ, eμ⟩ : ∃ μ, μ = setL τ g (4 + n) (bl σC wt n w).1 (bl σC wt n w).2.1 (bl σC wt n w).2.2 := ⟨_, rfl⟩
    rw [← eμ] at sb
    have mk : ∀ k, k < g + 1 ∨ g + 3 < k → μ k = τ k := fun k hk => by rw [eμ]; exact setL_k hk
    have ml : ∀ i, lnG μ g i = if i = 4 + n then bl σC wt n w else lnG τ g i := fun i => by rw [eμ]; exact setL_ln
    have mp : ptO μ o = ptO τ o := by funext i; rw [eμ]; exact setL_pt hG
    have notin : ∀ l, LSn σC w n l → l ≠ 4 + n := fun l hl' => by
      rcases hl' with z | ⟨v, v1, v2, v3, v4, v5⟩ <;> omega
    have GI' : GI σ μ g o s m (LSn σC w n) := by
      refine ⟨hG, by rw [mk g (by omega)]; exact h4, by rw [mk g (by omega)]; exact h5, by rw [mk o (by omega)]; exact h0, fun k hk => by rw [mk k (by omega), h6 k hk], fun j a b c => by rw [mk g (by omega)]; exact h7' j a b c, ?_, fun l hl' => ?_, ?_, ?_⟩
      · rw [mp, mk (o + 4) (by omega)]; exact h8
      · rw [ml, if_neg (notin l hl')]; exact h9 l hl'
      · rw [mp, mk (o + 4) (by omega)]
        exact h10.cong (fun l hl' => by rw [ml, if_neg (notin l hl')])
      · rw [mp]
        intro k hk
        obtain ⟨l1, l2, y1, y2, y3⟩ := h11 k hk
        refine ⟨l1, l2, y1, y2, ?_⟩
        rw [ml, if_neg (notin l1 y1), ml, if_neg (notin l2 y2)]; exact y3
    obtain ⟨υ, o', s', m', u0, u1, u2, u3, u4⟩ := cut_spec (l := 4 + n) (LS' := LSn σC w (n + 1)) (fun k hk => by
      rw [ml, ml, if_neg (notin k hk), if_pos rfl]
      rcases hk with z | ⟨v, v1, v2, v3, v4, v5⟩
      · rw [hl.1 k z]; exact PB_side h hn hw
      · rw [v5, hl.2 v v1 v2 v3 v4]; exact PB_two h v2 hn hw) GI'  (by omega) (by omega) (by rw [ml, if_pos rfl]; exact bo) (by rw [ml, if_pos rfl]; exact bn) (fun k => by
      unfold LSn
      constructor
      · rintro (z | ⟨v, v1, v2, v3, v4, v5⟩)
        · exact Or.inl (Or.inl z)
        · by_cases q : v = n
          · exact Or.inr (by rw [v5, q])
          · exact Or.inl (Or.inr ⟨v, by omega, v2, v3, v4, v5⟩)
      · rintro ((z | ⟨v, v1, v2, v3, v4, v5⟩) | z)
        · exact Or.inl z
        · exact Or.inr ⟨v, by omega, v2, v3, v4, v5⟩
        · exact Or.inr ⟨n, by omega, hn, e, pn, z⟩)
    refine ⟨υ, ?_, o', s', m', u1, ?_, by omega, by rw [u4, mk g (by omega), h7]⟩
    · rw [f_X1_draw_b31, iC 1 (by omega), mn, jc_II (by omega) (by omega) (by omega) (by omega), if_pos (by omega), jc_ix (by omega) (by omega), jlet_v, cast_n, iC 2 (by omega), h.kth hn pn, jc_II (by omega) (by omega) (by omega) (by omega), if_neg (by omega), sb, jbind_s, show (4 : Int) + (n : Int) = ((4 + n : Nat) : Int) by omega, u0, jbind_s, jlet_v, cast1]
    · rw [u3]
      refine ⟨fun i hi => by rw [ml, if_neg (by omega)]; exact hl.1 i hi, fun v hv v24 vw pv => ?_⟩
      rw [ml]
      by_cases q : v = n
      · rw [if_pos (by omega), q]
      · rw [if_neg (by omega)]; exact hl.2 v (by omega) v24 vw pv
theorem draw_loop {σC σM σ τ : St} (h : Rw σC σM) {g w : Nat} {wt : Bool} (hg : 20 ≤ g) (hσ : ∀ k, k < 7 → σ k = σC k) (hw : w < 24) (pw : pC σC w = true) (hD : DI σC g w wt σ 0 τ) (fuel : Nat) (hf : 24 < fuel) : ∃ υ, jloop (fun (q : (St × Int)) => match q with | (σ, x3) => f_X1_draw_b31 σ g (w : Int) (bI wt) x3) fuel (τ, 0) = some υ ∧ DI σC g w wt σ 24 υ := by
  refine loopC (pC σC) (I := fun n q => q.2 = ((ct (pC σC) n : Nat) : Int) ∧ DI σC g w wt σ n q.1) (J := _) ?_ ?_ ?_ 24 0 fuel _ (by omega) (by omega) ⟨rfl, hD⟩
  · rintro n ⟨μ, _⟩ hn pn ⟨rfl, i1⟩
    left
    obtain ⟨υ, s1, s2⟩ := draw_step h hg hσ hn hw pn pw i1
    exact ⟨_, s1, rfl, s2⟩
  · rintro n ⟨μ, _⟩ hn pn ⟨rfl, o, s, m, a1, a2, a3, a4⟩
    refine ⟨by dsimp only; rw [ct_f pn], o, s, m, ?_, ⟨a2.1, fun v hv v24 vw pv => a2.2 v ?_ v24 vw pv⟩, by rw [ct_f (by simp [pn])]; exact a3, a4⟩
    · have : LSn σC w (n + 1) = LSn σC w n := by
        funext l
        apply propext
        unfold LSn
        constructor
        · rintro (z | ⟨v, v1, v2, v3, v4, v5⟩)
          · exact Or.inl z
          · by_cases q : v = n
            · rw [q, pn] at v4; cases v4
            · exact Or.inr ⟨v, by omega, v2, v3, v4, v5⟩
        · rintro (z | ⟨v, v1, v2, v3, v4⟩)
          · exact Or.inl z
          · exact Or.inr ⟨v, by omega, v2, v3, v4⟩
      rw [this]; exact a1
    · by_cases q : v = n
      · rw [q, pn] at pv; cases pv
      · omega
  · rintro ⟨μ, _⟩ ⟨rfl, i1⟩
    refine ⟨μ, ?_, i1⟩
    obtain ⟨o, s, m, ⟨-, -, -, -, h6, -⟩, -⟩ := i1
    have := ct_le (pC σC) 24
    have mn := h.many
    have e1 : μ 1 = σC 1 := by
      have := h6 1 (by omega)
      dsimp only at this
      rw [this, hσ 1 (by omega)]
    show f_X1_draw_b31 μ g (w : Int) (bI wt) ((ct (pC σC) 24 : Nat) : Int) = _
    rw [f_X1_draw_b31, e1, mn, jc_II (by omega) (by omega) (by omega) (by omega), if_neg (by omega)]
