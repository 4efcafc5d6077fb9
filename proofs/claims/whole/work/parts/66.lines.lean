/-! ===== the pure side 46: the model's lines ===== -/
def lnM (σ : St) (i : Nat) : Pt := (σ 13 i, σ 14 i, σ 15 i)
def addL (τ : St) (n : Nat) (a b c : Int) : St := up2 (up2 (up2 (up2 τ 13 n a) 14 n b) 15 n c) 0 16 ((n + 1 : Nat) : Int)
theorem lineM_spec {τ : St} {n : Nat} {a b c : Int} (hn : n < 28) (h : τ 0 16 = (n : Int)) : f_X11_line τ a b c = some (addL τ n a b c) := by
  rw [f_X11_line, f_X11_line_b0, h, jc_ix (by omega) (by omega), jlet_v, up2_k (k' := 0) (by decide), h, jc_ix (by omega) (by omega), jlet_v, up2_k (k' := 0) (by decide), up2_k (k' := 0) (by decide), h, jc_ix (by omega) (by omega), jlet_v, up2_k (k' := 0) (by decide), up2_k (k' := 0) (by decide), up2_k (k' := 0) (by decide), h, jlet_v, cast_n, show (n : Int) + 1 = ((n + 1 : Nat) : Int) by omega]
  rfl
theorem addL_k {τ : St} {n k : Nat} {a b c : Int} (h0 : k ≠ 0) (h : k < 13 ∨ 15 < k) : addL τ n a b c k = τ k := by
  unfold addL
  rw [up2_k (by omega), up2_k (by omega), up2_k (by omega), up2_k (by omega)]
theorem addL_j {τ : St} {n j : Nat} {a b c : Int} (h : j ≠ 16) : addL τ n a b c 0 j = τ 0 j := by
  unfold addL
  rw [up2_j h, up2_k (k' := 0) (by decide), up2_k (k' := 0) (by decide), up2_k (k' := 0) (by decide)]
theorem addL_ln {τ : St} {n i : Nat} {a b c : Int} : lnM (addL τ n a b c) i = if i = n then (a, b, c) else lnM τ i := by
  unfold lnM addL
  rw [up2_k (k' := 13) (by omega), up2_k (k' := 13) (by omega), up2_k (k' := 13) (by omega), up2_k (k' := 14) (by omega), up2_k (k' := 14) (by omega), up2_k (k' := 15) (by omega)]
  by_cases e : i = n
  · rw [if_pos e, e, up2_same, up2_same, up2_same]
  · rw [if_neg e]
    simp only [up2_a e]
/-- a line of the ground of w -/
def cl (σ : St) (w l : Nat) : Pt := if l < 4 then sdL σ l else bl σ true (l - 4) w
/-- the model's line is the component's, in its own measure -/
def LM (L M : Pt) : Prop := ∃ ρ : Int, (ρ = 1 ∨ ρ = 2) ∧ M.1 = ρ * L.1 ∧ M.2.1 = ρ * L.2.1 ∧ 2 * M.2.2 = ρ * L.2.2
def LI (σC σM : St) (w : Nat) (D : Nat → Prop) (F : Option Nat) (n : Nat) (τ : St) : Prop :=
  (∀ k, k ≠ 0 → k < 13 ∨ 15 < k → τ k = σM k) ∧ (∀ j, j ≠ 16 → τ 0 j = σM 0 j) ∧ τ 0 16 = (n : Int) ∧
  ∃ Lam : Nat → Nat, (∀ i, i < n → D (Lam i) ∧ LM (cl σC w (Lam i)) (lnM τ i)) ∧ (∀ l, D l → ∃ i, i < n ∧ Lam i = l) ∧ ∀ v, F = some v → 0 < n ∧ Lam 0 = 4 + v
theorem LI.add {σC σM τ : St} {w n l : Nat} {D D' : Nat → Prop} {F : Option Nat} {a b c : Int} (h : LI σC σM w D F n τ) (hL : LM (cl σC w l) (a, b, c)) (hD : ∀ k, D' k ↔ (D k ∨ k = l)) : LI σC σM w D' F (n + 1) (addL τ n a b c) := by
  obtain ⟨h1, h2, h3, Lam, h4, h5, h6⟩ := h
  refine ⟨fun k k0 hk => by rw [addL_k k0 hk, h1 k k0 hk], fun j hj => by rw [addL_j hj, h2 j hj], by unfold addL; rw [up2_same], fun i => if i = n then l else Lam i, fun i hi => ?_, fun k hk => ?_, fun v hv => ?_⟩
  · rw [addL_ln]
    by_cases e : i = n
    · simp only [e, if_true]
      exact ⟨(hD l).mpr (Or.inr rfl), hL⟩
    · simp only [e, if_false]
      exact ⟨(hD _).mpr (Or.inl (h4 i (by omega)).1), (h4 i (by omega)).2⟩
  · rcases (hD k).mp hk with z | z
    · obtain ⟨i, i1, i2⟩ := h5 k z
      exact ⟨i, by omega, by dsimp only; rw [if_neg (by omega)]; exact i2⟩
    · exact ⟨n, by omega, by dsimp only; rw [if_pos rfl, z]⟩
  · obtain ⟨x, y⟩ := h6 v hv
    exact ⟨by omega, by dsimp only; rw [if_neg (by omega)]; exact y⟩
theorem LI.R {σC σM τ : St} {w n : Nat} {D : Nat → Prop} {F : Option Nat} (h : Rw σC σM) (hI : LI σC σM w D F n τ) : Rw σC τ := h.cM (fun k h1 h2 => hI.1 k (by omega) (by omega)) (hI.2.1 0 (by decide)) (hI.2.1 1 (by decide)) (hI.2.1 2 (by decide))
theorem against_spec {σC τ : St} (h : Rw σC τ) {n v w : Nat} (hn : n < 28) (h16 : τ 0 16 = (n : Int)) (hv : v < 24) (hw : w < 24) (pv : pC σC v = true) (pw : pC σC w = true) : ∃ a b c, f_X11_against τ (w : Int) (v : Int) = some (addL τ n a b c) ∧ LM (cl σC w (4 + v)) (a, b, c) := by
  obtain ⟨-, -, v1, v2⟩ := h.rng hv
  obtain ⟨-, -, w1, w2⟩ := h.rng hw
  obtain ⟨-, a1, a2, -⟩ := h.M hv pv
  obtain ⟨-, b1, b2, -⟩ := h.M hw pw
  refine ⟨2 * (σC 3 v - σC 3 w), 2 * (σC 4 v - σC 4 w), ((((σC 3 v * σC 3 v + σC 4 v * σC 4 v) - σC 3 w * σC 3 w) - σC 4 w * σC 4 w) - offC σC v) + offC σC w, ?_, 2, Or.inr rfl, ?_⟩
  · rw [f_X11_against, f_X11_against_b0, jc_ix (by omega) (by omega), cast_n, a1, jc_I (by omega) (by omega), jlet_v, jc_ix (by omega) (by omega), a2, jc_I (by omega) (by omega), jlet_v, jc_ix (by omega) (by omega), cast_n, b1, jc_I (by omega) (by omega), jlet_v, jc_ix (by omega) (by omega), b2, jc_I (by omega) (by omega), jlet_v, offM_spec h hv pv, jbind_s, offM_spec h hw pw, jbind_s, lineM_spec hn h16, jbind_s]
  · unfold cl bl
    rw [if_neg (by omega), show 4 + v - 4 = v by omega]
    dsimp only
    rw [if_pos rfl]
    refine ⟨rfl, rfl, ?_⟩
    omega
/-- the lines of those below n -/
def Dn (σ : St) (w : Nat) (F : Option Nat) (n l : Nat) : Prop := (∃ u, u < n ∧ u < 24 ∧ u ≠ w ∧ pC σ u = true ∧ l = 4 + u) ∨ ∃ v, F = some v ∧ l = 4 + v
theorem linesM_loop {σC σM : St} (h : Rw σC σM) {w : Nat} (hw : w < 24) (pw : pC σC w = true) {F : Option Nat} {x2 : Int} (hx : (x2 = -1 ∧ F = none) ∨ ∃ v : Nat, v < 24 ∧ x2 = (v : Int) ∧ F = some v) {n0 : Nat} {τ : St} (n01 : n0 ≤ 1) (hI : LI σC σM w (Dn σC w F 0) F n0 τ) (fuel : Nat) (hf : 24 < fuel) : ∃ υ, jloop (fun (q : (St × Int)) => match q with | (σ, x3) => f_X11_linesOf_b18 σ (w : Int) x2 x3) fuel (τ, 0) = some υ ∧ ∃ n, LI σC σM w (Dn σC w F 24) F n υ ∧ n ≤ 24 := by
  have xr : -1 ≤ x2 ∧ x2 < 24 := by
    rcases hx with ⟨z, -⟩ | ⟨v, z, z', -⟩ <;> omega
  refine jloop_ex (I := fun i q => q.2 = (i : Int) ∧ ∃ n, LI σC σM w (Dn σC w F i) F n q.1 ∧ n ≤ 1 + ct (fun u => pC σC u && decide (u ≠ w)) i) (N := 24) (J := fun υ => ∃ n, LI σC σM w (Dn σC w F 24) F n υ ∧ n ≤ 24) ?_ ?_ 24 0 fuel _ (by omega) (by omega) ⟨rfl, n0, hI, by omega⟩
  · rintro v ⟨μ, _⟩ hv ⟨rfl, n, i1, i2⟩
    show ∃ s', f_X11_linesOf_b18 μ (w : Int) x2 (v : Int) = some (.inl s') ∧ _
    have R := i1.R h
    dsimp only at i1
    have skip : (v = w ∨ (v : Int) = x2 ∨ pC σC v = false) → ∃ n, LI σC σM w (Dn σC w F (v + 1)) F n μ ∧ n ≤ 1 + ct (fun u => pC σC u && decide (u ≠ w)) (v + 1) := fun hs => by
      have mono := ct_mono (fun u => pC σC u && decide (u ≠ w)) v 1
      refine ⟨n, ?_, by omega⟩
      have : Dn σC w F (v + 1) = Dn σC w F v := by
        funext l
        apply propext
        unfold Dn
        constructor
        · rintro (⟨u, u1, u2, u3, u4, u5⟩ | z)
          · by_cases e : u = v
            · subst e
              rcases hs with s | s | s
              · exact absurd s u3
              · rcases hx with ⟨z, -⟩ | ⟨t, t1, t2, t3⟩
                · omega
                · exact Or.inr ⟨t, t3, by omega⟩
              · rw [s] at u4; cases u4
            · exact Or.inl ⟨u, by omega, u2, u3, u4, u5⟩
          · exact Or.inr z
        · rintro (⟨u, u1, u2, u3, u4, u5⟩ | z)
          · exact Or.inl ⟨u, by omega, u2, u3, u4, u5⟩
          · exact Or.inr z
      rw [this]; exact i1
    rw [f_X11_linesOf_b18, jc_II (by omega) (by omega) (by omega) (by omega), if_pos (by omega), jc_II (by omega) (by omega) (by omega) (by omega)]
    by_cases c1 : (v : Int) = (w : Int)
    · rw [if_pos c1, jlet_v]
      exact ⟨_, rfl, by dsimp only; omega, skip (Or.inl (by omega))⟩
    · rw [if_neg c1, jc_II (by omega) (by omega) (by omega) (by omega)]
      by_cases c2 : (v : Int) = x2
      · rw [if_pos c2, jlet_v]
        exact ⟨_, rfl, by dsimp only; omega, skip (Or.inr (Or.inl c2))⟩
      · rw [if_neg c2, R.cnM hv, jbind_s]
        cases pv : pC σC v with
        | false =>
          rw [bI_f, jc_I (by omega) (by omega), if_pos rfl, jlet_v]
          exact ⟨_, rfl, by dsimp only; omega, skip (Or.inr (Or.inr pv))⟩
        | true =>
          have cle := ct_le (fun u => pC σC u && decide (u ≠ w)) v
          obtain ⟨a, b, c, s1, s2⟩ := against_spec R (n := n) (by omega) i1.2.2.1 hv hw pv pw
          rw [bI_t, jc_I (by omega) (by omega), if_neg (by omega), s1, jbind_s, jlet_v]
          refine ⟨_, rfl, by dsimp only; omega, n + 1, i1.add s2 (fun k => ?_), ?_⟩
          · unfold Dn
            constructor
            · rintro (⟨u, u1, u2, u3, u4, u5⟩ | z)
              · by_cases e : u = v
                · exact Or.inr (by omega)
                · exact Or.inl (Or.inl ⟨u, by omega, u2, u3, u4, u5⟩)
              · exact Or.inl (Or.inr z)
            · rintro ((⟨u, u1, u2, u3, u4, u5⟩ | z) | z)
              · exact Or.inl ⟨u, by omega, u2, u3, u4, u5⟩
              · exact Or.inr z
              · exact Or.inl ⟨v, by omega, hv, by omega, pv, z⟩
          · rw [ct_t (by simp [pv]; omega)]; omega
  · rintro ⟨μ, _⟩ ⟨rfl, n, i1, i2⟩
    have hole : ct (fun u => pC σC u && decide (u ≠ w)) 24 < 24 := ct_hole (m := w) (by simp) 24 hw
    refine ⟨μ, ?_, n, i1, by omega⟩
    show f_X11_linesOf_b18 μ (w : Int) x2 ((24 : Nat) : Int) = _
    rw [f_X11_linesOf_b18, jc_II (by omega) (by omega) (by omega) (by omega), if_neg (by omega)]
theorem linesOf_spec {σC σM : St} (h : Rw σC σM) {w : Nat} (hw : w < 24) (pw : pC σC w = true) {F : Option Nat} {x2 : Int} (hx : (x2 = -1 ∧ F = none) ∨ ∃ v : Nat, v < 24 ∧ v ≠ w ∧ pC σC v = true ∧ x2 = (v : Int) ∧ F = some v) : ∃ τ n, f_X11_linesOf σM (w : Int) x2 = some τ ∧ LI σC σM w (LSn σC w 24) F n τ ∧ n ≤ 28 := by
  have w1 := h.1.1
  have w2 := h.1.2.1
  have s0 : LI σC σM w (fun _ => False) none 0 (up2 σM 0 16 0) := ⟨fun k k0 _ => by rw [up2_k k0], fun j hj => by rw [up2_j hj], by rw [up2_same]; rfl, fun _ => 0, fun i hi => absurd hi (Nat.not_lt_zero i), fun _ z => z.elim, fun _ z => by cases z⟩
  have sides : ∀ (μ : St) (n : Nat), LI σC σM w (Dn σC w F 24) F n μ → n ≤ 24 → ∃ t1 t2 t3 t4, f_X11_line μ (-1) 0 0 = some t1 ∧ t1 0 0 = σC 1 0 ∧ f_X11_line t1 1 0 (σC 1 0) = some t2 ∧ f_X11_line t2 0 (-1) 0 = some t3 ∧ t3 0 1 = σC 1 1 ∧ f_X11_line t3 0 1 (σC 1 1) = some t4 ∧ LI σC σM w (LSn σC w 24) F (n + 4) t4 := by
    intro μ n hI hn
    have L3 : LM (cl σC w 3) (-1, 0, 0) := ⟨1, Or.inl rfl, by simp [cl, sdL]⟩
    have L1 : LM (cl σC w 1) (1, 0, σC 1 0) := ⟨1, Or.inl rfl, by simp [cl, sdL]⟩
    have L0 : LM (cl σC w 0) (0, -1, 0) := ⟨1, Or.inl rfl, by simp [cl, sdL]⟩
    have L2 : LM (cl σC w 2) (0, 1, σC 1 1) := ⟨1, Or.inl rfl, by simp [cl, sdL]⟩
    have j1 := hI.add (l := 3) (D' := fun k => Dn σC w F 24 k ∨ k = 3) L3 (fun k => Iff.rfl)
    have j2 := j1.add (l := 1) (D' := fun k => (Dn σC w F 24 k ∨ k = 3) ∨ k = 1) L1 (fun k => Iff.rfl)
    have j3 := j2.add (l := 0) (D' := fun k => ((Dn σC w F 24 k ∨ k = 3) ∨ k = 1) ∨ k = 0) L0 (fun k => Iff.rfl)
    have j4 := j3.add (l := 2) (D' := LSn σC w 24) L2 (fun k => by
      unfold LSn Dn
      constructor
      · rintro (z | ⟨v, v1, v2, v3, v4, v5⟩)
        · by_cases e2 : k = 2
          · exact Or.inr e2
          · by_cases e0 : k = 0
            · exact Or.inl (Or.inr e0)
            · by_cases e1 : k = 1
              · exact Or.inl (Or.inl (Or.inr e1))
              · exact Or.inl (Or.inl (Or.inl (Or.inr (by omega))))
        · exact Or.inl (Or.inl (Or.inl (Or.inl (Or.inl ⟨v, v1, v2, v3, v4, v5⟩))))
      · rintro (((((⟨v, v1, v2, v3, v4, v5⟩ | ⟨v, z1, z2⟩) | z) | z) | z) | z)
        · exact Or.inr ⟨v, v1, v2, v3, v4, v5⟩
        · rcases hx with ⟨-, y⟩ | ⟨t, t1, t2, t3, -, t4⟩
          · rw [y] at z1; cases z1
          · have e : v = t := by rw [t4] at z1; exact (Option.some.inj z1).symm
            exact Or.inr ⟨t, t1, t1, t2, t3, by rw [z2, e]⟩
        · exact Or.inl (by omega)
        · exact Or.inl (by omega)
        · exact Or.inl (by omega)
        · exact Or.inl (by omega))
    exact ⟨_, _, _, _, lineM_spec (by omega) hI.2.2.1, by rw [j1.2.1 0 (by decide)]; exact h.2.2.1, lineM_spec (by omega) j1.2.2.1, lineM_spec (by omega) j2.2.2.1, by rw [j3.2.1 1 (by decide)]; exact h.2.2.2.1, lineM_spec (by omega) j3.2.2.1, j4⟩
  rcases id hx with ⟨x1, F0⟩ | ⟨v, v1, v2, v3, v4, v5⟩
  · have d0 : LI σC σM w (Dn σC w F 0) F 0 (up2 σM 0 16 0) := by
      rw [F0]
      refine ⟨s0.1, s0.2.1, s0.2.2.1, fun _ => 0, fun i hi => absurd hi (Nat.not_lt_zero i), ?_, fun _ z => by cases z⟩
      rintro l (⟨u, u1, -⟩ | ⟨u, u1, -⟩)
      · exact absurd u1 (Nat.not_lt_zero u)
      · cases u1
    obtain ⟨μ, l0, n, l1, l2⟩ := linesM_loop h hw pw (Or.inl ⟨x1, F0⟩) (by omega) d0 1000 (by omega)
    obtain ⟨t1, t2, t3, t4, a1, a2, a3, a4, a5, a6, a7⟩ := sides μ n l1 l2
    refine ⟨t4, n + 4, ?_, a7, by omega⟩
    rw [f_X11_linesOf, f_X11_linesOf_b0, jlet_v, jc_II (by omega) (by omega) (by omega) (by omega), if_pos x1, jlet_v, l0, jbind_s, a1, jbind_s, a2, jc_I (by omega) (by omega), a3, jbind_s, a4, jbind_s, a5, jc_I (by omega) (by omega), a6, jbind_s]
  · have R0 := s0.R h
    obtain ⟨a, b, c, s1, s2⟩ := against_spec R0 (n := 0) (by omega) s0.2.2.1 v1 hw v3 pw
    have d0 : LI σC σM w (Dn σC w F 0) F 1 (addL (up2 σM 0 16 0) 0 a b c) := by
      have j := s0.add (l := 4 + v) (D' := Dn σC w F 0) s2 (fun k => by
        unfold Dn
        constructor
        · rintro (⟨u, u1, -⟩ | ⟨u, u1, u2⟩)
          · exact absurd u1 (Nat.not_lt_zero u)
          · rw [v5] at u1; cases u1; exact Or.inr u2
        · rintro (z | z)
          · exact z.elim
          · exact Or.inr ⟨v, v5, z⟩)
      obtain ⟨j1, j2, j3, Lam, j4, j5, -⟩ := j
      refine ⟨j1, j2, j3, Lam, j4, j5, fun u hu => ⟨by omega, ?_⟩⟩
      obtain ⟨i, i1, i2⟩ := j5 (4 + u) (Or.inr ⟨u, hu, rfl⟩)
      rw [show (0 : Nat) = i by omega]; exact i2
    obtain ⟨μ, l0, n, l1, l2⟩ := linesM_loop h hw pw (Or.inr ⟨v, v1, v4, v5⟩) (by omega) d0 1000 (by omega)
    obtain ⟨t1, t2, t3, t4, a1, a2, a3, a4, a5, a6, a7⟩ := sides μ n l1 l2
    refine ⟨t4, n + 4, ?_, a7, by omega⟩
    have s1' : f_X11_against (up2 σM 0 16 0) (w : Int) x2 = some (addL (up2 σM 0 16 0) 0 a b c) := by rw [v4]; exact s1
    rw [f_X11_linesOf, f_X11_linesOf_b0, jlet_v, jc_II (by omega) (by omega) (by omega) (by omega), if_neg (by omega), s1', jbind_s, jlet_v, l0, jbind_s, a1, jbind_s, a2, jc_I (by omega) (by omega), a3, jbind_s, a4, jbind_s, a5, jc_I (by omega) (by omega), a6, jbind_s]
