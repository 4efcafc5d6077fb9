/-! ===== the pure side 61: the component finds the largest dry round ===== -/
theorem ws_id (x d x' d' k : Int) (h : x * d' = x' * d) : (x - d * k) * d' = (x' - d' * k) * d := by grind
theorem ws_id2 (u v u' v' d d' : Int) (h1 : u * d' = u' * d) (h2 : v * d' = v' * d) : (u * u + v * v) * (d' * d') = (u' * u' + v' * v') * (d * d) := by
  have e1 : (u * u + v * v) * (d' * d') = (u * d') * (u * d') + (v * d') * (v * d') := by grind
  rw [e1, h1, h2]; grind
theorem wsq_sm {σ : St} {P P' : Pt} (h : sm P P') (w : Nat) : wsq σ P w * (P'.2.2 * P'.2.2) = wsq σ P' w * (P.2.2 * P.2.2) := ws_id2 _ _ _ _ _ _ (ws_id _ _ _ _ _ h.1) (ws_id _ _ _ _ _ h.2)
theorem le_cancel {k l x y u v : Int} (hk : 0 < k) (hl : 0 < l) (h1 : x * l = u * k) (h2 : y * l = v * k) (h : x ≤ y) : u ≤ v := by
  have := Int.mul_le_mul_of_nonneg_right h (show 0 ≤ l by omega)
  rw [h1, h2] at this
  exact Int.le_of_mul_le_mul_right this hk
theorem NEa.sm {σ : St} {P P' : Pt} {w : Nat} (hP : 0 < P.2.2) (hP' : 0 < P'.2.2) (hs : sm P P') (h : NEa σ P w) : NEa σ P' w := ⟨h.1, h.2.1, fun u hu pu => le_cancel (dd hP) (dd hP') (wsq_sm hs w) (wsq_sm hs u) (h.2.2 u hu pu)⟩
theorem gv_id {a b x y z : Int} (d : Int) (hx : 0 < x) (hy : 0 < y) (h : a * y = b * x) : (d * x < a * z ↔ d * y < b * z) ∧ (d * x = a * z ↔ d * y = b * z) := by
  have e : x * (b * z - d * y) = y * (a * z - d * x) := by grind
  constructor
  · constructor
    · intro k
      have := Int.mul_pos hy (show 0 < a * z - d * x by omega)
      rw [← e] at this
      have := pos_mul' hx this
      omega
    · intro k
      have := Int.mul_pos hx (show 0 < b * z - d * y by omega)
      rw [e] at this
      have := pos_mul' hy this
      omega
  · constructor
    · intro k
      rw [show a * z - d * x = 0 by omega, Int.mul_zero] at e
      have := zero_mul_pos hx e
      omega
    · intro k
      rw [show b * z - d * y = 0 by omega, Int.mul_zero] at e
      have := zero_mul_pos hy e.symm
      omega
theorem vl.sm {σ : St} {P P' : Pt} {a a' : Int} (hP : 0 < P.2.2) (hP' : 0 < P'.2.2) (hs : sm P P') (h : vl σ P a) (h' : vl σ P' a') : a * (P'.2.2 * P'.2.2) = a' * (P.2.2 * P.2.2) := by
  obtain ⟨w, n1, rfl⟩ := h
  have := h'.uniq ⟨w, n1.sm hP hP' hs, rfl⟩
  rw [this]
  exact wsq_sm hs w
theorem gtv.sm {σ : St} {P P' Q : Pt} {a a' b : Int} (hP : 0 < P.2.2) (hP' : 0 < P'.2.2) (hQ : 0 < Q.2.2) (hs : sm P P') (h : vl σ P a) (h' : vl σ P' a') (g : gtv P a Q b) : gtv P' a' Q b := by
  have e := h.sm hP hP' hs h'
  obtain ⟨i1, i2⟩ := gv_id (z := Q.2.2 * Q.2.2) b (dd hP) (dd hP') e
  rcases g with g | ⟨g1, g2⟩
  · exact Or.inl (i1.mp g)
  · exact Or.inr ⟨i2.mp g1, (bef_sm hP hQ hP' hQ hs (sm.refl Q)).mp g2⟩
theorem BC.cong {σ τ : St} {S S' : Pt → Prop} (h : BC σ S τ) (e : ∀ X, S X ↔ S' X) : BC σ S' τ := by
  have : S = S' := funext (fun X => propext (e X))
  rw [← this]; exact h
/-- all corners of the ground of w -/
def VS (σ : St) (w : Nat) (X : Pt) : Prop := ∃ p, VX σ w p ∧ okP p ∧ X = hf p
theorem inner_loop {σC σM τ : St} (h : Rw σC σM) (hC : ∀ k, k < 7 → τ k = σC k) {w : Nat} (hw : w < 24) (pw : pC σC w = true) (hX : GX σC τ 42 w false) {S : Pt → Prop} (hB : BC σC S τ) (x1 : Int) (fuel : Nat) (hf' : 28 < fuel) : ∃ υ, jloop (fun (q : (St × Int)) => match q with | (σ, x3) => f_X0_findOnce_b65 σ x1 (w : Int) x3) fuel (τ, 0) = some υ ∧ LK τ υ ∧ BC σC (fun X => S X ∨ VS σC w X) υ := by
  obtain ⟨o, s, m, f, E, b1, b2, b3, b4, b5, b6, b7, b8, b9, b10, b11, b12⟩ := hX.2.1 pw
  obtain ⟨n1, n2⟩ := b1.ln
  have gb := b1.b
  have oo : OUT (cu σC w) (LSn σC w 24) (ptO τ o) E m := b8.cong (fun l hl => (b7.cuc hl).symm)
  have tt : TT (cu σC w) (LSn σC w 24) (ptO τ o) m := fun k hk => by
    obtain ⟨l1, l2, y1, y2, y3, y4, y5⟩ := b12 k hk
    rw [b7.cuc y1] at y3 y5
    rw [b7.cuc y2] at y4 y5
    exact ⟨l1, l2, y1, y2, y3, y4, y5⟩
  have gv := GV.of oo tt (fun l hl => (cu_ok h hw pw hl).2)
  have vx : ∀ i, i < m → VX σC w (ptO τ o i) := fun i hi => ⟨hw, pw, (b6 i hi).1, fun l hl => oo.2.1 l hl i hi, tt i hi⟩
  have lp : ∃ υ, jloop (fun (q : (St × Int)) => match q with | (σ, x3) => f_X0_findOnce_b65 σ x1 (w : Int) x3) fuel (τ, 0) = some υ ∧ LK τ υ ∧ BC σC (fun X => S X ∨ ∃ j, j < m ∧ X = hf (ptO τ o j)) υ := by
    refine jloop_ex (I := fun i q => q.2 = (i : Int) ∧ LK τ q.1 ∧ BC σC (fun X => S X ∨ ∃ j, j < i ∧ X = hf (ptO τ o j)) q.1) (N := m) (J := _) ?_ ?_ m 0 fuel _ (by omega) (by omega) ⟨rfl, LK.refl _, hB.cong (fun X => ⟨Or.inl, fun z => by
      rcases z with z | ⟨j, j1, -⟩
      · exact z
      · exact absurd j1 (Nat.not_lt_zero j)⟩)⟩
    · rintro i ⟨μ, _⟩ hi ⟨rfl, i1, i2⟩
      dsimp only at i1 i2
      have mp : ptO μ o i = ptO τ o i := i1.pt b1
      have m4 : μ 42 4 = (o : Int) := by rw [i1.1 42 (by omega) (by omega)]; exact b2
      have m0 : μ o 0 = (m : Int) := by rw [i1.1 o (by omega) (by omega)]; exact b4
      obtain ⟨υ, u1, u2, u3⟩ := lookAt_spec (τ := μ) (o := o) (s := s) (i := i) (w := w) h (fun k hk => by rw [i1.1 k (by omega) (by omega), hC k hk]) b1 (by omega) hw (by rw [mp]; exact b6 i hi) (by rw [mp]; exact (vx i hi).near.2) i2
      rw [mp] at u3
      refine ⟨(υ, ((i + 1 : Nat) : Int)), ?_, rfl, i1.trans u2, u3.cong (fun X => ?_)⟩
      · show f_X0_findOnce_b65 μ x1 (w : Int) (i : Int) = _
        rw [f_X0_findOnce_b65, f_X1_size, f_X1_size_b0, m4, cast_n, jlet_v, jchk_t n2, m0, jbind_s, jc_II (by omega) (by omega) (by omega) (by omega), if_pos (by omega), f_X1_outline, f_X1_outline_b0, m4, cast_n, jlet_v, jchk_t n2, jbind_s, jchk_t n2, u1, jbind_s, jlet_v, cast_s]
      · constructor
        · rintro ((z | ⟨j, j1, j2⟩) | z)
          · exact Or.inl z
          · exact Or.inr ⟨j, by omega, j2⟩
          · exact Or.inr ⟨i, by omega, z⟩
        · rintro (z | ⟨j, j1, j2⟩)
          · exact Or.inl (Or.inl z)
          · by_cases e : j = i
            · rw [e] at j2; exact Or.inr j2
            · exact Or.inl (Or.inr ⟨j, by omega, j2⟩)
    · rintro ⟨μ, _⟩ ⟨rfl, i1, i2⟩
      dsimp only at i1 i2
      refine ⟨μ, ?_, i1, i2⟩
      show f_X0_findOnce_b65 μ x1 (w : Int) (m : Int) = _
      rw [f_X0_findOnce_b65, f_X1_size, f_X1_size_b0, i1.1 42 (by omega) (by omega), b2, cast_n, jlet_v, jchk_t n2, i1.1 o (by omega) (by omega), b4, jbind_s, jc_II (by omega) (by omega) (by omega) (by omega), if_neg (by omega)]
  obtain ⟨υ, u1, u2, u3⟩ := lp
  refine ⟨υ, u1, u2, ?_⟩
  have back : ∀ X, VS σC w X → ∃ j, j < m ∧ sm X (hf (ptO τ o j)) := by
    rintro X ⟨p, ⟨-, -, p0, fe, l1, l2, y1, y2, y3, y4, y5⟩, -, rfl⟩
    obtain ⟨t, t1, t2, -⟩ := gv.vertex p0 fe y1 y2 y5 y3 y4
    refine ⟨t, t1, ?_, ?_⟩
    · show p.1 * (2 * (ptO τ o t).2.2) = (ptO τ o t).1 * (2 * p.2.2)
      have := t2.1
      have e1 : p.1 * (2 * (ptO τ o t).2.2) = 2 * (p.1 * (ptO τ o t).2.2) := by grind
      have e2 : (ptO τ o t).1 * (2 * p.2.2) = 2 * ((ptO τ o t).1 * p.2.2) := by grind
      omega
    · show p.2.1 * (2 * (ptO τ o t).2.2) = (ptO τ o t).2.1 * (2 * p.2.2)
      have := t2.2
      have e1 : p.2.1 * (2 * (ptO τ o t).2.2) = 2 * (p.2.1 * (ptO τ o t).2.2) := by grind
      have e2 : (ptO τ o t).2.1 * (2 * p.2.2) = 2 * ((ptO τ o t).2.1 * p.2.2) := by grind
      omega
  rcases u3 with ⟨v1, v2⟩ | ⟨v1, v2, ⟨v3, v4, v5, v6⟩, v7⟩
  · refine Or.inl ⟨v1, fun X z => ?_⟩
    rcases z with z | z
    · exact v2 X (Or.inl z)
    · obtain ⟨j, j1, -⟩ := back X z
      exact v2 (hf (ptO τ o j)) (Or.inr ⟨j, j1, rfl⟩)
  · refine Or.inr ⟨v1, v2, ⟨?_, v4, v5, fun X a' sx ok va g => ?_⟩, v7⟩
    · rcases v3 with z | ⟨j, j1, j2⟩
      · exact Or.inl z
      · exact Or.inr ⟨_, vx j j1, b6 j j1, j2⟩
    · rcases sx with z | z
      · exact v6 X a' (Or.inl z) ok va g
      · obtain ⟨j, j1, j2⟩ := back X z
        have okj := (b6 j j1).Q
        have vj : vl σC (hf (ptO τ o j)) (wsq σC (hf (ptO τ o j)) w) := ⟨w, (vx j j1).near.2, rfl⟩
        exact v6 _ _ (Or.inr ⟨j, j1, rfl⟩) okj vj (g.sm ok.1 okj.1 v4.1 j2 va vj)
