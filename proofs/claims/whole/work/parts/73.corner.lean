/-! ===== the pure side 53: corners, corner ===== -/
theorem cornerAt_spec {τ : St} {g o s m f : Nat} (hG : GD g o s) (h4 : τ g 4 = (o : Int)) (h0 : τ o 0 = (m : Int)) (hm : m ≤ 27) (h7 : τ g 7 = (f : Int)) (hf : 0 < m → f < m) {x : Int} (hx : inI x) : (∃ i : Nat, i < m ∧ x = (i : Int) ∧ f_X1_cornerAt τ g x = some ((rot m f i : Nat) : Int)) ∨ ((x < 0 ∨ (m : Int) ≤ x) ∧ f_X1_cornerAt τ g x = some (-1)) := by
  obtain ⟨n1, n2⟩ := hG.ln
  obtain ⟨x1, x2⟩ := hx
  rw [f_X1_cornerAt, f_X1_cornerAt_b0, jc_I (by omega) (by omega)]
  by_cases c : x < 0
  · exact Or.inr ⟨Or.inl c, by rw [if_pos c]⟩
  · rw [if_neg c, h4, cast_n, jlet_v, jchk_t n2, h0, jc_II (by omega) (by omega) (by omega) (by omega)]
    by_cases d : x < (m : Int)
    · obtain ⟨i, rfl⟩ : ∃ i : Nat, x = (i : Int) := ⟨x.toNat, by omega⟩
      refine Or.inl ⟨i, by omega, rfl, ?_⟩
      have fm := hf (by omega)
      rw [if_pos d, h7, jlet_v, jlet_v, jchk_t n2, jc_II (by omega) (by omega) (by omega) (by omega)]
      unfold rot
      by_cases e : f + i < m
      · rw [if_pos (by omega), if_pos e]
        congr 1
      · rw [if_neg (by omega), if_neg e, jlet_v, jchk_t n2]
        congr 1
        omega
    · exact Or.inr ⟨Or.inr (by omega), by rw [if_neg d]⟩
theorem tell_in {τ : St} {g o s m i : Nat} (hG : GD g o s) (h4 : τ g 4 = (o : Int)) (h0 : τ o 0 = (m : Int)) (hm : m ≤ 27) (hi : i < m) (hP : okP (ptO τ o i)) {what : Int} (hw : inI what) : f_X1_tell τ g (i : Int) what = some (tp (ptO τ o i).1 (ptO τ o i).2.1 (2 * (ptO τ o i).2.2) what) := by
  obtain ⟨n1, n2⟩ := hG.ln
  obtain ⟨a1, a2, a3, a4, a5, a6⟩ := hP
  unfold ptO at *
  dsimp only at *
  rw [f_X1_tell, f_X1_tell_b0, jc_I (by omega) (by omega), if_neg (by omega), h4, cast_n, jlet_v, jchk_t n2, h0, jc_II (by omega) (by omega) (by omega) (by omega), if_pos (by omega), jlet_v, jchk_t n2, n1, jc_ix (by omega) (by omega), jlet_v, jchk_t n2, n1, jc_ix (by omega) (by omega), jlet_v, jchk_t n2, n1, jc_ix (by omega) (by omega), cast_n, tellPoint_spec ⟨by omega, by omega⟩ ⟨by omega, by omega⟩ (by omega) (by omega) hw, jbind_s]
theorem tellg_out {τ : St} {g : Nat} {what : Int} : f_X1_tell τ g (-1) what = some (-1) := by
  rw [f_X1_tell, f_X1_tell_b0, jc_I (by omega) (by omega), if_pos (by decide)]
theorem tp_out {x y d what : Int} (h : what < 0 ∨ 3 < what) : tp x y d what = -1 := by
  unfold tp
  rw [if_neg (by omega), if_neg (by omega), if_neg (by omega), if_neg (by omega)]
theorem GX.cell {τ : St} {w : Nat} (h : GX τ τ 20 w true) : ∃ o s m f : Nat, GD 20 o s ∧ τ 20 4 = (o : Int) ∧ τ o 0 = (m : Int) ∧ m ≤ 27 ∧ (pC τ w = false → m = 0) ∧ (0 < m → τ 20 7 = (f : Int) ∧ f < m) ∧ (∀ i, i < m → okP (ptO τ o i)) ∧ (pC τ w = true → τ 20 7 = (f : Int) ∧ (0 < m → f < m) ∧ lnOK τ true w 24 (lnG τ 20) ∧ (∃ E, OUT (lnG τ 20) (LSn τ w 24) (ptO τ o) E m) ∧ (∀ i, i < m → ¬ bef (ptO τ o i) (ptO τ o f)) ∧ TT (lnG τ 20) (LSn τ w 24) (ptO τ o) m) := by
  obtain ⟨-, h1, h2⟩ := h
  cases pw : pC τ w with
  | true =>
    obtain ⟨o, s, m, f, E, b1, b2, b3, b4, b5, b6, b7, b8, b9, b10, b11, b12⟩ := h1 pw
    exact ⟨o, s, m, f, b1, b2, b4, b5, fun z => (by cases z), fun z => ⟨b9, b10 z⟩, b6, fun _ => ⟨b9, b10, b7, ⟨E, b8⟩, b11, b12⟩⟩
  | false =>
    obtain ⟨o, s, b1, b2, b3, b4⟩ := h2 pw
    exact ⟨o, s, 0, 0, b1, b2, b4, by omega, fun _ => rfl, fun z => by omega, fun i hi => by omega, fun z => by cases z⟩
theorem corners_eq {σC σM : St} (h : Rw σC σM) (hG : GH σC) {x : Int} (hx : inI x) : ∃ v τC τM, f_X10_corners σC x = some (v, τC) ∧ f_X11_corners σM x = some (v, τM) ∧ GS σC τC ∧ MS σM τM := by
  rcases ix24 x with q | ⟨w, hw, rfl⟩
  · refine ⟨-1, σC, σM, ?_, ?_, hG.refl, MS.refl _⟩
    · rw [f_X10_corners, f_X10_corners_b0, has_out hx q, jbind_s, jc_I (by omega) (by omega), if_pos rfl]
    · rw [f_X11_corners, f_X11_corners_b0, wellM_out hx q, jbind_s, jc_I (by omega) (by omega), if_pos rfl]
  · obtain ⟨hK, -⟩ := h.rng hw
    by_cases c : σC 5 w = -1
    · refine ⟨-1, σC, σM, ?_, ?_, hG.refl, MS.refl _⟩
      · rw [f_X10_corners, f_X10_corners_b0, has_in hw hK, if_pos c, jbind_s, jc_I (by omega) (by omega), if_pos rfl]
      · rw [f_X11_corners, f_X11_corners_b0, wellM h.2.2.2.2.2.1 hw, if_pos c, jbind_s, jc_I (by omega) (by omega), if_pos rfl]
    · obtain ⟨τ, t1, t2, t3, t4, t5⟩ := onceG h hG hw
      obtain ⟨o, s, m, f, g1, g2, g3, g4, g5, g6, g7, g8⟩ := t5.cell
      obtain ⟨n1, n2⟩ := g1.ln
      have pe : pC τ w = pC σC w := by rw [pC_cC t4]
      have cC : f_X10_corners σC (w : Int) = some ((m : Int), τ) := by
        rw [f_X10_corners, f_X10_corners_b0, has_in hw hK, if_neg c, jbind_s, jc_I (by omega) (by omega), if_neg (by omega), t1, jbind_s, f_X1_size, f_X1_size_b0, g2, cast_n, jlet_v, jchk_t n2, g3, jbind_s]
      cases pw : pC σC w with
      | false =>
        refine ⟨_, τ, σM, cC, ?_, t2, MS.refl _⟩
        rw [g5 (by rw [pe, pw]), f_X11_corners, f_X11_corners_b0, wellM h.2.2.2.2.2.1 hw, if_neg c, jbind_s, jc_I (by omega) (by omega), if_neg (by omega), h.cnM hw, pw, bI_f, jbind_s, jc_I (by omega) (by omega), if_pos rfl]
        rfl
      | true =>
        obtain ⟨k1, k2, k3, ⟨E, k4⟩, k5, k6⟩ := g8 (by rw [pe, pw])
        obtain ⟨υ, u1, u2, u3, -⟩ := groundOf_spec t3 hw (by rw [pe, pw]) k3 k4 k6 g4 k2 k5
        refine ⟨_, τ, υ, cC, ?_, t2, u2⟩
        rw [f_X11_corners, f_X11_corners_b0, wellM h.2.2.2.2.2.1 hw, if_neg c, jbind_s, jc_I (by omega) (by omega), if_neg (by omega), h.cnM hw, pw, bI_t, jbind_s, jc_I (by omega) (by omega), if_neg (by omega), u1, jbind_s, u3]
theorem corner_eq {σC σM : St} (h : Rw σC σM) (hG : GH σC) {x y z : Int} (hx : inI x) (hy : inI y) (hz : inI z) : ∃ v τC τM, f_X10_corner σC x y z = some (v, τC) ∧ f_X11_corner σM x y z = some (v, τM) ∧ GS σC τC ∧ MS σM τM := by
  obtain ⟨y1, y2⟩ := id hy
  obtain ⟨z1, z2⟩ := id hz
  rcases ix24 x with q | ⟨w, hw, rfl⟩
  · refine ⟨-1, σC, σM, ?_, ?_, hG.refl, MS.refl _⟩
    · rw [f_X10_corner, f_X10_corner_b0, has_out hx q, jbind_s, jc_I (by omega) (by omega), if_pos rfl]
    · rw [f_X11_corner, f_X11_corner_b0, cnM_out hx q, jbind_s, jc_I (by omega) (by omega), if_pos rfl]
  · obtain ⟨hK, -⟩ := h.rng hw
    by_cases c : σC 5 w = -1
    · have pw : pC σC w = false := by
        cases e : pC σC w with
        | false => rfl
        | true => exact absurd c (pC_here e)
      refine ⟨-1, σC, σM, ?_, ?_, hG.refl, MS.refl _⟩
      · rw [f_X10_corner, f_X10_corner_b0, has_in hw hK, if_pos c, jbind_s, jc_I (by omega) (by omega), if_pos rfl]
      · rw [f_X11_corner, f_X11_corner_b0, h.cnM hw, pw, bI_f, jbind_s, jc_I (by omega) (by omega), if_pos rfl]
    · obtain ⟨τ, t1, t2, t3, t4, t5⟩ := onceG h hG hw
      obtain ⟨o, s, m, f, g1, g2, g3, g4, g5, g6, g7, g8⟩ := t5.cell
      obtain ⟨n1, n2⟩ := g1.ln
      have pe : pC τ w = pC σC w := by rw [pC_cC t4]
      have st : ∀ r v, f_X1_cornerAt τ 20 y = some r → f_X1_tell τ 20 r z = some v → f_X10_corner σC (w : Int) y z = some (v, τ) := fun r v a b => by
        rw [f_X10_corner, f_X10_corner_b0, has_in hw hK, if_neg c, jbind_s, jc_I (by omega) (by omega), if_neg (by omega), t1, jbind_s, a, jbind_s, b, jbind_s]
      have no : (y < 0 ∨ (m : Int) ≤ y) → f_X10_corner σC (w : Int) y z = some (-1, τ) := fun hn => by
        refine st (-1) (-1) ?_ tellg_out
        by_cases m0 : m = 0
        · rw [f_X1_cornerAt, f_X1_cornerAt_b0, jc_I (by omega) (by omega)]
          by_cases d : y < 0
          · rw [if_pos d]
          · rw [if_neg d, g2, cast_n, jlet_v, jchk_t n2, g3, jc_II (by omega) (by omega) (by omega) (by omega), if_neg (by omega)]
        · rcases cornerAt_spec g1 g2 g3 g4 (g6 (by omega)).1 (fun _ => (g6 (by omega)).2) hy with ⟨i, i1, i2, -⟩ | ⟨-, e⟩
          · omega
          · exact e
      cases pw : pC σC w with
      | false =>
        have m0 := g5 (by rw [pe, pw])
        refine ⟨-1, τ, σM, no (by omega), ?_, t2, MS.refl _⟩
        rw [f_X11_corner, f_X11_corner_b0, h.cnM hw, pw, bI_f, jbind_s, jc_I (by omega) (by omega), if_pos rfl]
      | true =>
        obtain ⟨k1, k2, k3, ⟨E, k4⟩, k5, k6⟩ := g8 (by rw [pe, pw])
        obtain ⟨υ, u1, u2, u3, u4⟩ := groundOf_spec t3 hw (by rw [pe, pw]) k3 k4 k6 g4 k2 k5
        have ca := cornerAt_spec g1 g2 g3 g4 k1 k2 hy
        have bM : f_X11_corner σM (w : Int) y z = if z < 0 then some (-1, σM) else jchk (inI z ∧ inI 3) (if 3 < z then some (-1, σM) else jbind (f_X11_groundOf σM (w : Int)) (fun σ_2 => jchk (inI y) (if y < 0 then some ((-1), σ_2) else jchk (inI y ∧ inI (σ_2 0 25)) (if y < σ_2 0 25 then jchk (0 ≤ y ∧ y < 400) (jbind (f_X11_told σ_2 (σ_2 20 y.toNat) z) (fun r_3 => some (r_3, σ_2))) else some ((-1), σ_2))))) := by
          rw [f_X11_corner, f_X11_corner_b0, h.cnM hw, pw, bI_t, jbind_s, jc_I (by omega) (by omega), if_neg (by omega), jc_I (by omega) (by omega)]
        by_cases zr : z < 0 ∨ 3 < z
        · refine ⟨-1, τ, σM, ?_, ?_, t2, MS.refl _⟩
          · rcases ca with ⟨i, i1, i2, i3⟩ | ⟨i1, -⟩
            · have rl : rot m f i < m := by have := k2 (by omega); unfold rot; split <;> omega
              exact st _ _ i3 (by rw [tell_in g1 g2 g3 g4 rl (g7 _ rl) hz, tp_out zr])
            · exact no i1
          · rw [bM]
            by_cases d : z < 0
            · rw [if_pos d]
            · rw [if_neg d, jc_II (by omega) (by omega) (by omega) (by omega), if_pos (by omega)]
        · rcases ca with ⟨i, i1, rfl, i3⟩ | ⟨i1, -⟩
          · have rl : rot m f i < m := by have := k2 (by omega); unfold rot; split <;> omega
            obtain ⟨k, x1, x2, x3, x4⟩ := u4 i i1
            refine ⟨_, τ, υ, st _ _ i3 (tell_in g1 g2 g3 g4 rl (g7 _ rl) hz), ?_, t2, u2⟩
            have d1 := (g7 _ rl).1
            rw [bM, if_neg (by omega), jc_II (by omega) (by omega) (by omega) (by omega), if_neg (by omega), u1, jbind_s, jc_I (by omega) (by omega), if_neg (by omega), u3, jc_II (by omega) (by omega) (by omega) (by omega), if_pos (by omega), jc_ix (by omega) (by omega), cast_n, x2, told_spec x1 x3 (by omega) (by omega), jbind_s]
            rw [tp_eq x3.1 (show 0 < 2 * (ptO τ o (rot m f i)).2.2 by omega) x4.1 x4.2]
            rfl
          · refine ⟨-1, τ, υ, no i1, ?_, t2, u2⟩
            rw [bM, if_neg (by omega), jc_II (by omega) (by omega) (by omega) (by omega), if_neg (by omega), u1, jbind_s, jc_I (by omega) (by omega)]
            by_cases d : y < 0
            · rw [if_pos d]
            · rw [if_neg d, u3, jc_II (by omega) (by omega) (by omega) (by omega), if_neg (by omega)]
