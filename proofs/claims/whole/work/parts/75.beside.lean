/-! ===== the pure side 55: beside, border, end, about ===== -/
theorem MS.trans {a b c : St} (h1 : MS a b) (h2 : MS b c) : MS a c := ⟨fun k x y => by rw [h2.1 k x y, h1.1 k x y], fun j p q r s t => by rw [h2.2 j p q r s t, h1.2 j p q r s t]⟩
theorem MS.R {σC σM τM : St} (h : Rw σC σM) (hS : MS σM τM) : Rw σC τM := h.cM (fun k a b => hS.1 k (by omega) (by omega)) (hS.2 0 (by decide) (by decide) (by decide) (by decide) (by decide)) (hS.2 1 (by decide) (by decide) (by decide) (by decide) (by decide)) (hS.2 2 (by decide) (by decide) (by decide) (by decide) (by decide))
/-- what both sides tell of a border: c ends -/
def BD (τ υ : St) (v c : Nat) : Prop := ∀ k : Nat, k < c → ∃ i o s m p : Nat, f_X1_endAt τ 20 (v : Int) (k : Int) = some (i : Int) ∧ GD 20 o s ∧ τ 20 4 = (o : Int) ∧ τ o 0 = (m : Int) ∧ m ≤ 27 ∧ i < m ∧ okP (ptO τ o i) ∧ (if k = 0 then υ 0 27 else υ 0 28) = (p : Int) ∧ p < 400 ∧ okX (ptM υ p) ∧ sm (ptM υ p) (hf (ptO τ o i))
theorem border_core {τ σM : St} (h : Rw τ σM) {w v : Nat} (hw : w < 24) (hv : v < 24) (hne : v ≠ w) (hX : GX τ τ 20 w true) : ∃ c : Nat, c ≤ 2 ∧ f_X1_sharedWith τ 20 (v : Int) = some (c : Int) ∧ ∃ υ, f_X11_borderOf σM (w : Int) (v : Int) = some ((c : Int), υ) ∧ MS σM υ ∧ BD τ υ v c := by
  cases pv : pC τ v with
  | false =>
    refine ⟨0, by omega, shared_none (by rw [h.cnC hv, pv, bI_f]), σM, ?_, MS.refl _, fun k hk => absurd hk (Nat.not_lt_zero k)⟩
    rw [f_X11_borderOf, f_X11_borderOf_b0, h.cnM hw, jbind_s]
    cases pC τ w with
    | false => rw [bI_f, jc_I (by omega) (by omega), if_pos rfl]; rfl
    | true => rw [bI_t, jc_I (by omega) (by omega), if_neg (by omega), h.cnM hv, pv, bI_f, jbind_s, jc_I (by omega) (by omega), if_pos rfl]; rfl
  | true =>
    have cv : f_X9_isCounted τ (v : Int) = some 1 := by rw [h.cnC hv, pv, bI_t]
    obtain ⟨o, s, m, f, g1, g2, g3, g4, g5, g6, g7, g8⟩ := hX.cell
    cases pw : pC τ w with
    | false =>
      have m0 := g5 pw
      have sh := shared_spec g1 g2 g3 g4 hv cv (fun i hi => by omega)
      rw [m0] at sh
      refine ⟨0, by omega, sh, σM, ?_, MS.refl _, fun k hk => absurd hk (Nat.not_lt_zero k)⟩
      rw [f_X11_borderOf, f_X11_borderOf_b0, h.cnM hw, jbind_s, pw, bI_f, jc_I (by omega) (by omega), if_pos rfl]
      rfl
    | true =>
      obtain ⟨k1, k2, k3, ⟨E, k4⟩, k5, k6⟩ := g8 pw
      have l4 : LSn τ w 24 (4 + v) := Or.inr ⟨v, hv, hv, hne, pv, rfl⟩
      have lo := cl_ok h hw pw l4
      rw [← k3.lnc l4] at lo
      obtain ⟨z, ez⟩ : ∃ z, z = zl (lnG τ 20 (4 + v)) (ptO τ o) := ⟨_, rfl⟩
      have sh := shared_spec g1 g2 g3 g4 hv cv (fun i hi => fl_rng lo.1 (g7 i hi))
      have en := fun k hk => endAt_spec (k := k) g1 g2 g3 g4 hv cv lo.1 g7 hk
      rw [← ez] at sh
      rw [← ez] at en
      have hn : ∀ l, LSn τ w 24 l → nzL (lnG τ 20 l) := fun l hl => by rw [k3.lnc hl]; exact (cl_ok h hw pw hl).2
      have gv := GV.of k4 k6 hn
      have c2 : ct z m ≤ 2 := ct_le2 (fun a b c ab bc hc za zb zc => gv.2.2.2.2.2.2.2.2 (4 + v) l4 a b c (by omega) (by omega) hc (by omega) (by omega) (by omega) (zl_t.mp (by rw [← ez]; exact za)) (zl_t.mp (by rw [← ez]; exact zb)) (zl_t.mp (by rw [← ez]; exact zc)))
      obtain ⟨σ1, nl, b1, b2, b3, b4, b5⟩ := base_spec h hw pw k3 k4 k6 g4 (F := some v) (x2 := (v : Int)) (Or.inr ⟨v, hv, hne, pv, rfl, rfl⟩)
      obtain ⟨nl0, ρ, r1, r2, r3, r4⟩ := b5 v rfl
      obtain ⟨β, eβ⟩ : ∃ β, β = up2 σ1 0 20 0 := ⟨_, rfl⟩
      rw [← eβ] at b4
      have bk : ∀ k, k ≠ 0 → β k = σ1 k := fun k hk => by rw [eβ, up2_k hk]
      have bj : ∀ j, j ≠ 20 → β 0 j = σ1 0 j := fun j hj => by rw [eβ, up2_j hj]
      have el : lnM β 0 = lnM σ1 0 := by unfold lnM; rw [bk 13 (by decide), bk 14 (by decide), bk 15 (by decide)]
      have Z : ∀ p : Pt, fl (lnM β 0) (hf p) = 0 ↔ fl (lnG τ 20 (4 + v)) p = 0 := fun p => by
        have e : fl (lnM β 0) (hf p) = ρ * fl (lnG τ 20 (4 + v)) p := by rw [el]; exact flh_id _ _ _ _ _ _ _ _ _ _ r2 r3 r4
        rw [e]
        rcases r1 with y | y <;> rw [y] <;> omega
      obtain ⟨μ, p1, n, p2⟩ := bm_loop b4 (by rw [eβ, up2_same]) nl0 1000 (by omega)
      have nle := p2.le b4.1.1
      obtain ⟨q1, q2, q3, q4, q5, q6⟩ := p2
      obtain ⟨ω, w1, w2, w3, w4⟩ := fe_loop (γ := μ) q3 (by omega) (fun k hk => (q4 k hk).1) 1000 (by omega)
      have ep : ∀ k, ptM ω k = ptM μ k := fun k => by unfold ptM; rw [w2 16 (by decide), w2 17 (by decide), w2 18 (by decide)]
      have ms : MS σM ω := ⟨fun k a b => by rw [w2 k a, q1 k a (by omega), bk k a, b2 k a (by omega)], fun j a b c d e => by rw [w3 j d e, q2 j b, bj j b, b3 j a]⟩
      -- a point of the model and its corner
      have cor : ∀ k, k < n → ∃ t, t < m ∧ z t = true ∧ sm (ptM μ k) (hf (ptO τ o t)) := fun k hk => by
        obtain ⟨-, t, t1, t2, t3⟩ := q4 k hk
        exact ⟨t, t1, by rw [ez]; exact zl_t.mpr ((Z _).mp t2), t3⟩
      have rev : ∀ t, t < m → z t = true → ∃ k, k < n ∧ sm (ptM μ k) (hf (ptO τ o t)) := fun t ht zt => q6 t ht ((Z _).mpr (zl_t.mp (by rw [← ez]; exact zt)))
      have hd : ∀ t, t < m → 0 < (hf (ptO τ o t)).2.2 := fun t ht => b4.1.1 t ht
      have uq : ∀ a b, a < m → b < m → sm (hf (ptO τ o a)) (hf (ptO τ o b)) → a = b := fun a b ha hb => b4.1.2.2.2.2.2.1 a b ha hb
      have go : ∀ x : Option (Int × St), (jchk (inI (ω 0 27) ∧ inI (-1)) (if ω 0 27 = (-1) then some (0, ω) else jchk (inI (ω 0 27) ∧ inI (ω 0 28)) (if ω 0 27 = ω 0 28 then some (1, ω) else some (2, ω)))) = x → f_X11_borderOf σM (w : Int) (v : Int) = x := by
        intro x hx
        rw [f_X11_borderOf, f_X11_borderOf_b0, h.cnM hw, jbind_s, pw, bI_t, jc_I (by omega) (by omega), if_neg (by omega), h.cnM hv, pv, bI_t, jbind_s, jc_I (by omega) (by omega), if_neg (by omega), b1, jbind_s, jlet_v, jlet_v, ← eβ, p1, jbind_s, jlet_v, jlet_v, jlet_v, w1, jbind_s]
        exact hx
      rcases w4 with ⟨n0, d1, d2⟩ | ⟨f', e', d1, d2, d3, d4, d5⟩
      · have c0 : ct z m = 0 := ct_nil (fun t ht => by
          cases zt : z t with
          | false => rfl
          | true => obtain ⟨k, x, -⟩ := rev t ht zt; omega)
        rw [c0] at sh
        refine ⟨0, by omega, sh, ω, go _ ?_, ms, fun k hk => absurd hk (Nat.not_lt_zero k)⟩
        rw [d1, jc_II (by omega) (by omega) (by omega) (by omega), if_pos rfl]
        rfl
      · obtain ⟨i, i1, i2, i3⟩ := cor f' d1
        obtain ⟨j, j1, j2, j3⟩ := cor e' d2
        have of_ := (q4 f' d1).1
        have oe := (q4 e' d2).1
        have imin : ∀ t, t < m → z t = true → ¬ bef (ptO τ o t) (ptO τ o i) := fun t ht zt y => by
          obtain ⟨k, x1, x2⟩ := rev t ht zt
          exact (d5 k x1).1 ((bef_sm (q4 k x1).1.1 of_.1 (hd t ht) (hd i i1) x2 i3).mpr (bef_hf.mpr y))
        have leastq : ∀ t, t < m → z t = true → (∀ k, k < m → z k = true → ¬ bef (ptO τ o k) (ptO τ o t)) → t = i := fun t ht zt hmin => uq t i ht i1 (bef_tot (fun y => imin t ht zt (bef_hf.mp y)) (fun y => hmin i i1 i2 (bef_hf.mp y)))
        by_cases fe : f' = e'
        · -- one end
          have all : ∀ t, t < m → z t = true → t = i := fun t ht zt => by
            obtain ⟨k, x1, x2⟩ := rev t ht zt
            have y := d5 k x1
            rw [← fe] at y
            have s1 := bef_tot y.1 y.2
            exact uq t i ht i1 ((x2.symm.trans (q4 k x1).1.1 s1).trans of_.1 i3)
          have c1 := ct_one i1 i2 all
          rw [c1] at sh
          refine ⟨1, by omega, sh, ω, go _ ?_, ms, fun k hk => ?_⟩
          · rw [d3, d4, jc_II (by omega) (by omega) (by omega) (by omega), if_neg (by omega), jc_II (by omega) (by omega) (by omega) (by omega), if_pos (by omega)]
            rfl
          · have k0 : k = 0 := by omega
            obtain ⟨x3, x4, a1, a2⟩ := en k (by omega)
            rw [k0, if_pos rfl] at a2
            rcases a1 with ⟨a1, -⟩ | ⟨t, t1, t2, t3, -⟩
            · omega
            · have ti := all t t1 t3
              rw [k0]
              exact ⟨i, o, s, m, f', by rw [a2, t2, ti], g1, g2, g3, g4, i1, g7 i i1, by rw [if_pos rfl]; exact d3, by omega, by rw [ep]; exact of_, by rw [ep]; exact i3⟩
        · have ij : i ≠ j := fun e => by
            rw [← e] at j3
            have sfe := i3.trans (hd i i1) j3.symm
            rcases (by omega : f' < e' ∨ e' < f') with y | y
            · exact q5 f' e' y d2 sfe
            · exact q5 e' f' y d1 sfe.symm
          have c1 := ct_two i1 j1 ij i2 j2
          have cc : ct z m = 2 := by omega
          rw [cc] at sh
          refine ⟨2, by omega, sh, ω, go _ ?_, ms, fun k hk => ?_⟩
          · rw [d3, d4, jc_II (by omega) (by omega) (by omega) (by omega), if_neg (by omega), jc_II (by omega) (by omega) (by omega) (by omega), if_neg (by omega)]
            rfl
          · obtain ⟨x3, x4, a1, a2⟩ := en k (by omega)
            rcases a1 with ⟨a1, -⟩ | ⟨t, t1, t2, t3, t4, t5⟩
            · omega
            · have ti := leastq t t1 t3 t4
              by_cases k0 : k = 0
              · rw [if_pos k0] at a2
                exact ⟨i, o, s, m, f', by rw [a2, t2, ti], g1, g2, g3, g4, i1, g7 i i1, by rw [if_pos k0]; exact d3, by omega, by rw [ep]; exact of_, by rw [ep]; exact i3⟩
              · rw [if_neg k0] at a2
                obtain ⟨u, u1, u2, u3, u4⟩ := t5 (by omega)
                have uj : u = j := by
                  by_cases e : u = j
                  · exact e
                  · exfalso
                    exact gv.2.2.2.2.2.2.2.2 (4 + v) l4 i j u i1 j1 u1 ij (by omega) (by omega) (zl_t.mp (by rw [← ez]; exact i2)) (zl_t.mp (by rw [← ez]; exact j2)) (zl_t.mp (by rw [← ez]; exact u3))
                exact ⟨j, o, s, m, e', by rw [a2, u2, uj], g1, g2, g3, g4, j1, g7 j j1, by rw [if_neg k0]; exact d4, by omega, by rw [ep]; exact oe, by rw [ep]; exact j3⟩
theorem areTwo_eq {σC σM : St} (h : Rw σC σM) {x y : Int} (hx : inI x) (hy : inI y) : (f_X10_areTwo σC x y = some 0 ∧ f_X11_areTwo σM x y = some 0) ∨ (f_X10_areTwo σC x y = some 1 ∧ f_X11_areTwo σM x y = some 1 ∧ ∃ w v : Nat, w < 24 ∧ v < 24 ∧ v ≠ w ∧ x = (w : Int) ∧ y = (v : Int)) := by
  obtain ⟨x1, x2⟩ := id hx
  obtain ⟨y1, y2⟩ := id hy
  have A : ∀ a b : Int, (a = 0 ∨ a = 1) → (b = 0 ∨ b = 1) → f_X9_has σC x = some a → f_X9_has σC y = some b → f_X10_areTwo σC x y = some (if x = y ∨ a = 0 ∨ b = 0 then 0 else 1) := by
    intro a b ha hb e1 e2
    rw [f_X10_areTwo, f_X10_areTwo_b0, jc_II (by omega) (by omega) (by omega) (by omega), e1, jbind_s, e2, jbind_s, jc_I (by omega) (by omega), jc_I (by omega) (by omega)]
    by_cases c : x = y
    · rw [if_pos c, if_pos (Or.inl c), jz_0]
    · rw [if_neg c]
      by_cases d : a = 0
      · rw [if_pos d, if_pos (Or.inr (Or.inl d)), jz_0]
      · rw [if_neg d]
        by_cases e : b = 0
        · rw [if_pos e, if_pos (Or.inr (Or.inr e)), jz_0]
        · rw [if_neg e, if_neg (by omega), jz_1]
  have B : ∀ a b : Int, (a = 0 ∨ a = 1) → (b = 0 ∨ b = 1) → f_X11_isWell σM x = some a → f_X11_isWell σM y = some b → f_X11_areTwo σM x y = some (if x = y ∨ a = 0 ∨ b = 0 then 0 else 1) := by
    intro a b ha hb e1 e2
    rw [f_X11_areTwo, f_X11_areTwo_b0, e1, jbind_s, e2, jbind_s, jc_I (by omega) (by omega), jc_I (by omega) (by omega), jc_II (by omega) (by omega) (by omega) (by omega)]
    by_cases d : a = 0
    · rw [if_pos d, if_pos (Or.inr (Or.inl d)), jz_0]
    · rw [if_neg d]
      by_cases e : b = 0
      · rw [if_pos e, if_pos (Or.inr (Or.inr e)), jz_0]
      · rw [if_neg e]
        by_cases c : x = y
        · rw [if_pos c, if_pos (Or.inl c), jz_0]
        · rw [if_neg c, if_neg (by omega), jz_1]
  have V : ∀ z : Int, inI z → ∃ a : Int, (a = 0 ∨ a = 1) ∧ f_X9_has σC z = some a ∧ f_X11_isWell σM z = some a ∧ (a = 1 → ∃ w : Nat, w < 24 ∧ z = (w : Int)) := by
    intro z hz
    rcases ix24 z with q | ⟨w, hw, rfl⟩
    · exact ⟨0, Or.inl rfl, has_out hz q, wellM_out hz q, fun e => by cases e⟩
    · refine ⟨if σC 5 w = -1 then 0 else 1, ?_, has_in hw (h.rng hw).1, wellM h.2.2.2.2.2.1 hw, fun _ => ⟨w, hw, rfl⟩⟩
      split
      · exact Or.inl rfl
      · exact Or.inr rfl
  obtain ⟨a, a1, a2, a3, a4⟩ := V x hx
  obtain ⟨b, b1, b2, b3, b4⟩ := V y hy
  rw [A a b a1 b1 a2 b2, B a b a1 b1 a3 b3]
  by_cases c : x = y ∨ a = 0 ∨ b = 0
  · left
    rw [if_pos c]
    exact ⟨rfl, rfl⟩
  · right
    obtain ⟨w, w1, w2⟩ := a4 (a1.resolve_left (fun e => c (Or.inr (Or.inl e))))
    obtain ⟨v, v1, v2⟩ := b4 (b1.resolve_left (fun e => c (Or.inr (Or.inr e))))
    rw [if_neg c]
    exact ⟨rfl, rfl, w, v, w1, v1, fun e => c (Or.inl (by rw [w2, v2, e])), w2, v2⟩
theorem beside_eq {σC σM : St} (h : Rw σC σM) (hG : GH σC) {x y : Int} (hx : inI x) (hy : inI y) : ∃ v τC τM, f_X10_beside σC x y = some (v, τC) ∧ f_X11_beside σM x y = some (v, τM) ∧ GS σC τC ∧ MS σM τM := by
  rw [f_X10_beside, f_X10_beside_b0, f_X11_beside, f_X11_beside_b0]
  rcases areTwo_eq h hx hy with ⟨a, b⟩ | ⟨a, b, w, v, hw, hv, ne, rfl, rfl⟩
  · rw [a, b, jbind_s, jbind_s, jc_I (by omega) (by omega), if_pos rfl, jc_I (by omega) (by omega), if_pos rfl]
    exact ⟨_, _, _, rfl, rfl, hG.refl, MS.refl _⟩
  · obtain ⟨τ, t1, t2, t3, t4, t5⟩ := onceG h hG hw
    obtain ⟨c, c1, c2, υ, c3, c4, -⟩ := border_core t3 hw hv ne t5
    rw [a, b, jbind_s, jbind_s, jc_I (by omega) (by omega), if_neg (by omega), jc_I (by omega) (by omega), if_neg (by omega), t1, jbind_s, c2, jbind_s, c3, jbind_s, jc_II (by omega) (by omega) (by omega) (by omega)]
    dsimp only
    rw [jc_II (by omega) (by omega) (by omega) (by omega)]
    by_cases e : c = 2
    · rw [if_pos (by omega), if_pos (by omega)]
      exact ⟨_, _, _, rfl, rfl, t2, c4⟩
    · rw [if_neg (by omega), if_neg (by omega)]
      exact ⟨_, _, _, rfl, rfl, t2, c4⟩
theorem border_eq {σC σM : St} (h : Rw σC σM) (hG : GH σC) {x y : Int} (hx : inI x) (hy : inI y) : ∃ v τC τM, f_X10_border σC x y = some (v, τC) ∧ f_X11_border σM x y = some (v, τM) ∧ GS σC τC ∧ MS σM τM := by
  rw [f_X10_border, f_X10_border_b0, f_X11_border, f_X11_border_b0]
  rcases areTwo_eq h hx hy with ⟨a, b⟩ | ⟨a, b, w, v, hw, hv, ne, rfl, rfl⟩
  · rw [a, b, jbind_s, jbind_s, jc_I (by omega) (by omega), if_pos rfl, jc_I (by omega) (by omega), if_pos rfl]
    exact ⟨_, _, _, rfl, rfl, hG.refl, MS.refl _⟩
  · obtain ⟨τ, t1, t2, t3, t4, t5⟩ := onceG h hG hw
    obtain ⟨c, c1, c2, υ, c3, c4, -⟩ := border_core t3 hw hv ne t5
    rw [a, b, jbind_s, jbind_s, jc_I (by omega) (by omega), if_neg (by omega), jc_I (by omega) (by omega), if_neg (by omega), t1, jbind_s, c2, jbind_s, c3, jbind_s]
    exact ⟨_, _, _, rfl, rfl, t2, c4⟩
theorem endAt_out {τ : St} {v c : Nat} {y : Int} (hy : inI y) (hc : c ≤ 2) (hs : f_X1_sharedWith τ 20 (v : Int) = some (c : Int)) (h : y < 0 ∨ (c : Int) ≤ y) : f_X1_endAt τ 20 (v : Int) y = some (-1) := by
  obtain ⟨y1, y2⟩ := hy
  rw [f_X1_endAt, f_X1_endAt_b0, jc_I (by omega) (by omega)]
  by_cases d : y < 0
  · rw [if_pos d]
  · rw [if_neg d, hs, jbind_s, jc_II (by omega) (by omega) (by omega) (by omega), if_neg (by omega)]
theorem end_eq {σC σM : St} (h : Rw σC σM) (hG : GH σC) {x y k z : Int} (hx : inI x) (hy : inI y) (hk : inI k) (hz : inI z) : ∃ v τC τM, f_X10_end σC x y k z = some (v, τC) ∧ f_X11_end σM x y k z = some (v, τM) ∧ GS σC τC ∧ MS σM τM := by
  obtain ⟨k1, k2⟩ := id hk
  obtain ⟨z1, z2⟩ := id hz
  rw [f_X10_end, f_X10_end_b0, f_X11_end, f_X11_end_b0]
  rcases areTwo_eq h hx hy with ⟨a, b⟩ | ⟨a, b, w, v, hw, hv, ne, rfl, rfl⟩
  · rw [a, b, jbind_s, jbind_s, jc_I (by omega) (by omega), if_pos rfl, jc_I (by omega) (by omega), if_pos rfl]
    exact ⟨_, _, _, rfl, rfl, hG.refl, MS.refl _⟩
  · obtain ⟨τ, t1, t2, t3, t4, t5⟩ := onceG h hG hw
    obtain ⟨c, c1, c2, υ, c3, c4, c5⟩ := border_core t3 hw hv ne t5
    rw [a, b, jbind_s, jbind_s, jc_I (by omega) (by omega), if_neg (by omega), jc_I (by omega) (by omega), if_neg (by omega), t1, jbind_s, jc_I (by omega) (by omega), jc_I (by omega) (by omega), jc_II (by omega) (by omega) (by omega) (by omega), c3, jbind_s]
    dsimp only
    by_cases kr : k < 0 ∨ (c : Int) ≤ k
    · rw [endAt_out hk c1 c2 kr, jbind_s, tellg_out, jbind_s]
      by_cases d1 : k < 0
      · rw [if_pos d1]; exact ⟨_, _, _, rfl, rfl, t2, MS.refl _⟩
      · rw [if_neg d1]
        by_cases d2 : z < 0
        · rw [if_pos d2]; exact ⟨_, _, _, rfl, rfl, t2, MS.refl _⟩
        · rw [if_neg d2]
          by_cases d3 : 3 < z
          · rw [if_pos d3]; exact ⟨_, _, _, rfl, rfl, t2, MS.refl _⟩
          · rw [if_neg d3, jc_II (by omega) (by omega) (by omega) (by omega), if_neg (by omega)]; exact ⟨_, _, _, rfl, rfl, t2, c4⟩
    · obtain ⟨k', rfl⟩ : ∃ k' : Nat, k = (k' : Int) := ⟨k.toNat, by omega⟩
      obtain ⟨i, o, s, m, p, e1, e2, e3, e4, e5, e6, e7, e8, e9, e10, e11⟩ := c5 k' (by omega)
      rw [e1, jbind_s, tell_in e2 e3 e4 e5 e6 e7 hz, jbind_s, if_neg (by omega)]
      by_cases zr : z < 0 ∨ 3 < z
      · rw [tp_out zr]
        by_cases d2 : z < 0
        · rw [if_pos d2]; exact ⟨_, _, _, rfl, rfl, t2, MS.refl _⟩
        · rw [if_neg d2, if_pos (by omega)]; exact ⟨_, _, _, rfl, rfl, t2, MS.refl _⟩
      · have d1 := e7.1
        have te : f_X11_told υ (p : Int) z = some (tp (ptO τ o i).1 (ptO τ o i).2.1 (2 * (ptO τ o i).2.2) z) := by
          rw [told_spec e9 e10 (by omega) (by omega), tp_eq e10.1 (show 0 < 2 * (ptO τ o i).2.2 by omega) e11.1 e11.2]
          rfl
        rw [if_neg (by omega), if_neg (by omega), jc_II (by omega) (by omega) (by omega) (by omega), if_pos (by omega), jc_I (by omega) (by omega)]
        by_cases k0 : k' = 0
        · rw [if_pos k0] at e8
          rw [if_pos (by omega), f_X11_end_b54, e8, te, jbind_s]
          exact ⟨_, _, _, rfl, rfl, t2, c4⟩
        · rw [if_neg k0] at e8
          rw [if_neg (by omega), f_X11_end_b54, e8, te, jbind_s]
          exact ⟨_, _, _, rfl, rfl, t2, c4⟩
theorem about_step {τ σM : St} (t3 : Rw τ σM) {w : Nat} (hw : w < 24) (t5 : GX τ τ 20 w true) (v : Nat) (hv : v < 24) (μ : St) (b : Int) (hμ : MS σM μ) : ∃ (υ : St) (b' : Int), f_X10_about_b25 τ (w : Int) b (v : Int) = some (.inl (b', ((v + 1 : Nat) : Int))) ∧ f_X11_about_b14 μ (w : Int) b (v : Int) = some (.inl (υ, b', ((v + 1 : Nat) : Int))) ∧ MS σM υ := by
  by_cases e : (v : Int) = (w : Int)
  · refine ⟨μ, b, ?_, ?_, hμ⟩
    · rw [f_X10_about_b25, jc_II (by omega) (by omega) (by omega) (by omega), if_pos (by omega), jc_II (by omega) (by omega) (by omega) (by omega), if_pos e, jlet_v, cast_s]
    · rw [f_X11_about_b14, jc_II (by omega) (by omega) (by omega) (by omega), if_pos (by omega), jc_II (by omega) (by omega) (by omega) (by omega), if_pos e, jlet_v, cast_s]
  · obtain ⟨c, c1, c2, υ, c3, c4, -⟩ := border_core (MS.R t3 hμ) hw hv (by omega) t5
    by_cases e2 : c = 2
    · refine ⟨υ, jor b (jshl 1 (v : Int)), ?_, ?_, hμ.trans c4⟩
      · rw [f_X10_about_b25, jc_II (by omega) (by omega) (by omega) (by omega), if_pos (by omega), jc_II (by omega) (by omega) (by omega) (by omega), if_neg e, c2, jbind_s, jc_II (by omega) (by omega) (by omega) (by omega), if_pos (by omega), jlet_v, jlet_v, cast_s]
      · rw [f_X11_about_b14, jc_II (by omega) (by omega) (by omega) (by omega), if_pos (by omega), jc_II (by omega) (by omega) (by omega) (by omega), if_neg e, c3, jbind_s]
        dsimp only
        rw [jc_II (by omega) (by omega) (by omega) (by omega), if_pos (by omega), jlet_v, jlet_v, cast_s]
    · refine ⟨υ, b, ?_, ?_, hμ.trans c4⟩
      · rw [f_X10_about_b25, jc_II (by omega) (by omega) (by omega) (by omega), if_pos (by omega), jc_II (by omega) (by omega) (by omega) (by omega), if_neg e, c2, jbind_s, jc_II (by omega) (by omega) (by omega) (by omega), if_neg (by omega), jlet_v, cast_s]
      · rw [f_X11_about_b14, jc_II (by omega) (by omega) (by omega) (by omega), if_pos (by omega), jc_II (by omega) (by omega) (by omega) (by omega), if_neg e, c3, jbind_s]
        dsimp only
        rw [jc_II (by omega) (by omega) (by omega) (by omega), if_neg (by omega), jlet_v, cast_s]
theorem jloop_inl {S E : Type} {body : S → Option (S ⊕ E)} {n : Nat} {s s' : S} {e : E} (h : body s = some (.inl s')) (h2 : jloop body n s' = some e) : jloop body (n + 1) s = some e := by
  unfold jloop
  rw [h]
  exact h2
theorem jloop_inr {S E : Type} {body : S → Option (S ⊕ E)} {n : Nat} {s : S} {e : E} (h : body s = some (.inr e)) : jloop body (n + 1) s = some e := by
  unfold jloop
  rw [h]
theorem about_run {τ σM : St} (t3 : Rw τ σM) {w : Nat} (hw : w < 24) (t5 : GX τ τ 20 w true) : ∀ (d v : Nat) (μ : St) (b x : Int) (fu fu' : Nat), x = (v : Int) → v + d = 24 → d < fu → d < fu' → MS σM μ → ∃ (υ : St) (r : Int), jloop (fun (q : (Int × Int)) => match q with | (x2, x3) => f_X10_about_b25 τ (w : Int) x2 x3) fu (b, x) = some r ∧ jloop (fun (q : (St × Int × Int)) => match q with | (σ, x2, x3) => f_X11_about_b14 σ (w : Int) x2 x3) fu' (μ, b, x) = some (υ, r) ∧ MS σM υ := by
  intro d
  induction d with
  | zero =>
    rintro v μ b _ fu fu' rfl hv h1 h2 hμ
    have v24 : v = 24 := by omega
    obtain ⟨f1, rfl⟩ : ∃ f1, fu = f1 + 1 := ⟨fu - 1, by omega⟩
    obtain ⟨f2, rfl⟩ : ∃ f2, fu' = f2 + 1 := ⟨fu' - 1, by omega⟩
    refine ⟨μ, b, jloop_inr ?_, jloop_inr ?_, hμ⟩
    · show f_X10_about_b25 τ (w : Int) b (v : Int) = _
      rw [f_X10_about_b25, jc_II (by omega) (by omega) (by omega) (by omega), if_neg (by omega)]
    · show f_X11_about_b14 μ (w : Int) b (v : Int) = _
      rw [f_X11_about_b14, jc_II (by omega) (by omega) (by omega) (by omega), if_neg (by omega)]
  | succ d ih =>
    rintro v μ b _ fu fu' rfl hv h1 h2 hμ
    obtain ⟨f1, rfl⟩ : ∃ f1, fu = f1 + 1 := ⟨fu - 1, by omega⟩
    obtain ⟨f2, rfl⟩ : ∃ f2, fu' = f2 + 1 := ⟨fu' - 1, by omega⟩
    obtain ⟨υ, b', s1, s2, s3⟩ := about_step t3 hw t5 v (by omega) μ b hμ
    obtain ⟨ω, r, r1, r2, r3⟩ := ih (v + 1) υ b' _ f1 f2 rfl (by omega) (by omega) (by omega) s3
    exact ⟨ω, r, jloop_inl s1 r1, jloop_inl s2 r2, r3⟩
theorem about_eq {σC σM : St} (h : Rw σC σM) (hG : GH σC) {x : Int} (hx : inI x) : ∃ v τC τM, f_X10_about σC x = some (v, τC) ∧ f_X11_about σM x = some (v, τM) ∧ GS σC τC ∧ MS σM τM := by
  rcases ix24 x with q | ⟨w, hw, rfl⟩
  · refine ⟨-1, σC, σM, ?_, ?_, hG.refl, MS.refl _⟩
    · rw [f_X10_about, f_X10_about_b0, has_out hx q, jbind_s, jc_I (by omega) (by omega), if_pos rfl]
    · rw [f_X11_about, f_X11_about_b0, wellM_out hx q, jbind_s, jc_I (by omega) (by omega), if_pos rfl]
  · by_cases c : σC 5 w = -1
    · refine ⟨-1, σC, σM, ?_, ?_, hG.refl, MS.refl _⟩
      · rw [f_X10_about, f_X10_about_b0, has_in hw (h.rng hw).1, if_pos c, jbind_s, jc_I (by omega) (by omega), if_pos rfl]
      · rw [f_X11_about, f_X11_about_b0, wellM h.2.2.2.2.2.1 hw, if_pos c, jbind_s, jc_I (by omega) (by omega), if_pos rfl]
    · obtain ⟨τ, t1, t2, t3, t4, t5⟩ := onceG h hG hw
      obtain ⟨υ, r, r1, r2, r3⟩ := about_run t3 hw t5 24 0 σM 0 0 1000 1000 rfl (by omega) (by omega) (by omega) (MS.refl _)
      refine ⟨r, τ, υ, ?_, ?_, t2, r3⟩
      · rw [f_X10_about, f_X10_about_b0, has_in hw (h.rng hw).1, if_neg c, jbind_s, jc_I (by omega) (by omega), if_neg (by omega), t1, jbind_s, jlet_v, jlet_v, r1, jbind_s]
      · rw [f_X11_about, f_X11_about_b0, wellM h.2.2.2.2.2.1 hw, if_neg c, jbind_s, jc_I (by omega) (by omega), if_neg (by omega), jlet_v, jlet_v, r2, jbind_s]
