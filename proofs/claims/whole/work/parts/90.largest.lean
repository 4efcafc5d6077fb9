/-! ===== the pure side 70: the largest dry round ===== -/
theorem cov_not {σC σM : St} (h : Rw σC σM) {p B : Pt} {w : Nat} {a b : Int} (hV : VX σC w p) (hB : BST σC (KS σC) B b) (hv : vl σC (hf p) a) : ¬ gtv (hf p) a B b := fun g => by
  obtain ⟨X, x1, x2⟩ := cover h hV
  obtain ⟨ok, -⟩ := KS.ok h x1
  have d2 : 0 < (hf p).2.2 := by
    have := hV.2.2.1
    show 0 < 2 * p.2.2
    omega
  obtain ⟨u, u1, -⟩ := id hv
  have nX := NEa.sm d2 ok.1 x2.symm u1
  exact hB.2.2.2 X _ x1 ok ⟨u, nX, rfl⟩ (gtv.sm d2 ok.1 hB.2.1.1 x2.symm hv ⟨u, nX, rfl⟩ g)
theorem bests {σC σM υ τ : St} (h : Rw σC σM) (hO : GO σC 42) (hB : BM σC (KS σC) υ) (hD : BC σC (fun X => ∃ w, w < 24 ∧ VS σC w X) τ) : τ 41 3 = 1 ∧ okQ (bpt υ) ∧ okP (ptO τ 57 0) ∧ sm (hf (ptO τ 57 0)) (bpt υ) ∧ υ 0 43 * τ 41 6 = τ 41 5 * υ 0 44 ∧ (0 < τ 41 6 ∧ τ 41 6 ≤ 4000000000000) ∧ (0 < υ 0 44 ∧ υ 0 44 ≤ 4000000000000) ∧ (0 ≤ τ 41 5 ∧ τ 41 5 ≤ 8000000000000000000) ∧ 0 ≤ υ 0 43 ∧ υ 0 43 ≤ 8000000000000000000 := by
  rcases hB with ⟨-, n⟩ | ⟨-, hB, q44⟩
  · exact absurd (Or.inl (Or.inl ⟨0, by omega, rfl⟩)) (n (cnr σC 0))
  · obtain ⟨b1, b2, b3, b4⟩ := id hB
    obtain ⟨-, mB⟩ := KS.ok h b1
    obtain ⟨w, w1, w2⟩ := id b3
    obtain ⟨p, p1, p2, p3⟩ := dom h hO mB w1
    have sV : ∃ w, w < 24 ∧ VS σC w (hf p) := ⟨w, p1.1, p, p1, p2, rfl⟩
    have vV : vl σC (hf p) (wsq σC (hf p) w) := ⟨w, p1.near.2, rfl⟩
    have oV := okP.Q p2
    have smB : sm (bpt υ) (hf p) := by
      rcases p3 with z | z
      · exact absurd (Or.inl (by rw [w2]; exact z)) (cov_not h p1 hB vV)
      · exact z
    rcases hD with ⟨-, n⟩ | ⟨c3, c4, c5, c6⟩
    · exact absurd sV (n _)
    · obtain ⟨d1, d2, d3, d4⟩ := id c5
      obtain ⟨w', -, p', q1, q2, q3⟩ := d1
      have n1 : ¬ gtv (hf (ptO τ 57 0)) (τ 41 5) (bpt υ) (υ 0 43) := by
        rw [q3] at d3 ⊢
        exact cov_not h q1 hB d3
      have n2 : ¬ gtv (bpt υ) (υ 0 43) (hf (ptO τ 57 0)) (τ 41 5) := fun g => d4 _ _ sV oV vV (gtv.sm b2.1 oV.1 d2.1 smB b3 vV g)
      have ev : υ 0 43 * ((hf (ptO τ 57 0)).2.2 * (hf (ptO τ 57 0)).2.2) = τ 41 5 * ((bpt υ).2.2 * (bpt υ).2.2) := by
        unfold gtv at n1 n2
        omega
      have m1 : ¬ bef (hf (ptO τ 57 0)) (bpt υ) := fun z => n1 (Or.inr ⟨ev, z⟩)
      have m2 : ¬ bef (bpt υ) (hf (ptO τ 57 0)) := fun z => n2 (Or.inr ⟨ev.symm, z⟩)
      have r1 := d2.sq
      have r2 := b2.sq
      rw [← c6] at ev r1
      rw [← q44] at ev r2
      obtain ⟨u, u1, u2⟩ := d3
      have r3 := wsq_rng h d2 u1.1
      have r4 := wsq_rng h b2 w1.1
      rw [← u2] at r3
      rw [← w2] at r4
      exact ⟨c3, b2, c4, bef_tot m1 m2, ev, r1, r2, r3, r4⟩
theorem largest_eq {σC σM : St} (h : Rw σC σM) (hO : GO σC 42) (h2 : inI (σC 41 2)) (h6 : inI (σC 1 6)) (hc : σC 41 2 = σC 1 6 → DryOK σC) {x : Int} (hx : inI x) : ∃ v τC τM, f_X10_largest σC x = some (v, τC) ∧ f_X11_largest σM x = some (v, τM) ∧ (∀ k, k < 41 ∨ 61 < k → τC k = σC k) ∧ τC 41 2 = σC 1 6 ∧ GO τC 42 ∧ DryOK τC ∧ (∀ k, k ≠ 0 → k < 21 ∨ 24 < k → τM k = σM k) ∧ ∀ j, j < 29 ∨ 44 < j → τM 0 j = σM 0 j := by
  obtain ⟨τ, t1, t2, t3, t4, t5⟩ := dry_spec h hO h2 h6 hc
  have hC : ∀ k, k < 7 → τ k = σC k := fun k hk => t2 k (by omega)
  have hD : BC σC (fun X => ∃ w, w < 24 ∧ VS σC w X) τ := by
    have := t5
    unfold DryOK at this
    rw [VS_cC hC, BC_cC hC] at this
    exact this
  have lC : ∀ r, f_X0_tell τ x = some r → f_X10_largest σC x = some (r, τ) := fun r hr => by
    rw [f_X10_largest, f_X10_largest_b0, t1, jbind_s, hr, jbind_s]
  have cM := countM h (x := 1) (by decide)
  rw [if_neg (by decide), if_pos rfl] at cM
  have c24 := ct_le (pC σC) 24
  by_cases e0 : ct (pC σC) 24 = 0
  · have no := ct_zero.mp e0
    have z3 : τ 41 3 = 0 := by
      rcases hD with ⟨z, -⟩ | ⟨-, -, z, -⟩
      · exact z
      · obtain ⟨w, w1, p, p1, -⟩ := z.1
        have := no w w1
        rw [p1.2.1] at this
        cases this
    refine ⟨-1, τ, σM, lC _ ?_, ?_, t2, t3, t4, t5, fun _ _ _ => rfl, fun _ _ => rfl⟩
    · rw [f_X0_tell, f_X0_tell_b0, z3, jc_I (by omega) (by omega), if_pos (by omega)]
    · rw [f_X11_largest, f_X11_largest_b0, cM, jbind_s, jc_I (by omega) (by omega), if_pos (by omega)]
  · have hs : ∃ w, w < 24 ∧ pC σC w = true := by
      obtain ⟨w, w1, w2, -⟩ := ct_kth (show 0 < ct (pC σC) 24 by omega)
      exact ⟨w, w1, w2⟩
    obtain ⟨υ, u1, u2, u3, u4⟩ := largestOf_spec h hs
    obtain ⟨b3, bq, bp, bs, be, bd, bd', bt, bt'⟩ := bests h hO u4 hD
    obtain ⟨p0, p1, p2, p3, p4, p5⟩ := id bp
    obtain ⟨q0, q1, q2, q3, q4, q5⟩ := id bq
    have tC : f_X0_tell τ x = some (if x = 4 ∨ x = 5 then ts (τ 41 5) (τ 41 6) x else tp (ptO τ 57 0).1 (ptO τ 57 0).2.1 (2 * (ptO τ 57 0).2.2) x) := by
      have pt : f_X0_tell_b26 τ x 0 = some (tp (ptO τ 57 0).1 (ptO τ 57 0).2.1 (2 * (ptO τ 57 0).2.2) x) := by
        rw [f_X0_tell_b26, jlet_v, jc_I (by omega) (by omega), if_pos (by omega), jc_ix (by omega) (by omega), jc_ix (by omega) (by omega), jc_ix (by omega) (by omega)]
        have : f_X10_tellPoint (τ 58 (0 : Int).toNat) (τ 59 (0 : Int).toNat) (2 * τ 60 (0 : Int).toNat) x = _ := tellPoint_spec (x := (ptO τ 57 0).1) (y := (ptO τ 57 0).2.1) (d := 2 * (ptO τ 57 0).2.2) (by unfold inM; omega) (by unfold inM; omega) (by omega) (by omega) hx
        rw [this, jbind_s]
      have sq : f_X0_tell_b26 τ x 1 = some (ts (τ 41 5) (τ 41 6) x) := by
        rw [f_X0_tell_b26, jlet_v, jc_I (by omega) (by omega), if_neg (by omega), tellSquare_spec (by unfold inM; omega) (by omega) (by omega) hx, jbind_s]
      have hx' := hx
      unfold inI at hx'
      rw [f_X0_tell, f_X0_tell_b0, b3, jc_I (by omega) (by omega), if_neg (by omega), jc_II (by omega) (by omega) (by omega) (by omega)]
      by_cases c4 : x = 4
      · rw [if_pos c4, if_pos (Or.inl c4), sq]
      · rw [if_neg c4, jc_II (by omega) (by omega) (by omega) (by omega)]
        by_cases c5 : x = 5
        · rw [if_pos c5, if_pos (Or.inr c5), sq]
        · rw [if_neg c5, if_neg (by omega), pt]
    have hx' := hx
    unfold inI at hx'
    by_cases cx : x < 0 ∨ 5 < x
    · refine ⟨-1, τ, σM, lC _ ?_, ?_, t2, t3, t4, t5, fun _ _ _ => rfl, fun _ _ => rfl⟩
      · rw [tC, if_neg (by omega), tp_out (by omega)]
      · rw [f_X11_largest, f_X11_largest_b0, cM, jbind_s, jc_I (by omega) (by omega), if_neg (by omega), jc_I (by omega) (by omega)]
        by_cases c : x < 0
        · rw [if_pos c]
        · rw [if_neg c, jc_II (by omega) (by omega) (by omega) (by omega), if_pos (by omega)]
    · obtain ⟨ω, ew⟩ : ∃ ω, ω = up2 (up2 (up2 (up2 (up2 υ 0 34 (υ 0 40)) 0 35 (υ 0 41)) 0 36 (υ 0 42)) 0 37 (υ 0 43)) 0 38 (υ 0 44) := ⟨_, rfl⟩
      have w34 : ω 0 34 = υ 0 40 := by rw [ew]; simp (disch := decide) only [up2_j, up2_same]
      have w35 : ω 0 35 = υ 0 41 := by rw [ew]; simp (disch := decide) only [up2_j, up2_same]
      have w36 : ω 0 36 = υ 0 42 := by rw [ew]; simp (disch := decide) only [up2_j, up2_same]
      have w37 : ω 0 37 = υ 0 43 := by rw [ew]; simp (disch := decide) only [up2_j, up2_same]
      have w38 : ω 0 38 = υ 0 44 := by rw [ew]; simp (disch := decide) only [up2_j, up2_same]
      have wk : ∀ k, k ≠ 0 → ω k = υ k := fun k hk => by
        rw [ew, up2_k hk, up2_k hk, up2_k hk, up2_k hk, up2_k hk]
      have wj : ∀ j, j < 34 ∨ 38 < j → ω 0 j = υ 0 j := fun j hj => by
        rw [ew, up2_j (by omega), up2_j (by omega), up2_j (by omega), up2_j (by omega), up2_j (by omega)]
      have q0' : 0 < υ 0 42 := q0
      have q1' : υ 0 42 ≤ 2000000 := q1
      have q2' : 0 ≤ υ 0 40 := q2
      have q3' : υ 0 40 ≤ 1000 * υ 0 42 := q3
      have q4' : 0 ≤ υ 0 41 := q4
      have q5' : υ 0 41 ≤ 1000 * υ 0 42 := q5
      have mt := midTold_spec (σ := ω) (what := x) (by rw [w34]; unfold inM; omega) (by rw [w35]; unfold inM; omega) (by rw [w36]; omega) (by rw [w36]; omega) (by rw [w37]; unfold inM; omega) (by rw [w38]; omega) (by rw [w38]; omega) hx
      rw [w34, w35, w36, w37, w38] at mt
      have same : (if x = 4 ∨ x = 5 then ts (υ 0 43) (υ 0 44) x else tp (υ 0 40) (υ 0 41) (υ 0 42) x) = if x = 4 ∨ x = 5 then ts (τ 41 5) (τ 41 6) x else tp (ptO τ 57 0).1 (ptO τ 57 0).2.1 (2 * (ptO τ 57 0).2.2) x := by
        by_cases c : x = 4 ∨ x = 5
        · rw [if_pos c, if_pos c]
          obtain ⟨l1, l2⟩ := low_eq bd'.1 bd.1 be
          unfold ts
          rw [l1, l2]
        · rw [if_neg c, if_neg c]
          exact tp_eq q0' (by omega) bs.1.symm bs.2.symm
      refine ⟨_, τ, ω, lC _ tC, ?_, t2, t3, t4, t5, fun k k0 hk => by rw [wk k k0]; exact u2 k k0 hk, fun j hj => by rw [wj j (by omega)]; exact u3 j hj⟩
      have st : f_X11_largest σM x = jbind (f_X11_middleTold ω x) (fun r_8 => some (r_8, ω)) := by
        rw [f_X11_largest, f_X11_largest_b0, cM, jbind_s, jc_I (by omega) (by omega), if_neg (by omega), jc_I (by omega) (by omega), if_neg (by omega), jc_II (by omega) (by omega) (by omega) (by omega), if_neg (by omega), u1, jbind_s, jlet_v, jlet_v, jlet_v, jlet_v, jlet_v, ew]
        simp (disch := decide) only [up2_j, up2_same]
      rw [st, mt, jbind_s, same]
