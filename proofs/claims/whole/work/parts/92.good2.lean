/-! ===== the pure side 72: every call keeps it ===== -/
/-- a call on the drawn ground -/
theorem KEEP.gs {n : Nat} {σC σM τC τM : St} (h : KEEP n σC σM) (hS : GS σC τC) (hM : MS σM τM) : KEEP (n + 1) τC τM := by
  obtain ⟨g1, g2, g3, g4, g5⟩ := hS
  obtain ⟨-, -, c1, c2, c3, c4, c5⟩ := id h
  have e1 := g1 1 (by omega)
  have l7 : ∀ k, k < 7 → τC k = σC k := fun k hk => g1 k (by omega)
  refine h.mk (fun k hk => g1 k (by omega)) (fun k a b => hM.1 k (by omega) (by omega)) (fun j hj => hM.2 j (by omega) (by omega) (by omega) (by omega) (by omega)) ⟨g2, g3, ?_, fun z => g5 (by rw [e1] at z; exact z)⟩ (c2.mv l7 (fun k a b => g1 k (by omega))) (c3.mv l7 (fun k a b => g1 k (by omega))) (c4.mv l7 (fun k a b => g1 k (by omega))) (c5.mv l7 (fun k a b => g1 k (by omega)))
  unfold VV
  rw [e1]
  have a3 := c1.2.2.1
  unfold VV at a3
  have := h.2.1
  omega
theorem KEEP.gh {n : Nat} {σC σM : St} (h : KEEP n σC σM) (hn : n < 512) : GH σC := ⟨h.2.2.1.1, h.2.2.1.2.1, (h.v hn).2 _ h.2.2.1.2.2.1, (h.v hn).1, h.2.2.1.2.2.2⟩
theorem KEEP.rounds {n : Nat} {σC σM τC τM : St} (h : KEEP n σC σM) (hC : ∀ k, k < 35 ∨ 40 < k → τC k = σC k) (hv : τC 35 1 = σC 1 6) (ok : RoundsOK τC) (hM : ∀ k, 0 < k → k < 13 ∨ k = 31 ∨ k = 32 → τM k = σM k) (h0 : ∀ j, j < 3 ∨ j = 8 → τM 0 j = σM 0 j) : KEEP (n + 1) τC τM := by
  obtain ⟨-, hv', c1, c2, c3, c4, c5⟩ := id h
  have e1 := hC 1 (by omega)
  have l7 : ∀ k, k < 7 → τC k = σC k := fun k hk => hC k (by omega)
  exact h.mk (fun k hk => hC k (by omega)) hM h0 (c1.mv l7 (fun k a b => hC k (by omega))) ⟨by unfold VV; rw [e1, hv]; omega, fun _ => ok⟩ (c3.mv l7 (fun k a b => hC k (by omega))) (c4.mv l7 (fun k a b => hC k (by omega))) (c5.mv l7 (fun k a b => hC k (by omega)))
theorem KEEP.net {n : Nat} {σC σM τC τM : St} (h : KEEP n σC σM) (hC : ∀ k, k ≠ 62 → k ≠ 63 → k ≠ 64 → τC k = σC k) (hv : τC 62 1 = σC 1 6) (ok : NetOK τC) (hM : ∀ k, 0 < k → k < 13 ∨ k = 31 ∨ k = 32 → τM k = σM k) (h0 : ∀ j, j < 3 ∨ j = 8 → τM 0 j = σM 0 j) : KEEP (n + 1) τC τM := by
  obtain ⟨-, hv', c1, c2, c3, c4, c5⟩ := id h
  have e1 := hC 1 (by omega) (by omega) (by omega)
  have l7 : ∀ k, k < 7 → τC k = σC k := fun k hk => hC k (by omega) (by omega) (by omega)
  exact h.mk (fun k hk => hC k (by omega) (by omega) (by omega)) hM h0 (c1.mv l7 (fun k a b => hC k (by omega) (by omega) (by omega))) (c2.mv l7 (fun k a b => hC k (by omega) (by omega) (by omega))) (c3.mv l7 (fun k a b => hC k (by omega) (by omega) (by omega))) ⟨by unfold VV; rw [e1, hv]; omega, fun _ => ok⟩ (c5.mv l7 (fun k a b => hC k (by omega) (by omega) (by omega)))
theorem KEEP.hull {n : Nat} {σC σM τC τM : St} (h : KEEP n σC σM) (hC : ∀ k, k ≠ 65 → k ≠ 66 → τC k = σC k) (hv : τC 65 1 = σC 1 6) (ok : HullOK τC) (hM : ∀ k, 0 < k → k < 13 ∨ k = 31 ∨ k = 32 → τM k = σM k) (h0 : ∀ j, j < 3 ∨ j = 8 → τM 0 j = σM 0 j) : KEEP (n + 1) τC τM := by
  obtain ⟨-, hv', c1, c2, c3, c4, c5⟩ := id h
  have e1 := hC 1 (by omega) (by omega)
  have l7 : ∀ k, k < 7 → τC k = σC k := fun k hk => hC k (by omega) (by omega)
  exact h.mk (fun k hk => hC k (by omega) (by omega)) hM h0 (c1.mv l7 (fun k a b => hC k (by omega) (by omega))) (c2.mv l7 (fun k a b => hC k (by omega) (by omega))) (c3.mv l7 (fun k a b => hC k (by omega) (by omega))) (c4.mv l7 (fun k a b => hC k (by omega) (by omega))) ⟨by unfold VV; rw [e1, hv]; omega, fun _ => ok⟩
theorem KEEP.dry {n : Nat} {σC σM τC τM : St} (h : KEEP n σC σM) (hC : ∀ k, k < 41 ∨ 61 < k → τC k = σC k) (hv : τC 41 2 = σC 1 6) (hO : GO τC 42) (ok : DryOK τC) (hM : ∀ k, 0 < k → k < 13 ∨ k = 31 ∨ k = 32 → τM k = σM k) (h0 : ∀ j, j < 3 ∨ j = 8 → τM 0 j = σM 0 j) : KEEP (n + 1) τC τM := by
  obtain ⟨-, hv', c1, c2, c3, c4, c5⟩ := id h
  have e1 := hC 1 (by omega)
  have l7 : ∀ k, k < 7 → τC k = σC k := fun k hk => hC k (by omega)
  exact h.mk (fun k hk => hC k (by omega)) hM h0 (c1.mv l7 (fun k a b => hC k (by omega))) (c2.mv l7 (fun k a b => hC k (by omega))) ⟨hO, by unfold VV; rw [e1, hv]; omega, fun _ => ok⟩ (c4.mv l7 (fun k a b => hC k (by omega))) (c5.mv l7 (fun k a b => hC k (by omega)))
/-- a call that only uses a place to work in -/
theorem KEEP.tmp {n : Nat} {σC σM τC τM : St} (h : KEEP n σC σM) (hC : ∀ k, k < 68 → τC k = σC k) (hM : ∀ k, 0 < k → k < 13 ∨ k = 31 ∨ k = 32 → τM k = σM k) (h0 : ∀ j, j < 3 ∨ j = 8 → τM 0 j = σM 0 j) : KEEP (n + 1) τC τM := by
  obtain ⟨-, hv', c1, c2, c3, c4, c5⟩ := id h
  have l7 : ∀ k, k < 7 → τC k = σC k := fun k hk => hC k (by omega)
  exact h.mk (fun k hk => hC k (by omega)) hM h0 (c1.mv l7 (fun k a b => hC k (by omega))) (c2.mv l7 (fun k a b => hC k (by omega))) (c3.mv l7 (fun k a b => hC k (by omega))) (c4.mv l7 (fun k a b => hC k (by omega))) (c5.mv l7 (fun k a b => hC k (by omega)))
theorem KEEP.p8 {n : Nat} {σC σM : St} (h : KEEP n σC σM) : σM 0 8 = σC 7 0 := by
  obtain ⟨p, q, -, -, e1, -, e2, -⟩ := h.1.2.1
  rw [e1, e2]
theorem all_good : Good KEEP := by
  intro n σC σM hn hR c hc a ha
  obtain ⟨v6, vI⟩ := hR.v hn
  have R := hR.1.1
  have G := hR.gh hn
  obtain ⟨-, -, c1, c2, c3, c4, c5⟩ := id hR
  have rdC : ∀ {o : Option Int} {v : Int} {σ : St}, o = some v → rd o σ = some (v, σ) := fun e => by rw [e]; rfl
  match c, hc with
  | 0, _ => obtain ⟨v, τC, τM, e1, e2, e3, e4⟩ := rectangle_eq hR.1 (ha 1) (ha 2); exact ⟨v, τC, τM, e1, e2, hR.st e3 e4⟩
  | 1, _ => obtain ⟨v, τC, τM, e1, e2, e3, e4⟩ := season_eq hR.1 (ha 1); exact ⟨v, τC, τM, e1, e2, hR.st e3 e4⟩
  | 2, _ => obtain ⟨v, τC, τM, e1, e2, e3, e4⟩ := sink_eq hR.1 (ha 1) (ha 2) (ha 3) (ha 4); exact ⟨v, τC, τM, e1, e2, hR.st e3 e4⟩
  | 3, _ => obtain ⟨v, τC, τM, e1, e2, e3, e4⟩ := fill_eq hR.1 (ha 1); exact ⟨v, τC, τM, e1, e2, hR.st e3 e4⟩
  | 4, _ => obtain ⟨v, τC, τM, e1, e2, e3, e4⟩ := become_eq hR.1 (ha 1) (ha 2) (ha 3); exact ⟨v, τC, τM, e1, e2, hR.st e3 e4⟩
  | 5, _ => obtain ⟨v, e1, e2⟩ := well_eq R (ha 1) (ha 2); exact ⟨v, σC, σM, rdC e1, rdC e2, hR.same⟩
  | 6, _ => obtain ⟨v, e1, e2⟩ := ask_eq R (ha 1) (ha 2); exact ⟨v, σC, σM, rdC e1, rdC e2, hR.same⟩
  | 7, _ => obtain ⟨v, e1, e2⟩ := count_eq R hR.p8 (ha 1); exact ⟨v, σC, σM, rdC e1, rdC e2, hR.same⟩
  | 8, _ => obtain ⟨v, τC, e1, e2, e3⟩ := serves_eq R (ha 1) (ha 2) (ha 3); exact ⟨v, τC, σM, e1, rdC e2, hR.tmp (fun k hk => e3 k (by omega)) (fun _ _ _ => rfl) (fun _ _ => rfl)⟩
  | 9, _ => obtain ⟨v, τC, e1, e2, e3⟩ := next_eq R (ha 1) (ha 2) (ha 3) (ha 4); exact ⟨v, τC, σM, e1, rdC e2, hR.tmp (fun k hk => e3 k (by omega)) (fun _ _ _ => rfl) (fun _ _ => rfl)⟩
  | 10, _ => obtain ⟨v, τC, τM, e1, e2, e3, e4⟩ := corners_eq R G (ha 1); exact ⟨v, τC, τM, e1, e2, hR.gs e3 e4⟩
  | 11, _ => obtain ⟨v, τC, τM, e1, e2, e3, e4⟩ := corner_eq R G (ha 1) (ha 2) (ha 3); exact ⟨v, τC, τM, e1, e2, hR.gs e3 e4⟩
  | 12, _ => obtain ⟨v, τC, τM, e1, e2, e3, e4⟩ := beside_eq R G (ha 1) (ha 2); exact ⟨v, τC, τM, e1, e2, hR.gs e3 e4⟩
  | 13, _ => obtain ⟨v, τC, τM, e1, e2, e3, e4⟩ := border_eq R G (ha 1) (ha 2); exact ⟨v, τC, τM, e1, e2, hR.gs e3 e4⟩
  | 14, _ => obtain ⟨v, τC, τM, e1, e2, e3, e4⟩ := end_eq R G (ha 1) (ha 2) (ha 3) (ha 4); exact ⟨v, τC, τM, e1, e2, hR.gs e3 e4⟩
  | 15, _ => obtain ⟨v, τC, τM, e1, e2, e3, e4⟩ := about_eq R G (ha 1); exact ⟨v, τC, τM, e1, e2, hR.gs e3 e4⟩
  | 16, _ => obtain ⟨v, τC, τM, e1, e2, e3, e4, e5, e6, e7⟩ := rings_eq R (vI _ c2.1) v6 c2.2; exact ⟨v, τC, τM, e1, e2, hR.rounds e3 e4 e5 (fun k x y => e6 k (by omega) (by omega)) (fun j hj => e7 j (by omega))⟩
  | 17, _ => obtain ⟨v, τC, τM, e1, e2, e3, e4, e5, e6, e7⟩ := ring_eq R (vI _ c2.1) v6 c2.2 (ha 1); exact ⟨v, τC, τM, e1, e2, hR.rounds e3 e4 e5 (fun k x y => e6 k (by omega) (by omega)) (fun j hj => e7 j (by omega))⟩
  | 18, _ => obtain ⟨v, τC, τM, e1, e2, e3, e4, e5, e6, e7⟩ := round_eq R (vI _ c2.1) v6 c2.2 (ha 1) (ha 2); exact ⟨v, τC, τM, e1, e2, hR.rounds e3 e4 e5 (fun k x y => e6 k (by omega) (by omega)) (fun j hj => e7 j (by omega))⟩
  | 19, _ => obtain ⟨v, τC, τM, e1, e2, e3, e4, e5, e6, e7, e8⟩ := largest_eq R c3.1 (vI _ c3.2.1) v6 c3.2.2 (ha 1); exact ⟨v, τC, τM, e1, e2, hR.dry e3 e4 e5 e6 (fun k x y => e7 k (by omega) (by omega)) (fun j hj => e8 j (by omega))⟩
  | 20, _ => obtain ⟨v, τC, e1, e2, e3, e4, e5⟩ := closest_eq R (vI _ c4.1) v6 c4.2 (ha 1); exact ⟨v, τC, σM, e1, rdC e2, hR.net e3 e4 e5 (fun _ _ _ => rfl) (fun _ _ => rfl)⟩
  | 21, _ => obtain ⟨v, e1, e2⟩ := nearest_eq R (ha 1); exact ⟨v, σC, σM, rdC e1, rdC e2, hR.same⟩
  | 22, _ => obtain ⟨v, τC, τM, e1, e2, e3, e4, e5, e6, e7⟩ := tree_eq R (vI _ c4.1) v6 c4.2; exact ⟨v, τC, τM, e1, e2, hR.net e3 e4 e5 (fun k x y => e6 k (by omega) (by omega) (by omega) (by omega)) (fun j hj => e7 j (by omega))⟩
  | 23, _ => obtain ⟨v, τC, τM, e1, e2, e3, e4, e5, e6, e7⟩ := pipe_eq R (vI _ c4.1) v6 c4.2 (ha 1) (ha 2); exact ⟨v, τC, τM, e1, e2, hR.net e3 e4 e5 (fun k x y => e6 k (by omega) (by omega) (by omega) (by omega)) (fun j hj => e7 j (by omega))⟩
  | 24, _ => obtain ⟨v, τC, τM, e1, e2, e3, e4, e5, e6, e7⟩ := hull_eq R (vI _ c5.1) v6 c5.2; exact ⟨v, τC, τM, e1, e2, hR.hull e3 e4 e5 (fun k x y => e6 k (by omega) (by omega)) (fun j hj => e7 j (by omega))⟩
  | 25, _ => obtain ⟨v, τC, τM, e1, e2, e3, e4, e5, e6, e7⟩ := around_eq R (vI _ c5.1) v6 c5.2 (ha 1); exact ⟨v, τC, τM, e1, e2, hR.hull e3 e4 e5 (fun k x y => e6 k (by omega) (by omega)) (fun j hj => e7 j (by omega))⟩
  | 26, _ => obtain ⟨v, τC, τM, e1, e2, e3, e4⟩ := keep_eq R (ha 1) (ha 2); exact ⟨v, τC, τM, e1, e2, hR.tmp (fun k hk => e3 k (by omega)) (fun k x y => e4 k (by omega) (by omega)) (fun j hj => by rw [e4 0 (by omega) (by omega)])⟩
  | 27, _ => obtain ⟨v, τC, τM, e1, e2, e3, e4⟩ := sheet_eq hR.1 (ha 1) (ha 2); exact ⟨v, τC, τM, e1, e2, hR.st e3 e4⟩
  | 28, _ => obtain ⟨v, τC, τM, e1, e2, e3, e4⟩ := line_eq hR.1 (ha 1) (ha 2) (ha 3) (ha 4) (ha 5) (ha 6); exact ⟨v, τC, τM, e1, e2, hR.st e3 e4⟩
  | 29, _ => obtain ⟨v, τC, τM, e1, e2, e3, e4⟩ := lay_eq hR.1 (ha 1); exact ⟨v, τC, τM, e1, e2, hR.st e3 e4⟩
  | 30, _ => obtain ⟨v, τC, τM, e1, e2, e3, e4⟩ := undo_eq hR.1; exact ⟨v, τC, τM, e1, e2, hR.st e3 e4⟩
  | 31, _ => exact ⟨0, σC, σM, rfl, rfl, hR.same⟩
  | n + 32, h => exact absurd h (by omega)
theorem start_good : KEEP 0 sC0 sM0 := by
  have k5 : ∀ w, w < 24 → sC0 5 w = -1 := fun w hw => by show flt (fun _ => 0) (-1) 24 w = -1; unfold flt; rw [if_pos hw]
  have np : ∀ w, w < 24 → pC sC0 w = false := fun w hw => by
    unfold pC cn
    rw [k5 w hw]; simp
  have nh : ∀ w, w < 24 → hC_ sC0 w = false := fun w hw => by
    unfold hC_
    rw [k5 w hw]; simp
  have rw0 : Rw sC0 sM0 := by
    refine ⟨⟨by decide, by decide, fun w hw => Or.inl ⟨k5 w hw, rfl, rfl, rfl⟩, fun v w hv hw e => absurd (k5 v hv) e⟩, by decide, rfl, rfl, rfl, fun w hw => Or.inl ⟨rfl, k5 w hw⟩, ?_, ?_, fun w hw e => ?_⟩
    · rw [ct_zero.mpr nh]; rfl
    · rw [ct_zero.mpr np]; rfl
    · rw [np w hw] at e; cases e
  have rp0 : RP sC0 sM0 := ⟨0, 0, by omega, by omega, rfl, rfl, rfl, fun j hj => absurd hj (Nat.not_lt_zero j)⟩
  have i0 : inI 0 := by decide
  have rs0 : RS sC0 sM0 := by
    refine ⟨fun s hs => ?_, fun j hj => ⟨⟨rfl, rfl, rfl, rfl⟩, i0, i0, i0, i0⟩⟩
    have e : sC0 15 s = -1 := by show flt (fun _ => 0) (-1) 8 s = -1; unfold flt; rw [if_pos hs]
    have e' : sM0 31 s = -1 := by
      rcases (by omega : s = 0 ∨ s = 1 ∨ s = 2 ∨ s = 3 ∨ s = 4 ∨ s = 5 ∨ s = 6 ∨ s = 7) with z | z | z | z | z | z | z | z <;> subst z <;> rfl
    rw [e, e']; omega
  have one : sC0 1 6 = 0 := rfl
  have m1 : ∀ x, x = (-1 : Int) → VV sC0 x := fun x e => by unfold VV; rw [one, e]; omega
  refine ⟨⟨rw0, rp0, rs0⟩, by rw [one]; omega, ⟨⟨24, 29, Or.inl ⟨rfl, Or.inl ⟨rfl, rfl⟩⟩, rfl, rfl⟩, by decide, m1 _ rfl, fun e => ?_⟩, ⟨m1 _ rfl, fun e => ?_⟩, ⟨⟨46, 51, Or.inr ⟨rfl, Or.inl ⟨rfl, rfl⟩⟩, rfl, rfl⟩, m1 _ rfl, fun e => ?_⟩, ⟨m1 _ rfl, fun e => ?_⟩, ⟨m1 _ rfl, fun e => ?_⟩⟩
  · exact absurd e (by decide)
  · exact absurd e (by decide)
  · exact absurd e (by decide)
  · exact absurd e (by decide)
  · exact absurd e (by decide)
theorem pure_good : ∃ Rel : Nat → St → St → Prop, Good Rel ∧ Rel 0 sC0 sM0 := ⟨KEEP, all_good, start_good⟩
