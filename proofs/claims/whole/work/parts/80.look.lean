/-! ===== the pure side 60: the component looks at corners ===== -/
/-- what looking at corners may change -/
def LK (τ υ : St) : Prop := (∀ k, k < 57 ∨ 61 < k → k ≠ 41 → υ k = τ k) ∧ ∀ j, j ≠ 3 → j ≠ 5 → j ≠ 6 → υ 41 j = τ 41 j
theorem LK.refl (τ : St) : LK τ τ := ⟨fun _ _ _ => rfl, fun _ _ _ _ => rfl⟩
theorem LK.trans {a b c : St} (h1 : LK a b) (h2 : LK b c) : LK a c := ⟨fun k x y => by rw [h2.1 k x y, h1.1 k x y], fun j x y z => by rw [h2.2 j x y z, h1.2 j x y z]⟩
theorem LK.pt {τ υ : St} {o s i : Nat} (h : LK τ υ) (hG : GD 42 o s) : ptO υ o i = ptO τ o i := by
  have gb := hG.b
  unfold ptO
  rw [h.1 (o + 1) (by omega) (by omega), h.1 (o + 2) (by omega) (by omega), h.1 (o + 3) (by omega) (by omega)]
theorem take_spec {τ ν : St} {o s i : Nat} {a b : Int} (hG : GD 42 o s) (hi : i < 28) (hk : LK τ ν) : ∃ υ, f_X0_lookAt_b127 ν o (i : Int) a b = some υ ∧ LK τ υ ∧ υ 41 3 = 1 ∧ ptO υ 57 0 = ptO τ o i ∧ υ 41 5 = a ∧ υ 41 6 = b := by
  have gb := hG.b
  obtain ⟨μ, eμ⟩ : ∃ μ, μ = up2 (up2 ν 41 3 1) 57 0 0 := ⟨_, rfl⟩
  have mp : ptO μ o i = ptO τ o i := by
    have : ptO μ o i = ptO ν o i := by
      unfold ptO
      rw [eμ, up2_k (by omega), up2_k (by omega), up2_k (by omega), up2_k (by omega), up2_k (by omega), up2_k (by omega)]
    rw [this, hk.pt hG]
  have af := addFrom57 (μ := μ) (n := 0) hG hi (by omega) (by rw [eμ, up2_same]; rfl)
  obtain ⟨ρ, eρ⟩ : ∃ ρ, ρ = addO μ 57 0 (ptO μ o i).1 (ptO μ o i).2.1 (ptO μ o i).2.2 0 := ⟨_, rfl⟩
  rw [← eρ] at af
  have rk : ∀ k, k < 57 ∨ 61 < k → ρ k = μ k := fun k h => by rw [eρ]; exact addO_k (by omega)
  have r3 : ρ 41 3 = 1 := by rw [rk 41 (by omega), eμ, up2_k (k' := 41) (by decide), up2_same]
  have rj : ∀ j, j ≠ 3 → ρ 41 j = ν 41 j := fun j h => by rw [rk 41 (by omega), eμ, up2_k (k' := 41) (by decide), up2_j h]
  refine ⟨up2 (up2 ρ 41 5 a) 41 6 b, ?_, ⟨fun k x y => ?_, fun j x y z => ?_⟩, ?_, ?_, ?_, up2_same⟩
  · rw [f_X0_lookAt_b127, jchk_t (Or.inr rfl), jlet_v, jlet_v, ← eμ, af, jbind_s, jlet_v, jlet_v]
  · rw [up2_k y, up2_k y, rk k x, eμ, up2_k (by omega), up2_k y]
    exact hk.1 k x y
  · rw [up2_j z, up2_j y, rj j x]
    exact hk.2 j x y z
  · rw [up2_j (by decide), up2_j (by decide)]; exact r3
  · have : ptO (up2 (up2 ρ 41 5 a) 41 6 b) 57 0 = ptO ρ 57 0 := by
      unfold ptO
      rw [up2_k (by omega), up2_k (by omega), up2_k (by omega), up2_k (by omega), up2_k (by omega), up2_k (by omega)]
    rw [this, eρ, addO_pt, if_pos rfl, ← mp]
  · rw [up2_j (by decide), up2_same]
theorem look_id (x d k : Int) : x - 2 * k * d = x - 2 * d * k := by grind
theorem lookAt_spec {σC σM τ : St} (h : Rw σC σM) (hC : ∀ k, k < 7 → τ k = σC k) {o s i w : Nat} (hG : GD 42 o s) (hi : i < 28) (hw : w < 24) (hP : okP (ptO τ o i)) (hn : NEa σC (hf (ptO τ o i)) w) {S : Pt → Prop} (hB : BC σC S τ) : ∃ υ, f_X0_lookAt τ o (i : Int) (w : Int) = some υ ∧ LK τ υ ∧ BC σC (fun X => S X ∨ X = hf (ptO τ o i)) υ := by
  obtain ⟨n1, n2⟩ := hG.ln
  have gb := hG.b
  obtain ⟨-, -, w1, w2⟩ := h.rng hw
  obtain ⟨p, ep⟩ : ∃ p, p = ptO τ o i := ⟨_, rfl⟩
  rw [← ep] at hP hn ⊢
  obtain ⟨a, ea⟩ : ∃ a, a = wsq σC (hf p) w := ⟨_, rfl⟩
  have va : vl σC (hf p) a := ⟨w, hn, ea⟩
  have okp := hP.Q
  obtain ⟨ra, rb⟩ := wsq_rng h okp hw
  rw [← ea] at ra rb
  obtain ⟨sq1, sq2⟩ := okp.sq
  have e1 : (p.1 - 2 * σC 3 w * p.2.2) * (p.1 - 2 * σC 3 w * p.2.2) + (p.2.1 - 2 * σC 4 w * p.2.2) * (p.2.1 - 2 * σC 4 w * p.2.2) = a := by
    rw [ea, look_id p.1 p.2.2 (σC 3 w), look_id p.2.1 p.2.2 (σC 4 w)]; rfl
  have e2 : 4 * p.2.2 * p.2.2 = (hf p).2.2 * (hf p).2.2 := by
    show 4 * p.2.2 * p.2.2 = 2 * p.2.2 * (2 * p.2.2)
    grind
  have st : f_X0_lookAt τ o (i : Int) (w : Int) = jchk (inI (τ 41 3)) (if τ 41 3 = 0 then f_X0_lookAt_b106 τ o (i : Int) a ((hf p).2.2 * (hf p).2.2) 1 else jbind (f_X10_compareFractions a ((hf p).2.2 * (hf p).2.2) (τ 41 5) (τ 41 6)) (fun r_14 => f_X0_lookAt_b106 τ o (i : Int) a ((hf p).2.2 * (hf p).2.2) r_14)) := by
    rw [f_X0_lookAt, f_X0_lookAt_b0, n1, jc_ix (by omega) (by omega), jlet_v, jc_ix (by omega) (by omega), jc_ix (by omega) (by omega), cast_n, cast_n, hC 3 (by omega), hC 4 (by omega), jc_I (by omega) (by omega), jlet_v, jc_ix (by omega) (by omega), jc_ix (by omega) (by omega), jc_I (by omega) (by omega), jlet_v, jlet_v, jlet_v, show τ (o + 3) i = p.2.2 by rw [ep]; rfl, show τ (o + 1) i = p.1 by rw [ep]; rfl, show τ (o + 2) i = p.2.1 by rw [ep]; rfl, e1, e2]
  rw [st]
  have new : ∀ ν, LK τ ν → (BST σC (fun X => S X ∨ X = hf p) (hf p) a) → ∃ υ, f_X0_lookAt_b127 ν o (i : Int) a ((hf p).2.2 * (hf p).2.2) = some υ ∧ LK τ υ ∧ BC σC (fun X => S X ∨ X = hf p) υ := fun ν hk hb => by
    obtain ⟨υ, t1, t2, t3, t4, t5, t6⟩ := take_spec (a := a) (b := (hf p).2.2 * (hf p).2.2) hG hi hk
    rw [← ep] at t4
    exact ⟨υ, t1, t2, Or.inr ⟨t3, by rw [t4]; exact hP, by rw [t4, t5]; exact hb, by rw [t4]; exact t6⟩⟩
  rcases hB with ⟨f0, emp⟩ | ⟨f1, okb, bst, bot⟩
  · rw [f0, jc_I (by omega) (by omega), if_pos rfl, f_X0_lookAt_b106, jlet_v, jc_I (by omega) (by omega), if_pos (by omega)]
    exact new τ (LK.refl _) (BST.first emp okp va)
  · obtain ⟨b, eb⟩ : ∃ b, b = ptO τ 57 0 := ⟨_, rfl⟩
    rw [← eb] at okb bst bot
    obtain ⟨-, okB, ⟨w', nw', ew'⟩, -⟩ := id bst
    obtain ⟨rc, rd⟩ := wsq_rng h okB nw'.1
    rw [← ew'] at rc rd
    obtain ⟨sq3, sq4⟩ := okB.sq
    have fr := (frac_eq (a := a) (b := (hf p).2.2 * (hf p).2.2) (c := τ 41 5) (d := τ 41 6) ra (by omega) sq1 (by omega) rc (by omega) (by rw [bot]; exact sq3) (by rw [bot]; omega)).1
    rw [f1, jc_I (by omega) (by omega), if_neg (by decide), fr, jbind_s, f_X0_lookAt_b106, jlet_v, bot]
    have sr := sg_rng (a * ((hf b).2.2 * (hf b).2.2) - τ 41 5 * ((hf p).2.2 * (hf p).2.2))
    rw [jc_I (by omega) (by omega)]
    by_cases c1 : 0 < sg (a * ((hf b).2.2 * (hf b).2.2) - τ 41 5 * ((hf p).2.2 * (hf p).2.2))
    · rw [if_pos c1]
      have := sg_pos.mp c1
      exact new τ (LK.refl _) (bst.new okp va (Or.inl (by omega)))
    · rw [if_neg c1, jc_I (by omega) (by omega)]
      by_cases c2 : sg (a * ((hf b).2.2 * (hf b).2.2) - τ 41 5 * ((hf p).2.2 * (hf p).2.2)) = 0
      · have c2' := sg_zero.mp c2
        rw [if_pos c2]
        -- the point goes to the second place of the best outline
        obtain ⟨μ, eμ⟩ : ∃ μ, μ = up2 τ 57 0 1 := ⟨_, rfl⟩
        have mp : ∀ o' j, o' + 1 ≠ 57 → o' + 2 ≠ 57 → o' + 3 ≠ 57 → ptO μ o' j = ptO τ o' j := fun o' j x y z => by
          unfold ptO
          rw [eμ, up2_k x, up2_k y, up2_k z]
        have af := addFrom57 (μ := μ) (n := 1) hG hi (by omega) (by rw [eμ, up2_same]; rfl)
        rw [mp o i (by omega) (by omega) (by omega), ← ep] at af
        obtain ⟨ρ, eρ⟩ : ∃ ρ, ρ = addO μ 57 1 p.1 p.2.1 p.2.2 0 := ⟨_, rfl⟩
        rw [← eρ] at af
        have p1 : ptO ρ 57 1 = p := by rw [eρ, addO_pt, if_pos rfl]
        have p0 : ptO ρ 57 0 = b := by rw [eρ, addO_pt, if_neg (by decide), mp 57 0 (by omega) (by omega) (by omega), eb]
        have rk : ∀ k, k < 57 ∨ 61 < k → ρ k = τ k := fun k hk => by rw [eρ, addO_k (by omega), eμ, up2_k (by omega)]
        have lk : LK τ ρ := ⟨fun k x _ => rk k x, fun j _ _ _ => by rw [rk 41 (by omega)]⟩
        have ib : ∀ r, f_X4_isBefore ρ 57 1 0 = some r → (r = 0 ∨ r = 1) → f_X0_isBeforeBest τ o (i : Int) = some (r, ρ) := fun r hr hr2 => by
          rw [f_X0_isBeforeBest, f_X0_isBeforeBest_b0, jlet_v, ← eμ, af, jbind_s, hr, jbind_s]
          rcases hr2 with z | z <;> rw [z] <;> rfl
        rcases bef57 (τ := ρ) (by rw [p1]; exact hP) (by rw [p0]; exact okb) with ⟨b1, b2⟩ | ⟨b1, b2⟩
        · rw [p1, p0] at b1
          rw [ib 1 b2 (Or.inr rfl), jbind_s]
          dsimp only
          rw [jc_I (by omega) (by omega), if_neg (by decide)]
          exact new ρ lk (bst.new okp va (Or.inr ⟨by omega, bef_hf.mpr b1⟩))
        · rw [p1, p0] at b1
          rw [ib 0 b2 (Or.inl rfl), jbind_s]
          dsimp only
          rw [jc_I (by omega) (by omega), if_pos rfl]
          refine ⟨ρ, rfl, lk, Or.inr ⟨by rw [rk 41 (by omega)]; exact f1, by rw [p0]; exact okb, ?_, ?_⟩⟩
          · rw [p0, rk 41 (by omega)]
            refine bst.old va (fun g => ?_)
            rcases g with g | ⟨-, g⟩
            · omega
            · exact b1 (bef_hf.mp g)
          · rw [p0, rk 41 (by omega)]; exact bot
      · rw [if_neg c2]
        refine ⟨τ, rfl, LK.refl _, Or.inr ⟨f1, by rw [← eb]; exact okb, ?_, by rw [← eb]; exact bot⟩⟩
        rw [← eb]
        refine bst.old va (fun g => ?_)
        have n1 : ¬ 0 < a * ((hf b).2.2 * (hf b).2.2) - τ 41 5 * ((hf p).2.2 * (hf p).2.2) := fun z => c1 (sg_pos.mpr z)
        have n2 : ¬ a * ((hf b).2.2 * (hf b).2.2) - τ 41 5 * ((hf p).2.2 * (hf p).2.2) = 0 := fun z => c2 (sg_zero.mpr z)
        rcases g with g | ⟨g, -⟩ <;> omega
