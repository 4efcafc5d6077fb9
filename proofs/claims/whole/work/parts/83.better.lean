/-! ===== the pure side 63: the model's best ===== -/
def mpt (σ : St) : Pt := (σ 0 34, σ 0 35, σ 0 36)
def bpt (σ : St) : Pt := (σ 0 40, σ 0 41, σ 0 42)
def BM (σ : St) (S : Pt → Prop) (τ : St) : Prop := (τ 0 39 = 0 ∧ ∀ P, ¬ S P) ∨ (τ 0 39 = 1 ∧ BST σ S (bpt τ) (τ 0 43) ∧ τ 0 44 = (bpt τ).2.2 * (bpt τ).2.2)
theorem BM.cong {σ τ : St} {S S' : Pt → Prop} (h : BM σ S τ) (e : ∀ X, S X ↔ S' X) : BM σ S' τ := by
  have : S = S' := funext (fun X => propext (e X))
  rw [← this]; exact h
theorem BM.mv {σ τ τ' : St} {S : Pt → Prop} (h : BM σ S τ) (hj : ∀ j, 38 < j → j < 45 → τ' 0 j = τ 0 j) : BM σ S τ' := by
  unfold BM bpt at *
  rw [hj 39 (by omega) (by omega), hj 40 (by omega) (by omega), hj 41 (by omega) (by omega), hj 42 (by omega) (by omega), hj 43 (by omega) (by omega), hj 44 (by omega) (by omega)]
  exact h
theorem order_spec {a b c d : Int} (hl : inL (a * d - c * b)) : f_X11_order a b c d = some (sg (a * d - c * b)) := by
  obtain ⟨l1, l2⟩ := hl
  rw [f_X11_order, f_X11_order_b0, jlet_v, jc_LL (by omega) (by omega) (by omega) (by omega), jc_LL (by omega) (by omega) (by omega) (by omega)]
  unfold sg
  by_cases c1 : 0 < a * d - c * b
  · rw [if_pos c1, if_pos c1]
  · rw [if_neg c1, if_neg c1]
    by_cases c2 : a * d - c * b < 0
    · rw [if_pos c2, if_pos c2]
    · rw [if_neg c2, if_neg c2]
theorem okQ.cross {P Q : Pt} (hP : okQ P) (hQ : okQ Q) : inL (P.1 * Q.2.2 - Q.1 * P.2.2) ∧ inL (P.2.1 * Q.2.2 - Q.2.1 * P.2.2) := by
  obtain ⟨a1, a2, a3, a4, a5, a6⟩ := hP
  obtain ⟨b1, b2, b3, b4, b5, b6⟩ := hQ
  have m1 := mul_bd (a := P.1) (b := Q.2.2) (A := 2000000000) (B := 2000000) (by omega) (by omega) (by omega) (by omega)
  have m2 := mul_bd (a := Q.1) (b := P.2.2) (A := 2000000000) (B := 2000000) (by omega) (by omega) (by omega) (by omega)
  have m3 := mul_bd (a := P.2.1) (b := Q.2.2) (A := 2000000000) (B := 2000000) (by omega) (by omega) (by omega) (by omega)
  have m4 := mul_bd (a := Q.2.1) (b := P.2.2) (A := 2000000000) (B := 2000000) (by omega) (by omega) (by omega) (by omega)
  exact ⟨⟨by omega, by omega⟩, by omega, by omega⟩
/-- the candidate becomes the best -/
theorem taken_spec {τ : St} {x : Int} (h0 : 0 < x) (hx : x ≤ 2) : ∃ υ, f_X11_better_b89 τ x = some υ ∧ (∀ k, k ≠ 0 → υ k = τ k) ∧ (∀ j, j < 39 ∨ 44 < j → υ 0 j = τ 0 j) ∧ υ 0 39 = 1 ∧ bpt υ = mpt τ ∧ υ 0 43 = τ 0 37 ∧ υ 0 44 = τ 0 38 := by
  refine ⟨_, by rw [f_X11_better_b89, jc_I (by omega) (by omega), if_pos h0, jchk_t (Or.inr rfl), jlet_v, jlet_v, jlet_v, jlet_v, jlet_v, jlet_v], fun k hk => ?_, fun j hj => ?_, ?_, ?_, ?_, ?_⟩
  · rw [up2_k hk, up2_k hk, up2_k hk, up2_k hk, up2_k hk, up2_k hk]
  · rw [up2_j (by omega), up2_j (by omega), up2_j (by omega), up2_j (by omega), up2_j (by omega), up2_j (by omega)]
  · rw [up2_j (by omega), up2_j (by omega), up2_j (by omega), up2_j (by omega), up2_j (by omega), up2_same]
  · unfold bpt mpt
    simp (disch := decide) only [up2_j, up2_same]
  · simp (disch := decide) only [up2_j, up2_same]
  · simp (disch := decide) only [up2_j, up2_same]
theorem better_spec {σC σM τ : St} (h : Rw σC σM) (ok : okQ (mpt τ)) (va : vl σC (mpt τ) (τ 0 37)) (h38 : τ 0 38 = (mpt τ).2.2 * (mpt τ).2.2) {S : Pt → Prop} (hB : BM σC S τ) : ∃ υ, f_X11_better τ = some υ ∧ (∀ k, k ≠ 0 → υ k = τ k) ∧ (∀ j, j < 39 ∨ 44 < j → υ 0 j = τ 0 j) ∧ BM σC (fun X => S X ∨ X = mpt τ) υ := by
  obtain ⟨w, nw, ew⟩ := id va
  obtain ⟨ra, rb⟩ := wsq_rng h ok nw.1
  rw [← ew] at ra rb
  obtain ⟨sq1, sq2⟩ := ok.sq
  have new : ∀ x, 0 < x → x ≤ 2 → BST σC (fun X => S X ∨ X = mpt τ) (mpt τ) (τ 0 37) → ∃ υ, f_X11_better_b89 τ x = some υ ∧ (∀ k, k ≠ 0 → υ k = τ k) ∧ (∀ j, j < 39 ∨ 44 < j → υ 0 j = τ 0 j) ∧ BM σC (fun X => S X ∨ X = mpt τ) υ := fun x x0 x2 hb => by
    obtain ⟨υ, t1, t2, t3, t4, t5, t6, t7⟩ := taken_spec (τ := τ) x0 x2
    exact ⟨υ, t1, t2, t3, Or.inr ⟨t4, by rw [t5, t6]; exact hb, by rw [t5, t7, h38]⟩⟩
  rcases hB with ⟨f0, emp⟩ | ⟨f1, bst, bot⟩
  · rw [f_X11_better, f_X11_better_b0, f0, jc_I (by omega) (by omega), if_pos rfl, f_X11_better_b30, jlet_v, jc_I (by omega) (by omega), if_neg (by decide), jc_I (by omega) (by omega), if_neg (by decide), jlet_v, f_X11_better_b65, jc_I (by omega) (by omega), if_neg (by decide)]
    exact new 2 (by omega) (by omega) (BST.first emp ok va)
  · obtain ⟨-, okB, ⟨w', nw', ew'⟩, -⟩ := id bst
    obtain ⟨rc, rd⟩ := wsq_rng h okB nw'.1
    rw [← ew'] at rc rd
    obtain ⟨sq3, sq4⟩ := okB.sq
    have stay : ¬ gtv (mpt τ) (τ 0 37) (bpt τ) (τ 0 43) → BM σC (fun X => S X ∨ X = mpt τ) τ := fun g => Or.inr ⟨f1, bst.old va g, bot⟩
    have keep : ∀ x, x ≤ 0 → -1 ≤ x → f_X11_better_b89 τ x = some τ := fun x x0 x1 => by rw [f_X11_better_b89, jc_I (by omega) (by omega), if_neg (by omega)]
    have fr := (frac_eq (a := τ 0 37) (b := τ 0 38) (c := τ 0 43) (d := τ 0 44) ra (by omega) (by rw [h38]; exact sq1) (by rw [h38]; omega) rc (by omega) (by rw [bot]; exact sq3) (by rw [bot]; omega)).2
    rw [f_X11_better, f_X11_better_b0, f1, jc_I (by omega) (by omega), if_neg (by decide), fr, jbind_s, f_X11_better_b30, jlet_v, h38, bot]
    obtain ⟨F, eF⟩ : ∃ F, F = τ 0 37 * ((bpt τ).2.2 * (bpt τ).2.2) - τ 0 43 * ((mpt τ).2.2 * (mpt τ).2.2) := ⟨_, rfl⟩
    rw [← eF]
    have sr := sg_rng F
    rw [jc_I (by omega) (by omega)]
    by_cases c0 : sg F = 0
    · have F0 := sg_zero.mp c0
      obtain ⟨x1, x2⟩ := okB.cross ok
      have o1 : f_X11_order (τ 0 40) (τ 0 42) (τ 0 34) (τ 0 36) = some (sg ((bpt τ).1 * (mpt τ).2.2 - (mpt τ).1 * (bpt τ).2.2)) := order_spec x1
      have o2 : f_X11_order (τ 0 41) (τ 0 42) (τ 0 35) (τ 0 36) = some (sg ((bpt τ).2.1 * (mpt τ).2.2 - (mpt τ).2.1 * (bpt τ).2.2)) := order_spec x2
      have s1 := sg_rng ((bpt τ).1 * (mpt τ).2.2 - (mpt τ).1 * (bpt τ).2.2)
      have s2 := sg_rng ((bpt τ).2.1 * (mpt τ).2.2 - (mpt τ).2.1 * (bpt τ).2.2)
      rw [if_pos c0, o1, jbind_s, jlet_v, f_X11_better_b65, jc_I (by omega) (by omega)]
      by_cases d0 : sg ((bpt τ).1 * (mpt τ).2.2 - (mpt τ).1 * (bpt τ).2.2) = 0
      · have D0 := sg_zero.mp d0
        rw [if_pos d0, o2, jbind_s, jlet_v]
        by_cases e0 : 0 < sg ((bpt τ).2.1 * (mpt τ).2.2 - (mpt τ).2.1 * (bpt τ).2.2)
        · have E0 := sg_pos.mp e0
          exact new _ e0 (by omega) (bst.new ok va (Or.inr ⟨by omega, Or.inr ⟨by omega, by omega⟩⟩))
        · have E0 : ¬ 0 < (bpt τ).2.1 * (mpt τ).2.2 - (mpt τ).2.1 * (bpt τ).2.2 := fun z => e0 (sg_pos.mpr z)
          refine ⟨τ, keep _ (by omega) (by omega), fun _ _ => rfl, fun _ _ => rfl, stay (fun g => ?_)⟩
          rcases g with g | ⟨g1, g2 | ⟨g2, g3⟩⟩ <;> omega
      · rw [if_neg d0]
        by_cases e0 : 0 < sg ((bpt τ).1 * (mpt τ).2.2 - (mpt τ).1 * (bpt τ).2.2)
        · have E0 := sg_pos.mp e0
          exact new _ e0 (by omega) (bst.new ok va (Or.inr ⟨by omega, Or.inl (by omega)⟩))
        · have E0 : ¬ 0 < (bpt τ).1 * (mpt τ).2.2 - (mpt τ).1 * (bpt τ).2.2 := fun z => e0 (sg_pos.mpr z)
          have E1 : ¬ (bpt τ).1 * (mpt τ).2.2 - (mpt τ).1 * (bpt τ).2.2 = 0 := fun z => d0 (sg_zero.mpr z)
          refine ⟨τ, keep _ (by omega) (by omega), fun _ _ => rfl, fun _ _ => rfl, stay (fun g => ?_)⟩
          rcases g with g | ⟨g1, g2 | ⟨g2, g3⟩⟩ <;> omega
    · rw [if_neg c0, jc_I (by omega) (by omega)]
      by_cases c1 : sg F < 0
      · have F1 := sg_neg.mp c1
        rw [if_pos c1]
        refine ⟨τ, rfl, fun _ _ => rfl, fun _ _ => rfl, stay (fun g => ?_)⟩
        rcases g with g | ⟨g1, -⟩ <;> omega
      · have F1 : 0 < F := sg_pos.mp (by omega)
        rw [if_neg c1, jlet_v, f_X11_better_b65, jc_I (by omega) (by omega), if_neg (by decide)]
        exact new 2 (by omega) (by omega) (bst.new ok va (Or.inl (by omega)))
