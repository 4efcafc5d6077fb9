/-! ===== the pure side 59: the best of several points ===== -/
/-- P, at distance a, goes before Q, at distance b -/
def gtv (P : Pt) (a : Int) (Q : Pt) (b : Int) : Prop := b * (P.2.2 * P.2.2) < a * (Q.2.2 * Q.2.2) ∨ (b * (P.2.2 * P.2.2) = a * (Q.2.2 * Q.2.2) ∧ bef P Q)
theorem gt_tr {a b c x y z : Int} (hx : 0 < x) (hy : 0 < y) (hz : 0 < z) (h1 : b * x ≤ a * y) (h2 : c * y ≤ b * z) : c * x ≤ a * z ∧ ((b * x < a * y ∨ c * y < b * z) → c * x < a * z) := by
  have k1 := Int.mul_nonneg (show 0 ≤ a * y - b * x by omega) (show 0 ≤ z by omega)
  have k2 := Int.mul_nonneg (show 0 ≤ b * z - c * y by omega) (show 0 ≤ x by omega)
  have e : y * (a * z - c * x) = (a * y - b * x) * z + (b * z - c * y) * x := by grind
  constructor
  · have := pos_mul (y := a * z - c * x) hy (by omega)
    omega
  · intro hs
    have : 0 < y * (a * z - c * x) := by
      rcases hs with s | s
      · have := Int.mul_pos (show 0 < a * y - b * x by omega) hz
        omega
      · have := Int.mul_pos (show 0 < b * z - c * y by omega) hx
        omega
    have := pos_mul' hy this
    omega
theorem dd {P : Pt} (h : 0 < P.2.2) : 0 < P.2.2 * P.2.2 := Int.mul_pos h h
theorem gtv.trans {P Q R : Pt} {a b c : Int} (hP : 0 < P.2.2) (hQ : 0 < Q.2.2) (hR : 0 < R.2.2) (h1 : gtv P a Q b) (h2 : gtv Q b R c) : gtv P a R c := by
  have l1 : b * (P.2.2 * P.2.2) ≤ a * (Q.2.2 * Q.2.2) := by rcases h1 with z | ⟨z, -⟩ <;> omega
  have l2 : c * (Q.2.2 * Q.2.2) ≤ b * (R.2.2 * R.2.2) := by rcases h2 with z | ⟨z, -⟩ <;> omega
  obtain ⟨t1, t2⟩ := gt_tr (dd hP) (dd hQ) (dd hR) l1 l2
  rcases h1 with z1 | ⟨z1, y1⟩
  · exact Or.inl (t2 (Or.inl z1))
  · rcases h2 with z2 | ⟨z2, y2⟩
    · exact Or.inl (t2 (Or.inr z2))
    · by_cases e : c * (P.2.2 * P.2.2) < a * (R.2.2 * R.2.2)
      · exact Or.inl e
      · exact Or.inr ⟨by omega, bef.trans hP hQ hR y1 y2⟩
theorem gtv.irr {P : Pt} {a : Int} : ¬ gtv P a P a := fun h => by
  rcases h with z | ⟨-, z⟩
  · omega
  · exact bef.irr z
def okQ (P : Pt) : Prop := 0 < P.2.2 ∧ P.2.2 ≤ 2000000 ∧ 0 ≤ P.1 ∧ P.1 ≤ 1000 * P.2.2 ∧ 0 ≤ P.2.1 ∧ P.2.1 ≤ 1000 * P.2.2
def vl (σ : St) (P : Pt) (a : Int) : Prop := ∃ w, NEa σ P w ∧ a = wsq σ P w
theorem vl.uniq {σ : St} {P : Pt} {a b : Int} (h1 : vl σ P a) (h2 : vl σ P b) : a = b := by
  obtain ⟨w, n1, rfl⟩ := h1
  obtain ⟨v, n2, rfl⟩ := h2
  have := n1.2.2 v n2.1 n2.2.1
  have := n2.2.2 w n1.1 n1.2.1
  omega
/-- the best of those in S -/
def BST (σ : St) (S : Pt → Prop) (P : Pt) (a : Int) : Prop := S P ∧ okQ P ∧ vl σ P a ∧ ∀ P' a', S P' → okQ P' → vl σ P' a' → ¬ gtv P' a' P a
theorem BST.first {σ : St} {S : Pt → Prop} {P : Pt} {a : Int} (h : ∀ X, ¬ S X) (ok : okQ P) (hv : vl σ P a) : BST σ (fun X => S X ∨ X = P) P a := ⟨Or.inr rfl, ok, hv, fun P' a' s _ v => by
  rcases s with s | s
  · exact absurd s (h _)
  · rw [s] at v ⊢
    rw [v.uniq hv]
    exact gtv.irr⟩
theorem BST.new {σ : St} {S : Pt → Prop} {P Q : Pt} {a b : Int} (h : BST σ S P a) (ok : okQ Q) (hv : vl σ Q b) (hg : gtv Q b P a) : BST σ (fun X => S X ∨ X = Q) Q b := ⟨Or.inr rfl, ok, hv, fun P' a' s o v g => by
  rcases s with s | s
  · exact h.2.2.2 P' a' s o v (g.trans o.1 ok.1 h.2.1.1 hg)
  · rw [s] at v g
    rw [v.uniq hv] at g
    exact gtv.irr g⟩
theorem BST.old {σ : St} {S : Pt → Prop} {P Q : Pt} {a b : Int} (h : BST σ S P a) (hv : vl σ Q b) (hg : ¬ gtv Q b P a) : BST σ (fun X => S X ∨ X = Q) P a := ⟨Or.inl h.1, h.2.1, h.2.2.1, fun P' a' s o v => by
  rcases s with s | s
  · exact h.2.2.2 P' a' s o v
  · rw [s] at v ⊢
    rw [v.uniq hv]
    exact hg⟩
theorem wsq_rng {σC σM : St} (h : Rw σC σM) {P : Pt} {w : Nat} (ok : okQ P) (hw : w < 24) : 0 ≤ wsq σC P w ∧ wsq σC P w ≤ 8000000000000000000 := by
  obtain ⟨a1, a2, a3, a4, a5, a6⟩ := ok
  obtain ⟨-, -, w1, w2⟩ := h.rng hw
  have x1 := Int.mul_nonneg (show 0 ≤ P.2.2 by omega) w1.1
  have x2 := Int.mul_le_mul_of_nonneg_left w1.2 (show 0 ≤ P.2.2 by omega)
  have y1 := Int.mul_nonneg (show 0 ≤ P.2.2 by omega) w2.1
  have y2 := Int.mul_le_mul_of_nonneg_left w2.2 (show 0 ≤ P.2.2 by omega)
  have m1 := mul_bd (a := P.1 - P.2.2 * σC 3 w) (b := P.1 - P.2.2 * σC 3 w) (A := 2000000000) (B := 2000000000) (by omega) (by omega) (by omega) (by omega)
  have m2 := mul_bd (a := P.2.1 - P.2.2 * σC 4 w) (b := P.2.1 - P.2.2 * σC 4 w) (A := 2000000000) (B := 2000000000) (by omega) (by omega) (by omega) (by omega)
  have n1 := sq_nn (P.1 - P.2.2 * σC 3 w)
  have n2 := sq_nn (P.2.1 - P.2.2 * σC 4 w)
  unfold wsq
  constructor <;> omega
theorem okQ.sq {P : Pt} (ok : okQ P) : 0 < P.2.2 * P.2.2 ∧ P.2.2 * P.2.2 ≤ 4000000000000 := by
  obtain ⟨a1, a2, -⟩ := ok
  have m := mul_bd (a := P.2.2) (b := P.2.2) (A := 2000000) (B := 2000000) (by omega) (by omega) (by omega) (by omega)
  exact ⟨Int.mul_pos a1 a1, by omega⟩
theorem okP.Q {p : Pt} (h : okP p) : okQ (hf p) := by
  obtain ⟨a1, a2, a3, a4, a5, a6⟩ := h
  unfold okQ hf
  dsimp only
  omega
/-! the component's best -/
def BC (σ : St) (S : Pt → Prop) (τ : St) : Prop := (τ 41 3 = 0 ∧ ∀ P, ¬ S P) ∨ (τ 41 3 = 1 ∧ okP (ptO τ 57 0) ∧ BST σ S (hf (ptO τ 57 0)) (τ 41 5) ∧ τ 41 6 = (hf (ptO τ 57 0)).2.2 * (hf (ptO τ 57 0)).2.2)
theorem ln57 : lnO 57 = 2 := rfl
theorem add57 {τ : St} {n : Nat} {x y d e : Int} (hn : n < 2) (h0 : τ 57 0 = (n : Int)) : f_X4_add τ 57 x y d e = some (addO τ 57 n x y d e) := by
  rw [f_X4_add, f_X4_add_b0, ln57, h0, jc_II (by omega) (by omega) (by omega) (by omega), if_pos (by omega), jc_ix (by omega) (by omega), jlet_v, cast_n, up2_k (k' := 57) (by decide), h0, jc_ix (by omega) (by omega), jlet_v, cast_n, up2_k (k' := 57) (by decide), up2_k (k' := 57) (by decide), h0, jc_ix (by omega) (by omega), jlet_v, cast_n, up2_k (k' := 57) (by decide), up2_k (k' := 57) (by decide), up2_k (k' := 57) (by decide), h0, jc_ix (by omega) (by omega), jlet_v, cast_n, jlet_v, up2_k (k' := 57) (by decide), up2_k (k' := 57) (by decide), up2_k (k' := 57) (by decide), up2_k (k' := 57) (by decide), h0, cast_s]
  rfl
theorem addFrom57 {μ : St} {o s n i : Nat} (hG : GD 42 o s) (hi : i < 28) (hn : n < 2) (h0 : μ 57 0 = (n : Int)) : f_X4_addFrom μ 57 o (i : Int) 0 = some (addO μ 57 n (ptO μ o i).1 (ptO μ o i).2.1 (ptO μ o i).2.2 0) := by
  obtain ⟨n1, -⟩ := hG.ln
  rw [f_X4_addFrom, f_X4_addFrom_b0, n1, jc_ix (by omega) (by omega), jc_ix (by omega) (by omega), jc_ix (by omega) (by omega), cast_n, add57 hn h0, jbind_s]
  rfl
theorem bef57 {τ : St} (h1 : okP (ptO τ 57 1)) (h2 : okP (ptO τ 57 0)) : (bef (ptO τ 57 1) (ptO τ 57 0) ∧ f_X4_isBefore τ 57 1 0 = some 1) ∨ (¬ bef (ptO τ 57 1) (ptO τ 57 0) ∧ f_X4_isBefore τ 57 1 0 = some 0) := by
  obtain ⟨a1, a2, a3, a4, a5, a6⟩ := h1
  obtain ⟨b1, b2, b3, b4, b5, b6⟩ := h2
  have m1 := mul_bd (a := (ptO τ 57 1).1) (b := (ptO τ 57 0).2.2) (A := 4000000000) (B := 2000000) (by omega) (by omega) (by omega) (by omega)
  have m2 := mul_bd (a := (ptO τ 57 0).1) (b := (ptO τ 57 1).2.2) (A := 4000000000) (B := 2000000) (by omega) (by omega) (by omega) (by omega)
  have m3 := mul_bd (a := (ptO τ 57 1).2.1) (b := (ptO τ 57 0).2.2) (A := 4000000000) (B := 2000000) (by omega) (by omega) (by omega) (by omega)
  have m4 := mul_bd (a := (ptO τ 57 0).2.1) (b := (ptO τ 57 1).2.2) (A := 4000000000) (B := 2000000) (by omega) (by omega) (by omega) (by omega)
  have st : f_X4_isBefore τ 57 1 0 = jz (jchk (inL ((ptO τ 57 1).1 * (ptO τ 57 0).2.2 - (ptO τ 57 0).1 * (ptO τ 57 1).2.2) ∧ inL 0) (if (ptO τ 57 1).1 * (ptO τ 57 0).2.2 - (ptO τ 57 0).1 * (ptO τ 57 1).2.2 < 0 then some 1 else jchk (inL ((ptO τ 57 1).1 * (ptO τ 57 0).2.2 - (ptO τ 57 0).1 * (ptO τ 57 1).2.2) ∧ inL 0) (if (ptO τ 57 1).1 * (ptO τ 57 0).2.2 - (ptO τ 57 0).1 * (ptO τ 57 1).2.2 = 0 then jchk (inL ((ptO τ 57 1).2.1 * (ptO τ 57 0).2.2) ∧ inL ((ptO τ 57 0).2.1 * (ptO τ 57 1).2.2)) (if (ptO τ 57 1).2.1 * (ptO τ 57 0).2.2 < (ptO τ 57 0).2.1 * (ptO τ 57 1).2.2 then some 1 else some 0) else some 0))) := by
    rw [f_X4_isBefore, f_X4_isBefore_b0, ln57, jc_ix (by omega) (by omega), jc_ix (by omega) (by omega), jc_ix (by omega) (by omega), jc_ix (by omega) (by omega), jlet_v, jc_ix (by omega) (by omega), jc_ix (by omega) (by omega), jc_ix (by omega) (by omega), jc_ix (by omega) (by omega)]
    rfl
  rw [st, jc_LL (by omega) (by omega) (by omega) (by omega)]
  unfold bef
  by_cases c1 : (ptO τ 57 1).1 * (ptO τ 57 0).2.2 - (ptO τ 57 0).1 * (ptO τ 57 1).2.2 < 0
  · rw [if_pos c1]
    exact Or.inl ⟨Or.inl c1, rfl⟩
  · rw [if_neg c1, jc_LL (by omega) (by omega) (by omega) (by omega)]
    by_cases c2 : (ptO τ 57 1).1 * (ptO τ 57 0).2.2 - (ptO τ 57 0).1 * (ptO τ 57 1).2.2 = 0
    · rw [if_pos c2, jc_LL (by omega) (by omega) (by omega) (by omega)]
      by_cases c3 : (ptO τ 57 1).2.1 * (ptO τ 57 0).2.2 < (ptO τ 57 0).2.1 * (ptO τ 57 1).2.2
      · rw [if_pos c3]
        exact Or.inl ⟨Or.inr ⟨c2, c3⟩, rfl⟩
      · rw [if_neg c3]
        exact Or.inr ⟨by omega, rfl⟩
    · rw [if_neg c2]
      exact Or.inr ⟨by omega, rfl⟩
