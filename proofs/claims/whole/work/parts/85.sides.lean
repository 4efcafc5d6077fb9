/-! ===== the pure side 65: the model tries sides ===== -/
def ab (b : Int) : Int := if b < 0 then -b else b
def ns (b c : Int) : Int := if b < 0 then -c else c
/-- the point that is tried on a side -/
def onP (b c at_ : Int) (isX : Bool) : Pt := if isX = true then (at_ * ab b, ns b c, ab b) else (ns b c, at_ * ab b, ab b)
def TO (b c at_ most : Int) (isX : Bool) (X : Pt) : Prop := b ≠ 0 ∧ 0 ≤ ns b c ∧ ns b c ≤ most * ab b ∧ X = onP b c at_ isX
theorem triesOn_spec {σC τ : St} (h : Rw σC τ) {b c at_ most : Int} {isX : Bool} (b1 : -2000 ≤ b) (b2 : b ≤ 2000) (c1 : -10000000 ≤ c) (c2 : c ≤ 10000000) (a1 : 0 ≤ at_) (a2 : at_ ≤ 1000) (m1 : 0 ≤ most) (m2 : most ≤ 1000) (hs : ∃ w, w < 24 ∧ pC σC w = true) {S : Pt → Prop} (hB : BM σC S τ) : ∃ υ, f_X11_triesOn τ b c at_ (bI isX) most = some υ ∧ MT τ υ ∧ BM σC (fun X => S X ∨ TO b c at_ most isX X) υ := by
  have none : ¬ (b ≠ 0 ∧ 0 ≤ ns b c ∧ ns b c ≤ most * ab b) → BM σC (fun X => S X ∨ TO b c at_ most isX X) τ := fun hn => hB.cong (fun X => ⟨Or.inl, fun z => by
    rcases z with z | ⟨z1, z2, z3, -⟩
    · exact z
    · exact absurd ⟨z1, z2, z3⟩ hn⟩)
  by_cases b0 : b = 0
  · refine ⟨τ, ?_, MT.refl _, none (fun z => z.1 b0)⟩
    rw [f_X11_triesOn, f_X11_triesOn_b0, jc_LL (by omega) (by omega) (by omega) (by omega), if_pos b0]
  · have st : f_X11_triesOn τ b c at_ (bI isX) most = f_X11_triesOn_b33 τ at_ (bI isX) most (ab b) (ns b c) := by
      rw [f_X11_triesOn, f_X11_triesOn_b0, jc_LL (by omega) (by omega) (by omega) (by omega), if_neg b0, jc_LL (by omega) (by omega) (by omega) (by omega)]
      unfold ab ns
      by_cases n : b < 0
      · rw [if_pos n, if_pos n, if_pos n, f_X11_triesOn_b19, jlet_v, jc_LL (by omega) (by omega) (by omega) (by omega), if_pos n]
      · rw [if_neg n, if_neg n, if_neg n, f_X11_triesOn_b19, jlet_v, jc_LL (by omega) (by omega) (by omega) (by omega), if_neg n]
    have d1 : 0 < ab b ∧ ab b ≤ 2000 := by unfold ab; split <;> omega
    have n1 : -10000000 ≤ ns b c ∧ ns b c ≤ 10000000 := by unfold ns; split <;> omega
    obtain ⟨d, ed⟩ : ∃ d, d = ab b := ⟨_, rfl⟩
    obtain ⟨n, en⟩ : ∃ n, n = ns b c := ⟨_, rfl⟩
    rw [← ed] at d1
    rw [← en] at n1
    have md := mul_bd (a := most) (b := d) (A := 1000) (B := 2000) (by omega) (by omega) (by omega) (by omega)
    have ad := Int.mul_nonneg a1 (show 0 ≤ d by omega)
    have ad2 := Int.mul_le_mul_of_nonneg_right a2 (show 0 ≤ d by omega)
    have md2 := Int.mul_le_mul_of_nonneg_right m2 (show 0 ≤ d by omega)
    have br := bI_rng isX
    rw [← ed, ← en] at st none
    rw [st, f_X11_triesOn_b33, jlet_v, jc_LL (by omega) (by omega) (by omega) (by omega)]
    by_cases q1 : n < 0
    · rw [if_pos q1]
      exact ⟨τ, rfl, MT.refl _, none (fun z => by omega)⟩
    · rw [if_neg q1, jc_LL (by omega) (by omega) (by omega) (by omega)]
      by_cases q2 : most * d < n
      · rw [if_pos q2]
        exact ⟨τ, rfl, MT.refl _, none (fun z => by omega)⟩
      · rw [if_neg q2, jc_I (by omega) (by omega)]
        have fin : ∀ P : Pt, P = onP b c at_ isX → BM σC (fun X => S X ∨ TO b c at_ most isX X) = BM σC (fun X => S X ∨ X = P) := fun P hP => by
          congr 1
          funext X
          apply propext
          unfold TO
          rw [← hP, ← ed, ← en]
          constructor
          · rintro (z | ⟨-, -, -, z⟩)
            · exact Or.inl z
            · exact Or.inr z
          · rintro (z | z)
            · exact Or.inl z
            · exact Or.inr ⟨b0, by omega, by omega, z⟩
        cases isX with
        | false =>
          obtain ⟨υ, u1, u2, u3⟩ := tries_spec (x := n) (y := at_ * d) (d := d) h (by unfold okQ; dsimp only; omega) hs hB
          rw [bI_f, if_pos rfl, u1, jbind_s]
          refine ⟨υ, rfl, u2, ?_⟩
          rw [fin (n, at_ * d, d) (by unfold onP; rw [if_neg (by decide), ← ed, ← en])]
          exact u3
        | true =>
          obtain ⟨υ, u1, u2, u3⟩ := tries_spec (x := at_ * d) (y := n) (d := d) h (by unfold okQ; dsimp only; omega) hs hB
          rw [bI_t, if_neg (by decide), u1, jbind_s]
          refine ⟨υ, rfl, u2, ?_⟩
          rw [fin (at_ * d, n, d) (by unfold onP; rw [if_pos rfl, ← ed, ← en])]
          exact u3
def bA (σ : St) (v w : Nat) : Int := 2 * (σ 3 w - σ 3 v)
def bB (σ : St) (v w : Nat) : Int := 2 * (σ 4 w - σ 4 v)
def bC' (σ : St) (v w : Nat) : Int := (σ 3 w * σ 3 w + σ 4 w * σ 4 w) - (σ 3 v * σ 3 v + σ 4 v * σ 4 v)
/-- the points tried for two wells: at x, y of a side -/
def TP (σ : St) (v w : Nat) (x y : Int) (X : Pt) : Prop := TO (bB σ v w) (bC' σ v w - bA σ v w * x) x (σ 1 1) true X ∨ TO (bA σ v w) (bC' σ v w - bB σ v w * y) y (σ 1 0) false X
theorem side_pair {σC τ : St} (h : Rw σC τ) {v w : Nat} (hv : v < 24) (hw : w < 24) (pv : pC σC v = true) {x y : Int} (x1 : 0 ≤ x) (x2 : x ≤ 1000) (y1 : 0 ≤ y) (y2 : y ≤ 1000) {S : Pt → Prop} (hB : BM σC S τ) : ∃ μ υ, f_X11_triesOn τ (bB σC v w) (bC' σC v w - bA σC v w * x) x 1 (σC 1 1) = some μ ∧ MT τ μ ∧ f_X11_triesOn μ (bA σC v w) (bC' σC v w - bB σC v w * y) y 0 (σC 1 0) = some υ ∧ MT τ υ ∧ BM σC (fun X => S X ∨ TP σC v w x y X) υ := by
  obtain ⟨-, -, v1, v2⟩ := h.rng hv
  obtain ⟨-, -, w1, w2⟩ := h.rng hw
  have wd := h.1.1
  have hg := h.1.2.1
  have s1 := mul_bd (a := σC 3 w) (b := σC 3 w) (A := 1000) (B := 1000) (by omega) (by omega) (by omega) (by omega)
  have s2 := mul_bd (a := σC 4 w) (b := σC 4 w) (A := 1000) (B := 1000) (by omega) (by omega) (by omega) (by omega)
  have s3 := mul_bd (a := σC 3 v) (b := σC 3 v) (A := 1000) (B := 1000) (by omega) (by omega) (by omega) (by omega)
  have s4 := mul_bd (a := σC 4 v) (b := σC 4 v) (A := 1000) (B := 1000) (by omega) (by omega) (by omega) (by omega)
  have s5 := mul_bd (a := bA σC v w) (b := x) (A := 2000) (B := 1000) (by unfold bA; omega) (by unfold bA; omega) (by omega) (by omega)
  have s6 := mul_bd (a := bB σC v w) (b := y) (A := 2000) (B := 1000) (by unfold bB; omega) (by unfold bB; omega) (by omega) (by omega)
  have c : -4000000 ≤ bC' σC v w ∧ bC' σC v w ≤ 4000000 := by unfold bC'; omega
  obtain ⟨μ, m1, m2, m3⟩ := triesOn_spec (b := bB σC v w) (c := bC' σC v w - bA σC v w * x) (at_ := x) (most := σC 1 1) (isX := true) h (by unfold bB; omega) (by unfold bB; omega) (by omega) (by omega) x1 x2 (by omega) (by omega) ⟨v, hv, pv⟩ hB
  obtain ⟨υ, u1, u2, u3⟩ := triesOn_spec (b := bA σC v w) (c := bC' σC v w - bB σC v w * y) (at_ := y) (most := σC 1 0) (isX := false) (MT.R h m2) (by unfold bA; omega) (by unfold bA; omega) (by omega) (by omega) y1 y2 (by omega) (by omega) ⟨v, hv, pv⟩ m3
  refine ⟨μ, υ, m1, m2, u1, m2.trans u2, u3.cong (fun X => ?_)⟩
  unfold TP
  constructor
  · rintro ((z | z) | z)
    · exact Or.inl z
    · exact Or.inr (Or.inl z)
    · exact Or.inr (Or.inr z)
  · rintro (z | z | z)
    · exact Or.inl (Or.inl z)
    · exact Or.inl (Or.inr z)
    · exact Or.inr z
