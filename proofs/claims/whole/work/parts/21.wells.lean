/-! ===== the pure side 1: guards away; wells ===== -/
theorem jc_I {α : Type} {a : Int} {x : Option α} (h1 : -2147483648 ≤ a) (h2 : a < 2147483648) : jchk (inI a) x = x := jchk_t ⟨h1, h2⟩
theorem jc_II {α : Type} {a b : Int} {x : Option α} (h1 : -2147483648 ≤ a) (h2 : a < 2147483648) (h3 : -2147483648 ≤ b) (h4 : b < 2147483648) : jchk (inI a ∧ inI b) x = x := jchk_t ⟨⟨h1, h2⟩, h3, h4⟩
theorem jc_L {α : Type} {a : Int} {x : Option α} (h1 : -9223372036854775808 ≤ a) (h2 : a < 9223372036854775808) : jchk (inL a) x = x := jchk_t ⟨h1, h2⟩
theorem jc_LL {α : Type} {a b : Int} {x : Option α} (h1 : -9223372036854775808 ≤ a) (h2 : a < 9223372036854775808) (h3 : -9223372036854775808 ≤ b) (h4 : b < 9223372036854775808) : jchk (inL a ∧ inL b) x = x := jchk_t ⟨⟨h1, h2⟩, h3, h4⟩
theorem jc_ix {α : Type} {i n : Int} {x : Option α} (h1 : 0 ≤ i) (h2 : i < n) : jchk (0 ≤ i ∧ i < n) x = x := jchk_t ⟨h1, h2⟩
theorem jc_z0 {α : Type} {x : Option α} : jchk ((0 : Int) = 0 ∨ (0 : Int) = 1) x = x := jchk_t (Or.inl rfl)
theorem jc_z1 {α : Type} {x : Option α} : jchk ((1 : Int) = 0 ∨ (1 : Int) = 1) x = x := jchk_t (Or.inr rfl)
theorem jz_0 : jz (some 0) = some 0 := rfl
theorem jz_1 : jz (some 1) = some 1 := rfl
theorem jand_rng (a b : Int) : inI (jand a b) := fb_rngI _
theorem jshr_rng (a b : Int) : inI (jshr a b) := fb_rngI _
theorem jor_rng (a b : Int) : inI (jor a b) := fb_rngI _
theorem jshl_rng (a b : Int) : inI (jshl a b) := fb_rngI _
/-- a kind and its number -/
def okK (k n : Int) : Prop := (k = 0 ∧ n = 0) ∨ (k = 1 ∧ 0 ≤ n ∧ n ≤ 1000000) ∨ (k = 2 ∧ 0 ≤ n ∧ n ≤ 999999) ∨ (k = 3 ∧ n = 0) ∨ (k = 4 ∧ 1 ≤ n ∧ n ≤ 15)
/-- a map that can be: sizes, wells (kind -1: none there), no two at one place -/
def WF (wide high : Int) (K X Y N : Nat → Int) : Prop :=
  (1 ≤ wide ∧ wide ≤ 1000) ∧ (1 ≤ high ∧ high ≤ 1000) ∧
  (∀ w, w < 24 → (K w = -1 ∧ X w = 0 ∧ Y w = 0 ∧ N w = 0) ∨ (okK (K w) (N w) ∧ 0 ≤ X w ∧ X w ≤ wide ∧ 0 ≤ Y w ∧ Y w ≤ high)) ∧
  (∀ v w, v < 24 → w < 24 → K v ≠ -1 → K w ≠ -1 → X v = X w → Y v = Y w → v = w)
/-- does a well of this kind and number count in this season -/
def cn (se k n : Int) : Bool := decide (k ≠ -1 ∧ k ≠ 3 ∧ (k = 4 → jand (jshr n se) 1 = 1))
theorem WF.rng {wide high : Int} {K X Y N : Nat → Int} (h : WF wide high K X Y N) {w : Nat} (hw : w < 24) : (-1 ≤ K w ∧ K w ≤ 4) ∧ (0 ≤ N w ∧ N w ≤ 1000000) ∧ (0 ≤ X w ∧ X w ≤ wide) ∧ (0 ≤ Y w ∧ Y w ≤ high) := by
  obtain ⟨h1, h2, h3, -⟩ := h
  rcases h3 w hw with h | ⟨h, h4⟩
  · omega
  · unfold okK at h
    omega
/-- a truth as a number -/
def bI (b : Bool) : Int := match b with
  | true => 1
  | false => 0
theorem bI_t : bI true = 1 := rfl
theorem bI_f : bI false = 0 := rfl
theorem bI_rng (b : Bool) : 0 ≤ bI b ∧ bI b ≤ 1 := by cases b <;> simp [bI]
theorem has_in {σ : St} {w : Nat} (hw : w < 24) (hK : -1 ≤ σ 5 w ∧ σ 5 w ≤ 4) : f_X9_has σ (w : Int) = some (if σ 5 w = -1 then 0 else 1) := by
  rw [f_X9_has, f_X9_has_b0]
  by_cases h : σ 5 w = -1
  · simp (disch := omega) only [cast_n, jc_I, jc_II, jc_ix, if_pos, if_neg, ↓reduceIte, jz_0]
  · simp (disch := omega) only [cast_n, jc_I, jc_II, jc_ix, if_pos, if_neg, ↓reduceIte, jz_1]
theorem has_out {σ : St} {w : Int} (hi : inI w) (h : w < 0 ∨ 24 ≤ w) : f_X9_has σ w = some 0 := by
  obtain ⟨h1, h2⟩ := hi
  rw [f_X9_has, f_X9_has_b0]
  by_cases q : w < 0
  · simp (disch := omega) only [jc_I, jc_II, jc_ix, if_pos, if_neg, ↓reduceIte, jz_0]
  · simp (disch := omega) only [jc_I, jc_II, jc_ix, if_pos, if_neg, ↓reduceIte, jz_0]
theorem cnC {σ : St} {w : Nat} (hw : w < 24) (hK : -1 ≤ σ 5 w ∧ σ 5 w ≤ 4) : f_X9_isCounted σ (w : Int) = some (bI (cn (σ 1 2) (σ 5 w) (σ 6 w))) := by
  rw [f_X9_isCounted, f_X9_isCounted_b0, has_in hw hK, jbind_s]
  obtain ⟨a1, a2⟩ := jand_rng (jshr (σ 6 w) (σ 1 2)) 1
  by_cases h : σ 5 w = -1
  · have e : cn (σ 1 2) (σ 5 w) (σ 6 w) = false := by simp [cn, h]
    simp (disch := omega) only [e, bI_f, cast_n, jc_I, jc_II, jc_ix, if_pos, if_neg, ↓reduceIte, jz_0]
  · by_cases h3 : σ 5 w = 3
    · have e : cn (σ 1 2) (σ 5 w) (σ 6 w) = false := by simp [cn, h3]
      simp (disch := omega) only [e, bI_f, cast_n, jc_I, jc_II, jc_ix, if_pos, if_neg, ↓reduceIte, jz_0]
    · by_cases h4 : σ 5 w = 4
      · by_cases h5 : jand (jshr (σ 6 w) (σ 1 2)) 1 = 1
        · have e : cn (σ 1 2) (σ 5 w) (σ 6 w) = true := by simp [cn, h4, h5]
          simp (disch := omega) only [e, bI_t, cast_n, jc_I, jc_II, jc_ix, if_pos, if_neg, ↓reduceIte, jz_1]
        · have e : cn (σ 1 2) (σ 5 w) (σ 6 w) = false := by simp [cn, h4, h5]
          simp (disch := omega) only [e, bI_f, cast_n, jc_I, jc_II, jc_ix, if_pos, if_neg, ↓reduceIte, jz_0]
      · have e : cn (σ 1 2) (σ 5 w) (σ 6 w) = true := by simp [cn, h, h3, h4]
        simp (disch := omega) only [e, bI_t, cast_n, jc_I, jc_II, jc_ix, if_pos, if_neg, ↓reduceIte, jz_1]
theorem cnC_out {σ : St} {w : Int} (hi : inI w) (h : w < 0 ∨ 24 ≤ w) : f_X9_isCounted σ w = some 0 := by
  rw [f_X9_isCounted, f_X9_isCounted_b0, has_out hi h, jbind_s]
  simp (disch := omega) only [jc_I, if_pos, ↓reduceIte, jz_0]
/-- the model's wells are these -/
def RM (σ : St) (K X Y N : Nat → Int) : Prop := ∀ w, w < 24 → (σ 1 w = 0 ∧ K w = -1) ∨ (σ 1 w = 1 ∧ K w ≠ -1 ∧ σ 4 w = K w ∧ σ 2 w = X w ∧ σ 3 w = Y w ∧ σ 5 w = N w)
theorem wellM {σ : St} {K X Y N : Nat → Int} (h : RM σ K X Y N) {w : Nat} (hw : w < 24) : f_X11_isWell σ (w : Int) = some (if K w = -1 then 0 else 1) := by
  rw [f_X11_isWell, f_X11_isWell_b0]
  rcases h w hw with ⟨h1, h2⟩ | ⟨h1, h2, -⟩
  · simp (disch := omega) only [cast_n, jc_I, jc_II, jc_ix, if_pos, if_neg, ↓reduceIte, jz_0]
  · simp (disch := omega) only [cast_n, jc_I, jc_II, jc_ix, if_pos, if_neg, ↓reduceIte, jz_1]
theorem wellM_out {σ : St} {w : Int} (hi : inI w) (h : w < 0 ∨ 24 ≤ w) : f_X11_isWell σ w = some 0 := by
  obtain ⟨h1, h2⟩ := hi
  rw [f_X11_isWell, f_X11_isWell_b0]
  by_cases q : w < 0
  · simp (disch := omega) only [jc_I, jc_II, jc_ix, if_pos, if_neg, ↓reduceIte, jz_0]
  · simp (disch := omega) only [jc_I, jc_II, jc_ix, if_pos, if_neg, ↓reduceIte, jz_0]
theorem cnM {σ : St} {K X Y N : Nat → Int} (h : RM σ K X Y N) {w : Nat} (hw : w < 24) (hK : -1 ≤ K w ∧ K w ≤ 4) : f_X11_counts σ (w : Int) = some (bI (cn (σ 0 2) (K w) (N w))) := by
  rw [f_X11_counts, f_X11_counts_b0, wellM h hw, jbind_s]
  rcases h w hw with ⟨h1, h2⟩ | ⟨h1, h2, h4, -, -, h5⟩
  · have e : cn (σ 0 2) (K w) (N w) = false := by simp [cn, h2]
    simp (disch := omega) only [e, bI_f, cast_n, jc_I, jc_II, jc_ix, if_pos, if_neg, ↓reduceIte, jz_0]
  · rw [cast_n, h4, h5]
    obtain ⟨a1, a2⟩ := jand_rng (jshr (N w) (σ 0 2)) 1
    by_cases q3 : K w = 3
    · have e : cn (σ 0 2) (K w) (N w) = false := by simp [cn, q3]
      simp (disch := omega) only [e, bI_f, jc_I, jc_II, jc_ix, if_pos, if_neg, ↓reduceIte, jz_0]
    · by_cases q4 : K w = 4
      · by_cases q5 : jand (jshr (N w) (σ 0 2)) 1 = 1
        · have e : cn (σ 0 2) (K w) (N w) = true := by simp [cn, q4, q5]
          simp (disch := omega) only [e, bI_t, jc_I, jc_II, jc_ix, if_pos, if_neg, ↓reduceIte, jz_1]
        · have e : cn (σ 0 2) (K w) (N w) = false := by simp [cn, q4, q5]
          simp (disch := omega) only [e, bI_f, jc_I, jc_II, jc_ix, if_pos, if_neg, ↓reduceIte, jz_0]
      · have e : cn (σ 0 2) (K w) (N w) = true := by simp [cn, h2, q3, q4]
        simp (disch := omega) only [e, bI_t, jc_I, jc_II, jc_ix, if_pos, if_neg, ↓reduceIte, jz_1]
theorem cnM_w {σ : St} {K X Y N : Nat → Int} (h : RM σ K X Y N) {w : Nat} (hw : w < 24) (hK : -1 ≤ K w ∧ K w ≤ 4) : f_X11_counts σ (w : Int) = some (bI (cn (σ 0 2) (K w) (N w))) := cnM h hw hK
theorem cnC_w {σ : St} {w : Nat} (hw : w < 24) (hK : -1 ≤ σ 5 w ∧ σ 5 w ≤ 4) : f_X9_isCounted σ (w : Int) = some (bI (cn (σ 1 2) (σ 5 w) (σ 6 w))) := cnC hw hK
theorem cnM_out {σ : St} {w : Int} (hi : inI w) (h : w < 0 ∨ 24 ≤ w) : f_X11_counts σ w = some 0 := by
  rw [f_X11_counts, f_X11_counts_b0, wellM_out hi h, jbind_s]
  simp (disch := omega) only [jc_I, if_pos, ↓reduceIte, jz_0]
