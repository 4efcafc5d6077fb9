/-! ===== the pure side 25: the model's net ===== -/
theorem key_less {σ : St} {v w x y : Nat} (hv : v < 24) (hw : w < 24) (hx : x < 24) (hy : y < 24) (h : sqd σ v w < sqd σ x y) : key σ v w < key σ x y := by
  have a := lo_hi hv hw
  have b := lo_hi hx hy
  unfold key
  omega
theorem key_lex {σ : St} {v w x y : Nat} (hvw : v < w) (hxy : x < y) (hw : w < 24) (hy : y < 24) (h : sqd σ x y ≤ sqd σ v w) (hl : x < v ∨ (x = v ∧ y < w)) : key σ x y ≤ key σ v w := by
  unfold key lo2 hi2
  rw [if_pos hvw, if_pos hvw, if_pos hxy, if_pos hxy]
  omega
/-- the least pair of those looked at: all with a first below n, or with first n and second below m -/
def BI (σ : St) (X : Nat → Nat → Prop) (n m : Nat) (q : Int × Int) : Prop := (q.1 = -1 ∧ ∀ v w, v < w → w < 24 → (v < n ∨ (v = n ∧ w < m)) → ¬ X v w) ∨ ∃ x y : Nat, q = ((x : Int), (y : Int)) ∧ x < y ∧ y < 24 ∧ (x < n ∨ (x = n ∧ y < m)) ∧ X x y ∧ ∀ v w, v < w → w < 24 → (v < n ∨ (v = n ∧ w < m)) → X v w → key σ x y ≤ key σ v w
theorem scan_inner {σ : St} {X : Nat → Nat → Prop} {v : Nat} (hv : v < 24) {body : Int × Int × Int → Option ((Int × Int × Int) ⊕ (Int × Int))} (h1 : ∀ a b w, v < w → w < 24 → ¬ X v w → body (a, b, (w : Int)) = some (.inl (a, b, ((w + 1 : Nat) : Int)))) (h2 : ∀ b w, v < w → w < 24 → X v w → body (-1, b, (w : Int)) = some (.inl ((v : Int), (w : Int), ((w + 1 : Nat) : Int)))) (h3 : ∀ x y w : Nat, v < w → w < 24 → X v w → x < y → y < 24 → X x y → body ((x : Int), (y : Int), (w : Int)) = some (.inl (if sqd σ v w < sqd σ x y then ((v : Int), (w : Int), ((w + 1 : Nat) : Int)) else ((x : Int), (y : Int), ((w + 1 : Nat) : Int))))) (h4 : ∀ a b, body (a, b, ((24 : Nat) : Int)) = some (.inr (a, b))) {q : Int × Int} (hq : BI σ X v 0 q) (fuel : Nat) (hf : 24 < fuel) : ∃ e, jloop body fuel (q.1, q.2, ((v + 1 : Nat) : Int)) = some e ∧ BI σ X (v + 1) 0 e := by
  refine jloop_ex (I := fun w s => s.2.2 = ((w : Nat) : Int) ∧ v < w ∧ BI σ X v w (s.1, s.2.1)) (N := 24) (J := _) ?_ ?_ (24 - (v + 1)) (v + 1) fuel _ (by omega) (by omega) ⟨rfl, by omega, ?_⟩
  · rintro w ⟨a, b, _⟩ hw ⟨rfl, vw, hB⟩
    dsimp only at hB
    by_cases x : X v w
    · rcases hB with ⟨e, hn⟩ | ⟨x0, y0, e, xy, hy, hl, xX, hm⟩
      · dsimp only at e
        subst e
        refine ⟨_, h2 b w vw hw x, rfl, by omega, Or.inr ⟨v, w, rfl, vw, hw, Or.inr ⟨rfl, by omega⟩, x, fun v' w' h1 h2 h3 xx => ?_⟩⟩
        by_cases c : v' = v ∧ w' = w
        · rw [c.1, c.2]; omega
        · exact absurd xx (hn v' w' h1 h2 (by omega))
      · cases e
        have st := h3 x0 y0 w vw hw x xy hy xX
        by_cases c : sqd σ v w < sqd σ x0 y0
        · rw [if_pos c] at st
          refine ⟨_, st, rfl, by omega, Or.inr ⟨v, w, rfl, vw, hw, Or.inr ⟨rfl, by omega⟩, x, fun v' w' h1 h2 h3 xx => ?_⟩⟩
          have k1 := key_less (σ := σ) hv hw (show x0 < 24 by omega) hy c
          by_cases c : v' = v ∧ w' = w
          · rw [c.1, c.2]; omega
          · have := hm v' w' h1 h2 (by omega) xx
            omega
        · rw [if_neg c] at st
          refine ⟨_, st, rfl, by omega, Or.inr ⟨x0, y0, rfl, xy, hy, by omega, xX, fun v' w' h1 h2 h3 xx => ?_⟩⟩
          by_cases c2 : v' = v ∧ w' = w
          · rw [c2.1, c2.2]
            exact key_lex vw xy hw hy (by omega) hl
          · exact hm v' w' h1 h2 (by omega) xx
    · refine ⟨_, h1 a b w vw hw x, rfl, by omega, ?_⟩
      rcases hB with ⟨e, hn⟩ | ⟨x0, y0, e, xy, hy, hl, xX, hm⟩
      · refine Or.inl ⟨e, fun v' w' h1 h2 h3 xx => ?_⟩
        by_cases c : v' = v ∧ w' = w
        · rw [c.1, c.2] at xx; exact x xx
        · exact hn v' w' h1 h2 (by omega) xx
      · refine Or.inr ⟨x0, y0, e, xy, hy, by omega, xX, fun v' w' h1 h2 h3 xx => ?_⟩
        by_cases c : v' = v ∧ w' = w
        · rw [c.1, c.2] at xx; exact absurd xx x
        · exact hm v' w' h1 h2 (by omega) xx
  · rintro ⟨a, b, _⟩ ⟨rfl, vw, hB⟩
    refine ⟨_, h4 a b, ?_⟩
    rcases hB with ⟨e, hn⟩ | ⟨x0, y0, e, xy, hy, hl, xX, hm⟩
    · exact Or.inl ⟨e, fun v' w' h1 h2 h3 => hn v' w' h1 h2 (by omega)⟩
    · exact Or.inr ⟨x0, y0, e, xy, hy, by omega, xX, fun v' w' h1 h2 h3 => hm v' w' h1 h2 (by omega)⟩
  · rcases hq with ⟨e, hn⟩ | ⟨x0, y0, e, xy, hy, hl, xX, hm⟩
    · exact Or.inl ⟨e, fun v' w' h1 h2 h3 => hn v' w' h1 h2 (by omega)⟩
    · exact Or.inr ⟨x0, y0, e, xy, hy, by omega, xX, fun v' w' h1 h2 h3 => hm v' w' h1 h2 (by omega)⟩
theorem scan_outer {σ : St} {X : Nat → Nat → Prop} {body : Int × Int × Int → Option ((Int × Int × Int) ⊕ (Int × Int))} (h1 : ∀ (v : Nat) (q : Int × Int), v < 24 → BI σ X v 0 q → ∃ e : Int × Int, body (q.1, q.2, (v : Int)) = some (.inl (e.1, e.2, ((v + 1 : Nat) : Int))) ∧ BI σ X (v + 1) 0 e) (h4 : ∀ a b, body (a, b, ((24 : Nat) : Int)) = some (.inr (a, b))) (fuel : Nat) (hf : 24 < fuel) : ∃ e : Int × Int, jloop body fuel (-1, -1, 0) = some e ∧ ((e.1 = -1 ∧ ∀ v w, v < w → w < 24 → ¬ X v w) ∨ ∃ x y : Nat, e = ((x : Int), (y : Int)) ∧ x < y ∧ y < 24 ∧ X x y ∧ ∀ v w, v < w → w < 24 → X v w → key σ x y ≤ key σ v w) := by
  refine jloop_ex (I := fun v s => s.2.2 = ((v : Nat) : Int) ∧ BI σ X v 0 (s.1, s.2.1)) (N := 24) (J := _) ?_ ?_ 24 0 fuel _ (by omega) (by omega) ⟨rfl, Or.inl ⟨rfl, fun v w _ _ z => absurd z (by omega)⟩⟩
  · rintro v ⟨a, b, _⟩ hv ⟨rfl, hB⟩
    obtain ⟨e, e1, e2⟩ := h1 v (a, b) hv hB
    exact ⟨_, e1, rfl, e2⟩
  · rintro ⟨a, b, _⟩ ⟨rfl, hB⟩
    refine ⟨_, h4 a b, ?_⟩
    rcases hB with ⟨e, hn⟩ | ⟨x0, y0, e, xy, hy, hl, xX, hm⟩
    · exact Or.inl ⟨e, fun v w h1 h2 => hn v w h1 h2 (by omega)⟩
    · exact Or.inr ⟨x0, y0, e, xy, hy, xX, fun v w h1 h2 => hm v w h1 h2 (by omega)⟩
/-- wells of two pieces -/
def Xp (σC : St) (pc : Nat → Int) (v w : Nat) : Prop := pC σC v = true ∧ pC σC w = true ∧ pc v ≠ pc w
theorem tree_scan {σC τ : St} (h : Rw σC τ) (h27 : ∀ w, w < 24 → 0 ≤ τ 27 w ∧ τ 27 w < 24) : ∃ e : Int × Int, jloop (fun (q : (Int × Int × Int)) => match q with | (x2, x3, x4) => f_X11_tree_b39 τ x2 x3 x4) 1000 (-1, -1, 0) = some e ∧ ((e.1 = -1 ∧ ∀ v w, v < w → w < 24 → ¬ Xp σC (τ 27) v w) ∨ ∃ x y : Nat, e = ((x : Int), (y : Int)) ∧ x < y ∧ y < 24 ∧ Xp σC (τ 27) x y ∧ ∀ v w, v < w → w < 24 → Xp σC (τ 27) v w → key σC x y ≤ key σC v w) := by
  refine scan_outer (fun v q hv hB => ?_) (fun a b => ?_) 1000 (by omega)
  · have cnt : ∀ w : Nat, w < 24 → f_X11_counts τ (w : Int) = some (bI (pC σC w)) := fun w hw => h.cnM hw
    obtain ⟨e, e1, e2⟩ := scan_inner (σ := σC) (X := Xp σC (τ 27)) hv (body := fun (q : (Int × Int × Int)) => match q with | (x2, x3, x5) => f_X11_tree_b52 τ x2 x3 (v : Int) x5) (fun a b w vw hw nX => by
      show f_X11_tree_b52 τ a b (v : Int) (w : Int) = _
      rw [f_X11_tree_b52, jc_II (by omega) (by omega) (by omega) (by omega), if_pos (by omega), cnt v hv, jbind_s]
      cases pv : pC σC v with
      | false => rw [bI_f, jc_I (by omega) (by omega), if_pos rfl, jlet_v, cast_s]
      | true =>
        rw [bI_t, jc_I (by omega) (by omega), if_neg (by omega), cnt w hw, jbind_s]
        cases pw : pC σC w with
        | false => rw [bI_f, jc_I (by omega) (by omega), if_pos rfl, jlet_v, cast_s]
        | true =>
          have r1 := h27 v hv
          have r2 := h27 w hw
          have e : τ 27 v = τ 27 w := by
            by_cases c : τ 27 v = τ 27 w
            · exact c
            · exact absurd ⟨pv, pw, c⟩ nX
          rw [bI_t, jc_I (by omega) (by omega), if_neg (by omega), jc_ix (by omega) (by omega), jc_ix (by omega) (by omega), cast_n, cast_n, jc_II (by omega) (by omega) (by omega) (by omega), if_pos e, jlet_v, cast_s]) (fun b w vw hw X => by
      show f_X11_tree_b52 τ (-1) b (v : Int) (w : Int) = _
      obtain ⟨pv, pw, ne⟩ := X
      have r1 := h27 v hv
      have r2 := h27 w hw
      rw [f_X11_tree_b52, jc_II (by omega) (by omega) (by omega) (by omega), if_pos (by omega), cnt v hv, pv, jbind_s, bI_t, jc_I (by omega) (by omega), if_neg (by omega), cnt w hw, pw, jbind_s, bI_t, jc_I (by omega) (by omega), if_neg (by omega), jc_ix (by omega) (by omega), jc_ix (by omega) (by omega), cast_n, cast_n, jc_II (by omega) (by omega) (by omega) (by omega), if_neg ne, jc_II (by omega) (by omega) (by omega) (by omega), if_pos rfl, f_X11_tree_b120, jlet_v, jlet_v, jlet_v, cast_s]) (fun x y w vw hw X xy hy X2 => by
      show f_X11_tree_b52 τ (x : Int) (y : Int) (v : Int) (w : Int) = _
      obtain ⟨pv, pw, ne⟩ := X
      obtain ⟨px, py, -⟩ := X2
      have r1 := h27 v hv
      have r2 := h27 w hw
      have d1 := h.sq2 hv hw
      have d2 := h.sq2 (show x < 24 by omega) hy
      rw [f_X11_tree_b52, jc_II (by omega) (by omega) (by omega) (by omega), if_pos (by omega), cnt v hv, pv, jbind_s, bI_t, jc_I (by omega) (by omega), if_neg (by omega), cnt w hw, pw, jbind_s, bI_t, jc_I (by omega) (by omega), if_neg (by omega), jc_ix (by omega) (by omega), jc_ix (by omega) (by omega), cast_n, cast_n, jc_II (by omega) (by omega) (by omega) (by omega), if_neg ne, jc_II (by omega) (by omega) (by omega) (by omega), if_neg (by omega), apart_spec h hv hw pv pw, jbind_s, apart_spec h (by omega) hy px py, jbind_s, jc_LL (by omega) (by omega) (by omega) (by omega)]
      by_cases c : sqd σC v w < sqd σC x y
      · rw [if_pos c, if_pos c, f_X11_tree_b120, jlet_v, jlet_v, jlet_v, cast_s]
      · rw [if_neg c, if_neg c, jlet_v, cast_s]) (fun a b => by
      show f_X11_tree_b52 τ a b (v : Int) ((24 : Nat) : Int) = _
      rw [f_X11_tree_b52, jc_II (by omega) (by omega) (by omega) (by omega), if_neg (by omega)]) hB 1000 (by omega)
    refine ⟨e, ?_, e2⟩
    show f_X11_tree_b39 τ q.1 q.2 (v : Int) = _
    rw [f_X11_tree_b39, jc_II (by omega) (by omega) (by omega) (by omega), if_pos (by omega), jlet_v, cast_s, e1, jbind_s]
    dsimp only
    rw [jlet_v]
  · show f_X11_tree_b39 τ a b ((24 : Nat) : Int) = _
    rw [f_X11_tree_b39, jc_II (by omega) (by omega) (by omega) (by omega), if_neg (by omega)]
/-- one piece takes the other's name -/
theorem merge_loop {τ : St} {x1 : Int} {a : Nat} {g : Int} (ha : a < 24) (h27 : ∀ w, w < 24 → 0 ≤ τ 27 w ∧ τ 27 w < 24) (hg : 0 ≤ g ∧ g < 24) (hne : τ 27 a ≠ g) (fuel : Nat) (hf : 24 < fuel) : ∃ υ, jloop (fun (q : (St × Int)) => match q with | (σ, x5) => f_X11_tree_b197 σ x1 (a : Int) g x5) fuel (τ, 0) = some υ ∧ (∀ k, k ≠ 27 → υ k = τ k) ∧ ∀ w, w < 24 → υ 27 w = if τ 27 w = g then τ 27 a else τ 27 w := by
  have key0 : ∃ υ, jloop (fun (q : (St × Int)) => match q with | (σ, x5) => f_X11_tree_b197 σ x1 (a : Int) g x5) fuel (τ, 0) = some υ ∧ (∀ k, k ≠ 27 → υ k = τ k) ∧ ∀ w, w < 24 → υ 27 w = if w < 24 ∧ τ 27 w = g then τ 27 a else τ 27 w := by
    refine jloop_ex (I := fun n s => s.2 = (n : Int) ∧ (∀ k, k ≠ 27 → s.1 k = τ k) ∧ ∀ w, w < 24 → s.1 27 w = if w < n ∧ τ 27 w = g then τ 27 a else τ 27 w) (N := 24) (J := _) ?_ ?_ 24 0 fuel _ (by omega) (by omega) ⟨rfl, fun _ _ => rfl, fun w _ => by rw [if_neg (by omega)]⟩
    · rintro n ⟨μ, _⟩ hn ⟨rfl, i1, i2⟩
      dsimp only at i1 i2
      show ∃ s', f_X11_tree_b197 μ x1 (a : Int) g (n : Int) = some (.inl s') ∧ _
      have ga : μ 27 a = τ 27 a := by rw [i2 a ha, if_neg (fun z => hne z.2)]
      have gn : μ 27 n = τ 27 n := by rw [i2 n hn, if_neg (fun z => by omega)]
      have r := h27 n hn
      have rest : ∀ w, w < 24 → w ≠ n → μ 27 w = if w < n + 1 ∧ τ 27 w = g then τ 27 a else τ 27 w := by
        intro w hw e
        rw [i2 w hw]
        by_cases c : w < n ∧ τ 27 w = g
        · rw [if_pos c, if_pos ⟨by omega, c.2⟩]
        · rw [if_neg c, if_neg (fun z => c ⟨by omega, z.2⟩)]
      rw [f_X11_tree_b197, jc_II (by omega) (by omega) (by omega) (by omega), if_pos (by omega), jc_ix (by omega) (by omega), cast_n, gn, jc_II (by omega) (by omega) (by omega) (by omega)]
      by_cases c : τ 27 n = g
      · rw [if_pos c, jc_ix (by omega) (by omega), jc_ix (by omega) (by omega), jlet_v, jlet_v, cast_n, ga, cast_s]
        refine ⟨_, rfl, rfl, fun k hk => by dsimp only; rw [up2_k hk, i1 k hk], fun w hw => ?_⟩
        dsimp only
        by_cases e : w = n
        · rw [e, up2_same, if_pos ⟨by omega, c⟩]
        · rw [up2_j e]; exact rest w hw e
      · rw [if_neg c, jlet_v, cast_s]
        refine ⟨_, rfl, rfl, i1, fun w hw => ?_⟩
        dsimp only
        by_cases e : w = n
        · rw [e, gn, if_neg (fun z => c z.2)]
        · exact rest w hw e
    · rintro ⟨μ, _⟩ ⟨rfl, i1, i2⟩
      refine ⟨μ, ?_, i1, i2⟩
      show f_X11_tree_b197 μ x1 (a : Int) g ((24 : Nat) : Int) = _
      rw [f_X11_tree_b197, jc_II (by omega) (by omega) (by omega) (by omega), if_neg (by omega)]
  obtain ⟨υ, e0, e1, e2⟩ := key0
  refine ⟨υ, e0, e1, fun w hw => ?_⟩
  rw [e2 w hw]
  by_cases c : τ 27 w = g
  · rw [if_pos ⟨hw, c⟩, if_pos c]
  · rw [if_neg (fun z => c z.2), if_neg c]
/-- the names of pieces in use -/
def labN (p : Nat → Bool) (pc : Nat → Int) (l : Nat) : Nat → Bool
  | 0 => false
  | n + 1 => labN p pc l n || (p n && decide (pc n = (l : Int)))
theorem labN_iff {p : Nat → Bool} {pc : Nat → Int} {l : Nat} : ∀ {n : Nat}, labN p pc l n = true ↔ ∃ w, w < n ∧ (p w = true ∧ pc w = (l : Int))
  | 0 => ⟨fun z => absurd z (by simp [labN]), fun z => by
    obtain ⟨i, hi, -⟩ := z
    exact absurd hi (Nat.not_lt_zero i)⟩
  | n + 1 => by
    simp only [labN, Bool.or_eq_true, Bool.and_eq_true, decide_eq_true_eq, labN_iff (n := n)]
    constructor
    · rintro (⟨i, hi, e⟩ | e)
      · exact ⟨i, by omega, e⟩
      · exact ⟨n, by omega, e⟩
    · rintro ⟨i, hi, e⟩
      by_cases c : i = n
      · rw [c] at e; exact Or.inr e
      · exact Or.inl ⟨i, by omega, e⟩
def labB (p : Nat → Bool) (pc : Nat → Int) (l : Nat) : Bool := labN p pc l 24
theorem lab_iff {p : Nat → Bool} {pc : Nat → Int} {l : Nat} : labB p pc l = true ↔ ∃ w, w < 24 ∧ (p w = true ∧ pc w = (l : Int)) := labN_iff
theorem lab_f {p : Nat → Bool} {pc : Nat → Int} {l : Nat} (h : ∀ w, w < 24 → p w = true → pc w ≠ (l : Int)) : labB p pc l = false := by
  cases c : labB p pc l with
  | false => rfl
  | true =>
    obtain ⟨w, hw, pw, e⟩ := lab_iff.mp c
    exact absurd e (h w hw pw)
theorem bool_iff {a b : Bool} (h : a = true ↔ b = true) : a = b := by
  cases a <;> cases b <;> simp_all
/-- what holds while the model's net grows -/
def TI (σC σM : St) (m : Nat) (τ : St) : Prop :=
  (∀ k, k ≠ 0 → k ≠ 25 → k ≠ 26 → k ≠ 27 → τ k = σM k) ∧ (∀ j, j ≠ 45 → τ 0 j = σM 0 j) ∧ τ 0 45 = (m : Int) ∧ (∀ w, w < 24 → 0 ≤ τ 27 w ∧ τ 27 w < 24) ∧
  (∀ i, i < m → ∃ u v : Nat, u < v ∧ v < 24 ∧ pC σC u = true ∧ pC σC v = true ∧ τ 25 i = (u : Int) ∧ τ 26 i = (v : Int)) ∧
  asc (fun i => key σC (τ 25 i).toNat (τ 26 i).toNat) m ∧ ct (labB (pC σC) (τ 27)) 24 + m = ct (pC σC) 24 ∧
  ∃ l, KR (pC σC) (key σC) (τ 27) (fun x => ∃ i, i < m ∧ key σC (τ 25 i).toNat (τ 26 i).toNat = x) l
theorem tree_step {σC σM τ : St} (h : Rw σC σM) {m x y : Nat} (hT : TI σC σM m τ) (xy : x < y) (hy : y < 24) (hX : Xp σC (τ 27) x y) (hmin : ∀ v w, v < w → w < 24 → Xp σC (τ 27) v w → key σC x y ≤ key σC v w) : ∃ υ, f_X11_tree_b148 τ (x : Int) (y : Int) 1 = some (.inl (υ, 1)) ∧ TI σC σM (m + 1) υ := by
  obtain ⟨t1, t2, t3, t4, t5, t6, t7, l, t8⟩ := hT
  obtain ⟨px, py, ne⟩ := hX
  have hx : x < 24 := by omega
  have rx := t4 x hx
  have ry := t4 y hy
  obtain ⟨cx, ecx⟩ : ∃ c : Nat, τ 27 x = (c : Int) := ⟨(τ 27 x).toNat, by omega⟩
  obtain ⟨cy, ecy⟩ : ∃ c : Nat, τ 27 y = (c : Int) := ⟨(τ 27 y).toNat, by omega⟩
  -- two names are in use at least
  have two : 2 ≤ ct (labB (pC σC) (τ 27)) 24 := by
    have l1 : labB (pC σC) (τ 27) cx = true := lab_iff.mpr ⟨x, hx, px, ecx⟩
    have l2 : labB (pC σC) (τ 27) cy = true := lab_iff.mpr ⟨y, hy, py, ecy⟩
    rcases (by omega : cx < cy ∨ cy < cx) with c | c
    · have a1 := ct_lt l1 c
      have a2 := ct_lt l2 (show cy < 24 by omega)
      omega
    · have a1 := ct_lt l2 c
      have a2 := ct_lt l1 (show cx < 24 by omega)
      omega
  have h24 := ct_le (pC σC) 24
  have hm : m < 23 := by omega
  have e27 : up2 (up2 (up2 τ 25 m (x : Int)) 26 m (y : Int)) 0 45 ((m : Int) + 1) 27 = τ 27 := by rw [up2_k (by omega), up2_k (by omega), up2_k (by omega)]
  obtain ⟨υ, u0, u1, u2⟩ := merge_loop (τ := up2 (up2 (up2 τ 25 m (x : Int)) 26 m (y : Int)) 0 45 ((m : Int) + 1)) (x1 := 1) (a := x) (g := τ 27 y) hx (by rw [e27]; exact t4) ry (by rw [e27]; exact ne) 1000 (by omega)
  rw [e27] at u2
  have v25 : ∀ i, υ 25 i = if i = m then (x : Int) else τ 25 i := fun i => by
    rw [u1 25 (by decide), up2_k (by omega), up2_k (by omega)]
    by_cases c : i = m
    · rw [c, up2_same, if_pos rfl]
    · rw [up2_j c, if_neg c]
  have v26 : ∀ i, υ 26 i = if i = m then (y : Int) else τ 26 i := fun i => by
    rw [u1 26 (by decide), up2_k (by omega)]
    by_cases c : i = m
    · rw [c, up2_same, if_pos rfl]
    · rw [up2_j c, if_neg c, up2_k (by omega)]
  have vk : ∀ i, i < m → key σC (υ 25 i).toNat (υ 26 i).toNat = key σC (τ 25 i).toNat (τ 26 i).toNat := fun i hi => by rw [v25, v26, if_neg (by omega), if_neg (by omega)]
  have vm : key σC (υ 25 m).toNat (υ 26 m).toNat = key σC x y := by rw [v25, v26, if_pos rfl, if_pos rfl, cast_n, cast_n]
  have minAll : ∀ u v, u < 24 → v < 24 → pC σC u = true → pC σC v = true → τ 27 u ≠ τ 27 v → key σC x y ≤ key σC u v := by
    intro u v hu hv pu pv z
    rcases (by omega : u < v ∨ v < u ∨ u = v) with c | c | c
    · exact hmin u v c hv ⟨pu, pv, z⟩
    · rw [key_sym σC u v]; exact hmin v u c hu ⟨pv, pu, fun e => z e.symm⟩
    · rw [c] at z; exact absurd rfl z
  refine ⟨υ, ?_, fun k k0 k1 k2 k3 => ?_, fun j hj => ?_, ?_, ?_, ?_, ?_, ?_, key σC x y, ?_⟩
  · rw [f_X11_tree_b148, jlet_v, jc_I (by omega) (by omega), if_neg (by omega), t3, jc_ix (by omega) (by omega), jlet_v, cast_n, up2_k (k' := 0) (by decide), t3, jc_ix (by omega) (by omega), jlet_v, cast_n, up2_k (k' := 0) (by decide), up2_k (k' := 0) (by decide), t3, jlet_v, jc_ix (by omega) (by omega), cast_n, e27, jlet_v, jlet_v, u0, jbind_s]
  · rw [u1 k k3, up2_k k0, up2_k k2, up2_k k1, t1 k k0 k1 k2 k3]
  · rw [u1 0 (by decide), up2_j hj, up2_k (by omega), up2_k (by omega), t2 j hj]
  · rw [u1 0 (by decide), up2_same]; omega
  · intro w hw
    rw [u2 w hw]
    have := t4 w hw
    split <;> omega
  · intro i hi
    rw [v25, v26]
    by_cases c : i = m
    · rw [if_pos c, if_pos c]
      exact ⟨x, y, xy, hy, px, py, rfl, rfl⟩
    · rw [if_neg c, if_neg c]
      exact t5 i (by omega)
  · intro i j hij hj
    dsimp only
    by_cases c : j = m
    · rw [c, vm, vk i (by omega)]
      have k2 := t8.2.1 x y hx hy px py ne
      have k5 := t8.2.2.2.2 _ ⟨i, by omega, rfl⟩
      omega
    · rw [vk i (by omega), vk j (by omega)]
      exact t6 i j hij (by omega)
  · have : ct (labB (pC σC) (τ 27)) 24 = ct (labB (pC σC) (υ 27)) 24 + 1 := by
      refine ct_add2 (m := cy) (lab_f (fun w hw pw => ?_)) (lab_iff.mpr ⟨y, hy, py, ecy⟩) 24 (fun k hk kne => bool_iff ?_) (by omega)
      · rw [u2 w hw]
        by_cases c : τ 27 w = τ 27 y
        · rw [if_pos c]; omega
        · rw [if_neg c]; omega
      · rw [lab_iff, lab_iff]
        constructor
        · rintro ⟨w, hw, pw, e⟩
          refine ⟨w, hw, pw, ?_⟩
          rw [u2 w hw, if_neg (by omega)]
          exact e
        · rintro ⟨w, hw, pw, e⟩
          rw [u2 w hw] at e
          by_cases c : τ 27 w = τ 27 y
          · rw [if_pos c] at e
            exact ⟨x, hx, px, e⟩
          · rw [if_neg c] at e
            exact ⟨w, hw, pw, e⟩
    omega
  · refine t8.step (key_sym σC) (fun u v x y hu hv hx hy e => key_pair hu hv hx hy e) hx hy px py ne minAll u2 (fun z => ?_)
    constructor
    · rintro ⟨i, hi, e⟩
      by_cases c : i = m
      · rw [c, vm] at e; exact Or.inr e.symm
      · rw [vk i (by omega)] at e; exact Or.inl ⟨i, by omega, e⟩
    · rintro (⟨i, hi, e⟩ | e)
      · exact ⟨i, by omega, by rw [vk i hi]; exact e⟩
      · exact ⟨m, by omega, by rw [vm]; exact e.symm⟩
theorem tree_loop {σC σM τ0 : St} (h : Rw σC σM) (h0 : TI σC σM 0 τ0) (fuel : Nat) (hf : 30 < fuel) : ∃ τ, jloop (fun (q : (St × Int)) => match q with | (σ, x1) => f_X11_tree_b28 σ x1) fuel (τ0, 1) = some τ ∧ ∃ m, TI σC σM m τ ∧ ∀ v w, v < w → w < 24 → ¬ Xp σC (τ 27) v w := by
  have h24 := ct_le (pC σC) 24
  refine jloop_or (I := fun i s => (s.2 = 1 ∧ TI σC σM i s.1) ∨ (s.2 = 0 ∧ ∃ m, TI σC σM m s.1 ∧ ∀ v w, v < w → w < 24 → ¬ Xp σC (s.1 27) v w)) (N := 25) (J := _) ?_ ?_ 25 0 fuel _ (by omega) (by omega) (Or.inl ⟨rfl, h0⟩)
  · rintro i ⟨τ, _⟩ hi hI
    dsimp only at hI
    rcases hI with ⟨rfl, hT⟩ | ⟨rfl, hT⟩
    · left
      show ∃ s', f_X11_tree_b28 τ 1 = some (.inl s') ∧ _
      have hR : Rw σC τ := h.cM (fun k h1 h2 => hT.1 k (by omega) (by omega) (by omega) (by omega)) (hT.2.1 0 (by decide)) (hT.2.1 1 (by decide)) (hT.2.1 2 (by decide))
      obtain ⟨⟨a, b⟩, e0, e1⟩ := tree_scan hR hT.2.2.2.1
      rw [f_X11_tree_b28, jc_I (by omega) (by omega), if_neg (by omega), jlet_v, jlet_v, jlet_v, e0, jbind_s]
      dsimp only
      rcases e1 with ⟨e1, e2⟩ | ⟨x, y, e1, xy, hy, hX, hmin⟩
      · dsimp only at e1
        subst e1
        rw [jc_II (by omega) (by omega) (by omega) (by omega), if_pos rfl, f_X11_tree_b148, jlet_v, jc_I (by omega) (by omega), if_pos rfl]
        exact ⟨_, rfl, Or.inr ⟨rfl, i, hT, e2⟩⟩
      · cases e1
        rw [jc_II (by omega) (by omega) (by omega) (by omega), if_neg (by omega)]
        obtain ⟨υ, u0, u1⟩ := tree_step h hT xy hy hX hmin
        exact ⟨_, u0, Or.inl ⟨rfl, u1⟩⟩
    · right
      refine ⟨τ, ?_, hT⟩
      show f_X11_tree_b28 τ 0 = _
      rw [f_X11_tree_b28, jc_I (by omega) (by omega), if_pos rfl]
  · rintro ⟨τ, _⟩ hI
    dsimp only at hI
    rcases hI with ⟨rfl, hT⟩ | ⟨rfl, hT⟩
    · have := hT.2.2.2.2.2.2.1
      omega
    · refine ⟨τ, ?_, hT⟩
      show f_X11_tree_b28 τ 0 = _
      rw [f_X11_tree_b28, jc_I (by omega) (by omega), if_pos rfl]
theorem piece_loop {σ : St} (fuel : Nat) (hf : 24 < fuel) : ∃ τ, jloop (fun (q : (St × Int)) => match q with | (σ, x1) => f_X11_tree_b7 σ x1) fuel (σ, 0) = some τ ∧ (∀ k, k ≠ 27 → τ k = σ k) ∧ ∀ w, w < 24 → τ 27 w = (w : Int) := by
  refine jloop_ex (I := fun n s => s.2 = (n : Int) ∧ (∀ k, k ≠ 27 → s.1 k = σ k) ∧ ∀ w, w < n → s.1 27 w = (w : Int)) (N := 24) (J := _) ?_ ?_ 24 0 fuel _ (by omega) (by omega) ⟨rfl, fun _ _ => rfl, fun w hw => absurd hw (Nat.not_lt_zero w)⟩
  · rintro n ⟨μ, _⟩ hn ⟨rfl, i1, i2⟩
    dsimp only at i1 i2
    show ∃ s', f_X11_tree_b7 μ (n : Int) = some (.inl s') ∧ _
    rw [f_X11_tree_b7, jc_II (by omega) (by omega) (by omega) (by omega), if_pos (by omega), jc_ix (by omega) (by omega), jlet_v, jlet_v, cast_n, cast_s]
    refine ⟨_, rfl, rfl, fun k hk => by dsimp only; rw [up2_k hk, i1 k hk], fun w hw => ?_⟩
    dsimp only
    by_cases e : w = n
    · rw [e, up2_same]
    · rw [up2_j e]; exact i2 w (by omega)
  · rintro ⟨μ, _⟩ ⟨rfl, i1, i2⟩
    refine ⟨μ, ?_, i1, i2⟩
    show f_X11_tree_b7 μ ((24 : Nat) : Int) = _
    rw [f_X11_tree_b7, jc_II (by omega) (by omega) (by omega) (by omega), if_neg (by omega)]
theorem tree_spec {σC σM : St} (h : Rw σC σM) : ∃ (m : Nat) (τ : St), f_X11_tree σM = some ((m : Int), τ) ∧ m ≤ 24 ∧ (∀ k, k ≠ 0 → k ≠ 25 → k ≠ 26 → k ≠ 27 → τ k = σM k) ∧ (∀ j, j ≠ 45 → τ 0 j = σM 0 j) ∧ (∀ i, i < m → ∃ u v : Nat, u < v ∧ v < 24 ∧ pC σC u = true ∧ pC σC v = true ∧ τ 25 i = (u : Int) ∧ τ 26 i = (v : Int)) ∧ asc (fun i => key σC (τ 25 i).toNat (τ 26 i).toNat) m ∧ ∀ x, (∃ i, i < m ∧ key σC (τ 25 i).toNat (τ 26 i).toNat = x) ↔ ∃ u v, TE (pC σC) (key σC) u v ∧ x = key σC u v := by
  obtain ⟨τ1, a0, a1, a2⟩ := piece_loop (σ := up2 σM 0 45 0) 1000 (by omega)
  have h24 := ct_le (pC σC) 24
  obtain ⟨τ, t0, m, ⟨t1, t2, t3, t4, t5, t6, t7, l, t8⟩, tE⟩ := tree_loop h (τ0 := τ1) (by
    refine ⟨fun k k0 k1 k2 k3 => by rw [a1 k k3, up2_k k0], fun j hj => by rw [a1 0 (by decide), up2_j hj], by rw [a1 0 (by decide), up2_same]; rfl, fun w hw => by rw [a2 w hw]; omega, fun i hi => absurd hi (Nat.not_lt_zero i), fun i j hij hj => absurd hj (Nat.not_lt_zero j), ?_, -1, ?_, ?_, ?_, ?_, ?_⟩
    · rw [Nat.add_zero]
      refine ct_cong (fun k hk => bool_iff ?_)
      rw [lab_iff]
      constructor
      · rintro ⟨w, hw, pw, e⟩
        rw [a2 w hw] at e
        have : w = k := by omega
        rw [← this]; exact pw
      · intro pk
        exact ⟨k, hk, pk, a2 k hk⟩
    · intro u v hu hv pu pv e t ht
      rw [a2 u hu, a2 v hv] at e
      have : u = v := by omega
      rw [this]; exact Rl.refl
    · intro u v hu hv pu pv z
      have := h.keyr hu hv
      omega
    · intro u v hu hv pu pv ne e
      rw [a2 u hu, a2 v hv] at e
      omega
    · rintro x ⟨i, hi, -⟩
      exact absurd hi (Nat.not_lt_zero i)
    · rintro x ⟨i, hi, -⟩
      exact absurd hi (Nat.not_lt_zero i)) 1000 (by omega)
  refine ⟨m, τ, ?_, by omega, t1, t2, t5, t6, fun x => ?_⟩
  · rw [f_X11_tree, f_X11_tree_b0, jlet_v, jlet_v, a0, jbind_s, jlet_v, t0, jbind_s, t3]
  · refine t8.all (fun u v hu hv pu pv => ?_) x
    by_cases c : τ 27 u = τ 27 v
    · exact c
    · exfalso
      rcases (by omega : u < v ∨ v < u ∨ u = v) with q | q | q
      · exact tE u v q hv ⟨pu, pv, c⟩
      · exact tE v u q hu ⟨pv, pu, fun e => c e.symm⟩
      · rw [q] at c; exact c rfl
