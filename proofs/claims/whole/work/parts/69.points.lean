/-! ===== the pure side 49: the model's points ===== -/
/-- what stands while the model looks for points: its lines are there -/
def MB (β : St) (Q : Nat → Pt) (m nl : Nat) : Prop := GV (lnM β) (fun l => l < nl) Q m ∧ m ≤ 27 ∧ β 0 16 = (nl : Int) ∧ nl ≤ 28 ∧ ∀ l, l < nl → okA (lnM β l)
def Sij (β : St) (Q : Nat → Pt) (nl i j t : Nat) : Prop := ∃ a b, a < b ∧ b < nl ∧ (a < i ∨ (a = i ∧ b < j)) ∧ par (lnM β a) (lnM β b) ≠ 0 ∧ fl (lnM β a) (Q t) = 0 ∧ fl (lnM β b) (Q t) = 0
theorem pts_in {β : St} {Q : Nat → Pt} {m nl i : Nat} (hB : MB β Q m nl) (hi : i < nl) {τ : St} {n : Nat} (h : MI β Q m (fun _ => True) (Sij β Q nl i (i + 1)) n τ) (fuel : Nat) (hf : 28 < fuel) : ∃ υ, jloop (fun (q : (St × Int)) => match q with | (σ, x3) => f_X11_groundOf_b25 σ (i : Int) x3) fuel (τ, ((i + 1 : Nat) : Int)) = some υ ∧ ∃ n', MI β Q m (fun _ => True) (Sij β Q nl (i + 1) 0) n' υ := by
  obtain ⟨hV, hm, h16, hnl, hA⟩ := hB
  refine jloop_ex (I := fun j q => q.2 = (j : Int) ∧ i < j ∧ ∃ n', MI β Q m (fun _ => True) (Sij β Q nl i j) n' q.1) (N := nl) (J := _) ?_ ?_ (nl - (i + 1)) (i + 1) fuel _ (by omega) (by omega) ⟨rfl, by omega, n, h⟩
  · rintro j ⟨μ, _⟩ hj ⟨rfl, ij, n', i1⟩
    dsimp only at i1
    obtain ⟨υ, n2, s1, s2⟩ := MI.step (S' := Sij β Q nl i (j + 1)) hV hm h16 hnl hA i1 hi hj (fun _ _ _ _ => trivial) (fun t st => by
      obtain ⟨a, b, a1, a2, a3, a4⟩ := st
      by_cases c : a < i ∨ (a = i ∧ b < j)
      · exact Or.inl ⟨a, b, a1, a2, c, a4⟩
      · right
        have e1 : a = i := by omega
        have e2 : b = j := by omega
        rw [e1, e2] at a4
        exact a4)
    refine ⟨(υ, ((j + 1 : Nat) : Int)), ?_, rfl, by omega, n2, s2⟩
    show f_X11_groundOf_b25 μ (i : Int) (j : Int) = _
    rw [f_X11_groundOf_b25, i1.2.1 16 (by decide), h16, jc_II (by omega) (by omega) (by omega) (by omega), if_pos (by omega), s1, jbind_s, jlet_v]
    rfl
  · rintro ⟨μ, _⟩ ⟨rfl, ij, n', i1⟩
    dsimp only at i1
    refine ⟨μ, ?_, n', i1.1, i1.2.1, i1.2.2.1, i1.2.2.2.1, i1.2.2.2.2.1, fun t ht st => i1.2.2.2.2.2 t ht ?_⟩
    · show f_X11_groundOf_b25 μ (i : Int) (nl : Int) = _
      rw [f_X11_groundOf_b25, i1.2.1 16 (by decide), h16, jc_II (by omega) (by omega) (by omega) (by omega), if_neg (by omega)]
    · obtain ⟨a, b, a1, a2, a3, a4⟩ := st
      exact ⟨a, b, a1, a2, by omega, a4⟩
theorem pts_out {β : St} {Q : Nat → Pt} {m nl : Nat} (hB : MB β Q m nl) (h20 : β 0 20 = 0) (fuel : Nat) (hf : 28 < fuel) : ∃ υ, jloop (fun (q : (St × Int)) => match q with | (σ, x2) => f_X11_groundOf_b13 σ x2) fuel (β, 0) = some υ ∧ ∃ n, MI β Q m (fun _ => True) (fun _ => True) n υ := by
  obtain ⟨hV, hm, h16, hnl, hA⟩ := id hB
  refine jloop_ex (I := fun i q => q.2 = (i : Int) ∧ ∃ n', MI β Q m (fun _ => True) (Sij β Q nl i 0) n' q.1) (N := nl) (J := _) ?_ ?_ nl 0 fuel _ (by omega) (by omega) ⟨rfl, 0, fun _ _ _ => rfl, fun _ _ => rfl, h20, fun k hk => absurd hk (Nat.not_lt_zero k), fun a b _ hb => absurd hb (Nat.not_lt_zero b), fun t _ st => by
    obtain ⟨a, b, a1, a2, a3, a4⟩ := st
    omega⟩
  · rintro i ⟨μ, _⟩ hi ⟨rfl, n', i1⟩
    dsimp only at i1
    obtain ⟨υ, s1, n2, s2⟩ := pts_in (n := n') (τ := μ) hB hi ⟨i1.1, i1.2.1, i1.2.2.1, i1.2.2.2.1, i1.2.2.2.2.1, fun t ht st => i1.2.2.2.2.2 t ht (by
      obtain ⟨a, b, a1, a2, a3, a4⟩ := st
      exact ⟨a, b, a1, a2, by omega, a4⟩)⟩ 1000 (by omega)
    refine ⟨(υ, ((i + 1 : Nat) : Int)), ?_, rfl, n2, s2⟩
    show f_X11_groundOf_b13 μ (i : Int) = _
    rw [f_X11_groundOf_b13, i1.2.1 16 (by decide), h16, jc_II (by omega) (by omega) (by omega) (by omega), if_pos (by omega), jlet_v, cast_s, s1, jbind_s, jlet_v]
  · rintro ⟨μ, _⟩ ⟨rfl, n', i1⟩
    dsimp only at i1
    refine ⟨μ, ?_, n', i1.1, i1.2.1, i1.2.2.1, i1.2.2.2.1, i1.2.2.2.2.1, fun t ht _ => i1.2.2.2.2.2 t ht ?_⟩
    · show f_X11_groundOf_b13 μ (nl : Int) = _
      rw [f_X11_groundOf_b13, i1.2.1 16 (by decide), h16, jc_II (by omega) (by omega) (by omega) (by omega), if_neg (by omega)]
    · obtain ⟨l1, l2, a1, a2, a3, a4, a5⟩ := hV.2.2.2.2.1 t ht
      have ne : l1 ≠ l2 := fun e => a5 (by rw [e]; unfold par; omega)
      by_cases c : l1 < l2
      · exact ⟨l1, l2, c, a2, Or.inl a1, a5, a3, a4⟩
      · refine ⟨l2, l1, by omega, a1, Or.inl a2, ?_, a4, a3⟩
        unfold par at *
        omega
def sg (x : Int) : Int := if 0 < x then 1 else if x < 0 then -1 else 0
theorem sg_rng (x : Int) : -1 ≤ sg x ∧ sg x ≤ 1 := by unfold sg; split <;> (try split) <;> omega
theorem sg_neg {x : Int} : sg x < 0 ↔ x < 0 := by unfold sg; split <;> (try split) <;> omega
theorem sg_pos {x : Int} : 0 < sg x ↔ 0 < x := by unfold sg; split <;> (try split) <;> omega
theorem sg_zero {x : Int} : sg x = 0 ↔ x = 0 := by unfold sg; split <;> (try split) <;> omega
theorem orderXY_spec {τ : St} {a b : Nat} (ha : a < 400) (hb : b < 400) (h1 : okX (ptM τ a)) (h2 : okX (ptM τ b)) : f_X11_orderX τ (a : Int) (b : Int) = some (sg ((ptM τ a).1 * (ptM τ b).2.2 - (ptM τ b).1 * (ptM τ a).2.2)) ∧ f_X11_orderY τ (a : Int) (b : Int) = some (sg ((ptM τ a).2.1 * (ptM τ b).2.2 - (ptM τ b).2.1 * (ptM τ a).2.2)) := by
  obtain ⟨a1, a2, a3, a4, a5, a6⟩ := h1
  obtain ⟨b1, b2, b3, b4, b5, b6⟩ := h2
  have m1 := mul_bd (a := (ptM τ a).1) (b := (ptM τ b).2.2) (A := 12000000000) (B := 8000000) (by omega) (by omega) (by omega) (by omega)
  have m2 := mul_bd (a := (ptM τ b).1) (b := (ptM τ a).2.2) (A := 12000000000) (B := 8000000) (by omega) (by omega) (by omega) (by omega)
  have m3 := mul_bd (a := (ptM τ a).2.1) (b := (ptM τ b).2.2) (A := 12000000000) (B := 8000000) (by omega) (by omega) (by omega) (by omega)
  have m4 := mul_bd (a := (ptM τ b).2.1) (b := (ptM τ a).2.2) (A := 12000000000) (B := 8000000) (by omega) (by omega) (by omega) (by omega)
  have st : ∀ x y u v : Int, -9223372036854775808 ≤ x * v - u * y → x * v - u * y < 9223372036854775808 → f_X11_order x y u v = some (sg (x * v - u * y)) := fun x y u v c1 c2 => by
    rw [f_X11_order, f_X11_order_b0, jlet_v, jc_LL (by omega) (by omega) (by omega) (by omega)]
    unfold sg
    by_cases c : 0 < x * v - u * y
    · rw [if_pos c, if_pos c]
    · rw [if_neg c, if_neg c, jc_LL (by omega) (by omega) (by omega) (by omega)]
      by_cases d : x * v - u * y < 0
      · rw [if_pos d, if_pos d]
      · rw [if_neg d, if_neg d]
  constructor
  · rw [f_X11_orderX, f_X11_orderX_b0, jc_ix (by omega) (by omega), jc_ix (by omega) (by omega), jc_ix (by omega) (by omega), jc_ix (by omega) (by omega), cast_n, cast_n]
    unfold ptM at m1 m2 ⊢
    dsimp only at m1 m2 ⊢
    rw [st _ _ _ _ (by omega) (by omega), jbind_s]
  · rw [f_X11_orderY, f_X11_orderY_b0, jc_ix (by omega) (by omega), jc_ix (by omega) (by omega), jc_ix (by omega) (by omega), jc_ix (by omega) (by omega), cast_n, cast_n]
    unfold ptM at m3 m4 ⊢
    dsimp only at m3 m4 ⊢
    rw [st _ _ _ _ (by omega) (by omega), jbind_s]
theorem ahead_spec {τ : St} {a b : Nat} (ha : a < 400) (hb : b < 400) (h1 : okX (ptM τ a)) (h2 : okX (ptM τ b)) : (bef (ptM τ a) (ptM τ b) ∧ f_X11_isAhead τ (a : Int) (b : Int) = some 1) ∨ (¬ bef (ptM τ a) (ptM τ b) ∧ f_X11_isAhead τ (a : Int) (b : Int) = some 0) := by
  obtain ⟨o1, o2⟩ := orderXY_spec ha hb h1 h2
  have r1 := sg_rng ((ptM τ a).1 * (ptM τ b).2.2 - (ptM τ b).1 * (ptM τ a).2.2)
  have r2 := sg_rng ((ptM τ a).2.1 * (ptM τ b).2.2 - (ptM τ b).2.1 * (ptM τ a).2.2)
  rw [f_X11_isAhead, f_X11_isAhead_b0, o1, jbind_s, jlet_v, jc_I (by omega) (by omega)]
  unfold bef
  by_cases c1 : (ptM τ a).1 * (ptM τ b).2.2 - (ptM τ b).1 * (ptM τ a).2.2 < 0
  · rw [if_pos (sg_neg.mpr c1)]
    exact Or.inl ⟨Or.inl c1, rfl⟩
  · rw [if_neg (fun z => c1 (sg_neg.mp z)), jc_I (by omega) (by omega)]
    by_cases c2 : (ptM τ a).1 * (ptM τ b).2.2 - (ptM τ b).1 * (ptM τ a).2.2 = 0
    · rw [if_pos (sg_zero.mpr c2), o2, jbind_s, jc_I (by omega) (by omega)]
      by_cases c3 : (ptM τ a).2.1 * (ptM τ b).2.2 - (ptM τ b).2.1 * (ptM τ a).2.2 < 0
      · rw [if_pos (sg_neg.mpr c3)]
        exact Or.inl ⟨Or.inr ⟨c2, by omega⟩, rfl⟩
      · rw [if_neg (fun z => c3 (sg_neg.mp z))]
        exact Or.inr ⟨by omega, rfl⟩
    · rw [if_neg (fun z => c2 (sg_zero.mp z))]
      exact Or.inr ⟨by omega, rfl⟩
theorem bef_tot {p q : Pt} (h1 : ¬ bef p q) (h2 : ¬ bef q p) : sm p q := by
  unfold bef at *
  unfold sm
  omega
theorem sgn_tr {k l x y : Int} (hk : 0 < k) (hl : 0 < l) (e : k * x = l * y) : (x < 0 ↔ y < 0) ∧ (x = 0 ↔ y = 0) := by
  refine ⟨⟨fun h => ?_, fun h => ?_⟩, ⟨fun h => ?_, fun h => ?_⟩⟩
  · have := Int.mul_pos hk (show 0 < -x by omega)
    rw [Int.mul_neg] at this
    have := pos_mul' hl (show 0 < l * (-y) by rw [Int.mul_neg]; omega)
    omega
  · have := Int.mul_pos hl (show 0 < -y by omega)
    rw [Int.mul_neg] at this
    have := pos_mul' hk (show 0 < k * (-x) by rw [Int.mul_neg]; omega)
    omega
  · rw [h] at e
    exact zero_mul_pos hl (by omega)
  · rw [h] at e
    exact zero_mul_pos hk (by omega)
theorem bsm_id (a d a' d' b e b' e' : Int) (h1 : a * d' = a' * d) (h2 : b * e' = b' * e) : (d' * e') * (a * e - b * d) = (d * e) * (a' * e' - b' * d') := by grind
theorem bef_sm {p q p' q' : Pt} (hp : 0 < p.2.2) (hq : 0 < q.2.2) (hp' : 0 < p'.2.2) (hq' : 0 < q'.2.2) (h1 : sm p p') (h2 : sm q q') : bef p q ↔ bef p' q' := by
  obtain ⟨x1, x2⟩ := sgn_tr (Int.mul_pos hp' hq') (Int.mul_pos hp hq) (bsm_id _ _ _ _ _ _ _ _ h1.1 h2.1)
  obtain ⟨y1, y2⟩ := sgn_tr (Int.mul_pos hp' hq') (Int.mul_pos hp hq) (bsm_id _ _ _ _ _ _ _ _ h1.2 h2.2)
  unfold bef
  constructor
  · rintro (z | ⟨z1, z2⟩)
    · exact Or.inl (x1.mp z)
    · exact Or.inr ⟨x2.mp z1, by have := y1.mp (by omega); omega⟩
  · rintro (z | ⟨z1, z2⟩)
    · exact Or.inl (x1.mpr z)
    · exact Or.inr ⟨x2.mpr z1, by have := y1.mpr (by omega); omega⟩
theorem start_loop {γ : St} {n : Nat} (h20 : γ 0 20 = (n : Int)) (n0 : 0 < n) (hn : n < 400) (hX : ∀ k, k < n → okX (ptM γ k)) (fuel : Nat) (hf : 400 < fuel) : ∃ e, jloop (fun (q : (St × Int × Int)) => match q with | (σ, x2, x3) => f_X11_groundOf_b68 σ x2 x3) fuel (γ, 0, 0) = some e ∧ (∀ k, k ≠ 19 → e.1 k = γ k) ∧ (∀ k, k < n → e.1 19 k = (k : Int)) ∧ ∃ s : Nat, e.2 = (s : Int) ∧ s < n ∧ ∀ k, k < n → ¬ bef (ptM γ k) (ptM γ s) := by
  refine jloop_ex (I := fun i q => q.2.2 = (i : Int) ∧ (∀ k, k ≠ 19 → q.1 k = γ k) ∧ (∀ k, k < i → q.1 19 k = (k : Int)) ∧ ∃ s : Nat, q.2.1 = (s : Int) ∧ s < n ∧ ∀ k, k < i → k < n → ¬ bef (ptM γ k) (ptM γ s)) (N := n) (J := _) ?_ ?_ n 0 fuel _ (by omega) (by omega) ⟨rfl, fun _ _ => rfl, fun k hk => absurd hk (Nat.not_lt_zero k), 0, rfl, n0, fun k hk => absurd hk (Nat.not_lt_zero k)⟩
  · rintro i ⟨μ, _, _⟩ hi ⟨rfl, i1, i2, s, rfl, i3, i4⟩
    dsimp only at i1 i2
    show ∃ s', f_X11_groundOf_b68 μ (s : Int) (i : Int) = some (.inl s') ∧ _
    have ep : ptM (up2 μ 19 i (i : Int)) = ptM γ := by
      funext k
      unfold ptM
      rw [up2_k (k' := 16) (by decide), up2_k (k' := 17) (by decide), up2_k (k' := 18) (by decide), i1 16 (by decide), i1 17 (by decide), i1 18 (by decide)]
    have up : ∀ k, k < i + 1 → up2 μ 19 i (i : Int) 19 k = (k : Int) := fun k hk => by
      by_cases e : k = i
      · rw [e, up2_same]
      · rw [up2_j e]; exact i2 k (by omega)
    have as := ahead_spec (τ := up2 μ 19 i (i : Int)) (a := i) (b := s) (by omega) (by omega) (by rw [ep]; exact hX i hi) (by rw [ep]; exact hX s i3)
    rw [ep] at as
    rw [f_X11_groundOf_b68, i1 0 (by decide), h20, jc_II (by omega) (by omega) (by omega) (by omega), if_pos (by omega), jc_ix (by omega) (by omega), cast_n, jlet_v]
    rcases as with ⟨b1, b2⟩ | ⟨b1, b2⟩
    · rw [b2, jbind_s, jc_I (by omega) (by omega), if_neg (by omega), jlet_v, jlet_v]
      refine ⟨_, rfl, rfl, fun k hk => by dsimp only; rw [up2_k hk, i1 k hk], up, i, rfl, hi, fun k hk hkn z => ?_⟩
      by_cases c : k = i
      · rw [c] at z; exact bef.irr z
      · exact i4 k (by omega) hkn (bef.trans (hX k hkn).1 (hX i hi).1 (hX s i3).1 z b1)
    · rw [b2, jbind_s, jc_I (by omega) (by omega), if_pos rfl, jlet_v]
      refine ⟨_, rfl, rfl, fun k hk => by dsimp only; rw [up2_k hk, i1 k hk], up, s, rfl, i3, fun k hk hkn => ?_⟩
      by_cases c : k = i
      · rw [c]; exact b1
      · exact i4 k (by omega) hkn
  · rintro ⟨μ, _, _⟩ ⟨rfl, i1, i2, s, rfl, i3, i4⟩
    dsimp only at i1 i2
    refine ⟨(μ, (s : Int)), ?_, i1, i2, s, rfl, i3, fun k hk => i4 k hk hk⟩
    show f_X11_groundOf_b68 μ (s : Int) (n : Int) = _
    rw [f_X11_groundOf_b68, i1 0 (by decide), h20, jc_II (by omega) (by omega) (by omega) (by omega), if_neg (by omega)]
