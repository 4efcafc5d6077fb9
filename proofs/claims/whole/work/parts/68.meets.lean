/-! ===== the pure side 48: where two of the model's lines meet ===== -/
def ptM (σ : St) (i : Nat) : Pt := (σ 16 i, σ 17 i, σ 18 i)
def okA (L : Pt) : Prop := -2000 ≤ L.1 ∧ L.1 ≤ 2000 ∧ -2000 ≤ L.2.1 ∧ L.2.1 ≤ 2000 ∧ -3000000 ≤ L.2.2 ∧ L.2.2 ≤ 3000000
def okX (p : Pt) : Prop := 0 < p.2.2 ∧ p.2.2 ≤ 8000000 ∧ -12000000000 ≤ p.1 ∧ p.1 ≤ 12000000000 ∧ -12000000000 ≤ p.2.1 ∧ p.2.1 ≤ 12000000000
def addP (τ : St) (n : Nat) (p : Pt) : St := up2 (up2 (up2 (up2 τ 16 n p.1) 17 n p.2.1) 18 n p.2.2) 0 20 ((n + 1 : Nat) : Int)
def crp (L M : Pt) : Pt := if par L M < 0 then (-(L.2.2 * M.2.1 - M.2.2 * L.2.1), -(L.1 * M.2.2 - M.1 * L.2.2), -(L.1 * M.2.1 - M.1 * L.2.1)) else (L.2.2 * M.2.1 - M.2.2 * L.2.1, L.1 * M.2.2 - M.1 * L.2.2, L.1 * M.2.1 - M.1 * L.2.1)
theorem crp_fl (L M : Pt) : fl L (crp L M) = 0 ∧ fl M (crp L M) = 0 := by
  unfold crp
  split <;> unfold fl <;> dsimp only <;> constructor <;> grind
theorem crp_ok {L M : Pt} (hL : okA L) (hM : okA M) (hp : par L M ≠ 0) : okX (crp L M) := by
  obtain ⟨a1, a2, a3, a4, a5, a6⟩ := hL
  obtain ⟨b1, b2, b3, b4, b5, b6⟩ := hM
  have m1 := mul_bd (a := L.1) (b := M.2.1) (A := 2000) (B := 2000) (by omega) (by omega) (by omega) (by omega)
  have m2 := mul_bd (a := M.1) (b := L.2.1) (A := 2000) (B := 2000) (by omega) (by omega) (by omega) (by omega)
  have m3 := mul_bd (a := L.2.2) (b := M.2.1) (A := 3000000) (B := 2000) (by omega) (by omega) (by omega) (by omega)
  have m4 := mul_bd (a := M.2.2) (b := L.2.1) (A := 3000000) (B := 2000) (by omega) (by omega) (by omega) (by omega)
  have m5 := mul_bd (a := L.1) (b := M.2.2) (A := 2000) (B := 3000000) (by omega) (by omega) (by omega) (by omega)
  have m6 := mul_bd (a := M.1) (b := L.2.2) (A := 2000) (B := 3000000) (by omega) (by omega) (by omega) (by omega)
  unfold crp
  unfold par at *
  split <;> refine ⟨?_, ?_, ?_, ?_, ?_, ?_⟩ <;> dsimp only <;> omega
theorem over_spec {τ : St} {l : Nat} {X Y D : Int} (hl : l < 28) : f_X11_over τ (l : Int) X Y D = some (- fl (lnM τ l) (X, Y, D)) := by
  rw [f_X11_over, f_X11_over_b0, jc_ix (by omega) (by omega), jc_ix (by omega) (by omega), jc_ix (by omega) (by omega), cast_n]
  congr 1
  unfold fl lnM
  dsimp only
  omega
theorem fl_rngX {L p : Pt} (hL : okA L) (hp : okX p) : -100000000000000 ≤ fl L p ∧ fl L p ≤ 100000000000000 := by
  obtain ⟨a1, a2, a3, a4, a5, a6⟩ := hL
  obtain ⟨b1, b2, b3, b4, b5, b6⟩ := hp
  have m1 := mul_bd (a := L.2.2) (b := p.2.2) (A := 3000000) (B := 8000000) (by omega) (by omega) (by omega) (by omega)
  have m2 := mul_bd (a := L.1) (b := p.1) (A := 2000) (B := 12000000000) (by omega) (by omega) (by omega) (by omega)
  have m3 := mul_bd (a := L.2.1) (b := p.2.1) (A := 2000) (B := 12000000000) (by omega) (by omega) (by omega) (by omega)
  unfold fl
  omega
theorem feas_loop {τ : St} {nl : Nat} {X Y D : Int} (h16 : τ 0 16 = (nl : Int)) (hnl : nl ≤ 28) (hL : ∀ l, l < nl → okA (lnM τ l)) (hP : okX (X, Y, D)) (fuel : Nat) (hf : 28 < fuel) : ∃ e, jloop (fun (x9 : Int) => f_X11_meets_b115 τ D X Y x9) fuel 0 = some e ∧ ((e = .inl () ∧ ∃ l, l < nl ∧ fl (lnM τ l) (X, Y, D) < 0) ∨ (e = .inr () ∧ ∀ l, l < nl → 0 ≤ fl (lnM τ l) (X, Y, D))) := by
  refine jloop_or (I := fun i s => s = (i : Int) ∧ ∀ l, l < i → 0 ≤ fl (lnM τ l) (X, Y, D)) (N := nl) (J := _) ?_ ?_ nl 0 fuel _ (by omega) (by omega) ⟨rfl, fun l hl => absurd hl (Nat.not_lt_zero l)⟩
  · rintro i _ hi ⟨rfl, i1⟩
    have r := fl_rngX (hL i hi) hP
    rw [f_X11_meets_b115, h16, jc_II (by omega) (by omega) (by omega) (by omega), if_pos (by omega), over_spec (by omega), jbind_s, jc_LL (by omega) (by omega) (by omega) (by omega)]
    by_cases c : 0 < - fl (lnM τ i) (X, Y, D)
    · right
      rw [if_pos c]
      exact ⟨_, rfl, Or.inl ⟨rfl, i, hi, by omega⟩⟩
    · left
      rw [if_neg c, jlet_v]
      refine ⟨_, rfl, by omega, fun l hl => ?_⟩
      by_cases e : l = i
      · rw [e]; omega
      · exact i1 l (by omega)
  · rintro _ ⟨rfl, i1⟩
    refine ⟨.inr (), ?_, Or.inr ⟨rfl, i1⟩⟩
    rw [f_X11_meets_b115, h16, jc_II (by omega) (by omega) (by omega) (by omega), if_neg (by omega)]
theorem same_spec {τ : St} {k : Nat} {X Y D : Int} (hk : k < 400) (h1 : okX (ptM τ k)) (h2 : okX (X, Y, D)) : (sm (ptM τ k) (X, Y, D) ∧ f_X11_isSame τ (k : Int) X Y D = some 1) ∨ (¬ sm (ptM τ k) (X, Y, D) ∧ f_X11_isSame τ (k : Int) X Y D = some 0) := by
  obtain ⟨a1, a2, a3, a4, a5, a6⟩ := h1
  obtain ⟨b1, b2, b3, b4, b5, b6⟩ := h2
  unfold ptM at a1 a2 a3 a4 a5 a6
  dsimp only at a1 a2 a3 a4 a5 a6 b1 b2 b3 b4 b5 b6
  have m1 := mul_bd (a := τ 16 k) (b := D) (A := 12000000000) (B := 8000000) (by omega) (by omega) (by omega) (by omega)
  have m2 := mul_bd (a := τ 17 k) (b := D) (A := 12000000000) (B := 8000000) (by omega) (by omega) (by omega) (by omega)
  have m3 := mul_bd (a := X) (b := τ 18 k) (A := 12000000000) (B := 8000000) (by omega) (by omega) (by omega) (by omega)
  have m4 := mul_bd (a := Y) (b := τ 18 k) (A := 12000000000) (B := 8000000) (by omega) (by omega) (by omega) (by omega)
  rw [f_X11_isSame, f_X11_isSame_b0, jc_ix (by omega) (by omega), jc_ix (by omega) (by omega), cast_n, jc_LL (by omega) (by omega) (by omega) (by omega)]
  unfold sm ptM
  dsimp only
  by_cases c1 : τ 16 k * D = X * τ 18 k
  · rw [if_pos c1, jc_ix (by omega) (by omega), jc_ix (by omega) (by omega), jc_LL (by omega) (by omega) (by omega) (by omega)]
    by_cases c2 : τ 17 k * D = Y * τ 18 k
    · rw [if_pos c2]
      exact Or.inl ⟨⟨c1, c2⟩, rfl⟩
    · rw [if_neg c2]
      exact Or.inr ⟨fun z => c2 z.2, rfl⟩
  · rw [if_neg c1]
    exact Or.inr ⟨fun z => c1 z.1, rfl⟩
theorem new_loop {τ : St} {n : Nat} {X Y D : Int} (h20 : τ 0 20 = (n : Int)) (hn : n < 400) (hQ : ∀ k, k < n → okX (ptM τ k)) (hP : okX (X, Y, D)) (fuel : Nat) (hf : 400 < fuel) : ∃ e, jloop (fun (x9 : Int) => f_X11_meets_b150 τ D X Y x9) fuel 0 = some e ∧ ((e = .inl () ∧ ∃ k, k < n ∧ sm (ptM τ k) (X, Y, D)) ∨ (e = .inr () ∧ ∀ k, k < n → ¬ sm (ptM τ k) (X, Y, D))) := by
  refine jloop_or (I := fun i s => s = (i : Int) ∧ ∀ l, l < i → ¬ sm (ptM τ l) (X, Y, D)) (N := n) (J := _) ?_ ?_ n 0 fuel _ (by omega) (by omega) ⟨rfl, fun l hl => absurd hl (Nat.not_lt_zero l)⟩
  · rintro i _ hi ⟨rfl, i1⟩
    rw [f_X11_meets_b150, h20, jc_II (by omega) (by omega) (by omega) (by omega), if_pos (by omega)]
    rcases same_spec (show i < 400 by omega) (hQ i hi) hP with ⟨c, s⟩ | ⟨c, s⟩
    · right
      rw [s, jbind_s, jc_I (by omega) (by omega), if_neg (by omega)]
      exact ⟨_, rfl, Or.inl ⟨rfl, i, hi, c⟩⟩
    · left
      rw [s, jbind_s, jc_I (by omega) (by omega), if_pos rfl, jlet_v]
      refine ⟨_, rfl, by omega, fun l hl => ?_⟩
      by_cases e : l = i
      · rw [e]; exact c
      · exact i1 l (by omega)
  · rintro _ ⟨rfl, i1⟩
    refine ⟨.inr (), ?_, Or.inr ⟨rfl, i1⟩⟩
    rw [f_X11_meets_b150, h20, jc_II (by omega) (by omega) (by omega) (by omega), if_neg (by omega)]
theorem addP_eq {τ : St} {n : Nat} {X Y D : Int} (hn : n < 400) (h20 : τ 0 20 = (n : Int)) : jchk (0 ≤ τ 0 20 ∧ τ 0 20 < 400) (jlet (up2 τ 16 (τ 0 20).toNat X) (fun σ_10 => jchk (0 ≤ σ_10 0 20 ∧ σ_10 0 20 < 400) (jlet (up2 σ_10 17 (σ_10 0 20).toNat Y) (fun σ_11 => jchk (0 ≤ σ_11 0 20 ∧ σ_11 0 20 < 400) (jlet (up2 σ_11 18 (σ_11 0 20).toNat D) (fun σ_12 => jlet (up2 σ_12 0 20 (σ_12 0 20 + 1)) (fun σ_13 => some σ_13))))))) = some (addP τ n (X, Y, D)) := by
  rw [h20, jc_ix (by omega) (by omega), jlet_v, up2_k (k' := 0) (by decide), h20, jc_ix (by omega) (by omega), jlet_v, up2_k (k' := 0) (by decide), up2_k (k' := 0) (by decide), h20, jc_ix (by omega) (by omega), jlet_v, up2_k (k' := 0) (by decide), up2_k (k' := 0) (by decide), up2_k (k' := 0) (by decide), h20, jlet_v, cast_n, show (n : Int) + 1 = ((n + 1 : Nat) : Int) by omega]
  rfl
theorem meets_spec {τ : St} {nl n i j : Nat} (h16 : τ 0 16 = (nl : Int)) (hnl : nl ≤ 28) (hL : ∀ l, l < nl → okA (lnM τ l)) (h20 : τ 0 20 = (n : Int)) (hn : n < 400) (hQ : ∀ k, k < n → okX (ptM τ k)) (hi : i < nl) (hj : j < nl) : ∃ υ, f_X11_meets τ (i : Int) (j : Int) = some υ ∧ ((υ = τ ∧ (par (lnM τ i) (lnM τ j) = 0 ∨ (∃ l, l < nl ∧ fl (lnM τ l) (crp (lnM τ i) (lnM τ j)) < 0) ∨ ∃ k, k < n ∧ sm (ptM τ k) (crp (lnM τ i) (lnM τ j)))) ∨ (par (lnM τ i) (lnM τ j) ≠ 0 ∧ (∀ l, l < nl → 0 ≤ fl (lnM τ l) (crp (lnM τ i) (lnM τ j))) ∧ (∀ k, k < n → ¬ sm (ptM τ k) (crp (lnM τ i) (lnM τ j))) ∧ υ = addP τ n (crp (lnM τ i) (lnM τ j)))) := by
  have ok := crp_ok (hL i hi) (hL j hj)
  have e3 : τ 13 i * τ 14 j - τ 13 j * τ 14 i = par (lnM τ i) (lnM τ j) := rfl
  rw [f_X11_meets, f_X11_meets_b0, jc_ix (by omega) (by omega), jc_ix (by omega) (by omega), jc_ix (by omega) (by omega), jc_ix (by omega) (by omega), jlet_v, cast_n, cast_n, e3]
  have rng : -9223372036854775808 ≤ par (lnM τ i) (lnM τ j) ∧ par (lnM τ i) (lnM τ j) < 9223372036854775808 := by
    by_cases z : par (lnM τ i) (lnM τ j) = 0
    · omega
    · have := ok z
      unfold okX crp at this
      unfold par at *
      split at this <;> dsimp only at this <;> omega
  rw [jc_LL (by omega) (by omega) (by omega) (by omega)]
  by_cases p0 : par (lnM τ i) (lnM τ j) = 0
  · rw [if_pos p0]
    exact ⟨τ, rfl, Or.inl ⟨rfl, Or.inl p0⟩⟩
  · rw [if_neg p0, jc_ix (by omega) (by omega), jc_ix (by omega) (by omega), jc_ix (by omega) (by omega), jc_ix (by omega) (by omega), jlet_v, jc_ix (by omega) (by omega), jc_ix (by omega) (by omega), jc_ix (by omega) (by omega), jc_ix (by omega) (by omega), jlet_v, jc_LL (by omega) (by omega) (by omega) (by omega)]
    have ok := ok p0
    by_cases s : par (lnM τ i) (lnM τ j) < 0
    · rw [if_pos s]
      have cp : crp (lnM τ i) (lnM τ j) = (-(τ 15 i * τ 14 j - τ 15 j * τ 14 i), -(τ 13 i * τ 15 j - τ 13 j * τ 15 i), - par (lnM τ i) (lnM τ j)) := by
        unfold crp
        rw [if_pos s]
        rfl
      rw [cp] at ok ⊢
      obtain ⟨e, l1, l2⟩ := feas_loop h16 hnl hL ok 1000 (by omega)
      rw [jlet_v, jlet_v, jlet_v, jlet_v, l1, jbind_s]
      rcases l2 with ⟨rfl, z⟩ | ⟨rfl, z⟩
      · exact ⟨τ, rfl, Or.inl ⟨rfl, Or.inr (Or.inl z)⟩⟩
      · dsimp only
        obtain ⟨e, m1, m2⟩ := new_loop h20 hn hQ ok 1000 (by omega)
        rw [jlet_v, m1, jbind_s]
        rcases m2 with ⟨rfl, y⟩ | ⟨rfl, y⟩
        · exact ⟨τ, rfl, Or.inl ⟨rfl, Or.inr (Or.inr y)⟩⟩
        · dsimp only
          rw [addP_eq hn h20]
          exact ⟨_, rfl, Or.inr ⟨p0, z, y, rfl⟩⟩
    · rw [if_neg s]
      have cp : crp (lnM τ i) (lnM τ j) = (τ 15 i * τ 14 j - τ 15 j * τ 14 i, τ 13 i * τ 15 j - τ 13 j * τ 15 i, par (lnM τ i) (lnM τ j)) := by
        unfold crp
        rw [if_neg s]
        rfl
      rw [cp] at ok ⊢
      obtain ⟨e, l1, l2⟩ := feas_loop h16 hnl hL ok 1000 (by omega)
      rw [jlet_v, l1, jbind_s]
      rcases l2 with ⟨rfl, z⟩ | ⟨rfl, z⟩
      · exact ⟨τ, rfl, Or.inl ⟨rfl, Or.inr (Or.inl z)⟩⟩
      · dsimp only
        obtain ⟨e, m1, m2⟩ := new_loop h20 hn hQ ok 1000 (by omega)
        rw [jlet_v, m1, jbind_s]
        rcases m2 with ⟨rfl, y⟩ | ⟨rfl, y⟩
        · exact ⟨τ, rfl, Or.inl ⟨rfl, Or.inr (Or.inr y)⟩⟩
        · dsimp only
          rw [addP_eq hn h20]
          exact ⟨_, rfl, Or.inr ⟨p0, z, y, rfl⟩⟩
theorem addP_k {τ : St} {n k : Nat} {p : Pt} (h0 : k ≠ 0) (h : k < 16 ∨ 18 < k) : addP τ n p k = τ k := by
  unfold addP
  rw [up2_k (by omega), up2_k (by omega), up2_k (by omega), up2_k (by omega)]
theorem addP_j {τ : St} {n j : Nat} {p : Pt} (h : j ≠ 20) : addP τ n p 0 j = τ 0 j := by
  unfold addP
  rw [up2_j h, up2_k (k' := 0) (by decide), up2_k (k' := 0) (by decide), up2_k (k' := 0) (by decide)]
theorem addP_pt {τ : St} {n i : Nat} {p : Pt} : ptM (addP τ n p) i = if i = n then p else ptM τ i := by
  unfold ptM addP
  rw [up2_k (k' := 16) (by omega), up2_k (k' := 16) (by omega), up2_k (k' := 16) (by omega), up2_k (k' := 17) (by omega), up2_k (k' := 17) (by omega), up2_k (k' := 18) (by omega)]
  by_cases e : i = n
  · rw [if_pos e, e, up2_same, up2_same, up2_same]
  · rw [if_neg e]
    simp only [up2_a e]
theorem uq_id (p a b c d x : Int) (h1 : p * a - x * c = 0) (h2 : p * b - x * d = 0) : p * (a * d) = p * (b * c) := by grind
theorem meet_uniq {L M P Q : Pt} (hp : par L M ≠ 0) (a1 : fl L P = 0) (a2 : fl M P = 0) (b1 : fl L Q = 0) (b2 : fl M Q = 0) : sm P Q := by
  have i1 := cross_id1 L M P
  have i2 := cross_id1 L M Q
  have i3 := cross_id2 L M P
  have i4 := cross_id2 L M Q
  rw [a1, a2] at i1 i3
  rw [b1, b2] at i2 i4
  simp only [Int.mul_zero, Int.sub_self] at i1 i2 i3 i4
  unfold par at hp
  exact ⟨Int.eq_of_mul_eq_mul_left hp (uq_id _ _ _ _ _ _ i1 i2), Int.eq_of_mul_eq_mul_left hp (uq_id _ _ _ _ _ _ i3 i4)⟩
theorem three_zero {a b c x y z : Int} (h1 : 0 ≤ a) (h2 : 0 ≤ b) (h3 : 0 ≤ c) (x0 : 0 ≤ x) (y0 : 0 ≤ y) (z0 : 0 ≤ z) (e : a * x + b * y + c * z = 0) : (0 < a → x = 0) ∧ (0 < b → y = 0) ∧ (0 < c → z = 0) := by
  have m1 := Int.mul_nonneg h1 x0
  have m2 := Int.mul_nonneg h2 y0
  have m3 := Int.mul_nonneg h3 z0
  refine ⟨fun h => zero_mul_pos h (by omega), fun h => zero_mul_pos h (by omega), fun h => zero_mul_pos h (by omega)⟩
theorem GV.vertex {Ln : Nat → Pt} {LS : Nat → Prop} {Q : Nat → Pt} {m i j : Nat} {P : Pt} (h : GV Ln LS Q m) (P0 : 0 < P.2.2) (hf : ∀ l, LS l → 0 ≤ fl (Ln l) P) (hi : LS i) (hj : LS j) (hp : par (Ln i) (Ln j) ≠ 0) (z1 : fl (Ln i) P = 0) (z2 : fl (Ln j) P = 0) : ∃ t, t < m ∧ sm P (Q t) ∧ fl (Ln i) (Q t) = 0 ∧ fl (Ln j) (Q t) = 0 := by
  obtain ⟨h1, h2, h3, h4, -⟩ := h
  obtain ⟨u, v, w, hu, hv, hw, a, b, c, s, a0, b0, c0, s0, e1, e2, e3, lin⟩ := (h4 P P0 hf).lin
  have l1 := lin (Ln i)
  have l2 := lin (Ln j)
  rw [z1, Int.mul_zero] at l1
  rw [z2, Int.mul_zero] at l2
  have t1 := three_zero a0 b0 c0 (h3 i hi u hu) (h3 i hi v hv) (h3 i hi w hw) l1.symm
  have t2 := three_zero a0 b0 c0 (h3 j hj u hu) (h3 j hj v hv) (h3 j hj w hw) l2.symm
  have pos : 0 < a ∨ 0 < b ∨ 0 < c := by
    by_cases x : 0 < a ∨ 0 < b ∨ 0 < c
    · exact x
    · exfalso
      have xa : a = 0 := by omega
      have xb : b = 0 := by omega
      have xc : c = 0 := by omega
      rw [xa, xb, xc] at e3
      have := Int.mul_pos s0 P0
      omega
  rcases pos with x | x | x
  · exact ⟨u, hu, meet_uniq hp z1 z2 (t1.1 x) (t2.1 x), t1.1 x, t2.1 x⟩
  · exact ⟨v, hv, meet_uniq hp z1 z2 (t1.2.1 x) (t2.2.1 x), t1.2.1 x, t2.2.1 x⟩
  · exact ⟨w, hw, meet_uniq hp z1 z2 (t1.2.2 x) (t2.2.2 x), t1.2.2 x, t2.2.2 x⟩
/-- the points so far -/
def MI (β : St) (Q : Nat → Pt) (m : Nat) (T S : Nat → Prop) (n : Nat) (τ : St) : Prop :=
  (∀ k, k ≠ 0 → k < 16 ∨ 18 < k → τ k = β k) ∧ (∀ j, j ≠ 20 → τ 0 j = β 0 j) ∧ τ 0 20 = (n : Int) ∧ (∀ k, k < n → okX (ptM τ k) ∧ ∃ t, t < m ∧ T t ∧ sm (ptM τ k) (Q t)) ∧ (∀ a b, a < b → b < n → ¬ sm (ptM τ a) (ptM τ b)) ∧ ∀ t, t < m → S t → ∃ k, k < n ∧ sm (ptM τ k) (Q t)
theorem MI.le {β τ : St} {Q : Nat → Pt} {m n : Nat} {T S : Nat → Prop} (hQ : ∀ t, t < m → 0 < (Q t).2.2) (h : MI β Q m T S n τ) : n ≤ m := by
  obtain ⟨-, -, -, h4, h5, -⟩ := h
  by_cases c : n ≤ m
  · exact c
  · exfalso
    obtain ⟨f, hf⟩ := Classical.skolem.mp (fun k : Nat => show ∃ t : Nat, k < n → t < m ∧ sm (ptM τ k) (Q t) from by
      by_cases x : k < n
      · obtain ⟨-, t, t1, -, t2⟩ := h4 k x
        exact ⟨t, fun _ => ⟨t1, t2⟩⟩
      · exact ⟨0, fun z => absurd z x⟩)
    refine pigeonN (N := m) (f := fun k => ((f k : Nat) : Int)) (fun i hi => ⟨f i, (hf i (by omega)).1, rfl⟩) (fun i j ij hj e => ?_)
    have e' : f i = f j := by omega
    have s1 := (hf i (by omega)).2
    have s2 := hf j (by omega)
    rw [e'] at s1
    exact h5 i j ij (by omega) (s1.trans (hQ _ s2.1) s2.2.symm)
theorem MI.step {β τ : St} {Q : Nat → Pt} {m n nl i j : Nat} {T S S' : Nat → Prop} (hV : GV (lnM β) (fun l => l < nl) Q m) (hm : m ≤ 27) (h16 : β 0 16 = (nl : Int)) (hnl : nl ≤ 28) (hA : ∀ l, l < nl → okA (lnM β l)) (h : MI β Q m T S n τ) (hi : i < nl) (hj : j < nl) (hT : ∀ t, t < m → fl (lnM β i) (Q t) = 0 → fl (lnM β j) (Q t) = 0 → T t) (hS : ∀ t, S' t → S t ∨ (par (lnM β i) (lnM β j) ≠ 0 ∧ fl (lnM β i) (Q t) = 0 ∧ fl (lnM β j) (Q t) = 0)) : ∃ υ n', f_X11_meets τ (i : Int) (j : Int) = some υ ∧ MI β Q m T S' n' υ := by
  have le := h.le hV.1
  obtain ⟨h1, h2, h3, h4, h5, h6⟩ := id h
  have el : lnM τ = lnM β := by
    funext l
    unfold lnM
    rw [h1 13 (by omega) (by omega), h1 14 (by omega) (by omega), h1 15 (by omega) (by omega)]
  obtain ⟨υ, s1, s2⟩ := meets_spec (τ := τ) (nl := nl) (n := n) (i := i) (j := j) (by rw [h2 16 (by decide)]; exact h16) hnl (by rw [el]; exact hA) h3 (by omega) (fun k hk => (h4 k hk).1) hi hj
  rw [el] at s2
  obtain ⟨c1, c2⟩ := crp_fl (lnM β i) (lnM β j)
  rcases s2 with ⟨rfl, why⟩ | ⟨p0, fe, new, rfl⟩
  · refine ⟨υ, n, s1, h1, h2, h3, h4, h5, fun t ht st => ?_⟩
    rcases hS t st with z | ⟨p0, z1, z2⟩
    · exact h6 t ht z
    · have same := meet_uniq p0 c1 c2 z1 z2
      have ok := crp_ok (hA i hi) (hA j hj) p0
      rcases why with y | ⟨l, l1, l2⟩ | ⟨k, k1, k2⟩
      · exact absurd y p0
      · exfalso
        have e := same.flx (lnM β l)
        have f1 := hV.2.2.1 l l1 t ht
        have f2 := Int.mul_nonneg (show 0 ≤ (crp (lnM β i) (lnM β j)).2.2 by have := ok.1; omega) f1
        have f3 := Int.mul_pos (hV.1 t ht) (show 0 < - fl (lnM β l) (crp (lnM β i) (lnM β j)) by omega)
        rw [Int.mul_neg] at f3
        omega
      · exact ⟨k, k1, k2.trans ok.1 same⟩
  · have ok := crp_ok (hA i hi) (hA j hj) p0
    obtain ⟨t0, a1, a2, a3, a4⟩ := hV.vertex ok.1 fe hi hj p0 c1 c2
    refine ⟨_, n + 1, s1, fun k k0 hk => by rw [addP_k k0 hk, h1 k k0 hk], fun j hj => by rw [addP_j hj, h2 j hj], by unfold addP; rw [up2_same], fun k hk => ?_, fun a b ab hb => ?_, fun t ht st => ?_⟩
    · rw [addP_pt]
      by_cases e : k = n
      · rw [if_pos e]
        exact ⟨ok, t0, a1, hT t0 a1 a3 a4, a2⟩
      · rw [if_neg e]
        exact h4 k (by omega)
    · rw [addP_pt, addP_pt, if_neg (show a ≠ n by omega)]
      by_cases e : b = n
      · rw [if_pos e]
        exact new a (by omega)
      · rw [if_neg e]
        exact h5 a b ab (by omega)
    · rcases hS t st with z | ⟨-, z1, z2⟩
      · obtain ⟨k, k1, k2⟩ := h6 t ht z
        exact ⟨k, by omega, by rw [addP_pt, if_neg (by omega)]; exact k2⟩
      · exact ⟨n, by omega, by rw [addP_pt, if_pos rfl]; exact meet_uniq p0 c1 c2 z1 z2⟩
