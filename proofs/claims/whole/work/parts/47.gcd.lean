/-! ===== the pure side 27: lowest terms ===== -/
abbrev inM (a : Int) : Prop := -9223372036854775808 < a ∧ a < 9223372036854775808
theorem jldiv_n {a : Int} {g : Nat} (ha : inM a) (hg : 0 < g) (hg2 : g < 9223372036854775808) : jldiv a (g : Int) = a.tdiv (g : Int) := by
  have h1 : (a.tdiv (g : Int)).natAbs ≤ a.natAbs := by
    rw [Int.natAbs_tdiv]
    exact Nat.div_le_self _ _
  have h2 : inL (a.tdiv (g : Int)) := by constructor <;> omega
  unfold jldiv
  rw [Int64.toInt_div, oL ⟨by omega, by omega⟩, oL ⟨by omega, by omega⟩]
  exact Int.bmod_eq_of_le (by omega) (by omega)
theorem jlrem_n {a b : Nat} (ha : a < 9223372036854775808) (hb : 0 < b) (hb2 : b < 9223372036854775808) : jlrem (a : Int) (b : Int) = ((a % b : Nat) : Int) := by
  have e2 := Nat.div_add_mod a b
  have e4 := Nat.mod_lt a hb
  have l : a / b ≤ a := Nat.div_le_self _ _
  have td : ((a : Int).tdiv (b : Int)) = ((a / b : Nat) : Int) := rfl
  have c := Nat.mul_comm b (a / b)
  rw [c] at e2
  generalize a / b = q at *
  generalize a % b = r at *
  have e1 : (Int64.ofInt (a : Int) / Int64.ofInt (b : Int)) = Int64.ofInt (q : Int) := by
    rw [← Int64.toInt_inj, Int64.toInt_div, oL ⟨by omega, by omega⟩, oL ⟨by omega, by omega⟩, oL ⟨by omega, by omega⟩, td]
    exact Int.bmod_eq_of_le (by omega) (by omega)
  unfold jlrem
  rw [e1, ← Int64.ofInt_mul, ← Int64.ofInt_sub]
  have e3 : (a : Int) - (q : Int) * (b : Int) = (r : Int) := by
    have : (a : Int) = ((q * b + r : Nat) : Int) := by rw [e2]
    rw [this, Int.natCast_add, Int.natCast_mul]
    omega
  rw [e3, oL ⟨by omega, by omega⟩]
/-- Euclid's way -/
def eu : Nat → Nat → Nat → Nat × Nat
  | 0, a, b => (a, b)
  | n + 1, a, b => ((eu n a b).2, (eu n a b).1 % (eu n a b).2)
theorem eu_half (a b n : Nat) (h : (eu n a b).2 ≠ 0) (h' : (eu (n + 1) a b).2 ≠ 0) : 2 * (eu (n + 2) a b).2 ≤ (eu n a b).2 := by
  have h2 : (eu n a b).1 % (eu n a b).2 ≠ 0 := h'
  show 2 * ((eu n a b).2 % ((eu n a b).1 % (eu n a b).2)) ≤ (eu n a b).2
  generalize (eu n a b).1 = x at *
  generalize (eu n a b).2 = y at *
  have l1 := Nat.mod_lt x (show 0 < y by omega)
  generalize x % y = r at *
  by_cases c2 : 2 * r ≤ y
  · have := Nat.mod_lt y (show 0 < r by omega)
    omega
  · rw [Nat.mod_eq_sub_mod (by omega), Nat.mod_eq_of_lt (by omega)]
    omega
theorem eu_pow (a b : Nat) : ∀ k, (∀ i, i < 2 * k + 1 → (eu i a b).2 ≠ 0) → 2 ^ k * (eu (2 * k) a b).2 ≤ b
  | 0, _ => by rw [Nat.pow_zero, Nat.one_mul]; exact Nat.le_refl _
  | k + 1, h => by
    have ih := eu_pow a b k (fun i hi => h i (by omega))
    have hf := eu_half a b (2 * k) (h _ (by omega)) (h _ (by omega))
    have e : 2 * (k + 1) = 2 * k + 2 := by omega
    rw [e, Nat.pow_succ, Nat.mul_assoc]
    exact Nat.le_trans (Nat.mul_le_mul_left _ hf) ih
theorem eu_stop {a b : Nat} (hb : b < 9223372036854775808) : ∃ n, n < 130 ∧ (eu n a b).2 = 0 ∧ ∀ i, i < n → (eu i a b).2 ≠ 0 := by
  rcases first_or (fun i => (eu i a b).2 = 0) 130 with z | ⟨n, h1, h2, h3⟩
  · exfalso
    have := eu_pow a b 63 (fun i hi => z i (by omega))
    have n0 := z 126 (by omega)
    have l : 2 ^ 63 * 1 ≤ 2 ^ 63 * (eu (2 * 63) a b).2 := Nat.mul_le_mul_left _ (by
      have : (eu 126 a b).2 ≠ 0 := n0
      show 1 ≤ (eu 126 a b).2
      omega)
    have e : (2 : Nat) ^ 63 = 9223372036854775808 := by decide
    omega
  · exact ⟨n, h1, h2, h3⟩
theorem eu_gcd (a b : Nat) : ∀ n, Nat.gcd (eu n a b).1 (eu n a b).2 = Nat.gcd a b
  | 0 => rfl
  | n + 1 => by
    show Nat.gcd (eu n a b).2 ((eu n a b).1 % (eu n a b).2) = Nat.gcd a b
    rw [Nat.gcd_comm, ← Nat.gcd_rec, Nat.gcd_comm, eu_gcd a b n]
theorem eu_lt {a b M : Nat} (ha : a < M) (hb : b < M) : ∀ n, (∀ i, i < n → (eu i a b).2 ≠ 0) → (eu n a b).1 < M ∧ (eu n a b).2 < M
  | 0, _ => ⟨ha, hb⟩
  | n + 1, h => by
    have ih := eu_lt ha hb n (fun i hi => h i (by omega))
    refine ⟨ih.2, ?_⟩
    show (eu n a b).1 % (eu n a b).2 < M
    have := Nat.mod_lt (eu n a b).1 (Nat.pos_of_ne_zero (h n (by omega)))
    omega
theorem eu_end {a b n : Nat} (h : (eu n a b).2 = 0) : (eu n a b).1 = Nat.gcd a b := by
  have := eu_gcd a b n
  rw [h, Nat.gcd_zero_right] at this
  exact this
theorem gcdC_loop {a b : Nat} (ha : a < 9223372036854775808) (hb : b < 9223372036854775808) (fuel : Nat) (hf : 130 < fuel) : jloop (fun (q : (Int × Int × Int)) => match q with | (x4, x6, x8) => f_X10_greatestDivisor_b15 x4 x6 x8) fuel ((a : Int), (b : Int), 0) = some ((Nat.gcd a b : Nat) : Int) := by
  obtain ⟨n, n1, n2, n3⟩ := eu_stop (a := a) hb
  refine jloop_for0 (g := fun i => (((eu i a b).1 : Int), ((eu i a b).2 : Int), (i : Int))) (N := n) (e := _) rfl (by omega) (fun i hi => ?_) ?_
  · show f_X10_greatestDivisor_b15 ((eu i a b).1 : Int) ((eu i a b).2 : Int) (i : Int) = _
    obtain ⟨l1, l2⟩ := eu_lt ha hb i (fun j hj => n3 j (by omega))
    have nz := n3 i hi
    rw [f_X10_greatestDivisor_b15, jc_II (by omega) (by omega) (by omega) (by omega), if_pos (by omega), jc_LL (by omega) (by omega) (by omega) (by omega), if_neg (by omega), jchk_t ⟨⟨by omega, by omega⟩, by omega⟩, jlrem_n l1 (by omega) l2, jlet_v, jlet_v, jlet_v, jlet_v, cast_s]
    rfl
  · show f_X10_greatestDivisor_b15 ((eu n a b).1 : Int) ((eu n a b).2 : Int) (n : Int) = _
    rw [f_X10_greatestDivisor_b15, jc_II (by omega) (by omega) (by omega) (by omega), if_pos (by omega), n2, jc_LL (by omega) (by omega) (by omega) (by omega), if_pos (by omega), eu_end n2]
theorem gcdM_loop {a b : Nat} (ha : a < 9223372036854775808) (hb : b < 9223372036854775808) (fuel : Nat) (hf : 130 < fuel) : jloop (fun (q : (Int × Int)) => match q with | (x4, x6) => f_X11_common_b28 x4 x6) fuel ((a : Int), (b : Int)) = some ((Nat.gcd a b : Nat) : Int) := by
  obtain ⟨n, n1, n2, n3⟩ := eu_stop (a := a) hb
  refine jloop_for0 (g := fun i => (((eu i a b).1 : Int), ((eu i a b).2 : Int))) (N := n) (e := _) rfl (by omega) (fun i hi => ?_) ?_
  · show f_X11_common_b28 ((eu i a b).1 : Int) ((eu i a b).2 : Int) = _
    obtain ⟨l1, l2⟩ := eu_lt ha hb i (fun j hj => n3 j (by omega))
    have nz := n3 i hi
    rw [f_X11_common_b28, jc_LL (by omega) (by omega) (by omega) (by omega), if_neg (by omega), jchk_t ⟨⟨by omega, by omega⟩, by omega⟩, jlrem_n l1 (by omega) l2, jlet_v, jlet_v, jlet_v]
    rfl
  · show f_X11_common_b28 ((eu n a b).1 : Int) ((eu n a b).2 : Int) = _
    rw [f_X11_common_b28, n2, jc_LL (by omega) (by omega) (by omega) (by omega), if_pos (by omega), eu_end n2]
/-- in lowest terms -/
def gd (a d : Int) : Nat := Nat.gcd a.natAbs d.natAbs
theorem gd_pos {a d : Int} (hd : 0 < d) : 0 < gd a d := Nat.gcd_pos_of_pos_right _ (by omega)
theorem gd_le {a d : Int} (hd : 0 < d) : (gd a d : Int) ≤ d := by
  have := Nat.le_of_dvd (show 0 < d.natAbs by omega) (Nat.gcd_dvd_right a.natAbs d.natAbs)
  unfold gd
  omega
theorem gcdC_spec {a d : Int} (ha : inM a) (hd : 0 < d) (hd2 : d < 9223372036854775808) : f_X10_greatestDivisor a d = some ((gd a d : Nat) : Int) := by
  have e1 : (if 0 < a then a else -a) = ((a.natAbs : Nat) : Int) := by split <;> omega
  have e2 : (if 0 < d then d else -d) = ((d.natAbs : Nat) : Int) := by split <;> omega
  rw [f_X10_greatestDivisor, f_X10_greatestDivisor_b0, jc_L (by omega) (by omega), e1, jlet_v, jc_L (by omega) (by omega), e2, jlet_v, jlet_v, gcdC_loop (by omega) (by omega) 1000 (by omega), jbind_s]
  rfl
theorem aboveC {a d : Int} (ha : inM a) (hd : 0 < d) (hd2 : d < 9223372036854775808) : f_X10_above a d = some (a.tdiv (gd a d)) ∧ f_X10_below a d = some (d.tdiv (gd a d)) := by
  have g1 := gd_pos (a := a) hd
  have g2 := gd_le (a := a) hd
  constructor
  · rw [f_X10_above, f_X10_above_b0, gcdC_spec ha hd hd2, jbind_s, jlet_v, jc_LL (by omega) (by omega) (by omega) (by omega), if_neg (by omega), jchk_t ⟨⟨by omega, by omega⟩, by omega⟩, jldiv_n ha g1 (by omega)]
  · rw [f_X10_below, f_X10_below_b0, gcdC_spec ha hd hd2, jbind_s, jlet_v, jc_LL (by omega) (by omega) (by omega) (by omega), if_neg (by omega), jchk_t ⟨⟨by omega, by omega⟩, by omega⟩, jldiv_n ⟨by omega, by omega⟩ g1 (by omega)]
theorem lowestM {a d : Int} (ha : inM a) (hd : 0 < d) (hd2 : d < 9223372036854775808) : f_X11_lowest a d 1 = some (a.tdiv (gd a d)) ∧ f_X11_lowest a d 0 = some (d.tdiv (gd a d)) := by
  have g1 := gd_pos (a := a) hd
  have g2 := gd_le (a := a) hd
  have e : f_X11_common a d = some ((gd a d : Nat) : Int) := by
    have ed : d = ((d.natAbs : Nat) : Int) := by omega
    have l := gcdM_loop (a := a.natAbs) (b := d.natAbs) (by omega) (by omega) 1000 (by omega)
    rw [← ed] at l
    rw [f_X11_common, f_X11_common_b0, jc_LL (by omega) (by omega) (by omega) (by omega)]
    by_cases c : a < 0
    · rw [if_pos c, show -a = ((a.natAbs : Nat) : Int) by omega, f_X11_common_b12, jlet_v, jc_LL (by omega) (by omega) (by omega) (by omega), if_neg (by omega), jlet_v, l, jbind_s]
      rfl
    · rw [if_neg c, f_X11_common_b12, jlet_v, jc_LL (by omega) (by omega) (by omega) (by omega), if_neg (by omega), jlet_v]
      rw [show (a, d) = (((a.natAbs : Nat) : Int), d) by rw [show ((a.natAbs : Nat) : Int) = a by omega], l, jbind_s]
      rfl
  constructor
  · rw [f_X11_lowest, f_X11_lowest_b0, e, jbind_s, jlet_v, jc_I (by omega) (by omega), if_neg (by omega), jchk_t ⟨⟨by omega, by omega⟩, by omega⟩, jldiv_n ha g1 (by omega)]
  · rw [f_X11_lowest, f_X11_lowest_b0, e, jbind_s, jlet_v, jc_I (by omega) (by omega), if_pos rfl, jchk_t ⟨⟨by omega, by omega⟩, by omega⟩, jldiv_n ⟨by omega, by omega⟩ g1 (by omega)]
/-- equal fractions have the same lowest terms -/
theorem low_eq {a d b e : Int} (hd : 0 < d) (he : 0 < e) (h : a * e = b * d) : a.tdiv (gd a d) = b.tdiv (gd b e) ∧ d.tdiv (gd a d) = e.tdiv (gd b e) := by
  have g1 := gd_pos (a := a) hd
  have g2 := gd_pos (a := b) he
  obtain ⟨p, hp⟩ : ((gd a d : Nat) : Int) ∣ a := Int.ofNat_dvd_left.mpr (Nat.gcd_dvd_left _ _)
  obtain ⟨q, hq⟩ : ((gd a d : Nat) : Int) ∣ d := Int.ofNat_dvd_left.mpr (Nat.gcd_dvd_right _ _)
  obtain ⟨r, hr⟩ : ((gd b e : Nat) : Int) ∣ b := Int.ofNat_dvd_left.mpr (Nat.gcd_dvd_left _ _)
  obtain ⟨s, hs⟩ : ((gd b e : Nat) : Int) ∣ e := Int.ofNat_dvd_left.mpr (Nat.gcd_dvd_right _ _)
  have c1 : Nat.Coprime p.natAbs q.natAbs := by
    have : gd a d = gd a d * Nat.gcd p.natAbs q.natAbs := by
      have h1 : gd a d = Nat.gcd a.natAbs d.natAbs := rfl
      have h2 : a.natAbs = gd a d * p.natAbs := by rw [congrArg Int.natAbs hp, Int.natAbs_mul, Int.natAbs_natCast]
      have h3 : d.natAbs = gd a d * q.natAbs := by rw [congrArg Int.natAbs hq, Int.natAbs_mul, Int.natAbs_natCast]
      rw [h2, h3, Nat.gcd_mul_left] at h1
      exact h1
    exact Nat.eq_of_mul_eq_mul_left g1 (by rw [Nat.mul_one]; exact this.symm)
  have c2 : Nat.Coprime r.natAbs s.natAbs := by
    have : gd b e = gd b e * Nat.gcd r.natAbs s.natAbs := by
      have h1 : gd b e = Nat.gcd b.natAbs e.natAbs := rfl
      have h2 : b.natAbs = gd b e * r.natAbs := by rw [congrArg Int.natAbs hr, Int.natAbs_mul, Int.natAbs_natCast]
      have h3 : e.natAbs = gd b e * s.natAbs := by rw [congrArg Int.natAbs hs, Int.natAbs_mul, Int.natAbs_natCast]
      rw [h2, h3, Nat.gcd_mul_left] at h1
      exact h1
    exact Nat.eq_of_mul_eq_mul_left g2 (by rw [Nat.mul_one]; exact this.symm)
  generalize gd a d = g at *
  generalize gd b e = f at *
  have gp : (0 : Int) < (g : Int) := by omega
  have fp : (0 : Int) < (f : Int) := by omega
  have qp : 0 < q := pos_mul' gp (by rw [← hq]; exact hd)
  have sp : 0 < s := pos_mul' fp (by rw [← hs]; exact he)
  have key : p * s = r * q := by
    have : ((g : Int) * (f : Int)) * (p * s - r * q) = 0 := by
      rw [hp, hq, hr, hs] at h
      grind
    have := zero_mul_pos (Int.mul_pos gp fp) this
    omega
  have kn : p.natAbs * s.natAbs = r.natAbs * q.natAbs := by rw [← Int.natAbs_mul, ← Int.natAbs_mul, key]
  have d1 : s.natAbs ∣ q.natAbs := c2.symm.dvd_of_dvd_mul_left (by rw [← kn]; exact Nat.dvd_mul_left _ _)
  have d2 : q.natAbs ∣ s.natAbs := c1.symm.dvd_of_dvd_mul_left (by rw [kn]; exact Nat.dvd_mul_left _ _)
  have eqs : s = q := by
    have := Nat.dvd_antisymm d1 d2
    omega
  have epr : p = r := by
    rw [eqs] at key
    have : q * (p - r) = 0 := by grind
    have := zero_mul_pos qp this
    omega
  rw [hp, hq, hr, hs, eqs, epr]
  rw [Int.mul_tdiv_cancel_left _ (by omega), Int.mul_tdiv_cancel_left _ (by omega), Int.mul_tdiv_cancel_left _ (by omega), Int.mul_tdiv_cancel_left _ (by omega)]
  exact ⟨rfl, rfl⟩
