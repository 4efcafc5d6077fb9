/-! ===== the pure side 56: fractions compared ===== -/
theorem sg_p {x : Int} (h : 0 < x) : sg x = 1 := by unfold sg; rw [if_pos h]
theorem sg_n {x : Int} (h : x < 0) : sg x = -1 := by unfold sg; rw [if_neg (by omega), if_pos h]
theorem sg_neg' (x : Int) : sg (-x) = - sg x := by unfold sg; split <;> split <;> (try split) <;> omega
theorem cmpL {a b : Int} (ha : inL a) (hb : inL b) : f_J13_compare_74951 a b = some (sg (a - b)) := by
  rw [f_J13_compare_74951, f_J13_compare_74951_b0, jchk_t ⟨ha, hb⟩, jchk_t ⟨ha, hb⟩]
  by_cases c : a < b
  · rw [if_pos c, sg_n (by omega)]
  · rw [if_neg c]
    by_cases e : a = b
    · rw [if_pos e, show a - b = 0 by omega]; rfl
    · rw [if_neg e, sg_p (by omega)]
theorem fr_id (x y q s p r : Int) : (q * x + p) * s - (s * y + r) * q = (x - y) * (q * s) + (p * s - r * q) := by grind
/-- the sign of p / q - r / s, by whole parts and what is left -/
theorem fr_sign {p q r s : Nat} (hq : 0 < q) (hs : 0 < s) : ((p / q : Nat) > (r / s : Nat) → 0 < (p : Int) * s - (r : Int) * q) ∧ ((p / q : Nat) < (r / s : Nat) → (p : Int) * s - (r : Int) * q < 0) ∧ ((p / q : Nat) = (r / s : Nat) → (p : Int) * s - (r : Int) * q = ((p % q : Nat) : Int) * s - ((r % s : Nat) : Int) * q) := by
  have e1 := Nat.div_add_mod p q
  have e2 := Nat.div_add_mod r s
  have l1 := Nat.mod_lt p hq
  have l2 := Nat.mod_lt r hs
  generalize p / q = x at *
  generalize p % q = a at *
  generalize r / s = y at *
  generalize r % s = b at *
  have i1 : (p : Int) = (q : Int) * x + a := by rw [← e1]; exact_mod_cast rfl
  have i2 : (r : Int) = (s : Int) * y + b := by rw [← e2]; exact_mod_cast rfl
  have i := fr_id (x : Int) y q s a b
  rw [← i1, ← i2] at i
  have qs := Int.mul_pos (show (0 : Int) < q by omega) (show (0 : Int) < s by omega)
  have a0 := Int.mul_nonneg (show (0 : Int) ≤ a by omega) (show (0 : Int) ≤ s by omega)
  have b0 := Int.mul_nonneg (show (0 : Int) ≤ b by omega) (show (0 : Int) ≤ q by omega)
  have a1 := Int.mul_pos (show (0 : Int) < q - a by omega) (show (0 : Int) < s by omega)
  have b1 := Int.mul_pos (show (0 : Int) < s - b by omega) (show (0 : Int) < q by omega)
  rw [Int.sub_mul] at a1 b1
  rw [Int.mul_comm (s : Int) q] at b1
  rw [i]
  refine ⟨fun h => ?_, fun h => ?_, fun h => ?_⟩
  · have := Int.mul_le_mul_of_nonneg_right (show (1 : Int) ≤ x - y by omega) (show (0 : Int) ≤ q * s by omega)
    omega
  · have := Int.mul_le_mul_of_nonneg_right (show (x : Int) - y ≤ -1 by omega) (show (0 : Int) ≤ q * s by omega)
    omega
  · rw [show (x : Int) - y = 0 by omega, Int.zero_mul]; omega
/-- both ways at the same step -/
def FI (a b c d : Nat) (T : Int) (i : Nat) (w : Int) : Prop := (w = 1 ∨ w = -1) ∧ (eu i c d).2 ≠ 0 ∧ (∀ j, j < i → (eu j c d).2 ≠ 0) ∧ w * sg (((eu i a b).1 : Int) * ((eu i c d).2 : Int) - ((eu i c d).1 : Int) * ((eu i a b).2 : Int)) = T
theorem FI.step {a b c d : Nat} {T w : Int} {i : Nat} (h : FI a b c d T i w) (hb : (eu i a b).2 ≠ 0) : ((eu i a b).1 / (eu i a b).2 ≠ (eu i c d).1 / (eu i c d).2 → T = w * sg ((((eu i a b).1 / (eu i a b).2 : Nat) : Int) - (((eu i c d).1 / (eu i c d).2 : Nat) : Int))) ∧ ((eu i a b).1 / (eu i a b).2 = (eu i c d).1 / (eu i c d).2 → (((eu (i + 1) a b).2 = 0 ∨ (eu (i + 1) c d).2 = 0) → T = w * sg (((eu (i + 1) a b).2 : Int) - ((eu (i + 1) c d).2 : Int))) ∧ ((eu (i + 1) a b).2 ≠ 0 → (eu (i + 1) c d).2 ≠ 0 → FI a b c d T (i + 1) (-w))) := by
  obtain ⟨h1, h2, h3, h4⟩ := h
  obtain ⟨s1, s2, s3⟩ := fr_sign (p := (eu i a b).1) (r := (eu i c d).1) (Nat.pos_of_ne_zero hb) (Nat.pos_of_ne_zero h2)
  have E1 : (eu (i + 1) a b).2 = (eu i a b).1 % (eu i a b).2 := rfl
  have E2 : (eu (i + 1) c d).2 = (eu i c d).1 % (eu i c d).2 := rfl
  have E3 : (eu (i + 1) a b).1 = (eu i a b).2 := rfl
  have E4 : (eu (i + 1) c d).1 = (eu i c d).2 := rfl
  refine ⟨fun ne => ?_, fun eq => ⟨fun z => ?_, fun z1 z2 => ?_⟩⟩
  · rcases Nat.lt_or_gt_of_ne ne with y | y
    · rw [← h4, sg_n (s2 y), sg_n (by omega)]
    · rw [← h4, sg_p (s1 y), sg_p (by omega)]
  · rw [← h4, s3 eq, ← E1, ← E2]
    congr 1
    rcases z with z | z
    · rw [z]
      by_cases y : (eu (i + 1) c d).2 = 0
      · rw [y]; simp
      · have := Int.mul_pos (show (0 : Int) < ((eu (i + 1) c d).2 : Int) by omega) (show (0 : Int) < ((eu i a b).2 : Int) by omega)
        rw [sg_n (by omega), sg_n (by omega)]
    · rw [z]
      by_cases y : (eu (i + 1) a b).2 = 0
      · rw [y]; simp
      · have := Int.mul_pos (show (0 : Int) < ((eu (i + 1) a b).2 : Int) by omega) (show (0 : Int) < ((eu i c d).2 : Int) by omega)
        rw [sg_p (by omega), sg_p (by omega)]
  · refine ⟨by omega, z2, fun j hj => ?_, ?_⟩
    · by_cases e : j = i
      · rw [e]; exact h2
      · exact h3 j (by omega)
    · rw [E3, E4, ← h4, s3 eq, ← E1, ← E2]
      have : ((eu i a b).2 : Int) * ((eu (i + 1) c d).2 : Int) - ((eu i c d).2 : Int) * ((eu (i + 1) a b).2 : Int) = - (((eu (i + 1) a b).2 : Int) * ((eu i c d).2 : Int) - ((eu (i + 1) c d).2 : Int) * ((eu i a b).2 : Int)) := by
        rw [Int.mul_comm ((eu i a b).2 : Int), Int.mul_comm ((eu i c d).2 : Int)]; omega
      rw [this, sg_neg', Int.neg_mul, Int.mul_neg, Int.neg_neg]
theorem jldiv_nn {a b : Nat} (ha : a < 9223372036854775808) (hb : 0 < b) (hb2 : b < 9223372036854775808) : jldiv (a : Int) (b : Int) = ((a / b : Nat) : Int) := by
  rw [jldiv_n ⟨by omega, by omega⟩ hb hb2]
  rfl
