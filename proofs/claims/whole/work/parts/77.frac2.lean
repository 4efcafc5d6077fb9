/-! ===== the pure side 57: fractions compared, both programs ===== -/
theorem inL_n {n : Nat} (h : n < 9223372036854775808) : inL (n : Int) := ⟨by omega, by omega⟩
theorem eu_top {a b : Nat} (hb : b < 9223372036854775808) (b0 : 0 < b) : ∃ n, n < 130 ∧ 0 < n ∧ (eu n a b).2 = 0 ∧ ∀ i, i < n → (eu i a b).2 ≠ 0 := by
  obtain ⟨n, n1, n2, n3⟩ := eu_stop (a := a) hb
  refine ⟨n, n1, ?_, n2, n3⟩
  by_cases e : n = 0
  · rw [e] at n2
    have : b = 0 := n2
    omega
  · omega
theorem fracC {a b c d : Nat} (ha : a < 9223372036854775808) (hb : b < 9223372036854775808) (hc : c < 9223372036854775808) (hd : d < 9223372036854775808) (b0 : 0 < b) (d0 : 0 < d) : f_X10_compareFractions (a : Int) (b : Int) (c : Int) (d : Int) = some (sg ((a : Int) * d - (c : Int) * b)) := by
  obtain ⟨n, n1, n0, n2, n3⟩ := eu_top (a := a) hb b0
  obtain ⟨T, eT⟩ : ∃ T, T = sg ((a : Int) * d - (c : Int) * b) := ⟨_, rfl⟩
  rw [← eT]
  have lp : ∃ e, jloop (fun (q : (Int × Int × Int × Int × Int × Int)) => match q with | (x0, x2, x4, x6, x8, x9) => f_X10_compareFractions_b6 x0 x2 x4 x6 x8 x9) 1000 ((a : Int), (b : Int), (c : Int), (d : Int), 1, 0) = some e ∧ (match e with | .inl (x8_14, x12_15) => some (x8_14 * x12_15) | .inr (.inl (x8_16, x13_17, x15_18)) => jbind (f_J13_compare_74951 x13_17 x15_18) (fun r_19 => some (x8_16 * r_19)) | .inr (.inr (())) => some 0) = some T := by
    have st : ∀ i s, i < n → (∃ w, FI a b c d T i w ∧ s = (((eu i a b).1 : Int), ((eu i a b).2 : Int), ((eu i c d).1 : Int), ((eu i c d).2 : Int), w, (i : Int))) → (∃ s', (fun (q : (Int × Int × Int × Int × Int × Int)) => match q with | (x0, x2, x4, x6, x8, x9) => f_X10_compareFractions_b6 x0 x2 x4 x6 x8 x9) s = some (.inl s') ∧ (∃ w, FI a b c d T (i + 1) w ∧ s' = (((eu (i + 1) a b).1 : Int), ((eu (i + 1) a b).2 : Int), ((eu (i + 1) c d).1 : Int), ((eu (i + 1) c d).2 : Int), w, ((i + 1 : Nat) : Int))) ∧ i + 1 < n) ∨ ∃ e, (fun (q : (Int × Int × Int × Int × Int × Int)) => match q with | (x0, x2, x4, x6, x8, x9) => f_X10_compareFractions_b6 x0 x2 x4 x6 x8 x9) s = some (.inr e) ∧ (match e with | .inl (x8_14, x12_15) => some (x8_14 * x12_15) | .inr (.inl (x8_16, x13_17, x15_18)) => jbind (f_J13_compare_74951 x13_17 x15_18) (fun r_19 => some (x8_16 * r_19)) | .inr (.inr (())) => some 0) = some T := by
      rintro i _ hi ⟨w, hF, rfl⟩
      have nb := n3 i hi
      obtain ⟨w1, f2, f3, -⟩ := id hF
      obtain ⟨t1, t2⟩ := hF.step nb
      obtain ⟨l1, l2⟩ := eu_lt ha hb i (fun j hj => n3 j (by omega))
      obtain ⟨l3, l4⟩ := eu_lt hc hd i f3
      have q1 := Nat.div_le_self (eu i a b).1 (eu i a b).2
      have q2 := Nat.div_le_self (eu i c d).1 (eu i c d).2
      have m1 := Nat.mod_lt (eu i a b).1 (Nat.pos_of_ne_zero nb)
      have m2 := Nat.mod_lt (eu i c d).1 (Nat.pos_of_ne_zero f2)
      have sr := sg_rng ((((eu i a b).1 / (eu i a b).2 : Nat) : Int) - (((eu i c d).1 / (eu i c d).2 : Nat) : Int))
      have E1 : (eu (i + 1) a b).2 = (eu i a b).1 % (eu i a b).2 := rfl
      have E2 : (eu (i + 1) c d).2 = (eu i c d).1 % (eu i c d).2 := rfl
      have head : f_X10_compareFractions_b6 ((eu i a b).1 : Int) ((eu i a b).2 : Int) ((eu i c d).1 : Int) ((eu i c d).2 : Int) w (i : Int) = if sg ((((eu i a b).1 / (eu i a b).2 : Nat) : Int) - (((eu i c d).1 / (eu i c d).2 : Nat) : Int)) = 0 then (if ((eu (i + 1) a b).2 : Int) = 0 then some (.inr (.inr (.inl (w, ((eu (i + 1) a b).2 : Int), ((eu (i + 1) c d).2 : Int))))) else (if ((eu (i + 1) c d).2 : Int) = 0 then some (.inr (.inr (.inl (w, ((eu (i + 1) a b).2 : Int), ((eu (i + 1) c d).2 : Int))))) else some (.inl (((eu i a b).2 : Int), ((eu (i + 1) a b).2 : Int), ((eu i c d).2 : Int), ((eu (i + 1) c d).2 : Int), -w, (i : Int) + 1)))) else some (.inr (.inl (w, sg ((((eu i a b).1 / (eu i a b).2 : Nat) : Int) - (((eu i c d).1 / (eu i c d).2 : Nat) : Int))))) := by
        rw [f_X10_compareFractions_b6, jc_II (by omega) (by omega) (by omega) (by omega), if_pos (by omega), jc_LL (by omega) (by omega) (by omega) (by omega), if_neg (by omega), jc_LL (by omega) (by omega) (by omega) (by omega), if_neg (by omega), jchk_t ⟨⟨by omega, by omega⟩, by omega⟩, jldiv_nn l1 (by omega) l2, jlet_v, jchk_t ⟨⟨by omega, by omega⟩, by omega⟩, jldiv_nn l3 (by omega) l4, cmpL (inL_n (Nat.lt_of_le_of_lt q1 l1)) (inL_n (Nat.lt_of_le_of_lt q2 l3)), jbind_s, jlet_v, jc_I (by omega) (by omega), jchk_t ⟨⟨by omega, by omega⟩, by omega⟩, jlrem_n l1 (by omega) l2, jlet_v, jchk_t ⟨⟨by omega, by omega⟩, by omega⟩, jlrem_n l3 (by omega) l4, jlet_v, ← E1, ← E2, jc_LL (by omega) (by omega) (by omega) (by omega), jc_LL (by omega) (by omega) (by omega) (by omega), jlet_v, jlet_v, jlet_v, jlet_v, jlet_v, jlet_v]
      by_cases ne : (eu i a b).1 / (eu i a b).2 = (eu i c d).1 / (eu i c d).2
      · obtain ⟨u1, u2⟩ := t2 ne
        have z0 : sg ((((eu i a b).1 / (eu i a b).2 : Nat) : Int) - (((eu i c d).1 / (eu i c d).2 : Nat) : Int)) = 0 := by rw [ne, Int.sub_self]; rfl
        rw [if_pos z0] at head
        have out : ((eu (i + 1) a b).2 = 0 ∨ (eu (i + 1) c d).2 = 0) → (jbind (f_J13_compare_74951 ((eu (i + 1) a b).2 : Int) ((eu (i + 1) c d).2 : Int)) (fun r_19 => some (w * r_19))) = some T := fun z => by
          rw [cmpL ⟨by omega, by omega⟩ ⟨by omega, by omega⟩, jbind_s, ← u1 z]
        by_cases y1 : (eu (i + 1) a b).2 = 0
        · rw [if_pos (by omega)] at head
          exact Or.inr ⟨_, head, out (Or.inl y1)⟩
        · rw [if_neg (by omega)] at head
          by_cases y2 : (eu (i + 1) c d).2 = 0
          · rw [if_pos (by omega)] at head
            exact Or.inr ⟨_, head, out (Or.inr y2)⟩
          · rw [if_neg (by omega)] at head
            refine Or.inl ⟨_, head, ⟨-w, u2 y1 y2, rfl⟩, ?_⟩
            by_cases e : i + 1 = n
            · rw [e] at y1; exact absurd n2 y1
            · omega
      · have z0 : sg ((((eu i a b).1 / (eu i a b).2 : Nat) : Int) - (((eu i c d).1 / (eu i c d).2 : Nat) : Int)) ≠ 0 := fun z => by
          have := sg_zero.mp z
          omega
        rw [if_neg z0] at head
        exact Or.inr ⟨_, head, by dsimp only; rw [← t1 ne]⟩
    refine jloop_or (I := fun i s => ∃ w, FI a b c d T i w ∧ s = (((eu i a b).1 : Int), ((eu i a b).2 : Int), ((eu i c d).1 : Int), ((eu i c d).2 : Int), w, (i : Int))) (N := n - 1) (J := _) (fun i s hi hI => ?_) (fun s hI => ?_) (n - 1) 0 1000 _ (by omega) (by omega) ⟨1, ⟨Or.inl rfl, ?_, fun j hj => absurd hj (Nat.not_lt_zero j), ?_⟩, rfl⟩
    · rcases st i s (by omega) hI with ⟨s', x1, x2, -⟩ | x
      · exact Or.inl ⟨s', x1, x2⟩
      · exact Or.inr x
    · rcases st (n - 1) s (by omega) hI with ⟨s', -, -, x3⟩ | x
      · omega
      · exact x
    · show d ≠ 0
      omega
    · rw [eT, Int.one_mul]; rfl
  obtain ⟨e, l1, l2⟩ := lp
  rw [f_X10_compareFractions, f_X10_compareFractions_b0, jlet_v, jlet_v, l1, jbind_s]
  exact l2
theorem sub_mul_n {a b : Nat} : (a : Int) - ((a / b : Nat) : Int) * (b : Int) = ((a % b : Nat) : Int) := by
  have e := Nat.div_add_mod a b
  have : (a : Int) = ((b * (a / b) + a % b : Nat) : Int) := by rw [e]
  rw [Int.natCast_add, Int.natCast_mul] at this
  rw [Int.mul_comm] at this
  generalize ((a / b : Nat) : Int) * (b : Int) = x at *
  omega
theorem fracM {a b c d : Nat} (ha : a < 9223372036854775808) (hb : b < 9223372036854775808) (hc : c < 9223372036854775808) (hd : d < 9223372036854775808) (b0 : 0 < b) (d0 : 0 < d) : f_X11_fractions (a : Int) (b : Int) (c : Int) (d : Int) = some (sg ((a : Int) * d - (c : Int) * b)) := by
  obtain ⟨n, n1, n0, n2, n3⟩ := eu_top (a := a) hb b0
  obtain ⟨T, eT⟩ : ∃ T, T = sg ((a : Int) * d - (c : Int) * b) := ⟨_, rfl⟩
  rw [← eT]
  have lp : ∃ e, jloop (fun (q : (Int × Int × Int × Int × Int)) => match q with | (x8, x10, x12, x14, x16) => f_X11_fractions_b17 x8 x10 x12 x14 x16) 1000 ((a : Int), (b : Int), (c : Int), (d : Int), 1) = some e ∧ (match e with | .inl (x16_17, x17_18, x19_19) => jchk (inL x17_18 ∧ inL x19_19) (if x19_19 < x17_18 then some x16_17 else some (-x16_17)) | .inr ((x8_20, x12_21, x16_22)) => jchk (inL x8_20 ∧ inL x12_21) (if x8_20 = x12_21 then some 0 else jchk (inL x8_20 ∧ inL 0) (if x8_20 = 0 then some (-x16_22) else some x16_22))) = some T := by
    have st : ∀ i s, i < n → (∃ w, FI a b c d T i w ∧ s = (((eu i a b).1 : Int), ((eu i a b).2 : Int), ((eu i c d).1 : Int), ((eu i c d).2 : Int), w)) → (∃ s', (fun (q : (Int × Int × Int × Int × Int)) => match q with | (x8, x10, x12, x14, x16) => f_X11_fractions_b17 x8 x10 x12 x14 x16) s = some (.inl s') ∧ (∃ w, FI a b c d T (i + 1) w ∧ s' = (((eu (i + 1) a b).1 : Int), ((eu (i + 1) a b).2 : Int), ((eu (i + 1) c d).1 : Int), ((eu (i + 1) c d).2 : Int), w)) ∧ i + 1 < n) ∨ ∃ e, (fun (q : (Int × Int × Int × Int × Int)) => match q with | (x8, x10, x12, x14, x16) => f_X11_fractions_b17 x8 x10 x12 x14 x16) s = some (.inr e) ∧ (match e with | .inl (x16_17, x17_18, x19_19) => jchk (inL x17_18 ∧ inL x19_19) (if x19_19 < x17_18 then some x16_17 else some (-x16_17)) | .inr ((x8_20, x12_21, x16_22)) => jchk (inL x8_20 ∧ inL x12_21) (if x8_20 = x12_21 then some 0 else jchk (inL x8_20 ∧ inL 0) (if x8_20 = 0 then some (-x16_22) else some x16_22))) = some T := by
      rintro i _ hi ⟨w, hF, rfl⟩
      have nb := n3 i hi
      obtain ⟨w1, f2, f3, -⟩ := id hF
      obtain ⟨t1, t2⟩ := hF.step nb
      obtain ⟨l1, l2⟩ := eu_lt ha hb i (fun j hj => n3 j (by omega))
      obtain ⟨l3, l4⟩ := eu_lt hc hd i f3
      have q1 := inL_n (Nat.lt_of_le_of_lt (Nat.div_le_self (eu i a b).1 (eu i a b).2) l1)
      have q2 := inL_n (Nat.lt_of_le_of_lt (Nat.div_le_self (eu i c d).1 (eu i c d).2) l3)
      have m1 := Nat.mod_lt (eu i a b).1 (Nat.pos_of_ne_zero nb)
      have m2 := Nat.mod_lt (eu i c d).1 (Nat.pos_of_ne_zero f2)
      have E1 : (eu (i + 1) a b).2 = (eu i a b).1 % (eu i a b).2 := rfl
      have E2 : (eu (i + 1) c d).2 = (eu i c d).1 % (eu i c d).2 := rfl
      have head : f_X11_fractions_b17 ((eu i a b).1 : Int) ((eu i a b).2 : Int) ((eu i c d).1 : Int) ((eu i c d).2 : Int) w = if (((eu i a b).1 / (eu i a b).2 : Nat) : Int) = (((eu i c d).1 / (eu i c d).2 : Nat) : Int) then (if ((eu (i + 1) a b).2 : Int) = 0 then some (.inr (.inr (((eu (i + 1) a b).2 : Int), ((eu (i + 1) c d).2 : Int), w))) else (if ((eu (i + 1) c d).2 : Int) = 0 then some (.inr (.inr (((eu (i + 1) a b).2 : Int), ((eu (i + 1) c d).2 : Int), w))) else some (.inl (((eu i a b).2 : Int), ((eu (i + 1) a b).2 : Int), ((eu i c d).2 : Int), ((eu (i + 1) c d).2 : Int), -w)))) else some (.inr (.inl (w, (((eu i a b).1 / (eu i a b).2 : Nat) : Int), (((eu i c d).1 / (eu i c d).2 : Nat) : Int)))) := by
        rw [f_X11_fractions_b17, jchk_t ⟨⟨by omega, by omega⟩, by omega⟩, jldiv_nn l1 (by omega) l2, jlet_v, jchk_t ⟨⟨by omega, by omega⟩, by omega⟩, jldiv_nn l3 (by omega) l4, jlet_v, jchk_t ⟨q1, q2⟩, sub_mul_n, sub_mul_n, jlet_v, jlet_v, ← E1, ← E2, jc_LL (by omega) (by omega) (by omega) (by omega), jc_LL (by omega) (by omega) (by omega) (by omega), jlet_v, jlet_v, jlet_v, jlet_v, jlet_v, jlet_v, jlet_v]
      by_cases ne : (eu i a b).1 / (eu i a b).2 = (eu i c d).1 / (eu i c d).2
      · obtain ⟨u1, u2⟩ := t2 ne
        rw [if_pos (by rw [ne])] at head
        have out : ((eu (i + 1) a b).2 = 0 ∨ (eu (i + 1) c d).2 = 0) → (jchk (inL ((eu (i + 1) a b).2 : Int) ∧ inL ((eu (i + 1) c d).2 : Int)) (if ((eu (i + 1) a b).2 : Int) = ((eu (i + 1) c d).2 : Int) then some 0 else jchk (inL ((eu (i + 1) a b).2 : Int) ∧ inL 0) (if ((eu (i + 1) a b).2 : Int) = 0 then some (-w) else some w))) = some T := fun z => by
          have u := u1 z
          rw [jc_LL (by omega) (by omega) (by omega) (by omega), jc_LL (by omega) (by omega) (by omega) (by omega)]
          by_cases y : ((eu (i + 1) a b).2 : Int) = ((eu (i + 1) c d).2 : Int)
          · rw [if_pos y, u, y, Int.sub_self, show sg 0 = 0 from rfl, Int.mul_zero]
          · rw [if_neg y]
            by_cases y0 : ((eu (i + 1) a b).2 : Int) = 0
            · rw [if_pos y0, u, sg_n (by omega), Int.mul_neg, Int.mul_one]
            · rw [if_neg y0, u, sg_p (by omega), Int.mul_one]
        by_cases y1 : (eu (i + 1) a b).2 = 0
        · rw [if_pos (by omega)] at head
          exact Or.inr ⟨_, head, out (Or.inl y1)⟩
        · rw [if_neg (by omega)] at head
          by_cases y2 : (eu (i + 1) c d).2 = 0
          · rw [if_pos (by omega)] at head
            exact Or.inr ⟨_, head, out (Or.inr y2)⟩
          · rw [if_neg (by omega)] at head
            refine Or.inl ⟨_, head, ⟨-w, u2 y1 y2, rfl⟩, ?_⟩
            by_cases e : i + 1 = n
            · rw [e] at y1; exact absurd n2 y1
            · omega
      · have ne' : (((eu i a b).1 / (eu i a b).2 : Nat) : Int) ≠ (((eu i c d).1 / (eu i c d).2 : Nat) : Int) := fun z => ne (Int.ofNat.inj z)
        rw [if_neg ne'] at head
        refine Or.inr ⟨_, head, ?_⟩
        dsimp only
        rw [jchk_t ⟨q1, q2⟩, t1 ne]
        generalize (((eu i a b).1 / (eu i a b).2 : Nat) : Int) = x at *
        generalize (((eu i c d).1 / (eu i c d).2 : Nat) : Int) = y at *
        by_cases g : y < x
        · rw [if_pos g, sg_p (by omega), Int.mul_one]
        · rw [if_neg g, sg_n (by omega), Int.mul_neg, Int.mul_one]
    refine jloop_or (I := fun i s => ∃ w, FI a b c d T i w ∧ s = (((eu i a b).1 : Int), ((eu i a b).2 : Int), ((eu i c d).1 : Int), ((eu i c d).2 : Int), w)) (N := n - 1) (J := _) (fun i s hi hI => ?_) (fun s hI => ?_) (n - 1) 0 1000 _ (by omega) (by omega) ⟨1, ⟨Or.inl rfl, ?_, fun j hj => absurd hj (Nat.not_lt_zero j), ?_⟩, rfl⟩
    · rcases st i s (by omega) hI with ⟨s', x1, x2, -⟩ | x
      · exact Or.inl ⟨s', x1, x2⟩
      · exact Or.inr x
    · rcases st (n - 1) s (by omega) hI with ⟨s', -, -, x3⟩ | x
      · omega
      · exact x
    · show d ≠ 0
      omega
    · rw [eT, Int.one_mul]; rfl
  obtain ⟨e, l1, l2⟩ := lp
  rw [f_X11_fractions, f_X11_fractions_b0, jlet_v, jlet_v, jlet_v, jlet_v, jlet_v, l1, jbind_s]
  exact l2
/-- both, for whole numbers as they come -/
theorem frac_eq {a b c d : Int} (ha : 0 ≤ a) (ha2 : a < 9223372036854775808) (hb : 0 < b) (hb2 : b < 9223372036854775808) (hc : 0 ≤ c) (hc2 : c < 9223372036854775808) (hd : 0 < d) (hd2 : d < 9223372036854775808) : f_X10_compareFractions a b c d = some (sg (a * d - c * b)) ∧ f_X11_fractions a b c d = some (sg (a * d - c * b)) := by
  obtain ⟨a, rfl⟩ : ∃ n : Nat, a = (n : Int) := ⟨a.toNat, by omega⟩
  obtain ⟨b, rfl⟩ : ∃ n : Nat, b = (n : Int) := ⟨b.toNat, by omega⟩
  obtain ⟨c, rfl⟩ : ∃ n : Nat, c = (n : Int) := ⟨c.toNat, by omega⟩
  obtain ⟨d, rfl⟩ : ∃ n : Nat, d = (n : Int) := ⟨d.toNat, by omega⟩
  exact ⟨fracC (by omega) (by omega) (by omega) (by omega) (by omega) (by omega), fracM (by omega) (by omega) (by omega) (by omega) (by omega) (by omega)⟩
