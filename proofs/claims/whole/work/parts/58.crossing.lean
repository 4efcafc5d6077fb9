/-! ===== the pure side 38: where two lines cross ===== -/
theorem cross_id1 (L M Z : Pt) : (L.1 * M.2.1 - M.1 * L.2.1) * Z.1 - (L.2.2 * M.2.1 - M.2.2 * L.2.1) * Z.2.2 = L.2.1 * fl M Z - M.2.1 * fl L Z := by unfold fl; grind
theorem cross_id2 (L M Z : Pt) : (L.1 * M.2.1 - M.1 * L.2.1) * Z.2.1 - (L.1 * M.2.2 - M.1 * L.2.2) * Z.2.2 = M.1 * fl L Z - L.1 * fl M Z := by unfold fl; grind
theorem par_id1 (L M A B : Pt) : L.1 * (fl M A * B.2.2 - fl M B * A.2.2) - M.1 * (fl L A * B.2.2 - fl L B * A.2.2) = (L.1 * M.2.1 - M.1 * L.2.1) * (B.2.1 * A.2.2 - A.2.1 * B.2.2) := by unfold fl; grind
theorem par_id2 (L M A B : Pt) : L.2.1 * (fl M A * B.2.2 - fl M B * A.2.2) - M.2.1 * (fl L A * B.2.2 - fl L B * A.2.2) = - ((L.1 * M.2.1 - M.1 * L.2.1) * (B.1 * A.2.2 - A.1 * B.2.2)) := by unfold fl; grind
theorem cross_fl (L M : Pt) : fl L (L.2.2 * M.2.1 - M.2.2 * L.2.1, L.1 * M.2.2 - M.1 * L.2.2, L.1 * M.2.1 - M.1 * L.2.1) = 0 ∧ fl M (L.2.2 * M.2.1 - M.2.2 * L.2.1, L.1 * M.2.2 - M.1 * L.2.2, L.1 * M.2.1 - M.1 * L.2.1) = 0 := by
  unfold fl
  constructor <;> grind
/-- two lines of one ground: their cross product is the double of a triangle of wells -/
def PB (L M : Pt) : Prop := -1000000 ≤ L.1 * M.2.1 - M.1 * L.2.1 ∧ L.1 * M.2.1 - M.1 * L.2.1 ≤ 1000000
/-- the point where line L, on which A and B lie, crosses line M between them -/
theorem cross_pt {L M A B : Pt} (hpb : PB L M) (hL : okL L) (hM : okL M) (nL : nzL L) (hA : okP A) (hB : okP B) (zA : fl L A = 0) (zB : fl L B = 0) (hs : (0 < fl M A ∧ fl M B < 0) ∨ (fl M A < 0 ∧ 0 < fl M B)) : ∃ C : Pt, okP C ∧ fl L C = 0 ∧ fl M C = 0 ∧ (∃ k a b : Int, 0 < k ∧ 0 < a ∧ 0 < b ∧ cmb k C a A b B) ∧ ((L.1 * M.2.1 - M.1 * L.2.1 < 0 ∧ C = (-(L.2.2 * M.2.1 - M.2.2 * L.2.1), -(L.1 * M.2.2 - M.1 * L.2.2), -(L.1 * M.2.1 - M.1 * L.2.1))) ∨ (0 < L.1 * M.2.1 - M.1 * L.2.1 ∧ C = (L.2.2 * M.2.1 - M.2.2 * L.2.1, L.1 * M.2.2 - M.1 * L.2.2, L.1 * M.2.1 - M.1 * L.2.1))) := by
  obtain ⟨l1, l2, l3, l4, l5, l6⟩ := hL
  obtain ⟨m1, m2, m3, m4, m5, m6⟩ := hM
  obtain ⟨A1, A2, A3, A4, A5, A6⟩ := hA
  obtain ⟨B1, B2, B3, B4, B5, B6⟩ := hB
  obtain ⟨y1, y2⟩ := cross_fl L M
  obtain ⟨pb1, pb2⟩ := hpb
  have b1 := mul_bd (a := L.1) (b := M.2.1) (A := 1000) (B := 1000) (by omega) (by omega) (by omega) (by omega)
  have b2 := mul_bd (a := M.1) (b := L.2.1) (A := 1000) (B := 1000) (by omega) (by omega) (by omega) (by omega)
  have i1 := par_id1 L M A B
  have i2 := par_id2 L M A B
  rw [zA, zB, Int.zero_mul, Int.zero_mul, Int.sub_zero, Int.mul_zero, Int.sub_zero] at i1 i2
  -- the weights
  obtain ⟨u, v, u0, v0, huv⟩ : ∃ u v : Int, 0 < u ∧ 0 < v ∧ ((u = - fl M B ∧ v = fl M A) ∨ (u = fl M B ∧ v = - fl M A)) := by
    rcases hs with z | z
    · exact ⟨- fl M B, fl M A, by omega, by omega, Or.inl ⟨rfl, rfl⟩⟩
    · exact ⟨fl M B, - fl M A, by omega, by omega, Or.inr ⟨rfl, rfl⟩⟩
  have uA := Int.mul_pos u0 A1
  have vB := Int.mul_pos v0 B1
  have dn0 : L.1 * M.2.1 - M.1 * L.2.1 ≠ 0 := by
    intro z
    rw [z, Int.zero_mul] at i1 i2
    have W : fl M A * B.2.2 - fl M B * A.2.2 ≠ 0 := by
      rcases huv with ⟨z1, z2⟩ | ⟨z1, z2⟩
      · rw [z1] at uA; rw [z2] at vB
        rw [Int.neg_mul] at uA
        omega
      · rw [z1] at uA; rw [z2] at vB
        rw [Int.neg_mul] at vB
        omega
    have e1 : L.1 = 0 := by
      rcases Int.mul_eq_zero.mp i1 with y | y
      · exact y
      · exact absurd y W
    have e2 : L.2.1 = 0 := by
      rcases Int.mul_eq_zero.mp (show L.2.1 * (fl M A * B.2.2 - fl M B * A.2.2) = 0 by omega) with y | y
      · exact y
      · exact absurd y W
    rcases nL with y | y
    · exact y e1
    · exact y e2
  -- Z = u A + v B lies on both lines
  obtain ⟨Z, hZ⟩ : ∃ Z : Pt, Z = (u * A.1 + v * B.1, u * A.2.1 + v * B.2.1, u * A.2.2 + v * B.2.2) := ⟨_, rfl⟩
  have cz : cmb 1 Z u A v B := by
    rw [hZ]
    refine ⟨?_, ?_, ?_⟩ <;> simp
  have ZL : fl L Z = 0 := by
    have := fl_lin cz L
    rw [zA, zB] at this
    omega
  have ZM : fl M Z = 0 := by
    have := fl_lin cz M
    rcases huv with ⟨z1, z2⟩ | ⟨z1, z2⟩ <;> rw [z1, z2] at this
    · have e : - fl M B * fl M A + fl M A * fl M B = 0 := by grind
      omega
    · have e : fl M B * fl M A + - fl M A * fl M B = 0 := by grind
      omega
  have Z0 : 0 < Z.2.2 := by rw [hZ]; show 0 < u * A.2.2 + v * B.2.2; omega
  have c1 := cross_id1 L M Z
  have c2 := cross_id2 L M Z
  rw [ZL, ZM, Int.mul_zero, Int.mul_zero] at c1 c2
  obtain ⟨q1, q2, q3⟩ := cz
  rw [Int.one_mul] at q1 q2 q3
  have key : ∀ (C : Pt) (t : Int), 0 < t → t ≤ 1000000 → C.2.2 = t → Z.2.2 * C.1 = t * Z.1 → Z.2.2 * C.2.1 = t * Z.2.1 → okP C ∧ ∃ k a b : Int, 0 < k ∧ 0 < a ∧ 0 < b ∧ cmb k C a A b B := by
    intro C t t0 t1 e3 e1 e2
    have cm : cmb Z.2.2 C (t * u) A (t * v) B := by
      refine ⟨?_, ?_, ?_⟩
      · rw [e1, q1]; grind
      · rw [e2, q2]; grind
      · rw [e3, q3]; grind
    have tu := Int.mul_pos t0 u0
    have tv := Int.mul_pos t0 v0
    refine ⟨⟨by omega, by omega, ?_, ?_, ?_, ?_⟩, Z.2.2, t * u, t * v, Z0, tu, tv, cm⟩
    · exact sum_nn Z0 (by omega) (by omega) A3 B3 cm.1
    · have := sum_nn (z := 2000 * C.2.2 - C.1) Z0 (show 0 ≤ t * u by omega) (show 0 ≤ t * v by omega) (show 0 ≤ 2000 * A.2.2 - A.1 by omega) (show 0 ≤ 2000 * B.2.2 - B.1 by omega) (by
        have e : Z.2.2 * (2000 * C.2.2 - C.1) = 2000 * (Z.2.2 * C.2.2) - Z.2.2 * C.1 := by grind
        rw [e, cm.1, cm.2.2]; grind)
      omega
    · exact sum_nn Z0 (by omega) (by omega) A5 B5 cm.2.1
    · have := sum_nn (z := 2000 * C.2.2 - C.2.1) Z0 (show 0 ≤ t * u by omega) (show 0 ≤ t * v by omega) (show 0 ≤ 2000 * A.2.2 - A.2.1 by omega) (show 0 ≤ 2000 * B.2.2 - B.2.1 by omega) (by
        have e : Z.2.2 * (2000 * C.2.2 - C.2.1) = 2000 * (Z.2.2 * C.2.2) - Z.2.2 * C.2.1 := by grind
        rw [e, cm.2.1, cm.2.2]; grind)
      omega
  have c1' : (L.1 * M.2.1 - M.1 * L.2.1) * Z.1 = (L.2.2 * M.2.1 - M.2.2 * L.2.1) * Z.2.2 := by omega
  have c2' : (L.1 * M.2.1 - M.1 * L.2.1) * Z.2.1 = (L.1 * M.2.2 - M.1 * L.2.2) * Z.2.2 := by omega
  by_cases dp : 0 < L.1 * M.2.1 - M.1 * L.2.1
  · obtain ⟨k1, k2⟩ := key (L.2.2 * M.2.1 - M.2.2 * L.2.1, L.1 * M.2.2 - M.1 * L.2.2, L.1 * M.2.1 - M.1 * L.2.1) (L.1 * M.2.1 - M.1 * L.2.1) dp (by omega) rfl (by rw [c1', Int.mul_comm]) (by rw [c2', Int.mul_comm])
    exact ⟨_, k1, y1, y2, k2, Or.inr ⟨dp, rfl⟩⟩
  · have dn : L.1 * M.2.1 - M.1 * L.2.1 < 0 := by omega
    have ng : ∀ T : Pt, fl T (-(L.2.2 * M.2.1 - M.2.2 * L.2.1), -(L.1 * M.2.2 - M.1 * L.2.2), -(L.1 * M.2.1 - M.1 * L.2.1)) = - fl T (L.2.2 * M.2.1 - M.2.2 * L.2.1, L.1 * M.2.2 - M.1 * L.2.2, L.1 * M.2.1 - M.1 * L.2.1) := by
      intro T
      unfold fl
      grind
    obtain ⟨k1, k2⟩ := key (-(L.2.2 * M.2.1 - M.2.2 * L.2.1), -(L.1 * M.2.2 - M.1 * L.2.2), -(L.1 * M.2.1 - M.1 * L.2.1)) (-(L.1 * M.2.1 - M.1 * L.2.1)) (by omega) (by omega) rfl (by rw [Int.neg_mul, c1', Int.mul_neg, Int.mul_comm]) (by rw [Int.neg_mul, c2', Int.mul_neg, Int.mul_comm])
    exact ⟨_, k1, by rw [ng, y1]; rfl, by rw [ng, y2]; rfl, k2, Or.inl ⟨dn, rfl⟩⟩
theorem crossing_spec {τ : St} {g o s e l : Nat} {A B : Pt} (hpb : PB (lnG τ g e) (lnG τ g l)) (hG : GD g o s) (h5 : τ g 5 = (s : Int)) (he : e < 28) (hl : l < 28) (hL : okL (lnG τ g e)) (hM : okL (lnG τ g l)) (nL : nzL (lnG τ g e)) (hA : okP A) (hB : okP B) (zA : fl (lnG τ g e) A = 0) (zB : fl (lnG τ g e) B = 0) (hs : (0 < fl (lnG τ g l) A ∧ fl (lnG τ g l) B < 0) ∨ (fl (lnG τ g l) A < 0 ∧ 0 < fl (lnG τ g l) B)) : ∃ C : Pt, (∀ (n : Nat) (lab : Int), n < 28 → τ s 0 = (n : Int) → f_X1_addCrossing τ g (e : Int) (l : Int) lab = some (addO τ s n C.1 C.2.1 C.2.2 lab)) ∧ okP C ∧ fl (lnG τ g e) C = 0 ∧ fl (lnG τ g l) C = 0 ∧ ∃ k a b : Int, 0 < k ∧ 0 < a ∧ 0 < b ∧ cmb k C a A b B := by
  obtain ⟨C, c1, c2, c3, c4, c5⟩ := cross_pt hpb hL hM nL hA hB zA zB hs
  obtain ⟨n1, n2⟩ := hG.sw.ln
  obtain ⟨l1, l2, l3, l4, -⟩ := hL
  obtain ⟨m1, m2, m3, m4, -⟩ := hM
  refine ⟨C, fun n lab hn h0 => ?_, c1, c2, c3, c4⟩
  have b1 := mul_bd (a := (lnG τ g e).1) (b := (lnG τ g l).2.1) (A := 1000) (B := 1000) (by omega) (by omega) (by omega) (by omega)
  have b2 := mul_bd (a := (lnG τ g l).1) (b := (lnG τ g e).2.1) (A := 1000) (B := 1000) (by omega) (by omega) (by omega) (by omega)
  have st : f_X1_addCrossing τ g (e : Int) (l : Int) lab = jchk (inL ((lnG τ g e).1 * (lnG τ g l).2.1 - (lnG τ g l).1 * (lnG τ g e).2.1) ∧ inL 0) (if (lnG τ g e).1 * (lnG τ g l).2.1 - (lnG τ g l).1 * (lnG τ g e).2.1 < 0 then jlet (τ g 5).toNat (fun o_6 => jchk (isO o_6) (jbind (f_X4_add τ o_6 (-((lnG τ g e).2.2 * (lnG τ g l).2.1 - (lnG τ g l).2.2 * (lnG τ g e).2.1)) (-((lnG τ g e).1 * (lnG τ g l).2.2 - (lnG τ g l).1 * (lnG τ g e).2.2)) (-((lnG τ g e).1 * (lnG τ g l).2.1 - (lnG τ g l).1 * (lnG τ g e).2.1)) lab) (fun σ_7 => some σ_7))) else jchk (inL ((lnG τ g e).1 * (lnG τ g l).2.1 - (lnG τ g l).1 * (lnG τ g e).2.1) ∧ inL 0) (if (0 : Int) < (lnG τ g e).1 * (lnG τ g l).2.1 - (lnG τ g l).1 * (lnG τ g e).2.1 then jlet (τ g 5).toNat (fun o_4 => jchk (isO o_4) (jbind (f_X4_add τ o_4 ((lnG τ g e).2.2 * (lnG τ g l).2.1 - (lnG τ g l).2.2 * (lnG τ g e).2.1) ((lnG τ g e).1 * (lnG τ g l).2.2 - (lnG τ g l).1 * (lnG τ g e).2.2) ((lnG τ g e).1 * (lnG τ g l).2.1 - (lnG τ g l).1 * (lnG τ g e).2.1) lab) (fun σ_5 => some σ_5))) else some τ)) := by
    rw [f_X1_addCrossing, f_X1_addCrossing_b0, jc_ix (by omega) (by omega), jc_ix (by omega) (by omega), jc_ix (by omega) (by omega), jc_ix (by omega) (by omega), jlet_v, jc_ix (by omega) (by omega), jc_ix (by omega) (by omega), jc_ix (by omega) (by omega), jc_ix (by omega) (by omega), jlet_v, jc_ix (by omega) (by omega), jc_ix (by omega) (by omega), jc_ix (by omega) (by omega), jc_ix (by omega) (by omega), jlet_v, cast_n, cast_n]
    rfl
  rw [st, jc_LL (by omega) (by omega) (by omega) (by omega), h5, cast_n, jlet_v, jlet_v, jchk_t n2, jchk_t n2]
  rcases c5 with ⟨z1, z2⟩ | ⟨z1, z2⟩
  · rw [if_pos z1, add_spec4 n1 hn h0, jbind_s, z2]
  · rw [if_neg (by omega), jc_LL (by omega) (by omega) (by omega) (by omega), if_pos z1, add_spec4 n1 hn h0, jbind_s, z2]
