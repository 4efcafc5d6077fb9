/-! ===== the pure functions of all methods (written by wip/whole/gen) ===== -/
def f_J13_compare_74951_b0 (x0 x2 : Int) : Option Int :=
  jchk (inL x0 ∧ inL x2) (if x0 < x2 then some (-1) else jchk (inL x0 ∧ inL x2) (if x0 = x2 then some 0 else some 1))
def f_J13_compare_74951 (x0 x2 : Int) : Option Int := f_J13_compare_74951_b0 x0 x2
def f_J7_fill_53178_b5 (σ : St) (k : Nat) (n : Nat) (x1 x2 x3 : Int) : Option ((St × Int) ⊕ St) :=
  jchk (inI x2 ∧ inI x3) (if x2 < x3 then jchk (0 ≤ x2 ∧ x2 < ((n : Nat) : Int)) (jlet (up2 σ k x2.toNat x1) (fun σ_3 => jlet (x2 + 1) (fun x2_4 => some (.inl (σ_3, x2_4))))) else some (.inr (σ)))
def f_J7_fill_53178_b0 (σ : St) (k : Nat) (n : Nat) (x1 : Int) : Option St :=
  jlet (0 : Int) (fun x2_1 => jlet ((n : Nat) : Int) (fun x3_2 => jbind (jloop (fun (q : (St × Int)) => match q with | (σ, x2) => f_J7_fill_53178_b5 σ k n x1 x2 x3_2) 1000 (σ, x2_1)) (fun σ_5 => some σ_5)))
def f_J7_fill_53178 (σ : St) (k : Nat) (n : Nat) (x1 : Int) : Option St := f_J7_fill_53178_b0 σ k n x1
def f_J7_fill_d0a16_b6 (σ : St) (k : Nat) (n : Nat) (x1 x3 x4 : Int) : Option ((St × Int) ⊕ St) :=
  jchk (inI x3 ∧ inI x4) (if x3 < x4 then jchk (0 ≤ x3 ∧ x3 < ((n : Nat) : Int)) (jlet (up2 σ k x3.toNat x1) (fun σ_3 => jlet (x3 + 1) (fun x3_4 => some (.inl (σ_3, x3_4))))) else some (.inr (σ)))
def f_J7_fill_d0a16_b0 (σ : St) (k : Nat) (n : Nat) (x1 : Int) : Option St :=
  jlet (0 : Int) (fun x3_1 => jlet ((n : Nat) : Int) (fun x4_2 => jbind (jloop (fun (q : (St × Int)) => match q with | (σ, x3) => f_J7_fill_d0a16_b6 σ k n x1 x3 x4_2) 1000 (σ, x3_1)) (fun σ_5 => some σ_5)))
def f_J7_fill_d0a16 (σ : St) (k : Nat) (n : Nat) (x1 : Int) : Option St := f_J7_fill_d0a16_b0 σ k n x1
def f_X9_has_b0 (σ : St) (x1 : Int) : Option Int :=
  jchk (inI x1) (if x1 < 0 then some 0 else jchk (inI x1 ∧ inI 24) (if x1 < 24 then jchk (0 ≤ x1 ∧ x1 < 24) (jchk (inI (σ 5 x1.toNat) ∧ inI (-1)) (if σ 5 x1.toNat = (-1) then some 0 else some 1)) else some 0))
def f_X9_has (σ : St) (x1 : Int) : Option Int := jz (f_X9_has_b0 σ x1)
def f_X9_isCounted_b0 (σ : St) (x1 : Int) : Option Int :=
  jbind (f_X9_has σ x1) (fun r_1 => jchk (inI r_1) (if r_1 = 0 then some 0 else jchk (0 ≤ x1 ∧ x1 < 24) (jchk (inI (σ 5 x1.toNat) ∧ inI 3) (if σ 5 x1.toNat = 3 then some 0 else jchk (0 ≤ x1 ∧ x1 < 24) (jchk (inI (σ 5 x1.toNat) ∧ inI 4) (if σ 5 x1.toNat = 4 then jchk (0 ≤ x1 ∧ x1 < 24) (jchk (inI (jand (jshr (σ 6 x1.toNat) (σ 1 2)) 1) ∧ inI 1) (if (jand (jshr (σ 6 x1.toNat) (σ 1 2)) 1) = 1 then some 1 else some 0)) else some 1))))))
def f_X9_isCounted (σ : St) (x1 : Int) : Option Int := jz (f_X9_isCounted_b0 σ x1)
def f_X1_setLine_b0 (σ : St) (g : Nat) (x1 x2 x3 x4 : Int) : Option St :=
  jchk (inI x2) (jchk (0 ≤ x1 ∧ x1 < 28) (jlet (up2 σ (g + 1) x1.toNat x2) (fun σ_1 => jchk (inI x3) (jchk (0 ≤ x1 ∧ x1 < 28) (jlet (up2 σ_1 (g + 2) x1.toNat x3) (fun σ_2 => jchk (inI x4) (jchk (0 ≤ x1 ∧ x1 < 28) (jlet (up2 σ_2 (g + 3) x1.toNat x4) (fun σ_3 => some σ_3)))))))))
def f_X1_setLine (σ : St) (g : Nat) (x1 x2 x3 x4 : Int) : Option St := f_X1_setLine_b0 σ g x1 x2 x3 x4
def f_X4_add_b0 (σ : St) (o : Nat) (x1 x3 x5 x7 : Int) : Option St :=
  jchk (inI (σ o 0) ∧ inI ((lnO o : Nat) : Int)) (if σ o 0 < ((lnO o : Nat) : Int) then jchk (0 ≤ σ o 0 ∧ σ o 0 < ((lnO o : Nat) : Int)) (jlet (up2 σ (o + 1) (σ o 0).toNat x1) (fun σ_1 => jchk (0 ≤ σ_1 o 0 ∧ σ_1 o 0 < ((lnO o : Nat) : Int)) (jlet (up2 σ_1 (o + 2) (σ_1 o 0).toNat x3) (fun σ_2 => jchk (0 ≤ σ_2 o 0 ∧ σ_2 o 0 < ((lnO o : Nat) : Int)) (jlet (up2 σ_2 (o + 3) (σ_2 o 0).toNat x5) (fun σ_3 => jchk (0 ≤ σ_3 o 0 ∧ σ_3 o 0 < ((lnO o : Nat) : Int)) (jlet (up2 σ_3 (o + 4) (σ_3 o 0).toNat x7) (fun σ_4 => jlet (up2 σ_4 o 0 (σ_4 o 0 + 1)) (fun σ_5 => some σ_5))))))))) else some σ)
def f_X4_add (σ : St) (o : Nat) (x1 x3 x5 x7 : Int) : Option St := f_X4_add_b0 σ o x1 x3 x5 x7
def f_X1_beginWithMap_b0 (σ : St) (g : Nat) : Option St :=
  jlet (2 * σ 1 0) (fun x1_1 => jlet (2 * σ 1 1) (fun x2_2 => jbind (f_X1_setLine σ g 0 0 (-1) 0) (fun σ_3 => jbind (f_X1_setLine σ_3 g 1 1 0 x1_1) (fun σ_4 => jbind (f_X1_setLine σ_4 g 2 0 1 x2_2) (fun σ_5 => jbind (f_X1_setLine σ_5 g 3 (-1) 0 0) (fun σ_6 => jlet (σ_6 g 4).toNat (fun o_7 => jchk (isO o_7) (jbind (f_X4_add σ_6 o_7 0 0 1 0) (fun σ_8 => jlet (σ_8 g 4).toNat (fun o_9 => jchk (isO o_9) (jchk (inI x1_1) (jbind (f_X4_add σ_8 o_9 x1_1 0 1 1) (fun σ_10 => jlet (σ_10 g 4).toNat (fun o_11 => jchk (isO o_11) (jchk (inI x1_1) (jchk (inI x2_2) (jbind (f_X4_add σ_10 o_11 x1_1 x2_2 1 2) (fun σ_12 => jlet (σ_12 g 4).toNat (fun o_13 => jchk (isO o_13) (jchk (inI x2_2) (jbind (f_X4_add σ_12 o_13 0 x2_2 1 3) (fun σ_14 => some σ_14))))))))))))))))))))))
def f_X1_beginWithMap (σ : St) (g : Nat) : Option St := f_X1_beginWithMap_b0 σ g
def f_X1_fromOrigin_b0 (σ : St) (g : Nat) (x1 : Int) : Option Int :=
  jchk (0 ≤ x1 ∧ x1 < 24) (jchk (0 ≤ x1 ∧ x1 < 24) (jchk (0 ≤ x1 ∧ x1 < 24) (jchk (0 ≤ x1 ∧ x1 < 24) (some ((σ 3 x1.toNat * σ 3 x1.toNat) + (σ 4 x1.toNat * σ 4 x1.toNat))))))
def f_X1_fromOrigin (σ : St) (g : Nat) (x1 : Int) : Option Int := f_X1_fromOrigin_b0 σ g x1
def f_X9_takenOff_b0 (σ : St) (x1 : Int) : Option Int :=
  jbind (f_X9_has σ x1) (fun r_1 => jchk (inI r_1) (if r_1 = 0 then some 0 else jchk (0 ≤ x1 ∧ x1 < 24) (jchk (inI (σ 5 x1.toNat) ∧ inI 1) (if σ 5 x1.toNat = 1 then jchk (0 ≤ x1 ∧ x1 < 24) (some (σ 6 x1.toNat)) else some 0))))
def f_X9_takenOff (σ : St) (x1 : Int) : Option Int := f_X9_takenOff_b0 σ x1
def f_X1_setBorder_b39 (σ : St) (g : Nat) (x1 x2 x4 : Int) : Option St :=
  jchk (0 ≤ x1 ∧ x1 < 24) (jchk (0 ≤ x2 ∧ x2 < 24) (jchk (0 ≤ x1 ∧ x1 < 24) (jchk (0 ≤ x2 ∧ x2 < 24) (jbind (f_X1_setLine σ g (4 + x1) (σ 3 x1.toNat - σ 3 x2.toNat) (σ 4 x1.toNat - σ 4 x2.toNat) x4) (fun σ_4 => some σ_4)))))
def f_X1_setBorder_b0 (σ : St) (g : Nat) (x1 x2 x3 : Int) : Option St :=
  jbind (f_X1_fromOrigin σ g x1) (fun r_1 => jbind (f_X1_fromOrigin σ g x2) (fun r_2 => jlet (r_1 - r_2) (fun x4_3 => jchk (inI x3) (if x3 = 0 then f_X1_setBorder_b39 σ g x1 x2 x4_3 else jbind (f_X9_takenOff σ x2) (fun r_5 => jbind (f_X9_takenOff σ x1) (fun r_6 => jlet (x4_3 + (r_5 - r_6)) (fun x4_7 => f_X1_setBorder_b39 σ g x1 x2 x4_7)))))))
def f_X1_setBorder (σ : St) (g : Nat) (x1 x2 x3 : Int) : Option St := f_X1_setBorder_b0 σ g x1 x2 x3
def f_X1_innerSide_b0 (σ : St) (g : Nat) (x1 x2 : Int) : Option Int :=
  jchk (0 ≤ x1 ∧ x1 < 28) (jlet (σ g 4).toNat (fun o_1 => jchk (isO o_1) (jchk (0 ≤ x2 ∧ x2 < ((lnO o_1 : Nat) : Int)) (jchk (0 ≤ x1 ∧ x1 < 28) (jlet (σ g 4).toNat (fun o_2 => jchk (isO o_2) (jchk (0 ≤ x2 ∧ x2 < ((lnO o_2 : Nat) : Int)) (jchk (0 ≤ x1 ∧ x1 < 28) (jlet (σ g 4).toNat (fun o_3 => jchk (isO o_3) (jchk (0 ≤ x2 ∧ x2 < ((lnO o_3 : Nat) : Int)) (some (((σ (g + 3) x1.toNat * σ (o_1 + 3) x2.toNat) - (σ (g + 1) x1.toNat * σ (o_2 + 1) x2.toNat)) - (σ (g + 2) x1.toNat * σ (o_3 + 2) x2.toNat))))))))))))))
def f_X1_innerSide (σ : St) (g : Nat) (x1 x2 : Int) : Option Int := f_X1_innerSide_b0 σ g x1 x2
def f_X4_addFrom_b0 (σ : St) (o : Nat) (o1 : Nat) (x2 x3 : Int) : Option St :=
  jchk (0 ≤ x2 ∧ x2 < ((lnO o1 : Nat) : Int)) (jchk (0 ≤ x2 ∧ x2 < ((lnO o1 : Nat) : Int)) (jchk (0 ≤ x2 ∧ x2 < ((lnO o1 : Nat) : Int)) (jbind (f_X4_add σ o (σ (o1 + 1) x2.toNat) (σ (o1 + 2) x2.toNat) (σ (o1 + 3) x2.toNat) x3) (fun σ_1 => some σ_1))))
def f_X4_addFrom (σ : St) (o : Nat) (o1 : Nat) (x2 x3 : Int) : Option St := f_X4_addFrom_b0 σ o o1 x2 x3
def f_X1_leaveTouched_b2 (σ : St) (g : Nat) (x1 x2 : Int) : Option ((St × Int) ⊕ St) :=
  jlet (σ g 4).toNat (fun o_2 => jchk (isO o_2) (jchk (inI x2 ∧ inI (σ o_2 0)) (if x2 < σ o_2 0 then jchk (0 ≤ x2 ∧ x2 < 28) (jchk (inL (σ (g + 14) x2.toNat) ∧ inL 0) (if σ (g + 14) x2.toNat = 0 then jlet (σ g 5).toNat (fun o_4 => jchk (isO o_4) (jlet (σ g 4).toNat (fun o_5 => jchk (isO o_5) (jbind (f_X4_addFrom σ o_4 o_5 x2 x1) (fun σ_6 => jlet (x2 + 1) (fun x2_7 => some (.inl (σ_6, x2_7)))))))) else jlet (x2 + 1) (fun x2_3 => some (.inl (σ, x2_3))))) else some (.inr (σ)))))
def f_X1_leaveTouched_b0 (σ : St) (g : Nat) (x1 : Int) : Option St :=
  jlet (0 : Int) (fun x2_1 => jbind (jloop (fun (q : (St × Int)) => match q with | (σ, x2) => f_X1_leaveTouched_b2 σ g x1 x2) 1000 (σ, x2_1)) (fun σ_8 => some σ_8))
def f_X1_leaveTouched (σ : St) (g : Nat) (x1 : Int) : Option St := f_X1_leaveTouched_b0 σ g x1
def f_X1_addCrossing_b0 (σ : St) (g : Nat) (x1 x2 x3 : Int) : Option St :=
  jchk (0 ≤ x1 ∧ x1 < 28) (jchk (0 ≤ x2 ∧ x2 < 28) (jchk (0 ≤ x2 ∧ x2 < 28) (jchk (0 ≤ x1 ∧ x1 < 28) (jlet ((σ (g + 1) x1.toNat * σ (g + 2) x2.toNat) - (σ (g + 1) x2.toNat * σ (g + 2) x1.toNat)) (fun x4_1 => jchk (0 ≤ x1 ∧ x1 < 28) (jchk (0 ≤ x2 ∧ x2 < 28) (jchk (0 ≤ x2 ∧ x2 < 28) (jchk (0 ≤ x1 ∧ x1 < 28) (jlet ((σ (g + 3) x1.toNat * σ (g + 2) x2.toNat) - (σ (g + 3) x2.toNat * σ (g + 2) x1.toNat)) (fun x6_2 => jchk (0 ≤ x1 ∧ x1 < 28) (jchk (0 ≤ x2 ∧ x2 < 28) (jchk (0 ≤ x2 ∧ x2 < 28) (jchk (0 ≤ x1 ∧ x1 < 28) (jlet ((σ (g + 1) x1.toNat * σ (g + 3) x2.toNat) - (σ (g + 1) x2.toNat * σ (g + 3) x1.toNat)) (fun x8_3 => jchk (inL x4_1 ∧ inL 0) (if x4_1 < 0 then jlet (σ g 5).toNat (fun o_6 => jchk (isO o_6) (jbind (f_X4_add σ o_6 (-x6_2) (-x8_3) (-x4_1) x3) (fun σ_7 => some σ_7))) else jchk (inL x4_1 ∧ inL 0) (if (0 : Int) < x4_1 then jlet (σ g 5).toNat (fun o_4 => jchk (isO o_4) (jbind (f_X4_add σ o_4 x6_2 x8_3 x4_1 x3) (fun σ_5 => some σ_5))) else some σ)))))))))))))))))
def f_X1_addCrossing (σ : St) (g : Nat) (x1 x2 x3 : Int) : Option St := f_X1_addCrossing_b0 σ g x1 x2 x3
def f_X1_cutPiece_b2 (σ : St) (g : Nat) (x1 x2 : Int) : Option ((St × Int) ⊕ St) :=
  jlet (σ g 4).toNat (fun o_2 => jchk (isO o_2) (jchk (inI x2 ∧ inI (σ o_2 0)) (if x2 < σ o_2 0 then jchk (0 ≤ x2 ∧ x2 < 28) (jchk (inL (σ (g + 14) x2.toNat) ∧ inL 0) (if (0 : Int) < σ (g + 14) x2.toNat then jlet (σ g 5).toNat (fun o_7 => jchk (isO o_7) (jlet (σ g 4).toNat (fun o_8 => jchk (isO o_8) (jlet (σ g 4).toNat (fun o_9 => jchk (isO o_9) (jchk (0 ≤ x2 ∧ x2 < ((lnO o_9 : Nat) : Int)) (jbind (f_X4_addFrom σ o_7 o_8 x2 (σ (o_9 + 4) x2.toNat)) (fun σ_10 => jlet (x2 + 1) (fun x2_11 => some (.inl (σ_10, x2_11))))))))))) else jlet (σ g 4).toNat (fun o_3 => jchk (isO o_3) (jchk (0 ≤ x2 ∧ x2 < ((lnO o_3 : Nat) : Int)) (jlet (σ g 4).toNat (fun o_4 => jchk (isO o_4) (jchk (0 ≤ x2 ∧ x2 < ((lnO o_4 : Nat) : Int)) (jbind (f_X1_addCrossing σ g (σ (o_3 + 4) x2.toNat) x1 (σ (o_4 + 4) x2.toNat)) (fun σ_5 => jlet (x2 + 1) (fun x2_6 => some (.inl (σ_5, x2_6)))))))))))) else some (.inr (σ)))))
def f_X1_cutPiece_b0 (σ : St) (g : Nat) (x1 : Int) : Option St :=
  jlet (0 : Int) (fun x2_1 => jbind (jloop (fun (q : (St × Int)) => match q with | (σ, x2) => f_X1_cutPiece_b2 σ g x1 x2) 1000 (σ, x2_1)) (fun σ_12 => some σ_12))
def f_X1_cutPiece (σ : St) (g : Nat) (x1 : Int) : Option St := f_X1_cutPiece_b0 σ g x1
def f_X1_cutRing_b139 (σ : St) (g : Nat) (p0 : Nat) (p1 : Nat) (x1 x2 t2 t3 : Int) : Option ((St × Int) ⊕ St) :=
  jbind (f_X4_addFrom σ p0 p1 t2 t3) (fun σ_13 => jlet (x2 + 1) (fun x2_14 => some (.inl (σ_13, x2_14))))
def f_X1_cutRing_b33 (σ : St) (g : Nat) (x1 x2 t0 : Int) : Option ((St × Int) ⊕ St) :=
  jlet t0 (fun x3_4 => jchk (0 ≤ x2 ∧ x2 < 28) (jchk (inL (σ (g + 14) x2.toNat) ∧ inL 0) (if (0 : Int) < σ (g + 14) x2.toNat then jlet (σ g 5).toNat (fun o_15 => jchk (isO o_15) (jlet (σ g 4).toNat (fun o_16 => jchk (isO o_16) (jlet (σ g 4).toNat (fun o_17 => jchk (isO o_17) (jchk (0 ≤ x2 ∧ x2 < ((lnO o_17 : Nat) : Int)) (jbind (f_X4_addFrom σ o_15 o_16 x2 (σ (o_17 + 4) x2.toNat)) (fun σ_18 => jchk (0 ≤ x3_4 ∧ x3_4 < 28) (jchk (inL (σ_18 (g + 14) x3_4.toNat) ∧ inL 0) (if σ_18 (g + 14) x3_4.toNat < 0 then jlet (σ_18 g 4).toNat (fun o_20 => jchk (isO o_20) (jchk (0 ≤ x2 ∧ x2 < ((lnO o_20 : Nat) : Int)) (jbind (f_X1_addCrossing σ_18 g (σ_18 (o_20 + 4) x2.toNat) x1 x1) (fun σ_21 => jlet (x2 + 1) (fun x2_22 => some (.inl (σ_21, x2_22))))))) else jlet (x2 + 1) (fun x2_19 => some (.inl (σ_18, x2_19))))))))))))) else jchk (0 ≤ x2 ∧ x2 < 28) (jchk (inL (σ (g + 14) x2.toNat) ∧ inL 0) (if σ (g + 14) x2.toNat = 0 then jlet (σ g 5).toNat (fun o_10 => jchk (isO o_10) (jlet (σ g 4).toNat (fun o_11 => jchk (isO o_11) (jchk (0 ≤ x3_4 ∧ x3_4 < 28) (jchk (inL (σ (g + 14) x3_4.toNat) ∧ inL 0) (if σ (g + 14) x3_4.toNat < 0 then f_X1_cutRing_b139 σ g o_10 o_11 x1 x2 x2 x1 else jlet (σ g 4).toNat (fun o_12 => jchk (isO o_12) (jchk (0 ≤ x2 ∧ x2 < ((lnO o_12 : Nat) : Int)) (f_X1_cutRing_b139 σ g o_10 o_11 x1 x2 x2 (σ (o_12 + 4) x2.toNat)))))))))) else jchk (0 ≤ x3_4 ∧ x3_4 < 28) (jchk (inL (σ (g + 14) x3_4.toNat) ∧ inL 0) (if (0 : Int) < σ (g + 14) x3_4.toNat then jlet (σ g 4).toNat (fun o_6 => jchk (isO o_6) (jchk (0 ≤ x2 ∧ x2 < ((lnO o_6 : Nat) : Int)) (jlet (σ g 4).toNat (fun o_7 => jchk (isO o_7) (jchk (0 ≤ x2 ∧ x2 < ((lnO o_7 : Nat) : Int)) (jbind (f_X1_addCrossing σ g (σ (o_6 + 4) x2.toNat) x1 (σ (o_7 + 4) x2.toNat)) (fun σ_8 => jlet (x2 + 1) (fun x2_9 => some (.inl (σ_8, x2_9)))))))))) else jlet (x2 + 1) (fun x2_5 => some (.inl (σ, x2_5))))))))))
def f_X1_cutRing_b2 (σ : St) (g : Nat) (x1 x2 : Int) : Option ((St × Int) ⊕ St) :=
  jlet (σ g 4).toNat (fun o_2 => jchk (isO o_2) (jchk (inI x2 ∧ inI (σ o_2 0)) (if x2 < σ o_2 0 then jlet (σ g 4).toNat (fun o_3 => jchk (isO o_3) (jchk (inI (x2 + 1) ∧ inI (σ o_3 0)) (if (x2 + 1) < σ o_3 0 then f_X1_cutRing_b33 σ g x1 x2 (x2 + 1) else f_X1_cutRing_b33 σ g x1 x2 0))) else some (.inr (σ)))))
def f_X1_cutRing_b0 (σ : St) (g : Nat) (x1 : Int) : Option St :=
  jlet (0 : Int) (fun x2_1 => jbind (jloop (fun (q : (St × Int)) => match q with | (σ, x2) => f_X1_cutRing_b2 σ g x1 x2) 1000 (σ, x2_1)) (fun σ_23 => some σ_23))
def f_X1_cutRing (σ : St) (g : Nat) (x1 : Int) : Option St := f_X1_cutRing_b0 σ g x1
def f_X1_cut_b51 (σ : St) (g : Nat) (x1 x3 x4 t0 t1 : Int) : Option ((St × Int × Int × Int) ⊕ (St × Int × Int)) :=
  jlet (jor t0 t1) (fun x2_7 => jchk (0 ≤ x4 ∧ x4 < 28) (jchk (inL (σ (g + 14) x4.toNat) ∧ inL 0) (if σ (g + 14) x4.toNat < 0 then jlet (jor x3 1) (fun x3_10 => jlet (x4 + 1) (fun x4_11 => some (.inl (σ, x2_7, x3_10, x4_11)))) else jlet (jor x3 0) (fun x3_8 => jlet (x4 + 1) (fun x4_9 => some (.inl (σ, x2_7, x3_8, x4_9)))))))
def f_X1_cut_b7 (σ : St) (g : Nat) (x1 x2 x3 x4 : Int) : Option ((St × Int × Int × Int) ⊕ (St × Int × Int)) :=
  jlet (σ g 4).toNat (fun o_4 => jchk (isO o_4) (jchk (inI x4 ∧ inI (σ o_4 0)) (if x4 < σ o_4 0 then jbind (f_X1_innerSide σ g x1 x4) (fun r_5 => jchk (0 ≤ x4 ∧ x4 < 28) (jlet (up2 σ (g + 14) x4.toNat r_5) (fun σ_6 => jchk (0 ≤ x4 ∧ x4 < 28) (jchk (inL (σ_6 (g + 14) x4.toNat) ∧ inL 0) (if (0 : Int) < σ_6 (g + 14) x4.toNat then f_X1_cut_b51 σ_6 g x1 x3 x4 x2 1 else f_X1_cut_b51 σ_6 g x1 x3 x4 x2 0))))) else some (.inr ((σ, x2, x3))))))
def f_X1_cut_b128 (σ : St) (g : Nat) : Option St :=
  jlet (σ g 4).toNat (fun o_19 => jchk (isO o_19) (jlet (σ g 5).toNat (fun o_20 => jchk (isO o_20) (jlet (up2 σ g 4 (o_20 : Int)) (fun σ_21 => jlet (up2 σ_21 g 5 (o_19 : Int)) (fun σ_22 => some σ_22))))))
def f_X1_cut_b0 (σ : St) (g : Nat) (x1 : Int) : Option St :=
  jlet (0 : Int) (fun x2_1 => jlet (0 : Int) (fun x3_2 => jlet (0 : Int) (fun x4_3 => jbind (jloop (fun (q : (St × Int × Int × Int)) => match q with | (σ, x2, x3, x4) => f_X1_cut_b7 σ g x1 x2 x3 x4) 1000 (σ, x2_1, x3_2, x4_3)) (fun q => match q with | (σ_12, x2_13, x3_14) => jchk (inI x3_14) (if x3_14 = 0 then some σ_12 else jlet (σ_12 g 5).toNat (fun o_15 => jchk (isO o_15) (jlet (up2 σ_12 o_15 0 (0 : Int)) (fun σ_16 => jchk (inI x2_13) (if x2_13 = 0 then jbind (f_X1_leaveTouched σ_16 g x1) (fun σ_24 => f_X1_cut_b128 σ_24 g) else jlet (σ_16 g 4).toNat (fun o_17 => jchk (isO o_17) (jchk (inI (σ_16 o_17 0) ∧ inI 2) (if σ_16 o_17 0 = 2 then jbind (f_X1_cutPiece σ_16 g x1) (fun σ_23 => f_X1_cut_b128 σ_23 g) else jbind (f_X1_cutRing σ_16 g x1) (fun σ_18 => f_X1_cut_b128 σ_18 g)))))))))))))
def f_X1_cut (σ : St) (g : Nat) (x1 : Int) : Option St := f_X1_cut_b0 σ g x1
def f_X4_isBefore_b0 (σ : St) (o : Nat) (x1 x2 : Int) : Option Int :=
  jchk (0 ≤ x1 ∧ x1 < ((lnO o : Nat) : Int)) (jchk (0 ≤ x2 ∧ x2 < ((lnO o : Nat) : Int)) (jchk (0 ≤ x2 ∧ x2 < ((lnO o : Nat) : Int)) (jchk (0 ≤ x1 ∧ x1 < ((lnO o : Nat) : Int)) (jlet ((σ (o + 1) x1.toNat * σ (o + 3) x2.toNat) - (σ (o + 1) x2.toNat * σ (o + 3) x1.toNat)) (fun x3_1 => jchk (inL x3_1 ∧ inL 0) (if x3_1 < 0 then some 1 else jchk (inL x3_1 ∧ inL 0) (if x3_1 = 0 then jchk (0 ≤ x1 ∧ x1 < ((lnO o : Nat) : Int)) (jchk (0 ≤ x2 ∧ x2 < ((lnO o : Nat) : Int)) (jchk (0 ≤ x2 ∧ x2 < ((lnO o : Nat) : Int)) (jchk (0 ≤ x1 ∧ x1 < ((lnO o : Nat) : Int)) (jchk (inL (σ (o + 2) x1.toNat * σ (o + 3) x2.toNat) ∧ inL (σ (o + 2) x2.toNat * σ (o + 3) x1.toNat)) (if (σ (o + 2) x1.toNat * σ (o + 3) x2.toNat) < (σ (o + 2) x2.toNat * σ (o + 3) x1.toNat) then some 1 else some 0))))) else some 0)))))))
def f_X4_isBefore (σ : St) (o : Nat) (x1 x2 : Int) : Option Int := jz (f_X4_isBefore_b0 σ o x1 x2)
def f_X1_draw_b31 (σ : St) (g : Nat) (x1 x2 x3 : Int) : Option ((St × Int) ⊕ St) :=
  jchk (inI x3 ∧ inI (σ 1 4)) (if x3 < σ 1 4 then jchk (0 ≤ x3 ∧ x3 < 24) (jlet (σ 2 x3.toNat) (fun x4_7 => jchk (inI x4_7 ∧ inI x1) (if x4_7 = x1 then jlet (x3 + 1) (fun x3_8 => some (.inl (σ, x3_8))) else jbind (f_X1_setBorder σ g x4_7 x1 x2) (fun σ_9 => jbind (f_X1_cut σ_9 g (4 + x4_7)) (fun σ_10 => jlet (x3 + 1) (fun x3_11 => some (.inl (σ_10, x3_11)))))))) else some (.inr (σ)))
def f_X1_draw_b83 (σ : St) (g : Nat) (x3 : Int) : Option ((St × Int) ⊕ St) :=
  jlet (σ g 4).toNat (fun o_14 => jchk (isO o_14) (jchk (inI x3 ∧ inI (σ o_14 0)) (if x3 < σ o_14 0 then jlet (σ g 4).toNat (fun o_15 => jchk (isO o_15) (jbind (f_X4_isBefore σ o_15 x3 (σ g 7)) (fun r_16 => jchk (inI r_16) (if r_16 = 0 then jlet (x3 + 1) (fun x3_17 => some (.inl (σ, x3_17))) else jlet (up2 σ g 7 x3) (fun σ_18 => jlet (x3 + 1) (fun x3_19 => some (.inl (σ_18, x3_19)))))))) else some (.inr (σ)))))
def f_X1_draw_b0 (σ : St) (g : Nat) (x1 x2 : Int) : Option St :=
  jlet (σ g 4).toNat (fun o_1 => jchk (isO o_1) (jlet (up2 σ o_1 0 (0 : Int)) (fun σ_2 => jlet (up2 σ_2 g 7 (0 : Int)) (fun σ_3 => jbind (f_X9_isCounted σ_3 x1) (fun r_4 => jchk (inI r_4) (if r_4 = 0 then some σ_3 else jbind (f_X1_beginWithMap σ_3 g) (fun σ_5 => jlet (0 : Int) (fun x3_6 => jbind (jloop (fun (q : (St × Int)) => match q with | (σ, x3) => f_X1_draw_b31 σ g x1 x2 x3) 1000 (σ_5, x3_6)) (fun σ_12 => jlet (1 : Int) (fun x3_13 => jbind (jloop (fun (q : (St × Int)) => match q with | (σ, x3) => f_X1_draw_b83 σ g x3) 1000 (σ_12, x3_13)) (fun σ_20 => some σ_20)))))))))))
def f_X1_draw (σ : St) (g : Nat) (x1 x2 : Int) : Option St := f_X1_draw_b0 σ g x1 x2
def f_X1_size_b0 (σ : St) (g : Nat) : Option Int :=
  jlet (σ g 4).toNat (fun o_1 => jchk (isO o_1) (some (σ o_1 0)))
def f_X1_size (σ : St) (g : Nat) : Option Int := f_X1_size_b0 σ g
def f_X1_outline_b0 (σ : St) (g : Nat) : Option Nat :=
  jlet (σ g 4).toNat (fun o_1 => jchk (isO o_1) (some o_1))
def f_X1_outline (σ : St) (g : Nat) : Option Nat := f_X1_outline_b0 σ g
def f_X10_compareFractions_b6 (x0 x2 x4 x6 x8 x9 : Int) : Option ((Int × Int × Int × Int × Int × Int) ⊕ ((Int × Int) ⊕ (Int × Int × Int) ⊕ Unit)) :=
  jchk (inI x9 ∧ inI 200) (if x9 < 200 then jchk (inL x2 ∧ inL 0) (if x2 = 0 then some (.inr (.inr (.inr (())))) else jchk (inL x6 ∧ inL 0) (if x6 = 0 then some (.inr (.inr (.inr (())))) else jchk (inL x2 ∧ x2 ≠ 0) (jlet (jldiv x0 x2) (fun x10_3 => jchk (inL x6 ∧ x6 ≠ 0) (jbind (f_J13_compare_74951 x10_3 (jldiv x4 x6)) (fun r_4 => jlet r_4 (fun x12_5 => jchk (inI x12_5) (if x12_5 = 0 then jchk (inL x2 ∧ x2 ≠ 0) (jlet (jlrem x0 x2) (fun x13_6 => jchk (inL x6 ∧ x6 ≠ 0) (jlet (jlrem x4 x6) (fun x15_7 => jchk (inL x13_6 ∧ inL 0) (if x13_6 = 0 then some (.inr (.inr (.inl (x8, x13_6, x15_7)))) else jchk (inL x15_7 ∧ inL 0) (if x15_7 = 0 then some (.inr (.inr (.inl (x8, x13_6, x15_7)))) else jlet x2 (fun x0_8 => jlet x13_6 (fun x2_9 => jlet x6 (fun x4_10 => jlet x15_7 (fun x6_11 => jlet (-x8) (fun x8_12 => jlet (x9 + 1) (fun x9_13 => some (.inl (x0_8, x2_9, x4_10, x6_11, x8_12, x9_13)))))))))))))) else some (.inr (.inl (x8, x12_5))))))))))) else some (.inr (.inr (.inr (())))))
def f_X10_compareFractions_b0 (x0 x2 x4 x6 : Int) : Option Int :=
  jlet (1 : Int) (fun x8_1 => jlet (0 : Int) (fun x9_2 => jbind (jloop (fun (q : (Int × Int × Int × Int × Int × Int)) => match q with | (x0, x2, x4, x6, x8, x9) => f_X10_compareFractions_b6 x0 x2 x4 x6 x8 x9) 1000 (x0, x2, x4, x6, x8_1, x9_2)) (fun q => match q with | .inl (x8_14, x12_15) => some (x8_14 * x12_15) | .inr (.inl (x8_16, x13_17, x15_18)) => jbind (f_J13_compare_74951 x13_17 x15_18) (fun r_19 => some (x8_16 * r_19)) | .inr (.inr (())) => some 0)))
def f_X10_compareFractions (x0 x2 x4 x6 : Int) : Option Int := f_X10_compareFractions_b0 x0 x2 x4 x6
def f_X0_isBeforeBest_b0 (σ : St) (o1 : Nat) (x2 : Int) : Option (Int × St) :=
  jlet (up2 σ 57 0 (1 : Int)) (fun σ_1 => jbind (f_X4_addFrom σ_1 57 o1 x2 0) (fun σ_2 => jbind (f_X4_isBefore σ_2 57 1 0) (fun r_3 => some (r_3, σ_2))))
def f_X0_isBeforeBest (σ : St) (o1 : Nat) (x2 : Int) : Option (Int × St) := jzw (f_X0_isBeforeBest_b0 σ o1 x2)
def f_X0_lookAt_b127 (σ : St) (o1 : Nat) (x2 x10 x12 : Int) : Option St :=
  jchk ((1 : Int) = 0 ∨ (1 : Int) = 1) (jlet (up2 σ 41 3 (1 : Int)) (fun σ_7 => jlet (up2 σ_7 57 0 (0 : Int)) (fun σ_8 => jbind (f_X4_addFrom σ_8 57 o1 x2 0) (fun σ_9 => jlet (up2 σ_9 41 5 x10) (fun σ_10 => jlet (up2 σ_10 41 6 x12) (fun σ_11 => some σ_11))))))
def f_X0_lookAt_b106 (σ : St) (o1 : Nat) (x2 x10 x12 t0 : Int) : Option St :=
  jlet t0 (fun x14_6 => jchk (inI x14_6) (if (0 : Int) < x14_6 then f_X0_lookAt_b127 σ o1 x2 x10 x12 else jchk (inI x14_6) (if x14_6 = 0 then jbind (f_X0_isBeforeBest σ o1 x2) (fun q => match q with | (r_12, σ_13) => jchk (inI r_12) (if r_12 = 0 then some σ_13 else f_X0_lookAt_b127 σ_13 o1 x2 x10 x12)) else some σ)))
def f_X0_lookAt_b0 (σ : St) (o1 : Nat) (x2 x3 : Int) : Option St :=
  jchk (0 ≤ x2 ∧ x2 < ((lnO o1 : Nat) : Int)) (jlet (σ (o1 + 3) x2.toNat) (fun x4_1 => jchk (0 ≤ x2 ∧ x2 < ((lnO o1 : Nat) : Int)) (jchk (0 ≤ x3 ∧ x3 < 24) (jchk (inI (2 * σ 3 x3.toNat)) (jlet (σ (o1 + 1) x2.toNat - ((2 * σ 3 x3.toNat) * x4_1)) (fun x6_2 => jchk (0 ≤ x2 ∧ x2 < ((lnO o1 : Nat) : Int)) (jchk (0 ≤ x3 ∧ x3 < 24) (jchk (inI (2 * σ 4 x3.toNat)) (jlet (σ (o1 + 2) x2.toNat - ((2 * σ 4 x3.toNat) * x4_1)) (fun x8_3 => jlet ((x6_2 * x6_2) + (x8_3 * x8_3)) (fun x10_4 => jlet ((4 * x4_1) * x4_1) (fun x12_5 => jchk (inI (σ 41 3)) (if σ 41 3 = 0 then f_X0_lookAt_b106 σ o1 x2 x10_4 x12_5 1 else jbind (f_X10_compareFractions x10_4 x12_5 (σ 41 5) (σ 41 6)) (fun r_14 => f_X0_lookAt_b106 σ o1 x2 x10_4 x12_5 r_14))))))))))))))
def f_X0_lookAt (σ : St) (o1 : Nat) (x2 x3 : Int) : Option St := f_X0_lookAt_b0 σ o1 x2 x3
def f_X0_findOnce_b65 (σ : St) (x1 x2 x3 : Int) : Option ((St × Int) ⊕ St) :=
  jbind (f_X1_size σ 42) (fun r_7 => jchk (inI x3 ∧ inI r_7) (if x3 < r_7 then jbind (f_X1_outline σ 42) (fun o_8 => jchk (isO o_8) (jbind (f_X0_lookAt σ o_8 x3 x2) (fun σ_9 => jlet (x3 + 1) (fun x3_10 => some (.inl (σ_9, x3_10)))))) else some (.inr (σ))))
def f_X0_findOnce_b33 (σ : St) (x1 : Int) : Option ((St × Int) ⊕ St) :=
  jchk (inI x1 ∧ inI (σ 1 4)) (if x1 < σ 1 4 then jchk (0 ≤ x1 ∧ x1 < 24) (jlet (σ 2 x1.toNat) (fun x2_4 => jbind (f_X1_draw σ 42 x2_4 0) (fun σ_5 => jlet (0 : Int) (fun x3_6 => jbind (jloop (fun (q : (St × Int)) => match q with | (σ, x3) => f_X0_findOnce_b65 σ x1 x2_4 x3) 1000 (σ_5, x3_6)) (fun σ_11 => jlet (x1 + 1) (fun x1_12 => some (.inl (σ_11, x1_12)))))))) else some (.inr (σ)))
def f_X0_findOnce_b0 (σ : St) : Option St :=
  jchk (inI (σ 41 2) ∧ inI (σ 1 6)) (if σ 41 2 = σ 1 6 then some σ else jlet (up2 σ 41 2 (σ 1 6)) (fun σ_1 => jchk ((0 : Int) = 0 ∨ (0 : Int) = 1) (jlet (up2 σ_1 41 3 (0 : Int)) (fun σ_2 => jlet (0 : Int) (fun x1_3 => jbind (jloop (fun (q : (St × Int)) => match q with | (σ, x1) => f_X0_findOnce_b33 σ x1) 1000 (σ_2, x1_3)) (fun σ_13 => some σ_13))))))
def f_X0_findOnce (σ : St) : Option St := f_X0_findOnce_b0 σ
def f_X10_greatestDivisor_b15 (x4 x6 x8 : Int) : Option ((Int × Int × Int) ⊕ Int) :=
  jchk (inI x8 ∧ inI 200) (if x8 < 200 then jchk (inL x6 ∧ inL 0) (if x6 = 0 then some (.inr (x4)) else jchk (inL x6 ∧ x6 ≠ 0) (jlet (jlrem x4 x6) (fun x9_4 => jlet x6 (fun x4_5 => jlet x9_4 (fun x6_6 => jlet (x8 + 1) (fun x8_7 => some (.inl (x4_5, x6_6, x8_7)))))))) else some (.inr (x4)))
def f_X10_greatestDivisor_b0 (x0 x2 : Int) : Option Int :=
  jchk (inL x0) (jlet (if 0 < x0 then x0 else -x0) (fun x4_1 => jchk (inL x2) (jlet (if 0 < x2 then x2 else -x2) (fun x6_2 => jlet (0 : Int) (fun x8_3 => jbind (jloop (fun (q : (Int × Int × Int)) => match q with | (x4, x6, x8) => f_X10_greatestDivisor_b15 x4 x6 x8) 1000 (x4_1, x6_2, x8_3)) (fun x4_8 => some x4_8))))))
def f_X10_greatestDivisor (x0 x2 : Int) : Option Int := f_X10_greatestDivisor_b0 x0 x2
def f_X10_above_b0 (x0 x2 : Int) : Option Int :=
  jbind (f_X10_greatestDivisor x0 x2) (fun r_1 => jlet r_1 (fun x4_2 => jchk (inL x4_2 ∧ inL 0) (if x4_2 = 0 then some x0 else jchk (inL x4_2 ∧ x4_2 ≠ 0) (some (jldiv x0 x4_2)))))
def f_X10_above (x0 x2 : Int) : Option Int := f_X10_above_b0 x0 x2
def f_X10_below_b0 (x0 x2 : Int) : Option Int :=
  jbind (f_X10_greatestDivisor x0 x2) (fun r_1 => jlet r_1 (fun x4_2 => jchk (inL x4_2 ∧ inL 0) (if x4_2 = 0 then some x2 else jchk (inL x4_2 ∧ x4_2 ≠ 0) (some (jldiv x2 x4_2)))))
def f_X10_below (x0 x2 : Int) : Option Int := f_X10_below_b0 x0 x2
def f_X10_tellSquare_b0 (x0 x2 x4 : Int) : Option Int :=
  jchk (inI x4 ∧ inI 4) (if x4 = 4 then jbind (f_X10_above x0 x2) (fun r_2 => some r_2) else jbind (f_X10_below x0 x2) (fun r_1 => some r_1))
def f_X10_tellSquare (x0 x2 x4 : Int) : Option Int := f_X10_tellSquare_b0 x0 x2 x4
def f_X10_tellPoint_b0 (x0 x2 x4 x6 : Int) : Option Int :=
  jchk (inI x6) (if x6 = 0 then jbind (f_X10_above x0 x4) (fun r_1 => some r_1) else if x6 = 1 then jbind (f_X10_below x0 x4) (fun r_2 => some r_2) else if x6 = 2 then jbind (f_X10_above x2 x4) (fun r_3 => some r_3) else if x6 = 3 then jbind (f_X10_below x2 x4) (fun r_4 => some r_4) else some (-1))
def f_X10_tellPoint (x0 x2 x4 x6 : Int) : Option Int := f_X10_tellPoint_b0 x0 x2 x4 x6
def f_X0_tell_b26 (σ : St) (x1 t0 : Int) : Option Int :=
  jlet t0 (fun x2_1 => jchk (inI x2_1) (if x2_1 = 0 then jchk (0 ≤ (0 : Int) ∧ (0 : Int) < 2) (jchk (0 ≤ (0 : Int) ∧ (0 : Int) < 2) (jchk (0 ≤ (0 : Int) ∧ (0 : Int) < 2) (jbind (f_X10_tellPoint (σ 58 (0 : Int).toNat) (σ 59 (0 : Int).toNat) (2 * σ 60 (0 : Int).toNat) x1) (fun r_2 => some r_2)))) else jbind (f_X10_tellSquare (σ 41 5) (σ 41 6) x1) (fun r_3 => some r_3)))
def f_X0_tell_b0 (σ : St) (x1 : Int) : Option Int :=
  jchk (inI (σ 41 3)) (if σ 41 3 = 0 then some (-1) else jchk (inI x1 ∧ inI 4) (if x1 = 4 then f_X0_tell_b26 σ x1 1 else jchk (inI x1 ∧ inI 5) (if x1 = 5 then f_X0_tell_b26 σ x1 1 else f_X0_tell_b26 σ x1 0)))
def f_X0_tell (σ : St) (x1 : Int) : Option Int := f_X0_tell_b0 σ x1
def f_X1_drawOnce_b22 (σ : St) (g : Nat) (x1 : Int) : Option St :=
  jbind (f_X1_draw σ g x1 1) (fun σ_1 => jlet (up2 σ_1 g 8 x1) (fun σ_2 => jlet (up2 σ_2 g 9 (σ_2 1 6)) (fun σ_3 => some σ_3)))
def f_X1_drawOnce_b0 (σ : St) (g : Nat) (x1 : Int) : Option St :=
  jchk (inI (σ g 8) ∧ inI x1) (if σ g 8 = x1 then jchk (inI (σ g 9) ∧ inI (σ 1 6)) (if σ g 9 = σ 1 6 then some σ else f_X1_drawOnce_b22 σ g x1) else f_X1_drawOnce_b22 σ g x1)
def f_X1_drawOnce (σ : St) (g : Nat) (x1 : Int) : Option St := f_X1_drawOnce_b0 σ g x1
def f_X1_sharedWith_b17 (σ : St) (g : Nat) (x1 x2 x3 : Int) : Option ((Int × Int) ⊕ Int) :=
  jlet (σ g 4).toNat (fun o_4 => jchk (isO o_4) (jchk (inI x3 ∧ inI (σ o_4 0)) (if x3 < σ o_4 0 then jbind (f_X1_innerSide σ g (4 + x1) x3) (fun r_5 => jchk (inL r_5 ∧ inL 0) (if r_5 = 0 then jlet (x2 + 1) (fun x2_7 => jlet (x3 + 1) (fun x3_8 => some (.inl (x2_7, x3_8)))) else jlet (x3 + 1) (fun x3_6 => some (.inl (x2, x3_6))))) else some (.inr (x2)))))
def f_X1_sharedWith_b0 (σ : St) (g : Nat) (x1 : Int) : Option Int :=
  jbind (f_X9_isCounted σ x1) (fun r_1 => jchk (inI r_1) (if r_1 = 0 then some 0 else jlet (0 : Int) (fun x2_2 => jlet (0 : Int) (fun x3_3 => jbind (jloop (fun (q : (Int × Int)) => match q with | (x2, x3) => f_X1_sharedWith_b17 σ g x1 x2 x3) 1000 (x2_2, x3_3)) (fun x2_9 => some x2_9)))))
def f_X1_sharedWith (σ : St) (g : Nat) (x1 : Int) : Option Int := f_X1_sharedWith_b0 σ g x1
def f_X10_about_b25 (σ : St) (x1 x2 x3 : Int) : Option ((Int × Int) ⊕ Int) :=
  jchk (inI x3 ∧ inI 24) (if x3 < 24 then jchk (inI x3 ∧ inI x1) (if x3 = x1 then jlet (x3 + 1) (fun x3_5 => some (.inl (x2, x3_5))) else jbind (f_X1_sharedWith σ 20 x3) (fun r_6 => jchk (inI r_6 ∧ inI 1) (if (1 : Int) < r_6 then jlet (jor x2 (jshl 1 x3)) (fun x2_8 => jlet (x3 + 1) (fun x3_9 => some (.inl (x2_8, x3_9)))) else jlet (x3 + 1) (fun x3_7 => some (.inl (x2, x3_7)))))) else some (.inr (x2)))
def f_X10_about_b0 (σ : St) (x1 : Int) : Option (Int × St) :=
  jbind (f_X9_has σ x1) (fun r_1 => jchk (inI r_1) (if r_1 = 0 then some ((-1), σ) else jbind (f_X1_drawOnce σ 20 x1) (fun σ_2 => jlet (0 : Int) (fun x2_3 => jlet (0 : Int) (fun x3_4 => jbind (jloop (fun (q : (Int × Int)) => match q with | (x2, x3) => f_X10_about_b25 σ_2 x1 x2 x3) 1000 (x2_3, x3_4)) (fun x2_10 => some (x2_10, σ_2)))))))
def f_X10_about (σ : St) (x1 : Int) : Option (Int × St) := f_X10_about_b0 σ x1
def f_X10_areTwo_b0 (σ : St) (x1 x2 : Int) : Option Int :=
  jchk (inI x1 ∧ inI x2) (if x1 = x2 then some 0 else jbind (f_X9_has σ x1) (fun r_1 => jchk (inI r_1) (if r_1 = 0 then some 0 else jbind (f_X9_has σ x2) (fun r_2 => jchk (inI r_2) (if r_2 = 0 then some 0 else some 1)))))
def f_X10_areTwo (σ : St) (x1 x2 : Int) : Option Int := jz (f_X10_areTwo_b0 σ x1 x2)
def f_X2_leastPlace_b4 (σ : St) (x1 x2 : Int) : Option ((Int × Int) ⊕ Int) :=
  jchk (inI x2 ∧ inI (σ 1 4)) (if x2 < σ 1 4 then jchk (0 ≤ x2 ∧ x2 < 24) (jlet (σ 2 x2.toNat) (fun x3_3 => jchk (inI x1 ∧ inI (-1)) (if x1 = (-1) then jlet x3_3 (fun x1_4 => jlet (x2 + 1) (fun x2_5 => some (.inl (x1_4, x2_5)))) else jchk (0 ≤ x3_3 ∧ x3_3 < 24) (jchk (0 ≤ x1 ∧ x1 < 24) (jchk (inI (σ 3 x3_3.toNat) ∧ inI (σ 3 x1.toNat)) (if σ 3 x3_3.toNat < σ 3 x1.toNat then jlet x3_3 (fun x1_6 => jlet (x2 + 1) (fun x2_7 => some (.inl (x1_6, x2_7)))) else jchk (0 ≤ x3_3 ∧ x3_3 < 24) (jchk (0 ≤ x1 ∧ x1 < 24) (jchk (inI (σ 3 x3_3.toNat) ∧ inI (σ 3 x1.toNat)) (if σ 3 x3_3.toNat = σ 3 x1.toNat then jchk (0 ≤ x3_3 ∧ x3_3 < 24) (jchk (0 ≤ x1 ∧ x1 < 24) (jchk (inI (σ 4 x3_3.toNat) ∧ inI (σ 4 x1.toNat)) (if σ 4 x3_3.toNat < σ 4 x1.toNat then jlet x3_3 (fun x1_10 => jlet (x2 + 1) (fun x2_11 => some (.inl (x1_10, x2_11)))) else jlet (x2 + 1) (fun x2_9 => some (.inl (x1, x2_9)))))) else jlet (x2 + 1) (fun x2_8 => some (.inl (x1, x2_8)))))))))))) else some (.inr (x1)))
def f_X2_leastPlace_b0 (σ : St) : Option Int :=
  jlet ((-1) : Int) (fun x1_1 => jlet (0 : Int) (fun x2_2 => jbind (jloop (fun (q : (Int × Int)) => match q with | (x1, x2) => f_X2_leastPlace_b4 σ x1 x2) 1000 (x1_1, x2_2)) (fun x1_12 => some x1_12)))
def f_X2_leastPlace (σ : St) : Option Int := f_X2_leastPlace_b0 σ
def f_X9_turn_b0 (σ : St) (x1 x2 x3 : Int) : Option Int :=
  jchk (0 ≤ x2 ∧ x2 < 24) (jchk (0 ≤ x1 ∧ x1 < 24) (jchk (0 ≤ x3 ∧ x3 < 24) (jchk (0 ≤ x1 ∧ x1 < 24) (jchk (0 ≤ x2 ∧ x2 < 24) (jchk (0 ≤ x1 ∧ x1 < 24) (jchk (0 ≤ x3 ∧ x3 < 24) (jchk (0 ≤ x1 ∧ x1 < 24) (some (((σ 3 x2.toNat - σ 3 x1.toNat) * (σ 4 x3.toNat - σ 4 x1.toNat)) - ((σ 4 x2.toNat - σ 4 x1.toNat) * (σ 3 x3.toNat - σ 3 x1.toNat)))))))))))
def f_X9_turn (σ : St) (x1 x2 x3 : Int) : Option Int := f_X9_turn_b0 σ x1 x2 x3
def f_X9_square_b0 (σ : St) (x1 x2 : Int) : Option Int :=
  jchk (0 ≤ x1 ∧ x1 < 24) (jchk (0 ≤ x2 ∧ x2 < 24) (jlet (σ 3 x1.toNat - σ 3 x2.toNat) (fun x3_1 => jchk (0 ≤ x1 ∧ x1 < 24) (jchk (0 ≤ x2 ∧ x2 < 24) (jlet (σ 4 x1.toNat - σ 4 x2.toNat) (fun x4_2 => some ((x3_1 * x3_1) + (x4_2 * x4_2))))))))
def f_X9_square (σ : St) (x1 x2 : Int) : Option Int := f_X9_square_b0 σ x1 x2
def f_X2_isFartherRight_b0 (σ : St) (x1 x2 x3 : Int) : Option Int :=
  jbind (f_X9_turn σ x1 x2 x3) (fun r_1 => jlet r_1 (fun x4_2 => jchk (inI x4_2) (if x4_2 < 0 then some 1 else jchk (inI x4_2) (if x4_2 = 0 then jbind (f_X9_square σ x1 x3) (fun r_3 => jbind (f_X9_square σ x1 x2) (fun r_4 => jchk (inI r_3 ∧ inI r_4) (if r_4 < r_3 then some 1 else some 0))) else some 0))))
def f_X2_isFartherRight (σ : St) (x1 x2 x3 : Int) : Option Int := jz (f_X2_isFartherRight_b0 σ x1 x2 x3)
def f_X2_rightmostFrom_b4 (σ : St) (x1 x2 x3 : Int) : Option ((Int × Int) ⊕ Int) :=
  jchk (inI x3 ∧ inI (σ 1 4)) (if x3 < σ 1 4 then jchk (0 ≤ x3 ∧ x3 < 24) (jlet (σ 2 x3.toNat) (fun x4_3 => jchk (inI x4_3 ∧ inI x1) (if x4_3 = x1 then jlet (x3 + 1) (fun x3_4 => some (.inl (x2, x3_4))) else jchk (inI x2 ∧ inI (-1)) (if x2 = (-1) then jlet x4_3 (fun x2_5 => jlet (x3 + 1) (fun x3_6 => some (.inl (x2_5, x3_6)))) else jbind (f_X2_isFartherRight σ x1 x2 x4_3) (fun r_7 => jchk (inI r_7) (if r_7 = 0 then jlet (x3 + 1) (fun x3_8 => some (.inl (x2, x3_8))) else jlet x4_3 (fun x2_9 => jlet (x3 + 1) (fun x3_10 => some (.inl (x2_9, x3_10)))))))))) else some (.inr (x2)))
def f_X2_rightmostFrom_b0 (σ : St) (x1 : Int) : Option Int :=
  jlet ((-1) : Int) (fun x2_1 => jlet (0 : Int) (fun x3_2 => jbind (jloop (fun (q : (Int × Int)) => match q with | (x2, x3) => f_X2_rightmostFrom_b4 σ x1 x2 x3) 1000 (x2_1, x3_2)) (fun x2_11 => some x2_11)))
def f_X2_rightmostFrom (σ : St) (x1 : Int) : Option Int := f_X2_rightmostFrom_b0 σ x1
def f_X2_wrapOnce_b40 (σ : St) (x1 x2 x3 : Int) : Option ((St × Int × Int) ⊕ St) :=
  jchk (inI x3 ∧ inI 24) (if x3 < 24 then jchk (inI x2 ∧ inI (-1)) (if x2 = (-1) then some (.inr (σ)) else jchk (0 ≤ σ 65 2 ∧ σ 65 2 < 24) (jlet (up2 σ 66 (σ 65 2).toNat x2) (fun σ_7 => jlet (up2 σ_7 65 2 (σ_7 65 2 + 1)) (fun σ_8 => jbind (f_X2_rightmostFrom σ_8 x2) (fun r_9 => jlet r_9 (fun x4_10 => jchk (inI x4_10 ∧ inI x1) (if x4_10 = x1 then jlet ((-1) : Int) (fun x2_13 => jlet (x3 + 1) (fun x3_14 => some (.inl (σ_8, x2_13, x3_14)))) else jlet x4_10 (fun x2_11 => jlet (x3 + 1) (fun x3_12 => some (.inl (σ_8, x2_11, x3_12))))))))))) else some (.inr (σ)))
def f_X2_wrapOnce_b0 (σ : St) : Option St :=
  jchk (inI (σ 65 1) ∧ inI (σ 1 6)) (if σ 65 1 = σ 1 6 then some σ else jlet (up2 σ 65 1 (σ 1 6)) (fun σ_1 => jlet (up2 σ_1 65 2 (0 : Int)) (fun σ_2 => jbind (f_X2_leastPlace σ_2) (fun r_3 => jlet r_3 (fun x1_4 => jlet x1_4 (fun x2_5 => jlet (0 : Int) (fun x3_6 => jbind (jloop (fun (q : (St × Int × Int)) => match q with | (σ, x2, x3) => f_X2_wrapOnce_b40 σ x1_4 x2 x3) 1000 (σ_2, x2_5, x3_6)) (fun σ_15 => some σ_15))))))))
def f_X2_wrapOnce (σ : St) : Option St := f_X2_wrapOnce_b0 σ
def f_X10_around_b0 (σ : St) (x1 : Int) : Option (Int × St) :=
  jbind (f_X2_wrapOnce σ) (fun σ_1 => jchk (inI x1) (if x1 < 0 then some ((-1), σ_1) else jchk (inI x1 ∧ inI (σ_1 65 2)) (if x1 < σ_1 65 2 then jchk (0 ≤ x1 ∧ x1 < 24) (some (σ_1 66 x1.toNat, σ_1)) else some ((-1), σ_1))))
def f_X10_around (σ : St) (x1 : Int) : Option (Int × St) := f_X10_around_b0 σ x1
def f_X10_ask_b38 (σ : St) (x1 x2 x3 t0 : Int) : Option Int :=
  jlet t0 (fun x4_3 => jchk (inI x2) (if x2 = 0 then jchk (inI x3 ∧ inI 1) (if x3 = 1 then jchk (0 ≤ x1 ∧ x1 < 24) (some (σ 6 x1.toNat)) else some (-2)) else if x2 = 1 then jchk (inI x3 ∧ inI 2) (if x3 = 2 then jchk (0 ≤ x1 ∧ x1 < 24) (some (σ 6 x1.toNat)) else jchk (inI x4_3) (if x4_3 = 0 then some (-2) else some 0)) else if x2 = 2 then jchk (inI x4_3) (if x4_3 = 0 then some (-2) else some 0) else if x2 = 3 then jchk (inI x3 ∧ inI 4) (if x3 = 4 then jchk (0 ≤ x1 ∧ x1 < 24) (some (σ 6 x1.toNat)) else some (-2)) else some (-1)))
def f_X10_ask_b0 (σ : St) (x1 x2 : Int) : Option Int :=
  jbind (f_X9_has σ x1) (fun r_1 => jchk (inI r_1) (if r_1 = 0 then some (-1) else jchk (0 ≤ x1 ∧ x1 < 24) (jlet (σ 5 x1.toNat) (fun x3_2 => jchk (inI x3_2 ∧ inI 3) (if x3_2 = 3 then f_X10_ask_b38 σ x1 x2 x3_2 1 else jchk (inI x3_2 ∧ inI 4) (if x3_2 = 4 then f_X10_ask_b38 σ x1 x2 x3_2 1 else f_X10_ask_b38 σ x1 x2 x3_2 0))))))
def f_X10_ask (σ : St) (x1 x2 : Int) : Option Int := f_X10_ask_b0 σ x1 x2
def f_X10_mayHave_b0 (x0 x1 : Int) : Option Int :=
  jchk (inI x0) (if x0 < 0 then some 0 else jchk (inI x0 ∧ inI 5) (if x0 < 5 then jchk (0 ≤ x0 ∧ x0 < 5) (jchk (inI x1 ∧ inI (lstN x0.toNat)) (if x1 < lstN x0.toNat then some 0 else jchk (0 ≤ x0 ∧ x0 < 5) (jchk (inI x1 ∧ inI (mstN x0.toNat)) (if mstN x0.toNat < x1 then some 0 else some 1)))) else some 0))
def f_X10_mayHave (x0 x1 : Int) : Option Int := jz (f_X10_mayHave_b0 x0 x1)
def f_X5_remember_b116 (σ : St) (t1 : Int) : Option St :=
  jlet (up2 σ 7 1 t1) (fun σ_8 => jchk (inI (σ_8 7 0 + 1) ∧ inI 8) (jlet (up2 σ_8 7 0 (if 8 < (σ_8 7 0 + 1) then 8 else (σ_8 7 0 + 1))) (fun σ_9 => some σ_9)))
def f_X5_remember_b0 (σ : St) : Option St :=
  jlet (σ 7 1 * 24) (fun x2_1 => jchk (0 ≤ σ 7 1 ∧ σ 7 1 < 8) (jlet (up2 σ 8 (σ 7 1).toNat (σ 1 0)) (fun σ_2 => jchk (0 ≤ σ_2 7 1 ∧ σ_2 7 1 < 8) (jlet (up2 σ_2 9 (σ_2 7 1).toNat (σ_2 1 1)) (fun σ_3 => jchk (0 ≤ (0 : Int) ∧ 0 ≤ x2_1 ∧ 0 ≤ (24 : Int) ∧ (0 : Int) + (24 : Int) ≤ 24 ∧ x2_1 + (24 : Int) ≤ 192) (jlet (upr σ_3 10 (va_cpy (σ_3 3) (σ_3 10) (0 : Int).toNat x2_1.toNat (24 : Int).toNat)) (fun σ_4 => jchk (0 ≤ (0 : Int) ∧ 0 ≤ x2_1 ∧ 0 ≤ (24 : Int) ∧ (0 : Int) + (24 : Int) ≤ 24 ∧ x2_1 + (24 : Int) ≤ 192) (jlet (upr σ_4 11 (va_cpy (σ_4 4) (σ_4 11) (0 : Int).toNat x2_1.toNat (24 : Int).toNat)) (fun σ_5 => jchk (0 ≤ (0 : Int) ∧ 0 ≤ x2_1 ∧ 0 ≤ (24 : Int) ∧ (0 : Int) + (24 : Int) ≤ 24 ∧ x2_1 + (24 : Int) ≤ 192) (jlet (upr σ_5 12 (va_cpy (σ_5 5) (σ_5 12) (0 : Int).toNat x2_1.toNat (24 : Int).toNat)) (fun σ_6 => jchk (0 ≤ (0 : Int) ∧ 0 ≤ x2_1 ∧ 0 ≤ (24 : Int) ∧ (0 : Int) + (24 : Int) ≤ 24 ∧ x2_1 + (24 : Int) ≤ 192) (jlet (upr σ_6 13 (va_cpy (σ_6 6) (σ_6 13) (0 : Int).toNat x2_1.toNat (24 : Int).toNat)) (fun σ_7 => jchk (inI (σ_7 7 1 + 1) ∧ inI 8) (if (σ_7 7 1 + 1) < 8 then f_X5_remember_b116 σ_7 (σ_7 7 1 + 1) else f_X5_remember_b116 σ_7 0))))))))))))))
def f_X5_remember (σ : St) : Option St := f_X5_remember_b0 σ
def f_X9_countAnew_b46 (σ : St) (x1 : Int) : Option ((St × Int) ⊕ St) :=
  jbind (f_X9_isCounted σ x1) (fun r_6 => jchk (inI r_6) (if r_6 = 0 then jlet (x1 + 1) (fun x1_7 => some (.inl (σ, x1_7))) else jchk (0 ≤ σ 1 4 ∧ σ 1 4 < 24) (jlet (up2 σ 2 (σ 1 4).toNat x1) (fun σ_8 => jlet (up2 σ_8 1 4 (σ_8 1 4 + 1)) (fun σ_9 => jlet (x1 + 1) (fun x1_10 => some (.inl (σ_9, x1_10))))))))
def f_X9_countAnew_b22 (σ : St) (x1 : Int) : Option ((St × Int) ⊕ St) :=
  jchk (inI x1 ∧ inI 24) (if x1 < 24 then jbind (f_X9_has σ x1) (fun r_5 => jchk (inI r_5) (if r_5 = 0 then f_X9_countAnew_b46 σ x1 else jlet (up2 σ 1 3 (σ 1 3 + 1)) (fun σ_11 => f_X9_countAnew_b46 σ_11 x1))) else some (.inr (σ)))
def f_X9_countAnew_b0 (σ : St) : Option St :=
  jlet (up2 σ 1 6 (σ 1 6 + 1)) (fun σ_1 => jlet (up2 σ_1 1 3 (0 : Int)) (fun σ_2 => jlet (up2 σ_2 1 4 (0 : Int)) (fun σ_3 => jlet (0 : Int) (fun x1_4 => jbind (jloop (fun (q : (St × Int)) => match q with | (σ, x1) => f_X9_countAnew_b22 σ x1) 1000 (σ_3, x1_4)) (fun σ_12 => some σ_12)))))
def f_X9_countAnew (σ : St) : Option St := f_X9_countAnew_b0 σ
def f_X9_put_b0 (σ : St) (x1 x2 x3 x4 x5 : Int) : Option St :=
  jchk (inI x1) (if x1 < 0 then some σ else jchk (inI x1 ∧ inI 24) (if x1 < 24 then jchk (0 ≤ x1 ∧ x1 < 24) (jlet (up2 σ 3 x1.toNat x2) (fun σ_1 => jchk (0 ≤ x1 ∧ x1 < 24) (jlet (up2 σ_1 4 x1.toNat x3) (fun σ_2 => jchk (0 ≤ x1 ∧ x1 < 24) (jlet (up2 σ_2 5 x1.toNat x4) (fun σ_3 => jchk (0 ≤ x1 ∧ x1 < 24) (jlet (up2 σ_3 6 x1.toNat x5) (fun σ_4 => jbind (f_X9_countAnew σ_4) (fun σ_5 => some σ_5))))))))) else some σ))
def f_X9_put (σ : St) (x1 x2 x3 x4 x5 : Int) : Option St := f_X9_put_b0 σ x1 x2 x3 x4 x5
def f_X10_become_b0 (σ : St) (x1 x2 x3 : Int) : Option (Int × St) :=
  jbind (f_X9_has σ x1) (fun r_1 => jchk (inI r_1) (if r_1 = 0 then some ((-1), σ) else jbind (f_X10_mayHave x2 x3) (fun r_2 => jchk (inI r_2) (if r_2 = 0 then some ((-1), σ) else jchk (0 ≤ x1 ∧ x1 < 24) (jlet (σ 5 x1.toNat) (fun x4_3 => jbind (f_X5_remember σ) (fun σ_4 => jchk (0 ≤ x1 ∧ x1 < 24) (jchk (0 ≤ x1 ∧ x1 < 24) (jbind (f_X9_put σ_4 x1 (σ_4 3 x1.toNat) (σ_4 4 x1.toNat) x2 x3) (fun σ_5 => some (x4_3, σ_5)))))))))))
def f_X10_become (σ : St) (x1 x2 x3 : Int) : Option (Int × St) := f_X10_become_b0 σ x1 x2 x3
def f_X10_beside_b0 (σ : St) (x1 x2 : Int) : Option (Int × St) :=
  jbind (f_X10_areTwo σ x1 x2) (fun r_1 => jchk (inI r_1) (if r_1 = 0 then some ((-1), σ) else jbind (f_X1_drawOnce σ 20 x1) (fun σ_2 => jbind (f_X1_sharedWith σ_2 20 x2) (fun r_3 => jchk (inI r_3 ∧ inI 1) (if (1 : Int) < r_3 then some (1, σ_2) else some (0, σ_2))))))
def f_X10_beside (σ : St) (x1 x2 : Int) : Option (Int × St) := f_X10_beside_b0 σ x1 x2
def f_X10_border_b0 (σ : St) (x1 x2 : Int) : Option (Int × St) :=
  jbind (f_X10_areTwo σ x1 x2) (fun r_1 => jchk (inI r_1) (if r_1 = 0 then some ((-1), σ) else jbind (f_X1_drawOnce σ 20 x1) (fun σ_2 => jbind (f_X1_sharedWith σ_2 20 x2) (fun r_3 => some (r_3, σ_2)))))
def f_X10_border (σ : St) (x1 x2 : Int) : Option (Int × St) := f_X10_border_b0 σ x1 x2
def f_X3_pipeBetween_b0 (σ : St) (x1 x2 : Int) : Option Int :=
  jbind (f_X9_square σ x1 x2) (fun r_1 => jchk (inI r_1) (jchk (inI x1 ∧ inI x2) (jchk (inI (jshl (if x2 < x1 then x2 else x1) 5)) (jchk (inI x1 ∧ inI x2) (jchk (inI (if x1 < x2 then x2 else x1)) (some (jlor (jlor (jlshl r_1 10) (jshl (if x2 < x1 then x2 else x1) 5)) (if x1 < x2 then x2 else x1))))))))
def f_X3_pipeBetween (σ : St) (x1 x2 : Int) : Option Int := f_X3_pipeBetween_b0 σ x1 x2
def f_X3_reachFrom_b2 (σ : St) (x1 x2 : Int) : Option ((St × Int) ⊕ St) :=
  jchk (inI x2 ∧ inI (σ 1 4)) (if x2 < σ 1 4 then jchk (0 ≤ x2 ∧ x2 < 24) (jchk (inL (σ 64 x2.toNat) ∧ inL (-1)) (if σ 64 x2.toNat = (-1) then jlet (x2 + 1) (fun x2_2 => some (.inl (σ, x2_2))) else jchk (0 ≤ x2 ∧ x2 < 24) (jchk (0 ≤ x1 ∧ x1 < 24) (jchk (0 ≤ x2 ∧ x2 < 24) (jbind (f_X3_pipeBetween σ (σ 2 x1.toNat) (σ 2 x2.toNat)) (fun r_3 => jchk (inL (σ 64 x2.toNat) ∧ inL r_3) (jchk (0 ≤ x2 ∧ x2 < 24) (jlet (up2 σ 64 x2.toNat (if r_3 < (σ 64 x2.toNat) then r_3 else (σ 64 x2.toNat))) (fun σ_4 => jlet (x2 + 1) (fun x2_5 => some (.inl (σ_4, x2_5)))))))))))) else some (.inr (σ)))
def f_X3_reachFrom_b0 (σ : St) (x1 : Int) : Option St :=
  jlet (0 : Int) (fun x2_1 => jbind (jloop (fun (q : (St × Int)) => match q with | (σ, x2) => f_X3_reachFrom_b2 σ x1 x2) 1000 (σ, x2_1)) (fun σ_6 => some σ_6))
def f_X3_reachFrom (σ : St) (x1 : Int) : Option St := f_X3_reachFrom_b0 σ x1
def f_X3_leastReach_b4 (σ : St) (x1 x2 : Int) : Option ((Int × Int) ⊕ Int) :=
  jchk (inI x2 ∧ inI (σ 1 4)) (if x2 < σ 1 4 then jchk (0 ≤ x2 ∧ x2 < 24) (jchk (inL (σ 64 x2.toNat) ∧ inL (-1)) (if σ 64 x2.toNat = (-1) then jlet (x2 + 1) (fun x2_3 => some (.inl (x1, x2_3))) else jchk (0 ≤ x1 ∧ x1 < 24) (jchk (inL (σ 64 x1.toNat) ∧ inL (-1)) (if σ 64 x1.toNat = (-1) then jlet x2 (fun x1_4 => jlet (x2 + 1) (fun x2_5 => some (.inl (x1_4, x2_5)))) else jchk (0 ≤ x2 ∧ x2 < 24) (jchk (0 ≤ x1 ∧ x1 < 24) (jchk (inL (σ 64 x2.toNat) ∧ inL (σ 64 x1.toNat)) (if σ 64 x2.toNat < σ 64 x1.toNat then jlet x2 (fun x1_7 => jlet (x2 + 1) (fun x2_8 => some (.inl (x1_7, x2_8)))) else jlet (x2 + 1) (fun x2_6 => some (.inl (x1, x2_6)))))))))) else some (.inr (x1)))
def f_X3_leastReach_b0 (σ : St) : Option Int :=
  jlet (0 : Int) (fun x1_1 => jlet (1 : Int) (fun x2_2 => jbind (jloop (fun (q : (Int × Int)) => match q with | (x1, x2) => f_X3_leastReach_b4 σ x1 x2) 1000 (x1_1, x2_2)) (fun x1_9 => some x1_9)))
def f_X3_leastReach (σ : St) : Option Int := f_X3_leastReach_b0 σ
def f_X3_addInOrder_b23 (σ : St) (x1 x3 x4 : Int) : Option ((St × Int × Int) ⊕ (St × Int)) :=
  jchk (inI x4) (if x4 < 0 then some (.inr ((σ, x3))) else jchk (0 ≤ x4 ∧ x4 < 24) (jchk (inL (σ 63 x4.toNat) ∧ inL x1) (if x1 < σ 63 x4.toNat then jchk (0 ≤ x4 ∧ x4 < 24) (jchk (0 ≤ (x4 + 1) ∧ (x4 + 1) < 24) (jlet (up2 σ 63 (x4 + 1).toNat (σ 63 x4.toNat)) (fun σ_3 => jlet x4 (fun x3_4 => jlet (x4 + (-1)) (fun x4_5 => some (.inl (σ_3, x3_4, x4_5))))))) else some (.inr ((σ, x3))))))
def f_X3_addInOrder_b0 (σ : St) (x1 : Int) : Option St :=
  jchk (inI (σ 62 2) ∧ inI 23) (if σ 62 2 < 23 then jlet (σ 62 2) (fun x3_1 => jlet (σ 62 2 - 1) (fun x4_2 => jbind (jloop (fun (q : (St × Int × Int)) => match q with | (σ, x3, x4) => f_X3_addInOrder_b23 σ x1 x3 x4) 1000 (σ, x3_1, x4_2)) (fun q => match q with | (σ_6, x3_7) => jchk (0 ≤ x3_7 ∧ x3_7 < 24) (jlet (up2 σ_6 63 x3_7.toNat x1) (fun σ_8 => jlet (up2 σ_8 62 2 (σ_8 62 2 + 1)) (fun σ_9 => some σ_9)))))) else some σ)
def f_X3_addInOrder (σ : St) (x1 : Int) : Option St := f_X3_addInOrder_b0 σ x1
def f_X3_joinOnce_b45 (σ : St) (x1 x2 : Int) : Option ((St × Int × Int) ⊕ St) :=
  jchk (inI x2 ∧ inI (σ 1 4)) (if x2 < σ 1 4 then jchk (0 ≤ x1 ∧ x1 < 24) (jlet (up2 σ 64 x1.toNat ((-1) : Int)) (fun σ_6 => jbind (f_X3_reachFrom σ_6 x1) (fun σ_7 => jbind (f_X3_leastReach σ_7) (fun r_8 => jlet r_8 (fun x1_9 => jchk (0 ≤ x1_9 ∧ x1_9 < 24) (jbind (f_X3_addInOrder σ_7 (σ_7 64 x1_9.toNat)) (fun σ_10 => jlet (x2 + 1) (fun x2_11 => some (.inl (σ_10, x1_9, x2_11)))))))))) else some (.inr (σ)))
def f_X3_joinOnce_b0 (σ : St) : Option St :=
  jchk (inI (σ 62 1) ∧ inI (σ 1 6)) (if σ 62 1 = σ 1 6 then some σ else jlet (up2 σ 62 1 (σ 1 6)) (fun σ_1 => jlet (up2 σ_1 62 2 (0 : Int)) (fun σ_2 => jbind (f_J7_fill_d0a16 σ_2 64 24 1152921504606846976) (fun σ_3 => jlet (0 : Int) (fun x1_4 => jlet (1 : Int) (fun x2_5 => jbind (jloop (fun (q : (St × Int × Int)) => match q with | (σ, x1, x2) => f_X3_joinOnce_b45 σ x1 x2) 1000 (σ_3, x1_4, x2_5)) (fun σ_12 => some σ_12)))))))
def f_X3_joinOnce (σ : St) : Option St := f_X3_joinOnce_b0 σ
def f_X3_tell_b0 (σ : St) (x1 x2 : Int) : Option Int :=
  jchk (inI x1) (if x1 < 0 then some (-1) else jchk (inI x1 ∧ inI (σ 62 2)) (if x1 < σ 62 2 then jchk (inI x2) (if x2 = 0 then jchk (0 ≤ x1 ∧ x1 < 24) (some (jland (jlshr (σ 63 x1.toNat) 5) 31)) else if x2 = 1 then jchk (0 ≤ x1 ∧ x1 < 24) (some (jland (σ 63 x1.toNat) 31)) else if x2 = 2 then jchk (0 ≤ x1 ∧ x1 < 24) (some (jlshr (σ 63 x1.toNat) 10)) else some (-1)) else some (-1)))
def f_X3_tell (σ : St) (x1 x2 : Int) : Option Int := f_X3_tell_b0 σ x1 x2
def f_X10_closest_b0 (σ : St) (x1 : Int) : Option (Int × St) :=
  jbind (f_X3_joinOnce σ) (fun σ_1 => jbind (f_X3_tell σ_1 0 x1) (fun r_2 => some (r_2, σ_1)))
def f_X10_closest (σ : St) (x1 : Int) : Option (Int × St) := f_X10_closest_b0 σ x1
def f_X1_cornerAt_b0 (σ : St) (g : Nat) (x1 : Int) : Option Int :=
  jchk (inI x1) (if x1 < 0 then some (-1) else jlet (σ g 4).toNat (fun o_1 => jchk (isO o_1) (jchk (inI x1 ∧ inI (σ o_1 0)) (if x1 < σ o_1 0 then jlet (σ g 7 + x1) (fun x2_2 => jlet (σ g 4).toNat (fun o_3 => jchk (isO o_3) (jchk (inI x2_2 ∧ inI (σ o_3 0)) (if x2_2 < σ o_3 0 then some x2_2 else jlet (σ g 4).toNat (fun o_4 => jchk (isO o_4) (some (x2_2 - σ o_4 0))))))) else some (-1)))))
def f_X1_cornerAt (σ : St) (g : Nat) (x1 : Int) : Option Int := f_X1_cornerAt_b0 σ g x1
def f_X1_tell_b0 (σ : St) (g : Nat) (x1 x2 : Int) : Option Int :=
  jchk (inI x1) (if x1 < 0 then some (-1) else jlet (σ g 4).toNat (fun o_1 => jchk (isO o_1) (jchk (inI x1 ∧ inI (σ o_1 0)) (if x1 < σ o_1 0 then jlet (σ g 4).toNat (fun o_2 => jchk (isO o_2) (jchk (0 ≤ x1 ∧ x1 < ((lnO o_2 : Nat) : Int)) (jlet (σ g 4).toNat (fun o_3 => jchk (isO o_3) (jchk (0 ≤ x1 ∧ x1 < ((lnO o_3 : Nat) : Int)) (jlet (σ g 4).toNat (fun o_4 => jchk (isO o_4) (jchk (0 ≤ x1 ∧ x1 < ((lnO o_4 : Nat) : Int)) (jbind (f_X10_tellPoint (σ (o_2 + 1) x1.toNat) (σ (o_3 + 2) x1.toNat) (2 * σ (o_4 + 3) x1.toNat) x2) (fun r_5 => some r_5)))))))))) else some (-1)))))
def f_X1_tell (σ : St) (g : Nat) (x1 x2 : Int) : Option Int := f_X1_tell_b0 σ g x1 x2
def f_X10_corner_b0 (σ : St) (x1 x2 x3 : Int) : Option (Int × St) :=
  jbind (f_X9_has σ x1) (fun r_1 => jchk (inI r_1) (if r_1 = 0 then some ((-1), σ) else jbind (f_X1_drawOnce σ 20 x1) (fun σ_2 => jbind (f_X1_cornerAt σ_2 20 x2) (fun r_3 => jbind (f_X1_tell σ_2 20 r_3 x3) (fun r_4 => some (r_4, σ_2))))))
def f_X10_corner (σ : St) (x1 x2 x3 : Int) : Option (Int × St) := f_X10_corner_b0 σ x1 x2 x3
def f_X10_corners_b0 (σ : St) (x1 : Int) : Option (Int × St) :=
  jbind (f_X9_has σ x1) (fun r_1 => jchk (inI r_1) (if r_1 = 0 then some ((-1), σ) else jbind (f_X1_drawOnce σ 20 x1) (fun σ_2 => jbind (f_X1_size σ_2 20) (fun r_3 => some (r_3, σ_2)))))
def f_X10_corners (σ : St) (x1 : Int) : Option (Int × St) := f_X10_corners_b0 σ x1
def f_X10_count_b0 (σ : St) (x1 : Int) : Option Int :=
  jchk (inI x1) (if x1 = 0 then some (σ 1 3) else if x1 = 1 then some (σ 1 4) else if x1 = 2 then some (σ 7 0) else some (-1))
def f_X10_count (σ : St) (x1 : Int) : Option Int := f_X10_count_b0 σ x1
def f_X1_endAt_b67 (σ : St) (g : Nat) (x1 x2 x3 x5 : Int) : Option ((Int × Int × Int) ⊕ (Int × Int)) :=
  jlet x3 (fun x4_8 => jlet x5 (fun x3_9 => jlet (x5 + 1) (fun x5_10 => some (.inl (x3_9, x4_8, x5_10)))))
def f_X1_endAt_b23 (σ : St) (g : Nat) (x1 x2 x3 x4 x5 : Int) : Option ((Int × Int × Int) ⊕ (Int × Int)) :=
  jlet (σ g 4).toNat (fun o_5 => jchk (isO o_5) (jchk (inI x5 ∧ inI (σ o_5 0)) (if x5 < σ o_5 0 then jbind (f_X1_innerSide σ g (4 + x1) x5) (fun r_6 => jchk (inL r_6 ∧ inL 0) (if r_6 = 0 then jchk (inI x3 ∧ inI (-1)) (if x3 = (-1) then f_X1_endAt_b67 σ g x1 x2 x3 x5 else jlet (σ g 4).toNat (fun o_11 => jchk (isO o_11) (jbind (f_X4_isBefore σ o_11 x5 x3) (fun r_12 => jchk (inI r_12) (if r_12 = 0 then jlet x5 (fun x4_13 => jlet (x5 + 1) (fun x5_14 => some (.inl (x3, x4_13, x5_14)))) else f_X1_endAt_b67 σ g x1 x2 x3 x5))))) else jlet (x5 + 1) (fun x5_7 => some (.inl (x3, x4, x5_7))))) else some (.inr ((x3, x4))))))
def f_X1_endAt_b0 (σ : St) (g : Nat) (x1 x2 : Int) : Option Int :=
  jchk (inI x2) (if x2 < 0 then some (-1) else jbind (f_X1_sharedWith σ g x1) (fun r_1 => jchk (inI x2 ∧ inI r_1) (if x2 < r_1 then jlet ((-1) : Int) (fun x3_2 => jlet ((-1) : Int) (fun x4_3 => jlet (0 : Int) (fun x5_4 => jbind (jloop (fun (q : (Int × Int × Int)) => match q with | (x3, x4, x5) => f_X1_endAt_b23 σ g x1 x2 x3 x4 x5) 1000 (x3_2, x4_3, x5_4)) (fun q => match q with | (x3_15, x4_16) => jchk (inI x2) (if x2 = 0 then some x3_15 else some x4_16))))) else some (-1))))
def f_X1_endAt (σ : St) (g : Nat) (x1 x2 : Int) : Option Int := f_X1_endAt_b0 σ g x1 x2
def f_X10_end_b0 (σ : St) (x1 x2 x3 x4 : Int) : Option (Int × St) :=
  jbind (f_X10_areTwo σ x1 x2) (fun r_1 => jchk (inI r_1) (if r_1 = 0 then some ((-1), σ) else jbind (f_X1_drawOnce σ 20 x1) (fun σ_2 => jbind (f_X1_endAt σ_2 20 x2 x3) (fun r_3 => jbind (f_X1_tell σ_2 20 r_3 x4) (fun r_4 => some (r_4, σ_2))))))
def f_X10_end (σ : St) (x1 x2 x3 x4 : Int) : Option (Int × St) := f_X10_end_b0 σ x1 x2 x3 x4
def f_X10_fill_b0 (σ : St) (x1 : Int) : Option (Int × St) :=
  jbind (f_X9_has σ x1) (fun r_1 => jchk (inI r_1) (if r_1 = 0 then some ((-1), σ) else jbind (f_X5_remember σ) (fun σ_2 => jbind (f_X9_put σ_2 x1 0 0 (-1) 0) (fun σ_3 => some (σ_3 1 3, σ_3)))))
def f_X10_fill (σ : St) (x1 : Int) : Option (Int × St) := f_X10_fill_b0 σ x1
def f_X10_hull_b0 (σ : St) : Option (Int × St) :=
  jbind (f_X2_wrapOnce σ) (fun σ_1 => some (σ_1 65 2, σ_1))
def f_X10_hull (σ : St) : Option (Int × St) := f_X10_hull_b0 σ
def f_X10_isPoint_b0 (σ : St) (x1 x2 x3 : Int) : Option Int :=
  jchk (inI x3 ∧ inI 1) (if x3 < 1 then some 0 else jchk (inI x3 ∧ inI 1000) (if (1000 : Int) < x3 then some 0 else jchk (inI x1) (if x1 < 0 then some 0 else jchk (inI x1 ∧ inI (σ 1 0 * x3)) (if (σ 1 0 * x3) < x1 then some 0 else jchk (inI x2) (if x2 < 0 then some 0 else jchk (inI x2 ∧ inI (σ 1 1 * x3)) (if (σ 1 1 * x3) < x2 then some 0 else some 1))))))
def f_X10_isPoint (σ : St) (x1 x2 x3 : Int) : Option Int := jz (f_X10_isPoint_b0 σ x1 x2 x3)
def f_X8_toSide_b0 (σ : St) (x1 x2 : Int) : Option Int :=
  jchk (inI x2) (if x2 = 0 then jchk (0 ≤ x1 ∧ x1 < 24) (some (σ 4 x1.toNat)) else if x2 = 1 then jchk (0 ≤ x1 ∧ x1 < 24) (some (σ 1 0 - σ 3 x1.toNat)) else if x2 = 2 then jchk (0 ≤ x1 ∧ x1 < 24) (some (σ 1 1 - σ 4 x1.toNat)) else jchk (0 ≤ x1 ∧ x1 < 24) (some (σ 3 x1.toNat)))
def f_X8_toSide (σ : St) (x1 x2 : Int) : Option Int := f_X8_toSide_b0 σ x1 x2
def f_X8_toRim_b31 (σ : St) (x1 x2 x3 x4 x5 x7 t0 : Int) : Option ((Int × Int) ⊕ Int) :=
  jchk (inI t0 ∧ inI x4) (if t0 = x4 then jbind (f_X8_toSide σ x1 x7) (fun r_4 => jchk (inI r_4) (jlet r_4 (fun x8_5 => jchk (inL x5 ∧ inL ((4 * x8_5) * x8_5)) (jlet (if ((4 * x8_5) * x8_5) < x5 then ((4 * x8_5) * x8_5) else x5) (fun x5_6 => jlet (x7 + 1) (fun x7_7 => some (.inl (x5_6, x7_7)))))))) else jlet (x7 + 1) (fun x7_3 => some (.inl (x5, x7_3))))
def f_X8_toRim_b30 (σ : St) (x1 x2 x3 x4 x5 x7 : Int) : Option ((Int × Int) ⊕ Int) :=
  f_X8_toRim_b31 σ x1 x2 x3 x4 x5 x7 0
def f_X8_toRim_b8 (σ : St) (x1 x2 x3 x4 x5 x7 : Int) : Option ((Int × Int) ⊕ Int) :=
  jchk (inI x7 ∧ inI 4) (if x7 < 4 then jchk (inI x7 ∧ inI x2) (if x7 < x2 then f_X8_toRim_b30 σ x1 x2 x3 x4 x5 x7 else jchk (inI x7 ∧ inI x3) (if x7 < x3 then f_X8_toRim_b31 σ x1 x2 x3 x4 x5 x7 1 else f_X8_toRim_b30 σ x1 x2 x3 x4 x5 x7)) else some (.inr (x5)))
def f_X8_toRim_b0 (σ : St) (x1 x2 x3 x4 : Int) : Option Int :=
  jlet (1152921504606846976 : Int) (fun x5_1 => jlet (0 : Int) (fun x7_2 => jbind (jloop (fun (q : (Int × Int)) => match q with | (x5, x7) => f_X8_toRim_b8 σ x1 x2 x3 x4 x5 x7) 1000 (x5_1, x7_2)) (fun x5_8 => some x5_8)))
def f_X8_toRim (σ : St) (x1 x2 x3 x4 : Int) : Option Int := f_X8_toRim_b0 σ x1 x2 x3 x4
def f_X8_leastGap_b4 (σ : St) (x1 x2 : Int) : Option ((Int × Int) ⊕ Int) :=
  jchk (inI x2 ∧ inI (σ 1 4)) (if x2 < σ 1 4 then jchk (0 ≤ x2 ∧ x2 < 24) (jchk (inL (σ 68 x2.toNat) ∧ inL (-1)) (if σ 68 x2.toNat = (-1) then jlet (x2 + 1) (fun x2_3 => some (.inl (x1, x2_3))) else jchk (0 ≤ x1 ∧ x1 < 24) (jchk (inL (σ 68 x1.toNat) ∧ inL (-1)) (if σ 68 x1.toNat = (-1) then jlet x2 (fun x1_4 => jlet (x2 + 1) (fun x2_5 => some (.inl (x1_4, x2_5)))) else jchk (0 ≤ x2 ∧ x2 < 24) (jchk (0 ≤ x1 ∧ x1 < 24) (jchk (inL (σ 68 x2.toNat) ∧ inL (σ 68 x1.toNat)) (if σ 68 x2.toNat < σ 68 x1.toNat then jlet x2 (fun x1_7 => jlet (x2 + 1) (fun x2_8 => some (.inl (x1_7, x2_8)))) else jlet (x2 + 1) (fun x2_6 => some (.inl (x1, x2_6)))))))))) else some (.inr (x1)))
def f_X8_leastGap_b0 (σ : St) : Option Int :=
  jlet (0 : Int) (fun x1_1 => jlet (1 : Int) (fun x2_2 => jbind (jloop (fun (q : (Int × Int)) => match q with | (x1, x2) => f_X8_leastGap_b4 σ x1 x2) 1000 (x1_1, x2_2)) (fun x1_9 => some x1_9)))
def f_X8_leastGap (σ : St) : Option Int := f_X8_leastGap_b0 σ
def f_X8_chainFrom_b3 (σ : St) (x1 x2 x4 : Int) : Option ((St × Int) ⊕ St) :=
  jchk (inI x4 ∧ inI (σ 1 4)) (if x4 < σ 1 4 then jchk (0 ≤ x4 ∧ x4 < 24) (jchk (inL (σ 68 x4.toNat) ∧ inL (-1)) (if σ 68 x4.toNat = (-1) then jlet (x4 + 1) (fun x4_2 => some (.inl (σ, x4_2))) else jchk (0 ≤ x1 ∧ x1 < 24) (jchk (0 ≤ x4 ∧ x4 < 24) (jbind (f_X9_square σ (σ 2 x1.toNat) (σ 2 x4.toNat)) (fun r_3 => jchk (inI r_3) (jlet r_3 (fun x5_4 => jchk (0 ≤ x4 ∧ x4 < 24) (jchk (inL x2 ∧ inL x5_4) (jchk (inL (σ 68 x4.toNat) ∧ inL (if x5_4 < x2 then x2 else x5_4)) (jchk (0 ≤ x4 ∧ x4 < 24) (jlet (up2 σ 68 x4.toNat (if (if x5_4 < x2 then x2 else x5_4) < (σ 68 x4.toNat) then (if x5_4 < x2 then x2 else x5_4) else (σ 68 x4.toNat))) (fun σ_5 => jlet (x4 + 1) (fun x4_6 => some (.inl (σ_5, x4_6))))))))))))))) else some (.inr (σ)))
def f_X8_chainFrom_b0 (σ : St) (x1 x2 : Int) : Option St :=
  jlet (0 : Int) (fun x4_1 => jbind (jloop (fun (q : (St × Int)) => match q with | (σ, x4) => f_X8_chainFrom_b3 σ x1 x2 x4) 1000 (σ, x4_1)) (fun σ_7 => some σ_7))
def f_X8_chainFrom (σ : St) (x1 x2 : Int) : Option St := f_X8_chainFrom_b0 σ x1 x2
def f_X8_widest_b21 (σ : St) (x3 x4 x5 x7 : Int) : Option ((St × Int) ⊕ St) :=
  jchk (inI x7 ∧ inI (σ 1 4)) (if x7 < σ 1 4 then jchk (0 ≤ x7 ∧ x7 < 24) (jbind (f_X8_toRim σ (σ 2 x7.toNat) x3 x4 1) (fun r_5 => jchk (0 ≤ x7 ∧ x7 < 24) (jlet (up2 σ 68 x7.toNat r_5) (fun σ_6 => jlet (x7 + 1) (fun x7_7 => some (.inl (σ_6, x7_7))))))) else some (.inr (σ)))
def f_X8_widest_b67 (σ : St) (x3 x4 x5 x7 : Int) : Option ((St × Int × Int) ⊕ (St × Int)) :=
  jchk (inI x7 ∧ inI (σ 1 4)) (if x7 < σ 1 4 then jbind (f_X8_leastGap σ) (fun r_10 => jlet r_10 (fun x8_11 => jchk (0 ≤ x8_11 ∧ x8_11 < 24) (jlet (σ 68 x8_11.toNat) (fun x9_12 => jchk (0 ≤ x8_11 ∧ x8_11 < 24) (jbind (f_X8_toRim σ (σ 2 x8_11.toNat) x3 x4 0) (fun r_13 => jchk (inL x9_12 ∧ inL r_13) (jlet (if r_13 < x9_12 then x9_12 else r_13) (fun x11_14 => jchk (inL x5 ∧ inL x11_14) (jlet (if x11_14 < x5 then x11_14 else x5) (fun x5_15 => jchk (0 ≤ x8_11 ∧ x8_11 < 24) (jlet (up2 σ 68 x8_11.toNat ((-1) : Int)) (fun σ_16 => jbind (f_X8_chainFrom σ_16 x8_11 x9_12) (fun σ_17 => jlet (x7 + 1) (fun x7_18 => some (.inl (σ_17, x5_15, x7_18)))))))))))))))) else some (.inr ((σ, x5))))
def f_X8_widest_b0 (σ : St) (x1 x2 : Int) : Option (Int × St) :=
  jchk (inI x1 ∧ inI x2) (jlet (if x2 < x1 then x2 else x1) (fun x3_1 => jchk (inI x1 ∧ inI x2) (jlet (if x1 < x2 then x2 else x1) (fun x4_2 => jlet (1152921504606846976 : Int) (fun x5_3 => jlet (0 : Int) (fun x7_4 => jbind (jloop (fun (q : (St × Int)) => match q with | (σ, x7) => f_X8_widest_b21 σ x3_1 x4_2 x5_3 x7) 1000 (σ, x7_4)) (fun σ_8 => jlet (0 : Int) (fun x7_9 => jbind (jloop (fun (q : (St × Int × Int)) => match q with | (σ, x5, x7) => f_X8_widest_b67 σ x3_1 x4_2 x5 x7) 1000 (σ_8, x5_3, x7_9)) (fun q => match q with | (σ_19, x5_20) => some (x5_20, σ_19))))))))))
def f_X8_widest (σ : St) (x1 x2 : Int) : Option (Int × St) := f_X8_widest_b0 σ x1 x2
def f_X10_keep_b28 (σ : St) (x1 x2 t0 : Int) : Option (Int × St) :=
  jlet t0 (fun x3_1 => jchk (inI x3_1) (if x3_1 = 0 then some ((-1), σ) else jchk (inI (σ 1 4)) (if (0 : Int) < σ 1 4 then jbind (f_X8_widest σ x1 x2) (fun q => match q with | (r_2, σ_3) => some (r_2, σ_3)) else some ((-1), σ))))
def f_X10_keep_b27 (σ : St) (x1 x2 : Int) : Option (Int × St) :=
  f_X10_keep_b28 σ x1 x2 0
def f_X10_keep_b0 (σ : St) (x1 x2 : Int) : Option (Int × St) :=
  jchk (inI x1) (if x1 < 0 then f_X10_keep_b27 σ x1 x2 else jchk (inI x1 ∧ inI 4) (if x1 < 4 then jchk (inI x2) (if x2 < 0 then f_X10_keep_b27 σ x1 x2 else jchk (inI x2 ∧ inI 4) (if x2 < 4 then jchk (inI x1 ∧ inI x2) (if x1 = x2 then f_X10_keep_b27 σ x1 x2 else f_X10_keep_b28 σ x1 x2 1) else f_X10_keep_b27 σ x1 x2)) else f_X10_keep_b27 σ x1 x2))
def f_X10_keep (σ : St) (x1 x2 : Int) : Option (Int × St) := f_X10_keep_b0 σ x1 x2
def f_X10_largest_b0 (σ : St) (x1 : Int) : Option (Int × St) :=
  jbind (f_X0_findOnce σ) (fun σ_1 => jbind (f_X0_tell σ_1 x1) (fun r_2 => some (r_2, σ_1)))
def f_X10_largest (σ : St) (x1 : Int) : Option (Int × St) := f_X10_largest_b0 σ x1
def f_X7_has_b0 (σ : St) (x1 : Int) : Option Int :=
  jchk (inI x1) (if x1 < 0 then some 0 else jchk (inI x1 ∧ inI 8) (if x1 < 8 then jchk (0 ≤ x1 ∧ x1 < 8) (jchk (inI (σ 15 x1.toNat) ∧ inI (-1)) (if σ 15 x1.toNat = (-1) then some 0 else some 1)) else some 0))
def f_X7_has (σ : St) (x1 : Int) : Option Int := jz (f_X7_has_b0 σ x1)
def f_X9_mayBe_b0 (σ : St) (x1 x2 x3 x4 : Int) : Option Int :=
  jchk (inI x1) (if x1 < 0 then some 0 else jchk (inI x1 ∧ inI (σ 1 0)) (if σ 1 0 < x1 then some 0 else jchk (inI x2) (if x2 < 0 then some 0 else jchk (inI x2 ∧ inI (σ 1 1)) (if σ 1 1 < x2 then some 0 else jbind (f_X10_mayHave x3 x4) (fun r_1 => jchk (inI r_1) (if r_1 = 0 then some 0 else some 1))))))
def f_X9_mayBe (σ : St) (x1 x2 x3 x4 : Int) : Option Int := jz (f_X9_mayBe_b0 σ x1 x2 x3 x4)
def f_X9_isTaken_b2 (σ : St) (x1 x2 x3 : Int) : Option (Int ⊕ (Unit ⊕ Unit)) :=
  jchk (inI x3 ∧ inI 24) (if x3 < 24 then jbind (f_X9_has σ x3) (fun r_2 => jchk (inI r_2) (if r_2 = 0 then jlet (x3 + 1) (fun x3_3 => some (.inl x3_3)) else jchk (0 ≤ x3 ∧ x3 < 24) (jchk (inI (σ 3 x3.toNat) ∧ inI x1) (if σ 3 x3.toNat = x1 then jchk (0 ≤ x3 ∧ x3 < 24) (jchk (inI (σ 4 x3.toNat) ∧ inI x2) (if σ 4 x3.toNat = x2 then some (.inr (.inl ())) else jlet (x3 + 1) (fun x3_5 => some (.inl x3_5)))) else jlet (x3 + 1) (fun x3_4 => some (.inl x3_4)))))) else some (.inr (.inr (()))))
def f_X9_isTaken_b0 (σ : St) (x1 x2 : Int) : Option Int :=
  jlet (0 : Int) (fun x3_1 => jbind (jloop (fun (x3 : Int) => f_X9_isTaken_b2 σ x1 x2 x3) 1000 x3_1) (fun q => match q with | .inl () => some 1 | .inr (()) => some 0))
def f_X9_isTaken (σ : St) (x1 x2 : Int) : Option Int := jz (f_X9_isTaken_b0 σ x1 x2)
def f_X7_isTakenBefore_b13 (σ : St) (x3 x4 : Int) : Option (Int ⊕ (Unit ⊕ Unit)) :=
  jchk (inI x4 ∧ inI x3) (if x4 < x3 then jchk (0 ≤ x4 ∧ x4 < 64) (jchk (0 ≤ x3 ∧ x3 < 64) (jchk (inI (σ 16 x4.toNat) ∧ inI (σ 16 x3.toNat)) (if σ 16 x4.toNat = σ 16 x3.toNat then jchk (0 ≤ x4 ∧ x4 < 64) (jchk (0 ≤ x3 ∧ x3 < 64) (jchk (inI (σ 17 x4.toNat) ∧ inI (σ 17 x3.toNat)) (if σ 17 x4.toNat = σ 17 x3.toNat then some (.inr (.inl ())) else jlet (x4 + 1) (fun x4_4 => some (.inl x4_4))))) else jlet (x4 + 1) (fun x4_3 => some (.inl x4_3))))) else some (.inr (.inr (()))))
def f_X7_isTakenBefore_b0 (σ : St) (x1 x2 : Int) : Option Int :=
  jlet ((x1 * 8) + x2) (fun x3_1 => jlet (x1 * 8) (fun x4_2 => jbind (jloop (fun (x4 : Int) => f_X7_isTakenBefore_b13 σ x3_1 x4) 1000 x4_2) (fun q => match q with | .inl () => some 1 | .inr (()) => some 0)))
def f_X7_isTakenBefore (σ : St) (x1 x2 : Int) : Option Int := jz (f_X7_isTakenBefore_b0 σ x1 x2)
def f_X10_maySink_b0 (σ : St) (x1 x2 : Int) : Option Int :=
  jlet ((x1 * 8) + x2) (fun x3_1 => jchk (0 ≤ x3_1 ∧ x3_1 < 64) (jchk (0 ≤ x3_1 ∧ x3_1 < 64) (jchk (0 ≤ x3_1 ∧ x3_1 < 64) (jchk (0 ≤ x3_1 ∧ x3_1 < 64) (jbind (f_X9_mayBe σ (σ 16 x3_1.toNat) (σ 17 x3_1.toNat) (σ 18 x3_1.toNat) (σ 19 x3_1.toNat)) (fun r_2 => jchk (inI r_2) (if r_2 = 0 then some 0 else jchk (0 ≤ x3_1 ∧ x3_1 < 64) (jchk (0 ≤ x3_1 ∧ x3_1 < 64) (jbind (f_X9_isTaken σ (σ 16 x3_1.toNat) (σ 17 x3_1.toNat)) (fun r_3 => jchk (inI r_3) (if r_3 = 0 then jbind (f_X7_isTakenBefore σ x1 x2) (fun r_4 => jchk (inI r_4) (if r_4 = 0 then jchk (inI (σ 1 3 + x2) ∧ inI 24) (if (σ 1 3 + x2) < 24 then some 1 else some 0) else some 0)) else some 0)))))))))))
def f_X10_maySink (σ : St) (x1 x2 : Int) : Option Int := jz (f_X10_maySink_b0 σ x1 x2)
def f_X9_leastFree_b2 (σ : St) (x1 : Int) : Option (Int ⊕ (Int ⊕ Unit)) :=
  jchk (inI x1 ∧ inI 24) (if x1 < 24 then jbind (f_X9_has σ x1) (fun r_2 => jchk (inI r_2) (if r_2 = 0 then some (.inr (.inl x1)) else jlet (x1 + 1) (fun x1_3 => some (.inl x1_3)))) else some (.inr (.inr (()))))
def f_X9_leastFree_b0 (σ : St) : Option Int :=
  jlet (0 : Int) (fun x1_1 => jbind (jloop (fun (x1 : Int) => f_X9_leastFree_b2 σ x1) 1000 x1_1) (fun q => match q with | .inl x1_4 => some x1_4 | .inr (()) => some (-1)))
def f_X9_leastFree (σ : St) : Option Int := f_X9_leastFree_b0 σ
def f_X10_lay_b25 (σ : St) (x1 x2 x3 : Int) : Option (Int ⊕ (Int ⊕ Unit)) :=
  jchk (inI x3 ∧ inI x2) (if x3 < x2 then jbind (f_X10_maySink σ x1 x3) (fun r_4 => jchk (inI r_4) (if r_4 = 0 then some (.inr (.inl x3)) else jlet (x3 + 1) (fun x3_5 => some (.inl x3_5)))) else some (.inr (.inr (()))))
def f_X10_lay_b63 (σ : St) (x1 x2 x3 : Int) : Option ((St × Int) ⊕ St) :=
  jchk (inI x3 ∧ inI x2) (if x3 < x2 then jlet ((x1 * 8) + x3) (fun x4_9 => jbind (f_X9_leastFree σ) (fun r_10 => jchk (0 ≤ x4_9 ∧ x4_9 < 64) (jchk (0 ≤ x4_9 ∧ x4_9 < 64) (jchk (0 ≤ x4_9 ∧ x4_9 < 64) (jchk (0 ≤ x4_9 ∧ x4_9 < 64) (jbind (f_X9_put σ r_10 (σ 16 x4_9.toNat) (σ 17 x4_9.toNat) (σ 18 x4_9.toNat) (σ 19 x4_9.toNat)) (fun σ_11 => jlet (x3 + 1) (fun x3_12 => some (.inl (σ_11, x3_12)))))))))) else some (.inr (σ)))
def f_X10_lay_b0 (σ : St) (x1 : Int) : Option (Int × St) :=
  jbind (f_X7_has σ x1) (fun r_1 => jchk (inI r_1) (if r_1 = 0 then some ((-1), σ) else jchk (0 ≤ x1 ∧ x1 < 8) (jlet (σ 15 x1.toNat) (fun x2_2 => jlet (0 : Int) (fun x3_3 => jbind (jloop (fun (x3 : Int) => f_X10_lay_b25 σ x1 x2_2 x3) 1000 x3_3) (fun q => match q with | .inl x3_6 => some (((-2) - x3_6), σ) | .inr (()) => jbind (f_X5_remember σ) (fun σ_7 => jlet (0 : Int) (fun x3_8 => jbind (jloop (fun (q : (St × Int)) => match q with | (σ, x3) => f_X10_lay_b63 σ x1 x2_2 x3) 1000 (σ_7, x3_8)) (fun σ_13 => some (x2_2, σ_13))))))))))
def f_X10_lay (σ : St) (x1 : Int) : Option (Int × St) := f_X10_lay_b0 σ x1
def f_X7_hasLine_b0 (σ : St) (x1 x2 : Int) : Option Int :=
  jbind (f_X7_has σ x1) (fun r_1 => jchk (inI r_1) (if r_1 = 0 then some 0 else jchk (inI x2) (if x2 < 0 then some 0 else jchk (0 ≤ x1 ∧ x1 < 8) (jchk (inI x2 ∧ inI (σ 15 x1.toNat)) (if x2 < σ 15 x1.toNat then some 1 else some 0)))))
def f_X7_hasLine (σ : St) (x1 x2 : Int) : Option Int := jz (f_X7_hasLine_b0 σ x1 x2)
def f_X7_write_b0 (σ : St) (x1 x2 x3 x4 x5 : Int) : Option St :=
  jchk (0 ≤ x1 ∧ x1 < 64) (jlet (up2 σ 16 x1.toNat x2) (fun σ_1 => jchk (0 ≤ x1 ∧ x1 < 64) (jlet (up2 σ_1 17 x1.toNat x3) (fun σ_2 => jchk (0 ≤ x1 ∧ x1 < 64) (jlet (up2 σ_2 18 x1.toNat x4) (fun σ_3 => jchk (0 ≤ x1 ∧ x1 < 64) (jlet (up2 σ_3 19 x1.toNat x5) (fun σ_4 => some σ_4))))))))
def f_X7_write (σ : St) (x1 x2 x3 x4 x5 : Int) : Option St := f_X7_write_b0 σ x1 x2 x3 x4 x5
def f_X10_line_b0 (σ : St) (x1 x2 x3 x4 x5 x6 : Int) : Option (Int × St) :=
  jbind (f_X7_hasLine σ x1 x2) (fun r_1 => jchk (inI r_1) (if r_1 = 0 then some (0, σ) else jbind (f_X7_write σ ((x1 * 8) + x2) x3 x4 x5 x6) (fun σ_2 => some (1, σ_2))))
def f_X10_line (σ : St) (x1 x2 x3 x4 x5 x6 : Int) : Option (Int × St) := jzw (f_X10_line_b0 σ x1 x2 x3 x4 x5 x6)
def f_X10_nearest_b17 (σ : St) (x1 x2 x3 : Int) : Option ((Int × Int) ⊕ Int) :=
  jchk (inI x3 ∧ inI (σ 1 4)) (if x3 < σ 1 4 then jchk (0 ≤ x3 ∧ x3 < 24) (jlet (σ 2 x3.toNat) (fun x4_4 => jchk (inI x4_4 ∧ inI x1) (if x4_4 = x1 then jlet (x3 + 1) (fun x3_5 => some (.inl (x2, x3_5))) else jchk (inI x2 ∧ inI (-1)) (if x2 = (-1) then jlet x4_4 (fun x2_6 => jlet (x3 + 1) (fun x3_7 => some (.inl (x2_6, x3_7)))) else jbind (f_X9_square σ x4_4 x1) (fun r_8 => jbind (f_X9_square σ x2 x1) (fun r_9 => jchk (inI r_8 ∧ inI r_9) (if r_8 < r_9 then jlet x4_4 (fun x2_11 => jlet (x3 + 1) (fun x3_12 => some (.inl (x2_11, x3_12)))) else jlet (x3 + 1) (fun x3_10 => some (.inl (x2, x3_10)))))))))) else some (.inr (x2)))
def f_X10_nearest_b0 (σ : St) (x1 : Int) : Option Int :=
  jbind (f_X9_isCounted σ x1) (fun r_1 => jchk (inI r_1) (if r_1 = 0 then some (-1) else jlet ((-1) : Int) (fun x2_2 => jlet (0 : Int) (fun x3_3 => jbind (jloop (fun (q : (Int × Int)) => match q with | (x2, x3) => f_X10_nearest_b17 σ x1 x2 x3) 1000 (x2_2, x3_3)) (fun x2_13 => some x2_13)))))
def f_X10_nearest (σ : St) (x1 : Int) : Option Int := f_X10_nearest_b0 σ x1
def f_X10_tellCosts_b3 (σ : St) (x1 x2 x3 x4 : Int) : Option ((St × Int) ⊕ St) :=
  jchk (inI x4 ∧ inI (σ 1 4)) (if x4 < σ 1 4 then jchk (0 ≤ x4 ∧ x4 < 24) (jlet (σ 2 x4.toNat) (fun x5_2 => jchk (inI x1) (jchk (inI x3) (jchk (0 ≤ x5_2 ∧ x5_2 < 24) (jchk (inI (σ 3 x5_2.toNat)) (jlet (x1 - (x3 * σ 3 x5_2.toNat)) (fun x6_3 => jchk (inI x2) (jchk (inI x3) (jchk (0 ≤ x5_2 ∧ x5_2 < 24) (jchk (inI (σ 4 x5_2.toNat)) (jlet (x2 - (x3 * σ 4 x5_2.toNat)) (fun x8_4 => jchk (inI x3) (jchk (inI x3) (jbind (f_X9_takenOff σ x5_2) (fun r_5 => jchk (inI r_5) (jchk (0 ≤ x4 ∧ x4 < 24) (jlet (up2 σ 69 x4.toNat (((x6_3 * x6_3) + (x8_4 * x8_4)) - ((x3 * x3) * r_5))) (fun σ_6 => jlet (x4 + 1) (fun x4_7 => some (.inl (σ_6, x4_7))))))))))))))))))))) else some (.inr (σ)))
def f_X10_tellCosts_b0 (σ : St) (x1 x2 x3 : Int) : Option St :=
  jlet (0 : Int) (fun x4_1 => jbind (jloop (fun (q : (St × Int)) => match q with | (σ, x4) => f_X10_tellCosts_b3 σ x1 x2 x3 x4) 1000 (σ, x4_1)) (fun σ_8 => some σ_8))
def f_X10_tellCosts (σ : St) (x1 x2 x3 : Int) : Option St := f_X10_tellCosts_b0 σ x1 x2 x3
def f_X10_rankOf_b5 (σ : St) (x1 x2 x3 x4 : Int) : Option ((Int × Int) ⊕ Int) :=
  jchk (inI x4 ∧ inI (σ 1 4)) (if x4 < σ 1 4 then jchk (0 ≤ x4 ∧ x4 < 24) (jchk (0 ≤ x1 ∧ x1 < 24) (jchk (inL (σ 69 x4.toNat) ∧ inL (σ 69 x1.toNat)) (if σ 69 x4.toNat < σ 69 x1.toNat then jlet (x3 + 1) (fun x3_3 => jlet (x4 + 1) (fun x4_4 => some (.inl (x3_3, x4_4)))) else jchk (inI x2) (if x2 = 0 then jlet (x4 + 1) (fun x4_5 => some (.inl (x3, x4_5))) else jchk (inI x4 ∧ inI x1) (if x4 < x1 then jchk (0 ≤ x4 ∧ x4 < 24) (jchk (0 ≤ x1 ∧ x1 < 24) (jchk (inL (σ 69 x4.toNat) ∧ inL (σ 69 x1.toNat)) (if σ 69 x4.toNat = σ 69 x1.toNat then jlet (x3 + 1) (fun x3_8 => jlet (x4 + 1) (fun x4_9 => some (.inl (x3_8, x4_9)))) else jlet (x4 + 1) (fun x4_7 => some (.inl (x3, x4_7)))))) else jlet (x4 + 1) (fun x4_6 => some (.inl (x3, x4_6)))))))) else some (.inr (x3)))
def f_X10_rankOf_b0 (σ : St) (x1 x2 : Int) : Option Int :=
  jlet (0 : Int) (fun x3_1 => jlet (0 : Int) (fun x4_2 => jbind (jloop (fun (q : (Int × Int)) => match q with | (x3, x4) => f_X10_rankOf_b5 σ x1 x2 x3 x4) 1000 (x3_1, x4_2)) (fun x3_10 => some x3_10)))
def f_X10_rankOf (σ : St) (x1 x2 : Int) : Option Int := f_X10_rankOf_b0 σ x1 x2
def f_X10_next_b22 (σ : St) (x4 x5 : Int) : Option (Int ⊕ (Int ⊕ Unit)) :=
  jchk (inI x5 ∧ inI (σ 1 4)) (if x5 < σ 1 4 then jbind (f_X10_rankOf σ x5 1) (fun r_4 => jchk (inI r_4 ∧ inI x4) (if r_4 = x4 then some (.inr (.inl x5)) else jlet (x5 + 1) (fun x5_5 => some (.inl x5_5)))) else some (.inr (.inr (()))))
def f_X10_next_b0 (σ : St) (x1 x2 x3 x4 : Int) : Option (Int × St) :=
  jbind (f_X10_isPoint σ x1 x2 x3) (fun r_1 => jchk (inI r_1) (if r_1 = 0 then some ((-1), σ) else jbind (f_X10_tellCosts σ x1 x2 x3) (fun σ_2 => jlet (0 : Int) (fun x5_3 => jbind (jloop (fun (x5 : Int) => f_X10_next_b22 σ_2 x4 x5) 1000 x5_3) (fun q => match q with | .inl x5_6 => jchk (0 ≤ x5_6 ∧ x5_6 < 24) (some (σ_2 2 x5_6.toNat, σ_2)) | .inr (()) => some ((-1), σ_2))))))
def f_X10_next (σ : St) (x1 x2 x3 x4 : Int) : Option (Int × St) := f_X10_next_b0 σ x1 x2 x3 x4
def f_X10_pipe_b0 (σ : St) (x1 x2 : Int) : Option (Int × St) :=
  jbind (f_X3_joinOnce σ) (fun σ_1 => jbind (f_X3_tell σ_1 x1 x2) (fun r_2 => some (r_2, σ_1)))
def f_X10_pipe (σ : St) (x1 x2 : Int) : Option (Int × St) := f_X10_pipe_b0 σ x1 x2
def f_X9_fitInto_b28 (σ : St) (x1 x2 x3 : Int) : Option (Int ⊕ (Unit ⊕ Unit)) :=
  jchk (inI x3 ∧ inI 24) (if x3 < 24 then jbind (f_X9_has σ x3) (fun r_2 => jchk (inI r_2) (if r_2 = 0 then jlet (x3 + 1) (fun x3_3 => some (.inl x3_3)) else jchk (0 ≤ x3 ∧ x3 < 24) (jchk (inI (σ 3 x3.toNat) ∧ inI x1) (if x1 < σ 3 x3.toNat then some (.inr (.inl ())) else jchk (0 ≤ x3 ∧ x3 < 24) (jchk (inI (σ 4 x3.toNat) ∧ inI x2) (if x2 < σ 4 x3.toNat then some (.inr (.inl ())) else jlet (x3 + 1) (fun x3_4 => some (.inl x3_4)))))))) else some (.inr (.inr (()))))
def f_X9_fitInto_b0 (σ : St) (x1 x2 : Int) : Option Int :=
  jchk (inI x1 ∧ inI 1) (if x1 < 1 then some 0 else jchk (inI x1 ∧ inI 1000) (if (1000 : Int) < x1 then some 0 else jchk (inI x2 ∧ inI 1) (if x2 < 1 then some 0 else jchk (inI x2 ∧ inI 1000) (if (1000 : Int) < x2 then some 0 else jlet (0 : Int) (fun x3_1 => jbind (jloop (fun (x3 : Int) => f_X9_fitInto_b28 σ x1 x2 x3) 1000 x3_1) (fun q => match q with | .inl () => some 0 | .inr (()) => some 1))))))
def f_X9_fitInto (σ : St) (x1 x2 : Int) : Option Int := jz (f_X9_fitInto_b0 σ x1 x2)
def f_X9_resize_b0 (σ : St) (x1 x2 : Int) : Option St :=
  jlet (up2 σ 1 0 x1) (fun σ_1 => jlet (up2 σ_1 1 1 x2) (fun σ_2 => jbind (f_X9_countAnew σ_2) (fun σ_3 => some σ_3)))
def f_X9_resize (σ : St) (x1 x2 : Int) : Option St := f_X9_resize_b0 σ x1 x2
def f_X10_rectangle_b0 (σ : St) (x1 x2 : Int) : Option (Int × St) :=
  jbind (f_X9_fitInto σ x1 x2) (fun r_1 => jchk (inI r_1) (if r_1 = 0 then some (0, σ) else jbind (f_X5_remember σ) (fun σ_2 => jbind (f_X9_resize σ_2 x1 x2) (fun σ_3 => some (1, σ_3)))))
def f_X10_rectangle (σ : St) (x1 x2 : Int) : Option (Int × St) := jzw (f_X10_rectangle_b0 σ x1 x2)
def f_X6_setRound_b77 (σ : St) (x1 x2 x3 x4 x6 t0 : Int) : Option (Int × St) :=
  jlet t0 (fun x8_6 => jchk (inL x4) (jlet (up2 σ 35 10 (2 * (if 0 < x4 then x4 else -x4))) (fun σ_7 => jchk (0 ≤ x3 ∧ x3 < 24) (jchk (0 ≤ x1 ∧ x1 < 24) (jchk (inI (σ_7 4 x3.toNat - σ_7 4 x1.toNat)) (jchk (0 ≤ x2 ∧ x2 < 24) (jchk (0 ≤ x1 ∧ x1 < 24) (jchk (inI (σ_7 4 x2.toNat - σ_7 4 x1.toNat)) (jlet (up2 σ_7 35 8 (((σ_7 4 x3.toNat - σ_7 4 x1.toNat) * x6) - ((σ_7 4 x2.toNat - σ_7 4 x1.toNat) * x8_6))) (fun σ_8 => jchk (0 ≤ x2 ∧ x2 < 24) (jchk (0 ≤ x1 ∧ x1 < 24) (jchk (inI (σ_8 3 x2.toNat - σ_8 3 x1.toNat)) (jchk (0 ≤ x3 ∧ x3 < 24) (jchk (0 ≤ x1 ∧ x1 < 24) (jchk (inI (σ_8 3 x3.toNat - σ_8 3 x1.toNat)) (jlet (up2 σ_8 35 9 (((σ_8 3 x2.toNat - σ_8 3 x1.toNat) * x8_6) - ((σ_8 3 x3.toNat - σ_8 3 x1.toNat) * x6))) (fun σ_9 => jchk (inL x4 ∧ inL 0) (if x4 = 0 then some (0, σ_9) else some (1, σ_9)))))))))))))))))))
def f_X6_setRound_b44 (σ : St) (x1 x2 x3 x4 t0 : Int) : Option (Int × St) :=
  jlet t0 (fun x6_4 => jchk (inL x4 ∧ inL 0) (if x4 < 0 then jbind (f_X9_square σ x1 x3) (fun r_10 => jchk (inI (-r_10)) (f_X6_setRound_b77 σ x1 x2 x3 x4 x6_4 (-r_10))) else jbind (f_X9_square σ x1 x3) (fun r_5 => jchk (inI r_5) (f_X6_setRound_b77 σ x1 x2 x3 x4 x6_4 r_5))))
def f_X6_setRound_b0 (σ : St) (x1 x2 x3 : Int) : Option (Int × St) :=
  jbind (f_X9_turn σ x1 x2 x3) (fun r_1 => jchk (inI r_1) (jlet r_1 (fun x4_2 => jchk (inL x4_2 ∧ inL 0) (if x4_2 < 0 then jbind (f_X9_square σ x1 x2) (fun r_11 => jchk (inI (-r_11)) (f_X6_setRound_b44 σ x1 x2 x3 x4_2 (-r_11))) else jbind (f_X9_square σ x1 x2) (fun r_3 => jchk (inI r_3) (f_X6_setRound_b44 σ x1 x2 x3 x4_2 r_3))))))
def f_X6_setRound (σ : St) (x1 x2 x3 : Int) : Option (Int × St) := jzw (f_X6_setRound_b0 σ x1 x2 x3)
def f_X6_outsideBy_b0 (σ : St) (x1 x2 : Int) : Option Int :=
  jbind (f_X9_square σ x1 x2) (fun r_1 => jchk (inI r_1) (jchk (0 ≤ x2 ∧ x2 < 24) (jchk (0 ≤ x1 ∧ x1 < 24) (jchk (inI (σ 3 x2.toNat - σ 3 x1.toNat)) (jchk (0 ≤ x2 ∧ x2 < 24) (jchk (0 ≤ x1 ∧ x1 < 24) (jchk (inI (σ 4 x2.toNat - σ 4 x1.toNat)) (some ((r_1 * σ 35 10) - (2 * (((σ 3 x2.toNat - σ 3 x1.toNat) * σ 35 8) + ((σ 4 x2.toNat - σ 4 x1.toNat) * σ 35 9))))))))))))
def f_X6_outsideBy (σ : St) (x1 x2 : Int) : Option Int := f_X6_outsideBy_b0 σ x1 x2
def f_X6_ringFrom_b73 (σ : St) (x1 x2 x3 x4 x5 x6 x7 : Int) : Option ((Int × Int) ⊕ (Unit ⊕ Int)) :=
  jchk (inL x7 ∧ inL 0) (if x7 = 0 then jlet (jor x4 (jshl 1 x6)) (fun x4_7 => jlet (x5 + 1) (fun x5_8 => some (.inl (x4_7, x5_8)))) else jlet (x5 + 1) (fun x5_6 => some (.inl (x4, x5_6))))
def f_X6_ringFrom_b6 (σ : St) (x1 x2 x3 x4 x5 : Int) : Option ((Int × Int) ⊕ (Unit ⊕ Int)) :=
  jchk (inI x5 ∧ inI (σ 1 4)) (if x5 < σ 1 4 then jchk (0 ≤ x5 ∧ x5 < 24) (jlet (σ 2 x5.toNat) (fun x6_3 => jbind (f_X6_outsideBy σ x1 x6_3) (fun r_4 => jlet r_4 (fun x7_5 => jchk (inL x7_5 ∧ inL 0) (if x7_5 < 0 then some (.inr (.inl ())) else jchk (inL x7_5 ∧ inL 0) (if x7_5 = 0 then jchk (inI x6_3 ∧ inI x3) (if x6_3 < x3 then jchk (inI x6_3 ∧ inI x1) (if x6_3 = x1 then f_X6_ringFrom_b73 σ x1 x2 x3 x4 x5 x6_3 x7_5 else jchk (inI x6_3 ∧ inI x2) (if x6_3 = x2 then f_X6_ringFrom_b73 σ x1 x2 x3 x4 x5 x6_3 x7_5 else some (.inr (.inl ())))) else f_X6_ringFrom_b73 σ x1 x2 x3 x4 x5 x6_3 x7_5) else f_X6_ringFrom_b73 σ x1 x2 x3 x4 x5 x6_3 x7_5)))))) else some (.inr (.inr (x4))))
def f_X6_ringFrom_b0 (σ : St) (x1 x2 x3 : Int) : Option Int :=
  jlet (0 : Int) (fun x4_1 => jlet (0 : Int) (fun x5_2 => jbind (jloop (fun (q : (Int × Int)) => match q with | (x4, x5) => f_X6_ringFrom_b6 σ x1 x2 x3 x4 x5) 1000 (x4_1, x5_2)) (fun q => match q with | .inl () => some 0 | .inr (x4_9) => some x4_9)))
def f_X6_ringFrom (σ : St) (x1 x2 x3 : Int) : Option Int := f_X6_ringFrom_b0 σ x1 x2 x3
def f_X6_look_b0 (σ : St) (x1 x2 x3 : Int) : Option St :=
  jbind (f_X6_setRound σ x1 x2 x3) (fun q => match q with | (r_1, σ_2) => jchk (inI r_1) (if r_1 = 0 then some σ_2 else jbind (f_X6_ringFrom σ_2 x1 x2 x3) (fun r_3 => jlet r_3 (fun x4_4 => jchk (inI x4_4) (if x4_4 = 0 then some σ_2 else jchk (inI (σ_2 35 2) ∧ inI 48) (if σ_2 35 2 < 48 then jchk (0 ≤ σ_2 35 2 ∧ σ_2 35 2 < 48) (jlet (up2 σ_2 36 (σ_2 35 2).toNat x4_4) (fun σ_5 => jchk (0 ≤ σ_5 35 2 ∧ σ_5 35 2 < 48) (jlet (up2 σ_5 37 (σ_5 35 2).toNat x1) (fun σ_6 => jchk (0 ≤ σ_6 35 2 ∧ σ_6 35 2 < 48) (jlet (up2 σ_6 38 (σ_6 35 2).toNat (σ_6 35 8)) (fun σ_7 => jchk (0 ≤ σ_7 35 2 ∧ σ_7 35 2 < 48) (jlet (up2 σ_7 39 (σ_7 35 2).toNat (σ_7 35 9)) (fun σ_8 => jchk (0 ≤ σ_8 35 2 ∧ σ_8 35 2 < 48) (jlet (up2 σ_8 40 (σ_8 35 2).toNat (σ_8 35 10)) (fun σ_9 => jlet (up2 σ_9 35 2 (σ_9 35 2 + 1)) (fun σ_10 => some σ_10))))))))))) else some σ_2))))))
def f_X6_look (σ : St) (x1 x2 x3 : Int) : Option St := f_X6_look_b0 σ x1 x2 x3
def f_X6_findOnce_b63 (σ : St) (x1 x2 x3 : Int) : Option ((St × Int) ⊕ St) :=
  jchk (inI x3 ∧ inI (σ 1 4)) (if x3 < σ 1 4 then jchk (0 ≤ x1 ∧ x1 < 24) (jchk (0 ≤ x2 ∧ x2 < 24) (jchk (0 ≤ x3 ∧ x3 < 24) (jbind (f_X6_look σ (σ 2 x1.toNat) (σ 2 x2.toNat) (σ 2 x3.toNat)) (fun σ_6 => jlet (x3 + 1) (fun x3_7 => some (.inl (σ_6, x3_7))))))) else some (.inr (σ)))
def f_X6_findOnce_b48 (σ : St) (x1 x2 : Int) : Option ((St × Int) ⊕ St) :=
  jchk (inI x2 ∧ inI (σ 1 4)) (if x2 < σ 1 4 then jlet (x2 + 1) (fun x3_5 => jbind (jloop (fun (q : (St × Int)) => match q with | (σ, x3) => f_X6_findOnce_b63 σ x1 x2 x3) 1000 (σ, x3_5)) (fun σ_8 => jlet (x2 + 1) (fun x2_9 => some (.inl (σ_8, x2_9))))) else some (.inr (σ)))
def f_X6_findOnce_b33 (σ : St) (x1 : Int) : Option ((St × Int) ⊕ St) :=
  jchk (inI x1 ∧ inI (σ 1 4)) (if x1 < σ 1 4 then jlet (x1 + 1) (fun x2_4 => jbind (jloop (fun (q : (St × Int)) => match q with | (σ, x2) => f_X6_findOnce_b48 σ x1 x2) 1000 (σ, x2_4)) (fun σ_10 => jlet (x1 + 1) (fun x1_11 => some (.inl (σ_10, x1_11))))) else some (.inr (σ)))
def f_X6_findOnce_b0 (σ : St) : Option St :=
  jchk (inI (σ 35 1) ∧ inI (σ 1 6)) (if σ 35 1 = σ 1 6 then some σ else jlet (up2 σ 35 1 (σ 1 6)) (fun σ_1 => jlet (up2 σ_1 35 2 (0 : Int)) (fun σ_2 => jlet (0 : Int) (fun x1_3 => jbind (jloop (fun (q : (St × Int)) => match q with | (σ, x1) => f_X6_findOnce_b33 σ x1) 1000 (σ_2, x1_3)) (fun σ_12 => some σ_12)))))
def f_X6_findOnce (σ : St) : Option St := f_X6_findOnce_b0 σ
def f_X10_ring_b0 (σ : St) (x1 : Int) : Option (Int × St) :=
  jbind (f_X6_findOnce σ) (fun σ_1 => jchk (inI x1) (if x1 < 0 then some (0, σ_1) else jchk (inI x1 ∧ inI (σ_1 35 2)) (if x1 < σ_1 35 2 then jchk (0 ≤ x1 ∧ x1 < 48) (some (σ_1 36 x1.toNat, σ_1)) else some (0, σ_1))))
def f_X10_ring (σ : St) (x1 : Int) : Option (Int × St) := f_X10_ring_b0 σ x1
def f_X10_rings_b0 (σ : St) : Option (Int × St) :=
  jbind (f_X6_findOnce σ) (fun σ_1 => some (σ_1 35 2, σ_1))
def f_X10_rings (σ : St) : Option (Int × St) := f_X10_rings_b0 σ
def f_X6_tell_b121 (σ : St) (x1 x2 x3 x5 x7 t0 : Int) : Option Int :=
  jlet t0 (fun x9_4 => jchk (inI x9_4) (if x9_4 = 0 then jchk (0 ≤ x1 ∧ x1 < 48) (jbind (f_X10_tellPoint x3 x5 (σ 40 x1.toNat) x2) (fun r_5 => some r_5)) else jchk (0 ≤ x1 ∧ x1 < 48) (jchk (0 ≤ x1 ∧ x1 < 48) (jbind (f_X10_tellSquare x7 (σ 40 x1.toNat * σ 40 x1.toNat) x2) (fun r_6 => some r_6)))))
def f_X6_tell_b0 (σ : St) (x1 x2 : Int) : Option Int :=
  jchk (inI x1) (if x1 < 0 then some (-1) else jchk (inI x1 ∧ inI (σ 35 2)) (if x1 < σ 35 2 then jchk (0 ≤ x1 ∧ x1 < 48) (jchk (0 ≤ σ 37 x1.toNat ∧ σ 37 x1.toNat < 24) (jchk (inI (σ 3 (σ 37 x1.toNat).toNat)) (jchk (0 ≤ x1 ∧ x1 < 48) (jchk (0 ≤ x1 ∧ x1 < 48) (jlet ((σ 3 (σ 37 x1.toNat).toNat * σ 40 x1.toNat) + σ 38 x1.toNat) (fun x3_1 => jchk (0 ≤ x1 ∧ x1 < 48) (jchk (0 ≤ σ 37 x1.toNat ∧ σ 37 x1.toNat < 24) (jchk (inI (σ 4 (σ 37 x1.toNat).toNat)) (jchk (0 ≤ x1 ∧ x1 < 48) (jchk (0 ≤ x1 ∧ x1 < 48) (jlet ((σ 4 (σ 37 x1.toNat).toNat * σ 40 x1.toNat) + σ 39 x1.toNat) (fun x5_2 => jchk (0 ≤ x1 ∧ x1 < 48) (jchk (0 ≤ x1 ∧ x1 < 48) (jchk (0 ≤ x1 ∧ x1 < 48) (jchk (0 ≤ x1 ∧ x1 < 48) (jlet ((σ 38 x1.toNat * σ 38 x1.toNat) + (σ 39 x1.toNat * σ 39 x1.toNat)) (fun x7_3 => jchk (inI x2 ∧ inI 4) (if x2 = 4 then f_X6_tell_b121 σ x1 x2 x3_1 x5_2 x7_3 1 else jchk (inI x2 ∧ inI 5) (if x2 = 5 then f_X6_tell_b121 σ x1 x2 x3_1 x5_2 x7_3 1 else f_X6_tell_b121 σ x1 x2 x3_1 x5_2 x7_3 0))))))))))))))))))) else some (-1)))
def f_X6_tell (σ : St) (x1 x2 : Int) : Option Int := f_X6_tell_b0 σ x1 x2
def f_X10_round_b0 (σ : St) (x1 x2 : Int) : Option (Int × St) :=
  jbind (f_X6_findOnce σ) (fun σ_1 => jbind (f_X6_tell σ_1 x1 x2) (fun r_2 => some (r_2, σ_1)))
def f_X10_round (σ : St) (x1 x2 : Int) : Option (Int × St) := f_X10_round_b0 σ x1 x2
def f_X9_turnTo_b0 (σ : St) (x1 : Int) : Option St :=
  jlet (up2 σ 1 2 x1) (fun σ_1 => jbind (f_X9_countAnew σ_1) (fun σ_2 => some σ_2))
def f_X9_turnTo (σ : St) (x1 : Int) : Option St := f_X9_turnTo_b0 σ x1
def f_X10_season_b0 (σ : St) (x1 : Int) : Option (Int × St) :=
  jchk (inI x1) (if x1 < 0 then some ((-1), σ) else jchk (inI x1 ∧ inI 4) (if x1 < 4 then jlet (σ 1 2) (fun x2_1 => jbind (f_X9_turnTo σ x1) (fun σ_2 => some (x2_1, σ_2))) else some ((-1), σ)))
def f_X10_season (σ : St) (x1 : Int) : Option (Int × St) := f_X10_season_b0 σ x1
def f_X10_serves_b25 (σ : St) (x4 x5 : Int) : Option ((Int × Int) ⊕ Int) :=
  jchk (inI x5 ∧ inI (σ 1 4)) (if x5 < σ 1 4 then jbind (f_X10_rankOf σ x5 0) (fun r_5 => jchk (inI r_5) (if r_5 = 0 then jchk (0 ≤ x5 ∧ x5 < 24) (jlet (jor x4 (jshl 1 (σ 2 x5.toNat))) (fun x4_7 => jlet (x5 + 1) (fun x5_8 => some (.inl (x4_7, x5_8))))) else jlet (x5 + 1) (fun x5_6 => some (.inl (x4, x5_6))))) else some (.inr (x4)))
def f_X10_serves_b0 (σ : St) (x1 x2 x3 : Int) : Option (Int × St) :=
  jbind (f_X10_isPoint σ x1 x2 x3) (fun r_1 => jchk (inI r_1) (if r_1 = 0 then some ((-1), σ) else jbind (f_X10_tellCosts σ x1 x2 x3) (fun σ_2 => jlet (0 : Int) (fun x4_3 => jlet (0 : Int) (fun x5_4 => jbind (jloop (fun (q : (Int × Int)) => match q with | (x4, x5) => f_X10_serves_b25 σ_2 x4 x5) 1000 (x4_3, x5_4)) (fun x4_9 => some (x4_9, σ_2)))))))
def f_X10_serves (σ : St) (x1 x2 x3 : Int) : Option (Int × St) := f_X10_serves_b0 σ x1 x2 x3
def f_X7_begin_b9 (σ : St) (x1 x3 : Int) : Option ((St × Int) ⊕ St) :=
  jchk (inI x3 ∧ inI 8) (if x3 < 8 then jbind (f_X7_write σ ((x1 * 8) + x3) 0 0 0 0) (fun σ_3 => jlet (x3 + 1) (fun x3_4 => some (.inl (σ_3, x3_4)))) else some (.inr (σ)))
def f_X7_begin_b0 (σ : St) (x1 x2 : Int) : Option St :=
  jchk (0 ≤ x1 ∧ x1 < 8) (jlet (up2 σ 15 x1.toNat x2) (fun σ_1 => jlet (0 : Int) (fun x3_2 => jbind (jloop (fun (q : (St × Int)) => match q with | (σ, x3) => f_X7_begin_b9 σ x1 x3) 1000 (σ_1, x3_2)) (fun σ_5 => some σ_5))))
def f_X7_begin (σ : St) (x1 x2 : Int) : Option St := f_X7_begin_b0 σ x1 x2
def f_X10_sheet_b0 (σ : St) (x1 x2 : Int) : Option (Int × St) :=
  jchk (inI x1) (if x1 < 0 then some (0, σ) else jchk (inI x1 ∧ inI 8) (if x1 < 8 then jchk (inI x2 ∧ inI (-1)) (if x2 < (-1) then some (0, σ) else jchk (inI x2 ∧ inI 8) (if (8 : Int) < x2 then some (0, σ) else jbind (f_X7_begin σ x1 x2) (fun σ_1 => some (1, σ_1)))) else some (0, σ)))
def f_X10_sheet (σ : St) (x1 x2 : Int) : Option (Int × St) := jzw (f_X10_sheet_b0 σ x1 x2)
def f_X10_sink_b0 (σ : St) (x1 x2 x3 x4 : Int) : Option (Int × St) :=
  jbind (f_X9_mayBe σ x1 x2 x3 x4) (fun r_1 => jchk (inI r_1) (if r_1 = 0 then some ((-1), σ) else jbind (f_X9_isTaken σ x1 x2) (fun r_2 => jchk (inI r_2) (if r_2 = 0 then jbind (f_X9_leastFree σ) (fun r_3 => jlet r_3 (fun x5_4 => jchk (inI x5_4 ∧ inI (-1)) (if x5_4 = (-1) then some ((-3), σ) else jbind (f_X5_remember σ) (fun σ_5 => jbind (f_X9_put σ_5 x5_4 x1 x2 x3 x4) (fun σ_6 => some (x5_4, σ_6)))))) else some ((-2), σ)))))
def f_X10_sink (σ : St) (x1 x2 x3 x4 : Int) : Option (Int × St) := f_X10_sink_b0 σ x1 x2 x3 x4
def f_X10_tree_b0 (σ : St) : Option (Int × St) :=
  jbind (f_X3_joinOnce σ) (fun σ_1 => some (σ_1 62 2, σ_1))
def f_X10_tree (σ : St) : Option (Int × St) := f_X10_tree_b0 σ
def f_X5_takeBack_b38 (σ : St) (t1 : Int) : Option (Int × St) :=
  jlet (up2 σ 7 1 t1) (fun σ_2 => jlet (σ_2 7 1 * 24) (fun x2_3 => jchk (0 ≤ x2_3 ∧ 0 ≤ (0 : Int) ∧ 0 ≤ (24 : Int) ∧ x2_3 + (24 : Int) ≤ 192 ∧ (0 : Int) + (24 : Int) ≤ 24) (jlet (upr σ_2 3 (va_cpy (σ_2 10) (σ_2 3) x2_3.toNat (0 : Int).toNat (24 : Int).toNat)) (fun σ_4 => jchk (0 ≤ x2_3 ∧ 0 ≤ (0 : Int) ∧ 0 ≤ (24 : Int) ∧ x2_3 + (24 : Int) ≤ 192 ∧ (0 : Int) + (24 : Int) ≤ 24) (jlet (upr σ_4 4 (va_cpy (σ_4 11) (σ_4 4) x2_3.toNat (0 : Int).toNat (24 : Int).toNat)) (fun σ_5 => jchk (0 ≤ x2_3 ∧ 0 ≤ (0 : Int) ∧ 0 ≤ (24 : Int) ∧ x2_3 + (24 : Int) ≤ 192 ∧ (0 : Int) + (24 : Int) ≤ 24) (jlet (upr σ_5 5 (va_cpy (σ_5 12) (σ_5 5) x2_3.toNat (0 : Int).toNat (24 : Int).toNat)) (fun σ_6 => jchk (0 ≤ x2_3 ∧ 0 ≤ (0 : Int) ∧ 0 ≤ (24 : Int) ∧ x2_3 + (24 : Int) ≤ 192 ∧ (0 : Int) + (24 : Int) ≤ 24) (jlet (upr σ_6 6 (va_cpy (σ_6 13) (σ_6 6) x2_3.toNat (0 : Int).toNat (24 : Int).toNat)) (fun σ_7 => jchk (0 ≤ σ_7 7 1 ∧ σ_7 7 1 < 8) (jchk (0 ≤ σ_7 7 1 ∧ σ_7 7 1 < 8) (jbind (f_X9_resize σ_7 (σ_7 8 (σ_7 7 1).toNat) (σ_7 9 (σ_7 7 1).toNat)) (fun σ_8 => some (1, σ_8))))))))))))))
def f_X5_takeBack_b0 (σ : St) : Option (Int × St) :=
  jchk (inI (σ 7 0)) (if σ 7 0 = 0 then some (0, σ) else jlet (up2 σ 7 0 (σ 7 0 - 1)) (fun σ_1 => jchk (inI (σ_1 7 1)) (if (0 : Int) < σ_1 7 1 then f_X5_takeBack_b38 σ_1 (σ_1 7 1 - 1) else f_X5_takeBack_b38 σ_1 7)))
def f_X5_takeBack (σ : St) : Option (Int × St) := jzw (f_X5_takeBack_b0 σ)
def f_X10_undo_b0 (σ : St) : Option (Int × St) :=
  jbind (f_X5_takeBack σ) (fun q => match q with | (r_1, σ_2) => jchk (inI r_1) (if r_1 = 0 then some ((-1), σ_2) else some (σ_2 7 0, σ_2)))
def f_X10_undo (σ : St) : Option (Int × St) := f_X10_undo_b0 σ
def f_X10_well_b0 (σ : St) (x1 x2 : Int) : Option Int :=
  jbind (f_X9_has σ x1) (fun r_1 => jchk (inI r_1) (if r_1 = 0 then some (-1) else jchk (inI x2) (if x2 = 0 then jchk (0 ≤ x1 ∧ x1 < 24) (some (σ 3 x1.toNat)) else if x2 = 1 then jchk (0 ≤ x1 ∧ x1 < 24) (some (σ 4 x1.toNat)) else if x2 = 2 then jchk (0 ≤ x1 ∧ x1 < 24) (some (σ 5 x1.toNat)) else if x2 = 3 then jbind (f_X9_isCounted σ x1) (fun r_2 => jchk (inI r_2) (if r_2 = 0 then some 0 else some 1)) else some (-1))))
def f_X10_well (σ : St) (x1 x2 : Int) : Option Int := f_X10_well_b0 σ x1 x2
def f_X11_isWell_b0 (σ : St) (x1 : Int) : Option Int :=
  jchk (inI x1) (if x1 < 0 then some 0 else jchk (inI x1 ∧ inI 24) (if x1 < 24 then jchk (0 ≤ x1 ∧ x1 < 24) (jchk (inI (σ 1 x1.toNat)) (if σ 1 x1.toNat = 0 then some 0 else some 1)) else some 0))
def f_X11_isWell (σ : St) (x1 : Int) : Option Int := jz (f_X11_isWell_b0 σ x1)
def f_X11_counts_b0 (σ : St) (x1 : Int) : Option Int :=
  jbind (f_X11_isWell σ x1) (fun r_1 => jchk (inI r_1) (if r_1 = 0 then some 0 else jchk (0 ≤ x1 ∧ x1 < 24) (jchk (inI (σ 4 x1.toNat) ∧ inI 3) (if σ 4 x1.toNat = 3 then some 0 else jchk (0 ≤ x1 ∧ x1 < 24) (jchk (inI (σ 4 x1.toNat) ∧ inI 4) (if σ 4 x1.toNat = 4 then jchk (0 ≤ x1 ∧ x1 < 24) (jchk (inI (jand (jshr (σ 5 x1.toNat) (σ 0 2)) 1) ∧ inI 1) (if (jand (jshr (σ 5 x1.toNat) (σ 0 2)) 1) = 1 then some 1 else some 0)) else some 1))))))
def f_X11_counts (σ : St) (x1 : Int) : Option Int := jz (f_X11_counts_b0 σ x1)
def f_X11_off_b0 (σ : St) (x1 : Int) : Option Int :=
  jchk (0 ≤ x1 ∧ x1 < 24) (jchk (inI (σ 4 x1.toNat) ∧ inI 1) (if σ 4 x1.toNat = 1 then jchk (0 ≤ x1 ∧ x1 < 24) (jchk (inI (σ 5 x1.toNat)) (some (σ 5 x1.toNat))) else some 0))
def f_X11_off (σ : St) (x1 : Int) : Option Int := f_X11_off_b0 σ x1
def f_X11_line_b0 (σ : St) (x1 x3 x5 : Int) : Option St :=
  jchk (0 ≤ σ 0 16 ∧ σ 0 16 < 28) (jlet (up2 σ 13 (σ 0 16).toNat x1) (fun σ_1 => jchk (0 ≤ σ_1 0 16 ∧ σ_1 0 16 < 28) (jlet (up2 σ_1 14 (σ_1 0 16).toNat x3) (fun σ_2 => jchk (0 ≤ σ_2 0 16 ∧ σ_2 0 16 < 28) (jlet (up2 σ_2 15 (σ_2 0 16).toNat x5) (fun σ_3 => jlet (up2 σ_3 0 16 (σ_3 0 16 + 1)) (fun σ_4 => some σ_4)))))))
def f_X11_line (σ : St) (x1 x3 x5 : Int) : Option St := f_X11_line_b0 σ x1 x3 x5
def f_X11_against_b0 (σ : St) (x1 x2 : Int) : Option St :=
  jchk (0 ≤ x2 ∧ x2 < 24) (jchk (inI (σ 2 x2.toNat)) (jlet (σ 2 x2.toNat) (fun x3_1 => jchk (0 ≤ x2 ∧ x2 < 24) (jchk (inI (σ 3 x2.toNat)) (jlet (σ 3 x2.toNat) (fun x5_2 => jchk (0 ≤ x1 ∧ x1 < 24) (jchk (inI (σ 2 x1.toNat)) (jlet (σ 2 x1.toNat) (fun x7_3 => jchk (0 ≤ x1 ∧ x1 < 24) (jchk (inI (σ 3 x1.toNat)) (jlet (σ 3 x1.toNat) (fun x9_4 => jbind (f_X11_off σ x2) (fun r_5 => jbind (f_X11_off σ x1) (fun r_6 => jbind (f_X11_line σ (2 * (x3_1 - x7_3)) (2 * (x5_2 - x9_4)) ((((((x3_1 * x3_1) + (x5_2 * x5_2)) - (x7_3 * x7_3)) - (x9_4 * x9_4)) - r_5) + r_6)) (fun σ_7 => some σ_7)))))))))))))))
def f_X11_against (σ : St) (x1 x2 : Int) : Option St := f_X11_against_b0 σ x1 x2
def f_X11_linesOf_b18 (σ : St) (x1 x2 x3 : Int) : Option ((St × Int) ⊕ St) :=
  jchk (inI x3 ∧ inI 24) (if x3 < 24 then jchk (inI x3 ∧ inI x1) (if x3 = x1 then jlet (x3 + 1) (fun x3_3 => some (.inl (σ, x3_3))) else jchk (inI x3 ∧ inI x2) (if x3 = x2 then jlet (x3 + 1) (fun x3_4 => some (.inl (σ, x3_4))) else jbind (f_X11_counts σ x3) (fun r_5 => jchk (inI r_5) (if r_5 = 0 then jlet (x3 + 1) (fun x3_6 => some (.inl (σ, x3_6))) else jbind (f_X11_against σ x1 x3) (fun σ_7 => jlet (x3 + 1) (fun x3_8 => some (.inl (σ_7, x3_8)))))))) else some (.inr (σ)))
def f_X11_linesOf_b0 (σ : St) (x1 x2 : Int) : Option St :=
  jlet (up2 σ 0 16 (0 : Int)) (fun σ_1 => jchk (inI x2 ∧ inI (-1)) (if x2 = (-1) then jlet (0 : Int) (fun x3_2 => jbind (jloop (fun (q : (St × Int)) => match q with | (σ, x3) => f_X11_linesOf_b18 σ x1 x2 x3) 1000 (σ_1, x3_2)) (fun σ_9 => jbind (f_X11_line σ_9 (-1) 0 0) (fun σ_10 => jchk (inI (σ_10 0 0)) (jbind (f_X11_line σ_10 1 0 (σ_10 0 0)) (fun σ_11 => jbind (f_X11_line σ_11 0 (-1) 0) (fun σ_12 => jchk (inI (σ_12 0 1)) (jbind (f_X11_line σ_12 0 1 (σ_12 0 1)) (fun σ_13 => some σ_13)))))))) else jbind (f_X11_against σ_1 x1 x2) (fun σ_14 => jlet (0 : Int) (fun x3_15 => jbind (jloop (fun (q : (St × Int)) => match q with | (σ, x3) => f_X11_linesOf_b18 σ x1 x2 x3) 1000 (σ_14, x3_15)) (fun σ_16 => jbind (f_X11_line σ_16 (-1) 0 0) (fun σ_17 => jchk (inI (σ_17 0 0)) (jbind (f_X11_line σ_17 1 0 (σ_17 0 0)) (fun σ_18 => jbind (f_X11_line σ_18 0 (-1) 0) (fun σ_19 => jchk (inI (σ_19 0 1)) (jbind (f_X11_line σ_19 0 1 (σ_19 0 1)) (fun σ_20 => some σ_20)))))))))))
def f_X11_linesOf (σ : St) (x1 x2 : Int) : Option St := f_X11_linesOf_b0 σ x1 x2
def f_X11_over_b0 (σ : St) (x1 x2 x4 x6 : Int) : Option Int :=
  jchk (0 ≤ x1 ∧ x1 < 28) (jchk (0 ≤ x1 ∧ x1 < 28) (jchk (0 ≤ x1 ∧ x1 < 28) (some (((σ 13 x1.toNat * x2) + (σ 14 x1.toNat * x4)) - (σ 15 x1.toNat * x6)))))
def f_X11_over (σ : St) (x1 x2 x4 x6 : Int) : Option Int := f_X11_over_b0 σ x1 x2 x4 x6
def f_X11_isSame_b0 (σ : St) (x1 x2 x4 x6 : Int) : Option Int :=
  jchk (0 ≤ x1 ∧ x1 < 400) (jchk (0 ≤ x1 ∧ x1 < 400) (jchk (inL (σ 16 x1.toNat * x6) ∧ inL (x2 * σ 18 x1.toNat)) (if (σ 16 x1.toNat * x6) = (x2 * σ 18 x1.toNat) then jchk (0 ≤ x1 ∧ x1 < 400) (jchk (0 ≤ x1 ∧ x1 < 400) (jchk (inL (σ 17 x1.toNat * x6) ∧ inL (x4 * σ 18 x1.toNat)) (if (σ 17 x1.toNat * x6) = (x4 * σ 18 x1.toNat) then some 1 else some 0))) else some 0)))
def f_X11_isSame (σ : St) (x1 x2 x4 x6 : Int) : Option Int := jz (f_X11_isSame_b0 σ x1 x2 x4 x6)
def f_X11_meets_b115 (σ : St) (x3 x5 x7 x9 : Int) : Option (Int ⊕ (Unit ⊕ Unit)) :=
  jchk (inI x9 ∧ inI (σ 0 16)) (if x9 < σ 0 16 then jbind (f_X11_over σ x9 x5 x7 x3) (fun r_5 => jchk (inL r_5 ∧ inL 0) (if (0 : Int) < r_5 then some (.inr (.inl ())) else jlet (x9 + 1) (fun x9_6 => some (.inl x9_6)))) else some (.inr (.inr (()))))
def f_X11_meets_b150 (σ : St) (x3 x5 x7 x9 : Int) : Option (Int ⊕ (Unit ⊕ Unit)) :=
  jchk (inI x9 ∧ inI (σ 0 20)) (if x9 < σ 0 20 then jbind (f_X11_isSame σ x9 x5 x7 x3) (fun r_8 => jchk (inI r_8) (if r_8 = 0 then jlet (x9 + 1) (fun x9_9 => some (.inl x9_9)) else some (.inr (.inl ())))) else some (.inr (.inr (()))))
def f_X11_meets_b0 (σ : St) (x1 x2 : Int) : Option St :=
  jchk (0 ≤ x1 ∧ x1 < 28) (jchk (0 ≤ x2 ∧ x2 < 28) (jchk (0 ≤ x2 ∧ x2 < 28) (jchk (0 ≤ x1 ∧ x1 < 28) (jlet ((σ 13 x1.toNat * σ 14 x2.toNat) - (σ 13 x2.toNat * σ 14 x1.toNat)) (fun x3_1 => jchk (inL x3_1 ∧ inL 0) (if x3_1 = 0 then some σ else jchk (0 ≤ x1 ∧ x1 < 28) (jchk (0 ≤ x2 ∧ x2 < 28) (jchk (0 ≤ x2 ∧ x2 < 28) (jchk (0 ≤ x1 ∧ x1 < 28) (jlet ((σ 15 x1.toNat * σ 14 x2.toNat) - (σ 15 x2.toNat * σ 14 x1.toNat)) (fun x5_2 => jchk (0 ≤ x1 ∧ x1 < 28) (jchk (0 ≤ x2 ∧ x2 < 28) (jchk (0 ≤ x2 ∧ x2 < 28) (jchk (0 ≤ x1 ∧ x1 < 28) (jlet ((σ 13 x1.toNat * σ 15 x2.toNat) - (σ 13 x2.toNat * σ 15 x1.toNat)) (fun x7_3 => jchk (inL x3_1 ∧ inL 0) (if x3_1 < 0 then jlet (-x3_1) (fun x3_14 => jlet (-x5_2) (fun x5_15 => jlet (-x7_3) (fun x7_16 => jlet (0 : Int) (fun x9_17 => jbind (jloop (fun (x9 : Int) => f_X11_meets_b115 σ x3_14 x5_15 x7_16 x9) 1000 x9_17) (fun q => match q with | .inl () => some σ | .inr (()) => jlet (0 : Int) (fun x9_18 => jbind (jloop (fun (x9 : Int) => f_X11_meets_b150 σ x3_14 x5_15 x7_16 x9) 1000 x9_18) (fun q => match q with | .inl () => some σ | .inr (()) => jchk (0 ≤ σ 0 20 ∧ σ 0 20 < 400) (jlet (up2 σ 16 (σ 0 20).toNat x5_15) (fun σ_19 => jchk (0 ≤ σ_19 0 20 ∧ σ_19 0 20 < 400) (jlet (up2 σ_19 17 (σ_19 0 20).toNat x7_16) (fun σ_20 => jchk (0 ≤ σ_20 0 20 ∧ σ_20 0 20 < 400) (jlet (up2 σ_20 18 (σ_20 0 20).toNat x3_14) (fun σ_21 => jlet (up2 σ_21 0 20 (σ_21 0 20 + 1)) (fun σ_22 => some σ_22)))))))))))))) else jlet (0 : Int) (fun x9_4 => jbind (jloop (fun (x9 : Int) => f_X11_meets_b115 σ x3_1 x5_2 x7_3 x9) 1000 x9_4) (fun q => match q with | .inl () => some σ | .inr (()) => jlet (0 : Int) (fun x9_7 => jbind (jloop (fun (x9 : Int) => f_X11_meets_b150 σ x3_1 x5_2 x7_3 x9) 1000 x9_7) (fun q => match q with | .inl () => some σ | .inr (()) => jchk (0 ≤ σ 0 20 ∧ σ 0 20 < 400) (jlet (up2 σ 16 (σ 0 20).toNat x5_2) (fun σ_10 => jchk (0 ≤ σ_10 0 20 ∧ σ_10 0 20 < 400) (jlet (up2 σ_10 17 (σ_10 0 20).toNat x7_3) (fun σ_11 => jchk (0 ≤ σ_11 0 20 ∧ σ_11 0 20 < 400) (jlet (up2 σ_11 18 (σ_11 0 20).toNat x3_1) (fun σ_12 => jlet (up2 σ_12 0 20 (σ_12 0 20 + 1)) (fun σ_13 => some σ_13))))))))))))))))))))))))))))
def f_X11_meets (σ : St) (x1 x2 : Int) : Option St := f_X11_meets_b0 σ x1 x2
def f_X11_order_b0 (x0 x2 x4 x6 : Int) : Option Int :=
  jlet ((x0 * x6) - (x4 * x2)) (fun x8_1 => jchk (inL x8_1 ∧ inL 0) (if (0 : Int) < x8_1 then some 1 else jchk (inL x8_1 ∧ inL 0) (if x8_1 < 0 then some (-1) else some 0)))
def f_X11_order (x0 x2 x4 x6 : Int) : Option Int := f_X11_order_b0 x0 x2 x4 x6
def f_X11_orderX_b0 (σ : St) (x1 x2 : Int) : Option Int :=
  jchk (0 ≤ x1 ∧ x1 < 400) (jchk (0 ≤ x1 ∧ x1 < 400) (jchk (0 ≤ x2 ∧ x2 < 400) (jchk (0 ≤ x2 ∧ x2 < 400) (jbind (f_X11_order (σ 16 x1.toNat) (σ 18 x1.toNat) (σ 16 x2.toNat) (σ 18 x2.toNat)) (fun r_1 => some r_1)))))
def f_X11_orderX (σ : St) (x1 x2 : Int) : Option Int := f_X11_orderX_b0 σ x1 x2
def f_X11_orderY_b0 (σ : St) (x1 x2 : Int) : Option Int :=
  jchk (0 ≤ x1 ∧ x1 < 400) (jchk (0 ≤ x1 ∧ x1 < 400) (jchk (0 ≤ x2 ∧ x2 < 400) (jchk (0 ≤ x2 ∧ x2 < 400) (jbind (f_X11_order (σ 17 x1.toNat) (σ 18 x1.toNat) (σ 17 x2.toNat) (σ 18 x2.toNat)) (fun r_1 => some r_1)))))
def f_X11_orderY (σ : St) (x1 x2 : Int) : Option Int := f_X11_orderY_b0 σ x1 x2
def f_X11_isAhead_b0 (σ : St) (x1 x2 : Int) : Option Int :=
  jbind (f_X11_orderX σ x1 x2) (fun r_1 => jlet r_1 (fun x3_2 => jchk (inI x3_2) (if x3_2 < 0 then some 1 else jchk (inI x3_2) (if x3_2 = 0 then jbind (f_X11_orderY σ x1 x2) (fun r_3 => jchk (inI r_3) (if r_3 < 0 then some 1 else some 0)) else some 0))))
def f_X11_isAhead (σ : St) (x1 x2 : Int) : Option Int := jz (f_X11_isAhead_b0 σ x1 x2)
def f_X11_borderOf_b31 (σ : St) (x3 : Int) : Option ((St × Int) ⊕ St) :=
  jchk (inI x3 ∧ inI (σ 0 16)) (if x3 < σ 0 16 then jbind (f_X11_meets σ 0 x3) (fun σ_6 => jlet (x3 + 1) (fun x3_7 => some (.inl (σ_6, x3_7)))) else some (.inr (σ)))
def f_X11_borderOf_b116 (σ : St) (x3 : Int) : Option ((St × Int) ⊕ St) :=
  jlet (up2 σ 0 28 x3) (fun σ_13 => jlet (x3 + 1) (fun x3_14 => some (.inl (σ_13, x3_14))))
def f_X11_borderOf_b96 (σ : St) (x3 : Int) : Option ((St × Int) ⊕ St) :=
  jchk (inI (σ 0 28) ∧ inI (-1)) (if σ 0 28 = (-1) then f_X11_borderOf_b116 σ x3 else jbind (f_X11_isAhead σ (σ 0 28) x3) (fun r_15 => jchk (inI r_15) (if r_15 = 0 then jlet (x3 + 1) (fun x3_16 => some (.inl (σ, x3_16))) else f_X11_borderOf_b116 σ x3)))
def f_X11_borderOf_b91 (σ : St) (x3 : Int) : Option ((St × Int) ⊕ St) :=
  jlet (up2 σ 0 27 x3) (fun σ_12 => f_X11_borderOf_b96 σ_12 x3)
def f_X11_borderOf_b63 (σ : St) (x3 : Int) : Option ((St × Int) ⊕ St) :=
  jchk (inI x3 ∧ inI (σ 0 20)) (if x3 < σ 0 20 then jchk (inI (σ 0 27) ∧ inI (-1)) (if σ 0 27 = (-1) then f_X11_borderOf_b91 σ x3 else jbind (f_X11_isAhead σ x3 (σ 0 27)) (fun r_17 => jchk (inI r_17) (if r_17 = 0 then f_X11_borderOf_b96 σ x3 else f_X11_borderOf_b91 σ x3))) else some (.inr (σ)))
def f_X11_borderOf_b0 (σ : St) (x1 x2 : Int) : Option (Int × St) :=
  jbind (f_X11_counts σ x1) (fun r_1 => jchk (inI r_1) (if r_1 = 0 then some (0, σ) else jbind (f_X11_counts σ x2) (fun r_2 => jchk (inI r_2) (if r_2 = 0 then some (0, σ) else jbind (f_X11_linesOf σ x1 x2) (fun σ_3 => jlet (up2 σ_3 0 20 (0 : Int)) (fun σ_4 => jlet (1 : Int) (fun x3_5 => jbind (jloop (fun (q : (St × Int)) => match q with | (σ, x3) => f_X11_borderOf_b31 σ x3) 1000 (σ_4, x3_5)) (fun σ_8 => jlet (up2 σ_8 0 27 ((-1) : Int)) (fun σ_9 => jlet (up2 σ_9 0 28 ((-1) : Int)) (fun σ_10 => jlet (0 : Int) (fun x3_11 => jbind (jloop (fun (q : (St × Int)) => match q with | (σ, x3) => f_X11_borderOf_b63 σ x3) 1000 (σ_10, x3_11)) (fun σ_18 => jchk (inI (σ_18 0 27) ∧ inI (-1)) (if σ_18 0 27 = (-1) then some (0, σ_18) else jchk (inI (σ_18 0 27) ∧ inI (σ_18 0 28)) (if σ_18 0 27 = σ_18 0 28 then some (1, σ_18) else some (2, σ_18)))))))))))))))
def f_X11_borderOf (σ : St) (x1 x2 : Int) : Option (Int × St) := f_X11_borderOf_b0 σ x1 x2
def f_X11_about_b14 (σ : St) (x1 x2 x3 : Int) : Option ((St × Int × Int) ⊕ (St × Int)) :=
  jchk (inI x3 ∧ inI 24) (if x3 < 24 then jchk (inI x3 ∧ inI x1) (if x3 = x1 then jlet (x3 + 1) (fun x3_4 => some (.inl (σ, x2, x3_4))) else jbind (f_X11_borderOf σ x1 x3) (fun q => match q with | (r_5, σ_6) => jchk (inI r_5 ∧ inI 2) (if r_5 = 2 then jlet (jor x2 (jshl 1 x3)) (fun x2_8 => jlet (x3 + 1) (fun x3_9 => some (.inl (σ_6, x2_8, x3_9)))) else jlet (x3 + 1) (fun x3_7 => some (.inl (σ_6, x2, x3_7)))))) else some (.inr ((σ, x2))))
def f_X11_about_b0 (σ : St) (x1 : Int) : Option (Int × St) :=
  jbind (f_X11_isWell σ x1) (fun r_1 => jchk (inI r_1) (if r_1 = 0 then some ((-1), σ) else jlet (0 : Int) (fun x2_2 => jlet (0 : Int) (fun x3_3 => jbind (jloop (fun (q : (St × Int × Int)) => match q with | (σ, x2, x3) => f_X11_about_b14 σ x1 x2 x3) 1000 (σ, x2_2, x3_3)) (fun q => match q with | (σ_10, x2_11) => some (x2_11, σ_10))))))
def f_X11_about (σ : St) (x1 : Int) : Option (Int × St) := f_X11_about_b0 σ x1
def f_X11_along_b53 (σ : St) (x2 x3 t0 : Int) : Option Int :=
  jbind (f_X11_orderY σ x2 x3) (fun r_1 => some (t0 * r_1))
def f_X11_along_b27 (σ : St) (x2 x3 t0 : Int) : Option Int :=
  jbind (f_X11_orderX σ x2 x3) (fun r_2 => some (t0 * r_2))
def f_X11_along_b0 (σ : St) (x1 x2 x3 : Int) : Option Int :=
  jchk (0 ≤ x1 ∧ x1 < 28) (jchk (inL (σ 14 x1.toNat) ∧ inL 0) (if σ 14 x1.toNat = 0 then jchk (0 ≤ x1 ∧ x1 < 28) (jchk (inL (σ 13 x1.toNat) ∧ inL 0) (if (0 : Int) < σ 13 x1.toNat then f_X11_along_b53 σ x2 x3 1 else f_X11_along_b53 σ x2 x3 (-1))) else jchk (0 ≤ x1 ∧ x1 < 28) (jchk (inL (σ 14 x1.toNat) ∧ inL 0) (if σ 14 x1.toNat < 0 then f_X11_along_b27 σ x2 x3 1 else f_X11_along_b27 σ x2 x3 (-1)))))
def f_X11_along (σ : St) (x1 x2 x3 : Int) : Option Int := f_X11_along_b0 σ x1 x2 x3
def f_X11_square_b0 (x0 x2 : Int) : Option Int :=
  some ((x0 * x0) + (x2 * x2))
def f_X11_square (x0 x2 : Int) : Option Int := f_X11_square_b0 x0 x2
def f_X11_apart_b0 (σ : St) (x1 x2 : Int) : Option Int :=
  jchk (0 ≤ x1 ∧ x1 < 24) (jchk (0 ≤ x2 ∧ x2 < 24) (jchk (inI (σ 2 x1.toNat - σ 2 x2.toNat)) (jchk (0 ≤ x1 ∧ x1 < 24) (jchk (0 ≤ x2 ∧ x2 < 24) (jchk (inI (σ 3 x1.toNat - σ 3 x2.toNat)) (jbind (f_X11_square (σ 2 x1.toNat - σ 2 x2.toNat) (σ 3 x1.toNat - σ 3 x2.toNat)) (fun r_1 => some r_1)))))))
def f_X11_apart (σ : St) (x1 x2 : Int) : Option Int := f_X11_apart_b0 σ x1 x2
def f_X11_areTwo_b0 (σ : St) (x1 x2 : Int) : Option Int :=
  jbind (f_X11_isWell σ x1) (fun r_1 => jchk (inI r_1) (if r_1 = 0 then some 0 else jbind (f_X11_isWell σ x2) (fun r_2 => jchk (inI r_2) (if r_2 = 0 then some 0 else jchk (inI x1 ∧ inI x2) (if x1 = x2 then some 0 else some 1)))))
def f_X11_areTwo (σ : St) (x1 x2 : Int) : Option Int := jz (f_X11_areTwo_b0 σ x1 x2)
def f_X11_cross_b0 (σ : St) (x1 x2 x3 : Int) : Option Int :=
  jchk (0 ≤ x2 ∧ x2 < 24) (jchk (0 ≤ x1 ∧ x1 < 24) (jchk (inI (σ 2 x2.toNat - σ 2 x1.toNat)) (jchk (0 ≤ x3 ∧ x3 < 24) (jchk (0 ≤ x1 ∧ x1 < 24) (jchk (inI (σ 3 x3.toNat - σ 3 x1.toNat)) (jchk (0 ≤ x2 ∧ x2 < 24) (jchk (0 ≤ x1 ∧ x1 < 24) (jchk (inI (σ 3 x2.toNat - σ 3 x1.toNat)) (jchk (0 ≤ x3 ∧ x3 < 24) (jchk (0 ≤ x1 ∧ x1 < 24) (jchk (inI (σ 2 x3.toNat - σ 2 x1.toNat)) (some (((σ 2 x2.toNat - σ 2 x1.toNat) * (σ 3 x3.toNat - σ 3 x1.toNat)) - ((σ 3 x2.toNat - σ 3 x1.toNat) * (σ 2 x3.toNat - σ 2 x1.toNat)))))))))))))))
def f_X11_cross (σ : St) (x1 x2 x3 : Int) : Option Int := f_X11_cross_b0 σ x1 x2 x3
def f_X11_hull_b9 (σ : St) (x1 x2 : Int) : Option ((Int × Int) ⊕ Int) :=
  jchk (inI x2 ∧ inI 24) (if x2 < 24 then jbind (f_X11_counts σ x2) (fun r_4 => jchk (inI r_4) (if r_4 = 0 then jlet (x2 + 1) (fun x2_13 => some (.inl (x1, x2_13))) else jchk (inI x1 ∧ inI (-1)) (if x1 = (-1) then jlet x2 (fun x1_5 => jlet (x2 + 1) (fun x2_6 => some (.inl (x1_5, x2_6)))) else jchk (0 ≤ x2 ∧ x2 < 24) (jchk (0 ≤ x1 ∧ x1 < 24) (jchk (inI (σ 2 x2.toNat) ∧ inI (σ 2 x1.toNat)) (if σ 2 x2.toNat < σ 2 x1.toNat then jlet x2 (fun x1_7 => jlet (x2 + 1) (fun x2_8 => some (.inl (x1_7, x2_8)))) else jchk (0 ≤ x2 ∧ x2 < 24) (jchk (0 ≤ x1 ∧ x1 < 24) (jchk (inI (σ 2 x2.toNat) ∧ inI (σ 2 x1.toNat)) (if σ 2 x2.toNat = σ 2 x1.toNat then jchk (0 ≤ x2 ∧ x2 < 24) (jchk (0 ≤ x1 ∧ x1 < 24) (jchk (inI (σ 3 x2.toNat) ∧ inI (σ 3 x1.toNat)) (if σ 3 x2.toNat < σ 3 x1.toNat then jlet x2 (fun x1_11 => jlet (x2 + 1) (fun x2_12 => some (.inl (x1_11, x2_12)))) else jlet (x2 + 1) (fun x2_10 => some (.inl (x1, x2_10)))))) else jlet (x2 + 1) (fun x2_9 => some (.inl (x1, x2_9)))))))))))) else some (.inr (x1)))
def f_X11_hull_b172 (σ : St) (x1 x2 x3 x4 t0 : Int) : Option ((Int × Int) ⊕ Int) :=
  jlet t0 (fun x5_23 => jchk (inL x5_23 ∧ inL 0) (if x5_23 < 0 then jlet x4 (fun x3_24 => jlet (x4 + 1) (fun x4_25 => some (.inl (x3_24, x4_25)))) else jchk (inL x5_23 ∧ inL 0) (if x5_23 = 0 then jbind (f_X11_apart σ x2 x4) (fun r_27 => jbind (f_X11_apart σ x2 x3) (fun r_28 => jchk (inL r_27 ∧ inL r_28) (if r_28 < r_27 then jlet x4 (fun x3_30 => jlet (x4 + 1) (fun x4_31 => some (.inl (x3_30, x4_31)))) else jlet (x4 + 1) (fun x4_29 => some (.inl (x3, x4_29)))))) else jlet (x4 + 1) (fun x4_26 => some (.inl (x3, x4_26))))))
def f_X11_hull_b128 (σ : St) (x1 x2 x3 x4 : Int) : Option ((Int × Int) ⊕ Int) :=
  jchk (inI x4 ∧ inI 24) (if x4 < 24 then jchk (inI x4 ∧ inI x2) (if x4 = x2 then jlet (x4 + 1) (fun x4_20 => some (.inl (x3, x4_20))) else jbind (f_X11_counts σ x4) (fun r_21 => jchk (inI r_21) (if r_21 = 0 then jlet (x4 + 1) (fun x4_32 => some (.inl (x3, x4_32))) else jchk (inI x3 ∧ inI (-1)) (if x3 = (-1) then f_X11_hull_b172 σ x1 x2 x3 x4 (-1) else jbind (f_X11_cross σ x2 x3 x4) (fun r_22 => f_X11_hull_b172 σ x1 x2 x3 x4 r_22))))) else some (.inr (x3)))
def f_X11_hull_b103 (σ : St) (x1 x2 : Int) : Option ((St × Int) ⊕ St) :=
  jchk (0 ≤ σ 0 49 ∧ σ 0 49 < 24) (jlet (up2 σ 28 (σ 0 49).toNat x2) (fun σ_16 => jlet (up2 σ_16 0 49 (σ_16 0 49 + 1)) (fun σ_17 => jlet ((-1) : Int) (fun x3_18 => jlet (0 : Int) (fun x4_19 => jbind (jloop (fun (q : (Int × Int)) => match q with | (x3, x4) => f_X11_hull_b128 σ_17 x1 x2 x3 x4) 1000 (x3_18, x4_19)) (fun x3_33 => jlet x3_33 (fun x2_34 => some (.inl (σ_17, x2_34)))))))))
def f_X11_hull_b86 (σ : St) (x1 x2 : Int) : Option ((St × Int) ⊕ St) :=
  jchk (inI x2 ∧ inI (-1)) (if x2 = (-1) then some (.inr (σ)) else jchk (inI (σ 0 49)) (if σ 0 49 = 0 then f_X11_hull_b103 σ x1 x2 else jchk (inI x2 ∧ inI x1) (if x2 = x1 then some (.inr (σ)) else f_X11_hull_b103 σ x1 x2)))
def f_X11_hull_b0 (σ : St) : Option (Int × St) :=
  jlet (up2 σ 0 49 (0 : Int)) (fun σ_1 => jlet ((-1) : Int) (fun x1_2 => jlet (0 : Int) (fun x2_3 => jbind (jloop (fun (q : (Int × Int)) => match q with | (x1, x2) => f_X11_hull_b9 σ_1 x1 x2) 1000 (x1_2, x2_3)) (fun x1_14 => jlet x1_14 (fun x2_15 => jbind (jloop (fun (q : (St × Int)) => match q with | (σ, x2) => f_X11_hull_b86 σ x1_14 x2) 1000 (σ_1, x2_15)) (fun σ_35 => some (σ_35 0 49, σ_35)))))))
def f_X11_hull (σ : St) : Option (Int × St) := f_X11_hull_b0 σ
def f_X11_around_b0 (σ : St) (x1 : Int) : Option (Int × St) :=
  jchk (inI x1) (if x1 < 0 then some ((-1), σ) else jbind (f_X11_hull σ) (fun q => match q with | (r_1, σ_2) => jchk (inI x1 ∧ inI r_1) (if x1 < r_1 then jchk (0 ≤ x1 ∧ x1 < 24) (some (σ_2 28 x1.toNat, σ_2)) else some ((-1), σ_2))))
def f_X11_around (σ : St) (x1 : Int) : Option (Int × St) := f_X11_around_b0 σ x1
def f_X11_ask_b0 (σ : St) (x1 x2 : Int) : Option Int :=
  jbind (f_X11_isWell σ x1) (fun r_1 => jchk (inI r_1) (if r_1 = 0 then some (-1) else jchk (0 ≤ x1 ∧ x1 < 24) (jlet (σ 4 x1.toNat) (fun x3_2 => jchk (inI x2) (if x2 = 0 then jchk (inI x3_2 ∧ inI 1) (if x3_2 = 1 then jchk (0 ≤ x1 ∧ x1 < 24) (some (σ 5 x1.toNat)) else some (-2)) else if x2 = 1 then jchk (inI x3_2 ∧ inI 2) (if x3_2 = 2 then jchk (0 ≤ x1 ∧ x1 < 24) (some (σ 5 x1.toNat)) else jchk (inI x3_2 ∧ inI 2) (if (2 : Int) < x3_2 then some 0 else some (-2))) else if x2 = 2 then jchk (inI x3_2 ∧ inI 2) (if (2 : Int) < x3_2 then some 0 else some (-2)) else if x2 = 3 then jchk (inI x3_2 ∧ inI 4) (if x3_2 = 4 then jchk (0 ≤ x1 ∧ x1 < 24) (some (σ 5 x1.toNat)) else some (-2)) else some (-1))))))
def f_X11_ask (σ : St) (x1 x2 : Int) : Option Int := f_X11_ask_b0 σ x1 x2
def f_X11_mayBe_b0 (x0 x1 : Int) : Option Int :=
  jchk (inI x0) (if x0 = 0 then jchk (inI x1) (if x1 = 0 then some 1 else some 0) else if x0 = 1 then jchk (inI x1) (if x1 < 0 then some 0 else jchk (inI x1 ∧ inI 1000000) (if (1000000 : Int) < x1 then some 0 else some 1)) else if x0 = 2 then jchk (inI x1) (if x1 < 0 then some 0 else jchk (inI x1 ∧ inI 999999) (if (999999 : Int) < x1 then some 0 else some 1)) else if x0 = 3 then jchk (inI x1) (if x1 = 0 then some 1 else some 0) else if x0 = 4 then jchk (inI x1 ∧ inI 1) (if x1 < 1 then some 0 else jchk (inI x1 ∧ inI 15) (if (15 : Int) < x1 then some 0 else some 1)) else some 0)
def f_X11_mayBe (x0 x1 : Int) : Option Int := jz (f_X11_mayBe_b0 x0 x1)
def f_X11_keeps_b149 (σ : St) (x1 : Int) : Option ((St × Int) ⊕ St) :=
  jchk (inI x1 ∧ inI 24) (if x1 < 24 then jlet ((24 * σ 0 8) + x1) (fun x2_2 => jchk (0 ≤ x1 ∧ x1 < 24) (jchk ((0 ≤ x2_2 ∧ x2_2 < 192) ∧ (σ 1 x1.toNat = 0 ∨ σ 1 x1.toNat = 1)) (jlet (up2 σ 6 x2_2.toNat (σ 1 x1.toNat)) (fun σ_3 => jchk (0 ≤ x1 ∧ x1 < 24) (jchk (0 ≤ x2_2 ∧ x2_2 < 192) (jlet (up2 σ_3 7 x2_2.toNat (σ_3 2 x1.toNat)) (fun σ_4 => jchk (0 ≤ x1 ∧ x1 < 24) (jchk (0 ≤ x2_2 ∧ x2_2 < 192) (jlet (up2 σ_4 8 x2_2.toNat (σ_4 3 x1.toNat)) (fun σ_5 => jchk (0 ≤ x1 ∧ x1 < 24) (jchk (0 ≤ x2_2 ∧ x2_2 < 192) (jlet (up2 σ_5 9 x2_2.toNat (σ_5 4 x1.toNat)) (fun σ_6 => jchk (0 ≤ x1 ∧ x1 < 24) (jchk (0 ≤ x2_2 ∧ x2_2 < 192) (jlet (up2 σ_6 10 x2_2.toNat (σ_6 5 x1.toNat)) (fun σ_7 => jlet (x1 + 1) (fun x1_8 => some (.inl (σ_7, x1_8))))))))))))))))))) else some (.inr (σ)))
def f_X11_keeps_b11 (σ : St) (x1 : Int) : Option ((St × Int) ⊕ St) :=
  jchk (inI x1 ∧ inI 168) (if x1 < 168 then jchk (0 ≤ (x1 + 24) ∧ (x1 + 24) < 192) (jchk ((0 ≤ x1 ∧ x1 < 192) ∧ (σ 6 (x1 + 24).toNat = 0 ∨ σ 6 (x1 + 24).toNat = 1)) (jlet (up2 σ 6 x1.toNat (σ 6 (x1 + 24).toNat)) (fun σ_14 => jchk (0 ≤ (x1 + 24) ∧ (x1 + 24) < 192) (jchk (0 ≤ x1 ∧ x1 < 192) (jlet (up2 σ_14 7 x1.toNat (σ_14 7 (x1 + 24).toNat)) (fun σ_15 => jchk (0 ≤ (x1 + 24) ∧ (x1 + 24) < 192) (jchk (0 ≤ x1 ∧ x1 < 192) (jlet (up2 σ_15 8 x1.toNat (σ_15 8 (x1 + 24).toNat)) (fun σ_16 => jchk (0 ≤ (x1 + 24) ∧ (x1 + 24) < 192) (jchk (0 ≤ x1 ∧ x1 < 192) (jlet (up2 σ_16 9 x1.toNat (σ_16 9 (x1 + 24).toNat)) (fun σ_17 => jchk (0 ≤ (x1 + 24) ∧ (x1 + 24) < 192) (jchk (0 ≤ x1 ∧ x1 < 192) (jlet (up2 σ_17 10 x1.toNat (σ_17 10 (x1 + 24).toNat)) (fun σ_18 => jlet (x1 + 1) (fun x1_19 => some (.inl (σ_18, x1_19)))))))))))))))))) else some (.inr (σ)))
def f_X11_keeps_b101 (σ : St) (x1 : Int) : Option ((St × Int) ⊕ St) :=
  jchk (inI x1 ∧ inI 7) (if x1 < 7 then jchk (0 ≤ (x1 + 1) ∧ (x1 + 1) < 8) (jchk (0 ≤ x1 ∧ x1 < 8) (jlet (up2 σ 11 x1.toNat (σ 11 (x1 + 1).toNat)) (fun σ_22 => jchk (0 ≤ (x1 + 1) ∧ (x1 + 1) < 8) (jchk (0 ≤ x1 ∧ x1 < 8) (jlet (up2 σ_22 12 x1.toNat (σ_22 12 (x1 + 1).toNat)) (fun σ_23 => jlet (x1 + 1) (fun x1_24 => some (.inl (σ_23, x1_24))))))))) else some (.inr (σ)))
def f_X11_keeps_b0 (σ : St) : Option St :=
  jchk (inI (σ 0 8) ∧ inI 8) (if σ 0 8 = 8 then jlet (0 : Int) (fun x1_13 => jbind (jloop (fun (q : (St × Int)) => match q with | (σ, x1) => f_X11_keeps_b11 σ x1) 1000 (σ, x1_13)) (fun σ_20 => jlet (0 : Int) (fun x1_21 => jbind (jloop (fun (q : (St × Int)) => match q with | (σ, x1) => f_X11_keeps_b101 σ x1) 1000 (σ_20, x1_21)) (fun σ_25 => jlet (up2 σ_25 0 8 (7 : Int)) (fun σ_26 => jlet (0 : Int) (fun x1_27 => jbind (jloop (fun (q : (St × Int)) => match q with | (σ, x1) => f_X11_keeps_b149 σ x1) 1000 (σ_26, x1_27)) (fun σ_28 => jchk (0 ≤ σ_28 0 8 ∧ σ_28 0 8 < 8) (jlet (up2 σ_28 11 (σ_28 0 8).toNat (σ_28 0 0)) (fun σ_29 => jchk (0 ≤ σ_29 0 8 ∧ σ_29 0 8 < 8) (jlet (up2 σ_29 12 (σ_29 0 8).toNat (σ_29 0 1)) (fun σ_30 => jlet (up2 σ_30 0 8 (σ_30 0 8 + 1)) (fun σ_31 => some σ_31)))))))))))) else jlet (0 : Int) (fun x1_1 => jbind (jloop (fun (q : (St × Int)) => match q with | (σ, x1) => f_X11_keeps_b149 σ x1) 1000 (σ, x1_1)) (fun σ_9 => jchk (0 ≤ σ_9 0 8 ∧ σ_9 0 8 < 8) (jlet (up2 σ_9 11 (σ_9 0 8).toNat (σ_9 0 0)) (fun σ_10 => jchk (0 ≤ σ_10 0 8 ∧ σ_10 0 8 < 8) (jlet (up2 σ_10 12 (σ_10 0 8).toNat (σ_10 0 1)) (fun σ_11 => jlet (up2 σ_11 0 8 (σ_11 0 8 + 1)) (fun σ_12 => some σ_12))))))))
def f_X11_keeps (σ : St) : Option St := f_X11_keeps_b0 σ
def f_X11_become_b0 (σ : St) (x1 x2 x3 : Int) : Option (Int × St) :=
  jbind (f_X11_isWell σ x1) (fun r_1 => jchk (inI r_1) (if r_1 = 0 then some ((-1), σ) else jbind (f_X11_mayBe x2 x3) (fun r_2 => jchk (inI r_2) (if r_2 = 0 then some ((-1), σ) else jbind (f_X11_keeps σ) (fun σ_3 => jchk (0 ≤ x1 ∧ x1 < 24) (jlet (σ_3 4 x1.toNat) (fun x4_4 => jchk (0 ≤ x1 ∧ x1 < 24) (jlet (up2 σ_3 4 x1.toNat x2) (fun σ_5 => jchk (0 ≤ x1 ∧ x1 < 24) (jlet (up2 σ_5 5 x1.toNat x3) (fun σ_6 => some (x4_4, σ_6))))))))))))
def f_X11_become (σ : St) (x1 x2 x3 : Int) : Option (Int × St) := f_X11_become_b0 σ x1 x2 x3
def f_X11_beside_b0 (σ : St) (x1 x2 : Int) : Option (Int × St) :=
  jbind (f_X11_areTwo σ x1 x2) (fun r_1 => jchk (inI r_1) (if r_1 = 0 then some ((-1), σ) else jbind (f_X11_borderOf σ x1 x2) (fun q => match q with | (r_2, σ_3) => jchk (inI r_2 ∧ inI 2) (if r_2 = 2 then some (1, σ_3) else some (0, σ_3)))))
def f_X11_beside (σ : St) (x1 x2 : Int) : Option (Int × St) := f_X11_beside_b0 σ x1 x2
def f_X11_fractions_b17 (x8 x10 x12 x14 x16 : Int) : Option ((Int × Int × Int × Int × Int) ⊕ ((Int × Int × Int) ⊕ (Int × Int × Int))) :=
  jchk (inL x10 ∧ x10 ≠ 0) (jlet (jldiv x8 x10) (fun x17_6 => jchk (inL x14 ∧ x14 ≠ 0) (jlet (jldiv x12 x14) (fun x19_7 => jchk (inL x17_6 ∧ inL x19_7) (if x17_6 = x19_7 then jlet (x8 - (x17_6 * x10)) (fun x8_8 => jlet (x12 - (x19_7 * x14)) (fun x12_9 => jchk (inL x8_8 ∧ inL 0) (if x8_8 = 0 then some (.inr (.inr ((x8_8, x12_9, x16)))) else jchk (inL x12_9 ∧ inL 0) (if x12_9 = 0 then some (.inr (.inr ((x8_8, x12_9, x16)))) else jlet x8_8 (fun x21_10 => jlet x10 (fun x8_11 => jlet x21_10 (fun x10_12 => jlet x12_9 (fun x21_13 => jlet x14 (fun x12_14 => jlet x21_13 (fun x14_15 => jlet (-x16) (fun x16_16 => some (.inl (x8_11, x10_12, x12_14, x14_15, x16_16))))))))))))) else some (.inr (.inl (x16, x17_6, x19_7))))))))
def f_X11_fractions_b0 (x0 x2 x4 x6 : Int) : Option Int :=
  jlet x0 (fun x8_1 => jlet x2 (fun x10_2 => jlet x4 (fun x12_3 => jlet x6 (fun x14_4 => jlet (1 : Int) (fun x16_5 => jbind (jloop (fun (q : (Int × Int × Int × Int × Int)) => match q with | (x8, x10, x12, x14, x16) => f_X11_fractions_b17 x8 x10 x12 x14 x16) 1000 (x8_1, x10_2, x12_3, x14_4, x16_5)) (fun q => match q with | .inl (x16_17, x17_18, x19_19) => jchk (inL x17_18 ∧ inL x19_19) (if x19_19 < x17_18 then some x16_17 else some (-x16_17)) | .inr ((x8_20, x12_21, x16_22)) => jchk (inL x8_20 ∧ inL x12_21) (if x8_20 = x12_21 then some 0 else jchk (inL x8_20 ∧ inL 0) (if x8_20 = 0 then some (-x16_22) else some x16_22))))))))
def f_X11_fractions (x0 x2 x4 x6 : Int) : Option Int := f_X11_fractions_b0 x0 x2 x4 x6
def f_X11_better_b89 (σ : St) (x1 : Int) : Option St :=
  jchk (inI x1) (if (0 : Int) < x1 then jchk ((1 : Int) = 0 ∨ (1 : Int) = 1) (jlet (up2 σ 0 39 (1 : Int)) (fun σ_3 => jlet (up2 σ_3 0 40 (σ_3 0 34)) (fun σ_4 => jlet (up2 σ_4 0 41 (σ_4 0 35)) (fun σ_5 => jlet (up2 σ_5 0 42 (σ_5 0 36)) (fun σ_6 => jlet (up2 σ_6 0 43 (σ_6 0 37)) (fun σ_7 => jlet (up2 σ_7 0 44 (σ_7 0 38)) (fun σ_8 => some σ_8))))))) else some σ)
def f_X11_better_b65 (σ : St) (x1 : Int) : Option St :=
  jchk (inI x1) (if x1 = 0 then jbind (f_X11_order (σ 0 41) (σ 0 42) (σ 0 35) (σ 0 36)) (fun r_9 => jlet r_9 (fun x1_10 => f_X11_better_b89 σ x1_10)) else f_X11_better_b89 σ x1)
def f_X11_better_b30 (σ : St) (t0 : Int) : Option St :=
  jlet t0 (fun x1_1 => jchk (inI x1_1) (if x1_1 = 0 then jbind (f_X11_order (σ 0 40) (σ 0 42) (σ 0 34) (σ 0 36)) (fun r_11 => jlet r_11 (fun x1_12 => f_X11_better_b65 σ x1_12)) else jchk (inI x1_1) (if x1_1 < 0 then some σ else jlet (2 : Int) (fun x1_2 => f_X11_better_b65 σ x1_2))))
def f_X11_better_b0 (σ : St) : Option St :=
  jchk (inI (σ 0 39)) (if σ 0 39 = 0 then f_X11_better_b30 σ 1 else jbind (f_X11_fractions (σ 0 37) (σ 0 38) (σ 0 43) (σ 0 44)) (fun r_13 => f_X11_better_b30 σ r_13))
def f_X11_better (σ : St) : Option St := f_X11_better_b0 σ
def f_X11_border_b0 (σ : St) (x1 x2 : Int) : Option (Int × St) :=
  jbind (f_X11_areTwo σ x1 x2) (fun r_1 => jchk (inI r_1) (if r_1 = 0 then some ((-1), σ) else jbind (f_X11_borderOf σ x1 x2) (fun q => match q with | (r_2, σ_3) => some (r_2, σ_3))))
def f_X11_border (σ : St) (x1 x2 : Int) : Option (Int × St) := f_X11_border_b0 σ x1 x2
def f_X11_brings_b12 (σ : St) (x1 : Int) : Option ((St × Int) ⊕ St) :=
  jchk (inI x1 ∧ inI 24) (if x1 < 24 then jlet ((24 * σ 0 8) + x1) (fun x2_3 => jchk (0 ≤ x2_3 ∧ x2_3 < 192) (jchk ((0 ≤ x1 ∧ x1 < 24) ∧ (σ 6 x2_3.toNat = 0 ∨ σ 6 x2_3.toNat = 1)) (jlet (up2 σ 1 x1.toNat (σ 6 x2_3.toNat)) (fun σ_4 => jchk (0 ≤ x2_3 ∧ x2_3 < 192) (jchk (0 ≤ x1 ∧ x1 < 24) (jlet (up2 σ_4 2 x1.toNat (σ_4 7 x2_3.toNat)) (fun σ_5 => jchk (0 ≤ x2_3 ∧ x2_3 < 192) (jchk (0 ≤ x1 ∧ x1 < 24) (jlet (up2 σ_5 3 x1.toNat (σ_5 8 x2_3.toNat)) (fun σ_6 => jchk (0 ≤ x2_3 ∧ x2_3 < 192) (jchk (0 ≤ x1 ∧ x1 < 24) (jlet (up2 σ_6 4 x1.toNat (σ_6 9 x2_3.toNat)) (fun σ_7 => jchk (0 ≤ x2_3 ∧ x2_3 < 192) (jchk (0 ≤ x1 ∧ x1 < 24) (jlet (up2 σ_7 5 x1.toNat (σ_7 10 x2_3.toNat)) (fun σ_8 => jlet (x1 + 1) (fun x1_9 => some (.inl (σ_8, x1_9))))))))))))))))))) else some (.inr (σ)))
def f_X11_brings_b0 (σ : St) : Option St :=
  jlet (up2 σ 0 8 (σ 0 8 - 1)) (fun σ_1 => jlet (0 : Int) (fun x1_2 => jbind (jloop (fun (q : (St × Int)) => match q with | (σ, x1) => f_X11_brings_b12 σ x1) 1000 (σ_1, x1_2)) (fun σ_10 => jchk (0 ≤ σ_10 0 8 ∧ σ_10 0 8 < 8) (jlet (up2 σ_10 0 0 (σ_10 11 (σ_10 0 8).toNat)) (fun σ_11 => jchk (0 ≤ σ_11 0 8 ∧ σ_11 0 8 < 8) (jlet (up2 σ_11 0 1 (σ_11 12 (σ_11 0 8).toNat)) (fun σ_12 => some σ_12)))))))
def f_X11_brings (σ : St) : Option St := f_X11_brings_b0 σ
def f_X11_closest_b71 (σ : St) (x1 x4 x5 : Int) : Option ((Int × Int × Int) ⊕ (Int × Int)) :=
  jlet x4 (fun x2_9 => jlet x5 (fun x3_10 => jlet (x5 + 1) (fun x5_11 => some (.inl (x2_9, x3_10, x5_11)))))
def f_X11_closest_b20 (σ : St) (x1 x2 x3 x4 x5 : Int) : Option ((Int × Int × Int) ⊕ (Int × Int)) :=
  jchk (inI x5 ∧ inI 24) (if x5 < 24 then jbind (f_X11_counts σ x4) (fun r_5 => jchk (inI r_5) (if r_5 = 0 then jlet (x5 + 1) (fun x5_6 => some (.inl (x2, x3, x5_6))) else jbind (f_X11_counts σ x5) (fun r_7 => jchk (inI r_7) (if r_7 = 0 then jlet (x5 + 1) (fun x5_8 => some (.inl (x2, x3, x5_8))) else jchk (inI x2 ∧ inI (-1)) (if x2 = (-1) then f_X11_closest_b71 σ x1 x4 x5 else jbind (f_X11_apart σ x4 x5) (fun r_12 => jbind (f_X11_apart σ x2 x3) (fun r_13 => jchk (inL r_12 ∧ inL r_13) (if r_12 < r_13 then f_X11_closest_b71 σ x1 x4 x5 else jlet (x5 + 1) (fun x5_14 => some (.inl (x2, x3, x5_14))))))))))) else some (.inr ((x2, x3))))
def f_X11_closest_b7 (σ : St) (x1 x2 x3 x4 : Int) : Option ((Int × Int × Int) ⊕ (Int × Int)) :=
  jchk (inI x4 ∧ inI 24) (if x4 < 24 then jlet (x4 + 1) (fun x5_4 => jbind (jloop (fun (q : (Int × Int × Int)) => match q with | (x2, x3, x5) => f_X11_closest_b20 σ x1 x2 x3 x4 x5) 1000 (x2, x3, x5_4)) (fun q => match q with | (x2_15, x3_16) => jlet (x4 + 1) (fun x4_17 => some (.inl (x2_15, x3_16, x4_17))))) else some (.inr ((x2, x3))))
def f_X11_closest_b0 (σ : St) (x1 : Int) : Option Int :=
  jlet ((-1) : Int) (fun x2_1 => jlet ((-1) : Int) (fun x3_2 => jlet (0 : Int) (fun x4_3 => jbind (jloop (fun (q : (Int × Int × Int)) => match q with | (x2, x3, x4) => f_X11_closest_b7 σ x1 x2 x3 x4) 1000 (x2_1, x3_2, x4_3)) (fun q => match q with | (x2_18, x3_19) => jchk (inI x2_18 ∧ inI (-1)) (if x2_18 = (-1) then some (-1) else jchk (inI x1) (if x1 = 0 then some x2_18 else jchk (inI x1 ∧ inI 1) (if x1 = 1 then some x3_19 else jchk (inI x1 ∧ inI 2) (if x1 = 2 then jbind (f_X11_apart σ x2_18 x3_19) (fun r_20 => some r_20) else some (-1)))))))))
def f_X11_closest (σ : St) (x1 : Int) : Option Int := f_X11_closest_b0 σ x1
def f_X11_common_b28 (x4 x6 : Int) : Option ((Int × Int) ⊕ Int) :=
  jchk (inL x6 ∧ inL 0) (if x6 = 0 then some (.inr (x4)) else jchk (inL x6 ∧ x6 ≠ 0) (jlet (jlrem x4 x6) (fun x8_3 => jlet x6 (fun x4_4 => jlet x8_3 (fun x6_5 => some (.inl (x4_4, x6_5)))))))
def f_X11_common_b12 (x2 t0 : Int) : Option Int :=
  jlet t0 (fun x4_1 => jchk (inL x2 ∧ inL 0) (if x2 < 0 then jlet (-x2) (fun x6_7 => jbind (jloop (fun (q : (Int × Int)) => match q with | (x4, x6) => f_X11_common_b28 x4 x6) 1000 (x4_1, x6_7)) (fun x4_8 => some x4_8)) else jlet x2 (fun x6_2 => jbind (jloop (fun (q : (Int × Int)) => match q with | (x4, x6) => f_X11_common_b28 x4 x6) 1000 (x4_1, x6_2)) (fun x4_6 => some x4_6))))
def f_X11_common_b0 (x0 x2 : Int) : Option Int :=
  jchk (inL x0 ∧ inL 0) (if x0 < 0 then f_X11_common_b12 x2 (-x0) else f_X11_common_b12 x2 x0)
def f_X11_common (x0 x2 : Int) : Option Int := f_X11_common_b0 x0 x2
def f_X11_endsOn_b98 (σ : St) (x1 x2 : Int) : Option ((St × Int) ⊕ St) :=
  jlet (up2 σ 0 28 x2) (fun σ_6 => jlet (x2 + 1) (fun x2_7 => some (.inl (σ_6, x2_7))))
def f_X11_endsOn_b77 (σ : St) (x1 x2 : Int) : Option ((St × Int) ⊕ St) :=
  jchk (inI (σ 0 28) ∧ inI (-1)) (if σ 0 28 = (-1) then f_X11_endsOn_b98 σ x1 x2 else jbind (f_X11_along σ x1 x2 (σ 0 28)) (fun r_8 => jchk (inI r_8) (if (0 : Int) < r_8 then f_X11_endsOn_b98 σ x1 x2 else jlet (x2 + 1) (fun x2_9 => some (.inl (σ, x2_9))))))
def f_X11_endsOn_b72 (σ : St) (x1 x2 : Int) : Option ((St × Int) ⊕ St) :=
  jlet (up2 σ 0 27 x2) (fun σ_5 => f_X11_endsOn_b77 σ_5 x1 x2)
def f_X11_endsOn_b12 (σ : St) (x1 x2 : Int) : Option ((St × Int) ⊕ St) :=
  jchk (inI x2 ∧ inI (σ 0 20)) (if x2 < σ 0 20 then jchk (0 ≤ x2 ∧ x2 < 400) (jchk (0 ≤ x2 ∧ x2 < 400) (jchk (0 ≤ x2 ∧ x2 < 400) (jbind (f_X11_over σ x1 (σ 16 x2.toNat) (σ 17 x2.toNat) (σ 18 x2.toNat)) (fun r_4 => jchk (inL r_4 ∧ inL 0) (if r_4 = 0 then jchk (inI (σ 0 27) ∧ inI (-1)) (if σ 0 27 = (-1) then f_X11_endsOn_b72 σ x1 x2 else jbind (f_X11_along σ x1 x2 (σ 0 27)) (fun r_10 => jchk (inI r_10) (if r_10 < 0 then f_X11_endsOn_b72 σ x1 x2 else f_X11_endsOn_b77 σ x1 x2))) else jlet (x2 + 1) (fun x2_11 => some (.inl (σ, x2_11)))))))) else some (.inr (σ)))
def f_X11_endsOn_b0 (σ : St) (x1 : Int) : Option St :=
  jlet (up2 σ 0 27 ((-1) : Int)) (fun σ_1 => jlet (up2 σ_1 0 28 ((-1) : Int)) (fun σ_2 => jlet (0 : Int) (fun x2_3 => jbind (jloop (fun (q : (St × Int)) => match q with | (σ, x2) => f_X11_endsOn_b12 σ x1 x2) 1000 (σ_2, x2_3)) (fun σ_12 => some σ_12))))
def f_X11_endsOn (σ : St) (x1 : Int) : Option St := f_X11_endsOn_b0 σ x1
def f_X11_groundOf_b25 (σ : St) (x2 x3 : Int) : Option ((St × Int) ⊕ St) :=
  jchk (inI x3 ∧ inI (σ 0 16)) (if x3 < σ 0 16 then jbind (f_X11_meets σ x2 x3) (fun σ_5 => jlet (x3 + 1) (fun x3_6 => some (.inl (σ_5, x3_6)))) else some (.inr (σ)))
def f_X11_groundOf_b13 (σ : St) (x2 : Int) : Option ((St × Int) ⊕ St) :=
  jchk (inI x2 ∧ inI (σ 0 16)) (if x2 < σ 0 16 then jlet (x2 + 1) (fun x3_4 => jbind (jloop (fun (q : (St × Int)) => match q with | (σ, x3) => f_X11_groundOf_b25 σ x2 x3) 1000 (σ, x3_4)) (fun σ_7 => jlet (x2 + 1) (fun x2_8 => some (.inl (σ_7, x2_8))))) else some (.inr (σ)))
def f_X11_groundOf_b68 (σ : St) (x2 x3 : Int) : Option ((St × Int × Int) ⊕ (St × Int)) :=
  jchk (inI x3 ∧ inI (σ 0 20)) (if x3 < σ 0 20 then jchk (0 ≤ x3 ∧ x3 < 400) (jlet (up2 σ 19 x3.toNat x3) (fun σ_13 => jbind (f_X11_isAhead σ_13 x3 x2) (fun r_14 => jchk (inI r_14) (if r_14 = 0 then jlet (x3 + 1) (fun x3_15 => some (.inl (σ_13, x2, x3_15))) else jlet x3 (fun x2_16 => jlet (x3 + 1) (fun x3_17 => some (.inl (σ_13, x2_16, x3_17)))))))) else some (.inr ((σ, x2))))
def f_X11_groundOf_b102 (σ : St) (x2 x3 : Int) : Option ((St × Int) ⊕ St) :=
  jchk (inI x3 ∧ inI (σ 0 16)) (if x3 < σ 0 16 then jbind (f_X11_endsOn σ x3) (fun σ_21 => jchk (inI (σ_21 0 27) ∧ inI (σ_21 0 28)) (if σ_21 0 27 = σ_21 0 28 then jlet (x3 + 1) (fun x3_22 => some (.inl (σ_21, x3_22))) else jchk (0 ≤ σ_21 0 27 ∧ σ_21 0 27 < 400) (jlet (up2 σ_21 19 (σ_21 0 27).toNat (σ_21 0 28)) (fun σ_23 => jlet (x3 + 1) (fun x3_24 => some (.inl (σ_23, x3_24))))))) else some (.inr (σ)))
def f_X11_groundOf_b159 (σ : St) (x2 x3 : Int) : Option ((St × Int) ⊕ St) :=
  jchk (0 ≤ σ 0 25 ∧ σ 0 25 < 400) (jlet (up2 σ 20 (σ 0 25).toNat x3) (fun σ_27 => jlet (up2 σ_27 0 25 (σ_27 0 25 + 1)) (fun σ_28 => jchk (0 ≤ x3 ∧ x3 < 400) (jlet (σ_28 19 x3.toNat) (fun x3_29 => some (.inl (σ_28, x3_29)))))))
def f_X11_groundOf_b147 (σ : St) (x2 x3 : Int) : Option ((St × Int) ⊕ St) :=
  jchk (inI (σ 0 25)) (if σ 0 25 = 0 then f_X11_groundOf_b159 σ x2 x3 else jchk (inI x3 ∧ inI x2) (if x3 = x2 then some (.inr (σ)) else f_X11_groundOf_b159 σ x2 x3))
def f_X11_groundOf_b0 (σ : St) (x1 : Int) : Option St :=
  jbind (f_X11_linesOf σ x1 (-1)) (fun σ_1 => jlet (up2 σ_1 0 20 (0 : Int)) (fun σ_2 => jlet (0 : Int) (fun x2_3 => jbind (jloop (fun (q : (St × Int)) => match q with | (σ, x2) => f_X11_groundOf_b13 σ x2) 1000 (σ_2, x2_3)) (fun σ_9 => jlet (up2 σ_9 0 25 (0 : Int)) (fun σ_10 => jchk (inI (σ_10 0 20)) (if σ_10 0 20 = 0 then some σ_10 else jlet (0 : Int) (fun x2_11 => jlet (0 : Int) (fun x3_12 => jbind (jloop (fun (q : (St × Int × Int)) => match q with | (σ, x2, x3) => f_X11_groundOf_b68 σ x2 x3) 1000 (σ_10, x2_11, x3_12)) (fun q => match q with | (σ_18, x2_19) => jlet (0 : Int) (fun x3_20 => jbind (jloop (fun (q : (St × Int)) => match q with | (σ, x3) => f_X11_groundOf_b102 σ x2_19 x3) 1000 (σ_18, x3_20)) (fun σ_25 => jlet x2_19 (fun x3_26 => jbind (jloop (fun (q : (St × Int)) => match q with | (σ, x3) => f_X11_groundOf_b147 σ x2_19 x3) 1000 (σ_25, x3_26)) (fun σ_30 => some σ_30)))))))))))))
def f_X11_groundOf (σ : St) (x1 : Int) : Option St := f_X11_groundOf_b0 σ x1
def f_X11_lowest_b0 (x0 x2 x4 : Int) : Option Int :=
  jbind (f_X11_common x0 x2) (fun r_1 => jlet r_1 (fun x5_2 => jchk (inI x4) (if x4 = 0 then jchk (inL x5_2 ∧ x5_2 ≠ 0) (some (jldiv x2 x5_2)) else jchk (inL x5_2 ∧ x5_2 ≠ 0) (some (jldiv x0 x5_2)))))
def f_X11_lowest (x0 x2 x4 : Int) : Option Int := f_X11_lowest_b0 x0 x2 x4
def f_X11_told_b37 (σ : St) (t0 t1 t2 : Int) : Option Int :=
  jbind (f_X11_lowest t0 t1 t2) (fun r_1 => some r_1)
def f_X11_told_b20 (σ : St) (x1 x2 t0 : Int) : Option Int :=
  jchk (0 ≤ x1 ∧ x1 < 400) (jchk (inI 2 ∧ 2 ≠ 0) (jchk (inI (jirem x2 2)) (if (jirem x2 2) = 0 then f_X11_told_b37 σ t0 (σ 18 x1.toNat) 1 else f_X11_told_b37 σ t0 (σ 18 x1.toNat) 0)))
def f_X11_told_b0 (σ : St) (x1 x2 : Int) : Option Int :=
  jchk (inI x2 ∧ inI 2) (if x2 < 2 then jchk (0 ≤ x1 ∧ x1 < 400) (f_X11_told_b20 σ x1 x2 (σ 16 x1.toNat)) else jchk (0 ≤ x1 ∧ x1 < 400) (f_X11_told_b20 σ x1 x2 (σ 17 x1.toNat)))
def f_X11_told (σ : St) (x1 x2 : Int) : Option Int := f_X11_told_b0 σ x1 x2
def f_X11_corner_b0 (σ : St) (x1 x2 x3 : Int) : Option (Int × St) :=
  jbind (f_X11_counts σ x1) (fun r_1 => jchk (inI r_1) (if r_1 = 0 then some ((-1), σ) else jchk (inI x3) (if x3 < 0 then some ((-1), σ) else jchk (inI x3 ∧ inI 3) (if (3 : Int) < x3 then some ((-1), σ) else jbind (f_X11_groundOf σ x1) (fun σ_2 => jchk (inI x2) (if x2 < 0 then some ((-1), σ_2) else jchk (inI x2 ∧ inI (σ_2 0 25)) (if x2 < σ_2 0 25 then jchk (0 ≤ x2 ∧ x2 < 400) (jbind (f_X11_told σ_2 (σ_2 20 x2.toNat) x3) (fun r_3 => some (r_3, σ_2))) else some ((-1), σ_2))))))))
def f_X11_corner (σ : St) (x1 x2 x3 : Int) : Option (Int × St) := f_X11_corner_b0 σ x1 x2 x3
def f_X11_corners_b0 (σ : St) (x1 : Int) : Option (Int × St) :=
  jbind (f_X11_isWell σ x1) (fun r_1 => jchk (inI r_1) (if r_1 = 0 then some ((-1), σ) else jbind (f_X11_counts σ x1) (fun r_2 => jchk (inI r_2) (if r_2 = 0 then some (0, σ) else jbind (f_X11_groundOf σ x1) (fun σ_3 => some (σ_3 0 25, σ_3))))))
def f_X11_corners (σ : St) (x1 : Int) : Option (Int × St) := f_X11_corners_b0 σ x1
def f_X11_cost_b0 (σ : St) (x1 x2 x3 x4 : Int) : Option Int :=
  jchk (inI x2) (jchk (inI x4) (jchk (0 ≤ x1 ∧ x1 < 24) (jchk (inI (σ 2 x1.toNat)) (jlet (x2 - (x4 * σ 2 x1.toNat)) (fun x5_1 => jchk (inI x3) (jchk (inI x4) (jchk (0 ≤ x1 ∧ x1 < 24) (jchk (inI (σ 3 x1.toNat)) (jlet (x3 - (x4 * σ 3 x1.toNat)) (fun x7_2 => jbind (f_X11_off σ x1) (fun r_3 => jchk (inI x4) (jchk (inI x4) (some (((x5_1 * x5_1) + (x7_2 * x7_2)) - ((r_3 * x4) * x4)))))))))))))))
def f_X11_cost (σ : St) (x1 x2 x3 x4 : Int) : Option Int := f_X11_cost_b0 σ x1 x2 x3 x4
def f_X11_count_b4 (σ : St) (x1 x2 x3 : Int) : Option ((Int × Int) ⊕ Int) :=
  jchk (inI x3 ∧ inI 24) (if x3 < 24 then jchk (inI x1) (if x1 = 0 then jchk (0 ≤ x3 ∧ x3 < 24) (jchk (inI (σ 1 x3.toNat)) (if σ 1 x3.toNat = 0 then jlet (x3 + 1) (fun x3_7 => some (.inl (x2, x3_7))) else jlet (x2 + 1) (fun x2_8 => jlet (x3 + 1) (fun x3_9 => some (.inl (x2_8, x3_9)))))) else jbind (f_X11_counts σ x3) (fun r_3 => jchk (inI r_3) (if r_3 = 0 then jlet (x3 + 1) (fun x3_4 => some (.inl (x2, x3_4))) else jlet (x2 + 1) (fun x2_5 => jlet (x3 + 1) (fun x3_6 => some (.inl (x2_5, x3_6))))))) else some (.inr (x2)))
def f_X11_count_b0 (σ : St) (x1 : Int) : Option Int :=
  jlet (0 : Int) (fun x2_1 => jlet (0 : Int) (fun x3_2 => jbind (jloop (fun (q : (Int × Int)) => match q with | (x2, x3) => f_X11_count_b4 σ x1 x2 x3) 1000 (x2_1, x3_2)) (fun x2_10 => jchk (inI x1) (if x1 = 0 then some x2_10 else jchk (inI x1 ∧ inI 1) (if x1 = 1 then some x2_10 else jchk (inI x1 ∧ inI 2) (if x1 = 2 then some (σ 0 8) else some (-1)))))))
def f_X11_count (σ : St) (x1 : Int) : Option Int := f_X11_count_b0 σ x1
def f_X11_end_b54 (σ : St) (x4 t1 : Int) : Option (Int × St) :=
  jbind (f_X11_told σ t1 x4) (fun r_4 => some (r_4, σ))
def f_X11_end_b0 (σ : St) (x1 x2 x3 x4 : Int) : Option (Int × St) :=
  jbind (f_X11_areTwo σ x1 x2) (fun r_1 => jchk (inI r_1) (if r_1 = 0 then some ((-1), σ) else jchk (inI x3) (if x3 < 0 then some ((-1), σ) else jchk (inI x4) (if x4 < 0 then some ((-1), σ) else jchk (inI x4 ∧ inI 3) (if (3 : Int) < x4 then some ((-1), σ) else jbind (f_X11_borderOf σ x1 x2) (fun q => match q with | (r_2, σ_3) => jchk (inI x3 ∧ inI r_2) (if x3 < r_2 then jchk (inI x3) (if x3 = 0 then f_X11_end_b54 σ_3 x4 (σ_3 0 27) else f_X11_end_b54 σ_3 x4 (σ_3 0 28)) else some ((-1), σ_3))))))))
def f_X11_end (σ : St) (x1 x2 x3 x4 : Int) : Option (Int × St) := f_X11_end_b0 σ x1 x2 x3 x4
def f_X11_fill_b0 (σ : St) (x1 : Int) : Option (Int × St) :=
  jbind (f_X11_isWell σ x1) (fun r_1 => jchk (inI r_1) (if r_1 = 0 then some ((-1), σ) else jbind (f_X11_keeps σ) (fun σ_2 => jchk ((0 ≤ x1 ∧ x1 < 24) ∧ ((0 : Int) = 0 ∨ (0 : Int) = 1)) (jlet (up2 σ_2 1 x1.toNat (0 : Int)) (fun σ_3 => jbind (f_X11_count σ_3 0) (fun r_4 => some (r_4, σ_3)))))))
def f_X11_fill (σ : St) (x1 : Int) : Option (Int × St) := f_X11_fill_b0 σ x1
def f_X11_isPoint_b0 (σ : St) (x1 x2 x3 : Int) : Option Int :=
  jchk (inI x3 ∧ inI 1) (if x3 < 1 then some 0 else jchk (inI x3 ∧ inI 1000) (if (1000 : Int) < x3 then some 0 else jchk (inI x1) (if x1 < 0 then some 0 else jchk (inI x2) (if x2 < 0 then some 0 else jchk (inI x1 ∧ inI (σ 0 0 * x3)) (if (σ 0 0 * x3) < x1 then some 0 else jchk (inI x2 ∧ inI (σ 0 1 * x3)) (if (σ 0 1 * x3) < x2 then some 0 else some 1))))))
def f_X11_isPoint (σ : St) (x1 x2 x3 : Int) : Option Int := jz (f_X11_isPoint_b0 σ x1 x2 x3)
def f_X11_isSheet_b0 (x1 : Int) : Option Int :=
  jchk (inI x1) (if x1 < 0 then some 0 else jchk (inI x1 ∧ inI 8) (if x1 < 8 then some 1 else some 0))
def f_X11_isSheet (x1 : Int) : Option Int := jz (f_X11_isSheet_b0 x1)
def f_X11_toSides_b89 (σ : St) (x1 x2 x3 x5 t0 : Int) : Option ((Int × Int) ⊕ Int) :=
  jlet t0 (fun x6_3 => jchk (inL ((4 * x6_3) * x6_3) ∧ inL x3) (if ((4 * x6_3) * x6_3) < x3 then jlet ((4 * x6_3) * x6_3) (fun x3_5 => jlet (x5 + 1) (fun x5_6 => some (.inl (x3_5, x5_6)))) else jlet (x5 + 1) (fun x5_4 => some (.inl (x3, x5_4)))))
def f_X11_toSides_b7 (σ : St) (x1 x2 x3 x5 : Int) : Option ((Int × Int) ⊕ Int) :=
  jchk (inI x5 ∧ inI 4) (if x5 < 4 then jchk (inI (jand (jshr x2 x5) 1)) (if (jand (jshr x2 x5) 1) = 0 then jlet (x5 + 1) (fun x5_7 => some (.inl (x3, x5_7))) else jchk (inI x5) (if x5 = 0 then jchk (0 ≤ x1 ∧ x1 < 24) (jchk (inI (σ 3 x1.toNat)) (f_X11_toSides_b89 σ x1 x2 x3 x5 (σ 3 x1.toNat))) else jchk (inI x5 ∧ inI 1) (if x5 = 1 then jchk (0 ≤ x1 ∧ x1 < 24) (jchk (inI (σ 0 0 - σ 2 x1.toNat)) (f_X11_toSides_b89 σ x1 x2 x3 x5 (σ 0 0 - σ 2 x1.toNat))) else jchk (inI x5 ∧ inI 2) (if x5 = 2 then jchk (0 ≤ x1 ∧ x1 < 24) (jchk (inI (σ 0 1 - σ 3 x1.toNat)) (f_X11_toSides_b89 σ x1 x2 x3 x5 (σ 0 1 - σ 3 x1.toNat))) else jchk (0 ≤ x1 ∧ x1 < 24) (jchk (inI (σ 2 x1.toNat)) (f_X11_toSides_b89 σ x1 x2 x3 x5 (σ 2 x1.toNat))))))) else some (.inr (x3)))
def f_X11_toSides_b0 (σ : St) (x1 x2 : Int) : Option Int :=
  jlet (9223372036854775807 : Int) (fun x3_1 => jlet (0 : Int) (fun x5_2 => jbind (jloop (fun (q : (Int × Int)) => match q with | (x3, x5) => f_X11_toSides_b7 σ x1 x2 x3 x5) 1000 (x3_1, x5_2)) (fun x3_8 => some x3_8)))
def f_X11_toSides (σ : St) (x1 x2 : Int) : Option Int := f_X11_toSides_b0 σ x1 x2
def f_X11_toCorner_b76 (σ : St) (x1 x2 x4 t0 t1 t2 t3 : Int) : Option ((Int × Int) ⊕ Int) :=
  jchk (inI (t2 - t3)) (jbind (f_X11_square t1 (t2 - t3)) (fun r_4 => jlet (t0 * r_4) (fun x5_5 => jchk (inL x5_5 ∧ inL x2) (if x5_5 < x2 then jlet x5_5 (fun x2_7 => jlet (x4 + 1) (fun x4_8 => some (.inl (x2_7, x4_8)))) else jlet (x4 + 1) (fun x4_6 => some (.inl (x2, x4_6)))))))
def f_X11_toCorner_b54 (σ : St) (x1 x2 x4 t0 t1 t2 : Int) : Option ((Int × Int) ⊕ Int) :=
  jchk (inI (t1 - t2)) (jchk (0 ≤ x4 ∧ x4 < 24) (jchk (inI x1 ∧ inI 1) (if (1 : Int) < x1 then f_X11_toCorner_b76 σ x1 x2 x4 t0 (t1 - t2) (σ 3 x4.toNat) (σ 0 1) else f_X11_toCorner_b76 σ x1 x2 x4 t0 (t1 - t2) (σ 3 x4.toNat) 0)))
def f_X11_toCorner_b46 (σ : St) (x1 x2 x4 t0 t1 : Int) : Option ((Int × Int) ⊕ Int) :=
  f_X11_toCorner_b54 σ x1 x2 x4 t0 t1 (σ 0 0)
def f_X11_toCorner_b7 (σ : St) (x1 x2 x4 : Int) : Option ((Int × Int) ⊕ Int) :=
  jchk (inI x4 ∧ inI 24) (if x4 < 24 then jbind (f_X11_counts σ x4) (fun r_3 => jchk (inI r_3) (if r_3 = 0 then jlet (x4 + 1) (fun x4_9 => some (.inl (x2, x4_9))) else jchk (0 ≤ x4 ∧ x4 < 24) (jchk (inI x1 ∧ inI 1) (if x1 = 1 then f_X11_toCorner_b46 σ x1 x2 x4 4 (σ 2 x4.toNat) else jchk (inI x1 ∧ inI 2) (if x1 = 2 then f_X11_toCorner_b46 σ x1 x2 x4 4 (σ 2 x4.toNat) else f_X11_toCorner_b54 σ x1 x2 x4 4 (σ 2 x4.toNat) 0))))) else some (.inr (x2)))
def f_X11_toCorner_b0 (σ : St) (x1 : Int) : Option Int :=
  jlet (9223372036854775807 : Int) (fun x2_1 => jlet (0 : Int) (fun x4_2 => jbind (jloop (fun (q : (Int × Int)) => match q with | (x2, x4) => f_X11_toCorner_b7 σ x1 x2 x4) 1000 (x2_1, x4_2)) (fun x2_10 => some x2_10)))
def f_X11_toCorner (σ : St) (x1 : Int) : Option Int := f_X11_toCorner_b0 σ x1
def f_X11_keep_b38 (σ : St) (x1 x2 x3 x4 : Int) : Option ((Int × Int) ⊕ Int) :=
  jchk (inI x4 ∧ inI x2) (if x4 = x2 then some (.inr (x3)) else jlet (jor x3 (jshl 1 x4)) (fun x3_4 => jchk (inI 4 ∧ 4 ≠ 0) (jlet (jirem (x4 + 1) 4) (fun x4_5 => some (.inl (x3_4, x4_5))))))
def f_X11_keep_b122 (σ : St) (x1 x2 x3 x4 t1 t2 : Int) : Option ((St × Int) ⊕ St) :=
  jchk (0 ≤ t1 ∧ t1 < 24) (jlet (up2 σ 29 t1.toNat t2) (fun σ_11 => jlet (x4 + 1) (fun x4_12 => some (.inl (σ_11, x4_12)))))
def f_X11_keep_b92 (σ : St) (x1 x2 x3 x4 t1 t2 : Int) : Option ((St × Int) ⊕ St) :=
  jchk ((0 ≤ t1 ∧ t1 < 24) ∧ (t2 = 0 ∨ t2 = 1)) (jlet (up2 σ 30 t1.toNat t2) (fun σ_9 => jchk (0 ≤ x4 ∧ x4 < 24) (jchk (inI (σ_9 30 x4.toNat)) (if σ_9 30 x4.toNat = 0 then jbind (f_X11_toSides σ_9 x4 x3) (fun r_10 => f_X11_keep_b122 σ_9 x1 x2 x3 x4 x4 r_10) else f_X11_keep_b122 σ_9 x1 x2 x3 x4 x4 9223372036854775807))))
def f_X11_keep_b65 (σ : St) (x1 x2 x3 x4 : Int) : Option ((St × Int) ⊕ St) :=
  jchk (inI x4 ∧ inI 24) (if x4 < 24 then jbind (f_X11_counts σ x4) (fun r_8 => jchk (inI r_8) (if r_8 = 0 then f_X11_keep_b92 σ x1 x2 x3 x4 x4 1 else f_X11_keep_b92 σ x1 x2 x3 x4 x4 0)) else some (.inr (σ)))
def f_X11_keep_b172 (σ : St) (x3 x4 x7 x8 : Int) : Option ((Int × Int) ⊕ Int) :=
  jchk (inI x8 ∧ inI 24) (if x8 < 24 then jchk (0 ≤ x8 ∧ x8 < 24) (jchk (inI (σ 30 x8.toNat)) (if σ 30 x8.toNat = 0 then jchk (inI x7 ∧ inI (-1)) (if x7 = (-1) then jlet x8 (fun x7_22 => jlet (x8 + 1) (fun x8_23 => some (.inl (x7_22, x8_23)))) else jchk (0 ≤ x8 ∧ x8 < 24) (jchk (0 ≤ x7 ∧ x7 < 24) (jchk (inL (σ 29 x8.toNat) ∧ inL (σ 29 x7.toNat)) (if σ 29 x8.toNat < σ 29 x7.toNat then jlet x8 (fun x7_25 => jlet (x8 + 1) (fun x8_26 => some (.inl (x7_25, x8_26)))) else jlet (x8 + 1) (fun x8_24 => some (.inl (x7, x8_24))))))) else jlet (x8 + 1) (fun x8_21 => some (.inl (x7, x8_21))))) else some (.inr (x7)))
def f_X11_keep_b363 (σ : St) (x3 x4 x6 x7 x12 t0 : Int) : Option ((St × Int) ⊕ St) :=
  jlet t0 (fun x13_35 => jchk (0 ≤ x12 ∧ x12 < 24) (jchk (inL x13_35 ∧ inL (σ 29 x12.toNat)) (if x13_35 < σ 29 x12.toNat then jchk (0 ≤ x12 ∧ x12 < 24) (jlet (up2 σ 29 x12.toNat x13_35) (fun σ_37 => jlet (x12 + 1) (fun x12_38 => some (.inl (σ_37, x12_38))))) else jlet (x12 + 1) (fun x12_36 => some (.inl (σ, x12_36))))))
def f_X11_keep_b306 (σ : St) (x3 x4 x6 x7 x12 : Int) : Option ((St × Int) ⊕ St) :=
  jchk (inI x12 ∧ inI 24) (if x12 < 24 then jchk (0 ≤ x12 ∧ x12 < 24) (jchk (inI (σ 30 x12.toNat)) (if σ 30 x12.toNat = 0 then jbind (f_X11_apart σ x7 x12) (fun r_34 => jchk (0 ≤ x7 ∧ x7 < 24) (jchk (inL r_34 ∧ inL (σ 29 x7.toNat)) (if σ 29 x7.toNat < r_34 then jbind (f_X11_apart σ x7 x12) (fun r_39 => f_X11_keep_b363 σ x3 x4 x6 x7 x12 r_39) else jchk (0 ≤ x7 ∧ x7 < 24) (f_X11_keep_b363 σ x3 x4 x6 x7 x12 (σ 29 x7.toNat))))) else jlet (x12 + 1) (fun x12_40 => some (.inl (σ, x12_40))))) else some (.inr (σ)))
def f_X11_keep_b289 (σ : St) (x3 x4 x6 x7 t0 : Int) : Option ((St × Int × Int) ⊕ (St × Int)) :=
  jlet t0 (fun x10_32 => jchk (inL x10_32 ∧ inL x4) (if x10_32 < x4 then jlet x10_32 (fun x4_42 => jlet (0 : Int) (fun x12_43 => jbind (jloop (fun (q : (St × Int)) => match q with | (σ, x12) => f_X11_keep_b306 σ x3 x4_42 x6 x7 x12) 1000 (σ, x12_43)) (fun σ_44 => some (.inl (σ_44, x4_42, x6))))) else jlet (0 : Int) (fun x12_33 => jbind (jloop (fun (q : (St × Int)) => match q with | (σ, x12) => f_X11_keep_b306 σ x3 x4 x6 x7 x12) 1000 (σ, x12_33)) (fun σ_41 => some (.inl (σ_41, x4, x6))))))
def f_X11_keep_b234 (σ : St) (x3 x4 x7 t0 : Int) : Option ((St × Int × Int) ⊕ (St × Int)) :=
  jlet t0 (fun x6_28 => jchk (inI x6_28) (if x6_28 = 0 then some (.inl (σ, x4, x6_28)) else jchk ((0 ≤ x7 ∧ x7 < 24) ∧ ((1 : Int) = 0 ∨ (1 : Int) = 1)) (jlet (up2 σ 30 x7.toNat (1 : Int)) (fun σ_29 => jbind (f_X11_toSides σ_29 x7 (15 - x3)) (fun r_30 => jlet r_30 (fun x8_31 => jchk (0 ≤ x7 ∧ x7 < 24) (jchk (inL x8_31 ∧ inL (σ_29 29 x7.toNat)) (if σ_29 29 x7.toNat < x8_31 then f_X11_keep_b289 σ_29 x3 x4 x6_28 x7 x8_31 else jchk (0 ≤ x7 ∧ x7 < 24) (f_X11_keep_b289 σ_29 x3 x4 x6_28 x7 (σ_29 29 x7.toNat))))))))))
def f_X11_keep_b161 (σ : St) (x3 x4 x6 : Int) : Option ((St × Int × Int) ⊕ (St × Int)) :=
  jchk (inI x6) (if x6 = 0 then some (.inr ((σ, x4))) else jlet ((-1) : Int) (fun x7_19 => jlet (0 : Int) (fun x8_20 => jbind (jloop (fun (q : (Int × Int)) => match q with | (x7, x8) => f_X11_keep_b172 σ x3 x4 x7 x8) 1000 (x7_19, x8_20)) (fun x7_27 => jchk (inI x7_27 ∧ inI (-1)) (if x7_27 = (-1) then f_X11_keep_b234 σ x3 x4 x7_27 0 else f_X11_keep_b234 σ x3 x4 x7_27 1)))))
def f_X11_keep_b0 (σ : St) (x1 x2 : Int) : Option (Int × St) :=
  jchk (inI x1) (if x1 < 0 then some ((-1), σ) else jchk (inI x1 ∧ inI 3) (if (3 : Int) < x1 then some ((-1), σ) else jchk (inI x2) (if x2 < 0 then some ((-1), σ) else jchk (inI x2 ∧ inI 3) (if (3 : Int) < x2 then some ((-1), σ) else jchk (inI x1 ∧ inI x2) (if x1 = x2 then some ((-1), σ) else jbind (f_X11_count σ 1) (fun r_1 => jchk (inI r_1) (if r_1 = 0 then some ((-1), σ) else jlet (0 : Int) (fun x3_2 => jlet x1 (fun x4_3 => jbind (jloop (fun (q : (Int × Int)) => match q with | (x3, x4) => f_X11_keep_b38 σ x1 x2 x3 x4) 1000 (x3_2, x4_3)) (fun x3_6 => jlet (0 : Int) (fun x4_7 => jbind (jloop (fun (q : (St × Int)) => match q with | (σ, x4) => f_X11_keep_b65 σ x1 x2 x3_6 x4) 1000 (σ, x4_7)) (fun σ_13 => jbind (f_X11_toCorner σ_13 x1) (fun r_14 => jbind (f_X11_toCorner σ_13 x2) (fun r_15 => jchk (inL r_14 ∧ inL r_15) (if r_14 < r_15 then jbind (f_X11_toCorner σ_13 x1) (fun r_47 => jlet r_47 (fun x4_48 => jlet (1 : Int) (fun x6_49 => jbind (jloop (fun (q : (St × Int × Int)) => match q with | (σ, x4, x6) => f_X11_keep_b161 σ x3_6 x4 x6) 1000 (σ_13, x4_48, x6_49)) (fun q => match q with | (σ_50, x4_51) => some (x4_51, σ_50))))) else jbind (f_X11_toCorner σ_13 x2) (fun r_16 => jlet r_16 (fun x4_17 => jlet (1 : Int) (fun x6_18 => jbind (jloop (fun (q : (St × Int × Int)) => match q with | (σ, x4, x6) => f_X11_keep_b161 σ x3_6 x4 x6) 1000 (σ_13, x4_17, x6_18)) (fun q => match q with | (σ_45, x4_46) => some (x4_46, σ_45))))))))))))))))))))
def f_X11_keep (σ : St) (x1 x2 : Int) : Option (Int × St) := f_X11_keep_b0 σ x1 x2
def f_X11_tries_b106 (σ : St) (x1 x3 x5 x7 x8 : Int) : Option ((St × Int) ⊕ St) :=
  jlet (up2 σ 0 37 x8) (fun σ_10 => jlet (x7 + 1) (fun x7_11 => some (.inl (σ_10, x7_11))))
def f_X11_tries_b35 (σ : St) (x1 x3 x5 x7 : Int) : Option ((St × Int) ⊕ St) :=
  jchk (inI x7 ∧ inI 24) (if x7 < 24 then jbind (f_X11_counts σ x7) (fun r_7 => jchk (inI r_7) (if r_7 = 0 then jlet (x7 + 1) (fun x7_13 => some (.inl (σ, x7_13))) else jchk (0 ≤ x7 ∧ x7 < 24) (jchk (inI (σ 2 x7.toNat)) (jchk (0 ≤ x7 ∧ x7 < 24) (jchk (inI (σ 3 x7.toNat)) (jbind (f_X11_square (x1 - (x5 * σ 2 x7.toNat)) (x3 - (x5 * σ 3 x7.toNat))) (fun r_8 => jlet r_8 (fun x8_9 => jchk (inL (σ 0 37) ∧ inL (-1)) (if σ 0 37 = (-1) then f_X11_tries_b106 σ x1 x3 x5 x7 x8_9 else jchk (inL x8_9 ∧ inL (σ 0 37)) (if x8_9 < σ 0 37 then f_X11_tries_b106 σ x1 x3 x5 x7 x8_9 else jlet (x7 + 1) (fun x7_12 => some (.inl (σ, x7_12))))))))))))) else some (.inr (σ)))
def f_X11_tries_b0 (σ : St) (x1 x3 x5 : Int) : Option St :=
  jlet (up2 σ 0 34 x1) (fun σ_1 => jlet (up2 σ_1 0 35 x3) (fun σ_2 => jlet (up2 σ_2 0 36 x5) (fun σ_3 => jlet (up2 σ_3 0 37 ((-1) : Int)) (fun σ_4 => jlet (up2 σ_4 0 38 (x5 * x5)) (fun σ_5 => jlet (0 : Int) (fun x7_6 => jbind (jloop (fun (q : (St × Int)) => match q with | (σ, x7) => f_X11_tries_b35 σ x1 x3 x5 x7) 1000 (σ_5, x7_6)) (fun σ_14 => jbind (f_X11_better σ_14) (fun σ_15 => some σ_15))))))))
def f_X11_tries (σ : St) (x1 x3 x5 : Int) : Option St := f_X11_tries_b0 σ x1 x3 x5
def f_X11_triesOn_b33 (σ : St) (x5 x7 x8 x10 t0 : Int) : Option St :=
  jlet t0 (fun x12_2 => jchk (inL x12_2 ∧ inL 0) (if x12_2 < 0 then some σ else jchk (inL x12_2 ∧ inL (x8 * x10)) (if (x8 * x10) < x12_2 then some σ else jchk (inI x7) (if x7 = 0 then jbind (f_X11_tries σ x12_2 (x5 * x10) x10) (fun σ_3 => some σ_3) else jbind (f_X11_tries σ (x5 * x10) x12_2 x10) (fun σ_4 => some σ_4)))))
def f_X11_triesOn_b19 (σ : St) (x1 x3 x5 x7 x8 t0 : Int) : Option St :=
  jlet t0 (fun x10_1 => jchk (inL x1 ∧ inL 0) (if x1 < 0 then f_X11_triesOn_b33 σ x5 x7 x8 x10_1 (-x3) else f_X11_triesOn_b33 σ x5 x7 x8 x10_1 x3))
def f_X11_triesOn_b0 (σ : St) (x1 x3 x5 x7 x8 : Int) : Option St :=
  jchk (inL x1 ∧ inL 0) (if x1 = 0 then some σ else jchk (inL x1 ∧ inL 0) (if x1 < 0 then f_X11_triesOn_b19 σ x1 x3 x5 x7 x8 (-x1) else f_X11_triesOn_b19 σ x1 x3 x5 x7 x8 x1))
def f_X11_triesOn (σ : St) (x1 x3 x5 x7 x8 : Int) : Option St := f_X11_triesOn_b0 σ x1 x3 x5 x7 x8
def f_X11_triesSides_b166 (σ : St) (x3 x5 x7 x9 t1 t2 t3 : Int) : Option ((St × Int) ⊕ St) :=
  jchk (inI (σ 0 0)) (jbind (f_X11_triesOn σ t1 t2 t3 0 (σ 0 0)) (fun σ_8 => jlet (x9 + 1) (fun x9_9 => some (.inl (σ_8, x9_9)))))
def f_X11_triesSides_b150 (σ : St) (x3 x5 x7 x9 t1 t2 t3 t4 : Int) : Option ((St × Int) ⊕ St) :=
  jchk (inI x9) (if x9 = 0 then f_X11_triesSides_b166 σ x3 x5 x7 x9 t1 (t2 - (t3 * t4)) 0 else jchk (inI (σ 0 1)) (f_X11_triesSides_b166 σ x3 x5 x7 x9 t1 (t2 - (t3 * t4)) (σ 0 1)))
def f_X11_triesSides_b121 (σ : St) (x3 x5 x7 x9 t1 t2 t3 : Int) : Option ((St × Int) ⊕ St) :=
  jchk (inI (σ 0 1)) (jbind (f_X11_triesOn σ t1 t2 t3 1 (σ 0 1)) (fun σ_7 => jchk (inI x9) (if x9 = 0 then f_X11_triesSides_b150 σ_7 x3 x5 x7 x9 x3 x7 x5 0 else jchk (inI (σ_7 0 1)) (f_X11_triesSides_b150 σ_7 x3 x5 x7 x9 x3 x7 x5 (σ_7 0 1)))))
def f_X11_triesSides_b105 (σ : St) (x3 x5 x7 x9 t1 t2 t3 t4 : Int) : Option ((St × Int) ⊕ St) :=
  jchk (inI x9) (if x9 = 0 then f_X11_triesSides_b121 σ x3 x5 x7 x9 t1 (t2 - (t3 * t4)) 0 else jchk (inI (σ 0 0)) (f_X11_triesSides_b121 σ x3 x5 x7 x9 t1 (t2 - (t3 * t4)) (σ 0 0)))
def f_X11_triesSides_b79 (σ : St) (x3 x5 x7 x9 : Int) : Option ((St × Int) ⊕ St) :=
  jchk (inI x9 ∧ inI 2) (if x9 < 2 then jchk (inI x9) (if x9 = 0 then f_X11_triesSides_b105 σ x3 x5 x7 x9 x5 x7 x3 0 else jchk (inI (σ 0 0)) (f_X11_triesSides_b105 σ x3 x5 x7 x9 x5 x7 x3 (σ 0 0))) else some (.inr (σ)))
def f_X11_triesSides_b0 (σ : St) (x1 x2 : Int) : Option St :=
  jchk (0 ≤ x2 ∧ x2 < 24) (jchk (0 ≤ x1 ∧ x1 < 24) (jchk (inI (σ 2 x2.toNat - σ 2 x1.toNat)) (jlet (2 * (σ 2 x2.toNat - σ 2 x1.toNat)) (fun x3_1 => jchk (0 ≤ x2 ∧ x2 < 24) (jchk (0 ≤ x1 ∧ x1 < 24) (jchk (inI (σ 3 x2.toNat - σ 3 x1.toNat)) (jlet (2 * (σ 3 x2.toNat - σ 3 x1.toNat)) (fun x5_2 => jchk (0 ≤ x2 ∧ x2 < 24) (jchk (inI (σ 2 x2.toNat)) (jchk (0 ≤ x2 ∧ x2 < 24) (jchk (inI (σ 3 x2.toNat)) (jbind (f_X11_square (σ 2 x2.toNat) (σ 3 x2.toNat)) (fun r_3 => jchk (0 ≤ x1 ∧ x1 < 24) (jchk (inI (σ 2 x1.toNat)) (jchk (0 ≤ x1 ∧ x1 < 24) (jchk (inI (σ 3 x1.toNat)) (jbind (f_X11_square (σ 2 x1.toNat) (σ 3 x1.toNat)) (fun r_4 => jlet (r_3 - r_4) (fun x7_5 => jlet (0 : Int) (fun x9_6 => jbind (jloop (fun (q : (St × Int)) => match q with | (σ, x9) => f_X11_triesSides_b79 σ x3_1 x5_2 x7_5 x9) 1000 (σ, x9_6)) (fun σ_10 => some σ_10)))))))))))))))))))))
def f_X11_triesSides (σ : St) (x1 x2 : Int) : Option St := f_X11_triesSides_b0 σ x1 x2
def f_X11_within_b0 (σ : St) (x1 x2 x3 x4 : Int) : Option Int :=
  jchk (0 ≤ x1 ∧ x1 < 24) (jchk (0 ≤ x4 ∧ x4 < 24) (jchk (inI (σ 2 x1.toNat - σ 2 x4.toNat)) (jlet (σ 2 x1.toNat - σ 2 x4.toNat) (fun x5_1 => jchk (0 ≤ x1 ∧ x1 < 24) (jchk (0 ≤ x4 ∧ x4 < 24) (jchk (inI (σ 3 x1.toNat - σ 3 x4.toNat)) (jlet (σ 3 x1.toNat - σ 3 x4.toNat) (fun x7_2 => jchk (0 ≤ x2 ∧ x2 < 24) (jchk (0 ≤ x4 ∧ x4 < 24) (jchk (inI (σ 2 x2.toNat - σ 2 x4.toNat)) (jlet (σ 2 x2.toNat - σ 2 x4.toNat) (fun x9_3 => jchk (0 ≤ x2 ∧ x2 < 24) (jchk (0 ≤ x4 ∧ x4 < 24) (jchk (inI (σ 3 x2.toNat - σ 3 x4.toNat)) (jlet (σ 3 x2.toNat - σ 3 x4.toNat) (fun x11_4 => jchk (0 ≤ x3 ∧ x3 < 24) (jchk (0 ≤ x4 ∧ x4 < 24) (jchk (inI (σ 2 x3.toNat - σ 2 x4.toNat)) (jlet (σ 2 x3.toNat - σ 2 x4.toNat) (fun x13_5 => jchk (0 ≤ x3 ∧ x3 < 24) (jchk (0 ≤ x4 ∧ x4 < 24) (jchk (inI (σ 3 x3.toNat - σ 3 x4.toNat)) (jlet (σ 3 x3.toNat - σ 3 x4.toNat) (fun x15_6 => jbind (f_X11_square x5_1 x7_2) (fun r_7 => jbind (f_X11_square x9_3 x11_4) (fun r_8 => jbind (f_X11_square x13_5 x15_6) (fun r_9 => jlet (((r_7 * ((x9_3 * x15_6) - (x11_4 * x13_5))) - (r_8 * ((x5_1 * x15_6) - (x7_2 * x13_5)))) + (r_9 * ((x5_1 * x11_4) - (x7_2 * x9_3)))) (fun x17_10 => jbind (f_X11_cross σ x1 x2 x3) (fun r_11 => jchk (inL r_11 ∧ inL 0) (if r_11 < 0 then some (-x17_10) else some x17_10))))))))))))))))))))))))))))))
def f_X11_within (σ : St) (x1 x2 x3 x4 : Int) : Option Int := f_X11_within_b0 σ x1 x2 x3 x4
def f_X11_roundOf_b56 (σ : St) (x1 x2 x3 x4 x5 t0 : Int) : Option ((Int × Int) ⊕ (Unit ⊕ Int)) :=
  jlet t0 (fun x6_4 => jchk (inL x6_4 ∧ inL 0) (if (0 : Int) < x6_4 then some (.inr (.inl ())) else jchk (inL x6_4 ∧ inL 0) (if x6_4 = 0 then jlet (jor x4 (jshl 1 x5)) (fun x4_6 => jlet (x5 + 1) (fun x5_7 => some (.inl (x4_6, x5_7)))) else jlet (x5 + 1) (fun x5_5 => some (.inl (x4, x5_5))))))
def f_X11_roundOf_b6 (σ : St) (x1 x2 x3 x4 x5 : Int) : Option ((Int × Int) ⊕ (Unit ⊕ Int)) :=
  jchk (inI x5 ∧ inI 24) (if x5 < 24 then jbind (f_X11_counts σ x5) (fun r_3 => jchk (inI r_3) (if r_3 = 0 then jlet (x5 + 1) (fun x5_9 => some (.inl (x4, x5_9))) else jchk (inI x5 ∧ inI x1) (if x5 = x1 then f_X11_roundOf_b56 σ x1 x2 x3 x4 x5 0 else jchk (inI x5 ∧ inI x2) (if x5 = x2 then f_X11_roundOf_b56 σ x1 x2 x3 x4 x5 0 else jchk (inI x5 ∧ inI x3) (if x5 = x3 then f_X11_roundOf_b56 σ x1 x2 x3 x4 x5 0 else jbind (f_X11_within σ x1 x2 x3 x5) (fun r_8 => f_X11_roundOf_b56 σ x1 x2 x3 x4 x5 r_8)))))) else some (.inr (.inr (x4))))
def f_X11_roundOf_b0 (σ : St) (x1 x2 x3 : Int) : Option Int :=
  jlet (0 : Int) (fun x4_1 => jlet (0 : Int) (fun x5_2 => jbind (jloop (fun (q : (Int × Int)) => match q with | (x4, x5) => f_X11_roundOf_b6 σ x1 x2 x3 x4 x5) 1000 (x4_1, x5_2)) (fun q => match q with | .inl () => some 0 | .inr (x4_10) => some x4_10)))
def f_X11_roundOf (σ : St) (x1 x2 x3 : Int) : Option Int := f_X11_roundOf_b0 σ x1 x2 x3
def f_X11_ringsOf_b27 (σ : St) (x1 x2 x3 : Int) : Option ((St × Int) ⊕ St) :=
  jchk (inI x3 ∧ inI 24) (if x3 < 24 then jbind (f_X11_counts σ x1) (fun r_5 => jchk (inI r_5) (if r_5 = 0 then jlet (x3 + 1) (fun x3_6 => some (.inl (σ, x3_6))) else jbind (f_X11_counts σ x2) (fun r_7 => jchk (inI r_7) (if r_7 = 0 then jlet (x3 + 1) (fun x3_8 => some (.inl (σ, x3_8))) else jbind (f_X11_counts σ x3) (fun r_9 => jchk (inI r_9) (if r_9 = 0 then jlet (x3 + 1) (fun x3_10 => some (.inl (σ, x3_10))) else jbind (f_X11_cross σ x1 x2 x3) (fun r_11 => jchk (inL r_11 ∧ inL 0) (if r_11 = 0 then jlet (x3 + 1) (fun x3_22 => some (.inl (σ, x3_22))) else jbind (f_X11_roundOf σ x1 x2 x3) (fun r_12 => jlet r_12 (fun x4_13 => jchk (inI x4_13) (if x4_13 = 0 then jlet (x3 + 1) (fun x3_14 => some (.inl (σ, x3_14))) else jchk (inI (jand x4_13 ((jshl 1 x3) - 1)) ∧ inI (jor (jshl 1 x1) (jshl 1 x2))) (if (jand x4_13 ((jshl 1 x3) - 1)) = (jor (jshl 1 x1) (jshl 1 x2)) then jchk (0 ≤ σ 0 29 ∧ σ 0 29 < 64) (jlet (up2 σ 21 (σ 0 29).toNat x4_13) (fun σ_15 => jchk (0 ≤ σ_15 0 29 ∧ σ_15 0 29 < 64) (jlet (up2 σ_15 22 (σ_15 0 29).toNat x1) (fun σ_16 => jchk (0 ≤ σ_16 0 29 ∧ σ_16 0 29 < 64) (jlet (up2 σ_16 23 (σ_16 0 29).toNat x2) (fun σ_17 => jchk (0 ≤ σ_17 0 29 ∧ σ_17 0 29 < 64) (jlet (up2 σ_17 24 (σ_17 0 29).toNat x3) (fun σ_18 => jlet (up2 σ_18 0 29 (σ_18 0 29 + 1)) (fun σ_19 => jlet (x3 + 1) (fun x3_20 => some (.inl (σ_19, x3_20)))))))))))) else jlet (x3 + 1) (fun x3_21 => some (.inl (σ, x3_21))))))))))))))) else some (.inr (σ)))
def f_X11_ringsOf_b17 (σ : St) (x1 x2 : Int) : Option ((St × Int) ⊕ St) :=
  jchk (inI x2 ∧ inI 24) (if x2 < 24 then jlet (x2 + 1) (fun x3_4 => jbind (jloop (fun (q : (St × Int)) => match q with | (σ, x3) => f_X11_ringsOf_b27 σ x1 x2 x3) 1000 (σ, x3_4)) (fun σ_23 => jlet (x2 + 1) (fun x2_24 => some (.inl (σ_23, x2_24))))) else some (.inr (σ)))
def f_X11_ringsOf_b7 (σ : St) (x1 : Int) : Option ((St × Int) ⊕ St) :=
  jchk (inI x1 ∧ inI 24) (if x1 < 24 then jlet (x1 + 1) (fun x2_3 => jbind (jloop (fun (q : (St × Int)) => match q with | (σ, x2) => f_X11_ringsOf_b17 σ x1 x2) 1000 (σ, x2_3)) (fun σ_25 => jlet (x1 + 1) (fun x1_26 => some (.inl (σ_25, x1_26))))) else some (.inr (σ)))
def f_X11_ringsOf_b0 (σ : St) : Option St :=
  jlet (up2 σ 0 29 (0 : Int)) (fun σ_1 => jlet (0 : Int) (fun x1_2 => jbind (jloop (fun (q : (St × Int)) => match q with | (σ, x1) => f_X11_ringsOf_b7 σ x1) 1000 (σ_1, x1_2)) (fun σ_27 => some σ_27)))
def f_X11_ringsOf (σ : St) : Option St := f_X11_ringsOf_b0 σ
def f_X11_middle_b255 (σ : St) (x2 x3 x4 x11 : Int) : Option St :=
  jbind (f_X11_apart σ x2 x3) (fun r_15 => jbind (f_X11_apart σ x3 x4) (fun r_16 => jbind (f_X11_apart σ x4 x2) (fun r_17 => jlet (up2 σ 0 37 ((r_15 * r_16) * r_17)) (fun σ_18 => jlet (up2 σ_18 0 38 ((4 * x11) * x11)) (fun σ_19 => some σ_19)))))
def f_X11_middle_b0 (σ : St) (x1 : Int) : Option St :=
  jchk (0 ≤ x1 ∧ x1 < 64) (jlet (σ 22 x1.toNat) (fun x2_1 => jchk (0 ≤ x1 ∧ x1 < 64) (jlet (σ 23 x1.toNat) (fun x3_2 => jchk (0 ≤ x1 ∧ x1 < 64) (jlet (σ 24 x1.toNat) (fun x4_3 => jchk (0 ≤ x2_1 ∧ x2_1 < 24) (jchk (inI (σ 2 x2_1.toNat)) (jchk (0 ≤ x2_1 ∧ x2_1 < 24) (jchk (inI (σ 3 x2_1.toNat)) (jbind (f_X11_square (σ 2 x2_1.toNat) (σ 3 x2_1.toNat)) (fun r_4 => jlet r_4 (fun x5_5 => jchk (0 ≤ x3_2 ∧ x3_2 < 24) (jchk (inI (σ 2 x3_2.toNat)) (jchk (0 ≤ x3_2 ∧ x3_2 < 24) (jchk (inI (σ 3 x3_2.toNat)) (jbind (f_X11_square (σ 2 x3_2.toNat) (σ 3 x3_2.toNat)) (fun r_6 => jlet r_6 (fun x7_7 => jchk (0 ≤ x4_3 ∧ x4_3 < 24) (jchk (inI (σ 2 x4_3.toNat)) (jchk (0 ≤ x4_3 ∧ x4_3 < 24) (jchk (inI (σ 3 x4_3.toNat)) (jbind (f_X11_square (σ 2 x4_3.toNat) (σ 3 x4_3.toNat)) (fun r_8 => jlet r_8 (fun x9_9 => jbind (f_X11_cross σ x2_1 x3_2 x4_3) (fun r_10 => jlet r_10 (fun x11_11 => jlet (up2 σ 0 36 (2 * x11_11)) (fun σ_12 => jchk (0 ≤ x3_2 ∧ x3_2 < 24) (jchk (0 ≤ x4_3 ∧ x4_3 < 24) (jchk (inI (σ_12 3 x3_2.toNat - σ_12 3 x4_3.toNat)) (jchk (0 ≤ x4_3 ∧ x4_3 < 24) (jchk (0 ≤ x2_1 ∧ x2_1 < 24) (jchk (inI (σ_12 3 x4_3.toNat - σ_12 3 x2_1.toNat)) (jchk (0 ≤ x2_1 ∧ x2_1 < 24) (jchk (0 ≤ x3_2 ∧ x3_2 < 24) (jchk (inI (σ_12 3 x2_1.toNat - σ_12 3 x3_2.toNat)) (jlet (up2 σ_12 0 34 (((x5_5 * (σ_12 3 x3_2.toNat - σ_12 3 x4_3.toNat)) + (x7_7 * (σ_12 3 x4_3.toNat - σ_12 3 x2_1.toNat))) + (x9_9 * (σ_12 3 x2_1.toNat - σ_12 3 x3_2.toNat)))) (fun σ_13 => jchk (0 ≤ x4_3 ∧ x4_3 < 24) (jchk (0 ≤ x3_2 ∧ x3_2 < 24) (jchk (inI (σ_13 2 x4_3.toNat - σ_13 2 x3_2.toNat)) (jchk (0 ≤ x2_1 ∧ x2_1 < 24) (jchk (0 ≤ x4_3 ∧ x4_3 < 24) (jchk (inI (σ_13 2 x2_1.toNat - σ_13 2 x4_3.toNat)) (jchk (0 ≤ x3_2 ∧ x3_2 < 24) (jchk (0 ≤ x2_1 ∧ x2_1 < 24) (jchk (inI (σ_13 2 x3_2.toNat - σ_13 2 x2_1.toNat)) (jlet (up2 σ_13 0 35 (((x5_5 * (σ_13 2 x4_3.toNat - σ_13 2 x3_2.toNat)) + (x7_7 * (σ_13 2 x2_1.toNat - σ_13 2 x4_3.toNat))) + (x9_9 * (σ_13 2 x3_2.toNat - σ_13 2 x2_1.toNat)))) (fun σ_14 => jchk (inL (σ_14 0 36) ∧ inL 0) (if σ_14 0 36 < 0 then jlet (up2 σ_14 0 36 (-σ_14 0 36)) (fun σ_20 => jlet (up2 σ_20 0 34 (-σ_20 0 34)) (fun σ_21 => jlet (up2 σ_21 0 35 (-σ_21 0 35)) (fun σ_22 => f_X11_middle_b255 σ_22 x2_1 x3_2 x4_3 x11_11))) else f_X11_middle_b255 σ_14 x2_1 x3_2 x4_3 x11_11))))))))))))))))))))))))))))))))))))))))))))))))
def f_X11_middle (σ : St) (x1 : Int) : Option St := f_X11_middle_b0 σ x1
def f_X11_largestOf_b46 (σ : St) (x1 t1 t2 : Int) : Option ((St × Int) ⊕ St) :=
  jbind (f_X11_tries σ t1 t2 1) (fun σ_3 => jlet (x1 + 1) (fun x1_4 => some (.inl (σ_3, x1_4))))
def f_X11_largestOf_b32 (σ : St) (x1 t1 : Int) : Option ((St × Int) ⊕ St) :=
  jchk (inI x1 ∧ inI 1) (if (1 : Int) < x1 then jchk (inI (σ 0 1)) (f_X11_largestOf_b46 σ x1 t1 (σ 0 1)) else f_X11_largestOf_b46 σ x1 t1 0)
def f_X11_largestOf_b23 (σ : St) (x1 : Int) : Option ((St × Int) ⊕ St) :=
  jchk (inI (σ 0 0)) (f_X11_largestOf_b32 σ x1 (σ 0 0))
def f_X11_largestOf_b7 (σ : St) (x1 : Int) : Option ((St × Int) ⊕ St) :=
  jchk (inI x1 ∧ inI 4) (if x1 < 4 then jchk (inI x1 ∧ inI 1) (if x1 = 1 then f_X11_largestOf_b23 σ x1 else jchk (inI x1 ∧ inI 2) (if x1 = 2 then f_X11_largestOf_b23 σ x1 else f_X11_largestOf_b32 σ x1 0)) else some (.inr (σ)))
def f_X11_largestOf_b68 (σ : St) (x1 x2 : Int) : Option ((St × Int) ⊕ St) :=
  jchk (inI x2 ∧ inI 24) (if x2 < 24 then jbind (f_X11_counts σ x1) (fun r_8 => jchk (inI r_8) (if r_8 = 0 then jlet (x2 + 1) (fun x2_9 => some (.inl (σ, x2_9))) else jbind (f_X11_counts σ x2) (fun r_10 => jchk (inI r_10) (if r_10 = 0 then jlet (x2 + 1) (fun x2_11 => some (.inl (σ, x2_11))) else jbind (f_X11_triesSides σ x1 x2) (fun σ_12 => jlet (x2 + 1) (fun x2_13 => some (.inl (σ_12, x2_13)))))))) else some (.inr (σ)))
def f_X11_largestOf_b58 (σ : St) (x1 : Int) : Option ((St × Int) ⊕ St) :=
  jchk (inI x1 ∧ inI 24) (if x1 < 24 then jlet (x1 + 1) (fun x2_7 => jbind (jloop (fun (q : (St × Int)) => match q with | (σ, x2) => f_X11_largestOf_b68 σ x1 x2) 1000 (σ, x2_7)) (fun σ_14 => jlet (x1 + 1) (fun x1_15 => some (.inl (σ_14, x1_15))))) else some (.inr (σ)))
def f_X11_largestOf_b114 (σ : St) (x1 : Int) : Option ((St × Int) ⊕ St) :=
  jchk (inI x1 ∧ inI (σ 0 29)) (if x1 < σ 0 29 then jbind (f_X11_middle σ x1) (fun σ_19 => jchk (inL (σ_19 0 34) ∧ inL 0) (if σ_19 0 34 < 0 then jlet (x1 + 1) (fun x1_20 => some (.inl (σ_19, x1_20))) else jchk (inI (σ_19 0 0)) (jchk (inL (σ_19 0 34) ∧ inL (σ_19 0 0 * σ_19 0 36)) (if (σ_19 0 0 * σ_19 0 36) < σ_19 0 34 then jlet (x1 + 1) (fun x1_21 => some (.inl (σ_19, x1_21))) else jchk (inL (σ_19 0 35) ∧ inL 0) (if σ_19 0 35 < 0 then jlet (x1 + 1) (fun x1_22 => some (.inl (σ_19, x1_22))) else jchk (inI (σ_19 0 1)) (jchk (inL (σ_19 0 35) ∧ inL (σ_19 0 1 * σ_19 0 36)) (if (σ_19 0 1 * σ_19 0 36) < σ_19 0 35 then jlet (x1 + 1) (fun x1_23 => some (.inl (σ_19, x1_23))) else jbind (f_X11_better σ_19) (fun σ_24 => jlet (x1 + 1) (fun x1_25 => some (.inl (σ_24, x1_25))))))))))) else some (.inr (σ)))
def f_X11_largestOf_b0 (σ : St) : Option St :=
  jchk ((0 : Int) = 0 ∨ (0 : Int) = 1) (jlet (up2 σ 0 39 (0 : Int)) (fun σ_1 => jlet (0 : Int) (fun x1_2 => jbind (jloop (fun (q : (St × Int)) => match q with | (σ, x1) => f_X11_largestOf_b7 σ x1) 1000 (σ_1, x1_2)) (fun σ_5 => jlet (0 : Int) (fun x1_6 => jbind (jloop (fun (q : (St × Int)) => match q with | (σ, x1) => f_X11_largestOf_b58 σ x1) 1000 (σ_5, x1_6)) (fun σ_16 => jbind (f_X11_ringsOf σ_16) (fun σ_17 => jlet (0 : Int) (fun x1_18 => jbind (jloop (fun (q : (St × Int)) => match q with | (σ, x1) => f_X11_largestOf_b114 σ x1) 1000 (σ_17, x1_18)) (fun σ_26 => some σ_26)))))))))
def f_X11_largestOf (σ : St) : Option St := f_X11_largestOf_b0 σ
def f_X11_middleTold_b57 (σ : St) (t0 t1 t2 : Int) : Option Int :=
  jbind (f_X11_lowest t0 t1 t2) (fun r_1 => some r_1)
def f_X11_middleTold_b79 (σ : St) (t0 t1 t2 : Int) : Option Int :=
  jbind (f_X11_lowest t0 t1 t2) (fun r_2 => some r_2)
def f_X11_middleTold_b101 (σ : St) (t0 t1 t2 : Int) : Option Int :=
  jbind (f_X11_lowest t0 t1 t2) (fun r_3 => some r_3)
def f_X11_middleTold_b0 (σ : St) (x1 : Int) : Option Int :=
  jchk (inI x1) (if x1 = 0 then jchk (inI x1) (if x1 = 0 then f_X11_middleTold_b57 σ (σ 0 34) (σ 0 36) 1 else f_X11_middleTold_b57 σ (σ 0 34) (σ 0 36) 0) else if x1 = 1 then jchk (inI x1) (if x1 = 0 then f_X11_middleTold_b57 σ (σ 0 34) (σ 0 36) 1 else f_X11_middleTold_b57 σ (σ 0 34) (σ 0 36) 0) else if x1 = 2 then jchk (inI x1 ∧ inI 2) (if x1 = 2 then f_X11_middleTold_b79 σ (σ 0 35) (σ 0 36) 1 else f_X11_middleTold_b79 σ (σ 0 35) (σ 0 36) 0) else if x1 = 3 then jchk (inI x1 ∧ inI 2) (if x1 = 2 then f_X11_middleTold_b79 σ (σ 0 35) (σ 0 36) 1 else f_X11_middleTold_b79 σ (σ 0 35) (σ 0 36) 0) else if x1 = 4 then jchk (inI x1 ∧ inI 4) (if x1 = 4 then f_X11_middleTold_b101 σ (σ 0 37) (σ 0 38) 1 else f_X11_middleTold_b101 σ (σ 0 37) (σ 0 38) 0) else if x1 = 5 then jchk (inI x1 ∧ inI 4) (if x1 = 4 then f_X11_middleTold_b101 σ (σ 0 37) (σ 0 38) 1 else f_X11_middleTold_b101 σ (σ 0 37) (σ 0 38) 0) else some (-1))
def f_X11_middleTold (σ : St) (x1 : Int) : Option Int := f_X11_middleTold_b0 σ x1
def f_X11_largest_b0 (σ : St) (x1 : Int) : Option (Int × St) :=
  jbind (f_X11_count σ 1) (fun r_1 => jchk (inI r_1) (if r_1 = 0 then some ((-1), σ) else jchk (inI x1) (if x1 < 0 then some ((-1), σ) else jchk (inI x1 ∧ inI 5) (if (5 : Int) < x1 then some ((-1), σ) else jbind (f_X11_largestOf σ) (fun σ_2 => jlet (up2 σ_2 0 34 (σ_2 0 40)) (fun σ_3 => jlet (up2 σ_3 0 35 (σ_3 0 41)) (fun σ_4 => jlet (up2 σ_4 0 36 (σ_4 0 42)) (fun σ_5 => jlet (up2 σ_5 0 37 (σ_5 0 43)) (fun σ_6 => jlet (up2 σ_6 0 38 (σ_6 0 44)) (fun σ_7 => jbind (f_X11_middleTold σ_7 x1) (fun r_8 => some (r_8, σ_7))))))))))))
def f_X11_largest (σ : St) (x1 : Int) : Option (Int × St) := f_X11_largest_b0 σ x1
def f_X11_sinks_b38 (σ : St) (x1 x2 x3 x4 x5 : Int) : Option (Int ⊕ (Unit ⊕ Unit)) :=
  jchk (inI x5 ∧ inI 24) (if x5 < 24 then jchk (0 ≤ x5 ∧ x5 < 24) (jchk (inI (σ 1 x5.toNat)) (if σ 1 x5.toNat = 0 then jlet (x5 + 1) (fun x5_3 => some (.inl x5_3)) else jchk (0 ≤ x5 ∧ x5 < 24) (jchk (inI (σ 2 x5.toNat) ∧ inI x1) (if σ 2 x5.toNat = x1 then jchk (0 ≤ x5 ∧ x5 < 24) (jchk (inI (σ 3 x5.toNat) ∧ inI x2) (if σ 3 x5.toNat = x2 then some (.inr (.inl ())) else jlet (x5 + 1) (fun x5_5 => some (.inl x5_5)))) else jlet (x5 + 1) (fun x5_4 => some (.inl x5_4)))))) else some (.inr (.inr (()))))
def f_X11_sinks_b89 (σ : St) (x1 x2 x3 x4 x5 : Int) : Option (Int ⊕ Int) :=
  jchk (inI x5 ∧ inI 24) (if x5 < 24 then jchk (0 ≤ x5 ∧ x5 < 24) (jchk (inI (σ 1 x5.toNat)) (if σ 1 x5.toNat = 0 then some (.inr (x5)) else jlet (x5 + 1) (fun x5_7 => some (.inl x5_7)))) else some (.inr (x5)))
def f_X11_sinks_b0 (σ : St) (x1 x2 x3 x4 : Int) : Option (Int × St) :=
  jchk (inI x1) (if x1 < 0 then some ((-1), σ) else jchk (inI x1 ∧ inI (σ 0 0)) (if σ 0 0 < x1 then some ((-1), σ) else jchk (inI x2) (if x2 < 0 then some ((-1), σ) else jchk (inI x2 ∧ inI (σ 0 1)) (if σ 0 1 < x2 then some ((-1), σ) else jbind (f_X11_mayBe x3 x4) (fun r_1 => jchk (inI r_1) (if r_1 = 0 then some ((-1), σ) else jlet (0 : Int) (fun x5_2 => jbind (jloop (fun (x5 : Int) => f_X11_sinks_b38 σ x1 x2 x3 x4 x5) 1000 x5_2) (fun q => match q with | .inl () => some ((-2), σ) | .inr (()) => jlet (0 : Int) (fun x5_6 => jbind (jloop (fun (x5 : Int) => f_X11_sinks_b89 σ x1 x2 x3 x4 x5) 1000 x5_6) (fun x5_8 => jchk (inI x5_8 ∧ inI 24) (if x5_8 = 24 then some ((-3), σ) else jchk ((0 ≤ x5_8 ∧ x5_8 < 24) ∧ ((1 : Int) = 0 ∨ (1 : Int) = 1)) (jlet (up2 σ 1 x5_8.toNat (1 : Int)) (fun σ_9 => jchk (0 ≤ x5_8 ∧ x5_8 < 24) (jlet (up2 σ_9 2 x5_8.toNat x1) (fun σ_10 => jchk (0 ≤ x5_8 ∧ x5_8 < 24) (jlet (up2 σ_10 3 x5_8.toNat x2) (fun σ_11 => jchk (0 ≤ x5_8 ∧ x5_8 < 24) (jlet (up2 σ_11 4 x5_8.toNat x3) (fun σ_12 => jchk (0 ≤ x5_8 ∧ x5_8 < 24) (jlet (up2 σ_12 5 x5_8.toNat x4) (fun σ_13 => some (x5_8, σ_13))))))))))))))))))))))
def f_X11_sinks (σ : St) (x1 x2 x3 x4 : Int) : Option (Int × St) := f_X11_sinks_b0 σ x1 x2 x3 x4
def f_X11_lay_b29 (σ : St) (x1 x2 x3 : Int) : Option ((St × Int) ⊕ ((St × Int) ⊕ St)) :=
  jchk (inI x3 ∧ inI x2) (if x3 < x2 then jlet ((32 * x1) + (4 * x3)) (fun x4_4 => jchk (0 ≤ x4_4 ∧ x4_4 < 256) (jchk (0 ≤ (x4_4 + 1) ∧ (x4_4 + 1) < 256) (jchk (0 ≤ (x4_4 + 2) ∧ (x4_4 + 2) < 256) (jchk (0 ≤ (x4_4 + 3) ∧ (x4_4 + 3) < 256) (jbind (f_X11_sinks σ (σ 32 x4_4.toNat) (σ 32 (x4_4 + 1).toNat) (σ 32 (x4_4 + 2).toNat) (σ 32 (x4_4 + 3).toNat)) (fun q => match q with | (r_5, σ_6) => jchk (0 ≤ x3 ∧ x3 < 8) (jlet (up2 σ_6 33 x3.toNat r_5) (fun σ_7 => jchk (0 ≤ x3 ∧ x3 < 8) (jchk (inI (σ_7 33 x3.toNat)) (if σ_7 33 x3.toNat < 0 then some (.inr (.inl (σ_7, x3))) else jlet (x3 + 1) (fun x3_8 => some (.inl (σ_7, x3_8))))))))))))) else some (.inr (.inr (σ))))
def f_X11_lay_b103 (σ : St) (x3 x5 : Int) : Option ((St × Int) ⊕ St) :=
  jchk (inI x5 ∧ inI x3) (if x5 < x3 then jchk (0 ≤ x5 ∧ x5 < 8) (jchk ((0 ≤ σ 33 x5.toNat ∧ σ 33 x5.toNat < 24) ∧ ((0 : Int) = 0 ∨ (0 : Int) = 1)) (jlet (up2 σ 1 (σ 33 x5.toNat).toNat (0 : Int)) (fun σ_12 => jlet (x5 + 1) (fun x5_13 => some (.inl (σ_12, x5_13)))))) else some (.inr (σ)))
def f_X11_lay_b141 (σ : St) (x2 x3 : Int) : Option ((St × Int) ⊕ St) :=
  jchk (inI x3 ∧ inI x2) (if x3 < x2 then jchk (0 ≤ x3 ∧ x3 < 8) (jchk ((0 ≤ σ 33 x3.toNat ∧ σ 33 x3.toNat < 24) ∧ ((0 : Int) = 0 ∨ (0 : Int) = 1)) (jlet (up2 σ 1 (σ 33 x3.toNat).toNat (0 : Int)) (fun σ_17 => jlet (x3 + 1) (fun x3_18 => some (.inl (σ_17, x3_18)))))) else some (.inr (σ)))
def f_X11_lay_b170 (σ : St) (x2 x3 : Int) : Option ((St × Int) ⊕ St) :=
  jchk (inI x3 ∧ inI x2) (if x3 < x2 then jchk (0 ≤ x3 ∧ x3 < 8) (jchk ((0 ≤ σ 33 x3.toNat ∧ σ 33 x3.toNat < 24) ∧ ((1 : Int) = 0 ∨ (1 : Int) = 1)) (jlet (up2 σ 1 (σ 33 x3.toNat).toNat (1 : Int)) (fun σ_22 => jlet (x3 + 1) (fun x3_23 => some (.inl (σ_22, x3_23)))))) else some (.inr (σ)))
def f_X11_lay_b0 (σ : St) (x1 : Int) : Option (Int × St) :=
  jbind (f_X11_isSheet x1) (fun r_1 => jchk (inI r_1) (if r_1 = 0 then some ((-1), σ) else jchk (0 ≤ x1 ∧ x1 < 8) (jchk (inI (σ 31 x1.toNat) ∧ inI (-1)) (if σ 31 x1.toNat = (-1) then some ((-1), σ) else jchk (0 ≤ x1 ∧ x1 < 8) (jlet (σ 31 x1.toNat) (fun x2_2 => jlet (0 : Int) (fun x3_3 => jbind (jloop (fun (q : (St × Int)) => match q with | (σ, x3) => f_X11_lay_b29 σ x1 x2_2 x3) 1000 (σ, x3_3)) (fun q => match q with | .inl (σ_9, x3_10) => jlet (0 : Int) (fun x5_11 => jbind (jloop (fun (q : (St × Int)) => match q with | (σ, x5) => f_X11_lay_b103 σ x3_10 x5) 1000 (σ_9, x5_11)) (fun σ_14 => some (((-2) - x3_10), σ_14))) | .inr (σ_15) => jlet (0 : Int) (fun x3_16 => jbind (jloop (fun (q : (St × Int)) => match q with | (σ, x3) => f_X11_lay_b141 σ x2_2 x3) 1000 (σ_15, x3_16)) (fun σ_19 => jbind (f_X11_keeps σ_19) (fun σ_20 => jlet (0 : Int) (fun x3_21 => jbind (jloop (fun (q : (St × Int)) => match q with | (σ, x3) => f_X11_lay_b170 σ x2_2 x3) 1000 (σ_20, x3_21)) (fun σ_24 => some (x2_2, σ_24))))))))))))))
def f_X11_lay (σ : St) (x1 : Int) : Option (Int × St) := f_X11_lay_b0 σ x1
def f_X11_line__b0 (σ : St) (x1 x2 x3 x4 x5 x6 : Int) : Option (Int × St) :=
  jbind (f_X11_isSheet x1) (fun r_1 => jchk (inI r_1) (if r_1 = 0 then some (0, σ) else jchk (inI x2) (if x2 < 0 then some (0, σ) else jchk (0 ≤ x1 ∧ x1 < 8) (jchk (inI x2 ∧ inI (σ 31 x1.toNat)) (if x2 < σ 31 x1.toNat then jlet ((32 * x1) + (4 * x2)) (fun x7_2 => jchk (0 ≤ x7_2 ∧ x7_2 < 256) (jlet (up2 σ 32 x7_2.toNat x3) (fun σ_3 => jchk (0 ≤ (x7_2 + 1) ∧ (x7_2 + 1) < 256) (jlet (up2 σ_3 32 (x7_2 + 1).toNat x4) (fun σ_4 => jchk (0 ≤ (x7_2 + 2) ∧ (x7_2 + 2) < 256) (jlet (up2 σ_4 32 (x7_2 + 2).toNat x5) (fun σ_5 => jchk (0 ≤ (x7_2 + 3) ∧ (x7_2 + 3) < 256) (jlet (up2 σ_5 32 (x7_2 + 3).toNat x6) (fun σ_6 => some (1, σ_6)))))))))) else some (0, σ))))))
def f_X11_line_ (σ : St) (x1 x2 x3 x4 x5 x6 : Int) : Option (Int × St) := jzw (f_X11_line__b0 σ x1 x2 x3 x4 x5 x6)
def f_X11_nearest_b14 (σ : St) (x1 x2 x3 : Int) : Option ((Int × Int) ⊕ Int) :=
  jchk (inI x3 ∧ inI 24) (if x3 < 24 then jchk (inI x3 ∧ inI x1) (if x3 = x1 then jlet (x3 + 1) (fun x3_4 => some (.inl (x2, x3_4))) else jbind (f_X11_counts σ x3) (fun r_5 => jchk (inI r_5) (if r_5 = 0 then jlet (x3 + 1) (fun x3_6 => some (.inl (x2, x3_6))) else jchk (inI x2 ∧ inI (-1)) (if x2 = (-1) then jlet x3 (fun x2_7 => jlet (x3 + 1) (fun x3_8 => some (.inl (x2_7, x3_8)))) else jbind (f_X11_apart σ x3 x1) (fun r_9 => jbind (f_X11_apart σ x2 x1) (fun r_10 => jchk (inL r_9 ∧ inL r_10) (if r_9 < r_10 then jlet x3 (fun x2_12 => jlet (x3 + 1) (fun x3_13 => some (.inl (x2_12, x3_13)))) else jlet (x3 + 1) (fun x3_11 => some (.inl (x2, x3_11)))))))))) else some (.inr (x2)))
def f_X11_nearest_b0 (σ : St) (x1 : Int) : Option Int :=
  jbind (f_X11_counts σ x1) (fun r_1 => jchk (inI r_1) (if r_1 = 0 then some (-1) else jlet ((-1) : Int) (fun x2_2 => jlet (0 : Int) (fun x3_3 => jbind (jloop (fun (q : (Int × Int)) => match q with | (x2, x3) => f_X11_nearest_b14 σ x1 x2 x3) 1000 (x2_2, x3_3)) (fun x2_14 => some x2_14)))))
def f_X11_nearest (σ : St) (x1 : Int) : Option Int := f_X11_nearest_b0 σ x1
def f_X11_next_b45 (σ : St) (x1 x2 x3 x4 x5 x6 x7 : Int) : Option ((Int × Int) ⊕ Int) :=
  jchk (inI x7 ∧ inI 24) (if x7 < 24 then jchk (inI x7 ∧ inI x5) (if x7 = x5 then jlet (x7 + 1) (fun x7_6 => some (.inl (x6, x7_6))) else jbind (f_X11_counts σ x7) (fun r_7 => jchk (inI r_7) (if r_7 = 0 then jlet (x7 + 1) (fun x7_17 => some (.inl (x6, x7_17))) else jbind (f_X11_cost σ x7 x1 x2 x3) (fun r_8 => jbind (f_X11_cost σ x5 x1 x2 x3) (fun r_9 => jlet (r_8 - r_9) (fun x8_10 => jchk (inL x8_10 ∧ inL 0) (if x8_10 < 0 then jlet (x6 + 1) (fun x6_11 => jlet (x7 + 1) (fun x7_12 => some (.inl (x6_11, x7_12)))) else jchk (inL x8_10 ∧ inL 0) (if x8_10 = 0 then jchk (inI x7 ∧ inI x5) (if x7 < x5 then jlet (x6 + 1) (fun x6_15 => jlet (x7 + 1) (fun x7_16 => some (.inl (x6_15, x7_16)))) else jlet (x7 + 1) (fun x7_14 => some (.inl (x6, x7_14)))) else jlet (x7 + 1) (fun x7_13 => some (.inl (x6, x7_13))))))))))) else some (.inr (x6)))
def f_X11_next_b20 (σ : St) (x1 x2 x3 x4 x5 : Int) : Option (Int ⊕ (Int ⊕ Unit)) :=
  jchk (inI x5 ∧ inI 24) (if x5 < 24 then jbind (f_X11_counts σ x5) (fun r_3 => jchk (inI r_3) (if r_3 = 0 then jlet (x5 + 1) (fun x5_20 => some (.inl x5_20)) else jlet (0 : Int) (fun x6_4 => jlet (0 : Int) (fun x7_5 => jbind (jloop (fun (q : (Int × Int)) => match q with | (x6, x7) => f_X11_next_b45 σ x1 x2 x3 x4 x5 x6 x7) 1000 (x6_4, x7_5)) (fun x6_18 => jchk (inI x6_18 ∧ inI x4) (if x6_18 = x4 then some (.inr (.inl x5)) else jlet (x5 + 1) (fun x5_19 => some (.inl x5_19)))))))) else some (.inr (.inr (()))))
def f_X11_next_b0 (σ : St) (x1 x2 x3 x4 : Int) : Option Int :=
  jbind (f_X11_isPoint σ x1 x2 x3) (fun r_1 => jchk (inI r_1) (if r_1 = 0 then some (-1) else jchk (inI x4) (if x4 < 0 then some (-1) else jlet (0 : Int) (fun x5_2 => jbind (jloop (fun (x5 : Int) => f_X11_next_b20 σ x1 x2 x3 x4 x5) 1000 x5_2) (fun q => match q with | .inl x5_21 => some x5_21 | .inr (()) => some (-1))))))
def f_X11_next (σ : St) (x1 x2 x3 x4 : Int) : Option Int := f_X11_next_b0 σ x1 x2 x3 x4
def f_X11_tree_b7 (σ : St) (x1 : Int) : Option ((St × Int) ⊕ St) :=
  jchk (inI x1 ∧ inI 24) (if x1 < 24 then jchk (0 ≤ x1 ∧ x1 < 26) (jlet (up2 σ 27 x1.toNat x1) (fun σ_3 => jlet (x1 + 1) (fun x1_4 => some (.inl (σ_3, x1_4))))) else some (.inr (σ)))
def f_X11_tree_b120 (σ : St) (x4 x5 : Int) : Option ((Int × Int × Int) ⊕ (Int × Int)) :=
  jlet x4 (fun x2_16 => jlet x5 (fun x3_17 => jlet (x5 + 1) (fun x5_18 => some (.inl (x2_16, x3_17, x5_18)))))
def f_X11_tree_b52 (σ : St) (x2 x3 x4 x5 : Int) : Option ((Int × Int × Int) ⊕ (Int × Int)) :=
  jchk (inI x5 ∧ inI 24) (if x5 < 24 then jbind (f_X11_counts σ x4) (fun r_11 => jchk (inI r_11) (if r_11 = 0 then jlet (x5 + 1) (fun x5_12 => some (.inl (x2, x3, x5_12))) else jbind (f_X11_counts σ x5) (fun r_13 => jchk (inI r_13) (if r_13 = 0 then jlet (x5 + 1) (fun x5_14 => some (.inl (x2, x3, x5_14))) else jchk (0 ≤ x4 ∧ x4 < 26) (jchk (0 ≤ x5 ∧ x5 < 26) (jchk (inI (σ 27 x4.toNat) ∧ inI (σ 27 x5.toNat)) (if σ 27 x4.toNat = σ 27 x5.toNat then jlet (x5 + 1) (fun x5_15 => some (.inl (x2, x3, x5_15))) else jchk (inI x2 ∧ inI (-1)) (if x2 = (-1) then f_X11_tree_b120 σ x4 x5 else jbind (f_X11_apart σ x4 x5) (fun r_19 => jbind (f_X11_apart σ x2 x3) (fun r_20 => jchk (inL r_19 ∧ inL r_20) (if r_19 < r_20 then f_X11_tree_b120 σ x4 x5 else jlet (x5 + 1) (fun x5_21 => some (.inl (x2, x3, x5_21)))))))))))))) else some (.inr ((x2, x3))))
def f_X11_tree_b39 (σ : St) (x2 x3 x4 : Int) : Option ((Int × Int × Int) ⊕ (Int × Int)) :=
  jchk (inI x4 ∧ inI 24) (if x4 < 24 then jlet (x4 + 1) (fun x5_10 => jbind (jloop (fun (q : (Int × Int × Int)) => match q with | (x2, x3, x5) => f_X11_tree_b52 σ x2 x3 x4 x5) 1000 (x2, x3, x5_10)) (fun q => match q with | (x2_22, x3_23) => jlet (x4 + 1) (fun x4_24 => some (.inl (x2_22, x3_23, x4_24))))) else some (.inr ((x2, x3))))
def f_X11_tree_b197 (σ : St) (x1 x2 x4 x5 : Int) : Option ((St × Int) ⊕ St) :=
  jchk (inI x5 ∧ inI 24) (if x5 < 24 then jchk (0 ≤ x5 ∧ x5 < 26) (jchk (inI (σ 27 x5.toNat) ∧ inI x4) (if σ 27 x5.toNat = x4 then jchk (0 ≤ x2 ∧ x2 < 26) (jchk (0 ≤ x5 ∧ x5 < 26) (jlet (up2 σ 27 x5.toNat (σ 27 x2.toNat)) (fun σ_34 => jlet (x5 + 1) (fun x5_35 => some (.inl (σ_34, x5_35)))))) else jlet (x5 + 1) (fun x5_33 => some (.inl (σ, x5_33))))) else some (.inr (σ)))
def f_X11_tree_b148 (σ : St) (x2 x3 t0 : Int) : Option ((St × Int) ⊕ St) :=
  jlet t0 (fun x1_27 => jchk (inI x1_27) (if x1_27 = 0 then some (.inl (σ, x1_27)) else jchk (0 ≤ σ 0 45 ∧ σ 0 45 < 24) (jlet (up2 σ 25 (σ 0 45).toNat x2) (fun σ_28 => jchk (0 ≤ σ_28 0 45 ∧ σ_28 0 45 < 24) (jlet (up2 σ_28 26 (σ_28 0 45).toNat x3) (fun σ_29 => jlet (up2 σ_29 0 45 (σ_29 0 45 + 1)) (fun σ_30 => jchk (0 ≤ x3 ∧ x3 < 26) (jlet (σ_30 27 x3.toNat) (fun x4_31 => jlet (0 : Int) (fun x5_32 => jbind (jloop (fun (q : (St × Int)) => match q with | (σ, x5) => f_X11_tree_b197 σ x1_27 x2 x4_31 x5) 1000 (σ_30, x5_32)) (fun σ_36 => some (.inl (σ_36, x1_27)))))))))))))
def f_X11_tree_b28 (σ : St) (x1 : Int) : Option ((St × Int) ⊕ St) :=
  jchk (inI x1) (if x1 = 0 then some (.inr (σ)) else jlet ((-1) : Int) (fun x2_7 => jlet ((-1) : Int) (fun x3_8 => jlet (0 : Int) (fun x4_9 => jbind (jloop (fun (q : (Int × Int × Int)) => match q with | (x2, x3, x4) => f_X11_tree_b39 σ x2 x3 x4) 1000 (x2_7, x3_8, x4_9)) (fun q => match q with | (x2_25, x3_26) => jchk (inI x2_25 ∧ inI (-1)) (if x2_25 = (-1) then f_X11_tree_b148 σ x2_25 x3_26 0 else f_X11_tree_b148 σ x2_25 x3_26 1))))))
def f_X11_tree_b0 (σ : St) : Option (Int × St) :=
  jlet (up2 σ 0 45 (0 : Int)) (fun σ_1 => jlet (0 : Int) (fun x1_2 => jbind (jloop (fun (q : (St × Int)) => match q with | (σ, x1) => f_X11_tree_b7 σ x1) 1000 (σ_1, x1_2)) (fun σ_5 => jlet (1 : Int) (fun x1_6 => jbind (jloop (fun (q : (St × Int)) => match q with | (σ, x1) => f_X11_tree_b28 σ x1) 1000 (σ_5, x1_6)) (fun σ_37 => some (σ_37 0 45, σ_37))))))
def f_X11_tree (σ : St) : Option (Int × St) := f_X11_tree_b0 σ
def f_X11_pipe_b0 (σ : St) (x1 x2 : Int) : Option (Int × St) :=
  jbind (f_X11_tree σ) (fun q => match q with | (r_1, σ_2) => jchk (inI r_1 ∧ inI x1) (if x1 < r_1 then jchk (inI x1) (if x1 < 0 then some ((-1), σ_2) else jchk (inI x2) (if x2 = 0 then jchk (0 ≤ x1 ∧ x1 < 24) (some (σ_2 25 x1.toNat, σ_2)) else jchk (inI x2 ∧ inI 1) (if x2 = 1 then jchk (0 ≤ x1 ∧ x1 < 24) (some (σ_2 26 x1.toNat, σ_2)) else jchk (inI x2 ∧ inI 2) (if x2 = 2 then jchk (0 ≤ x1 ∧ x1 < 24) (jchk (0 ≤ x1 ∧ x1 < 24) (jbind (f_X11_apart σ_2 (σ_2 25 x1.toNat) (σ_2 26 x1.toNat)) (fun r_3 => some (r_3, σ_2)))) else some ((-1), σ_2))))) else some ((-1), σ_2)))
def f_X11_pipe (σ : St) (x1 x2 : Int) : Option (Int × St) := f_X11_pipe_b0 σ x1 x2
def f_X11_rectangle_b28 (σ : St) (x1 x2 x3 : Int) : Option (Int ⊕ (Unit ⊕ Unit)) :=
  jchk (inI x3 ∧ inI 24) (if x3 < 24 then jchk (0 ≤ x3 ∧ x3 < 24) (jchk (inI (σ 1 x3.toNat)) (if σ 1 x3.toNat = 0 then jlet (x3 + 1) (fun x3_2 => some (.inl x3_2)) else jchk (0 ≤ x3 ∧ x3 < 24) (jchk (inI (σ 2 x3.toNat) ∧ inI x1) (if x1 < σ 2 x3.toNat then some (.inr (.inl ())) else jchk (0 ≤ x3 ∧ x3 < 24) (jchk (inI (σ 3 x3.toNat) ∧ inI x2) (if x2 < σ 3 x3.toNat then some (.inr (.inl ())) else jlet (x3 + 1) (fun x3_3 => some (.inl x3_3)))))))) else some (.inr (.inr (()))))
def f_X11_rectangle_b0 (σ : St) (x1 x2 : Int) : Option (Int × St) :=
  jchk (inI x1 ∧ inI 1) (if x1 < 1 then some (0, σ) else jchk (inI x1 ∧ inI 1000) (if (1000 : Int) < x1 then some (0, σ) else jchk (inI x2 ∧ inI 1) (if x2 < 1 then some (0, σ) else jchk (inI x2 ∧ inI 1000) (if (1000 : Int) < x2 then some (0, σ) else jlet (0 : Int) (fun x3_1 => jbind (jloop (fun (x3 : Int) => f_X11_rectangle_b28 σ x1 x2 x3) 1000 x3_1) (fun q => match q with | .inl () => some (0, σ) | .inr (()) => jbind (f_X11_keeps σ) (fun σ_4 => jlet (up2 σ_4 0 0 x1) (fun σ_5 => jlet (up2 σ_5 0 1 x2) (fun σ_6 => some (1, σ_6))))))))))
def f_X11_rectangle (σ : St) (x1 x2 : Int) : Option (Int × St) := jzw (f_X11_rectangle_b0 σ x1 x2)
def f_X11_ring_b0 (σ : St) (x1 : Int) : Option (Int × St) :=
  jbind (f_X11_ringsOf σ) (fun σ_1 => jchk (inI x1) (if x1 < 0 then some (0, σ_1) else jchk (inI x1 ∧ inI (σ_1 0 29)) (if x1 < σ_1 0 29 then jchk (0 ≤ x1 ∧ x1 < 64) (some (σ_1 21 x1.toNat, σ_1)) else some (0, σ_1))))
def f_X11_ring (σ : St) (x1 : Int) : Option (Int × St) := f_X11_ring_b0 σ x1
def f_X11_rings_b0 (σ : St) : Option (Int × St) :=
  jbind (f_X11_ringsOf σ) (fun σ_1 => some (σ_1 0 29, σ_1))
def f_X11_rings (σ : St) : Option (Int × St) := f_X11_rings_b0 σ
def f_X11_round_b0 (σ : St) (x1 x2 : Int) : Option (Int × St) :=
  jbind (f_X11_ringsOf σ) (fun σ_1 => jchk (inI x1) (if x1 < 0 then some ((-1), σ_1) else jchk (inI x1 ∧ inI (σ_1 0 29)) (if x1 < σ_1 0 29 then jbind (f_X11_middle σ_1 x1) (fun σ_2 => jbind (f_X11_middleTold σ_2 x2) (fun r_3 => some (r_3, σ_2))) else some ((-1), σ_1))))
def f_X11_round (σ : St) (x1 x2 : Int) : Option (Int × St) := f_X11_round_b0 σ x1 x2
def f_X11_season_b0 (σ : St) (x1 : Int) : Option (Int × St) :=
  jchk (inI x1) (if x1 < 0 then some ((-1), σ) else jchk (inI x1 ∧ inI 3) (if (3 : Int) < x1 then some ((-1), σ) else jlet (σ 0 2) (fun x2_1 => jlet (up2 σ 0 2 x1) (fun σ_2 => some (x2_1, σ_2)))))
def f_X11_season (σ : St) (x1 : Int) : Option (Int × St) := f_X11_season_b0 σ x1
def f_X11_serves_b71 (σ : St) (x1 x2 x3 x4 x5 x7 x8 : Int) : Option ((Int × Int × Int) ⊕ Int) :=
  jchk (inL x8 ∧ inL x5) (if x8 = x5 then jlet (jor x4 (jshl 1 x7)) (fun x4_11 => jlet (x7 + 1) (fun x7_12 => some (.inl (x4_11, x5, x7_12)))) else jlet (x7 + 1) (fun x7_10 => some (.inl (x4, x5, x7_10))))
def f_X11_serves_b64 (σ : St) (x1 x2 x3 x7 x8 : Int) : Option ((Int × Int × Int) ⊕ Int) :=
  jlet x8 (fun x5_8 => jlet (0 : Int) (fun x4_9 => f_X11_serves_b71 σ x1 x2 x3 x4_9 x5_8 x7 x8))
def f_X11_serves_b21 (σ : St) (x1 x2 x3 x4 x5 x7 : Int) : Option ((Int × Int × Int) ⊕ Int) :=
  jchk (inI x7 ∧ inI 24) (if x7 < 24 then jbind (f_X11_counts σ x7) (fun r_5 => jchk (inI r_5) (if r_5 = 0 then jlet (x7 + 1) (fun x7_13 => some (.inl (x4, x5, x7_13))) else jbind (f_X11_cost σ x7 x1 x2 x3) (fun r_6 => jlet r_6 (fun x8_7 => jchk (inI x4) (if x4 = 0 then f_X11_serves_b64 σ x1 x2 x3 x7 x8_7 else jchk (inL x8_7 ∧ inL x5) (if x8_7 < x5 then f_X11_serves_b64 σ x1 x2 x3 x7 x8_7 else f_X11_serves_b71 σ x1 x2 x3 x4 x5 x7 x8_7)))))) else some (.inr (x4)))
def f_X11_serves_b0 (σ : St) (x1 x2 x3 : Int) : Option Int :=
  jbind (f_X11_isPoint σ x1 x2 x3) (fun r_1 => jchk (inI r_1) (if r_1 = 0 then some (-1) else jlet (0 : Int) (fun x4_2 => jlet (0 : Int) (fun x5_3 => jlet (0 : Int) (fun x7_4 => jbind (jloop (fun (q : (Int × Int × Int)) => match q with | (x4, x5, x7) => f_X11_serves_b21 σ x1 x2 x3 x4 x5 x7) 1000 (x4_2, x5_3, x7_4)) (fun x4_14 => some x4_14))))))
def f_X11_serves (σ : St) (x1 x2 x3 : Int) : Option Int := f_X11_serves_b0 σ x1 x2 x3
def f_X11_sheet_b30 (σ : St) (x1 x3 : Int) : Option ((St × Int) ⊕ St) :=
  jchk (inI x3 ∧ inI 32) (if x3 < 32 then jchk (0 ≤ ((32 * x1) + x3) ∧ ((32 * x1) + x3) < 256) (jlet (up2 σ 32 ((32 * x1) + x3).toNat (0 : Int)) (fun σ_4 => jlet (x3 + 1) (fun x3_5 => some (.inl (σ_4, x3_5))))) else some (.inr (σ)))
def f_X11_sheet_b0 (σ : St) (x1 x2 : Int) : Option (Int × St) :=
  jbind (f_X11_isSheet x1) (fun r_1 => jchk (inI r_1) (if r_1 = 0 then some (0, σ) else jchk (inI x2 ∧ inI (-1)) (if x2 < (-1) then some (0, σ) else jchk (inI x2 ∧ inI 8) (if (8 : Int) < x2 then some (0, σ) else jchk (0 ≤ x1 ∧ x1 < 8) (jlet (up2 σ 31 x1.toNat x2) (fun σ_2 => jlet (0 : Int) (fun x3_3 => jbind (jloop (fun (q : (St × Int)) => match q with | (σ, x3) => f_X11_sheet_b30 σ x1 x3) 1000 (σ_2, x3_3)) (fun σ_6 => some (1, σ_6)))))))))
def f_X11_sheet (σ : St) (x1 x2 : Int) : Option (Int × St) := jzw (f_X11_sheet_b0 σ x1 x2)
def f_X11_sink_b0 (σ : St) (x1 x2 x3 x4 : Int) : Option (Int × St) :=
  jbind (f_X11_sinks σ x1 x2 x3 x4) (fun q => match q with | (r_1, σ_2) => jlet r_1 (fun x5_3 => jchk (inI x5_3) (if x5_3 < 0 then some (x5_3, σ_2) else jchk ((0 ≤ x5_3 ∧ x5_3 < 24) ∧ ((0 : Int) = 0 ∨ (0 : Int) = 1)) (jlet (up2 σ_2 1 x5_3.toNat (0 : Int)) (fun σ_4 => jbind (f_X11_keeps σ_4) (fun σ_5 => jchk ((0 ≤ x5_3 ∧ x5_3 < 24) ∧ ((1 : Int) = 0 ∨ (1 : Int) = 1)) (jlet (up2 σ_5 1 x5_3.toNat (1 : Int)) (fun σ_6 => some (x5_3, σ_6)))))))))
def f_X11_sink (σ : St) (x1 x2 x3 x4 : Int) : Option (Int × St) := f_X11_sink_b0 σ x1 x2 x3 x4
def f_X11_undo_b0 (σ : St) : Option (Int × St) :=
  jchk (inI (σ 0 8)) (if σ 0 8 = 0 then some ((-1), σ) else jbind (f_X11_brings σ) (fun σ_1 => some (σ_1 0 8, σ_1)))
def f_X11_undo (σ : St) : Option (Int × St) := f_X11_undo_b0 σ
def f_X11_well_b0 (σ : St) (x1 x2 : Int) : Option Int :=
  jbind (f_X11_isWell σ x1) (fun r_1 => jchk (inI r_1) (if r_1 = 0 then some (-1) else jchk (inI x2) (if x2 = 0 then jchk (0 ≤ x1 ∧ x1 < 24) (some (σ 2 x1.toNat)) else if x2 = 1 then jchk (0 ≤ x1 ∧ x1 < 24) (some (σ 3 x1.toNat)) else if x2 = 2 then jchk (0 ≤ x1 ∧ x1 < 24) (some (σ 4 x1.toNat)) else if x2 = 3 then jbind (f_X11_counts σ x1) (fun r_2 => jchk (inI r_2) (if r_2 = 0 then some 0 else some 1)) else some (-1))))
def f_X11_well (σ : St) (x1 x2 : Int) : Option Int := f_X11_well_b0 σ x1 x2
