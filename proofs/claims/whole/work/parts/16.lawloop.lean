theorem fb_rngI (x : Int32) : inI x.toInt := ⟨by have := Int32.le_toInt x; omega, by have := Int32.toInt_lt x; omega⟩
/-- the pure side: a relation that every call keeps, and under which both sides answer alike -/
def Good (Rel : Nat → St → St → Prop) : Prop := ∀ (n : Nat) (σC σM : St), n < 512 → Rel n σC σM → ∀ (c : Nat), c < 32 → ∀ (a : Nat → Int), (∀ k, inI (a k)) → ∃ v σC' σM', ansC c σC a = some (v, σC') ∧ ansM c σM a = some (v, σM') ∧ Rel (n + 1) σC' σM'
set_option maxRecDepth 100000 in
set_option maxHeartbeats 4000000 in
theorem law_loop {Rel : Nat → St → St → Prop} (hG : Good Rel) {b L : Nat} {xs : Nat → Int32} {cs : Nat → ClassId} {adC adM : Nat → Nat} {l : Launch} {X : LC} (F : LOk b L xs cs adC adM l X) (hL : L ≤ 3584) : ∀ (m n : Nat) (σC σM : St), n + m = 513 → 7 * n ≤ L + 6 → Rel n σC σM → LAt b cs adC adM X σC σM [(0, .ref b), (1, .ref (adC 0)), (2, .ref (adM 0)), (3, iv (7 * n : Nat))] [] 18 := by
  intro m
  induction m with
  | zero =>
    intro n σC σM h1 h2
    exact absurd h2 (by omega)
  | succ m ih =>
    intro n σC σM h1 h2 hR
    refine l_iload_n F dL_law_18 rfl 3 rfl ?_
    refine l_aload_n F dL_law_19 rfl 0 rfl ?_
    refine l_slen F dL_law_20 ?_
    refine l_bipush F dL_law_21 (by decide +kernel) ?_
    refine l_isub F dL_law_23 ?_
    refine l_icmp_gt F ⟨by omega, by omega⟩ ⟨by omega, by omega⟩ (tgt := 1147) dL_law_24 (by decide) (fun hq => ?_) (fun hq => ?_)
    · refine l_iconst F dL_law_1147 ?_
      exact l_end F dL_law_1148
    · have hi : (0 : Int) ≤ ((7 * n : Nat) : Int) ∧ ((7 * n : Nat) : Int) + 7 ≤ (L : Int) := ⟨by omega, by omega⟩
      have hLL : L < 2147483648 := by omega
      refine l_aload_n F dL_law_27 rfl 0 rfl ?_
      refine l_iload_n F dL_law_28 rfl 3 rfl ?_
      refine l_sld F ⟨by omega, by omega⟩ hLL dL_law_29 ?_
      refine l_bipush F dL_law_30 (by decide +kernel) ?_
      refine l_iand F dL_law_32 ?_
      obtain ⟨c, hc, ec⟩ : ∃ c : Nat, c < 32 ∧ jand (xs ((7 * n : Nat) : Int).toNat).toInt 31 = (c : Int) := by
        obtain ⟨j, hj, e⟩ := pk_andE (xs ((7 * n : Nat) : Int).toNat) (m := 31) 5 (by decide)
        refine ⟨j, hj, ?_⟩
        unfold jand
        rw [Int32.ofInt_toInt, show Int32.ofInt 31 = 31 from by decide, e, nI_toInt (by omega)]
      rw [ec]
      obtain ⟨v, σC', σM', hC, hM, hR'⟩ := hG n σC σM (by omega) hR c hc (fun k => (xs (((7 * n : Nat) : Int) + (k : Int)).toNat).toInt) (fun k => fb_rngI _)
      have hend : LAt b cs adC adM X σC' σM' [(0, .ref b), (1, .ref (adC 0)), (2, .ref (adM 0)), (3, iv (7 * n : Nat))] [] 1141 := by
        refine l_iinc F (lv' := [(3, iv (((7 * n : Nat) : Int) + 7)), (0, .ref b), (1, .ref (adC 0)), (2, .ref (adM 0))]) dL_law_1141 3 rfl (by decide) rfl ?_
        refine l_goto F (tgt := 18) dL_law_1144 (by decide) ?_
        have h := ih (n + 1) σC' σM' (by omega) (by omega) hR'
        rw [show ((7 * (n + 1) : Nat) : Int) = ((7 * n : Nat) : Int) + 7 by omega] at h
        exact l_sub [1, 2, 3, 0] rfl h
      have hcI : inI (c : Int) := ⟨by omega, by omega⟩
      by_cases e0 : c = 0
      · subst e0
        refine l_tableIn F (tgt := 172) hcI dL_law_33 (by omega) (by omega) rfl (by decide) ?_
        exact l_case0 F hLL hi hC hM hend
      by_cases e1 : c = 1
      · subst e1
        refine l_tableIn F (tgt := 205) hcI dL_law_33 (by omega) (by omega) rfl (by decide) ?_
        exact l_case1 F hLL hi hC hM hend
      by_cases e2 : c = 2
      · subst e2
        refine l_tableIn F (tgt := 228) hcI dL_law_33 (by omega) (by omega) rfl (by decide) ?_
        exact l_case2 F hLL hi hC hM hend
      by_cases e3 : c = 3
      · subst e3
        refine l_tableIn F (tgt := 281) hcI dL_law_33 (by omega) (by omega) rfl (by decide) ?_
        exact l_case3 F hLL hi hC hM hend
      by_cases e4 : c = 4
      · subst e4
        refine l_tableIn F (tgt := 304) hcI dL_law_33 (by omega) (by omega) rfl (by decide) ?_
        exact l_case4 F hLL hi hC hM hend
      by_cases e5 : c = 5
      · subst e5
        refine l_tableIn F (tgt := 347) hcI dL_law_33 (by omega) (by omega) rfl (by decide) ?_
        exact l_case5 F hLL hi hC hM hend
      by_cases e6 : c = 6
      · subst e6
        refine l_tableIn F (tgt := 380) hcI dL_law_33 (by omega) (by omega) rfl (by decide) ?_
        exact l_case6 F hLL hi hC hM hend
      by_cases e7 : c = 7
      · subst e7
        refine l_tableIn F (tgt := 413) hcI dL_law_33 (by omega) (by omega) rfl (by decide) ?_
        exact l_case7 F hLL hi hC hM hend
      by_cases e8 : c = 8
      · subst e8
        refine l_tableIn F (tgt := 436) hcI dL_law_33 (by omega) (by omega) rfl (by decide) ?_
        exact l_case8 F hLL hi hC hM hend
      by_cases e9 : c = 9
      · subst e9
        refine l_tableIn F (tgt := 479) hcI dL_law_33 (by omega) (by omega) rfl (by decide) ?_
        exact l_case9 F hLL hi hC hM hend
      by_cases e10 : c = 10
      · subst e10
        refine l_tableIn F (tgt := 532) hcI dL_law_33 (by omega) (by omega) rfl (by decide) ?_
        exact l_case10 F hLL hi hC hM hend
      by_cases e11 : c = 11
      · subst e11
        refine l_tableIn F (tgt := 555) hcI dL_law_33 (by omega) (by omega) rfl (by decide) ?_
        exact l_case11 F hLL hi hC hM hend
      by_cases e12 : c = 12
      · subst e12
        refine l_tableIn F (tgt := 599) hcI dL_law_33 (by omega) (by omega) rfl (by decide) ?_
        exact l_case12 F hLL hi hC hM hend
      by_cases e13 : c = 13
      · subst e13
        refine l_tableIn F (tgt := 632) hcI dL_law_33 (by omega) (by omega) rfl (by decide) ?_
        exact l_case13 F hLL hi hC hM hend
      by_cases e14 : c = 14
      · subst e14
        refine l_tableIn F (tgt := 665) hcI dL_law_33 (by omega) (by omega) rfl (by decide) ?_
        exact l_case14 F hLL hi hC hM hend
      by_cases e15 : c = 15
      · subst e15
        refine l_tableIn F (tgt := 719) hcI dL_law_33 (by omega) (by omega) rfl (by decide) ?_
        exact l_case15 F hLL hi hC hM hend
      by_cases e16 : c = 16
      · subst e16
        refine l_tableIn F (tgt := 742) hcI dL_law_33 (by omega) (by omega) rfl (by decide) ?_
        exact l_case16 F hLL hi hC hM hend
      by_cases e17 : c = 17
      · subst e17
        refine l_tableIn F (tgt := 755) hcI dL_law_33 (by omega) (by omega) rfl (by decide) ?_
        exact l_case17 F hLL hi hC hM hend
      by_cases e18 : c = 18
      · subst e18
        refine l_tableIn F (tgt := 778) hcI dL_law_33 (by omega) (by omega) rfl (by decide) ?_
        exact l_case18 F hLL hi hC hM hend
      by_cases e19 : c = 19
      · subst e19
        refine l_tableIn F (tgt := 812) hcI dL_law_33 (by omega) (by omega) rfl (by decide) ?_
        exact l_case19 F hLL hi hC hM hend
      by_cases e20 : c = 20
      · subst e20
        refine l_tableIn F (tgt := 836) hcI dL_law_33 (by omega) (by omega) rfl (by decide) ?_
        exact l_case20 F hLL hi hC hM hend
      by_cases e21 : c = 21
      · subst e21
        refine l_tableIn F (tgt := 859) hcI dL_law_33 (by omega) (by omega) rfl (by decide) ?_
        exact l_case21 F hLL hi hC hM hend
      by_cases e22 : c = 22
      · subst e22
        refine l_tableIn F (tgt := 882) hcI dL_law_33 (by omega) (by omega) rfl (by decide) ?_
        exact l_case22 F hLL hi hC hM hend
      by_cases e23 : c = 23
      · subst e23
        refine l_tableIn F (tgt := 895) hcI dL_law_33 (by omega) (by omega) rfl (by decide) ?_
        exact l_case23 F hLL hi hC hM hend
      by_cases e24 : c = 24
      · subst e24
        refine l_tableIn F (tgt := 928) hcI dL_law_33 (by omega) (by omega) rfl (by decide) ?_
        exact l_case24 F hLL hi hC hM hend
      by_cases e25 : c = 25
      · subst e25
        refine l_tableIn F (tgt := 941) hcI dL_law_33 (by omega) (by omega) rfl (by decide) ?_
        exact l_case25 F hLL hi hC hM hend
      by_cases e26 : c = 26
      · subst e26
        refine l_tableIn F (tgt := 964) hcI dL_law_33 (by omega) (by omega) rfl (by decide) ?_
        exact l_case26 F hLL hi hC hM hend
      by_cases e27 : c = 27
      · subst e27
        refine l_tableIn F (tgt := 997) hcI dL_law_33 (by omega) (by omega) rfl (by decide) ?_
        exact l_case27 F hLL hi hC hM hend
      by_cases e28 : c = 28
      · subst e28
        refine l_tableIn F (tgt := 1030) hcI dL_law_33 (by omega) (by omega) rfl (by decide) ?_
        exact l_case28 F hLL hi hC hM hend
      by_cases e29 : c = 29
      · subst e29
        refine l_tableIn F (tgt := 1105) hcI dL_law_33 (by omega) (by omega) rfl (by decide) ?_
        exact l_case29 F hLL hi hC hM hend
      by_cases e30 : c = 30
      · subst e30
        refine l_tableIn F (tgt := 1128) hcI dL_law_33 (by omega) (by omega) rfl (by decide) ?_
        exact l_case30 F hLL hi hC hM hend
      have e31 : c = 31 := by omega
      subst e31
      cases hC
      cases hM
      refine l_tableOut F (tgt := 1141) hcI dL_law_33 (by omega) (by decide) ?_
      exact hend
