abbrev rm_X10_count : Room := { frames := 0, cells := 0, slots := 0, locals := 0 }
set_option maxRecDepth 100000 in
set_option maxHeartbeats 4000000 in
theorem k_X10_count_b0 {l : Launch} {ad : Nat → Nat} {X : Cx} (F : Ok vwCl WS NWs TC cX10_count 2 yX10_count.cls (some .int) ad l X) {σ : St} {x1 : Int} {y : Int} (hf : f_X10_count_b0 σ x1 = some y) (hr : RetI vwCl TC cX10_count 2 rm_X10_count ad X y σ) : At vwCl TC 2 rm_X10_count ad X σ [(0, .ref (ad 0)), (1, iv x1)] [] 0 := by
  unfold f_X10_count_b0 at hf
  refine a_iload_n F dX10_count_0 rfl 1 rfl ?_
  obtain ⟨hg9, hf⟩ := jchk_elim hf
  by_cases hq0 : x1 = 0
  · rw [if_pos hq0] at hf
    refine a_tableIn F (tgt := 28) hg9 dX10_count_1 (by omega) (by omega) (by rw [hq0]; rfl) (by decide) ?_
    refine a_aload_n F dX10_count_28 rfl 0 rfl ?_
    refine a_getR F (j := 0) tC_0 rfl rfl (by decide) inW10 w_167 dX10_count_29 ?_
    refine a_getI F (j := 3) tC_1 rfl rfl (by decide) inW9 w_330 dX10_count_32 ?_
    cases hf
    exact hr _ _ dX10_count_35
  · rw [if_neg hq0] at hf
    by_cases hq1 : x1 = 1
    · rw [if_pos hq1] at hf
      refine a_tableIn F (tgt := 36) hg9 dX10_count_1 (by omega) (by omega) (by rw [hq1]; rfl) (by decide) ?_
      refine a_aload_n F dX10_count_36 rfl 0 rfl ?_
      refine a_getR F (j := 0) tC_0 rfl rfl (by decide) inW10 w_167 dX10_count_37 ?_
      refine a_getI F (j := 4) tC_1 rfl rfl (by decide) inW9 w_331 dX10_count_40 ?_
      cases hf
      exact hr _ _ dX10_count_43
    · rw [if_neg hq1] at hf
      by_cases hq2 : x1 = 2
      · rw [if_pos hq2] at hf
        refine a_tableIn F (tgt := 44) hg9 dX10_count_1 (by omega) (by omega) (by rw [hq2]; rfl) (by decide) ?_
        refine a_aload_n F dX10_count_44 rfl 0 rfl ?_
        refine a_getR F (j := 1) tC_0 rfl rfl (by decide) inW10 w_254 dX10_count_45 ?_
        refine a_getI F (j := 0) tC_7 rfl rfl (by decide) inW5 w_332 dX10_count_48 ?_
        cases hf
        exact hr _ _ dX10_count_51
      · rw [if_neg hq2] at hf
        refine a_tableOut F (tgt := 52) hg9 dX10_count_1 (by omega) (by decide) ?_
        refine a_iconst F dX10_count_52 ?_
        cases hf
        exact hr _ _ dX10_count_53
set_option maxRecDepth 100000 in
set_option maxHeartbeats 4000000 in
theorem c_X10_count {l : Launch}  {σ : St} {x1 : Int} : CtrI vwCl WS NWs TC l yX10_count cX10_count 2 (some .int) rm_X10_count (fun ad => [.ref (ad 0), iv x1]) σ (rd (f_X10_count σ x1) σ) := by
  refine ctrI_of (by decide +kernel) (fun ad => Nat.le_of_ble_eq_true rfl) (fun v σ' ad X hf F K => ?_)
  obtain ⟨hf2, e2⟩ := rd_elim hf
  subst e2
  exact k_X10_count_b0 F hf2 K
abbrev rm_X1_endAt : Room := { frames := 3, cells := 0, slots := 0, locals := 65 }
set_option maxRecDepth 100000 in
set_option maxHeartbeats 4000000 in
theorem k_X1_endAt_b67 {l : Launch} {ad : Nat → Nat} {X : Cx} (F : Ok vwCl WS NWs TC cX1_endAt 6 yX1_endAt.cls (some .int) ad l X) {g : Nat} (hg : isG g) {σ : St} {x1 x2 x3 x5 : Int} {y : ((Int × Int × Int) ⊕ (Int × Int))} (hf : f_X1_endAt_b67 σ g x1 x2 x3 x5 = some y) (hn : ∀ z3 z4 z5, y = .inl (z3, z4, z5) → At vwCl TC 6 rm_X1_endAt ad X σ [(0, .ref (ad g)), (1, iv x1), (2, iv x2), (3, iv z3), (4, iv z4), (5, iv z5)] [] 23) : At vwCl TC 6 rm_X1_endAt ad X σ [(0, .ref (ad g)), (1, iv x1), (2, iv x2), (3, iv x3), (5, iv x5)] [] 67 := by
  unfold f_X1_endAt_b67 at hf
  refine a_iload_n F dX1_endAt_67 rfl 3 rfl ?_
  refine a_topI hf (fun x4_8 hf => ?_)
  refine a_istore F (lv' := [(4, iv x4_8), (0, .ref (ad g)), (1, iv x1), (2, iv x2), (3, iv x3), (5, iv x5)]) dX1_endAt_68 (by decide) rfl ?_
  refine a_iload F dX1_endAt_70 5 rfl ?_
  refine a_topI hf (fun x3_9 hf => ?_)
  refine a_istore_n F (lv' := [(3, iv x3_9), (4, iv x4_8), (0, .ref (ad g)), (1, iv x1), (2, iv x2), (5, iv x5)]) dX1_endAt_72 rfl (by decide) rfl ?_
  refine a_goto F (tgt := 80) dX1_endAt_73 (by decide) ?_
  refine a_iinc F hf dX1_endAt_80 5 rfl (by decide) (fun x5_10 hf => ⟨[(5, iv x5_10), (3, iv x3_9), (4, iv x4_8), (0, .ref (ad g)), (1, iv x1), (2, iv x2)], rfl, ?_⟩)
  refine a_goto F (tgt := 23) dX1_endAt_83 (by decide) ?_
  cases hf
  exact a_sub [3, 4, 5, 1, 2, 0] rfl (hn _ _ _ rfl)
set_option maxRecDepth 100000 in
set_option maxHeartbeats 4000000 in
theorem k_X1_endAt_b23 {l : Launch} {ad : Nat → Nat} {X : Cx} (F : Ok vwCl WS NWs TC cX1_endAt 6 yX1_endAt.cls (some .int) ad l X) {g : Nat} (hg : isG g) {σ : St} {x1 x2 x3 x4 x5 : Int} {y : ((Int × Int × Int) ⊕ (Int × Int))} (hf : f_X1_endAt_b23 σ g x1 x2 x3 x4 x5 = some y) (hn : ∀ z3 z4 z5, y = .inl (z3, z4, z5) → At vwCl TC 6 rm_X1_endAt ad X σ [(0, .ref (ad g)), (1, iv x1), (2, iv x2), (3, iv z3), (4, iv z4), (5, iv z5)] [] 23) (hx0 : ∀ z3 z4, y = .inr ((z3, z4)) → At vwCl TC 6 rm_X1_endAt ad X σ [(2, iv x2), (3, iv z3), (4, iv z4)] [] 86) : At vwCl TC 6 rm_X1_endAt ad X σ [(0, .ref (ad g)), (1, iv x1), (2, iv x2), (3, iv x3), (4, iv x4), (5, iv x5)] [] 23 := by
  unfold f_X1_endAt_b23 at hf
  refine a_iload F dX1_endAt_23 5 rfl ?_
  refine a_aload_n F dX1_endAt_25 rfl 0 rfl ?_
  refine a_getV F (j := 4) (tG hg) rfl rfl (by decide) inW1 w_25 dX1_endAt_26 ?_
  refine a_topR hf (fun o_5 hf => ?_)
  obtain ⟨ho_5, hf⟩ := jchk_elim hf
  refine a_getI F (j := 0) (tO ho_5) rfl rfl (by decide) inW4 w_45 dX1_endAt_29 ?_
  refine a_icmp_ge F hf (tgt := 86) dX1_endAt_32 (by decide) (fun hf => ?_) (fun hf => ?_)
  · refine a_aload_n F dX1_endAt_35 rfl 0 rfl ?_
    refine a_iconst F dX1_endAt_36 ?_
    refine a_iload_n F dX1_endAt_37 rfl 1 rfl ?_
    refine a_iadd F dX1_endAt_38 ?_
    refine a_iload F dX1_endAt_39 5 rfl ?_
    refine a_callVLr F lk_RX1_85 (tG hg) rfl (c_X1_innerSide hg) rfl rfl ⟨rfl, rfl⟩ ⟨Nat.le_of_ble_eq_true rfl, Nat.le_of_ble_eq_true rfl⟩ rfl (Nat.le_of_ble_eq_true rfl) dX1_endAt_41 hf (fun r_6 hf => ?_)
    refine a_lconst F (n := 0) dX1_endAt_44 (by decide +kernel) ?_
    refine a_lcmp_ne F hf (tgt := 80) dX1_endAt_45 dX1_endAt_46 (by decide) (fun hf => ?_) (fun hf => ?_)
    · refine a_iload_n F dX1_endAt_49 rfl 3 rfl ?_
      refine a_iconst F dX1_endAt_50 ?_
      refine a_icmp_eq F hf (tgt := 67) dX1_endAt_51 (by decide) (fun hf => ?_) (fun hf => ?_)
      · exact a_sub [0, 1, 2, 3, 5] rfl (k_X1_endAt_b67 F hg hf hn)
      · refine a_aload_n F dX1_endAt_54 rfl 0 rfl ?_
        refine a_getV F (j := 4) (tG hg) rfl rfl (by decide) inW1 w_25 dX1_endAt_55 ?_
        refine a_topR hf (fun o_11 hf => ?_)
        obtain ⟨ho_11, hf⟩ := jchk_elim hf
        refine a_iload F dX1_endAt_58 5 rfl ?_
        refine a_iload_n F dX1_endAt_60 rfl 3 rfl ?_
        refine a_callVIr F lk_RX1_81 (tO ho_11) rfl (c_X4_isBefore ho_11) rfl rfl ⟨rfl, rfl⟩ ⟨Nat.le_of_ble_eq_true rfl, Nat.le_of_ble_eq_true rfl⟩ rfl (Nat.le_of_ble_eq_true rfl) dX1_endAt_61 hf (fun r_12 hf => ?_)
        refine a_if_eq F hf (tgt := 76) dX1_endAt_64 (by decide) (fun hf => ?_) (fun hf => ?_)
        · refine a_iload F dX1_endAt_76 5 rfl ?_
          refine a_topI hf (fun x4_13 hf => ?_)
          refine a_istore F (lv' := [(4, iv x4_13), (0, .ref (ad g)), (1, iv x1), (2, iv x2), (3, iv x3), (5, iv x5)]) dX1_endAt_78 (by decide) rfl ?_
          refine a_iinc F hf dX1_endAt_80 5 rfl (by decide) (fun x5_14 hf => ⟨[(5, iv x5_14), (4, iv x4_13), (0, .ref (ad g)), (1, iv x1), (2, iv x2), (3, iv x3)], rfl, ?_⟩)
          refine a_goto F (tgt := 23) dX1_endAt_83 (by decide) ?_
          cases hf
          exact a_sub [2, 3, 4, 5, 1, 0] rfl (hn _ _ _ rfl)
        · exact a_sub [0, 1, 2, 3, 5] rfl (k_X1_endAt_b67 F hg hf hn)
    · refine a_iinc F hf dX1_endAt_80 5 rfl (by decide) (fun x5_7 hf => ⟨[(5, iv x5_7), (0, .ref (ad g)), (1, iv x1), (2, iv x2), (3, iv x3), (4, iv x4)], rfl, ?_⟩)
      refine a_goto F (tgt := 23) dX1_endAt_83 (by decide) ?_
      cases hf
      exact a_sub [1, 2, 3, 4, 5, 0] rfl (hn _ _ _ rfl)
  · cases hf
    exact a_sub [2, 3, 4] rfl (hx0 _ _ rfl)
set_option maxRecDepth 100000 in
set_option maxHeartbeats 4000000 in
theorem k_X1_endAt_b0 {l : Launch} {ad : Nat → Nat} {X : Cx} (F : Ok vwCl WS NWs TC cX1_endAt 6 yX1_endAt.cls (some .int) ad l X) {g : Nat} (hg : isG g) {σ : St} {x1 x2 : Int} {y : Int} (hf : f_X1_endAt_b0 σ g x1 x2 = some y) (hr : RetI vwCl TC cX1_endAt 6 rm_X1_endAt ad X y σ) : At vwCl TC 6 rm_X1_endAt ad X σ [(0, .ref (ad g)), (1, iv x1), (2, iv x2)] [] 0 := by
  unfold f_X1_endAt_b0 at hf
  refine a_iload_n F dX1_endAt_0 rfl 2 rfl ?_
  refine a_if_lt F hf (tgt := 13) dX1_endAt_1 (by decide) (fun hf => ?_) (fun hf => ?_)
  · refine a_iconst F dX1_endAt_13 ?_
    cases hf
    exact hr _ _ dX1_endAt_14
  · refine a_iload_n F dX1_endAt_4 rfl 2 rfl ?_
    refine a_aload_n F dX1_endAt_5 rfl 0 rfl ?_
    refine a_iload_n F dX1_endAt_6 rfl 1 rfl ?_
    refine a_callVIr F lk_RX1_89 (tG hg) rfl (c_X1_sharedWith hg) rfl rfl ⟨rfl, rfl⟩ ⟨Nat.le_of_ble_eq_true rfl, Nat.le_of_ble_eq_true rfl⟩ rfl (Nat.le_of_ble_eq_true rfl) dX1_endAt_7 hf (fun r_1 hf => ?_)
    refine a_icmp_lt F hf (tgt := 15) dX1_endAt_10 (by decide) (fun hf => ?_) (fun hf => ?_)
    · refine a_iconst F dX1_endAt_15 ?_
      refine a_topI hf (fun x3_2 hf => ?_)
      refine a_istore_n F (lv' := [(3, iv x3_2), (0, .ref (ad g)), (1, iv x1), (2, iv x2)]) dX1_endAt_16 rfl (by decide) rfl ?_
      refine a_iconst F dX1_endAt_17 ?_
      refine a_topI hf (fun x4_3 hf => ?_)
      refine a_istore F (lv' := [(4, iv x4_3), (3, iv x3_2), (0, .ref (ad g)), (1, iv x1), (2, iv x2)]) dX1_endAt_18 (by decide) rfl ?_
      refine a_iconst F dX1_endAt_20 ?_
      refine a_topI hf (fun x5_4 hf => ?_)
      refine a_istore F (lv' := [(5, iv x5_4), (4, iv x4_3), (3, iv x3_2), (0, .ref (ad g)), (1, iv x1), (2, iv x2)]) dX1_endAt_21 (by decide) rfl ?_
      obtain ⟨q0, he, hf⟩ := jbind_elim hf
      refine a_sub [3, 4, 5, 2, 1, 0] rfl (loop_rule (P := (fun q => ∀ z3 z4 z5, (z3, z4, z5) = q → At vwCl TC 6 rm_X1_endAt ad X σ [(0, .ref (ad g)), (1, iv x1), (2, iv x2), (3, iv z3), (4, iv z4), (5, iv z5)] [] 23)) (K := (fun q => (∀ z3 z4, (z3, z4) = q → At vwCl TC 6 rm_X1_endAt ad X σ [(2, iv x2), (3, iv z3), (4, iv z4)] [] 86))) ?_ 1000 _ _ he ?_ _ _ _ rfl)
      · intro q y hy hn hx z3 z4 z5 e
        subst e
        exact k_X1_endAt_b23 F hg hy (fun z3 z4 z5 e => hn _ e _ _ _ rfl) (fun z3 z4 e => (hx _ e) _ _ rfl)
      · intro x3_15 x4_16 e
        subst e
        refine a_iload_n F dX1_endAt_86 rfl 0 rfl ?_
        refine a_if_ne F hf (tgt := 94) dX1_endAt_87 (by decide) (fun hf => ?_) (fun hf => ?_)
        · refine a_iload_n F dX1_endAt_90 rfl 1 rfl ?_
          refine a_goto F (tgt := 96) dX1_endAt_91 (by decide) ?_
          cases hf
          exact hr _ _ dX1_endAt_96
        · refine a_iload F dX1_endAt_94 2 rfl ?_
          cases hf
          exact hr _ _ dX1_endAt_96
    · refine a_iconst F dX1_endAt_13 ?_
      cases hf
      exact hr _ _ dX1_endAt_14
set_option maxRecDepth 100000 in
set_option maxHeartbeats 4000000 in
theorem c_X1_endAt {l : Launch}  {g : Nat} (hg : isG g) {σ : St} {x1 x2 : Int} : CtrI vwCl WS NWs TC l yX1_endAt cX1_endAt 6 (some .int) rm_X1_endAt (fun ad => [.ref (ad g), iv x1, iv x2]) σ (rd (f_X1_endAt σ g x1 x2) σ) := by
  refine ctrI_of (by decide +kernel) (fun ad => Nat.le_of_ble_eq_true rfl) (fun v σ' ad X hf F K => ?_)
  obtain ⟨hf2, e2⟩ := rd_elim hf
  subst e2
  exact k_X1_endAt_b0 F hg hf2 K
abbrev rm_X10_end : Room := { frames := 6, cells := 0, slots := 0, locals := 148 }
set_option maxRecDepth 100000 in
set_option maxHeartbeats 4000000 in
theorem k_X10_end_b0 {l : Launch} {ad : Nat → Nat} {X : Cx} (F : Ok vwCl WS NWs TC cX10_end 5 yX10_end.cls (some .long) ad l X) {σ : St} {x1 x2 x3 x4 : Int} {y : (Int × St)} (hf : f_X10_end_b0 σ x1 x2 x3 x4 = some y) (hr : ∀ v τ, y = (v, τ) → RetL vwCl TC cX10_end 5 rm_X10_end ad X v τ) : At vwCl TC 5 rm_X10_end ad X σ [(0, .ref (ad 0)), (1, iv x1), (2, iv x2), (3, iv x3), (4, iv x4)] [] 0 := by
  unfold f_X10_end_b0 at hf
  refine a_aload_n F dX10_end_0 rfl 0 rfl ?_
  refine a_iload_n F dX10_end_1 rfl 1 rfl ?_
  refine a_iload_n F dX10_end_2 rfl 2 rfl ?_
  refine a_callVIr F lk_RX10_173 tC_0 rfl c_X10_areTwo rfl rfl ⟨rfl, rfl⟩ ⟨Nat.le_of_ble_eq_true rfl, Nat.le_of_ble_eq_true rfl⟩ rfl (Nat.le_of_ble_eq_true rfl) dX10_end_3 hf (fun r_1 hf => ?_)
  refine a_if_ne F hf (tgt := 13) dX10_end_6 (by decide) (fun hf => ?_) (fun hf => ?_)
  · refine a_ldc2 F (n := (-1)) (by decide +kernel) w_156 dX10_end_9 ?_
    cases hf
    exact hr _ _ rfl _ _ dX10_end_12
  · refine a_aload_n F dX10_end_13 rfl 0 rfl ?_
    refine a_getR F (j := 3) tC_0 rfl rfl (by decide) inW10 w_169 dX10_end_14 ?_
    refine a_iload_n F dX10_end_17 rfl 1 rfl ?_
    refine a_callVV F lk_RX10_157 tC_20 rfl (c_X1_drawOnce (by decide)) rfl rfl ⟨rfl, rfl⟩ ⟨Nat.le_of_ble_eq_true rfl, Nat.le_of_ble_eq_true rfl⟩ rfl (Nat.le_of_ble_eq_true rfl) dX10_end_18 hf (fun σ_2 hf => ?_)
    refine a_aload_n F dX10_end_21 rfl 0 rfl ?_
    refine a_getR F (j := 3) tC_0 rfl rfl (by decide) inW10 w_169 dX10_end_22 ?_
    refine a_aload_n F dX10_end_25 rfl 0 rfl ?_
    refine a_getR F (j := 3) tC_0 rfl rfl (by decide) inW10 w_169 dX10_end_26 ?_
    refine a_iload_n F dX10_end_29 rfl 2 rfl ?_
    refine a_iload_n F dX10_end_30 rfl 3 rfl ?_
    refine a_callVIr F lk_RX10_179 tC_20 rfl (c_X1_endAt (by decide)) rfl rfl ⟨rfl, rfl⟩ ⟨Nat.le_of_ble_eq_true rfl, Nat.le_of_ble_eq_true rfl⟩ rfl (Nat.le_of_ble_eq_true rfl) dX10_end_31 hf (fun r_3 hf => ?_)
    refine a_iload F dX10_end_34 4 rfl ?_
    refine a_callVLr F lk_RX10_169 tC_20 rfl (c_X1_tell (by decide)) rfl rfl ⟨rfl, rfl⟩ ⟨Nat.le_of_ble_eq_true rfl, Nat.le_of_ble_eq_true rfl⟩ rfl (Nat.le_of_ble_eq_true rfl) dX10_end_36 hf (fun r_4 hf => ?_)
    cases hf
    exact hr _ _ rfl _ _ dX10_end_39
set_option maxRecDepth 100000 in
set_option maxHeartbeats 4000000 in
theorem c_X10_end {l : Launch}  {σ : St} {x1 x2 x3 x4 : Int} : CtrL vwCl WS NWs TC l yX10_end cX10_end 5 (some .long) rm_X10_end (fun ad => [.ref (ad 0), iv x1, iv x2, iv x3, iv x4]) σ (f_X10_end σ x1 x2 x3 x4) := by
  refine ctrL_of (by decide +kernel) (fun ad => Nat.le_of_ble_eq_true rfl) (fun v σ' ad X hf F K => ?_)
  exact k_X10_end_b0 F hf (fun v τ e => by cases e; exact K)
abbrev rm_X10_fill : Room := { frames := 4, cells := 0, slots := 0, locals := 88 }
set_option maxRecDepth 100000 in
set_option maxHeartbeats 4000000 in
theorem k_X10_fill_b0 {l : Launch} {ad : Nat → Nat} {X : Cx} (F : Ok vwCl WS NWs TC cX10_fill 2 yX10_fill.cls (some .int) ad l X) {σ : St} {x1 : Int} {y : (Int × St)} (hf : f_X10_fill_b0 σ x1 = some y) (hr : ∀ v τ, y = (v, τ) → RetI vwCl TC cX10_fill 2 rm_X10_fill ad X v τ) : At vwCl TC 2 rm_X10_fill ad X σ [(0, .ref (ad 0)), (1, iv x1)] [] 0 := by
  unfold f_X10_fill_b0 at hf
  refine a_aload_n F dX10_fill_0 rfl 0 rfl ?_
  refine a_getR F (j := 0) tC_0 rfl rfl (by decide) inW10 w_167 dX10_fill_1 ?_
  refine a_iload_n F dX10_fill_4 rfl 1 rfl ?_
  refine a_callVIr F lk_RX10_112 tC_1 rfl c_X9_has rfl rfl ⟨rfl, rfl⟩ ⟨Nat.le_of_ble_eq_true rfl, Nat.le_of_ble_eq_true rfl⟩ rfl (Nat.le_of_ble_eq_true rfl) dX10_fill_5 hf (fun r_1 hf => ?_)
  refine a_if_ne F hf (tgt := 13) dX10_fill_8 (by decide) (fun hf => ?_) (fun hf => ?_)
  · refine a_iconst F dX10_fill_11 ?_
    cases hf
    exact hr _ _ rfl _ _ dX10_fill_12
  · refine a_aload_n F dX10_fill_13 rfl 0 rfl ?_
    refine a_getR F (j := 1) tC_0 rfl rfl (by decide) inW10 w_254 dX10_fill_14 ?_
    refine a_aload_n F dX10_fill_17 rfl 0 rfl ?_
    refine a_getR F (j := 0) tC_0 rfl rfl (by decide) inW10 w_167 dX10_fill_18 ?_
    refine a_callVV F lk_RX10_82 tC_7 rfl c_X5_remember rfl rfl ⟨rfl, rfl⟩ ⟨Nat.le_of_ble_eq_true rfl, Nat.le_of_ble_eq_true rfl⟩ rfl (Nat.le_of_ble_eq_true rfl) dX10_fill_21 hf (fun σ_2 hf => ?_)
    refine a_aload_n F dX10_fill_24 rfl 0 rfl ?_
    refine a_getR F (j := 0) tC_0 rfl rfl (by decide) inW10 w_167 dX10_fill_25 ?_
    refine a_iload_n F dX10_fill_28 rfl 1 rfl ?_
    refine a_iconst F dX10_fill_29 ?_
    refine a_iconst F dX10_fill_30 ?_
    refine a_iconst F dX10_fill_31 ?_
    refine a_iconst F dX10_fill_32 ?_
    refine a_callVV F lk_RX10_108 tC_1 rfl c_X9_put rfl rfl ⟨rfl, rfl⟩ ⟨Nat.le_of_ble_eq_true rfl, Nat.le_of_ble_eq_true rfl⟩ rfl (Nat.le_of_ble_eq_true rfl) dX10_fill_33 hf (fun σ_3 hf => ?_)
    refine a_aload_n F dX10_fill_36 rfl 0 rfl ?_
    refine a_getR F (j := 0) tC_0 rfl rfl (by decide) inW10 w_167 dX10_fill_37 ?_
    refine a_getI F (j := 3) tC_1 rfl rfl (by decide) inW9 w_330 dX10_fill_40 ?_
    cases hf
    exact hr _ _ rfl _ _ dX10_fill_43
set_option maxRecDepth 100000 in
set_option maxHeartbeats 4000000 in
theorem c_X10_fill {l : Launch}  {σ : St} {x1 : Int} : CtrI vwCl WS NWs TC l yX10_fill cX10_fill 2 (some .int) rm_X10_fill (fun ad => [.ref (ad 0), iv x1]) σ (f_X10_fill σ x1) := by
  refine ctrI_of (by decide +kernel) (fun ad => Nat.le_of_ble_eq_true rfl) (fun v σ' ad X hf F K => ?_)
  exact k_X10_fill_b0 F hf (fun v τ e => by cases e; exact K)
abbrev rm_X10_hull : Room := { frames := 4, cells := 0, slots := 0, locals := 96 }
set_option maxRecDepth 100000 in
set_option maxHeartbeats 4000000 in
theorem k_X10_hull_b0 {l : Launch} {ad : Nat → Nat} {X : Cx} (F : Ok vwCl WS NWs TC cX10_hull 1 yX10_hull.cls (some .int) ad l X) {σ : St} {y : (Int × St)} (hf : f_X10_hull_b0 σ = some y) (hr : ∀ v τ, y = (v, τ) → RetI vwCl TC cX10_hull 1 rm_X10_hull ad X v τ) : At vwCl TC 1 rm_X10_hull ad X σ [(0, .ref (ad 0))] [] 0 := by
  unfold f_X10_hull_b0 at hf
  refine a_aload_n F dX10_hull_0 rfl 0 rfl ?_
  refine a_getR F (j := 7) tC_0 rfl rfl (by decide) inW10 w_210 dX10_hull_1 ?_
  refine a_callVV F lk_RX10_204 tC_65 rfl c_X2_wrapOnce rfl rfl ⟨rfl, rfl⟩ ⟨Nat.le_of_ble_eq_true rfl, Nat.le_of_ble_eq_true rfl⟩ rfl (Nat.le_of_ble_eq_true rfl) dX10_hull_4 hf (fun σ_1 hf => ?_)
  refine a_aload_n F dX10_hull_7 rfl 0 rfl ?_
  refine a_getR F (j := 7) tC_0 rfl rfl (by decide) inW10 w_210 dX10_hull_8 ?_
  refine a_getI F (j := 2) tC_65 rfl rfl (by decide) inW2 w_215 dX10_hull_11 ?_
  cases hf
  exact hr _ _ rfl _ _ dX10_hull_14
set_option maxRecDepth 100000 in
set_option maxHeartbeats 4000000 in
theorem c_X10_hull {l : Launch}  {σ : St} : CtrI vwCl WS NWs TC l yX10_hull cX10_hull 1 (some .int) rm_X10_hull (fun ad => [.ref (ad 0)]) σ (f_X10_hull σ) := by
  refine ctrI_of (by decide +kernel) (fun ad => Nat.le_of_ble_eq_true rfl) (fun v σ' ad X hf F K => ?_)
  exact k_X10_hull_b0 F hf (fun v τ e => by cases e; exact K)
abbrev rm_X10_isPoint : Room := { frames := 0, cells := 0, slots := 0, locals := 0 }
set_option maxRecDepth 100000 in
set_option maxHeartbeats 4000000 in
theorem k_X10_isPoint_b0 {l : Launch} {ad : Nat → Nat} {X : Cx} (F : Ok vwCl WS NWs TC cX10_isPoint 4 yX10_isPoint.cls (some .boolean) ad l X) {σ : St} {x1 x2 x3 : Int} {y : Int} (hf : f_X10_isPoint_b0 σ x1 x2 x3 = some y) (hr : RetI vwCl TC cX10_isPoint 4 rm_X10_isPoint ad X y σ) : At vwCl TC 4 rm_X10_isPoint ad X σ [(0, .ref (ad 0)), (1, iv x1), (2, iv x2), (3, iv x3)] [] 0 := by
  unfold f_X10_isPoint_b0 at hf
  refine a_iload_n F dX10_isPoint_0 rfl 3 rfl ?_
  refine a_iconst F dX10_isPoint_1 ?_
  refine a_icmp_lt F hf (tgt := 50) dX10_isPoint_2 (by decide) (fun hf => ?_) (fun hf => ?_)
  · refine a_iconst F dX10_isPoint_50 ?_
    cases hf
    exact hr _ _ dX10_isPoint_51
  · refine a_iload_n F dX10_isPoint_5 rfl 3 rfl ?_
    refine a_sipush F dX10_isPoint_6 (by decide +kernel) ?_
    refine a_icmp_gt F hf (tgt := 50) dX10_isPoint_9 (by decide) (fun hf => ?_) (fun hf => ?_)
    · refine a_iconst F dX10_isPoint_50 ?_
      cases hf
      exact hr _ _ dX10_isPoint_51
    · refine a_iload_n F dX10_isPoint_12 rfl 1 rfl ?_
      refine a_if_lt F hf (tgt := 50) dX10_isPoint_13 (by decide) (fun hf => ?_) (fun hf => ?_)
      · refine a_iconst F dX10_isPoint_50 ?_
        cases hf
        exact hr _ _ dX10_isPoint_51
      · refine a_iload_n F dX10_isPoint_16 rfl 1 rfl ?_
        refine a_aload_n F dX10_isPoint_17 rfl 0 rfl ?_
        refine a_getR F (j := 0) tC_0 rfl rfl (by decide) inW10 w_167 dX10_isPoint_18 ?_
        refine a_getI F (j := 0) tC_1 rfl rfl (by decide) inW9 w_338 dX10_isPoint_21 ?_
        refine a_iload_n F dX10_isPoint_24 rfl 3 rfl ?_
        refine a_imul F dX10_isPoint_25 ?_
        refine a_icmp_gt F hf (tgt := 50) dX10_isPoint_26 (by decide) (fun hf => ?_) (fun hf => ?_)
        · refine a_iconst F dX10_isPoint_50 ?_
          cases hf
          exact hr _ _ dX10_isPoint_51
        · refine a_iload_n F dX10_isPoint_29 rfl 2 rfl ?_
          refine a_if_lt F hf (tgt := 50) dX10_isPoint_30 (by decide) (fun hf => ?_) (fun hf => ?_)
          · refine a_iconst F dX10_isPoint_50 ?_
            cases hf
            exact hr _ _ dX10_isPoint_51
          · refine a_iload_n F dX10_isPoint_33 rfl 2 rfl ?_
            refine a_aload_n F dX10_isPoint_34 rfl 0 rfl ?_
            refine a_getR F (j := 0) tC_0 rfl rfl (by decide) inW10 w_167 dX10_isPoint_35 ?_
            refine a_getI F (j := 1) tC_1 rfl rfl (by decide) inW9 w_339 dX10_isPoint_38 ?_
            refine a_iload_n F dX10_isPoint_41 rfl 3 rfl ?_
            refine a_imul F dX10_isPoint_42 ?_
            refine a_icmp_gt F hf (tgt := 50) dX10_isPoint_43 (by decide) (fun hf => ?_) (fun hf => ?_)
            · refine a_iconst F dX10_isPoint_50 ?_
              cases hf
              exact hr _ _ dX10_isPoint_51
            · refine a_iconst F dX10_isPoint_46 ?_
              refine a_goto F (tgt := 51) dX10_isPoint_47 (by decide) ?_
              cases hf
              exact hr _ _ dX10_isPoint_51
set_option maxRecDepth 100000 in
set_option maxHeartbeats 4000000 in
theorem c_X10_isPoint {l : Launch}  {σ : St} {x1 x2 x3 : Int} : CtrI vwCl WS NWs TC l yX10_isPoint cX10_isPoint 4 (some .boolean) rm_X10_isPoint (fun ad => [.ref (ad 0), iv x1, iv x2, iv x3]) σ (rd (f_X10_isPoint σ x1 x2 x3) σ) := by
  refine ctrZ_of (fun v σ' h => jz_z (rd_elim h).1) (by decide +kernel) (fun ad => Nat.le_of_ble_eq_true rfl) (fun v σ' ad X hf F K => ?_)
  obtain ⟨hf2, e2⟩ := rd_elim hf
  subst e2
  exact k_X10_isPoint_b0 F (jz_e hf2) K
abbrev rm_X8_toSide : Room := { frames := 0, cells := 0, slots := 0, locals := 0 }
set_option maxRecDepth 100000 in
set_option maxHeartbeats 4000000 in
theorem k_X8_toSide_b0 {l : Launch} {ad : Nat → Nat} {X : Cx} (F : Ok vwCl WS NWs TC cX8_toSide 3 yX8_toSide.cls (some .int) ad l X) {σ : St} {x1 x2 : Int} {y : Int} (hf : f_X8_toSide_b0 σ x1 x2 = some y) (hr : RetI vwCl TC cX8_toSide 3 rm_X8_toSide ad X y σ) : At vwCl TC 3 rm_X8_toSide ad X σ [(0, .ref (ad 67)), (1, iv x1), (2, iv x2)] [] 0 := by
  unfold f_X8_toSide_b0 at hf
  refine a_iload_n F dX8_toSide_0 rfl 2 rfl ?_
  obtain ⟨hg9, hf⟩ := jchk_elim hf
  by_cases hq0 : x2 = 0
  · rw [if_pos hq0] at hf
    refine a_tableIn F (tgt := 28) hg9 dX8_toSide_1 (by omega) (by omega) (by rw [hq0]; rfl) (by decide) ?_
    refine a_aload_n F dX8_toSide_28 rfl 0 rfl ?_
    refine a_getR F (j := 0) tC_67 rfl rfl (by decide) inW8 w_340 dX8_toSide_29 ?_
    refine a_getR F (j := 8) tC_1 rfl rfl (by decide) inW9 w_341 dX8_toSide_32 ?_
    refine a_iload_n F dX8_toSide_35 rfl 1 rfl ?_
    refine a_iald F tC_4 rfl (by decide) hf dX8_toSide_36 (fun hf => ?_)
    cases hf
    exact hr _ _ dX8_toSide_37
  · rw [if_neg hq0] at hf
    by_cases hq1 : x2 = 1
    · rw [if_pos hq1] at hf
      refine a_tableIn F (tgt := 38) hg9 dX8_toSide_1 (by omega) (by omega) (by rw [hq1]; rfl) (by decide) ?_
      refine a_aload_n F dX8_toSide_38 rfl 0 rfl ?_
      refine a_getR F (j := 0) tC_67 rfl rfl (by decide) inW8 w_340 dX8_toSide_39 ?_
      refine a_getI F (j := 0) tC_1 rfl rfl (by decide) inW9 w_342 dX8_toSide_42 ?_
      refine a_aload_n F dX8_toSide_45 rfl 0 rfl ?_
      refine a_getR F (j := 0) tC_67 rfl rfl (by decide) inW8 w_340 dX8_toSide_46 ?_
      refine a_getR F (j := 7) tC_1 rfl rfl (by decide) inW9 w_343 dX8_toSide_49 ?_
      refine a_iload_n F dX8_toSide_52 rfl 1 rfl ?_
      refine a_iald F tC_3 rfl (by decide) hf dX8_toSide_53 (fun hf => ?_)
      refine a_isub F dX8_toSide_54 ?_
      cases hf
      exact hr _ _ dX8_toSide_55
    · rw [if_neg hq1] at hf
      by_cases hq2 : x2 = 2
      · rw [if_pos hq2] at hf
        refine a_tableIn F (tgt := 56) hg9 dX8_toSide_1 (by omega) (by omega) (by rw [hq2]; rfl) (by decide) ?_
        refine a_aload_n F dX8_toSide_56 rfl 0 rfl ?_
        refine a_getR F (j := 0) tC_67 rfl rfl (by decide) inW8 w_340 dX8_toSide_57 ?_
        refine a_getI F (j := 1) tC_1 rfl rfl (by decide) inW9 w_344 dX8_toSide_60 ?_
        refine a_aload_n F dX8_toSide_63 rfl 0 rfl ?_
        refine a_getR F (j := 0) tC_67 rfl rfl (by decide) inW8 w_340 dX8_toSide_64 ?_
        refine a_getR F (j := 8) tC_1 rfl rfl (by decide) inW9 w_341 dX8_toSide_67 ?_
        refine a_iload_n F dX8_toSide_70 rfl 1 rfl ?_
        refine a_iald F tC_4 rfl (by decide) hf dX8_toSide_71 (fun hf => ?_)
        refine a_isub F dX8_toSide_72 ?_
        cases hf
        exact hr _ _ dX8_toSide_73
      · rw [if_neg hq2] at hf
        refine a_tableOut F (tgt := 74) hg9 dX8_toSide_1 (by omega) (by decide) ?_
        refine a_aload_n F dX8_toSide_74 rfl 0 rfl ?_
        refine a_getR F (j := 0) tC_67 rfl rfl (by decide) inW8 w_340 dX8_toSide_75 ?_
        refine a_getR F (j := 7) tC_1 rfl rfl (by decide) inW9 w_343 dX8_toSide_78 ?_
        refine a_iload_n F dX8_toSide_81 rfl 1 rfl ?_
        refine a_iald F tC_3 rfl (by decide) hf dX8_toSide_82 (fun hf => ?_)
        cases hf
        exact hr _ _ dX8_toSide_83
set_option maxRecDepth 100000 in
set_option maxHeartbeats 4000000 in
theorem c_X8_toSide {l : Launch}  {σ : St} {x1 x2 : Int} : CtrI vwCl WS NWs TC l yX8_toSide cX8_toSide 3 (some .int) rm_X8_toSide (fun ad => [.ref (ad 67), iv x1, iv x2]) σ (rd (f_X8_toSide σ x1 x2) σ) := by
  refine ctrI_of (by decide +kernel) (fun ad => Nat.le_of_ble_eq_true rfl) (fun v σ' ad X hf F K => ?_)
  obtain ⟨hf2, e2⟩ := rd_elim hf
  subst e2
  exact k_X8_toSide_b0 F hf2 K
abbrev rm_X8_toRim : Room := { frames := 1, cells := 0, slots := 0, locals := 23 }
set_option maxRecDepth 100000 in
set_option maxHeartbeats 4000000 in
theorem k_X8_toRim_b31 {l : Launch} {ad : Nat → Nat} {X : Cx} (F : Ok vwCl WS NWs TC cX8_toRim 10 yX8_toRim.cls (some .long) ad l X) {σ : St} {x1 x2 x3 x4 x5 x7 t0 : Int} {y : ((Int × Int) ⊕ Int)} (hf : f_X8_toRim_b31 σ x1 x2 x3 x4 x5 x7 t0 = some y) (hn : ∀ z5 z7, y = .inl (z5, z7) → At vwCl TC 10 rm_X8_toRim ad X σ [(0, .ref (ad 67)), (1, iv x1), (2, iv x2), (3, iv x3), (4, iv x4), (5, jv z5), (7, iv z7)] [] 8) : At vwCl TC 10 rm_X8_toRim ad X σ [(0, .ref (ad 67)), (1, iv x1), (2, iv x2), (3, iv x3), (4, iv x4), (5, jv x5), (7, iv x7)] [iv t0] 31 := by
  unfold f_X8_toRim_b31 at hf
  refine a_iload F dX8_toRim_31 4 rfl ?_
  refine a_icmp_ne F hf (tgt := 62) dX8_toRim_33 (by decide) (fun hf => ?_) (fun hf => ?_)
  · refine a_aload_n F dX8_toRim_36 rfl 0 rfl ?_
    refine a_iload_n F dX8_toRim_37 rfl 1 rfl ?_
    refine a_iload F dX8_toRim_38 6 rfl ?_
    refine a_callVIr F lk_RX8_62 tC_67 rfl c_X8_toSide rfl rfl ⟨rfl, rfl⟩ ⟨Nat.le_of_ble_eq_true rfl, Nat.le_of_ble_eq_true rfl⟩ rfl (Nat.le_of_ble_eq_true rfl) dX8_toRim_40 hf (fun r_4 hf => ?_)
    refine a_i2l F hf dX8_toRim_43 (fun hf => ?_)
    refine a_topJ hf (fun x8_5 hf => ?_)
    refine a_lstore F (lv' := [(8, jv x8_5), (0, .ref (ad 67)), (1, iv x1), (2, iv x2), (3, iv x3), (4, iv x4), (5, jv x5), (7, iv x7)]) dX8_toRim_44 (by decide) rfl ?_
    refine a_lload F dX8_toRim_46 6 rfl ?_
    refine a_ldc2 F (n := 4) (by decide +kernel) w_351 dX8_toRim_48 ?_
    refine a_lload F dX8_toRim_51 0 rfl ?_
    refine a_lmul F dX8_toRim_53 ?_
    refine a_lload F dX8_toRim_54 0 rfl ?_
    refine a_lmul F dX8_toRim_56 ?_
    refine a_mmin_long F w_352 w_286 w_145 w_287 (by decide) (Nat.le_of_ble_eq_true rfl) hf dX8_toRim_57 (fun hf => ?_)
    refine a_topJ hf (fun x5_6 hf => ?_)
    refine a_lstore F (lv' := [(5, jv x5_6), (8, jv x8_5), (0, .ref (ad 67)), (1, iv x1), (2, iv x2), (3, iv x3), (4, iv x4), (7, iv x7)]) dX8_toRim_60 (by decide) rfl ?_
    refine a_iinc F hf dX8_toRim_62 7 rfl (by decide) (fun x7_7 hf => ⟨[(7, iv x7_7), (5, jv x5_6), (8, jv x8_5), (0, .ref (ad 67)), (1, iv x1), (2, iv x2), (3, iv x3), (4, iv x4)], rfl, ?_⟩)
    refine a_goto F (tgt := 8) dX8_toRim_65 (by decide) ?_
    cases hf
    exact a_sub [3, 4, 5, 6, 7, 1, 0] rfl (hn _ _ rfl)
  · refine a_iinc F hf dX8_toRim_62 6 rfl (by decide) (fun x7_3 hf => ⟨[(7, iv x7_3), (0, .ref (ad 67)), (1, iv x1), (2, iv x2), (3, iv x3), (4, iv x4), (5, jv x5)], rfl, ?_⟩)
    refine a_goto F (tgt := 8) dX8_toRim_65 (by decide) ?_
    cases hf
    exact a_sub [1, 2, 3, 4, 5, 6, 0] rfl (hn _ _ rfl)
set_option maxRecDepth 100000 in
set_option maxHeartbeats 4000000 in
theorem k_X8_toRim_b30 {l : Launch} {ad : Nat → Nat} {X : Cx} (F : Ok vwCl WS NWs TC cX8_toRim 10 yX8_toRim.cls (some .long) ad l X) {σ : St} {x1 x2 x3 x4 x5 x7 : Int} {y : ((Int × Int) ⊕ Int)} (hf : f_X8_toRim_b30 σ x1 x2 x3 x4 x5 x7 = some y) (hn : ∀ z5 z7, y = .inl (z5, z7) → At vwCl TC 10 rm_X8_toRim ad X σ [(0, .ref (ad 67)), (1, iv x1), (2, iv x2), (3, iv x3), (4, iv x4), (5, jv z5), (7, iv z7)] [] 8) : At vwCl TC 10 rm_X8_toRim ad X σ [(0, .ref (ad 67)), (1, iv x1), (2, iv x2), (3, iv x3), (4, iv x4), (5, jv x5), (7, iv x7)] [] 30 := by
  unfold f_X8_toRim_b30 at hf
  refine a_iconst F dX8_toRim_30 ?_
  exact a_sub [0, 1, 2, 3, 4, 5, 6] rfl (k_X8_toRim_b31 F hf hn)
set_option maxRecDepth 100000 in
set_option maxHeartbeats 4000000 in
theorem k_X8_toRim_b8 {l : Launch} {ad : Nat → Nat} {X : Cx} (F : Ok vwCl WS NWs TC cX8_toRim 10 yX8_toRim.cls (some .long) ad l X) {σ : St} {x1 x2 x3 x4 x5 x7 : Int} {y : ((Int × Int) ⊕ Int)} (hf : f_X8_toRim_b8 σ x1 x2 x3 x4 x5 x7 = some y) (hn : ∀ z5 z7, y = .inl (z5, z7) → At vwCl TC 10 rm_X8_toRim ad X σ [(0, .ref (ad 67)), (1, iv x1), (2, iv x2), (3, iv x3), (4, iv x4), (5, jv z5), (7, iv z7)] [] 8) (hx0 : ∀ z5, y = .inr (z5) → At vwCl TC 10 rm_X8_toRim ad X σ [(5, jv z5)] [] 68) : At vwCl TC 10 rm_X8_toRim ad X σ [(0, .ref (ad 67)), (1, iv x1), (2, iv x2), (3, iv x3), (4, iv x4), (5, jv x5), (7, iv x7)] [] 8 := by
  unfold f_X8_toRim_b8 at hf
  refine a_iload F dX8_toRim_8 6 rfl ?_
  refine a_iconst F dX8_toRim_10 ?_
  refine a_icmp_ge F hf (tgt := 68) dX8_toRim_11 (by decide) (fun hf => ?_) (fun hf => ?_)
  · refine a_iload F dX8_toRim_14 6 rfl ?_
    refine a_iload_n F dX8_toRim_16 rfl 2 rfl ?_
    refine a_icmp_lt F hf (tgt := 30) dX8_toRim_17 (by decide) (fun hf => ?_) (fun hf => ?_)
    · exact a_sub [0, 1, 2, 3, 4, 5, 6] rfl (k_X8_toRim_b30 F hf hn)
    · refine a_iload F dX8_toRim_20 6 rfl ?_
      refine a_iload_n F dX8_toRim_22 rfl 3 rfl ?_
      refine a_icmp_ge F hf (tgt := 30) dX8_toRim_23 (by decide) (fun hf => ?_) (fun hf => ?_)
      · refine a_iconst F dX8_toRim_26 ?_
        refine a_goto F (tgt := 31) dX8_toRim_27 (by decide) ?_
        exact a_sub [0, 1, 2, 3, 4, 5, 6] rfl (k_X8_toRim_b31 F hf hn)
      · exact a_sub [0, 1, 2, 3, 4, 5, 6] rfl (k_X8_toRim_b30 F hf hn)
  · cases hf
    exact a_sub [5] rfl (hx0 _ rfl)
set_option maxRecDepth 100000 in
set_option maxHeartbeats 4000000 in
theorem k_X8_toRim_b0 {l : Launch} {ad : Nat → Nat} {X : Cx} (F : Ok vwCl WS NWs TC cX8_toRim 10 yX8_toRim.cls (some .long) ad l X) {σ : St} {x1 x2 x3 x4 : Int} {y : Int} (hf : f_X8_toRim_b0 σ x1 x2 x3 x4 = some y) (hr : RetL vwCl TC cX8_toRim 10 rm_X8_toRim ad X y σ) : At vwCl TC 10 rm_X8_toRim ad X σ [(0, .ref (ad 67)), (1, iv x1), (2, iv x2), (3, iv x3), (4, iv x4)] [] 0 := by
  unfold f_X8_toRim_b0 at hf
  refine a_ldc2 F (n := 1152921504606846976) (by decide +kernel) w_345 dX8_toRim_0 ?_
  refine a_topJ hf (fun x5_1 hf => ?_)
  refine a_lstore F (lv' := [(5, jv x5_1), (0, .ref (ad 67)), (1, iv x1), (2, iv x2), (3, iv x3), (4, iv x4)]) dX8_toRim_3 (by decide) rfl ?_
  refine a_iconst F dX8_toRim_5 ?_
  refine a_topI hf (fun x7_2 hf => ?_)
  refine a_istore F (lv' := [(7, iv x7_2), (5, jv x5_1), (0, .ref (ad 67)), (1, iv x1), (2, iv x2), (3, iv x3), (4, iv x4)]) dX8_toRim_6 (by decide) rfl ?_
  obtain ⟨q0, he, hf⟩ := jbind_elim hf
  refine a_sub [2, 3, 4, 5, 6, 1, 0] rfl (loop_rule (P := (fun q => ∀ z5 z7, (z5, z7) = q → At vwCl TC 10 rm_X8_toRim ad X σ [(0, .ref (ad 67)), (1, iv x1), (2, iv x2), (3, iv x3), (4, iv x4), (5, jv z5), (7, iv z7)] [] 8)) (K := (fun q => (∀ z5, z5 = q → At vwCl TC 10 rm_X8_toRim ad X σ [(5, jv z5)] [] 68))) ?_ 1000 _ _ he ?_ _ _ rfl)
  · intro q y hy hn hx z5 z7 e
    subst e
    exact k_X8_toRim_b8 F hy (fun z5 z7 e => hn _ e _ _ rfl) (fun z5 e => (hx _ e) _ rfl)
  · intro x5_8 e
    subst e
    refine a_lload F dX8_toRim_68 0 rfl ?_
    cases hf
    exact hr _ _ dX8_toRim_70
set_option maxRecDepth 100000 in
set_option maxHeartbeats 4000000 in
theorem c_X8_toRim {l : Launch}  {σ : St} {x1 x2 x3 x4 : Int} : CtrL vwCl WS NWs TC l yX8_toRim cX8_toRim 10 (some .long) rm_X8_toRim (fun ad => [.ref (ad 67), iv x1, iv x2, iv x3, iv x4]) σ (rd (f_X8_toRim σ x1 x2 x3 x4) σ) := by
  refine ctrL_of (by decide +kernel) (fun ad => Nat.le_of_ble_eq_true rfl) (fun v σ' ad X hf F K => ?_)
  obtain ⟨hf2, e2⟩ := rd_elim hf
  subst e2
  exact k_X8_toRim_b0 F hf2 K
abbrev rm_X8_leastGap : Room := { frames := 0, cells := 0, slots := 0, locals := 0 }
set_option maxRecDepth 100000 in
set_option maxHeartbeats 4000000 in
theorem k_X8_leastGap_b4 {l : Launch} {ad : Nat → Nat} {X : Cx} (F : Ok vwCl WS NWs TC cX8_leastGap 3 yX8_leastGap.cls (some .int) ad l X) {σ : St} {x1 x2 : Int} {y : ((Int × Int) ⊕ Int)} (hf : f_X8_leastGap_b4 σ x1 x2 = some y) (hn : ∀ z1 z2, y = .inl (z1, z2) → At vwCl TC 3 rm_X8_leastGap ad X σ [(0, .ref (ad 67)), (1, iv z1), (2, iv z2)] [] 4) (hx0 : ∀ z1, y = .inr (z1) → At vwCl TC 3 rm_X8_leastGap ad X σ [(1, iv z1)] [] 65) : At vwCl TC 3 rm_X8_leastGap ad X σ [(0, .ref (ad 67)), (1, iv x1), (2, iv x2)] [] 4 := by
  unfold f_X8_leastGap_b4 at hf
  refine a_iload_n F dX8_leastGap_4 rfl 2 rfl ?_
  refine a_aload_n F dX8_leastGap_5 rfl 0 rfl ?_
  refine a_getR F (j := 0) tC_67 rfl rfl (by decide) inW8 w_340 dX8_leastGap_6 ?_
  refine a_getI F (j := 4) tC_1 rfl rfl (by decide) inW9 w_353 dX8_leastGap_9 ?_
  refine a_icmp_ge F hf (tgt := 65) dX8_leastGap_12 (by decide) (fun hf => ?_) (fun hf => ?_)
  · refine a_aload_n F dX8_leastGap_15 rfl 0 rfl ?_
    refine a_getR F (j := 1) tC_67 rfl rfl (by decide) inW8 w_354 dX8_leastGap_16 ?_
    refine a_iload_n F dX8_leastGap_19 rfl 2 rfl ?_
    refine a_lald F tC_68 rfl (by decide) hf dX8_leastGap_20 (fun hf => ?_)
    refine a_ldc2 F (n := (-1)) (by decide +kernel) w_355 dX8_leastGap_21 ?_
    refine a_lcmp_eq F hf (tgt := 59) dX8_leastGap_24 dX8_leastGap_25 (by decide) (fun hf => ?_) (fun hf => ?_)
    · refine a_iinc F hf dX8_leastGap_59 2 rfl (by decide) (fun x2_3 hf => ⟨[(2, iv x2_3), (0, .ref (ad 67)), (1, iv x1)], rfl, ?_⟩)
      refine a_goto F (tgt := 4) dX8_leastGap_62 (by decide) ?_
      cases hf
      exact a_sub [1, 2, 0] rfl (hn _ _ rfl)
    · refine a_aload_n F dX8_leastGap_28 rfl 0 rfl ?_
      refine a_getR F (j := 1) tC_67 rfl rfl (by decide) inW8 w_354 dX8_leastGap_29 ?_
      refine a_iload_n F dX8_leastGap_32 rfl 1 rfl ?_
      refine a_lald F tC_68 rfl (by decide) hf dX8_leastGap_33 (fun hf => ?_)
      refine a_ldc2 F (n := (-1)) (by decide +kernel) w_355 dX8_leastGap_34 ?_
      refine a_lcmp_eq F hf (tgt := 57) dX8_leastGap_37 dX8_leastGap_38 (by decide) (fun hf => ?_) (fun hf => ?_)
      · refine a_iload_n F dX8_leastGap_57 rfl 2 rfl ?_
        refine a_topI hf (fun x1_4 hf => ?_)
        refine a_istore_n F (lv' := [(1, iv x1_4), (0, .ref (ad 67)), (2, iv x2)]) dX8_leastGap_58 rfl (by decide) rfl ?_
        refine a_iinc F hf dX8_leastGap_59 2 rfl (by decide) (fun x2_5 hf => ⟨[(2, iv x2_5), (1, iv x1_4), (0, .ref (ad 67))], rfl, ?_⟩)
        refine a_goto F (tgt := 4) dX8_leastGap_62 (by decide) ?_
        cases hf
        exact a_sub [2, 1, 0] rfl (hn _ _ rfl)
      · refine a_aload_n F dX8_leastGap_41 rfl 0 rfl ?_
        refine a_getR F (j := 1) tC_67 rfl rfl (by decide) inW8 w_354 dX8_leastGap_42 ?_
        refine a_iload_n F dX8_leastGap_45 rfl 2 rfl ?_
        refine a_lald F tC_68 rfl (by decide) hf dX8_leastGap_46 (fun hf => ?_)
        refine a_aload_n F dX8_leastGap_47 rfl 0 rfl ?_
        refine a_getR F (j := 1) tC_67 rfl rfl (by decide) inW8 w_354 dX8_leastGap_48 ?_
        refine a_iload_n F dX8_leastGap_51 rfl 1 rfl ?_
        refine a_lald F tC_68 rfl (by decide) hf dX8_leastGap_52 (fun hf => ?_)
        refine a_lcmp_ge F hf (tgt := 59) dX8_leastGap_53 dX8_leastGap_54 (by decide) (fun hf => ?_) (fun hf => ?_)
        · refine a_iload_n F dX8_leastGap_57 rfl 2 rfl ?_
          refine a_topI hf (fun x1_7 hf => ?_)
          refine a_istore_n F (lv' := [(1, iv x1_7), (0, .ref (ad 67)), (2, iv x2)]) dX8_leastGap_58 rfl (by decide) rfl ?_
          refine a_iinc F hf dX8_leastGap_59 2 rfl (by decide) (fun x2_8 hf => ⟨[(2, iv x2_8), (1, iv x1_7), (0, .ref (ad 67))], rfl, ?_⟩)
          refine a_goto F (tgt := 4) dX8_leastGap_62 (by decide) ?_
          cases hf
          exact a_sub [2, 1, 0] rfl (hn _ _ rfl)
        · refine a_iinc F hf dX8_leastGap_59 2 rfl (by decide) (fun x2_6 hf => ⟨[(2, iv x2_6), (0, .ref (ad 67)), (1, iv x1)], rfl, ?_⟩)
          refine a_goto F (tgt := 4) dX8_leastGap_62 (by decide) ?_
          cases hf
          exact a_sub [1, 2, 0] rfl (hn _ _ rfl)
  · cases hf
    exact a_sub [1] rfl (hx0 _ rfl)
set_option maxRecDepth 100000 in
set_option maxHeartbeats 4000000 in
theorem k_X8_leastGap_b0 {l : Launch} {ad : Nat → Nat} {X : Cx} (F : Ok vwCl WS NWs TC cX8_leastGap 3 yX8_leastGap.cls (some .int) ad l X) {σ : St} {y : Int} (hf : f_X8_leastGap_b0 σ = some y) (hr : RetI vwCl TC cX8_leastGap 3 rm_X8_leastGap ad X y σ) : At vwCl TC 3 rm_X8_leastGap ad X σ [(0, .ref (ad 67))] [] 0 := by
  unfold f_X8_leastGap_b0 at hf
  refine a_iconst F dX8_leastGap_0 ?_
  refine a_topI hf (fun x1_1 hf => ?_)
  refine a_istore_n F (lv' := [(1, iv x1_1), (0, .ref (ad 67))]) dX8_leastGap_1 rfl (by decide) rfl ?_
  refine a_iconst F dX8_leastGap_2 ?_
  refine a_topI hf (fun x2_2 hf => ?_)
  refine a_istore_n F (lv' := [(2, iv x2_2), (1, iv x1_1), (0, .ref (ad 67))]) dX8_leastGap_3 rfl (by decide) rfl ?_
  obtain ⟨q0, he, hf⟩ := jbind_elim hf
  refine a_sub [2, 1, 0] rfl (loop_rule (P := (fun q => ∀ z1 z2, (z1, z2) = q → At vwCl TC 3 rm_X8_leastGap ad X σ [(0, .ref (ad 67)), (1, iv z1), (2, iv z2)] [] 4)) (K := (fun q => (∀ z1, z1 = q → At vwCl TC 3 rm_X8_leastGap ad X σ [(1, iv z1)] [] 65))) ?_ 1000 _ _ he ?_ _ _ rfl)
  · intro q y hy hn hx z1 z2 e
    subst e
    exact k_X8_leastGap_b4 F hy (fun z1 z2 e => hn _ e _ _ rfl) (fun z1 e => (hx _ e) _ rfl)
  · intro x1_9 e
    subst e
    refine a_iload_n F dX8_leastGap_65 rfl 0 rfl ?_
    cases hf
    exact hr _ _ dX8_leastGap_66
set_option maxRecDepth 100000 in
set_option maxHeartbeats 4000000 in
theorem c_X8_leastGap {l : Launch}  {σ : St} : CtrI vwCl WS NWs TC l yX8_leastGap cX8_leastGap 3 (some .int) rm_X8_leastGap (fun ad => [.ref (ad 67)]) σ (rd (f_X8_leastGap σ) σ) := by
  refine ctrI_of (by decide +kernel) (fun ad => Nat.le_of_ble_eq_true rfl) (fun v σ' ad X hf F K => ?_)
  obtain ⟨hf2, e2⟩ := rd_elim hf
  subst e2
  exact k_X8_leastGap_b0 F hf2 K
abbrev rm_X8_chainFrom : Room := { frames := 1, cells := 0, slots := 0, locals := 24 }
set_option maxRecDepth 100000 in
set_option maxHeartbeats 4000000 in
theorem k_X8_chainFrom_b3 {l : Launch} {ad : Nat → Nat} {X : Cx} (F : Ok vwCl WS NWs TC cX8_chainFrom 7 yX8_chainFrom.cls none ad l X) {σ : St} {x1 x2 x4 : Int} {y : ((St × Int) ⊕ St)} (hf : f_X8_chainFrom_b3 σ x1 x2 x4 = some y) (hn : ∀ τ z4, y = .inl (τ, z4) → At vwCl TC 7 rm_X8_chainFrom ad X τ [(0, .ref (ad 67)), (1, iv x1), (2, jv x2), (4, iv z4)] [] 3) (hx0 : ∀ τ, y = .inr (τ) → At vwCl TC 7 rm_X8_chainFrom ad X τ [] [] 87) : At vwCl TC 7 rm_X8_chainFrom ad X σ [(0, .ref (ad 67)), (1, iv x1), (2, jv x2), (4, iv x4)] [] 3 := by
  unfold f_X8_chainFrom_b3 at hf
  refine a_iload F dX8_chainFrom_3 3 rfl ?_
  refine a_aload_n F dX8_chainFrom_5 rfl 0 rfl ?_
  refine a_getR F (j := 0) tC_67 rfl rfl (by decide) inW8 w_340 dX8_chainFrom_6 ?_
  refine a_getI F (j := 4) tC_1 rfl rfl (by decide) inW9 w_353 dX8_chainFrom_9 ?_
  refine a_icmp_ge F hf (tgt := 87) dX8_chainFrom_12 (by decide) (fun hf => ?_) (fun hf => ?_)
  · refine a_aload_n F dX8_chainFrom_15 rfl 0 rfl ?_
    refine a_getR F (j := 1) tC_67 rfl rfl (by decide) inW8 w_354 dX8_chainFrom_16 ?_
    refine a_iload F dX8_chainFrom_19 3 rfl ?_
    refine a_lald F tC_68 rfl (by decide) hf dX8_chainFrom_21 (fun hf => ?_)
    refine a_ldc2 F (n := (-1)) (by decide +kernel) w_355 dX8_chainFrom_22 ?_
    refine a_lcmp_eq F hf (tgt := 81) dX8_chainFrom_25 dX8_chainFrom_26 (by decide) (fun hf => ?_) (fun hf => ?_)
    · refine a_iinc F hf dX8_chainFrom_81 3 rfl (by decide) (fun x4_2 hf => ⟨[(4, iv x4_2), (0, .ref (ad 67)), (1, iv x1), (2, jv x2)], rfl, ?_⟩)
      refine a_goto F (tgt := 3) dX8_chainFrom_84 (by decide) ?_
      cases hf
      exact a_sub [1, 2, 3, 0] rfl (hn _ _ rfl)
    · refine a_aload_n F dX8_chainFrom_29 rfl 0 rfl ?_
      refine a_getR F (j := 0) tC_67 rfl rfl (by decide) inW8 w_340 dX8_chainFrom_30 ?_
      refine a_aload_n F dX8_chainFrom_33 rfl 0 rfl ?_
      refine a_getR F (j := 0) tC_67 rfl rfl (by decide) inW8 w_340 dX8_chainFrom_34 ?_
      refine a_getR F (j := 5) tC_1 rfl rfl (by decide) inW9 w_356 dX8_chainFrom_37 ?_
      refine a_iload_n F dX8_chainFrom_40 rfl 1 rfl ?_
      refine a_iald F tC_2 rfl (by decide) hf dX8_chainFrom_41 (fun hf => ?_)
      refine a_aload_n F dX8_chainFrom_42 rfl 0 rfl ?_
      refine a_getR F (j := 0) tC_67 rfl rfl (by decide) inW8 w_340 dX8_chainFrom_43 ?_
      refine a_getR F (j := 5) tC_1 rfl rfl (by decide) inW9 w_356 dX8_chainFrom_46 ?_
      refine a_iload F dX8_chainFrom_49 3 rfl ?_
      refine a_iald F tC_2 rfl (by decide) hf dX8_chainFrom_51 (fun hf => ?_)
      refine a_callVIr F lk_RX8_59 tC_1 rfl c_X9_square rfl rfl ⟨rfl, rfl⟩ ⟨Nat.le_of_ble_eq_true rfl, Nat.le_of_ble_eq_true rfl⟩ rfl (Nat.le_of_ble_eq_true rfl) dX8_chainFrom_52 hf (fun r_3 hf => ?_)
      refine a_i2l F hf dX8_chainFrom_55 (fun hf => ?_)
      refine a_topJ hf (fun x5_4 hf => ?_)
      refine a_lstore F (lv' := [(5, jv x5_4), (0, .ref (ad 67)), (1, iv x1), (2, jv x2), (4, iv x4)]) dX8_chainFrom_56 (by decide) rfl ?_
      refine a_aload_n F dX8_chainFrom_58 rfl 1 rfl ?_
      refine a_getR F (j := 1) tC_67 rfl rfl (by decide) inW8 w_354 dX8_chainFrom_59 ?_
      refine a_iload F dX8_chainFrom_62 4 rfl ?_
      refine a_aload_n F dX8_chainFrom_64 rfl 1 rfl ?_
      refine a_getR F (j := 1) tC_67 rfl rfl (by decide) inW8 w_354 dX8_chainFrom_65 ?_
      refine a_iload F dX8_chainFrom_68 4 rfl ?_
      refine a_lald F tC_68 rfl (by decide) hf dX8_chainFrom_70 (fun hf => ?_)
      refine a_lload_n F dX8_chainFrom_71 rfl 3 rfl ?_
      refine a_lload F dX8_chainFrom_72 0 rfl ?_
      refine a_mmax_long F w_358 w_359 w_145 w_360 (by decide) (Nat.le_of_ble_eq_true rfl) hf dX8_chainFrom_74 (fun hf => ?_)
      refine a_mmin_long F w_352 w_286 w_145 w_287 (by decide) (Nat.le_of_ble_eq_true rfl) hf dX8_chainFrom_77 (fun hf => ?_)
      refine a_last F tC_68 rfl (by decide) hf dX8_chainFrom_80 (fun σ_5 hf => ?_)
      refine a_iinc F hf dX8_chainFrom_81 4 rfl (by decide) (fun x4_6 hf => ⟨[(4, iv x4_6), (5, jv x5_4), (0, .ref (ad 67)), (1, iv x1), (2, jv x2)], rfl, ?_⟩)
      refine a_goto F (tgt := 3) dX8_chainFrom_84 (by decide) ?_
      cases hf
      exact a_sub [2, 3, 4, 0] rfl (hn _ _ rfl)
  · cases hf
    exact a_sub [] rfl (hx0 _ rfl)
set_option maxRecDepth 100000 in
set_option maxHeartbeats 4000000 in
theorem k_X8_chainFrom_b0 {l : Launch} {ad : Nat → Nat} {X : Cx} (F : Ok vwCl WS NWs TC cX8_chainFrom 7 yX8_chainFrom.cls none ad l X) {σ : St} {x1 x2 : Int} {y : St} (hf : f_X8_chainFrom_b0 σ x1 x2 = some y) (hr : RetV vwCl TC cX8_chainFrom 7 rm_X8_chainFrom ad X y) : At vwCl TC 7 rm_X8_chainFrom ad X σ [(0, .ref (ad 67)), (1, iv x1), (2, jv x2)] [] 0 := by
  unfold f_X8_chainFrom_b0 at hf
  refine a_iconst F dX8_chainFrom_0 ?_
  refine a_topI hf (fun x4_1 hf => ?_)
  refine a_istore F (lv' := [(4, iv x4_1), (0, .ref (ad 67)), (1, iv x1), (2, jv x2)]) dX8_chainFrom_1 (by decide) rfl ?_
  obtain ⟨q0, he, hf⟩ := jbind_elim hf
  refine a_sub [1, 2, 3, 0] rfl (loop_rule (P := (fun q => ∀ τ z4, (τ, z4) = q → At vwCl TC 7 rm_X8_chainFrom ad X τ [(0, .ref (ad 67)), (1, iv x1), (2, jv x2), (4, iv z4)] [] 3)) (K := (fun q => (∀ τ, τ = q → At vwCl TC 7 rm_X8_chainFrom ad X τ [] [] 87))) ?_ 1000 _ _ he ?_ _ _ rfl)
  · intro q y hy hn hx τ z4 e
    subst e
    exact k_X8_chainFrom_b3 F hy (fun τ z4 e => hn _ e _ _ rfl) (fun τ e => (hx _ e) _ rfl)
  · intro σ_7 e
    subst e
    cases hf
    exact hr _ _ dX8_chainFrom_87
set_option maxRecDepth 100000 in
set_option maxHeartbeats 4000000 in
theorem c_X8_chainFrom {l : Launch}  {σ : St} {x1 x2 : Int} : CtrV vwCl WS NWs TC l yX8_chainFrom cX8_chainFrom 7 none rm_X8_chainFrom (fun ad => [.ref (ad 67), iv x1, jv x2]) σ (f_X8_chainFrom σ x1 x2) := by
  refine ctrV_of (by decide +kernel) (fun ad => Nat.le_of_ble_eq_true rfl) (fun σ' ad X hf F K => ?_)
  exact k_X8_chainFrom_b0 F hf K
abbrev rm_X8_widest : Room := { frames := 2, cells := 0, slots := 0, locals := 52 }
set_option maxRecDepth 100000 in
set_option maxHeartbeats 4000000 in
theorem k_X8_widest_b21 {l : Launch} {ad : Nat → Nat} {X : Cx} (F : Ok vwCl WS NWs TC cX8_widest 13 yX8_widest.cls (some .int) ad l X) {σ : St} {x3 x4 x5 x7 : Int} {y : ((St × Int) ⊕ St)} (hf : f_X8_widest_b21 σ x3 x4 x5 x7 = some y) (hn : ∀ τ z7, y = .inl (τ, z7) → At vwCl TC 13 rm_X8_widest ad X τ [(0, .ref (ad 67)), (3, iv x3), (4, iv x4), (5, jv x5), (7, iv z7)] [] 21) (hx0 : ∀ τ, y = .inr (τ) → At vwCl TC 13 rm_X8_widest ad X τ [(0, .ref (ad 67)), (3, iv x3), (4, iv x4), (5, jv x5)] [] 64) : At vwCl TC 13 rm_X8_widest ad X σ [(0, .ref (ad 67)), (3, iv x3), (4, iv x4), (5, jv x5), (7, iv x7)] [] 21 := by
  unfold f_X8_widest_b21 at hf
  refine a_iload F dX8_widest_21 4 rfl ?_
  refine a_aload_n F dX8_widest_23 rfl 0 rfl ?_
  refine a_getR F (j := 0) tC_67 rfl rfl (by decide) inW8 w_340 dX8_widest_24 ?_
  refine a_getI F (j := 4) tC_1 rfl rfl (by decide) inW9 w_353 dX8_widest_27 ?_
  refine a_icmp_ge F hf (tgt := 64) dX8_widest_30 (by decide) (fun hf => ?_) (fun hf => ?_)
  · refine a_aload_n F dX8_widest_33 rfl 0 rfl ?_
    refine a_getR F (j := 1) tC_67 rfl rfl (by decide) inW8 w_354 dX8_widest_34 ?_
    refine a_iload F dX8_widest_37 4 rfl ?_
    refine a_aload_n F dX8_widest_39 rfl 0 rfl ?_
    refine a_aload_n F dX8_widest_40 rfl 0 rfl ?_
    refine a_getR F (j := 0) tC_67 rfl rfl (by decide) inW8 w_340 dX8_widest_41 ?_
    refine a_getR F (j := 5) tC_1 rfl rfl (by decide) inW9 w_356 dX8_widest_44 ?_
    refine a_iload F dX8_widest_47 4 rfl ?_
    refine a_iald F tC_2 rfl (by decide) hf dX8_widest_49 (fun hf => ?_)
    refine a_iload_n F dX8_widest_50 rfl 1 rfl ?_
    refine a_iload F dX8_widest_51 2 rfl ?_
    refine a_iconst F dX8_widest_53 ?_
    refine a_callVLr F lk_RX8_40 tC_67 rfl c_X8_toRim rfl rfl ⟨rfl, rfl⟩ ⟨Nat.le_of_ble_eq_true rfl, Nat.le_of_ble_eq_true rfl⟩ rfl (Nat.le_of_ble_eq_true rfl) dX8_widest_54 hf (fun r_5 hf => ?_)
    refine a_last F tC_68 rfl (by decide) hf dX8_widest_57 (fun σ_6 hf => ?_)
    refine a_iinc F hf dX8_widest_58 4 rfl (by decide) (fun x7_7 hf => ⟨[(7, iv x7_7), (0, .ref (ad 67)), (3, iv x3), (4, iv x4), (5, jv x5)], rfl, ?_⟩)
    refine a_goto F (tgt := 21) dX8_widest_61 (by decide) ?_
    cases hf
    exact a_sub [1, 2, 3, 4, 0] rfl (hn _ _ rfl)
  · cases hf
    exact a_sub [0, 1, 2, 3] rfl (hx0 _ rfl)
set_option maxRecDepth 100000 in
set_option maxHeartbeats 4000000 in
theorem k_X8_widest_b67 {l : Launch} {ad : Nat → Nat} {X : Cx} (F : Ok vwCl WS NWs TC cX8_widest 13 yX8_widest.cls (some .int) ad l X) {σ : St} {x3 x4 x5 x7 : Int} {y : ((St × Int × Int) ⊕ (St × Int))} (hf : f_X8_widest_b67 σ x3 x4 x5 x7 = some y) (hn : ∀ τ z5 z7, y = .inl (τ, z5, z7) → At vwCl TC 13 rm_X8_widest ad X τ [(0, .ref (ad 67)), (3, iv x3), (4, iv x4), (5, jv z5), (7, iv z7)] [] 67) (hx0 : ∀ τ z5, y = .inr ((τ, z5)) → At vwCl TC 13 rm_X8_widest ad X τ [(5, jv z5)] [] 152) : At vwCl TC 13 rm_X8_widest ad X σ [(0, .ref (ad 67)), (3, iv x3), (4, iv x4), (5, jv x5), (7, iv x7)] [] 67 := by
  unfold f_X8_widest_b67 at hf
  refine a_iload F dX8_widest_67 4 rfl ?_
  refine a_aload_n F dX8_widest_69 rfl 0 rfl ?_
  refine a_getR F (j := 0) tC_67 rfl rfl (by decide) inW8 w_340 dX8_widest_70 ?_
  refine a_getI F (j := 4) tC_1 rfl rfl (by decide) inW9 w_353 dX8_widest_73 ?_
  refine a_icmp_ge F hf (tgt := 152) dX8_widest_76 (by decide) (fun hf => ?_) (fun hf => ?_)
  · refine a_aload_n F dX8_widest_79 rfl 0 rfl ?_
    refine a_callVIr F lk_RX8_44 tC_67 rfl c_X8_leastGap rfl rfl ⟨rfl, rfl⟩ ⟨Nat.le_of_ble_eq_true rfl, Nat.le_of_ble_eq_true rfl⟩ rfl (Nat.le_of_ble_eq_true rfl) dX8_widest_80 hf (fun r_10 hf => ?_)
    refine a_topI hf (fun x8_11 hf => ?_)
    refine a_istore F (lv' := [(8, iv x8_11), (0, .ref (ad 67)), (3, iv x3), (4, iv x4), (5, jv x5), (7, iv x7)]) dX8_widest_83 (by decide) rfl ?_
    refine a_aload_n F dX8_widest_85 rfl 1 rfl ?_
    refine a_getR F (j := 1) tC_67 rfl rfl (by decide) inW8 w_354 dX8_widest_86 ?_
    refine a_iload F dX8_widest_89 0 rfl ?_
    refine a_lald F tC_68 rfl (by decide) hf dX8_widest_91 (fun hf => ?_)
    refine a_topJ hf (fun x9_12 hf => ?_)
    refine a_lstore F (lv' := [(9, jv x9_12), (8, iv x8_11), (0, .ref (ad 67)), (3, iv x3), (4, iv x4), (5, jv x5), (7, iv x7)]) dX8_widest_92 (by decide) rfl ?_
    refine a_lload F dX8_widest_94 0 rfl ?_
    refine a_aload_n F dX8_widest_96 rfl 2 rfl ?_
    refine a_aload_n F dX8_widest_97 rfl 2 rfl ?_
    refine a_getR F (j := 0) tC_67 rfl rfl (by decide) inW8 w_340 dX8_widest_98 ?_
    refine a_getR F (j := 5) tC_1 rfl rfl (by decide) inW9 w_356 dX8_widest_101 ?_
    refine a_iload F dX8_widest_104 1 rfl ?_
    refine a_iald F tC_2 rfl (by decide) hf dX8_widest_106 (fun hf => ?_)
    refine a_iload_n F dX8_widest_107 rfl 3 rfl ?_
    refine a_iload F dX8_widest_108 4 rfl ?_
    refine a_iconst F dX8_widest_110 ?_
    refine a_callVLr F lk_RX8_40 tC_67 rfl c_X8_toRim rfl rfl ⟨rfl, rfl⟩ ⟨Nat.le_of_ble_eq_true rfl, Nat.le_of_ble_eq_true rfl⟩ rfl (Nat.le_of_ble_eq_true rfl) dX8_widest_111 hf (fun r_13 hf => ?_)
    refine a_mmax_long F w_358 w_359 w_145 w_360 (by decide) (Nat.le_of_ble_eq_true rfl) hf dX8_widest_114 (fun hf => ?_)
    refine a_topJ hf (fun x11_14 hf => ?_)
    refine a_lstore F (lv' := [(11, jv x11_14), (9, jv x9_12), (8, iv x8_11), (0, .ref (ad 67)), (3, iv x3), (4, iv x4), (5, jv x5), (7, iv x7)]) dX8_widest_117 (by decide) rfl ?_
    refine a_lload F dX8_widest_119 6 rfl ?_
    refine a_lload F dX8_widest_121 0 rfl ?_
    refine a_mmin_long F w_352 w_286 w_145 w_287 (by decide) (Nat.le_of_ble_eq_true rfl) hf dX8_widest_123 (fun hf => ?_)
    refine a_topJ hf (fun x5_15 hf => ?_)
    refine a_lstore F (lv' := [(5, jv x5_15), (11, jv x11_14), (9, jv x9_12), (8, iv x8_11), (0, .ref (ad 67)), (3, iv x3), (4, iv x4), (7, iv x7)]) dX8_widest_126 (by decide) rfl ?_
    refine a_aload_n F dX8_widest_128 rfl 4 rfl ?_
    refine a_getR F (j := 1) tC_67 rfl rfl (by decide) inW8 w_354 dX8_widest_129 ?_
    refine a_iload F dX8_widest_132 3 rfl ?_
    refine a_ldc2 F (n := (-1)) (by decide +kernel) w_355 dX8_widest_134 ?_
    refine a_last F tC_68 rfl (by decide) hf dX8_widest_137 (fun σ_16 hf => ?_)
    refine a_aload_n F dX8_widest_138 rfl 4 rfl ?_
    refine a_iload F dX8_widest_139 3 rfl ?_
    refine a_lload F dX8_widest_141 2 rfl ?_
    refine a_callVV F lk_RX8_55 tC_67 rfl c_X8_chainFrom rfl rfl ⟨rfl, rfl⟩ ⟨Nat.le_of_ble_eq_true rfl, Nat.le_of_ble_eq_true rfl⟩ rfl (Nat.le_of_ble_eq_true rfl) dX8_widest_143 hf (fun σ_17 hf => ?_)
    refine a_iinc F hf dX8_widest_146 7 rfl (by decide) (fun x7_18 hf => ⟨[(7, iv x7_18), (5, jv x5_15), (11, jv x11_14), (9, jv x9_12), (8, iv x8_11), (0, .ref (ad 67)), (3, iv x3), (4, iv x4)], rfl, ?_⟩)
    refine a_goto F (tgt := 67) dX8_widest_149 (by decide) ?_
    cases hf
    exact a_sub [5, 6, 7, 1, 0] rfl (hn _ _ _ rfl)
  · cases hf
    exact a_sub [3] rfl (hx0 _ _ rfl)
set_option maxRecDepth 100000 in
set_option maxHeartbeats 4000000 in
theorem k_X8_widest_b0 {l : Launch} {ad : Nat → Nat} {X : Cx} (F : Ok vwCl WS NWs TC cX8_widest 13 yX8_widest.cls (some .int) ad l X) {σ : St} {x1 x2 : Int} {y : (Int × St)} (hf : f_X8_widest_b0 σ x1 x2 = some y) (hr : ∀ v τ, y = (v, τ) → RetI vwCl TC cX8_widest 13 rm_X8_widest ad X v τ) : At vwCl TC 13 rm_X8_widest ad X σ [(0, .ref (ad 67)), (1, iv x1), (2, iv x2)] [] 0 := by
  unfold f_X8_widest_b0 at hf
  refine a_iload_n F dX8_widest_0 rfl 1 rfl ?_
  refine a_iload_n F dX8_widest_1 rfl 2 rfl ?_
  refine a_mmin F w_361 w_240 w_145 w_241 (by decide) (Nat.le_of_ble_eq_true rfl) hf dX8_widest_2 (fun hf => ?_)
  refine a_topI hf (fun x3_1 hf => ?_)
  refine a_istore_n F (lv' := [(3, iv x3_1), (0, .ref (ad 67)), (1, iv x1), (2, iv x2)]) dX8_widest_5 rfl (by decide) rfl ?_
  refine a_iload_n F dX8_widest_6 rfl 2 rfl ?_
  refine a_iload_n F dX8_widest_7 rfl 3 rfl ?_
  refine a_mmax F w_362 w_274 w_145 w_275 (by decide) (Nat.le_of_ble_eq_true rfl) hf dX8_widest_8 (fun hf => ?_)
  refine a_topI hf (fun x4_2 hf => ?_)
  refine a_istore F (lv' := [(4, iv x4_2), (3, iv x3_1), (0, .ref (ad 67)), (1, iv x1), (2, iv x2)]) dX8_widest_11 (by decide) rfl ?_
  refine a_ldc2 F (n := 1152921504606846976) (by decide +kernel) w_345 dX8_widest_13 ?_
  refine a_topJ hf (fun x5_3 hf => ?_)
  refine a_lstore F (lv' := [(5, jv x5_3), (4, iv x4_2), (3, iv x3_1), (0, .ref (ad 67)), (1, iv x1), (2, iv x2)]) dX8_widest_16 (by decide) rfl ?_
  refine a_iconst F dX8_widest_18 ?_
  refine a_topI hf (fun x7_4 hf => ?_)
  refine a_istore F (lv' := [(7, iv x7_4), (5, jv x5_3), (4, iv x4_2), (3, iv x3_1), (0, .ref (ad 67)), (1, iv x1), (2, iv x2)]) dX8_widest_19 (by decide) rfl ?_
  obtain ⟨q0, he, hf⟩ := jbind_elim hf
  refine a_sub [4, 3, 2, 1, 0] rfl (loop_rule (P := (fun q => ∀ τ z7, (τ, z7) = q → At vwCl TC 13 rm_X8_widest ad X τ [(0, .ref (ad 67)), (3, iv x3_1), (4, iv x4_2), (5, jv x5_3), (7, iv z7)] [] 21)) (K := (fun q => (∀ τ, τ = q → At vwCl TC 13 rm_X8_widest ad X τ [(0, .ref (ad 67)), (3, iv x3_1), (4, iv x4_2), (5, jv x5_3)] [] 64))) ?_ 1000 _ _ he ?_ _ _ rfl)
  · intro q y hy hn hx τ z7 e
    subst e
    exact k_X8_widest_b21 F hy (fun τ z7 e => hn _ e _ _ rfl) (fun τ e => (hx _ e) _ rfl)
  · intro σ_8 e
    subst e
    refine a_iconst F dX8_widest_64 ?_
    refine a_topI hf (fun x7_9 hf => ?_)
    refine a_istore F (lv' := [(7, iv x7_9), (0, .ref (ad 67)), (3, iv x3_1), (4, iv x4_2), (5, jv x5_3)]) dX8_widest_65 (by decide) rfl ?_
    obtain ⟨q0, he, hf⟩ := jbind_elim hf
    refine a_sub [1, 2, 3, 4, 0] rfl (loop_rule (P := (fun q => ∀ τ z5 z7, (τ, z5, z7) = q → At vwCl TC 13 rm_X8_widest ad X τ [(0, .ref (ad 67)), (3, iv x3_1), (4, iv x4_2), (5, jv z5), (7, iv z7)] [] 67)) (K := (fun q => (∀ τ z5, (τ, z5) = q → At vwCl TC 13 rm_X8_widest ad X τ [(5, jv z5)] [] 152))) ?_ 1000 _ _ he ?_ _ _ _ rfl)
    · intro q y hy hn hx τ z5 z7 e
      subst e
      exact k_X8_widest_b67 F hy (fun τ z5 z7 e => hn _ e _ _ _ rfl) (fun τ z5 e => (hx _ e) _ _ rfl)
    · intro σ_19 x5_20 e
      subst e
      refine a_lload F dX8_widest_152 0 rfl ?_
      refine a_l2i F dX8_widest_154 ?_
      cases hf
      exact hr _ _ rfl _ _ dX8_widest_155
set_option maxRecDepth 100000 in
set_option maxHeartbeats 4000000 in
theorem c_X8_widest {l : Launch}  {σ : St} {x1 x2 : Int} : CtrI vwCl WS NWs TC l yX8_widest cX8_widest 13 (some .int) rm_X8_widest (fun ad => [.ref (ad 67), iv x1, iv x2]) σ (f_X8_widest σ x1 x2) := by
  refine ctrI_of (by decide +kernel) (fun ad => Nat.le_of_ble_eq_true rfl) (fun v σ' ad X hf F K => ?_)
  exact k_X8_widest_b0 F hf (fun v τ e => by cases e; exact K)
abbrev rm_X10_keep : Room := { frames := 3, cells := 0, slots := 0, locals := 84 }
set_option maxRecDepth 100000 in
set_option maxHeartbeats 4000000 in
theorem k_X10_keep_b28 {l : Launch} {ad : Nat → Nat} {X : Cx} (F : Ok vwCl WS NWs TC cX10_keep 4 yX10_keep.cls (some .int) ad l X) {σ : St} {x1 x2 t0 : Int} {y : (Int × St)} (hf : f_X10_keep_b28 σ x1 x2 t0 = some y) (hr : ∀ v τ, y = (v, τ) → RetI vwCl TC cX10_keep 4 rm_X10_keep ad X v τ) : At vwCl TC 4 rm_X10_keep ad X σ [(0, .ref (ad 0)), (1, iv x1), (2, iv x2)] [iv t0] 28 := by
  unfold f_X10_keep_b28 at hf
  refine a_topI hf (fun x3_1 hf => ?_)
  refine a_istore_n F (lv' := [(3, iv x3_1), (0, .ref (ad 0)), (1, iv x1), (2, iv x2)]) dX10_keep_28 rfl (by decide) rfl ?_
  refine a_iload_n F dX10_keep_29 rfl 0 rfl ?_
  refine a_if_eq F hf (tgt := 55) dX10_keep_30 (by decide) (fun hf => ?_) (fun hf => ?_)
  · refine a_iconst F dX10_keep_55 ?_
    cases hf
    exact hr _ _ rfl _ _ dX10_keep_56
  · refine a_aload_n F dX10_keep_33 rfl 1 rfl ?_
    refine a_getR F (j := 0) tC_0 rfl rfl (by decide) inW10 w_167 dX10_keep_34 ?_
    refine a_getI F (j := 4) tC_1 rfl rfl (by decide) inW9 w_331 dX10_keep_37 ?_
    refine a_if_le F hf (tgt := 55) dX10_keep_40 (by decide) (fun hf => ?_) (fun hf => ?_)
    · refine a_aload_n F dX10_keep_43 rfl 1 rfl ?_
      refine a_getR F (j := 8) tC_0 rfl rfl (by decide) inW10 w_375 dX10_keep_44 ?_
      refine a_iload_n F dX10_keep_47 rfl 2 rfl ?_
      refine a_iload_n F dX10_keep_48 rfl 3 rfl ?_
      refine a_callVI F lk_RX10_211 tC_67 rfl c_X8_widest rfl rfl ⟨rfl, rfl⟩ ⟨Nat.le_of_ble_eq_true rfl, Nat.le_of_ble_eq_true rfl⟩ rfl (Nat.le_of_ble_eq_true rfl) dX10_keep_49 hf (fun r_2 σ_3 hf => ?_)
      refine a_goto F (tgt := 56) dX10_keep_52 (by decide) ?_
      cases hf
      exact hr _ _ rfl _ _ dX10_keep_56
    · refine a_iconst F dX10_keep_55 ?_
      cases hf
      exact hr _ _ rfl _ _ dX10_keep_56
set_option maxRecDepth 100000 in
set_option maxHeartbeats 4000000 in
theorem k_X10_keep_b27 {l : Launch} {ad : Nat → Nat} {X : Cx} (F : Ok vwCl WS NWs TC cX10_keep 4 yX10_keep.cls (some .int) ad l X) {σ : St} {x1 x2 : Int} {y : (Int × St)} (hf : f_X10_keep_b27 σ x1 x2 = some y) (hr : ∀ v τ, y = (v, τ) → RetI vwCl TC cX10_keep 4 rm_X10_keep ad X v τ) : At vwCl TC 4 rm_X10_keep ad X σ [(0, .ref (ad 0)), (1, iv x1), (2, iv x2)] [] 27 := by
  unfold f_X10_keep_b27 at hf
  refine a_iconst F dX10_keep_27 ?_
  exact a_sub [0, 1, 2] rfl (k_X10_keep_b28 F hf hr)
set_option maxRecDepth 100000 in
set_option maxHeartbeats 4000000 in
theorem k_X10_keep_b0 {l : Launch} {ad : Nat → Nat} {X : Cx} (F : Ok vwCl WS NWs TC cX10_keep 4 yX10_keep.cls (some .int) ad l X) {σ : St} {x1 x2 : Int} {y : (Int × St)} (hf : f_X10_keep_b0 σ x1 x2 = some y) (hr : ∀ v τ, y = (v, τ) → RetI vwCl TC cX10_keep 4 rm_X10_keep ad X v τ) : At vwCl TC 4 rm_X10_keep ad X σ [(0, .ref (ad 0)), (1, iv x1), (2, iv x2)] [] 0 := by
  unfold f_X10_keep_b0 at hf
  refine a_iload_n F dX10_keep_0 rfl 1 rfl ?_
  refine a_if_lt F hf (tgt := 27) dX10_keep_1 (by decide) (fun hf => ?_) (fun hf => ?_)
  · exact a_sub [0, 1, 2] rfl (k_X10_keep_b27 F hf hr)
  · refine a_iload_n F dX10_keep_4 rfl 1 rfl ?_
    refine a_iconst F dX10_keep_5 ?_
    refine a_icmp_ge F hf (tgt := 27) dX10_keep_6 (by decide) (fun hf => ?_) (fun hf => ?_)
    · refine a_iload_n F dX10_keep_9 rfl 2 rfl ?_
      refine a_if_lt F hf (tgt := 27) dX10_keep_10 (by decide) (fun hf => ?_) (fun hf => ?_)
      · exact a_sub [0, 1, 2] rfl (k_X10_keep_b27 F hf hr)
      · refine a_iload_n F dX10_keep_13 rfl 2 rfl ?_
        refine a_iconst F dX10_keep_14 ?_
        refine a_icmp_ge F hf (tgt := 27) dX10_keep_15 (by decide) (fun hf => ?_) (fun hf => ?_)
        · refine a_iload_n F dX10_keep_18 rfl 1 rfl ?_
          refine a_iload_n F dX10_keep_19 rfl 2 rfl ?_
          refine a_icmp_eq F hf (tgt := 27) dX10_keep_20 (by decide) (fun hf => ?_) (fun hf => ?_)
          · exact a_sub [0, 1, 2] rfl (k_X10_keep_b27 F hf hr)
          · refine a_iconst F dX10_keep_23 ?_
            refine a_goto F (tgt := 28) dX10_keep_24 (by decide) ?_
            exact a_sub [0, 1, 2] rfl (k_X10_keep_b28 F hf hr)
        · exact a_sub [0, 1, 2] rfl (k_X10_keep_b27 F hf hr)
    · exact a_sub [0, 1, 2] rfl (k_X10_keep_b27 F hf hr)
set_option maxRecDepth 100000 in
set_option maxHeartbeats 4000000 in
theorem c_X10_keep {l : Launch}  {σ : St} {x1 x2 : Int} : CtrI vwCl WS NWs TC l yX10_keep cX10_keep 4 (some .int) rm_X10_keep (fun ad => [.ref (ad 0), iv x1, iv x2]) σ (f_X10_keep σ x1 x2) := by
  refine ctrI_of (by decide +kernel) (fun ad => Nat.le_of_ble_eq_true rfl) (fun v σ' ad X hf F K => ?_)
  exact k_X10_keep_b0 F hf (fun v τ e => by cases e; exact K)
abbrev rm_X10_largest : Room := { frames := 6, cells := 0, slots := 0, locals := 150 }
set_option maxRecDepth 100000 in
set_option maxHeartbeats 4000000 in
theorem k_X10_largest_b0 {l : Launch} {ad : Nat → Nat} {X : Cx} (F : Ok vwCl WS NWs TC cX10_largest 2 yX10_largest.cls (some .long) ad l X) {σ : St} {x1 : Int} {y : (Int × St)} (hf : f_X10_largest_b0 σ x1 = some y) (hr : ∀ v τ, y = (v, τ) → RetL vwCl TC cX10_largest 2 rm_X10_largest ad X v τ) : At vwCl TC 2 rm_X10_largest ad X σ [(0, .ref (ad 0)), (1, iv x1)] [] 0 := by
  unfold f_X10_largest_b0 at hf
  refine a_aload_n F dX10_largest_0 rfl 0 rfl ?_
  refine a_getR F (j := 5) tC_0 rfl rfl (by decide) inW10 w_380 dX10_largest_1 ?_
  refine a_callVV F lk_RX10_191 tC_41 rfl c_X0_findOnce rfl rfl ⟨rfl, rfl⟩ ⟨Nat.le_of_ble_eq_true rfl, Nat.le_of_ble_eq_true rfl⟩ rfl (Nat.le_of_ble_eq_true rfl) dX10_largest_4 hf (fun σ_1 hf => ?_)
  refine a_aload_n F dX10_largest_7 rfl 0 rfl ?_
  refine a_getR F (j := 5) tC_0 rfl rfl (by decide) inW10 w_380 dX10_largest_8 ?_
  refine a_iload_n F dX10_largest_11 rfl 1 rfl ?_
  refine a_callVLr F lk_RX10_192 tC_41 rfl c_X0_tell rfl rfl ⟨rfl, rfl⟩ ⟨Nat.le_of_ble_eq_true rfl, Nat.le_of_ble_eq_true rfl⟩ rfl (Nat.le_of_ble_eq_true rfl) dX10_largest_12 hf (fun r_2 hf => ?_)
  cases hf
  exact hr _ _ rfl _ _ dX10_largest_15
set_option maxRecDepth 100000 in
set_option maxHeartbeats 4000000 in
theorem c_X10_largest {l : Launch}  {σ : St} {x1 : Int} : CtrL vwCl WS NWs TC l yX10_largest cX10_largest 2 (some .long) rm_X10_largest (fun ad => [.ref (ad 0), iv x1]) σ (f_X10_largest σ x1) := by
  refine ctrL_of (by decide +kernel) (fun ad => Nat.le_of_ble_eq_true rfl) (fun v σ' ad X hf F K => ?_)
  exact k_X10_largest_b0 F hf (fun v τ e => by cases e; exact K)
abbrev rm_X7_has : Room := { frames := 0, cells := 0, slots := 0, locals := 0 }
set_option maxRecDepth 100000 in
set_option maxHeartbeats 4000000 in
theorem k_X7_has_b0 {l : Launch} {ad : Nat → Nat} {X : Cx} (F : Ok vwCl WS NWs TC cX7_has 2 yX7_has.cls (some .boolean) ad l X) {σ : St} {x1 : Int} {y : Int} (hf : f_X7_has_b0 σ x1 = some y) (hr : RetI vwCl TC cX7_has 2 rm_X7_has ad X y σ) : At vwCl TC 2 rm_X7_has ad X σ [(0, .ref (ad 14)), (1, iv x1)] [] 0 := by
  unfold f_X7_has_b0 at hf
  refine a_iload_n F dX7_has_0 rfl 1 rfl ?_
  refine a_if_lt F hf (tgt := 24) dX7_has_1 (by decide) (fun hf => ?_) (fun hf => ?_)
  · refine a_iconst F dX7_has_24 ?_
    cases hf
    exact hr _ _ dX7_has_25
  · refine a_iload_n F dX7_has_4 rfl 1 rfl ?_
    refine a_bipush F dX7_has_5 (by decide +kernel) ?_
    refine a_icmp_ge F hf (tgt := 24) dX7_has_7 (by decide) (fun hf => ?_) (fun hf => ?_)
    · refine a_aload_n F dX7_has_10 rfl 0 rfl ?_
      refine a_getR F (j := 0) tC_14 rfl rfl (by decide) inW7 w_389 dX7_has_11 ?_
      refine a_iload_n F dX7_has_14 rfl 1 rfl ?_
      refine a_iald F tC_15 rfl (by decide) hf dX7_has_15 (fun hf => ?_)
      refine a_iconst F dX7_has_16 ?_
      refine a_icmp_eq F hf (tgt := 24) dX7_has_17 (by decide) (fun hf => ?_) (fun hf => ?_)
      · refine a_iconst F dX7_has_24 ?_
        cases hf
        exact hr _ _ dX7_has_25
      · refine a_iconst F dX7_has_20 ?_
        refine a_goto F (tgt := 25) dX7_has_21 (by decide) ?_
        cases hf
        exact hr _ _ dX7_has_25
    · refine a_iconst F dX7_has_24 ?_
      cases hf
      exact hr _ _ dX7_has_25
set_option maxRecDepth 100000 in
set_option maxHeartbeats 4000000 in
theorem c_X7_has {l : Launch}  {σ : St} {x1 : Int} : CtrI vwCl WS NWs TC l yX7_has cX7_has 2 (some .boolean) rm_X7_has (fun ad => [.ref (ad 14), iv x1]) σ (rd (f_X7_has σ x1) σ) := by
  refine ctrZ_of (fun v σ' h => jz_z (rd_elim h).1) (by decide +kernel) (fun ad => Nat.le_of_ble_eq_true rfl) (fun v σ' ad X hf F K => ?_)
  obtain ⟨hf2, e2⟩ := rd_elim hf
  subst e2
  exact k_X7_has_b0 F (jz_e hf2) K
abbrev rm_X9_mayBe : Room := { frames := 1, cells := 0, slots := 0, locals := 21 }
set_option maxRecDepth 100000 in
set_option maxHeartbeats 4000000 in
theorem k_X9_mayBe_b0 {l : Launch} {ad : Nat → Nat} {X : Cx} (F : Ok vwCl WS NWs TC cX9_mayBe 5 yX9_mayBe.cls (some .boolean) ad l X) {σ : St} {x1 x2 x3 x4 : Int} {y : Int} (hf : f_X9_mayBe_b0 σ x1 x2 x3 x4 = some y) (hr : RetI vwCl TC cX9_mayBe 5 rm_X9_mayBe ad X y σ) : At vwCl TC 5 rm_X9_mayBe ad X σ [(0, .ref (ad 1)), (1, iv x1), (2, iv x2), (3, iv x3), (4, iv x4)] [] 0 := by
  unfold f_X9_mayBe_b0 at hf
  refine a_iload_n F dX9_mayBe_0 rfl 1 rfl ?_
  refine a_if_lt F hf (tgt := 37) dX9_mayBe_1 (by decide) (fun hf => ?_) (fun hf => ?_)
  · refine a_iconst F dX9_mayBe_37 ?_
    cases hf
    exact hr _ _ dX9_mayBe_38
  · refine a_iload_n F dX9_mayBe_4 rfl 1 rfl ?_
    refine a_aload_n F dX9_mayBe_5 rfl 0 rfl ?_
    refine a_getI F (j := 0) tC_1 rfl rfl (by decide) inW9 w_390 dX9_mayBe_6 ?_
    refine a_icmp_gt F hf (tgt := 37) dX9_mayBe_9 (by decide) (fun hf => ?_) (fun hf => ?_)
    · refine a_iconst F dX9_mayBe_37 ?_
      cases hf
      exact hr _ _ dX9_mayBe_38
    · refine a_iload_n F dX9_mayBe_12 rfl 2 rfl ?_
      refine a_if_lt F hf (tgt := 37) dX9_mayBe_13 (by decide) (fun hf => ?_) (fun hf => ?_)
      · refine a_iconst F dX9_mayBe_37 ?_
        cases hf
        exact hr _ _ dX9_mayBe_38
      · refine a_iload_n F dX9_mayBe_16 rfl 2 rfl ?_
        refine a_aload_n F dX9_mayBe_17 rfl 0 rfl ?_
        refine a_getI F (j := 1) tC_1 rfl rfl (by decide) inW9 w_391 dX9_mayBe_18 ?_
        refine a_icmp_gt F hf (tgt := 37) dX9_mayBe_21 (by decide) (fun hf => ?_) (fun hf => ?_)
        · refine a_iconst F dX9_mayBe_37 ?_
          cases hf
          exact hr _ _ dX9_mayBe_38
        · refine a_iload_n F dX9_mayBe_24 rfl 3 rfl ?_
          refine a_iload F dX9_mayBe_25 4 rfl ?_
          refine a_callNIr F lk_RX9_47 c_X10_mayHave rfl rfl ⟨rfl, rfl⟩ ⟨Nat.le_of_ble_eq_true rfl, Nat.le_of_ble_eq_true rfl⟩ rfl (Nat.le_of_ble_eq_true rfl) dX9_mayBe_27 hf (fun r_1 hf => ?_)
          refine a_if_eq F hf (tgt := 37) dX9_mayBe_30 (by decide) (fun hf => ?_) (fun hf => ?_)
          · refine a_iconst F dX9_mayBe_37 ?_
            cases hf
            exact hr _ _ dX9_mayBe_38
          · refine a_iconst F dX9_mayBe_33 ?_
            refine a_goto F (tgt := 38) dX9_mayBe_34 (by decide) ?_
            cases hf
            exact hr _ _ dX9_mayBe_38
set_option maxRecDepth 100000 in
set_option maxHeartbeats 4000000 in
theorem c_X9_mayBe {l : Launch}  {σ : St} {x1 x2 x3 x4 : Int} : CtrI vwCl WS NWs TC l yX9_mayBe cX9_mayBe 5 (some .boolean) rm_X9_mayBe (fun ad => [.ref (ad 1), iv x1, iv x2, iv x3, iv x4]) σ (rd (f_X9_mayBe σ x1 x2 x3 x4) σ) := by
  refine ctrZ_of (fun v σ' h => jz_z (rd_elim h).1) (by decide +kernel) (fun ad => Nat.le_of_ble_eq_true rfl) (fun v σ' ad X hf F K => ?_)
  obtain ⟨hf2, e2⟩ := rd_elim hf
  subst e2
  exact k_X9_mayBe_b0 F (jz_e hf2) K
abbrev rm_X9_isTaken : Room := { frames := 1, cells := 0, slots := 0, locals := 21 }
set_option maxRecDepth 100000 in
set_option maxHeartbeats 4000000 in
theorem k_X9_isTaken_b2 {l : Launch} {ad : Nat → Nat} {X : Cx} (F : Ok vwCl WS NWs TC cX9_isTaken 4 yX9_isTaken.cls (some .boolean) ad l X) {σ : St} {x1 x2 x3 : Int} {y : (Int ⊕ (Unit ⊕ Unit))} (hf : f_X9_isTaken_b2 σ x1 x2 x3 = some y) (hn : ∀ z3, y = .inl z3 → At vwCl TC 4 rm_X9_isTaken ad X σ [(0, .ref (ad 1)), (1, iv x1), (2, iv x2), (3, iv z3)] [] 2) (hx0 : y = .inr (.inl ()) → At vwCl TC 4 rm_X9_isTaken ad X σ [] [] 36) (hx1 : y = .inr (.inr (())) → At vwCl TC 4 rm_X9_isTaken ad X σ [] [] 44) : At vwCl TC 4 rm_X9_isTaken ad X σ [(0, .ref (ad 1)), (1, iv x1), (2, iv x2), (3, iv x3)] [] 2 := by
  unfold f_X9_isTaken_b2 at hf
  refine a_iload_n F dX9_isTaken_2 rfl 3 rfl ?_
  refine a_bipush F dX9_isTaken_3 (by decide +kernel) ?_
  refine a_icmp_ge F hf (tgt := 44) dX9_isTaken_5 (by decide) (fun hf => ?_) (fun hf => ?_)
  · refine a_aload_n F dX9_isTaken_8 rfl 0 rfl ?_
    refine a_iload_n F dX9_isTaken_9 rfl 3 rfl ?_
    refine a_callVIr F lk_RX9_40 tC_1 rfl c_X9_has rfl rfl ⟨rfl, rfl⟩ ⟨Nat.le_of_ble_eq_true rfl, Nat.le_of_ble_eq_true rfl⟩ rfl (Nat.le_of_ble_eq_true rfl) dX9_isTaken_10 hf (fun r_2 hf => ?_)
    refine a_if_eq F hf (tgt := 38) dX9_isTaken_13 (by decide) (fun hf => ?_) (fun hf => ?_)
    · refine a_iinc F hf dX9_isTaken_38 3 rfl (by decide) (fun x3_3 hf => ⟨[(3, iv x3_3), (0, .ref (ad 1)), (1, iv x1), (2, iv x2)], rfl, ?_⟩)
      refine a_goto F (tgt := 2) dX9_isTaken_41 (by decide) ?_
      cases hf
      exact a_sub [1, 2, 3, 0] rfl (hn _ rfl)
    · refine a_aload_n F dX9_isTaken_16 rfl 0 rfl ?_
      refine a_getR F (j := 7) tC_1 rfl rfl (by decide) inW9 w_183 dX9_isTaken_17 ?_
      refine a_iload_n F dX9_isTaken_20 rfl 3 rfl ?_
      refine a_iald F tC_3 rfl (by decide) hf dX9_isTaken_21 (fun hf => ?_)
      refine a_iload_n F dX9_isTaken_22 rfl 1 rfl ?_
      refine a_icmp_ne F hf (tgt := 38) dX9_isTaken_23 (by decide) (fun hf => ?_) (fun hf => ?_)
      · refine a_aload_n F dX9_isTaken_26 rfl 0 rfl ?_
        refine a_getR F (j := 8) tC_1 rfl rfl (by decide) inW9 w_184 dX9_isTaken_27 ?_
        refine a_iload_n F dX9_isTaken_30 rfl 3 rfl ?_
        refine a_iald F tC_4 rfl (by decide) hf dX9_isTaken_31 (fun hf => ?_)
        refine a_iload_n F dX9_isTaken_32 rfl 2 rfl ?_
        refine a_icmp_ne F hf (tgt := 38) dX9_isTaken_33 (by decide) (fun hf => ?_) (fun hf => ?_)
        · cases hf
          exact a_sub [] rfl (hx0  rfl)
        · refine a_iinc F hf dX9_isTaken_38 3 rfl (by decide) (fun x3_5 hf => ⟨[(3, iv x3_5), (0, .ref (ad 1)), (1, iv x1), (2, iv x2)], rfl, ?_⟩)
          refine a_goto F (tgt := 2) dX9_isTaken_41 (by decide) ?_
          cases hf
          exact a_sub [1, 2, 3, 0] rfl (hn _ rfl)
      · refine a_iinc F hf dX9_isTaken_38 3 rfl (by decide) (fun x3_4 hf => ⟨[(3, iv x3_4), (0, .ref (ad 1)), (1, iv x1), (2, iv x2)], rfl, ?_⟩)
        refine a_goto F (tgt := 2) dX9_isTaken_41 (by decide) ?_
        cases hf
        exact a_sub [1, 2, 3, 0] rfl (hn _ rfl)
  · cases hf
    exact a_sub [] rfl (hx1  rfl)
set_option maxRecDepth 100000 in
set_option maxHeartbeats 4000000 in
theorem k_X9_isTaken_b0 {l : Launch} {ad : Nat → Nat} {X : Cx} (F : Ok vwCl WS NWs TC cX9_isTaken 4 yX9_isTaken.cls (some .boolean) ad l X) {σ : St} {x1 x2 : Int} {y : Int} (hf : f_X9_isTaken_b0 σ x1 x2 = some y) (hr : RetI vwCl TC cX9_isTaken 4 rm_X9_isTaken ad X y σ) : At vwCl TC 4 rm_X9_isTaken ad X σ [(0, .ref (ad 1)), (1, iv x1), (2, iv x2)] [] 0 := by
  unfold f_X9_isTaken_b0 at hf
  refine a_iconst F dX9_isTaken_0 ?_
  refine a_topI hf (fun x3_1 hf => ?_)
  refine a_istore_n F (lv' := [(3, iv x3_1), (0, .ref (ad 1)), (1, iv x1), (2, iv x2)]) dX9_isTaken_1 rfl (by decide) rfl ?_
  obtain ⟨q0, he, hf⟩ := jbind_elim hf
  refine a_sub [1, 2, 3, 0] rfl (loop_rule (P := (fun q => ∀ z3, z3 = q → At vwCl TC 4 rm_X9_isTaken ad X σ [(0, .ref (ad 1)), (1, iv x1), (2, iv x2), (3, iv z3)] [] 2)) (K := (fun q => (.inl () = q → At vwCl TC 4 rm_X9_isTaken ad X σ [] [] 36) ∧ (.inr (()) = q → At vwCl TC 4 rm_X9_isTaken ad X σ [] [] 44))) ?_ 1000 _ _ he ?_ _ rfl)
  · intro q y hy hn hx z3 e
    subst e
    exact k_X9_isTaken_b2 F hy (fun z3 e => hn _ e _ rfl) (fun  e => (hx _ e).1  rfl) (fun  e => (hx _ e).2  rfl)
  · refine ⟨?_, ?_⟩
    · intro  e
      subst e
      refine a_iconst F dX9_isTaken_36 ?_
      cases hf
      exact hr _ _ dX9_isTaken_37
    · intro  e
      subst e
      refine a_iconst F dX9_isTaken_44 ?_
      cases hf
      exact hr _ _ dX9_isTaken_45
set_option maxRecDepth 100000 in
set_option maxHeartbeats 4000000 in
theorem c_X9_isTaken {l : Launch}  {σ : St} {x1 x2 : Int} : CtrI vwCl WS NWs TC l yX9_isTaken cX9_isTaken 4 (some .boolean) rm_X9_isTaken (fun ad => [.ref (ad 1), iv x1, iv x2]) σ (rd (f_X9_isTaken σ x1 x2) σ) := by
  refine ctrZ_of (fun v σ' h => jz_z (rd_elim h).1) (by decide +kernel) (fun ad => Nat.le_of_ble_eq_true rfl) (fun v σ' ad X hf F K => ?_)
  obtain ⟨hf2, e2⟩ := rd_elim hf
  subst e2
  exact k_X9_isTaken_b0 F (jz_e hf2) K
abbrev rm_X7_isTakenBefore : Room := { frames := 0, cells := 0, slots := 0, locals := 0 }
set_option maxRecDepth 100000 in
set_option maxHeartbeats 4000000 in
theorem k_X7_isTakenBefore_b13 {l : Launch} {ad : Nat → Nat} {X : Cx} (F : Ok vwCl WS NWs TC cX7_isTakenBefore 5 yX7_isTakenBefore.cls (some .boolean) ad l X) {σ : St} {x3 x4 : Int} {y : (Int ⊕ (Unit ⊕ Unit))} (hf : f_X7_isTakenBefore_b13 σ x3 x4 = some y) (hn : ∀ z4, y = .inl z4 → At vwCl TC 5 rm_X7_isTakenBefore ad X σ [(0, .ref (ad 14)), (3, iv x3), (4, iv z4)] [] 13) (hx0 : y = .inr (.inl ()) → At vwCl TC 5 rm_X7_isTakenBefore ad X σ [] [] 51) (hx1 : y = .inr (.inr (())) → At vwCl TC 5 rm_X7_isTakenBefore ad X σ [] [] 59) : At vwCl TC 5 rm_X7_isTakenBefore ad X σ [(0, .ref (ad 14)), (3, iv x3), (4, iv x4)] [] 13 := by
  unfold f_X7_isTakenBefore_b13 at hf
  refine a_iload F dX7_isTakenBefore_13 2 rfl ?_
  refine a_iload_n F dX7_isTakenBefore_15 rfl 1 rfl ?_
  refine a_icmp_ge F hf (tgt := 59) dX7_isTakenBefore_16 (by decide) (fun hf => ?_) (fun hf => ?_)
  · refine a_aload_n F dX7_isTakenBefore_19 rfl 0 rfl ?_
    refine a_getR F (j := 1) tC_14 rfl rfl (by decide) inW7 w_392 dX7_isTakenBefore_20 ?_
    refine a_iload F dX7_isTakenBefore_23 2 rfl ?_
    refine a_iald F tC_16 rfl (by decide) hf dX7_isTakenBefore_25 (fun hf => ?_)
    refine a_aload_n F dX7_isTakenBefore_26 rfl 0 rfl ?_
    refine a_getR F (j := 1) tC_14 rfl rfl (by decide) inW7 w_392 dX7_isTakenBefore_27 ?_
    refine a_iload_n F dX7_isTakenBefore_30 rfl 1 rfl ?_
    refine a_iald F tC_16 rfl (by decide) hf dX7_isTakenBefore_31 (fun hf => ?_)
    refine a_icmp_ne F hf (tgt := 53) dX7_isTakenBefore_32 (by decide) (fun hf => ?_) (fun hf => ?_)
    · refine a_aload_n F dX7_isTakenBefore_35 rfl 0 rfl ?_
      refine a_getR F (j := 2) tC_14 rfl rfl (by decide) inW7 w_393 dX7_isTakenBefore_36 ?_
      refine a_iload F dX7_isTakenBefore_39 2 rfl ?_
      refine a_iald F tC_17 rfl (by decide) hf dX7_isTakenBefore_41 (fun hf => ?_)
      refine a_aload_n F dX7_isTakenBefore_42 rfl 0 rfl ?_
      refine a_getR F (j := 2) tC_14 rfl rfl (by decide) inW7 w_393 dX7_isTakenBefore_43 ?_
      refine a_iload_n F dX7_isTakenBefore_46 rfl 1 rfl ?_
      refine a_iald F tC_17 rfl (by decide) hf dX7_isTakenBefore_47 (fun hf => ?_)
      refine a_icmp_ne F hf (tgt := 53) dX7_isTakenBefore_48 (by decide) (fun hf => ?_) (fun hf => ?_)
      · cases hf
        exact a_sub [] rfl (hx0  rfl)
      · refine a_iinc F hf dX7_isTakenBefore_53 2 rfl (by decide) (fun x4_4 hf => ⟨[(4, iv x4_4), (0, .ref (ad 14)), (3, iv x3)], rfl, ?_⟩)
        refine a_goto F (tgt := 13) dX7_isTakenBefore_56 (by decide) ?_
        cases hf
        exact a_sub [1, 2, 0] rfl (hn _ rfl)
    · refine a_iinc F hf dX7_isTakenBefore_53 2 rfl (by decide) (fun x4_3 hf => ⟨[(4, iv x4_3), (0, .ref (ad 14)), (3, iv x3)], rfl, ?_⟩)
      refine a_goto F (tgt := 13) dX7_isTakenBefore_56 (by decide) ?_
      cases hf
      exact a_sub [1, 2, 0] rfl (hn _ rfl)
  · cases hf
    exact a_sub [] rfl (hx1  rfl)
set_option maxRecDepth 100000 in
set_option maxHeartbeats 4000000 in
theorem k_X7_isTakenBefore_b0 {l : Launch} {ad : Nat → Nat} {X : Cx} (F : Ok vwCl WS NWs TC cX7_isTakenBefore 5 yX7_isTakenBefore.cls (some .boolean) ad l X) {σ : St} {x1 x2 : Int} {y : Int} (hf : f_X7_isTakenBefore_b0 σ x1 x2 = some y) (hr : RetI vwCl TC cX7_isTakenBefore 5 rm_X7_isTakenBefore ad X y σ) : At vwCl TC 5 rm_X7_isTakenBefore ad X σ [(0, .ref (ad 14)), (1, iv x1), (2, iv x2)] [] 0 := by
  unfold f_X7_isTakenBefore_b0 at hf
  refine a_iload_n F dX7_isTakenBefore_0 rfl 1 rfl ?_
  refine a_bipush F dX7_isTakenBefore_1 (by decide +kernel) ?_
  refine a_imul F dX7_isTakenBefore_3 ?_
  refine a_iload_n F dX7_isTakenBefore_4 rfl 2 rfl ?_
  refine a_iadd F dX7_isTakenBefore_5 ?_
  refine a_topI hf (fun x3_1 hf => ?_)
  refine a_istore_n F (lv' := [(3, iv x3_1), (0, .ref (ad 14)), (1, iv x1), (2, iv x2)]) dX7_isTakenBefore_6 rfl (by decide) rfl ?_
  refine a_iload_n F dX7_isTakenBefore_7 rfl 2 rfl ?_
  refine a_bipush F dX7_isTakenBefore_8 (by decide +kernel) ?_
  refine a_imul F dX7_isTakenBefore_10 ?_
  refine a_topI hf (fun x4_2 hf => ?_)
  refine a_istore F (lv' := [(4, iv x4_2), (3, iv x3_1), (0, .ref (ad 14)), (1, iv x1), (2, iv x2)]) dX7_isTakenBefore_11 (by decide) rfl ?_
  obtain ⟨q0, he, hf⟩ := jbind_elim hf
  refine a_sub [2, 1, 0] rfl (loop_rule (P := (fun q => ∀ z4, z4 = q → At vwCl TC 5 rm_X7_isTakenBefore ad X σ [(0, .ref (ad 14)), (3, iv x3_1), (4, iv z4)] [] 13)) (K := (fun q => (.inl () = q → At vwCl TC 5 rm_X7_isTakenBefore ad X σ [] [] 51) ∧ (.inr (()) = q → At vwCl TC 5 rm_X7_isTakenBefore ad X σ [] [] 59))) ?_ 1000 _ _ he ?_ _ rfl)
  · intro q y hy hn hx z4 e
    subst e
    exact k_X7_isTakenBefore_b13 F hy (fun z4 e => hn _ e _ rfl) (fun  e => (hx _ e).1  rfl) (fun  e => (hx _ e).2  rfl)
  · refine ⟨?_, ?_⟩
    · intro  e
      subst e
      refine a_iconst F dX7_isTakenBefore_51 ?_
      cases hf
      exact hr _ _ dX7_isTakenBefore_52
    · intro  e
      subst e
      refine a_iconst F dX7_isTakenBefore_59 ?_
      cases hf
      exact hr _ _ dX7_isTakenBefore_60
set_option maxRecDepth 100000 in
set_option maxHeartbeats 4000000 in
theorem c_X7_isTakenBefore {l : Launch}  {σ : St} {x1 x2 : Int} : CtrI vwCl WS NWs TC l yX7_isTakenBefore cX7_isTakenBefore 5 (some .boolean) rm_X7_isTakenBefore (fun ad => [.ref (ad 14), iv x1, iv x2]) σ (rd (f_X7_isTakenBefore σ x1 x2) σ) := by
  refine ctrZ_of (fun v σ' h => jz_z (rd_elim h).1) (by decide +kernel) (fun ad => Nat.le_of_ble_eq_true rfl) (fun v σ' ad X hf F K => ?_)
  obtain ⟨hf2, e2⟩ := rd_elim hf
  subst e2
  exact k_X7_isTakenBefore_b0 F (jz_e hf2) K
abbrev rm_X10_maySink : Room := { frames := 2, cells := 0, slots := 0, locals := 45 }
set_option maxRecDepth 100000 in
set_option maxHeartbeats 4000000 in
theorem k_X10_maySink_b0 {l : Launch} {ad : Nat → Nat} {X : Cx} (F : Ok vwCl WS NWs TC cX10_maySink 4 yX10_maySink.cls (some .boolean) ad l X) {σ : St} {x1 x2 : Int} {y : Int} (hf : f_X10_maySink_b0 σ x1 x2 = some y) (hr : RetI vwCl TC cX10_maySink 4 rm_X10_maySink ad X y σ) : At vwCl TC 4 rm_X10_maySink ad X σ [(0, .ref (ad 0)), (1, iv x1), (2, iv x2)] [] 0 := by
  unfold f_X10_maySink_b0 at hf
  refine a_iload_n F dX10_maySink_0 rfl 1 rfl ?_
  refine a_bipush F dX10_maySink_1 (by decide +kernel) ?_
  refine a_imul F dX10_maySink_3 ?_
  refine a_iload_n F dX10_maySink_4 rfl 2 rfl ?_
  refine a_iadd F dX10_maySink_5 ?_
  refine a_topI hf (fun x3_1 hf => ?_)
  refine a_istore_n F (lv' := [(3, iv x3_1), (0, .ref (ad 0)), (1, iv x1), (2, iv x2)]) dX10_maySink_6 rfl (by decide) rfl ?_
  refine a_aload_n F dX10_maySink_7 rfl 1 rfl ?_
  refine a_getR F (j := 0) tC_0 rfl rfl (by decide) inW10 w_167 dX10_maySink_8 ?_
  refine a_aload_n F dX10_maySink_11 rfl 1 rfl ?_
  refine a_getR F (j := 2) tC_0 rfl rfl (by decide) inW10 w_394 dX10_maySink_12 ?_
  refine a_getR F (j := 1) tC_14 rfl rfl (by decide) inW7 w_395 dX10_maySink_15 ?_
  refine a_iload_n F dX10_maySink_18 rfl 0 rfl ?_
  refine a_iald F tC_16 rfl (by decide) hf dX10_maySink_19 (fun hf => ?_)
  refine a_aload_n F dX10_maySink_20 rfl 1 rfl ?_
  refine a_getR F (j := 2) tC_0 rfl rfl (by decide) inW10 w_394 dX10_maySink_21 ?_
  refine a_getR F (j := 2) tC_14 rfl rfl (by decide) inW7 w_396 dX10_maySink_24 ?_
  refine a_iload_n F dX10_maySink_27 rfl 0 rfl ?_
  refine a_iald F tC_17 rfl (by decide) hf dX10_maySink_28 (fun hf => ?_)
  refine a_aload_n F dX10_maySink_29 rfl 1 rfl ?_
  refine a_getR F (j := 2) tC_0 rfl rfl (by decide) inW10 w_394 dX10_maySink_30 ?_
  refine a_getR F (j := 3) tC_14 rfl rfl (by decide) inW7 w_397 dX10_maySink_33 ?_
  refine a_iload_n F dX10_maySink_36 rfl 0 rfl ?_
  refine a_iald F tC_18 rfl (by decide) hf dX10_maySink_37 (fun hf => ?_)
  refine a_aload_n F dX10_maySink_38 rfl 1 rfl ?_
  refine a_getR F (j := 2) tC_0 rfl rfl (by decide) inW10 w_394 dX10_maySink_39 ?_
  refine a_getR F (j := 4) tC_14 rfl rfl (by decide) inW7 w_398 dX10_maySink_42 ?_
  refine a_iload_n F dX10_maySink_45 rfl 0 rfl ?_
  refine a_iald F tC_19 rfl (by decide) hf dX10_maySink_46 (fun hf => ?_)
  refine a_callVIr F lk_RX10_97 tC_1 rfl c_X9_mayBe rfl rfl ⟨rfl, rfl⟩ ⟨Nat.le_of_ble_eq_true rfl, Nat.le_of_ble_eq_true rfl⟩ rfl (Nat.le_of_ble_eq_true rfl) dX10_maySink_47 hf (fun r_2 hf => ?_)
  refine a_if_eq F hf (tgt := 111) dX10_maySink_50 (by decide) (fun hf => ?_) (fun hf => ?_)
  · refine a_iconst F dX10_maySink_111 ?_
    cases hf
    exact hr _ _ dX10_maySink_112
  · refine a_aload_n F dX10_maySink_53 rfl 1 rfl ?_
    refine a_getR F (j := 0) tC_0 rfl rfl (by decide) inW10 w_167 dX10_maySink_54 ?_
    refine a_aload_n F dX10_maySink_57 rfl 1 rfl ?_
    refine a_getR F (j := 2) tC_0 rfl rfl (by decide) inW10 w_394 dX10_maySink_58 ?_
    refine a_getR F (j := 1) tC_14 rfl rfl (by decide) inW7 w_395 dX10_maySink_61 ?_
    refine a_iload_n F dX10_maySink_64 rfl 0 rfl ?_
    refine a_iald F tC_16 rfl (by decide) hf dX10_maySink_65 (fun hf => ?_)
    refine a_aload_n F dX10_maySink_66 rfl 1 rfl ?_
    refine a_getR F (j := 2) tC_0 rfl rfl (by decide) inW10 w_394 dX10_maySink_67 ?_
    refine a_getR F (j := 2) tC_14 rfl rfl (by decide) inW7 w_396 dX10_maySink_70 ?_
    refine a_iload_n F dX10_maySink_73 rfl 0 rfl ?_
    refine a_iald F tC_17 rfl (by decide) hf dX10_maySink_74 (fun hf => ?_)
    refine a_callVIr F lk_RX10_101 tC_1 rfl c_X9_isTaken rfl rfl ⟨rfl, rfl⟩ ⟨Nat.le_of_ble_eq_true rfl, Nat.le_of_ble_eq_true rfl⟩ rfl (Nat.le_of_ble_eq_true rfl) dX10_maySink_75 hf (fun r_3 hf => ?_)
    refine a_if_ne F hf (tgt := 111) dX10_maySink_78 (by decide) (fun hf => ?_) (fun hf => ?_)
    · refine a_aload_n F dX10_maySink_81 rfl 1 rfl ?_
      refine a_getR F (j := 2) tC_0 rfl rfl (by decide) inW10 w_394 dX10_maySink_82 ?_
      refine a_iload_n F dX10_maySink_85 rfl 2 rfl ?_
      refine a_iload_n F dX10_maySink_86 rfl 3 rfl ?_
      refine a_callVIr F lk_RX10_247 tC_14 rfl c_X7_isTakenBefore rfl rfl ⟨rfl, rfl⟩ ⟨Nat.le_of_ble_eq_true rfl, Nat.le_of_ble_eq_true rfl⟩ rfl (Nat.le_of_ble_eq_true rfl) dX10_maySink_87 hf (fun r_4 hf => ?_)
      refine a_if_ne F hf (tgt := 111) dX10_maySink_90 (by decide) (fun hf => ?_) (fun hf => ?_)
      · refine a_aload_n F dX10_maySink_93 rfl 1 rfl ?_
        refine a_getR F (j := 0) tC_0 rfl rfl (by decide) inW10 w_167 dX10_maySink_94 ?_
        refine a_getI F (j := 3) tC_1 rfl rfl (by decide) inW9 w_330 dX10_maySink_97 ?_
        refine a_iload_n F dX10_maySink_100 rfl 3 rfl ?_
        refine a_iadd F dX10_maySink_101 ?_
        refine a_bipush F dX10_maySink_102 (by decide +kernel) ?_
        refine a_icmp_ge F hf (tgt := 111) dX10_maySink_104 (by decide) (fun hf => ?_) (fun hf => ?_)
        · refine a_iconst F dX10_maySink_107 ?_
          refine a_goto F (tgt := 112) dX10_maySink_108 (by decide) ?_
          cases hf
          exact hr _ _ dX10_maySink_112
        · refine a_iconst F dX10_maySink_111 ?_
          cases hf
          exact hr _ _ dX10_maySink_112
      · refine a_iconst F dX10_maySink_111 ?_
        cases hf
        exact hr _ _ dX10_maySink_112
    · refine a_iconst F dX10_maySink_111 ?_
      cases hf
      exact hr _ _ dX10_maySink_112
set_option maxRecDepth 100000 in
set_option maxHeartbeats 4000000 in
theorem c_X10_maySink {l : Launch}  {σ : St} {x1 x2 : Int} : CtrI vwCl WS NWs TC l yX10_maySink cX10_maySink 4 (some .boolean) rm_X10_maySink (fun ad => [.ref (ad 0), iv x1, iv x2]) σ (rd (f_X10_maySink σ x1 x2) σ) := by
  refine ctrZ_of (fun v σ' h => jz_z (rd_elim h).1) (by decide +kernel) (fun ad => Nat.le_of_ble_eq_true rfl) (fun v σ' ad X hf F K => ?_)
  obtain ⟨hf2, e2⟩ := rd_elim hf
  subst e2
  exact k_X10_maySink_b0 F (jz_e hf2) K
abbrev rm_X9_leastFree : Room := { frames := 1, cells := 0, slots := 0, locals := 21 }
set_option maxRecDepth 100000 in
set_option maxHeartbeats 4000000 in
theorem k_X9_leastFree_b2 {l : Launch} {ad : Nat → Nat} {X : Cx} (F : Ok vwCl WS NWs TC cX9_leastFree 2 yX9_leastFree.cls (some .int) ad l X) {σ : St} {x1 : Int} {y : (Int ⊕ (Int ⊕ Unit))} (hf : f_X9_leastFree_b2 σ x1 = some y) (hn : ∀ z1, y = .inl z1 → At vwCl TC 2 rm_X9_leastFree ad X σ [(0, .ref (ad 1)), (1, iv z1)] [] 2) (hx0 : ∀ z1, y = .inr (.inl z1) → At vwCl TC 2 rm_X9_leastFree ad X σ [(1, iv z1)] [] 16) (hx1 : y = .inr (.inr (())) → At vwCl TC 2 rm_X9_leastFree ad X σ [] [] 24) : At vwCl TC 2 rm_X9_leastFree ad X σ [(0, .ref (ad 1)), (1, iv x1)] [] 2 := by
  unfold f_X9_leastFree_b2 at hf
  refine a_iload_n F dX9_leastFree_2 rfl 1 rfl ?_
  refine a_bipush F dX9_leastFree_3 (by decide +kernel) ?_
  refine a_icmp_ge F hf (tgt := 24) dX9_leastFree_5 (by decide) (fun hf => ?_) (fun hf => ?_)
  · refine a_aload_n F dX9_leastFree_8 rfl 0 rfl ?_
    refine a_iload_n F dX9_leastFree_9 rfl 1 rfl ?_
    refine a_callVIr F lk_RX9_40 tC_1 rfl c_X9_has rfl rfl ⟨rfl, rfl⟩ ⟨Nat.le_of_ble_eq_true rfl, Nat.le_of_ble_eq_true rfl⟩ rfl (Nat.le_of_ble_eq_true rfl) dX9_leastFree_10 hf (fun r_2 hf => ?_)
    refine a_if_ne F hf (tgt := 18) dX9_leastFree_13 (by decide) (fun hf => ?_) (fun hf => ?_)
    · cases hf
      exact a_sub [1] rfl (hx0 _ rfl)
    · refine a_iinc F hf dX9_leastFree_18 1 rfl (by decide) (fun x1_3 hf => ⟨[(1, iv x1_3), (0, .ref (ad 1))], rfl, ?_⟩)
      refine a_goto F (tgt := 2) dX9_leastFree_21 (by decide) ?_
      cases hf
      exact a_sub [1, 0] rfl (hn _ rfl)
  · cases hf
    exact a_sub [] rfl (hx1  rfl)
set_option maxRecDepth 100000 in
set_option maxHeartbeats 4000000 in
theorem k_X9_leastFree_b0 {l : Launch} {ad : Nat → Nat} {X : Cx} (F : Ok vwCl WS NWs TC cX9_leastFree 2 yX9_leastFree.cls (some .int) ad l X) {σ : St} {y : Int} (hf : f_X9_leastFree_b0 σ = some y) (hr : RetI vwCl TC cX9_leastFree 2 rm_X9_leastFree ad X y σ) : At vwCl TC 2 rm_X9_leastFree ad X σ [(0, .ref (ad 1))] [] 0 := by
  unfold f_X9_leastFree_b0 at hf
  refine a_iconst F dX9_leastFree_0 ?_
  refine a_topI hf (fun x1_1 hf => ?_)
  refine a_istore_n F (lv' := [(1, iv x1_1), (0, .ref (ad 1))]) dX9_leastFree_1 rfl (by decide) rfl ?_
  obtain ⟨q0, he, hf⟩ := jbind_elim hf
  refine a_sub [1, 0] rfl (loop_rule (P := (fun q => ∀ z1, z1 = q → At vwCl TC 2 rm_X9_leastFree ad X σ [(0, .ref (ad 1)), (1, iv z1)] [] 2)) (K := (fun q => (∀ z1, .inl z1 = q → At vwCl TC 2 rm_X9_leastFree ad X σ [(1, iv z1)] [] 16) ∧ (.inr (()) = q → At vwCl TC 2 rm_X9_leastFree ad X σ [] [] 24))) ?_ 1000 _ _ he ?_ _ rfl)
  · intro q y hy hn hx z1 e
    subst e
    exact k_X9_leastFree_b2 F hy (fun z1 e => hn _ e _ rfl) (fun z1 e => (hx _ e).1 _ rfl) (fun  e => (hx _ e).2  rfl)
  · refine ⟨?_, ?_⟩
    · intro x1_4 e
      subst e
      refine a_iload_n F dX9_leastFree_16 rfl 0 rfl ?_
      cases hf
      exact hr _ _ dX9_leastFree_17
    · intro  e
      subst e
      refine a_iconst F dX9_leastFree_24 ?_
      cases hf
      exact hr _ _ dX9_leastFree_25
set_option maxRecDepth 100000 in
set_option maxHeartbeats 4000000 in
theorem c_X9_leastFree {l : Launch}  {σ : St} : CtrI vwCl WS NWs TC l yX9_leastFree cX9_leastFree 2 (some .int) rm_X9_leastFree (fun ad => [.ref (ad 1)]) σ (rd (f_X9_leastFree σ) σ) := by
  refine ctrI_of (by decide +kernel) (fun ad => Nat.le_of_ble_eq_true rfl) (fun v σ' ad X hf F K => ?_)
  obtain ⟨hf2, e2⟩ := rd_elim hf
  subst e2
  exact k_X9_leastFree_b0 F hf2 K
abbrev rm_X10_lay : Room := { frames := 4, cells := 0, slots := 0, locals := 88 }
set_option maxRecDepth 100000 in
set_option maxHeartbeats 4000000 in
theorem k_X10_lay_b25 {l : Launch} {ad : Nat → Nat} {X : Cx} (F : Ok vwCl WS NWs TC cX10_lay 5 yX10_lay.cls (some .int) ad l X) {σ : St} {x1 x2 x3 : Int} {y : (Int ⊕ (Int ⊕ Unit))} (hf : f_X10_lay_b25 σ x1 x2 x3 = some y) (hn : ∀ z3, y = .inl z3 → At vwCl TC 5 rm_X10_lay ad X σ [(0, .ref (ad 0)), (1, iv x1), (2, iv x2), (3, iv z3)] [] 25) (hx0 : ∀ z3, y = .inr (.inl z3) → At vwCl TC 5 rm_X10_lay ad X σ [(3, iv z3)] [] 39) (hx1 : y = .inr (.inr (())) → At vwCl TC 5 rm_X10_lay ad X σ [(0, .ref (ad 0)), (1, iv x1), (2, iv x2)] [] 50) : At vwCl TC 5 rm_X10_lay ad X σ [(0, .ref (ad 0)), (1, iv x1), (2, iv x2), (3, iv x3)] [] 25 := by
  unfold f_X10_lay_b25 at hf
  refine a_iload_n F dX10_lay_25 rfl 3 rfl ?_
  refine a_iload_n F dX10_lay_26 rfl 2 rfl ?_
  refine a_icmp_ge F hf (tgt := 50) dX10_lay_27 (by decide) (fun hf => ?_) (fun hf => ?_)
  · refine a_aload_n F dX10_lay_30 rfl 0 rfl ?_
    refine a_iload_n F dX10_lay_31 rfl 1 rfl ?_
    refine a_iload_n F dX10_lay_32 rfl 3 rfl ?_
    refine a_callVIr F lk_RX10_227 tC_0 rfl c_X10_maySink rfl rfl ⟨rfl, rfl⟩ ⟨Nat.le_of_ble_eq_true rfl, Nat.le_of_ble_eq_true rfl⟩ rfl (Nat.le_of_ble_eq_true rfl) dX10_lay_33 hf (fun r_4 hf => ?_)
    refine a_if_ne F hf (tgt := 44) dX10_lay_36 (by decide) (fun hf => ?_) (fun hf => ?_)
    · cases hf
      exact a_sub [3] rfl (hx0 _ rfl)
    · refine a_iinc F hf dX10_lay_44 3 rfl (by decide) (fun x3_5 hf => ⟨[(3, iv x3_5), (0, .ref (ad 0)), (1, iv x1), (2, iv x2)], rfl, ?_⟩)
      refine a_goto F (tgt := 25) dX10_lay_47 (by decide) ?_
      cases hf
      exact a_sub [1, 2, 3, 0] rfl (hn _ rfl)
  · cases hf
    exact a_sub [0, 1, 2] rfl (hx1  rfl)
set_option maxRecDepth 100000 in
set_option maxHeartbeats 4000000 in
theorem k_X10_lay_b63 {l : Launch} {ad : Nat → Nat} {X : Cx} (F : Ok vwCl WS NWs TC cX10_lay 5 yX10_lay.cls (some .int) ad l X) {σ : St} {x1 x2 x3 : Int} {y : ((St × Int) ⊕ St)} (hf : f_X10_lay_b63 σ x1 x2 x3 = some y) (hn : ∀ τ z3, y = .inl (τ, z3) → At vwCl TC 5 rm_X10_lay ad X τ [(0, .ref (ad 0)), (1, iv x1), (2, iv x2), (3, iv z3)] [] 63) (hx0 : ∀ τ, y = .inr (τ) → At vwCl TC 5 rm_X10_lay ad X τ [(2, iv x2)] [] 136) : At vwCl TC 5 rm_X10_lay ad X σ [(0, .ref (ad 0)), (1, iv x1), (2, iv x2), (3, iv x3)] [] 63 := by
  unfold f_X10_lay_b63 at hf
  refine a_iload_n F dX10_lay_63 rfl 3 rfl ?_
  refine a_iload_n F dX10_lay_64 rfl 2 rfl ?_
  refine a_icmp_ge F hf (tgt := 136) dX10_lay_65 (by decide) (fun hf => ?_) (fun hf => ?_)
  · refine a_iload_n F dX10_lay_68 rfl 1 rfl ?_
    refine a_bipush F dX10_lay_69 (by decide +kernel) ?_
    refine a_imul F dX10_lay_71 ?_
    refine a_iload_n F dX10_lay_72 rfl 3 rfl ?_
    refine a_iadd F dX10_lay_73 ?_
    refine a_topI hf (fun x4_9 hf => ?_)
    refine a_istore F (lv' := [(4, iv x4_9), (0, .ref (ad 0)), (1, iv x1), (2, iv x2), (3, iv x3)]) dX10_lay_74 (by decide) rfl ?_
    refine a_aload_n F dX10_lay_76 rfl 1 rfl ?_
    refine a_getR F (j := 0) tC_0 rfl rfl (by decide) inW10 w_167 dX10_lay_77 ?_
    refine a_aload_n F dX10_lay_80 rfl 1 rfl ?_
    refine a_getR F (j := 0) tC_0 rfl rfl (by decide) inW10 w_167 dX10_lay_81 ?_
    refine a_callVIr F lk_RX10_104 tC_1 rfl c_X9_leastFree rfl rfl ⟨rfl, rfl⟩ ⟨Nat.le_of_ble_eq_true rfl, Nat.le_of_ble_eq_true rfl⟩ rfl (Nat.le_of_ble_eq_true rfl) dX10_lay_84 hf (fun r_10 hf => ?_)
    refine a_aload_n F dX10_lay_87 rfl 1 rfl ?_
    refine a_getR F (j := 2) tC_0 rfl rfl (by decide) inW10 w_394 dX10_lay_88 ?_
    refine a_getR F (j := 1) tC_14 rfl rfl (by decide) inW7 w_395 dX10_lay_91 ?_
    refine a_iload F dX10_lay_94 0 rfl ?_
    refine a_iald F tC_16 rfl (by decide) hf dX10_lay_96 (fun hf => ?_)
    refine a_aload_n F dX10_lay_97 rfl 1 rfl ?_
    refine a_getR F (j := 2) tC_0 rfl rfl (by decide) inW10 w_394 dX10_lay_98 ?_
    refine a_getR F (j := 2) tC_14 rfl rfl (by decide) inW7 w_396 dX10_lay_101 ?_
    refine a_iload F dX10_lay_104 0 rfl ?_
    refine a_iald F tC_17 rfl (by decide) hf dX10_lay_106 (fun hf => ?_)
    refine a_aload_n F dX10_lay_107 rfl 1 rfl ?_
    refine a_getR F (j := 2) tC_0 rfl rfl (by decide) inW10 w_394 dX10_lay_108 ?_
    refine a_getR F (j := 3) tC_14 rfl rfl (by decide) inW7 w_397 dX10_lay_111 ?_
    refine a_iload F dX10_lay_114 0 rfl ?_
    refine a_iald F tC_18 rfl (by decide) hf dX10_lay_116 (fun hf => ?_)
    refine a_aload_n F dX10_lay_117 rfl 1 rfl ?_
    refine a_getR F (j := 2) tC_0 rfl rfl (by decide) inW10 w_394 dX10_lay_118 ?_
    refine a_getR F (j := 4) tC_14 rfl rfl (by decide) inW7 w_398 dX10_lay_121 ?_
    refine a_iload F dX10_lay_124 0 rfl ?_
    refine a_iald F tC_19 rfl (by decide) hf dX10_lay_126 (fun hf => ?_)
    refine a_callVV F lk_RX10_108 tC_1 rfl c_X9_put rfl rfl ⟨rfl, rfl⟩ ⟨Nat.le_of_ble_eq_true rfl, Nat.le_of_ble_eq_true rfl⟩ rfl (Nat.le_of_ble_eq_true rfl) dX10_lay_127 hf (fun σ_11 hf => ?_)
    refine a_iinc F hf dX10_lay_130 4 rfl (by decide) (fun x3_12 hf => ⟨[(3, iv x3_12), (4, iv x4_9), (0, .ref (ad 0)), (1, iv x1), (2, iv x2)], rfl, ?_⟩)
    refine a_goto F (tgt := 63) dX10_lay_133 (by decide) ?_
    cases hf
    exact a_sub [2, 3, 4, 0] rfl (hn _ _ rfl)
  · cases hf
    exact a_sub [2] rfl (hx0 _ rfl)
set_option maxRecDepth 100000 in
set_option maxHeartbeats 4000000 in
theorem k_X10_lay_b0 {l : Launch} {ad : Nat → Nat} {X : Cx} (F : Ok vwCl WS NWs TC cX10_lay 5 yX10_lay.cls (some .int) ad l X) {σ : St} {x1 : Int} {y : (Int × St)} (hf : f_X10_lay_b0 σ x1 = some y) (hr : ∀ v τ, y = (v, τ) → RetI vwCl TC cX10_lay 5 rm_X10_lay ad X v τ) : At vwCl TC 5 rm_X10_lay ad X σ [(0, .ref (ad 0)), (1, iv x1)] [] 0 := by
  unfold f_X10_lay_b0 at hf
  refine a_aload_n F dX10_lay_0 rfl 0 rfl ?_
  refine a_getR F (j := 2) tC_0 rfl rfl (by decide) inW10 w_394 dX10_lay_1 ?_
  refine a_iload_n F dX10_lay_4 rfl 1 rfl ?_
  refine a_callVIr F lk_RX10_223 tC_14 rfl c_X7_has rfl rfl ⟨rfl, rfl⟩ ⟨Nat.le_of_ble_eq_true rfl, Nat.le_of_ble_eq_true rfl⟩ rfl (Nat.le_of_ble_eq_true rfl) dX10_lay_5 hf (fun r_1 hf => ?_)
  refine a_if_ne F hf (tgt := 13) dX10_lay_8 (by decide) (fun hf => ?_) (fun hf => ?_)
  · refine a_iconst F dX10_lay_11 ?_
    cases hf
    exact hr _ _ rfl _ _ dX10_lay_12
  · refine a_aload_n F dX10_lay_13 rfl 0 rfl ?_
    refine a_getR F (j := 2) tC_0 rfl rfl (by decide) inW10 w_394 dX10_lay_14 ?_
    refine a_getR F (j := 0) tC_14 rfl rfl (by decide) inW7 w_416 dX10_lay_17 ?_
    refine a_iload_n F dX10_lay_20 rfl 1 rfl ?_
    refine a_iald F tC_15 rfl (by decide) hf dX10_lay_21 (fun hf => ?_)
    refine a_topI hf (fun x2_2 hf => ?_)
    refine a_istore_n F (lv' := [(2, iv x2_2), (0, .ref (ad 0)), (1, iv x1)]) dX10_lay_22 rfl (by decide) rfl ?_
    refine a_iconst F dX10_lay_23 ?_
    refine a_topI hf (fun x3_3 hf => ?_)
    refine a_istore_n F (lv' := [(3, iv x3_3), (2, iv x2_2), (0, .ref (ad 0)), (1, iv x1)]) dX10_lay_24 rfl (by decide) rfl ?_
    obtain ⟨q0, he, hf⟩ := jbind_elim hf
    refine a_sub [2, 3, 1, 0] rfl (loop_rule (P := (fun q => ∀ z3, z3 = q → At vwCl TC 5 rm_X10_lay ad X σ [(0, .ref (ad 0)), (1, iv x1), (2, iv x2_2), (3, iv z3)] [] 25)) (K := (fun q => (∀ z3, .inl z3 = q → At vwCl TC 5 rm_X10_lay ad X σ [(3, iv z3)] [] 39) ∧ (.inr (()) = q → At vwCl TC 5 rm_X10_lay ad X σ [(0, .ref (ad 0)), (1, iv x1), (2, iv x2_2)] [] 50))) ?_ 1000 _ _ he ?_ _ rfl)
    · intro q y hy hn hx z3 e
      subst e
      exact k_X10_lay_b25 F hy (fun z3 e => hn _ e _ rfl) (fun z3 e => (hx _ e).1 _ rfl) (fun  e => (hx _ e).2  rfl)
    · refine ⟨?_, ?_⟩
      · intro x3_6 e
        subst e
        refine a_bipush F dX10_lay_39 (by decide +kernel) ?_
        refine a_iload_n F dX10_lay_41 rfl 0 rfl ?_
        refine a_isub F dX10_lay_42 ?_
        cases hf
        exact hr _ _ rfl _ _ dX10_lay_43
      · intro  e
        subst e
        refine a_aload_n F dX10_lay_50 rfl 0 rfl ?_
        refine a_getR F (j := 1) tC_0 rfl rfl (by decide) inW10 w_254 dX10_lay_51 ?_
        refine a_aload_n F dX10_lay_54 rfl 0 rfl ?_
        refine a_getR F (j := 0) tC_0 rfl rfl (by decide) inW10 w_167 dX10_lay_55 ?_
        refine a_callVV F lk_RX10_82 tC_7 rfl c_X5_remember rfl rfl ⟨rfl, rfl⟩ ⟨Nat.le_of_ble_eq_true rfl, Nat.le_of_ble_eq_true rfl⟩ rfl (Nat.le_of_ble_eq_true rfl) dX10_lay_58 hf (fun σ_7 hf => ?_)
        refine a_iconst F dX10_lay_61 ?_
        refine a_topI hf (fun x3_8 hf => ?_)
        refine a_istore_n F (lv' := [(3, iv x3_8), (0, .ref (ad 0)), (1, iv x1), (2, iv x2_2)]) dX10_lay_62 rfl (by decide) rfl ?_
        obtain ⟨q0, he, hf⟩ := jbind_elim hf
        refine a_sub [1, 2, 3, 0] rfl (loop_rule (P := (fun q => ∀ τ z3, (τ, z3) = q → At vwCl TC 5 rm_X10_lay ad X τ [(0, .ref (ad 0)), (1, iv x1), (2, iv x2_2), (3, iv z3)] [] 63)) (K := (fun q => (∀ τ, τ = q → At vwCl TC 5 rm_X10_lay ad X τ [(2, iv x2_2)] [] 136))) ?_ 1000 _ _ he ?_ _ _ rfl)
        · intro q y hy hn hx τ z3 e
          subst e
          exact k_X10_lay_b63 F hy (fun τ z3 e => hn _ e _ _ rfl) (fun τ e => (hx _ e) _ rfl)
        · intro σ_13 e
          subst e
          refine a_iload_n F dX10_lay_136 rfl 0 rfl ?_
          cases hf
          exact hr _ _ rfl _ _ dX10_lay_137
set_option maxRecDepth 100000 in
set_option maxHeartbeats 4000000 in
theorem c_X10_lay {l : Launch}  {σ : St} {x1 : Int} : CtrI vwCl WS NWs TC l yX10_lay cX10_lay 5 (some .int) rm_X10_lay (fun ad => [.ref (ad 0), iv x1]) σ (f_X10_lay σ x1) := by
  refine ctrI_of (by decide +kernel) (fun ad => Nat.le_of_ble_eq_true rfl) (fun v σ' ad X hf F K => ?_)
  exact k_X10_lay_b0 F hf (fun v τ e => by cases e; exact K)
abbrev rm_X7_hasLine : Room := { frames := 1, cells := 0, slots := 0, locals := 21 }
set_option maxRecDepth 100000 in
set_option maxHeartbeats 4000000 in
theorem k_X7_hasLine_b0 {l : Launch} {ad : Nat → Nat} {X : Cx} (F : Ok vwCl WS NWs TC cX7_hasLine 3 yX7_hasLine.cls (some .boolean) ad l X) {σ : St} {x1 x2 : Int} {y : Int} (hf : f_X7_hasLine_b0 σ x1 x2 = some y) (hr : RetI vwCl TC cX7_hasLine 3 rm_X7_hasLine ad X y σ) : At vwCl TC 3 rm_X7_hasLine ad X σ [(0, .ref (ad 14)), (1, iv x1), (2, iv x2)] [] 0 := by
  unfold f_X7_hasLine_b0 at hf
  refine a_aload_n F dX7_hasLine_0 rfl 0 rfl ?_
  refine a_iload_n F dX7_hasLine_1 rfl 1 rfl ?_
  refine a_callVIr F lk_RX7_33 tC_14 rfl c_X7_has rfl rfl ⟨rfl, rfl⟩ ⟨Nat.le_of_ble_eq_true rfl, Nat.le_of_ble_eq_true rfl⟩ rfl (Nat.le_of_ble_eq_true rfl) dX7_hasLine_2 hf (fun r_1 hf => ?_)
  refine a_if_eq F hf (tgt := 26) dX7_hasLine_5 (by decide) (fun hf => ?_) (fun hf => ?_)
  · refine a_iconst F dX7_hasLine_26 ?_
    cases hf
    exact hr _ _ dX7_hasLine_27
  · refine a_iload_n F dX7_hasLine_8 rfl 2 rfl ?_
    refine a_if_lt F hf (tgt := 26) dX7_hasLine_9 (by decide) (fun hf => ?_) (fun hf => ?_)
    · refine a_iconst F dX7_hasLine_26 ?_
      cases hf
      exact hr _ _ dX7_hasLine_27
    · refine a_iload_n F dX7_hasLine_12 rfl 2 rfl ?_
      refine a_aload_n F dX7_hasLine_13 rfl 0 rfl ?_
      refine a_getR F (j := 0) tC_14 rfl rfl (by decide) inW7 w_389 dX7_hasLine_14 ?_
      refine a_iload_n F dX7_hasLine_17 rfl 1 rfl ?_
      refine a_iald F tC_15 rfl (by decide) hf dX7_hasLine_18 (fun hf => ?_)
      refine a_icmp_ge F hf (tgt := 26) dX7_hasLine_19 (by decide) (fun hf => ?_) (fun hf => ?_)
      · refine a_iconst F dX7_hasLine_22 ?_
        refine a_goto F (tgt := 27) dX7_hasLine_23 (by decide) ?_
        cases hf
        exact hr _ _ dX7_hasLine_27
      · refine a_iconst F dX7_hasLine_26 ?_
        cases hf
        exact hr _ _ dX7_hasLine_27
set_option maxRecDepth 100000 in
set_option maxHeartbeats 4000000 in
theorem c_X7_hasLine {l : Launch}  {σ : St} {x1 x2 : Int} : CtrI vwCl WS NWs TC l yX7_hasLine cX7_hasLine 3 (some .boolean) rm_X7_hasLine (fun ad => [.ref (ad 14), iv x1, iv x2]) σ (rd (f_X7_hasLine σ x1 x2) σ) := by
  refine ctrZ_of (fun v σ' h => jz_z (rd_elim h).1) (by decide +kernel) (fun ad => Nat.le_of_ble_eq_true rfl) (fun v σ' ad X hf F K => ?_)
  obtain ⟨hf2, e2⟩ := rd_elim hf
  subst e2
  exact k_X7_hasLine_b0 F (jz_e hf2) K
abbrev rm_X7_write : Room := { frames := 0, cells := 0, slots := 0, locals := 0 }
set_option maxRecDepth 100000 in
set_option maxHeartbeats 4000000 in
theorem k_X7_write_b0 {l : Launch} {ad : Nat → Nat} {X : Cx} (F : Ok vwCl WS NWs TC cX7_write 6 yX7_write.cls none ad l X) {σ : St} {x1 x2 x3 x4 x5 : Int} {y : St} (hf : f_X7_write_b0 σ x1 x2 x3 x4 x5 = some y) (hr : RetV vwCl TC cX7_write 6 rm_X7_write ad X y) : At vwCl TC 6 rm_X7_write ad X σ [(0, .ref (ad 14)), (1, iv x1), (2, iv x2), (3, iv x3), (4, iv x4), (5, iv x5)] [] 0 := by
  unfold f_X7_write_b0 at hf
  refine a_aload_n F dX7_write_0 rfl 0 rfl ?_
  refine a_getR F (j := 1) tC_14 rfl rfl (by decide) inW7 w_392 dX7_write_1 ?_
  refine a_iload_n F dX7_write_4 rfl 1 rfl ?_
  refine a_iload_n F dX7_write_5 rfl 2 rfl ?_
  refine a_iast F tC_16 rfl (by decide) hf dX7_write_6 (fun σ_1 hf => ?_)
  refine a_aload_n F dX7_write_7 rfl 0 rfl ?_
  refine a_getR F (j := 2) tC_14 rfl rfl (by decide) inW7 w_393 dX7_write_8 ?_
  refine a_iload_n F dX7_write_11 rfl 1 rfl ?_
  refine a_iload_n F dX7_write_12 rfl 3 rfl ?_
  refine a_iast F tC_17 rfl (by decide) hf dX7_write_13 (fun σ_2 hf => ?_)
  refine a_aload_n F dX7_write_14 rfl 0 rfl ?_
  refine a_getR F (j := 3) tC_14 rfl rfl (by decide) inW7 w_426 dX7_write_15 ?_
  refine a_iload_n F dX7_write_18 rfl 1 rfl ?_
  refine a_iload F dX7_write_19 4 rfl ?_
  refine a_iast F tC_18 rfl (by decide) hf dX7_write_21 (fun σ_3 hf => ?_)
  refine a_aload_n F dX7_write_22 rfl 0 rfl ?_
  refine a_getR F (j := 4) tC_14 rfl rfl (by decide) inW7 w_427 dX7_write_23 ?_
  refine a_iload_n F dX7_write_26 rfl 1 rfl ?_
  refine a_iload F dX7_write_27 5 rfl ?_
  refine a_iast F tC_19 rfl (by decide) hf dX7_write_29 (fun σ_4 hf => ?_)
  cases hf
  exact hr _ _ dX7_write_30
set_option maxRecDepth 100000 in
set_option maxHeartbeats 4000000 in
theorem c_X7_write {l : Launch}  {σ : St} {x1 x2 x3 x4 x5 : Int} : CtrV vwCl WS NWs TC l yX7_write cX7_write 6 none rm_X7_write (fun ad => [.ref (ad 14), iv x1, iv x2, iv x3, iv x4, iv x5]) σ (f_X7_write σ x1 x2 x3 x4 x5) := by
  refine ctrV_of (by decide +kernel) (fun ad => Nat.le_of_ble_eq_true rfl) (fun σ' ad X hf F K => ?_)
  exact k_X7_write_b0 F hf K
abbrev rm_X10_line : Room := { frames := 2, cells := 0, slots := 0, locals := 43 }
set_option maxRecDepth 100000 in
set_option maxHeartbeats 4000000 in
theorem k_X10_line_b0 {l : Launch} {ad : Nat → Nat} {X : Cx} (F : Ok vwCl WS NWs TC cX10_line 7 yX10_line.cls (some .boolean) ad l X) {σ : St} {x1 x2 x3 x4 x5 x6 : Int} {y : (Int × St)} (hf : f_X10_line_b0 σ x1 x2 x3 x4 x5 x6 = some y) (hr : ∀ v τ, y = (v, τ) → RetI vwCl TC cX10_line 7 rm_X10_line ad X v τ) : At vwCl TC 7 rm_X10_line ad X σ [(0, .ref (ad 0)), (1, iv x1), (2, iv x2), (3, iv x3), (4, iv x4), (5, iv x5), (6, iv x6)] [] 0 := by
  unfold f_X10_line_b0 at hf
  refine a_aload_n F dX10_line_0 rfl 0 rfl ?_
  refine a_getR F (j := 2) tC_0 rfl rfl (by decide) inW10 w_394 dX10_line_1 ?_
  refine a_iload_n F dX10_line_4 rfl 1 rfl ?_
  refine a_iload_n F dX10_line_5 rfl 2 rfl ?_
  refine a_callVIr F lk_RX10_217 tC_14 rfl c_X7_hasLine rfl rfl ⟨rfl, rfl⟩ ⟨Nat.le_of_ble_eq_true rfl, Nat.le_of_ble_eq_true rfl⟩ rfl (Nat.le_of_ble_eq_true rfl) dX10_line_6 hf (fun r_1 hf => ?_)
  refine a_if_ne F hf (tgt := 14) dX10_line_9 (by decide) (fun hf => ?_) (fun hf => ?_)
  · refine a_iconst F dX10_line_12 ?_
    cases hf
    exact hr _ _ rfl _ _ dX10_line_13
  · refine a_aload_n F dX10_line_14 rfl 0 rfl ?_
    refine a_getR F (j := 2) tC_0 rfl rfl (by decide) inW10 w_394 dX10_line_15 ?_
    refine a_iload_n F dX10_line_18 rfl 1 rfl ?_
    refine a_bipush F dX10_line_19 (by decide +kernel) ?_
    refine a_imul F dX10_line_21 ?_
    refine a_iload_n F dX10_line_22 rfl 2 rfl ?_
    refine a_iadd F dX10_line_23 ?_
    refine a_iload_n F dX10_line_24 rfl 3 rfl ?_
    refine a_iload F dX10_line_25 4 rfl ?_
    refine a_iload F dX10_line_27 5 rfl ?_
    refine a_iload F dX10_line_29 6 rfl ?_
    refine a_callVV F lk_RX10_220 tC_14 rfl c_X7_write rfl rfl ⟨rfl, rfl⟩ ⟨Nat.le_of_ble_eq_true rfl, Nat.le_of_ble_eq_true rfl⟩ rfl (Nat.le_of_ble_eq_true rfl) dX10_line_31 hf (fun σ_2 hf => ?_)
    refine a_iconst F dX10_line_34 ?_
    cases hf
    exact hr _ _ rfl _ _ dX10_line_35
set_option maxRecDepth 100000 in
set_option maxHeartbeats 4000000 in
theorem c_X10_line {l : Launch}  {σ : St} {x1 x2 x3 x4 x5 x6 : Int} : CtrI vwCl WS NWs TC l yX10_line cX10_line 7 (some .boolean) rm_X10_line (fun ad => [.ref (ad 0), iv x1, iv x2, iv x3, iv x4, iv x5, iv x6]) σ (f_X10_line σ x1 x2 x3 x4 x5 x6) := by
  refine ctrZ_of (fun v σ' h => jzw_z h) (by decide +kernel) (fun ad => Nat.le_of_ble_eq_true rfl) (fun v σ' ad X hf F K => ?_)
  exact k_X10_line_b0 F (jzw_e hf) (fun v τ e => by cases e; exact K)
abbrev rm_X10_nearest : Room := { frames := 2, cells := 0, slots := 0, locals := 42 }
set_option maxRecDepth 100000 in
set_option maxHeartbeats 4000000 in
theorem k_X10_nearest_b17 {l : Launch} {ad : Nat → Nat} {X : Cx} (F : Ok vwCl WS NWs TC cX10_nearest 5 yX10_nearest.cls (some .int) ad l X) {σ : St} {x1 x2 x3 : Int} {y : ((Int × Int) ⊕ Int)} (hf : f_X10_nearest_b17 σ x1 x2 x3 = some y) (hn : ∀ z2 z3, y = .inl (z2, z3) → At vwCl TC 5 rm_X10_nearest ad X σ [(0, .ref (ad 0)), (1, iv x1), (2, iv z2), (3, iv z3)] [] 17) (hx0 : ∀ z2, y = .inr (z2) → At vwCl TC 5 rm_X10_nearest ad X σ [(2, iv z2)] [] 81) : At vwCl TC 5 rm_X10_nearest ad X σ [(0, .ref (ad 0)), (1, iv x1), (2, iv x2), (3, iv x3)] [] 17 := by
  unfold f_X10_nearest_b17 at hf
  refine a_iload_n F dX10_nearest_17 rfl 3 rfl ?_
  refine a_aload_n F dX10_nearest_18 rfl 0 rfl ?_
  refine a_getR F (j := 0) tC_0 rfl rfl (by decide) inW10 w_167 dX10_nearest_19 ?_
  refine a_getI F (j := 4) tC_1 rfl rfl (by decide) inW9 w_331 dX10_nearest_22 ?_
  refine a_icmp_ge F hf (tgt := 81) dX10_nearest_25 (by decide) (fun hf => ?_) (fun hf => ?_)
  · refine a_aload_n F dX10_nearest_28 rfl 0 rfl ?_
    refine a_getR F (j := 0) tC_0 rfl rfl (by decide) inW10 w_167 dX10_nearest_29 ?_
    refine a_getR F (j := 5) tC_1 rfl rfl (by decide) inW9 w_437 dX10_nearest_32 ?_
    refine a_iload_n F dX10_nearest_35 rfl 3 rfl ?_
    refine a_iald F tC_2 rfl (by decide) hf dX10_nearest_36 (fun hf => ?_)
    refine a_topI hf (fun x4_4 hf => ?_)
    refine a_istore F (lv' := [(4, iv x4_4), (0, .ref (ad 0)), (1, iv x1), (2, iv x2), (3, iv x3)]) dX10_nearest_37 (by decide) rfl ?_
    refine a_iload F dX10_nearest_39 0 rfl ?_
    refine a_iload_n F dX10_nearest_41 rfl 2 rfl ?_
    refine a_icmp_eq F hf (tgt := 75) dX10_nearest_42 (by decide) (fun hf => ?_) (fun hf => ?_)
    · refine a_iinc F hf dX10_nearest_75 4 rfl (by decide) (fun x3_5 hf => ⟨[(3, iv x3_5), (4, iv x4_4), (0, .ref (ad 0)), (1, iv x1), (2, iv x2)], rfl, ?_⟩)
      refine a_goto F (tgt := 17) dX10_nearest_78 (by decide) ?_
      cases hf
      exact a_sub [2, 3, 4, 0] rfl (hn _ _ rfl)
    · refine a_iload_n F dX10_nearest_45 rfl 3 rfl ?_
      refine a_iconst F dX10_nearest_46 ?_
      refine a_icmp_eq F hf (tgt := 72) dX10_nearest_47 (by decide) (fun hf => ?_) (fun hf => ?_)
      · refine a_iload F dX10_nearest_72 0 rfl ?_
        refine a_topI hf (fun x2_6 hf => ?_)
        refine a_istore_n F (lv' := [(2, iv x2_6), (4, iv x4_4), (0, .ref (ad 0)), (1, iv x1), (3, iv x3)]) dX10_nearest_74 rfl (by decide) rfl ?_
        refine a_iinc F hf dX10_nearest_75 4 rfl (by decide) (fun x3_7 hf => ⟨[(3, iv x3_7), (2, iv x2_6), (4, iv x4_4), (0, .ref (ad 0)), (1, iv x1)], rfl, ?_⟩)
        refine a_goto F (tgt := 17) dX10_nearest_78 (by decide) ?_
        cases hf
        exact a_sub [3, 4, 1, 0] rfl (hn _ _ rfl)
      · refine a_aload_n F dX10_nearest_50 rfl 1 rfl ?_
        refine a_getR F (j := 0) tC_0 rfl rfl (by decide) inW10 w_167 dX10_nearest_51 ?_
        refine a_iload F dX10_nearest_54 0 rfl ?_
        refine a_iload_n F dX10_nearest_56 rfl 2 rfl ?_
        refine a_callVIr F lk_RX10_200 tC_1 rfl c_X9_square rfl rfl ⟨rfl, rfl⟩ ⟨Nat.le_of_ble_eq_true rfl, Nat.le_of_ble_eq_true rfl⟩ rfl (Nat.le_of_ble_eq_true rfl) dX10_nearest_57 hf (fun r_8 hf => ?_)
        refine a_aload_n F dX10_nearest_60 rfl 1 rfl ?_
        refine a_getR F (j := 0) tC_0 rfl rfl (by decide) inW10 w_167 dX10_nearest_61 ?_
        refine a_iload_n F dX10_nearest_64 rfl 3 rfl ?_
        refine a_iload_n F dX10_nearest_65 rfl 2 rfl ?_
        refine a_callVIr F lk_RX10_200 tC_1 rfl c_X9_square rfl rfl ⟨rfl, rfl⟩ ⟨Nat.le_of_ble_eq_true rfl, Nat.le_of_ble_eq_true rfl⟩ rfl (Nat.le_of_ble_eq_true rfl) dX10_nearest_66 hf (fun r_9 hf => ?_)
        refine a_icmp_ge F hf (tgt := 75) dX10_nearest_69 (by decide) (fun hf => ?_) (fun hf => ?_)
        · refine a_iload F dX10_nearest_72 0 rfl ?_
          refine a_topI hf (fun x2_11 hf => ?_)
          refine a_istore_n F (lv' := [(2, iv x2_11), (4, iv x4_4), (0, .ref (ad 0)), (1, iv x1), (3, iv x3)]) dX10_nearest_74 rfl (by decide) rfl ?_
          refine a_iinc F hf dX10_nearest_75 4 rfl (by decide) (fun x3_12 hf => ⟨[(3, iv x3_12), (2, iv x2_11), (4, iv x4_4), (0, .ref (ad 0)), (1, iv x1)], rfl, ?_⟩)
          refine a_goto F (tgt := 17) dX10_nearest_78 (by decide) ?_
          cases hf
          exact a_sub [3, 4, 1, 0] rfl (hn _ _ rfl)
        · refine a_iinc F hf dX10_nearest_75 4 rfl (by decide) (fun x3_10 hf => ⟨[(3, iv x3_10), (4, iv x4_4), (0, .ref (ad 0)), (1, iv x1), (2, iv x2)], rfl, ?_⟩)
          refine a_goto F (tgt := 17) dX10_nearest_78 (by decide) ?_
          cases hf
          exact a_sub [2, 3, 4, 0] rfl (hn _ _ rfl)
  · cases hf
    exact a_sub [2] rfl (hx0 _ rfl)
set_option maxRecDepth 100000 in
set_option maxHeartbeats 4000000 in
theorem k_X10_nearest_b0 {l : Launch} {ad : Nat → Nat} {X : Cx} (F : Ok vwCl WS NWs TC cX10_nearest 5 yX10_nearest.cls (some .int) ad l X) {σ : St} {x1 : Int} {y : Int} (hf : f_X10_nearest_b0 σ x1 = some y) (hr : RetI vwCl TC cX10_nearest 5 rm_X10_nearest ad X y σ) : At vwCl TC 5 rm_X10_nearest ad X σ [(0, .ref (ad 0)), (1, iv x1)] [] 0 := by
  unfold f_X10_nearest_b0 at hf
  refine a_aload_n F dX10_nearest_0 rfl 0 rfl ?_
  refine a_getR F (j := 0) tC_0 rfl rfl (by decide) inW10 w_167 dX10_nearest_1 ?_
  refine a_iload_n F dX10_nearest_4 rfl 1 rfl ?_
  refine a_callVIr F lk_RX10_132 tC_1 rfl c_X9_isCounted rfl rfl ⟨rfl, rfl⟩ ⟨Nat.le_of_ble_eq_true rfl, Nat.le_of_ble_eq_true rfl⟩ rfl (Nat.le_of_ble_eq_true rfl) dX10_nearest_5 hf (fun r_1 hf => ?_)
  refine a_if_ne F hf (tgt := 13) dX10_nearest_8 (by decide) (fun hf => ?_) (fun hf => ?_)
  · refine a_iconst F dX10_nearest_11 ?_
    cases hf
    exact hr _ _ dX10_nearest_12
  · refine a_iconst F dX10_nearest_13 ?_
    refine a_topI hf (fun x2_2 hf => ?_)
    refine a_istore_n F (lv' := [(2, iv x2_2), (0, .ref (ad 0)), (1, iv x1)]) dX10_nearest_14 rfl (by decide) rfl ?_
    refine a_iconst F dX10_nearest_15 ?_
    refine a_topI hf (fun x3_3 hf => ?_)
    refine a_istore_n F (lv' := [(3, iv x3_3), (2, iv x2_2), (0, .ref (ad 0)), (1, iv x1)]) dX10_nearest_16 rfl (by decide) rfl ?_
    obtain ⟨q0, he, hf⟩ := jbind_elim hf
    refine a_sub [2, 3, 1, 0] rfl (loop_rule (P := (fun q => ∀ z2 z3, (z2, z3) = q → At vwCl TC 5 rm_X10_nearest ad X σ [(0, .ref (ad 0)), (1, iv x1), (2, iv z2), (3, iv z3)] [] 17)) (K := (fun q => (∀ z2, z2 = q → At vwCl TC 5 rm_X10_nearest ad X σ [(2, iv z2)] [] 81))) ?_ 1000 _ _ he ?_ _ _ rfl)
    · intro q y hy hn hx z2 z3 e
      subst e
      exact k_X10_nearest_b17 F hy (fun z2 z3 e => hn _ e _ _ rfl) (fun z2 e => (hx _ e) _ rfl)
    · intro x2_13 e
      subst e
      refine a_iload_n F dX10_nearest_81 rfl 0 rfl ?_
      cases hf
      exact hr _ _ dX10_nearest_82
set_option maxRecDepth 100000 in
set_option maxHeartbeats 4000000 in
theorem c_X10_nearest {l : Launch}  {σ : St} {x1 : Int} : CtrI vwCl WS NWs TC l yX10_nearest cX10_nearest 5 (some .int) rm_X10_nearest (fun ad => [.ref (ad 0), iv x1]) σ (rd (f_X10_nearest σ x1) σ) := by
  refine ctrI_of (by decide +kernel) (fun ad => Nat.le_of_ble_eq_true rfl) (fun v σ' ad X hf F K => ?_)
  obtain ⟨hf2, e2⟩ := rd_elim hf
  subst e2
  exact k_X10_nearest_b0 F hf2 K
abbrev rm_X10_tellCosts : Room := { frames := 2, cells := 0, slots := 0, locals := 42 }
set_option maxRecDepth 100000 in
set_option maxHeartbeats 4000000 in
theorem k_X10_tellCosts_b3 {l : Launch} {ad : Nat → Nat} {X : Cx} (F : Ok vwCl WS NWs TC cX10_tellCosts 10 yX10_tellCosts.cls none ad l X) {σ : St} {x1 x2 x3 x4 : Int} {y : ((St × Int) ⊕ St)} (hf : f_X10_tellCosts_b3 σ x1 x2 x3 x4 = some y) (hn : ∀ τ z4, y = .inl (τ, z4) → At vwCl TC 10 rm_X10_tellCosts ad X τ [(0, .ref (ad 0)), (1, iv x1), (2, iv x2), (3, iv x3), (4, iv z4)] [] 3) (hx0 : ∀ τ, y = .inr (τ) → At vwCl TC 10 rm_X10_tellCosts ad X τ [] [] 106) : At vwCl TC 10 rm_X10_tellCosts ad X σ [(0, .ref (ad 0)), (1, iv x1), (2, iv x2), (3, iv x3), (4, iv x4)] [] 3 := by
  unfold f_X10_tellCosts_b3 at hf
  refine a_iload F dX10_tellCosts_3 4 rfl ?_
  refine a_aload_n F dX10_tellCosts_5 rfl 0 rfl ?_
  refine a_getR F (j := 0) tC_0 rfl rfl (by decide) inW10 w_167 dX10_tellCosts_6 ?_
  refine a_getI F (j := 4) tC_1 rfl rfl (by decide) inW9 w_331 dX10_tellCosts_9 ?_
  refine a_icmp_ge F hf (tgt := 106) dX10_tellCosts_12 (by decide) (fun hf => ?_) (fun hf => ?_)
  · refine a_aload_n F dX10_tellCosts_15 rfl 0 rfl ?_
    refine a_getR F (j := 0) tC_0 rfl rfl (by decide) inW10 w_167 dX10_tellCosts_16 ?_
    refine a_getR F (j := 5) tC_1 rfl rfl (by decide) inW9 w_437 dX10_tellCosts_19 ?_
    refine a_iload F dX10_tellCosts_22 4 rfl ?_
    refine a_iald F tC_2 rfl (by decide) hf dX10_tellCosts_24 (fun hf => ?_)
    refine a_topI hf (fun x5_2 hf => ?_)
    refine a_istore F (lv' := [(5, iv x5_2), (0, .ref (ad 0)), (1, iv x1), (2, iv x2), (3, iv x3), (4, iv x4)]) dX10_tellCosts_25 (by decide) rfl ?_
    refine a_iload_n F dX10_tellCosts_27 rfl 2 rfl ?_
    refine a_i2l F hf dX10_tellCosts_28 (fun hf => ?_)
    refine a_iload_n F dX10_tellCosts_29 rfl 4 rfl ?_
    refine a_i2l F hf dX10_tellCosts_30 (fun hf => ?_)
    refine a_aload_n F dX10_tellCosts_31 rfl 1 rfl ?_
    refine a_getR F (j := 0) tC_0 rfl rfl (by decide) inW10 w_167 dX10_tellCosts_32 ?_
    refine a_getR F (j := 7) tC_1 rfl rfl (by decide) inW9 w_260 dX10_tellCosts_35 ?_
    refine a_iload F dX10_tellCosts_38 0 rfl ?_
    refine a_iald F tC_3 rfl (by decide) hf dX10_tellCosts_40 (fun hf => ?_)
    refine a_i2l F hf dX10_tellCosts_41 (fun hf => ?_)
    refine a_lmul F dX10_tellCosts_42 ?_
    refine a_lsub F dX10_tellCosts_43 ?_
    refine a_topJ hf (fun x6_3 hf => ?_)
    refine a_lstore F (lv' := [(6, jv x6_3), (5, iv x5_2), (0, .ref (ad 0)), (1, iv x1), (2, iv x2), (3, iv x3), (4, iv x4)]) dX10_tellCosts_44 (by decide) rfl ?_
    refine a_iload_n F dX10_tellCosts_46 rfl 4 rfl ?_
    refine a_i2l F hf dX10_tellCosts_47 (fun hf => ?_)
    refine a_iload_n F dX10_tellCosts_48 rfl 5 rfl ?_
    refine a_i2l F hf dX10_tellCosts_49 (fun hf => ?_)
    refine a_aload_n F dX10_tellCosts_50 rfl 2 rfl ?_
    refine a_getR F (j := 0) tC_0 rfl rfl (by decide) inW10 w_167 dX10_tellCosts_51 ?_
    refine a_getR F (j := 8) tC_1 rfl rfl (by decide) inW9 w_261 dX10_tellCosts_54 ?_
    refine a_iload F dX10_tellCosts_57 1 rfl ?_
    refine a_iald F tC_4 rfl (by decide) hf dX10_tellCosts_59 (fun hf => ?_)
    refine a_i2l F hf dX10_tellCosts_60 (fun hf => ?_)
    refine a_lmul F dX10_tellCosts_61 ?_
    refine a_lsub F dX10_tellCosts_62 ?_
    refine a_topJ hf (fun x8_4 hf => ?_)
    refine a_lstore F (lv' := [(8, jv x8_4), (6, jv x6_3), (5, iv x5_2), (0, .ref (ad 0)), (1, iv x1), (2, iv x2), (3, iv x3), (4, iv x4)]) dX10_tellCosts_63 (by decide) rfl ?_
    refine a_aload_n F dX10_tellCosts_65 rfl 3 rfl ?_
    refine a_getR F (j := 9) tC_0 rfl rfl (by decide) inW10 w_439 dX10_tellCosts_66 ?_
    refine a_iload F dX10_tellCosts_69 7 rfl ?_
    refine a_lload F dX10_tellCosts_71 1 rfl ?_
    refine a_lload F dX10_tellCosts_73 1 rfl ?_
    refine a_lmul F dX10_tellCosts_75 ?_
    refine a_lload F dX10_tellCosts_76 0 rfl ?_
    refine a_lload F dX10_tellCosts_78 0 rfl ?_
    refine a_lmul F dX10_tellCosts_80 ?_
    refine a_ladd F dX10_tellCosts_81 ?_
    refine a_iload_n F dX10_tellCosts_82 rfl 6 rfl ?_
    refine a_i2l F hf dX10_tellCosts_83 (fun hf => ?_)
    refine a_iload_n F dX10_tellCosts_84 rfl 6 rfl ?_
    refine a_i2l F hf dX10_tellCosts_85 (fun hf => ?_)
    refine a_lmul F dX10_tellCosts_86 ?_
    refine a_aload_n F dX10_tellCosts_87 rfl 3 rfl ?_
    refine a_getR F (j := 0) tC_0 rfl rfl (by decide) inW10 w_167 dX10_tellCosts_88 ?_
    refine a_iload F dX10_tellCosts_91 2 rfl ?_
    refine a_callVIr F lk_RX10_244 tC_1 rfl c_X9_takenOff rfl rfl ⟨rfl, rfl⟩ ⟨Nat.le_of_ble_eq_true rfl, Nat.le_of_ble_eq_true rfl⟩ rfl (Nat.le_of_ble_eq_true rfl) dX10_tellCosts_93 hf (fun r_5 hf => ?_)
    refine a_i2l F hf dX10_tellCosts_96 (fun hf => ?_)
    refine a_lmul F dX10_tellCosts_97 ?_
    refine a_lsub F dX10_tellCosts_98 ?_
    refine a_last F tC_69 rfl (by decide) hf dX10_tellCosts_99 (fun σ_6 hf => ?_)
    refine a_iinc F hf dX10_tellCosts_100 7 rfl (by decide) (fun x4_7 hf => ⟨[(4, iv x4_7), (8, jv x8_4), (6, jv x6_3), (5, iv x5_2), (0, .ref (ad 0)), (1, iv x1), (2, iv x2), (3, iv x3)], rfl, ?_⟩)
    refine a_goto F (tgt := 3) dX10_tellCosts_103 (by decide) ?_
    cases hf
    exact a_sub [4, 5, 6, 7, 0] rfl (hn _ _ rfl)
  · cases hf
    exact a_sub [] rfl (hx0 _ rfl)
set_option maxRecDepth 100000 in
set_option maxHeartbeats 4000000 in
theorem k_X10_tellCosts_b0 {l : Launch} {ad : Nat → Nat} {X : Cx} (F : Ok vwCl WS NWs TC cX10_tellCosts 10 yX10_tellCosts.cls none ad l X) {σ : St} {x1 x2 x3 : Int} {y : St} (hf : f_X10_tellCosts_b0 σ x1 x2 x3 = some y) (hr : RetV vwCl TC cX10_tellCosts 10 rm_X10_tellCosts ad X y) : At vwCl TC 10 rm_X10_tellCosts ad X σ [(0, .ref (ad 0)), (1, iv x1), (2, iv x2), (3, iv x3)] [] 0 := by
  unfold f_X10_tellCosts_b0 at hf
  refine a_iconst F dX10_tellCosts_0 ?_
  refine a_topI hf (fun x4_1 hf => ?_)
  refine a_istore F (lv' := [(4, iv x4_1), (0, .ref (ad 0)), (1, iv x1), (2, iv x2), (3, iv x3)]) dX10_tellCosts_1 (by decide) rfl ?_
  obtain ⟨q0, he, hf⟩ := jbind_elim hf
  refine a_sub [1, 2, 3, 4, 0] rfl (loop_rule (P := (fun q => ∀ τ z4, (τ, z4) = q → At vwCl TC 10 rm_X10_tellCosts ad X τ [(0, .ref (ad 0)), (1, iv x1), (2, iv x2), (3, iv x3), (4, iv z4)] [] 3)) (K := (fun q => (∀ τ, τ = q → At vwCl TC 10 rm_X10_tellCosts ad X τ [] [] 106))) ?_ 1000 _ _ he ?_ _ _ rfl)
  · intro q y hy hn hx τ z4 e
    subst e
    exact k_X10_tellCosts_b3 F hy (fun τ z4 e => hn _ e _ _ rfl) (fun τ e => (hx _ e) _ rfl)
  · intro σ_8 e
    subst e
    cases hf
    exact hr _ _ dX10_tellCosts_106
set_option maxRecDepth 100000 in
set_option maxHeartbeats 4000000 in
theorem c_X10_tellCosts {l : Launch}  {σ : St} {x1 x2 x3 : Int} : CtrV vwCl WS NWs TC l yX10_tellCosts cX10_tellCosts 10 none rm_X10_tellCosts (fun ad => [.ref (ad 0), iv x1, iv x2, iv x3]) σ (f_X10_tellCosts σ x1 x2 x3) := by
  refine ctrV_of (by decide +kernel) (fun ad => Nat.le_of_ble_eq_true rfl) (fun σ' ad X hf F K => ?_)
  exact k_X10_tellCosts_b0 F hf K
abbrev rm_X10_rankOf : Room := { frames := 0, cells := 0, slots := 0, locals := 0 }
set_option maxRecDepth 100000 in
set_option maxHeartbeats 4000000 in
theorem k_X10_rankOf_b5 {l : Launch} {ad : Nat → Nat} {X : Cx} (F : Ok vwCl WS NWs TC cX10_rankOf 5 yX10_rankOf.cls (some .int) ad l X) {σ : St} {x1 x2 x3 x4 : Int} {y : ((Int × Int) ⊕ Int)} (hf : f_X10_rankOf_b5 σ x1 x2 x3 x4 = some y) (hn : ∀ z3 z4, y = .inl (z3, z4) → At vwCl TC 5 rm_X10_rankOf ad X σ [(0, .ref (ad 0)), (1, iv x1), (2, iv x2), (3, iv z3), (4, iv z4)] [] 5) (hx0 : ∀ z3, y = .inr (z3) → At vwCl TC 5 rm_X10_rankOf ad X σ [(3, iv z3)] [] 70) : At vwCl TC 5 rm_X10_rankOf ad X σ [(0, .ref (ad 0)), (1, iv x1), (2, iv x2), (3, iv x3), (4, iv x4)] [] 5 := by
  unfold f_X10_rankOf_b5 at hf
  refine a_iload F dX10_rankOf_5 4 rfl ?_
  refine a_aload_n F dX10_rankOf_7 rfl 0 rfl ?_
  refine a_getR F (j := 0) tC_0 rfl rfl (by decide) inW10 w_167 dX10_rankOf_8 ?_
  refine a_getI F (j := 4) tC_1 rfl rfl (by decide) inW9 w_331 dX10_rankOf_11 ?_
  refine a_icmp_ge F hf (tgt := 70) dX10_rankOf_14 (by decide) (fun hf => ?_) (fun hf => ?_)
  · refine a_aload_n F dX10_rankOf_17 rfl 0 rfl ?_
    refine a_getR F (j := 9) tC_0 rfl rfl (by decide) inW10 w_439 dX10_rankOf_18 ?_
    refine a_iload F dX10_rankOf_21 4 rfl ?_
    refine a_lald F tC_69 rfl (by decide) hf dX10_rankOf_23 (fun hf => ?_)
    refine a_aload_n F dX10_rankOf_24 rfl 0 rfl ?_
    refine a_getR F (j := 9) tC_0 rfl rfl (by decide) inW10 w_439 dX10_rankOf_25 ?_
    refine a_iload_n F dX10_rankOf_28 rfl 1 rfl ?_
    refine a_lald F tC_69 rfl (by decide) hf dX10_rankOf_29 (fun hf => ?_)
    refine a_lcmp_lt F hf (tgt := 61) dX10_rankOf_30 dX10_rankOf_31 (by decide) (fun hf => ?_) (fun hf => ?_)
    · refine a_iinc F hf dX10_rankOf_61 3 rfl (by decide) (fun x3_3 hf => ⟨[(3, iv x3_3), (0, .ref (ad 0)), (1, iv x1), (2, iv x2), (4, iv x4)], rfl, ?_⟩)
      refine a_iinc F hf dX10_rankOf_64 4 rfl (by decide) (fun x4_4 hf => ⟨[(4, iv x4_4), (3, iv x3_3), (0, .ref (ad 0)), (1, iv x1), (2, iv x2)], rfl, ?_⟩)
      refine a_goto F (tgt := 5) dX10_rankOf_67 (by decide) ?_
      cases hf
      exact a_sub [2, 3, 4, 1, 0] rfl (hn _ _ rfl)
    · refine a_iload_n F dX10_rankOf_34 rfl 2 rfl ?_
      refine a_if_eq F hf (tgt := 64) dX10_rankOf_35 (by decide) (fun hf => ?_) (fun hf => ?_)
      · refine a_iinc F hf dX10_rankOf_64 4 rfl (by decide) (fun x4_5 hf => ⟨[(4, iv x4_5), (0, .ref (ad 0)), (1, iv x1), (2, iv x2), (3, iv x3)], rfl, ?_⟩)
        refine a_goto F (tgt := 5) dX10_rankOf_67 (by decide) ?_
        cases hf
        exact a_sub [1, 2, 3, 4, 0] rfl (hn _ _ rfl)
      · refine a_iload F dX10_rankOf_38 4 rfl ?_
        refine a_iload_n F dX10_rankOf_40 rfl 1 rfl ?_
        refine a_icmp_ge F hf (tgt := 64) dX10_rankOf_41 (by decide) (fun hf => ?_) (fun hf => ?_)
        · refine a_aload_n F dX10_rankOf_44 rfl 0 rfl ?_
          refine a_getR F (j := 9) tC_0 rfl rfl (by decide) inW10 w_439 dX10_rankOf_45 ?_
          refine a_iload F dX10_rankOf_48 4 rfl ?_
          refine a_lald F tC_69 rfl (by decide) hf dX10_rankOf_50 (fun hf => ?_)
          refine a_aload_n F dX10_rankOf_51 rfl 0 rfl ?_
          refine a_getR F (j := 9) tC_0 rfl rfl (by decide) inW10 w_439 dX10_rankOf_52 ?_
          refine a_iload_n F dX10_rankOf_55 rfl 1 rfl ?_
          refine a_lald F tC_69 rfl (by decide) hf dX10_rankOf_56 (fun hf => ?_)
          refine a_lcmp_ne F hf (tgt := 64) dX10_rankOf_57 dX10_rankOf_58 (by decide) (fun hf => ?_) (fun hf => ?_)
          · refine a_iinc F hf dX10_rankOf_61 3 rfl (by decide) (fun x3_8 hf => ⟨[(3, iv x3_8), (0, .ref (ad 0)), (1, iv x1), (2, iv x2), (4, iv x4)], rfl, ?_⟩)
            refine a_iinc F hf dX10_rankOf_64 4 rfl (by decide) (fun x4_9 hf => ⟨[(4, iv x4_9), (3, iv x3_8), (0, .ref (ad 0)), (1, iv x1), (2, iv x2)], rfl, ?_⟩)
            refine a_goto F (tgt := 5) dX10_rankOf_67 (by decide) ?_
            cases hf
            exact a_sub [2, 3, 4, 1, 0] rfl (hn _ _ rfl)
          · refine a_iinc F hf dX10_rankOf_64 4 rfl (by decide) (fun x4_7 hf => ⟨[(4, iv x4_7), (0, .ref (ad 0)), (1, iv x1), (2, iv x2), (3, iv x3)], rfl, ?_⟩)
            refine a_goto F (tgt := 5) dX10_rankOf_67 (by decide) ?_
            cases hf
            exact a_sub [1, 2, 3, 4, 0] rfl (hn _ _ rfl)
        · refine a_iinc F hf dX10_rankOf_64 4 rfl (by decide) (fun x4_6 hf => ⟨[(4, iv x4_6), (0, .ref (ad 0)), (1, iv x1), (2, iv x2), (3, iv x3)], rfl, ?_⟩)
          refine a_goto F (tgt := 5) dX10_rankOf_67 (by decide) ?_
          cases hf
          exact a_sub [1, 2, 3, 4, 0] rfl (hn _ _ rfl)
  · cases hf
    exact a_sub [3] rfl (hx0 _ rfl)
set_option maxRecDepth 100000 in
set_option maxHeartbeats 4000000 in
theorem k_X10_rankOf_b0 {l : Launch} {ad : Nat → Nat} {X : Cx} (F : Ok vwCl WS NWs TC cX10_rankOf 5 yX10_rankOf.cls (some .int) ad l X) {σ : St} {x1 x2 : Int} {y : Int} (hf : f_X10_rankOf_b0 σ x1 x2 = some y) (hr : RetI vwCl TC cX10_rankOf 5 rm_X10_rankOf ad X y σ) : At vwCl TC 5 rm_X10_rankOf ad X σ [(0, .ref (ad 0)), (1, iv x1), (2, iv x2)] [] 0 := by
  unfold f_X10_rankOf_b0 at hf
  refine a_iconst F dX10_rankOf_0 ?_
  refine a_topI hf (fun x3_1 hf => ?_)
  refine a_istore_n F (lv' := [(3, iv x3_1), (0, .ref (ad 0)), (1, iv x1), (2, iv x2)]) dX10_rankOf_1 rfl (by decide) rfl ?_
  refine a_iconst F dX10_rankOf_2 ?_
  refine a_topI hf (fun x4_2 hf => ?_)
  refine a_istore F (lv' := [(4, iv x4_2), (3, iv x3_1), (0, .ref (ad 0)), (1, iv x1), (2, iv x2)]) dX10_rankOf_3 (by decide) rfl ?_
  obtain ⟨q0, he, hf⟩ := jbind_elim hf
  refine a_sub [2, 3, 4, 1, 0] rfl (loop_rule (P := (fun q => ∀ z3 z4, (z3, z4) = q → At vwCl TC 5 rm_X10_rankOf ad X σ [(0, .ref (ad 0)), (1, iv x1), (2, iv x2), (3, iv z3), (4, iv z4)] [] 5)) (K := (fun q => (∀ z3, z3 = q → At vwCl TC 5 rm_X10_rankOf ad X σ [(3, iv z3)] [] 70))) ?_ 1000 _ _ he ?_ _ _ rfl)
  · intro q y hy hn hx z3 z4 e
    subst e
    exact k_X10_rankOf_b5 F hy (fun z3 z4 e => hn _ e _ _ rfl) (fun z3 e => (hx _ e) _ rfl)
  · intro x3_10 e
    subst e
    refine a_iload_n F dX10_rankOf_70 rfl 0 rfl ?_
    cases hf
    exact hr _ _ dX10_rankOf_71
set_option maxRecDepth 100000 in
set_option maxHeartbeats 4000000 in
theorem c_X10_rankOf {l : Launch}  {σ : St} {x1 x2 : Int} : CtrI vwCl WS NWs TC l yX10_rankOf cX10_rankOf 5 (some .int) rm_X10_rankOf (fun ad => [.ref (ad 0), iv x1, iv x2]) σ (rd (f_X10_rankOf σ x1 x2) σ) := by
  refine ctrI_of (by decide +kernel) (fun ad => Nat.le_of_ble_eq_true rfl) (fun v σ' ad X hf F K => ?_)
  obtain ⟨hf2, e2⟩ := rd_elim hf
  subst e2
  exact k_X10_rankOf_b0 F hf2 K
abbrev rm_X10_next : Room := { frames := 3, cells := 0, slots := 0, locals := 71 }
set_option maxRecDepth 100000 in
set_option maxHeartbeats 4000000 in
theorem k_X10_next_b22 {l : Launch} {ad : Nat → Nat} {X : Cx} (F : Ok vwCl WS NWs TC cX10_next 6 yX10_next.cls (some .int) ad l X) {σ : St} {x4 x5 : Int} {y : (Int ⊕ (Int ⊕ Unit))} (hf : f_X10_next_b22 σ x4 x5 = some y) (hn : ∀ z5, y = .inl z5 → At vwCl TC 6 rm_X10_next ad X σ [(0, .ref (ad 0)), (4, iv x4), (5, iv z5)] [] 22) (hx0 : ∀ z5, y = .inr (.inl z5) → At vwCl TC 6 rm_X10_next ad X σ [(0, .ref (ad 0)), (5, iv z5)] [] 46) (hx1 : y = .inr (.inr (())) → At vwCl TC 6 rm_X10_next ad X σ [] [] 63) : At vwCl TC 6 rm_X10_next ad X σ [(0, .ref (ad 0)), (4, iv x4), (5, iv x5)] [] 22 := by
  unfold f_X10_next_b22 at hf
  refine a_iload F dX10_next_22 2 rfl ?_
  refine a_aload_n F dX10_next_24 rfl 0 rfl ?_
  refine a_getR F (j := 0) tC_0 rfl rfl (by decide) inW10 w_167 dX10_next_25 ?_
  refine a_getI F (j := 4) tC_1 rfl rfl (by decide) inW9 w_331 dX10_next_28 ?_
  refine a_icmp_ge F hf (tgt := 63) dX10_next_31 (by decide) (fun hf => ?_) (fun hf => ?_)
  · refine a_aload_n F dX10_next_34 rfl 0 rfl ?_
    refine a_iload F dX10_next_35 2 rfl ?_
    refine a_iconst F dX10_next_37 ?_
    refine a_callVIr F lk_RX10_150 tC_0 rfl c_X10_rankOf rfl rfl ⟨rfl, rfl⟩ ⟨Nat.le_of_ble_eq_true rfl, Nat.le_of_ble_eq_true rfl⟩ rfl (Nat.le_of_ble_eq_true rfl) dX10_next_38 hf (fun r_4 hf => ?_)
    refine a_iload F dX10_next_41 1 rfl ?_
    refine a_icmp_ne F hf (tgt := 57) dX10_next_43 (by decide) (fun hf => ?_) (fun hf => ?_)
    · cases hf
      exact a_sub [0, 2] rfl (hx0 _ rfl)
    · refine a_iinc F hf dX10_next_57 2 rfl (by decide) (fun x5_5 hf => ⟨[(5, iv x5_5), (0, .ref (ad 0)), (4, iv x4)], rfl, ?_⟩)
      refine a_goto F (tgt := 22) dX10_next_60 (by decide) ?_
      cases hf
      exact a_sub [1, 2, 0] rfl (hn _ rfl)
  · cases hf
    exact a_sub [] rfl (hx1  rfl)
set_option maxRecDepth 100000 in
set_option maxHeartbeats 4000000 in
theorem k_X10_next_b0 {l : Launch} {ad : Nat → Nat} {X : Cx} (F : Ok vwCl WS NWs TC cX10_next 6 yX10_next.cls (some .int) ad l X) {σ : St} {x1 x2 x3 x4 : Int} {y : (Int × St)} (hf : f_X10_next_b0 σ x1 x2 x3 x4 = some y) (hr : ∀ v τ, y = (v, τ) → RetI vwCl TC cX10_next 6 rm_X10_next ad X v τ) : At vwCl TC 6 rm_X10_next ad X σ [(0, .ref (ad 0)), (1, iv x1), (2, iv x2), (3, iv x3), (4, iv x4)] [] 0 := by
  unfold f_X10_next_b0 at hf
  refine a_aload_n F dX10_next_0 rfl 0 rfl ?_
  refine a_iload_n F dX10_next_1 rfl 1 rfl ?_
  refine a_iload_n F dX10_next_2 rfl 2 rfl ?_
  refine a_iload_n F dX10_next_3 rfl 3 rfl ?_
  refine a_callVIr F lk_RX10_142 tC_0 rfl c_X10_isPoint rfl rfl ⟨rfl, rfl⟩ ⟨Nat.le_of_ble_eq_true rfl, Nat.le_of_ble_eq_true rfl⟩ rfl (Nat.le_of_ble_eq_true rfl) dX10_next_4 hf (fun r_1 hf => ?_)
  refine a_if_ne F hf (tgt := 12) dX10_next_7 (by decide) (fun hf => ?_) (fun hf => ?_)
  · refine a_iconst F dX10_next_10 ?_
    cases hf
    exact hr _ _ rfl _ _ dX10_next_11
  · refine a_aload_n F dX10_next_12 rfl 0 rfl ?_
    refine a_iload_n F dX10_next_13 rfl 1 rfl ?_
    refine a_iload_n F dX10_next_14 rfl 2 rfl ?_
    refine a_iload_n F dX10_next_15 rfl 3 rfl ?_
    refine a_callVV F lk_RX10_146 tC_0 rfl c_X10_tellCosts rfl rfl ⟨rfl, rfl⟩ ⟨Nat.le_of_ble_eq_true rfl, Nat.le_of_ble_eq_true rfl⟩ rfl (Nat.le_of_ble_eq_true rfl) dX10_next_16 hf (fun σ_2 hf => ?_)
    refine a_iconst F dX10_next_19 ?_
    refine a_topI hf (fun x5_3 hf => ?_)
    refine a_istore F (lv' := [(5, iv x5_3), (0, .ref (ad 0)), (1, iv x1), (2, iv x2), (3, iv x3), (4, iv x4)]) dX10_next_20 (by decide) rfl ?_
    obtain ⟨q0, he, hf⟩ := jbind_elim hf
    refine a_sub [1, 5, 0] rfl (loop_rule (P := (fun q => ∀ z5, z5 = q → At vwCl TC 6 rm_X10_next ad X σ_2 [(0, .ref (ad 0)), (4, iv x4), (5, iv z5)] [] 22)) (K := (fun q => (∀ z5, .inl z5 = q → At vwCl TC 6 rm_X10_next ad X σ_2 [(0, .ref (ad 0)), (5, iv z5)] [] 46) ∧ (.inr (()) = q → At vwCl TC 6 rm_X10_next ad X σ_2 [] [] 63))) ?_ 1000 _ _ he ?_ _ rfl)
    · intro q y hy hn hx z5 e
      subst e
      exact k_X10_next_b22 F hy (fun z5 e => hn _ e _ rfl) (fun z5 e => (hx _ e).1 _ rfl) (fun  e => (hx _ e).2  rfl)
    · refine ⟨?_, ?_⟩
      · intro x5_6 e
        subst e
        refine a_aload_n F dX10_next_46 rfl 0 rfl ?_
        refine a_getR F (j := 0) tC_0 rfl rfl (by decide) inW10 w_167 dX10_next_47 ?_
        refine a_getR F (j := 5) tC_1 rfl rfl (by decide) inW9 w_437 dX10_next_50 ?_
        refine a_iload F dX10_next_53 1 rfl ?_
        refine a_iald F tC_2 rfl (by decide) hf dX10_next_55 (fun hf => ?_)
        cases hf
        exact hr _ _ rfl _ _ dX10_next_56
      · intro  e
        subst e
        refine a_iconst F dX10_next_63 ?_
        cases hf
        exact hr _ _ rfl _ _ dX10_next_64
set_option maxRecDepth 100000 in
set_option maxHeartbeats 4000000 in
theorem c_X10_next {l : Launch}  {σ : St} {x1 x2 x3 x4 : Int} : CtrI vwCl WS NWs TC l yX10_next cX10_next 6 (some .int) rm_X10_next (fun ad => [.ref (ad 0), iv x1, iv x2, iv x3, iv x4]) σ (f_X10_next σ x1 x2 x3 x4) := by
  refine ctrI_of (by decide +kernel) (fun ad => Nat.le_of_ble_eq_true rfl) (fun v σ' ad X hf F K => ?_)
  exact k_X10_next_b0 F hf (fun v τ e => by cases e; exact K)
abbrev rm_X10_pipe : Room := { frames := 4, cells := 0, slots := 0, locals := 90 }
set_option maxRecDepth 100000 in
set_option maxHeartbeats 4000000 in
theorem k_X10_pipe_b0 {l : Launch} {ad : Nat → Nat} {X : Cx} (F : Ok vwCl WS NWs TC cX10_pipe 3 yX10_pipe.cls (some .int) ad l X) {σ : St} {x1 x2 : Int} {y : (Int × St)} (hf : f_X10_pipe_b0 σ x1 x2 = some y) (hr : ∀ v τ, y = (v, τ) → RetI vwCl TC cX10_pipe 3 rm_X10_pipe ad X v τ) : At vwCl TC 3 rm_X10_pipe ad X σ [(0, .ref (ad 0)), (1, iv x1), (2, iv x2)] [] 0 := by
  unfold f_X10_pipe_b0 at hf
  refine a_aload_n F dX10_pipe_0 rfl 0 rfl ?_
  refine a_getR F (j := 6) tC_0 rfl rfl (by decide) inW10 w_310 dX10_pipe_1 ?_
  refine a_callVV F lk_RX10_195 tC_62 rfl c_X3_joinOnce rfl rfl ⟨rfl, rfl⟩ ⟨Nat.le_of_ble_eq_true rfl, Nat.le_of_ble_eq_true rfl⟩ rfl (Nat.le_of_ble_eq_true rfl) dX10_pipe_4 hf (fun σ_1 hf => ?_)
  refine a_aload_n F dX10_pipe_7 rfl 0 rfl ?_
  refine a_getR F (j := 6) tC_0 rfl rfl (by decide) inW10 w_310 dX10_pipe_8 ?_
  refine a_iload_n F dX10_pipe_11 rfl 1 rfl ?_
  refine a_iload_n F dX10_pipe_12 rfl 2 rfl ?_
  refine a_callVIr F lk_RX10_198 tC_62 rfl c_X3_tell rfl rfl ⟨rfl, rfl⟩ ⟨Nat.le_of_ble_eq_true rfl, Nat.le_of_ble_eq_true rfl⟩ rfl (Nat.le_of_ble_eq_true rfl) dX10_pipe_13 hf (fun r_2 hf => ?_)
  cases hf
  exact hr _ _ rfl _ _ dX10_pipe_16
set_option maxRecDepth 100000 in
set_option maxHeartbeats 4000000 in
theorem c_X10_pipe {l : Launch}  {σ : St} {x1 x2 : Int} : CtrI vwCl WS NWs TC l yX10_pipe cX10_pipe 3 (some .int) rm_X10_pipe (fun ad => [.ref (ad 0), iv x1, iv x2]) σ (f_X10_pipe σ x1 x2) := by
  refine ctrI_of (by decide +kernel) (fun ad => Nat.le_of_ble_eq_true rfl) (fun v σ' ad X hf F K => ?_)
  exact k_X10_pipe_b0 F hf (fun v τ e => by cases e; exact K)
abbrev rm_X9_fitInto : Room := { frames := 1, cells := 0, slots := 0, locals := 21 }
set_option maxRecDepth 100000 in
set_option maxHeartbeats 4000000 in
theorem k_X9_fitInto_b28 {l : Launch} {ad : Nat → Nat} {X : Cx} (F : Ok vwCl WS NWs TC cX9_fitInto 4 yX9_fitInto.cls (some .boolean) ad l X) {σ : St} {x1 x2 x3 : Int} {y : (Int ⊕ (Unit ⊕ Unit))} (hf : f_X9_fitInto_b28 σ x1 x2 x3 = some y) (hn : ∀ z3, y = .inl z3 → At vwCl TC 4 rm_X9_fitInto ad X σ [(0, .ref (ad 1)), (1, iv x1), (2, iv x2), (3, iv z3)] [] 28) (hx0 : y = .inr (.inl ()) → At vwCl TC 4 rm_X9_fitInto ad X σ [] [] 62) (hx1 : y = .inr (.inr (())) → At vwCl TC 4 rm_X9_fitInto ad X σ [] [] 70) : At vwCl TC 4 rm_X9_fitInto ad X σ [(0, .ref (ad 1)), (1, iv x1), (2, iv x2), (3, iv x3)] [] 28 := by
  unfold f_X9_fitInto_b28 at hf
  refine a_iload_n F dX9_fitInto_28 rfl 3 rfl ?_
  refine a_bipush F dX9_fitInto_29 (by decide +kernel) ?_
  refine a_icmp_ge F hf (tgt := 70) dX9_fitInto_31 (by decide) (fun hf => ?_) (fun hf => ?_)
  · refine a_aload_n F dX9_fitInto_34 rfl 0 rfl ?_
    refine a_iload_n F dX9_fitInto_35 rfl 3 rfl ?_
    refine a_callVIr F lk_RX9_40 tC_1 rfl c_X9_has rfl rfl ⟨rfl, rfl⟩ ⟨Nat.le_of_ble_eq_true rfl, Nat.le_of_ble_eq_true rfl⟩ rfl (Nat.le_of_ble_eq_true rfl) dX9_fitInto_36 hf (fun r_2 hf => ?_)
    refine a_if_eq F hf (tgt := 64) dX9_fitInto_39 (by decide) (fun hf => ?_) (fun hf => ?_)
    · refine a_iinc F hf dX9_fitInto_64 3 rfl (by decide) (fun x3_3 hf => ⟨[(3, iv x3_3), (0, .ref (ad 1)), (1, iv x1), (2, iv x2)], rfl, ?_⟩)
      refine a_goto F (tgt := 28) dX9_fitInto_67 (by decide) ?_
      cases hf
      exact a_sub [1, 2, 3, 0] rfl (hn _ rfl)
    · refine a_aload_n F dX9_fitInto_42 rfl 0 rfl ?_
      refine a_getR F (j := 7) tC_1 rfl rfl (by decide) inW9 w_183 dX9_fitInto_43 ?_
      refine a_iload_n F dX9_fitInto_46 rfl 3 rfl ?_
      refine a_iald F tC_3 rfl (by decide) hf dX9_fitInto_47 (fun hf => ?_)
      refine a_iload_n F dX9_fitInto_48 rfl 1 rfl ?_
      refine a_icmp_gt F hf (tgt := 62) dX9_fitInto_49 (by decide) (fun hf => ?_) (fun hf => ?_)
      · cases hf
        exact a_sub [] rfl (hx0  rfl)
      · refine a_aload_n F dX9_fitInto_52 rfl 0 rfl ?_
        refine a_getR F (j := 8) tC_1 rfl rfl (by decide) inW9 w_184 dX9_fitInto_53 ?_
        refine a_iload_n F dX9_fitInto_56 rfl 3 rfl ?_
        refine a_iald F tC_4 rfl (by decide) hf dX9_fitInto_57 (fun hf => ?_)
        refine a_iload_n F dX9_fitInto_58 rfl 2 rfl ?_
        refine a_icmp_le F hf (tgt := 64) dX9_fitInto_59 (by decide) (fun hf => ?_) (fun hf => ?_)
        · cases hf
          exact a_sub [] rfl (hx0  rfl)
        · refine a_iinc F hf dX9_fitInto_64 3 rfl (by decide) (fun x3_4 hf => ⟨[(3, iv x3_4), (0, .ref (ad 1)), (1, iv x1), (2, iv x2)], rfl, ?_⟩)
          refine a_goto F (tgt := 28) dX9_fitInto_67 (by decide) ?_
          cases hf
          exact a_sub [1, 2, 3, 0] rfl (hn _ rfl)
  · cases hf
    exact a_sub [] rfl (hx1  rfl)
set_option maxRecDepth 100000 in
set_option maxHeartbeats 4000000 in
theorem k_X9_fitInto_b0 {l : Launch} {ad : Nat → Nat} {X : Cx} (F : Ok vwCl WS NWs TC cX9_fitInto 4 yX9_fitInto.cls (some .boolean) ad l X) {σ : St} {x1 x2 : Int} {y : Int} (hf : f_X9_fitInto_b0 σ x1 x2 = some y) (hr : RetI vwCl TC cX9_fitInto 4 rm_X9_fitInto ad X y σ) : At vwCl TC 4 rm_X9_fitInto ad X σ [(0, .ref (ad 1)), (1, iv x1), (2, iv x2)] [] 0 := by
  unfold f_X9_fitInto_b0 at hf
  refine a_iload_n F dX9_fitInto_0 rfl 1 rfl ?_
  refine a_iconst F dX9_fitInto_1 ?_
  refine a_icmp_lt F hf (tgt := 24) dX9_fitInto_2 (by decide) (fun hf => ?_) (fun hf => ?_)
  · refine a_iconst F dX9_fitInto_24 ?_
    cases hf
    exact hr _ _ dX9_fitInto_25
  · refine a_iload_n F dX9_fitInto_5 rfl 1 rfl ?_
    refine a_sipush F dX9_fitInto_6 (by decide +kernel) ?_
    refine a_icmp_gt F hf (tgt := 24) dX9_fitInto_9 (by decide) (fun hf => ?_) (fun hf => ?_)
    · refine a_iconst F dX9_fitInto_24 ?_
      cases hf
      exact hr _ _ dX9_fitInto_25
    · refine a_iload_n F dX9_fitInto_12 rfl 2 rfl ?_
      refine a_iconst F dX9_fitInto_13 ?_
      refine a_icmp_lt F hf (tgt := 24) dX9_fitInto_14 (by decide) (fun hf => ?_) (fun hf => ?_)
      · refine a_iconst F dX9_fitInto_24 ?_
        cases hf
        exact hr _ _ dX9_fitInto_25
      · refine a_iload_n F dX9_fitInto_17 rfl 2 rfl ?_
        refine a_sipush F dX9_fitInto_18 (by decide +kernel) ?_
        refine a_icmp_le F hf (tgt := 26) dX9_fitInto_21 (by decide) (fun hf => ?_) (fun hf => ?_)
        · refine a_iconst F dX9_fitInto_24 ?_
          cases hf
          exact hr _ _ dX9_fitInto_25
        · refine a_iconst F dX9_fitInto_26 ?_
          refine a_topI hf (fun x3_1 hf => ?_)
          refine a_istore_n F (lv' := [(3, iv x3_1), (0, .ref (ad 1)), (1, iv x1), (2, iv x2)]) dX9_fitInto_27 rfl (by decide) rfl ?_
          obtain ⟨q0, he, hf⟩ := jbind_elim hf
          refine a_sub [1, 2, 3, 0] rfl (loop_rule (P := (fun q => ∀ z3, z3 = q → At vwCl TC 4 rm_X9_fitInto ad X σ [(0, .ref (ad 1)), (1, iv x1), (2, iv x2), (3, iv z3)] [] 28)) (K := (fun q => (.inl () = q → At vwCl TC 4 rm_X9_fitInto ad X σ [] [] 62) ∧ (.inr (()) = q → At vwCl TC 4 rm_X9_fitInto ad X σ [] [] 70))) ?_ 1000 _ _ he ?_ _ rfl)
          · intro q y hy hn hx z3 e
            subst e
            exact k_X9_fitInto_b28 F hy (fun z3 e => hn _ e _ rfl) (fun  e => (hx _ e).1  rfl) (fun  e => (hx _ e).2  rfl)
          · refine ⟨?_, ?_⟩
            · intro  e
              subst e
              refine a_iconst F dX9_fitInto_62 ?_
              cases hf
              exact hr _ _ dX9_fitInto_63
            · intro  e
              subst e
              refine a_iconst F dX9_fitInto_70 ?_
              cases hf
              exact hr _ _ dX9_fitInto_71
set_option maxRecDepth 100000 in
set_option maxHeartbeats 4000000 in
theorem c_X9_fitInto {l : Launch}  {σ : St} {x1 x2 : Int} : CtrI vwCl WS NWs TC l yX9_fitInto cX9_fitInto 4 (some .boolean) rm_X9_fitInto (fun ad => [.ref (ad 1), iv x1, iv x2]) σ (rd (f_X9_fitInto σ x1 x2) σ) := by
  refine ctrZ_of (fun v σ' h => jz_z (rd_elim h).1) (by decide +kernel) (fun ad => Nat.le_of_ble_eq_true rfl) (fun v σ' ad X hf F K => ?_)
  obtain ⟨hf2, e2⟩ := rd_elim hf
  subst e2
  exact k_X9_fitInto_b0 F (jz_e hf2) K
abbrev rm_X9_resize : Room := { frames := 3, cells := 0, slots := 0, locals := 63 }
set_option maxRecDepth 100000 in
set_option maxHeartbeats 4000000 in
theorem k_X9_resize_b0 {l : Launch} {ad : Nat → Nat} {X : Cx} (F : Ok vwCl WS NWs TC cX9_resize 3 yX9_resize.cls none ad l X) {σ : St} {x1 x2 : Int} {y : St} (hf : f_X9_resize_b0 σ x1 x2 = some y) (hr : RetV vwCl TC cX9_resize 3 rm_X9_resize ad X y) : At vwCl TC 3 rm_X9_resize ad X σ [(0, .ref (ad 1)), (1, iv x1), (2, iv x2)] [] 0 := by
  unfold f_X9_resize_b0 at hf
  refine a_aload_n F dX9_resize_0 rfl 0 rfl ?_
  refine a_iload_n F dX9_resize_1 rfl 1 rfl ?_
  refine a_putI F (j := 0) tC_1 rfl rfl (by decide) inW9 w_390 tyX9 tyX9_ok nmX9 rfl rfl hf dX9_resize_2 (fun σ_1 hf => ?_)
  refine a_aload_n F dX9_resize_5 rfl 0 rfl ?_
  refine a_iload_n F dX9_resize_6 rfl 2 rfl ?_
  refine a_putI F (j := 1) tC_1 rfl rfl (by decide) inW9 w_391 tyX9 tyX9_ok nmX9 rfl rfl hf dX9_resize_7 (fun σ_2 hf => ?_)
  refine a_aload_n F dX9_resize_10 rfl 0 rfl ?_
  refine a_callVV F lk_RX9_51 tC_1 rfl c_X9_countAnew rfl rfl ⟨rfl, rfl⟩ ⟨Nat.le_of_ble_eq_true rfl, Nat.le_of_ble_eq_true rfl⟩ rfl (Nat.le_of_ble_eq_true rfl) dX9_resize_11 hf (fun σ_3 hf => ?_)
  cases hf
  exact hr _ _ dX9_resize_14
set_option maxRecDepth 100000 in
set_option maxHeartbeats 4000000 in
theorem c_X9_resize {l : Launch}  {σ : St} {x1 x2 : Int} : CtrV vwCl WS NWs TC l yX9_resize cX9_resize 3 none rm_X9_resize (fun ad => [.ref (ad 1), iv x1, iv x2]) σ (f_X9_resize σ x1 x2) := by
  refine ctrV_of (by decide +kernel) (fun ad => Nat.le_of_ble_eq_true rfl) (fun σ' ad X hf F K => ?_)
  exact k_X9_resize_b0 F hf K
abbrev rm_X10_rectangle : Room := { frames := 4, cells := 0, slots := 0, locals := 85 }
set_option maxRecDepth 100000 in
set_option maxHeartbeats 4000000 in
theorem k_X10_rectangle_b0 {l : Launch} {ad : Nat → Nat} {X : Cx} (F : Ok vwCl WS NWs TC cX10_rectangle 3 yX10_rectangle.cls (some .boolean) ad l X) {σ : St} {x1 x2 : Int} {y : (Int × St)} (hf : f_X10_rectangle_b0 σ x1 x2 = some y) (hr : ∀ v τ, y = (v, τ) → RetI vwCl TC cX10_rectangle 3 rm_X10_rectangle ad X v τ) : At vwCl TC 3 rm_X10_rectangle ad X σ [(0, .ref (ad 0)), (1, iv x1), (2, iv x2)] [] 0 := by
  unfold f_X10_rectangle_b0 at hf
  refine a_aload_n F dX10_rectangle_0 rfl 0 rfl ?_
  refine a_getR F (j := 0) tC_0 rfl rfl (by decide) inW10 w_167 dX10_rectangle_1 ?_
  refine a_iload_n F dX10_rectangle_4 rfl 1 rfl ?_
  refine a_iload_n F dX10_rectangle_5 rfl 2 rfl ?_
  refine a_callVIr F lk_RX10_78 tC_1 rfl c_X9_fitInto rfl rfl ⟨rfl, rfl⟩ ⟨Nat.le_of_ble_eq_true rfl, Nat.le_of_ble_eq_true rfl⟩ rfl (Nat.le_of_ble_eq_true rfl) dX10_rectangle_6 hf (fun r_1 hf => ?_)
  refine a_if_ne F hf (tgt := 14) dX10_rectangle_9 (by decide) (fun hf => ?_) (fun hf => ?_)
  · refine a_iconst F dX10_rectangle_12 ?_
    cases hf
    exact hr _ _ rfl _ _ dX10_rectangle_13
  · refine a_aload_n F dX10_rectangle_14 rfl 0 rfl ?_
    refine a_getR F (j := 1) tC_0 rfl rfl (by decide) inW10 w_254 dX10_rectangle_15 ?_
    refine a_aload_n F dX10_rectangle_18 rfl 0 rfl ?_
    refine a_getR F (j := 0) tC_0 rfl rfl (by decide) inW10 w_167 dX10_rectangle_19 ?_
    refine a_callVV F lk_RX10_82 tC_7 rfl c_X5_remember rfl rfl ⟨rfl, rfl⟩ ⟨Nat.le_of_ble_eq_true rfl, Nat.le_of_ble_eq_true rfl⟩ rfl (Nat.le_of_ble_eq_true rfl) dX10_rectangle_22 hf (fun σ_2 hf => ?_)
    refine a_aload_n F dX10_rectangle_25 rfl 0 rfl ?_
    refine a_getR F (j := 0) tC_0 rfl rfl (by decide) inW10 w_167 dX10_rectangle_26 ?_
    refine a_iload_n F dX10_rectangle_29 rfl 1 rfl ?_
    refine a_iload_n F dX10_rectangle_30 rfl 2 rfl ?_
    refine a_callVV F lk_RX10_85 tC_1 rfl c_X9_resize rfl rfl ⟨rfl, rfl⟩ ⟨Nat.le_of_ble_eq_true rfl, Nat.le_of_ble_eq_true rfl⟩ rfl (Nat.le_of_ble_eq_true rfl) dX10_rectangle_31 hf (fun σ_3 hf => ?_)
    refine a_iconst F dX10_rectangle_34 ?_
    cases hf
    exact hr _ _ rfl _ _ dX10_rectangle_35
set_option maxRecDepth 100000 in
set_option maxHeartbeats 4000000 in
theorem c_X10_rectangle {l : Launch}  {σ : St} {x1 x2 : Int} : CtrI vwCl WS NWs TC l yX10_rectangle cX10_rectangle 3 (some .boolean) rm_X10_rectangle (fun ad => [.ref (ad 0), iv x1, iv x2]) σ (f_X10_rectangle σ x1 x2) := by
  refine ctrZ_of (fun v σ' h => jzw_z h) (by decide +kernel) (fun ad => Nat.le_of_ble_eq_true rfl) (fun v σ' ad X hf F K => ?_)
  exact k_X10_rectangle_b0 F (jzw_e hf) (fun v τ e => by cases e; exact K)
