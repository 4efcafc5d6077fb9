abbrev rm_X10_below : Room := { frames := 2, cells := 0, slots := 0, locals := 51 }
set_option maxRecDepth 100000 in
set_option maxHeartbeats 4000000 in
theorem k_X10_below_b0 {l : Launch} {ad : Nat → Nat} {X : Cx} (F : Ok vwCl WS NWs TC cX10_below 6 yX10_below.cls (some .long) ad l X) {σ : St} {x0 x2 : Int} {y : Int} (hf : f_X10_below_b0 x0 x2 = some y) (hr : RetL vwCl TC cX10_below 6 rm_X10_below ad X y σ) : At vwCl TC 6 rm_X10_below ad X σ [(0, jv x0), (2, jv x2)] [] 0 := by
  unfold f_X10_below_b0 at hf
  refine a_lload_n F dX10_below_0 rfl 0 rfl ?_
  refine a_lload_n F dX10_below_1 rfl 1 rfl ?_
  refine a_callSLr F lk_RX10_262 c_X10_greatestDivisor rfl rfl ⟨rfl, rfl⟩ ⟨Nat.le_of_ble_eq_true rfl, Nat.le_of_ble_eq_true rfl⟩ rfl (Nat.le_of_ble_eq_true rfl) dX10_below_2 hf (fun r_1 hf => ?_)
  refine a_topJ hf (fun x4_2 hf => ?_)
  refine a_lstore F (lv' := [(4, jv x4_2), (0, jv x0), (2, jv x2)]) dX10_below_5 (by decide) rfl ?_
  refine a_lload F dX10_below_7 0 rfl ?_
  refine a_lconst F (n := 0) dX10_below_9 (by decide +kernel) ?_
  refine a_lcmp_ne F hf (tgt := 18) dX10_below_10 dX10_below_11 (by decide) (fun hf => ?_) (fun hf => ?_)
  · refine a_lload_n F dX10_below_14 rfl 2 rfl ?_
    refine a_goto F (tgt := 22) dX10_below_15 (by decide) ?_
    cases hf
    exact hr _ _ dX10_below_22
  · refine a_lload_n F dX10_below_18 rfl 2 rfl ?_
    refine a_lload F dX10_below_19 0 rfl ?_
    refine a_ldiv F hf dX10_below_21 (fun hf => ?_)
    cases hf
    exact hr _ _ dX10_below_22
set_option maxRecDepth 100000 in
set_option maxHeartbeats 4000000 in
theorem c_X10_below {l : Launch}  {σ : St} {x0 x2 : Int} : CtrL vwCl WS NWs TC l yX10_below cX10_below 6 (some .long) rm_X10_below (fun ad => [jv x0, jv x2]) σ (rd (f_X10_below x0 x2) σ) := by
  refine ctrL_of (by decide +kernel) (fun ad => Nat.le_of_ble_eq_true rfl) (fun v σ' ad X hf F K => ?_)
  obtain ⟨hf2, e2⟩ := rd_elim hf
  subst e2
  exact k_X10_below_b0 F hf2 K
abbrev rm_X10_tellSquare : Room := { frames := 3, cells := 0, slots := 0, locals := 76 }
set_option maxRecDepth 100000 in
set_option maxHeartbeats 4000000 in
theorem k_X10_tellSquare_b0 {l : Launch} {ad : Nat → Nat} {X : Cx} (F : Ok vwCl WS NWs TC cX10_tellSquare 5 yX10_tellSquare.cls (some .long) ad l X) {σ : St} {x0 x2 x4 : Int} {y : Int} (hf : f_X10_tellSquare_b0 x0 x2 x4 = some y) (hr : RetL vwCl TC cX10_tellSquare 5 rm_X10_tellSquare ad X y σ) : At vwCl TC 5 rm_X10_tellSquare ad X σ [(0, jv x0), (2, jv x2), (4, iv x4)] [] 0 := by
  unfold f_X10_tellSquare_b0 at hf
  refine a_iload F dX10_tellSquare_0 2 rfl ?_
  refine a_iconst F dX10_tellSquare_2 ?_
  refine a_icmp_ne F hf (tgt := 14) dX10_tellSquare_3 (by decide) (fun hf => ?_) (fun hf => ?_)
  · refine a_lload_n F dX10_tellSquare_6 rfl 0 rfl ?_
    refine a_lload_n F dX10_tellSquare_7 rfl 1 rfl ?_
    refine a_callSLr F lk_RX10_266 c_X10_above rfl rfl ⟨rfl, rfl⟩ ⟨Nat.le_of_ble_eq_true rfl, Nat.le_of_ble_eq_true rfl⟩ rfl (Nat.le_of_ble_eq_true rfl) dX10_tellSquare_8 hf (fun r_2 hf => ?_)
    refine a_goto F (tgt := 19) dX10_tellSquare_11 (by decide) ?_
    cases hf
    exact hr _ _ dX10_tellSquare_19
  · refine a_lload_n F dX10_tellSquare_14 rfl 0 rfl ?_
    refine a_lload_n F dX10_tellSquare_15 rfl 1 rfl ?_
    refine a_callSLr F lk_RX10_269 c_X10_below rfl rfl ⟨rfl, rfl⟩ ⟨Nat.le_of_ble_eq_true rfl, Nat.le_of_ble_eq_true rfl⟩ rfl (Nat.le_of_ble_eq_true rfl) dX10_tellSquare_16 hf (fun r_1 hf => ?_)
    cases hf
    exact hr _ _ dX10_tellSquare_19
set_option maxRecDepth 100000 in
set_option maxHeartbeats 4000000 in
theorem c_X10_tellSquare {l : Launch}  {σ : St} {x0 x2 x4 : Int} : CtrL vwCl WS NWs TC l yX10_tellSquare cX10_tellSquare 5 (some .long) rm_X10_tellSquare (fun ad => [jv x0, jv x2, iv x4]) σ (rd (f_X10_tellSquare x0 x2 x4) σ) := by
  refine ctrL_of (by decide +kernel) (fun ad => Nat.le_of_ble_eq_true rfl) (fun v σ' ad X hf F K => ?_)
  obtain ⟨hf2, e2⟩ := rd_elim hf
  subst e2
  exact k_X10_tellSquare_b0 F hf2 K
abbrev rm_X10_tellPoint : Room := { frames := 3, cells := 0, slots := 0, locals := 76 }
set_option maxRecDepth 100000 in
set_option maxHeartbeats 4000000 in
theorem k_X10_tellPoint_b0 {l : Launch} {ad : Nat → Nat} {X : Cx} (F : Ok vwCl WS NWs TC cX10_tellPoint 7 yX10_tellPoint.cls (some .long) ad l X) {σ : St} {x0 x2 x4 x6 : Int} {y : Int} (hf : f_X10_tellPoint_b0 x0 x2 x4 x6 = some y) (hr : RetL vwCl TC cX10_tellPoint 7 rm_X10_tellPoint ad X y σ) : At vwCl TC 7 rm_X10_tellPoint ad X σ [(0, jv x0), (2, jv x2), (4, jv x4), (6, iv x6)] [] 0 := by
  unfold f_X10_tellPoint_b0 at hf
  refine a_iload F dX10_tellPoint_0 3 rfl ?_
  obtain ⟨hg9, hf⟩ := jchk_elim hf
  by_cases hq0 : x6 = 0
  · rw [if_pos hq0] at hf
    refine a_tableIn F (tgt := 32) hg9 dX10_tellPoint_2 (by omega) (by omega) (by rw [hq0]; rfl) (by decide) ?_
    refine a_lload_n F dX10_tellPoint_32 rfl 0 rfl ?_
    refine a_lload F dX10_tellPoint_33 2 rfl ?_
    refine a_callSLr F lk_RX10_266 c_X10_above rfl rfl ⟨rfl, rfl⟩ ⟨Nat.le_of_ble_eq_true rfl, Nat.le_of_ble_eq_true rfl⟩ rfl (Nat.le_of_ble_eq_true rfl) dX10_tellPoint_35 hf (fun r_1 hf => ?_)
    cases hf
    exact hr _ _ dX10_tellPoint_38
  · rw [if_neg hq0] at hf
    by_cases hq1 : x6 = 1
    · rw [if_pos hq1] at hf
      refine a_tableIn F (tgt := 39) hg9 dX10_tellPoint_2 (by omega) (by omega) (by rw [hq1]; rfl) (by decide) ?_
      refine a_lload_n F dX10_tellPoint_39 rfl 0 rfl ?_
      refine a_lload F dX10_tellPoint_40 2 rfl ?_
      refine a_callSLr F lk_RX10_269 c_X10_below rfl rfl ⟨rfl, rfl⟩ ⟨Nat.le_of_ble_eq_true rfl, Nat.le_of_ble_eq_true rfl⟩ rfl (Nat.le_of_ble_eq_true rfl) dX10_tellPoint_42 hf (fun r_2 hf => ?_)
      cases hf
      exact hr _ _ dX10_tellPoint_45
    · rw [if_neg hq1] at hf
      by_cases hq2 : x6 = 2
      · rw [if_pos hq2] at hf
        refine a_tableIn F (tgt := 46) hg9 dX10_tellPoint_2 (by omega) (by omega) (by rw [hq2]; rfl) (by decide) ?_
        refine a_lload_n F dX10_tellPoint_46 rfl 1 rfl ?_
        refine a_lload F dX10_tellPoint_47 2 rfl ?_
        refine a_callSLr F lk_RX10_266 c_X10_above rfl rfl ⟨rfl, rfl⟩ ⟨Nat.le_of_ble_eq_true rfl, Nat.le_of_ble_eq_true rfl⟩ rfl (Nat.le_of_ble_eq_true rfl) dX10_tellPoint_49 hf (fun r_3 hf => ?_)
        cases hf
        exact hr _ _ dX10_tellPoint_52
      · rw [if_neg hq2] at hf
        by_cases hq3 : x6 = 3
        · rw [if_pos hq3] at hf
          refine a_tableIn F (tgt := 53) hg9 dX10_tellPoint_2 (by omega) (by omega) (by rw [hq3]; rfl) (by decide) ?_
          refine a_lload_n F dX10_tellPoint_53 rfl 1 rfl ?_
          refine a_lload F dX10_tellPoint_54 2 rfl ?_
          refine a_callSLr F lk_RX10_269 c_X10_below rfl rfl ⟨rfl, rfl⟩ ⟨Nat.le_of_ble_eq_true rfl, Nat.le_of_ble_eq_true rfl⟩ rfl (Nat.le_of_ble_eq_true rfl) dX10_tellPoint_56 hf (fun r_4 hf => ?_)
          cases hf
          exact hr _ _ dX10_tellPoint_59
        · rw [if_neg hq3] at hf
          refine a_tableOut F (tgt := 60) hg9 dX10_tellPoint_2 (by omega) (by decide) ?_
          refine a_ldc2 F (n := (-1)) (by decide +kernel) w_156 dX10_tellPoint_60 ?_
          cases hf
          exact hr _ _ dX10_tellPoint_63
set_option maxRecDepth 100000 in
set_option maxHeartbeats 4000000 in
theorem c_X10_tellPoint {l : Launch}  {σ : St} {x0 x2 x4 x6 : Int} : CtrL vwCl WS NWs TC l yX10_tellPoint cX10_tellPoint 7 (some .long) rm_X10_tellPoint (fun ad => [jv x0, jv x2, jv x4, iv x6]) σ (rd (f_X10_tellPoint x0 x2 x4 x6) σ) := by
  refine ctrL_of (by decide +kernel) (fun ad => Nat.le_of_ble_eq_true rfl) (fun v σ' ad X hf F K => ?_)
  obtain ⟨hf2, e2⟩ := rd_elim hf
  subst e2
  exact k_X10_tellPoint_b0 F hf2 K
abbrev rm_X0_tell : Room := { frames := 4, cells := 0, slots := 0, locals := 102 }
set_option maxRecDepth 100000 in
set_option maxHeartbeats 4000000 in
theorem k_X0_tell_b26 {l : Launch} {ad : Nat → Nat} {X : Cx} (F : Ok vwCl WS NWs TC cX0_tell 3 yX0_tell.cls (some .long) ad l X) {σ : St} {x1 t0 : Int} {y : Int} (hf : f_X0_tell_b26 σ x1 t0 = some y) (hr : RetL vwCl TC cX0_tell 3 rm_X0_tell ad X y σ) : At vwCl TC 3 rm_X0_tell ad X σ [(0, .ref (ad 41)), (1, iv x1)] [iv t0] 26 := by
  unfold f_X0_tell_b26 at hf
  refine a_topI hf (fun x2_1 hf => ?_)
  refine a_istore_n F (lv' := [(2, iv x2_1), (0, .ref (ad 41)), (1, iv x1)]) dX0_tell_26 rfl (by decide) rfl ?_
  refine a_iload_n F dX0_tell_27 rfl 0 rfl ?_
  refine a_if_eq F hf (tgt := 46) dX0_tell_28 (by decide) (fun hf => ?_) (fun hf => ?_)
  · refine a_aload_n F dX0_tell_46 rfl 1 rfl ?_
    refine a_getR F (j := 4) tC_41 rfl rfl (by decide) inW0 w_100 dX0_tell_47 ?_
    refine a_getR F (j := 1) tC_57 rfl rfl (by decide) inW4 w_105 dX0_tell_50 ?_
    refine a_iconst F dX0_tell_53 ?_
    refine a_lald F tC_58 rfl (by decide) hf dX0_tell_54 (fun hf => ?_)
    refine a_aload_n F dX0_tell_55 rfl 1 rfl ?_
    refine a_getR F (j := 4) tC_41 rfl rfl (by decide) inW0 w_100 dX0_tell_56 ?_
    refine a_getR F (j := 2) tC_57 rfl rfl (by decide) inW4 w_108 dX0_tell_59 ?_
    refine a_iconst F dX0_tell_62 ?_
    refine a_lald F tC_59 rfl (by decide) hf dX0_tell_63 (fun hf => ?_)
    refine a_ldc2 F (n := 2) (by decide +kernel) w_157 dX0_tell_64 ?_
    refine a_aload_n F dX0_tell_67 rfl 1 rfl ?_
    refine a_getR F (j := 4) tC_41 rfl rfl (by decide) inW0 w_100 dX0_tell_68 ?_
    refine a_getR F (j := 3) tC_57 rfl rfl (by decide) inW4 w_104 dX0_tell_71 ?_
    refine a_iconst F dX0_tell_74 ?_
    refine a_lald F tC_60 rfl (by decide) hf dX0_tell_75 (fun hf => ?_)
    refine a_lmul F dX0_tell_76 ?_
    refine a_iload_n F dX0_tell_77 rfl 2 rfl ?_
    refine a_callNLr F lk_RX0_94 c_X10_tellPoint rfl rfl ⟨rfl, rfl⟩ ⟨Nat.le_of_ble_eq_true rfl, Nat.le_of_ble_eq_true rfl⟩ rfl (Nat.le_of_ble_eq_true rfl) dX0_tell_78 hf (fun r_2 hf => ?_)
    cases hf
    exact hr _ _ dX0_tell_81
  · refine a_aload_n F dX0_tell_31 rfl 1 rfl ?_
    refine a_getJ F (j := 5) tC_41 rfl rfl (by decide) inW0 w_112 dX0_tell_32 ?_
    refine a_aload_n F dX0_tell_35 rfl 1 rfl ?_
    refine a_getJ F (j := 6) tC_41 rfl rfl (by decide) inW0 w_113 dX0_tell_36 ?_
    refine a_iload_n F dX0_tell_39 rfl 2 rfl ?_
    refine a_callNLr F lk_RX0_78 c_X10_tellSquare rfl rfl ⟨rfl, rfl⟩ ⟨Nat.le_of_ble_eq_true rfl, Nat.le_of_ble_eq_true rfl⟩ rfl (Nat.le_of_ble_eq_true rfl) dX0_tell_40 hf (fun r_3 hf => ?_)
    refine a_goto F (tgt := 81) dX0_tell_43 (by decide) ?_
    cases hf
    exact hr _ _ dX0_tell_81
set_option maxRecDepth 100000 in
set_option maxHeartbeats 4000000 in
theorem k_X0_tell_b0 {l : Launch} {ad : Nat → Nat} {X : Cx} (F : Ok vwCl WS NWs TC cX0_tell 3 yX0_tell.cls (some .long) ad l X) {σ : St} {x1 : Int} {y : Int} (hf : f_X0_tell_b0 σ x1 = some y) (hr : RetL vwCl TC cX0_tell 3 rm_X0_tell ad X y σ) : At vwCl TC 3 rm_X0_tell ad X σ [(0, .ref (ad 41)), (1, iv x1)] [] 0 := by
  unfold f_X0_tell_b0 at hf
  refine a_aload_n F dX0_tell_0 rfl 0 rfl ?_
  refine a_getI F (j := 3) tC_41 rfl rfl (by decide) inW0 w_111 dX0_tell_1 ?_
  refine a_if_ne F hf (tgt := 11) dX0_tell_4 (by decide) (fun hf => ?_) (fun hf => ?_)
  · refine a_ldc2 F (n := (-1)) (by decide +kernel) w_162 dX0_tell_7 ?_
    cases hf
    exact hr _ _ dX0_tell_10
  · refine a_iload_n F dX0_tell_11 rfl 1 rfl ?_
    refine a_iconst F dX0_tell_12 ?_
    refine a_icmp_eq F hf (tgt := 21) dX0_tell_13 (by decide) (fun hf => ?_) (fun hf => ?_)
    · refine a_iconst F dX0_tell_21 ?_
      refine a_goto F (tgt := 26) dX0_tell_22 (by decide) ?_
      exact a_sub [0, 1] rfl (k_X0_tell_b26 F hf hr)
    · refine a_iload_n F dX0_tell_16 rfl 1 rfl ?_
      refine a_iconst F dX0_tell_17 ?_
      refine a_icmp_ne F hf (tgt := 25) dX0_tell_18 (by decide) (fun hf => ?_) (fun hf => ?_)
      · refine a_iconst F dX0_tell_21 ?_
        refine a_goto F (tgt := 26) dX0_tell_22 (by decide) ?_
        exact a_sub [0, 1] rfl (k_X0_tell_b26 F hf hr)
      · refine a_iconst F dX0_tell_25 ?_
        exact a_sub [0, 1] rfl (k_X0_tell_b26 F hf hr)
set_option maxRecDepth 100000 in
set_option maxHeartbeats 4000000 in
theorem c_X0_tell {l : Launch}  {σ : St} {x1 : Int} : CtrL vwCl WS NWs TC l yX0_tell cX0_tell 3 (some .long) rm_X0_tell (fun ad => [.ref (ad 41), iv x1]) σ (rd (f_X0_tell σ x1) σ) := by
  refine ctrL_of (by decide +kernel) (fun ad => Nat.le_of_ble_eq_true rfl) (fun v σ' ad X hf F K => ?_)
  obtain ⟨hf2, e2⟩ := rd_elim hf
  subst e2
  exact k_X0_tell_b0 F hf2 K
abbrev rm_X1_drawOnce : Room := { frames := 5, cells := 0, slots := 0, locals := 127 }
set_option maxRecDepth 100000 in
set_option maxHeartbeats 4000000 in
theorem k_X1_drawOnce_b22 {l : Launch} {ad : Nat → Nat} {X : Cx} (F : Ok vwCl WS NWs TC cX1_drawOnce 2 yX1_drawOnce.cls none ad l X) {g : Nat} (hg : isG g) {σ : St} {x1 : Int} {y : St} (hf : f_X1_drawOnce_b22 σ g x1 = some y) (hr : RetV vwCl TC cX1_drawOnce 2 rm_X1_drawOnce ad X y) : At vwCl TC 2 rm_X1_drawOnce ad X σ [(0, .ref (ad g)), (1, iv x1)] [] 22 := by
  unfold f_X1_drawOnce_b22 at hf
  refine a_aload_n F dX1_drawOnce_22 rfl 0 rfl ?_
  refine a_iload_n F dX1_drawOnce_23 rfl 1 rfl ?_
  refine a_iconst F dX1_drawOnce_24 ?_
  refine a_callVV F lk_RX1_52 (tG hg) rfl (c_X1_draw hg) rfl rfl ⟨rfl, rfl⟩ ⟨Nat.le_of_ble_eq_true rfl, Nat.le_of_ble_eq_true rfl⟩ rfl (Nat.le_of_ble_eq_true rfl) dX1_drawOnce_25 hf (fun σ_1 hf => ?_)
  refine a_aload_n F dX1_drawOnce_28 rfl 0 rfl ?_
  refine a_iload_n F dX1_drawOnce_29 rfl 1 rfl ?_
  refine a_putI F (j := 8) (tG hg) rfl rfl (by decide) inW1 w_163 tyX1 tyX1_ok nmX1 rfl rfl hf dX1_drawOnce_30 (fun σ_2 hf => ?_)
  refine a_aload_n F dX1_drawOnce_33 rfl 0 rfl ?_
  refine a_aload_n F dX1_drawOnce_34 rfl 0 rfl ?_
  refine a_getR F (j := 0) (tG hg) rfl rfl (by decide) inW1 w_17 dX1_drawOnce_35 ?_
  refine a_getI F (j := 6) tC_1 rfl rfl (by decide) inW9 w_165 dX1_drawOnce_38 ?_
  refine a_putI F (j := 9) (tG hg) rfl rfl (by decide) inW1 w_166 tyX1 tyX1_ok nmX1 rfl rfl hf dX1_drawOnce_41 (fun σ_3 hf => ?_)
  cases hf
  exact hr _ _ dX1_drawOnce_44
set_option maxRecDepth 100000 in
set_option maxHeartbeats 4000000 in
theorem k_X1_drawOnce_b0 {l : Launch} {ad : Nat → Nat} {X : Cx} (F : Ok vwCl WS NWs TC cX1_drawOnce 2 yX1_drawOnce.cls none ad l X) {g : Nat} (hg : isG g) {σ : St} {x1 : Int} {y : St} (hf : f_X1_drawOnce_b0 σ g x1 = some y) (hr : RetV vwCl TC cX1_drawOnce 2 rm_X1_drawOnce ad X y) : At vwCl TC 2 rm_X1_drawOnce ad X σ [(0, .ref (ad g)), (1, iv x1)] [] 0 := by
  unfold f_X1_drawOnce_b0 at hf
  refine a_aload_n F dX1_drawOnce_0 rfl 0 rfl ?_
  refine a_getI F (j := 8) (tG hg) rfl rfl (by decide) inW1 w_163 dX1_drawOnce_1 ?_
  refine a_iload_n F dX1_drawOnce_4 rfl 1 rfl ?_
  refine a_icmp_ne F hf (tgt := 22) dX1_drawOnce_5 (by decide) (fun hf => ?_) (fun hf => ?_)
  · refine a_aload_n F dX1_drawOnce_8 rfl 0 rfl ?_
    refine a_getI F (j := 9) (tG hg) rfl rfl (by decide) inW1 w_166 dX1_drawOnce_9 ?_
    refine a_aload_n F dX1_drawOnce_12 rfl 0 rfl ?_
    refine a_getR F (j := 0) (tG hg) rfl rfl (by decide) inW1 w_17 dX1_drawOnce_13 ?_
    refine a_getI F (j := 6) tC_1 rfl rfl (by decide) inW9 w_165 dX1_drawOnce_16 ?_
    refine a_icmp_eq F hf (tgt := 44) dX1_drawOnce_19 (by decide) (fun hf => ?_) (fun hf => ?_)
    · cases hf
      exact hr _ _ dX1_drawOnce_44
    · exact a_sub [0, 1] rfl (k_X1_drawOnce_b22 F hg hf hr)
  · exact a_sub [0, 1] rfl (k_X1_drawOnce_b22 F hg hf hr)
set_option maxRecDepth 100000 in
set_option maxHeartbeats 4000000 in
theorem c_X1_drawOnce {l : Launch}  {g : Nat} (hg : isG g) {σ : St} {x1 : Int} : CtrV vwCl WS NWs TC l yX1_drawOnce cX1_drawOnce 2 none rm_X1_drawOnce (fun ad => [.ref (ad g), iv x1]) σ (f_X1_drawOnce σ g x1) := by
  refine ctrV_of (by decide +kernel) (fun ad => Nat.le_of_ble_eq_true rfl) (fun σ' ad X hf F K => ?_)
  exact k_X1_drawOnce_b0 F hg hf K
abbrev rm_X1_sharedWith : Room := { frames := 2, cells := 0, slots := 0, locals := 42 }
set_option maxRecDepth 100000 in
set_option maxHeartbeats 4000000 in
theorem k_X1_sharedWith_b17 {l : Launch} {ad : Nat → Nat} {X : Cx} (F : Ok vwCl WS NWs TC cX1_sharedWith 4 yX1_sharedWith.cls (some .int) ad l X) {g : Nat} (hg : isG g) {σ : St} {x1 x2 x3 : Int} {y : ((Int × Int) ⊕ Int)} (hf : f_X1_sharedWith_b17 σ g x1 x2 x3 = some y) (hn : ∀ z2 z3, y = .inl (z2, z3) → At vwCl TC 4 rm_X1_sharedWith ad X σ [(0, .ref (ad g)), (1, iv x1), (2, iv z2), (3, iv z3)] [] 17) (hx0 : ∀ z2, y = .inr (z2) → At vwCl TC 4 rm_X1_sharedWith ad X σ [(2, iv z2)] [] 50) : At vwCl TC 4 rm_X1_sharedWith ad X σ [(0, .ref (ad g)), (1, iv x1), (2, iv x2), (3, iv x3)] [] 17 := by
  unfold f_X1_sharedWith_b17 at hf
  refine a_iload_n F dX1_sharedWith_17 rfl 3 rfl ?_
  refine a_aload_n F dX1_sharedWith_18 rfl 0 rfl ?_
  refine a_getV F (j := 4) (tG hg) rfl rfl (by decide) inW1 w_25 dX1_sharedWith_19 ?_
  refine a_topR hf (fun o_4 hf => ?_)
  obtain ⟨ho_4, hf⟩ := jchk_elim hf
  refine a_getI F (j := 0) (tO ho_4) rfl rfl (by decide) inW4 w_45 dX1_sharedWith_22 ?_
  refine a_icmp_ge F hf (tgt := 50) dX1_sharedWith_25 (by decide) (fun hf => ?_) (fun hf => ?_)
  · refine a_aload_n F dX1_sharedWith_28 rfl 0 rfl ?_
    refine a_iconst F dX1_sharedWith_29 ?_
    refine a_iload_n F dX1_sharedWith_30 rfl 1 rfl ?_
    refine a_iadd F dX1_sharedWith_31 ?_
    refine a_iload_n F dX1_sharedWith_32 rfl 3 rfl ?_
    refine a_callVLr F lk_RX1_85 (tG hg) rfl (c_X1_innerSide hg) rfl rfl ⟨rfl, rfl⟩ ⟨Nat.le_of_ble_eq_true rfl, Nat.le_of_ble_eq_true rfl⟩ rfl (Nat.le_of_ble_eq_true rfl) dX1_sharedWith_33 hf (fun r_5 hf => ?_)
    refine a_lconst F (n := 0) dX1_sharedWith_36 (by decide +kernel) ?_
    refine a_lcmp_ne F hf (tgt := 44) dX1_sharedWith_37 dX1_sharedWith_38 (by decide) (fun hf => ?_) (fun hf => ?_)
    · refine a_iinc F hf dX1_sharedWith_41 2 rfl (by decide) (fun x2_7 hf => ⟨[(2, iv x2_7), (0, .ref (ad g)), (1, iv x1), (3, iv x3)], rfl, ?_⟩)
      refine a_iinc F hf dX1_sharedWith_44 3 rfl (by decide) (fun x3_8 hf => ⟨[(3, iv x3_8), (2, iv x2_7), (0, .ref (ad g)), (1, iv x1)], rfl, ?_⟩)
      refine a_goto F (tgt := 17) dX1_sharedWith_47 (by decide) ?_
      cases hf
      exact a_sub [2, 3, 1, 0] rfl (hn _ _ rfl)
    · refine a_iinc F hf dX1_sharedWith_44 3 rfl (by decide) (fun x3_6 hf => ⟨[(3, iv x3_6), (0, .ref (ad g)), (1, iv x1), (2, iv x2)], rfl, ?_⟩)
      refine a_goto F (tgt := 17) dX1_sharedWith_47 (by decide) ?_
      cases hf
      exact a_sub [1, 2, 3, 0] rfl (hn _ _ rfl)
  · cases hf
    exact a_sub [2] rfl (hx0 _ rfl)
set_option maxRecDepth 100000 in
set_option maxHeartbeats 4000000 in
theorem k_X1_sharedWith_b0 {l : Launch} {ad : Nat → Nat} {X : Cx} (F : Ok vwCl WS NWs TC cX1_sharedWith 4 yX1_sharedWith.cls (some .int) ad l X) {g : Nat} (hg : isG g) {σ : St} {x1 : Int} {y : Int} (hf : f_X1_sharedWith_b0 σ g x1 = some y) (hr : RetI vwCl TC cX1_sharedWith 4 rm_X1_sharedWith ad X y σ) : At vwCl TC 4 rm_X1_sharedWith ad X σ [(0, .ref (ad g)), (1, iv x1)] [] 0 := by
  unfold f_X1_sharedWith_b0 at hf
  refine a_aload_n F dX1_sharedWith_0 rfl 0 rfl ?_
  refine a_getR F (j := 0) (tG hg) rfl rfl (by decide) inW1 w_17 dX1_sharedWith_1 ?_
  refine a_iload_n F dX1_sharedWith_4 rfl 1 rfl ?_
  refine a_callVIr F lk_RX1_62 tC_1 rfl c_X9_isCounted rfl rfl ⟨rfl, rfl⟩ ⟨Nat.le_of_ble_eq_true rfl, Nat.le_of_ble_eq_true rfl⟩ rfl (Nat.le_of_ble_eq_true rfl) dX1_sharedWith_5 hf (fun r_1 hf => ?_)
  refine a_if_ne F hf (tgt := 13) dX1_sharedWith_8 (by decide) (fun hf => ?_) (fun hf => ?_)
  · refine a_iconst F dX1_sharedWith_11 ?_
    cases hf
    exact hr _ _ dX1_sharedWith_12
  · refine a_iconst F dX1_sharedWith_13 ?_
    refine a_topI hf (fun x2_2 hf => ?_)
    refine a_istore_n F (lv' := [(2, iv x2_2), (0, .ref (ad g)), (1, iv x1)]) dX1_sharedWith_14 rfl (by decide) rfl ?_
    refine a_iconst F dX1_sharedWith_15 ?_
    refine a_topI hf (fun x3_3 hf => ?_)
    refine a_istore_n F (lv' := [(3, iv x3_3), (2, iv x2_2), (0, .ref (ad g)), (1, iv x1)]) dX1_sharedWith_16 rfl (by decide) rfl ?_
    obtain ⟨q0, he, hf⟩ := jbind_elim hf
    refine a_sub [2, 3, 1, 0] rfl (loop_rule (P := (fun q => ∀ z2 z3, (z2, z3) = q → At vwCl TC 4 rm_X1_sharedWith ad X σ [(0, .ref (ad g)), (1, iv x1), (2, iv z2), (3, iv z3)] [] 17)) (K := (fun q => (∀ z2, z2 = q → At vwCl TC 4 rm_X1_sharedWith ad X σ [(2, iv z2)] [] 50))) ?_ 1000 _ _ he ?_ _ _ rfl)
    · intro q y hy hn hx z2 z3 e
      subst e
      exact k_X1_sharedWith_b17 F hg hy (fun z2 z3 e => hn _ e _ _ rfl) (fun z2 e => (hx _ e) _ rfl)
    · intro x2_9 e
      subst e
      refine a_iload_n F dX1_sharedWith_50 rfl 0 rfl ?_
      cases hf
      exact hr _ _ dX1_sharedWith_51
set_option maxRecDepth 100000 in
set_option maxHeartbeats 4000000 in
theorem c_X1_sharedWith {l : Launch}  {g : Nat} (hg : isG g) {σ : St} {x1 : Int} : CtrI vwCl WS NWs TC l yX1_sharedWith cX1_sharedWith 4 (some .int) rm_X1_sharedWith (fun ad => [.ref (ad g), iv x1]) σ (rd (f_X1_sharedWith σ g x1) σ) := by
  refine ctrI_of (by decide +kernel) (fun ad => Nat.le_of_ble_eq_true rfl) (fun v σ' ad X hf F K => ?_)
  obtain ⟨hf2, e2⟩ := rd_elim hf
  subst e2
  exact k_X1_sharedWith_b0 F hg hf2 K
abbrev rm_X10_about : Room := { frames := 6, cells := 0, slots := 0, locals := 148 }
set_option maxRecDepth 100000 in
set_option maxHeartbeats 4000000 in
theorem k_X10_about_b25 {l : Launch} {ad : Nat → Nat} {X : Cx} (F : Ok vwCl WS NWs TC cX10_about 4 yX10_about.cls (some .int) ad l X) {σ : St} {x1 x2 x3 : Int} {y : ((Int × Int) ⊕ Int)} (hf : f_X10_about_b25 σ x1 x2 x3 = some y) (hn : ∀ z2 z3, y = .inl (z2, z3) → At vwCl TC 4 rm_X10_about ad X σ [(0, .ref (ad 0)), (1, iv x1), (2, iv z2), (3, iv z3)] [] 25) (hx0 : ∀ z2, y = .inr (z2) → At vwCl TC 4 rm_X10_about ad X σ [(2, iv z2)] [] 60) : At vwCl TC 4 rm_X10_about ad X σ [(0, .ref (ad 0)), (1, iv x1), (2, iv x2), (3, iv x3)] [] 25 := by
  unfold f_X10_about_b25 at hf
  refine a_iload_n F dX10_about_25 rfl 3 rfl ?_
  refine a_bipush F dX10_about_26 (by decide +kernel) ?_
  refine a_icmp_ge F hf (tgt := 60) dX10_about_28 (by decide) (fun hf => ?_) (fun hf => ?_)
  · refine a_iload_n F dX10_about_31 rfl 3 rfl ?_
    refine a_iload_n F dX10_about_32 rfl 1 rfl ?_
    refine a_icmp_eq F hf (tgt := 54) dX10_about_33 (by decide) (fun hf => ?_) (fun hf => ?_)
    · refine a_iinc F hf dX10_about_54 3 rfl (by decide) (fun x3_5 hf => ⟨[(3, iv x3_5), (0, .ref (ad 0)), (1, iv x1), (2, iv x2)], rfl, ?_⟩)
      refine a_goto F (tgt := 25) dX10_about_57 (by decide) ?_
      cases hf
      exact a_sub [1, 2, 3, 0] rfl (hn _ _ rfl)
    · refine a_aload_n F dX10_about_36 rfl 0 rfl ?_
      refine a_getR F (j := 3) tC_0 rfl rfl (by decide) inW10 w_169 dX10_about_37 ?_
      refine a_iload_n F dX10_about_40 rfl 3 rfl ?_
      refine a_callVIr F lk_RX10_176 tC_20 rfl (c_X1_sharedWith (by decide)) rfl rfl ⟨rfl, rfl⟩ ⟨Nat.le_of_ble_eq_true rfl, Nat.le_of_ble_eq_true rfl⟩ rfl (Nat.le_of_ble_eq_true rfl) dX10_about_41 hf (fun r_6 hf => ?_)
      refine a_iconst F dX10_about_44 ?_
      refine a_icmp_le F hf (tgt := 54) dX10_about_45 (by decide) (fun hf => ?_) (fun hf => ?_)
      · refine a_iload_n F dX10_about_48 rfl 2 rfl ?_
        refine a_iconst F dX10_about_49 ?_
        refine a_iload_n F dX10_about_50 rfl 3 rfl ?_
        refine a_ishl F dX10_about_51 ?_
        refine a_ior F dX10_about_52 ?_
        refine a_topI hf (fun x2_8 hf => ?_)
        refine a_istore_n F (lv' := [(2, iv x2_8), (0, .ref (ad 0)), (1, iv x1), (3, iv x3)]) dX10_about_53 rfl (by decide) rfl ?_
        refine a_iinc F hf dX10_about_54 3 rfl (by decide) (fun x3_9 hf => ⟨[(3, iv x3_9), (2, iv x2_8), (0, .ref (ad 0)), (1, iv x1)], rfl, ?_⟩)
        refine a_goto F (tgt := 25) dX10_about_57 (by decide) ?_
        cases hf
        exact a_sub [2, 3, 1, 0] rfl (hn _ _ rfl)
      · refine a_iinc F hf dX10_about_54 3 rfl (by decide) (fun x3_7 hf => ⟨[(3, iv x3_7), (0, .ref (ad 0)), (1, iv x1), (2, iv x2)], rfl, ?_⟩)
        refine a_goto F (tgt := 25) dX10_about_57 (by decide) ?_
        cases hf
        exact a_sub [1, 2, 3, 0] rfl (hn _ _ rfl)
  · cases hf
    exact a_sub [2] rfl (hx0 _ rfl)
set_option maxRecDepth 100000 in
set_option maxHeartbeats 4000000 in
theorem k_X10_about_b0 {l : Launch} {ad : Nat → Nat} {X : Cx} (F : Ok vwCl WS NWs TC cX10_about 4 yX10_about.cls (some .int) ad l X) {σ : St} {x1 : Int} {y : (Int × St)} (hf : f_X10_about_b0 σ x1 = some y) (hr : ∀ v τ, y = (v, τ) → RetI vwCl TC cX10_about 4 rm_X10_about ad X v τ) : At vwCl TC 4 rm_X10_about ad X σ [(0, .ref (ad 0)), (1, iv x1)] [] 0 := by
  unfold f_X10_about_b0 at hf
  refine a_aload_n F dX10_about_0 rfl 0 rfl ?_
  refine a_getR F (j := 0) tC_0 rfl rfl (by decide) inW10 w_167 dX10_about_1 ?_
  refine a_iload_n F dX10_about_4 rfl 1 rfl ?_
  refine a_callVIr F lk_RX10_112 tC_1 rfl c_X9_has rfl rfl ⟨rfl, rfl⟩ ⟨Nat.le_of_ble_eq_true rfl, Nat.le_of_ble_eq_true rfl⟩ rfl (Nat.le_of_ble_eq_true rfl) dX10_about_5 hf (fun r_1 hf => ?_)
  refine a_if_ne F hf (tgt := 13) dX10_about_8 (by decide) (fun hf => ?_) (fun hf => ?_)
  · refine a_iconst F dX10_about_11 ?_
    cases hf
    exact hr _ _ rfl _ _ dX10_about_12
  · refine a_aload_n F dX10_about_13 rfl 0 rfl ?_
    refine a_getR F (j := 3) tC_0 rfl rfl (by decide) inW10 w_169 dX10_about_14 ?_
    refine a_iload_n F dX10_about_17 rfl 1 rfl ?_
    refine a_callVV F lk_RX10_157 tC_20 rfl (c_X1_drawOnce (by decide)) rfl rfl ⟨rfl, rfl⟩ ⟨Nat.le_of_ble_eq_true rfl, Nat.le_of_ble_eq_true rfl⟩ rfl (Nat.le_of_ble_eq_true rfl) dX10_about_18 hf (fun σ_2 hf => ?_)
    refine a_iconst F dX10_about_21 ?_
    refine a_topI hf (fun x2_3 hf => ?_)
    refine a_istore_n F (lv' := [(2, iv x2_3), (0, .ref (ad 0)), (1, iv x1)]) dX10_about_22 rfl (by decide) rfl ?_
    refine a_iconst F dX10_about_23 ?_
    refine a_topI hf (fun x3_4 hf => ?_)
    refine a_istore_n F (lv' := [(3, iv x3_4), (2, iv x2_3), (0, .ref (ad 0)), (1, iv x1)]) dX10_about_24 rfl (by decide) rfl ?_
    obtain ⟨q0, he, hf⟩ := jbind_elim hf
    refine a_sub [2, 3, 1, 0] rfl (loop_rule (P := (fun q => ∀ z2 z3, (z2, z3) = q → At vwCl TC 4 rm_X10_about ad X σ_2 [(0, .ref (ad 0)), (1, iv x1), (2, iv z2), (3, iv z3)] [] 25)) (K := (fun q => (∀ z2, z2 = q → At vwCl TC 4 rm_X10_about ad X σ_2 [(2, iv z2)] [] 60))) ?_ 1000 _ _ he ?_ _ _ rfl)
    · intro q y hy hn hx z2 z3 e
      subst e
      exact k_X10_about_b25 F hy (fun z2 z3 e => hn _ e _ _ rfl) (fun z2 e => (hx _ e) _ rfl)
    · intro x2_10 e
      subst e
      refine a_iload_n F dX10_about_60 rfl 0 rfl ?_
      cases hf
      exact hr _ _ rfl _ _ dX10_about_61
set_option maxRecDepth 100000 in
set_option maxHeartbeats 4000000 in
theorem c_X10_about {l : Launch}  {σ : St} {x1 : Int} : CtrI vwCl WS NWs TC l yX10_about cX10_about 4 (some .int) rm_X10_about (fun ad => [.ref (ad 0), iv x1]) σ (f_X10_about σ x1) := by
  refine ctrI_of (by decide +kernel) (fun ad => Nat.le_of_ble_eq_true rfl) (fun v σ' ad X hf F K => ?_)
  exact k_X10_about_b0 F hf (fun v τ e => by cases e; exact K)
abbrev rm_X10_areTwo : Room := { frames := 1, cells := 0, slots := 0, locals := 21 }
set_option maxRecDepth 100000 in
set_option maxHeartbeats 4000000 in
theorem k_X10_areTwo_b0 {l : Launch} {ad : Nat → Nat} {X : Cx} (F : Ok vwCl WS NWs TC cX10_areTwo 3 yX10_areTwo.cls (some .boolean) ad l X) {σ : St} {x1 x2 : Int} {y : Int} (hf : f_X10_areTwo_b0 σ x1 x2 = some y) (hr : RetI vwCl TC cX10_areTwo 3 rm_X10_areTwo ad X y σ) : At vwCl TC 3 rm_X10_areTwo ad X σ [(0, .ref (ad 0)), (1, iv x1), (2, iv x2)] [] 0 := by
  unfold f_X10_areTwo_b0 at hf
  refine a_iload_n F dX10_areTwo_0 rfl 1 rfl ?_
  refine a_iload_n F dX10_areTwo_1 rfl 2 rfl ?_
  refine a_icmp_eq F hf (tgt := 31) dX10_areTwo_2 (by decide) (fun hf => ?_) (fun hf => ?_)
  · refine a_iconst F dX10_areTwo_31 ?_
    cases hf
    exact hr _ _ dX10_areTwo_32
  · refine a_aload_n F dX10_areTwo_5 rfl 0 rfl ?_
    refine a_getR F (j := 0) tC_0 rfl rfl (by decide) inW10 w_167 dX10_areTwo_6 ?_
    refine a_iload_n F dX10_areTwo_9 rfl 1 rfl ?_
    refine a_callVIr F lk_RX10_112 tC_1 rfl c_X9_has rfl rfl ⟨rfl, rfl⟩ ⟨Nat.le_of_ble_eq_true rfl, Nat.le_of_ble_eq_true rfl⟩ rfl (Nat.le_of_ble_eq_true rfl) dX10_areTwo_10 hf (fun r_1 hf => ?_)
    refine a_if_eq F hf (tgt := 31) dX10_areTwo_13 (by decide) (fun hf => ?_) (fun hf => ?_)
    · refine a_iconst F dX10_areTwo_31 ?_
      cases hf
      exact hr _ _ dX10_areTwo_32
    · refine a_aload_n F dX10_areTwo_16 rfl 0 rfl ?_
      refine a_getR F (j := 0) tC_0 rfl rfl (by decide) inW10 w_167 dX10_areTwo_17 ?_
      refine a_iload_n F dX10_areTwo_20 rfl 2 rfl ?_
      refine a_callVIr F lk_RX10_112 tC_1 rfl c_X9_has rfl rfl ⟨rfl, rfl⟩ ⟨Nat.le_of_ble_eq_true rfl, Nat.le_of_ble_eq_true rfl⟩ rfl (Nat.le_of_ble_eq_true rfl) dX10_areTwo_21 hf (fun r_2 hf => ?_)
      refine a_if_eq F hf (tgt := 31) dX10_areTwo_24 (by decide) (fun hf => ?_) (fun hf => ?_)
      · refine a_iconst F dX10_areTwo_31 ?_
        cases hf
        exact hr _ _ dX10_areTwo_32
      · refine a_iconst F dX10_areTwo_27 ?_
        refine a_goto F (tgt := 32) dX10_areTwo_28 (by decide) ?_
        cases hf
        exact hr _ _ dX10_areTwo_32
set_option maxRecDepth 100000 in
set_option maxHeartbeats 4000000 in
theorem c_X10_areTwo {l : Launch}  {σ : St} {x1 x2 : Int} : CtrI vwCl WS NWs TC l yX10_areTwo cX10_areTwo 3 (some .boolean) rm_X10_areTwo (fun ad => [.ref (ad 0), iv x1, iv x2]) σ (rd (f_X10_areTwo σ x1 x2) σ) := by
  refine ctrZ_of (fun v σ' h => jz_z (rd_elim h).1) (by decide +kernel) (fun ad => Nat.le_of_ble_eq_true rfl) (fun v σ' ad X hf F K => ?_)
  obtain ⟨hf2, e2⟩ := rd_elim hf
  subst e2
  exact k_X10_areTwo_b0 F (jz_e hf2) K
abbrev rm_X2_leastPlace : Room := { frames := 0, cells := 0, slots := 0, locals := 0 }
set_option maxRecDepth 100000 in
set_option maxHeartbeats 4000000 in
theorem k_X2_leastPlace_b4 {l : Launch} {ad : Nat → Nat} {X : Cx} (F : Ok vwCl WS NWs TC cX2_leastPlace 4 yX2_leastPlace.cls (some .int) ad l X) {σ : St} {x1 x2 : Int} {y : ((Int × Int) ⊕ Int)} (hf : f_X2_leastPlace_b4 σ x1 x2 = some y) (hn : ∀ z1 z2, y = .inl (z1, z2) → At vwCl TC 4 rm_X2_leastPlace ad X σ [(0, .ref (ad 65)), (1, iv z1), (2, iv z2)] [] 4) (hx0 : ∀ z1, y = .inr (z1) → At vwCl TC 4 rm_X2_leastPlace ad X σ [(1, iv z1)] [] 101) : At vwCl TC 4 rm_X2_leastPlace ad X σ [(0, .ref (ad 65)), (1, iv x1), (2, iv x2)] [] 4 := by
  unfold f_X2_leastPlace_b4 at hf
  refine a_iload_n F dX2_leastPlace_4 rfl 2 rfl ?_
  refine a_aload_n F dX2_leastPlace_5 rfl 0 rfl ?_
  refine a_getR F (j := 0) tC_65 rfl rfl (by decide) inW2 w_178 dX2_leastPlace_6 ?_
  refine a_getI F (j := 4) tC_1 rfl rfl (by decide) inW9 w_179 dX2_leastPlace_9 ?_
  refine a_icmp_ge F hf (tgt := 101) dX2_leastPlace_12 (by decide) (fun hf => ?_) (fun hf => ?_)
  · refine a_aload_n F dX2_leastPlace_15 rfl 0 rfl ?_
    refine a_getR F (j := 0) tC_65 rfl rfl (by decide) inW2 w_178 dX2_leastPlace_16 ?_
    refine a_getR F (j := 5) tC_1 rfl rfl (by decide) inW9 w_180 dX2_leastPlace_19 ?_
    refine a_iload_n F dX2_leastPlace_22 rfl 2 rfl ?_
    refine a_iald F tC_2 rfl (by decide) hf dX2_leastPlace_23 (fun hf => ?_)
    refine a_topI hf (fun x3_3 hf => ?_)
    refine a_istore_n F (lv' := [(3, iv x3_3), (0, .ref (ad 65)), (1, iv x1), (2, iv x2)]) dX2_leastPlace_24 rfl (by decide) rfl ?_
    refine a_iload_n F dX2_leastPlace_25 rfl 2 rfl ?_
    refine a_iconst F dX2_leastPlace_26 ?_
    refine a_icmp_eq F hf (tgt := 93) dX2_leastPlace_27 (by decide) (fun hf => ?_) (fun hf => ?_)
    · refine a_iload_n F dX2_leastPlace_93 rfl 0 rfl ?_
      refine a_topI hf (fun x1_4 hf => ?_)
      refine a_istore_n F (lv' := [(1, iv x1_4), (3, iv x3_3), (0, .ref (ad 65)), (2, iv x2)]) dX2_leastPlace_94 rfl (by decide) rfl ?_
      refine a_iinc F hf dX2_leastPlace_95 3 rfl (by decide) (fun x2_5 hf => ⟨[(2, iv x2_5), (1, iv x1_4), (3, iv x3_3), (0, .ref (ad 65))], rfl, ?_⟩)
      refine a_goto F (tgt := 4) dX2_leastPlace_98 (by decide) ?_
      cases hf
      exact a_sub [3, 1, 0] rfl (hn _ _ rfl)
    · refine a_aload_n F dX2_leastPlace_30 rfl 1 rfl ?_
      refine a_getR F (j := 0) tC_65 rfl rfl (by decide) inW2 w_178 dX2_leastPlace_31 ?_
      refine a_getR F (j := 7) tC_1 rfl rfl (by decide) inW9 w_181 dX2_leastPlace_34 ?_
      refine a_iload_n F dX2_leastPlace_37 rfl 0 rfl ?_
      refine a_iald F tC_3 rfl (by decide) hf dX2_leastPlace_38 (fun hf => ?_)
      refine a_aload_n F dX2_leastPlace_39 rfl 1 rfl ?_
      refine a_getR F (j := 0) tC_65 rfl rfl (by decide) inW2 w_178 dX2_leastPlace_40 ?_
      refine a_getR F (j := 7) tC_1 rfl rfl (by decide) inW9 w_181 dX2_leastPlace_43 ?_
      refine a_iload_n F dX2_leastPlace_46 rfl 2 rfl ?_
      refine a_iald F tC_3 rfl (by decide) hf dX2_leastPlace_47 (fun hf => ?_)
      refine a_icmp_lt F hf (tgt := 93) dX2_leastPlace_48 (by decide) (fun hf => ?_) (fun hf => ?_)
      · refine a_iload_n F dX2_leastPlace_93 rfl 0 rfl ?_
        refine a_topI hf (fun x1_6 hf => ?_)
        refine a_istore_n F (lv' := [(1, iv x1_6), (3, iv x3_3), (0, .ref (ad 65)), (2, iv x2)]) dX2_leastPlace_94 rfl (by decide) rfl ?_
        refine a_iinc F hf dX2_leastPlace_95 3 rfl (by decide) (fun x2_7 hf => ⟨[(2, iv x2_7), (1, iv x1_6), (3, iv x3_3), (0, .ref (ad 65))], rfl, ?_⟩)
        refine a_goto F (tgt := 4) dX2_leastPlace_98 (by decide) ?_
        cases hf
        exact a_sub [3, 1, 0] rfl (hn _ _ rfl)
      · refine a_aload_n F dX2_leastPlace_51 rfl 1 rfl ?_
        refine a_getR F (j := 0) tC_65 rfl rfl (by decide) inW2 w_178 dX2_leastPlace_52 ?_
        refine a_getR F (j := 7) tC_1 rfl rfl (by decide) inW9 w_181 dX2_leastPlace_55 ?_
        refine a_iload_n F dX2_leastPlace_58 rfl 0 rfl ?_
        refine a_iald F tC_3 rfl (by decide) hf dX2_leastPlace_59 (fun hf => ?_)
        refine a_aload_n F dX2_leastPlace_60 rfl 1 rfl ?_
        refine a_getR F (j := 0) tC_65 rfl rfl (by decide) inW2 w_178 dX2_leastPlace_61 ?_
        refine a_getR F (j := 7) tC_1 rfl rfl (by decide) inW9 w_181 dX2_leastPlace_64 ?_
        refine a_iload_n F dX2_leastPlace_67 rfl 2 rfl ?_
        refine a_iald F tC_3 rfl (by decide) hf dX2_leastPlace_68 (fun hf => ?_)
        refine a_icmp_ne F hf (tgt := 95) dX2_leastPlace_69 (by decide) (fun hf => ?_) (fun hf => ?_)
        · refine a_aload_n F dX2_leastPlace_72 rfl 1 rfl ?_
          refine a_getR F (j := 0) tC_65 rfl rfl (by decide) inW2 w_178 dX2_leastPlace_73 ?_
          refine a_getR F (j := 8) tC_1 rfl rfl (by decide) inW9 w_182 dX2_leastPlace_76 ?_
          refine a_iload_n F dX2_leastPlace_79 rfl 0 rfl ?_
          refine a_iald F tC_4 rfl (by decide) hf dX2_leastPlace_80 (fun hf => ?_)
          refine a_aload_n F dX2_leastPlace_81 rfl 1 rfl ?_
          refine a_getR F (j := 0) tC_65 rfl rfl (by decide) inW2 w_178 dX2_leastPlace_82 ?_
          refine a_getR F (j := 8) tC_1 rfl rfl (by decide) inW9 w_182 dX2_leastPlace_85 ?_
          refine a_iload_n F dX2_leastPlace_88 rfl 2 rfl ?_
          refine a_iald F tC_4 rfl (by decide) hf dX2_leastPlace_89 (fun hf => ?_)
          refine a_icmp_ge F hf (tgt := 95) dX2_leastPlace_90 (by decide) (fun hf => ?_) (fun hf => ?_)
          · refine a_iload_n F dX2_leastPlace_93 rfl 0 rfl ?_
            refine a_topI hf (fun x1_10 hf => ?_)
            refine a_istore_n F (lv' := [(1, iv x1_10), (3, iv x3_3), (0, .ref (ad 65)), (2, iv x2)]) dX2_leastPlace_94 rfl (by decide) rfl ?_
            refine a_iinc F hf dX2_leastPlace_95 3 rfl (by decide) (fun x2_11 hf => ⟨[(2, iv x2_11), (1, iv x1_10), (3, iv x3_3), (0, .ref (ad 65))], rfl, ?_⟩)
            refine a_goto F (tgt := 4) dX2_leastPlace_98 (by decide) ?_
            cases hf
            exact a_sub [3, 1, 0] rfl (hn _ _ rfl)
          · refine a_iinc F hf dX2_leastPlace_95 3 rfl (by decide) (fun x2_9 hf => ⟨[(2, iv x2_9), (3, iv x3_3), (0, .ref (ad 65)), (1, iv x1)], rfl, ?_⟩)
            refine a_goto F (tgt := 4) dX2_leastPlace_98 (by decide) ?_
            cases hf
            exact a_sub [2, 3, 0] rfl (hn _ _ rfl)
        · refine a_iinc F hf dX2_leastPlace_95 3 rfl (by decide) (fun x2_8 hf => ⟨[(2, iv x2_8), (3, iv x3_3), (0, .ref (ad 65)), (1, iv x1)], rfl, ?_⟩)
          refine a_goto F (tgt := 4) dX2_leastPlace_98 (by decide) ?_
          cases hf
          exact a_sub [2, 3, 0] rfl (hn _ _ rfl)
  · cases hf
    exact a_sub [1] rfl (hx0 _ rfl)
set_option maxRecDepth 100000 in
set_option maxHeartbeats 4000000 in
theorem k_X2_leastPlace_b0 {l : Launch} {ad : Nat → Nat} {X : Cx} (F : Ok vwCl WS NWs TC cX2_leastPlace 4 yX2_leastPlace.cls (some .int) ad l X) {σ : St} {y : Int} (hf : f_X2_leastPlace_b0 σ = some y) (hr : RetI vwCl TC cX2_leastPlace 4 rm_X2_leastPlace ad X y σ) : At vwCl TC 4 rm_X2_leastPlace ad X σ [(0, .ref (ad 65))] [] 0 := by
  unfold f_X2_leastPlace_b0 at hf
  refine a_iconst F dX2_leastPlace_0 ?_
  refine a_topI hf (fun x1_1 hf => ?_)
  refine a_istore_n F (lv' := [(1, iv x1_1), (0, .ref (ad 65))]) dX2_leastPlace_1 rfl (by decide) rfl ?_
  refine a_iconst F dX2_leastPlace_2 ?_
  refine a_topI hf (fun x2_2 hf => ?_)
  refine a_istore_n F (lv' := [(2, iv x2_2), (1, iv x1_1), (0, .ref (ad 65))]) dX2_leastPlace_3 rfl (by decide) rfl ?_
  obtain ⟨q0, he, hf⟩ := jbind_elim hf
  refine a_sub [2, 1, 0] rfl (loop_rule (P := (fun q => ∀ z1 z2, (z1, z2) = q → At vwCl TC 4 rm_X2_leastPlace ad X σ [(0, .ref (ad 65)), (1, iv z1), (2, iv z2)] [] 4)) (K := (fun q => (∀ z1, z1 = q → At vwCl TC 4 rm_X2_leastPlace ad X σ [(1, iv z1)] [] 101))) ?_ 1000 _ _ he ?_ _ _ rfl)
  · intro q y hy hn hx z1 z2 e
    subst e
    exact k_X2_leastPlace_b4 F hy (fun z1 z2 e => hn _ e _ _ rfl) (fun z1 e => (hx _ e) _ rfl)
  · intro x1_12 e
    subst e
    refine a_iload_n F dX2_leastPlace_101 rfl 0 rfl ?_
    cases hf
    exact hr _ _ dX2_leastPlace_102
set_option maxRecDepth 100000 in
set_option maxHeartbeats 4000000 in
theorem c_X2_leastPlace {l : Launch}  {σ : St} : CtrI vwCl WS NWs TC l yX2_leastPlace cX2_leastPlace 4 (some .int) rm_X2_leastPlace (fun ad => [.ref (ad 65)]) σ (rd (f_X2_leastPlace σ) σ) := by
  refine ctrI_of (by decide +kernel) (fun ad => Nat.le_of_ble_eq_true rfl) (fun v σ' ad X hf F K => ?_)
  obtain ⟨hf2, e2⟩ := rd_elim hf
  subst e2
  exact k_X2_leastPlace_b0 F hf2 K
abbrev rm_X9_turn : Room := { frames := 0, cells := 0, slots := 0, locals := 0 }
set_option maxRecDepth 100000 in
set_option maxHeartbeats 4000000 in
theorem k_X9_turn_b0 {l : Launch} {ad : Nat → Nat} {X : Cx} (F : Ok vwCl WS NWs TC cX9_turn 4 yX9_turn.cls (some .int) ad l X) {σ : St} {x1 x2 x3 : Int} {y : Int} (hf : f_X9_turn_b0 σ x1 x2 x3 = some y) (hr : RetI vwCl TC cX9_turn 4 rm_X9_turn ad X y σ) : At vwCl TC 4 rm_X9_turn ad X σ [(0, .ref (ad 1)), (1, iv x1), (2, iv x2), (3, iv x3)] [] 0 := by
  unfold f_X9_turn_b0 at hf
  refine a_aload_n F dX9_turn_0 rfl 0 rfl ?_
  refine a_getR F (j := 7) tC_1 rfl rfl (by decide) inW9 w_183 dX9_turn_1 ?_
  refine a_iload_n F dX9_turn_4 rfl 2 rfl ?_
  refine a_iald F tC_3 rfl (by decide) hf dX9_turn_5 (fun hf => ?_)
  refine a_aload_n F dX9_turn_6 rfl 0 rfl ?_
  refine a_getR F (j := 7) tC_1 rfl rfl (by decide) inW9 w_183 dX9_turn_7 ?_
  refine a_iload_n F dX9_turn_10 rfl 1 rfl ?_
  refine a_iald F tC_3 rfl (by decide) hf dX9_turn_11 (fun hf => ?_)
  refine a_isub F dX9_turn_12 ?_
  refine a_aload_n F dX9_turn_13 rfl 0 rfl ?_
  refine a_getR F (j := 8) tC_1 rfl rfl (by decide) inW9 w_184 dX9_turn_14 ?_
  refine a_iload_n F dX9_turn_17 rfl 3 rfl ?_
  refine a_iald F tC_4 rfl (by decide) hf dX9_turn_18 (fun hf => ?_)
  refine a_aload_n F dX9_turn_19 rfl 0 rfl ?_
  refine a_getR F (j := 8) tC_1 rfl rfl (by decide) inW9 w_184 dX9_turn_20 ?_
  refine a_iload_n F dX9_turn_23 rfl 1 rfl ?_
  refine a_iald F tC_4 rfl (by decide) hf dX9_turn_24 (fun hf => ?_)
  refine a_isub F dX9_turn_25 ?_
  refine a_imul F dX9_turn_26 ?_
  refine a_aload_n F dX9_turn_27 rfl 0 rfl ?_
  refine a_getR F (j := 8) tC_1 rfl rfl (by decide) inW9 w_184 dX9_turn_28 ?_
  refine a_iload_n F dX9_turn_31 rfl 2 rfl ?_
  refine a_iald F tC_4 rfl (by decide) hf dX9_turn_32 (fun hf => ?_)
  refine a_aload_n F dX9_turn_33 rfl 0 rfl ?_
  refine a_getR F (j := 8) tC_1 rfl rfl (by decide) inW9 w_184 dX9_turn_34 ?_
  refine a_iload_n F dX9_turn_37 rfl 1 rfl ?_
  refine a_iald F tC_4 rfl (by decide) hf dX9_turn_38 (fun hf => ?_)
  refine a_isub F dX9_turn_39 ?_
  refine a_aload_n F dX9_turn_40 rfl 0 rfl ?_
  refine a_getR F (j := 7) tC_1 rfl rfl (by decide) inW9 w_183 dX9_turn_41 ?_
  refine a_iload_n F dX9_turn_44 rfl 3 rfl ?_
  refine a_iald F tC_3 rfl (by decide) hf dX9_turn_45 (fun hf => ?_)
  refine a_aload_n F dX9_turn_46 rfl 0 rfl ?_
  refine a_getR F (j := 7) tC_1 rfl rfl (by decide) inW9 w_183 dX9_turn_47 ?_
  refine a_iload_n F dX9_turn_50 rfl 1 rfl ?_
  refine a_iald F tC_3 rfl (by decide) hf dX9_turn_51 (fun hf => ?_)
  refine a_isub F dX9_turn_52 ?_
  refine a_imul F dX9_turn_53 ?_
  refine a_isub F dX9_turn_54 ?_
  cases hf
  exact hr _ _ dX9_turn_55
set_option maxRecDepth 100000 in
set_option maxHeartbeats 4000000 in
theorem c_X9_turn {l : Launch}  {σ : St} {x1 x2 x3 : Int} : CtrI vwCl WS NWs TC l yX9_turn cX9_turn 4 (some .int) rm_X9_turn (fun ad => [.ref (ad 1), iv x1, iv x2, iv x3]) σ (rd (f_X9_turn σ x1 x2 x3) σ) := by
  refine ctrI_of (by decide +kernel) (fun ad => Nat.le_of_ble_eq_true rfl) (fun v σ' ad X hf F K => ?_)
  obtain ⟨hf2, e2⟩ := rd_elim hf
  subst e2
  exact k_X9_turn_b0 F hf2 K
abbrev rm_X9_square : Room := { frames := 0, cells := 0, slots := 0, locals := 0 }
set_option maxRecDepth 100000 in
set_option maxHeartbeats 4000000 in
theorem k_X9_square_b0 {l : Launch} {ad : Nat → Nat} {X : Cx} (F : Ok vwCl WS NWs TC cX9_square 5 yX9_square.cls (some .int) ad l X) {σ : St} {x1 x2 : Int} {y : Int} (hf : f_X9_square_b0 σ x1 x2 = some y) (hr : RetI vwCl TC cX9_square 5 rm_X9_square ad X y σ) : At vwCl TC 5 rm_X9_square ad X σ [(0, .ref (ad 1)), (1, iv x1), (2, iv x2)] [] 0 := by
  unfold f_X9_square_b0 at hf
  refine a_aload_n F dX9_square_0 rfl 0 rfl ?_
  refine a_getR F (j := 7) tC_1 rfl rfl (by decide) inW9 w_183 dX9_square_1 ?_
  refine a_iload_n F dX9_square_4 rfl 1 rfl ?_
  refine a_iald F tC_3 rfl (by decide) hf dX9_square_5 (fun hf => ?_)
  refine a_aload_n F dX9_square_6 rfl 0 rfl ?_
  refine a_getR F (j := 7) tC_1 rfl rfl (by decide) inW9 w_183 dX9_square_7 ?_
  refine a_iload_n F dX9_square_10 rfl 2 rfl ?_
  refine a_iald F tC_3 rfl (by decide) hf dX9_square_11 (fun hf => ?_)
  refine a_isub F dX9_square_12 ?_
  refine a_topI hf (fun x3_1 hf => ?_)
  refine a_istore_n F (lv' := [(3, iv x3_1), (0, .ref (ad 1)), (1, iv x1), (2, iv x2)]) dX9_square_13 rfl (by decide) rfl ?_
  refine a_aload_n F dX9_square_14 rfl 1 rfl ?_
  refine a_getR F (j := 8) tC_1 rfl rfl (by decide) inW9 w_184 dX9_square_15 ?_
  refine a_iload_n F dX9_square_18 rfl 2 rfl ?_
  refine a_iald F tC_4 rfl (by decide) hf dX9_square_19 (fun hf => ?_)
  refine a_aload_n F dX9_square_20 rfl 1 rfl ?_
  refine a_getR F (j := 8) tC_1 rfl rfl (by decide) inW9 w_184 dX9_square_21 ?_
  refine a_iload_n F dX9_square_24 rfl 3 rfl ?_
  refine a_iald F tC_4 rfl (by decide) hf dX9_square_25 (fun hf => ?_)
  refine a_isub F dX9_square_26 ?_
  refine a_topI hf (fun x4_2 hf => ?_)
  refine a_istore F (lv' := [(4, iv x4_2), (3, iv x3_1), (0, .ref (ad 1)), (1, iv x1), (2, iv x2)]) dX9_square_27 (by decide) rfl ?_
  refine a_iload_n F dX9_square_29 rfl 1 rfl ?_
  refine a_iload_n F dX9_square_30 rfl 1 rfl ?_
  refine a_imul F dX9_square_31 ?_
  refine a_iload F dX9_square_32 0 rfl ?_
  refine a_iload F dX9_square_34 0 rfl ?_
  refine a_imul F dX9_square_36 ?_
  refine a_iadd F dX9_square_37 ?_
  cases hf
  exact hr _ _ dX9_square_38
set_option maxRecDepth 100000 in
set_option maxHeartbeats 4000000 in
theorem c_X9_square {l : Launch}  {σ : St} {x1 x2 : Int} : CtrI vwCl WS NWs TC l yX9_square cX9_square 5 (some .int) rm_X9_square (fun ad => [.ref (ad 1), iv x1, iv x2]) σ (rd (f_X9_square σ x1 x2) σ) := by
  refine ctrI_of (by decide +kernel) (fun ad => Nat.le_of_ble_eq_true rfl) (fun v σ' ad X hf F K => ?_)
  obtain ⟨hf2, e2⟩ := rd_elim hf
  subst e2
  exact k_X9_square_b0 F hf2 K
abbrev rm_X2_isFartherRight : Room := { frames := 1, cells := 0, slots := 0, locals := 24 }
set_option maxRecDepth 100000 in
set_option maxHeartbeats 4000000 in
theorem k_X2_isFartherRight_b0 {l : Launch} {ad : Nat → Nat} {X : Cx} (F : Ok vwCl WS NWs TC cX2_isFartherRight 5 yX2_isFartherRight.cls (some .boolean) ad l X) {σ : St} {x1 x2 x3 : Int} {y : Int} (hf : f_X2_isFartherRight_b0 σ x1 x2 x3 = some y) (hr : RetI vwCl TC cX2_isFartherRight 5 rm_X2_isFartherRight ad X y σ) : At vwCl TC 5 rm_X2_isFartherRight ad X σ [(0, .ref (ad 65)), (1, iv x1), (2, iv x2), (3, iv x3)] [] 0 := by
  unfold f_X2_isFartherRight_b0 at hf
  refine a_aload_n F dX2_isFartherRight_0 rfl 0 rfl ?_
  refine a_getR F (j := 0) tC_65 rfl rfl (by decide) inW2 w_178 dX2_isFartherRight_1 ?_
  refine a_iload_n F dX2_isFartherRight_4 rfl 1 rfl ?_
  refine a_iload_n F dX2_isFartherRight_5 rfl 2 rfl ?_
  refine a_iload_n F dX2_isFartherRight_6 rfl 3 rfl ?_
  refine a_callVIr F lk_RX2_53 tC_1 rfl c_X9_turn rfl rfl ⟨rfl, rfl⟩ ⟨Nat.le_of_ble_eq_true rfl, Nat.le_of_ble_eq_true rfl⟩ rfl (Nat.le_of_ble_eq_true rfl) dX2_isFartherRight_7 hf (fun r_1 hf => ?_)
  refine a_topI hf (fun x4_2 hf => ?_)
  refine a_istore F (lv' := [(4, iv x4_2), (0, .ref (ad 65)), (1, iv x1), (2, iv x2), (3, iv x3)]) dX2_isFartherRight_10 (by decide) rfl ?_
  refine a_iload F dX2_isFartherRight_12 0 rfl ?_
  refine a_if_lt F hf (tgt := 43) dX2_isFartherRight_14 (by decide) (fun hf => ?_) (fun hf => ?_)
  · refine a_iconst F dX2_isFartherRight_43 ?_
    refine a_goto F (tgt := 48) dX2_isFartherRight_44 (by decide) ?_
    cases hf
    exact hr _ _ dX2_isFartherRight_48
  · refine a_iload F dX2_isFartherRight_17 0 rfl ?_
    refine a_if_ne F hf (tgt := 47) dX2_isFartherRight_19 (by decide) (fun hf => ?_) (fun hf => ?_)
    · refine a_aload_n F dX2_isFartherRight_22 rfl 1 rfl ?_
      refine a_getR F (j := 0) tC_65 rfl rfl (by decide) inW2 w_178 dX2_isFartherRight_23 ?_
      refine a_iload_n F dX2_isFartherRight_26 rfl 2 rfl ?_
      refine a_iload_n F dX2_isFartherRight_27 rfl 4 rfl ?_
      refine a_callVIr F lk_RX2_57 tC_1 rfl c_X9_square rfl rfl ⟨rfl, rfl⟩ ⟨Nat.le_of_ble_eq_true rfl, Nat.le_of_ble_eq_true rfl⟩ rfl (Nat.le_of_ble_eq_true rfl) dX2_isFartherRight_28 hf (fun r_3 hf => ?_)
      refine a_aload_n F dX2_isFartherRight_31 rfl 1 rfl ?_
      refine a_getR F (j := 0) tC_65 rfl rfl (by decide) inW2 w_178 dX2_isFartherRight_32 ?_
      refine a_iload_n F dX2_isFartherRight_35 rfl 2 rfl ?_
      refine a_iload_n F dX2_isFartherRight_36 rfl 3 rfl ?_
      refine a_callVIr F lk_RX2_57 tC_1 rfl c_X9_square rfl rfl ⟨rfl, rfl⟩ ⟨Nat.le_of_ble_eq_true rfl, Nat.le_of_ble_eq_true rfl⟩ rfl (Nat.le_of_ble_eq_true rfl) dX2_isFartherRight_37 hf (fun r_4 hf => ?_)
      refine a_icmp_le F hf (tgt := 47) dX2_isFartherRight_40 (by decide) (fun hf => ?_) (fun hf => ?_)
      · refine a_iconst F dX2_isFartherRight_43 ?_
        refine a_goto F (tgt := 48) dX2_isFartherRight_44 (by decide) ?_
        cases hf
        exact hr _ _ dX2_isFartherRight_48
      · refine a_iconst F dX2_isFartherRight_47 ?_
        cases hf
        exact hr _ _ dX2_isFartherRight_48
    · refine a_iconst F dX2_isFartherRight_47 ?_
      cases hf
      exact hr _ _ dX2_isFartherRight_48
set_option maxRecDepth 100000 in
set_option maxHeartbeats 4000000 in
theorem c_X2_isFartherRight {l : Launch}  {σ : St} {x1 x2 x3 : Int} : CtrI vwCl WS NWs TC l yX2_isFartherRight cX2_isFartherRight 5 (some .boolean) rm_X2_isFartherRight (fun ad => [.ref (ad 65), iv x1, iv x2, iv x3]) σ (rd (f_X2_isFartherRight σ x1 x2 x3) σ) := by
  refine ctrZ_of (fun v σ' h => jz_z (rd_elim h).1) (by decide +kernel) (fun ad => Nat.le_of_ble_eq_true rfl) (fun v σ' ad X hf F K => ?_)
  obtain ⟨hf2, e2⟩ := rd_elim hf
  subst e2
  exact k_X2_isFartherRight_b0 F (jz_e hf2) K
abbrev rm_X2_rightmostFrom : Room := { frames := 2, cells := 0, slots := 0, locals := 48 }
set_option maxRecDepth 100000 in
set_option maxHeartbeats 4000000 in
theorem k_X2_rightmostFrom_b4 {l : Launch} {ad : Nat → Nat} {X : Cx} (F : Ok vwCl WS NWs TC cX2_rightmostFrom 5 yX2_rightmostFrom.cls (some .int) ad l X) {σ : St} {x1 x2 x3 : Int} {y : ((Int × Int) ⊕ Int)} (hf : f_X2_rightmostFrom_b4 σ x1 x2 x3 = some y) (hn : ∀ z2 z3, y = .inl (z2, z3) → At vwCl TC 5 rm_X2_rightmostFrom ad X σ [(0, .ref (ad 65)), (1, iv x1), (2, iv z2), (3, iv z3)] [] 4) (hx0 : ∀ z2, y = .inr (z2) → At vwCl TC 5 rm_X2_rightmostFrom ad X σ [(2, iv z2)] [] 57) : At vwCl TC 5 rm_X2_rightmostFrom ad X σ [(0, .ref (ad 65)), (1, iv x1), (2, iv x2), (3, iv x3)] [] 4 := by
  unfold f_X2_rightmostFrom_b4 at hf
  refine a_iload_n F dX2_rightmostFrom_4 rfl 3 rfl ?_
  refine a_aload_n F dX2_rightmostFrom_5 rfl 0 rfl ?_
  refine a_getR F (j := 0) tC_65 rfl rfl (by decide) inW2 w_178 dX2_rightmostFrom_6 ?_
  refine a_getI F (j := 4) tC_1 rfl rfl (by decide) inW9 w_179 dX2_rightmostFrom_9 ?_
  refine a_icmp_ge F hf (tgt := 57) dX2_rightmostFrom_12 (by decide) (fun hf => ?_) (fun hf => ?_)
  · refine a_aload_n F dX2_rightmostFrom_15 rfl 0 rfl ?_
    refine a_getR F (j := 0) tC_65 rfl rfl (by decide) inW2 w_178 dX2_rightmostFrom_16 ?_
    refine a_getR F (j := 5) tC_1 rfl rfl (by decide) inW9 w_180 dX2_rightmostFrom_19 ?_
    refine a_iload_n F dX2_rightmostFrom_22 rfl 3 rfl ?_
    refine a_iald F tC_2 rfl (by decide) hf dX2_rightmostFrom_23 (fun hf => ?_)
    refine a_topI hf (fun x4_3 hf => ?_)
    refine a_istore F (lv' := [(4, iv x4_3), (0, .ref (ad 65)), (1, iv x1), (2, iv x2), (3, iv x3)]) dX2_rightmostFrom_24 (by decide) rfl ?_
    refine a_iload F dX2_rightmostFrom_26 0 rfl ?_
    refine a_iload_n F dX2_rightmostFrom_28 rfl 2 rfl ?_
    refine a_icmp_eq F hf (tgt := 51) dX2_rightmostFrom_29 (by decide) (fun hf => ?_) (fun hf => ?_)
    · refine a_iinc F hf dX2_rightmostFrom_51 4 rfl (by decide) (fun x3_4 hf => ⟨[(3, iv x3_4), (4, iv x4_3), (0, .ref (ad 65)), (1, iv x1), (2, iv x2)], rfl, ?_⟩)
      refine a_goto F (tgt := 4) dX2_rightmostFrom_54 (by decide) ?_
      cases hf
      exact a_sub [2, 3, 4, 0] rfl (hn _ _ rfl)
    · refine a_iload_n F dX2_rightmostFrom_32 rfl 3 rfl ?_
      refine a_iconst F dX2_rightmostFrom_33 ?_
      refine a_icmp_eq F hf (tgt := 48) dX2_rightmostFrom_34 (by decide) (fun hf => ?_) (fun hf => ?_)
      · refine a_iload F dX2_rightmostFrom_48 0 rfl ?_
        refine a_topI hf (fun x2_5 hf => ?_)
        refine a_istore_n F (lv' := [(2, iv x2_5), (4, iv x4_3), (0, .ref (ad 65)), (1, iv x1), (3, iv x3)]) dX2_rightmostFrom_50 rfl (by decide) rfl ?_
        refine a_iinc F hf dX2_rightmostFrom_51 4 rfl (by decide) (fun x3_6 hf => ⟨[(3, iv x3_6), (2, iv x2_5), (4, iv x4_3), (0, .ref (ad 65)), (1, iv x1)], rfl, ?_⟩)
        refine a_goto F (tgt := 4) dX2_rightmostFrom_54 (by decide) ?_
        cases hf
        exact a_sub [3, 4, 1, 0] rfl (hn _ _ rfl)
      · refine a_aload_n F dX2_rightmostFrom_37 rfl 1 rfl ?_
        refine a_iload_n F dX2_rightmostFrom_38 rfl 2 rfl ?_
        refine a_iload_n F dX2_rightmostFrom_39 rfl 3 rfl ?_
        refine a_iload F dX2_rightmostFrom_40 0 rfl ?_
        refine a_callVIr F lk_RX2_49 tC_65 rfl c_X2_isFartherRight rfl rfl ⟨rfl, rfl⟩ ⟨Nat.le_of_ble_eq_true rfl, Nat.le_of_ble_eq_true rfl⟩ rfl (Nat.le_of_ble_eq_true rfl) dX2_rightmostFrom_42 hf (fun r_7 hf => ?_)
        refine a_if_eq F hf (tgt := 51) dX2_rightmostFrom_45 (by decide) (fun hf => ?_) (fun hf => ?_)
        · refine a_iinc F hf dX2_rightmostFrom_51 4 rfl (by decide) (fun x3_8 hf => ⟨[(3, iv x3_8), (4, iv x4_3), (0, .ref (ad 65)), (1, iv x1), (2, iv x2)], rfl, ?_⟩)
          refine a_goto F (tgt := 4) dX2_rightmostFrom_54 (by decide) ?_
          cases hf
          exact a_sub [2, 3, 4, 0] rfl (hn _ _ rfl)
        · refine a_iload F dX2_rightmostFrom_48 0 rfl ?_
          refine a_topI hf (fun x2_9 hf => ?_)
          refine a_istore_n F (lv' := [(2, iv x2_9), (4, iv x4_3), (0, .ref (ad 65)), (1, iv x1), (3, iv x3)]) dX2_rightmostFrom_50 rfl (by decide) rfl ?_
          refine a_iinc F hf dX2_rightmostFrom_51 4 rfl (by decide) (fun x3_10 hf => ⟨[(3, iv x3_10), (2, iv x2_9), (4, iv x4_3), (0, .ref (ad 65)), (1, iv x1)], rfl, ?_⟩)
          refine a_goto F (tgt := 4) dX2_rightmostFrom_54 (by decide) ?_
          cases hf
          exact a_sub [3, 4, 1, 0] rfl (hn _ _ rfl)
  · cases hf
    exact a_sub [2] rfl (hx0 _ rfl)
set_option maxRecDepth 100000 in
set_option maxHeartbeats 4000000 in
theorem k_X2_rightmostFrom_b0 {l : Launch} {ad : Nat → Nat} {X : Cx} (F : Ok vwCl WS NWs TC cX2_rightmostFrom 5 yX2_rightmostFrom.cls (some .int) ad l X) {σ : St} {x1 : Int} {y : Int} (hf : f_X2_rightmostFrom_b0 σ x1 = some y) (hr : RetI vwCl TC cX2_rightmostFrom 5 rm_X2_rightmostFrom ad X y σ) : At vwCl TC 5 rm_X2_rightmostFrom ad X σ [(0, .ref (ad 65)), (1, iv x1)] [] 0 := by
  unfold f_X2_rightmostFrom_b0 at hf
  refine a_iconst F dX2_rightmostFrom_0 ?_
  refine a_topI hf (fun x2_1 hf => ?_)
  refine a_istore_n F (lv' := [(2, iv x2_1), (0, .ref (ad 65)), (1, iv x1)]) dX2_rightmostFrom_1 rfl (by decide) rfl ?_
  refine a_iconst F dX2_rightmostFrom_2 ?_
  refine a_topI hf (fun x3_2 hf => ?_)
  refine a_istore_n F (lv' := [(3, iv x3_2), (2, iv x2_1), (0, .ref (ad 65)), (1, iv x1)]) dX2_rightmostFrom_3 rfl (by decide) rfl ?_
  obtain ⟨q0, he, hf⟩ := jbind_elim hf
  refine a_sub [2, 3, 1, 0] rfl (loop_rule (P := (fun q => ∀ z2 z3, (z2, z3) = q → At vwCl TC 5 rm_X2_rightmostFrom ad X σ [(0, .ref (ad 65)), (1, iv x1), (2, iv z2), (3, iv z3)] [] 4)) (K := (fun q => (∀ z2, z2 = q → At vwCl TC 5 rm_X2_rightmostFrom ad X σ [(2, iv z2)] [] 57))) ?_ 1000 _ _ he ?_ _ _ rfl)
  · intro q y hy hn hx z2 z3 e
    subst e
    exact k_X2_rightmostFrom_b4 F hy (fun z2 z3 e => hn _ e _ _ rfl) (fun z2 e => (hx _ e) _ rfl)
  · intro x2_11 e
    subst e
    refine a_iload_n F dX2_rightmostFrom_57 rfl 0 rfl ?_
    cases hf
    exact hr _ _ dX2_rightmostFrom_58
set_option maxRecDepth 100000 in
set_option maxHeartbeats 4000000 in
theorem c_X2_rightmostFrom {l : Launch}  {σ : St} {x1 : Int} : CtrI vwCl WS NWs TC l yX2_rightmostFrom cX2_rightmostFrom 5 (some .int) rm_X2_rightmostFrom (fun ad => [.ref (ad 65), iv x1]) σ (rd (f_X2_rightmostFrom σ x1) σ) := by
  refine ctrI_of (by decide +kernel) (fun ad => Nat.le_of_ble_eq_true rfl) (fun v σ' ad X hf F K => ?_)
  obtain ⟨hf2, e2⟩ := rd_elim hf
  subst e2
  exact k_X2_rightmostFrom_b0 F hf2 K
abbrev rm_X2_wrapOnce : Room := { frames := 3, cells := 0, slots := 0, locals := 72 }
set_option maxRecDepth 100000 in
set_option maxHeartbeats 4000000 in
theorem k_X2_wrapOnce_b40 {l : Launch} {ad : Nat → Nat} {X : Cx} (F : Ok vwCl WS NWs TC cX2_wrapOnce 5 yX2_wrapOnce.cls none ad l X) {σ : St} {x1 x2 x3 : Int} {y : ((St × Int × Int) ⊕ St)} (hf : f_X2_wrapOnce_b40 σ x1 x2 x3 = some y) (hn : ∀ τ z2 z3, y = .inl (τ, z2, z3) → At vwCl TC 5 rm_X2_wrapOnce ad X τ [(0, .ref (ad 65)), (1, iv x1), (2, iv z2), (3, iv z3)] [] 40) (hx0 : ∀ τ, y = .inr (τ) → At vwCl TC 5 rm_X2_wrapOnce ad X τ [] [] 97) : At vwCl TC 5 rm_X2_wrapOnce ad X σ [(0, .ref (ad 65)), (1, iv x1), (2, iv x2), (3, iv x3)] [] 40 := by
  unfold f_X2_wrapOnce_b40 at hf
  refine a_iload_n F dX2_wrapOnce_40 rfl 3 rfl ?_
  refine a_bipush F dX2_wrapOnce_41 (by decide +kernel) ?_
  refine a_icmp_ge F hf (tgt := 97) dX2_wrapOnce_43 (by decide) (fun hf => ?_) (fun hf => ?_)
  · refine a_iload_n F dX2_wrapOnce_46 rfl 2 rfl ?_
    refine a_iconst F dX2_wrapOnce_47 ?_
    refine a_icmp_eq F hf (tgt := 97) dX2_wrapOnce_48 (by decide) (fun hf => ?_) (fun hf => ?_)
    · cases hf
      exact a_sub [] rfl (hx0 _ rfl)
    · refine a_aload_n F dX2_wrapOnce_51 rfl 0 rfl ?_
      refine a_getR F (j := 3) tC_65 rfl rfl (by decide) inW2 w_205 dX2_wrapOnce_52 ?_
      refine a_aload_n F dX2_wrapOnce_55 rfl 0 rfl ?_
      refine a_getI F (j := 2) tC_65 rfl rfl (by decide) inW2 w_200 dX2_wrapOnce_56 ?_
      refine a_iload_n F dX2_wrapOnce_59 rfl 2 rfl ?_
      refine a_iast F tC_66 rfl (by decide) hf dX2_wrapOnce_60 (fun σ_7 hf => ?_)
      refine a_aload_n F dX2_wrapOnce_61 rfl 0 rfl ?_
      refine a_dup F dX2_wrapOnce_62 rfl ?_
      refine a_getI F (j := 2) tC_65 rfl rfl (by decide) inW2 w_200 dX2_wrapOnce_63 ?_
      refine a_iconst F dX2_wrapOnce_66 ?_
      refine a_iadd F dX2_wrapOnce_67 ?_
      refine a_putI F (j := 2) tC_65 rfl rfl (by decide) inW2 w_200 tyX2 tyX2_ok nmX2 rfl rfl hf dX2_wrapOnce_68 (fun σ_8 hf => ?_)
      refine a_aload_n F dX2_wrapOnce_71 rfl 0 rfl ?_
      refine a_iload_n F dX2_wrapOnce_72 rfl 2 rfl ?_
      refine a_callVIr F lk_RX2_35 tC_65 rfl c_X2_rightmostFrom rfl rfl ⟨rfl, rfl⟩ ⟨Nat.le_of_ble_eq_true rfl, Nat.le_of_ble_eq_true rfl⟩ rfl (Nat.le_of_ble_eq_true rfl) dX2_wrapOnce_73 hf (fun r_9 hf => ?_)
      refine a_topI hf (fun x4_10 hf => ?_)
      refine a_istore F (lv' := [(4, iv x4_10), (0, .ref (ad 65)), (1, iv x1), (2, iv x2), (3, iv x3)]) dX2_wrapOnce_76 (by decide) rfl ?_
      refine a_iload F dX2_wrapOnce_78 0 rfl ?_
      refine a_iload_n F dX2_wrapOnce_80 rfl 2 rfl ?_
      refine a_icmp_ne F hf (tgt := 88) dX2_wrapOnce_81 (by decide) (fun hf => ?_) (fun hf => ?_)
      · refine a_iconst F dX2_wrapOnce_84 ?_
        refine a_goto F (tgt := 90) dX2_wrapOnce_85 (by decide) ?_
        refine a_topI hf (fun x2_13 hf => ?_)
        refine a_istore_n F (lv' := [(2, iv x2_13), (4, iv x4_10), (0, .ref (ad 65)), (1, iv x1), (3, iv x3)]) dX2_wrapOnce_90 rfl (by decide) rfl ?_
        refine a_iinc F hf dX2_wrapOnce_91 4 rfl (by decide) (fun x3_14 hf => ⟨[(3, iv x3_14), (2, iv x2_13), (4, iv x4_10), (0, .ref (ad 65)), (1, iv x1)], rfl, ?_⟩)
        refine a_goto F (tgt := 40) dX2_wrapOnce_94 (by decide) ?_
        cases hf
        exact a_sub [3, 4, 1, 0] rfl (hn _ _ _ rfl)
      · refine a_iload F dX2_wrapOnce_88 0 rfl ?_
        refine a_topI hf (fun x2_11 hf => ?_)
        refine a_istore_n F (lv' := [(2, iv x2_11), (4, iv x4_10), (0, .ref (ad 65)), (1, iv x1), (3, iv x3)]) dX2_wrapOnce_90 rfl (by decide) rfl ?_
        refine a_iinc F hf dX2_wrapOnce_91 4 rfl (by decide) (fun x3_12 hf => ⟨[(3, iv x3_12), (2, iv x2_11), (4, iv x4_10), (0, .ref (ad 65)), (1, iv x1)], rfl, ?_⟩)
        refine a_goto F (tgt := 40) dX2_wrapOnce_94 (by decide) ?_
        cases hf
        exact a_sub [3, 4, 1, 0] rfl (hn _ _ _ rfl)
  · cases hf
    exact a_sub [] rfl (hx0 _ rfl)
set_option maxRecDepth 100000 in
set_option maxHeartbeats 4000000 in
theorem k_X2_wrapOnce_b0 {l : Launch} {ad : Nat → Nat} {X : Cx} (F : Ok vwCl WS NWs TC cX2_wrapOnce 5 yX2_wrapOnce.cls none ad l X) {σ : St} {y : St} (hf : f_X2_wrapOnce_b0 σ = some y) (hr : RetV vwCl TC cX2_wrapOnce 5 rm_X2_wrapOnce ad X y) : At vwCl TC 5 rm_X2_wrapOnce ad X σ [(0, .ref (ad 65))] [] 0 := by
  unfold f_X2_wrapOnce_b0 at hf
  refine a_aload_n F dX2_wrapOnce_0 rfl 0 rfl ?_
  refine a_getI F (j := 1) tC_65 rfl rfl (by decide) inW2 w_198 dX2_wrapOnce_1 ?_
  refine a_aload_n F dX2_wrapOnce_4 rfl 0 rfl ?_
  refine a_getR F (j := 0) tC_65 rfl rfl (by decide) inW2 w_178 dX2_wrapOnce_5 ?_
  refine a_getI F (j := 6) tC_1 rfl rfl (by decide) inW9 w_199 dX2_wrapOnce_8 ?_
  refine a_icmp_ne F hf (tgt := 15) dX2_wrapOnce_11 (by decide) (fun hf => ?_) (fun hf => ?_)
  · cases hf
    exact hr _ _ dX2_wrapOnce_14
  · refine a_aload_n F dX2_wrapOnce_15 rfl 0 rfl ?_
    refine a_aload_n F dX2_wrapOnce_16 rfl 0 rfl ?_
    refine a_getR F (j := 0) tC_65 rfl rfl (by decide) inW2 w_178 dX2_wrapOnce_17 ?_
    refine a_getI F (j := 6) tC_1 rfl rfl (by decide) inW9 w_199 dX2_wrapOnce_20 ?_
    refine a_putI F (j := 1) tC_65 rfl rfl (by decide) inW2 w_198 tyX2 tyX2_ok nmX2 rfl rfl hf dX2_wrapOnce_23 (fun σ_1 hf => ?_)
    refine a_aload_n F dX2_wrapOnce_26 rfl 0 rfl ?_
    refine a_iconst F dX2_wrapOnce_27 ?_
    refine a_putI F (j := 2) tC_65 rfl rfl (by decide) inW2 w_200 tyX2 tyX2_ok nmX2 rfl rfl hf dX2_wrapOnce_28 (fun σ_2 hf => ?_)
    refine a_aload_n F dX2_wrapOnce_31 rfl 0 rfl ?_
    refine a_callVIr F lk_RX2_31 tC_65 rfl c_X2_leastPlace rfl rfl ⟨rfl, rfl⟩ ⟨Nat.le_of_ble_eq_true rfl, Nat.le_of_ble_eq_true rfl⟩ rfl (Nat.le_of_ble_eq_true rfl) dX2_wrapOnce_32 hf (fun r_3 hf => ?_)
    refine a_topI hf (fun x1_4 hf => ?_)
    refine a_istore_n F (lv' := [(1, iv x1_4), (0, .ref (ad 65))]) dX2_wrapOnce_35 rfl (by decide) rfl ?_
    refine a_iload_n F dX2_wrapOnce_36 rfl 0 rfl ?_
    refine a_topI hf (fun x2_5 hf => ?_)
    refine a_istore_n F (lv' := [(2, iv x2_5), (1, iv x1_4), (0, .ref (ad 65))]) dX2_wrapOnce_37 rfl (by decide) rfl ?_
    refine a_iconst F dX2_wrapOnce_38 ?_
    refine a_topI hf (fun x3_6 hf => ?_)
    refine a_istore_n F (lv' := [(3, iv x3_6), (2, iv x2_5), (1, iv x1_4), (0, .ref (ad 65))]) dX2_wrapOnce_39 rfl (by decide) rfl ?_
    obtain ⟨q0, he, hf⟩ := jbind_elim hf
    refine a_sub [3, 2, 1, 0] rfl (loop_rule (P := (fun q => ∀ τ z2 z3, (τ, z2, z3) = q → At vwCl TC 5 rm_X2_wrapOnce ad X τ [(0, .ref (ad 65)), (1, iv x1_4), (2, iv z2), (3, iv z3)] [] 40)) (K := (fun q => (∀ τ, τ = q → At vwCl TC 5 rm_X2_wrapOnce ad X τ [] [] 97))) ?_ 1000 _ _ he ?_ _ _ _ rfl)
    · intro q y hy hn hx τ z2 z3 e
      subst e
      exact k_X2_wrapOnce_b40 F hy (fun τ z2 z3 e => hn _ e _ _ _ rfl) (fun τ e => (hx _ e) _ rfl)
    · intro σ_15 e
      subst e
      cases hf
      exact hr _ _ dX2_wrapOnce_97
set_option maxRecDepth 100000 in
set_option maxHeartbeats 4000000 in
theorem c_X2_wrapOnce {l : Launch}  {σ : St} : CtrV vwCl WS NWs TC l yX2_wrapOnce cX2_wrapOnce 5 none rm_X2_wrapOnce (fun ad => [.ref (ad 65)]) σ (f_X2_wrapOnce σ) := by
  refine ctrV_of (by decide +kernel) (fun ad => Nat.le_of_ble_eq_true rfl) (fun σ' ad X hf F K => ?_)
  exact k_X2_wrapOnce_b0 F hf K
abbrev rm_X10_around : Room := { frames := 4, cells := 0, slots := 0, locals := 96 }
set_option maxRecDepth 100000 in
set_option maxHeartbeats 4000000 in
theorem k_X10_around_b0 {l : Launch} {ad : Nat → Nat} {X : Cx} (F : Ok vwCl WS NWs TC cX10_around 2 yX10_around.cls (some .int) ad l X) {σ : St} {x1 : Int} {y : (Int × St)} (hf : f_X10_around_b0 σ x1 = some y) (hr : ∀ v τ, y = (v, τ) → RetI vwCl TC cX10_around 2 rm_X10_around ad X v τ) : At vwCl TC 2 rm_X10_around ad X σ [(0, .ref (ad 0)), (1, iv x1)] [] 0 := by
  unfold f_X10_around_b0 at hf
  refine a_aload_n F dX10_around_0 rfl 0 rfl ?_
  refine a_getR F (j := 7) tC_0 rfl rfl (by decide) inW10 w_210 dX10_around_1 ?_
  refine a_callVV F lk_RX10_204 tC_65 rfl c_X2_wrapOnce rfl rfl ⟨rfl, rfl⟩ ⟨Nat.le_of_ble_eq_true rfl, Nat.le_of_ble_eq_true rfl⟩ rfl (Nat.le_of_ble_eq_true rfl) dX10_around_4 hf (fun σ_1 hf => ?_)
  refine a_iload_n F dX10_around_7 rfl 1 rfl ?_
  refine a_if_lt F hf (tgt := 34) dX10_around_8 (by decide) (fun hf => ?_) (fun hf => ?_)
  · refine a_iconst F dX10_around_34 ?_
    cases hf
    exact hr _ _ rfl _ _ dX10_around_35
  · refine a_iload_n F dX10_around_11 rfl 1 rfl ?_
    refine a_aload_n F dX10_around_12 rfl 0 rfl ?_
    refine a_getR F (j := 7) tC_0 rfl rfl (by decide) inW10 w_210 dX10_around_13 ?_
    refine a_getI F (j := 2) tC_65 rfl rfl (by decide) inW2 w_215 dX10_around_16 ?_
    refine a_icmp_ge F hf (tgt := 34) dX10_around_19 (by decide) (fun hf => ?_) (fun hf => ?_)
    · refine a_aload_n F dX10_around_22 rfl 0 rfl ?_
      refine a_getR F (j := 7) tC_0 rfl rfl (by decide) inW10 w_210 dX10_around_23 ?_
      refine a_getR F (j := 3) tC_65 rfl rfl (by decide) inW2 w_216 dX10_around_26 ?_
      refine a_iload_n F dX10_around_29 rfl 1 rfl ?_
      refine a_iald F tC_66 rfl (by decide) hf dX10_around_30 (fun hf => ?_)
      refine a_goto F (tgt := 35) dX10_around_31 (by decide) ?_
      cases hf
      exact hr _ _ rfl _ _ dX10_around_35
    · refine a_iconst F dX10_around_34 ?_
      cases hf
      exact hr _ _ rfl _ _ dX10_around_35
set_option maxRecDepth 100000 in
set_option maxHeartbeats 4000000 in
theorem c_X10_around {l : Launch}  {σ : St} {x1 : Int} : CtrI vwCl WS NWs TC l yX10_around cX10_around 2 (some .int) rm_X10_around (fun ad => [.ref (ad 0), iv x1]) σ (f_X10_around σ x1) := by
  refine ctrI_of (by decide +kernel) (fun ad => Nat.le_of_ble_eq_true rfl) (fun v σ' ad X hf F K => ?_)
  exact k_X10_around_b0 F hf (fun v τ e => by cases e; exact K)
abbrev rm_X10_ask : Room := { frames := 1, cells := 0, slots := 0, locals := 21 }
set_option maxRecDepth 100000 in
set_option maxHeartbeats 4000000 in
theorem k_X10_ask_b38 {l : Launch} {ad : Nat → Nat} {X : Cx} (F : Ok vwCl WS NWs TC cX10_ask 5 yX10_ask.cls (some .int) ad l X) {σ : St} {x1 x2 x3 t0 : Int} {y : Int} (hf : f_X10_ask_b38 σ x1 x2 x3 t0 = some y) (hr : RetI vwCl TC cX10_ask 5 rm_X10_ask ad X y σ) : At vwCl TC 5 rm_X10_ask ad X σ [(0, .ref (ad 0)), (1, iv x1), (2, iv x2), (3, iv x3)] [iv t0] 38 := by
  unfold f_X10_ask_b38 at hf
  refine a_topI hf (fun x4_3 hf => ?_)
  refine a_istore F (lv' := [(4, iv x4_3), (0, .ref (ad 0)), (1, iv x1), (2, iv x2), (3, iv x3)]) dX10_ask_38 (by decide) rfl ?_
  refine a_iload_n F dX10_ask_40 rfl 3 rfl ?_
  obtain ⟨hg9, hf⟩ := jchk_elim hf
  by_cases hq0 : x2 = 0
  · rw [if_pos hq0] at hf
    refine a_tableIn F (tgt := 72) hg9 dX10_ask_41 (by omega) (by omega) (by rw [hq0]; rfl) (by decide) ?_
    refine a_iload_n F dX10_ask_72 rfl 4 rfl ?_
    refine a_iconst F dX10_ask_73 ?_
    refine a_icmp_ne F hf (tgt := 89) dX10_ask_74 (by decide) (fun hf => ?_) (fun hf => ?_)
    · refine a_aload_n F dX10_ask_77 rfl 1 rfl ?_
      refine a_getR F (j := 0) tC_0 rfl rfl (by decide) inW10 w_167 dX10_ask_78 ?_
      refine a_getR F (j := 10) tC_1 rfl rfl (by decide) inW9 w_218 dX10_ask_81 ?_
      refine a_iload_n F dX10_ask_84 rfl 2 rfl ?_
      refine a_iald F tC_6 rfl (by decide) hf dX10_ask_85 (fun hf => ?_)
      refine a_goto F (tgt := 91) dX10_ask_86 (by decide) ?_
      cases hf
      exact hr _ _ dX10_ask_91
    · refine a_bipush F dX10_ask_89 (by decide +kernel) ?_
      cases hf
      exact hr _ _ dX10_ask_91
  · rw [if_neg hq0] at hf
    by_cases hq1 : x2 = 1
    · rw [if_pos hq1] at hf
      refine a_tableIn F (tgt := 92) hg9 dX10_ask_41 (by omega) (by omega) (by rw [hq1]; rfl) (by decide) ?_
      refine a_iload_n F dX10_ask_92 rfl 4 rfl ?_
      refine a_iconst F dX10_ask_93 ?_
      refine a_icmp_ne F hf (tgt := 109) dX10_ask_94 (by decide) (fun hf => ?_) (fun hf => ?_)
      · refine a_aload_n F dX10_ask_97 rfl 1 rfl ?_
        refine a_getR F (j := 0) tC_0 rfl rfl (by decide) inW10 w_167 dX10_ask_98 ?_
        refine a_getR F (j := 10) tC_1 rfl rfl (by decide) inW9 w_218 dX10_ask_101 ?_
        refine a_iload_n F dX10_ask_104 rfl 2 rfl ?_
        refine a_iald F tC_6 rfl (by decide) hf dX10_ask_105 (fun hf => ?_)
        refine a_goto F (tgt := 120) dX10_ask_106 (by decide) ?_
        cases hf
        exact hr _ _ dX10_ask_120
      · refine a_iload F dX10_ask_109 0 rfl ?_
        refine a_if_eq F hf (tgt := 118) dX10_ask_111 (by decide) (fun hf => ?_) (fun hf => ?_)
        · refine a_bipush F dX10_ask_118 (by decide +kernel) ?_
          cases hf
          exact hr _ _ dX10_ask_120
        · refine a_iconst F dX10_ask_114 ?_
          refine a_goto F (tgt := 120) dX10_ask_115 (by decide) ?_
          cases hf
          exact hr _ _ dX10_ask_120
    · rw [if_neg hq1] at hf
      by_cases hq2 : x2 = 2
      · rw [if_pos hq2] at hf
        refine a_tableIn F (tgt := 121) hg9 dX10_ask_41 (by omega) (by omega) (by rw [hq2]; rfl) (by decide) ?_
        refine a_iload F dX10_ask_121 0 rfl ?_
        refine a_if_eq F hf (tgt := 130) dX10_ask_123 (by decide) (fun hf => ?_) (fun hf => ?_)
        · refine a_bipush F dX10_ask_130 (by decide +kernel) ?_
          cases hf
          exact hr _ _ dX10_ask_132
        · refine a_iconst F dX10_ask_126 ?_
          refine a_goto F (tgt := 132) dX10_ask_127 (by decide) ?_
          cases hf
          exact hr _ _ dX10_ask_132
      · rw [if_neg hq2] at hf
        by_cases hq3 : x2 = 3
        · rw [if_pos hq3] at hf
          refine a_tableIn F (tgt := 133) hg9 dX10_ask_41 (by omega) (by omega) (by rw [hq3]; rfl) (by decide) ?_
          refine a_iload_n F dX10_ask_133 rfl 4 rfl ?_
          refine a_iconst F dX10_ask_134 ?_
          refine a_icmp_ne F hf (tgt := 150) dX10_ask_135 (by decide) (fun hf => ?_) (fun hf => ?_)
          · refine a_aload_n F dX10_ask_138 rfl 1 rfl ?_
            refine a_getR F (j := 0) tC_0 rfl rfl (by decide) inW10 w_167 dX10_ask_139 ?_
            refine a_getR F (j := 10) tC_1 rfl rfl (by decide) inW9 w_218 dX10_ask_142 ?_
            refine a_iload_n F dX10_ask_145 rfl 2 rfl ?_
            refine a_iald F tC_6 rfl (by decide) hf dX10_ask_146 (fun hf => ?_)
            refine a_goto F (tgt := 152) dX10_ask_147 (by decide) ?_
            cases hf
            exact hr _ _ dX10_ask_152
          · refine a_bipush F dX10_ask_150 (by decide +kernel) ?_
            cases hf
            exact hr _ _ dX10_ask_152
        · rw [if_neg hq3] at hf
          refine a_tableOut F (tgt := 153) hg9 dX10_ask_41 (by omega) (by decide) ?_
          refine a_iconst F dX10_ask_153 ?_
          cases hf
          exact hr _ _ dX10_ask_154
set_option maxRecDepth 100000 in
set_option maxHeartbeats 4000000 in
theorem k_X10_ask_b0 {l : Launch} {ad : Nat → Nat} {X : Cx} (F : Ok vwCl WS NWs TC cX10_ask 5 yX10_ask.cls (some .int) ad l X) {σ : St} {x1 x2 : Int} {y : Int} (hf : f_X10_ask_b0 σ x1 x2 = some y) (hr : RetI vwCl TC cX10_ask 5 rm_X10_ask ad X y σ) : At vwCl TC 5 rm_X10_ask ad X σ [(0, .ref (ad 0)), (1, iv x1), (2, iv x2)] [] 0 := by
  unfold f_X10_ask_b0 at hf
  refine a_aload_n F dX10_ask_0 rfl 0 rfl ?_
  refine a_getR F (j := 0) tC_0 rfl rfl (by decide) inW10 w_167 dX10_ask_1 ?_
  refine a_iload_n F dX10_ask_4 rfl 1 rfl ?_
  refine a_callVIr F lk_RX10_112 tC_1 rfl c_X9_has rfl rfl ⟨rfl, rfl⟩ ⟨Nat.le_of_ble_eq_true rfl, Nat.le_of_ble_eq_true rfl⟩ rfl (Nat.le_of_ble_eq_true rfl) dX10_ask_5 hf (fun r_1 hf => ?_)
  refine a_if_ne F hf (tgt := 13) dX10_ask_8 (by decide) (fun hf => ?_) (fun hf => ?_)
  · refine a_iconst F dX10_ask_11 ?_
    cases hf
    exact hr _ _ dX10_ask_12
  · refine a_aload_n F dX10_ask_13 rfl 0 rfl ?_
    refine a_getR F (j := 0) tC_0 rfl rfl (by decide) inW10 w_167 dX10_ask_14 ?_
    refine a_getR F (j := 9) tC_1 rfl rfl (by decide) inW9 w_217 dX10_ask_17 ?_
    refine a_iload_n F dX10_ask_20 rfl 1 rfl ?_
    refine a_iald F tC_5 rfl (by decide) hf dX10_ask_21 (fun hf => ?_)
    refine a_topI hf (fun x3_2 hf => ?_)
    refine a_istore_n F (lv' := [(3, iv x3_2), (0, .ref (ad 0)), (1, iv x1), (2, iv x2)]) dX10_ask_22 rfl (by decide) rfl ?_
    refine a_iload_n F dX10_ask_23 rfl 0 rfl ?_
    refine a_iconst F dX10_ask_24 ?_
    refine a_icmp_eq F hf (tgt := 33) dX10_ask_25 (by decide) (fun hf => ?_) (fun hf => ?_)
    · refine a_iconst F dX10_ask_33 ?_
      refine a_goto F (tgt := 38) dX10_ask_34 (by decide) ?_
      exact a_sub [1, 2, 3, 0] rfl (k_X10_ask_b38 F hf hr)
    · refine a_iload_n F dX10_ask_28 rfl 0 rfl ?_
      refine a_iconst F dX10_ask_29 ?_
      refine a_icmp_ne F hf (tgt := 37) dX10_ask_30 (by decide) (fun hf => ?_) (fun hf => ?_)
      · refine a_iconst F dX10_ask_33 ?_
        refine a_goto F (tgt := 38) dX10_ask_34 (by decide) ?_
        exact a_sub [1, 2, 3, 0] rfl (k_X10_ask_b38 F hf hr)
      · refine a_iconst F dX10_ask_37 ?_
        exact a_sub [1, 2, 3, 0] rfl (k_X10_ask_b38 F hf hr)
set_option maxRecDepth 100000 in
set_option maxHeartbeats 4000000 in
theorem c_X10_ask {l : Launch}  {σ : St} {x1 x2 : Int} : CtrI vwCl WS NWs TC l yX10_ask cX10_ask 5 (some .int) rm_X10_ask (fun ad => [.ref (ad 0), iv x1, iv x2]) σ (rd (f_X10_ask σ x1 x2) σ) := by
  refine ctrI_of (by decide +kernel) (fun ad => Nat.le_of_ble_eq_true rfl) (fun v σ' ad X hf F K => ?_)
  obtain ⟨hf2, e2⟩ := rd_elim hf
  subst e2
  exact k_X10_ask_b0 F hf2 K
abbrev rm_X10_mayHave : Room := { frames := 0, cells := 0, slots := 0, locals := 0 }
set_option maxRecDepth 100000 in
set_option maxHeartbeats 4000000 in
theorem k_X10_mayHave_b0 {l : Launch} {ad : Nat → Nat} {X : Cx} (F : Ok vwCl WS NWs TC cX10_mayHave 2 yX10_mayHave.cls (some .boolean) ad l X) {σ : St} {x0 x1 : Int} {y : Int} (hf : f_X10_mayHave_b0 x0 x1 = some y) (hr : RetI vwCl TC cX10_mayHave 2 rm_X10_mayHave ad X y σ) : At vwCl TC 2 rm_X10_mayHave ad X σ [(0, iv x0), (1, iv x1)] [] 0 := by
  unfold f_X10_mayHave_b0 at hf
  refine a_iload_n F dX10_mayHave_0 rfl 0 rfl ?_
  refine a_if_lt F hf (tgt := 34) dX10_mayHave_1 (by decide) (fun hf => ?_) (fun hf => ?_)
  · refine a_iconst F dX10_mayHave_34 ?_
    cases hf
    exact hr _ _ dX10_mayHave_35
  · refine a_iload_n F dX10_mayHave_4 rfl 0 rfl ?_
    refine a_tabL F (fun b_1 gb_1 lb_1 rb_1 => gb_1 _ _ _ w_219 dX10_mayHave_5 ?_)
    refine lb_1 _ _ dX10_mayHave_8 ?_
    refine a_icmp_ge F hf (tgt := 34) dX10_mayHave_9 (by decide) (fun hf => ?_) (fun hf => ?_)
    · refine a_iload_n F dX10_mayHave_12 rfl 1 rfl ?_
      refine a_tabL F (fun b_2 gb_2 lb_2 rb_2 => gb_2 _ _ _ w_219 dX10_mayHave_13 ?_)
      refine a_iload_n F dX10_mayHave_16 rfl 0 rfl ?_
      refine rb_2 _ _ _ _ _ _ hf dX10_mayHave_17 (fun hf => ?_)
      refine a_icmp_lt F hf (tgt := 34) dX10_mayHave_18 (by decide) (fun hf => ?_) (fun hf => ?_)
      · refine a_iconst F dX10_mayHave_34 ?_
        cases hf
        exact hr _ _ dX10_mayHave_35
      · refine a_iload_n F dX10_mayHave_21 rfl 1 rfl ?_
        refine a_tabM F (fun b_3 gb_3 lb_3 rb_3 => gb_3 _ _ _ w_220 dX10_mayHave_22 ?_)
        refine a_iload_n F dX10_mayHave_25 rfl 0 rfl ?_
        refine rb_3 _ _ _ _ _ _ hf dX10_mayHave_26 (fun hf => ?_)
        refine a_icmp_gt F hf (tgt := 34) dX10_mayHave_27 (by decide) (fun hf => ?_) (fun hf => ?_)
        · refine a_iconst F dX10_mayHave_34 ?_
          cases hf
          exact hr _ _ dX10_mayHave_35
        · refine a_iconst F dX10_mayHave_30 ?_
          refine a_goto F (tgt := 35) dX10_mayHave_31 (by decide) ?_
          cases hf
          exact hr _ _ dX10_mayHave_35
    · refine a_iconst F dX10_mayHave_34 ?_
      cases hf
      exact hr _ _ dX10_mayHave_35
set_option maxRecDepth 100000 in
set_option maxHeartbeats 4000000 in
theorem c_X10_mayHave {l : Launch}  {σ : St} {x0 x1 : Int} : CtrI vwCl WS NWs TC l yX10_mayHave cX10_mayHave 2 (some .boolean) rm_X10_mayHave (fun ad => [iv x0, iv x1]) σ (rd (f_X10_mayHave x0 x1) σ) := by
  refine ctrZ_of (fun v σ' h => jz_z (rd_elim h).1) (by decide +kernel) (fun ad => Nat.le_of_ble_eq_true rfl) (fun v σ' ad X hf F K => ?_)
  obtain ⟨hf2, e2⟩ := rd_elim hf
  subst e2
  exact k_X10_mayHave_b0 F (jz_e hf2) K
abbrev rm_X5_remember : Room := { frames := 1, cells := 0, slots := 0, locals := 26 }
set_option maxRecDepth 100000 in
set_option maxHeartbeats 4000000 in
theorem k_X5_remember_b116 {l : Launch} {ad : Nat → Nat} {X : Cx} (F : Ok vwCl WS NWs TC cX5_remember 3 yX5_remember.cls none ad l X) {σ : St} {t1 : Int} {y : St} (hf : f_X5_remember_b116 σ t1 = some y) (hr : RetV vwCl TC cX5_remember 3 rm_X5_remember ad X y) : At vwCl TC 3 rm_X5_remember ad X σ [(0, .ref (ad 7))] [iv t1, .ref (ad 7)] 116 := by
  unfold f_X5_remember_b116 at hf
  refine a_putI F (j := 1) tC_7 rfl rfl (by decide) inW5 w_221 tyX5 tyX5_ok nmX5 rfl rfl hf dX5_remember_116 (fun σ_8 hf => ?_)
  refine a_aload_n F dX5_remember_119 rfl 0 rfl ?_
  refine a_aload_n F dX5_remember_120 rfl 0 rfl ?_
  refine a_getI F (j := 0) tC_7 rfl rfl (by decide) inW5 w_238 dX5_remember_121 ?_
  refine a_iconst F dX5_remember_124 ?_
  refine a_iadd F dX5_remember_125 ?_
  refine a_bipush F dX5_remember_126 (by decide +kernel) ?_
  refine a_mmin F w_239 w_240 w_145 w_241 (by decide) (Nat.le_of_ble_eq_true rfl) hf dX5_remember_128 (fun hf => ?_)
  refine a_putI F (j := 0) tC_7 rfl rfl (by decide) inW5 w_238 tyX5 tyX5_ok nmX5 rfl rfl hf dX5_remember_131 (fun σ_9 hf => ?_)
  cases hf
  exact hr _ _ dX5_remember_134
set_option maxRecDepth 100000 in
set_option maxHeartbeats 4000000 in
theorem k_X5_remember_b0 {l : Launch} {ad : Nat → Nat} {X : Cx} (F : Ok vwCl WS NWs TC cX5_remember 3 yX5_remember.cls none ad l X) {σ : St} {y : St} (hf : f_X5_remember_b0 σ = some y) (hr : RetV vwCl TC cX5_remember 3 rm_X5_remember ad X y) : At vwCl TC 3 rm_X5_remember ad X σ [(0, .ref (ad 7)), (1, .ref (ad 1))] [] 0 := by
  unfold f_X5_remember_b0 at hf
  refine a_aload_n F dX5_remember_0 rfl 0 rfl ?_
  refine a_getI F (j := 1) tC_7 rfl rfl (by decide) inW5 w_221 dX5_remember_1 ?_
  refine a_bipush F dX5_remember_4 (by decide +kernel) ?_
  refine a_imul F dX5_remember_6 ?_
  refine a_topI hf (fun x2_1 hf => ?_)
  refine a_istore_n F (lv' := [(2, iv x2_1), (0, .ref (ad 7)), (1, .ref (ad 1))]) dX5_remember_7 rfl (by decide) rfl ?_
  refine a_aload_n F dX5_remember_8 rfl 1 rfl ?_
  refine a_getR F (j := 2) tC_7 rfl rfl (by decide) inW5 w_222 dX5_remember_9 ?_
  refine a_aload_n F dX5_remember_12 rfl 1 rfl ?_
  refine a_getI F (j := 1) tC_7 rfl rfl (by decide) inW5 w_221 dX5_remember_13 ?_
  refine a_aload_n F dX5_remember_16 rfl 2 rfl ?_
  refine a_getI F (j := 0) tC_1 rfl rfl (by decide) inW9 w_223 dX5_remember_17 ?_
  refine a_iast F tC_8 rfl (by decide) hf dX5_remember_20 (fun σ_2 hf => ?_)
  refine a_aload_n F dX5_remember_21 rfl 1 rfl ?_
  refine a_getR F (j := 3) tC_7 rfl rfl (by decide) inW5 w_224 dX5_remember_22 ?_
  refine a_aload_n F dX5_remember_25 rfl 1 rfl ?_
  refine a_getI F (j := 1) tC_7 rfl rfl (by decide) inW5 w_221 dX5_remember_26 ?_
  refine a_aload_n F dX5_remember_29 rfl 2 rfl ?_
  refine a_getI F (j := 1) tC_1 rfl rfl (by decide) inW9 w_225 dX5_remember_30 ?_
  refine a_iast F tC_9 rfl (by decide) hf dX5_remember_33 (fun σ_3 hf => ?_)
  refine a_aload_n F dX5_remember_34 rfl 2 rfl ?_
  refine a_getR F (j := 7) tC_1 rfl rfl (by decide) inW9 w_226 dX5_remember_35 ?_
  refine a_iconst F dX5_remember_38 ?_
  refine a_aload_n F dX5_remember_39 rfl 1 rfl ?_
  refine a_getR F (j := 4) tC_7 rfl rfl (by decide) inW5 w_227 dX5_remember_40 ?_
  refine a_iload_n F dX5_remember_43 rfl 0 rfl ?_
  refine a_bipush F dX5_remember_44 (by decide +kernel) ?_
  refine a_copyI F tC_3 tC_10 rfl rfl (by decide) (by decide) w_228 w_229 w_230 w_231 (by decide) (Nat.le_of_ble_eq_true rfl) hf dX5_remember_46 (fun σ_4 hf => ?_)
  refine a_aload_n F dX5_remember_49 rfl 2 rfl ?_
  refine a_getR F (j := 8) tC_1 rfl rfl (by decide) inW9 w_232 dX5_remember_50 ?_
  refine a_iconst F dX5_remember_53 ?_
  refine a_aload_n F dX5_remember_54 rfl 1 rfl ?_
  refine a_getR F (j := 5) tC_7 rfl rfl (by decide) inW5 w_233 dX5_remember_55 ?_
  refine a_iload_n F dX5_remember_58 rfl 0 rfl ?_
  refine a_bipush F dX5_remember_59 (by decide +kernel) ?_
  refine a_copyI F tC_4 tC_11 rfl rfl (by decide) (by decide) w_228 w_229 w_230 w_231 (by decide) (Nat.le_of_ble_eq_true rfl) hf dX5_remember_61 (fun σ_5 hf => ?_)
  refine a_aload_n F dX5_remember_64 rfl 2 rfl ?_
  refine a_getR F (j := 9) tC_1 rfl rfl (by decide) inW9 w_234 dX5_remember_65 ?_
  refine a_iconst F dX5_remember_68 ?_
  refine a_aload_n F dX5_remember_69 rfl 1 rfl ?_
  refine a_getR F (j := 6) tC_7 rfl rfl (by decide) inW5 w_235 dX5_remember_70 ?_
  refine a_iload_n F dX5_remember_73 rfl 0 rfl ?_
  refine a_bipush F dX5_remember_74 (by decide +kernel) ?_
  refine a_copyI F tC_5 tC_12 rfl rfl (by decide) (by decide) w_228 w_229 w_230 w_231 (by decide) (Nat.le_of_ble_eq_true rfl) hf dX5_remember_76 (fun σ_6 hf => ?_)
  refine a_aload_n F dX5_remember_79 rfl 2 rfl ?_
  refine a_getR F (j := 10) tC_1 rfl rfl (by decide) inW9 w_236 dX5_remember_80 ?_
  refine a_iconst F dX5_remember_83 ?_
  refine a_aload_n F dX5_remember_84 rfl 1 rfl ?_
  refine a_getR F (j := 7) tC_7 rfl rfl (by decide) inW5 w_237 dX5_remember_85 ?_
  refine a_iload_n F dX5_remember_88 rfl 0 rfl ?_
  refine a_bipush F dX5_remember_89 (by decide +kernel) ?_
  refine a_copyI F tC_6 tC_13 rfl rfl (by decide) (by decide) w_228 w_229 w_230 w_231 (by decide) (Nat.le_of_ble_eq_true rfl) hf dX5_remember_91 (fun σ_7 hf => ?_)
  refine a_aload_n F dX5_remember_94 rfl 1 rfl ?_
  refine a_aload_n F dX5_remember_95 rfl 1 rfl ?_
  refine a_getI F (j := 1) tC_7 rfl rfl (by decide) inW5 w_221 dX5_remember_96 ?_
  refine a_iconst F dX5_remember_99 ?_
  refine a_iadd F dX5_remember_100 ?_
  refine a_bipush F dX5_remember_101 (by decide +kernel) ?_
  refine a_icmp_ge F hf (tgt := 115) dX5_remember_103 (by decide) (fun hf => ?_) (fun hf => ?_)
  · refine a_aload_n F dX5_remember_106 rfl 1 rfl ?_
    refine a_getI F (j := 1) tC_7 rfl rfl (by decide) inW5 w_221 dX5_remember_107 ?_
    refine a_iconst F dX5_remember_110 ?_
    refine a_iadd F dX5_remember_111 ?_
    refine a_goto F (tgt := 116) dX5_remember_112 (by decide) ?_
    exact a_sub [1] rfl (k_X5_remember_b116 F hf hr)
  · refine a_iconst F dX5_remember_115 ?_
    exact a_sub [1] rfl (k_X5_remember_b116 F hf hr)
set_option maxRecDepth 100000 in
set_option maxHeartbeats 4000000 in
theorem c_X5_remember {l : Launch}  {σ : St} : CtrV vwCl WS NWs TC l yX5_remember cX5_remember 3 none rm_X5_remember (fun ad => [.ref (ad 7), .ref (ad 1)]) σ (f_X5_remember σ) := by
  refine ctrV_of (by decide +kernel) (fun ad => Nat.le_of_ble_eq_true rfl) (fun σ' ad X hf F K => ?_)
  exact k_X5_remember_b0 F hf K
abbrev rm_X9_countAnew : Room := { frames := 2, cells := 0, slots := 0, locals := 42 }
set_option maxRecDepth 100000 in
set_option maxHeartbeats 4000000 in
theorem k_X9_countAnew_b46 {l : Launch} {ad : Nat → Nat} {X : Cx} (F : Ok vwCl WS NWs TC cX9_countAnew 2 yX9_countAnew.cls none ad l X) {σ : St} {x1 : Int} {y : ((St × Int) ⊕ St)} (hf : f_X9_countAnew_b46 σ x1 = some y) (hn : ∀ τ z1, y = .inl (τ, z1) → At vwCl TC 2 rm_X9_countAnew ad X τ [(0, .ref (ad 1)), (1, iv z1)] [] 22) : At vwCl TC 2 rm_X9_countAnew ad X σ [(0, .ref (ad 1)), (1, iv x1)] [] 46 := by
  unfold f_X9_countAnew_b46 at hf
  refine a_aload_n F dX9_countAnew_46 rfl 0 rfl ?_
  refine a_iload_n F dX9_countAnew_47 rfl 1 rfl ?_
  refine a_callVIr F lk_RX9_63 tC_1 rfl c_X9_isCounted rfl rfl ⟨rfl, rfl⟩ ⟨Nat.le_of_ble_eq_true rfl, Nat.le_of_ble_eq_true rfl⟩ rfl (Nat.le_of_ble_eq_true rfl) dX9_countAnew_48 hf (fun r_6 hf => ?_)
  refine a_if_eq F hf (tgt := 74) dX9_countAnew_51 (by decide) (fun hf => ?_) (fun hf => ?_)
  · refine a_iinc F hf dX9_countAnew_74 1 rfl (by decide) (fun x1_7 hf => ⟨[(1, iv x1_7), (0, .ref (ad 1))], rfl, ?_⟩)
    refine a_goto F (tgt := 22) dX9_countAnew_77 (by decide) ?_
    cases hf
    exact a_sub [1, 0] rfl (hn _ _ rfl)
  · refine a_aload_n F dX9_countAnew_54 rfl 0 rfl ?_
    refine a_getR F (j := 5) tC_1 rfl rfl (by decide) inW9 w_246 dX9_countAnew_55 ?_
    refine a_aload_n F dX9_countAnew_58 rfl 0 rfl ?_
    refine a_getI F (j := 4) tC_1 rfl rfl (by decide) inW9 w_244 dX9_countAnew_59 ?_
    refine a_iload_n F dX9_countAnew_62 rfl 1 rfl ?_
    refine a_iast F tC_2 rfl (by decide) hf dX9_countAnew_63 (fun σ_8 hf => ?_)
    refine a_aload_n F dX9_countAnew_64 rfl 0 rfl ?_
    refine a_dup F dX9_countAnew_65 rfl ?_
    refine a_getI F (j := 4) tC_1 rfl rfl (by decide) inW9 w_244 dX9_countAnew_66 ?_
    refine a_iconst F dX9_countAnew_69 ?_
    refine a_iadd F dX9_countAnew_70 ?_
    refine a_putI F (j := 4) tC_1 rfl rfl (by decide) inW9 w_244 tyX9 tyX9_ok nmX9 rfl rfl hf dX9_countAnew_71 (fun σ_9 hf => ?_)
    refine a_iinc F hf dX9_countAnew_74 1 rfl (by decide) (fun x1_10 hf => ⟨[(1, iv x1_10), (0, .ref (ad 1))], rfl, ?_⟩)
    refine a_goto F (tgt := 22) dX9_countAnew_77 (by decide) ?_
    cases hf
    exact a_sub [1, 0] rfl (hn _ _ rfl)
set_option maxRecDepth 100000 in
set_option maxHeartbeats 4000000 in
theorem k_X9_countAnew_b22 {l : Launch} {ad : Nat → Nat} {X : Cx} (F : Ok vwCl WS NWs TC cX9_countAnew 2 yX9_countAnew.cls none ad l X) {σ : St} {x1 : Int} {y : ((St × Int) ⊕ St)} (hf : f_X9_countAnew_b22 σ x1 = some y) (hn : ∀ τ z1, y = .inl (τ, z1) → At vwCl TC 2 rm_X9_countAnew ad X τ [(0, .ref (ad 1)), (1, iv z1)] [] 22) (hx0 : ∀ τ, y = .inr (τ) → At vwCl TC 2 rm_X9_countAnew ad X τ [] [] 80) : At vwCl TC 2 rm_X9_countAnew ad X σ [(0, .ref (ad 1)), (1, iv x1)] [] 22 := by
  unfold f_X9_countAnew_b22 at hf
  refine a_iload_n F dX9_countAnew_22 rfl 1 rfl ?_
  refine a_bipush F dX9_countAnew_23 (by decide +kernel) ?_
  refine a_icmp_ge F hf (tgt := 80) dX9_countAnew_25 (by decide) (fun hf => ?_) (fun hf => ?_)
  · refine a_aload_n F dX9_countAnew_28 rfl 0 rfl ?_
    refine a_iload_n F dX9_countAnew_29 rfl 1 rfl ?_
    refine a_callVIr F lk_RX9_40 tC_1 rfl c_X9_has rfl rfl ⟨rfl, rfl⟩ ⟨Nat.le_of_ble_eq_true rfl, Nat.le_of_ble_eq_true rfl⟩ rfl (Nat.le_of_ble_eq_true rfl) dX9_countAnew_30 hf (fun r_5 hf => ?_)
    refine a_if_eq F hf (tgt := 46) dX9_countAnew_33 (by decide) (fun hf => ?_) (fun hf => ?_)
    · exact a_sub [0, 1] rfl (k_X9_countAnew_b46 F hf hn)
    · refine a_aload_n F dX9_countAnew_36 rfl 0 rfl ?_
      refine a_dup F dX9_countAnew_37 rfl ?_
      refine a_getI F (j := 3) tC_1 rfl rfl (by decide) inW9 w_243 dX9_countAnew_38 ?_
      refine a_iconst F dX9_countAnew_41 ?_
      refine a_iadd F dX9_countAnew_42 ?_
      refine a_putI F (j := 3) tC_1 rfl rfl (by decide) inW9 w_243 tyX9 tyX9_ok nmX9 rfl rfl hf dX9_countAnew_43 (fun σ_11 hf => ?_)
      exact a_sub [0, 1] rfl (k_X9_countAnew_b46 F hf hn)
  · cases hf
    exact a_sub [] rfl (hx0 _ rfl)
set_option maxRecDepth 100000 in
set_option maxHeartbeats 4000000 in
theorem k_X9_countAnew_b0 {l : Launch} {ad : Nat → Nat} {X : Cx} (F : Ok vwCl WS NWs TC cX9_countAnew 2 yX9_countAnew.cls none ad l X) {σ : St} {y : St} (hf : f_X9_countAnew_b0 σ = some y) (hr : RetV vwCl TC cX9_countAnew 2 rm_X9_countAnew ad X y) : At vwCl TC 2 rm_X9_countAnew ad X σ [(0, .ref (ad 1))] [] 0 := by
  unfold f_X9_countAnew_b0 at hf
  refine a_aload_n F dX9_countAnew_0 rfl 0 rfl ?_
  refine a_dup F dX9_countAnew_1 rfl ?_
  refine a_getI F (j := 6) tC_1 rfl rfl (by decide) inW9 w_242 dX9_countAnew_2 ?_
  refine a_iconst F dX9_countAnew_5 ?_
  refine a_iadd F dX9_countAnew_6 ?_
  refine a_putI F (j := 6) tC_1 rfl rfl (by decide) inW9 w_242 tyX9 tyX9_ok nmX9 rfl rfl hf dX9_countAnew_7 (fun σ_1 hf => ?_)
  refine a_aload_n F dX9_countAnew_10 rfl 0 rfl ?_
  refine a_iconst F dX9_countAnew_11 ?_
  refine a_putI F (j := 3) tC_1 rfl rfl (by decide) inW9 w_243 tyX9 tyX9_ok nmX9 rfl rfl hf dX9_countAnew_12 (fun σ_2 hf => ?_)
  refine a_aload_n F dX9_countAnew_15 rfl 0 rfl ?_
  refine a_iconst F dX9_countAnew_16 ?_
  refine a_putI F (j := 4) tC_1 rfl rfl (by decide) inW9 w_244 tyX9 tyX9_ok nmX9 rfl rfl hf dX9_countAnew_17 (fun σ_3 hf => ?_)
  refine a_iconst F dX9_countAnew_20 ?_
  refine a_topI hf (fun x1_4 hf => ?_)
  refine a_istore_n F (lv' := [(1, iv x1_4), (0, .ref (ad 1))]) dX9_countAnew_21 rfl (by decide) rfl ?_
  obtain ⟨q0, he, hf⟩ := jbind_elim hf
  refine a_sub [1, 0] rfl (loop_rule (P := (fun q => ∀ τ z1, (τ, z1) = q → At vwCl TC 2 rm_X9_countAnew ad X τ [(0, .ref (ad 1)), (1, iv z1)] [] 22)) (K := (fun q => (∀ τ, τ = q → At vwCl TC 2 rm_X9_countAnew ad X τ [] [] 80))) ?_ 1000 _ _ he ?_ _ _ rfl)
  · intro q y hy hn hx τ z1 e
    subst e
    exact k_X9_countAnew_b22 F hy (fun τ z1 e => hn _ e _ _ rfl) (fun τ e => (hx _ e) _ rfl)
  · intro σ_12 e
    subst e
    cases hf
    exact hr _ _ dX9_countAnew_80
set_option maxRecDepth 100000 in
set_option maxHeartbeats 4000000 in
theorem c_X9_countAnew {l : Launch}  {σ : St} : CtrV vwCl WS NWs TC l yX9_countAnew cX9_countAnew 2 none rm_X9_countAnew (fun ad => [.ref (ad 1)]) σ (f_X9_countAnew σ) := by
  refine ctrV_of (by decide +kernel) (fun ad => Nat.le_of_ble_eq_true rfl) (fun σ' ad X hf F K => ?_)
  exact k_X9_countAnew_b0 F hf K
abbrev rm_X9_put : Room := { frames := 3, cells := 0, slots := 0, locals := 63 }
set_option maxRecDepth 100000 in
set_option maxHeartbeats 4000000 in
theorem k_X9_put_b0 {l : Launch} {ad : Nat → Nat} {X : Cx} (F : Ok vwCl WS NWs TC cX9_put 6 yX9_put.cls none ad l X) {σ : St} {x1 x2 x3 x4 x5 : Int} {y : St} (hf : f_X9_put_b0 σ x1 x2 x3 x4 x5 = some y) (hr : RetV vwCl TC cX9_put 6 rm_X9_put ad X y) : At vwCl TC 6 rm_X9_put ad X σ [(0, .ref (ad 1)), (1, iv x1), (2, iv x2), (3, iv x3), (4, iv x4), (5, iv x5)] [] 0 := by
  unfold f_X9_put_b0 at hf
  refine a_iload_n F dX9_put_0 rfl 1 rfl ?_
  refine a_if_lt F hf (tgt := 44) dX9_put_1 (by decide) (fun hf => ?_) (fun hf => ?_)
  · cases hf
    exact hr _ _ dX9_put_44
  · refine a_iload_n F dX9_put_4 rfl 1 rfl ?_
    refine a_bipush F dX9_put_5 (by decide +kernel) ?_
    refine a_icmp_ge F hf (tgt := 44) dX9_put_7 (by decide) (fun hf => ?_) (fun hf => ?_)
    · refine a_aload_n F dX9_put_10 rfl 0 rfl ?_
      refine a_getR F (j := 7) tC_1 rfl rfl (by decide) inW9 w_183 dX9_put_11 ?_
      refine a_iload_n F dX9_put_14 rfl 1 rfl ?_
      refine a_iload_n F dX9_put_15 rfl 2 rfl ?_
      refine a_iast F tC_3 rfl (by decide) hf dX9_put_16 (fun σ_1 hf => ?_)
      refine a_aload_n F dX9_put_17 rfl 0 rfl ?_
      refine a_getR F (j := 8) tC_1 rfl rfl (by decide) inW9 w_184 dX9_put_18 ?_
      refine a_iload_n F dX9_put_21 rfl 1 rfl ?_
      refine a_iload_n F dX9_put_22 rfl 3 rfl ?_
      refine a_iast F tC_4 rfl (by decide) hf dX9_put_23 (fun σ_2 hf => ?_)
      refine a_aload_n F dX9_put_24 rfl 0 rfl ?_
      refine a_getR F (j := 9) tC_1 rfl rfl (by decide) inW9 w_1 dX9_put_25 ?_
      refine a_iload_n F dX9_put_28 rfl 1 rfl ?_
      refine a_iload F dX9_put_29 4 rfl ?_
      refine a_iast F tC_5 rfl (by decide) hf dX9_put_31 (fun σ_3 hf => ?_)
      refine a_aload_n F dX9_put_32 rfl 0 rfl ?_
      refine a_getR F (j := 10) tC_1 rfl rfl (by decide) inW9 w_7 dX9_put_33 ?_
      refine a_iload_n F dX9_put_36 rfl 1 rfl ?_
      refine a_iload F dX9_put_37 5 rfl ?_
      refine a_iast F tC_6 rfl (by decide) hf dX9_put_39 (fun σ_4 hf => ?_)
      refine a_aload_n F dX9_put_40 rfl 0 rfl ?_
      refine a_callVV F lk_RX9_51 tC_1 rfl c_X9_countAnew rfl rfl ⟨rfl, rfl⟩ ⟨Nat.le_of_ble_eq_true rfl, Nat.le_of_ble_eq_true rfl⟩ rfl (Nat.le_of_ble_eq_true rfl) dX9_put_41 hf (fun σ_5 hf => ?_)
      cases hf
      exact hr _ _ dX9_put_44
    · cases hf
      exact hr _ _ dX9_put_44
set_option maxRecDepth 100000 in
set_option maxHeartbeats 4000000 in
theorem c_X9_put {l : Launch}  {σ : St} {x1 x2 x3 x4 x5 : Int} : CtrV vwCl WS NWs TC l yX9_put cX9_put 6 none rm_X9_put (fun ad => [.ref (ad 1), iv x1, iv x2, iv x3, iv x4, iv x5]) σ (f_X9_put σ x1 x2 x3 x4 x5) := by
  refine ctrV_of (by decide +kernel) (fun ad => Nat.le_of_ble_eq_true rfl) (fun σ' ad X hf F K => ?_)
  exact k_X9_put_b0 F hf K
abbrev rm_X10_become : Room := { frames := 4, cells := 0, slots := 0, locals := 88 }
set_option maxRecDepth 100000 in
set_option maxHeartbeats 4000000 in
theorem k_X10_become_b0 {l : Launch} {ad : Nat → Nat} {X : Cx} (F : Ok vwCl WS NWs TC cX10_become 5 yX10_become.cls (some .int) ad l X) {σ : St} {x1 x2 x3 : Int} {y : (Int × St)} (hf : f_X10_become_b0 σ x1 x2 x3 = some y) (hr : ∀ v τ, y = (v, τ) → RetI vwCl TC cX10_become 5 rm_X10_become ad X v τ) : At vwCl TC 5 rm_X10_become ad X σ [(0, .ref (ad 0)), (1, iv x1), (2, iv x2), (3, iv x3)] [] 0 := by
  unfold f_X10_become_b0 at hf
  refine a_aload_n F dX10_become_0 rfl 0 rfl ?_
  refine a_getR F (j := 0) tC_0 rfl rfl (by decide) inW10 w_167 dX10_become_1 ?_
  refine a_iload_n F dX10_become_4 rfl 1 rfl ?_
  refine a_callVIr F lk_RX10_112 tC_1 rfl c_X9_has rfl rfl ⟨rfl, rfl⟩ ⟨Nat.le_of_ble_eq_true rfl, Nat.le_of_ble_eq_true rfl⟩ rfl (Nat.le_of_ble_eq_true rfl) dX10_become_5 hf (fun r_1 hf => ?_)
  refine a_if_eq F hf (tgt := 19) dX10_become_8 (by decide) (fun hf => ?_) (fun hf => ?_)
  · refine a_iconst F dX10_become_19 ?_
    cases hf
    exact hr _ _ rfl _ _ dX10_become_20
  · refine a_iload_n F dX10_become_11 rfl 2 rfl ?_
    refine a_iload_n F dX10_become_12 rfl 3 rfl ?_
    refine a_callSIr F lk_RX10_119 c_X10_mayHave rfl rfl ⟨rfl, rfl⟩ ⟨Nat.le_of_ble_eq_true rfl, Nat.le_of_ble_eq_true rfl⟩ rfl (Nat.le_of_ble_eq_true rfl) dX10_become_13 hf (fun r_2 hf => ?_)
    refine a_if_ne F hf (tgt := 21) dX10_become_16 (by decide) (fun hf => ?_) (fun hf => ?_)
    · refine a_iconst F dX10_become_19 ?_
      cases hf
      exact hr _ _ rfl _ _ dX10_become_20
    · refine a_aload_n F dX10_become_21 rfl 0 rfl ?_
      refine a_getR F (j := 0) tC_0 rfl rfl (by decide) inW10 w_167 dX10_become_22 ?_
      refine a_getR F (j := 9) tC_1 rfl rfl (by decide) inW9 w_217 dX10_become_25 ?_
      refine a_iload_n F dX10_become_28 rfl 1 rfl ?_
      refine a_iald F tC_5 rfl (by decide) hf dX10_become_29 (fun hf => ?_)
      refine a_topI hf (fun x4_3 hf => ?_)
      refine a_istore F (lv' := [(4, iv x4_3), (0, .ref (ad 0)), (1, iv x1), (2, iv x2), (3, iv x3)]) dX10_become_30 (by decide) rfl ?_
      refine a_aload_n F dX10_become_32 rfl 1 rfl ?_
      refine a_getR F (j := 1) tC_0 rfl rfl (by decide) inW10 w_254 dX10_become_33 ?_
      refine a_aload_n F dX10_become_36 rfl 1 rfl ?_
      refine a_getR F (j := 0) tC_0 rfl rfl (by decide) inW10 w_167 dX10_become_37 ?_
      refine a_callVV F lk_RX10_82 tC_7 rfl c_X5_remember rfl rfl ⟨rfl, rfl⟩ ⟨Nat.le_of_ble_eq_true rfl, Nat.le_of_ble_eq_true rfl⟩ rfl (Nat.le_of_ble_eq_true rfl) dX10_become_40 hf (fun σ_4 hf => ?_)
      refine a_aload_n F dX10_become_43 rfl 1 rfl ?_
      refine a_getR F (j := 0) tC_0 rfl rfl (by decide) inW10 w_167 dX10_become_44 ?_
      refine a_iload_n F dX10_become_47 rfl 2 rfl ?_
      refine a_aload_n F dX10_become_48 rfl 1 rfl ?_
      refine a_getR F (j := 0) tC_0 rfl rfl (by decide) inW10 w_167 dX10_become_49 ?_
      refine a_getR F (j := 7) tC_1 rfl rfl (by decide) inW9 w_260 dX10_become_52 ?_
      refine a_iload_n F dX10_become_55 rfl 2 rfl ?_
      refine a_iald F tC_3 rfl (by decide) hf dX10_become_56 (fun hf => ?_)
      refine a_aload_n F dX10_become_57 rfl 1 rfl ?_
      refine a_getR F (j := 0) tC_0 rfl rfl (by decide) inW10 w_167 dX10_become_58 ?_
      refine a_getR F (j := 8) tC_1 rfl rfl (by decide) inW9 w_261 dX10_become_61 ?_
      refine a_iload_n F dX10_become_64 rfl 2 rfl ?_
      refine a_iald F tC_4 rfl (by decide) hf dX10_become_65 (fun hf => ?_)
      refine a_iload_n F dX10_become_66 rfl 3 rfl ?_
      refine a_iload_n F dX10_become_67 rfl 4 rfl ?_
      refine a_callVV F lk_RX10_108 tC_1 rfl c_X9_put rfl rfl ⟨rfl, rfl⟩ ⟨Nat.le_of_ble_eq_true rfl, Nat.le_of_ble_eq_true rfl⟩ rfl (Nat.le_of_ble_eq_true rfl) dX10_become_68 hf (fun σ_5 hf => ?_)
      refine a_iload F dX10_become_71 0 rfl ?_
      cases hf
      exact hr _ _ rfl _ _ dX10_become_73
set_option maxRecDepth 100000 in
set_option maxHeartbeats 4000000 in
theorem c_X10_become {l : Launch}  {σ : St} {x1 x2 x3 : Int} : CtrI vwCl WS NWs TC l yX10_become cX10_become 5 (some .int) rm_X10_become (fun ad => [.ref (ad 0), iv x1, iv x2, iv x3]) σ (f_X10_become σ x1 x2 x3) := by
  refine ctrI_of (by decide +kernel) (fun ad => Nat.le_of_ble_eq_true rfl) (fun v σ' ad X hf F K => ?_)
  exact k_X10_become_b0 F hf (fun v τ e => by cases e; exact K)
abbrev rm_X10_beside : Room := { frames := 6, cells := 0, slots := 0, locals := 148 }
set_option maxRecDepth 100000 in
set_option maxHeartbeats 4000000 in
theorem k_X10_beside_b0 {l : Launch} {ad : Nat → Nat} {X : Cx} (F : Ok vwCl WS NWs TC cX10_beside 3 yX10_beside.cls (some .int) ad l X) {σ : St} {x1 x2 : Int} {y : (Int × St)} (hf : f_X10_beside_b0 σ x1 x2 = some y) (hr : ∀ v τ, y = (v, τ) → RetI vwCl TC cX10_beside 3 rm_X10_beside ad X v τ) : At vwCl TC 3 rm_X10_beside ad X σ [(0, .ref (ad 0)), (1, iv x1), (2, iv x2)] [] 0 := by
  unfold f_X10_beside_b0 at hf
  refine a_aload_n F dX10_beside_0 rfl 0 rfl ?_
  refine a_iload_n F dX10_beside_1 rfl 1 rfl ?_
  refine a_iload_n F dX10_beside_2 rfl 2 rfl ?_
  refine a_callVIr F lk_RX10_173 tC_0 rfl c_X10_areTwo rfl rfl ⟨rfl, rfl⟩ ⟨Nat.le_of_ble_eq_true rfl, Nat.le_of_ble_eq_true rfl⟩ rfl (Nat.le_of_ble_eq_true rfl) dX10_beside_3 hf (fun r_1 hf => ?_)
  refine a_if_ne F hf (tgt := 11) dX10_beside_6 (by decide) (fun hf => ?_) (fun hf => ?_)
  · refine a_iconst F dX10_beside_9 ?_
    cases hf
    exact hr _ _ rfl _ _ dX10_beside_10
  · refine a_aload_n F dX10_beside_11 rfl 0 rfl ?_
    refine a_getR F (j := 3) tC_0 rfl rfl (by decide) inW10 w_169 dX10_beside_12 ?_
    refine a_iload_n F dX10_beside_15 rfl 1 rfl ?_
    refine a_callVV F lk_RX10_157 tC_20 rfl (c_X1_drawOnce (by decide)) rfl rfl ⟨rfl, rfl⟩ ⟨Nat.le_of_ble_eq_true rfl, Nat.le_of_ble_eq_true rfl⟩ rfl (Nat.le_of_ble_eq_true rfl) dX10_beside_16 hf (fun σ_2 hf => ?_)
    refine a_aload_n F dX10_beside_19 rfl 0 rfl ?_
    refine a_getR F (j := 3) tC_0 rfl rfl (by decide) inW10 w_169 dX10_beside_20 ?_
    refine a_iload_n F dX10_beside_23 rfl 2 rfl ?_
    refine a_callVIr F lk_RX10_176 tC_20 rfl (c_X1_sharedWith (by decide)) rfl rfl ⟨rfl, rfl⟩ ⟨Nat.le_of_ble_eq_true rfl, Nat.le_of_ble_eq_true rfl⟩ rfl (Nat.le_of_ble_eq_true rfl) dX10_beside_24 hf (fun r_3 hf => ?_)
    refine a_iconst F dX10_beside_27 ?_
    refine a_icmp_le F hf (tgt := 35) dX10_beside_28 (by decide) (fun hf => ?_) (fun hf => ?_)
    · refine a_iconst F dX10_beside_31 ?_
      refine a_goto F (tgt := 36) dX10_beside_32 (by decide) ?_
      cases hf
      exact hr _ _ rfl _ _ dX10_beside_36
    · refine a_iconst F dX10_beside_35 ?_
      cases hf
      exact hr _ _ rfl _ _ dX10_beside_36
set_option maxRecDepth 100000 in
set_option maxHeartbeats 4000000 in
theorem c_X10_beside {l : Launch}  {σ : St} {x1 x2 : Int} : CtrI vwCl WS NWs TC l yX10_beside cX10_beside 3 (some .int) rm_X10_beside (fun ad => [.ref (ad 0), iv x1, iv x2]) σ (f_X10_beside σ x1 x2) := by
  refine ctrI_of (by decide +kernel) (fun ad => Nat.le_of_ble_eq_true rfl) (fun v σ' ad X hf F K => ?_)
  exact k_X10_beside_b0 F hf (fun v τ e => by cases e; exact K)
abbrev rm_X10_border : Room := { frames := 6, cells := 0, slots := 0, locals := 148 }
set_option maxRecDepth 100000 in
set_option maxHeartbeats 4000000 in
theorem k_X10_border_b0 {l : Launch} {ad : Nat → Nat} {X : Cx} (F : Ok vwCl WS NWs TC cX10_border 3 yX10_border.cls (some .int) ad l X) {σ : St} {x1 x2 : Int} {y : (Int × St)} (hf : f_X10_border_b0 σ x1 x2 = some y) (hr : ∀ v τ, y = (v, τ) → RetI vwCl TC cX10_border 3 rm_X10_border ad X v τ) : At vwCl TC 3 rm_X10_border ad X σ [(0, .ref (ad 0)), (1, iv x1), (2, iv x2)] [] 0 := by
  unfold f_X10_border_b0 at hf
  refine a_aload_n F dX10_border_0 rfl 0 rfl ?_
  refine a_iload_n F dX10_border_1 rfl 1 rfl ?_
  refine a_iload_n F dX10_border_2 rfl 2 rfl ?_
  refine a_callVIr F lk_RX10_173 tC_0 rfl c_X10_areTwo rfl rfl ⟨rfl, rfl⟩ ⟨Nat.le_of_ble_eq_true rfl, Nat.le_of_ble_eq_true rfl⟩ rfl (Nat.le_of_ble_eq_true rfl) dX10_border_3 hf (fun r_1 hf => ?_)
  refine a_if_ne F hf (tgt := 11) dX10_border_6 (by decide) (fun hf => ?_) (fun hf => ?_)
  · refine a_iconst F dX10_border_9 ?_
    cases hf
    exact hr _ _ rfl _ _ dX10_border_10
  · refine a_aload_n F dX10_border_11 rfl 0 rfl ?_
    refine a_getR F (j := 3) tC_0 rfl rfl (by decide) inW10 w_169 dX10_border_12 ?_
    refine a_iload_n F dX10_border_15 rfl 1 rfl ?_
    refine a_callVV F lk_RX10_157 tC_20 rfl (c_X1_drawOnce (by decide)) rfl rfl ⟨rfl, rfl⟩ ⟨Nat.le_of_ble_eq_true rfl, Nat.le_of_ble_eq_true rfl⟩ rfl (Nat.le_of_ble_eq_true rfl) dX10_border_16 hf (fun σ_2 hf => ?_)
    refine a_aload_n F dX10_border_19 rfl 0 rfl ?_
    refine a_getR F (j := 3) tC_0 rfl rfl (by decide) inW10 w_169 dX10_border_20 ?_
    refine a_iload_n F dX10_border_23 rfl 2 rfl ?_
    refine a_callVIr F lk_RX10_176 tC_20 rfl (c_X1_sharedWith (by decide)) rfl rfl ⟨rfl, rfl⟩ ⟨Nat.le_of_ble_eq_true rfl, Nat.le_of_ble_eq_true rfl⟩ rfl (Nat.le_of_ble_eq_true rfl) dX10_border_24 hf (fun r_3 hf => ?_)
    cases hf
    exact hr _ _ rfl _ _ dX10_border_27
set_option maxRecDepth 100000 in
set_option maxHeartbeats 4000000 in
theorem c_X10_border {l : Launch}  {σ : St} {x1 x2 : Int} : CtrI vwCl WS NWs TC l yX10_border cX10_border 3 (some .int) rm_X10_border (fun ad => [.ref (ad 0), iv x1, iv x2]) σ (f_X10_border σ x1 x2) := by
  refine ctrI_of (by decide +kernel) (fun ad => Nat.le_of_ble_eq_true rfl) (fun v σ' ad X hf F K => ?_)
  exact k_X10_border_b0 F hf (fun v τ e => by cases e; exact K)
abbrev rm_X3_pipeBetween : Room := { frames := 1, cells := 0, slots := 0, locals := 24 }
set_option maxRecDepth 100000 in
set_option maxHeartbeats 4000000 in
theorem k_X3_pipeBetween_b0 {l : Launch} {ad : Nat → Nat} {X : Cx} (F : Ok vwCl WS NWs TC cX3_pipeBetween 3 yX3_pipeBetween.cls (some .long) ad l X) {σ : St} {x1 x2 : Int} {y : Int} (hf : f_X3_pipeBetween_b0 σ x1 x2 = some y) (hr : RetL vwCl TC cX3_pipeBetween 3 rm_X3_pipeBetween ad X y σ) : At vwCl TC 3 rm_X3_pipeBetween ad X σ [(0, .ref (ad 62)), (1, iv x1), (2, iv x2)] [] 0 := by
  unfold f_X3_pipeBetween_b0 at hf
  refine a_aload_n F dX3_pipeBetween_0 rfl 0 rfl ?_
  refine a_getR F (j := 0) tC_62 rfl rfl (by decide) inW3 w_270 dX3_pipeBetween_1 ?_
  refine a_iload_n F dX3_pipeBetween_4 rfl 1 rfl ?_
  refine a_iload_n F dX3_pipeBetween_5 rfl 2 rfl ?_
  refine a_callVIr F lk_RX3_73 tC_1 rfl c_X9_square rfl rfl ⟨rfl, rfl⟩ ⟨Nat.le_of_ble_eq_true rfl, Nat.le_of_ble_eq_true rfl⟩ rfl (Nat.le_of_ble_eq_true rfl) dX3_pipeBetween_6 hf (fun r_1 hf => ?_)
  refine a_i2l F hf dX3_pipeBetween_9 (fun hf => ?_)
  refine a_bipush F dX3_pipeBetween_10 (by decide +kernel) ?_
  refine a_lshl F dX3_pipeBetween_12 ?_
  refine a_iload_n F dX3_pipeBetween_13 rfl 1 rfl ?_
  refine a_iload_n F dX3_pipeBetween_14 rfl 2 rfl ?_
  refine a_mmin F w_272 w_240 w_145 w_241 (by decide) (Nat.le_of_ble_eq_true rfl) hf dX3_pipeBetween_15 (fun hf => ?_)
  refine a_iconst F dX3_pipeBetween_18 ?_
  refine a_ishl F dX3_pipeBetween_19 ?_
  refine a_i2l F hf dX3_pipeBetween_20 (fun hf => ?_)
  refine a_lor F dX3_pipeBetween_21 ?_
  refine a_iload_n F dX3_pipeBetween_22 rfl 1 rfl ?_
  refine a_iload_n F dX3_pipeBetween_23 rfl 2 rfl ?_
  refine a_mmax F w_273 w_274 w_145 w_275 (by decide) (Nat.le_of_ble_eq_true rfl) hf dX3_pipeBetween_24 (fun hf => ?_)
  refine a_i2l F hf dX3_pipeBetween_27 (fun hf => ?_)
  refine a_lor F dX3_pipeBetween_28 ?_
  cases hf
  exact hr _ _ dX3_pipeBetween_29
set_option maxRecDepth 100000 in
set_option maxHeartbeats 4000000 in
theorem c_X3_pipeBetween {l : Launch}  {σ : St} {x1 x2 : Int} : CtrL vwCl WS NWs TC l yX3_pipeBetween cX3_pipeBetween 3 (some .long) rm_X3_pipeBetween (fun ad => [.ref (ad 62), iv x1, iv x2]) σ (rd (f_X3_pipeBetween σ x1 x2) σ) := by
  refine ctrL_of (by decide +kernel) (fun ad => Nat.le_of_ble_eq_true rfl) (fun v σ' ad X hf F K => ?_)
  obtain ⟨hf2, e2⟩ := rd_elim hf
  subst e2
  exact k_X3_pipeBetween_b0 F hf2 K
abbrev rm_X3_reachFrom : Room := { frames := 2, cells := 0, slots := 0, locals := 46 }
set_option maxRecDepth 100000 in
set_option maxHeartbeats 4000000 in
theorem k_X3_reachFrom_b2 {l : Launch} {ad : Nat → Nat} {X : Cx} (F : Ok vwCl WS NWs TC cX3_reachFrom 3 yX3_reachFrom.cls none ad l X) {σ : St} {x1 x2 : Int} {y : ((St × Int) ⊕ St)} (hf : f_X3_reachFrom_b2 σ x1 x2 = some y) (hn : ∀ τ z2, y = .inl (τ, z2) → At vwCl TC 3 rm_X3_reachFrom ad X τ [(0, .ref (ad 62)), (1, iv x1), (2, iv z2)] [] 2) (hx0 : ∀ τ, y = .inr (τ) → At vwCl TC 3 rm_X3_reachFrom ad X τ [] [] 69) : At vwCl TC 3 rm_X3_reachFrom ad X σ [(0, .ref (ad 62)), (1, iv x1), (2, iv x2)] [] 2 := by
  unfold f_X3_reachFrom_b2 at hf
  refine a_iload_n F dX3_reachFrom_2 rfl 2 rfl ?_
  refine a_aload_n F dX3_reachFrom_3 rfl 0 rfl ?_
  refine a_getR F (j := 0) tC_62 rfl rfl (by decide) inW3 w_270 dX3_reachFrom_4 ?_
  refine a_getI F (j := 4) tC_1 rfl rfl (by decide) inW9 w_276 dX3_reachFrom_7 ?_
  refine a_icmp_ge F hf (tgt := 69) dX3_reachFrom_10 (by decide) (fun hf => ?_) (fun hf => ?_)
  · refine a_aload_n F dX3_reachFrom_13 rfl 0 rfl ?_
    refine a_getR F (j := 4) tC_62 rfl rfl (by decide) inW3 w_277 dX3_reachFrom_14 ?_
    refine a_iload_n F dX3_reachFrom_17 rfl 2 rfl ?_
    refine a_lald F tC_64 rfl (by decide) hf dX3_reachFrom_18 (fun hf => ?_)
    refine a_ldc2 F (n := (-1)) (by decide +kernel) w_278 dX3_reachFrom_19 ?_
    refine a_lcmp_eq F hf (tgt := 63) dX3_reachFrom_22 dX3_reachFrom_23 (by decide) (fun hf => ?_) (fun hf => ?_)
    · refine a_iinc F hf dX3_reachFrom_63 2 rfl (by decide) (fun x2_2 hf => ⟨[(2, iv x2_2), (0, .ref (ad 62)), (1, iv x1)], rfl, ?_⟩)
      refine a_goto F (tgt := 2) dX3_reachFrom_66 (by decide) ?_
      cases hf
      exact a_sub [1, 2, 0] rfl (hn _ _ rfl)
    · refine a_aload_n F dX3_reachFrom_26 rfl 0 rfl ?_
      refine a_getR F (j := 4) tC_62 rfl rfl (by decide) inW3 w_277 dX3_reachFrom_27 ?_
      refine a_iload_n F dX3_reachFrom_30 rfl 2 rfl ?_
      refine a_aload_n F dX3_reachFrom_31 rfl 0 rfl ?_
      refine a_getR F (j := 4) tC_62 rfl rfl (by decide) inW3 w_277 dX3_reachFrom_32 ?_
      refine a_iload_n F dX3_reachFrom_35 rfl 2 rfl ?_
      refine a_lald F tC_64 rfl (by decide) hf dX3_reachFrom_36 (fun hf => ?_)
      refine a_aload_n F dX3_reachFrom_37 rfl 0 rfl ?_
      refine a_aload_n F dX3_reachFrom_38 rfl 0 rfl ?_
      refine a_getR F (j := 0) tC_62 rfl rfl (by decide) inW3 w_270 dX3_reachFrom_39 ?_
      refine a_getR F (j := 5) tC_1 rfl rfl (by decide) inW9 w_279 dX3_reachFrom_42 ?_
      refine a_iload_n F dX3_reachFrom_45 rfl 1 rfl ?_
      refine a_iald F tC_2 rfl (by decide) hf dX3_reachFrom_46 (fun hf => ?_)
      refine a_aload_n F dX3_reachFrom_47 rfl 0 rfl ?_
      refine a_getR F (j := 0) tC_62 rfl rfl (by decide) inW3 w_270 dX3_reachFrom_48 ?_
      refine a_getR F (j := 5) tC_1 rfl rfl (by decide) inW9 w_279 dX3_reachFrom_51 ?_
      refine a_iload_n F dX3_reachFrom_54 rfl 2 rfl ?_
      refine a_iald F tC_2 rfl (by decide) hf dX3_reachFrom_55 (fun hf => ?_)
      refine a_callVLr F lk_RX3_63 tC_62 rfl c_X3_pipeBetween rfl rfl ⟨rfl, rfl⟩ ⟨Nat.le_of_ble_eq_true rfl, Nat.le_of_ble_eq_true rfl⟩ rfl (Nat.le_of_ble_eq_true rfl) dX3_reachFrom_56 hf (fun r_3 hf => ?_)
      refine a_mmin_long F w_285 w_286 w_145 w_287 (by decide) (Nat.le_of_ble_eq_true rfl) hf dX3_reachFrom_59 (fun hf => ?_)
      refine a_last F tC_64 rfl (by decide) hf dX3_reachFrom_62 (fun σ_4 hf => ?_)
      refine a_iinc F hf dX3_reachFrom_63 2 rfl (by decide) (fun x2_5 hf => ⟨[(2, iv x2_5), (0, .ref (ad 62)), (1, iv x1)], rfl, ?_⟩)
      refine a_goto F (tgt := 2) dX3_reachFrom_66 (by decide) ?_
      cases hf
      exact a_sub [1, 2, 0] rfl (hn _ _ rfl)
  · cases hf
    exact a_sub [] rfl (hx0 _ rfl)
set_option maxRecDepth 100000 in
set_option maxHeartbeats 4000000 in
theorem k_X3_reachFrom_b0 {l : Launch} {ad : Nat → Nat} {X : Cx} (F : Ok vwCl WS NWs TC cX3_reachFrom 3 yX3_reachFrom.cls none ad l X) {σ : St} {x1 : Int} {y : St} (hf : f_X3_reachFrom_b0 σ x1 = some y) (hr : RetV vwCl TC cX3_reachFrom 3 rm_X3_reachFrom ad X y) : At vwCl TC 3 rm_X3_reachFrom ad X σ [(0, .ref (ad 62)), (1, iv x1)] [] 0 := by
  unfold f_X3_reachFrom_b0 at hf
  refine a_iconst F dX3_reachFrom_0 ?_
  refine a_topI hf (fun x2_1 hf => ?_)
  refine a_istore_n F (lv' := [(2, iv x2_1), (0, .ref (ad 62)), (1, iv x1)]) dX3_reachFrom_1 rfl (by decide) rfl ?_
  obtain ⟨q0, he, hf⟩ := jbind_elim hf
  refine a_sub [1, 2, 0] rfl (loop_rule (P := (fun q => ∀ τ z2, (τ, z2) = q → At vwCl TC 3 rm_X3_reachFrom ad X τ [(0, .ref (ad 62)), (1, iv x1), (2, iv z2)] [] 2)) (K := (fun q => (∀ τ, τ = q → At vwCl TC 3 rm_X3_reachFrom ad X τ [] [] 69))) ?_ 1000 _ _ he ?_ _ _ rfl)
  · intro q y hy hn hx τ z2 e
    subst e
    exact k_X3_reachFrom_b2 F hy (fun τ z2 e => hn _ e _ _ rfl) (fun τ e => (hx _ e) _ rfl)
  · intro σ_6 e
    subst e
    cases hf
    exact hr _ _ dX3_reachFrom_69
set_option maxRecDepth 100000 in
set_option maxHeartbeats 4000000 in
theorem c_X3_reachFrom {l : Launch}  {σ : St} {x1 : Int} : CtrV vwCl WS NWs TC l yX3_reachFrom cX3_reachFrom 3 none rm_X3_reachFrom (fun ad => [.ref (ad 62), iv x1]) σ (f_X3_reachFrom σ x1) := by
  refine ctrV_of (by decide +kernel) (fun ad => Nat.le_of_ble_eq_true rfl) (fun σ' ad X hf F K => ?_)
  exact k_X3_reachFrom_b0 F hf K
abbrev rm_X3_leastReach : Room := { frames := 0, cells := 0, slots := 0, locals := 0 }
set_option maxRecDepth 100000 in
set_option maxHeartbeats 4000000 in
theorem k_X3_leastReach_b4 {l : Launch} {ad : Nat → Nat} {X : Cx} (F : Ok vwCl WS NWs TC cX3_leastReach 3 yX3_leastReach.cls (some .int) ad l X) {σ : St} {x1 x2 : Int} {y : ((Int × Int) ⊕ Int)} (hf : f_X3_leastReach_b4 σ x1 x2 = some y) (hn : ∀ z1 z2, y = .inl (z1, z2) → At vwCl TC 3 rm_X3_leastReach ad X σ [(0, .ref (ad 62)), (1, iv z1), (2, iv z2)] [] 4) (hx0 : ∀ z1, y = .inr (z1) → At vwCl TC 3 rm_X3_leastReach ad X σ [(1, iv z1)] [] 65) : At vwCl TC 3 rm_X3_leastReach ad X σ [(0, .ref (ad 62)), (1, iv x1), (2, iv x2)] [] 4 := by
  unfold f_X3_leastReach_b4 at hf
  refine a_iload_n F dX3_leastReach_4 rfl 2 rfl ?_
  refine a_aload_n F dX3_leastReach_5 rfl 0 rfl ?_
  refine a_getR F (j := 0) tC_62 rfl rfl (by decide) inW3 w_270 dX3_leastReach_6 ?_
  refine a_getI F (j := 4) tC_1 rfl rfl (by decide) inW9 w_276 dX3_leastReach_9 ?_
  refine a_icmp_ge F hf (tgt := 65) dX3_leastReach_12 (by decide) (fun hf => ?_) (fun hf => ?_)
  · refine a_aload_n F dX3_leastReach_15 rfl 0 rfl ?_
    refine a_getR F (j := 4) tC_62 rfl rfl (by decide) inW3 w_277 dX3_leastReach_16 ?_
    refine a_iload_n F dX3_leastReach_19 rfl 2 rfl ?_
    refine a_lald F tC_64 rfl (by decide) hf dX3_leastReach_20 (fun hf => ?_)
    refine a_ldc2 F (n := (-1)) (by decide +kernel) w_278 dX3_leastReach_21 ?_
    refine a_lcmp_eq F hf (tgt := 59) dX3_leastReach_24 dX3_leastReach_25 (by decide) (fun hf => ?_) (fun hf => ?_)
    · refine a_iinc F hf dX3_leastReach_59 2 rfl (by decide) (fun x2_3 hf => ⟨[(2, iv x2_3), (0, .ref (ad 62)), (1, iv x1)], rfl, ?_⟩)
      refine a_goto F (tgt := 4) dX3_leastReach_62 (by decide) ?_
      cases hf
      exact a_sub [1, 2, 0] rfl (hn _ _ rfl)
    · refine a_aload_n F dX3_leastReach_28 rfl 0 rfl ?_
      refine a_getR F (j := 4) tC_62 rfl rfl (by decide) inW3 w_277 dX3_leastReach_29 ?_
      refine a_iload_n F dX3_leastReach_32 rfl 1 rfl ?_
      refine a_lald F tC_64 rfl (by decide) hf dX3_leastReach_33 (fun hf => ?_)
      refine a_ldc2 F (n := (-1)) (by decide +kernel) w_278 dX3_leastReach_34 ?_
      refine a_lcmp_eq F hf (tgt := 57) dX3_leastReach_37 dX3_leastReach_38 (by decide) (fun hf => ?_) (fun hf => ?_)
      · refine a_iload_n F dX3_leastReach_57 rfl 2 rfl ?_
        refine a_topI hf (fun x1_4 hf => ?_)
        refine a_istore_n F (lv' := [(1, iv x1_4), (0, .ref (ad 62)), (2, iv x2)]) dX3_leastReach_58 rfl (by decide) rfl ?_
        refine a_iinc F hf dX3_leastReach_59 2 rfl (by decide) (fun x2_5 hf => ⟨[(2, iv x2_5), (1, iv x1_4), (0, .ref (ad 62))], rfl, ?_⟩)
        refine a_goto F (tgt := 4) dX3_leastReach_62 (by decide) ?_
        cases hf
        exact a_sub [2, 1, 0] rfl (hn _ _ rfl)
      · refine a_aload_n F dX3_leastReach_41 rfl 0 rfl ?_
        refine a_getR F (j := 4) tC_62 rfl rfl (by decide) inW3 w_277 dX3_leastReach_42 ?_
        refine a_iload_n F dX3_leastReach_45 rfl 2 rfl ?_
        refine a_lald F tC_64 rfl (by decide) hf dX3_leastReach_46 (fun hf => ?_)
        refine a_aload_n F dX3_leastReach_47 rfl 0 rfl ?_
        refine a_getR F (j := 4) tC_62 rfl rfl (by decide) inW3 w_277 dX3_leastReach_48 ?_
        refine a_iload_n F dX3_leastReach_51 rfl 1 rfl ?_
        refine a_lald F tC_64 rfl (by decide) hf dX3_leastReach_52 (fun hf => ?_)
        refine a_lcmp_ge F hf (tgt := 59) dX3_leastReach_53 dX3_leastReach_54 (by decide) (fun hf => ?_) (fun hf => ?_)
        · refine a_iload_n F dX3_leastReach_57 rfl 2 rfl ?_
          refine a_topI hf (fun x1_7 hf => ?_)
          refine a_istore_n F (lv' := [(1, iv x1_7), (0, .ref (ad 62)), (2, iv x2)]) dX3_leastReach_58 rfl (by decide) rfl ?_
          refine a_iinc F hf dX3_leastReach_59 2 rfl (by decide) (fun x2_8 hf => ⟨[(2, iv x2_8), (1, iv x1_7), (0, .ref (ad 62))], rfl, ?_⟩)
          refine a_goto F (tgt := 4) dX3_leastReach_62 (by decide) ?_
          cases hf
          exact a_sub [2, 1, 0] rfl (hn _ _ rfl)
        · refine a_iinc F hf dX3_leastReach_59 2 rfl (by decide) (fun x2_6 hf => ⟨[(2, iv x2_6), (0, .ref (ad 62)), (1, iv x1)], rfl, ?_⟩)
          refine a_goto F (tgt := 4) dX3_leastReach_62 (by decide) ?_
          cases hf
          exact a_sub [1, 2, 0] rfl (hn _ _ rfl)
  · cases hf
    exact a_sub [1] rfl (hx0 _ rfl)
set_option maxRecDepth 100000 in
set_option maxHeartbeats 4000000 in
theorem k_X3_leastReach_b0 {l : Launch} {ad : Nat → Nat} {X : Cx} (F : Ok vwCl WS NWs TC cX3_leastReach 3 yX3_leastReach.cls (some .int) ad l X) {σ : St} {y : Int} (hf : f_X3_leastReach_b0 σ = some y) (hr : RetI vwCl TC cX3_leastReach 3 rm_X3_leastReach ad X y σ) : At vwCl TC 3 rm_X3_leastReach ad X σ [(0, .ref (ad 62))] [] 0 := by
  unfold f_X3_leastReach_b0 at hf
  refine a_iconst F dX3_leastReach_0 ?_
  refine a_topI hf (fun x1_1 hf => ?_)
  refine a_istore_n F (lv' := [(1, iv x1_1), (0, .ref (ad 62))]) dX3_leastReach_1 rfl (by decide) rfl ?_
  refine a_iconst F dX3_leastReach_2 ?_
  refine a_topI hf (fun x2_2 hf => ?_)
  refine a_istore_n F (lv' := [(2, iv x2_2), (1, iv x1_1), (0, .ref (ad 62))]) dX3_leastReach_3 rfl (by decide) rfl ?_
  obtain ⟨q0, he, hf⟩ := jbind_elim hf
  refine a_sub [2, 1, 0] rfl (loop_rule (P := (fun q => ∀ z1 z2, (z1, z2) = q → At vwCl TC 3 rm_X3_leastReach ad X σ [(0, .ref (ad 62)), (1, iv z1), (2, iv z2)] [] 4)) (K := (fun q => (∀ z1, z1 = q → At vwCl TC 3 rm_X3_leastReach ad X σ [(1, iv z1)] [] 65))) ?_ 1000 _ _ he ?_ _ _ rfl)
  · intro q y hy hn hx z1 z2 e
    subst e
    exact k_X3_leastReach_b4 F hy (fun z1 z2 e => hn _ e _ _ rfl) (fun z1 e => (hx _ e) _ rfl)
  · intro x1_9 e
    subst e
    refine a_iload_n F dX3_leastReach_65 rfl 0 rfl ?_
    cases hf
    exact hr _ _ dX3_leastReach_66
set_option maxRecDepth 100000 in
set_option maxHeartbeats 4000000 in
theorem c_X3_leastReach {l : Launch}  {σ : St} : CtrI vwCl WS NWs TC l yX3_leastReach cX3_leastReach 3 (some .int) rm_X3_leastReach (fun ad => [.ref (ad 62)]) σ (rd (f_X3_leastReach σ) σ) := by
  refine ctrI_of (by decide +kernel) (fun ad => Nat.le_of_ble_eq_true rfl) (fun v σ' ad X hf F K => ?_)
  obtain ⟨hf2, e2⟩ := rd_elim hf
  subst e2
  exact k_X3_leastReach_b0 F hf2 K
abbrev rm_X3_addInOrder : Room := { frames := 0, cells := 0, slots := 0, locals := 0 }
set_option maxRecDepth 100000 in
set_option maxHeartbeats 4000000 in
theorem k_X3_addInOrder_b23 {l : Launch} {ad : Nat → Nat} {X : Cx} (F : Ok vwCl WS NWs TC cX3_addInOrder 5 yX3_addInOrder.cls none ad l X) {σ : St} {x1 x3 x4 : Int} {y : ((St × Int × Int) ⊕ (St × Int))} (hf : f_X3_addInOrder_b23 σ x1 x3 x4 = some y) (hn : ∀ τ z3 z4, y = .inl (τ, z3, z4) → At vwCl TC 5 rm_X3_addInOrder ad X τ [(0, .ref (ad 62)), (1, jv x1), (3, iv z3), (4, iv z4)] [] 23) (hx0 : ∀ τ z3, y = .inr ((τ, z3)) → At vwCl TC 5 rm_X3_addInOrder ad X τ [(0, .ref (ad 62)), (1, jv x1), (3, iv z3)] [] 65) : At vwCl TC 5 rm_X3_addInOrder ad X σ [(0, .ref (ad 62)), (1, jv x1), (3, iv x3), (4, iv x4)] [] 23 := by
  unfold f_X3_addInOrder_b23 at hf
  refine a_iload F dX3_addInOrder_23 3 rfl ?_
  refine a_if_lt F hf (tgt := 65) dX3_addInOrder_25 (by decide) (fun hf => ?_) (fun hf => ?_)
  · cases hf
    exact a_sub [0, 1, 2] rfl (hx0 _ _ rfl)
  · refine a_aload_n F dX3_addInOrder_28 rfl 0 rfl ?_
    refine a_getR F (j := 3) tC_62 rfl rfl (by decide) inW3 w_289 dX3_addInOrder_29 ?_
    refine a_iload F dX3_addInOrder_32 3 rfl ?_
    refine a_lald F tC_63 rfl (by decide) hf dX3_addInOrder_34 (fun hf => ?_)
    refine a_lload_n F dX3_addInOrder_35 rfl 1 rfl ?_
    refine a_lcmp_le F hf (tgt := 65) dX3_addInOrder_36 dX3_addInOrder_37 (by decide) (fun hf => ?_) (fun hf => ?_)
    · refine a_aload_n F dX3_addInOrder_40 rfl 0 rfl ?_
      refine a_getR F (j := 3) tC_62 rfl rfl (by decide) inW3 w_289 dX3_addInOrder_41 ?_
      refine a_iload F dX3_addInOrder_44 3 rfl ?_
      refine a_iconst F dX3_addInOrder_46 ?_
      refine a_iadd F dX3_addInOrder_47 ?_
      refine a_aload_n F dX3_addInOrder_48 rfl 0 rfl ?_
      refine a_getR F (j := 3) tC_62 rfl rfl (by decide) inW3 w_289 dX3_addInOrder_49 ?_
      refine a_iload F dX3_addInOrder_52 3 rfl ?_
      refine a_lald F tC_63 rfl (by decide) hf dX3_addInOrder_54 (fun hf => ?_)
      refine a_last F tC_63 rfl (by decide) hf dX3_addInOrder_55 (fun σ_3 hf => ?_)
      refine a_iload F dX3_addInOrder_56 3 rfl ?_
      refine a_topI hf (fun x3_4 hf => ?_)
      refine a_istore_n F (lv' := [(3, iv x3_4), (0, .ref (ad 62)), (1, jv x1), (4, iv x4)]) dX3_addInOrder_58 rfl (by decide) rfl ?_
      refine a_iinc F hf dX3_addInOrder_59 3 rfl (by decide) (fun x4_5 hf => ⟨[(4, iv x4_5), (3, iv x3_4), (0, .ref (ad 62)), (1, jv x1)], rfl, ?_⟩)
      refine a_goto F (tgt := 23) dX3_addInOrder_62 (by decide) ?_
      cases hf
      exact a_sub [2, 3, 1, 0] rfl (hn _ _ _ rfl)
    · cases hf
      exact a_sub [0, 1, 2] rfl (hx0 _ _ rfl)
set_option maxRecDepth 100000 in
set_option maxHeartbeats 4000000 in
theorem k_X3_addInOrder_b0 {l : Launch} {ad : Nat → Nat} {X : Cx} (F : Ok vwCl WS NWs TC cX3_addInOrder 5 yX3_addInOrder.cls none ad l X) {σ : St} {x1 : Int} {y : St} (hf : f_X3_addInOrder_b0 σ x1 = some y) (hr : RetV vwCl TC cX3_addInOrder 5 rm_X3_addInOrder ad X y) : At vwCl TC 5 rm_X3_addInOrder ad X σ [(0, .ref (ad 62)), (1, jv x1)] [] 0 := by
  unfold f_X3_addInOrder_b0 at hf
  refine a_aload_n F dX3_addInOrder_0 rfl 0 rfl ?_
  refine a_getI F (j := 2) tC_62 rfl rfl (by decide) inW3 w_288 dX3_addInOrder_1 ?_
  refine a_bipush F dX3_addInOrder_4 (by decide +kernel) ?_
  refine a_icmp_lt F hf (tgt := 10) dX3_addInOrder_6 (by decide) (fun hf => ?_) (fun hf => ?_)
  · refine a_aload_n F dX3_addInOrder_10 rfl 0 rfl ?_
    refine a_getI F (j := 2) tC_62 rfl rfl (by decide) inW3 w_288 dX3_addInOrder_11 ?_
    refine a_topI hf (fun x3_1 hf => ?_)
    refine a_istore_n F (lv' := [(3, iv x3_1), (0, .ref (ad 62)), (1, jv x1)]) dX3_addInOrder_14 rfl (by decide) rfl ?_
    refine a_aload_n F dX3_addInOrder_15 rfl 1 rfl ?_
    refine a_getI F (j := 2) tC_62 rfl rfl (by decide) inW3 w_288 dX3_addInOrder_16 ?_
    refine a_iconst F dX3_addInOrder_19 ?_
    refine a_isub F dX3_addInOrder_20 ?_
    refine a_topI hf (fun x4_2 hf => ?_)
    refine a_istore F (lv' := [(4, iv x4_2), (3, iv x3_1), (0, .ref (ad 62)), (1, jv x1)]) dX3_addInOrder_21 (by decide) rfl ?_
    obtain ⟨q0, he, hf⟩ := jbind_elim hf
    refine a_sub [2, 3, 1, 0] rfl (loop_rule (P := (fun q => ∀ τ z3 z4, (τ, z3, z4) = q → At vwCl TC 5 rm_X3_addInOrder ad X τ [(0, .ref (ad 62)), (1, jv x1), (3, iv z3), (4, iv z4)] [] 23)) (K := (fun q => (∀ τ z3, (τ, z3) = q → At vwCl TC 5 rm_X3_addInOrder ad X τ [(0, .ref (ad 62)), (1, jv x1), (3, iv z3)] [] 65))) ?_ 1000 _ _ he ?_ _ _ _ rfl)
    · intro q y hy hn hx τ z3 z4 e
      subst e
      exact k_X3_addInOrder_b23 F hy (fun τ z3 z4 e => hn _ e _ _ _ rfl) (fun τ z3 e => (hx _ e) _ _ rfl)
    · intro σ_6 x3_7 e
      subst e
      refine a_aload_n F dX3_addInOrder_65 rfl 0 rfl ?_
      refine a_getR F (j := 3) tC_62 rfl rfl (by decide) inW3 w_289 dX3_addInOrder_66 ?_
      refine a_iload_n F dX3_addInOrder_69 rfl 2 rfl ?_
      refine a_lload_n F dX3_addInOrder_70 rfl 1 rfl ?_
      refine a_last F tC_63 rfl (by decide) hf dX3_addInOrder_71 (fun σ_8 hf => ?_)
      refine a_aload_n F dX3_addInOrder_72 rfl 0 rfl ?_
      refine a_dup F dX3_addInOrder_73 rfl ?_
      refine a_getI F (j := 2) tC_62 rfl rfl (by decide) inW3 w_288 dX3_addInOrder_74 ?_
      refine a_iconst F dX3_addInOrder_77 ?_
      refine a_iadd F dX3_addInOrder_78 ?_
      refine a_putI F (j := 2) tC_62 rfl rfl (by decide) inW3 w_288 tyX3 tyX3_ok nmX3 rfl rfl hf dX3_addInOrder_79 (fun σ_9 hf => ?_)
      cases hf
      exact hr _ _ dX3_addInOrder_82
  · cases hf
    exact hr _ _ dX3_addInOrder_9
set_option maxRecDepth 100000 in
set_option maxHeartbeats 4000000 in
theorem c_X3_addInOrder {l : Launch}  {σ : St} {x1 : Int} : CtrV vwCl WS NWs TC l yX3_addInOrder cX3_addInOrder 5 none rm_X3_addInOrder (fun ad => [.ref (ad 62), jv x1]) σ (f_X3_addInOrder σ x1) := by
  refine ctrV_of (by decide +kernel) (fun ad => Nat.le_of_ble_eq_true rfl) (fun σ' ad X hf F K => ?_)
  exact k_X3_addInOrder_b0 F hf K
abbrev rm_X3_joinOnce : Room := { frames := 3, cells := 0, slots := 0, locals := 68 }
set_option maxRecDepth 100000 in
set_option maxHeartbeats 4000000 in
theorem k_X3_joinOnce_b45 {l : Launch} {ad : Nat → Nat} {X : Cx} (F : Ok vwCl WS NWs TC cX3_joinOnce 3 yX3_joinOnce.cls none ad l X) {σ : St} {x1 x2 : Int} {y : ((St × Int × Int) ⊕ St)} (hf : f_X3_joinOnce_b45 σ x1 x2 = some y) (hn : ∀ τ z1 z2, y = .inl (τ, z1, z2) → At vwCl TC 3 rm_X3_joinOnce ad X τ [(0, .ref (ad 62)), (1, iv z1), (2, iv z2)] [] 45) (hx0 : ∀ τ, y = .inr (τ) → At vwCl TC 3 rm_X3_joinOnce ad X τ [] [] 91) : At vwCl TC 3 rm_X3_joinOnce ad X σ [(0, .ref (ad 62)), (1, iv x1), (2, iv x2)] [] 45 := by
  unfold f_X3_joinOnce_b45 at hf
  refine a_iload_n F dX3_joinOnce_45 rfl 2 rfl ?_
  refine a_aload_n F dX3_joinOnce_46 rfl 0 rfl ?_
  refine a_getR F (j := 0) tC_62 rfl rfl (by decide) inW3 w_270 dX3_joinOnce_47 ?_
  refine a_getI F (j := 4) tC_1 rfl rfl (by decide) inW9 w_276 dX3_joinOnce_50 ?_
  refine a_icmp_ge F hf (tgt := 91) dX3_joinOnce_53 (by decide) (fun hf => ?_) (fun hf => ?_)
  · refine a_aload_n F dX3_joinOnce_56 rfl 0 rfl ?_
    refine a_getR F (j := 4) tC_62 rfl rfl (by decide) inW3 w_277 dX3_joinOnce_57 ?_
    refine a_iload_n F dX3_joinOnce_60 rfl 1 rfl ?_
    refine a_ldc2 F (n := (-1)) (by decide +kernel) w_278 dX3_joinOnce_61 ?_
    refine a_last F tC_64 rfl (by decide) hf dX3_joinOnce_64 (fun σ_6 hf => ?_)
    refine a_aload_n F dX3_joinOnce_65 rfl 0 rfl ?_
    refine a_iload_n F dX3_joinOnce_66 rfl 1 rfl ?_
    refine a_callVV F lk_RX3_45 tC_62 rfl c_X3_reachFrom rfl rfl ⟨rfl, rfl⟩ ⟨Nat.le_of_ble_eq_true rfl, Nat.le_of_ble_eq_true rfl⟩ rfl (Nat.le_of_ble_eq_true rfl) dX3_joinOnce_67 hf (fun σ_7 hf => ?_)
    refine a_aload_n F dX3_joinOnce_70 rfl 0 rfl ?_
    refine a_callVIr F lk_RX3_49 tC_62 rfl c_X3_leastReach rfl rfl ⟨rfl, rfl⟩ ⟨Nat.le_of_ble_eq_true rfl, Nat.le_of_ble_eq_true rfl⟩ rfl (Nat.le_of_ble_eq_true rfl) dX3_joinOnce_71 hf (fun r_8 hf => ?_)
    refine a_topI hf (fun x1_9 hf => ?_)
    refine a_istore_n F (lv' := [(1, iv x1_9), (0, .ref (ad 62)), (2, iv x2)]) dX3_joinOnce_74 rfl (by decide) rfl ?_
    refine a_aload_n F dX3_joinOnce_75 rfl 1 rfl ?_
    refine a_aload_n F dX3_joinOnce_76 rfl 1 rfl ?_
    refine a_getR F (j := 4) tC_62 rfl rfl (by decide) inW3 w_277 dX3_joinOnce_77 ?_
    refine a_iload_n F dX3_joinOnce_80 rfl 0 rfl ?_
    refine a_lald F tC_64 rfl (by decide) hf dX3_joinOnce_81 (fun hf => ?_)
    refine a_callVV F lk_RX3_53 tC_62 rfl c_X3_addInOrder rfl rfl ⟨rfl, rfl⟩ ⟨Nat.le_of_ble_eq_true rfl, Nat.le_of_ble_eq_true rfl⟩ rfl (Nat.le_of_ble_eq_true rfl) dX3_joinOnce_82 hf (fun σ_10 hf => ?_)
    refine a_iinc F hf dX3_joinOnce_85 2 rfl (by decide) (fun x2_11 hf => ⟨[(2, iv x2_11), (1, iv x1_9), (0, .ref (ad 62))], rfl, ?_⟩)
    refine a_goto F (tgt := 45) dX3_joinOnce_88 (by decide) ?_
    cases hf
    exact a_sub [2, 1, 0] rfl (hn _ _ _ rfl)
  · cases hf
    exact a_sub [] rfl (hx0 _ rfl)
set_option maxRecDepth 100000 in
set_option maxHeartbeats 4000000 in
theorem k_X3_joinOnce_b0 {l : Launch} {ad : Nat → Nat} {X : Cx} (F : Ok vwCl WS NWs TC cX3_joinOnce 3 yX3_joinOnce.cls none ad l X) {σ : St} {y : St} (hf : f_X3_joinOnce_b0 σ = some y) (hr : RetV vwCl TC cX3_joinOnce 3 rm_X3_joinOnce ad X y) : At vwCl TC 3 rm_X3_joinOnce ad X σ [(0, .ref (ad 62))] [] 0 := by
  unfold f_X3_joinOnce_b0 at hf
  refine a_aload_n F dX3_joinOnce_0 rfl 0 rfl ?_
  refine a_getI F (j := 1) tC_62 rfl rfl (by decide) inW3 w_290 dX3_joinOnce_1 ?_
  refine a_aload_n F dX3_joinOnce_4 rfl 0 rfl ?_
  refine a_getR F (j := 0) tC_62 rfl rfl (by decide) inW3 w_270 dX3_joinOnce_5 ?_
  refine a_getI F (j := 6) tC_1 rfl rfl (by decide) inW9 w_291 dX3_joinOnce_8 ?_
  refine a_icmp_ne F hf (tgt := 15) dX3_joinOnce_11 (by decide) (fun hf => ?_) (fun hf => ?_)
  · cases hf
    exact hr _ _ dX3_joinOnce_14
  · refine a_aload_n F dX3_joinOnce_15 rfl 0 rfl ?_
    refine a_aload_n F dX3_joinOnce_16 rfl 0 rfl ?_
    refine a_getR F (j := 0) tC_62 rfl rfl (by decide) inW3 w_270 dX3_joinOnce_17 ?_
    refine a_getI F (j := 6) tC_1 rfl rfl (by decide) inW9 w_291 dX3_joinOnce_20 ?_
    refine a_putI F (j := 1) tC_62 rfl rfl (by decide) inW3 w_290 tyX3 tyX3_ok nmX3 rfl rfl hf dX3_joinOnce_23 (fun σ_1 hf => ?_)
    refine a_aload_n F dX3_joinOnce_26 rfl 0 rfl ?_
    refine a_iconst F dX3_joinOnce_27 ?_
    refine a_putI F (j := 2) tC_62 rfl rfl (by decide) inW3 w_288 tyX3 tyX3_ok nmX3 rfl rfl hf dX3_joinOnce_28 (fun σ_2 hf => ?_)
    refine a_aload_n F dX3_joinOnce_31 rfl 0 rfl ?_
    refine a_getR F (j := 4) tC_62 rfl rfl (by decide) inW3 w_277 dX3_joinOnce_32 ?_
    refine a_ldc2 F (n := 1152921504606846976) (by decide +kernel) w_292 dX3_joinOnce_35 ?_
    refine a_callSV F lk_RX3_36 (c_J7_fill_d0a16 tC_64 (by decide)) rfl rfl ⟨rfl, rfl⟩ ⟨Nat.le_of_ble_eq_true rfl, Nat.le_of_ble_eq_true rfl⟩ rfl (Nat.le_of_ble_eq_true rfl) dX3_joinOnce_38 hf (fun σ_3 hf => ?_)
    refine a_iconst F dX3_joinOnce_41 ?_
    refine a_topI hf (fun x1_4 hf => ?_)
    refine a_istore_n F (lv' := [(1, iv x1_4), (0, .ref (ad 62))]) dX3_joinOnce_42 rfl (by decide) rfl ?_
    refine a_iconst F dX3_joinOnce_43 ?_
    refine a_topI hf (fun x2_5 hf => ?_)
    refine a_istore_n F (lv' := [(2, iv x2_5), (1, iv x1_4), (0, .ref (ad 62))]) dX3_joinOnce_44 rfl (by decide) rfl ?_
    obtain ⟨q0, he, hf⟩ := jbind_elim hf
    refine a_sub [2, 1, 0] rfl (loop_rule (P := (fun q => ∀ τ z1 z2, (τ, z1, z2) = q → At vwCl TC 3 rm_X3_joinOnce ad X τ [(0, .ref (ad 62)), (1, iv z1), (2, iv z2)] [] 45)) (K := (fun q => (∀ τ, τ = q → At vwCl TC 3 rm_X3_joinOnce ad X τ [] [] 91))) ?_ 1000 _ _ he ?_ _ _ _ rfl)
    · intro q y hy hn hx τ z1 z2 e
      subst e
      exact k_X3_joinOnce_b45 F hy (fun τ z1 z2 e => hn _ e _ _ _ rfl) (fun τ e => (hx _ e) _ rfl)
    · intro σ_12 e
      subst e
      cases hf
      exact hr _ _ dX3_joinOnce_91
set_option maxRecDepth 100000 in
set_option maxHeartbeats 4000000 in
theorem c_X3_joinOnce {l : Launch}  {σ : St} : CtrV vwCl WS NWs TC l yX3_joinOnce cX3_joinOnce 3 none rm_X3_joinOnce (fun ad => [.ref (ad 62)]) σ (f_X3_joinOnce σ) := by
  refine ctrV_of (by decide +kernel) (fun ad => Nat.le_of_ble_eq_true rfl) (fun σ' ad X hf F K => ?_)
  exact k_X3_joinOnce_b0 F hf K
abbrev rm_X3_tell : Room := { frames := 0, cells := 0, slots := 0, locals := 0 }
set_option maxRecDepth 100000 in
set_option maxHeartbeats 4000000 in
theorem k_X3_tell_b0 {l : Launch} {ad : Nat → Nat} {X : Cx} (F : Ok vwCl WS NWs TC cX3_tell 3 yX3_tell.cls (some .int) ad l X) {σ : St} {x1 x2 : Int} {y : Int} (hf : f_X3_tell_b0 σ x1 x2 = some y) (hr : RetI vwCl TC cX3_tell 3 rm_X3_tell ad X y σ) : At vwCl TC 3 rm_X3_tell ad X σ [(0, .ref (ad 62)), (1, iv x1), (2, iv x2)] [] 0 := by
  unfold f_X3_tell_b0 at hf
  refine a_iload_n F dX3_tell_0 rfl 1 rfl ?_
  refine a_if_lt F hf (tgt := 12) dX3_tell_1 (by decide) (fun hf => ?_) (fun hf => ?_)
  · refine a_iconst F dX3_tell_12 ?_
    cases hf
    exact hr _ _ dX3_tell_13
  · refine a_iload_n F dX3_tell_4 rfl 1 rfl ?_
    refine a_aload_n F dX3_tell_5 rfl 0 rfl ?_
    refine a_getI F (j := 2) tC_62 rfl rfl (by decide) inW3 w_288 dX3_tell_6 ?_
    refine a_icmp_lt F hf (tgt := 14) dX3_tell_9 (by decide) (fun hf => ?_) (fun hf => ?_)
    · refine a_iload_n F dX3_tell_14 rfl 2 rfl ?_
      obtain ⟨hg9, hf⟩ := jchk_elim hf
      by_cases hq0 : x2 = 0
      · rw [if_pos hq0] at hf
        refine a_tableIn F (tgt := 40) hg9 dX3_tell_15 (by omega) (by omega) (by rw [hq0]; rfl) (by decide) ?_
        refine a_aload_n F dX3_tell_40 rfl 0 rfl ?_
        refine a_getR F (j := 3) tC_62 rfl rfl (by decide) inW3 w_289 dX3_tell_41 ?_
        refine a_iload_n F dX3_tell_44 rfl 1 rfl ?_
        refine a_lald F tC_63 rfl (by decide) hf dX3_tell_45 (fun hf => ?_)
        refine a_iconst F dX3_tell_46 ?_
        refine a_lshr F dX3_tell_47 ?_
        refine a_ldc2 F (n := 31) (by decide +kernel) w_309 dX3_tell_48 ?_
        refine a_land F dX3_tell_51 ?_
        refine a_l2i F dX3_tell_52 ?_
        cases hf
        exact hr _ _ dX3_tell_53
      · rw [if_neg hq0] at hf
        by_cases hq1 : x2 = 1
        · rw [if_pos hq1] at hf
          refine a_tableIn F (tgt := 54) hg9 dX3_tell_15 (by omega) (by omega) (by rw [hq1]; rfl) (by decide) ?_
          refine a_aload_n F dX3_tell_54 rfl 0 rfl ?_
          refine a_getR F (j := 3) tC_62 rfl rfl (by decide) inW3 w_289 dX3_tell_55 ?_
          refine a_iload_n F dX3_tell_58 rfl 1 rfl ?_
          refine a_lald F tC_63 rfl (by decide) hf dX3_tell_59 (fun hf => ?_)
          refine a_ldc2 F (n := 31) (by decide +kernel) w_309 dX3_tell_60 ?_
          refine a_land F dX3_tell_63 ?_
          refine a_l2i F dX3_tell_64 ?_
          cases hf
          exact hr _ _ dX3_tell_65
        · rw [if_neg hq1] at hf
          by_cases hq2 : x2 = 2
          · rw [if_pos hq2] at hf
            refine a_tableIn F (tgt := 66) hg9 dX3_tell_15 (by omega) (by omega) (by rw [hq2]; rfl) (by decide) ?_
            refine a_aload_n F dX3_tell_66 rfl 0 rfl ?_
            refine a_getR F (j := 3) tC_62 rfl rfl (by decide) inW3 w_289 dX3_tell_67 ?_
            refine a_iload_n F dX3_tell_70 rfl 1 rfl ?_
            refine a_lald F tC_63 rfl (by decide) hf dX3_tell_71 (fun hf => ?_)
            refine a_bipush F dX3_tell_72 (by decide +kernel) ?_
            refine a_lshr F dX3_tell_74 ?_
            refine a_l2i F dX3_tell_75 ?_
            cases hf
            exact hr _ _ dX3_tell_76
          · rw [if_neg hq2] at hf
            refine a_tableOut F (tgt := 77) hg9 dX3_tell_15 (by omega) (by decide) ?_
            refine a_iconst F dX3_tell_77 ?_
            cases hf
            exact hr _ _ dX3_tell_78
    · refine a_iconst F dX3_tell_12 ?_
      cases hf
      exact hr _ _ dX3_tell_13
set_option maxRecDepth 100000 in
set_option maxHeartbeats 4000000 in
theorem c_X3_tell {l : Launch}  {σ : St} {x1 x2 : Int} : CtrI vwCl WS NWs TC l yX3_tell cX3_tell 3 (some .int) rm_X3_tell (fun ad => [.ref (ad 62), iv x1, iv x2]) σ (rd (f_X3_tell σ x1 x2) σ) := by
  refine ctrI_of (by decide +kernel) (fun ad => Nat.le_of_ble_eq_true rfl) (fun v σ' ad X hf F K => ?_)
  obtain ⟨hf2, e2⟩ := rd_elim hf
  subst e2
  exact k_X3_tell_b0 F hf2 K
abbrev rm_X10_closest : Room := { frames := 4, cells := 0, slots := 0, locals := 90 }
set_option maxRecDepth 100000 in
set_option maxHeartbeats 4000000 in
theorem k_X10_closest_b0 {l : Launch} {ad : Nat → Nat} {X : Cx} (F : Ok vwCl WS NWs TC cX10_closest 2 yX10_closest.cls (some .int) ad l X) {σ : St} {x1 : Int} {y : (Int × St)} (hf : f_X10_closest_b0 σ x1 = some y) (hr : ∀ v τ, y = (v, τ) → RetI vwCl TC cX10_closest 2 rm_X10_closest ad X v τ) : At vwCl TC 2 rm_X10_closest ad X σ [(0, .ref (ad 0)), (1, iv x1)] [] 0 := by
  unfold f_X10_closest_b0 at hf
  refine a_aload_n F dX10_closest_0 rfl 0 rfl ?_
  refine a_getR F (j := 6) tC_0 rfl rfl (by decide) inW10 w_310 dX10_closest_1 ?_
  refine a_callVV F lk_RX10_195 tC_62 rfl c_X3_joinOnce rfl rfl ⟨rfl, rfl⟩ ⟨Nat.le_of_ble_eq_true rfl, Nat.le_of_ble_eq_true rfl⟩ rfl (Nat.le_of_ble_eq_true rfl) dX10_closest_4 hf (fun σ_1 hf => ?_)
  refine a_aload_n F dX10_closest_7 rfl 0 rfl ?_
  refine a_getR F (j := 6) tC_0 rfl rfl (by decide) inW10 w_310 dX10_closest_8 ?_
  refine a_iconst F dX10_closest_11 ?_
  refine a_iload_n F dX10_closest_12 rfl 1 rfl ?_
  refine a_callVIr F lk_RX10_198 tC_62 rfl c_X3_tell rfl rfl ⟨rfl, rfl⟩ ⟨Nat.le_of_ble_eq_true rfl, Nat.le_of_ble_eq_true rfl⟩ rfl (Nat.le_of_ble_eq_true rfl) dX10_closest_13 hf (fun r_2 hf => ?_)
  cases hf
  exact hr _ _ rfl _ _ dX10_closest_16
set_option maxRecDepth 100000 in
set_option maxHeartbeats 4000000 in
theorem c_X10_closest {l : Launch}  {σ : St} {x1 : Int} : CtrI vwCl WS NWs TC l yX10_closest cX10_closest 2 (some .int) rm_X10_closest (fun ad => [.ref (ad 0), iv x1]) σ (f_X10_closest σ x1) := by
  refine ctrI_of (by decide +kernel) (fun ad => Nat.le_of_ble_eq_true rfl) (fun v σ' ad X hf F K => ?_)
  exact k_X10_closest_b0 F hf (fun v τ e => by cases e; exact K)
abbrev rm_X1_cornerAt : Room := { frames := 0, cells := 0, slots := 0, locals := 0 }
set_option maxRecDepth 100000 in
set_option maxHeartbeats 4000000 in
theorem k_X1_cornerAt_b0 {l : Launch} {ad : Nat → Nat} {X : Cx} (F : Ok vwCl WS NWs TC cX1_cornerAt 3 yX1_cornerAt.cls (some .int) ad l X) {g : Nat} (hg : isG g) {σ : St} {x1 : Int} {y : Int} (hf : f_X1_cornerAt_b0 σ g x1 = some y) (hr : RetI vwCl TC cX1_cornerAt 3 rm_X1_cornerAt ad X y σ) : At vwCl TC 3 rm_X1_cornerAt ad X σ [(0, .ref (ad g)), (1, iv x1)] [] 0 := by
  unfold f_X1_cornerAt_b0 at hf
  refine a_iload_n F dX1_cornerAt_0 rfl 1 rfl ?_
  refine a_if_lt F hf (tgt := 15) dX1_cornerAt_1 (by decide) (fun hf => ?_) (fun hf => ?_)
  · refine a_iconst F dX1_cornerAt_15 ?_
    cases hf
    exact hr _ _ dX1_cornerAt_16
  · refine a_iload_n F dX1_cornerAt_4 rfl 1 rfl ?_
    refine a_aload_n F dX1_cornerAt_5 rfl 0 rfl ?_
    refine a_getV F (j := 4) (tG hg) rfl rfl (by decide) inW1 w_25 dX1_cornerAt_6 ?_
    refine a_topR hf (fun o_1 hf => ?_)
    obtain ⟨ho_1, hf⟩ := jchk_elim hf
    refine a_getI F (j := 0) (tO ho_1) rfl rfl (by decide) inW4 w_45 dX1_cornerAt_9 ?_
    refine a_icmp_lt F hf (tgt := 17) dX1_cornerAt_12 (by decide) (fun hf => ?_) (fun hf => ?_)
    · refine a_aload_n F dX1_cornerAt_17 rfl 0 rfl ?_
      refine a_getI F (j := 7) (tG hg) rfl rfl (by decide) inW1 w_73 dX1_cornerAt_18 ?_
      refine a_iload_n F dX1_cornerAt_21 rfl 1 rfl ?_
      refine a_iadd F dX1_cornerAt_22 ?_
      refine a_topI hf (fun x2_2 hf => ?_)
      refine a_istore_n F (lv' := [(2, iv x2_2), (0, .ref (ad g)), (1, iv x1)]) dX1_cornerAt_23 rfl (by decide) rfl ?_
      refine a_iload_n F dX1_cornerAt_24 rfl 0 rfl ?_
      refine a_aload_n F dX1_cornerAt_25 rfl 1 rfl ?_
      refine a_getV F (j := 4) (tG hg) rfl rfl (by decide) inW1 w_25 dX1_cornerAt_26 ?_
      refine a_topR hf (fun o_3 hf => ?_)
      obtain ⟨ho_3, hf⟩ := jchk_elim hf
      refine a_getI F (j := 0) (tO ho_3) rfl rfl (by decide) inW4 w_45 dX1_cornerAt_29 ?_
      refine a_icmp_ge F hf (tgt := 39) dX1_cornerAt_32 (by decide) (fun hf => ?_) (fun hf => ?_)
      · refine a_iload_n F dX1_cornerAt_35 rfl 0 rfl ?_
        refine a_goto F (tgt := 48) dX1_cornerAt_36 (by decide) ?_
        cases hf
        exact hr _ _ dX1_cornerAt_48
      · refine a_iload_n F dX1_cornerAt_39 rfl 0 rfl ?_
        refine a_aload_n F dX1_cornerAt_40 rfl 1 rfl ?_
        refine a_getV F (j := 4) (tG hg) rfl rfl (by decide) inW1 w_25 dX1_cornerAt_41 ?_
        refine a_topR hf (fun o_4 hf => ?_)
        obtain ⟨ho_4, hf⟩ := jchk_elim hf
        refine a_getI F (j := 0) (tO ho_4) rfl rfl (by decide) inW4 w_45 dX1_cornerAt_44 ?_
        refine a_isub F dX1_cornerAt_47 ?_
        cases hf
        exact hr _ _ dX1_cornerAt_48
    · refine a_iconst F dX1_cornerAt_15 ?_
      cases hf
      exact hr _ _ dX1_cornerAt_16
set_option maxRecDepth 100000 in
set_option maxHeartbeats 4000000 in
theorem c_X1_cornerAt {l : Launch}  {g : Nat} (hg : isG g) {σ : St} {x1 : Int} : CtrI vwCl WS NWs TC l yX1_cornerAt cX1_cornerAt 3 (some .int) rm_X1_cornerAt (fun ad => [.ref (ad g), iv x1]) σ (rd (f_X1_cornerAt σ g x1) σ) := by
  refine ctrI_of (by decide +kernel) (fun ad => Nat.le_of_ble_eq_true rfl) (fun v σ' ad X hf F K => ?_)
  obtain ⟨hf2, e2⟩ := rd_elim hf
  subst e2
  exact k_X1_cornerAt_b0 F hg hf2 K
abbrev rm_X1_tell : Room := { frames := 4, cells := 0, slots := 0, locals := 102 }
set_option maxRecDepth 100000 in
set_option maxHeartbeats 4000000 in
theorem k_X1_tell_b0 {l : Launch} {ad : Nat → Nat} {X : Cx} (F : Ok vwCl WS NWs TC cX1_tell 3 yX1_tell.cls (some .long) ad l X) {g : Nat} (hg : isG g) {σ : St} {x1 x2 : Int} {y : Int} (hf : f_X1_tell_b0 σ g x1 x2 = some y) (hr : RetL vwCl TC cX1_tell 3 rm_X1_tell ad X y σ) : At vwCl TC 3 rm_X1_tell ad X σ [(0, .ref (ad g)), (1, iv x1), (2, iv x2)] [] 0 := by
  unfold f_X1_tell_b0 at hf
  refine a_iload_n F dX1_tell_0 rfl 1 rfl ?_
  refine a_if_lt F hf (tgt := 15) dX1_tell_1 (by decide) (fun hf => ?_) (fun hf => ?_)
  · refine a_ldc2 F (n := (-1)) (by decide +kernel) w_319 dX1_tell_15 ?_
    cases hf
    exact hr _ _ dX1_tell_18
  · refine a_iload_n F dX1_tell_4 rfl 1 rfl ?_
    refine a_aload_n F dX1_tell_5 rfl 0 rfl ?_
    refine a_getV F (j := 4) (tG hg) rfl rfl (by decide) inW1 w_25 dX1_tell_6 ?_
    refine a_topR hf (fun o_1 hf => ?_)
    obtain ⟨ho_1, hf⟩ := jchk_elim hf
    refine a_getI F (j := 0) (tO ho_1) rfl rfl (by decide) inW4 w_45 dX1_tell_9 ?_
    refine a_icmp_lt F hf (tgt := 19) dX1_tell_12 (by decide) (fun hf => ?_) (fun hf => ?_)
    · refine a_aload_n F dX1_tell_19 rfl 0 rfl ?_
      refine a_getV F (j := 4) (tG hg) rfl rfl (by decide) inW1 w_25 dX1_tell_20 ?_
      refine a_topR hf (fun o_2 hf => ?_)
      obtain ⟨ho_2, hf⟩ := jchk_elim hf
      refine a_getR F (j := 1) (tO ho_2) rfl rfl (by decide) inW4 w_42 dX1_tell_23 ?_
      refine a_iload_n F dX1_tell_26 rfl 1 rfl ?_
      refine a_lald F (tO1 ho_2) rfl (lnO_lt _) hf dX1_tell_27 (fun hf => ?_)
      refine a_aload_n F dX1_tell_28 rfl 0 rfl ?_
      refine a_getV F (j := 4) (tG hg) rfl rfl (by decide) inW1 w_25 dX1_tell_29 ?_
      refine a_topR hf (fun o_3 hf => ?_)
      obtain ⟨ho_3, hf⟩ := jchk_elim hf
      refine a_getR F (j := 2) (tO ho_3) rfl rfl (by decide) inW4 w_43 dX1_tell_32 ?_
      refine a_iload_n F dX1_tell_35 rfl 1 rfl ?_
      refine a_lald F (tO2 ho_3) rfl (lnO_lt _) hf dX1_tell_36 (fun hf => ?_)
      refine a_ldc2 F (n := 2) (by decide +kernel) w_320 dX1_tell_37 ?_
      refine a_aload_n F dX1_tell_40 rfl 0 rfl ?_
      refine a_getV F (j := 4) (tG hg) rfl rfl (by decide) inW1 w_25 dX1_tell_41 ?_
      refine a_topR hf (fun o_4 hf => ?_)
      obtain ⟨ho_4, hf⟩ := jchk_elim hf
      refine a_getR F (j := 3) (tO ho_4) rfl rfl (by decide) inW4 w_41 dX1_tell_44 ?_
      refine a_iload_n F dX1_tell_47 rfl 1 rfl ?_
      refine a_lald F (tO3 ho_4) rfl (lnO_lt _) hf dX1_tell_48 (fun hf => ?_)
      refine a_lmul F dX1_tell_49 ?_
      refine a_iload_n F dX1_tell_50 rfl 2 rfl ?_
      refine a_callNLr F lk_RX1_106 c_X10_tellPoint rfl rfl ⟨rfl, rfl⟩ ⟨Nat.le_of_ble_eq_true rfl, Nat.le_of_ble_eq_true rfl⟩ rfl (Nat.le_of_ble_eq_true rfl) dX1_tell_51 hf (fun r_5 hf => ?_)
      cases hf
      exact hr _ _ dX1_tell_54
    · refine a_ldc2 F (n := (-1)) (by decide +kernel) w_319 dX1_tell_15 ?_
      cases hf
      exact hr _ _ dX1_tell_18
set_option maxRecDepth 100000 in
set_option maxHeartbeats 4000000 in
theorem c_X1_tell {l : Launch}  {g : Nat} (hg : isG g) {σ : St} {x1 x2 : Int} : CtrL vwCl WS NWs TC l yX1_tell cX1_tell 3 (some .long) rm_X1_tell (fun ad => [.ref (ad g), iv x1, iv x2]) σ (rd (f_X1_tell σ g x1 x2) σ) := by
  refine ctrL_of (by decide +kernel) (fun ad => Nat.le_of_ble_eq_true rfl) (fun v σ' ad X hf F K => ?_)
  obtain ⟨hf2, e2⟩ := rd_elim hf
  subst e2
  exact k_X1_tell_b0 F hg hf2 K
abbrev rm_X10_corner : Room := { frames := 6, cells := 0, slots := 0, locals := 148 }
set_option maxRecDepth 100000 in
set_option maxHeartbeats 4000000 in
theorem k_X10_corner_b0 {l : Launch} {ad : Nat → Nat} {X : Cx} (F : Ok vwCl WS NWs TC cX10_corner 4 yX10_corner.cls (some .long) ad l X) {σ : St} {x1 x2 x3 : Int} {y : (Int × St)} (hf : f_X10_corner_b0 σ x1 x2 x3 = some y) (hr : ∀ v τ, y = (v, τ) → RetL vwCl TC cX10_corner 4 rm_X10_corner ad X v τ) : At vwCl TC 4 rm_X10_corner ad X σ [(0, .ref (ad 0)), (1, iv x1), (2, iv x2), (3, iv x3)] [] 0 := by
  unfold f_X10_corner_b0 at hf
  refine a_aload_n F dX10_corner_0 rfl 0 rfl ?_
  refine a_getR F (j := 0) tC_0 rfl rfl (by decide) inW10 w_167 dX10_corner_1 ?_
  refine a_iload_n F dX10_corner_4 rfl 1 rfl ?_
  refine a_callVIr F lk_RX10_112 tC_1 rfl c_X9_has rfl rfl ⟨rfl, rfl⟩ ⟨Nat.le_of_ble_eq_true rfl, Nat.le_of_ble_eq_true rfl⟩ rfl (Nat.le_of_ble_eq_true rfl) dX10_corner_5 hf (fun r_1 hf => ?_)
  refine a_if_ne F hf (tgt := 15) dX10_corner_8 (by decide) (fun hf => ?_) (fun hf => ?_)
  · refine a_ldc2 F (n := (-1)) (by decide +kernel) w_156 dX10_corner_11 ?_
    cases hf
    exact hr _ _ rfl _ _ dX10_corner_14
  · refine a_aload_n F dX10_corner_15 rfl 0 rfl ?_
    refine a_getR F (j := 3) tC_0 rfl rfl (by decide) inW10 w_169 dX10_corner_16 ?_
    refine a_iload_n F dX10_corner_19 rfl 1 rfl ?_
    refine a_callVV F lk_RX10_157 tC_20 rfl (c_X1_drawOnce (by decide)) rfl rfl ⟨rfl, rfl⟩ ⟨Nat.le_of_ble_eq_true rfl, Nat.le_of_ble_eq_true rfl⟩ rfl (Nat.le_of_ble_eq_true rfl) dX10_corner_20 hf (fun σ_2 hf => ?_)
    refine a_aload_n F dX10_corner_23 rfl 0 rfl ?_
    refine a_getR F (j := 3) tC_0 rfl rfl (by decide) inW10 w_169 dX10_corner_24 ?_
    refine a_aload_n F dX10_corner_27 rfl 0 rfl ?_
    refine a_getR F (j := 3) tC_0 rfl rfl (by decide) inW10 w_169 dX10_corner_28 ?_
    refine a_iload_n F dX10_corner_31 rfl 2 rfl ?_
    refine a_callVIr F lk_RX10_165 tC_20 rfl (c_X1_cornerAt (by decide)) rfl rfl ⟨rfl, rfl⟩ ⟨Nat.le_of_ble_eq_true rfl, Nat.le_of_ble_eq_true rfl⟩ rfl (Nat.le_of_ble_eq_true rfl) dX10_corner_32 hf (fun r_3 hf => ?_)
    refine a_iload_n F dX10_corner_35 rfl 3 rfl ?_
    refine a_callVLr F lk_RX10_169 tC_20 rfl (c_X1_tell (by decide)) rfl rfl ⟨rfl, rfl⟩ ⟨Nat.le_of_ble_eq_true rfl, Nat.le_of_ble_eq_true rfl⟩ rfl (Nat.le_of_ble_eq_true rfl) dX10_corner_36 hf (fun r_4 hf => ?_)
    cases hf
    exact hr _ _ rfl _ _ dX10_corner_39
set_option maxRecDepth 100000 in
set_option maxHeartbeats 4000000 in
theorem c_X10_corner {l : Launch}  {σ : St} {x1 x2 x3 : Int} : CtrL vwCl WS NWs TC l yX10_corner cX10_corner 4 (some .long) rm_X10_corner (fun ad => [.ref (ad 0), iv x1, iv x2, iv x3]) σ (f_X10_corner σ x1 x2 x3) := by
  refine ctrL_of (by decide +kernel) (fun ad => Nat.le_of_ble_eq_true rfl) (fun v σ' ad X hf F K => ?_)
  exact k_X10_corner_b0 F hf (fun v τ e => by cases e; exact K)
abbrev rm_X10_corners : Room := { frames := 6, cells := 0, slots := 0, locals := 148 }
set_option maxRecDepth 100000 in
set_option maxHeartbeats 4000000 in
theorem k_X10_corners_b0 {l : Launch} {ad : Nat → Nat} {X : Cx} (F : Ok vwCl WS NWs TC cX10_corners 2 yX10_corners.cls (some .int) ad l X) {σ : St} {x1 : Int} {y : (Int × St)} (hf : f_X10_corners_b0 σ x1 = some y) (hr : ∀ v τ, y = (v, τ) → RetI vwCl TC cX10_corners 2 rm_X10_corners ad X v τ) : At vwCl TC 2 rm_X10_corners ad X σ [(0, .ref (ad 0)), (1, iv x1)] [] 0 := by
  unfold f_X10_corners_b0 at hf
  refine a_aload_n F dX10_corners_0 rfl 0 rfl ?_
  refine a_getR F (j := 0) tC_0 rfl rfl (by decide) inW10 w_167 dX10_corners_1 ?_
  refine a_iload_n F dX10_corners_4 rfl 1 rfl ?_
  refine a_callVIr F lk_RX10_112 tC_1 rfl c_X9_has rfl rfl ⟨rfl, rfl⟩ ⟨Nat.le_of_ble_eq_true rfl, Nat.le_of_ble_eq_true rfl⟩ rfl (Nat.le_of_ble_eq_true rfl) dX10_corners_5 hf (fun r_1 hf => ?_)
  refine a_if_ne F hf (tgt := 13) dX10_corners_8 (by decide) (fun hf => ?_) (fun hf => ?_)
  · refine a_iconst F dX10_corners_11 ?_
    cases hf
    exact hr _ _ rfl _ _ dX10_corners_12
  · refine a_aload_n F dX10_corners_13 rfl 0 rfl ?_
    refine a_getR F (j := 3) tC_0 rfl rfl (by decide) inW10 w_169 dX10_corners_14 ?_
    refine a_iload_n F dX10_corners_17 rfl 1 rfl ?_
    refine a_callVV F lk_RX10_157 tC_20 rfl (c_X1_drawOnce (by decide)) rfl rfl ⟨rfl, rfl⟩ ⟨Nat.le_of_ble_eq_true rfl, Nat.le_of_ble_eq_true rfl⟩ rfl (Nat.le_of_ble_eq_true rfl) dX10_corners_18 hf (fun σ_2 hf => ?_)
    refine a_aload_n F dX10_corners_21 rfl 0 rfl ?_
    refine a_getR F (j := 3) tC_0 rfl rfl (by decide) inW10 w_169 dX10_corners_22 ?_
    refine a_callVIr F lk_RX10_160 tC_20 rfl (c_X1_size (by decide)) rfl rfl ⟨rfl, rfl⟩ ⟨Nat.le_of_ble_eq_true rfl, Nat.le_of_ble_eq_true rfl⟩ rfl (Nat.le_of_ble_eq_true rfl) dX10_corners_25 hf (fun r_3 hf => ?_)
    cases hf
    exact hr _ _ rfl _ _ dX10_corners_28
set_option maxRecDepth 100000 in
set_option maxHeartbeats 4000000 in
theorem c_X10_corners {l : Launch}  {σ : St} {x1 : Int} : CtrI vwCl WS NWs TC l yX10_corners cX10_corners 2 (some .int) rm_X10_corners (fun ad => [.ref (ad 0), iv x1]) σ (f_X10_corners σ x1) := by
  refine ctrI_of (by decide +kernel) (fun ad => Nat.le_of_ble_eq_true rfl) (fun v σ' ad X hf F K => ?_)
  exact k_X10_corners_b0 F hf (fun v τ e => by cases e; exact K)
