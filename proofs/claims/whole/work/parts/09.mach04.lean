abbrev rm_X6_setRound : Room := { frames := 1, cells := 0, slots := 0, locals := 24 }
set_option maxRecDepth 100000 in
set_option maxHeartbeats 4000000 in
theorem k_X6_setRound_b77 {l : Launch} {ad : Nat → Nat} {X : Cx} (F : Ok vwCl WS NWs TC cX6_setRound 10 yX6_setRound.cls (some .boolean) ad l X) {σ : St} {x1 x2 x3 x4 x6 t0 : Int} {y : (Int × St)} (hf : f_X6_setRound_b77 σ x1 x2 x3 x4 x6 t0 = some y) (hr : ∀ v τ, y = (v, τ) → RetI vwCl TC cX6_setRound 10 rm_X6_setRound ad X v τ) : At vwCl TC 10 rm_X6_setRound ad X σ [(0, .ref (ad 35)), (1, iv x1), (2, iv x2), (3, iv x3), (4, jv x4), (6, jv x6)] [jv t0] 77 := by
  unfold f_X6_setRound_b77 at hf
  refine a_topJ hf (fun x8_6 hf => ?_)
  refine a_lstore F (lv' := [(8, jv x8_6), (0, .ref (ad 35)), (1, iv x1), (2, iv x2), (3, iv x3), (4, jv x4), (6, jv x6)]) dX6_setRound_77 (by decide) rfl ?_
  refine a_aload_n F dX6_setRound_79 rfl 1 rfl ?_
  refine a_ldc2 F (n := 2) (by decide +kernel) w_464 dX6_setRound_80 ?_
  refine a_lload F dX6_setRound_83 5 rfl ?_
  refine a_mabs_long F w_465 w_144 w_145 w_146 (by decide) (Nat.le_of_ble_eq_true rfl) hf dX6_setRound_85 (fun hf => ?_)
  refine a_lmul F dX6_setRound_88 ?_
  refine a_putJ F (j := 10) tC_35 rfl rfl (by decide) inW6 w_466 tyX6 tyX6_ok nmX6 rfl rfl hf dX6_setRound_89 (fun σ_7 hf => ?_)
  refine a_aload_n F dX6_setRound_92 rfl 1 rfl ?_
  refine a_aload_n F dX6_setRound_93 rfl 1 rfl ?_
  refine a_getR F (j := 0) tC_35 rfl rfl (by decide) inW6 w_461 dX6_setRound_94 ?_
  refine a_getR F (j := 8) tC_1 rfl rfl (by decide) inW9 w_467 dX6_setRound_97 ?_
  refine a_iload_n F dX6_setRound_100 rfl 4 rfl ?_
  refine a_iald F tC_4 rfl (by decide) hf dX6_setRound_101 (fun hf => ?_)
  refine a_aload_n F dX6_setRound_102 rfl 1 rfl ?_
  refine a_getR F (j := 0) tC_35 rfl rfl (by decide) inW6 w_461 dX6_setRound_103 ?_
  refine a_getR F (j := 8) tC_1 rfl rfl (by decide) inW9 w_467 dX6_setRound_106 ?_
  refine a_iload_n F dX6_setRound_109 rfl 2 rfl ?_
  refine a_iald F tC_4 rfl (by decide) hf dX6_setRound_110 (fun hf => ?_)
  refine a_isub F dX6_setRound_111 ?_
  refine a_i2l F hf dX6_setRound_112 (fun hf => ?_)
  refine a_lload F dX6_setRound_113 6 rfl ?_
  refine a_lmul F dX6_setRound_115 ?_
  refine a_aload_n F dX6_setRound_116 rfl 1 rfl ?_
  refine a_getR F (j := 0) tC_35 rfl rfl (by decide) inW6 w_461 dX6_setRound_117 ?_
  refine a_getR F (j := 8) tC_1 rfl rfl (by decide) inW9 w_467 dX6_setRound_120 ?_
  refine a_iload_n F dX6_setRound_123 rfl 3 rfl ?_
  refine a_iald F tC_4 rfl (by decide) hf dX6_setRound_124 (fun hf => ?_)
  refine a_aload_n F dX6_setRound_125 rfl 1 rfl ?_
  refine a_getR F (j := 0) tC_35 rfl rfl (by decide) inW6 w_461 dX6_setRound_126 ?_
  refine a_getR F (j := 8) tC_1 rfl rfl (by decide) inW9 w_467 dX6_setRound_129 ?_
  refine a_iload_n F dX6_setRound_132 rfl 2 rfl ?_
  refine a_iald F tC_4 rfl (by decide) hf dX6_setRound_133 (fun hf => ?_)
  refine a_isub F dX6_setRound_134 ?_
  refine a_i2l F hf dX6_setRound_135 (fun hf => ?_)
  refine a_lload F dX6_setRound_136 0 rfl ?_
  refine a_lmul F dX6_setRound_138 ?_
  refine a_lsub F dX6_setRound_139 ?_
  refine a_putJ F (j := 8) tC_35 rfl rfl (by decide) inW6 w_468 tyX6 tyX6_ok nmX6 rfl rfl hf dX6_setRound_140 (fun σ_8 hf => ?_)
  refine a_aload_n F dX6_setRound_143 rfl 1 rfl ?_
  refine a_aload_n F dX6_setRound_144 rfl 1 rfl ?_
  refine a_getR F (j := 0) tC_35 rfl rfl (by decide) inW6 w_461 dX6_setRound_145 ?_
  refine a_getR F (j := 7) tC_1 rfl rfl (by decide) inW9 w_469 dX6_setRound_148 ?_
  refine a_iload_n F dX6_setRound_151 rfl 3 rfl ?_
  refine a_iald F tC_3 rfl (by decide) hf dX6_setRound_152 (fun hf => ?_)
  refine a_aload_n F dX6_setRound_153 rfl 1 rfl ?_
  refine a_getR F (j := 0) tC_35 rfl rfl (by decide) inW6 w_461 dX6_setRound_154 ?_
  refine a_getR F (j := 7) tC_1 rfl rfl (by decide) inW9 w_469 dX6_setRound_157 ?_
  refine a_iload_n F dX6_setRound_160 rfl 2 rfl ?_
  refine a_iald F tC_3 rfl (by decide) hf dX6_setRound_161 (fun hf => ?_)
  refine a_isub F dX6_setRound_162 ?_
  refine a_i2l F hf dX6_setRound_163 (fun hf => ?_)
  refine a_lload F dX6_setRound_164 0 rfl ?_
  refine a_lmul F dX6_setRound_166 ?_
  refine a_aload_n F dX6_setRound_167 rfl 1 rfl ?_
  refine a_getR F (j := 0) tC_35 rfl rfl (by decide) inW6 w_461 dX6_setRound_168 ?_
  refine a_getR F (j := 7) tC_1 rfl rfl (by decide) inW9 w_469 dX6_setRound_171 ?_
  refine a_iload_n F dX6_setRound_174 rfl 4 rfl ?_
  refine a_iald F tC_3 rfl (by decide) hf dX6_setRound_175 (fun hf => ?_)
  refine a_aload_n F dX6_setRound_176 rfl 1 rfl ?_
  refine a_getR F (j := 0) tC_35 rfl rfl (by decide) inW6 w_461 dX6_setRound_177 ?_
  refine a_getR F (j := 7) tC_1 rfl rfl (by decide) inW9 w_469 dX6_setRound_180 ?_
  refine a_iload_n F dX6_setRound_183 rfl 2 rfl ?_
  refine a_iald F tC_3 rfl (by decide) hf dX6_setRound_184 (fun hf => ?_)
  refine a_isub F dX6_setRound_185 ?_
  refine a_i2l F hf dX6_setRound_186 (fun hf => ?_)
  refine a_lload F dX6_setRound_187 6 rfl ?_
  refine a_lmul F dX6_setRound_189 ?_
  refine a_lsub F dX6_setRound_190 ?_
  refine a_putJ F (j := 9) tC_35 rfl rfl (by decide) inW6 w_470 tyX6 tyX6_ok nmX6 rfl rfl hf dX6_setRound_191 (fun σ_9 hf => ?_)
  refine a_lload F dX6_setRound_194 5 rfl ?_
  refine a_lconst F (n := 0) dX6_setRound_196 (by decide +kernel) ?_
  refine a_lcmp_eq F hf (tgt := 205) dX6_setRound_197 dX6_setRound_198 (by decide) (fun hf => ?_) (fun hf => ?_)
  · refine a_iconst F dX6_setRound_205 ?_
    cases hf
    exact hr _ _ rfl _ _ dX6_setRound_206
  · refine a_iconst F dX6_setRound_201 ?_
    refine a_goto F (tgt := 206) dX6_setRound_202 (by decide) ?_
    cases hf
    exact hr _ _ rfl _ _ dX6_setRound_206
set_option maxRecDepth 100000 in
set_option maxHeartbeats 4000000 in
theorem k_X6_setRound_b44 {l : Launch} {ad : Nat → Nat} {X : Cx} (F : Ok vwCl WS NWs TC cX6_setRound 10 yX6_setRound.cls (some .boolean) ad l X) {σ : St} {x1 x2 x3 x4 t0 : Int} {y : (Int × St)} (hf : f_X6_setRound_b44 σ x1 x2 x3 x4 t0 = some y) (hr : ∀ v τ, y = (v, τ) → RetI vwCl TC cX6_setRound 10 rm_X6_setRound ad X v τ) : At vwCl TC 10 rm_X6_setRound ad X σ [(0, .ref (ad 35)), (1, iv x1), (2, iv x2), (3, iv x3), (4, jv x4)] [jv t0] 44 := by
  unfold f_X6_setRound_b44 at hf
  refine a_topJ hf (fun x6_4 hf => ?_)
  refine a_lstore F (lv' := [(6, jv x6_4), (0, .ref (ad 35)), (1, iv x1), (2, iv x2), (3, iv x3), (4, jv x4)]) dX6_setRound_44 (by decide) rfl ?_
  refine a_lload F dX6_setRound_46 5 rfl ?_
  refine a_lconst F (n := 0) dX6_setRound_48 (by decide +kernel) ?_
  refine a_lcmp_ge F hf (tgt := 67) dX6_setRound_49 dX6_setRound_50 (by decide) (fun hf => ?_) (fun hf => ?_)
  · refine a_aload_n F dX6_setRound_53 rfl 1 rfl ?_
    refine a_getR F (j := 0) tC_35 rfl rfl (by decide) inW6 w_461 dX6_setRound_54 ?_
    refine a_iload_n F dX6_setRound_57 rfl 2 rfl ?_
    refine a_iload_n F dX6_setRound_58 rfl 4 rfl ?_
    refine a_callVIr F lk_RX6_89 tC_1 rfl c_X9_square rfl rfl ⟨rfl, rfl⟩ ⟨Nat.le_of_ble_eq_true rfl, Nat.le_of_ble_eq_true rfl⟩ rfl (Nat.le_of_ble_eq_true rfl) dX6_setRound_59 hf (fun r_10 hf => ?_)
    refine a_ineg F dX6_setRound_62 ?_
    refine a_i2l F hf dX6_setRound_63 (fun hf => ?_)
    refine a_goto F (tgt := 77) dX6_setRound_64 (by decide) ?_
    exact a_sub [1, 2, 3, 4, 5, 0] rfl (k_X6_setRound_b77 F hf hr)
  · refine a_aload_n F dX6_setRound_67 rfl 1 rfl ?_
    refine a_getR F (j := 0) tC_35 rfl rfl (by decide) inW6 w_461 dX6_setRound_68 ?_
    refine a_iload_n F dX6_setRound_71 rfl 2 rfl ?_
    refine a_iload_n F dX6_setRound_72 rfl 4 rfl ?_
    refine a_callVIr F lk_RX6_89 tC_1 rfl c_X9_square rfl rfl ⟨rfl, rfl⟩ ⟨Nat.le_of_ble_eq_true rfl, Nat.le_of_ble_eq_true rfl⟩ rfl (Nat.le_of_ble_eq_true rfl) dX6_setRound_73 hf (fun r_5 hf => ?_)
    refine a_i2l F hf dX6_setRound_76 (fun hf => ?_)
    exact a_sub [1, 2, 3, 4, 5, 0] rfl (k_X6_setRound_b77 F hf hr)
set_option maxRecDepth 100000 in
set_option maxHeartbeats 4000000 in
theorem k_X6_setRound_b0 {l : Launch} {ad : Nat → Nat} {X : Cx} (F : Ok vwCl WS NWs TC cX6_setRound 10 yX6_setRound.cls (some .boolean) ad l X) {σ : St} {x1 x2 x3 : Int} {y : (Int × St)} (hf : f_X6_setRound_b0 σ x1 x2 x3 = some y) (hr : ∀ v τ, y = (v, τ) → RetI vwCl TC cX6_setRound 10 rm_X6_setRound ad X v τ) : At vwCl TC 10 rm_X6_setRound ad X σ [(0, .ref (ad 35)), (1, iv x1), (2, iv x2), (3, iv x3)] [] 0 := by
  unfold f_X6_setRound_b0 at hf
  refine a_aload_n F dX6_setRound_0 rfl 0 rfl ?_
  refine a_getR F (j := 0) tC_35 rfl rfl (by decide) inW6 w_461 dX6_setRound_1 ?_
  refine a_iload_n F dX6_setRound_4 rfl 1 rfl ?_
  refine a_iload_n F dX6_setRound_5 rfl 2 rfl ?_
  refine a_iload_n F dX6_setRound_6 rfl 3 rfl ?_
  refine a_callVIr F lk_RX6_86 tC_1 rfl c_X9_turn rfl rfl ⟨rfl, rfl⟩ ⟨Nat.le_of_ble_eq_true rfl, Nat.le_of_ble_eq_true rfl⟩ rfl (Nat.le_of_ble_eq_true rfl) dX6_setRound_7 hf (fun r_1 hf => ?_)
  refine a_i2l F hf dX6_setRound_10 (fun hf => ?_)
  refine a_topJ hf (fun x4_2 hf => ?_)
  refine a_lstore F (lv' := [(4, jv x4_2), (0, .ref (ad 35)), (1, iv x1), (2, iv x2), (3, iv x3)]) dX6_setRound_11 (by decide) rfl ?_
  refine a_lload F dX6_setRound_13 0 rfl ?_
  refine a_lconst F (n := 0) dX6_setRound_15 (by decide +kernel) ?_
  refine a_lcmp_ge F hf (tgt := 34) dX6_setRound_16 dX6_setRound_17 (by decide) (fun hf => ?_) (fun hf => ?_)
  · refine a_aload_n F dX6_setRound_20 rfl 1 rfl ?_
    refine a_getR F (j := 0) tC_35 rfl rfl (by decide) inW6 w_461 dX6_setRound_21 ?_
    refine a_iload_n F dX6_setRound_24 rfl 2 rfl ?_
    refine a_iload_n F dX6_setRound_25 rfl 3 rfl ?_
    refine a_callVIr F lk_RX6_89 tC_1 rfl c_X9_square rfl rfl ⟨rfl, rfl⟩ ⟨Nat.le_of_ble_eq_true rfl, Nat.le_of_ble_eq_true rfl⟩ rfl (Nat.le_of_ble_eq_true rfl) dX6_setRound_26 hf (fun r_11 hf => ?_)
    refine a_ineg F dX6_setRound_29 ?_
    refine a_i2l F hf dX6_setRound_30 (fun hf => ?_)
    refine a_goto F (tgt := 44) dX6_setRound_31 (by decide) ?_
    exact a_sub [1, 2, 3, 4, 0] rfl (k_X6_setRound_b44 F hf hr)
  · refine a_aload_n F dX6_setRound_34 rfl 1 rfl ?_
    refine a_getR F (j := 0) tC_35 rfl rfl (by decide) inW6 w_461 dX6_setRound_35 ?_
    refine a_iload_n F dX6_setRound_38 rfl 2 rfl ?_
    refine a_iload_n F dX6_setRound_39 rfl 3 rfl ?_
    refine a_callVIr F lk_RX6_89 tC_1 rfl c_X9_square rfl rfl ⟨rfl, rfl⟩ ⟨Nat.le_of_ble_eq_true rfl, Nat.le_of_ble_eq_true rfl⟩ rfl (Nat.le_of_ble_eq_true rfl) dX6_setRound_40 hf (fun r_3 hf => ?_)
    refine a_i2l F hf dX6_setRound_43 (fun hf => ?_)
    exact a_sub [1, 2, 3, 4, 0] rfl (k_X6_setRound_b44 F hf hr)
set_option maxRecDepth 100000 in
set_option maxHeartbeats 4000000 in
theorem c_X6_setRound {l : Launch}  {σ : St} {x1 x2 x3 : Int} : CtrI vwCl WS NWs TC l yX6_setRound cX6_setRound 10 (some .boolean) rm_X6_setRound (fun ad => [.ref (ad 35), iv x1, iv x2, iv x3]) σ (f_X6_setRound σ x1 x2 x3) := by
  refine ctrZ_of (fun v σ' h => jzw_z h) (by decide +kernel) (fun ad => Nat.le_of_ble_eq_true rfl) (fun v σ' ad X hf F K => ?_)
  exact k_X6_setRound_b0 F (jzw_e hf) (fun v τ e => by cases e; exact K)
abbrev rm_X6_outsideBy : Room := { frames := 1, cells := 0, slots := 0, locals := 24 }
set_option maxRecDepth 100000 in
set_option maxHeartbeats 4000000 in
theorem k_X6_outsideBy_b0 {l : Launch} {ad : Nat → Nat} {X : Cx} (F : Ok vwCl WS NWs TC cX6_outsideBy 3 yX6_outsideBy.cls (some .long) ad l X) {σ : St} {x1 x2 : Int} {y : Int} (hf : f_X6_outsideBy_b0 σ x1 x2 = some y) (hr : RetL vwCl TC cX6_outsideBy 3 rm_X6_outsideBy ad X y σ) : At vwCl TC 3 rm_X6_outsideBy ad X σ [(0, .ref (ad 35)), (1, iv x1), (2, iv x2)] [] 0 := by
  unfold f_X6_outsideBy_b0 at hf
  refine a_aload_n F dX6_outsideBy_0 rfl 0 rfl ?_
  refine a_getR F (j := 0) tC_35 rfl rfl (by decide) inW6 w_461 dX6_outsideBy_1 ?_
  refine a_iload_n F dX6_outsideBy_4 rfl 1 rfl ?_
  refine a_iload_n F dX6_outsideBy_5 rfl 2 rfl ?_
  refine a_callVIr F lk_RX6_89 tC_1 rfl c_X9_square rfl rfl ⟨rfl, rfl⟩ ⟨Nat.le_of_ble_eq_true rfl, Nat.le_of_ble_eq_true rfl⟩ rfl (Nat.le_of_ble_eq_true rfl) dX6_outsideBy_6 hf (fun r_1 hf => ?_)
  refine a_i2l F hf dX6_outsideBy_9 (fun hf => ?_)
  refine a_aload_n F dX6_outsideBy_10 rfl 0 rfl ?_
  refine a_getJ F (j := 10) tC_35 rfl rfl (by decide) inW6 w_466 dX6_outsideBy_11 ?_
  refine a_lmul F dX6_outsideBy_14 ?_
  refine a_ldc2 F (n := 2) (by decide +kernel) w_464 dX6_outsideBy_15 ?_
  refine a_aload_n F dX6_outsideBy_18 rfl 0 rfl ?_
  refine a_getR F (j := 0) tC_35 rfl rfl (by decide) inW6 w_461 dX6_outsideBy_19 ?_
  refine a_getR F (j := 7) tC_1 rfl rfl (by decide) inW9 w_469 dX6_outsideBy_22 ?_
  refine a_iload_n F dX6_outsideBy_25 rfl 2 rfl ?_
  refine a_iald F tC_3 rfl (by decide) hf dX6_outsideBy_26 (fun hf => ?_)
  refine a_aload_n F dX6_outsideBy_27 rfl 0 rfl ?_
  refine a_getR F (j := 0) tC_35 rfl rfl (by decide) inW6 w_461 dX6_outsideBy_28 ?_
  refine a_getR F (j := 7) tC_1 rfl rfl (by decide) inW9 w_469 dX6_outsideBy_31 ?_
  refine a_iload_n F dX6_outsideBy_34 rfl 1 rfl ?_
  refine a_iald F tC_3 rfl (by decide) hf dX6_outsideBy_35 (fun hf => ?_)
  refine a_isub F dX6_outsideBy_36 ?_
  refine a_i2l F hf dX6_outsideBy_37 (fun hf => ?_)
  refine a_aload_n F dX6_outsideBy_38 rfl 0 rfl ?_
  refine a_getJ F (j := 8) tC_35 rfl rfl (by decide) inW6 w_468 dX6_outsideBy_39 ?_
  refine a_lmul F dX6_outsideBy_42 ?_
  refine a_aload_n F dX6_outsideBy_43 rfl 0 rfl ?_
  refine a_getR F (j := 0) tC_35 rfl rfl (by decide) inW6 w_461 dX6_outsideBy_44 ?_
  refine a_getR F (j := 8) tC_1 rfl rfl (by decide) inW9 w_467 dX6_outsideBy_47 ?_
  refine a_iload_n F dX6_outsideBy_50 rfl 2 rfl ?_
  refine a_iald F tC_4 rfl (by decide) hf dX6_outsideBy_51 (fun hf => ?_)
  refine a_aload_n F dX6_outsideBy_52 rfl 0 rfl ?_
  refine a_getR F (j := 0) tC_35 rfl rfl (by decide) inW6 w_461 dX6_outsideBy_53 ?_
  refine a_getR F (j := 8) tC_1 rfl rfl (by decide) inW9 w_467 dX6_outsideBy_56 ?_
  refine a_iload_n F dX6_outsideBy_59 rfl 1 rfl ?_
  refine a_iald F tC_4 rfl (by decide) hf dX6_outsideBy_60 (fun hf => ?_)
  refine a_isub F dX6_outsideBy_61 ?_
  refine a_i2l F hf dX6_outsideBy_62 (fun hf => ?_)
  refine a_aload_n F dX6_outsideBy_63 rfl 0 rfl ?_
  refine a_getJ F (j := 9) tC_35 rfl rfl (by decide) inW6 w_470 dX6_outsideBy_64 ?_
  refine a_lmul F dX6_outsideBy_67 ?_
  refine a_ladd F dX6_outsideBy_68 ?_
  refine a_lmul F dX6_outsideBy_69 ?_
  refine a_lsub F dX6_outsideBy_70 ?_
  cases hf
  exact hr _ _ dX6_outsideBy_71
set_option maxRecDepth 100000 in
set_option maxHeartbeats 4000000 in
theorem c_X6_outsideBy {l : Launch}  {σ : St} {x1 x2 : Int} : CtrL vwCl WS NWs TC l yX6_outsideBy cX6_outsideBy 3 (some .long) rm_X6_outsideBy (fun ad => [.ref (ad 35), iv x1, iv x2]) σ (rd (f_X6_outsideBy σ x1 x2) σ) := by
  refine ctrL_of (by decide +kernel) (fun ad => Nat.le_of_ble_eq_true rfl) (fun v σ' ad X hf F K => ?_)
  obtain ⟨hf2, e2⟩ := rd_elim hf
  subst e2
  exact k_X6_outsideBy_b0 F hf2 K
abbrev rm_X6_ringFrom : Room := { frames := 2, cells := 0, slots := 0, locals := 46 }
set_option maxRecDepth 100000 in
set_option maxHeartbeats 4000000 in
theorem k_X6_ringFrom_b73 {l : Launch} {ad : Nat → Nat} {X : Cx} (F : Ok vwCl WS NWs TC cX6_ringFrom 9 yX6_ringFrom.cls (some .int) ad l X) {σ : St} {x1 x2 x3 x4 x5 x6 x7 : Int} {y : ((Int × Int) ⊕ (Unit ⊕ Int))} (hf : f_X6_ringFrom_b73 σ x1 x2 x3 x4 x5 x6 x7 = some y) (hn : ∀ z4 z5, y = .inl (z4, z5) → At vwCl TC 9 rm_X6_ringFrom ad X σ [(0, .ref (ad 35)), (1, iv x1), (2, iv x2), (3, iv x3), (4, iv z4), (5, iv z5)] [] 6) : At vwCl TC 9 rm_X6_ringFrom ad X σ [(0, .ref (ad 35)), (1, iv x1), (2, iv x2), (3, iv x3), (4, iv x4), (5, iv x5), (6, iv x6), (7, jv x7)] [] 73 := by
  unfold f_X6_ringFrom_b73 at hf
  refine a_lload F dX6_ringFrom_73 7 rfl ?_
  refine a_lconst F (n := 0) dX6_ringFrom_75 (by decide +kernel) ?_
  refine a_lcmp_ne F hf (tgt := 89) dX6_ringFrom_76 dX6_ringFrom_77 (by decide) (fun hf => ?_) (fun hf => ?_)
  · refine a_iload F dX6_ringFrom_80 4 rfl ?_
    refine a_iconst F dX6_ringFrom_82 ?_
    refine a_iload F dX6_ringFrom_83 6 rfl ?_
    refine a_ishl F dX6_ringFrom_85 ?_
    refine a_ior F dX6_ringFrom_86 ?_
    refine a_topI hf (fun x4_7 hf => ?_)
    refine a_istore F (lv' := [(4, iv x4_7), (0, .ref (ad 35)), (1, iv x1), (2, iv x2), (3, iv x3), (5, iv x5), (6, iv x6), (7, jv x7)]) dX6_ringFrom_87 (by decide) rfl ?_
    refine a_iinc F hf dX6_ringFrom_89 5 rfl (by decide) (fun x5_8 hf => ⟨[(5, iv x5_8), (4, iv x4_7), (0, .ref (ad 35)), (1, iv x1), (2, iv x2), (3, iv x3), (6, iv x6), (7, jv x7)], rfl, ?_⟩)
    refine a_goto F (tgt := 6) dX6_ringFrom_92 (by decide) ?_
    cases hf
    exact a_sub [2, 3, 4, 5, 1, 0] rfl (hn _ _ rfl)
  · refine a_iinc F hf dX6_ringFrom_89 5 rfl (by decide) (fun x5_6 hf => ⟨[(5, iv x5_6), (0, .ref (ad 35)), (1, iv x1), (2, iv x2), (3, iv x3), (4, iv x4), (6, iv x6), (7, jv x7)], rfl, ?_⟩)
    refine a_goto F (tgt := 6) dX6_ringFrom_92 (by decide) ?_
    cases hf
    exact a_sub [1, 2, 3, 4, 5, 0] rfl (hn _ _ rfl)
set_option maxRecDepth 100000 in
set_option maxHeartbeats 4000000 in
theorem k_X6_ringFrom_b6 {l : Launch} {ad : Nat → Nat} {X : Cx} (F : Ok vwCl WS NWs TC cX6_ringFrom 9 yX6_ringFrom.cls (some .int) ad l X) {σ : St} {x1 x2 x3 x4 x5 : Int} {y : ((Int × Int) ⊕ (Unit ⊕ Int))} (hf : f_X6_ringFrom_b6 σ x1 x2 x3 x4 x5 = some y) (hn : ∀ z4 z5, y = .inl (z4, z5) → At vwCl TC 9 rm_X6_ringFrom ad X σ [(0, .ref (ad 35)), (1, iv x1), (2, iv x2), (3, iv x3), (4, iv z4), (5, iv z5)] [] 6) (hx0 : y = .inr (.inl ()) → At vwCl TC 9 rm_X6_ringFrom ad X σ [] [] 71) (hx1 : ∀ z4, y = .inr (.inr (z4)) → At vwCl TC 9 rm_X6_ringFrom ad X σ [(4, iv z4)] [] 95) : At vwCl TC 9 rm_X6_ringFrom ad X σ [(0, .ref (ad 35)), (1, iv x1), (2, iv x2), (3, iv x3), (4, iv x4), (5, iv x5)] [] 6 := by
  unfold f_X6_ringFrom_b6 at hf
  refine a_iload F dX6_ringFrom_6 5 rfl ?_
  refine a_aload_n F dX6_ringFrom_8 rfl 0 rfl ?_
  refine a_getR F (j := 0) tC_35 rfl rfl (by decide) inW6 w_461 dX6_ringFrom_9 ?_
  refine a_getI F (j := 4) tC_1 rfl rfl (by decide) inW9 w_471 dX6_ringFrom_12 ?_
  refine a_icmp_ge F hf (tgt := 95) dX6_ringFrom_15 (by decide) (fun hf => ?_) (fun hf => ?_)
  · refine a_aload_n F dX6_ringFrom_18 rfl 0 rfl ?_
    refine a_getR F (j := 0) tC_35 rfl rfl (by decide) inW6 w_461 dX6_ringFrom_19 ?_
    refine a_getR F (j := 5) tC_1 rfl rfl (by decide) inW9 w_472 dX6_ringFrom_22 ?_
    refine a_iload F dX6_ringFrom_25 5 rfl ?_
    refine a_iald F tC_2 rfl (by decide) hf dX6_ringFrom_27 (fun hf => ?_)
    refine a_topI hf (fun x6_3 hf => ?_)
    refine a_istore F (lv' := [(6, iv x6_3), (0, .ref (ad 35)), (1, iv x1), (2, iv x2), (3, iv x3), (4, iv x4), (5, iv x5)]) dX6_ringFrom_28 (by decide) rfl ?_
    refine a_aload_n F dX6_ringFrom_30 rfl 1 rfl ?_
    refine a_iload_n F dX6_ringFrom_31 rfl 2 rfl ?_
    refine a_iload F dX6_ringFrom_32 0 rfl ?_
    refine a_callVLr F lk_RX6_101 tC_35 rfl c_X6_outsideBy rfl rfl ⟨rfl, rfl⟩ ⟨Nat.le_of_ble_eq_true rfl, Nat.le_of_ble_eq_true rfl⟩ rfl (Nat.le_of_ble_eq_true rfl) dX6_ringFrom_34 hf (fun r_4 hf => ?_)
    refine a_topJ hf (fun x7_5 hf => ?_)
    refine a_lstore F (lv' := [(7, jv x7_5), (6, iv x6_3), (0, .ref (ad 35)), (1, iv x1), (2, iv x2), (3, iv x3), (4, iv x4), (5, iv x5)]) dX6_ringFrom_37 (by decide) rfl ?_
    refine a_lload F dX6_ringFrom_39 0 rfl ?_
    refine a_lconst F (n := 0) dX6_ringFrom_41 (by decide +kernel) ?_
    refine a_lcmp_lt F hf (tgt := 71) dX6_ringFrom_42 dX6_ringFrom_43 (by decide) (fun hf => ?_) (fun hf => ?_)
    · cases hf
      exact a_sub [] rfl (hx0  rfl)
    · refine a_lload F dX6_ringFrom_46 0 rfl ?_
      refine a_lconst F (n := 0) dX6_ringFrom_48 (by decide +kernel) ?_
      refine a_lcmp_ne F hf (tgt := 73) dX6_ringFrom_49 dX6_ringFrom_50 (by decide) (fun hf => ?_) (fun hf => ?_)
      · refine a_iload F dX6_ringFrom_53 1 rfl ?_
        refine a_iload_n F dX6_ringFrom_55 rfl 5 rfl ?_
        refine a_icmp_ge F hf (tgt := 73) dX6_ringFrom_56 (by decide) (fun hf => ?_) (fun hf => ?_)
        · refine a_iload F dX6_ringFrom_59 1 rfl ?_
          refine a_iload_n F dX6_ringFrom_61 rfl 3 rfl ?_
          refine a_icmp_eq F hf (tgt := 73) dX6_ringFrom_62 (by decide) (fun hf => ?_) (fun hf => ?_)
          · exact a_sub [2, 3, 4, 5, 6, 7, 1, 0] rfl (k_X6_ringFrom_b73 F hf hn)
          · refine a_iload F dX6_ringFrom_65 1 rfl ?_
            refine a_iload_n F dX6_ringFrom_67 rfl 4 rfl ?_
            refine a_icmp_eq F hf (tgt := 73) dX6_ringFrom_68 (by decide) (fun hf => ?_) (fun hf => ?_)
            · exact a_sub [2, 3, 4, 5, 6, 7, 1, 0] rfl (k_X6_ringFrom_b73 F hf hn)
            · cases hf
              exact a_sub [] rfl (hx0  rfl)
        · exact a_sub [2, 3, 4, 5, 6, 7, 1, 0] rfl (k_X6_ringFrom_b73 F hf hn)
      · exact a_sub [2, 3, 4, 5, 6, 7, 1, 0] rfl (k_X6_ringFrom_b73 F hf hn)
  · cases hf
    exact a_sub [4] rfl (hx1 _ rfl)
set_option maxRecDepth 100000 in
set_option maxHeartbeats 4000000 in
theorem k_X6_ringFrom_b0 {l : Launch} {ad : Nat → Nat} {X : Cx} (F : Ok vwCl WS NWs TC cX6_ringFrom 9 yX6_ringFrom.cls (some .int) ad l X) {σ : St} {x1 x2 x3 : Int} {y : Int} (hf : f_X6_ringFrom_b0 σ x1 x2 x3 = some y) (hr : RetI vwCl TC cX6_ringFrom 9 rm_X6_ringFrom ad X y σ) : At vwCl TC 9 rm_X6_ringFrom ad X σ [(0, .ref (ad 35)), (1, iv x1), (2, iv x2), (3, iv x3)] [] 0 := by
  unfold f_X6_ringFrom_b0 at hf
  refine a_iconst F dX6_ringFrom_0 ?_
  refine a_topI hf (fun x4_1 hf => ?_)
  refine a_istore F (lv' := [(4, iv x4_1), (0, .ref (ad 35)), (1, iv x1), (2, iv x2), (3, iv x3)]) dX6_ringFrom_1 (by decide) rfl ?_
  refine a_iconst F dX6_ringFrom_3 ?_
  refine a_topI hf (fun x5_2 hf => ?_)
  refine a_istore F (lv' := [(5, iv x5_2), (4, iv x4_1), (0, .ref (ad 35)), (1, iv x1), (2, iv x2), (3, iv x3)]) dX6_ringFrom_4 (by decide) rfl ?_
  obtain ⟨q0, he, hf⟩ := jbind_elim hf
  refine a_sub [2, 3, 4, 5, 1, 0] rfl (loop_rule (P := (fun q => ∀ z4 z5, (z4, z5) = q → At vwCl TC 9 rm_X6_ringFrom ad X σ [(0, .ref (ad 35)), (1, iv x1), (2, iv x2), (3, iv x3), (4, iv z4), (5, iv z5)] [] 6)) (K := (fun q => (.inl () = q → At vwCl TC 9 rm_X6_ringFrom ad X σ [] [] 71) ∧ (∀ z4, .inr (z4) = q → At vwCl TC 9 rm_X6_ringFrom ad X σ [(4, iv z4)] [] 95))) ?_ 1000 _ _ he ?_ _ _ rfl)
  · intro q y hy hn hx z4 z5 e
    subst e
    exact k_X6_ringFrom_b6 F hy (fun z4 z5 e => hn _ e _ _ rfl) (fun  e => (hx _ e).1  rfl) (fun z4 e => (hx _ e).2 _ rfl)
  · refine ⟨?_, ?_⟩
    · intro  e
      subst e
      refine a_iconst F dX6_ringFrom_71 ?_
      cases hf
      exact hr _ _ dX6_ringFrom_72
    · intro x4_9 e
      subst e
      refine a_iload F dX6_ringFrom_95 0 rfl ?_
      cases hf
      exact hr _ _ dX6_ringFrom_97
set_option maxRecDepth 100000 in
set_option maxHeartbeats 4000000 in
theorem c_X6_ringFrom {l : Launch}  {σ : St} {x1 x2 x3 : Int} : CtrI vwCl WS NWs TC l yX6_ringFrom cX6_ringFrom 9 (some .int) rm_X6_ringFrom (fun ad => [.ref (ad 35), iv x1, iv x2, iv x3]) σ (rd (f_X6_ringFrom σ x1 x2 x3) σ) := by
  refine ctrI_of (by decide +kernel) (fun ad => Nat.le_of_ble_eq_true rfl) (fun v σ' ad X hf F K => ?_)
  obtain ⟨hf2, e2⟩ := rd_elim hf
  subst e2
  exact k_X6_ringFrom_b0 F hf2 K
abbrev rm_X6_look : Room := { frames := 3, cells := 0, slots := 0, locals := 74 }
set_option maxRecDepth 100000 in
set_option maxHeartbeats 4000000 in
theorem k_X6_look_b0 {l : Launch} {ad : Nat → Nat} {X : Cx} (F : Ok vwCl WS NWs TC cX6_look 5 yX6_look.cls none ad l X) {σ : St} {x1 x2 x3 : Int} {y : St} (hf : f_X6_look_b0 σ x1 x2 x3 = some y) (hr : RetV vwCl TC cX6_look 5 rm_X6_look ad X y) : At vwCl TC 5 rm_X6_look ad X σ [(0, .ref (ad 35)), (1, iv x1), (2, iv x2), (3, iv x3)] [] 0 := by
  unfold f_X6_look_b0 at hf
  refine a_aload_n F dX6_look_0 rfl 0 rfl ?_
  refine a_iload_n F dX6_look_1 rfl 1 rfl ?_
  refine a_iload_n F dX6_look_2 rfl 2 rfl ?_
  refine a_iload_n F dX6_look_3 rfl 3 rfl ?_
  refine a_callVI F lk_RX6_68 tC_35 rfl c_X6_setRound rfl rfl ⟨rfl, rfl⟩ ⟨Nat.le_of_ble_eq_true rfl, Nat.le_of_ble_eq_true rfl⟩ rfl (Nat.le_of_ble_eq_true rfl) dX6_look_4 hf (fun r_1 σ_2 hf => ?_)
  refine a_if_ne F hf (tgt := 11) dX6_look_7 (by decide) (fun hf => ?_) (fun hf => ?_)
  · cases hf
    exact hr _ _ dX6_look_10
  · refine a_aload_n F dX6_look_11 rfl 0 rfl ?_
    refine a_iload_n F dX6_look_12 rfl 1 rfl ?_
    refine a_iload_n F dX6_look_13 rfl 2 rfl ?_
    refine a_iload_n F dX6_look_14 rfl 3 rfl ?_
    refine a_callVIr F lk_RX6_72 tC_35 rfl c_X6_ringFrom rfl rfl ⟨rfl, rfl⟩ ⟨Nat.le_of_ble_eq_true rfl, Nat.le_of_ble_eq_true rfl⟩ rfl (Nat.le_of_ble_eq_true rfl) dX6_look_15 hf (fun r_3 hf => ?_)
    refine a_topI hf (fun x4_4 hf => ?_)
    refine a_istore F (lv' := [(4, iv x4_4), (0, .ref (ad 35)), (1, iv x1), (2, iv x2), (3, iv x3)]) dX6_look_18 (by decide) rfl ?_
    refine a_iload F dX6_look_20 0 rfl ?_
    refine a_if_eq F hf (tgt := 104) dX6_look_22 (by decide) (fun hf => ?_) (fun hf => ?_)
    · cases hf
      exact hr _ _ dX6_look_104
    · refine a_aload_n F dX6_look_25 rfl 1 rfl ?_
      refine a_getI F (j := 2) tC_35 rfl rfl (by decide) inW6 w_486 dX6_look_26 ?_
      refine a_bipush F dX6_look_29 (by decide +kernel) ?_
      refine a_icmp_ge F hf (tgt := 104) dX6_look_31 (by decide) (fun hf => ?_) (fun hf => ?_)
      · refine a_aload_n F dX6_look_34 rfl 1 rfl ?_
        refine a_getR F (j := 3) tC_35 rfl rfl (by decide) inW6 w_487 dX6_look_35 ?_
        refine a_aload_n F dX6_look_38 rfl 1 rfl ?_
        refine a_getI F (j := 2) tC_35 rfl rfl (by decide) inW6 w_486 dX6_look_39 ?_
        refine a_iload F dX6_look_42 0 rfl ?_
        refine a_iast F tC_36 rfl (by decide) hf dX6_look_44 (fun σ_5 hf => ?_)
        refine a_aload_n F dX6_look_45 rfl 1 rfl ?_
        refine a_getR F (j := 4) tC_35 rfl rfl (by decide) inW6 w_488 dX6_look_46 ?_
        refine a_aload_n F dX6_look_49 rfl 1 rfl ?_
        refine a_getI F (j := 2) tC_35 rfl rfl (by decide) inW6 w_486 dX6_look_50 ?_
        refine a_iload_n F dX6_look_53 rfl 2 rfl ?_
        refine a_iast F tC_37 rfl (by decide) hf dX6_look_54 (fun σ_6 hf => ?_)
        refine a_aload_n F dX6_look_55 rfl 1 rfl ?_
        refine a_getR F (j := 5) tC_35 rfl rfl (by decide) inW6 w_489 dX6_look_56 ?_
        refine a_aload_n F dX6_look_59 rfl 1 rfl ?_
        refine a_getI F (j := 2) tC_35 rfl rfl (by decide) inW6 w_486 dX6_look_60 ?_
        refine a_aload_n F dX6_look_63 rfl 1 rfl ?_
        refine a_getJ F (j := 8) tC_35 rfl rfl (by decide) inW6 w_468 dX6_look_64 ?_
        refine a_last F tC_38 rfl (by decide) hf dX6_look_67 (fun σ_7 hf => ?_)
        refine a_aload_n F dX6_look_68 rfl 1 rfl ?_
        refine a_getR F (j := 6) tC_35 rfl rfl (by decide) inW6 w_490 dX6_look_69 ?_
        refine a_aload_n F dX6_look_72 rfl 1 rfl ?_
        refine a_getI F (j := 2) tC_35 rfl rfl (by decide) inW6 w_486 dX6_look_73 ?_
        refine a_aload_n F dX6_look_76 rfl 1 rfl ?_
        refine a_getJ F (j := 9) tC_35 rfl rfl (by decide) inW6 w_470 dX6_look_77 ?_
        refine a_last F tC_39 rfl (by decide) hf dX6_look_80 (fun σ_8 hf => ?_)
        refine a_aload_n F dX6_look_81 rfl 1 rfl ?_
        refine a_getR F (j := 7) tC_35 rfl rfl (by decide) inW6 w_491 dX6_look_82 ?_
        refine a_aload_n F dX6_look_85 rfl 1 rfl ?_
        refine a_getI F (j := 2) tC_35 rfl rfl (by decide) inW6 w_486 dX6_look_86 ?_
        refine a_aload_n F dX6_look_89 rfl 1 rfl ?_
        refine a_getJ F (j := 10) tC_35 rfl rfl (by decide) inW6 w_466 dX6_look_90 ?_
        refine a_last F tC_40 rfl (by decide) hf dX6_look_93 (fun σ_9 hf => ?_)
        refine a_aload_n F dX6_look_94 rfl 1 rfl ?_
        refine a_dup F dX6_look_95 rfl ?_
        refine a_getI F (j := 2) tC_35 rfl rfl (by decide) inW6 w_486 dX6_look_96 ?_
        refine a_iconst F dX6_look_99 ?_
        refine a_iadd F dX6_look_100 ?_
        refine a_putI F (j := 2) tC_35 rfl rfl (by decide) inW6 w_486 tyX6 tyX6_ok nmX6 rfl rfl hf dX6_look_101 (fun σ_10 hf => ?_)
        cases hf
        exact hr _ _ dX6_look_104
      · cases hf
        exact hr _ _ dX6_look_104
set_option maxRecDepth 100000 in
set_option maxHeartbeats 4000000 in
theorem c_X6_look {l : Launch}  {σ : St} {x1 x2 x3 : Int} : CtrV vwCl WS NWs TC l yX6_look cX6_look 5 none rm_X6_look (fun ad => [.ref (ad 35), iv x1, iv x2, iv x3]) σ (f_X6_look σ x1 x2 x3) := by
  refine ctrV_of (by decide +kernel) (fun ad => Nat.le_of_ble_eq_true rfl) (fun σ' ad X hf F K => ?_)
  exact k_X6_look_b0 F hf K
abbrev rm_X6_findOnce : Room := { frames := 4, cells := 0, slots := 0, locals := 98 }
set_option maxRecDepth 100000 in
set_option maxHeartbeats 4000000 in
theorem k_X6_findOnce_b63 {l : Launch} {ad : Nat → Nat} {X : Cx} (F : Ok vwCl WS NWs TC cX6_findOnce 4 yX6_findOnce.cls none ad l X) {σ : St} {x1 x2 x3 : Int} {y : ((St × Int) ⊕ St)} (hf : f_X6_findOnce_b63 σ x1 x2 x3 = some y) (hn : ∀ τ z3, y = .inl (τ, z3) → At vwCl TC 4 rm_X6_findOnce ad X τ [(0, .ref (ad 35)), (1, iv x1), (2, iv x2), (3, iv z3)] [] 63) (hx0 : ∀ τ, y = .inr (τ) → At vwCl TC 4 rm_X6_findOnce ad X τ [(0, .ref (ad 35)), (1, iv x1), (2, iv x2)] [] 111) : At vwCl TC 4 rm_X6_findOnce ad X σ [(0, .ref (ad 35)), (1, iv x1), (2, iv x2), (3, iv x3)] [] 63 := by
  unfold f_X6_findOnce_b63 at hf
  refine a_iload_n F dX6_findOnce_63 rfl 3 rfl ?_
  refine a_aload_n F dX6_findOnce_64 rfl 0 rfl ?_
  refine a_getR F (j := 0) tC_35 rfl rfl (by decide) inW6 w_461 dX6_findOnce_65 ?_
  refine a_getI F (j := 4) tC_1 rfl rfl (by decide) inW9 w_471 dX6_findOnce_68 ?_
  refine a_icmp_ge F hf (tgt := 111) dX6_findOnce_71 (by decide) (fun hf => ?_) (fun hf => ?_)
  · refine a_aload_n F dX6_findOnce_74 rfl 0 rfl ?_
    refine a_aload_n F dX6_findOnce_75 rfl 0 rfl ?_
    refine a_getR F (j := 0) tC_35 rfl rfl (by decide) inW6 w_461 dX6_findOnce_76 ?_
    refine a_getR F (j := 5) tC_1 rfl rfl (by decide) inW9 w_472 dX6_findOnce_79 ?_
    refine a_iload_n F dX6_findOnce_82 rfl 1 rfl ?_
    refine a_iald F tC_2 rfl (by decide) hf dX6_findOnce_83 (fun hf => ?_)
    refine a_aload_n F dX6_findOnce_84 rfl 0 rfl ?_
    refine a_getR F (j := 0) tC_35 rfl rfl (by decide) inW6 w_461 dX6_findOnce_85 ?_
    refine a_getR F (j := 5) tC_1 rfl rfl (by decide) inW9 w_472 dX6_findOnce_88 ?_
    refine a_iload_n F dX6_findOnce_91 rfl 2 rfl ?_
    refine a_iald F tC_2 rfl (by decide) hf dX6_findOnce_92 (fun hf => ?_)
    refine a_aload_n F dX6_findOnce_93 rfl 0 rfl ?_
    refine a_getR F (j := 0) tC_35 rfl rfl (by decide) inW6 w_461 dX6_findOnce_94 ?_
    refine a_getR F (j := 5) tC_1 rfl rfl (by decide) inW9 w_472 dX6_findOnce_97 ?_
    refine a_iload_n F dX6_findOnce_100 rfl 3 rfl ?_
    refine a_iald F tC_2 rfl (by decide) hf dX6_findOnce_101 (fun hf => ?_)
    refine a_callVV F lk_RX6_48 tC_35 rfl c_X6_look rfl rfl ⟨rfl, rfl⟩ ⟨Nat.le_of_ble_eq_true rfl, Nat.le_of_ble_eq_true rfl⟩ rfl (Nat.le_of_ble_eq_true rfl) dX6_findOnce_102 hf (fun σ_6 hf => ?_)
    refine a_iinc F hf dX6_findOnce_105 3 rfl (by decide) (fun x3_7 hf => ⟨[(3, iv x3_7), (0, .ref (ad 35)), (1, iv x1), (2, iv x2)], rfl, ?_⟩)
    refine a_goto F (tgt := 63) dX6_findOnce_108 (by decide) ?_
    cases hf
    exact a_sub [1, 2, 3, 0] rfl (hn _ _ rfl)
  · cases hf
    exact a_sub [0, 1, 2] rfl (hx0 _ rfl)
set_option maxRecDepth 100000 in
set_option maxHeartbeats 4000000 in
theorem k_X6_findOnce_b48 {l : Launch} {ad : Nat → Nat} {X : Cx} (F : Ok vwCl WS NWs TC cX6_findOnce 4 yX6_findOnce.cls none ad l X) {σ : St} {x1 x2 : Int} {y : ((St × Int) ⊕ St)} (hf : f_X6_findOnce_b48 σ x1 x2 = some y) (hn : ∀ τ z2, y = .inl (τ, z2) → At vwCl TC 4 rm_X6_findOnce ad X τ [(0, .ref (ad 35)), (1, iv x1), (2, iv z2)] [] 48) (hx0 : ∀ τ, y = .inr (τ) → At vwCl TC 4 rm_X6_findOnce ad X τ [(0, .ref (ad 35)), (1, iv x1)] [] 117) : At vwCl TC 4 rm_X6_findOnce ad X σ [(0, .ref (ad 35)), (1, iv x1), (2, iv x2)] [] 48 := by
  unfold f_X6_findOnce_b48 at hf
  refine a_iload_n F dX6_findOnce_48 rfl 2 rfl ?_
  refine a_aload_n F dX6_findOnce_49 rfl 0 rfl ?_
  refine a_getR F (j := 0) tC_35 rfl rfl (by decide) inW6 w_461 dX6_findOnce_50 ?_
  refine a_getI F (j := 4) tC_1 rfl rfl (by decide) inW9 w_471 dX6_findOnce_53 ?_
  refine a_icmp_ge F hf (tgt := 117) dX6_findOnce_56 (by decide) (fun hf => ?_) (fun hf => ?_)
  · refine a_iload_n F dX6_findOnce_59 rfl 2 rfl ?_
    refine a_iconst F dX6_findOnce_60 ?_
    refine a_iadd F dX6_findOnce_61 ?_
    refine a_topI hf (fun x3_5 hf => ?_)
    refine a_istore_n F (lv' := [(3, iv x3_5), (0, .ref (ad 35)), (1, iv x1), (2, iv x2)]) dX6_findOnce_62 rfl (by decide) rfl ?_
    obtain ⟨q0, he, hf⟩ := jbind_elim hf
    refine a_sub [1, 2, 3, 0] rfl (loop_rule (P := (fun q => ∀ τ z3, (τ, z3) = q → At vwCl TC 4 rm_X6_findOnce ad X τ [(0, .ref (ad 35)), (1, iv x1), (2, iv x2), (3, iv z3)] [] 63)) (K := (fun q => (∀ τ, τ = q → At vwCl TC 4 rm_X6_findOnce ad X τ [(0, .ref (ad 35)), (1, iv x1), (2, iv x2)] [] 111))) ?_ 1000 _ _ he ?_ _ _ rfl)
    · intro q y hy hn hx τ z3 e
      subst e
      exact k_X6_findOnce_b63 F hy (fun τ z3 e => hn _ e _ _ rfl) (fun τ e => (hx _ e) _ rfl)
    · intro σ_8 e
      subst e
      refine a_iinc F hf dX6_findOnce_111 2 rfl (by decide) (fun x2_9 hf => ⟨[(2, iv x2_9), (0, .ref (ad 35)), (1, iv x1)], rfl, ?_⟩)
      refine a_goto F (tgt := 48) dX6_findOnce_114 (by decide) ?_
      cases hf
      exact a_sub [1, 2, 0] rfl (hn _ _ rfl)
  · cases hf
    exact a_sub [0, 1] rfl (hx0 _ rfl)
set_option maxRecDepth 100000 in
set_option maxHeartbeats 4000000 in
theorem k_X6_findOnce_b33 {l : Launch} {ad : Nat → Nat} {X : Cx} (F : Ok vwCl WS NWs TC cX6_findOnce 4 yX6_findOnce.cls none ad l X) {σ : St} {x1 : Int} {y : ((St × Int) ⊕ St)} (hf : f_X6_findOnce_b33 σ x1 = some y) (hn : ∀ τ z1, y = .inl (τ, z1) → At vwCl TC 4 rm_X6_findOnce ad X τ [(0, .ref (ad 35)), (1, iv z1)] [] 33) (hx0 : ∀ τ, y = .inr (τ) → At vwCl TC 4 rm_X6_findOnce ad X τ [] [] 123) : At vwCl TC 4 rm_X6_findOnce ad X σ [(0, .ref (ad 35)), (1, iv x1)] [] 33 := by
  unfold f_X6_findOnce_b33 at hf
  refine a_iload_n F dX6_findOnce_33 rfl 1 rfl ?_
  refine a_aload_n F dX6_findOnce_34 rfl 0 rfl ?_
  refine a_getR F (j := 0) tC_35 rfl rfl (by decide) inW6 w_461 dX6_findOnce_35 ?_
  refine a_getI F (j := 4) tC_1 rfl rfl (by decide) inW9 w_471 dX6_findOnce_38 ?_
  refine a_icmp_ge F hf (tgt := 123) dX6_findOnce_41 (by decide) (fun hf => ?_) (fun hf => ?_)
  · refine a_iload_n F dX6_findOnce_44 rfl 1 rfl ?_
    refine a_iconst F dX6_findOnce_45 ?_
    refine a_iadd F dX6_findOnce_46 ?_
    refine a_topI hf (fun x2_4 hf => ?_)
    refine a_istore_n F (lv' := [(2, iv x2_4), (0, .ref (ad 35)), (1, iv x1)]) dX6_findOnce_47 rfl (by decide) rfl ?_
    obtain ⟨q0, he, hf⟩ := jbind_elim hf
    refine a_sub [1, 2, 0] rfl (loop_rule (P := (fun q => ∀ τ z2, (τ, z2) = q → At vwCl TC 4 rm_X6_findOnce ad X τ [(0, .ref (ad 35)), (1, iv x1), (2, iv z2)] [] 48)) (K := (fun q => (∀ τ, τ = q → At vwCl TC 4 rm_X6_findOnce ad X τ [(0, .ref (ad 35)), (1, iv x1)] [] 117))) ?_ 1000 _ _ he ?_ _ _ rfl)
    · intro q y hy hn hx τ z2 e
      subst e
      exact k_X6_findOnce_b48 F hy (fun τ z2 e => hn _ e _ _ rfl) (fun τ e => (hx _ e) _ rfl)
    · intro σ_10 e
      subst e
      refine a_iinc F hf dX6_findOnce_117 1 rfl (by decide) (fun x1_11 hf => ⟨[(1, iv x1_11), (0, .ref (ad 35))], rfl, ?_⟩)
      refine a_goto F (tgt := 33) dX6_findOnce_120 (by decide) ?_
      cases hf
      exact a_sub [1, 0] rfl (hn _ _ rfl)
  · cases hf
    exact a_sub [] rfl (hx0 _ rfl)
set_option maxRecDepth 100000 in
set_option maxHeartbeats 4000000 in
theorem k_X6_findOnce_b0 {l : Launch} {ad : Nat → Nat} {X : Cx} (F : Ok vwCl WS NWs TC cX6_findOnce 4 yX6_findOnce.cls none ad l X) {σ : St} {y : St} (hf : f_X6_findOnce_b0 σ = some y) (hr : RetV vwCl TC cX6_findOnce 4 rm_X6_findOnce ad X y) : At vwCl TC 4 rm_X6_findOnce ad X σ [(0, .ref (ad 35))] [] 0 := by
  unfold f_X6_findOnce_b0 at hf
  refine a_aload_n F dX6_findOnce_0 rfl 0 rfl ?_
  refine a_getI F (j := 1) tC_35 rfl rfl (by decide) inW6 w_492 dX6_findOnce_1 ?_
  refine a_aload_n F dX6_findOnce_4 rfl 0 rfl ?_
  refine a_getR F (j := 0) tC_35 rfl rfl (by decide) inW6 w_461 dX6_findOnce_5 ?_
  refine a_getI F (j := 6) tC_1 rfl rfl (by decide) inW9 w_493 dX6_findOnce_8 ?_
  refine a_icmp_ne F hf (tgt := 15) dX6_findOnce_11 (by decide) (fun hf => ?_) (fun hf => ?_)
  · cases hf
    exact hr _ _ dX6_findOnce_14
  · refine a_aload_n F dX6_findOnce_15 rfl 0 rfl ?_
    refine a_aload_n F dX6_findOnce_16 rfl 0 rfl ?_
    refine a_getR F (j := 0) tC_35 rfl rfl (by decide) inW6 w_461 dX6_findOnce_17 ?_
    refine a_getI F (j := 6) tC_1 rfl rfl (by decide) inW9 w_493 dX6_findOnce_20 ?_
    refine a_putI F (j := 1) tC_35 rfl rfl (by decide) inW6 w_492 tyX6 tyX6_ok nmX6 rfl rfl hf dX6_findOnce_23 (fun σ_1 hf => ?_)
    refine a_aload_n F dX6_findOnce_26 rfl 0 rfl ?_
    refine a_iconst F dX6_findOnce_27 ?_
    refine a_putI F (j := 2) tC_35 rfl rfl (by decide) inW6 w_486 tyX6 tyX6_ok nmX6 rfl rfl hf dX6_findOnce_28 (fun σ_2 hf => ?_)
    refine a_iconst F dX6_findOnce_31 ?_
    refine a_topI hf (fun x1_3 hf => ?_)
    refine a_istore_n F (lv' := [(1, iv x1_3), (0, .ref (ad 35))]) dX6_findOnce_32 rfl (by decide) rfl ?_
    obtain ⟨q0, he, hf⟩ := jbind_elim hf
    refine a_sub [1, 0] rfl (loop_rule (P := (fun q => ∀ τ z1, (τ, z1) = q → At vwCl TC 4 rm_X6_findOnce ad X τ [(0, .ref (ad 35)), (1, iv z1)] [] 33)) (K := (fun q => (∀ τ, τ = q → At vwCl TC 4 rm_X6_findOnce ad X τ [] [] 123))) ?_ 1000 _ _ he ?_ _ _ rfl)
    · intro q y hy hn hx τ z1 e
      subst e
      exact k_X6_findOnce_b33 F hy (fun τ z1 e => hn _ e _ _ rfl) (fun τ e => (hx _ e) _ rfl)
    · intro σ_12 e
      subst e
      cases hf
      exact hr _ _ dX6_findOnce_123
set_option maxRecDepth 100000 in
set_option maxHeartbeats 4000000 in
theorem c_X6_findOnce {l : Launch}  {σ : St} : CtrV vwCl WS NWs TC l yX6_findOnce cX6_findOnce 4 none rm_X6_findOnce (fun ad => [.ref (ad 35)]) σ (f_X6_findOnce σ) := by
  refine ctrV_of (by decide +kernel) (fun ad => Nat.le_of_ble_eq_true rfl) (fun σ' ad X hf F K => ?_)
  exact k_X6_findOnce_b0 F hf K
abbrev rm_X10_ring : Room := { frames := 5, cells := 0, slots := 0, locals := 121 }
set_option maxRecDepth 100000 in
set_option maxHeartbeats 4000000 in
theorem k_X10_ring_b0 {l : Launch} {ad : Nat → Nat} {X : Cx} (F : Ok vwCl WS NWs TC cX10_ring 2 yX10_ring.cls (some .int) ad l X) {σ : St} {x1 : Int} {y : (Int × St)} (hf : f_X10_ring_b0 σ x1 = some y) (hr : ∀ v τ, y = (v, τ) → RetI vwCl TC cX10_ring 2 rm_X10_ring ad X v τ) : At vwCl TC 2 rm_X10_ring ad X σ [(0, .ref (ad 0)), (1, iv x1)] [] 0 := by
  unfold f_X10_ring_b0 at hf
  refine a_aload_n F dX10_ring_0 rfl 0 rfl ?_
  refine a_getR F (j := 4) tC_0 rfl rfl (by decide) inW10 w_498 dX10_ring_1 ?_
  refine a_callVV F lk_RX10_183 tC_35 rfl c_X6_findOnce rfl rfl ⟨rfl, rfl⟩ ⟨Nat.le_of_ble_eq_true rfl, Nat.le_of_ble_eq_true rfl⟩ rfl (Nat.le_of_ble_eq_true rfl) dX10_ring_4 hf (fun σ_1 hf => ?_)
  refine a_iload_n F dX10_ring_7 rfl 1 rfl ?_
  refine a_if_lt F hf (tgt := 34) dX10_ring_8 (by decide) (fun hf => ?_) (fun hf => ?_)
  · refine a_iconst F dX10_ring_34 ?_
    cases hf
    exact hr _ _ rfl _ _ dX10_ring_35
  · refine a_iload_n F dX10_ring_11 rfl 1 rfl ?_
    refine a_aload_n F dX10_ring_12 rfl 0 rfl ?_
    refine a_getR F (j := 4) tC_0 rfl rfl (by decide) inW10 w_498 dX10_ring_13 ?_
    refine a_getI F (j := 2) tC_35 rfl rfl (by decide) inW6 w_503 dX10_ring_16 ?_
    refine a_icmp_ge F hf (tgt := 34) dX10_ring_19 (by decide) (fun hf => ?_) (fun hf => ?_)
    · refine a_aload_n F dX10_ring_22 rfl 0 rfl ?_
      refine a_getR F (j := 4) tC_0 rfl rfl (by decide) inW10 w_498 dX10_ring_23 ?_
      refine a_getR F (j := 3) tC_35 rfl rfl (by decide) inW6 w_504 dX10_ring_26 ?_
      refine a_iload_n F dX10_ring_29 rfl 1 rfl ?_
      refine a_iald F tC_36 rfl (by decide) hf dX10_ring_30 (fun hf => ?_)
      refine a_goto F (tgt := 35) dX10_ring_31 (by decide) ?_
      cases hf
      exact hr _ _ rfl _ _ dX10_ring_35
    · refine a_iconst F dX10_ring_34 ?_
      cases hf
      exact hr _ _ rfl _ _ dX10_ring_35
set_option maxRecDepth 100000 in
set_option maxHeartbeats 4000000 in
theorem c_X10_ring {l : Launch}  {σ : St} {x1 : Int} : CtrI vwCl WS NWs TC l yX10_ring cX10_ring 2 (some .int) rm_X10_ring (fun ad => [.ref (ad 0), iv x1]) σ (f_X10_ring σ x1) := by
  refine ctrI_of (by decide +kernel) (fun ad => Nat.le_of_ble_eq_true rfl) (fun v σ' ad X hf F K => ?_)
  exact k_X10_ring_b0 F hf (fun v τ e => by cases e; exact K)
abbrev rm_X10_rings : Room := { frames := 5, cells := 0, slots := 0, locals := 121 }
set_option maxRecDepth 100000 in
set_option maxHeartbeats 4000000 in
theorem k_X10_rings_b0 {l : Launch} {ad : Nat → Nat} {X : Cx} (F : Ok vwCl WS NWs TC cX10_rings 1 yX10_rings.cls (some .int) ad l X) {σ : St} {y : (Int × St)} (hf : f_X10_rings_b0 σ = some y) (hr : ∀ v τ, y = (v, τ) → RetI vwCl TC cX10_rings 1 rm_X10_rings ad X v τ) : At vwCl TC 1 rm_X10_rings ad X σ [(0, .ref (ad 0))] [] 0 := by
  unfold f_X10_rings_b0 at hf
  refine a_aload_n F dX10_rings_0 rfl 0 rfl ?_
  refine a_getR F (j := 4) tC_0 rfl rfl (by decide) inW10 w_498 dX10_rings_1 ?_
  refine a_callVV F lk_RX10_183 tC_35 rfl c_X6_findOnce rfl rfl ⟨rfl, rfl⟩ ⟨Nat.le_of_ble_eq_true rfl, Nat.le_of_ble_eq_true rfl⟩ rfl (Nat.le_of_ble_eq_true rfl) dX10_rings_4 hf (fun σ_1 hf => ?_)
  refine a_aload_n F dX10_rings_7 rfl 0 rfl ?_
  refine a_getR F (j := 4) tC_0 rfl rfl (by decide) inW10 w_498 dX10_rings_8 ?_
  refine a_getI F (j := 2) tC_35 rfl rfl (by decide) inW6 w_503 dX10_rings_11 ?_
  cases hf
  exact hr _ _ rfl _ _ dX10_rings_14
set_option maxRecDepth 100000 in
set_option maxHeartbeats 4000000 in
theorem c_X10_rings {l : Launch}  {σ : St} : CtrI vwCl WS NWs TC l yX10_rings cX10_rings 1 (some .int) rm_X10_rings (fun ad => [.ref (ad 0)]) σ (f_X10_rings σ) := by
  refine ctrI_of (by decide +kernel) (fun ad => Nat.le_of_ble_eq_true rfl) (fun v σ' ad X hf F K => ?_)
  exact k_X10_rings_b0 F hf (fun v τ e => by cases e; exact K)
abbrev rm_X6_tell : Room := { frames := 4, cells := 0, slots := 0, locals := 102 }
set_option maxRecDepth 100000 in
set_option maxHeartbeats 4000000 in
theorem k_X6_tell_b121 {l : Launch} {ad : Nat → Nat} {X : Cx} (F : Ok vwCl WS NWs TC cX6_tell 10 yX6_tell.cls (some .long) ad l X) {σ : St} {x1 x2 x3 x5 x7 t0 : Int} {y : Int} (hf : f_X6_tell_b121 σ x1 x2 x3 x5 x7 t0 = some y) (hr : RetL vwCl TC cX6_tell 10 rm_X6_tell ad X y σ) : At vwCl TC 10 rm_X6_tell ad X σ [(0, .ref (ad 35)), (1, iv x1), (2, iv x2), (3, jv x3), (5, jv x5), (7, jv x7)] [iv t0] 121 := by
  unfold f_X6_tell_b121 at hf
  refine a_topI hf (fun x9_4 hf => ?_)
  refine a_istore F (lv' := [(9, iv x9_4), (0, .ref (ad 35)), (1, iv x1), (2, iv x2), (3, jv x3), (5, jv x5), (7, jv x7)]) dX6_tell_121 (by decide) rfl ?_
  refine a_iload F dX6_tell_123 0 rfl ?_
  refine a_if_eq F hf (tgt := 150) dX6_tell_125 (by decide) (fun hf => ?_) (fun hf => ?_)
  · refine a_lload_n F dX6_tell_150 rfl 4 rfl ?_
    refine a_lload F dX6_tell_151 5 rfl ?_
    refine a_aload_n F dX6_tell_153 rfl 1 rfl ?_
    refine a_getR F (j := 7) tC_35 rfl rfl (by decide) inW6 w_491 dX6_tell_154 ?_
    refine a_iload_n F dX6_tell_157 rfl 2 rfl ?_
    refine a_lald F tC_40 rfl (by decide) hf dX6_tell_158 (fun hf => ?_)
    refine a_iload_n F dX6_tell_159 rfl 3 rfl ?_
    refine a_callNLr F lk_RX6_64 c_X10_tellPoint rfl rfl ⟨rfl, rfl⟩ ⟨Nat.le_of_ble_eq_true rfl, Nat.le_of_ble_eq_true rfl⟩ rfl (Nat.le_of_ble_eq_true rfl) dX6_tell_160 hf (fun r_5 hf => ?_)
    cases hf
    exact hr _ _ dX6_tell_163
  · refine a_lload F dX6_tell_128 6 rfl ?_
    refine a_aload_n F dX6_tell_130 rfl 1 rfl ?_
    refine a_getR F (j := 7) tC_35 rfl rfl (by decide) inW6 w_491 dX6_tell_131 ?_
    refine a_iload_n F dX6_tell_134 rfl 2 rfl ?_
    refine a_lald F tC_40 rfl (by decide) hf dX6_tell_135 (fun hf => ?_)
    refine a_aload_n F dX6_tell_136 rfl 1 rfl ?_
    refine a_getR F (j := 7) tC_35 rfl rfl (by decide) inW6 w_491 dX6_tell_137 ?_
    refine a_iload_n F dX6_tell_140 rfl 2 rfl ?_
    refine a_lald F tC_40 rfl (by decide) hf dX6_tell_141 (fun hf => ?_)
    refine a_lmul F dX6_tell_142 ?_
    refine a_iload_n F dX6_tell_143 rfl 3 rfl ?_
    refine a_callNLr F lk_RX6_60 c_X10_tellSquare rfl rfl ⟨rfl, rfl⟩ ⟨Nat.le_of_ble_eq_true rfl, Nat.le_of_ble_eq_true rfl⟩ rfl (Nat.le_of_ble_eq_true rfl) dX6_tell_144 hf (fun r_6 hf => ?_)
    refine a_goto F (tgt := 163) dX6_tell_147 (by decide) ?_
    cases hf
    exact hr _ _ dX6_tell_163
set_option maxRecDepth 100000 in
set_option maxHeartbeats 4000000 in
theorem k_X6_tell_b0 {l : Launch} {ad : Nat → Nat} {X : Cx} (F : Ok vwCl WS NWs TC cX6_tell 10 yX6_tell.cls (some .long) ad l X) {σ : St} {x1 x2 : Int} {y : Int} (hf : f_X6_tell_b0 σ x1 x2 = some y) (hr : RetL vwCl TC cX6_tell 10 rm_X6_tell ad X y σ) : At vwCl TC 10 rm_X6_tell ad X σ [(0, .ref (ad 35)), (1, iv x1), (2, iv x2)] [] 0 := by
  unfold f_X6_tell_b0 at hf
  refine a_iload_n F dX6_tell_0 rfl 1 rfl ?_
  refine a_if_lt F hf (tgt := 12) dX6_tell_1 (by decide) (fun hf => ?_) (fun hf => ?_)
  · refine a_ldc2 F (n := (-1)) (by decide +kernel) w_505 dX6_tell_12 ?_
    cases hf
    exact hr _ _ dX6_tell_15
  · refine a_iload_n F dX6_tell_4 rfl 1 rfl ?_
    refine a_aload_n F dX6_tell_5 rfl 0 rfl ?_
    refine a_getI F (j := 2) tC_35 rfl rfl (by decide) inW6 w_486 dX6_tell_6 ?_
    refine a_icmp_lt F hf (tgt := 16) dX6_tell_9 (by decide) (fun hf => ?_) (fun hf => ?_)
    · refine a_aload_n F dX6_tell_16 rfl 0 rfl ?_
      refine a_getR F (j := 0) tC_35 rfl rfl (by decide) inW6 w_461 dX6_tell_17 ?_
      refine a_getR F (j := 7) tC_1 rfl rfl (by decide) inW9 w_469 dX6_tell_20 ?_
      refine a_aload_n F dX6_tell_23 rfl 0 rfl ?_
      refine a_getR F (j := 4) tC_35 rfl rfl (by decide) inW6 w_488 dX6_tell_24 ?_
      refine a_iload_n F dX6_tell_27 rfl 1 rfl ?_
      refine a_iald F tC_37 rfl (by decide) hf dX6_tell_28 (fun hf => ?_)
      refine a_iald F tC_3 rfl (by decide) hf dX6_tell_29 (fun hf => ?_)
      refine a_i2l F hf dX6_tell_30 (fun hf => ?_)
      refine a_aload_n F dX6_tell_31 rfl 0 rfl ?_
      refine a_getR F (j := 7) tC_35 rfl rfl (by decide) inW6 w_491 dX6_tell_32 ?_
      refine a_iload_n F dX6_tell_35 rfl 1 rfl ?_
      refine a_lald F tC_40 rfl (by decide) hf dX6_tell_36 (fun hf => ?_)
      refine a_lmul F dX6_tell_37 ?_
      refine a_aload_n F dX6_tell_38 rfl 0 rfl ?_
      refine a_getR F (j := 5) tC_35 rfl rfl (by decide) inW6 w_489 dX6_tell_39 ?_
      refine a_iload_n F dX6_tell_42 rfl 1 rfl ?_
      refine a_lald F tC_38 rfl (by decide) hf dX6_tell_43 (fun hf => ?_)
      refine a_ladd F dX6_tell_44 ?_
      refine a_topJ hf (fun x3_1 hf => ?_)
      refine a_lstore_n F (lv' := [(3, jv x3_1), (0, .ref (ad 35)), (1, iv x1), (2, iv x2)]) dX6_tell_45 rfl (by decide) rfl ?_
      refine a_aload_n F dX6_tell_46 rfl 1 rfl ?_
      refine a_getR F (j := 0) tC_35 rfl rfl (by decide) inW6 w_461 dX6_tell_47 ?_
      refine a_getR F (j := 8) tC_1 rfl rfl (by decide) inW9 w_467 dX6_tell_50 ?_
      refine a_aload_n F dX6_tell_53 rfl 1 rfl ?_
      refine a_getR F (j := 4) tC_35 rfl rfl (by decide) inW6 w_488 dX6_tell_54 ?_
      refine a_iload_n F dX6_tell_57 rfl 2 rfl ?_
      refine a_iald F tC_37 rfl (by decide) hf dX6_tell_58 (fun hf => ?_)
      refine a_iald F tC_4 rfl (by decide) hf dX6_tell_59 (fun hf => ?_)
      refine a_i2l F hf dX6_tell_60 (fun hf => ?_)
      refine a_aload_n F dX6_tell_61 rfl 1 rfl ?_
      refine a_getR F (j := 7) tC_35 rfl rfl (by decide) inW6 w_491 dX6_tell_62 ?_
      refine a_iload_n F dX6_tell_65 rfl 2 rfl ?_
      refine a_lald F tC_40 rfl (by decide) hf dX6_tell_66 (fun hf => ?_)
      refine a_lmul F dX6_tell_67 ?_
      refine a_aload_n F dX6_tell_68 rfl 1 rfl ?_
      refine a_getR F (j := 6) tC_35 rfl rfl (by decide) inW6 w_490 dX6_tell_69 ?_
      refine a_iload_n F dX6_tell_72 rfl 2 rfl ?_
      refine a_lald F tC_39 rfl (by decide) hf dX6_tell_73 (fun hf => ?_)
      refine a_ladd F dX6_tell_74 ?_
      refine a_topJ hf (fun x5_2 hf => ?_)
      refine a_lstore F (lv' := [(5, jv x5_2), (3, jv x3_1), (0, .ref (ad 35)), (1, iv x1), (2, iv x2)]) dX6_tell_75 (by decide) rfl ?_
      refine a_aload_n F dX6_tell_77 rfl 2 rfl ?_
      refine a_getR F (j := 5) tC_35 rfl rfl (by decide) inW6 w_489 dX6_tell_78 ?_
      refine a_iload_n F dX6_tell_81 rfl 3 rfl ?_
      refine a_lald F tC_38 rfl (by decide) hf dX6_tell_82 (fun hf => ?_)
      refine a_aload_n F dX6_tell_83 rfl 2 rfl ?_
      refine a_getR F (j := 5) tC_35 rfl rfl (by decide) inW6 w_489 dX6_tell_84 ?_
      refine a_iload_n F dX6_tell_87 rfl 3 rfl ?_
      refine a_lald F tC_38 rfl (by decide) hf dX6_tell_88 (fun hf => ?_)
      refine a_lmul F dX6_tell_89 ?_
      refine a_aload_n F dX6_tell_90 rfl 2 rfl ?_
      refine a_getR F (j := 6) tC_35 rfl rfl (by decide) inW6 w_490 dX6_tell_91 ?_
      refine a_iload_n F dX6_tell_94 rfl 3 rfl ?_
      refine a_lald F tC_39 rfl (by decide) hf dX6_tell_95 (fun hf => ?_)
      refine a_aload_n F dX6_tell_96 rfl 2 rfl ?_
      refine a_getR F (j := 6) tC_35 rfl rfl (by decide) inW6 w_490 dX6_tell_97 ?_
      refine a_iload_n F dX6_tell_100 rfl 3 rfl ?_
      refine a_lald F tC_39 rfl (by decide) hf dX6_tell_101 (fun hf => ?_)
      refine a_lmul F dX6_tell_102 ?_
      refine a_ladd F dX6_tell_103 ?_
      refine a_topJ hf (fun x7_3 hf => ?_)
      refine a_lstore F (lv' := [(7, jv x7_3), (5, jv x5_2), (3, jv x3_1), (0, .ref (ad 35)), (1, iv x1), (2, iv x2)]) dX6_tell_104 (by decide) rfl ?_
      refine a_iload_n F dX6_tell_106 rfl 5 rfl ?_
      refine a_iconst F dX6_tell_107 ?_
      refine a_icmp_eq F hf (tgt := 116) dX6_tell_108 (by decide) (fun hf => ?_) (fun hf => ?_)
      · refine a_iconst F dX6_tell_116 ?_
        refine a_goto F (tgt := 121) dX6_tell_117 (by decide) ?_
        exact a_sub [3, 4, 5, 2, 1, 0] rfl (k_X6_tell_b121 F hf hr)
      · refine a_iload_n F dX6_tell_111 rfl 5 rfl ?_
        refine a_iconst F dX6_tell_112 ?_
        refine a_icmp_ne F hf (tgt := 120) dX6_tell_113 (by decide) (fun hf => ?_) (fun hf => ?_)
        · refine a_iconst F dX6_tell_116 ?_
          refine a_goto F (tgt := 121) dX6_tell_117 (by decide) ?_
          exact a_sub [3, 4, 5, 2, 1, 0] rfl (k_X6_tell_b121 F hf hr)
        · refine a_iconst F dX6_tell_120 ?_
          exact a_sub [3, 4, 5, 2, 1, 0] rfl (k_X6_tell_b121 F hf hr)
    · refine a_ldc2 F (n := (-1)) (by decide +kernel) w_505 dX6_tell_12 ?_
      cases hf
      exact hr _ _ dX6_tell_15
set_option maxRecDepth 100000 in
set_option maxHeartbeats 4000000 in
theorem c_X6_tell {l : Launch}  {σ : St} {x1 x2 : Int} : CtrL vwCl WS NWs TC l yX6_tell cX6_tell 10 (some .long) rm_X6_tell (fun ad => [.ref (ad 35), iv x1, iv x2]) σ (rd (f_X6_tell σ x1 x2) σ) := by
  refine ctrL_of (by decide +kernel) (fun ad => Nat.le_of_ble_eq_true rfl) (fun v σ' ad X hf F K => ?_)
  obtain ⟨hf2, e2⟩ := rd_elim hf
  subst e2
  exact k_X6_tell_b0 F hf2 K
abbrev rm_X10_round : Room := { frames := 5, cells := 0, slots := 0, locals := 131 }
set_option maxRecDepth 100000 in
set_option maxHeartbeats 4000000 in
theorem k_X10_round_b0 {l : Launch} {ad : Nat → Nat} {X : Cx} (F : Ok vwCl WS NWs TC cX10_round 3 yX10_round.cls (some .long) ad l X) {σ : St} {x1 x2 : Int} {y : (Int × St)} (hf : f_X10_round_b0 σ x1 x2 = some y) (hr : ∀ v τ, y = (v, τ) → RetL vwCl TC cX10_round 3 rm_X10_round ad X v τ) : At vwCl TC 3 rm_X10_round ad X σ [(0, .ref (ad 0)), (1, iv x1), (2, iv x2)] [] 0 := by
  unfold f_X10_round_b0 at hf
  refine a_aload_n F dX10_round_0 rfl 0 rfl ?_
  refine a_getR F (j := 4) tC_0 rfl rfl (by decide) inW10 w_498 dX10_round_1 ?_
  refine a_callVV F lk_RX10_183 tC_35 rfl c_X6_findOnce rfl rfl ⟨rfl, rfl⟩ ⟨Nat.le_of_ble_eq_true rfl, Nat.le_of_ble_eq_true rfl⟩ rfl (Nat.le_of_ble_eq_true rfl) dX10_round_4 hf (fun σ_1 hf => ?_)
  refine a_aload_n F dX10_round_7 rfl 0 rfl ?_
  refine a_getR F (j := 4) tC_0 rfl rfl (by decide) inW10 w_498 dX10_round_8 ?_
  refine a_iload_n F dX10_round_11 rfl 1 rfl ?_
  refine a_iload_n F dX10_round_12 rfl 2 rfl ?_
  refine a_callVLr F lk_RX10_190 tC_35 rfl c_X6_tell rfl rfl ⟨rfl, rfl⟩ ⟨Nat.le_of_ble_eq_true rfl, Nat.le_of_ble_eq_true rfl⟩ rfl (Nat.le_of_ble_eq_true rfl) dX10_round_13 hf (fun r_2 hf => ?_)
  cases hf
  exact hr _ _ rfl _ _ dX10_round_16
set_option maxRecDepth 100000 in
set_option maxHeartbeats 4000000 in
theorem c_X10_round {l : Launch}  {σ : St} {x1 x2 : Int} : CtrL vwCl WS NWs TC l yX10_round cX10_round 3 (some .long) rm_X10_round (fun ad => [.ref (ad 0), iv x1, iv x2]) σ (f_X10_round σ x1 x2) := by
  refine ctrL_of (by decide +kernel) (fun ad => Nat.le_of_ble_eq_true rfl) (fun v σ' ad X hf F K => ?_)
  exact k_X10_round_b0 F hf (fun v τ e => by cases e; exact K)
abbrev rm_X9_turnTo : Room := { frames := 3, cells := 0, slots := 0, locals := 63 }
set_option maxRecDepth 100000 in
set_option maxHeartbeats 4000000 in
theorem k_X9_turnTo_b0 {l : Launch} {ad : Nat → Nat} {X : Cx} (F : Ok vwCl WS NWs TC cX9_turnTo 2 yX9_turnTo.cls none ad l X) {σ : St} {x1 : Int} {y : St} (hf : f_X9_turnTo_b0 σ x1 = some y) (hr : RetV vwCl TC cX9_turnTo 2 rm_X9_turnTo ad X y) : At vwCl TC 2 rm_X9_turnTo ad X σ [(0, .ref (ad 1)), (1, iv x1)] [] 0 := by
  unfold f_X9_turnTo_b0 at hf
  refine a_aload_n F dX9_turnTo_0 rfl 0 rfl ?_
  refine a_iload_n F dX9_turnTo_1 rfl 1 rfl ?_
  refine a_putI F (j := 2) tC_1 rfl rfl (by decide) inW9 w_8 tyX9 tyX9_ok nmX9 rfl rfl hf dX9_turnTo_2 (fun σ_1 hf => ?_)
  refine a_aload_n F dX9_turnTo_5 rfl 0 rfl ?_
  refine a_callVV F lk_RX9_51 tC_1 rfl c_X9_countAnew rfl rfl ⟨rfl, rfl⟩ ⟨Nat.le_of_ble_eq_true rfl, Nat.le_of_ble_eq_true rfl⟩ rfl (Nat.le_of_ble_eq_true rfl) dX9_turnTo_6 hf (fun σ_2 hf => ?_)
  cases hf
  exact hr _ _ dX9_turnTo_9
set_option maxRecDepth 100000 in
set_option maxHeartbeats 4000000 in
theorem c_X9_turnTo {l : Launch}  {σ : St} {x1 : Int} : CtrV vwCl WS NWs TC l yX9_turnTo cX9_turnTo 2 none rm_X9_turnTo (fun ad => [.ref (ad 1), iv x1]) σ (f_X9_turnTo σ x1) := by
  refine ctrV_of (by decide +kernel) (fun ad => Nat.le_of_ble_eq_true rfl) (fun σ' ad X hf F K => ?_)
  exact k_X9_turnTo_b0 F hf K
abbrev rm_X10_season : Room := { frames := 4, cells := 0, slots := 0, locals := 84 }
set_option maxRecDepth 100000 in
set_option maxHeartbeats 4000000 in
theorem k_X10_season_b0 {l : Launch} {ad : Nat → Nat} {X : Cx} (F : Ok vwCl WS NWs TC cX10_season 3 yX10_season.cls (some .int) ad l X) {σ : St} {x1 : Int} {y : (Int × St)} (hf : f_X10_season_b0 σ x1 = some y) (hr : ∀ v τ, y = (v, τ) → RetI vwCl TC cX10_season 3 rm_X10_season ad X v τ) : At vwCl TC 3 rm_X10_season ad X σ [(0, .ref (ad 0)), (1, iv x1)] [] 0 := by
  unfold f_X10_season_b0 at hf
  refine a_iload_n F dX10_season_0 rfl 1 rfl ?_
  refine a_if_lt F hf (tgt := 9) dX10_season_1 (by decide) (fun hf => ?_) (fun hf => ?_)
  · refine a_iconst F dX10_season_9 ?_
    cases hf
    exact hr _ _ rfl _ _ dX10_season_10
  · refine a_iload_n F dX10_season_4 rfl 1 rfl ?_
    refine a_iconst F dX10_season_5 ?_
    refine a_icmp_lt F hf (tgt := 11) dX10_season_6 (by decide) (fun hf => ?_) (fun hf => ?_)
    · refine a_aload_n F dX10_season_11 rfl 0 rfl ?_
      refine a_getR F (j := 0) tC_0 rfl rfl (by decide) inW10 w_167 dX10_season_12 ?_
      refine a_getI F (j := 2) tC_1 rfl rfl (by decide) inW9 w_510 dX10_season_15 ?_
      refine a_topI hf (fun x2_1 hf => ?_)
      refine a_istore_n F (lv' := [(2, iv x2_1), (0, .ref (ad 0)), (1, iv x1)]) dX10_season_18 rfl (by decide) rfl ?_
      refine a_aload_n F dX10_season_19 rfl 1 rfl ?_
      refine a_getR F (j := 0) tC_0 rfl rfl (by decide) inW10 w_167 dX10_season_20 ?_
      refine a_iload_n F dX10_season_23 rfl 2 rfl ?_
      refine a_callVV F lk_RX10_93 tC_1 rfl c_X9_turnTo rfl rfl ⟨rfl, rfl⟩ ⟨Nat.le_of_ble_eq_true rfl, Nat.le_of_ble_eq_true rfl⟩ rfl (Nat.le_of_ble_eq_true rfl) dX10_season_24 hf (fun σ_2 hf => ?_)
      refine a_iload_n F dX10_season_27 rfl 0 rfl ?_
      cases hf
      exact hr _ _ rfl _ _ dX10_season_28
    · refine a_iconst F dX10_season_9 ?_
      cases hf
      exact hr _ _ rfl _ _ dX10_season_10
set_option maxRecDepth 100000 in
set_option maxHeartbeats 4000000 in
theorem c_X10_season {l : Launch}  {σ : St} {x1 : Int} : CtrI vwCl WS NWs TC l yX10_season cX10_season 3 (some .int) rm_X10_season (fun ad => [.ref (ad 0), iv x1]) σ (f_X10_season σ x1) := by
  refine ctrI_of (by decide +kernel) (fun ad => Nat.le_of_ble_eq_true rfl) (fun v σ' ad X hf F K => ?_)
  exact k_X10_season_b0 F hf (fun v τ e => by cases e; exact K)
abbrev rm_X10_serves : Room := { frames := 3, cells := 0, slots := 0, locals := 71 }
set_option maxRecDepth 100000 in
set_option maxHeartbeats 4000000 in
theorem k_X10_serves_b25 {l : Launch} {ad : Nat → Nat} {X : Cx} (F : Ok vwCl WS NWs TC cX10_serves 6 yX10_serves.cls (some .int) ad l X) {σ : St} {x4 x5 : Int} {y : ((Int × Int) ⊕ Int)} (hf : f_X10_serves_b25 σ x4 x5 = some y) (hn : ∀ z4 z5, y = .inl (z4, z5) → At vwCl TC 6 rm_X10_serves ad X σ [(0, .ref (ad 0)), (4, iv z4), (5, iv z5)] [] 25) (hx0 : ∀ z4, y = .inr (z4) → At vwCl TC 6 rm_X10_serves ad X σ [(4, iv z4)] [] 70) : At vwCl TC 6 rm_X10_serves ad X σ [(0, .ref (ad 0)), (4, iv x4), (5, iv x5)] [] 25 := by
  unfold f_X10_serves_b25 at hf
  refine a_iload F dX10_serves_25 2 rfl ?_
  refine a_aload_n F dX10_serves_27 rfl 0 rfl ?_
  refine a_getR F (j := 0) tC_0 rfl rfl (by decide) inW10 w_167 dX10_serves_28 ?_
  refine a_getI F (j := 4) tC_1 rfl rfl (by decide) inW9 w_331 dX10_serves_31 ?_
  refine a_icmp_ge F hf (tgt := 70) dX10_serves_34 (by decide) (fun hf => ?_) (fun hf => ?_)
  · refine a_aload_n F dX10_serves_37 rfl 0 rfl ?_
    refine a_iload F dX10_serves_38 2 rfl ?_
    refine a_iconst F dX10_serves_40 ?_
    refine a_callVIr F lk_RX10_150 tC_0 rfl c_X10_rankOf rfl rfl ⟨rfl, rfl⟩ ⟨Nat.le_of_ble_eq_true rfl, Nat.le_of_ble_eq_true rfl⟩ rfl (Nat.le_of_ble_eq_true rfl) dX10_serves_41 hf (fun r_5 hf => ?_)
    refine a_if_ne F hf (tgt := 64) dX10_serves_44 (by decide) (fun hf => ?_) (fun hf => ?_)
    · refine a_iload F dX10_serves_47 1 rfl ?_
      refine a_iconst F dX10_serves_49 ?_
      refine a_aload_n F dX10_serves_50 rfl 0 rfl ?_
      refine a_getR F (j := 0) tC_0 rfl rfl (by decide) inW10 w_167 dX10_serves_51 ?_
      refine a_getR F (j := 5) tC_1 rfl rfl (by decide) inW9 w_437 dX10_serves_54 ?_
      refine a_iload F dX10_serves_57 2 rfl ?_
      refine a_iald F tC_2 rfl (by decide) hf dX10_serves_59 (fun hf => ?_)
      refine a_ishl F dX10_serves_60 ?_
      refine a_ior F dX10_serves_61 ?_
      refine a_topI hf (fun x4_7 hf => ?_)
      refine a_istore F (lv' := [(4, iv x4_7), (0, .ref (ad 0)), (5, iv x5)]) dX10_serves_62 (by decide) rfl ?_
      refine a_iinc F hf dX10_serves_64 2 rfl (by decide) (fun x5_8 hf => ⟨[(5, iv x5_8), (4, iv x4_7), (0, .ref (ad 0))], rfl, ?_⟩)
      refine a_goto F (tgt := 25) dX10_serves_67 (by decide) ?_
      cases hf
      exact a_sub [2, 1, 0] rfl (hn _ _ rfl)
    · refine a_iinc F hf dX10_serves_64 2 rfl (by decide) (fun x5_6 hf => ⟨[(5, iv x5_6), (0, .ref (ad 0)), (4, iv x4)], rfl, ?_⟩)
      refine a_goto F (tgt := 25) dX10_serves_67 (by decide) ?_
      cases hf
      exact a_sub [1, 2, 0] rfl (hn _ _ rfl)
  · cases hf
    exact a_sub [1] rfl (hx0 _ rfl)
set_option maxRecDepth 100000 in
set_option maxHeartbeats 4000000 in
theorem k_X10_serves_b0 {l : Launch} {ad : Nat → Nat} {X : Cx} (F : Ok vwCl WS NWs TC cX10_serves 6 yX10_serves.cls (some .int) ad l X) {σ : St} {x1 x2 x3 : Int} {y : (Int × St)} (hf : f_X10_serves_b0 σ x1 x2 x3 = some y) (hr : ∀ v τ, y = (v, τ) → RetI vwCl TC cX10_serves 6 rm_X10_serves ad X v τ) : At vwCl TC 6 rm_X10_serves ad X σ [(0, .ref (ad 0)), (1, iv x1), (2, iv x2), (3, iv x3)] [] 0 := by
  unfold f_X10_serves_b0 at hf
  refine a_aload_n F dX10_serves_0 rfl 0 rfl ?_
  refine a_iload_n F dX10_serves_1 rfl 1 rfl ?_
  refine a_iload_n F dX10_serves_2 rfl 2 rfl ?_
  refine a_iload_n F dX10_serves_3 rfl 3 rfl ?_
  refine a_callVIr F lk_RX10_142 tC_0 rfl c_X10_isPoint rfl rfl ⟨rfl, rfl⟩ ⟨Nat.le_of_ble_eq_true rfl, Nat.le_of_ble_eq_true rfl⟩ rfl (Nat.le_of_ble_eq_true rfl) dX10_serves_4 hf (fun r_1 hf => ?_)
  refine a_if_ne F hf (tgt := 12) dX10_serves_7 (by decide) (fun hf => ?_) (fun hf => ?_)
  · refine a_iconst F dX10_serves_10 ?_
    cases hf
    exact hr _ _ rfl _ _ dX10_serves_11
  · refine a_aload_n F dX10_serves_12 rfl 0 rfl ?_
    refine a_iload_n F dX10_serves_13 rfl 1 rfl ?_
    refine a_iload_n F dX10_serves_14 rfl 2 rfl ?_
    refine a_iload_n F dX10_serves_15 rfl 3 rfl ?_
    refine a_callVV F lk_RX10_146 tC_0 rfl c_X10_tellCosts rfl rfl ⟨rfl, rfl⟩ ⟨Nat.le_of_ble_eq_true rfl, Nat.le_of_ble_eq_true rfl⟩ rfl (Nat.le_of_ble_eq_true rfl) dX10_serves_16 hf (fun σ_2 hf => ?_)
    refine a_iconst F dX10_serves_19 ?_
    refine a_topI hf (fun x4_3 hf => ?_)
    refine a_istore F (lv' := [(4, iv x4_3), (0, .ref (ad 0)), (1, iv x1), (2, iv x2), (3, iv x3)]) dX10_serves_20 (by decide) rfl ?_
    refine a_iconst F dX10_serves_22 ?_
    refine a_topI hf (fun x5_4 hf => ?_)
    refine a_istore F (lv' := [(5, iv x5_4), (4, iv x4_3), (0, .ref (ad 0)), (1, iv x1), (2, iv x2), (3, iv x3)]) dX10_serves_23 (by decide) rfl ?_
    obtain ⟨q0, he, hf⟩ := jbind_elim hf
    refine a_sub [2, 1, 0] rfl (loop_rule (P := (fun q => ∀ z4 z5, (z4, z5) = q → At vwCl TC 6 rm_X10_serves ad X σ_2 [(0, .ref (ad 0)), (4, iv z4), (5, iv z5)] [] 25)) (K := (fun q => (∀ z4, z4 = q → At vwCl TC 6 rm_X10_serves ad X σ_2 [(4, iv z4)] [] 70))) ?_ 1000 _ _ he ?_ _ _ rfl)
    · intro q y hy hn hx z4 z5 e
      subst e
      exact k_X10_serves_b25 F hy (fun z4 z5 e => hn _ e _ _ rfl) (fun z4 e => (hx _ e) _ rfl)
    · intro x4_9 e
      subst e
      refine a_iload F dX10_serves_70 0 rfl ?_
      cases hf
      exact hr _ _ rfl _ _ dX10_serves_72
set_option maxRecDepth 100000 in
set_option maxHeartbeats 4000000 in
theorem c_X10_serves {l : Launch}  {σ : St} {x1 x2 x3 : Int} : CtrI vwCl WS NWs TC l yX10_serves cX10_serves 6 (some .int) rm_X10_serves (fun ad => [.ref (ad 0), iv x1, iv x2, iv x3]) σ (f_X10_serves σ x1 x2 x3) := by
  refine ctrI_of (by decide +kernel) (fun ad => Nat.le_of_ble_eq_true rfl) (fun v σ' ad X hf F K => ?_)
  exact k_X10_serves_b0 F hf (fun v τ e => by cases e; exact K)
abbrev rm_X7_begin : Room := { frames := 1, cells := 0, slots := 0, locals := 25 }
set_option maxRecDepth 100000 in
set_option maxHeartbeats 4000000 in
theorem k_X7_begin_b9 {l : Launch} {ad : Nat → Nat} {X : Cx} (F : Ok vwCl WS NWs TC cX7_begin 4 yX7_begin.cls none ad l X) {σ : St} {x1 x3 : Int} {y : ((St × Int) ⊕ St)} (hf : f_X7_begin_b9 σ x1 x3 = some y) (hn : ∀ τ z3, y = .inl (τ, z3) → At vwCl TC 4 rm_X7_begin ad X τ [(0, .ref (ad 14)), (1, iv x1), (3, iv z3)] [] 9) (hx0 : ∀ τ, y = .inr (τ) → At vwCl TC 4 rm_X7_begin ad X τ [] [] 35) : At vwCl TC 4 rm_X7_begin ad X σ [(0, .ref (ad 14)), (1, iv x1), (3, iv x3)] [] 9 := by
  unfold f_X7_begin_b9 at hf
  refine a_iload_n F dX7_begin_9 rfl 2 rfl ?_
  refine a_bipush F dX7_begin_10 (by decide +kernel) ?_
  refine a_icmp_ge F hf (tgt := 35) dX7_begin_12 (by decide) (fun hf => ?_) (fun hf => ?_)
  · refine a_aload_n F dX7_begin_15 rfl 0 rfl ?_
    refine a_iload_n F dX7_begin_16 rfl 1 rfl ?_
    refine a_bipush F dX7_begin_17 (by decide +kernel) ?_
    refine a_imul F dX7_begin_19 ?_
    refine a_iload_n F dX7_begin_20 rfl 2 rfl ?_
    refine a_iadd F dX7_begin_21 ?_
    refine a_iconst F dX7_begin_22 ?_
    refine a_iconst F dX7_begin_23 ?_
    refine a_iconst F dX7_begin_24 ?_
    refine a_iconst F dX7_begin_25 ?_
    refine a_callVV F lk_RX7_37 tC_14 rfl c_X7_write rfl rfl ⟨rfl, rfl⟩ ⟨Nat.le_of_ble_eq_true rfl, Nat.le_of_ble_eq_true rfl⟩ rfl (Nat.le_of_ble_eq_true rfl) dX7_begin_26 hf (fun σ_3 hf => ?_)
    refine a_iinc F hf dX7_begin_29 2 rfl (by decide) (fun x3_4 hf => ⟨[(3, iv x3_4), (0, .ref (ad 14)), (1, iv x1)], rfl, ?_⟩)
    refine a_goto F (tgt := 9) dX7_begin_32 (by decide) ?_
    cases hf
    exact a_sub [1, 2, 0] rfl (hn _ _ rfl)
  · cases hf
    exact a_sub [] rfl (hx0 _ rfl)
set_option maxRecDepth 100000 in
set_option maxHeartbeats 4000000 in
theorem k_X7_begin_b0 {l : Launch} {ad : Nat → Nat} {X : Cx} (F : Ok vwCl WS NWs TC cX7_begin 4 yX7_begin.cls none ad l X) {σ : St} {x1 x2 : Int} {y : St} (hf : f_X7_begin_b0 σ x1 x2 = some y) (hr : RetV vwCl TC cX7_begin 4 rm_X7_begin ad X y) : At vwCl TC 4 rm_X7_begin ad X σ [(0, .ref (ad 14)), (1, iv x1), (2, iv x2)] [] 0 := by
  unfold f_X7_begin_b0 at hf
  refine a_aload_n F dX7_begin_0 rfl 0 rfl ?_
  refine a_getR F (j := 0) tC_14 rfl rfl (by decide) inW7 w_389 dX7_begin_1 ?_
  refine a_iload_n F dX7_begin_4 rfl 1 rfl ?_
  refine a_iload_n F dX7_begin_5 rfl 2 rfl ?_
  refine a_iast F tC_15 rfl (by decide) hf dX7_begin_6 (fun σ_1 hf => ?_)
  refine a_iconst F dX7_begin_7 ?_
  refine a_topI hf (fun x3_2 hf => ?_)
  refine a_istore_n F (lv' := [(3, iv x3_2), (0, .ref (ad 14)), (1, iv x1), (2, iv x2)]) dX7_begin_8 rfl (by decide) rfl ?_
  obtain ⟨q0, he, hf⟩ := jbind_elim hf
  refine a_sub [1, 2, 0] rfl (loop_rule (P := (fun q => ∀ τ z3, (τ, z3) = q → At vwCl TC 4 rm_X7_begin ad X τ [(0, .ref (ad 14)), (1, iv x1), (3, iv z3)] [] 9)) (K := (fun q => (∀ τ, τ = q → At vwCl TC 4 rm_X7_begin ad X τ [] [] 35))) ?_ 1000 _ _ he ?_ _ _ rfl)
  · intro q y hy hn hx τ z3 e
    subst e
    exact k_X7_begin_b9 F hy (fun τ z3 e => hn _ e _ _ rfl) (fun τ e => (hx _ e) _ rfl)
  · intro σ_5 e
    subst e
    cases hf
    exact hr _ _ dX7_begin_35
set_option maxRecDepth 100000 in
set_option maxHeartbeats 4000000 in
theorem c_X7_begin {l : Launch}  {σ : St} {x1 x2 : Int} : CtrV vwCl WS NWs TC l yX7_begin cX7_begin 4 none rm_X7_begin (fun ad => [.ref (ad 14), iv x1, iv x2]) σ (f_X7_begin σ x1 x2) := by
  refine ctrV_of (by decide +kernel) (fun ad => Nat.le_of_ble_eq_true rfl) (fun σ' ad X hf F K => ?_)
  exact k_X7_begin_b0 F hf K
abbrev rm_X10_sheet : Room := { frames := 2, cells := 0, slots := 0, locals := 48 }
set_option maxRecDepth 100000 in
set_option maxHeartbeats 4000000 in
theorem k_X10_sheet_b0 {l : Launch} {ad : Nat → Nat} {X : Cx} (F : Ok vwCl WS NWs TC cX10_sheet 3 yX10_sheet.cls (some .boolean) ad l X) {σ : St} {x1 x2 : Int} {y : (Int × St)} (hf : f_X10_sheet_b0 σ x1 x2 = some y) (hr : ∀ v τ, y = (v, τ) → RetI vwCl TC cX10_sheet 3 rm_X10_sheet ad X v τ) : At vwCl TC 3 rm_X10_sheet ad X σ [(0, .ref (ad 0)), (1, iv x1), (2, iv x2)] [] 0 := by
  unfold f_X10_sheet_b0 at hf
  refine a_iload_n F dX10_sheet_0 rfl 1 rfl ?_
  refine a_if_lt F hf (tgt := 21) dX10_sheet_1 (by decide) (fun hf => ?_) (fun hf => ?_)
  · refine a_iconst F dX10_sheet_21 ?_
    cases hf
    exact hr _ _ rfl _ _ dX10_sheet_22
  · refine a_iload_n F dX10_sheet_4 rfl 1 rfl ?_
    refine a_bipush F dX10_sheet_5 (by decide +kernel) ?_
    refine a_icmp_ge F hf (tgt := 21) dX10_sheet_7 (by decide) (fun hf => ?_) (fun hf => ?_)
    · refine a_iload_n F dX10_sheet_10 rfl 2 rfl ?_
      refine a_iconst F dX10_sheet_11 ?_
      refine a_icmp_lt F hf (tgt := 21) dX10_sheet_12 (by decide) (fun hf => ?_) (fun hf => ?_)
      · refine a_iconst F dX10_sheet_21 ?_
        cases hf
        exact hr _ _ rfl _ _ dX10_sheet_22
      · refine a_iload_n F dX10_sheet_15 rfl 2 rfl ?_
        refine a_bipush F dX10_sheet_16 (by decide +kernel) ?_
        refine a_icmp_le F hf (tgt := 23) dX10_sheet_18 (by decide) (fun hf => ?_) (fun hf => ?_)
        · refine a_iconst F dX10_sheet_21 ?_
          cases hf
          exact hr _ _ rfl _ _ dX10_sheet_22
        · refine a_aload_n F dX10_sheet_23 rfl 0 rfl ?_
          refine a_getR F (j := 2) tC_0 rfl rfl (by decide) inW10 w_394 dX10_sheet_24 ?_
          refine a_iload_n F dX10_sheet_27 rfl 1 rfl ?_
          refine a_iload_n F dX10_sheet_28 rfl 2 rfl ?_
          refine a_callVV F lk_RX10_214 tC_14 rfl c_X7_begin rfl rfl ⟨rfl, rfl⟩ ⟨Nat.le_of_ble_eq_true rfl, Nat.le_of_ble_eq_true rfl⟩ rfl (Nat.le_of_ble_eq_true rfl) dX10_sheet_29 hf (fun σ_1 hf => ?_)
          refine a_iconst F dX10_sheet_32 ?_
          cases hf
          exact hr _ _ rfl _ _ dX10_sheet_33
    · refine a_iconst F dX10_sheet_21 ?_
      cases hf
      exact hr _ _ rfl _ _ dX10_sheet_22
set_option maxRecDepth 100000 in
set_option maxHeartbeats 4000000 in
theorem c_X10_sheet {l : Launch}  {σ : St} {x1 x2 : Int} : CtrI vwCl WS NWs TC l yX10_sheet cX10_sheet 3 (some .boolean) rm_X10_sheet (fun ad => [.ref (ad 0), iv x1, iv x2]) σ (f_X10_sheet σ x1 x2) := by
  refine ctrZ_of (fun v σ' h => jzw_z h) (by decide +kernel) (fun ad => Nat.le_of_ble_eq_true rfl) (fun v σ' ad X hf F K => ?_)
  exact k_X10_sheet_b0 F (jzw_e hf) (fun v τ e => by cases e; exact K)
abbrev rm_X10_sink : Room := { frames := 4, cells := 0, slots := 0, locals := 88 }
set_option maxRecDepth 100000 in
set_option maxHeartbeats 4000000 in
theorem k_X10_sink_b0 {l : Launch} {ad : Nat → Nat} {X : Cx} (F : Ok vwCl WS NWs TC cX10_sink 6 yX10_sink.cls (some .int) ad l X) {σ : St} {x1 x2 x3 x4 : Int} {y : (Int × St)} (hf : f_X10_sink_b0 σ x1 x2 x3 x4 = some y) (hr : ∀ v τ, y = (v, τ) → RetI vwCl TC cX10_sink 6 rm_X10_sink ad X v τ) : At vwCl TC 6 rm_X10_sink ad X σ [(0, .ref (ad 0)), (1, iv x1), (2, iv x2), (3, iv x3), (4, iv x4)] [] 0 := by
  unfold f_X10_sink_b0 at hf
  refine a_aload_n F dX10_sink_0 rfl 0 rfl ?_
  refine a_getR F (j := 0) tC_0 rfl rfl (by decide) inW10 w_167 dX10_sink_1 ?_
  refine a_iload_n F dX10_sink_4 rfl 1 rfl ?_
  refine a_iload_n F dX10_sink_5 rfl 2 rfl ?_
  refine a_iload_n F dX10_sink_6 rfl 3 rfl ?_
  refine a_iload F dX10_sink_7 4 rfl ?_
  refine a_callVIr F lk_RX10_97 tC_1 rfl c_X9_mayBe rfl rfl ⟨rfl, rfl⟩ ⟨Nat.le_of_ble_eq_true rfl, Nat.le_of_ble_eq_true rfl⟩ rfl (Nat.le_of_ble_eq_true rfl) dX10_sink_9 hf (fun r_1 hf => ?_)
  refine a_if_ne F hf (tgt := 17) dX10_sink_12 (by decide) (fun hf => ?_) (fun hf => ?_)
  · refine a_iconst F dX10_sink_15 ?_
    cases hf
    exact hr _ _ rfl _ _ dX10_sink_16
  · refine a_aload_n F dX10_sink_17 rfl 0 rfl ?_
    refine a_getR F (j := 0) tC_0 rfl rfl (by decide) inW10 w_167 dX10_sink_18 ?_
    refine a_iload_n F dX10_sink_21 rfl 1 rfl ?_
    refine a_iload_n F dX10_sink_22 rfl 2 rfl ?_
    refine a_callVIr F lk_RX10_101 tC_1 rfl c_X9_isTaken rfl rfl ⟨rfl, rfl⟩ ⟨Nat.le_of_ble_eq_true rfl, Nat.le_of_ble_eq_true rfl⟩ rfl (Nat.le_of_ble_eq_true rfl) dX10_sink_23 hf (fun r_2 hf => ?_)
    refine a_if_eq F hf (tgt := 32) dX10_sink_26 (by decide) (fun hf => ?_) (fun hf => ?_)
    · refine a_aload_n F dX10_sink_32 rfl 0 rfl ?_
      refine a_getR F (j := 0) tC_0 rfl rfl (by decide) inW10 w_167 dX10_sink_33 ?_
      refine a_callVIr F lk_RX10_104 tC_1 rfl c_X9_leastFree rfl rfl ⟨rfl, rfl⟩ ⟨Nat.le_of_ble_eq_true rfl, Nat.le_of_ble_eq_true rfl⟩ rfl (Nat.le_of_ble_eq_true rfl) dX10_sink_36 hf (fun r_3 hf => ?_)
      refine a_topI hf (fun x5_4 hf => ?_)
      refine a_istore F (lv' := [(5, iv x5_4), (0, .ref (ad 0)), (1, iv x1), (2, iv x2), (3, iv x3), (4, iv x4)]) dX10_sink_39 (by decide) rfl ?_
      refine a_iload F dX10_sink_41 0 rfl ?_
      refine a_iconst F dX10_sink_43 ?_
      refine a_icmp_ne F hf (tgt := 50) dX10_sink_44 (by decide) (fun hf => ?_) (fun hf => ?_)
      · refine a_bipush F dX10_sink_47 (by decide +kernel) ?_
        cases hf
        exact hr _ _ rfl _ _ dX10_sink_49
      · refine a_aload_n F dX10_sink_50 rfl 1 rfl ?_
        refine a_getR F (j := 1) tC_0 rfl rfl (by decide) inW10 w_254 dX10_sink_51 ?_
        refine a_aload_n F dX10_sink_54 rfl 1 rfl ?_
        refine a_getR F (j := 0) tC_0 rfl rfl (by decide) inW10 w_167 dX10_sink_55 ?_
        refine a_callVV F lk_RX10_82 tC_7 rfl c_X5_remember rfl rfl ⟨rfl, rfl⟩ ⟨Nat.le_of_ble_eq_true rfl, Nat.le_of_ble_eq_true rfl⟩ rfl (Nat.le_of_ble_eq_true rfl) dX10_sink_58 hf (fun σ_5 hf => ?_)
        refine a_aload_n F dX10_sink_61 rfl 1 rfl ?_
        refine a_getR F (j := 0) tC_0 rfl rfl (by decide) inW10 w_167 dX10_sink_62 ?_
        refine a_iload F dX10_sink_65 0 rfl ?_
        refine a_iload_n F dX10_sink_67 rfl 2 rfl ?_
        refine a_iload_n F dX10_sink_68 rfl 3 rfl ?_
        refine a_iload_n F dX10_sink_69 rfl 4 rfl ?_
        refine a_iload F dX10_sink_70 5 rfl ?_
        refine a_callVV F lk_RX10_108 tC_1 rfl c_X9_put rfl rfl ⟨rfl, rfl⟩ ⟨Nat.le_of_ble_eq_true rfl, Nat.le_of_ble_eq_true rfl⟩ rfl (Nat.le_of_ble_eq_true rfl) dX10_sink_72 hf (fun σ_6 hf => ?_)
        refine a_iload F dX10_sink_75 0 rfl ?_
        cases hf
        exact hr _ _ rfl _ _ dX10_sink_77
    · refine a_bipush F dX10_sink_29 (by decide +kernel) ?_
      cases hf
      exact hr _ _ rfl _ _ dX10_sink_31
set_option maxRecDepth 100000 in
set_option maxHeartbeats 4000000 in
theorem c_X10_sink {l : Launch}  {σ : St} {x1 x2 x3 x4 : Int} : CtrI vwCl WS NWs TC l yX10_sink cX10_sink 6 (some .int) rm_X10_sink (fun ad => [.ref (ad 0), iv x1, iv x2, iv x3, iv x4]) σ (f_X10_sink σ x1 x2 x3 x4) := by
  refine ctrI_of (by decide +kernel) (fun ad => Nat.le_of_ble_eq_true rfl) (fun v σ' ad X hf F K => ?_)
  exact k_X10_sink_b0 F hf (fun v τ e => by cases e; exact K)
abbrev rm_X10_tree : Room := { frames := 4, cells := 0, slots := 0, locals := 90 }
set_option maxRecDepth 100000 in
set_option maxHeartbeats 4000000 in
theorem k_X10_tree_b0 {l : Launch} {ad : Nat → Nat} {X : Cx} (F : Ok vwCl WS NWs TC cX10_tree 1 yX10_tree.cls (some .int) ad l X) {σ : St} {y : (Int × St)} (hf : f_X10_tree_b0 σ = some y) (hr : ∀ v τ, y = (v, τ) → RetI vwCl TC cX10_tree 1 rm_X10_tree ad X v τ) : At vwCl TC 1 rm_X10_tree ad X σ [(0, .ref (ad 0))] [] 0 := by
  unfold f_X10_tree_b0 at hf
  refine a_aload_n F dX10_tree_0 rfl 0 rfl ?_
  refine a_getR F (j := 6) tC_0 rfl rfl (by decide) inW10 w_310 dX10_tree_1 ?_
  refine a_callVV F lk_RX10_195 tC_62 rfl c_X3_joinOnce rfl rfl ⟨rfl, rfl⟩ ⟨Nat.le_of_ble_eq_true rfl, Nat.le_of_ble_eq_true rfl⟩ rfl (Nat.le_of_ble_eq_true rfl) dX10_tree_4 hf (fun σ_1 hf => ?_)
  refine a_aload_n F dX10_tree_7 rfl 0 rfl ?_
  refine a_getR F (j := 6) tC_0 rfl rfl (by decide) inW10 w_310 dX10_tree_8 ?_
  refine a_getI F (j := 2) tC_62 rfl rfl (by decide) inW3 w_520 dX10_tree_11 ?_
  cases hf
  exact hr _ _ rfl _ _ dX10_tree_14
set_option maxRecDepth 100000 in
set_option maxHeartbeats 4000000 in
theorem c_X10_tree {l : Launch}  {σ : St} : CtrI vwCl WS NWs TC l yX10_tree cX10_tree 1 (some .int) rm_X10_tree (fun ad => [.ref (ad 0)]) σ (f_X10_tree σ) := by
  refine ctrI_of (by decide +kernel) (fun ad => Nat.le_of_ble_eq_true rfl) (fun v σ' ad X hf F K => ?_)
  exact k_X10_tree_b0 F hf (fun v τ e => by cases e; exact K)
abbrev rm_X5_takeBack : Room := { frames := 4, cells := 0, slots := 0, locals := 85 }
set_option maxRecDepth 100000 in
set_option maxHeartbeats 4000000 in
theorem k_X5_takeBack_b38 {l : Launch} {ad : Nat → Nat} {X : Cx} (F : Ok vwCl WS NWs TC cX5_takeBack 3 yX5_takeBack.cls (some .boolean) ad l X) {σ : St} {t1 : Int} {y : (Int × St)} (hf : f_X5_takeBack_b38 σ t1 = some y) (hr : ∀ v τ, y = (v, τ) → RetI vwCl TC cX5_takeBack 3 rm_X5_takeBack ad X v τ) : At vwCl TC 3 rm_X5_takeBack ad X σ [(0, .ref (ad 7)), (1, .ref (ad 1))] [iv t1, .ref (ad 7)] 38 := by
  unfold f_X5_takeBack_b38 at hf
  refine a_putI F (j := 1) tC_7 rfl rfl (by decide) inW5 w_221 tyX5 tyX5_ok nmX5 rfl rfl hf dX5_takeBack_38 (fun σ_2 hf => ?_)
  refine a_aload_n F dX5_takeBack_41 rfl 0 rfl ?_
  refine a_getI F (j := 1) tC_7 rfl rfl (by decide) inW5 w_221 dX5_takeBack_42 ?_
  refine a_bipush F dX5_takeBack_45 (by decide +kernel) ?_
  refine a_imul F dX5_takeBack_47 ?_
  refine a_topI hf (fun x2_3 hf => ?_)
  refine a_istore_n F (lv' := [(2, iv x2_3), (0, .ref (ad 7)), (1, .ref (ad 1))]) dX5_takeBack_48 rfl (by decide) rfl ?_
  refine a_aload_n F dX5_takeBack_49 rfl 1 rfl ?_
  refine a_getR F (j := 4) tC_7 rfl rfl (by decide) inW5 w_227 dX5_takeBack_50 ?_
  refine a_iload_n F dX5_takeBack_53 rfl 0 rfl ?_
  refine a_aload_n F dX5_takeBack_54 rfl 2 rfl ?_
  refine a_getR F (j := 7) tC_1 rfl rfl (by decide) inW9 w_226 dX5_takeBack_55 ?_
  refine a_iconst F dX5_takeBack_58 ?_
  refine a_bipush F dX5_takeBack_59 (by decide +kernel) ?_
  refine a_copyI F tC_10 tC_3 rfl rfl (by decide) (by decide) w_228 w_229 w_230 w_231 (by decide) (Nat.le_of_ble_eq_true rfl) hf dX5_takeBack_61 (fun σ_4 hf => ?_)
  refine a_aload_n F dX5_takeBack_64 rfl 1 rfl ?_
  refine a_getR F (j := 5) tC_7 rfl rfl (by decide) inW5 w_233 dX5_takeBack_65 ?_
  refine a_iload_n F dX5_takeBack_68 rfl 0 rfl ?_
  refine a_aload_n F dX5_takeBack_69 rfl 2 rfl ?_
  refine a_getR F (j := 8) tC_1 rfl rfl (by decide) inW9 w_232 dX5_takeBack_70 ?_
  refine a_iconst F dX5_takeBack_73 ?_
  refine a_bipush F dX5_takeBack_74 (by decide +kernel) ?_
  refine a_copyI F tC_11 tC_4 rfl rfl (by decide) (by decide) w_228 w_229 w_230 w_231 (by decide) (Nat.le_of_ble_eq_true rfl) hf dX5_takeBack_76 (fun σ_5 hf => ?_)
  refine a_aload_n F dX5_takeBack_79 rfl 1 rfl ?_
  refine a_getR F (j := 6) tC_7 rfl rfl (by decide) inW5 w_235 dX5_takeBack_80 ?_
  refine a_iload_n F dX5_takeBack_83 rfl 0 rfl ?_
  refine a_aload_n F dX5_takeBack_84 rfl 2 rfl ?_
  refine a_getR F (j := 9) tC_1 rfl rfl (by decide) inW9 w_234 dX5_takeBack_85 ?_
  refine a_iconst F dX5_takeBack_88 ?_
  refine a_bipush F dX5_takeBack_89 (by decide +kernel) ?_
  refine a_copyI F tC_12 tC_5 rfl rfl (by decide) (by decide) w_228 w_229 w_230 w_231 (by decide) (Nat.le_of_ble_eq_true rfl) hf dX5_takeBack_91 (fun σ_6 hf => ?_)
  refine a_aload_n F dX5_takeBack_94 rfl 1 rfl ?_
  refine a_getR F (j := 7) tC_7 rfl rfl (by decide) inW5 w_237 dX5_takeBack_95 ?_
  refine a_iload_n F dX5_takeBack_98 rfl 0 rfl ?_
  refine a_aload_n F dX5_takeBack_99 rfl 2 rfl ?_
  refine a_getR F (j := 10) tC_1 rfl rfl (by decide) inW9 w_236 dX5_takeBack_100 ?_
  refine a_iconst F dX5_takeBack_103 ?_
  refine a_bipush F dX5_takeBack_104 (by decide +kernel) ?_
  refine a_copyI F tC_13 tC_6 rfl rfl (by decide) (by decide) w_228 w_229 w_230 w_231 (by decide) (Nat.le_of_ble_eq_true rfl) hf dX5_takeBack_106 (fun σ_7 hf => ?_)
  refine a_aload_n F dX5_takeBack_109 rfl 2 rfl ?_
  refine a_aload_n F dX5_takeBack_110 rfl 1 rfl ?_
  refine a_getR F (j := 2) tC_7 rfl rfl (by decide) inW5 w_222 dX5_takeBack_111 ?_
  refine a_aload_n F dX5_takeBack_114 rfl 1 rfl ?_
  refine a_getI F (j := 1) tC_7 rfl rfl (by decide) inW5 w_221 dX5_takeBack_115 ?_
  refine a_iald F tC_8 rfl (by decide) hf dX5_takeBack_118 (fun hf => ?_)
  refine a_aload_n F dX5_takeBack_119 rfl 1 rfl ?_
  refine a_getR F (j := 3) tC_7 rfl rfl (by decide) inW5 w_224 dX5_takeBack_120 ?_
  refine a_aload_n F dX5_takeBack_123 rfl 1 rfl ?_
  refine a_getI F (j := 1) tC_7 rfl rfl (by decide) inW5 w_221 dX5_takeBack_124 ?_
  refine a_iald F tC_9 rfl (by decide) hf dX5_takeBack_127 (fun hf => ?_)
  refine a_callVV F lk_RX5_59 tC_1 rfl c_X9_resize rfl rfl ⟨rfl, rfl⟩ ⟨Nat.le_of_ble_eq_true rfl, Nat.le_of_ble_eq_true rfl⟩ rfl (Nat.le_of_ble_eq_true rfl) dX5_takeBack_128 hf (fun σ_8 hf => ?_)
  refine a_iconst F dX5_takeBack_131 ?_
  cases hf
  exact hr _ _ rfl _ _ dX5_takeBack_132
set_option maxRecDepth 100000 in
set_option maxHeartbeats 4000000 in
theorem k_X5_takeBack_b0 {l : Launch} {ad : Nat → Nat} {X : Cx} (F : Ok vwCl WS NWs TC cX5_takeBack 3 yX5_takeBack.cls (some .boolean) ad l X) {σ : St} {y : (Int × St)} (hf : f_X5_takeBack_b0 σ = some y) (hr : ∀ v τ, y = (v, τ) → RetI vwCl TC cX5_takeBack 3 rm_X5_takeBack ad X v τ) : At vwCl TC 3 rm_X5_takeBack ad X σ [(0, .ref (ad 7)), (1, .ref (ad 1))] [] 0 := by
  unfold f_X5_takeBack_b0 at hf
  refine a_aload_n F dX5_takeBack_0 rfl 0 rfl ?_
  refine a_getI F (j := 0) tC_7 rfl rfl (by decide) inW5 w_238 dX5_takeBack_1 ?_
  refine a_if_ne F hf (tgt := 9) dX5_takeBack_4 (by decide) (fun hf => ?_) (fun hf => ?_)
  · refine a_iconst F dX5_takeBack_7 ?_
    cases hf
    exact hr _ _ rfl _ _ dX5_takeBack_8
  · refine a_aload_n F dX5_takeBack_9 rfl 0 rfl ?_
    refine a_dup F dX5_takeBack_10 rfl ?_
    refine a_getI F (j := 0) tC_7 rfl rfl (by decide) inW5 w_238 dX5_takeBack_11 ?_
    refine a_iconst F dX5_takeBack_14 ?_
    refine a_isub F dX5_takeBack_15 ?_
    refine a_putI F (j := 0) tC_7 rfl rfl (by decide) inW5 w_238 tyX5 tyX5_ok nmX5 rfl rfl hf dX5_takeBack_16 (fun σ_1 hf => ?_)
    refine a_aload_n F dX5_takeBack_19 rfl 0 rfl ?_
    refine a_aload_n F dX5_takeBack_20 rfl 0 rfl ?_
    refine a_getI F (j := 1) tC_7 rfl rfl (by decide) inW5 w_221 dX5_takeBack_21 ?_
    refine a_if_le F hf (tgt := 36) dX5_takeBack_24 (by decide) (fun hf => ?_) (fun hf => ?_)
    · refine a_aload_n F dX5_takeBack_27 rfl 0 rfl ?_
      refine a_getI F (j := 1) tC_7 rfl rfl (by decide) inW5 w_221 dX5_takeBack_28 ?_
      refine a_iconst F dX5_takeBack_31 ?_
      refine a_isub F dX5_takeBack_32 ?_
      refine a_goto F (tgt := 38) dX5_takeBack_33 (by decide) ?_
      exact a_sub [0, 1] rfl (k_X5_takeBack_b38 F hf hr)
    · refine a_bipush F dX5_takeBack_36 (by decide +kernel) ?_
      exact a_sub [0, 1] rfl (k_X5_takeBack_b38 F hf hr)
set_option maxRecDepth 100000 in
set_option maxHeartbeats 4000000 in
theorem c_X5_takeBack {l : Launch}  {σ : St} : CtrI vwCl WS NWs TC l yX5_takeBack cX5_takeBack 3 (some .boolean) rm_X5_takeBack (fun ad => [.ref (ad 7), .ref (ad 1)]) σ (f_X5_takeBack σ) := by
  refine ctrZ_of (fun v σ' h => jzw_z h) (by decide +kernel) (fun ad => Nat.le_of_ble_eq_true rfl) (fun v σ' ad X hf F K => ?_)
  exact k_X5_takeBack_b0 F (jzw_e hf) (fun v τ e => by cases e; exact K)
abbrev rm_X10_undo : Room := { frames := 5, cells := 0, slots := 0, locals := 107 }
set_option maxRecDepth 100000 in
set_option maxHeartbeats 4000000 in
theorem k_X10_undo_b0 {l : Launch} {ad : Nat → Nat} {X : Cx} (F : Ok vwCl WS NWs TC cX10_undo 1 yX10_undo.cls (some .int) ad l X) {σ : St} {y : (Int × St)} (hf : f_X10_undo_b0 σ = some y) (hr : ∀ v τ, y = (v, τ) → RetI vwCl TC cX10_undo 1 rm_X10_undo ad X v τ) : At vwCl TC 1 rm_X10_undo ad X σ [(0, .ref (ad 0))] [] 0 := by
  unfold f_X10_undo_b0 at hf
  refine a_aload_n F dX10_undo_0 rfl 0 rfl ?_
  refine a_getR F (j := 1) tC_0 rfl rfl (by decide) inW10 w_254 dX10_undo_1 ?_
  refine a_aload_n F dX10_undo_4 rfl 0 rfl ?_
  refine a_getR F (j := 0) tC_0 rfl rfl (by decide) inW10 w_167 dX10_undo_5 ?_
  refine a_callVI F lk_RX10_234 tC_7 rfl c_X5_takeBack rfl rfl ⟨rfl, rfl⟩ ⟨Nat.le_of_ble_eq_true rfl, Nat.le_of_ble_eq_true rfl⟩ rfl (Nat.le_of_ble_eq_true rfl) dX10_undo_8 hf (fun r_1 σ_2 hf => ?_)
  refine a_if_eq F hf (tgt := 24) dX10_undo_11 (by decide) (fun hf => ?_) (fun hf => ?_)
  · refine a_iconst F dX10_undo_24 ?_
    cases hf
    exact hr _ _ rfl _ _ dX10_undo_25
  · refine a_aload_n F dX10_undo_14 rfl 0 rfl ?_
    refine a_getR F (j := 1) tC_0 rfl rfl (by decide) inW10 w_254 dX10_undo_15 ?_
    refine a_getI F (j := 0) tC_7 rfl rfl (by decide) inW5 w_332 dX10_undo_18 ?_
    refine a_goto F (tgt := 25) dX10_undo_21 (by decide) ?_
    cases hf
    exact hr _ _ rfl _ _ dX10_undo_25
set_option maxRecDepth 100000 in
set_option maxHeartbeats 4000000 in
theorem c_X10_undo {l : Launch}  {σ : St} : CtrI vwCl WS NWs TC l yX10_undo cX10_undo 1 (some .int) rm_X10_undo (fun ad => [.ref (ad 0)]) σ (f_X10_undo σ) := by
  refine ctrI_of (by decide +kernel) (fun ad => Nat.le_of_ble_eq_true rfl) (fun v σ' ad X hf F K => ?_)
  exact k_X10_undo_b0 F hf (fun v τ e => by cases e; exact K)
abbrev rm_X10_well : Room := { frames := 2, cells := 0, slots := 0, locals := 42 }
set_option maxRecDepth 100000 in
set_option maxHeartbeats 4000000 in
theorem k_X10_well_b0 {l : Launch} {ad : Nat → Nat} {X : Cx} (F : Ok vwCl WS NWs TC cX10_well 3 yX10_well.cls (some .int) ad l X) {σ : St} {x1 x2 : Int} {y : Int} (hf : f_X10_well_b0 σ x1 x2 = some y) (hr : RetI vwCl TC cX10_well 3 rm_X10_well ad X y σ) : At vwCl TC 3 rm_X10_well ad X σ [(0, .ref (ad 0)), (1, iv x1), (2, iv x2)] [] 0 := by
  unfold f_X10_well_b0 at hf
  refine a_aload_n F dX10_well_0 rfl 0 rfl ?_
  refine a_getR F (j := 0) tC_0 rfl rfl (by decide) inW10 w_167 dX10_well_1 ?_
  refine a_iload_n F dX10_well_4 rfl 1 rfl ?_
  refine a_callVIr F lk_RX10_112 tC_1 rfl c_X9_has rfl rfl ⟨rfl, rfl⟩ ⟨Nat.le_of_ble_eq_true rfl, Nat.le_of_ble_eq_true rfl⟩ rfl (Nat.le_of_ble_eq_true rfl) dX10_well_5 hf (fun r_1 hf => ?_)
  refine a_if_ne F hf (tgt := 13) dX10_well_8 (by decide) (fun hf => ?_) (fun hf => ?_)
  · refine a_iconst F dX10_well_11 ?_
    cases hf
    exact hr _ _ dX10_well_12
  · refine a_iload_n F dX10_well_13 rfl 2 rfl ?_
    obtain ⟨hg9, hf⟩ := jchk_elim hf
    by_cases hq0 : x2 = 0
    · rw [if_pos hq0] at hf
      refine a_tableIn F (tgt := 44) hg9 dX10_well_14 (by omega) (by omega) (by rw [hq0]; rfl) (by decide) ?_
      refine a_aload_n F dX10_well_44 rfl 0 rfl ?_
      refine a_getR F (j := 0) tC_0 rfl rfl (by decide) inW10 w_167 dX10_well_45 ?_
      refine a_getR F (j := 7) tC_1 rfl rfl (by decide) inW9 w_260 dX10_well_48 ?_
      refine a_iload_n F dX10_well_51 rfl 1 rfl ?_
      refine a_iald F tC_3 rfl (by decide) hf dX10_well_52 (fun hf => ?_)
      cases hf
      exact hr _ _ dX10_well_53
    · rw [if_neg hq0] at hf
      by_cases hq1 : x2 = 1
      · rw [if_pos hq1] at hf
        refine a_tableIn F (tgt := 54) hg9 dX10_well_14 (by omega) (by omega) (by rw [hq1]; rfl) (by decide) ?_
        refine a_aload_n F dX10_well_54 rfl 0 rfl ?_
        refine a_getR F (j := 0) tC_0 rfl rfl (by decide) inW10 w_167 dX10_well_55 ?_
        refine a_getR F (j := 8) tC_1 rfl rfl (by decide) inW9 w_261 dX10_well_58 ?_
        refine a_iload_n F dX10_well_61 rfl 1 rfl ?_
        refine a_iald F tC_4 rfl (by decide) hf dX10_well_62 (fun hf => ?_)
        cases hf
        exact hr _ _ dX10_well_63
      · rw [if_neg hq1] at hf
        by_cases hq2 : x2 = 2
        · rw [if_pos hq2] at hf
          refine a_tableIn F (tgt := 64) hg9 dX10_well_14 (by omega) (by omega) (by rw [hq2]; rfl) (by decide) ?_
          refine a_aload_n F dX10_well_64 rfl 0 rfl ?_
          refine a_getR F (j := 0) tC_0 rfl rfl (by decide) inW10 w_167 dX10_well_65 ?_
          refine a_getR F (j := 9) tC_1 rfl rfl (by decide) inW9 w_217 dX10_well_68 ?_
          refine a_iload_n F dX10_well_71 rfl 1 rfl ?_
          refine a_iald F tC_5 rfl (by decide) hf dX10_well_72 (fun hf => ?_)
          cases hf
          exact hr _ _ dX10_well_73
        · rw [if_neg hq2] at hf
          by_cases hq3 : x2 = 3
          · rw [if_pos hq3] at hf
            refine a_tableIn F (tgt := 74) hg9 dX10_well_14 (by omega) (by omega) (by rw [hq3]; rfl) (by decide) ?_
            refine a_aload_n F dX10_well_74 rfl 0 rfl ?_
            refine a_getR F (j := 0) tC_0 rfl rfl (by decide) inW10 w_167 dX10_well_75 ?_
            refine a_iload_n F dX10_well_78 rfl 1 rfl ?_
            refine a_callVIr F lk_RX10_132 tC_1 rfl c_X9_isCounted rfl rfl ⟨rfl, rfl⟩ ⟨Nat.le_of_ble_eq_true rfl, Nat.le_of_ble_eq_true rfl⟩ rfl (Nat.le_of_ble_eq_true rfl) dX10_well_79 hf (fun r_2 hf => ?_)
            refine a_if_eq F hf (tgt := 89) dX10_well_82 (by decide) (fun hf => ?_) (fun hf => ?_)
            · refine a_iconst F dX10_well_89 ?_
              cases hf
              exact hr _ _ dX10_well_90
            · refine a_iconst F dX10_well_85 ?_
              refine a_goto F (tgt := 90) dX10_well_86 (by decide) ?_
              cases hf
              exact hr _ _ dX10_well_90
          · rw [if_neg hq3] at hf
            refine a_tableOut F (tgt := 91) hg9 dX10_well_14 (by omega) (by decide) ?_
            refine a_iconst F dX10_well_91 ?_
            cases hf
            exact hr _ _ dX10_well_92
set_option maxRecDepth 100000 in
set_option maxHeartbeats 4000000 in
theorem c_X10_well {l : Launch}  {σ : St} {x1 x2 : Int} : CtrI vwCl WS NWs TC l yX10_well cX10_well 3 (some .int) rm_X10_well (fun ad => [.ref (ad 0), iv x1, iv x2]) σ (rd (f_X10_well σ x1 x2) σ) := by
  refine ctrI_of (by decide +kernel) (fun ad => Nat.le_of_ble_eq_true rfl) (fun v σ' ad X hf F K => ?_)
  obtain ⟨hf2, e2⟩ := rd_elim hf
  subst e2
  exact k_X10_well_b0 F hf2 K
abbrev rm_X11_isWell : Room := { frames := 0, cells := 0, slots := 0, locals := 0 }
set_option maxRecDepth 100000 in
set_option maxHeartbeats 4000000 in
theorem k_X11_isWell_b0 {l : Launch} {ad : Nat → Nat} {X : Cx} (F : Ok vwCl WS NWs TM cX11_isWell 2 yX11_isWell.cls (some .boolean) ad l X) {σ : St} {x1 : Int} {y : Int} (hf : f_X11_isWell_b0 σ x1 = some y) (hr : RetI vwCl TM cX11_isWell 2 rm_X11_isWell ad X y σ) : At vwCl TM 2 rm_X11_isWell ad X σ [(0, .ref (ad 0)), (1, iv x1)] [] 0 := by
  unfold f_X11_isWell_b0 at hf
  refine a_iload_n F dX11_isWell_0 rfl 1 rfl ?_
  refine a_if_lt F hf (tgt := 23) dX11_isWell_1 (by decide) (fun hf => ?_) (fun hf => ?_)
  · refine a_iconst F dX11_isWell_23 ?_
    cases hf
    exact hr _ _ dX11_isWell_24
  · refine a_iload_n F dX11_isWell_4 rfl 1 rfl ?_
    refine a_bipush F dX11_isWell_5 (by decide +kernel) ?_
    refine a_icmp_ge F hf (tgt := 23) dX11_isWell_7 (by decide) (fun hf => ?_) (fun hf => ?_)
    · refine a_aload_n F dX11_isWell_10 rfl 0 rfl ?_
      refine a_getR F (j := 3) tM_0 rfl rfl (by decide) inW11 w_526 dX11_isWell_11 ?_
      refine a_iload_n F dX11_isWell_14 rfl 1 rfl ?_
      refine a_zald F tM_1 rfl (by decide) hf dX11_isWell_15 (fun hf => ?_)
      refine a_if_eq F hf (tgt := 23) dX11_isWell_16 (by decide) (fun hf => ?_) (fun hf => ?_)
      · refine a_iconst F dX11_isWell_23 ?_
        cases hf
        exact hr _ _ dX11_isWell_24
      · refine a_iconst F dX11_isWell_19 ?_
        refine a_goto F (tgt := 24) dX11_isWell_20 (by decide) ?_
        cases hf
        exact hr _ _ dX11_isWell_24
    · refine a_iconst F dX11_isWell_23 ?_
      cases hf
      exact hr _ _ dX11_isWell_24
set_option maxRecDepth 100000 in
set_option maxHeartbeats 4000000 in
theorem c_X11_isWell {l : Launch}  {σ : St} {x1 : Int} : CtrI vwCl WS NWs TM l yX11_isWell cX11_isWell 2 (some .boolean) rm_X11_isWell (fun ad => [.ref (ad 0), iv x1]) σ (rd (f_X11_isWell σ x1) σ) := by
  refine ctrZ_of (fun v σ' h => jz_z (rd_elim h).1) (by decide +kernel) (fun ad => Nat.le_of_ble_eq_true rfl) (fun v σ' ad X hf F K => ?_)
  obtain ⟨hf2, e2⟩ := rd_elim hf
  subst e2
  exact k_X11_isWell_b0 F (jz_e hf2) K
abbrev rm_X11_counts : Room := { frames := 1, cells := 0, slots := 0, locals := 21 }
set_option maxRecDepth 100000 in
set_option maxHeartbeats 4000000 in
theorem k_X11_counts_b0 {l : Launch} {ad : Nat → Nat} {X : Cx} (F : Ok vwCl WS NWs TM cX11_counts 2 yX11_counts.cls (some .boolean) ad l X) {σ : St} {x1 : Int} {y : Int} (hf : f_X11_counts_b0 σ x1 = some y) (hr : RetI vwCl TM cX11_counts 2 rm_X11_counts ad X y σ) : At vwCl TM 2 rm_X11_counts ad X σ [(0, .ref (ad 0)), (1, iv x1)] [] 0 := by
  unfold f_X11_counts_b0 at hf
  refine a_aload_n F dX11_counts_0 rfl 0 rfl ?_
  refine a_iload_n F dX11_counts_1 rfl 1 rfl ?_
  refine a_callVIr F lk_RX11_124 tM_0 rfl c_X11_isWell rfl rfl ⟨rfl, rfl⟩ ⟨Nat.le_of_ble_eq_true rfl, Nat.le_of_ble_eq_true rfl⟩ rfl (Nat.le_of_ble_eq_true rfl) dX11_counts_2 hf (fun r_1 hf => ?_)
  refine a_if_eq F hf (tgt := 49) dX11_counts_5 (by decide) (fun hf => ?_) (fun hf => ?_)
  · refine a_iconst F dX11_counts_49 ?_
    cases hf
    exact hr _ _ dX11_counts_50
  · refine a_aload_n F dX11_counts_8 rfl 0 rfl ?_
    refine a_getR F (j := 6) tM_0 rfl rfl (by decide) inW11 w_532 dX11_counts_9 ?_
    refine a_iload_n F dX11_counts_12 rfl 1 rfl ?_
    refine a_iald F tM_4 rfl (by decide) hf dX11_counts_13 (fun hf => ?_)
    refine a_iconst F dX11_counts_14 ?_
    refine a_icmp_eq F hf (tgt := 49) dX11_counts_15 (by decide) (fun hf => ?_) (fun hf => ?_)
    · refine a_iconst F dX11_counts_49 ?_
      cases hf
      exact hr _ _ dX11_counts_50
    · refine a_aload_n F dX11_counts_18 rfl 0 rfl ?_
      refine a_getR F (j := 6) tM_0 rfl rfl (by decide) inW11 w_532 dX11_counts_19 ?_
      refine a_iload_n F dX11_counts_22 rfl 1 rfl ?_
      refine a_iald F tM_4 rfl (by decide) hf dX11_counts_23 (fun hf => ?_)
      refine a_iconst F dX11_counts_24 ?_
      refine a_icmp_ne F hf (tgt := 45) dX11_counts_25 (by decide) (fun hf => ?_) (fun hf => ?_)
      · refine a_aload_n F dX11_counts_28 rfl 0 rfl ?_
        refine a_getR F (j := 7) tM_0 rfl rfl (by decide) inW11 w_533 dX11_counts_29 ?_
        refine a_iload_n F dX11_counts_32 rfl 1 rfl ?_
        refine a_iald F tM_5 rfl (by decide) hf dX11_counts_33 (fun hf => ?_)
        refine a_aload_n F dX11_counts_34 rfl 0 rfl ?_
        refine a_getI F (j := 2) tM_0 rfl rfl (by decide) inW11 w_534 dX11_counts_35 ?_
        refine a_ishr F dX11_counts_38 ?_
        refine a_iconst F dX11_counts_39 ?_
        refine a_iand F dX11_counts_40 ?_
        refine a_iconst F dX11_counts_41 ?_
        refine a_icmp_ne F hf (tgt := 49) dX11_counts_42 (by decide) (fun hf => ?_) (fun hf => ?_)
        · refine a_iconst F dX11_counts_45 ?_
          refine a_goto F (tgt := 50) dX11_counts_46 (by decide) ?_
          cases hf
          exact hr _ _ dX11_counts_50
        · refine a_iconst F dX11_counts_49 ?_
          cases hf
          exact hr _ _ dX11_counts_50
      · refine a_iconst F dX11_counts_45 ?_
        refine a_goto F (tgt := 50) dX11_counts_46 (by decide) ?_
        cases hf
        exact hr _ _ dX11_counts_50
set_option maxRecDepth 100000 in
set_option maxHeartbeats 4000000 in
theorem c_X11_counts {l : Launch}  {σ : St} {x1 : Int} : CtrI vwCl WS NWs TM l yX11_counts cX11_counts 2 (some .boolean) rm_X11_counts (fun ad => [.ref (ad 0), iv x1]) σ (rd (f_X11_counts σ x1) σ) := by
  refine ctrZ_of (fun v σ' h => jz_z (rd_elim h).1) (by decide +kernel) (fun ad => Nat.le_of_ble_eq_true rfl) (fun v σ' ad X hf F K => ?_)
  obtain ⟨hf2, e2⟩ := rd_elim hf
  subst e2
  exact k_X11_counts_b0 F (jz_e hf2) K
abbrev rm_X11_off : Room := { frames := 0, cells := 0, slots := 0, locals := 0 }
set_option maxRecDepth 100000 in
set_option maxHeartbeats 4000000 in
theorem k_X11_off_b0 {l : Launch} {ad : Nat → Nat} {X : Cx} (F : Ok vwCl WS NWs TM cX11_off 2 yX11_off.cls (some .long) ad l X) {σ : St} {x1 : Int} {y : Int} (hf : f_X11_off_b0 σ x1 = some y) (hr : RetL vwCl TM cX11_off 2 rm_X11_off ad X y σ) : At vwCl TM 2 rm_X11_off ad X σ [(0, .ref (ad 0)), (1, iv x1)] [] 0 := by
  unfold f_X11_off_b0 at hf
  refine a_aload_n F dX11_off_0 rfl 0 rfl ?_
  refine a_getR F (j := 6) tM_0 rfl rfl (by decide) inW11 w_532 dX11_off_1 ?_
  refine a_iload_n F dX11_off_4 rfl 1 rfl ?_
  refine a_iald F tM_4 rfl (by decide) hf dX11_off_5 (fun hf => ?_)
  refine a_iconst F dX11_off_6 ?_
  refine a_icmp_ne F hf (tgt := 20) dX11_off_7 (by decide) (fun hf => ?_) (fun hf => ?_)
  · refine a_aload_n F dX11_off_10 rfl 0 rfl ?_
    refine a_getR F (j := 7) tM_0 rfl rfl (by decide) inW11 w_533 dX11_off_11 ?_
    refine a_iload_n F dX11_off_14 rfl 1 rfl ?_
    refine a_iald F tM_5 rfl (by decide) hf dX11_off_15 (fun hf => ?_)
    refine a_i2l F hf dX11_off_16 (fun hf => ?_)
    refine a_goto F (tgt := 21) dX11_off_17 (by decide) ?_
    cases hf
    exact hr _ _ dX11_off_21
  · refine a_lconst F (n := 0) dX11_off_20 (by decide +kernel) ?_
    cases hf
    exact hr _ _ dX11_off_21
set_option maxRecDepth 100000 in
set_option maxHeartbeats 4000000 in
theorem c_X11_off {l : Launch}  {σ : St} {x1 : Int} : CtrL vwCl WS NWs TM l yX11_off cX11_off 2 (some .long) rm_X11_off (fun ad => [.ref (ad 0), iv x1]) σ (rd (f_X11_off σ x1) σ) := by
  refine ctrL_of (by decide +kernel) (fun ad => Nat.le_of_ble_eq_true rfl) (fun v σ' ad X hf F K => ?_)
  obtain ⟨hf2, e2⟩ := rd_elim hf
  subst e2
  exact k_X11_off_b0 F hf2 K
abbrev rm_X11_line : Room := { frames := 0, cells := 0, slots := 0, locals := 0 }
set_option maxRecDepth 100000 in
set_option maxHeartbeats 4000000 in
theorem k_X11_line_b0 {l : Launch} {ad : Nat → Nat} {X : Cx} (F : Ok vwCl WS NWs TM cX11_line 7 yX11_line.cls none ad l X) {σ : St} {x1 x3 x5 : Int} {y : St} (hf : f_X11_line_b0 σ x1 x3 x5 = some y) (hr : RetV vwCl TM cX11_line 7 rm_X11_line ad X y) : At vwCl TM 7 rm_X11_line ad X σ [(0, .ref (ad 0)), (1, jv x1), (3, jv x3), (5, jv x5)] [] 0 := by
  unfold f_X11_line_b0 at hf
  refine a_aload_n F dX11_line_0 rfl 0 rfl ?_
  refine a_getR F (j := 17) tM_0 rfl rfl (by decide) inW11 w_535 dX11_line_1 ?_
  refine a_aload_n F dX11_line_4 rfl 0 rfl ?_
  refine a_getI F (j := 16) tM_0 rfl rfl (by decide) inW11 w_536 dX11_line_5 ?_
  refine a_lload_n F dX11_line_8 rfl 1 rfl ?_
  refine a_last F tM_13 rfl (by decide) hf dX11_line_9 (fun σ_1 hf => ?_)
  refine a_aload_n F dX11_line_10 rfl 0 rfl ?_
  refine a_getR F (j := 18) tM_0 rfl rfl (by decide) inW11 w_537 dX11_line_11 ?_
  refine a_aload_n F dX11_line_14 rfl 0 rfl ?_
  refine a_getI F (j := 16) tM_0 rfl rfl (by decide) inW11 w_536 dX11_line_15 ?_
  refine a_lload_n F dX11_line_18 rfl 2 rfl ?_
  refine a_last F tM_14 rfl (by decide) hf dX11_line_19 (fun σ_2 hf => ?_)
  refine a_aload_n F dX11_line_20 rfl 0 rfl ?_
  refine a_getR F (j := 19) tM_0 rfl rfl (by decide) inW11 w_538 dX11_line_21 ?_
  refine a_aload_n F dX11_line_24 rfl 0 rfl ?_
  refine a_getI F (j := 16) tM_0 rfl rfl (by decide) inW11 w_536 dX11_line_25 ?_
  refine a_lload F dX11_line_28 3 rfl ?_
  refine a_last F tM_15 rfl (by decide) hf dX11_line_30 (fun σ_3 hf => ?_)
  refine a_aload_n F dX11_line_31 rfl 0 rfl ?_
  refine a_dup F dX11_line_32 rfl ?_
  refine a_getI F (j := 16) tM_0 rfl rfl (by decide) inW11 w_536 dX11_line_33 ?_
  refine a_iconst F dX11_line_36 ?_
  refine a_iadd F dX11_line_37 ?_
  refine a_putI F (j := 16) tM_0 rfl rfl (by decide) inW11 w_536 tyX11 tyX11_ok nmX11 rfl rfl hf dX11_line_38 (fun σ_4 hf => ?_)
  cases hf
  exact hr _ _ dX11_line_41
set_option maxRecDepth 100000 in
set_option maxHeartbeats 4000000 in
theorem c_X11_line {l : Launch}  {σ : St} {x1 x3 x5 : Int} : CtrV vwCl WS NWs TM l yX11_line cX11_line 7 none rm_X11_line (fun ad => [.ref (ad 0), jv x1, jv x3, jv x5]) σ (f_X11_line σ x1 x3 x5) := by
  refine ctrV_of (by decide +kernel) (fun ad => Nat.le_of_ble_eq_true rfl) (fun σ' ad X hf F K => ?_)
  exact k_X11_line_b0 F hf K
abbrev rm_X11_against : Room := { frames := 1, cells := 0, slots := 0, locals := 26 }
set_option maxRecDepth 100000 in
set_option maxHeartbeats 4000000 in
theorem k_X11_against_b0 {l : Launch} {ad : Nat → Nat} {X : Cx} (F : Ok vwCl WS NWs TM cX11_against 11 yX11_against.cls none ad l X) {σ : St} {x1 x2 : Int} {y : St} (hf : f_X11_against_b0 σ x1 x2 = some y) (hr : RetV vwCl TM cX11_against 11 rm_X11_against ad X y) : At vwCl TM 11 rm_X11_against ad X σ [(0, .ref (ad 0)), (1, iv x1), (2, iv x2)] [] 0 := by
  unfold f_X11_against_b0 at hf
  refine a_aload_n F dX11_against_0 rfl 0 rfl ?_
  refine a_getR F (j := 4) tM_0 rfl rfl (by decide) inW11 w_539 dX11_against_1 ?_
  refine a_iload_n F dX11_against_4 rfl 2 rfl ?_
  refine a_iald F tM_2 rfl (by decide) hf dX11_against_5 (fun hf => ?_)
  refine a_i2l F hf dX11_against_6 (fun hf => ?_)
  refine a_topJ hf (fun x3_1 hf => ?_)
  refine a_lstore_n F (lv' := [(3, jv x3_1), (0, .ref (ad 0)), (1, iv x1), (2, iv x2)]) dX11_against_7 rfl (by decide) rfl ?_
  refine a_aload_n F dX11_against_8 rfl 1 rfl ?_
  refine a_getR F (j := 5) tM_0 rfl rfl (by decide) inW11 w_540 dX11_against_9 ?_
  refine a_iload_n F dX11_against_12 rfl 3 rfl ?_
  refine a_iald F tM_3 rfl (by decide) hf dX11_against_13 (fun hf => ?_)
  refine a_i2l F hf dX11_against_14 (fun hf => ?_)
  refine a_topJ hf (fun x5_2 hf => ?_)
  refine a_lstore F (lv' := [(5, jv x5_2), (3, jv x3_1), (0, .ref (ad 0)), (1, iv x1), (2, iv x2)]) dX11_against_15 (by decide) rfl ?_
  refine a_aload_n F dX11_against_17 rfl 2 rfl ?_
  refine a_getR F (j := 4) tM_0 rfl rfl (by decide) inW11 w_539 dX11_against_18 ?_
  refine a_iload_n F dX11_against_21 rfl 3 rfl ?_
  refine a_iald F tM_2 rfl (by decide) hf dX11_against_22 (fun hf => ?_)
  refine a_i2l F hf dX11_against_23 (fun hf => ?_)
  refine a_topJ hf (fun x7_3 hf => ?_)
  refine a_lstore F (lv' := [(7, jv x7_3), (5, jv x5_2), (3, jv x3_1), (0, .ref (ad 0)), (1, iv x1), (2, iv x2)]) dX11_against_24 (by decide) rfl ?_
  refine a_aload_n F dX11_against_26 rfl 3 rfl ?_
  refine a_getR F (j := 5) tM_0 rfl rfl (by decide) inW11 w_540 dX11_against_27 ?_
  refine a_iload_n F dX11_against_30 rfl 4 rfl ?_
  refine a_iald F tM_3 rfl (by decide) hf dX11_against_31 (fun hf => ?_)
  refine a_i2l F hf dX11_against_32 (fun hf => ?_)
  refine a_topJ hf (fun x9_4 hf => ?_)
  refine a_lstore F (lv' := [(9, jv x9_4), (7, jv x7_3), (5, jv x5_2), (3, jv x3_1), (0, .ref (ad 0)), (1, iv x1), (2, iv x2)]) dX11_against_33 (by decide) rfl ?_
  refine a_aload_n F dX11_against_35 rfl 4 rfl ?_
  refine a_ldc2 F (n := 2) (by decide +kernel) w_541 dX11_against_36 ?_
  refine a_lload_n F dX11_against_39 rfl 3 rfl ?_
  refine a_lload F dX11_against_40 1 rfl ?_
  refine a_lsub F dX11_against_42 ?_
  refine a_lmul F dX11_against_43 ?_
  refine a_ldc2 F (n := 2) (by decide +kernel) w_541 dX11_against_44 ?_
  refine a_lload F dX11_against_47 2 rfl ?_
  refine a_lload F dX11_against_49 0 rfl ?_
  refine a_lsub F dX11_against_51 ?_
  refine a_lmul F dX11_against_52 ?_
  refine a_lload_n F dX11_against_53 rfl 3 rfl ?_
  refine a_lload_n F dX11_against_54 rfl 3 rfl ?_
  refine a_lmul F dX11_against_55 ?_
  refine a_lload F dX11_against_56 2 rfl ?_
  refine a_lload F dX11_against_58 2 rfl ?_
  refine a_lmul F dX11_against_60 ?_
  refine a_ladd F dX11_against_61 ?_
  refine a_lload F dX11_against_62 1 rfl ?_
  refine a_lload F dX11_against_64 1 rfl ?_
  refine a_lmul F dX11_against_66 ?_
  refine a_lsub F dX11_against_67 ?_
  refine a_lload F dX11_against_68 0 rfl ?_
  refine a_lload F dX11_against_70 0 rfl ?_
  refine a_lmul F dX11_against_72 ?_
  refine a_lsub F dX11_against_73 ?_
  refine a_aload_n F dX11_against_74 rfl 4 rfl ?_
  refine a_iload_n F dX11_against_75 rfl 6 rfl ?_
  refine a_callVLr F lk_RX11_151 tM_0 rfl c_X11_off rfl rfl ⟨rfl, rfl⟩ ⟨Nat.le_of_ble_eq_true rfl, Nat.le_of_ble_eq_true rfl⟩ rfl (Nat.le_of_ble_eq_true rfl) dX11_against_76 hf (fun r_5 hf => ?_)
  refine a_lsub F dX11_against_79 ?_
  refine a_aload_n F dX11_against_80 rfl 4 rfl ?_
  refine a_iload_n F dX11_against_81 rfl 5 rfl ?_
  refine a_callVLr F lk_RX11_151 tM_0 rfl c_X11_off rfl rfl ⟨rfl, rfl⟩ ⟨Nat.le_of_ble_eq_true rfl, Nat.le_of_ble_eq_true rfl⟩ rfl (Nat.le_of_ble_eq_true rfl) dX11_against_82 hf (fun r_6 hf => ?_)
  refine a_ladd F dX11_against_85 ?_
  refine a_callVV F lk_RX11_168 tM_0 rfl c_X11_line rfl rfl ⟨rfl, rfl⟩ ⟨Nat.le_of_ble_eq_true rfl, Nat.le_of_ble_eq_true rfl⟩ rfl (Nat.le_of_ble_eq_true rfl) dX11_against_86 hf (fun σ_7 hf => ?_)
  cases hf
  exact hr _ _ dX11_against_89
set_option maxRecDepth 100000 in
set_option maxHeartbeats 4000000 in
theorem c_X11_against {l : Launch}  {σ : St} {x1 x2 : Int} : CtrV vwCl WS NWs TM l yX11_against cX11_against 11 none rm_X11_against (fun ad => [.ref (ad 0), iv x1, iv x2]) σ (f_X11_against σ x1 x2) := by
  refine ctrV_of (by decide +kernel) (fun ad => Nat.le_of_ble_eq_true rfl) (fun σ' ad X hf F K => ?_)
  exact k_X11_against_b0 F hf K
abbrev rm_X11_linesOf : Room := { frames := 2, cells := 0, slots := 0, locals := 56 }
set_option maxRecDepth 100000 in
set_option maxHeartbeats 4000000 in
theorem k_X11_linesOf_b18 {l : Launch} {ad : Nat → Nat} {X : Cx} (F : Ok vwCl WS NWs TM cX11_linesOf 4 yX11_linesOf.cls none ad l X) {σ : St} {x1 x2 x3 : Int} {y : ((St × Int) ⊕ St)} (hf : f_X11_linesOf_b18 σ x1 x2 x3 = some y) (hn : ∀ τ z3, y = .inl (τ, z3) → At vwCl TM 4 rm_X11_linesOf ad X τ [(0, .ref (ad 0)), (1, iv x1), (2, iv x2), (3, iv z3)] [] 18) (hx0 : ∀ τ, y = .inr (τ) → At vwCl TM 4 rm_X11_linesOf ad X τ [(0, .ref (ad 0))] [] 54) : At vwCl TM 4 rm_X11_linesOf ad X σ [(0, .ref (ad 0)), (1, iv x1), (2, iv x2), (3, iv x3)] [] 18 := by
  unfold f_X11_linesOf_b18 at hf
  refine a_iload_n F dX11_linesOf_18 rfl 3 rfl ?_
  refine a_bipush F dX11_linesOf_19 (by decide +kernel) ?_
  refine a_icmp_ge F hf (tgt := 54) dX11_linesOf_21 (by decide) (fun hf => ?_) (fun hf => ?_)
  · refine a_iload_n F dX11_linesOf_24 rfl 3 rfl ?_
    refine a_iload_n F dX11_linesOf_25 rfl 1 rfl ?_
    refine a_icmp_eq F hf (tgt := 48) dX11_linesOf_26 (by decide) (fun hf => ?_) (fun hf => ?_)
    · refine a_iinc F hf dX11_linesOf_48 3 rfl (by decide) (fun x3_3 hf => ⟨[(3, iv x3_3), (0, .ref (ad 0)), (1, iv x1), (2, iv x2)], rfl, ?_⟩)
      refine a_goto F (tgt := 18) dX11_linesOf_51 (by decide) ?_
      cases hf
      exact a_sub [1, 2, 3, 0] rfl (hn _ _ rfl)
    · refine a_iload_n F dX11_linesOf_29 rfl 3 rfl ?_
      refine a_iload_n F dX11_linesOf_30 rfl 2 rfl ?_
      refine a_icmp_eq F hf (tgt := 48) dX11_linesOf_31 (by decide) (fun hf => ?_) (fun hf => ?_)
      · refine a_iinc F hf dX11_linesOf_48 3 rfl (by decide) (fun x3_4 hf => ⟨[(3, iv x3_4), (0, .ref (ad 0)), (1, iv x1), (2, iv x2)], rfl, ?_⟩)
        refine a_goto F (tgt := 18) dX11_linesOf_51 (by decide) ?_
        cases hf
        exact a_sub [1, 2, 3, 0] rfl (hn _ _ rfl)
      · refine a_aload_n F dX11_linesOf_34 rfl 0 rfl ?_
        refine a_iload_n F dX11_linesOf_35 rfl 3 rfl ?_
        refine a_callVIr F lk_RX11_148 tM_0 rfl c_X11_counts rfl rfl ⟨rfl, rfl⟩ ⟨Nat.le_of_ble_eq_true rfl, Nat.le_of_ble_eq_true rfl⟩ rfl (Nat.le_of_ble_eq_true rfl) dX11_linesOf_36 hf (fun r_5 hf => ?_)
        refine a_if_eq F hf (tgt := 48) dX11_linesOf_39 (by decide) (fun hf => ?_) (fun hf => ?_)
        · refine a_iinc F hf dX11_linesOf_48 3 rfl (by decide) (fun x3_6 hf => ⟨[(3, iv x3_6), (0, .ref (ad 0)), (1, iv x1), (2, iv x2)], rfl, ?_⟩)
          refine a_goto F (tgt := 18) dX11_linesOf_51 (by decide) ?_
          cases hf
          exact a_sub [1, 2, 3, 0] rfl (hn _ _ rfl)
        · refine a_aload_n F dX11_linesOf_42 rfl 0 rfl ?_
          refine a_iload_n F dX11_linesOf_43 rfl 1 rfl ?_
          refine a_iload_n F dX11_linesOf_44 rfl 3 rfl ?_
          refine a_callVV F lk_RX11_172 tM_0 rfl c_X11_against rfl rfl ⟨rfl, rfl⟩ ⟨Nat.le_of_ble_eq_true rfl, Nat.le_of_ble_eq_true rfl⟩ rfl (Nat.le_of_ble_eq_true rfl) dX11_linesOf_45 hf (fun σ_7 hf => ?_)
          refine a_iinc F hf dX11_linesOf_48 3 rfl (by decide) (fun x3_8 hf => ⟨[(3, iv x3_8), (0, .ref (ad 0)), (1, iv x1), (2, iv x2)], rfl, ?_⟩)
          refine a_goto F (tgt := 18) dX11_linesOf_51 (by decide) ?_
          cases hf
          exact a_sub [1, 2, 3, 0] rfl (hn _ _ rfl)
  · cases hf
    exact a_sub [0] rfl (hx0 _ rfl)
set_option maxRecDepth 100000 in
set_option maxHeartbeats 4000000 in
theorem k_X11_linesOf_b0 {l : Launch} {ad : Nat → Nat} {X : Cx} (F : Ok vwCl WS NWs TM cX11_linesOf 4 yX11_linesOf.cls none ad l X) {σ : St} {x1 x2 : Int} {y : St} (hf : f_X11_linesOf_b0 σ x1 x2 = some y) (hr : RetV vwCl TM cX11_linesOf 4 rm_X11_linesOf ad X y) : At vwCl TM 4 rm_X11_linesOf ad X σ [(0, .ref (ad 0)), (1, iv x1), (2, iv x2)] [] 0 := by
  unfold f_X11_linesOf_b0 at hf
  refine a_aload_n F dX11_linesOf_0 rfl 0 rfl ?_
  refine a_iconst F dX11_linesOf_1 ?_
  refine a_putI F (j := 16) tM_0 rfl rfl (by decide) inW11 w_536 tyX11 tyX11_ok nmX11 rfl rfl hf dX11_linesOf_2 (fun σ_1 hf => ?_)
  refine a_iload_n F dX11_linesOf_5 rfl 2 rfl ?_
  refine a_iconst F dX11_linesOf_6 ?_
  refine a_icmp_eq F hf (tgt := 16) dX11_linesOf_7 (by decide) (fun hf => ?_) (fun hf => ?_)
  · refine a_iconst F dX11_linesOf_16 ?_
    refine a_topI hf (fun x3_2 hf => ?_)
    refine a_istore_n F (lv' := [(3, iv x3_2), (0, .ref (ad 0)), (1, iv x1), (2, iv x2)]) dX11_linesOf_17 rfl (by decide) rfl ?_
    obtain ⟨q0, he, hf⟩ := jbind_elim hf
    refine a_sub [1, 2, 3, 0] rfl (loop_rule (P := (fun q => ∀ τ z3, (τ, z3) = q → At vwCl TM 4 rm_X11_linesOf ad X τ [(0, .ref (ad 0)), (1, iv x1), (2, iv x2), (3, iv z3)] [] 18)) (K := (fun q => (∀ τ, τ = q → At vwCl TM 4 rm_X11_linesOf ad X τ [(0, .ref (ad 0))] [] 54))) ?_ 1000 _ _ he ?_ _ _ rfl)
    · intro q y hy hn hx τ z3 e
      subst e
      exact k_X11_linesOf_b18 F hy (fun τ z3 e => hn _ e _ _ rfl) (fun τ e => (hx _ e) _ rfl)
    · intro σ_9 e
      subst e
      refine a_aload_n F dX11_linesOf_54 rfl 0 rfl ?_
      refine a_ldc2 F (n := (-1)) (by decide +kernel) w_558 dX11_linesOf_55 ?_
      refine a_lconst F (n := 0) dX11_linesOf_58 (by decide +kernel) ?_
      refine a_lconst F (n := 0) dX11_linesOf_59 (by decide +kernel) ?_
      refine a_callVV F lk_RX11_168 tM_0 rfl c_X11_line rfl rfl ⟨rfl, rfl⟩ ⟨Nat.le_of_ble_eq_true rfl, Nat.le_of_ble_eq_true rfl⟩ rfl (Nat.le_of_ble_eq_true rfl) dX11_linesOf_60 hf (fun σ_10 hf => ?_)
      refine a_aload_n F dX11_linesOf_63 rfl 0 rfl ?_
      refine a_lconst F (n := 1) dX11_linesOf_64 (by decide +kernel) ?_
      refine a_lconst F (n := 0) dX11_linesOf_65 (by decide +kernel) ?_
      refine a_aload_n F dX11_linesOf_66 rfl 0 rfl ?_
      refine a_getI F (j := 0) tM_0 rfl rfl (by decide) inW11 w_559 dX11_linesOf_67 ?_
      refine a_i2l F hf dX11_linesOf_70 (fun hf => ?_)
      refine a_callVV F lk_RX11_168 tM_0 rfl c_X11_line rfl rfl ⟨rfl, rfl⟩ ⟨Nat.le_of_ble_eq_true rfl, Nat.le_of_ble_eq_true rfl⟩ rfl (Nat.le_of_ble_eq_true rfl) dX11_linesOf_71 hf (fun σ_11 hf => ?_)
      refine a_aload_n F dX11_linesOf_74 rfl 0 rfl ?_
      refine a_lconst F (n := 0) dX11_linesOf_75 (by decide +kernel) ?_
      refine a_ldc2 F (n := (-1)) (by decide +kernel) w_558 dX11_linesOf_76 ?_
      refine a_lconst F (n := 0) dX11_linesOf_79 (by decide +kernel) ?_
      refine a_callVV F lk_RX11_168 tM_0 rfl c_X11_line rfl rfl ⟨rfl, rfl⟩ ⟨Nat.le_of_ble_eq_true rfl, Nat.le_of_ble_eq_true rfl⟩ rfl (Nat.le_of_ble_eq_true rfl) dX11_linesOf_80 hf (fun σ_12 hf => ?_)
      refine a_aload_n F dX11_linesOf_83 rfl 0 rfl ?_
      refine a_lconst F (n := 0) dX11_linesOf_84 (by decide +kernel) ?_
      refine a_lconst F (n := 1) dX11_linesOf_85 (by decide +kernel) ?_
      refine a_aload_n F dX11_linesOf_86 rfl 0 rfl ?_
      refine a_getI F (j := 1) tM_0 rfl rfl (by decide) inW11 w_560 dX11_linesOf_87 ?_
      refine a_i2l F hf dX11_linesOf_90 (fun hf => ?_)
      refine a_callVV F lk_RX11_168 tM_0 rfl c_X11_line rfl rfl ⟨rfl, rfl⟩ ⟨Nat.le_of_ble_eq_true rfl, Nat.le_of_ble_eq_true rfl⟩ rfl (Nat.le_of_ble_eq_true rfl) dX11_linesOf_91 hf (fun σ_13 hf => ?_)
      cases hf
      exact hr _ _ dX11_linesOf_94
  · refine a_aload_n F dX11_linesOf_10 rfl 0 rfl ?_
    refine a_iload_n F dX11_linesOf_11 rfl 1 rfl ?_
    refine a_iload_n F dX11_linesOf_12 rfl 2 rfl ?_
    refine a_callVV F lk_RX11_172 tM_0 rfl c_X11_against rfl rfl ⟨rfl, rfl⟩ ⟨Nat.le_of_ble_eq_true rfl, Nat.le_of_ble_eq_true rfl⟩ rfl (Nat.le_of_ble_eq_true rfl) dX11_linesOf_13 hf (fun σ_14 hf => ?_)
    refine a_iconst F dX11_linesOf_16 ?_
    refine a_topI hf (fun x3_15 hf => ?_)
    refine a_istore_n F (lv' := [(3, iv x3_15), (0, .ref (ad 0)), (1, iv x1), (2, iv x2)]) dX11_linesOf_17 rfl (by decide) rfl ?_
    obtain ⟨q0, he, hf⟩ := jbind_elim hf
    refine a_sub [1, 2, 3, 0] rfl (loop_rule (P := (fun q => ∀ τ z3, (τ, z3) = q → At vwCl TM 4 rm_X11_linesOf ad X τ [(0, .ref (ad 0)), (1, iv x1), (2, iv x2), (3, iv z3)] [] 18)) (K := (fun q => (∀ τ, τ = q → At vwCl TM 4 rm_X11_linesOf ad X τ [(0, .ref (ad 0))] [] 54))) ?_ 1000 _ _ he ?_ _ _ rfl)
    · intro q y hy hn hx τ z3 e
      subst e
      exact k_X11_linesOf_b18 F hy (fun τ z3 e => hn _ e _ _ rfl) (fun τ e => (hx _ e) _ rfl)
    · intro σ_16 e
      subst e
      refine a_aload_n F dX11_linesOf_54 rfl 0 rfl ?_
      refine a_ldc2 F (n := (-1)) (by decide +kernel) w_558 dX11_linesOf_55 ?_
      refine a_lconst F (n := 0) dX11_linesOf_58 (by decide +kernel) ?_
      refine a_lconst F (n := 0) dX11_linesOf_59 (by decide +kernel) ?_
      refine a_callVV F lk_RX11_168 tM_0 rfl c_X11_line rfl rfl ⟨rfl, rfl⟩ ⟨Nat.le_of_ble_eq_true rfl, Nat.le_of_ble_eq_true rfl⟩ rfl (Nat.le_of_ble_eq_true rfl) dX11_linesOf_60 hf (fun σ_17 hf => ?_)
      refine a_aload_n F dX11_linesOf_63 rfl 0 rfl ?_
      refine a_lconst F (n := 1) dX11_linesOf_64 (by decide +kernel) ?_
      refine a_lconst F (n := 0) dX11_linesOf_65 (by decide +kernel) ?_
      refine a_aload_n F dX11_linesOf_66 rfl 0 rfl ?_
      refine a_getI F (j := 0) tM_0 rfl rfl (by decide) inW11 w_559 dX11_linesOf_67 ?_
      refine a_i2l F hf dX11_linesOf_70 (fun hf => ?_)
      refine a_callVV F lk_RX11_168 tM_0 rfl c_X11_line rfl rfl ⟨rfl, rfl⟩ ⟨Nat.le_of_ble_eq_true rfl, Nat.le_of_ble_eq_true rfl⟩ rfl (Nat.le_of_ble_eq_true rfl) dX11_linesOf_71 hf (fun σ_18 hf => ?_)
      refine a_aload_n F dX11_linesOf_74 rfl 0 rfl ?_
      refine a_lconst F (n := 0) dX11_linesOf_75 (by decide +kernel) ?_
      refine a_ldc2 F (n := (-1)) (by decide +kernel) w_558 dX11_linesOf_76 ?_
      refine a_lconst F (n := 0) dX11_linesOf_79 (by decide +kernel) ?_
      refine a_callVV F lk_RX11_168 tM_0 rfl c_X11_line rfl rfl ⟨rfl, rfl⟩ ⟨Nat.le_of_ble_eq_true rfl, Nat.le_of_ble_eq_true rfl⟩ rfl (Nat.le_of_ble_eq_true rfl) dX11_linesOf_80 hf (fun σ_19 hf => ?_)
      refine a_aload_n F dX11_linesOf_83 rfl 0 rfl ?_
      refine a_lconst F (n := 0) dX11_linesOf_84 (by decide +kernel) ?_
      refine a_lconst F (n := 1) dX11_linesOf_85 (by decide +kernel) ?_
      refine a_aload_n F dX11_linesOf_86 rfl 0 rfl ?_
      refine a_getI F (j := 1) tM_0 rfl rfl (by decide) inW11 w_560 dX11_linesOf_87 ?_
      refine a_i2l F hf dX11_linesOf_90 (fun hf => ?_)
      refine a_callVV F lk_RX11_168 tM_0 rfl c_X11_line rfl rfl ⟨rfl, rfl⟩ ⟨Nat.le_of_ble_eq_true rfl, Nat.le_of_ble_eq_true rfl⟩ rfl (Nat.le_of_ble_eq_true rfl) dX11_linesOf_91 hf (fun σ_20 hf => ?_)
      cases hf
      exact hr _ _ dX11_linesOf_94
set_option maxRecDepth 100000 in
set_option maxHeartbeats 4000000 in
theorem c_X11_linesOf {l : Launch}  {σ : St} {x1 x2 : Int} : CtrV vwCl WS NWs TM l yX11_linesOf cX11_linesOf 4 none rm_X11_linesOf (fun ad => [.ref (ad 0), iv x1, iv x2]) σ (f_X11_linesOf σ x1 x2) := by
  refine ctrV_of (by decide +kernel) (fun ad => Nat.le_of_ble_eq_true rfl) (fun σ' ad X hf F K => ?_)
  exact k_X11_linesOf_b0 F hf K
abbrev rm_X11_over : Room := { frames := 0, cells := 0, slots := 0, locals := 0 }
set_option maxRecDepth 100000 in
set_option maxHeartbeats 4000000 in
theorem k_X11_over_b0 {l : Launch} {ad : Nat → Nat} {X : Cx} (F : Ok vwCl WS NWs TM cX11_over 8 yX11_over.cls (some .long) ad l X) {σ : St} {x1 x2 x4 x6 : Int} {y : Int} (hf : f_X11_over_b0 σ x1 x2 x4 x6 = some y) (hr : RetL vwCl TM cX11_over 8 rm_X11_over ad X y σ) : At vwCl TM 8 rm_X11_over ad X σ [(0, .ref (ad 0)), (1, iv x1), (2, jv x2), (4, jv x4), (6, jv x6)] [] 0 := by
  unfold f_X11_over_b0 at hf
  refine a_aload_n F dX11_over_0 rfl 0 rfl ?_
  refine a_getR F (j := 17) tM_0 rfl rfl (by decide) inW11 w_535 dX11_over_1 ?_
  refine a_iload_n F dX11_over_4 rfl 1 rfl ?_
  refine a_lald F tM_13 rfl (by decide) hf dX11_over_5 (fun hf => ?_)
  refine a_lload_n F dX11_over_6 rfl 2 rfl ?_
  refine a_lmul F dX11_over_7 ?_
  refine a_aload_n F dX11_over_8 rfl 0 rfl ?_
  refine a_getR F (j := 18) tM_0 rfl rfl (by decide) inW11 w_537 dX11_over_9 ?_
  refine a_iload_n F dX11_over_12 rfl 1 rfl ?_
  refine a_lald F tM_14 rfl (by decide) hf dX11_over_13 (fun hf => ?_)
  refine a_lload F dX11_over_14 3 rfl ?_
  refine a_lmul F dX11_over_16 ?_
  refine a_ladd F dX11_over_17 ?_
  refine a_aload_n F dX11_over_18 rfl 0 rfl ?_
  refine a_getR F (j := 19) tM_0 rfl rfl (by decide) inW11 w_538 dX11_over_19 ?_
  refine a_iload_n F dX11_over_22 rfl 1 rfl ?_
  refine a_lald F tM_15 rfl (by decide) hf dX11_over_23 (fun hf => ?_)
  refine a_lload F dX11_over_24 4 rfl ?_
  refine a_lmul F dX11_over_26 ?_
  refine a_lsub F dX11_over_27 ?_
  cases hf
  exact hr _ _ dX11_over_28
set_option maxRecDepth 100000 in
set_option maxHeartbeats 4000000 in
theorem c_X11_over {l : Launch}  {σ : St} {x1 x2 x4 x6 : Int} : CtrL vwCl WS NWs TM l yX11_over cX11_over 8 (some .long) rm_X11_over (fun ad => [.ref (ad 0), iv x1, jv x2, jv x4, jv x6]) σ (rd (f_X11_over σ x1 x2 x4 x6) σ) := by
  refine ctrL_of (by decide +kernel) (fun ad => Nat.le_of_ble_eq_true rfl) (fun v σ' ad X hf F K => ?_)
  obtain ⟨hf2, e2⟩ := rd_elim hf
  subst e2
  exact k_X11_over_b0 F hf2 K
abbrev rm_X11_isSame : Room := { frames := 0, cells := 0, slots := 0, locals := 0 }
set_option maxRecDepth 100000 in
set_option maxHeartbeats 4000000 in
theorem k_X11_isSame_b0 {l : Launch} {ad : Nat → Nat} {X : Cx} (F : Ok vwCl WS NWs TM cX11_isSame 8 yX11_isSame.cls (some .boolean) ad l X) {σ : St} {x1 x2 x4 x6 : Int} {y : Int} (hf : f_X11_isSame_b0 σ x1 x2 x4 x6 = some y) (hr : RetI vwCl TM cX11_isSame 8 rm_X11_isSame ad X y σ) : At vwCl TM 8 rm_X11_isSame ad X σ [(0, .ref (ad 0)), (1, iv x1), (2, jv x2), (4, jv x4), (6, jv x6)] [] 0 := by
  unfold f_X11_isSame_b0 at hf
  refine a_aload_n F dX11_isSame_0 rfl 0 rfl ?_
  refine a_getR F (j := 21) tM_0 rfl rfl (by decide) inW11 w_561 dX11_isSame_1 ?_
  refine a_iload_n F dX11_isSame_4 rfl 1 rfl ?_
  refine a_lald F tM_16 rfl (by decide) hf dX11_isSame_5 (fun hf => ?_)
  refine a_lload F dX11_isSame_6 4 rfl ?_
  refine a_lmul F dX11_isSame_8 ?_
  refine a_lload_n F dX11_isSame_9 rfl 2 rfl ?_
  refine a_aload_n F dX11_isSame_10 rfl 0 rfl ?_
  refine a_getR F (j := 23) tM_0 rfl rfl (by decide) inW11 w_562 dX11_isSame_11 ?_
  refine a_iload_n F dX11_isSame_14 rfl 1 rfl ?_
  refine a_lald F tM_18 rfl (by decide) hf dX11_isSame_15 (fun hf => ?_)
  refine a_lmul F dX11_isSame_16 ?_
  refine a_lcmp_ne F hf (tgt := 47) dX11_isSame_17 dX11_isSame_18 (by decide) (fun hf => ?_) (fun hf => ?_)
  · refine a_aload_n F dX11_isSame_21 rfl 0 rfl ?_
    refine a_getR F (j := 22) tM_0 rfl rfl (by decide) inW11 w_563 dX11_isSame_22 ?_
    refine a_iload_n F dX11_isSame_25 rfl 1 rfl ?_
    refine a_lald F tM_17 rfl (by decide) hf dX11_isSame_26 (fun hf => ?_)
    refine a_lload F dX11_isSame_27 4 rfl ?_
    refine a_lmul F dX11_isSame_29 ?_
    refine a_lload F dX11_isSame_30 3 rfl ?_
    refine a_aload_n F dX11_isSame_32 rfl 0 rfl ?_
    refine a_getR F (j := 23) tM_0 rfl rfl (by decide) inW11 w_562 dX11_isSame_33 ?_
    refine a_iload_n F dX11_isSame_36 rfl 1 rfl ?_
    refine a_lald F tM_18 rfl (by decide) hf dX11_isSame_37 (fun hf => ?_)
    refine a_lmul F dX11_isSame_38 ?_
    refine a_lcmp_ne F hf (tgt := 47) dX11_isSame_39 dX11_isSame_40 (by decide) (fun hf => ?_) (fun hf => ?_)
    · refine a_iconst F dX11_isSame_43 ?_
      refine a_goto F (tgt := 48) dX11_isSame_44 (by decide) ?_
      cases hf
      exact hr _ _ dX11_isSame_48
    · refine a_iconst F dX11_isSame_47 ?_
      cases hf
      exact hr _ _ dX11_isSame_48
  · refine a_iconst F dX11_isSame_47 ?_
    cases hf
    exact hr _ _ dX11_isSame_48
set_option maxRecDepth 100000 in
set_option maxHeartbeats 4000000 in
theorem c_X11_isSame {l : Launch}  {σ : St} {x1 x2 x4 x6 : Int} : CtrI vwCl WS NWs TM l yX11_isSame cX11_isSame 8 (some .boolean) rm_X11_isSame (fun ad => [.ref (ad 0), iv x1, jv x2, jv x4, jv x6]) σ (rd (f_X11_isSame σ x1 x2 x4 x6) σ) := by
  refine ctrZ_of (fun v σ' h => jz_z (rd_elim h).1) (by decide +kernel) (fun ad => Nat.le_of_ble_eq_true rfl) (fun v σ' ad X hf F K => ?_)
  obtain ⟨hf2, e2⟩ := rd_elim hf
  subst e2
  exact k_X11_isSame_b0 F (jz_e hf2) K
