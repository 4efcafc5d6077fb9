abbrev rm_X11_triesSides : Room := { frames := 4, cells := 0, slots := 0, locals := 125 }
set_option maxRecDepth 100000 in
set_option maxHeartbeats 4000000 in
theorem k_X11_triesSides_b166 {l : Launch} {ad : Nat → Nat} {X : Cx} (F : Ok vwCl WS NWs TM cX11_triesSides 10 yX11_triesSides.cls none ad l X) {σ : St} {x3 x5 x7 x9 t1 t2 t3 : Int} {y : ((St × Int) ⊕ St)} (hf : f_X11_triesSides_b166 σ x3 x5 x7 x9 t1 t2 t3 = some y) (hn : ∀ τ z9, y = .inl (τ, z9) → At vwCl TM 10 rm_X11_triesSides ad X τ [(0, .ref (ad 0)), (3, jv x3), (5, jv x5), (7, jv x7), (9, iv z9)] [] 79) : At vwCl TM 10 rm_X11_triesSides ad X σ [(0, .ref (ad 0)), (3, jv x3), (5, jv x5), (7, jv x7), (9, iv x9)] [jv t3, jv t2, jv t1, .ref (ad 0)] 166 := by
  unfold f_X11_triesSides_b166 at hf
  refine a_iconst F dX11_triesSides_166 ?_
  refine a_aload_n F dX11_triesSides_167 rfl 0 rfl ?_
  refine a_getI F (j := 0) tM_0 rfl rfl (by decide) inW11 w_559 dX11_triesSides_168 ?_
  refine a_i2l F hf dX11_triesSides_171 (fun hf => ?_)
  refine a_callVV F lk_RX11_318 tM_0 rfl c_X11_triesOn rfl rfl ⟨rfl, rfl⟩ ⟨Nat.le_of_ble_eq_true rfl, Nat.le_of_ble_eq_true rfl⟩ rfl (Nat.le_of_ble_eq_true rfl) dX11_triesSides_172 hf (fun σ_8 hf => ?_)
  refine a_iinc F hf dX11_triesSides_175 4 rfl (by decide) (fun x9_9 hf => ⟨[(9, iv x9_9), (0, .ref (ad 0)), (3, jv x3), (5, jv x5), (7, jv x7)], rfl, ?_⟩)
  refine a_goto F (tgt := 79) dX11_triesSides_178 (by decide) ?_
  cases hf
  exact a_sub [1, 2, 3, 4, 0] rfl (hn _ _ rfl)
set_option maxRecDepth 100000 in
set_option maxHeartbeats 4000000 in
theorem k_X11_triesSides_b150 {l : Launch} {ad : Nat → Nat} {X : Cx} (F : Ok vwCl WS NWs TM cX11_triesSides 10 yX11_triesSides.cls none ad l X) {σ : St} {x3 x5 x7 x9 t1 t2 t3 t4 : Int} {y : ((St × Int) ⊕ St)} (hf : f_X11_triesSides_b150 σ x3 x5 x7 x9 t1 t2 t3 t4 = some y) (hn : ∀ τ z9, y = .inl (τ, z9) → At vwCl TM 10 rm_X11_triesSides ad X τ [(0, .ref (ad 0)), (3, jv x3), (5, jv x5), (7, jv x7), (9, iv z9)] [] 79) : At vwCl TM 10 rm_X11_triesSides ad X σ [(0, .ref (ad 0)), (3, jv x3), (5, jv x5), (7, jv x7), (9, iv x9)] [jv t4, jv t3, jv t2, jv t1, .ref (ad 0)] 150 := by
  unfold f_X11_triesSides_b150 at hf
  refine a_lmul F dX11_triesSides_150 ?_
  refine a_lsub F dX11_triesSides_151 ?_
  refine a_iload F dX11_triesSides_152 4 rfl ?_
  refine a_if_ne F hf (tgt := 161) dX11_triesSides_154 (by decide) (fun hf => ?_) (fun hf => ?_)
  · refine a_lconst F (n := 0) dX11_triesSides_157 (by decide +kernel) ?_
    refine a_goto F (tgt := 166) dX11_triesSides_158 (by decide) ?_
    exact a_sub [0, 1, 2, 3, 4] rfl (k_X11_triesSides_b166 F hf hn)
  · refine a_aload_n F dX11_triesSides_161 rfl 0 rfl ?_
    refine a_getI F (j := 1) tM_0 rfl rfl (by decide) inW11 w_560 dX11_triesSides_162 ?_
    refine a_i2l F hf dX11_triesSides_165 (fun hf => ?_)
    exact a_sub [0, 1, 2, 3, 4] rfl (k_X11_triesSides_b166 F hf hn)
set_option maxRecDepth 100000 in
set_option maxHeartbeats 4000000 in
theorem k_X11_triesSides_b121 {l : Launch} {ad : Nat → Nat} {X : Cx} (F : Ok vwCl WS NWs TM cX11_triesSides 10 yX11_triesSides.cls none ad l X) {σ : St} {x3 x5 x7 x9 t1 t2 t3 : Int} {y : ((St × Int) ⊕ St)} (hf : f_X11_triesSides_b121 σ x3 x5 x7 x9 t1 t2 t3 = some y) (hn : ∀ τ z9, y = .inl (τ, z9) → At vwCl TM 10 rm_X11_triesSides ad X τ [(0, .ref (ad 0)), (3, jv x3), (5, jv x5), (7, jv x7), (9, iv z9)] [] 79) : At vwCl TM 10 rm_X11_triesSides ad X σ [(0, .ref (ad 0)), (3, jv x3), (5, jv x5), (7, jv x7), (9, iv x9)] [jv t3, jv t2, jv t1, .ref (ad 0)] 121 := by
  unfold f_X11_triesSides_b121 at hf
  refine a_iconst F dX11_triesSides_121 ?_
  refine a_aload_n F dX11_triesSides_122 rfl 0 rfl ?_
  refine a_getI F (j := 1) tM_0 rfl rfl (by decide) inW11 w_560 dX11_triesSides_123 ?_
  refine a_i2l F hf dX11_triesSides_126 (fun hf => ?_)
  refine a_callVV F lk_RX11_318 tM_0 rfl c_X11_triesOn rfl rfl ⟨rfl, rfl⟩ ⟨Nat.le_of_ble_eq_true rfl, Nat.le_of_ble_eq_true rfl⟩ rfl (Nat.le_of_ble_eq_true rfl) dX11_triesSides_127 hf (fun σ_7 hf => ?_)
  refine a_aload_n F dX11_triesSides_130 rfl 0 rfl ?_
  refine a_lload_n F dX11_triesSides_131 rfl 1 rfl ?_
  refine a_lload F dX11_triesSides_132 3 rfl ?_
  refine a_lload F dX11_triesSides_134 2 rfl ?_
  refine a_iload F dX11_triesSides_136 4 rfl ?_
  refine a_if_ne F hf (tgt := 145) dX11_triesSides_138 (by decide) (fun hf => ?_) (fun hf => ?_)
  · refine a_lconst F (n := 0) dX11_triesSides_141 (by decide +kernel) ?_
    refine a_goto F (tgt := 150) dX11_triesSides_142 (by decide) ?_
    exact a_sub [0, 1, 2, 3, 4] rfl (k_X11_triesSides_b150 F hf hn)
  · refine a_aload_n F dX11_triesSides_145 rfl 0 rfl ?_
    refine a_getI F (j := 1) tM_0 rfl rfl (by decide) inW11 w_560 dX11_triesSides_146 ?_
    refine a_i2l F hf dX11_triesSides_149 (fun hf => ?_)
    exact a_sub [0, 1, 2, 3, 4] rfl (k_X11_triesSides_b150 F hf hn)
set_option maxRecDepth 100000 in
set_option maxHeartbeats 4000000 in
theorem k_X11_triesSides_b105 {l : Launch} {ad : Nat → Nat} {X : Cx} (F : Ok vwCl WS NWs TM cX11_triesSides 10 yX11_triesSides.cls none ad l X) {σ : St} {x3 x5 x7 x9 t1 t2 t3 t4 : Int} {y : ((St × Int) ⊕ St)} (hf : f_X11_triesSides_b105 σ x3 x5 x7 x9 t1 t2 t3 t4 = some y) (hn : ∀ τ z9, y = .inl (τ, z9) → At vwCl TM 10 rm_X11_triesSides ad X τ [(0, .ref (ad 0)), (3, jv x3), (5, jv x5), (7, jv x7), (9, iv z9)] [] 79) : At vwCl TM 10 rm_X11_triesSides ad X σ [(0, .ref (ad 0)), (3, jv x3), (5, jv x5), (7, jv x7), (9, iv x9)] [jv t4, jv t3, jv t2, jv t1, .ref (ad 0)] 105 := by
  unfold f_X11_triesSides_b105 at hf
  refine a_lmul F dX11_triesSides_105 ?_
  refine a_lsub F dX11_triesSides_106 ?_
  refine a_iload F dX11_triesSides_107 4 rfl ?_
  refine a_if_ne F hf (tgt := 116) dX11_triesSides_109 (by decide) (fun hf => ?_) (fun hf => ?_)
  · refine a_lconst F (n := 0) dX11_triesSides_112 (by decide +kernel) ?_
    refine a_goto F (tgt := 121) dX11_triesSides_113 (by decide) ?_
    exact a_sub [0, 1, 2, 3, 4] rfl (k_X11_triesSides_b121 F hf hn)
  · refine a_aload_n F dX11_triesSides_116 rfl 0 rfl ?_
    refine a_getI F (j := 0) tM_0 rfl rfl (by decide) inW11 w_559 dX11_triesSides_117 ?_
    refine a_i2l F hf dX11_triesSides_120 (fun hf => ?_)
    exact a_sub [0, 1, 2, 3, 4] rfl (k_X11_triesSides_b121 F hf hn)
set_option maxRecDepth 100000 in
set_option maxHeartbeats 4000000 in
theorem k_X11_triesSides_b79 {l : Launch} {ad : Nat → Nat} {X : Cx} (F : Ok vwCl WS NWs TM cX11_triesSides 10 yX11_triesSides.cls none ad l X) {σ : St} {x3 x5 x7 x9 : Int} {y : ((St × Int) ⊕ St)} (hf : f_X11_triesSides_b79 σ x3 x5 x7 x9 = some y) (hn : ∀ τ z9, y = .inl (τ, z9) → At vwCl TM 10 rm_X11_triesSides ad X τ [(0, .ref (ad 0)), (3, jv x3), (5, jv x5), (7, jv x7), (9, iv z9)] [] 79) (hx0 : ∀ τ, y = .inr (τ) → At vwCl TM 10 rm_X11_triesSides ad X τ [] [] 181) : At vwCl TM 10 rm_X11_triesSides ad X σ [(0, .ref (ad 0)), (3, jv x3), (5, jv x5), (7, jv x7), (9, iv x9)] [] 79 := by
  unfold f_X11_triesSides_b79 at hf
  refine a_iload F dX11_triesSides_79 4 rfl ?_
  refine a_iconst F dX11_triesSides_81 ?_
  refine a_icmp_ge F hf (tgt := 181) dX11_triesSides_82 (by decide) (fun hf => ?_) (fun hf => ?_)
  · refine a_aload_n F dX11_triesSides_85 rfl 0 rfl ?_
    refine a_lload F dX11_triesSides_86 2 rfl ?_
    refine a_lload F dX11_triesSides_88 3 rfl ?_
    refine a_lload_n F dX11_triesSides_90 rfl 1 rfl ?_
    refine a_iload F dX11_triesSides_91 4 rfl ?_
    refine a_if_ne F hf (tgt := 100) dX11_triesSides_93 (by decide) (fun hf => ?_) (fun hf => ?_)
    · refine a_lconst F (n := 0) dX11_triesSides_96 (by decide +kernel) ?_
      refine a_goto F (tgt := 105) dX11_triesSides_97 (by decide) ?_
      exact a_sub [0, 1, 2, 3, 4] rfl (k_X11_triesSides_b105 F hf hn)
    · refine a_aload_n F dX11_triesSides_100 rfl 0 rfl ?_
      refine a_getI F (j := 0) tM_0 rfl rfl (by decide) inW11 w_559 dX11_triesSides_101 ?_
      refine a_i2l F hf dX11_triesSides_104 (fun hf => ?_)
      exact a_sub [0, 1, 2, 3, 4] rfl (k_X11_triesSides_b105 F hf hn)
  · cases hf
    exact a_sub [] rfl (hx0 _ rfl)
set_option maxRecDepth 100000 in
set_option maxHeartbeats 4000000 in
theorem k_X11_triesSides_b0 {l : Launch} {ad : Nat → Nat} {X : Cx} (F : Ok vwCl WS NWs TM cX11_triesSides 10 yX11_triesSides.cls none ad l X) {σ : St} {x1 x2 : Int} {y : St} (hf : f_X11_triesSides_b0 σ x1 x2 = some y) (hr : RetV vwCl TM cX11_triesSides 10 rm_X11_triesSides ad X y) : At vwCl TM 10 rm_X11_triesSides ad X σ [(0, .ref (ad 0)), (1, iv x1), (2, iv x2)] [] 0 := by
  unfold f_X11_triesSides_b0 at hf
  refine a_ldc2 F (n := 2) (by decide +kernel) w_541 dX11_triesSides_0 ?_
  refine a_aload_n F dX11_triesSides_3 rfl 0 rfl ?_
  refine a_getR F (j := 4) tM_0 rfl rfl (by decide) inW11 w_539 dX11_triesSides_4 ?_
  refine a_iload_n F dX11_triesSides_7 rfl 2 rfl ?_
  refine a_iald F tM_2 rfl (by decide) hf dX11_triesSides_8 (fun hf => ?_)
  refine a_aload_n F dX11_triesSides_9 rfl 0 rfl ?_
  refine a_getR F (j := 4) tM_0 rfl rfl (by decide) inW11 w_539 dX11_triesSides_10 ?_
  refine a_iload_n F dX11_triesSides_13 rfl 1 rfl ?_
  refine a_iald F tM_2 rfl (by decide) hf dX11_triesSides_14 (fun hf => ?_)
  refine a_isub F dX11_triesSides_15 ?_
  refine a_i2l F hf dX11_triesSides_16 (fun hf => ?_)
  refine a_lmul F dX11_triesSides_17 ?_
  refine a_topJ hf (fun x3_1 hf => ?_)
  refine a_lstore_n F (lv' := [(3, jv x3_1), (0, .ref (ad 0)), (1, iv x1), (2, iv x2)]) dX11_triesSides_18 rfl (by decide) rfl ?_
  refine a_ldc2 F (n := 2) (by decide +kernel) w_541 dX11_triesSides_19 ?_
  refine a_aload_n F dX11_triesSides_22 rfl 1 rfl ?_
  refine a_getR F (j := 5) tM_0 rfl rfl (by decide) inW11 w_540 dX11_triesSides_23 ?_
  refine a_iload_n F dX11_triesSides_26 rfl 3 rfl ?_
  refine a_iald F tM_3 rfl (by decide) hf dX11_triesSides_27 (fun hf => ?_)
  refine a_aload_n F dX11_triesSides_28 rfl 1 rfl ?_
  refine a_getR F (j := 5) tM_0 rfl rfl (by decide) inW11 w_540 dX11_triesSides_29 ?_
  refine a_iload_n F dX11_triesSides_32 rfl 2 rfl ?_
  refine a_iald F tM_3 rfl (by decide) hf dX11_triesSides_33 (fun hf => ?_)
  refine a_isub F dX11_triesSides_34 ?_
  refine a_i2l F hf dX11_triesSides_35 (fun hf => ?_)
  refine a_lmul F dX11_triesSides_36 ?_
  refine a_topJ hf (fun x5_2 hf => ?_)
  refine a_lstore F (lv' := [(5, jv x5_2), (3, jv x3_1), (0, .ref (ad 0)), (1, iv x1), (2, iv x2)]) dX11_triesSides_37 (by decide) rfl ?_
  refine a_aload_n F dX11_triesSides_39 rfl 2 rfl ?_
  refine a_getR F (j := 4) tM_0 rfl rfl (by decide) inW11 w_539 dX11_triesSides_40 ?_
  refine a_iload_n F dX11_triesSides_43 rfl 4 rfl ?_
  refine a_iald F tM_2 rfl (by decide) hf dX11_triesSides_44 (fun hf => ?_)
  refine a_i2l F hf dX11_triesSides_45 (fun hf => ?_)
  refine a_aload_n F dX11_triesSides_46 rfl 2 rfl ?_
  refine a_getR F (j := 5) tM_0 rfl rfl (by decide) inW11 w_540 dX11_triesSides_47 ?_
  refine a_iload_n F dX11_triesSides_50 rfl 4 rfl ?_
  refine a_iald F tM_3 rfl (by decide) hf dX11_triesSides_51 (fun hf => ?_)
  refine a_i2l F hf dX11_triesSides_52 (fun hf => ?_)
  refine a_callSLr F lk_RX11_247 c_X11_square rfl rfl ⟨rfl, rfl⟩ ⟨Nat.le_of_ble_eq_true rfl, Nat.le_of_ble_eq_true rfl⟩ rfl (Nat.le_of_ble_eq_true rfl) dX11_triesSides_53 hf (fun r_3 hf => ?_)
  refine a_aload_n F dX11_triesSides_56 rfl 2 rfl ?_
  refine a_getR F (j := 4) tM_0 rfl rfl (by decide) inW11 w_539 dX11_triesSides_57 ?_
  refine a_iload_n F dX11_triesSides_60 rfl 3 rfl ?_
  refine a_iald F tM_2 rfl (by decide) hf dX11_triesSides_61 (fun hf => ?_)
  refine a_i2l F hf dX11_triesSides_62 (fun hf => ?_)
  refine a_aload_n F dX11_triesSides_63 rfl 2 rfl ?_
  refine a_getR F (j := 5) tM_0 rfl rfl (by decide) inW11 w_540 dX11_triesSides_64 ?_
  refine a_iload_n F dX11_triesSides_67 rfl 3 rfl ?_
  refine a_iald F tM_3 rfl (by decide) hf dX11_triesSides_68 (fun hf => ?_)
  refine a_i2l F hf dX11_triesSides_69 (fun hf => ?_)
  refine a_callSLr F lk_RX11_247 c_X11_square rfl rfl ⟨rfl, rfl⟩ ⟨Nat.le_of_ble_eq_true rfl, Nat.le_of_ble_eq_true rfl⟩ rfl (Nat.le_of_ble_eq_true rfl) dX11_triesSides_70 hf (fun r_4 hf => ?_)
  refine a_lsub F dX11_triesSides_73 ?_
  refine a_topJ hf (fun x7_5 hf => ?_)
  refine a_lstore F (lv' := [(7, jv x7_5), (5, jv x5_2), (3, jv x3_1), (0, .ref (ad 0)), (1, iv x1), (2, iv x2)]) dX11_triesSides_74 (by decide) rfl ?_
  refine a_iconst F dX11_triesSides_76 ?_
  refine a_topI hf (fun x9_6 hf => ?_)
  refine a_istore F (lv' := [(9, iv x9_6), (7, jv x7_5), (5, jv x5_2), (3, jv x3_1), (0, .ref (ad 0)), (1, iv x1), (2, iv x2)]) dX11_triesSides_77 (by decide) rfl ?_
  obtain ⟨q0, he, hf⟩ := jbind_elim hf
  refine a_sub [4, 3, 2, 1, 0] rfl (loop_rule (P := (fun q => ∀ τ z9, (τ, z9) = q → At vwCl TM 10 rm_X11_triesSides ad X τ [(0, .ref (ad 0)), (3, jv x3_1), (5, jv x5_2), (7, jv x7_5), (9, iv z9)] [] 79)) (K := (fun q => (∀ τ, τ = q → At vwCl TM 10 rm_X11_triesSides ad X τ [] [] 181))) ?_ 1000 _ _ he ?_ _ _ rfl)
  · intro q y hy hn hx τ z9 e
    subst e
    exact k_X11_triesSides_b79 F hy (fun τ z9 e => hn _ e _ _ rfl) (fun τ e => (hx _ e) _ rfl)
  · intro σ_10 e
    subst e
    cases hf
    exact hr _ _ dX11_triesSides_181
set_option maxRecDepth 100000 in
set_option maxHeartbeats 4000000 in
theorem c_X11_triesSides {l : Launch}  {σ : St} {x1 x2 : Int} : CtrV vwCl WS NWs TM l yX11_triesSides cX11_triesSides 10 none rm_X11_triesSides (fun ad => [.ref (ad 0), iv x1, iv x2]) σ (f_X11_triesSides σ x1 x2) := by
  refine ctrV_of (by decide +kernel) (fun ad => Nat.le_of_ble_eq_true rfl) (fun σ' ad X hf F K => ?_)
  exact k_X11_triesSides_b0 F hf K
abbrev rm_X11_within : Room := { frames := 1, cells := 0, slots := 0, locals := 23 }
set_option maxRecDepth 100000 in
set_option maxHeartbeats 4000000 in
theorem k_X11_within_b0 {l : Launch} {ad : Nat → Nat} {X : Cx} (F : Ok vwCl WS NWs TM cX11_within 19 yX11_within.cls (some .long) ad l X) {σ : St} {x1 x2 x3 x4 : Int} {y : Int} (hf : f_X11_within_b0 σ x1 x2 x3 x4 = some y) (hr : RetL vwCl TM cX11_within 19 rm_X11_within ad X y σ) : At vwCl TM 19 rm_X11_within ad X σ [(0, .ref (ad 0)), (1, iv x1), (2, iv x2), (3, iv x3), (4, iv x4)] [] 0 := by
  unfold f_X11_within_b0 at hf
  refine a_aload_n F dX11_within_0 rfl 0 rfl ?_
  refine a_getR F (j := 4) tM_0 rfl rfl (by decide) inW11 w_539 dX11_within_1 ?_
  refine a_iload_n F dX11_within_4 rfl 1 rfl ?_
  refine a_iald F tM_2 rfl (by decide) hf dX11_within_5 (fun hf => ?_)
  refine a_aload_n F dX11_within_6 rfl 0 rfl ?_
  refine a_getR F (j := 4) tM_0 rfl rfl (by decide) inW11 w_539 dX11_within_7 ?_
  refine a_iload F dX11_within_10 4 rfl ?_
  refine a_iald F tM_2 rfl (by decide) hf dX11_within_12 (fun hf => ?_)
  refine a_isub F dX11_within_13 ?_
  refine a_i2l F hf dX11_within_14 (fun hf => ?_)
  refine a_topJ hf (fun x5_1 hf => ?_)
  refine a_lstore F (lv' := [(5, jv x5_1), (0, .ref (ad 0)), (1, iv x1), (2, iv x2), (3, iv x3), (4, iv x4)]) dX11_within_15 (by decide) rfl ?_
  refine a_aload_n F dX11_within_17 rfl 1 rfl ?_
  refine a_getR F (j := 5) tM_0 rfl rfl (by decide) inW11 w_540 dX11_within_18 ?_
  refine a_iload_n F dX11_within_21 rfl 2 rfl ?_
  refine a_iald F tM_3 rfl (by decide) hf dX11_within_22 (fun hf => ?_)
  refine a_aload_n F dX11_within_23 rfl 1 rfl ?_
  refine a_getR F (j := 5) tM_0 rfl rfl (by decide) inW11 w_540 dX11_within_24 ?_
  refine a_iload F dX11_within_27 5 rfl ?_
  refine a_iald F tM_3 rfl (by decide) hf dX11_within_29 (fun hf => ?_)
  refine a_isub F dX11_within_30 ?_
  refine a_i2l F hf dX11_within_31 (fun hf => ?_)
  refine a_topJ hf (fun x7_2 hf => ?_)
  refine a_lstore F (lv' := [(7, jv x7_2), (5, jv x5_1), (0, .ref (ad 0)), (1, iv x1), (2, iv x2), (3, iv x3), (4, iv x4)]) dX11_within_32 (by decide) rfl ?_
  refine a_aload_n F dX11_within_34 rfl 2 rfl ?_
  refine a_getR F (j := 4) tM_0 rfl rfl (by decide) inW11 w_539 dX11_within_35 ?_
  refine a_iload_n F dX11_within_38 rfl 4 rfl ?_
  refine a_iald F tM_2 rfl (by decide) hf dX11_within_39 (fun hf => ?_)
  refine a_aload_n F dX11_within_40 rfl 2 rfl ?_
  refine a_getR F (j := 4) tM_0 rfl rfl (by decide) inW11 w_539 dX11_within_41 ?_
  refine a_iload F dX11_within_44 6 rfl ?_
  refine a_iald F tM_2 rfl (by decide) hf dX11_within_46 (fun hf => ?_)
  refine a_isub F dX11_within_47 ?_
  refine a_i2l F hf dX11_within_48 (fun hf => ?_)
  refine a_topJ hf (fun x9_3 hf => ?_)
  refine a_lstore F (lv' := [(9, jv x9_3), (7, jv x7_2), (5, jv x5_1), (0, .ref (ad 0)), (1, iv x1), (2, iv x2), (3, iv x3), (4, iv x4)]) dX11_within_49 (by decide) rfl ?_
  refine a_aload_n F dX11_within_51 rfl 3 rfl ?_
  refine a_getR F (j := 5) tM_0 rfl rfl (by decide) inW11 w_540 dX11_within_52 ?_
  refine a_iload_n F dX11_within_55 rfl 5 rfl ?_
  refine a_iald F tM_3 rfl (by decide) hf dX11_within_56 (fun hf => ?_)
  refine a_aload_n F dX11_within_57 rfl 3 rfl ?_
  refine a_getR F (j := 5) tM_0 rfl rfl (by decide) inW11 w_540 dX11_within_58 ?_
  refine a_iload F dX11_within_61 7 rfl ?_
  refine a_iald F tM_3 rfl (by decide) hf dX11_within_63 (fun hf => ?_)
  refine a_isub F dX11_within_64 ?_
  refine a_i2l F hf dX11_within_65 (fun hf => ?_)
  refine a_topJ hf (fun x11_4 hf => ?_)
  refine a_lstore F (lv' := [(11, jv x11_4), (9, jv x9_3), (7, jv x7_2), (5, jv x5_1), (0, .ref (ad 0)), (1, iv x1), (2, iv x2), (3, iv x3), (4, iv x4)]) dX11_within_66 (by decide) rfl ?_
  refine a_aload_n F dX11_within_68 rfl 4 rfl ?_
  refine a_getR F (j := 4) tM_0 rfl rfl (by decide) inW11 w_539 dX11_within_69 ?_
  refine a_iload_n F dX11_within_72 rfl 7 rfl ?_
  refine a_iald F tM_2 rfl (by decide) hf dX11_within_73 (fun hf => ?_)
  refine a_aload_n F dX11_within_74 rfl 4 rfl ?_
  refine a_getR F (j := 4) tM_0 rfl rfl (by decide) inW11 w_539 dX11_within_75 ?_
  refine a_iload F dX11_within_78 8 rfl ?_
  refine a_iald F tM_2 rfl (by decide) hf dX11_within_80 (fun hf => ?_)
  refine a_isub F dX11_within_81 ?_
  refine a_i2l F hf dX11_within_82 (fun hf => ?_)
  refine a_topJ hf (fun x13_5 hf => ?_)
  refine a_lstore F (lv' := [(13, jv x13_5), (11, jv x11_4), (9, jv x9_3), (7, jv x7_2), (5, jv x5_1), (0, .ref (ad 0)), (1, iv x1), (2, iv x2), (3, iv x3), (4, iv x4)]) dX11_within_83 (by decide) rfl ?_
  refine a_aload_n F dX11_within_85 rfl 5 rfl ?_
  refine a_getR F (j := 5) tM_0 rfl rfl (by decide) inW11 w_540 dX11_within_86 ?_
  refine a_iload_n F dX11_within_89 rfl 8 rfl ?_
  refine a_iald F tM_3 rfl (by decide) hf dX11_within_90 (fun hf => ?_)
  refine a_aload_n F dX11_within_91 rfl 5 rfl ?_
  refine a_getR F (j := 5) tM_0 rfl rfl (by decide) inW11 w_540 dX11_within_92 ?_
  refine a_iload F dX11_within_95 9 rfl ?_
  refine a_iald F tM_3 rfl (by decide) hf dX11_within_97 (fun hf => ?_)
  refine a_isub F dX11_within_98 ?_
  refine a_i2l F hf dX11_within_99 (fun hf => ?_)
  refine a_topJ hf (fun x15_6 hf => ?_)
  refine a_lstore F (lv' := [(15, jv x15_6), (13, jv x13_5), (11, jv x11_4), (9, jv x9_3), (7, jv x7_2), (5, jv x5_1), (0, .ref (ad 0)), (1, iv x1), (2, iv x2), (3, iv x3), (4, iv x4)]) dX11_within_100 (by decide) rfl ?_
  refine a_lload F dX11_within_102 5 rfl ?_
  refine a_lload F dX11_within_104 4 rfl ?_
  refine a_callSLr F lk_RX11_247 c_X11_square rfl rfl ⟨rfl, rfl⟩ ⟨Nat.le_of_ble_eq_true rfl, Nat.le_of_ble_eq_true rfl⟩ rfl (Nat.le_of_ble_eq_true rfl) dX11_within_106 hf (fun r_7 hf => ?_)
  refine a_lload F dX11_within_109 3 rfl ?_
  refine a_lload F dX11_within_111 0 rfl ?_
  refine a_lmul F dX11_within_113 ?_
  refine a_lload F dX11_within_114 2 rfl ?_
  refine a_lload F dX11_within_116 1 rfl ?_
  refine a_lmul F dX11_within_118 ?_
  refine a_lsub F dX11_within_119 ?_
  refine a_lmul F dX11_within_120 ?_
  refine a_lload F dX11_within_121 3 rfl ?_
  refine a_lload F dX11_within_123 2 rfl ?_
  refine a_callSLr F lk_RX11_247 c_X11_square rfl rfl ⟨rfl, rfl⟩ ⟨Nat.le_of_ble_eq_true rfl, Nat.le_of_ble_eq_true rfl⟩ rfl (Nat.le_of_ble_eq_true rfl) dX11_within_125 hf (fun r_8 hf => ?_)
  refine a_lload F dX11_within_128 5 rfl ?_
  refine a_lload F dX11_within_130 0 rfl ?_
  refine a_lmul F dX11_within_132 ?_
  refine a_lload F dX11_within_133 4 rfl ?_
  refine a_lload F dX11_within_135 1 rfl ?_
  refine a_lmul F dX11_within_137 ?_
  refine a_lsub F dX11_within_138 ?_
  refine a_lmul F dX11_within_139 ?_
  refine a_lsub F dX11_within_140 ?_
  refine a_lload F dX11_within_141 1 rfl ?_
  refine a_lload F dX11_within_143 0 rfl ?_
  refine a_callSLr F lk_RX11_247 c_X11_square rfl rfl ⟨rfl, rfl⟩ ⟨Nat.le_of_ble_eq_true rfl, Nat.le_of_ble_eq_true rfl⟩ rfl (Nat.le_of_ble_eq_true rfl) dX11_within_145 hf (fun r_9 hf => ?_)
  refine a_lload F dX11_within_148 5 rfl ?_
  refine a_lload F dX11_within_150 2 rfl ?_
  refine a_lmul F dX11_within_152 ?_
  refine a_lload F dX11_within_153 4 rfl ?_
  refine a_lload F dX11_within_155 3 rfl ?_
  refine a_lmul F dX11_within_157 ?_
  refine a_lsub F dX11_within_158 ?_
  refine a_lmul F dX11_within_159 ?_
  refine a_ladd F dX11_within_160 ?_
  refine a_topJ hf (fun x17_10 hf => ?_)
  refine a_lstore F (lv' := [(17, jv x17_10), (15, jv x15_6), (13, jv x13_5), (11, jv x11_4), (9, jv x9_3), (7, jv x7_2), (5, jv x5_1), (0, .ref (ad 0)), (1, iv x1), (2, iv x2), (3, iv x3), (4, iv x4)]) dX11_within_161 (by decide) rfl ?_
  refine a_aload_n F dX11_within_163 rfl 7 rfl ?_
  refine a_iload_n F dX11_within_164 rfl 8 rfl ?_
  refine a_iload_n F dX11_within_165 rfl 9 rfl ?_
  refine a_iload_n F dX11_within_166 rfl 10 rfl ?_
  refine a_callVLr F lk_RX11_250 tM_0 rfl c_X11_cross rfl rfl ⟨rfl, rfl⟩ ⟨Nat.le_of_ble_eq_true rfl, Nat.le_of_ble_eq_true rfl⟩ rfl (Nat.le_of_ble_eq_true rfl) dX11_within_167 hf (fun r_11 hf => ?_)
  refine a_lconst F (n := 0) dX11_within_170 (by decide +kernel) ?_
  refine a_lcmp_ge F hf (tgt := 181) dX11_within_171 dX11_within_172 (by decide) (fun hf => ?_) (fun hf => ?_)
  · refine a_lload F dX11_within_175 0 rfl ?_
    refine a_lneg F dX11_within_177 ?_
    refine a_goto F (tgt := 183) dX11_within_178 (by decide) ?_
    cases hf
    exact hr _ _ dX11_within_183
  · refine a_lload F dX11_within_181 0 rfl ?_
    cases hf
    exact hr _ _ dX11_within_183
set_option maxRecDepth 100000 in
set_option maxHeartbeats 4000000 in
theorem c_X11_within {l : Launch}  {σ : St} {x1 x2 x3 x4 : Int} : CtrL vwCl WS NWs TM l yX11_within cX11_within 19 (some .long) rm_X11_within (fun ad => [.ref (ad 0), iv x1, iv x2, iv x3, iv x4]) σ (rd (f_X11_within σ x1 x2 x3 x4) σ) := by
  refine ctrL_of (by decide +kernel) (fun ad => Nat.le_of_ble_eq_true rfl) (fun v σ' ad X hf F K => ?_)
  obtain ⟨hf2, e2⟩ := rd_elim hf
  subst e2
  exact k_X11_within_b0 F hf2 K
abbrev rm_X11_roundOf : Room := { frames := 2, cells := 0, slots := 0, locals := 61 }
set_option maxRecDepth 100000 in
set_option maxHeartbeats 4000000 in
theorem k_X11_roundOf_b56 {l : Launch} {ad : Nat → Nat} {X : Cx} (F : Ok vwCl WS NWs TM cX11_roundOf 8 yX11_roundOf.cls (some .int) ad l X) {σ : St} {x1 x2 x3 x4 x5 t0 : Int} {y : ((Int × Int) ⊕ (Unit ⊕ Int))} (hf : f_X11_roundOf_b56 σ x1 x2 x3 x4 x5 t0 = some y) (hn : ∀ z4 z5, y = .inl (z4, z5) → At vwCl TM 8 rm_X11_roundOf ad X σ [(0, .ref (ad 0)), (1, iv x1), (2, iv x2), (3, iv x3), (4, iv z4), (5, iv z5)] [] 6) (hx0 : y = .inr (.inl ()) → At vwCl TM 8 rm_X11_roundOf ad X σ [] [] 65) : At vwCl TM 8 rm_X11_roundOf ad X σ [(0, .ref (ad 0)), (1, iv x1), (2, iv x2), (3, iv x3), (4, iv x4), (5, iv x5)] [jv t0] 56 := by
  unfold f_X11_roundOf_b56 at hf
  refine a_topJ hf (fun x6_4 hf => ?_)
  refine a_lstore F (lv' := [(6, jv x6_4), (0, .ref (ad 0)), (1, iv x1), (2, iv x2), (3, iv x3), (4, iv x4), (5, iv x5)]) dX11_roundOf_56 (by decide) rfl ?_
  refine a_lload F dX11_roundOf_58 0 rfl ?_
  refine a_lconst F (n := 0) dX11_roundOf_60 (by decide +kernel) ?_
  refine a_lcmp_le F hf (tgt := 67) dX11_roundOf_61 dX11_roundOf_62 (by decide) (fun hf => ?_) (fun hf => ?_)
  · cases hf
    exact a_sub [] rfl (hx0  rfl)
  · refine a_lload F dX11_roundOf_67 0 rfl ?_
    refine a_lconst F (n := 0) dX11_roundOf_69 (by decide +kernel) ?_
    refine a_lcmp_ne F hf (tgt := 83) dX11_roundOf_70 dX11_roundOf_71 (by decide) (fun hf => ?_) (fun hf => ?_)
    · refine a_iload F dX11_roundOf_74 5 rfl ?_
      refine a_iconst F dX11_roundOf_76 ?_
      refine a_iload F dX11_roundOf_77 6 rfl ?_
      refine a_ishl F dX11_roundOf_79 ?_
      refine a_ior F dX11_roundOf_80 ?_
      refine a_topI hf (fun x4_6 hf => ?_)
      refine a_istore F (lv' := [(4, iv x4_6), (6, jv x6_4), (0, .ref (ad 0)), (1, iv x1), (2, iv x2), (3, iv x3), (5, iv x5)]) dX11_roundOf_81 (by decide) rfl ?_
      refine a_iinc F hf dX11_roundOf_83 6 rfl (by decide) (fun x5_7 hf => ⟨[(5, iv x5_7), (4, iv x4_6), (6, jv x6_4), (0, .ref (ad 0)), (1, iv x1), (2, iv x2), (3, iv x3)], rfl, ?_⟩)
      refine a_goto F (tgt := 6) dX11_roundOf_86 (by decide) ?_
      cases hf
      exact a_sub [3, 4, 5, 6, 1, 0] rfl (hn _ _ rfl)
    · refine a_iinc F hf dX11_roundOf_83 6 rfl (by decide) (fun x5_5 hf => ⟨[(5, iv x5_5), (6, jv x6_4), (0, .ref (ad 0)), (1, iv x1), (2, iv x2), (3, iv x3), (4, iv x4)], rfl, ?_⟩)
      refine a_goto F (tgt := 6) dX11_roundOf_86 (by decide) ?_
      cases hf
      exact a_sub [2, 3, 4, 5, 6, 0] rfl (hn _ _ rfl)
set_option maxRecDepth 100000 in
set_option maxHeartbeats 4000000 in
theorem k_X11_roundOf_b6 {l : Launch} {ad : Nat → Nat} {X : Cx} (F : Ok vwCl WS NWs TM cX11_roundOf 8 yX11_roundOf.cls (some .int) ad l X) {σ : St} {x1 x2 x3 x4 x5 : Int} {y : ((Int × Int) ⊕ (Unit ⊕ Int))} (hf : f_X11_roundOf_b6 σ x1 x2 x3 x4 x5 = some y) (hn : ∀ z4 z5, y = .inl (z4, z5) → At vwCl TM 8 rm_X11_roundOf ad X σ [(0, .ref (ad 0)), (1, iv x1), (2, iv x2), (3, iv x3), (4, iv z4), (5, iv z5)] [] 6) (hx0 : y = .inr (.inl ()) → At vwCl TM 8 rm_X11_roundOf ad X σ [] [] 65) (hx1 : ∀ z4, y = .inr (.inr (z4)) → At vwCl TM 8 rm_X11_roundOf ad X σ [(4, iv z4)] [] 89) : At vwCl TM 8 rm_X11_roundOf ad X σ [(0, .ref (ad 0)), (1, iv x1), (2, iv x2), (3, iv x3), (4, iv x4), (5, iv x5)] [] 6 := by
  unfold f_X11_roundOf_b6 at hf
  refine a_iload F dX11_roundOf_6 5 rfl ?_
  refine a_bipush F dX11_roundOf_8 (by decide +kernel) ?_
  refine a_icmp_ge F hf (tgt := 89) dX11_roundOf_10 (by decide) (fun hf => ?_) (fun hf => ?_)
  · refine a_aload_n F dX11_roundOf_13 rfl 0 rfl ?_
    refine a_iload F dX11_roundOf_14 5 rfl ?_
    refine a_callVIr F lk_RX11_148 tM_0 rfl c_X11_counts rfl rfl ⟨rfl, rfl⟩ ⟨Nat.le_of_ble_eq_true rfl, Nat.le_of_ble_eq_true rfl⟩ rfl (Nat.le_of_ble_eq_true rfl) dX11_roundOf_16 hf (fun r_3 hf => ?_)
    refine a_if_ne F hf (tgt := 25) dX11_roundOf_19 (by decide) (fun hf => ?_) (fun hf => ?_)
    · refine a_goto F (tgt := 83) dX11_roundOf_22 (by decide) ?_
      refine a_iinc F hf dX11_roundOf_83 5 rfl (by decide) (fun x5_9 hf => ⟨[(5, iv x5_9), (0, .ref (ad 0)), (1, iv x1), (2, iv x2), (3, iv x3), (4, iv x4)], rfl, ?_⟩)
      refine a_goto F (tgt := 6) dX11_roundOf_86 (by decide) ?_
      cases hf
      exact a_sub [1, 2, 3, 4, 5, 0] rfl (hn _ _ rfl)
    · refine a_iload F dX11_roundOf_25 5 rfl ?_
      refine a_iload_n F dX11_roundOf_27 rfl 1 rfl ?_
      refine a_icmp_eq F hf (tgt := 43) dX11_roundOf_28 (by decide) (fun hf => ?_) (fun hf => ?_)
      · refine a_lconst F (n := 0) dX11_roundOf_43 (by decide +kernel) ?_
        refine a_goto F (tgt := 56) dX11_roundOf_44 (by decide) ?_
        exact a_sub [0, 1, 2, 3, 4, 5] rfl (k_X11_roundOf_b56 F hf hn hx0)
      · refine a_iload F dX11_roundOf_31 5 rfl ?_
        refine a_iload_n F dX11_roundOf_33 rfl 2 rfl ?_
        refine a_icmp_eq F hf (tgt := 43) dX11_roundOf_34 (by decide) (fun hf => ?_) (fun hf => ?_)
        · refine a_lconst F (n := 0) dX11_roundOf_43 (by decide +kernel) ?_
          refine a_goto F (tgt := 56) dX11_roundOf_44 (by decide) ?_
          exact a_sub [0, 1, 2, 3, 4, 5] rfl (k_X11_roundOf_b56 F hf hn hx0)
        · refine a_iload F dX11_roundOf_37 5 rfl ?_
          refine a_iload_n F dX11_roundOf_39 rfl 3 rfl ?_
          refine a_icmp_ne F hf (tgt := 47) dX11_roundOf_40 (by decide) (fun hf => ?_) (fun hf => ?_)
          · refine a_lconst F (n := 0) dX11_roundOf_43 (by decide +kernel) ?_
            refine a_goto F (tgt := 56) dX11_roundOf_44 (by decide) ?_
            exact a_sub [0, 1, 2, 3, 4, 5] rfl (k_X11_roundOf_b56 F hf hn hx0)
          · refine a_aload_n F dX11_roundOf_47 rfl 0 rfl ?_
            refine a_iload_n F dX11_roundOf_48 rfl 1 rfl ?_
            refine a_iload_n F dX11_roundOf_49 rfl 2 rfl ?_
            refine a_iload_n F dX11_roundOf_50 rfl 3 rfl ?_
            refine a_iload F dX11_roundOf_51 5 rfl ?_
            refine a_callVLr F lk_RX11_254 tM_0 rfl c_X11_within rfl rfl ⟨rfl, rfl⟩ ⟨Nat.le_of_ble_eq_true rfl, Nat.le_of_ble_eq_true rfl⟩ rfl (Nat.le_of_ble_eq_true rfl) dX11_roundOf_53 hf (fun r_8 hf => ?_)
            exact a_sub [0, 1, 2, 3, 4, 5] rfl (k_X11_roundOf_b56 F hf hn hx0)
  · cases hf
    exact a_sub [4] rfl (hx1 _ rfl)
set_option maxRecDepth 100000 in
set_option maxHeartbeats 4000000 in
theorem k_X11_roundOf_b0 {l : Launch} {ad : Nat → Nat} {X : Cx} (F : Ok vwCl WS NWs TM cX11_roundOf 8 yX11_roundOf.cls (some .int) ad l X) {σ : St} {x1 x2 x3 : Int} {y : Int} (hf : f_X11_roundOf_b0 σ x1 x2 x3 = some y) (hr : RetI vwCl TM cX11_roundOf 8 rm_X11_roundOf ad X y σ) : At vwCl TM 8 rm_X11_roundOf ad X σ [(0, .ref (ad 0)), (1, iv x1), (2, iv x2), (3, iv x3)] [] 0 := by
  unfold f_X11_roundOf_b0 at hf
  refine a_iconst F dX11_roundOf_0 ?_
  refine a_topI hf (fun x4_1 hf => ?_)
  refine a_istore F (lv' := [(4, iv x4_1), (0, .ref (ad 0)), (1, iv x1), (2, iv x2), (3, iv x3)]) dX11_roundOf_1 (by decide) rfl ?_
  refine a_iconst F dX11_roundOf_3 ?_
  refine a_topI hf (fun x5_2 hf => ?_)
  refine a_istore F (lv' := [(5, iv x5_2), (4, iv x4_1), (0, .ref (ad 0)), (1, iv x1), (2, iv x2), (3, iv x3)]) dX11_roundOf_4 (by decide) rfl ?_
  obtain ⟨q0, he, hf⟩ := jbind_elim hf
  refine a_sub [2, 3, 4, 5, 1, 0] rfl (loop_rule (P := (fun q => ∀ z4 z5, (z4, z5) = q → At vwCl TM 8 rm_X11_roundOf ad X σ [(0, .ref (ad 0)), (1, iv x1), (2, iv x2), (3, iv x3), (4, iv z4), (5, iv z5)] [] 6)) (K := (fun q => (.inl () = q → At vwCl TM 8 rm_X11_roundOf ad X σ [] [] 65) ∧ (∀ z4, .inr (z4) = q → At vwCl TM 8 rm_X11_roundOf ad X σ [(4, iv z4)] [] 89))) ?_ 1000 _ _ he ?_ _ _ rfl)
  · intro q y hy hn hx z4 z5 e
    subst e
    exact k_X11_roundOf_b6 F hy (fun z4 z5 e => hn _ e _ _ rfl) (fun  e => (hx _ e).1  rfl) (fun z4 e => (hx _ e).2 _ rfl)
  · refine ⟨?_, ?_⟩
    · intro  e
      subst e
      refine a_iconst F dX11_roundOf_65 ?_
      cases hf
      exact hr _ _ dX11_roundOf_66
    · intro x4_10 e
      subst e
      refine a_iload F dX11_roundOf_89 0 rfl ?_
      cases hf
      exact hr _ _ dX11_roundOf_91
set_option maxRecDepth 100000 in
set_option maxHeartbeats 4000000 in
theorem c_X11_roundOf {l : Launch}  {σ : St} {x1 x2 x3 : Int} : CtrI vwCl WS NWs TM l yX11_roundOf cX11_roundOf 8 (some .int) rm_X11_roundOf (fun ad => [.ref (ad 0), iv x1, iv x2, iv x3]) σ (rd (f_X11_roundOf σ x1 x2 x3) σ) := by
  refine ctrI_of (by decide +kernel) (fun ad => Nat.le_of_ble_eq_true rfl) (fun v σ' ad X hf F K => ?_)
  obtain ⟨hf2, e2⟩ := rd_elim hf
  subst e2
  exact k_X11_roundOf_b0 F hf2 K
abbrev rm_X11_ringsOf : Room := { frames := 3, cells := 0, slots := 0, locals := 88 }
set_option maxRecDepth 100000 in
set_option maxHeartbeats 4000000 in
theorem k_X11_ringsOf_b27 {l : Launch} {ad : Nat → Nat} {X : Cx} (F : Ok vwCl WS NWs TM cX11_ringsOf 5 yX11_ringsOf.cls none ad l X) {σ : St} {x1 x2 x3 : Int} {y : ((St × Int) ⊕ St)} (hf : f_X11_ringsOf_b27 σ x1 x2 x3 = some y) (hn : ∀ τ z3, y = .inl (τ, z3) → At vwCl TM 5 rm_X11_ringsOf ad X τ [(0, .ref (ad 0)), (1, iv x1), (2, iv x2), (3, iv z3)] [] 27) (hx0 : ∀ τ, y = .inr (τ) → At vwCl TM 5 rm_X11_ringsOf ad X τ [(0, .ref (ad 0)), (1, iv x1), (2, iv x2)] [] 164) : At vwCl TM 5 rm_X11_ringsOf ad X σ [(0, .ref (ad 0)), (1, iv x1), (2, iv x2), (3, iv x3)] [] 27 := by
  unfold f_X11_ringsOf_b27 at hf
  refine a_iload_n F dX11_ringsOf_27 rfl 3 rfl ?_
  refine a_bipush F dX11_ringsOf_28 (by decide +kernel) ?_
  refine a_icmp_ge F hf (tgt := 164) dX11_ringsOf_30 (by decide) (fun hf => ?_) (fun hf => ?_)
  · refine a_aload_n F dX11_ringsOf_33 rfl 0 rfl ?_
    refine a_iload_n F dX11_ringsOf_34 rfl 1 rfl ?_
    refine a_callVIr F lk_RX11_148 tM_0 rfl c_X11_counts rfl rfl ⟨rfl, rfl⟩ ⟨Nat.le_of_ble_eq_true rfl, Nat.le_of_ble_eq_true rfl⟩ rfl (Nat.le_of_ble_eq_true rfl) dX11_ringsOf_35 hf (fun r_5 hf => ?_)
    refine a_if_eq F hf (tgt := 158) dX11_ringsOf_38 (by decide) (fun hf => ?_) (fun hf => ?_)
    · refine a_iinc F hf dX11_ringsOf_158 3 rfl (by decide) (fun x3_6 hf => ⟨[(3, iv x3_6), (0, .ref (ad 0)), (1, iv x1), (2, iv x2)], rfl, ?_⟩)
      refine a_goto F (tgt := 27) dX11_ringsOf_161 (by decide) ?_
      cases hf
      exact a_sub [1, 2, 3, 0] rfl (hn _ _ rfl)
    · refine a_aload_n F dX11_ringsOf_41 rfl 0 rfl ?_
      refine a_iload_n F dX11_ringsOf_42 rfl 2 rfl ?_
      refine a_callVIr F lk_RX11_148 tM_0 rfl c_X11_counts rfl rfl ⟨rfl, rfl⟩ ⟨Nat.le_of_ble_eq_true rfl, Nat.le_of_ble_eq_true rfl⟩ rfl (Nat.le_of_ble_eq_true rfl) dX11_ringsOf_43 hf (fun r_7 hf => ?_)
      refine a_if_eq F hf (tgt := 158) dX11_ringsOf_46 (by decide) (fun hf => ?_) (fun hf => ?_)
      · refine a_iinc F hf dX11_ringsOf_158 3 rfl (by decide) (fun x3_8 hf => ⟨[(3, iv x3_8), (0, .ref (ad 0)), (1, iv x1), (2, iv x2)], rfl, ?_⟩)
        refine a_goto F (tgt := 27) dX11_ringsOf_161 (by decide) ?_
        cases hf
        exact a_sub [1, 2, 3, 0] rfl (hn _ _ rfl)
      · refine a_aload_n F dX11_ringsOf_49 rfl 0 rfl ?_
        refine a_iload_n F dX11_ringsOf_50 rfl 3 rfl ?_
        refine a_callVIr F lk_RX11_148 tM_0 rfl c_X11_counts rfl rfl ⟨rfl, rfl⟩ ⟨Nat.le_of_ble_eq_true rfl, Nat.le_of_ble_eq_true rfl⟩ rfl (Nat.le_of_ble_eq_true rfl) dX11_ringsOf_51 hf (fun r_9 hf => ?_)
        refine a_if_eq F hf (tgt := 158) dX11_ringsOf_54 (by decide) (fun hf => ?_) (fun hf => ?_)
        · refine a_iinc F hf dX11_ringsOf_158 3 rfl (by decide) (fun x3_10 hf => ⟨[(3, iv x3_10), (0, .ref (ad 0)), (1, iv x1), (2, iv x2)], rfl, ?_⟩)
          refine a_goto F (tgt := 27) dX11_ringsOf_161 (by decide) ?_
          cases hf
          exact a_sub [1, 2, 3, 0] rfl (hn _ _ rfl)
        · refine a_aload_n F dX11_ringsOf_57 rfl 0 rfl ?_
          refine a_iload_n F dX11_ringsOf_58 rfl 1 rfl ?_
          refine a_iload_n F dX11_ringsOf_59 rfl 2 rfl ?_
          refine a_iload_n F dX11_ringsOf_60 rfl 3 rfl ?_
          refine a_callVLr F lk_RX11_250 tM_0 rfl c_X11_cross rfl rfl ⟨rfl, rfl⟩ ⟨Nat.le_of_ble_eq_true rfl, Nat.le_of_ble_eq_true rfl⟩ rfl (Nat.le_of_ble_eq_true rfl) dX11_ringsOf_61 hf (fun r_11 hf => ?_)
          refine a_lconst F (n := 0) dX11_ringsOf_64 (by decide +kernel) ?_
          refine a_lcmp_ne F hf (tgt := 72) dX11_ringsOf_65 dX11_ringsOf_66 (by decide) (fun hf => ?_) (fun hf => ?_)
          · refine a_goto F (tgt := 158) dX11_ringsOf_69 (by decide) ?_
            refine a_iinc F hf dX11_ringsOf_158 3 rfl (by decide) (fun x3_22 hf => ⟨[(3, iv x3_22), (0, .ref (ad 0)), (1, iv x1), (2, iv x2)], rfl, ?_⟩)
            refine a_goto F (tgt := 27) dX11_ringsOf_161 (by decide) ?_
            cases hf
            exact a_sub [1, 2, 3, 0] rfl (hn _ _ rfl)
          · refine a_aload_n F dX11_ringsOf_72 rfl 0 rfl ?_
            refine a_iload_n F dX11_ringsOf_73 rfl 1 rfl ?_
            refine a_iload_n F dX11_ringsOf_74 rfl 2 rfl ?_
            refine a_iload_n F dX11_ringsOf_75 rfl 3 rfl ?_
            refine a_callVIr F lk_RX11_260 tM_0 rfl c_X11_roundOf rfl rfl ⟨rfl, rfl⟩ ⟨Nat.le_of_ble_eq_true rfl, Nat.le_of_ble_eq_true rfl⟩ rfl (Nat.le_of_ble_eq_true rfl) dX11_ringsOf_76 hf (fun r_12 hf => ?_)
            refine a_topI hf (fun x4_13 hf => ?_)
            refine a_istore F (lv' := [(4, iv x4_13), (0, .ref (ad 0)), (1, iv x1), (2, iv x2), (3, iv x3)]) dX11_ringsOf_79 (by decide) rfl ?_
            refine a_iload F dX11_ringsOf_81 0 rfl ?_
            refine a_if_eq F hf (tgt := 158) dX11_ringsOf_83 (by decide) (fun hf => ?_) (fun hf => ?_)
            · refine a_iinc F hf dX11_ringsOf_158 4 rfl (by decide) (fun x3_14 hf => ⟨[(3, iv x3_14), (4, iv x4_13), (0, .ref (ad 0)), (1, iv x1), (2, iv x2)], rfl, ?_⟩)
              refine a_goto F (tgt := 27) dX11_ringsOf_161 (by decide) ?_
              cases hf
              exact a_sub [2, 3, 4, 0] rfl (hn _ _ rfl)
            · refine a_iload F dX11_ringsOf_86 0 rfl ?_
              refine a_iconst F dX11_ringsOf_88 ?_
              refine a_iload_n F dX11_ringsOf_89 rfl 4 rfl ?_
              refine a_ishl F dX11_ringsOf_90 ?_
              refine a_iconst F dX11_ringsOf_91 ?_
              refine a_isub F dX11_ringsOf_92 ?_
              refine a_iand F dX11_ringsOf_93 ?_
              refine a_iconst F dX11_ringsOf_94 ?_
              refine a_iload_n F dX11_ringsOf_95 rfl 2 rfl ?_
              refine a_ishl F dX11_ringsOf_96 ?_
              refine a_iconst F dX11_ringsOf_97 ?_
              refine a_iload_n F dX11_ringsOf_98 rfl 3 rfl ?_
              refine a_ishl F dX11_ringsOf_99 ?_
              refine a_ior F dX11_ringsOf_100 ?_
              refine a_icmp_eq F hf (tgt := 107) dX11_ringsOf_101 (by decide) (fun hf => ?_) (fun hf => ?_)
              · refine a_aload_n F dX11_ringsOf_107 rfl 1 rfl ?_
                refine a_getR F (j := 30) tM_0 rfl rfl (by decide) inW11 w_716 dX11_ringsOf_108 ?_
                refine a_aload_n F dX11_ringsOf_111 rfl 1 rfl ?_
                refine a_getI F (j := 29) tM_0 rfl rfl (by decide) inW11 w_711 dX11_ringsOf_112 ?_
                refine a_iload F dX11_ringsOf_115 0 rfl ?_
                refine a_iast F tM_21 rfl (by decide) hf dX11_ringsOf_117 (fun σ_15 hf => ?_)
                refine a_aload_n F dX11_ringsOf_118 rfl 1 rfl ?_
                refine a_getR F (j := 31) tM_0 rfl rfl (by decide) inW11 w_717 dX11_ringsOf_119 ?_
                refine a_aload_n F dX11_ringsOf_122 rfl 1 rfl ?_
                refine a_getI F (j := 29) tM_0 rfl rfl (by decide) inW11 w_711 dX11_ringsOf_123 ?_
                refine a_iload_n F dX11_ringsOf_126 rfl 2 rfl ?_
                refine a_iast F tM_22 rfl (by decide) hf dX11_ringsOf_127 (fun σ_16 hf => ?_)
                refine a_aload_n F dX11_ringsOf_128 rfl 1 rfl ?_
                refine a_getR F (j := 32) tM_0 rfl rfl (by decide) inW11 w_718 dX11_ringsOf_129 ?_
                refine a_aload_n F dX11_ringsOf_132 rfl 1 rfl ?_
                refine a_getI F (j := 29) tM_0 rfl rfl (by decide) inW11 w_711 dX11_ringsOf_133 ?_
                refine a_iload_n F dX11_ringsOf_136 rfl 3 rfl ?_
                refine a_iast F tM_23 rfl (by decide) hf dX11_ringsOf_137 (fun σ_17 hf => ?_)
                refine a_aload_n F dX11_ringsOf_138 rfl 1 rfl ?_
                refine a_getR F (j := 33) tM_0 rfl rfl (by decide) inW11 w_719 dX11_ringsOf_139 ?_
                refine a_aload_n F dX11_ringsOf_142 rfl 1 rfl ?_
                refine a_getI F (j := 29) tM_0 rfl rfl (by decide) inW11 w_711 dX11_ringsOf_143 ?_
                refine a_iload_n F dX11_ringsOf_146 rfl 4 rfl ?_
                refine a_iast F tM_24 rfl (by decide) hf dX11_ringsOf_147 (fun σ_18 hf => ?_)
                refine a_aload_n F dX11_ringsOf_148 rfl 1 rfl ?_
                refine a_dup F dX11_ringsOf_149 rfl ?_
                refine a_getI F (j := 29) tM_0 rfl rfl (by decide) inW11 w_711 dX11_ringsOf_150 ?_
                refine a_iconst F dX11_ringsOf_153 ?_
                refine a_iadd F dX11_ringsOf_154 ?_
                refine a_putI F (j := 29) tM_0 rfl rfl (by decide) inW11 w_711 tyX11 tyX11_ok nmX11 rfl rfl hf dX11_ringsOf_155 (fun σ_19 hf => ?_)
                refine a_iinc F hf dX11_ringsOf_158 4 rfl (by decide) (fun x3_20 hf => ⟨[(3, iv x3_20), (4, iv x4_13), (0, .ref (ad 0)), (1, iv x1), (2, iv x2)], rfl, ?_⟩)
                refine a_goto F (tgt := 27) dX11_ringsOf_161 (by decide) ?_
                cases hf
                exact a_sub [2, 3, 4, 0] rfl (hn _ _ rfl)
              · refine a_goto F (tgt := 158) dX11_ringsOf_104 (by decide) ?_
                refine a_iinc F hf dX11_ringsOf_158 4 rfl (by decide) (fun x3_21 hf => ⟨[(3, iv x3_21), (4, iv x4_13), (0, .ref (ad 0)), (1, iv x1), (2, iv x2)], rfl, ?_⟩)
                refine a_goto F (tgt := 27) dX11_ringsOf_161 (by decide) ?_
                cases hf
                exact a_sub [2, 3, 4, 0] rfl (hn _ _ rfl)
  · cases hf
    exact a_sub [0, 1, 2] rfl (hx0 _ rfl)
set_option maxRecDepth 100000 in
set_option maxHeartbeats 4000000 in
theorem k_X11_ringsOf_b17 {l : Launch} {ad : Nat → Nat} {X : Cx} (F : Ok vwCl WS NWs TM cX11_ringsOf 5 yX11_ringsOf.cls none ad l X) {σ : St} {x1 x2 : Int} {y : ((St × Int) ⊕ St)} (hf : f_X11_ringsOf_b17 σ x1 x2 = some y) (hn : ∀ τ z2, y = .inl (τ, z2) → At vwCl TM 5 rm_X11_ringsOf ad X τ [(0, .ref (ad 0)), (1, iv x1), (2, iv z2)] [] 17) (hx0 : ∀ τ, y = .inr (τ) → At vwCl TM 5 rm_X11_ringsOf ad X τ [(0, .ref (ad 0)), (1, iv x1)] [] 170) : At vwCl TM 5 rm_X11_ringsOf ad X σ [(0, .ref (ad 0)), (1, iv x1), (2, iv x2)] [] 17 := by
  unfold f_X11_ringsOf_b17 at hf
  refine a_iload_n F dX11_ringsOf_17 rfl 2 rfl ?_
  refine a_bipush F dX11_ringsOf_18 (by decide +kernel) ?_
  refine a_icmp_ge F hf (tgt := 170) dX11_ringsOf_20 (by decide) (fun hf => ?_) (fun hf => ?_)
  · refine a_iload_n F dX11_ringsOf_23 rfl 2 rfl ?_
    refine a_iconst F dX11_ringsOf_24 ?_
    refine a_iadd F dX11_ringsOf_25 ?_
    refine a_topI hf (fun x3_4 hf => ?_)
    refine a_istore_n F (lv' := [(3, iv x3_4), (0, .ref (ad 0)), (1, iv x1), (2, iv x2)]) dX11_ringsOf_26 rfl (by decide) rfl ?_
    obtain ⟨q0, he, hf⟩ := jbind_elim hf
    refine a_sub [1, 2, 3, 0] rfl (loop_rule (P := (fun q => ∀ τ z3, (τ, z3) = q → At vwCl TM 5 rm_X11_ringsOf ad X τ [(0, .ref (ad 0)), (1, iv x1), (2, iv x2), (3, iv z3)] [] 27)) (K := (fun q => (∀ τ, τ = q → At vwCl TM 5 rm_X11_ringsOf ad X τ [(0, .ref (ad 0)), (1, iv x1), (2, iv x2)] [] 164))) ?_ 1000 _ _ he ?_ _ _ rfl)
    · intro q y hy hn hx τ z3 e
      subst e
      exact k_X11_ringsOf_b27 F hy (fun τ z3 e => hn _ e _ _ rfl) (fun τ e => (hx _ e) _ rfl)
    · intro σ_23 e
      subst e
      refine a_iinc F hf dX11_ringsOf_164 2 rfl (by decide) (fun x2_24 hf => ⟨[(2, iv x2_24), (0, .ref (ad 0)), (1, iv x1)], rfl, ?_⟩)
      refine a_goto F (tgt := 17) dX11_ringsOf_167 (by decide) ?_
      cases hf
      exact a_sub [1, 2, 0] rfl (hn _ _ rfl)
  · cases hf
    exact a_sub [0, 1] rfl (hx0 _ rfl)
set_option maxRecDepth 100000 in
set_option maxHeartbeats 4000000 in
theorem k_X11_ringsOf_b7 {l : Launch} {ad : Nat → Nat} {X : Cx} (F : Ok vwCl WS NWs TM cX11_ringsOf 5 yX11_ringsOf.cls none ad l X) {σ : St} {x1 : Int} {y : ((St × Int) ⊕ St)} (hf : f_X11_ringsOf_b7 σ x1 = some y) (hn : ∀ τ z1, y = .inl (τ, z1) → At vwCl TM 5 rm_X11_ringsOf ad X τ [(0, .ref (ad 0)), (1, iv z1)] [] 7) (hx0 : ∀ τ, y = .inr (τ) → At vwCl TM 5 rm_X11_ringsOf ad X τ [] [] 176) : At vwCl TM 5 rm_X11_ringsOf ad X σ [(0, .ref (ad 0)), (1, iv x1)] [] 7 := by
  unfold f_X11_ringsOf_b7 at hf
  refine a_iload_n F dX11_ringsOf_7 rfl 1 rfl ?_
  refine a_bipush F dX11_ringsOf_8 (by decide +kernel) ?_
  refine a_icmp_ge F hf (tgt := 176) dX11_ringsOf_10 (by decide) (fun hf => ?_) (fun hf => ?_)
  · refine a_iload_n F dX11_ringsOf_13 rfl 1 rfl ?_
    refine a_iconst F dX11_ringsOf_14 ?_
    refine a_iadd F dX11_ringsOf_15 ?_
    refine a_topI hf (fun x2_3 hf => ?_)
    refine a_istore_n F (lv' := [(2, iv x2_3), (0, .ref (ad 0)), (1, iv x1)]) dX11_ringsOf_16 rfl (by decide) rfl ?_
    obtain ⟨q0, he, hf⟩ := jbind_elim hf
    refine a_sub [1, 2, 0] rfl (loop_rule (P := (fun q => ∀ τ z2, (τ, z2) = q → At vwCl TM 5 rm_X11_ringsOf ad X τ [(0, .ref (ad 0)), (1, iv x1), (2, iv z2)] [] 17)) (K := (fun q => (∀ τ, τ = q → At vwCl TM 5 rm_X11_ringsOf ad X τ [(0, .ref (ad 0)), (1, iv x1)] [] 170))) ?_ 1000 _ _ he ?_ _ _ rfl)
    · intro q y hy hn hx τ z2 e
      subst e
      exact k_X11_ringsOf_b17 F hy (fun τ z2 e => hn _ e _ _ rfl) (fun τ e => (hx _ e) _ rfl)
    · intro σ_25 e
      subst e
      refine a_iinc F hf dX11_ringsOf_170 1 rfl (by decide) (fun x1_26 hf => ⟨[(1, iv x1_26), (0, .ref (ad 0))], rfl, ?_⟩)
      refine a_goto F (tgt := 7) dX11_ringsOf_173 (by decide) ?_
      cases hf
      exact a_sub [1, 0] rfl (hn _ _ rfl)
  · cases hf
    exact a_sub [] rfl (hx0 _ rfl)
set_option maxRecDepth 100000 in
set_option maxHeartbeats 4000000 in
theorem k_X11_ringsOf_b0 {l : Launch} {ad : Nat → Nat} {X : Cx} (F : Ok vwCl WS NWs TM cX11_ringsOf 5 yX11_ringsOf.cls none ad l X) {σ : St} {y : St} (hf : f_X11_ringsOf_b0 σ = some y) (hr : RetV vwCl TM cX11_ringsOf 5 rm_X11_ringsOf ad X y) : At vwCl TM 5 rm_X11_ringsOf ad X σ [(0, .ref (ad 0))] [] 0 := by
  unfold f_X11_ringsOf_b0 at hf
  refine a_aload_n F dX11_ringsOf_0 rfl 0 rfl ?_
  refine a_iconst F dX11_ringsOf_1 ?_
  refine a_putI F (j := 29) tM_0 rfl rfl (by decide) inW11 w_711 tyX11 tyX11_ok nmX11 rfl rfl hf dX11_ringsOf_2 (fun σ_1 hf => ?_)
  refine a_iconst F dX11_ringsOf_5 ?_
  refine a_topI hf (fun x1_2 hf => ?_)
  refine a_istore_n F (lv' := [(1, iv x1_2), (0, .ref (ad 0))]) dX11_ringsOf_6 rfl (by decide) rfl ?_
  obtain ⟨q0, he, hf⟩ := jbind_elim hf
  refine a_sub [1, 0] rfl (loop_rule (P := (fun q => ∀ τ z1, (τ, z1) = q → At vwCl TM 5 rm_X11_ringsOf ad X τ [(0, .ref (ad 0)), (1, iv z1)] [] 7)) (K := (fun q => (∀ τ, τ = q → At vwCl TM 5 rm_X11_ringsOf ad X τ [] [] 176))) ?_ 1000 _ _ he ?_ _ _ rfl)
  · intro q y hy hn hx τ z1 e
    subst e
    exact k_X11_ringsOf_b7 F hy (fun τ z1 e => hn _ e _ _ rfl) (fun τ e => (hx _ e) _ rfl)
  · intro σ_27 e
    subst e
    cases hf
    exact hr _ _ dX11_ringsOf_176
set_option maxRecDepth 100000 in
set_option maxHeartbeats 4000000 in
theorem c_X11_ringsOf {l : Launch}  {σ : St} : CtrV vwCl WS NWs TM l yX11_ringsOf cX11_ringsOf 5 none rm_X11_ringsOf (fun ad => [.ref (ad 0)]) σ (f_X11_ringsOf σ) := by
  refine ctrV_of (by decide +kernel) (fun ad => Nat.le_of_ble_eq_true rfl) (fun σ' ad X hf F K => ?_)
  exact k_X11_ringsOf_b0 F hf K
abbrev rm_X11_middle : Room := { frames := 2, cells := 0, slots := 0, locals := 45 }
set_option maxRecDepth 100000 in
set_option maxHeartbeats 4000000 in
theorem k_X11_middle_b255 {l : Launch} {ad : Nat → Nat} {X : Cx} (F : Ok vwCl WS NWs TM cX11_middle 13 yX11_middle.cls none ad l X) {σ : St} {x2 x3 x4 x11 : Int} {y : St} (hf : f_X11_middle_b255 σ x2 x3 x4 x11 = some y) (hr : RetV vwCl TM cX11_middle 13 rm_X11_middle ad X y) : At vwCl TM 13 rm_X11_middle ad X σ [(0, .ref (ad 0)), (2, iv x2), (3, iv x3), (4, iv x4), (11, jv x11)] [] 255 := by
  unfold f_X11_middle_b255 at hf
  refine a_aload_n F dX11_middle_255 rfl 0 rfl ?_
  refine a_aload_n F dX11_middle_256 rfl 0 rfl ?_
  refine a_iload_n F dX11_middle_257 rfl 1 rfl ?_
  refine a_iload_n F dX11_middle_258 rfl 2 rfl ?_
  refine a_callVLr F lk_RX11_276 tM_0 rfl c_X11_apart rfl rfl ⟨rfl, rfl⟩ ⟨Nat.le_of_ble_eq_true rfl, Nat.le_of_ble_eq_true rfl⟩ rfl (Nat.le_of_ble_eq_true rfl) dX11_middle_259 hf (fun r_15 hf => ?_)
  refine a_aload_n F dX11_middle_262 rfl 0 rfl ?_
  refine a_iload_n F dX11_middle_263 rfl 2 rfl ?_
  refine a_iload F dX11_middle_264 3 rfl ?_
  refine a_callVLr F lk_RX11_276 tM_0 rfl c_X11_apart rfl rfl ⟨rfl, rfl⟩ ⟨Nat.le_of_ble_eq_true rfl, Nat.le_of_ble_eq_true rfl⟩ rfl (Nat.le_of_ble_eq_true rfl) dX11_middle_266 hf (fun r_16 hf => ?_)
  refine a_lmul F dX11_middle_269 ?_
  refine a_aload_n F dX11_middle_270 rfl 0 rfl ?_
  refine a_iload F dX11_middle_271 3 rfl ?_
  refine a_iload_n F dX11_middle_273 rfl 1 rfl ?_
  refine a_callVLr F lk_RX11_276 tM_0 rfl c_X11_apart rfl rfl ⟨rfl, rfl⟩ ⟨Nat.le_of_ble_eq_true rfl, Nat.le_of_ble_eq_true rfl⟩ rfl (Nat.le_of_ble_eq_true rfl) dX11_middle_274 hf (fun r_17 hf => ?_)
  refine a_lmul F dX11_middle_277 ?_
  refine a_putJ F (j := 37) tM_0 rfl rfl (by decide) inW11 w_647 tyX11 tyX11_ok nmX11 rfl rfl hf dX11_middle_278 (fun σ_18 hf => ?_)
  refine a_aload_n F dX11_middle_281 rfl 0 rfl ?_
  refine a_ldc2 F (n := 4) (by decide +kernel) w_684 dX11_middle_282 ?_
  refine a_lload F dX11_middle_285 4 rfl ?_
  refine a_lmul F dX11_middle_287 ?_
  refine a_lload F dX11_middle_288 4 rfl ?_
  refine a_lmul F dX11_middle_290 ?_
  refine a_putJ F (j := 38) tM_0 rfl rfl (by decide) inW11 w_649 tyX11 tyX11_ok nmX11 rfl rfl hf dX11_middle_291 (fun σ_19 hf => ?_)
  cases hf
  exact hr _ _ dX11_middle_294
set_option maxRecDepth 100000 in
set_option maxHeartbeats 4000000 in
theorem k_X11_middle_b0 {l : Launch} {ad : Nat → Nat} {X : Cx} (F : Ok vwCl WS NWs TM cX11_middle 13 yX11_middle.cls none ad l X) {σ : St} {x1 : Int} {y : St} (hf : f_X11_middle_b0 σ x1 = some y) (hr : RetV vwCl TM cX11_middle 13 rm_X11_middle ad X y) : At vwCl TM 13 rm_X11_middle ad X σ [(0, .ref (ad 0)), (1, iv x1)] [] 0 := by
  unfold f_X11_middle_b0 at hf
  refine a_aload_n F dX11_middle_0 rfl 0 rfl ?_
  refine a_getR F (j := 31) tM_0 rfl rfl (by decide) inW11 w_717 dX11_middle_1 ?_
  refine a_iload_n F dX11_middle_4 rfl 1 rfl ?_
  refine a_iald F tM_22 rfl (by decide) hf dX11_middle_5 (fun hf => ?_)
  refine a_topI hf (fun x2_1 hf => ?_)
  refine a_istore_n F (lv' := [(2, iv x2_1), (0, .ref (ad 0)), (1, iv x1)]) dX11_middle_6 rfl (by decide) rfl ?_
  refine a_aload_n F dX11_middle_7 rfl 1 rfl ?_
  refine a_getR F (j := 32) tM_0 rfl rfl (by decide) inW11 w_718 dX11_middle_8 ?_
  refine a_iload_n F dX11_middle_11 rfl 2 rfl ?_
  refine a_iald F tM_23 rfl (by decide) hf dX11_middle_12 (fun hf => ?_)
  refine a_topI hf (fun x3_2 hf => ?_)
  refine a_istore_n F (lv' := [(3, iv x3_2), (2, iv x2_1), (0, .ref (ad 0)), (1, iv x1)]) dX11_middle_13 rfl (by decide) rfl ?_
  refine a_aload_n F dX11_middle_14 rfl 2 rfl ?_
  refine a_getR F (j := 33) tM_0 rfl rfl (by decide) inW11 w_719 dX11_middle_15 ?_
  refine a_iload_n F dX11_middle_18 rfl 3 rfl ?_
  refine a_iald F tM_24 rfl (by decide) hf dX11_middle_19 (fun hf => ?_)
  refine a_topI hf (fun x4_3 hf => ?_)
  refine a_istore F (lv' := [(4, iv x4_3), (3, iv x3_2), (2, iv x2_1), (0, .ref (ad 0)), (1, iv x1)]) dX11_middle_20 (by decide) rfl ?_
  refine a_aload_n F dX11_middle_22 rfl 3 rfl ?_
  refine a_getR F (j := 4) tM_0 rfl rfl (by decide) inW11 w_539 dX11_middle_23 ?_
  refine a_iload_n F dX11_middle_26 rfl 2 rfl ?_
  refine a_iald F tM_2 rfl (by decide) hf dX11_middle_27 (fun hf => ?_)
  refine a_i2l F hf dX11_middle_28 (fun hf => ?_)
  refine a_aload_n F dX11_middle_29 rfl 3 rfl ?_
  refine a_getR F (j := 5) tM_0 rfl rfl (by decide) inW11 w_540 dX11_middle_30 ?_
  refine a_iload_n F dX11_middle_33 rfl 2 rfl ?_
  refine a_iald F tM_3 rfl (by decide) hf dX11_middle_34 (fun hf => ?_)
  refine a_i2l F hf dX11_middle_35 (fun hf => ?_)
  refine a_callSLr F lk_RX11_247 c_X11_square rfl rfl ⟨rfl, rfl⟩ ⟨Nat.le_of_ble_eq_true rfl, Nat.le_of_ble_eq_true rfl⟩ rfl (Nat.le_of_ble_eq_true rfl) dX11_middle_36 hf (fun r_4 hf => ?_)
  refine a_topJ hf (fun x5_5 hf => ?_)
  refine a_lstore F (lv' := [(5, jv x5_5), (4, iv x4_3), (3, iv x3_2), (2, iv x2_1), (0, .ref (ad 0)), (1, iv x1)]) dX11_middle_39 (by decide) rfl ?_
  refine a_aload_n F dX11_middle_41 rfl 4 rfl ?_
  refine a_getR F (j := 4) tM_0 rfl rfl (by decide) inW11 w_539 dX11_middle_42 ?_
  refine a_iload_n F dX11_middle_45 rfl 2 rfl ?_
  refine a_iald F tM_2 rfl (by decide) hf dX11_middle_46 (fun hf => ?_)
  refine a_i2l F hf dX11_middle_47 (fun hf => ?_)
  refine a_aload_n F dX11_middle_48 rfl 4 rfl ?_
  refine a_getR F (j := 5) tM_0 rfl rfl (by decide) inW11 w_540 dX11_middle_49 ?_
  refine a_iload_n F dX11_middle_52 rfl 2 rfl ?_
  refine a_iald F tM_3 rfl (by decide) hf dX11_middle_53 (fun hf => ?_)
  refine a_i2l F hf dX11_middle_54 (fun hf => ?_)
  refine a_callSLr F lk_RX11_247 c_X11_square rfl rfl ⟨rfl, rfl⟩ ⟨Nat.le_of_ble_eq_true rfl, Nat.le_of_ble_eq_true rfl⟩ rfl (Nat.le_of_ble_eq_true rfl) dX11_middle_55 hf (fun r_6 hf => ?_)
  refine a_topJ hf (fun x7_7 hf => ?_)
  refine a_lstore F (lv' := [(7, jv x7_7), (5, jv x5_5), (4, iv x4_3), (3, iv x3_2), (2, iv x2_1), (0, .ref (ad 0)), (1, iv x1)]) dX11_middle_58 (by decide) rfl ?_
  refine a_aload_n F dX11_middle_60 rfl 5 rfl ?_
  refine a_getR F (j := 4) tM_0 rfl rfl (by decide) inW11 w_539 dX11_middle_61 ?_
  refine a_iload F dX11_middle_64 2 rfl ?_
  refine a_iald F tM_2 rfl (by decide) hf dX11_middle_66 (fun hf => ?_)
  refine a_i2l F hf dX11_middle_67 (fun hf => ?_)
  refine a_aload_n F dX11_middle_68 rfl 5 rfl ?_
  refine a_getR F (j := 5) tM_0 rfl rfl (by decide) inW11 w_540 dX11_middle_69 ?_
  refine a_iload F dX11_middle_72 2 rfl ?_
  refine a_iald F tM_3 rfl (by decide) hf dX11_middle_74 (fun hf => ?_)
  refine a_i2l F hf dX11_middle_75 (fun hf => ?_)
  refine a_callSLr F lk_RX11_247 c_X11_square rfl rfl ⟨rfl, rfl⟩ ⟨Nat.le_of_ble_eq_true rfl, Nat.le_of_ble_eq_true rfl⟩ rfl (Nat.le_of_ble_eq_true rfl) dX11_middle_76 hf (fun r_8 hf => ?_)
  refine a_topJ hf (fun x9_9 hf => ?_)
  refine a_lstore F (lv' := [(9, jv x9_9), (7, jv x7_7), (5, jv x5_5), (4, iv x4_3), (3, iv x3_2), (2, iv x2_1), (0, .ref (ad 0)), (1, iv x1)]) dX11_middle_79 (by decide) rfl ?_
  refine a_aload_n F dX11_middle_81 rfl 6 rfl ?_
  refine a_iload_n F dX11_middle_82 rfl 5 rfl ?_
  refine a_iload_n F dX11_middle_83 rfl 4 rfl ?_
  refine a_iload F dX11_middle_84 3 rfl ?_
  refine a_callVLr F lk_RX11_250 tM_0 rfl c_X11_cross rfl rfl ⟨rfl, rfl⟩ ⟨Nat.le_of_ble_eq_true rfl, Nat.le_of_ble_eq_true rfl⟩ rfl (Nat.le_of_ble_eq_true rfl) dX11_middle_86 hf (fun r_10 hf => ?_)
  refine a_topJ hf (fun x11_11 hf => ?_)
  refine a_lstore F (lv' := [(11, jv x11_11), (9, jv x9_9), (7, jv x7_7), (5, jv x5_5), (4, iv x4_3), (3, iv x3_2), (2, iv x2_1), (0, .ref (ad 0)), (1, iv x1)]) dX11_middle_89 (by decide) rfl ?_
  refine a_aload_n F dX11_middle_91 rfl 7 rfl ?_
  refine a_ldc2 F (n := 2) (by decide +kernel) w_541 dX11_middle_92 ?_
  refine a_lload F dX11_middle_95 0 rfl ?_
  refine a_lmul F dX11_middle_97 ?_
  refine a_putJ F (j := 36) tM_0 rfl rfl (by decide) inW11 w_645 tyX11 tyX11_ok nmX11 rfl rfl hf dX11_middle_98 (fun σ_12 hf => ?_)
  refine a_aload_n F dX11_middle_101 rfl 7 rfl ?_
  refine a_lload F dX11_middle_102 3 rfl ?_
  refine a_aload_n F dX11_middle_104 rfl 7 rfl ?_
  refine a_getR F (j := 5) tM_0 rfl rfl (by decide) inW11 w_540 dX11_middle_105 ?_
  refine a_iload_n F dX11_middle_108 rfl 5 rfl ?_
  refine a_iald F tM_3 rfl (by decide) hf dX11_middle_109 (fun hf => ?_)
  refine a_aload_n F dX11_middle_110 rfl 7 rfl ?_
  refine a_getR F (j := 5) tM_0 rfl rfl (by decide) inW11 w_540 dX11_middle_111 ?_
  refine a_iload F dX11_middle_114 4 rfl ?_
  refine a_iald F tM_3 rfl (by decide) hf dX11_middle_116 (fun hf => ?_)
  refine a_isub F dX11_middle_117 ?_
  refine a_i2l F hf dX11_middle_118 (fun hf => ?_)
  refine a_lmul F dX11_middle_119 ?_
  refine a_lload F dX11_middle_120 2 rfl ?_
  refine a_aload_n F dX11_middle_122 rfl 7 rfl ?_
  refine a_getR F (j := 5) tM_0 rfl rfl (by decide) inW11 w_540 dX11_middle_123 ?_
  refine a_iload F dX11_middle_126 4 rfl ?_
  refine a_iald F tM_3 rfl (by decide) hf dX11_middle_128 (fun hf => ?_)
  refine a_aload_n F dX11_middle_129 rfl 7 rfl ?_
  refine a_getR F (j := 5) tM_0 rfl rfl (by decide) inW11 w_540 dX11_middle_130 ?_
  refine a_iload_n F dX11_middle_133 rfl 6 rfl ?_
  refine a_iald F tM_3 rfl (by decide) hf dX11_middle_134 (fun hf => ?_)
  refine a_isub F dX11_middle_135 ?_
  refine a_i2l F hf dX11_middle_136 (fun hf => ?_)
  refine a_lmul F dX11_middle_137 ?_
  refine a_ladd F dX11_middle_138 ?_
  refine a_lload F dX11_middle_139 1 rfl ?_
  refine a_aload_n F dX11_middle_141 rfl 7 rfl ?_
  refine a_getR F (j := 5) tM_0 rfl rfl (by decide) inW11 w_540 dX11_middle_142 ?_
  refine a_iload_n F dX11_middle_145 rfl 6 rfl ?_
  refine a_iald F tM_3 rfl (by decide) hf dX11_middle_146 (fun hf => ?_)
  refine a_aload_n F dX11_middle_147 rfl 7 rfl ?_
  refine a_getR F (j := 5) tM_0 rfl rfl (by decide) inW11 w_540 dX11_middle_148 ?_
  refine a_iload_n F dX11_middle_151 rfl 5 rfl ?_
  refine a_iald F tM_3 rfl (by decide) hf dX11_middle_152 (fun hf => ?_)
  refine a_isub F dX11_middle_153 ?_
  refine a_i2l F hf dX11_middle_154 (fun hf => ?_)
  refine a_lmul F dX11_middle_155 ?_
  refine a_ladd F dX11_middle_156 ?_
  refine a_putJ F (j := 34) tM_0 rfl rfl (by decide) inW11 w_641 tyX11 tyX11_ok nmX11 rfl rfl hf dX11_middle_157 (fun σ_13 hf => ?_)
  refine a_aload_n F dX11_middle_160 rfl 7 rfl ?_
  refine a_lload F dX11_middle_161 3 rfl ?_
  refine a_aload_n F dX11_middle_163 rfl 7 rfl ?_
  refine a_getR F (j := 4) tM_0 rfl rfl (by decide) inW11 w_539 dX11_middle_164 ?_
  refine a_iload F dX11_middle_167 4 rfl ?_
  refine a_iald F tM_2 rfl (by decide) hf dX11_middle_169 (fun hf => ?_)
  refine a_aload_n F dX11_middle_170 rfl 7 rfl ?_
  refine a_getR F (j := 4) tM_0 rfl rfl (by decide) inW11 w_539 dX11_middle_171 ?_
  refine a_iload_n F dX11_middle_174 rfl 5 rfl ?_
  refine a_iald F tM_2 rfl (by decide) hf dX11_middle_175 (fun hf => ?_)
  refine a_isub F dX11_middle_176 ?_
  refine a_i2l F hf dX11_middle_177 (fun hf => ?_)
  refine a_lmul F dX11_middle_178 ?_
  refine a_lload F dX11_middle_179 2 rfl ?_
  refine a_aload_n F dX11_middle_181 rfl 7 rfl ?_
  refine a_getR F (j := 4) tM_0 rfl rfl (by decide) inW11 w_539 dX11_middle_182 ?_
  refine a_iload_n F dX11_middle_185 rfl 6 rfl ?_
  refine a_iald F tM_2 rfl (by decide) hf dX11_middle_186 (fun hf => ?_)
  refine a_aload_n F dX11_middle_187 rfl 7 rfl ?_
  refine a_getR F (j := 4) tM_0 rfl rfl (by decide) inW11 w_539 dX11_middle_188 ?_
  refine a_iload F dX11_middle_191 4 rfl ?_
  refine a_iald F tM_2 rfl (by decide) hf dX11_middle_193 (fun hf => ?_)
  refine a_isub F dX11_middle_194 ?_
  refine a_i2l F hf dX11_middle_195 (fun hf => ?_)
  refine a_lmul F dX11_middle_196 ?_
  refine a_ladd F dX11_middle_197 ?_
  refine a_lload F dX11_middle_198 1 rfl ?_
  refine a_aload_n F dX11_middle_200 rfl 7 rfl ?_
  refine a_getR F (j := 4) tM_0 rfl rfl (by decide) inW11 w_539 dX11_middle_201 ?_
  refine a_iload_n F dX11_middle_204 rfl 5 rfl ?_
  refine a_iald F tM_2 rfl (by decide) hf dX11_middle_205 (fun hf => ?_)
  refine a_aload_n F dX11_middle_206 rfl 7 rfl ?_
  refine a_getR F (j := 4) tM_0 rfl rfl (by decide) inW11 w_539 dX11_middle_207 ?_
  refine a_iload_n F dX11_middle_210 rfl 6 rfl ?_
  refine a_iald F tM_2 rfl (by decide) hf dX11_middle_211 (fun hf => ?_)
  refine a_isub F dX11_middle_212 ?_
  refine a_i2l F hf dX11_middle_213 (fun hf => ?_)
  refine a_lmul F dX11_middle_214 ?_
  refine a_ladd F dX11_middle_215 ?_
  refine a_putJ F (j := 35) tM_0 rfl rfl (by decide) inW11 w_643 tyX11 tyX11_ok nmX11 rfl rfl hf dX11_middle_216 (fun σ_14 hf => ?_)
  refine a_aload_n F dX11_middle_219 rfl 7 rfl ?_
  refine a_getJ F (j := 36) tM_0 rfl rfl (by decide) inW11 w_645 dX11_middle_220 ?_
  refine a_lconst F (n := 0) dX11_middle_223 (by decide +kernel) ?_
  refine a_lcmp_ge F hf (tgt := 255) dX11_middle_224 dX11_middle_225 (by decide) (fun hf => ?_) (fun hf => ?_)
  · refine a_aload_n F dX11_middle_228 rfl 7 rfl ?_
    refine a_aload_n F dX11_middle_229 rfl 7 rfl ?_
    refine a_getJ F (j := 36) tM_0 rfl rfl (by decide) inW11 w_645 dX11_middle_230 ?_
    refine a_lneg F dX11_middle_233 ?_
    refine a_putJ F (j := 36) tM_0 rfl rfl (by decide) inW11 w_645 tyX11 tyX11_ok nmX11 rfl rfl hf dX11_middle_234 (fun σ_20 hf => ?_)
    refine a_aload_n F dX11_middle_237 rfl 7 rfl ?_
    refine a_aload_n F dX11_middle_238 rfl 7 rfl ?_
    refine a_getJ F (j := 34) tM_0 rfl rfl (by decide) inW11 w_641 dX11_middle_239 ?_
    refine a_lneg F dX11_middle_242 ?_
    refine a_putJ F (j := 34) tM_0 rfl rfl (by decide) inW11 w_641 tyX11 tyX11_ok nmX11 rfl rfl hf dX11_middle_243 (fun σ_21 hf => ?_)
    refine a_aload_n F dX11_middle_246 rfl 7 rfl ?_
    refine a_aload_n F dX11_middle_247 rfl 7 rfl ?_
    refine a_getJ F (j := 35) tM_0 rfl rfl (by decide) inW11 w_643 dX11_middle_248 ?_
    refine a_lneg F dX11_middle_251 ?_
    refine a_putJ F (j := 35) tM_0 rfl rfl (by decide) inW11 w_643 tyX11 tyX11_ok nmX11 rfl rfl hf dX11_middle_252 (fun σ_22 hf => ?_)
    exact a_sub [7, 6, 5, 4, 0] rfl (k_X11_middle_b255 F hf hr)
  · exact a_sub [7, 6, 5, 4, 0] rfl (k_X11_middle_b255 F hf hr)
set_option maxRecDepth 100000 in
set_option maxHeartbeats 4000000 in
theorem c_X11_middle {l : Launch}  {σ : St} {x1 : Int} : CtrV vwCl WS NWs TM l yX11_middle cX11_middle 13 none rm_X11_middle (fun ad => [.ref (ad 0), iv x1]) σ (f_X11_middle σ x1) := by
  refine ctrV_of (by decide +kernel) (fun ad => Nat.le_of_ble_eq_true rfl) (fun σ' ad X hf F K => ?_)
  exact k_X11_middle_b0 F hf K
abbrev rm_X11_largestOf : Room := { frames := 5, cells := 0, slots := 0, locals := 154 }
set_option maxRecDepth 100000 in
set_option maxHeartbeats 4000000 in
theorem k_X11_largestOf_b46 {l : Launch} {ad : Nat → Nat} {X : Cx} (F : Ok vwCl WS NWs TM cX11_largestOf 3 yX11_largestOf.cls none ad l X) {σ : St} {x1 t1 t2 : Int} {y : ((St × Int) ⊕ St)} (hf : f_X11_largestOf_b46 σ x1 t1 t2 = some y) (hn : ∀ τ z1, y = .inl (τ, z1) → At vwCl TM 3 rm_X11_largestOf ad X τ [(0, .ref (ad 0)), (1, iv z1)] [] 7) : At vwCl TM 3 rm_X11_largestOf ad X σ [(0, .ref (ad 0)), (1, iv x1)] [jv t2, jv t1, .ref (ad 0)] 46 := by
  unfold f_X11_largestOf_b46 at hf
  refine a_lconst F (n := 1) dX11_largestOf_46 (by decide +kernel) ?_
  refine a_callVV F lk_RX11_322 tM_0 rfl c_X11_tries rfl rfl ⟨rfl, rfl⟩ ⟨Nat.le_of_ble_eq_true rfl, Nat.le_of_ble_eq_true rfl⟩ rfl (Nat.le_of_ble_eq_true rfl) dX11_largestOf_47 hf (fun σ_3 hf => ?_)
  refine a_iinc F hf dX11_largestOf_50 1 rfl (by decide) (fun x1_4 hf => ⟨[(1, iv x1_4), (0, .ref (ad 0))], rfl, ?_⟩)
  refine a_goto F (tgt := 7) dX11_largestOf_53 (by decide) ?_
  cases hf
  exact a_sub [1, 0] rfl (hn _ _ rfl)
set_option maxRecDepth 100000 in
set_option maxHeartbeats 4000000 in
theorem k_X11_largestOf_b32 {l : Launch} {ad : Nat → Nat} {X : Cx} (F : Ok vwCl WS NWs TM cX11_largestOf 3 yX11_largestOf.cls none ad l X) {σ : St} {x1 t1 : Int} {y : ((St × Int) ⊕ St)} (hf : f_X11_largestOf_b32 σ x1 t1 = some y) (hn : ∀ τ z1, y = .inl (τ, z1) → At vwCl TM 3 rm_X11_largestOf ad X τ [(0, .ref (ad 0)), (1, iv z1)] [] 7) : At vwCl TM 3 rm_X11_largestOf ad X σ [(0, .ref (ad 0)), (1, iv x1)] [jv t1, .ref (ad 0)] 32 := by
  unfold f_X11_largestOf_b32 at hf
  refine a_iload_n F dX11_largestOf_32 rfl 1 rfl ?_
  refine a_iconst F dX11_largestOf_33 ?_
  refine a_icmp_le F hf (tgt := 45) dX11_largestOf_34 (by decide) (fun hf => ?_) (fun hf => ?_)
  · refine a_aload_n F dX11_largestOf_37 rfl 0 rfl ?_
    refine a_getI F (j := 1) tM_0 rfl rfl (by decide) inW11 w_560 dX11_largestOf_38 ?_
    refine a_i2l F hf dX11_largestOf_41 (fun hf => ?_)
    refine a_goto F (tgt := 46) dX11_largestOf_42 (by decide) ?_
    exact a_sub [0, 1] rfl (k_X11_largestOf_b46 F hf hn)
  · refine a_lconst F (n := 0) dX11_largestOf_45 (by decide +kernel) ?_
    exact a_sub [0, 1] rfl (k_X11_largestOf_b46 F hf hn)
set_option maxRecDepth 100000 in
set_option maxHeartbeats 4000000 in
theorem k_X11_largestOf_b23 {l : Launch} {ad : Nat → Nat} {X : Cx} (F : Ok vwCl WS NWs TM cX11_largestOf 3 yX11_largestOf.cls none ad l X) {σ : St} {x1 : Int} {y : ((St × Int) ⊕ St)} (hf : f_X11_largestOf_b23 σ x1 = some y) (hn : ∀ τ z1, y = .inl (τ, z1) → At vwCl TM 3 rm_X11_largestOf ad X τ [(0, .ref (ad 0)), (1, iv z1)] [] 7) : At vwCl TM 3 rm_X11_largestOf ad X σ [(0, .ref (ad 0)), (1, iv x1)] [.ref (ad 0)] 23 := by
  unfold f_X11_largestOf_b23 at hf
  refine a_aload_n F dX11_largestOf_23 rfl 0 rfl ?_
  refine a_getI F (j := 0) tM_0 rfl rfl (by decide) inW11 w_559 dX11_largestOf_24 ?_
  refine a_i2l F hf dX11_largestOf_27 (fun hf => ?_)
  refine a_goto F (tgt := 32) dX11_largestOf_28 (by decide) ?_
  exact a_sub [0, 1] rfl (k_X11_largestOf_b32 F hf hn)
set_option maxRecDepth 100000 in
set_option maxHeartbeats 4000000 in
theorem k_X11_largestOf_b7 {l : Launch} {ad : Nat → Nat} {X : Cx} (F : Ok vwCl WS NWs TM cX11_largestOf 3 yX11_largestOf.cls none ad l X) {σ : St} {x1 : Int} {y : ((St × Int) ⊕ St)} (hf : f_X11_largestOf_b7 σ x1 = some y) (hn : ∀ τ z1, y = .inl (τ, z1) → At vwCl TM 3 rm_X11_largestOf ad X τ [(0, .ref (ad 0)), (1, iv z1)] [] 7) (hx0 : ∀ τ, y = .inr (τ) → At vwCl TM 3 rm_X11_largestOf ad X τ [(0, .ref (ad 0))] [] 56) : At vwCl TM 3 rm_X11_largestOf ad X σ [(0, .ref (ad 0)), (1, iv x1)] [] 7 := by
  unfold f_X11_largestOf_b7 at hf
  refine a_iload_n F dX11_largestOf_7 rfl 1 rfl ?_
  refine a_iconst F dX11_largestOf_8 ?_
  refine a_icmp_ge F hf (tgt := 56) dX11_largestOf_9 (by decide) (fun hf => ?_) (fun hf => ?_)
  · refine a_aload_n F dX11_largestOf_12 rfl 0 rfl ?_
    refine a_iload_n F dX11_largestOf_13 rfl 1 rfl ?_
    refine a_iconst F dX11_largestOf_14 ?_
    refine a_icmp_eq F hf (tgt := 23) dX11_largestOf_15 (by decide) (fun hf => ?_) (fun hf => ?_)
    · exact a_sub [0, 1] rfl (k_X11_largestOf_b23 F hf hn)
    · refine a_iload_n F dX11_largestOf_18 rfl 1 rfl ?_
      refine a_iconst F dX11_largestOf_19 ?_
      refine a_icmp_ne F hf (tgt := 31) dX11_largestOf_20 (by decide) (fun hf => ?_) (fun hf => ?_)
      · exact a_sub [0, 1] rfl (k_X11_largestOf_b23 F hf hn)
      · refine a_lconst F (n := 0) dX11_largestOf_31 (by decide +kernel) ?_
        exact a_sub [0, 1] rfl (k_X11_largestOf_b32 F hf hn)
  · cases hf
    exact a_sub [0] rfl (hx0 _ rfl)
set_option maxRecDepth 100000 in
set_option maxHeartbeats 4000000 in
theorem k_X11_largestOf_b68 {l : Launch} {ad : Nat → Nat} {X : Cx} (F : Ok vwCl WS NWs TM cX11_largestOf 3 yX11_largestOf.cls none ad l X) {σ : St} {x1 x2 : Int} {y : ((St × Int) ⊕ St)} (hf : f_X11_largestOf_b68 σ x1 x2 = some y) (hn : ∀ τ z2, y = .inl (τ, z2) → At vwCl TM 3 rm_X11_largestOf ad X τ [(0, .ref (ad 0)), (1, iv x1), (2, iv z2)] [] 68) (hx0 : ∀ τ, y = .inr (τ) → At vwCl TM 3 rm_X11_largestOf ad X τ [(0, .ref (ad 0)), (1, iv x1)] [] 102) : At vwCl TM 3 rm_X11_largestOf ad X σ [(0, .ref (ad 0)), (1, iv x1), (2, iv x2)] [] 68 := by
  unfold f_X11_largestOf_b68 at hf
  refine a_iload_n F dX11_largestOf_68 rfl 2 rfl ?_
  refine a_bipush F dX11_largestOf_69 (by decide +kernel) ?_
  refine a_icmp_ge F hf (tgt := 102) dX11_largestOf_71 (by decide) (fun hf => ?_) (fun hf => ?_)
  · refine a_aload_n F dX11_largestOf_74 rfl 0 rfl ?_
    refine a_iload_n F dX11_largestOf_75 rfl 1 rfl ?_
    refine a_callVIr F lk_RX11_148 tM_0 rfl c_X11_counts rfl rfl ⟨rfl, rfl⟩ ⟨Nat.le_of_ble_eq_true rfl, Nat.le_of_ble_eq_true rfl⟩ rfl (Nat.le_of_ble_eq_true rfl) dX11_largestOf_76 hf (fun r_8 hf => ?_)
    refine a_if_eq F hf (tgt := 96) dX11_largestOf_79 (by decide) (fun hf => ?_) (fun hf => ?_)
    · refine a_iinc F hf dX11_largestOf_96 2 rfl (by decide) (fun x2_9 hf => ⟨[(2, iv x2_9), (0, .ref (ad 0)), (1, iv x1)], rfl, ?_⟩)
      refine a_goto F (tgt := 68) dX11_largestOf_99 (by decide) ?_
      cases hf
      exact a_sub [1, 2, 0] rfl (hn _ _ rfl)
    · refine a_aload_n F dX11_largestOf_82 rfl 0 rfl ?_
      refine a_iload_n F dX11_largestOf_83 rfl 2 rfl ?_
      refine a_callVIr F lk_RX11_148 tM_0 rfl c_X11_counts rfl rfl ⟨rfl, rfl⟩ ⟨Nat.le_of_ble_eq_true rfl, Nat.le_of_ble_eq_true rfl⟩ rfl (Nat.le_of_ble_eq_true rfl) dX11_largestOf_84 hf (fun r_10 hf => ?_)
      refine a_if_eq F hf (tgt := 96) dX11_largestOf_87 (by decide) (fun hf => ?_) (fun hf => ?_)
      · refine a_iinc F hf dX11_largestOf_96 2 rfl (by decide) (fun x2_11 hf => ⟨[(2, iv x2_11), (0, .ref (ad 0)), (1, iv x1)], rfl, ?_⟩)
        refine a_goto F (tgt := 68) dX11_largestOf_99 (by decide) ?_
        cases hf
        exact a_sub [1, 2, 0] rfl (hn _ _ rfl)
      · refine a_aload_n F dX11_largestOf_90 rfl 0 rfl ?_
        refine a_iload_n F dX11_largestOf_91 rfl 1 rfl ?_
        refine a_iload_n F dX11_largestOf_92 rfl 2 rfl ?_
        refine a_callVV F lk_RX11_325 tM_0 rfl c_X11_triesSides rfl rfl ⟨rfl, rfl⟩ ⟨Nat.le_of_ble_eq_true rfl, Nat.le_of_ble_eq_true rfl⟩ rfl (Nat.le_of_ble_eq_true rfl) dX11_largestOf_93 hf (fun σ_12 hf => ?_)
        refine a_iinc F hf dX11_largestOf_96 2 rfl (by decide) (fun x2_13 hf => ⟨[(2, iv x2_13), (0, .ref (ad 0)), (1, iv x1)], rfl, ?_⟩)
        refine a_goto F (tgt := 68) dX11_largestOf_99 (by decide) ?_
        cases hf
        exact a_sub [1, 2, 0] rfl (hn _ _ rfl)
  · cases hf
    exact a_sub [0, 1] rfl (hx0 _ rfl)
set_option maxRecDepth 100000 in
set_option maxHeartbeats 4000000 in
theorem k_X11_largestOf_b58 {l : Launch} {ad : Nat → Nat} {X : Cx} (F : Ok vwCl WS NWs TM cX11_largestOf 3 yX11_largestOf.cls none ad l X) {σ : St} {x1 : Int} {y : ((St × Int) ⊕ St)} (hf : f_X11_largestOf_b58 σ x1 = some y) (hn : ∀ τ z1, y = .inl (τ, z1) → At vwCl TM 3 rm_X11_largestOf ad X τ [(0, .ref (ad 0)), (1, iv z1)] [] 58) (hx0 : ∀ τ, y = .inr (τ) → At vwCl TM 3 rm_X11_largestOf ad X τ [(0, .ref (ad 0))] [] 108) : At vwCl TM 3 rm_X11_largestOf ad X σ [(0, .ref (ad 0)), (1, iv x1)] [] 58 := by
  unfold f_X11_largestOf_b58 at hf
  refine a_iload_n F dX11_largestOf_58 rfl 1 rfl ?_
  refine a_bipush F dX11_largestOf_59 (by decide +kernel) ?_
  refine a_icmp_ge F hf (tgt := 108) dX11_largestOf_61 (by decide) (fun hf => ?_) (fun hf => ?_)
  · refine a_iload_n F dX11_largestOf_64 rfl 1 rfl ?_
    refine a_iconst F dX11_largestOf_65 ?_
    refine a_iadd F dX11_largestOf_66 ?_
    refine a_topI hf (fun x2_7 hf => ?_)
    refine a_istore_n F (lv' := [(2, iv x2_7), (0, .ref (ad 0)), (1, iv x1)]) dX11_largestOf_67 rfl (by decide) rfl ?_
    obtain ⟨q0, he, hf⟩ := jbind_elim hf
    refine a_sub [1, 2, 0] rfl (loop_rule (P := (fun q => ∀ τ z2, (τ, z2) = q → At vwCl TM 3 rm_X11_largestOf ad X τ [(0, .ref (ad 0)), (1, iv x1), (2, iv z2)] [] 68)) (K := (fun q => (∀ τ, τ = q → At vwCl TM 3 rm_X11_largestOf ad X τ [(0, .ref (ad 0)), (1, iv x1)] [] 102))) ?_ 1000 _ _ he ?_ _ _ rfl)
    · intro q y hy hn hx τ z2 e
      subst e
      exact k_X11_largestOf_b68 F hy (fun τ z2 e => hn _ e _ _ rfl) (fun τ e => (hx _ e) _ rfl)
    · intro σ_14 e
      subst e
      refine a_iinc F hf dX11_largestOf_102 1 rfl (by decide) (fun x1_15 hf => ⟨[(1, iv x1_15), (0, .ref (ad 0))], rfl, ?_⟩)
      refine a_goto F (tgt := 58) dX11_largestOf_105 (by decide) ?_
      cases hf
      exact a_sub [1, 0] rfl (hn _ _ rfl)
  · cases hf
    exact a_sub [0] rfl (hx0 _ rfl)
set_option maxRecDepth 100000 in
set_option maxHeartbeats 4000000 in
theorem k_X11_largestOf_b114 {l : Launch} {ad : Nat → Nat} {X : Cx} (F : Ok vwCl WS NWs TM cX11_largestOf 3 yX11_largestOf.cls none ad l X) {σ : St} {x1 : Int} {y : ((St × Int) ⊕ St)} (hf : f_X11_largestOf_b114 σ x1 = some y) (hn : ∀ τ z1, y = .inl (τ, z1) → At vwCl TM 3 rm_X11_largestOf ad X τ [(0, .ref (ad 0)), (1, iv z1)] [] 114) (hx0 : ∀ τ, y = .inr (τ) → At vwCl TM 3 rm_X11_largestOf ad X τ [] [] 191) : At vwCl TM 3 rm_X11_largestOf ad X σ [(0, .ref (ad 0)), (1, iv x1)] [] 114 := by
  unfold f_X11_largestOf_b114 at hf
  refine a_iload_n F dX11_largestOf_114 rfl 1 rfl ?_
  refine a_aload_n F dX11_largestOf_115 rfl 0 rfl ?_
  refine a_getI F (j := 29) tM_0 rfl rfl (by decide) inW11 w_711 dX11_largestOf_116 ?_
  refine a_icmp_ge F hf (tgt := 191) dX11_largestOf_119 (by decide) (fun hf => ?_) (fun hf => ?_)
  · refine a_aload_n F dX11_largestOf_122 rfl 0 rfl ?_
    refine a_iload_n F dX11_largestOf_123 rfl 1 rfl ?_
    refine a_callVV F lk_RX11_287 tM_0 rfl c_X11_middle rfl rfl ⟨rfl, rfl⟩ ⟨Nat.le_of_ble_eq_true rfl, Nat.le_of_ble_eq_true rfl⟩ rfl (Nat.le_of_ble_eq_true rfl) dX11_largestOf_124 hf (fun σ_19 hf => ?_)
    refine a_aload_n F dX11_largestOf_127 rfl 0 rfl ?_
    refine a_getJ F (j := 34) tM_0 rfl rfl (by decide) inW11 w_641 dX11_largestOf_128 ?_
    refine a_lconst F (n := 0) dX11_largestOf_131 (by decide +kernel) ?_
    refine a_lcmp_lt F hf (tgt := 185) dX11_largestOf_132 dX11_largestOf_133 (by decide) (fun hf => ?_) (fun hf => ?_)
    · refine a_iinc F hf dX11_largestOf_185 1 rfl (by decide) (fun x1_20 hf => ⟨[(1, iv x1_20), (0, .ref (ad 0))], rfl, ?_⟩)
      refine a_goto F (tgt := 114) dX11_largestOf_188 (by decide) ?_
      cases hf
      exact a_sub [1, 0] rfl (hn _ _ rfl)
    · refine a_aload_n F dX11_largestOf_136 rfl 0 rfl ?_
      refine a_getJ F (j := 34) tM_0 rfl rfl (by decide) inW11 w_641 dX11_largestOf_137 ?_
      refine a_aload_n F dX11_largestOf_140 rfl 0 rfl ?_
      refine a_getI F (j := 0) tM_0 rfl rfl (by decide) inW11 w_559 dX11_largestOf_141 ?_
      refine a_i2l F hf dX11_largestOf_144 (fun hf => ?_)
      refine a_aload_n F dX11_largestOf_145 rfl 0 rfl ?_
      refine a_getJ F (j := 36) tM_0 rfl rfl (by decide) inW11 w_645 dX11_largestOf_146 ?_
      refine a_lmul F dX11_largestOf_149 ?_
      refine a_lcmp_gt F hf (tgt := 185) dX11_largestOf_150 dX11_largestOf_151 (by decide) (fun hf => ?_) (fun hf => ?_)
      · refine a_iinc F hf dX11_largestOf_185 1 rfl (by decide) (fun x1_21 hf => ⟨[(1, iv x1_21), (0, .ref (ad 0))], rfl, ?_⟩)
        refine a_goto F (tgt := 114) dX11_largestOf_188 (by decide) ?_
        cases hf
        exact a_sub [1, 0] rfl (hn _ _ rfl)
      · refine a_aload_n F dX11_largestOf_154 rfl 0 rfl ?_
        refine a_getJ F (j := 35) tM_0 rfl rfl (by decide) inW11 w_643 dX11_largestOf_155 ?_
        refine a_lconst F (n := 0) dX11_largestOf_158 (by decide +kernel) ?_
        refine a_lcmp_lt F hf (tgt := 185) dX11_largestOf_159 dX11_largestOf_160 (by decide) (fun hf => ?_) (fun hf => ?_)
        · refine a_iinc F hf dX11_largestOf_185 1 rfl (by decide) (fun x1_22 hf => ⟨[(1, iv x1_22), (0, .ref (ad 0))], rfl, ?_⟩)
          refine a_goto F (tgt := 114) dX11_largestOf_188 (by decide) ?_
          cases hf
          exact a_sub [1, 0] rfl (hn _ _ rfl)
        · refine a_aload_n F dX11_largestOf_163 rfl 0 rfl ?_
          refine a_getJ F (j := 35) tM_0 rfl rfl (by decide) inW11 w_643 dX11_largestOf_164 ?_
          refine a_aload_n F dX11_largestOf_167 rfl 0 rfl ?_
          refine a_getI F (j := 1) tM_0 rfl rfl (by decide) inW11 w_560 dX11_largestOf_168 ?_
          refine a_i2l F hf dX11_largestOf_171 (fun hf => ?_)
          refine a_aload_n F dX11_largestOf_172 rfl 0 rfl ?_
          refine a_getJ F (j := 36) tM_0 rfl rfl (by decide) inW11 w_645 dX11_largestOf_173 ?_
          refine a_lmul F dX11_largestOf_176 ?_
          refine a_lcmp_gt F hf (tgt := 185) dX11_largestOf_177 dX11_largestOf_178 (by decide) (fun hf => ?_) (fun hf => ?_)
          · refine a_iinc F hf dX11_largestOf_185 1 rfl (by decide) (fun x1_23 hf => ⟨[(1, iv x1_23), (0, .ref (ad 0))], rfl, ?_⟩)
            refine a_goto F (tgt := 114) dX11_largestOf_188 (by decide) ?_
            cases hf
            exact a_sub [1, 0] rfl (hn _ _ rfl)
          · refine a_aload_n F dX11_largestOf_181 rfl 0 rfl ?_
            refine a_callVV F lk_RX11_315 tM_0 rfl c_X11_better rfl rfl ⟨rfl, rfl⟩ ⟨Nat.le_of_ble_eq_true rfl, Nat.le_of_ble_eq_true rfl⟩ rfl (Nat.le_of_ble_eq_true rfl) dX11_largestOf_182 hf (fun σ_24 hf => ?_)
            refine a_iinc F hf dX11_largestOf_185 1 rfl (by decide) (fun x1_25 hf => ⟨[(1, iv x1_25), (0, .ref (ad 0))], rfl, ?_⟩)
            refine a_goto F (tgt := 114) dX11_largestOf_188 (by decide) ?_
            cases hf
            exact a_sub [1, 0] rfl (hn _ _ rfl)
  · cases hf
    exact a_sub [] rfl (hx0 _ rfl)
set_option maxRecDepth 100000 in
set_option maxHeartbeats 4000000 in
theorem k_X11_largestOf_b0 {l : Launch} {ad : Nat → Nat} {X : Cx} (F : Ok vwCl WS NWs TM cX11_largestOf 3 yX11_largestOf.cls none ad l X) {σ : St} {y : St} (hf : f_X11_largestOf_b0 σ = some y) (hr : RetV vwCl TM cX11_largestOf 3 rm_X11_largestOf ad X y) : At vwCl TM 3 rm_X11_largestOf ad X σ [(0, .ref (ad 0))] [] 0 := by
  unfold f_X11_largestOf_b0 at hf
  refine a_aload_n F dX11_largestOf_0 rfl 0 rfl ?_
  refine a_iconst F dX11_largestOf_1 ?_
  refine a_putZ F (j := 39) tM_0 rfl rfl (by decide) inW11 w_640 tyX11 tyX11_ok nmX11 rfl rfl hf dX11_largestOf_2 (fun σ_1 hf => ?_)
  refine a_iconst F dX11_largestOf_5 ?_
  refine a_topI hf (fun x1_2 hf => ?_)
  refine a_istore_n F (lv' := [(1, iv x1_2), (0, .ref (ad 0))]) dX11_largestOf_6 rfl (by decide) rfl ?_
  obtain ⟨q0, he, hf⟩ := jbind_elim hf
  refine a_sub [1, 0] rfl (loop_rule (P := (fun q => ∀ τ z1, (τ, z1) = q → At vwCl TM 3 rm_X11_largestOf ad X τ [(0, .ref (ad 0)), (1, iv z1)] [] 7)) (K := (fun q => (∀ τ, τ = q → At vwCl TM 3 rm_X11_largestOf ad X τ [(0, .ref (ad 0))] [] 56))) ?_ 1000 _ _ he ?_ _ _ rfl)
  · intro q y hy hn hx τ z1 e
    subst e
    exact k_X11_largestOf_b7 F hy (fun τ z1 e => hn _ e _ _ rfl) (fun τ e => (hx _ e) _ rfl)
  · intro σ_5 e
    subst e
    refine a_iconst F dX11_largestOf_56 ?_
    refine a_topI hf (fun x1_6 hf => ?_)
    refine a_istore_n F (lv' := [(1, iv x1_6), (0, .ref (ad 0))]) dX11_largestOf_57 rfl (by decide) rfl ?_
    obtain ⟨q0, he, hf⟩ := jbind_elim hf
    refine a_sub [1, 0] rfl (loop_rule (P := (fun q => ∀ τ z1, (τ, z1) = q → At vwCl TM 3 rm_X11_largestOf ad X τ [(0, .ref (ad 0)), (1, iv z1)] [] 58)) (K := (fun q => (∀ τ, τ = q → At vwCl TM 3 rm_X11_largestOf ad X τ [(0, .ref (ad 0))] [] 108))) ?_ 1000 _ _ he ?_ _ _ rfl)
    · intro q y hy hn hx τ z1 e
      subst e
      exact k_X11_largestOf_b58 F hy (fun τ z1 e => hn _ e _ _ rfl) (fun τ e => (hx _ e) _ rfl)
    · intro σ_16 e
      subst e
      refine a_aload_n F dX11_largestOf_108 rfl 0 rfl ?_
      refine a_callVV F lk_RX11_263 tM_0 rfl c_X11_ringsOf rfl rfl ⟨rfl, rfl⟩ ⟨Nat.le_of_ble_eq_true rfl, Nat.le_of_ble_eq_true rfl⟩ rfl (Nat.le_of_ble_eq_true rfl) dX11_largestOf_109 hf (fun σ_17 hf => ?_)
      refine a_iconst F dX11_largestOf_112 ?_
      refine a_topI hf (fun x1_18 hf => ?_)
      refine a_istore_n F (lv' := [(1, iv x1_18), (0, .ref (ad 0))]) dX11_largestOf_113 rfl (by decide) rfl ?_
      obtain ⟨q0, he, hf⟩ := jbind_elim hf
      refine a_sub [1, 0] rfl (loop_rule (P := (fun q => ∀ τ z1, (τ, z1) = q → At vwCl TM 3 rm_X11_largestOf ad X τ [(0, .ref (ad 0)), (1, iv z1)] [] 114)) (K := (fun q => (∀ τ, τ = q → At vwCl TM 3 rm_X11_largestOf ad X τ [] [] 191))) ?_ 1000 _ _ he ?_ _ _ rfl)
      · intro q y hy hn hx τ z1 e
        subst e
        exact k_X11_largestOf_b114 F hy (fun τ z1 e => hn _ e _ _ rfl) (fun τ e => (hx _ e) _ rfl)
      · intro σ_26 e
        subst e
        cases hf
        exact hr _ _ dX11_largestOf_191
set_option maxRecDepth 100000 in
set_option maxHeartbeats 4000000 in
theorem c_X11_largestOf {l : Launch}  {σ : St} : CtrV vwCl WS NWs TM l yX11_largestOf cX11_largestOf 3 none rm_X11_largestOf (fun ad => [.ref (ad 0)]) σ (f_X11_largestOf σ) := by
  refine ctrV_of (by decide +kernel) (fun ad => Nat.le_of_ble_eq_true rfl) (fun σ' ad X hf F K => ?_)
  exact k_X11_largestOf_b0 F hf K
abbrev rm_X11_middleTold : Room := { frames := 2, cells := 0, slots := 0, locals := 55 }
set_option maxRecDepth 100000 in
set_option maxHeartbeats 4000000 in
theorem k_X11_middleTold_b57 {l : Launch} {ad : Nat → Nat} {X : Cx} (F : Ok vwCl WS NWs TM cX11_middleTold 2 yX11_middleTold.cls (some .long) ad l X) {σ : St} {t0 t1 t2 : Int} {y : Int} (hf : f_X11_middleTold_b57 σ t0 t1 t2 = some y) (hr : RetL vwCl TM cX11_middleTold 2 rm_X11_middleTold ad X y σ) : At vwCl TM 2 rm_X11_middleTold ad X σ [] [iv t2, jv t1, jv t0] 57 := by
  unfold f_X11_middleTold_b57 at hf
  refine a_callSLr F lk_RX11_233 c_X11_lowest rfl rfl ⟨rfl, rfl⟩ ⟨Nat.le_of_ble_eq_true rfl, Nat.le_of_ble_eq_true rfl⟩ rfl (Nat.le_of_ble_eq_true rfl) dX11_middleTold_57 hf (fun r_1 hf => ?_)
  cases hf
  exact hr _ _ dX11_middleTold_60
set_option maxRecDepth 100000 in
set_option maxHeartbeats 4000000 in
theorem k_X11_middleTold_b79 {l : Launch} {ad : Nat → Nat} {X : Cx} (F : Ok vwCl WS NWs TM cX11_middleTold 2 yX11_middleTold.cls (some .long) ad l X) {σ : St} {t0 t1 t2 : Int} {y : Int} (hf : f_X11_middleTold_b79 σ t0 t1 t2 = some y) (hr : RetL vwCl TM cX11_middleTold 2 rm_X11_middleTold ad X y σ) : At vwCl TM 2 rm_X11_middleTold ad X σ [] [iv t2, jv t1, jv t0] 79 := by
  unfold f_X11_middleTold_b79 at hf
  refine a_callSLr F lk_RX11_233 c_X11_lowest rfl rfl ⟨rfl, rfl⟩ ⟨Nat.le_of_ble_eq_true rfl, Nat.le_of_ble_eq_true rfl⟩ rfl (Nat.le_of_ble_eq_true rfl) dX11_middleTold_79 hf (fun r_2 hf => ?_)
  cases hf
  exact hr _ _ dX11_middleTold_82
set_option maxRecDepth 100000 in
set_option maxHeartbeats 4000000 in
theorem k_X11_middleTold_b101 {l : Launch} {ad : Nat → Nat} {X : Cx} (F : Ok vwCl WS NWs TM cX11_middleTold 2 yX11_middleTold.cls (some .long) ad l X) {σ : St} {t0 t1 t2 : Int} {y : Int} (hf : f_X11_middleTold_b101 σ t0 t1 t2 = some y) (hr : RetL vwCl TM cX11_middleTold 2 rm_X11_middleTold ad X y σ) : At vwCl TM 2 rm_X11_middleTold ad X σ [] [iv t2, jv t1, jv t0] 101 := by
  unfold f_X11_middleTold_b101 at hf
  refine a_callSLr F lk_RX11_233 c_X11_lowest rfl rfl ⟨rfl, rfl⟩ ⟨Nat.le_of_ble_eq_true rfl, Nat.le_of_ble_eq_true rfl⟩ rfl (Nat.le_of_ble_eq_true rfl) dX11_middleTold_101 hf (fun r_3 hf => ?_)
  cases hf
  exact hr _ _ dX11_middleTold_104
set_option maxRecDepth 100000 in
set_option maxHeartbeats 4000000 in
theorem k_X11_middleTold_b0 {l : Launch} {ad : Nat → Nat} {X : Cx} (F : Ok vwCl WS NWs TM cX11_middleTold 2 yX11_middleTold.cls (some .long) ad l X) {σ : St} {x1 : Int} {y : Int} (hf : f_X11_middleTold_b0 σ x1 = some y) (hr : RetL vwCl TM cX11_middleTold 2 rm_X11_middleTold ad X y σ) : At vwCl TM 2 rm_X11_middleTold ad X σ [(0, .ref (ad 0)), (1, iv x1)] [] 0 := by
  unfold f_X11_middleTold_b0 at hf
  refine a_iload_n F dX11_middleTold_0 rfl 1 rfl ?_
  obtain ⟨hg9, hf⟩ := jchk_elim hf
  by_cases hq0 : x1 = 0
  · rw [if_pos hq0] at hf
    refine a_tableIn F (tgt := 40) hg9 dX11_middleTold_1 (by omega) (by omega) (by rw [hq0]; rfl) (by decide) ?_
    refine a_aload_n F dX11_middleTold_40 rfl 0 rfl ?_
    refine a_getJ F (j := 34) tM_0 rfl rfl (by decide) inW11 w_641 dX11_middleTold_41 ?_
    refine a_aload_n F dX11_middleTold_44 rfl 0 rfl ?_
    refine a_getJ F (j := 36) tM_0 rfl rfl (by decide) inW11 w_645 dX11_middleTold_45 ?_
    refine a_iload_n F dX11_middleTold_48 rfl 1 rfl ?_
    refine a_if_ne F hf (tgt := 56) dX11_middleTold_49 (by decide) (fun hf => ?_) (fun hf => ?_)
    · refine a_iconst F dX11_middleTold_52 ?_
      refine a_goto F (tgt := 57) dX11_middleTold_53 (by decide) ?_
      exact a_sub [] rfl (k_X11_middleTold_b57 F hf hr)
    · refine a_iconst F dX11_middleTold_56 ?_
      exact a_sub [] rfl (k_X11_middleTold_b57 F hf hr)
  · rw [if_neg hq0] at hf
    by_cases hq1 : x1 = 1
    · rw [if_pos hq1] at hf
      refine a_tableIn F (tgt := 40) hg9 dX11_middleTold_1 (by omega) (by omega) (by rw [hq1]; rfl) (by decide) ?_
      refine a_aload_n F dX11_middleTold_40 rfl 0 rfl ?_
      refine a_getJ F (j := 34) tM_0 rfl rfl (by decide) inW11 w_641 dX11_middleTold_41 ?_
      refine a_aload_n F dX11_middleTold_44 rfl 0 rfl ?_
      refine a_getJ F (j := 36) tM_0 rfl rfl (by decide) inW11 w_645 dX11_middleTold_45 ?_
      refine a_iload_n F dX11_middleTold_48 rfl 1 rfl ?_
      refine a_if_ne F hf (tgt := 56) dX11_middleTold_49 (by decide) (fun hf => ?_) (fun hf => ?_)
      · refine a_iconst F dX11_middleTold_52 ?_
        refine a_goto F (tgt := 57) dX11_middleTold_53 (by decide) ?_
        exact a_sub [] rfl (k_X11_middleTold_b57 F hf hr)
      · refine a_iconst F dX11_middleTold_56 ?_
        exact a_sub [] rfl (k_X11_middleTold_b57 F hf hr)
    · rw [if_neg hq1] at hf
      by_cases hq2 : x1 = 2
      · rw [if_pos hq2] at hf
        refine a_tableIn F (tgt := 61) hg9 dX11_middleTold_1 (by omega) (by omega) (by rw [hq2]; rfl) (by decide) ?_
        refine a_aload_n F dX11_middleTold_61 rfl 0 rfl ?_
        refine a_getJ F (j := 35) tM_0 rfl rfl (by decide) inW11 w_643 dX11_middleTold_62 ?_
        refine a_aload_n F dX11_middleTold_65 rfl 0 rfl ?_
        refine a_getJ F (j := 36) tM_0 rfl rfl (by decide) inW11 w_645 dX11_middleTold_66 ?_
        refine a_iload_n F dX11_middleTold_69 rfl 1 rfl ?_
        refine a_iconst F dX11_middleTold_70 ?_
        refine a_icmp_ne F hf (tgt := 78) dX11_middleTold_71 (by decide) (fun hf => ?_) (fun hf => ?_)
        · refine a_iconst F dX11_middleTold_74 ?_
          refine a_goto F (tgt := 79) dX11_middleTold_75 (by decide) ?_
          exact a_sub [] rfl (k_X11_middleTold_b79 F hf hr)
        · refine a_iconst F dX11_middleTold_78 ?_
          exact a_sub [] rfl (k_X11_middleTold_b79 F hf hr)
      · rw [if_neg hq2] at hf
        by_cases hq3 : x1 = 3
        · rw [if_pos hq3] at hf
          refine a_tableIn F (tgt := 61) hg9 dX11_middleTold_1 (by omega) (by omega) (by rw [hq3]; rfl) (by decide) ?_
          refine a_aload_n F dX11_middleTold_61 rfl 0 rfl ?_
          refine a_getJ F (j := 35) tM_0 rfl rfl (by decide) inW11 w_643 dX11_middleTold_62 ?_
          refine a_aload_n F dX11_middleTold_65 rfl 0 rfl ?_
          refine a_getJ F (j := 36) tM_0 rfl rfl (by decide) inW11 w_645 dX11_middleTold_66 ?_
          refine a_iload_n F dX11_middleTold_69 rfl 1 rfl ?_
          refine a_iconst F dX11_middleTold_70 ?_
          refine a_icmp_ne F hf (tgt := 78) dX11_middleTold_71 (by decide) (fun hf => ?_) (fun hf => ?_)
          · refine a_iconst F dX11_middleTold_74 ?_
            refine a_goto F (tgt := 79) dX11_middleTold_75 (by decide) ?_
            exact a_sub [] rfl (k_X11_middleTold_b79 F hf hr)
          · refine a_iconst F dX11_middleTold_78 ?_
            exact a_sub [] rfl (k_X11_middleTold_b79 F hf hr)
        · rw [if_neg hq3] at hf
          by_cases hq4 : x1 = 4
          · rw [if_pos hq4] at hf
            refine a_tableIn F (tgt := 83) hg9 dX11_middleTold_1 (by omega) (by omega) (by rw [hq4]; rfl) (by decide) ?_
            refine a_aload_n F dX11_middleTold_83 rfl 0 rfl ?_
            refine a_getJ F (j := 37) tM_0 rfl rfl (by decide) inW11 w_647 dX11_middleTold_84 ?_
            refine a_aload_n F dX11_middleTold_87 rfl 0 rfl ?_
            refine a_getJ F (j := 38) tM_0 rfl rfl (by decide) inW11 w_649 dX11_middleTold_88 ?_
            refine a_iload_n F dX11_middleTold_91 rfl 1 rfl ?_
            refine a_iconst F dX11_middleTold_92 ?_
            refine a_icmp_ne F hf (tgt := 100) dX11_middleTold_93 (by decide) (fun hf => ?_) (fun hf => ?_)
            · refine a_iconst F dX11_middleTold_96 ?_
              refine a_goto F (tgt := 101) dX11_middleTold_97 (by decide) ?_
              exact a_sub [] rfl (k_X11_middleTold_b101 F hf hr)
            · refine a_iconst F dX11_middleTold_100 ?_
              exact a_sub [] rfl (k_X11_middleTold_b101 F hf hr)
          · rw [if_neg hq4] at hf
            by_cases hq5 : x1 = 5
            · rw [if_pos hq5] at hf
              refine a_tableIn F (tgt := 83) hg9 dX11_middleTold_1 (by omega) (by omega) (by rw [hq5]; rfl) (by decide) ?_
              refine a_aload_n F dX11_middleTold_83 rfl 0 rfl ?_
              refine a_getJ F (j := 37) tM_0 rfl rfl (by decide) inW11 w_647 dX11_middleTold_84 ?_
              refine a_aload_n F dX11_middleTold_87 rfl 0 rfl ?_
              refine a_getJ F (j := 38) tM_0 rfl rfl (by decide) inW11 w_649 dX11_middleTold_88 ?_
              refine a_iload_n F dX11_middleTold_91 rfl 1 rfl ?_
              refine a_iconst F dX11_middleTold_92 ?_
              refine a_icmp_ne F hf (tgt := 100) dX11_middleTold_93 (by decide) (fun hf => ?_) (fun hf => ?_)
              · refine a_iconst F dX11_middleTold_96 ?_
                refine a_goto F (tgt := 101) dX11_middleTold_97 (by decide) ?_
                exact a_sub [] rfl (k_X11_middleTold_b101 F hf hr)
              · refine a_iconst F dX11_middleTold_100 ?_
                exact a_sub [] rfl (k_X11_middleTold_b101 F hf hr)
            · rw [if_neg hq5] at hf
              refine a_tableOut F (tgt := 105) hg9 dX11_middleTold_1 (by omega) (by decide) ?_
              refine a_ldc2 F (n := (-1)) (by decide +kernel) w_558 dX11_middleTold_105 ?_
              cases hf
              exact hr _ _ dX11_middleTold_108
set_option maxRecDepth 100000 in
set_option maxHeartbeats 4000000 in
theorem c_X11_middleTold {l : Launch}  {σ : St} {x1 : Int} : CtrL vwCl WS NWs TM l yX11_middleTold cX11_middleTold 2 (some .long) rm_X11_middleTold (fun ad => [.ref (ad 0), iv x1]) σ (rd (f_X11_middleTold σ x1) σ) := by
  refine ctrL_of (by decide +kernel) (fun ad => Nat.le_of_ble_eq_true rfl) (fun v σ' ad X hf F K => ?_)
  obtain ⟨hf2, e2⟩ := rd_elim hf
  subst e2
  exact k_X11_middleTold_b0 F hf2 K
abbrev rm_X11_largest : Room := { frames := 6, cells := 0, slots := 0, locals := 176 }
set_option maxRecDepth 100000 in
set_option maxHeartbeats 4000000 in
theorem k_X11_largest_b0 {l : Launch} {ad : Nat → Nat} {X : Cx} (F : Ok vwCl WS NWs TM cX11_largest 2 yX11_largest.cls (some .long) ad l X) {σ : St} {x1 : Int} {y : (Int × St)} (hf : f_X11_largest_b0 σ x1 = some y) (hr : ∀ v τ, y = (v, τ) → RetL vwCl TM cX11_largest 2 rm_X11_largest ad X v τ) : At vwCl TM 2 rm_X11_largest ad X σ [(0, .ref (ad 0)), (1, iv x1)] [] 0 := by
  unfold f_X11_largest_b0 at hf
  refine a_aload_n F dX11_largest_0 rfl 0 rfl ?_
  refine a_iconst F dX11_largest_1 ?_
  refine a_callVIr F lk_RX11_144 tM_0 rfl c_X11_count rfl rfl ⟨rfl, rfl⟩ ⟨Nat.le_of_ble_eq_true rfl, Nat.le_of_ble_eq_true rfl⟩ rfl (Nat.le_of_ble_eq_true rfl) dX11_largest_2 hf (fun r_1 hf => ?_)
  refine a_if_eq F hf (tgt := 17) dX11_largest_5 (by decide) (fun hf => ?_) (fun hf => ?_)
  · refine a_ldc2 F (n := (-1)) (by decide +kernel) w_558 dX11_largest_17 ?_
    cases hf
    exact hr _ _ rfl _ _ dX11_largest_20
  · refine a_iload_n F dX11_largest_8 rfl 1 rfl ?_
    refine a_if_lt F hf (tgt := 17) dX11_largest_9 (by decide) (fun hf => ?_) (fun hf => ?_)
    · refine a_ldc2 F (n := (-1)) (by decide +kernel) w_558 dX11_largest_17 ?_
      cases hf
      exact hr _ _ rfl _ _ dX11_largest_20
    · refine a_iload_n F dX11_largest_12 rfl 1 rfl ?_
      refine a_iconst F dX11_largest_13 ?_
      refine a_icmp_le F hf (tgt := 21) dX11_largest_14 (by decide) (fun hf => ?_) (fun hf => ?_)
      · refine a_ldc2 F (n := (-1)) (by decide +kernel) w_558 dX11_largest_17 ?_
        cases hf
        exact hr _ _ rfl _ _ dX11_largest_20
      · refine a_aload_n F dX11_largest_21 rfl 0 rfl ?_
        refine a_callVV F lk_RX11_328 tM_0 rfl c_X11_largestOf rfl rfl ⟨rfl, rfl⟩ ⟨Nat.le_of_ble_eq_true rfl, Nat.le_of_ble_eq_true rfl⟩ rfl (Nat.le_of_ble_eq_true rfl) dX11_largest_22 hf (fun σ_2 hf => ?_)
        refine a_aload_n F dX11_largest_25 rfl 0 rfl ?_
        refine a_aload_n F dX11_largest_26 rfl 0 rfl ?_
        refine a_getJ F (j := 40) tM_0 rfl rfl (by decide) inW11 w_642 dX11_largest_27 ?_
        refine a_putJ F (j := 34) tM_0 rfl rfl (by decide) inW11 w_641 tyX11 tyX11_ok nmX11 rfl rfl hf dX11_largest_30 (fun σ_3 hf => ?_)
        refine a_aload_n F dX11_largest_33 rfl 0 rfl ?_
        refine a_aload_n F dX11_largest_34 rfl 0 rfl ?_
        refine a_getJ F (j := 41) tM_0 rfl rfl (by decide) inW11 w_644 dX11_largest_35 ?_
        refine a_putJ F (j := 35) tM_0 rfl rfl (by decide) inW11 w_643 tyX11 tyX11_ok nmX11 rfl rfl hf dX11_largest_38 (fun σ_4 hf => ?_)
        refine a_aload_n F dX11_largest_41 rfl 0 rfl ?_
        refine a_aload_n F dX11_largest_42 rfl 0 rfl ?_
        refine a_getJ F (j := 42) tM_0 rfl rfl (by decide) inW11 w_646 dX11_largest_43 ?_
        refine a_putJ F (j := 36) tM_0 rfl rfl (by decide) inW11 w_645 tyX11 tyX11_ok nmX11 rfl rfl hf dX11_largest_46 (fun σ_5 hf => ?_)
        refine a_aload_n F dX11_largest_49 rfl 0 rfl ?_
        refine a_aload_n F dX11_largest_50 rfl 0 rfl ?_
        refine a_getJ F (j := 43) tM_0 rfl rfl (by decide) inW11 w_648 dX11_largest_51 ?_
        refine a_putJ F (j := 37) tM_0 rfl rfl (by decide) inW11 w_647 tyX11 tyX11_ok nmX11 rfl rfl hf dX11_largest_54 (fun σ_6 hf => ?_)
        refine a_aload_n F dX11_largest_57 rfl 0 rfl ?_
        refine a_aload_n F dX11_largest_58 rfl 0 rfl ?_
        refine a_getJ F (j := 44) tM_0 rfl rfl (by decide) inW11 w_650 dX11_largest_59 ?_
        refine a_putJ F (j := 38) tM_0 rfl rfl (by decide) inW11 w_649 tyX11 tyX11_ok nmX11 rfl rfl hf dX11_largest_62 (fun σ_7 hf => ?_)
        refine a_aload_n F dX11_largest_65 rfl 0 rfl ?_
        refine a_iload_n F dX11_largest_66 rfl 1 rfl ?_
        refine a_callVLr F lk_RX11_290 tM_0 rfl c_X11_middleTold rfl rfl ⟨rfl, rfl⟩ ⟨Nat.le_of_ble_eq_true rfl, Nat.le_of_ble_eq_true rfl⟩ rfl (Nat.le_of_ble_eq_true rfl) dX11_largest_67 hf (fun r_8 hf => ?_)
        cases hf
        exact hr _ _ rfl _ _ dX11_largest_70
set_option maxRecDepth 100000 in
set_option maxHeartbeats 4000000 in
theorem c_X11_largest {l : Launch}  {σ : St} {x1 : Int} : CtrL vwCl WS NWs TM l yX11_largest cX11_largest 2 (some .long) rm_X11_largest (fun ad => [.ref (ad 0), iv x1]) σ (f_X11_largest σ x1) := by
  refine ctrL_of (by decide +kernel) (fun ad => Nat.le_of_ble_eq_true rfl) (fun v σ' ad X hf F K => ?_)
  exact k_X11_largest_b0 F hf (fun v τ e => by cases e; exact K)
abbrev rm_X11_sinks : Room := { frames := 1, cells := 0, slots := 0, locals := 21 }
set_option maxRecDepth 100000 in
set_option maxHeartbeats 4000000 in
theorem k_X11_sinks_b38 {l : Launch} {ad : Nat → Nat} {X : Cx} (F : Ok vwCl WS NWs TM cX11_sinks 6 yX11_sinks.cls (some .int) ad l X) {σ : St} {x1 x2 x3 x4 x5 : Int} {y : (Int ⊕ (Unit ⊕ Unit))} (hf : f_X11_sinks_b38 σ x1 x2 x3 x4 x5 = some y) (hn : ∀ z5, y = .inl z5 → At vwCl TM 6 rm_X11_sinks ad X σ [(0, .ref (ad 0)), (1, iv x1), (2, iv x2), (3, iv x3), (4, iv x4), (5, iv z5)] [] 38) (hx0 : y = .inr (.inl ()) → At vwCl TM 6 rm_X11_sinks ad X σ [] [] 77) (hx1 : y = .inr (.inr (())) → At vwCl TM 6 rm_X11_sinks ad X σ [(0, .ref (ad 0)), (1, iv x1), (2, iv x2), (3, iv x3), (4, iv x4)] [] 86) : At vwCl TM 6 rm_X11_sinks ad X σ [(0, .ref (ad 0)), (1, iv x1), (2, iv x2), (3, iv x3), (4, iv x4), (5, iv x5)] [] 38 := by
  unfold f_X11_sinks_b38 at hf
  refine a_iload F dX11_sinks_38 5 rfl ?_
  refine a_bipush F dX11_sinks_40 (by decide +kernel) ?_
  refine a_icmp_ge F hf (tgt := 86) dX11_sinks_42 (by decide) (fun hf => ?_) (fun hf => ?_)
  · refine a_aload_n F dX11_sinks_45 rfl 0 rfl ?_
    refine a_getR F (j := 3) tM_0 rfl rfl (by decide) inW11 w_526 dX11_sinks_46 ?_
    refine a_iload F dX11_sinks_49 5 rfl ?_
    refine a_zald F tM_1 rfl (by decide) hf dX11_sinks_51 (fun hf => ?_)
    refine a_if_eq F hf (tgt := 80) dX11_sinks_52 (by decide) (fun hf => ?_) (fun hf => ?_)
    · refine a_iinc F hf dX11_sinks_80 5 rfl (by decide) (fun x5_3 hf => ⟨[(5, iv x5_3), (0, .ref (ad 0)), (1, iv x1), (2, iv x2), (3, iv x3), (4, iv x4)], rfl, ?_⟩)
      refine a_goto F (tgt := 38) dX11_sinks_83 (by decide) ?_
      cases hf
      exact a_sub [1, 2, 3, 4, 5, 0] rfl (hn _ rfl)
    · refine a_aload_n F dX11_sinks_55 rfl 0 rfl ?_
      refine a_getR F (j := 4) tM_0 rfl rfl (by decide) inW11 w_539 dX11_sinks_56 ?_
      refine a_iload F dX11_sinks_59 5 rfl ?_
      refine a_iald F tM_2 rfl (by decide) hf dX11_sinks_61 (fun hf => ?_)
      refine a_iload_n F dX11_sinks_62 rfl 1 rfl ?_
      refine a_icmp_ne F hf (tgt := 80) dX11_sinks_63 (by decide) (fun hf => ?_) (fun hf => ?_)
      · refine a_aload_n F dX11_sinks_66 rfl 0 rfl ?_
        refine a_getR F (j := 5) tM_0 rfl rfl (by decide) inW11 w_540 dX11_sinks_67 ?_
        refine a_iload F dX11_sinks_70 5 rfl ?_
        refine a_iald F tM_3 rfl (by decide) hf dX11_sinks_72 (fun hf => ?_)
        refine a_iload_n F dX11_sinks_73 rfl 2 rfl ?_
        refine a_icmp_ne F hf (tgt := 80) dX11_sinks_74 (by decide) (fun hf => ?_) (fun hf => ?_)
        · cases hf
          exact a_sub [] rfl (hx0  rfl)
        · refine a_iinc F hf dX11_sinks_80 5 rfl (by decide) (fun x5_5 hf => ⟨[(5, iv x5_5), (0, .ref (ad 0)), (1, iv x1), (2, iv x2), (3, iv x3), (4, iv x4)], rfl, ?_⟩)
          refine a_goto F (tgt := 38) dX11_sinks_83 (by decide) ?_
          cases hf
          exact a_sub [1, 2, 3, 4, 5, 0] rfl (hn _ rfl)
      · refine a_iinc F hf dX11_sinks_80 5 rfl (by decide) (fun x5_4 hf => ⟨[(5, iv x5_4), (0, .ref (ad 0)), (1, iv x1), (2, iv x2), (3, iv x3), (4, iv x4)], rfl, ?_⟩)
        refine a_goto F (tgt := 38) dX11_sinks_83 (by decide) ?_
        cases hf
        exact a_sub [1, 2, 3, 4, 5, 0] rfl (hn _ rfl)
  · cases hf
    exact a_sub [0, 1, 2, 3, 4] rfl (hx1  rfl)
set_option maxRecDepth 100000 in
set_option maxHeartbeats 4000000 in
theorem k_X11_sinks_b89 {l : Launch} {ad : Nat → Nat} {X : Cx} (F : Ok vwCl WS NWs TM cX11_sinks 6 yX11_sinks.cls (some .int) ad l X) {σ : St} {x1 x2 x3 x4 x5 : Int} {y : (Int ⊕ Int)} (hf : f_X11_sinks_b89 σ x1 x2 x3 x4 x5 = some y) (hn : ∀ z5, y = .inl z5 → At vwCl TM 6 rm_X11_sinks ad X σ [(0, .ref (ad 0)), (1, iv x1), (2, iv x2), (3, iv x3), (4, iv x4), (5, iv z5)] [] 89) (hx0 : ∀ z5, y = .inr (z5) → At vwCl TM 6 rm_X11_sinks ad X σ [(0, .ref (ad 0)), (1, iv x1), (2, iv x2), (3, iv x3), (4, iv x4), (5, iv z5)] [] 112) : At vwCl TM 6 rm_X11_sinks ad X σ [(0, .ref (ad 0)), (1, iv x1), (2, iv x2), (3, iv x3), (4, iv x4), (5, iv x5)] [] 89 := by
  unfold f_X11_sinks_b89 at hf
  refine a_iload F dX11_sinks_89 5 rfl ?_
  refine a_bipush F dX11_sinks_91 (by decide +kernel) ?_
  refine a_icmp_ge F hf (tgt := 112) dX11_sinks_93 (by decide) (fun hf => ?_) (fun hf => ?_)
  · refine a_aload_n F dX11_sinks_96 rfl 0 rfl ?_
    refine a_getR F (j := 3) tM_0 rfl rfl (by decide) inW11 w_526 dX11_sinks_97 ?_
    refine a_iload F dX11_sinks_100 5 rfl ?_
    refine a_zald F tM_1 rfl (by decide) hf dX11_sinks_102 (fun hf => ?_)
    refine a_if_eq F hf (tgt := 112) dX11_sinks_103 (by decide) (fun hf => ?_) (fun hf => ?_)
    · cases hf
      exact a_sub [0, 1, 2, 3, 4, 5] rfl (hx0 _ rfl)
    · refine a_iinc F hf dX11_sinks_106 5 rfl (by decide) (fun x5_7 hf => ⟨[(5, iv x5_7), (0, .ref (ad 0)), (1, iv x1), (2, iv x2), (3, iv x3), (4, iv x4)], rfl, ?_⟩)
      refine a_goto F (tgt := 89) dX11_sinks_109 (by decide) ?_
      cases hf
      exact a_sub [1, 2, 3, 4, 5, 0] rfl (hn _ rfl)
  · cases hf
    exact a_sub [0, 1, 2, 3, 4, 5] rfl (hx0 _ rfl)
set_option maxRecDepth 100000 in
set_option maxHeartbeats 4000000 in
theorem k_X11_sinks_b0 {l : Launch} {ad : Nat → Nat} {X : Cx} (F : Ok vwCl WS NWs TM cX11_sinks 6 yX11_sinks.cls (some .int) ad l X) {σ : St} {x1 x2 x3 x4 : Int} {y : (Int × St)} (hf : f_X11_sinks_b0 σ x1 x2 x3 x4 = some y) (hr : ∀ v τ, y = (v, τ) → RetI vwCl TM cX11_sinks 6 rm_X11_sinks ad X v τ) : At vwCl TM 6 rm_X11_sinks ad X σ [(0, .ref (ad 0)), (1, iv x1), (2, iv x2), (3, iv x3), (4, iv x4)] [] 0 := by
  unfold f_X11_sinks_b0 at hf
  refine a_iload_n F dX11_sinks_0 rfl 1 rfl ?_
  refine a_if_lt F hf (tgt := 33) dX11_sinks_1 (by decide) (fun hf => ?_) (fun hf => ?_)
  · refine a_iconst F dX11_sinks_33 ?_
    cases hf
    exact hr _ _ rfl _ _ dX11_sinks_34
  · refine a_iload_n F dX11_sinks_4 rfl 1 rfl ?_
    refine a_aload_n F dX11_sinks_5 rfl 0 rfl ?_
    refine a_getI F (j := 0) tM_0 rfl rfl (by decide) inW11 w_559 dX11_sinks_6 ?_
    refine a_icmp_gt F hf (tgt := 33) dX11_sinks_9 (by decide) (fun hf => ?_) (fun hf => ?_)
    · refine a_iconst F dX11_sinks_33 ?_
      cases hf
      exact hr _ _ rfl _ _ dX11_sinks_34
    · refine a_iload_n F dX11_sinks_12 rfl 2 rfl ?_
      refine a_if_lt F hf (tgt := 33) dX11_sinks_13 (by decide) (fun hf => ?_) (fun hf => ?_)
      · refine a_iconst F dX11_sinks_33 ?_
        cases hf
        exact hr _ _ rfl _ _ dX11_sinks_34
      · refine a_iload_n F dX11_sinks_16 rfl 2 rfl ?_
        refine a_aload_n F dX11_sinks_17 rfl 0 rfl ?_
        refine a_getI F (j := 1) tM_0 rfl rfl (by decide) inW11 w_560 dX11_sinks_18 ?_
        refine a_icmp_gt F hf (tgt := 33) dX11_sinks_21 (by decide) (fun hf => ?_) (fun hf => ?_)
        · refine a_iconst F dX11_sinks_33 ?_
          cases hf
          exact hr _ _ rfl _ _ dX11_sinks_34
        · refine a_iload_n F dX11_sinks_24 rfl 3 rfl ?_
          refine a_iload F dX11_sinks_25 4 rfl ?_
          refine a_callSIr F lk_RX11_136 c_X11_mayBe rfl rfl ⟨rfl, rfl⟩ ⟨Nat.le_of_ble_eq_true rfl, Nat.le_of_ble_eq_true rfl⟩ rfl (Nat.le_of_ble_eq_true rfl) dX11_sinks_27 hf (fun r_1 hf => ?_)
          refine a_if_ne F hf (tgt := 35) dX11_sinks_30 (by decide) (fun hf => ?_) (fun hf => ?_)
          · refine a_iconst F dX11_sinks_33 ?_
            cases hf
            exact hr _ _ rfl _ _ dX11_sinks_34
          · refine a_iconst F dX11_sinks_35 ?_
            refine a_topI hf (fun x5_2 hf => ?_)
            refine a_istore F (lv' := [(5, iv x5_2), (0, .ref (ad 0)), (1, iv x1), (2, iv x2), (3, iv x3), (4, iv x4)]) dX11_sinks_36 (by decide) rfl ?_
            obtain ⟨q0, he, hf⟩ := jbind_elim hf
            refine a_sub [1, 2, 3, 4, 5, 0] rfl (loop_rule (P := (fun q => ∀ z5, z5 = q → At vwCl TM 6 rm_X11_sinks ad X σ [(0, .ref (ad 0)), (1, iv x1), (2, iv x2), (3, iv x3), (4, iv x4), (5, iv z5)] [] 38)) (K := (fun q => (.inl () = q → At vwCl TM 6 rm_X11_sinks ad X σ [] [] 77) ∧ (.inr (()) = q → At vwCl TM 6 rm_X11_sinks ad X σ [(0, .ref (ad 0)), (1, iv x1), (2, iv x2), (3, iv x3), (4, iv x4)] [] 86))) ?_ 1000 _ _ he ?_ _ rfl)
            · intro q y hy hn hx z5 e
              subst e
              exact k_X11_sinks_b38 F hy (fun z5 e => hn _ e _ rfl) (fun  e => (hx _ e).1  rfl) (fun  e => (hx _ e).2  rfl)
            · refine ⟨?_, ?_⟩
              · intro  e
                subst e
                refine a_bipush F dX11_sinks_77 (by decide +kernel) ?_
                cases hf
                exact hr _ _ rfl _ _ dX11_sinks_79
              · intro  e
                subst e
                refine a_iconst F dX11_sinks_86 ?_
                refine a_topI hf (fun x5_6 hf => ?_)
                refine a_istore F (lv' := [(5, iv x5_6), (0, .ref (ad 0)), (1, iv x1), (2, iv x2), (3, iv x3), (4, iv x4)]) dX11_sinks_87 (by decide) rfl ?_
                obtain ⟨q0, he, hf⟩ := jbind_elim hf
                refine a_sub [1, 2, 3, 4, 5, 0] rfl (loop_rule (P := (fun q => ∀ z5, z5 = q → At vwCl TM 6 rm_X11_sinks ad X σ [(0, .ref (ad 0)), (1, iv x1), (2, iv x2), (3, iv x3), (4, iv x4), (5, iv z5)] [] 89)) (K := (fun q => (∀ z5, z5 = q → At vwCl TM 6 rm_X11_sinks ad X σ [(0, .ref (ad 0)), (1, iv x1), (2, iv x2), (3, iv x3), (4, iv x4), (5, iv z5)] [] 112))) ?_ 1000 _ _ he ?_ _ rfl)
                · intro q y hy hn hx z5 e
                  subst e
                  exact k_X11_sinks_b89 F hy (fun z5 e => hn _ e _ rfl) (fun z5 e => (hx _ e) _ rfl)
                · intro x5_8 e
                  subst e
                  refine a_iload F dX11_sinks_112 5 rfl ?_
                  refine a_bipush F dX11_sinks_114 (by decide +kernel) ?_
                  refine a_icmp_ne F hf (tgt := 122) dX11_sinks_116 (by decide) (fun hf => ?_) (fun hf => ?_)
                  · refine a_bipush F dX11_sinks_119 (by decide +kernel) ?_
                    cases hf
                    exact hr _ _ rfl _ _ dX11_sinks_121
                  · refine a_aload_n F dX11_sinks_122 rfl 0 rfl ?_
                    refine a_getR F (j := 3) tM_0 rfl rfl (by decide) inW11 w_526 dX11_sinks_123 ?_
                    refine a_iload F dX11_sinks_126 5 rfl ?_
                    refine a_iconst F dX11_sinks_128 ?_
                    refine a_zast F tM_1 rfl (by decide) hf dX11_sinks_129 (fun σ_9 hf => ?_)
                    refine a_aload_n F dX11_sinks_130 rfl 0 rfl ?_
                    refine a_getR F (j := 4) tM_0 rfl rfl (by decide) inW11 w_539 dX11_sinks_131 ?_
                    refine a_iload F dX11_sinks_134 5 rfl ?_
                    refine a_iload_n F dX11_sinks_136 rfl 1 rfl ?_
                    refine a_iast F tM_2 rfl (by decide) hf dX11_sinks_137 (fun σ_10 hf => ?_)
                    refine a_aload_n F dX11_sinks_138 rfl 0 rfl ?_
                    refine a_getR F (j := 5) tM_0 rfl rfl (by decide) inW11 w_540 dX11_sinks_139 ?_
                    refine a_iload F dX11_sinks_142 5 rfl ?_
                    refine a_iload_n F dX11_sinks_144 rfl 2 rfl ?_
                    refine a_iast F tM_3 rfl (by decide) hf dX11_sinks_145 (fun σ_11 hf => ?_)
                    refine a_aload_n F dX11_sinks_146 rfl 0 rfl ?_
                    refine a_getR F (j := 6) tM_0 rfl rfl (by decide) inW11 w_532 dX11_sinks_147 ?_
                    refine a_iload F dX11_sinks_150 5 rfl ?_
                    refine a_iload_n F dX11_sinks_152 rfl 3 rfl ?_
                    refine a_iast F tM_4 rfl (by decide) hf dX11_sinks_153 (fun σ_12 hf => ?_)
                    refine a_aload_n F dX11_sinks_154 rfl 0 rfl ?_
                    refine a_getR F (j := 7) tM_0 rfl rfl (by decide) inW11 w_533 dX11_sinks_155 ?_
                    refine a_iload F dX11_sinks_158 5 rfl ?_
                    refine a_iload F dX11_sinks_160 4 rfl ?_
                    refine a_iast F tM_5 rfl (by decide) hf dX11_sinks_162 (fun σ_13 hf => ?_)
                    refine a_iload F dX11_sinks_163 5 rfl ?_
                    cases hf
                    exact hr _ _ rfl _ _ dX11_sinks_165
set_option maxRecDepth 100000 in
set_option maxHeartbeats 4000000 in
theorem c_X11_sinks {l : Launch}  {σ : St} {x1 x2 x3 x4 : Int} : CtrI vwCl WS NWs TM l yX11_sinks cX11_sinks 6 (some .int) rm_X11_sinks (fun ad => [.ref (ad 0), iv x1, iv x2, iv x3, iv x4]) σ (f_X11_sinks σ x1 x2 x3 x4) := by
  refine ctrI_of (by decide +kernel) (fun ad => Nat.le_of_ble_eq_true rfl) (fun v σ' ad X hf F K => ?_)
  exact k_X11_sinks_b0 F hf (fun v τ e => by cases e; exact K)
abbrev rm_X11_lay : Room := { frames := 2, cells := 0, slots := 0, locals := 46 }
set_option maxRecDepth 100000 in
set_option maxHeartbeats 4000000 in
theorem k_X11_lay_b29 {l : Launch} {ad : Nat → Nat} {X : Cx} (F : Ok vwCl WS NWs TM cX11_lay 6 yX11_lay.cls (some .int) ad l X) {σ : St} {x1 x2 x3 : Int} {y : ((St × Int) ⊕ ((St × Int) ⊕ St))} (hf : f_X11_lay_b29 σ x1 x2 x3 = some y) (hn : ∀ τ z3, y = .inl (τ, z3) → At vwCl TM 6 rm_X11_lay ad X τ [(0, .ref (ad 0)), (1, iv x1), (2, iv x2), (3, iv z3)] [] 29) (hx0 : ∀ τ z3, y = .inr (.inl (τ, z3)) → At vwCl TM 6 rm_X11_lay ad X τ [(0, .ref (ad 0)), (3, iv z3)] [] 100) (hx1 : ∀ τ, y = .inr (.inr (τ)) → At vwCl TM 6 rm_X11_lay ad X τ [(0, .ref (ad 0)), (2, iv x2)] [] 139) : At vwCl TM 6 rm_X11_lay ad X σ [(0, .ref (ad 0)), (1, iv x1), (2, iv x2), (3, iv x3)] [] 29 := by
  unfold f_X11_lay_b29 at hf
  refine a_iload_n F dX11_lay_29 rfl 3 rfl ?_
  refine a_iload_n F dX11_lay_30 rfl 2 rfl ?_
  refine a_icmp_ge F hf (tgt := 139) dX11_lay_31 (by decide) (fun hf => ?_) (fun hf => ?_)
  · refine a_bipush F dX11_lay_34 (by decide +kernel) ?_
    refine a_iload_n F dX11_lay_36 rfl 1 rfl ?_
    refine a_imul F dX11_lay_37 ?_
    refine a_iconst F dX11_lay_38 ?_
    refine a_iload_n F dX11_lay_39 rfl 3 rfl ?_
    refine a_imul F dX11_lay_40 ?_
    refine a_iadd F dX11_lay_41 ?_
    refine a_topI hf (fun x4_4 hf => ?_)
    refine a_istore F (lv' := [(4, iv x4_4), (0, .ref (ad 0)), (1, iv x1), (2, iv x2), (3, iv x3)]) dX11_lay_42 (by decide) rfl ?_
    refine a_aload_n F dX11_lay_44 rfl 1 rfl ?_
    refine a_getR F (j := 55) tM_0 rfl rfl (by decide) inW11 w_745 dX11_lay_45 ?_
    refine a_iload_n F dX11_lay_48 rfl 4 rfl ?_
    refine a_aload_n F dX11_lay_49 rfl 1 rfl ?_
    refine a_aload_n F dX11_lay_50 rfl 1 rfl ?_
    refine a_getR F (j := 54) tM_0 rfl rfl (by decide) inW11 w_746 dX11_lay_51 ?_
    refine a_iload F dX11_lay_54 0 rfl ?_
    refine a_iald F tM_32 rfl (by decide) hf dX11_lay_56 (fun hf => ?_)
    refine a_aload_n F dX11_lay_57 rfl 1 rfl ?_
    refine a_getR F (j := 54) tM_0 rfl rfl (by decide) inW11 w_746 dX11_lay_58 ?_
    refine a_iload F dX11_lay_61 0 rfl ?_
    refine a_iconst F dX11_lay_63 ?_
    refine a_iadd F dX11_lay_64 ?_
    refine a_iald F tM_32 rfl (by decide) hf dX11_lay_65 (fun hf => ?_)
    refine a_aload_n F dX11_lay_66 rfl 1 rfl ?_
    refine a_getR F (j := 54) tM_0 rfl rfl (by decide) inW11 w_746 dX11_lay_67 ?_
    refine a_iload F dX11_lay_70 0 rfl ?_
    refine a_iconst F dX11_lay_72 ?_
    refine a_iadd F dX11_lay_73 ?_
    refine a_iald F tM_32 rfl (by decide) hf dX11_lay_74 (fun hf => ?_)
    refine a_aload_n F dX11_lay_75 rfl 1 rfl ?_
    refine a_getR F (j := 54) tM_0 rfl rfl (by decide) inW11 w_746 dX11_lay_76 ?_
    refine a_iload F dX11_lay_79 0 rfl ?_
    refine a_iconst F dX11_lay_81 ?_
    refine a_iadd F dX11_lay_82 ?_
    refine a_iald F tM_32 rfl (by decide) hf dX11_lay_83 (fun hf => ?_)
    refine a_callVI F lk_RX11_140 tM_0 rfl c_X11_sinks rfl rfl ⟨rfl, rfl⟩ ⟨Nat.le_of_ble_eq_true rfl, Nat.le_of_ble_eq_true rfl⟩ rfl (Nat.le_of_ble_eq_true rfl) dX11_lay_84 hf (fun r_5 σ_6 hf => ?_)
    refine a_iast F tM_33 rfl (by decide) hf dX11_lay_87 (fun σ_7 hf => ?_)
    refine a_aload_n F dX11_lay_88 rfl 1 rfl ?_
    refine a_getR F (j := 55) tM_0 rfl rfl (by decide) inW11 w_745 dX11_lay_89 ?_
    refine a_iload_n F dX11_lay_92 rfl 4 rfl ?_
    refine a_iald F tM_33 rfl (by decide) hf dX11_lay_93 (fun hf => ?_)
    refine a_if_lt F hf (tgt := 100) dX11_lay_94 (by decide) (fun hf => ?_) (fun hf => ?_)
    · cases hf
      exact a_sub [1, 4] rfl (hx0 _ _ rfl)
    · refine a_goto F (tgt := 133) dX11_lay_97 (by decide) ?_
      refine a_iinc F hf dX11_lay_133 4 rfl (by decide) (fun x3_8 hf => ⟨[(3, iv x3_8), (4, iv x4_4), (0, .ref (ad 0)), (1, iv x1), (2, iv x2)], rfl, ?_⟩)
      refine a_goto F (tgt := 29) dX11_lay_136 (by decide) ?_
      cases hf
      exact a_sub [2, 3, 4, 0] rfl (hn _ _ rfl)
  · cases hf
    exact a_sub [0, 2] rfl (hx1 _ rfl)
set_option maxRecDepth 100000 in
set_option maxHeartbeats 4000000 in
theorem k_X11_lay_b103 {l : Launch} {ad : Nat → Nat} {X : Cx} (F : Ok vwCl WS NWs TM cX11_lay 6 yX11_lay.cls (some .int) ad l X) {σ : St} {x3 x5 : Int} {y : ((St × Int) ⊕ St)} (hf : f_X11_lay_b103 σ x3 x5 = some y) (hn : ∀ τ z5, y = .inl (τ, z5) → At vwCl TM 6 rm_X11_lay ad X τ [(0, .ref (ad 0)), (3, iv x3), (5, iv z5)] [] 103) (hx0 : ∀ τ, y = .inr (τ) → At vwCl TM 6 rm_X11_lay ad X τ [(3, iv x3)] [] 128) : At vwCl TM 6 rm_X11_lay ad X σ [(0, .ref (ad 0)), (3, iv x3), (5, iv x5)] [] 103 := by
  unfold f_X11_lay_b103 at hf
  refine a_iload F dX11_lay_103 2 rfl ?_
  refine a_iload_n F dX11_lay_105 rfl 1 rfl ?_
  refine a_icmp_ge F hf (tgt := 128) dX11_lay_106 (by decide) (fun hf => ?_) (fun hf => ?_)
  · refine a_aload_n F dX11_lay_109 rfl 0 rfl ?_
    refine a_getR F (j := 3) tM_0 rfl rfl (by decide) inW11 w_526 dX11_lay_110 ?_
    refine a_aload_n F dX11_lay_113 rfl 0 rfl ?_
    refine a_getR F (j := 55) tM_0 rfl rfl (by decide) inW11 w_745 dX11_lay_114 ?_
    refine a_iload F dX11_lay_117 2 rfl ?_
    refine a_iald F tM_33 rfl (by decide) hf dX11_lay_119 (fun hf => ?_)
    refine a_iconst F dX11_lay_120 ?_
    refine a_zast F tM_1 rfl (by decide) hf dX11_lay_121 (fun σ_12 hf => ?_)
    refine a_iinc F hf dX11_lay_122 2 rfl (by decide) (fun x5_13 hf => ⟨[(5, iv x5_13), (0, .ref (ad 0)), (3, iv x3)], rfl, ?_⟩)
    refine a_goto F (tgt := 103) dX11_lay_125 (by decide) ?_
    cases hf
    exact a_sub [1, 2, 0] rfl (hn _ _ rfl)
  · cases hf
    exact a_sub [1] rfl (hx0 _ rfl)
set_option maxRecDepth 100000 in
set_option maxHeartbeats 4000000 in
theorem k_X11_lay_b141 {l : Launch} {ad : Nat → Nat} {X : Cx} (F : Ok vwCl WS NWs TM cX11_lay 6 yX11_lay.cls (some .int) ad l X) {σ : St} {x2 x3 : Int} {y : ((St × Int) ⊕ St)} (hf : f_X11_lay_b141 σ x2 x3 = some y) (hn : ∀ τ z3, y = .inl (τ, z3) → At vwCl TM 6 rm_X11_lay ad X τ [(0, .ref (ad 0)), (2, iv x2), (3, iv z3)] [] 141) (hx0 : ∀ τ, y = .inr (τ) → At vwCl TM 6 rm_X11_lay ad X τ [(0, .ref (ad 0)), (2, iv x2)] [] 164) : At vwCl TM 6 rm_X11_lay ad X σ [(0, .ref (ad 0)), (2, iv x2), (3, iv x3)] [] 141 := by
  unfold f_X11_lay_b141 at hf
  refine a_iload_n F dX11_lay_141 rfl 2 rfl ?_
  refine a_iload_n F dX11_lay_142 rfl 1 rfl ?_
  refine a_icmp_ge F hf (tgt := 164) dX11_lay_143 (by decide) (fun hf => ?_) (fun hf => ?_)
  · refine a_aload_n F dX11_lay_146 rfl 0 rfl ?_
    refine a_getR F (j := 3) tM_0 rfl rfl (by decide) inW11 w_526 dX11_lay_147 ?_
    refine a_aload_n F dX11_lay_150 rfl 0 rfl ?_
    refine a_getR F (j := 55) tM_0 rfl rfl (by decide) inW11 w_745 dX11_lay_151 ?_
    refine a_iload_n F dX11_lay_154 rfl 2 rfl ?_
    refine a_iald F tM_33 rfl (by decide) hf dX11_lay_155 (fun hf => ?_)
    refine a_iconst F dX11_lay_156 ?_
    refine a_zast F tM_1 rfl (by decide) hf dX11_lay_157 (fun σ_17 hf => ?_)
    refine a_iinc F hf dX11_lay_158 2 rfl (by decide) (fun x3_18 hf => ⟨[(3, iv x3_18), (0, .ref (ad 0)), (2, iv x2)], rfl, ?_⟩)
    refine a_goto F (tgt := 141) dX11_lay_161 (by decide) ?_
    cases hf
    exact a_sub [1, 2, 0] rfl (hn _ _ rfl)
  · cases hf
    exact a_sub [0, 1] rfl (hx0 _ rfl)
set_option maxRecDepth 100000 in
set_option maxHeartbeats 4000000 in
theorem k_X11_lay_b170 {l : Launch} {ad : Nat → Nat} {X : Cx} (F : Ok vwCl WS NWs TM cX11_lay 6 yX11_lay.cls (some .int) ad l X) {σ : St} {x2 x3 : Int} {y : ((St × Int) ⊕ St)} (hf : f_X11_lay_b170 σ x2 x3 = some y) (hn : ∀ τ z3, y = .inl (τ, z3) → At vwCl TM 6 rm_X11_lay ad X τ [(0, .ref (ad 0)), (2, iv x2), (3, iv z3)] [] 170) (hx0 : ∀ τ, y = .inr (τ) → At vwCl TM 6 rm_X11_lay ad X τ [(2, iv x2)] [] 193) : At vwCl TM 6 rm_X11_lay ad X σ [(0, .ref (ad 0)), (2, iv x2), (3, iv x3)] [] 170 := by
  unfold f_X11_lay_b170 at hf
  refine a_iload_n F dX11_lay_170 rfl 2 rfl ?_
  refine a_iload_n F dX11_lay_171 rfl 1 rfl ?_
  refine a_icmp_ge F hf (tgt := 193) dX11_lay_172 (by decide) (fun hf => ?_) (fun hf => ?_)
  · refine a_aload_n F dX11_lay_175 rfl 0 rfl ?_
    refine a_getR F (j := 3) tM_0 rfl rfl (by decide) inW11 w_526 dX11_lay_176 ?_
    refine a_aload_n F dX11_lay_179 rfl 0 rfl ?_
    refine a_getR F (j := 55) tM_0 rfl rfl (by decide) inW11 w_745 dX11_lay_180 ?_
    refine a_iload_n F dX11_lay_183 rfl 2 rfl ?_
    refine a_iald F tM_33 rfl (by decide) hf dX11_lay_184 (fun hf => ?_)
    refine a_iconst F dX11_lay_185 ?_
    refine a_zast F tM_1 rfl (by decide) hf dX11_lay_186 (fun σ_22 hf => ?_)
    refine a_iinc F hf dX11_lay_187 2 rfl (by decide) (fun x3_23 hf => ⟨[(3, iv x3_23), (0, .ref (ad 0)), (2, iv x2)], rfl, ?_⟩)
    refine a_goto F (tgt := 170) dX11_lay_190 (by decide) ?_
    cases hf
    exact a_sub [1, 2, 0] rfl (hn _ _ rfl)
  · cases hf
    exact a_sub [1] rfl (hx0 _ rfl)
set_option maxRecDepth 100000 in
set_option maxHeartbeats 4000000 in
theorem k_X11_lay_b0 {l : Launch} {ad : Nat → Nat} {X : Cx} (F : Ok vwCl WS NWs TM cX11_lay 6 yX11_lay.cls (some .int) ad l X) {σ : St} {x1 : Int} {y : (Int × St)} (hf : f_X11_lay_b0 σ x1 = some y) (hr : ∀ v τ, y = (v, τ) → RetI vwCl TM cX11_lay 6 rm_X11_lay ad X v τ) : At vwCl TM 6 rm_X11_lay ad X σ [(0, .ref (ad 0)), (1, iv x1)] [] 0 := by
  unfold f_X11_lay_b0 at hf
  refine a_aload_n F dX11_lay_0 rfl 0 rfl ?_
  refine a_iload_n F dX11_lay_1 rfl 1 rfl ?_
  refine a_callVIr F lk_RX11_352 tM_0 rfl c_X11_isSheet rfl rfl ⟨rfl, rfl⟩ ⟨Nat.le_of_ble_eq_true rfl, Nat.le_of_ble_eq_true rfl⟩ rfl (Nat.le_of_ble_eq_true rfl) dX11_lay_2 hf (fun r_1 hf => ?_)
  refine a_if_eq F hf (tgt := 18) dX11_lay_5 (by decide) (fun hf => ?_) (fun hf => ?_)
  · refine a_iconst F dX11_lay_18 ?_
    cases hf
    exact hr _ _ rfl _ _ dX11_lay_19
  · refine a_aload_n F dX11_lay_8 rfl 0 rfl ?_
    refine a_getR F (j := 53) tM_0 rfl rfl (by decide) inW11 w_744 dX11_lay_9 ?_
    refine a_iload_n F dX11_lay_12 rfl 1 rfl ?_
    refine a_iald F tM_31 rfl (by decide) hf dX11_lay_13 (fun hf => ?_)
    refine a_iconst F dX11_lay_14 ?_
    refine a_icmp_ne F hf (tgt := 20) dX11_lay_15 (by decide) (fun hf => ?_) (fun hf => ?_)
    · refine a_iconst F dX11_lay_18 ?_
      cases hf
      exact hr _ _ rfl _ _ dX11_lay_19
    · refine a_aload_n F dX11_lay_20 rfl 0 rfl ?_
      refine a_getR F (j := 53) tM_0 rfl rfl (by decide) inW11 w_744 dX11_lay_21 ?_
      refine a_iload_n F dX11_lay_24 rfl 1 rfl ?_
      refine a_iald F tM_31 rfl (by decide) hf dX11_lay_25 (fun hf => ?_)
      refine a_topI hf (fun x2_2 hf => ?_)
      refine a_istore_n F (lv' := [(2, iv x2_2), (0, .ref (ad 0)), (1, iv x1)]) dX11_lay_26 rfl (by decide) rfl ?_
      refine a_iconst F dX11_lay_27 ?_
      refine a_topI hf (fun x3_3 hf => ?_)
      refine a_istore_n F (lv' := [(3, iv x3_3), (2, iv x2_2), (0, .ref (ad 0)), (1, iv x1)]) dX11_lay_28 rfl (by decide) rfl ?_
      obtain ⟨q0, he, hf⟩ := jbind_elim hf
      refine a_sub [2, 3, 1, 0] rfl (loop_rule (P := (fun q => ∀ τ z3, (τ, z3) = q → At vwCl TM 6 rm_X11_lay ad X τ [(0, .ref (ad 0)), (1, iv x1), (2, iv x2_2), (3, iv z3)] [] 29)) (K := (fun q => (∀ τ z3, .inl (τ, z3) = q → At vwCl TM 6 rm_X11_lay ad X τ [(0, .ref (ad 0)), (3, iv z3)] [] 100) ∧ (∀ τ, .inr (τ) = q → At vwCl TM 6 rm_X11_lay ad X τ [(0, .ref (ad 0)), (2, iv x2_2)] [] 139))) ?_ 1000 _ _ he ?_ _ _ rfl)
      · intro q y hy hn hx τ z3 e
        subst e
        exact k_X11_lay_b29 F hy (fun τ z3 e => hn _ e _ _ rfl) (fun τ z3 e => (hx _ e).1 _ _ rfl) (fun τ e => (hx _ e).2 _ rfl)
      · refine ⟨?_, ?_⟩
        · intro σ_9 x3_10 e
          subst e
          refine a_iconst F dX11_lay_100 ?_
          refine a_topI hf (fun x5_11 hf => ?_)
          refine a_istore F (lv' := [(5, iv x5_11), (0, .ref (ad 0)), (3, iv x3_10)]) dX11_lay_101 (by decide) rfl ?_
          obtain ⟨q0, he, hf⟩ := jbind_elim hf
          refine a_sub [1, 2, 0] rfl (loop_rule (P := (fun q => ∀ τ z5, (τ, z5) = q → At vwCl TM 6 rm_X11_lay ad X τ [(0, .ref (ad 0)), (3, iv x3_10), (5, iv z5)] [] 103)) (K := (fun q => (∀ τ, τ = q → At vwCl TM 6 rm_X11_lay ad X τ [(3, iv x3_10)] [] 128))) ?_ 1000 _ _ he ?_ _ _ rfl)
          · intro q y hy hn hx τ z5 e
            subst e
            exact k_X11_lay_b103 F hy (fun τ z5 e => hn _ e _ _ rfl) (fun τ e => (hx _ e) _ rfl)
          · intro σ_14 e
            subst e
            refine a_bipush F dX11_lay_128 (by decide +kernel) ?_
            refine a_iload_n F dX11_lay_130 rfl 0 rfl ?_
            refine a_isub F dX11_lay_131 ?_
            cases hf
            exact hr _ _ rfl _ _ dX11_lay_132
        · intro σ_15 e
          subst e
          refine a_iconst F dX11_lay_139 ?_
          refine a_topI hf (fun x3_16 hf => ?_)
          refine a_istore_n F (lv' := [(3, iv x3_16), (0, .ref (ad 0)), (2, iv x2_2)]) dX11_lay_140 rfl (by decide) rfl ?_
          obtain ⟨q0, he, hf⟩ := jbind_elim hf
          refine a_sub [1, 2, 0] rfl (loop_rule (P := (fun q => ∀ τ z3, (τ, z3) = q → At vwCl TM 6 rm_X11_lay ad X τ [(0, .ref (ad 0)), (2, iv x2_2), (3, iv z3)] [] 141)) (K := (fun q => (∀ τ, τ = q → At vwCl TM 6 rm_X11_lay ad X τ [(0, .ref (ad 0)), (2, iv x2_2)] [] 164))) ?_ 1000 _ _ he ?_ _ _ rfl)
          · intro q y hy hn hx τ z3 e
            subst e
            exact k_X11_lay_b141 F hy (fun τ z3 e => hn _ e _ _ rfl) (fun τ e => (hx _ e) _ rfl)
          · intro σ_19 e
            subst e
            refine a_aload_n F dX11_lay_164 rfl 0 rfl ?_
            refine a_callVV F lk_RX11_131 tM_0 rfl c_X11_keeps rfl rfl ⟨rfl, rfl⟩ ⟨Nat.le_of_ble_eq_true rfl, Nat.le_of_ble_eq_true rfl⟩ rfl (Nat.le_of_ble_eq_true rfl) dX11_lay_165 hf (fun σ_20 hf => ?_)
            refine a_iconst F dX11_lay_168 ?_
            refine a_topI hf (fun x3_21 hf => ?_)
            refine a_istore_n F (lv' := [(3, iv x3_21), (0, .ref (ad 0)), (2, iv x2_2)]) dX11_lay_169 rfl (by decide) rfl ?_
            obtain ⟨q0, he, hf⟩ := jbind_elim hf
            refine a_sub [1, 2, 0] rfl (loop_rule (P := (fun q => ∀ τ z3, (τ, z3) = q → At vwCl TM 6 rm_X11_lay ad X τ [(0, .ref (ad 0)), (2, iv x2_2), (3, iv z3)] [] 170)) (K := (fun q => (∀ τ, τ = q → At vwCl TM 6 rm_X11_lay ad X τ [(2, iv x2_2)] [] 193))) ?_ 1000 _ _ he ?_ _ _ rfl)
            · intro q y hy hn hx τ z3 e
              subst e
              exact k_X11_lay_b170 F hy (fun τ z3 e => hn _ e _ _ rfl) (fun τ e => (hx _ e) _ rfl)
            · intro σ_24 e
              subst e
              refine a_iload_n F dX11_lay_193 rfl 0 rfl ?_
              cases hf
              exact hr _ _ rfl _ _ dX11_lay_194
set_option maxRecDepth 100000 in
set_option maxHeartbeats 4000000 in
theorem c_X11_lay {l : Launch}  {σ : St} {x1 : Int} : CtrI vwCl WS NWs TM l yX11_lay cX11_lay 6 (some .int) rm_X11_lay (fun ad => [.ref (ad 0), iv x1]) σ (f_X11_lay σ x1) := by
  refine ctrI_of (by decide +kernel) (fun ad => Nat.le_of_ble_eq_true rfl) (fun v σ' ad X hf F K => ?_)
  exact k_X11_lay_b0 F hf (fun v τ e => by cases e; exact K)
abbrev rm_X11_line_ : Room := { frames := 1, cells := 0, slots := 0, locals := 21 }
set_option maxRecDepth 100000 in
set_option maxHeartbeats 4000000 in
theorem k_X11_line__b0 {l : Launch} {ad : Nat → Nat} {X : Cx} (F : Ok vwCl WS NWs TM cX11_line_ 8 yX11_line_.cls (some .boolean) ad l X) {σ : St} {x1 x2 x3 x4 x5 x6 : Int} {y : (Int × St)} (hf : f_X11_line__b0 σ x1 x2 x3 x4 x5 x6 = some y) (hr : ∀ v τ, y = (v, τ) → RetI vwCl TM cX11_line_ 8 rm_X11_line_ ad X v τ) : At vwCl TM 8 rm_X11_line_ ad X σ [(0, .ref (ad 0)), (1, iv x1), (2, iv x2), (3, iv x3), (4, iv x4), (5, iv x5), (6, iv x6)] [] 0 := by
  unfold f_X11_line__b0 at hf
  refine a_aload_n F dX11_line__0 rfl 0 rfl ?_
  refine a_iload_n F dX11_line__1 rfl 1 rfl ?_
  refine a_callVIr F lk_RX11_352 tM_0 rfl c_X11_isSheet rfl rfl ⟨rfl, rfl⟩ ⟨Nat.le_of_ble_eq_true rfl, Nat.le_of_ble_eq_true rfl⟩ rfl (Nat.le_of_ble_eq_true rfl) dX11_line__2 hf (fun r_1 hf => ?_)
  refine a_if_eq F hf (tgt := 22) dX11_line__5 (by decide) (fun hf => ?_) (fun hf => ?_)
  · refine a_iconst F dX11_line__22 ?_
    cases hf
    exact hr _ _ rfl _ _ dX11_line__23
  · refine a_iload_n F dX11_line__8 rfl 2 rfl ?_
    refine a_if_lt F hf (tgt := 22) dX11_line__9 (by decide) (fun hf => ?_) (fun hf => ?_)
    · refine a_iconst F dX11_line__22 ?_
      cases hf
      exact hr _ _ rfl _ _ dX11_line__23
    · refine a_iload_n F dX11_line__12 rfl 2 rfl ?_
      refine a_aload_n F dX11_line__13 rfl 0 rfl ?_
      refine a_getR F (j := 53) tM_0 rfl rfl (by decide) inW11 w_744 dX11_line__14 ?_
      refine a_iload_n F dX11_line__17 rfl 1 rfl ?_
      refine a_iald F tM_31 rfl (by decide) hf dX11_line__18 (fun hf => ?_)
      refine a_icmp_lt F hf (tgt := 24) dX11_line__19 (by decide) (fun hf => ?_) (fun hf => ?_)
      · refine a_bipush F dX11_line__24 (by decide +kernel) ?_
        refine a_iload_n F dX11_line__26 rfl 1 rfl ?_
        refine a_imul F dX11_line__27 ?_
        refine a_iconst F dX11_line__28 ?_
        refine a_iload_n F dX11_line__29 rfl 2 rfl ?_
        refine a_imul F dX11_line__30 ?_
        refine a_iadd F dX11_line__31 ?_
        refine a_topI hf (fun x7_2 hf => ?_)
        refine a_istore F (lv' := [(7, iv x7_2), (0, .ref (ad 0)), (1, iv x1), (2, iv x2), (3, iv x3), (4, iv x4), (5, iv x5), (6, iv x6)]) dX11_line__32 (by decide) rfl ?_
        refine a_aload_n F dX11_line__34 rfl 1 rfl ?_
        refine a_getR F (j := 54) tM_0 rfl rfl (by decide) inW11 w_746 dX11_line__35 ?_
        refine a_iload F dX11_line__38 0 rfl ?_
        refine a_iload_n F dX11_line__40 rfl 4 rfl ?_
        refine a_iast F tM_32 rfl (by decide) hf dX11_line__41 (fun σ_3 hf => ?_)
        refine a_aload_n F dX11_line__42 rfl 1 rfl ?_
        refine a_getR F (j := 54) tM_0 rfl rfl (by decide) inW11 w_746 dX11_line__43 ?_
        refine a_iload F dX11_line__46 0 rfl ?_
        refine a_iconst F dX11_line__48 ?_
        refine a_iadd F dX11_line__49 ?_
        refine a_iload F dX11_line__50 5 rfl ?_
        refine a_iast F tM_32 rfl (by decide) hf dX11_line__52 (fun σ_4 hf => ?_)
        refine a_aload_n F dX11_line__53 rfl 1 rfl ?_
        refine a_getR F (j := 54) tM_0 rfl rfl (by decide) inW11 w_746 dX11_line__54 ?_
        refine a_iload F dX11_line__57 0 rfl ?_
        refine a_iconst F dX11_line__59 ?_
        refine a_iadd F dX11_line__60 ?_
        refine a_iload F dX11_line__61 6 rfl ?_
        refine a_iast F tM_32 rfl (by decide) hf dX11_line__63 (fun σ_5 hf => ?_)
        refine a_aload_n F dX11_line__64 rfl 1 rfl ?_
        refine a_getR F (j := 54) tM_0 rfl rfl (by decide) inW11 w_746 dX11_line__65 ?_
        refine a_iload F dX11_line__68 0 rfl ?_
        refine a_iconst F dX11_line__70 ?_
        refine a_iadd F dX11_line__71 ?_
        refine a_iload F dX11_line__72 7 rfl ?_
        refine a_iast F tM_32 rfl (by decide) hf dX11_line__74 (fun σ_6 hf => ?_)
        refine a_iconst F dX11_line__75 ?_
        cases hf
        exact hr _ _ rfl _ _ dX11_line__76
      · refine a_iconst F dX11_line__22 ?_
        cases hf
        exact hr _ _ rfl _ _ dX11_line__23
set_option maxRecDepth 100000 in
set_option maxHeartbeats 4000000 in
theorem c_X11_line_ {l : Launch}  {σ : St} {x1 x2 x3 x4 x5 x6 : Int} : CtrI vwCl WS NWs TM l yX11_line_ cX11_line_ 8 (some .boolean) rm_X11_line_ (fun ad => [.ref (ad 0), iv x1, iv x2, iv x3, iv x4, iv x5, iv x6]) σ (f_X11_line_ σ x1 x2 x3 x4 x5 x6) := by
  refine ctrZ_of (fun v σ' h => jzw_z h) (by decide +kernel) (fun ad => Nat.le_of_ble_eq_true rfl) (fun v σ' ad X hf F K => ?_)
  exact k_X11_line__b0 F (jzw_e hf) (fun v τ e => by cases e; exact K)
abbrev rm_X11_nearest : Room := { frames := 2, cells := 0, slots := 0, locals := 45 }
set_option maxRecDepth 100000 in
set_option maxHeartbeats 4000000 in
theorem k_X11_nearest_b14 {l : Launch} {ad : Nat → Nat} {X : Cx} (F : Ok vwCl WS NWs TM cX11_nearest 4 yX11_nearest.cls (some .int) ad l X) {σ : St} {x1 x2 x3 : Int} {y : ((Int × Int) ⊕ Int)} (hf : f_X11_nearest_b14 σ x1 x2 x3 = some y) (hn : ∀ z2 z3, y = .inl (z2, z3) → At vwCl TM 4 rm_X11_nearest ad X σ [(0, .ref (ad 0)), (1, iv x1), (2, iv z2), (3, iv z3)] [] 14) (hx0 : ∀ z2, y = .inr (z2) → At vwCl TM 4 rm_X11_nearest ad X σ [(2, iv z2)] [] 62) : At vwCl TM 4 rm_X11_nearest ad X σ [(0, .ref (ad 0)), (1, iv x1), (2, iv x2), (3, iv x3)] [] 14 := by
  unfold f_X11_nearest_b14 at hf
  refine a_iload_n F dX11_nearest_14 rfl 3 rfl ?_
  refine a_bipush F dX11_nearest_15 (by decide +kernel) ?_
  refine a_icmp_ge F hf (tgt := 62) dX11_nearest_17 (by decide) (fun hf => ?_) (fun hf => ?_)
  · refine a_iload_n F dX11_nearest_20 rfl 3 rfl ?_
    refine a_iload_n F dX11_nearest_21 rfl 1 rfl ?_
    refine a_icmp_eq F hf (tgt := 56) dX11_nearest_22 (by decide) (fun hf => ?_) (fun hf => ?_)
    · refine a_iinc F hf dX11_nearest_56 3 rfl (by decide) (fun x3_4 hf => ⟨[(3, iv x3_4), (0, .ref (ad 0)), (1, iv x1), (2, iv x2)], rfl, ?_⟩)
      refine a_goto F (tgt := 14) dX11_nearest_59 (by decide) ?_
      cases hf
      exact a_sub [1, 2, 3, 0] rfl (hn _ _ rfl)
    · refine a_aload_n F dX11_nearest_25 rfl 0 rfl ?_
      refine a_iload_n F dX11_nearest_26 rfl 3 rfl ?_
      refine a_callVIr F lk_RX11_148 tM_0 rfl c_X11_counts rfl rfl ⟨rfl, rfl⟩ ⟨Nat.le_of_ble_eq_true rfl, Nat.le_of_ble_eq_true rfl⟩ rfl (Nat.le_of_ble_eq_true rfl) dX11_nearest_27 hf (fun r_5 hf => ?_)
      refine a_if_eq F hf (tgt := 56) dX11_nearest_30 (by decide) (fun hf => ?_) (fun hf => ?_)
      · refine a_iinc F hf dX11_nearest_56 3 rfl (by decide) (fun x3_6 hf => ⟨[(3, iv x3_6), (0, .ref (ad 0)), (1, iv x1), (2, iv x2)], rfl, ?_⟩)
        refine a_goto F (tgt := 14) dX11_nearest_59 (by decide) ?_
        cases hf
        exact a_sub [1, 2, 3, 0] rfl (hn _ _ rfl)
      · refine a_iload_n F dX11_nearest_33 rfl 2 rfl ?_
        refine a_iconst F dX11_nearest_34 ?_
        refine a_icmp_eq F hf (tgt := 54) dX11_nearest_35 (by decide) (fun hf => ?_) (fun hf => ?_)
        · refine a_iload_n F dX11_nearest_54 rfl 3 rfl ?_
          refine a_topI hf (fun x2_7 hf => ?_)
          refine a_istore_n F (lv' := [(2, iv x2_7), (0, .ref (ad 0)), (1, iv x1), (3, iv x3)]) dX11_nearest_55 rfl (by decide) rfl ?_
          refine a_iinc F hf dX11_nearest_56 3 rfl (by decide) (fun x3_8 hf => ⟨[(3, iv x3_8), (2, iv x2_7), (0, .ref (ad 0)), (1, iv x1)], rfl, ?_⟩)
          refine a_goto F (tgt := 14) dX11_nearest_59 (by decide) ?_
          cases hf
          exact a_sub [2, 3, 1, 0] rfl (hn _ _ rfl)
        · refine a_aload_n F dX11_nearest_38 rfl 0 rfl ?_
          refine a_iload_n F dX11_nearest_39 rfl 3 rfl ?_
          refine a_iload_n F dX11_nearest_40 rfl 1 rfl ?_
          refine a_callVLr F lk_RX11_276 tM_0 rfl c_X11_apart rfl rfl ⟨rfl, rfl⟩ ⟨Nat.le_of_ble_eq_true rfl, Nat.le_of_ble_eq_true rfl⟩ rfl (Nat.le_of_ble_eq_true rfl) dX11_nearest_41 hf (fun r_9 hf => ?_)
          refine a_aload_n F dX11_nearest_44 rfl 0 rfl ?_
          refine a_iload_n F dX11_nearest_45 rfl 2 rfl ?_
          refine a_iload_n F dX11_nearest_46 rfl 1 rfl ?_
          refine a_callVLr F lk_RX11_276 tM_0 rfl c_X11_apart rfl rfl ⟨rfl, rfl⟩ ⟨Nat.le_of_ble_eq_true rfl, Nat.le_of_ble_eq_true rfl⟩ rfl (Nat.le_of_ble_eq_true rfl) dX11_nearest_47 hf (fun r_10 hf => ?_)
          refine a_lcmp_ge F hf (tgt := 56) dX11_nearest_50 dX11_nearest_51 (by decide) (fun hf => ?_) (fun hf => ?_)
          · refine a_iload_n F dX11_nearest_54 rfl 3 rfl ?_
            refine a_topI hf (fun x2_12 hf => ?_)
            refine a_istore_n F (lv' := [(2, iv x2_12), (0, .ref (ad 0)), (1, iv x1), (3, iv x3)]) dX11_nearest_55 rfl (by decide) rfl ?_
            refine a_iinc F hf dX11_nearest_56 3 rfl (by decide) (fun x3_13 hf => ⟨[(3, iv x3_13), (2, iv x2_12), (0, .ref (ad 0)), (1, iv x1)], rfl, ?_⟩)
            refine a_goto F (tgt := 14) dX11_nearest_59 (by decide) ?_
            cases hf
            exact a_sub [2, 3, 1, 0] rfl (hn _ _ rfl)
          · refine a_iinc F hf dX11_nearest_56 3 rfl (by decide) (fun x3_11 hf => ⟨[(3, iv x3_11), (0, .ref (ad 0)), (1, iv x1), (2, iv x2)], rfl, ?_⟩)
            refine a_goto F (tgt := 14) dX11_nearest_59 (by decide) ?_
            cases hf
            exact a_sub [1, 2, 3, 0] rfl (hn _ _ rfl)
  · cases hf
    exact a_sub [2] rfl (hx0 _ rfl)
set_option maxRecDepth 100000 in
set_option maxHeartbeats 4000000 in
theorem k_X11_nearest_b0 {l : Launch} {ad : Nat → Nat} {X : Cx} (F : Ok vwCl WS NWs TM cX11_nearest 4 yX11_nearest.cls (some .int) ad l X) {σ : St} {x1 : Int} {y : Int} (hf : f_X11_nearest_b0 σ x1 = some y) (hr : RetI vwCl TM cX11_nearest 4 rm_X11_nearest ad X y σ) : At vwCl TM 4 rm_X11_nearest ad X σ [(0, .ref (ad 0)), (1, iv x1)] [] 0 := by
  unfold f_X11_nearest_b0 at hf
  refine a_aload_n F dX11_nearest_0 rfl 0 rfl ?_
  refine a_iload_n F dX11_nearest_1 rfl 1 rfl ?_
  refine a_callVIr F lk_RX11_148 tM_0 rfl c_X11_counts rfl rfl ⟨rfl, rfl⟩ ⟨Nat.le_of_ble_eq_true rfl, Nat.le_of_ble_eq_true rfl⟩ rfl (Nat.le_of_ble_eq_true rfl) dX11_nearest_2 hf (fun r_1 hf => ?_)
  refine a_if_ne F hf (tgt := 10) dX11_nearest_5 (by decide) (fun hf => ?_) (fun hf => ?_)
  · refine a_iconst F dX11_nearest_8 ?_
    cases hf
    exact hr _ _ dX11_nearest_9
  · refine a_iconst F dX11_nearest_10 ?_
    refine a_topI hf (fun x2_2 hf => ?_)
    refine a_istore_n F (lv' := [(2, iv x2_2), (0, .ref (ad 0)), (1, iv x1)]) dX11_nearest_11 rfl (by decide) rfl ?_
    refine a_iconst F dX11_nearest_12 ?_
    refine a_topI hf (fun x3_3 hf => ?_)
    refine a_istore_n F (lv' := [(3, iv x3_3), (2, iv x2_2), (0, .ref (ad 0)), (1, iv x1)]) dX11_nearest_13 rfl (by decide) rfl ?_
    obtain ⟨q0, he, hf⟩ := jbind_elim hf
    refine a_sub [2, 3, 1, 0] rfl (loop_rule (P := (fun q => ∀ z2 z3, (z2, z3) = q → At vwCl TM 4 rm_X11_nearest ad X σ [(0, .ref (ad 0)), (1, iv x1), (2, iv z2), (3, iv z3)] [] 14)) (K := (fun q => (∀ z2, z2 = q → At vwCl TM 4 rm_X11_nearest ad X σ [(2, iv z2)] [] 62))) ?_ 1000 _ _ he ?_ _ _ rfl)
    · intro q y hy hn hx z2 z3 e
      subst e
      exact k_X11_nearest_b14 F hy (fun z2 z3 e => hn _ e _ _ rfl) (fun z2 e => (hx _ e) _ rfl)
    · intro x2_14 e
      subst e
      refine a_iload_n F dX11_nearest_62 rfl 0 rfl ?_
      cases hf
      exact hr _ _ dX11_nearest_63
set_option maxRecDepth 100000 in
set_option maxHeartbeats 4000000 in
theorem c_X11_nearest {l : Launch}  {σ : St} {x1 : Int} : CtrI vwCl WS NWs TM l yX11_nearest cX11_nearest 4 (some .int) rm_X11_nearest (fun ad => [.ref (ad 0), iv x1]) σ (rd (f_X11_nearest σ x1) σ) := by
  refine ctrI_of (by decide +kernel) (fun ad => Nat.le_of_ble_eq_true rfl) (fun v σ' ad X hf F K => ?_)
  obtain ⟨hf2, e2⟩ := rd_elim hf
  subst e2
  exact k_X11_nearest_b0 F hf2 K
