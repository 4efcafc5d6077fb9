abbrev rm_X11_brings : Room := { frames := 0, cells := 0, slots := 0, locals := 0 }
set_option maxRecDepth 100000 in
set_option maxHeartbeats 4000000 in
theorem k_X11_brings_b12 {l : Launch} {ad : Nat → Nat} {X : Cx} (F : Ok vwCl WS NWs TM cX11_brings 3 yX11_brings.cls none ad l X) {σ : St} {x1 : Int} {y : ((St × Int) ⊕ St)} (hf : f_X11_brings_b12 σ x1 = some y) (hn : ∀ τ z1, y = .inl (τ, z1) → At vwCl TM 3 rm_X11_brings ad X τ [(0, .ref (ad 0)), (1, iv z1)] [] 12) (hx0 : ∀ τ, y = .inr (τ) → At vwCl TM 3 rm_X11_brings ad X τ [(0, .ref (ad 0))] [] 94) : At vwCl TM 3 rm_X11_brings ad X σ [(0, .ref (ad 0)), (1, iv x1)] [] 12 := by
  unfold f_X11_brings_b12 at hf
  refine a_iload_n F dX11_brings_12 rfl 1 rfl ?_
  refine a_bipush F dX11_brings_13 (by decide +kernel) ?_
  refine a_icmp_ge F hf (tgt := 94) dX11_brings_15 (by decide) (fun hf => ?_) (fun hf => ?_)
  · refine a_bipush F dX11_brings_18 (by decide +kernel) ?_
    refine a_aload_n F dX11_brings_20 rfl 0 rfl ?_
    refine a_getI F (j := 8) tM_0 rfl rfl (by decide) inW11 w_621 dX11_brings_21 ?_
    refine a_imul F dX11_brings_24 ?_
    refine a_iload_n F dX11_brings_25 rfl 1 rfl ?_
    refine a_iadd F dX11_brings_26 ?_
    refine a_topI hf (fun x2_3 hf => ?_)
    refine a_istore_n F (lv' := [(2, iv x2_3), (0, .ref (ad 0)), (1, iv x1)]) dX11_brings_27 rfl (by decide) rfl ?_
    refine a_aload_n F dX11_brings_28 rfl 1 rfl ?_
    refine a_getR F (j := 3) tM_0 rfl rfl (by decide) inW11 w_526 dX11_brings_29 ?_
    refine a_iload_n F dX11_brings_32 rfl 2 rfl ?_
    refine a_aload_n F dX11_brings_33 rfl 1 rfl ?_
    refine a_getR F (j := 9) tM_0 rfl rfl (by decide) inW11 w_622 dX11_brings_34 ?_
    refine a_iload_n F dX11_brings_37 rfl 0 rfl ?_
    refine a_zald F tM_6 rfl (by decide) hf dX11_brings_38 (fun hf => ?_)
    refine a_zast F tM_1 rfl (by decide) hf dX11_brings_39 (fun σ_4 hf => ?_)
    refine a_aload_n F dX11_brings_40 rfl 1 rfl ?_
    refine a_getR F (j := 4) tM_0 rfl rfl (by decide) inW11 w_539 dX11_brings_41 ?_
    refine a_iload_n F dX11_brings_44 rfl 2 rfl ?_
    refine a_aload_n F dX11_brings_45 rfl 1 rfl ?_
    refine a_getR F (j := 10) tM_0 rfl rfl (by decide) inW11 w_623 dX11_brings_46 ?_
    refine a_iload_n F dX11_brings_49 rfl 0 rfl ?_
    refine a_iald F tM_7 rfl (by decide) hf dX11_brings_50 (fun hf => ?_)
    refine a_iast F tM_2 rfl (by decide) hf dX11_brings_51 (fun σ_5 hf => ?_)
    refine a_aload_n F dX11_brings_52 rfl 1 rfl ?_
    refine a_getR F (j := 5) tM_0 rfl rfl (by decide) inW11 w_540 dX11_brings_53 ?_
    refine a_iload_n F dX11_brings_56 rfl 2 rfl ?_
    refine a_aload_n F dX11_brings_57 rfl 1 rfl ?_
    refine a_getR F (j := 11) tM_0 rfl rfl (by decide) inW11 w_624 dX11_brings_58 ?_
    refine a_iload_n F dX11_brings_61 rfl 0 rfl ?_
    refine a_iald F tM_8 rfl (by decide) hf dX11_brings_62 (fun hf => ?_)
    refine a_iast F tM_3 rfl (by decide) hf dX11_brings_63 (fun σ_6 hf => ?_)
    refine a_aload_n F dX11_brings_64 rfl 1 rfl ?_
    refine a_getR F (j := 6) tM_0 rfl rfl (by decide) inW11 w_532 dX11_brings_65 ?_
    refine a_iload_n F dX11_brings_68 rfl 2 rfl ?_
    refine a_aload_n F dX11_brings_69 rfl 1 rfl ?_
    refine a_getR F (j := 12) tM_0 rfl rfl (by decide) inW11 w_625 dX11_brings_70 ?_
    refine a_iload_n F dX11_brings_73 rfl 0 rfl ?_
    refine a_iald F tM_9 rfl (by decide) hf dX11_brings_74 (fun hf => ?_)
    refine a_iast F tM_4 rfl (by decide) hf dX11_brings_75 (fun σ_7 hf => ?_)
    refine a_aload_n F dX11_brings_76 rfl 1 rfl ?_
    refine a_getR F (j := 7) tM_0 rfl rfl (by decide) inW11 w_533 dX11_brings_77 ?_
    refine a_iload_n F dX11_brings_80 rfl 2 rfl ?_
    refine a_aload_n F dX11_brings_81 rfl 1 rfl ?_
    refine a_getR F (j := 13) tM_0 rfl rfl (by decide) inW11 w_626 dX11_brings_82 ?_
    refine a_iload_n F dX11_brings_85 rfl 0 rfl ?_
    refine a_iald F tM_10 rfl (by decide) hf dX11_brings_86 (fun hf => ?_)
    refine a_iast F tM_5 rfl (by decide) hf dX11_brings_87 (fun σ_8 hf => ?_)
    refine a_iinc F hf dX11_brings_88 2 rfl (by decide) (fun x1_9 hf => ⟨[(1, iv x1_9), (2, iv x2_3), (0, .ref (ad 0))], rfl, ?_⟩)
    refine a_goto F (tgt := 12) dX11_brings_91 (by decide) ?_
    cases hf
    exact a_sub [2, 0] rfl (hn _ _ rfl)
  · cases hf
    exact a_sub [0] rfl (hx0 _ rfl)
set_option maxRecDepth 100000 in
set_option maxHeartbeats 4000000 in
theorem k_X11_brings_b0 {l : Launch} {ad : Nat → Nat} {X : Cx} (F : Ok vwCl WS NWs TM cX11_brings 3 yX11_brings.cls none ad l X) {σ : St} {y : St} (hf : f_X11_brings_b0 σ = some y) (hr : RetV vwCl TM cX11_brings 3 rm_X11_brings ad X y) : At vwCl TM 3 rm_X11_brings ad X σ [(0, .ref (ad 0))] [] 0 := by
  unfold f_X11_brings_b0 at hf
  refine a_aload_n F dX11_brings_0 rfl 0 rfl ?_
  refine a_dup F dX11_brings_1 rfl ?_
  refine a_getI F (j := 8) tM_0 rfl rfl (by decide) inW11 w_621 dX11_brings_2 ?_
  refine a_iconst F dX11_brings_5 ?_
  refine a_isub F dX11_brings_6 ?_
  refine a_putI F (j := 8) tM_0 rfl rfl (by decide) inW11 w_621 tyX11 tyX11_ok nmX11 rfl rfl hf dX11_brings_7 (fun σ_1 hf => ?_)
  refine a_iconst F dX11_brings_10 ?_
  refine a_topI hf (fun x1_2 hf => ?_)
  refine a_istore_n F (lv' := [(1, iv x1_2), (0, .ref (ad 0))]) dX11_brings_11 rfl (by decide) rfl ?_
  obtain ⟨q0, he, hf⟩ := jbind_elim hf
  refine a_sub [1, 0] rfl (loop_rule (P := (fun q => ∀ τ z1, (τ, z1) = q → At vwCl TM 3 rm_X11_brings ad X τ [(0, .ref (ad 0)), (1, iv z1)] [] 12)) (K := (fun q => (∀ τ, τ = q → At vwCl TM 3 rm_X11_brings ad X τ [(0, .ref (ad 0))] [] 94))) ?_ 1000 _ _ he ?_ _ _ rfl)
  · intro q y hy hn hx τ z1 e
    subst e
    exact k_X11_brings_b12 F hy (fun τ z1 e => hn _ e _ _ rfl) (fun τ e => (hx _ e) _ rfl)
  · intro σ_10 e
    subst e
    refine a_aload_n F dX11_brings_94 rfl 0 rfl ?_
    refine a_aload_n F dX11_brings_95 rfl 0 rfl ?_
    refine a_getR F (j := 14) tM_0 rfl rfl (by decide) inW11 w_627 dX11_brings_96 ?_
    refine a_aload_n F dX11_brings_99 rfl 0 rfl ?_
    refine a_getI F (j := 8) tM_0 rfl rfl (by decide) inW11 w_621 dX11_brings_100 ?_
    refine a_iald F tM_11 rfl (by decide) hf dX11_brings_103 (fun hf => ?_)
    refine a_putI F (j := 0) tM_0 rfl rfl (by decide) inW11 w_559 tyX11 tyX11_ok nmX11 rfl rfl hf dX11_brings_104 (fun σ_11 hf => ?_)
    refine a_aload_n F dX11_brings_107 rfl 0 rfl ?_
    refine a_aload_n F dX11_brings_108 rfl 0 rfl ?_
    refine a_getR F (j := 15) tM_0 rfl rfl (by decide) inW11 w_628 dX11_brings_109 ?_
    refine a_aload_n F dX11_brings_112 rfl 0 rfl ?_
    refine a_getI F (j := 8) tM_0 rfl rfl (by decide) inW11 w_621 dX11_brings_113 ?_
    refine a_iald F tM_12 rfl (by decide) hf dX11_brings_116 (fun hf => ?_)
    refine a_putI F (j := 1) tM_0 rfl rfl (by decide) inW11 w_560 tyX11 tyX11_ok nmX11 rfl rfl hf dX11_brings_117 (fun σ_12 hf => ?_)
    cases hf
    exact hr _ _ dX11_brings_120
set_option maxRecDepth 100000 in
set_option maxHeartbeats 4000000 in
theorem c_X11_brings {l : Launch}  {σ : St} : CtrV vwCl WS NWs TM l yX11_brings cX11_brings 3 none rm_X11_brings (fun ad => [.ref (ad 0)]) σ (f_X11_brings σ) := by
  refine ctrV_of (by decide +kernel) (fun ad => Nat.le_of_ble_eq_true rfl) (fun σ' ad X hf F K => ?_)
  exact k_X11_brings_b0 F hf K
abbrev rm_X11_closest : Room := { frames := 2, cells := 0, slots := 0, locals := 45 }
set_option maxRecDepth 100000 in
set_option maxHeartbeats 4000000 in
theorem k_X11_closest_b71 {l : Launch} {ad : Nat → Nat} {X : Cx} (F : Ok vwCl WS NWs TM cX11_closest 6 yX11_closest.cls (some .int) ad l X) {σ : St} {x1 x4 x5 : Int} {y : ((Int × Int × Int) ⊕ (Int × Int))} (hf : f_X11_closest_b71 σ x1 x4 x5 = some y) (hn : ∀ z2 z3 z5, y = .inl (z2, z3, z5) → At vwCl TM 6 rm_X11_closest ad X σ [(0, .ref (ad 0)), (1, iv x1), (2, iv z2), (3, iv z3), (4, iv x4), (5, iv z5)] [] 20) : At vwCl TM 6 rm_X11_closest ad X σ [(0, .ref (ad 0)), (1, iv x1), (4, iv x4), (5, iv x5)] [] 71 := by
  unfold f_X11_closest_b71 at hf
  refine a_iload F dX11_closest_71 2 rfl ?_
  refine a_topI hf (fun x2_9 hf => ?_)
  refine a_istore_n F (lv' := [(2, iv x2_9), (0, .ref (ad 0)), (1, iv x1), (4, iv x4), (5, iv x5)]) dX11_closest_73 rfl (by decide) rfl ?_
  refine a_iload F dX11_closest_74 4 rfl ?_
  refine a_topI hf (fun x3_10 hf => ?_)
  refine a_istore_n F (lv' := [(3, iv x3_10), (2, iv x2_9), (0, .ref (ad 0)), (1, iv x1), (4, iv x4), (5, iv x5)]) dX11_closest_76 rfl (by decide) rfl ?_
  refine a_iinc F hf dX11_closest_77 5 rfl (by decide) (fun x5_11 hf => ⟨[(5, iv x5_11), (3, iv x3_10), (2, iv x2_9), (0, .ref (ad 0)), (1, iv x1), (4, iv x4)], rfl, ?_⟩)
  refine a_goto F (tgt := 20) dX11_closest_80 (by decide) ?_
  cases hf
  exact a_sub [3, 4, 2, 1, 5, 0] rfl (hn _ _ _ rfl)
set_option maxRecDepth 100000 in
set_option maxHeartbeats 4000000 in
theorem k_X11_closest_b20 {l : Launch} {ad : Nat → Nat} {X : Cx} (F : Ok vwCl WS NWs TM cX11_closest 6 yX11_closest.cls (some .int) ad l X) {σ : St} {x1 x2 x3 x4 x5 : Int} {y : ((Int × Int × Int) ⊕ (Int × Int))} (hf : f_X11_closest_b20 σ x1 x2 x3 x4 x5 = some y) (hn : ∀ z2 z3 z5, y = .inl (z2, z3, z5) → At vwCl TM 6 rm_X11_closest ad X σ [(0, .ref (ad 0)), (1, iv x1), (2, iv z2), (3, iv z3), (4, iv x4), (5, iv z5)] [] 20) (hx0 : ∀ z2 z3, y = .inr ((z2, z3)) → At vwCl TM 6 rm_X11_closest ad X σ [(0, .ref (ad 0)), (1, iv x1), (2, iv z2), (3, iv z3), (4, iv x4)] [] 83) : At vwCl TM 6 rm_X11_closest ad X σ [(0, .ref (ad 0)), (1, iv x1), (2, iv x2), (3, iv x3), (4, iv x4), (5, iv x5)] [] 20 := by
  unfold f_X11_closest_b20 at hf
  refine a_iload F dX11_closest_20 5 rfl ?_
  refine a_bipush F dX11_closest_22 (by decide +kernel) ?_
  refine a_icmp_ge F hf (tgt := 83) dX11_closest_24 (by decide) (fun hf => ?_) (fun hf => ?_)
  · refine a_aload_n F dX11_closest_27 rfl 0 rfl ?_
    refine a_iload F dX11_closest_28 4 rfl ?_
    refine a_callVIr F lk_RX11_148 tM_0 rfl c_X11_counts rfl rfl ⟨rfl, rfl⟩ ⟨Nat.le_of_ble_eq_true rfl, Nat.le_of_ble_eq_true rfl⟩ rfl (Nat.le_of_ble_eq_true rfl) dX11_closest_30 hf (fun r_5 hf => ?_)
    refine a_if_eq F hf (tgt := 77) dX11_closest_33 (by decide) (fun hf => ?_) (fun hf => ?_)
    · refine a_iinc F hf dX11_closest_77 5 rfl (by decide) (fun x5_6 hf => ⟨[(5, iv x5_6), (0, .ref (ad 0)), (1, iv x1), (2, iv x2), (3, iv x3), (4, iv x4)], rfl, ?_⟩)
      refine a_goto F (tgt := 20) dX11_closest_80 (by decide) ?_
      cases hf
      exact a_sub [1, 2, 3, 4, 5, 0] rfl (hn _ _ _ rfl)
    · refine a_aload_n F dX11_closest_36 rfl 0 rfl ?_
      refine a_iload F dX11_closest_37 5 rfl ?_
      refine a_callVIr F lk_RX11_148 tM_0 rfl c_X11_counts rfl rfl ⟨rfl, rfl⟩ ⟨Nat.le_of_ble_eq_true rfl, Nat.le_of_ble_eq_true rfl⟩ rfl (Nat.le_of_ble_eq_true rfl) dX11_closest_39 hf (fun r_7 hf => ?_)
      refine a_if_eq F hf (tgt := 77) dX11_closest_42 (by decide) (fun hf => ?_) (fun hf => ?_)
      · refine a_iinc F hf dX11_closest_77 5 rfl (by decide) (fun x5_8 hf => ⟨[(5, iv x5_8), (0, .ref (ad 0)), (1, iv x1), (2, iv x2), (3, iv x3), (4, iv x4)], rfl, ?_⟩)
        refine a_goto F (tgt := 20) dX11_closest_80 (by decide) ?_
        cases hf
        exact a_sub [1, 2, 3, 4, 5, 0] rfl (hn _ _ _ rfl)
      · refine a_iload_n F dX11_closest_45 rfl 2 rfl ?_
        refine a_iconst F dX11_closest_46 ?_
        refine a_icmp_eq F hf (tgt := 71) dX11_closest_47 (by decide) (fun hf => ?_) (fun hf => ?_)
        · exact a_sub [0, 1, 4, 5] rfl (k_X11_closest_b71 F hf hn)
        · refine a_aload_n F dX11_closest_50 rfl 0 rfl ?_
          refine a_iload F dX11_closest_51 4 rfl ?_
          refine a_iload F dX11_closest_53 5 rfl ?_
          refine a_callVLr F lk_RX11_276 tM_0 rfl c_X11_apart rfl rfl ⟨rfl, rfl⟩ ⟨Nat.le_of_ble_eq_true rfl, Nat.le_of_ble_eq_true rfl⟩ rfl (Nat.le_of_ble_eq_true rfl) dX11_closest_55 hf (fun r_12 hf => ?_)
          refine a_aload_n F dX11_closest_58 rfl 0 rfl ?_
          refine a_iload_n F dX11_closest_59 rfl 2 rfl ?_
          refine a_iload_n F dX11_closest_60 rfl 3 rfl ?_
          refine a_callVLr F lk_RX11_276 tM_0 rfl c_X11_apart rfl rfl ⟨rfl, rfl⟩ ⟨Nat.le_of_ble_eq_true rfl, Nat.le_of_ble_eq_true rfl⟩ rfl (Nat.le_of_ble_eq_true rfl) dX11_closest_61 hf (fun r_13 hf => ?_)
          refine a_lcmp_lt F hf (tgt := 71) dX11_closest_64 dX11_closest_65 (by decide) (fun hf => ?_) (fun hf => ?_)
          · exact a_sub [0, 1, 4, 5] rfl (k_X11_closest_b71 F hf hn)
          · refine a_goto F (tgt := 77) dX11_closest_68 (by decide) ?_
            refine a_iinc F hf dX11_closest_77 5 rfl (by decide) (fun x5_14 hf => ⟨[(5, iv x5_14), (0, .ref (ad 0)), (1, iv x1), (2, iv x2), (3, iv x3), (4, iv x4)], rfl, ?_⟩)
            refine a_goto F (tgt := 20) dX11_closest_80 (by decide) ?_
            cases hf
            exact a_sub [1, 2, 3, 4, 5, 0] rfl (hn _ _ _ rfl)
  · cases hf
    exact a_sub [0, 1, 2, 3, 4] rfl (hx0 _ _ rfl)
set_option maxRecDepth 100000 in
set_option maxHeartbeats 4000000 in
theorem k_X11_closest_b7 {l : Launch} {ad : Nat → Nat} {X : Cx} (F : Ok vwCl WS NWs TM cX11_closest 6 yX11_closest.cls (some .int) ad l X) {σ : St} {x1 x2 x3 x4 : Int} {y : ((Int × Int × Int) ⊕ (Int × Int))} (hf : f_X11_closest_b7 σ x1 x2 x3 x4 = some y) (hn : ∀ z2 z3 z4, y = .inl (z2, z3, z4) → At vwCl TM 6 rm_X11_closest ad X σ [(0, .ref (ad 0)), (1, iv x1), (2, iv z2), (3, iv z3), (4, iv z4)] [] 7) (hx0 : ∀ z2 z3, y = .inr ((z2, z3)) → At vwCl TM 6 rm_X11_closest ad X σ [(0, .ref (ad 0)), (1, iv x1), (2, iv z2), (3, iv z3)] [] 89) : At vwCl TM 6 rm_X11_closest ad X σ [(0, .ref (ad 0)), (1, iv x1), (2, iv x2), (3, iv x3), (4, iv x4)] [] 7 := by
  unfold f_X11_closest_b7 at hf
  refine a_iload F dX11_closest_7 4 rfl ?_
  refine a_bipush F dX11_closest_9 (by decide +kernel) ?_
  refine a_icmp_ge F hf (tgt := 89) dX11_closest_11 (by decide) (fun hf => ?_) (fun hf => ?_)
  · refine a_iload F dX11_closest_14 4 rfl ?_
    refine a_iconst F dX11_closest_16 ?_
    refine a_iadd F dX11_closest_17 ?_
    refine a_topI hf (fun x5_4 hf => ?_)
    refine a_istore F (lv' := [(5, iv x5_4), (0, .ref (ad 0)), (1, iv x1), (2, iv x2), (3, iv x3), (4, iv x4)]) dX11_closest_18 (by decide) rfl ?_
    obtain ⟨q0, he, hf⟩ := jbind_elim hf
    refine a_sub [1, 2, 3, 4, 5, 0] rfl (loop_rule (P := (fun q => ∀ z2 z3 z5, (z2, z3, z5) = q → At vwCl TM 6 rm_X11_closest ad X σ [(0, .ref (ad 0)), (1, iv x1), (2, iv z2), (3, iv z3), (4, iv x4), (5, iv z5)] [] 20)) (K := (fun q => (∀ z2 z3, (z2, z3) = q → At vwCl TM 6 rm_X11_closest ad X σ [(0, .ref (ad 0)), (1, iv x1), (2, iv z2), (3, iv z3), (4, iv x4)] [] 83))) ?_ 1000 _ _ he ?_ _ _ _ rfl)
    · intro q y hy hn hx z2 z3 z5 e
      subst e
      exact k_X11_closest_b20 F hy (fun z2 z3 z5 e => hn _ e _ _ _ rfl) (fun z2 z3 e => (hx _ e) _ _ rfl)
    · intro x2_15 x3_16 e
      subst e
      refine a_iinc F hf dX11_closest_83 4 rfl (by decide) (fun x4_17 hf => ⟨[(4, iv x4_17), (0, .ref (ad 0)), (1, iv x1), (2, iv x2_15), (3, iv x3_16)], rfl, ?_⟩)
      refine a_goto F (tgt := 7) dX11_closest_86 (by decide) ?_
      cases hf
      exact a_sub [1, 2, 3, 4, 0] rfl (hn _ _ _ rfl)
  · cases hf
    exact a_sub [0, 1, 2, 3] rfl (hx0 _ _ rfl)
set_option maxRecDepth 100000 in
set_option maxHeartbeats 4000000 in
theorem k_X11_closest_b0 {l : Launch} {ad : Nat → Nat} {X : Cx} (F : Ok vwCl WS NWs TM cX11_closest 6 yX11_closest.cls (some .int) ad l X) {σ : St} {x1 : Int} {y : Int} (hf : f_X11_closest_b0 σ x1 = some y) (hr : RetI vwCl TM cX11_closest 6 rm_X11_closest ad X y σ) : At vwCl TM 6 rm_X11_closest ad X σ [(0, .ref (ad 0)), (1, iv x1)] [] 0 := by
  unfold f_X11_closest_b0 at hf
  refine a_iconst F dX11_closest_0 ?_
  refine a_topI hf (fun x2_1 hf => ?_)
  refine a_istore_n F (lv' := [(2, iv x2_1), (0, .ref (ad 0)), (1, iv x1)]) dX11_closest_1 rfl (by decide) rfl ?_
  refine a_iconst F dX11_closest_2 ?_
  refine a_topI hf (fun x3_2 hf => ?_)
  refine a_istore_n F (lv' := [(3, iv x3_2), (2, iv x2_1), (0, .ref (ad 0)), (1, iv x1)]) dX11_closest_3 rfl (by decide) rfl ?_
  refine a_iconst F dX11_closest_4 ?_
  refine a_topI hf (fun x4_3 hf => ?_)
  refine a_istore F (lv' := [(4, iv x4_3), (3, iv x3_2), (2, iv x2_1), (0, .ref (ad 0)), (1, iv x1)]) dX11_closest_5 (by decide) rfl ?_
  obtain ⟨q0, he, hf⟩ := jbind_elim hf
  refine a_sub [3, 4, 2, 1, 0] rfl (loop_rule (P := (fun q => ∀ z2 z3 z4, (z2, z3, z4) = q → At vwCl TM 6 rm_X11_closest ad X σ [(0, .ref (ad 0)), (1, iv x1), (2, iv z2), (3, iv z3), (4, iv z4)] [] 7)) (K := (fun q => (∀ z2 z3, (z2, z3) = q → At vwCl TM 6 rm_X11_closest ad X σ [(0, .ref (ad 0)), (1, iv x1), (2, iv z2), (3, iv z3)] [] 89))) ?_ 1000 _ _ he ?_ _ _ _ rfl)
  · intro q y hy hn hx z2 z3 z4 e
    subst e
    exact k_X11_closest_b7 F hy (fun z2 z3 z4 e => hn _ e _ _ _ rfl) (fun z2 z3 e => (hx _ e) _ _ rfl)
  · intro x2_18 x3_19 e
    subst e
    refine a_iload_n F dX11_closest_89 rfl 2 rfl ?_
    refine a_iconst F dX11_closest_90 ?_
    refine a_icmp_ne F hf (tgt := 96) dX11_closest_91 (by decide) (fun hf => ?_) (fun hf => ?_)
    · refine a_iconst F dX11_closest_94 ?_
      cases hf
      exact hr _ _ dX11_closest_95
    · refine a_iload_n F dX11_closest_96 rfl 1 rfl ?_
      refine a_if_ne F hf (tgt := 104) dX11_closest_97 (by decide) (fun hf => ?_) (fun hf => ?_)
      · refine a_iload_n F dX11_closest_100 rfl 2 rfl ?_
        refine a_goto F (tgt := 129) dX11_closest_101 (by decide) ?_
        cases hf
        exact hr _ _ dX11_closest_129
      · refine a_iload_n F dX11_closest_104 rfl 1 rfl ?_
        refine a_iconst F dX11_closest_105 ?_
        refine a_icmp_ne F hf (tgt := 113) dX11_closest_106 (by decide) (fun hf => ?_) (fun hf => ?_)
        · refine a_iload_n F dX11_closest_109 rfl 3 rfl ?_
          refine a_goto F (tgt := 129) dX11_closest_110 (by decide) ?_
          cases hf
          exact hr _ _ dX11_closest_129
        · refine a_iload_n F dX11_closest_113 rfl 1 rfl ?_
          refine a_iconst F dX11_closest_114 ?_
          refine a_icmp_ne F hf (tgt := 128) dX11_closest_115 (by decide) (fun hf => ?_) (fun hf => ?_)
          · refine a_aload_n F dX11_closest_118 rfl 0 rfl ?_
            refine a_iload_n F dX11_closest_119 rfl 2 rfl ?_
            refine a_iload_n F dX11_closest_120 rfl 3 rfl ?_
            refine a_callVLr F lk_RX11_276 tM_0 rfl c_X11_apart rfl rfl ⟨rfl, rfl⟩ ⟨Nat.le_of_ble_eq_true rfl, Nat.le_of_ble_eq_true rfl⟩ rfl (Nat.le_of_ble_eq_true rfl) dX11_closest_121 hf (fun r_20 hf => ?_)
            refine a_l2i F dX11_closest_124 ?_
            refine a_goto F (tgt := 129) dX11_closest_125 (by decide) ?_
            cases hf
            exact hr _ _ dX11_closest_129
          · refine a_iconst F dX11_closest_128 ?_
            cases hf
            exact hr _ _ dX11_closest_129
set_option maxRecDepth 100000 in
set_option maxHeartbeats 4000000 in
theorem c_X11_closest {l : Launch}  {σ : St} {x1 : Int} : CtrI vwCl WS NWs TM l yX11_closest cX11_closest 6 (some .int) rm_X11_closest (fun ad => [.ref (ad 0), iv x1]) σ (rd (f_X11_closest σ x1) σ) := by
  refine ctrI_of (by decide +kernel) (fun ad => Nat.le_of_ble_eq_true rfl) (fun v σ' ad X hf F K => ?_)
  obtain ⟨hf2, e2⟩ := rd_elim hf
  subst e2
  exact k_X11_closest_b0 F hf2 K
abbrev rm_X11_common : Room := { frames := 0, cells := 0, slots := 0, locals := 0 }
set_option maxRecDepth 100000 in
set_option maxHeartbeats 4000000 in
theorem k_X11_common_b28 {l : Launch} {ad : Nat → Nat} {X : Cx} (F : Ok vwCl WS NWs TM cX11_common 10 yX11_common.cls (some .long) ad l X) {σ : St} {x4 x6 : Int} {y : ((Int × Int) ⊕ Int)} (hf : f_X11_common_b28 x4 x6 = some y) (hn : ∀ z4 z6, y = .inl (z4, z6) → At vwCl TM 10 rm_X11_common ad X σ [(4, jv z4), (6, jv z6)] [] 28) (hx0 : ∀ z4, y = .inr (z4) → At vwCl TM 10 rm_X11_common ad X σ [(4, jv z4)] [] 53) : At vwCl TM 10 rm_X11_common ad X σ [(4, jv x4), (6, jv x6)] [] 28 := by
  unfold f_X11_common_b28 at hf
  refine a_lload F dX11_common_28 1 rfl ?_
  refine a_lconst F (n := 0) dX11_common_30 (by decide +kernel) ?_
  refine a_lcmp_eq F hf (tgt := 53) dX11_common_31 dX11_common_32 (by decide) (fun hf => ?_) (fun hf => ?_)
  · cases hf
    exact a_sub [0] rfl (hx0 _ rfl)
  · refine a_lload F dX11_common_35 0 rfl ?_
    refine a_lload F dX11_common_37 1 rfl ?_
    refine a_lrem F hf dX11_common_39 (fun hf => ?_)
    refine a_topJ hf (fun x8_3 hf => ?_)
    refine a_lstore F (lv' := [(8, jv x8_3), (4, jv x4), (6, jv x6)]) dX11_common_40 (by decide) rfl ?_
    refine a_lload F dX11_common_42 2 rfl ?_
    refine a_topJ hf (fun x4_4 hf => ?_)
    refine a_lstore F (lv' := [(4, jv x4_4), (8, jv x8_3), (6, jv x6)]) dX11_common_44 (by decide) rfl ?_
    refine a_lload F dX11_common_46 1 rfl ?_
    refine a_topJ hf (fun x6_5 hf => ?_)
    refine a_lstore F (lv' := [(6, jv x6_5), (4, jv x4_4), (8, jv x8_3)]) dX11_common_48 (by decide) rfl ?_
    refine a_goto F (tgt := 28) dX11_common_50 (by decide) ?_
    cases hf
    exact a_sub [1, 0] rfl (hn _ _ rfl)
set_option maxRecDepth 100000 in
set_option maxHeartbeats 4000000 in
theorem k_X11_common_b12 {l : Launch} {ad : Nat → Nat} {X : Cx} (F : Ok vwCl WS NWs TM cX11_common 10 yX11_common.cls (some .long) ad l X) {σ : St} {x2 t0 : Int} {y : Int} (hf : f_X11_common_b12 x2 t0 = some y) (hr : RetL vwCl TM cX11_common 10 rm_X11_common ad X y σ) : At vwCl TM 10 rm_X11_common ad X σ [(2, jv x2)] [jv t0] 12 := by
  unfold f_X11_common_b12 at hf
  refine a_topJ hf (fun x4_1 hf => ?_)
  refine a_lstore F (lv' := [(4, jv x4_1), (2, jv x2)]) dX11_common_12 (by decide) rfl ?_
  refine a_lload_n F dX11_common_14 rfl 1 rfl ?_
  refine a_lconst F (n := 0) dX11_common_15 (by decide +kernel) ?_
  refine a_lcmp_ge F hf (tgt := 25) dX11_common_16 dX11_common_17 (by decide) (fun hf => ?_) (fun hf => ?_)
  · refine a_lload_n F dX11_common_20 rfl 1 rfl ?_
    refine a_lneg F dX11_common_21 ?_
    refine a_goto F (tgt := 26) dX11_common_22 (by decide) ?_
    refine a_topJ hf (fun x6_7 hf => ?_)
    refine a_lstore F (lv' := [(6, jv x6_7), (4, jv x4_1), (2, jv x2)]) dX11_common_26 (by decide) rfl ?_
    obtain ⟨q0, he, hf⟩ := jbind_elim hf
    refine a_sub [1, 0] rfl (loop_rule (P := (fun q => ∀ z4 z6, (z4, z6) = q → At vwCl TM 10 rm_X11_common ad X σ [(4, jv z4), (6, jv z6)] [] 28)) (K := (fun q => (∀ z4, z4 = q → At vwCl TM 10 rm_X11_common ad X σ [(4, jv z4)] [] 53))) ?_ 1000 _ _ he ?_ _ _ rfl)
    · intro q y hy hn hx z4 z6 e
      subst e
      exact k_X11_common_b28 F hy (fun z4 z6 e => hn _ e _ _ rfl) (fun z4 e => (hx _ e) _ rfl)
    · intro x4_8 e
      subst e
      refine a_lload F dX11_common_53 0 rfl ?_
      cases hf
      exact hr _ _ dX11_common_55
  · refine a_lload_n F dX11_common_25 rfl 1 rfl ?_
    refine a_topJ hf (fun x6_2 hf => ?_)
    refine a_lstore F (lv' := [(6, jv x6_2), (4, jv x4_1), (2, jv x2)]) dX11_common_26 (by decide) rfl ?_
    obtain ⟨q0, he, hf⟩ := jbind_elim hf
    refine a_sub [1, 0] rfl (loop_rule (P := (fun q => ∀ z4 z6, (z4, z6) = q → At vwCl TM 10 rm_X11_common ad X σ [(4, jv z4), (6, jv z6)] [] 28)) (K := (fun q => (∀ z4, z4 = q → At vwCl TM 10 rm_X11_common ad X σ [(4, jv z4)] [] 53))) ?_ 1000 _ _ he ?_ _ _ rfl)
    · intro q y hy hn hx z4 z6 e
      subst e
      exact k_X11_common_b28 F hy (fun z4 z6 e => hn _ e _ _ rfl) (fun z4 e => (hx _ e) _ rfl)
    · intro x4_6 e
      subst e
      refine a_lload F dX11_common_53 0 rfl ?_
      cases hf
      exact hr _ _ dX11_common_55
set_option maxRecDepth 100000 in
set_option maxHeartbeats 4000000 in
theorem k_X11_common_b0 {l : Launch} {ad : Nat → Nat} {X : Cx} (F : Ok vwCl WS NWs TM cX11_common 10 yX11_common.cls (some .long) ad l X) {σ : St} {x0 x2 : Int} {y : Int} (hf : f_X11_common_b0 x0 x2 = some y) (hr : RetL vwCl TM cX11_common 10 rm_X11_common ad X y σ) : At vwCl TM 10 rm_X11_common ad X σ [(0, jv x0), (2, jv x2)] [] 0 := by
  unfold f_X11_common_b0 at hf
  refine a_lload_n F dX11_common_0 rfl 0 rfl ?_
  refine a_lconst F (n := 0) dX11_common_1 (by decide +kernel) ?_
  refine a_lcmp_ge F hf (tgt := 11) dX11_common_2 dX11_common_3 (by decide) (fun hf => ?_) (fun hf => ?_)
  · refine a_lload_n F dX11_common_6 rfl 0 rfl ?_
    refine a_lneg F dX11_common_7 ?_
    refine a_goto F (tgt := 12) dX11_common_8 (by decide) ?_
    exact a_sub [1] rfl (k_X11_common_b12 F hf hr)
  · refine a_lload_n F dX11_common_11 rfl 0 rfl ?_
    exact a_sub [1] rfl (k_X11_common_b12 F hf hr)
set_option maxRecDepth 100000 in
set_option maxHeartbeats 4000000 in
theorem c_X11_common {l : Launch}  {σ : St} {x0 x2 : Int} : CtrL vwCl WS NWs TM l yX11_common cX11_common 10 (some .long) rm_X11_common (fun ad => [jv x0, jv x2]) σ (rd (f_X11_common x0 x2) σ) := by
  refine ctrL_of (by decide +kernel) (fun ad => Nat.le_of_ble_eq_true rfl) (fun v σ' ad X hf F K => ?_)
  obtain ⟨hf2, e2⟩ := rd_elim hf
  subst e2
  exact k_X11_common_b0 F hf2 K
abbrev rm_X11_endsOn : Room := { frames := 3, cells := 0, slots := 0, locals := 74 }
set_option maxRecDepth 100000 in
set_option maxHeartbeats 4000000 in
theorem k_X11_endsOn_b98 {l : Launch} {ad : Nat → Nat} {X : Cx} (F : Ok vwCl WS NWs TM cX11_endsOn 3 yX11_endsOn.cls none ad l X) {σ : St} {x1 x2 : Int} {y : ((St × Int) ⊕ St)} (hf : f_X11_endsOn_b98 σ x1 x2 = some y) (hn : ∀ τ z2, y = .inl (τ, z2) → At vwCl TM 3 rm_X11_endsOn ad X τ [(0, .ref (ad 0)), (1, iv x1), (2, iv z2)] [] 12) : At vwCl TM 3 rm_X11_endsOn ad X σ [(0, .ref (ad 0)), (1, iv x1), (2, iv x2)] [] 98 := by
  unfold f_X11_endsOn_b98 at hf
  refine a_aload_n F dX11_endsOn_98 rfl 0 rfl ?_
  refine a_iload_n F dX11_endsOn_99 rfl 2 rfl ?_
  refine a_putI F (j := 28) tM_0 rfl rfl (by decide) inW11 w_593 tyX11 tyX11_ok nmX11 rfl rfl hf dX11_endsOn_100 (fun σ_6 hf => ?_)
  refine a_iinc F hf dX11_endsOn_103 2 rfl (by decide) (fun x2_7 hf => ⟨[(2, iv x2_7), (0, .ref (ad 0)), (1, iv x1)], rfl, ?_⟩)
  refine a_goto F (tgt := 12) dX11_endsOn_106 (by decide) ?_
  cases hf
  exact a_sub [1, 2, 0] rfl (hn _ _ rfl)
set_option maxRecDepth 100000 in
set_option maxHeartbeats 4000000 in
theorem k_X11_endsOn_b77 {l : Launch} {ad : Nat → Nat} {X : Cx} (F : Ok vwCl WS NWs TM cX11_endsOn 3 yX11_endsOn.cls none ad l X) {σ : St} {x1 x2 : Int} {y : ((St × Int) ⊕ St)} (hf : f_X11_endsOn_b77 σ x1 x2 = some y) (hn : ∀ τ z2, y = .inl (τ, z2) → At vwCl TM 3 rm_X11_endsOn ad X τ [(0, .ref (ad 0)), (1, iv x1), (2, iv z2)] [] 12) : At vwCl TM 3 rm_X11_endsOn ad X σ [(0, .ref (ad 0)), (1, iv x1), (2, iv x2)] [] 77 := by
  unfold f_X11_endsOn_b77 at hf
  refine a_aload_n F dX11_endsOn_77 rfl 0 rfl ?_
  refine a_getI F (j := 28) tM_0 rfl rfl (by decide) inW11 w_593 dX11_endsOn_78 ?_
  refine a_iconst F dX11_endsOn_81 ?_
  refine a_icmp_eq F hf (tgt := 98) dX11_endsOn_82 (by decide) (fun hf => ?_) (fun hf => ?_)
  · exact a_sub [0, 1, 2] rfl (k_X11_endsOn_b98 F hf hn)
  · refine a_aload_n F dX11_endsOn_85 rfl 0 rfl ?_
    refine a_iload_n F dX11_endsOn_86 rfl 1 rfl ?_
    refine a_iload_n F dX11_endsOn_87 rfl 2 rfl ?_
    refine a_aload_n F dX11_endsOn_88 rfl 0 rfl ?_
    refine a_getI F (j := 28) tM_0 rfl rfl (by decide) inW11 w_593 dX11_endsOn_89 ?_
    refine a_callVIr F lk_RX11_206 tM_0 rfl c_X11_along rfl rfl ⟨rfl, rfl⟩ ⟨Nat.le_of_ble_eq_true rfl, Nat.le_of_ble_eq_true rfl⟩ rfl (Nat.le_of_ble_eq_true rfl) dX11_endsOn_92 hf (fun r_8 hf => ?_)
    refine a_if_le F hf (tgt := 103) dX11_endsOn_95 (by decide) (fun hf => ?_) (fun hf => ?_)
    · exact a_sub [0, 1, 2] rfl (k_X11_endsOn_b98 F hf hn)
    · refine a_iinc F hf dX11_endsOn_103 2 rfl (by decide) (fun x2_9 hf => ⟨[(2, iv x2_9), (0, .ref (ad 0)), (1, iv x1)], rfl, ?_⟩)
      refine a_goto F (tgt := 12) dX11_endsOn_106 (by decide) ?_
      cases hf
      exact a_sub [1, 2, 0] rfl (hn _ _ rfl)
set_option maxRecDepth 100000 in
set_option maxHeartbeats 4000000 in
theorem k_X11_endsOn_b72 {l : Launch} {ad : Nat → Nat} {X : Cx} (F : Ok vwCl WS NWs TM cX11_endsOn 3 yX11_endsOn.cls none ad l X) {σ : St} {x1 x2 : Int} {y : ((St × Int) ⊕ St)} (hf : f_X11_endsOn_b72 σ x1 x2 = some y) (hn : ∀ τ z2, y = .inl (τ, z2) → At vwCl TM 3 rm_X11_endsOn ad X τ [(0, .ref (ad 0)), (1, iv x1), (2, iv z2)] [] 12) : At vwCl TM 3 rm_X11_endsOn ad X σ [(0, .ref (ad 0)), (1, iv x1), (2, iv x2)] [] 72 := by
  unfold f_X11_endsOn_b72 at hf
  refine a_aload_n F dX11_endsOn_72 rfl 0 rfl ?_
  refine a_iload_n F dX11_endsOn_73 rfl 2 rfl ?_
  refine a_putI F (j := 27) tM_0 rfl rfl (by decide) inW11 w_592 tyX11 tyX11_ok nmX11 rfl rfl hf dX11_endsOn_74 (fun σ_5 hf => ?_)
  exact a_sub [0, 1, 2] rfl (k_X11_endsOn_b77 F hf hn)
set_option maxRecDepth 100000 in
set_option maxHeartbeats 4000000 in
theorem k_X11_endsOn_b12 {l : Launch} {ad : Nat → Nat} {X : Cx} (F : Ok vwCl WS NWs TM cX11_endsOn 3 yX11_endsOn.cls none ad l X) {σ : St} {x1 x2 : Int} {y : ((St × Int) ⊕ St)} (hf : f_X11_endsOn_b12 σ x1 x2 = some y) (hn : ∀ τ z2, y = .inl (τ, z2) → At vwCl TM 3 rm_X11_endsOn ad X τ [(0, .ref (ad 0)), (1, iv x1), (2, iv z2)] [] 12) (hx0 : ∀ τ, y = .inr (τ) → At vwCl TM 3 rm_X11_endsOn ad X τ [] [] 109) : At vwCl TM 3 rm_X11_endsOn ad X σ [(0, .ref (ad 0)), (1, iv x1), (2, iv x2)] [] 12 := by
  unfold f_X11_endsOn_b12 at hf
  refine a_iload_n F dX11_endsOn_12 rfl 2 rfl ?_
  refine a_aload_n F dX11_endsOn_13 rfl 0 rfl ?_
  refine a_getI F (j := 20) tM_0 rfl rfl (by decide) inW11 w_568 dX11_endsOn_14 ?_
  refine a_icmp_ge F hf (tgt := 109) dX11_endsOn_17 (by decide) (fun hf => ?_) (fun hf => ?_)
  · refine a_aload_n F dX11_endsOn_20 rfl 0 rfl ?_
    refine a_iload_n F dX11_endsOn_21 rfl 1 rfl ?_
    refine a_aload_n F dX11_endsOn_22 rfl 0 rfl ?_
    refine a_getR F (j := 21) tM_0 rfl rfl (by decide) inW11 w_561 dX11_endsOn_23 ?_
    refine a_iload_n F dX11_endsOn_26 rfl 2 rfl ?_
    refine a_lald F tM_16 rfl (by decide) hf dX11_endsOn_27 (fun hf => ?_)
    refine a_aload_n F dX11_endsOn_28 rfl 0 rfl ?_
    refine a_getR F (j := 22) tM_0 rfl rfl (by decide) inW11 w_563 dX11_endsOn_29 ?_
    refine a_iload_n F dX11_endsOn_32 rfl 2 rfl ?_
    refine a_lald F tM_17 rfl (by decide) hf dX11_endsOn_33 (fun hf => ?_)
    refine a_aload_n F dX11_endsOn_34 rfl 0 rfl ?_
    refine a_getR F (j := 23) tM_0 rfl rfl (by decide) inW11 w_562 dX11_endsOn_35 ?_
    refine a_iload_n F dX11_endsOn_38 rfl 2 rfl ?_
    refine a_lald F tM_18 rfl (by decide) hf dX11_endsOn_39 (fun hf => ?_)
    refine a_callVLr F lk_RX11_178 tM_0 rfl c_X11_over rfl rfl ⟨rfl, rfl⟩ ⟨Nat.le_of_ble_eq_true rfl, Nat.le_of_ble_eq_true rfl⟩ rfl (Nat.le_of_ble_eq_true rfl) dX11_endsOn_40 hf (fun r_4 hf => ?_)
    refine a_lconst F (n := 0) dX11_endsOn_43 (by decide +kernel) ?_
    refine a_lcmp_eq F hf (tgt := 51) dX11_endsOn_44 dX11_endsOn_45 (by decide) (fun hf => ?_) (fun hf => ?_)
    · refine a_aload_n F dX11_endsOn_51 rfl 0 rfl ?_
      refine a_getI F (j := 27) tM_0 rfl rfl (by decide) inW11 w_592 dX11_endsOn_52 ?_
      refine a_iconst F dX11_endsOn_55 ?_
      refine a_icmp_eq F hf (tgt := 72) dX11_endsOn_56 (by decide) (fun hf => ?_) (fun hf => ?_)
      · exact a_sub [0, 1, 2] rfl (k_X11_endsOn_b72 F hf hn)
      · refine a_aload_n F dX11_endsOn_59 rfl 0 rfl ?_
        refine a_iload_n F dX11_endsOn_60 rfl 1 rfl ?_
        refine a_iload_n F dX11_endsOn_61 rfl 2 rfl ?_
        refine a_aload_n F dX11_endsOn_62 rfl 0 rfl ?_
        refine a_getI F (j := 27) tM_0 rfl rfl (by decide) inW11 w_592 dX11_endsOn_63 ?_
        refine a_callVIr F lk_RX11_206 tM_0 rfl c_X11_along rfl rfl ⟨rfl, rfl⟩ ⟨Nat.le_of_ble_eq_true rfl, Nat.le_of_ble_eq_true rfl⟩ rfl (Nat.le_of_ble_eq_true rfl) dX11_endsOn_66 hf (fun r_10 hf => ?_)
        refine a_if_ge F hf (tgt := 77) dX11_endsOn_69 (by decide) (fun hf => ?_) (fun hf => ?_)
        · exact a_sub [0, 1, 2] rfl (k_X11_endsOn_b72 F hf hn)
        · exact a_sub [0, 1, 2] rfl (k_X11_endsOn_b77 F hf hn)
    · refine a_goto F (tgt := 103) dX11_endsOn_48 (by decide) ?_
      refine a_iinc F hf dX11_endsOn_103 2 rfl (by decide) (fun x2_11 hf => ⟨[(2, iv x2_11), (0, .ref (ad 0)), (1, iv x1)], rfl, ?_⟩)
      refine a_goto F (tgt := 12) dX11_endsOn_106 (by decide) ?_
      cases hf
      exact a_sub [1, 2, 0] rfl (hn _ _ rfl)
  · cases hf
    exact a_sub [] rfl (hx0 _ rfl)
set_option maxRecDepth 100000 in
set_option maxHeartbeats 4000000 in
theorem k_X11_endsOn_b0 {l : Launch} {ad : Nat → Nat} {X : Cx} (F : Ok vwCl WS NWs TM cX11_endsOn 3 yX11_endsOn.cls none ad l X) {σ : St} {x1 : Int} {y : St} (hf : f_X11_endsOn_b0 σ x1 = some y) (hr : RetV vwCl TM cX11_endsOn 3 rm_X11_endsOn ad X y) : At vwCl TM 3 rm_X11_endsOn ad X σ [(0, .ref (ad 0)), (1, iv x1)] [] 0 := by
  unfold f_X11_endsOn_b0 at hf
  refine a_aload_n F dX11_endsOn_0 rfl 0 rfl ?_
  refine a_iconst F dX11_endsOn_1 ?_
  refine a_putI F (j := 27) tM_0 rfl rfl (by decide) inW11 w_592 tyX11 tyX11_ok nmX11 rfl rfl hf dX11_endsOn_2 (fun σ_1 hf => ?_)
  refine a_aload_n F dX11_endsOn_5 rfl 0 rfl ?_
  refine a_iconst F dX11_endsOn_6 ?_
  refine a_putI F (j := 28) tM_0 rfl rfl (by decide) inW11 w_593 tyX11 tyX11_ok nmX11 rfl rfl hf dX11_endsOn_7 (fun σ_2 hf => ?_)
  refine a_iconst F dX11_endsOn_10 ?_
  refine a_topI hf (fun x2_3 hf => ?_)
  refine a_istore_n F (lv' := [(2, iv x2_3), (0, .ref (ad 0)), (1, iv x1)]) dX11_endsOn_11 rfl (by decide) rfl ?_
  obtain ⟨q0, he, hf⟩ := jbind_elim hf
  refine a_sub [1, 2, 0] rfl (loop_rule (P := (fun q => ∀ τ z2, (τ, z2) = q → At vwCl TM 3 rm_X11_endsOn ad X τ [(0, .ref (ad 0)), (1, iv x1), (2, iv z2)] [] 12)) (K := (fun q => (∀ τ, τ = q → At vwCl TM 3 rm_X11_endsOn ad X τ [] [] 109))) ?_ 1000 _ _ he ?_ _ _ rfl)
  · intro q y hy hn hx τ z2 e
    subst e
    exact k_X11_endsOn_b12 F hy (fun τ z2 e => hn _ e _ _ rfl) (fun τ e => (hx _ e) _ rfl)
  · intro σ_12 e
    subst e
    cases hf
    exact hr _ _ dX11_endsOn_109
set_option maxRecDepth 100000 in
set_option maxHeartbeats 4000000 in
theorem c_X11_endsOn {l : Launch}  {σ : St} {x1 : Int} : CtrV vwCl WS NWs TM l yX11_endsOn cX11_endsOn 3 none rm_X11_endsOn (fun ad => [.ref (ad 0), iv x1]) σ (f_X11_endsOn σ x1) := by
  refine ctrV_of (by decide +kernel) (fun ad => Nat.le_of_ble_eq_true rfl) (fun σ' ad X hf F K => ?_)
  exact k_X11_endsOn_b0 F hf K
abbrev rm_X11_groundOf : Room := { frames := 4, cells := 0, slots := 0, locals := 96 }
set_option maxRecDepth 100000 in
set_option maxHeartbeats 4000000 in
theorem k_X11_groundOf_b25 {l : Launch} {ad : Nat → Nat} {X : Cx} (F : Ok vwCl WS NWs TM cX11_groundOf 4 yX11_groundOf.cls none ad l X) {σ : St} {x2 x3 : Int} {y : ((St × Int) ⊕ St)} (hf : f_X11_groundOf_b25 σ x2 x3 = some y) (hn : ∀ τ z3, y = .inl (τ, z3) → At vwCl TM 4 rm_X11_groundOf ad X τ [(0, .ref (ad 0)), (2, iv x2), (3, iv z3)] [] 25) (hx0 : ∀ τ, y = .inr (τ) → At vwCl TM 4 rm_X11_groundOf ad X τ [(0, .ref (ad 0)), (2, iv x2)] [] 45) : At vwCl TM 4 rm_X11_groundOf ad X σ [(0, .ref (ad 0)), (2, iv x2), (3, iv x3)] [] 25 := by
  unfold f_X11_groundOf_b25 at hf
  refine a_iload_n F dX11_groundOf_25 rfl 2 rfl ?_
  refine a_aload_n F dX11_groundOf_26 rfl 0 rfl ?_
  refine a_getI F (j := 16) tM_0 rfl rfl (by decide) inW11 w_536 dX11_groundOf_27 ?_
  refine a_icmp_ge F hf (tgt := 45) dX11_groundOf_30 (by decide) (fun hf => ?_) (fun hf => ?_)
  · refine a_aload_n F dX11_groundOf_33 rfl 0 rfl ?_
    refine a_iload_n F dX11_groundOf_34 rfl 1 rfl ?_
    refine a_iload_n F dX11_groundOf_35 rfl 2 rfl ?_
    refine a_callVV F lk_RX11_213 tM_0 rfl c_X11_meets rfl rfl ⟨rfl, rfl⟩ ⟨Nat.le_of_ble_eq_true rfl, Nat.le_of_ble_eq_true rfl⟩ rfl (Nat.le_of_ble_eq_true rfl) dX11_groundOf_36 hf (fun σ_5 hf => ?_)
    refine a_iinc F hf dX11_groundOf_39 2 rfl (by decide) (fun x3_6 hf => ⟨[(3, iv x3_6), (0, .ref (ad 0)), (2, iv x2)], rfl, ?_⟩)
    refine a_goto F (tgt := 25) dX11_groundOf_42 (by decide) ?_
    cases hf
    exact a_sub [1, 2, 0] rfl (hn _ _ rfl)
  · cases hf
    exact a_sub [0, 1] rfl (hx0 _ rfl)
set_option maxRecDepth 100000 in
set_option maxHeartbeats 4000000 in
theorem k_X11_groundOf_b13 {l : Launch} {ad : Nat → Nat} {X : Cx} (F : Ok vwCl WS NWs TM cX11_groundOf 4 yX11_groundOf.cls none ad l X) {σ : St} {x2 : Int} {y : ((St × Int) ⊕ St)} (hf : f_X11_groundOf_b13 σ x2 = some y) (hn : ∀ τ z2, y = .inl (τ, z2) → At vwCl TM 4 rm_X11_groundOf ad X τ [(0, .ref (ad 0)), (2, iv z2)] [] 13) (hx0 : ∀ τ, y = .inr (τ) → At vwCl TM 4 rm_X11_groundOf ad X τ [(0, .ref (ad 0))] [] 51) : At vwCl TM 4 rm_X11_groundOf ad X σ [(0, .ref (ad 0)), (2, iv x2)] [] 13 := by
  unfold f_X11_groundOf_b13 at hf
  refine a_iload_n F dX11_groundOf_13 rfl 1 rfl ?_
  refine a_aload_n F dX11_groundOf_14 rfl 0 rfl ?_
  refine a_getI F (j := 16) tM_0 rfl rfl (by decide) inW11 w_536 dX11_groundOf_15 ?_
  refine a_icmp_ge F hf (tgt := 51) dX11_groundOf_18 (by decide) (fun hf => ?_) (fun hf => ?_)
  · refine a_iload_n F dX11_groundOf_21 rfl 1 rfl ?_
    refine a_iconst F dX11_groundOf_22 ?_
    refine a_iadd F dX11_groundOf_23 ?_
    refine a_topI hf (fun x3_4 hf => ?_)
    refine a_istore_n F (lv' := [(3, iv x3_4), (0, .ref (ad 0)), (2, iv x2)]) dX11_groundOf_24 rfl (by decide) rfl ?_
    obtain ⟨q0, he, hf⟩ := jbind_elim hf
    refine a_sub [1, 2, 0] rfl (loop_rule (P := (fun q => ∀ τ z3, (τ, z3) = q → At vwCl TM 4 rm_X11_groundOf ad X τ [(0, .ref (ad 0)), (2, iv x2), (3, iv z3)] [] 25)) (K := (fun q => (∀ τ, τ = q → At vwCl TM 4 rm_X11_groundOf ad X τ [(0, .ref (ad 0)), (2, iv x2)] [] 45))) ?_ 1000 _ _ he ?_ _ _ rfl)
    · intro q y hy hn hx τ z3 e
      subst e
      exact k_X11_groundOf_b25 F hy (fun τ z3 e => hn _ e _ _ rfl) (fun τ e => (hx _ e) _ rfl)
    · intro σ_7 e
      subst e
      refine a_iinc F hf dX11_groundOf_45 1 rfl (by decide) (fun x2_8 hf => ⟨[(2, iv x2_8), (0, .ref (ad 0))], rfl, ?_⟩)
      refine a_goto F (tgt := 13) dX11_groundOf_48 (by decide) ?_
      cases hf
      exact a_sub [1, 0] rfl (hn _ _ rfl)
  · cases hf
    exact a_sub [0] rfl (hx0 _ rfl)
set_option maxRecDepth 100000 in
set_option maxHeartbeats 4000000 in
theorem k_X11_groundOf_b68 {l : Launch} {ad : Nat → Nat} {X : Cx} (F : Ok vwCl WS NWs TM cX11_groundOf 4 yX11_groundOf.cls none ad l X) {σ : St} {x2 x3 : Int} {y : ((St × Int × Int) ⊕ (St × Int))} (hf : f_X11_groundOf_b68 σ x2 x3 = some y) (hn : ∀ τ z2 z3, y = .inl (τ, z2, z3) → At vwCl TM 4 rm_X11_groundOf ad X τ [(0, .ref (ad 0)), (2, iv z2), (3, iv z3)] [] 68) (hx0 : ∀ τ z2, y = .inr ((τ, z2)) → At vwCl TM 4 rm_X11_groundOf ad X τ [(0, .ref (ad 0)), (2, iv z2)] [] 100) : At vwCl TM 4 rm_X11_groundOf ad X σ [(0, .ref (ad 0)), (2, iv x2), (3, iv x3)] [] 68 := by
  unfold f_X11_groundOf_b68 at hf
  refine a_iload_n F dX11_groundOf_68 rfl 2 rfl ?_
  refine a_aload_n F dX11_groundOf_69 rfl 0 rfl ?_
  refine a_getI F (j := 20) tM_0 rfl rfl (by decide) inW11 w_568 dX11_groundOf_70 ?_
  refine a_icmp_ge F hf (tgt := 100) dX11_groundOf_73 (by decide) (fun hf => ?_) (fun hf => ?_)
  · refine a_aload_n F dX11_groundOf_76 rfl 0 rfl ?_
    refine a_getR F (j := 24) tM_0 rfl rfl (by decide) inW11 w_659 dX11_groundOf_77 ?_
    refine a_iload_n F dX11_groundOf_80 rfl 2 rfl ?_
    refine a_iload_n F dX11_groundOf_81 rfl 2 rfl ?_
    refine a_iast F tM_19 rfl (by decide) hf dX11_groundOf_82 (fun σ_13 hf => ?_)
    refine a_aload_n F dX11_groundOf_83 rfl 0 rfl ?_
    refine a_iload_n F dX11_groundOf_84 rfl 2 rfl ?_
    refine a_iload_n F dX11_groundOf_85 rfl 1 rfl ?_
    refine a_callVIr F lk_RX11_219 tM_0 rfl c_X11_isAhead rfl rfl ⟨rfl, rfl⟩ ⟨Nat.le_of_ble_eq_true rfl, Nat.le_of_ble_eq_true rfl⟩ rfl (Nat.le_of_ble_eq_true rfl) dX11_groundOf_86 hf (fun r_14 hf => ?_)
    refine a_if_eq F hf (tgt := 94) dX11_groundOf_89 (by decide) (fun hf => ?_) (fun hf => ?_)
    · refine a_iinc F hf dX11_groundOf_94 2 rfl (by decide) (fun x3_15 hf => ⟨[(3, iv x3_15), (0, .ref (ad 0)), (2, iv x2)], rfl, ?_⟩)
      refine a_goto F (tgt := 68) dX11_groundOf_97 (by decide) ?_
      cases hf
      exact a_sub [1, 2, 0] rfl (hn _ _ _ rfl)
    · refine a_iload_n F dX11_groundOf_92 rfl 2 rfl ?_
      refine a_topI hf (fun x2_16 hf => ?_)
      refine a_istore_n F (lv' := [(2, iv x2_16), (0, .ref (ad 0)), (3, iv x3)]) dX11_groundOf_93 rfl (by decide) rfl ?_
      refine a_iinc F hf dX11_groundOf_94 2 rfl (by decide) (fun x3_17 hf => ⟨[(3, iv x3_17), (2, iv x2_16), (0, .ref (ad 0))], rfl, ?_⟩)
      refine a_goto F (tgt := 68) dX11_groundOf_97 (by decide) ?_
      cases hf
      exact a_sub [2, 1, 0] rfl (hn _ _ _ rfl)
  · cases hf
    exact a_sub [0, 1] rfl (hx0 _ _ rfl)
set_option maxRecDepth 100000 in
set_option maxHeartbeats 4000000 in
theorem k_X11_groundOf_b102 {l : Launch} {ad : Nat → Nat} {X : Cx} (F : Ok vwCl WS NWs TM cX11_groundOf 4 yX11_groundOf.cls none ad l X) {σ : St} {x2 x3 : Int} {y : ((St × Int) ⊕ St)} (hf : f_X11_groundOf_b102 σ x2 x3 = some y) (hn : ∀ τ z3, y = .inl (τ, z3) → At vwCl TM 4 rm_X11_groundOf ad X τ [(0, .ref (ad 0)), (2, iv x2), (3, iv z3)] [] 102) (hx0 : ∀ τ, y = .inr (τ) → At vwCl TM 4 rm_X11_groundOf ad X τ [(0, .ref (ad 0)), (2, iv x2)] [] 145) : At vwCl TM 4 rm_X11_groundOf ad X σ [(0, .ref (ad 0)), (2, iv x2), (3, iv x3)] [] 102 := by
  unfold f_X11_groundOf_b102 at hf
  refine a_iload_n F dX11_groundOf_102 rfl 2 rfl ?_
  refine a_aload_n F dX11_groundOf_103 rfl 0 rfl ?_
  refine a_getI F (j := 16) tM_0 rfl rfl (by decide) inW11 w_536 dX11_groundOf_104 ?_
  refine a_icmp_ge F hf (tgt := 145) dX11_groundOf_107 (by decide) (fun hf => ?_) (fun hf => ?_)
  · refine a_aload_n F dX11_groundOf_110 rfl 0 rfl ?_
    refine a_iload_n F dX11_groundOf_111 rfl 2 rfl ?_
    refine a_callVV F lk_RX11_222 tM_0 rfl c_X11_endsOn rfl rfl ⟨rfl, rfl⟩ ⟨Nat.le_of_ble_eq_true rfl, Nat.le_of_ble_eq_true rfl⟩ rfl (Nat.le_of_ble_eq_true rfl) dX11_groundOf_112 hf (fun σ_21 hf => ?_)
    refine a_aload_n F dX11_groundOf_115 rfl 0 rfl ?_
    refine a_getI F (j := 27) tM_0 rfl rfl (by decide) inW11 w_592 dX11_groundOf_116 ?_
    refine a_aload_n F dX11_groundOf_119 rfl 0 rfl ?_
    refine a_getI F (j := 28) tM_0 rfl rfl (by decide) inW11 w_593 dX11_groundOf_120 ?_
    refine a_icmp_eq F hf (tgt := 139) dX11_groundOf_123 (by decide) (fun hf => ?_) (fun hf => ?_)
    · refine a_iinc F hf dX11_groundOf_139 2 rfl (by decide) (fun x3_22 hf => ⟨[(3, iv x3_22), (0, .ref (ad 0)), (2, iv x2)], rfl, ?_⟩)
      refine a_goto F (tgt := 102) dX11_groundOf_142 (by decide) ?_
      cases hf
      exact a_sub [1, 2, 0] rfl (hn _ _ rfl)
    · refine a_aload_n F dX11_groundOf_126 rfl 0 rfl ?_
      refine a_getR F (j := 24) tM_0 rfl rfl (by decide) inW11 w_659 dX11_groundOf_127 ?_
      refine a_aload_n F dX11_groundOf_130 rfl 0 rfl ?_
      refine a_getI F (j := 27) tM_0 rfl rfl (by decide) inW11 w_592 dX11_groundOf_131 ?_
      refine a_aload_n F dX11_groundOf_134 rfl 0 rfl ?_
      refine a_getI F (j := 28) tM_0 rfl rfl (by decide) inW11 w_593 dX11_groundOf_135 ?_
      refine a_iast F tM_19 rfl (by decide) hf dX11_groundOf_138 (fun σ_23 hf => ?_)
      refine a_iinc F hf dX11_groundOf_139 2 rfl (by decide) (fun x3_24 hf => ⟨[(3, iv x3_24), (0, .ref (ad 0)), (2, iv x2)], rfl, ?_⟩)
      refine a_goto F (tgt := 102) dX11_groundOf_142 (by decide) ?_
      cases hf
      exact a_sub [1, 2, 0] rfl (hn _ _ rfl)
  · cases hf
    exact a_sub [0, 1] rfl (hx0 _ rfl)
set_option maxRecDepth 100000 in
set_option maxHeartbeats 4000000 in
theorem k_X11_groundOf_b159 {l : Launch} {ad : Nat → Nat} {X : Cx} (F : Ok vwCl WS NWs TM cX11_groundOf 4 yX11_groundOf.cls none ad l X) {σ : St} {x2 x3 : Int} {y : ((St × Int) ⊕ St)} (hf : f_X11_groundOf_b159 σ x2 x3 = some y) (hn : ∀ τ z3, y = .inl (τ, z3) → At vwCl TM 4 rm_X11_groundOf ad X τ [(0, .ref (ad 0)), (2, iv x2), (3, iv z3)] [] 147) : At vwCl TM 4 rm_X11_groundOf ad X σ [(0, .ref (ad 0)), (2, iv x2), (3, iv x3)] [] 159 := by
  unfold f_X11_groundOf_b159 at hf
  refine a_aload_n F dX11_groundOf_159 rfl 0 rfl ?_
  refine a_getR F (j := 26) tM_0 rfl rfl (by decide) inW11 w_664 dX11_groundOf_160 ?_
  refine a_aload_n F dX11_groundOf_163 rfl 0 rfl ?_
  refine a_getI F (j := 25) tM_0 rfl rfl (by decide) inW11 w_658 dX11_groundOf_164 ?_
  refine a_iload_n F dX11_groundOf_167 rfl 2 rfl ?_
  refine a_iast F tM_20 rfl (by decide) hf dX11_groundOf_168 (fun σ_27 hf => ?_)
  refine a_aload_n F dX11_groundOf_169 rfl 0 rfl ?_
  refine a_dup F dX11_groundOf_170 rfl ?_
  refine a_getI F (j := 25) tM_0 rfl rfl (by decide) inW11 w_658 dX11_groundOf_171 ?_
  refine a_iconst F dX11_groundOf_174 ?_
  refine a_iadd F dX11_groundOf_175 ?_
  refine a_putI F (j := 25) tM_0 rfl rfl (by decide) inW11 w_658 tyX11 tyX11_ok nmX11 rfl rfl hf dX11_groundOf_176 (fun σ_28 hf => ?_)
  refine a_aload_n F dX11_groundOf_179 rfl 0 rfl ?_
  refine a_getR F (j := 24) tM_0 rfl rfl (by decide) inW11 w_659 dX11_groundOf_180 ?_
  refine a_iload_n F dX11_groundOf_183 rfl 2 rfl ?_
  refine a_iald F tM_19 rfl (by decide) hf dX11_groundOf_184 (fun hf => ?_)
  refine a_topI hf (fun x3_29 hf => ?_)
  refine a_istore_n F (lv' := [(3, iv x3_29), (0, .ref (ad 0)), (2, iv x2)]) dX11_groundOf_185 rfl (by decide) rfl ?_
  refine a_goto F (tgt := 147) dX11_groundOf_186 (by decide) ?_
  cases hf
  exact a_sub [1, 2, 0] rfl (hn _ _ rfl)
set_option maxRecDepth 100000 in
set_option maxHeartbeats 4000000 in
theorem k_X11_groundOf_b147 {l : Launch} {ad : Nat → Nat} {X : Cx} (F : Ok vwCl WS NWs TM cX11_groundOf 4 yX11_groundOf.cls none ad l X) {σ : St} {x2 x3 : Int} {y : ((St × Int) ⊕ St)} (hf : f_X11_groundOf_b147 σ x2 x3 = some y) (hn : ∀ τ z3, y = .inl (τ, z3) → At vwCl TM 4 rm_X11_groundOf ad X τ [(0, .ref (ad 0)), (2, iv x2), (3, iv z3)] [] 147) (hx0 : ∀ τ, y = .inr (τ) → At vwCl TM 4 rm_X11_groundOf ad X τ [] [] 189) : At vwCl TM 4 rm_X11_groundOf ad X σ [(0, .ref (ad 0)), (2, iv x2), (3, iv x3)] [] 147 := by
  unfold f_X11_groundOf_b147 at hf
  refine a_aload_n F dX11_groundOf_147 rfl 0 rfl ?_
  refine a_getI F (j := 25) tM_0 rfl rfl (by decide) inW11 w_658 dX11_groundOf_148 ?_
  refine a_if_eq F hf (tgt := 159) dX11_groundOf_151 (by decide) (fun hf => ?_) (fun hf => ?_)
  · exact a_sub [0, 1, 2] rfl (k_X11_groundOf_b159 F hf hn)
  · refine a_iload_n F dX11_groundOf_154 rfl 2 rfl ?_
    refine a_iload_n F dX11_groundOf_155 rfl 1 rfl ?_
    refine a_icmp_eq F hf (tgt := 189) dX11_groundOf_156 (by decide) (fun hf => ?_) (fun hf => ?_)
    · cases hf
      exact a_sub [] rfl (hx0 _ rfl)
    · exact a_sub [0, 1, 2] rfl (k_X11_groundOf_b159 F hf hn)
set_option maxRecDepth 100000 in
set_option maxHeartbeats 4000000 in
theorem k_X11_groundOf_b0 {l : Launch} {ad : Nat → Nat} {X : Cx} (F : Ok vwCl WS NWs TM cX11_groundOf 4 yX11_groundOf.cls none ad l X) {σ : St} {x1 : Int} {y : St} (hf : f_X11_groundOf_b0 σ x1 = some y) (hr : RetV vwCl TM cX11_groundOf 4 rm_X11_groundOf ad X y) : At vwCl TM 4 rm_X11_groundOf ad X σ [(0, .ref (ad 0)), (1, iv x1)] [] 0 := by
  unfold f_X11_groundOf_b0 at hf
  refine a_aload_n F dX11_groundOf_0 rfl 0 rfl ?_
  refine a_iload_n F dX11_groundOf_1 rfl 1 rfl ?_
  refine a_iconst F dX11_groundOf_2 ?_
  refine a_callVV F lk_RX11_210 tM_0 rfl c_X11_linesOf rfl rfl ⟨rfl, rfl⟩ ⟨Nat.le_of_ble_eq_true rfl, Nat.le_of_ble_eq_true rfl⟩ rfl (Nat.le_of_ble_eq_true rfl) dX11_groundOf_3 hf (fun σ_1 hf => ?_)
  refine a_aload_n F dX11_groundOf_6 rfl 0 rfl ?_
  refine a_iconst F dX11_groundOf_7 ?_
  refine a_putI F (j := 20) tM_0 rfl rfl (by decide) inW11 w_568 tyX11 tyX11_ok nmX11 rfl rfl hf dX11_groundOf_8 (fun σ_2 hf => ?_)
  refine a_iconst F dX11_groundOf_11 ?_
  refine a_topI hf (fun x2_3 hf => ?_)
  refine a_istore_n F (lv' := [(2, iv x2_3), (0, .ref (ad 0)), (1, iv x1)]) dX11_groundOf_12 rfl (by decide) rfl ?_
  obtain ⟨q0, he, hf⟩ := jbind_elim hf
  refine a_sub [1, 0] rfl (loop_rule (P := (fun q => ∀ τ z2, (τ, z2) = q → At vwCl TM 4 rm_X11_groundOf ad X τ [(0, .ref (ad 0)), (2, iv z2)] [] 13)) (K := (fun q => (∀ τ, τ = q → At vwCl TM 4 rm_X11_groundOf ad X τ [(0, .ref (ad 0))] [] 51))) ?_ 1000 _ _ he ?_ _ _ rfl)
  · intro q y hy hn hx τ z2 e
    subst e
    exact k_X11_groundOf_b13 F hy (fun τ z2 e => hn _ e _ _ rfl) (fun τ e => (hx _ e) _ rfl)
  · intro σ_9 e
    subst e
    refine a_aload_n F dX11_groundOf_51 rfl 0 rfl ?_
    refine a_iconst F dX11_groundOf_52 ?_
    refine a_putI F (j := 25) tM_0 rfl rfl (by decide) inW11 w_658 tyX11 tyX11_ok nmX11 rfl rfl hf dX11_groundOf_53 (fun σ_10 hf => ?_)
    refine a_aload_n F dX11_groundOf_56 rfl 0 rfl ?_
    refine a_getI F (j := 20) tM_0 rfl rfl (by decide) inW11 w_568 dX11_groundOf_57 ?_
    refine a_if_ne F hf (tgt := 64) dX11_groundOf_60 (by decide) (fun hf => ?_) (fun hf => ?_)
    · cases hf
      exact hr _ _ dX11_groundOf_63
    · refine a_iconst F dX11_groundOf_64 ?_
      refine a_topI hf (fun x2_11 hf => ?_)
      refine a_istore_n F (lv' := [(2, iv x2_11), (0, .ref (ad 0))]) dX11_groundOf_65 rfl (by decide) rfl ?_
      refine a_iconst F dX11_groundOf_66 ?_
      refine a_topI hf (fun x3_12 hf => ?_)
      refine a_istore_n F (lv' := [(3, iv x3_12), (2, iv x2_11), (0, .ref (ad 0))]) dX11_groundOf_67 rfl (by decide) rfl ?_
      obtain ⟨q0, he, hf⟩ := jbind_elim hf
      refine a_sub [2, 1, 0] rfl (loop_rule (P := (fun q => ∀ τ z2 z3, (τ, z2, z3) = q → At vwCl TM 4 rm_X11_groundOf ad X τ [(0, .ref (ad 0)), (2, iv z2), (3, iv z3)] [] 68)) (K := (fun q => (∀ τ z2, (τ, z2) = q → At vwCl TM 4 rm_X11_groundOf ad X τ [(0, .ref (ad 0)), (2, iv z2)] [] 100))) ?_ 1000 _ _ he ?_ _ _ _ rfl)
      · intro q y hy hn hx τ z2 z3 e
        subst e
        exact k_X11_groundOf_b68 F hy (fun τ z2 z3 e => hn _ e _ _ _ rfl) (fun τ z2 e => (hx _ e) _ _ rfl)
      · intro σ_18 x2_19 e
        subst e
        refine a_iconst F dX11_groundOf_100 ?_
        refine a_topI hf (fun x3_20 hf => ?_)
        refine a_istore_n F (lv' := [(3, iv x3_20), (0, .ref (ad 0)), (2, iv x2_19)]) dX11_groundOf_101 rfl (by decide) rfl ?_
        obtain ⟨q0, he, hf⟩ := jbind_elim hf
        refine a_sub [1, 2, 0] rfl (loop_rule (P := (fun q => ∀ τ z3, (τ, z3) = q → At vwCl TM 4 rm_X11_groundOf ad X τ [(0, .ref (ad 0)), (2, iv x2_19), (3, iv z3)] [] 102)) (K := (fun q => (∀ τ, τ = q → At vwCl TM 4 rm_X11_groundOf ad X τ [(0, .ref (ad 0)), (2, iv x2_19)] [] 145))) ?_ 1000 _ _ he ?_ _ _ rfl)
        · intro q y hy hn hx τ z3 e
          subst e
          exact k_X11_groundOf_b102 F hy (fun τ z3 e => hn _ e _ _ rfl) (fun τ e => (hx _ e) _ rfl)
        · intro σ_25 e
          subst e
          refine a_iload_n F dX11_groundOf_145 rfl 1 rfl ?_
          refine a_topI hf (fun x3_26 hf => ?_)
          refine a_istore_n F (lv' := [(3, iv x3_26), (0, .ref (ad 0)), (2, iv x2_19)]) dX11_groundOf_146 rfl (by decide) rfl ?_
          obtain ⟨q0, he, hf⟩ := jbind_elim hf
          refine a_sub [1, 2, 0] rfl (loop_rule (P := (fun q => ∀ τ z3, (τ, z3) = q → At vwCl TM 4 rm_X11_groundOf ad X τ [(0, .ref (ad 0)), (2, iv x2_19), (3, iv z3)] [] 147)) (K := (fun q => (∀ τ, τ = q → At vwCl TM 4 rm_X11_groundOf ad X τ [] [] 189))) ?_ 1000 _ _ he ?_ _ _ rfl)
          · intro q y hy hn hx τ z3 e
            subst e
            exact k_X11_groundOf_b147 F hy (fun τ z3 e => hn _ e _ _ rfl) (fun τ e => (hx _ e) _ rfl)
          · intro σ_30 e
            subst e
            cases hf
            exact hr _ _ dX11_groundOf_189
set_option maxRecDepth 100000 in
set_option maxHeartbeats 4000000 in
theorem c_X11_groundOf {l : Launch}  {σ : St} {x1 : Int} : CtrV vwCl WS NWs TM l yX11_groundOf cX11_groundOf 4 none rm_X11_groundOf (fun ad => [.ref (ad 0), iv x1]) σ (f_X11_groundOf σ x1) := by
  refine ctrV_of (by decide +kernel) (fun ad => Nat.le_of_ble_eq_true rfl) (fun σ' ad X hf F K => ?_)
  exact k_X11_groundOf_b0 F hf K
abbrev rm_X11_lowest : Room := { frames := 1, cells := 0, slots := 0, locals := 29 }
set_option maxRecDepth 100000 in
set_option maxHeartbeats 4000000 in
theorem k_X11_lowest_b0 {l : Launch} {ad : Nat → Nat} {X : Cx} (F : Ok vwCl WS NWs TM cX11_lowest 7 yX11_lowest.cls (some .long) ad l X) {σ : St} {x0 x2 x4 : Int} {y : Int} (hf : f_X11_lowest_b0 x0 x2 x4 = some y) (hr : RetL vwCl TM cX11_lowest 7 rm_X11_lowest ad X y σ) : At vwCl TM 7 rm_X11_lowest ad X σ [(0, jv x0), (2, jv x2), (4, iv x4)] [] 0 := by
  unfold f_X11_lowest_b0 at hf
  refine a_lload_n F dX11_lowest_0 rfl 0 rfl ?_
  refine a_lload_n F dX11_lowest_1 rfl 1 rfl ?_
  refine a_callSLr F lk_RX11_229 c_X11_common rfl rfl ⟨rfl, rfl⟩ ⟨Nat.le_of_ble_eq_true rfl, Nat.le_of_ble_eq_true rfl⟩ rfl (Nat.le_of_ble_eq_true rfl) dX11_lowest_2 hf (fun r_1 hf => ?_)
  refine a_topJ hf (fun x5_2 hf => ?_)
  refine a_lstore F (lv' := [(5, jv x5_2), (0, jv x0), (2, jv x2), (4, iv x4)]) dX11_lowest_5 (by decide) rfl ?_
  refine a_iload F dX11_lowest_7 3 rfl ?_
  refine a_if_eq F hf (tgt := 19) dX11_lowest_9 (by decide) (fun hf => ?_) (fun hf => ?_)
  · refine a_lload_n F dX11_lowest_19 rfl 2 rfl ?_
    refine a_lload F dX11_lowest_20 0 rfl ?_
    refine a_ldiv F hf dX11_lowest_22 (fun hf => ?_)
    cases hf
    exact hr _ _ dX11_lowest_23
  · refine a_lload_n F dX11_lowest_12 rfl 1 rfl ?_
    refine a_lload F dX11_lowest_13 0 rfl ?_
    refine a_ldiv F hf dX11_lowest_15 (fun hf => ?_)
    refine a_goto F (tgt := 23) dX11_lowest_16 (by decide) ?_
    cases hf
    exact hr _ _ dX11_lowest_23
set_option maxRecDepth 100000 in
set_option maxHeartbeats 4000000 in
theorem c_X11_lowest {l : Launch}  {σ : St} {x0 x2 x4 : Int} : CtrL vwCl WS NWs TM l yX11_lowest cX11_lowest 7 (some .long) rm_X11_lowest (fun ad => [jv x0, jv x2, iv x4]) σ (rd (f_X11_lowest x0 x2 x4) σ) := by
  refine ctrL_of (by decide +kernel) (fun ad => Nat.le_of_ble_eq_true rfl) (fun v σ' ad X hf F K => ?_)
  obtain ⟨hf2, e2⟩ := rd_elim hf
  subst e2
  exact k_X11_lowest_b0 F hf2 K
abbrev rm_X11_told : Room := { frames := 2, cells := 0, slots := 0, locals := 55 }
set_option maxRecDepth 100000 in
set_option maxHeartbeats 4000000 in
theorem k_X11_told_b37 {l : Launch} {ad : Nat → Nat} {X : Cx} (F : Ok vwCl WS NWs TM cX11_told 3 yX11_told.cls (some .long) ad l X) {σ : St} {t0 t1 t2 : Int} {y : Int} (hf : f_X11_told_b37 σ t0 t1 t2 = some y) (hr : RetL vwCl TM cX11_told 3 rm_X11_told ad X y σ) : At vwCl TM 3 rm_X11_told ad X σ [] [iv t2, jv t1, jv t0] 37 := by
  unfold f_X11_told_b37 at hf
  refine a_callSLr F lk_RX11_233 c_X11_lowest rfl rfl ⟨rfl, rfl⟩ ⟨Nat.le_of_ble_eq_true rfl, Nat.le_of_ble_eq_true rfl⟩ rfl (Nat.le_of_ble_eq_true rfl) dX11_told_37 hf (fun r_1 hf => ?_)
  cases hf
  exact hr _ _ dX11_told_40
set_option maxRecDepth 100000 in
set_option maxHeartbeats 4000000 in
theorem k_X11_told_b20 {l : Launch} {ad : Nat → Nat} {X : Cx} (F : Ok vwCl WS NWs TM cX11_told 3 yX11_told.cls (some .long) ad l X) {σ : St} {x1 x2 t0 : Int} {y : Int} (hf : f_X11_told_b20 σ x1 x2 t0 = some y) (hr : RetL vwCl TM cX11_told 3 rm_X11_told ad X y σ) : At vwCl TM 3 rm_X11_told ad X σ [(0, .ref (ad 0)), (1, iv x1), (2, iv x2)] [jv t0] 20 := by
  unfold f_X11_told_b20 at hf
  refine a_aload_n F dX11_told_20 rfl 0 rfl ?_
  refine a_getR F (j := 23) tM_0 rfl rfl (by decide) inW11 w_562 dX11_told_21 ?_
  refine a_iload_n F dX11_told_24 rfl 1 rfl ?_
  refine a_lald F tM_18 rfl (by decide) hf dX11_told_25 (fun hf => ?_)
  refine a_iload_n F dX11_told_26 rfl 2 rfl ?_
  refine a_iconst F dX11_told_27 ?_
  refine a_irem F hf dX11_told_28 (fun hf => ?_)
  refine a_if_ne F hf (tgt := 36) dX11_told_29 (by decide) (fun hf => ?_) (fun hf => ?_)
  · refine a_iconst F dX11_told_32 ?_
    refine a_goto F (tgt := 37) dX11_told_33 (by decide) ?_
    exact a_sub [] rfl (k_X11_told_b37 F hf hr)
  · refine a_iconst F dX11_told_36 ?_
    exact a_sub [] rfl (k_X11_told_b37 F hf hr)
set_option maxRecDepth 100000 in
set_option maxHeartbeats 4000000 in
theorem k_X11_told_b0 {l : Launch} {ad : Nat → Nat} {X : Cx} (F : Ok vwCl WS NWs TM cX11_told 3 yX11_told.cls (some .long) ad l X) {σ : St} {x1 x2 : Int} {y : Int} (hf : f_X11_told_b0 σ x1 x2 = some y) (hr : RetL vwCl TM cX11_told 3 rm_X11_told ad X y σ) : At vwCl TM 3 rm_X11_told ad X σ [(0, .ref (ad 0)), (1, iv x1), (2, iv x2)] [] 0 := by
  unfold f_X11_told_b0 at hf
  refine a_iload_n F dX11_told_0 rfl 2 rfl ?_
  refine a_iconst F dX11_told_1 ?_
  refine a_icmp_ge F hf (tgt := 14) dX11_told_2 (by decide) (fun hf => ?_) (fun hf => ?_)
  · refine a_aload_n F dX11_told_5 rfl 0 rfl ?_
    refine a_getR F (j := 21) tM_0 rfl rfl (by decide) inW11 w_561 dX11_told_6 ?_
    refine a_iload_n F dX11_told_9 rfl 1 rfl ?_
    refine a_lald F tM_16 rfl (by decide) hf dX11_told_10 (fun hf => ?_)
    refine a_goto F (tgt := 20) dX11_told_11 (by decide) ?_
    exact a_sub [0, 1, 2] rfl (k_X11_told_b20 F hf hr)
  · refine a_aload_n F dX11_told_14 rfl 0 rfl ?_
    refine a_getR F (j := 22) tM_0 rfl rfl (by decide) inW11 w_563 dX11_told_15 ?_
    refine a_iload_n F dX11_told_18 rfl 1 rfl ?_
    refine a_lald F tM_17 rfl (by decide) hf dX11_told_19 (fun hf => ?_)
    exact a_sub [0, 1, 2] rfl (k_X11_told_b20 F hf hr)
set_option maxRecDepth 100000 in
set_option maxHeartbeats 4000000 in
theorem c_X11_told {l : Launch}  {σ : St} {x1 x2 : Int} : CtrL vwCl WS NWs TM l yX11_told cX11_told 3 (some .long) rm_X11_told (fun ad => [.ref (ad 0), iv x1, iv x2]) σ (rd (f_X11_told σ x1 x2) σ) := by
  refine ctrL_of (by decide +kernel) (fun ad => Nat.le_of_ble_eq_true rfl) (fun v σ' ad X hf F K => ?_)
  obtain ⟨hf2, e2⟩ := rd_elim hf
  subst e2
  exact k_X11_told_b0 F hf2 K
abbrev rm_X11_corner : Room := { frames := 5, cells := 0, slots := 0, locals := 119 }
set_option maxRecDepth 100000 in
set_option maxHeartbeats 4000000 in
theorem k_X11_corner_b0 {l : Launch} {ad : Nat → Nat} {X : Cx} (F : Ok vwCl WS NWs TM cX11_corner 4 yX11_corner.cls (some .long) ad l X) {σ : St} {x1 x2 x3 : Int} {y : (Int × St)} (hf : f_X11_corner_b0 σ x1 x2 x3 = some y) (hr : ∀ v τ, y = (v, τ) → RetL vwCl TM cX11_corner 4 rm_X11_corner ad X v τ) : At vwCl TM 4 rm_X11_corner ad X σ [(0, .ref (ad 0)), (1, iv x1), (2, iv x2), (3, iv x3)] [] 0 := by
  unfold f_X11_corner_b0 at hf
  refine a_aload_n F dX11_corner_0 rfl 0 rfl ?_
  refine a_iload_n F dX11_corner_1 rfl 1 rfl ?_
  refine a_callVIr F lk_RX11_148 tM_0 rfl c_X11_counts rfl rfl ⟨rfl, rfl⟩ ⟨Nat.le_of_ble_eq_true rfl, Nat.le_of_ble_eq_true rfl⟩ rfl (Nat.le_of_ble_eq_true rfl) dX11_corner_2 hf (fun r_1 hf => ?_)
  refine a_if_eq F hf (tgt := 17) dX11_corner_5 (by decide) (fun hf => ?_) (fun hf => ?_)
  · refine a_ldc2 F (n := (-1)) (by decide +kernel) w_558 dX11_corner_17 ?_
    cases hf
    exact hr _ _ rfl _ _ dX11_corner_20
  · refine a_iload_n F dX11_corner_8 rfl 3 rfl ?_
    refine a_if_lt F hf (tgt := 17) dX11_corner_9 (by decide) (fun hf => ?_) (fun hf => ?_)
    · refine a_ldc2 F (n := (-1)) (by decide +kernel) w_558 dX11_corner_17 ?_
      cases hf
      exact hr _ _ rfl _ _ dX11_corner_20
    · refine a_iload_n F dX11_corner_12 rfl 3 rfl ?_
      refine a_iconst F dX11_corner_13 ?_
      refine a_icmp_le F hf (tgt := 21) dX11_corner_14 (by decide) (fun hf => ?_) (fun hf => ?_)
      · refine a_ldc2 F (n := (-1)) (by decide +kernel) w_558 dX11_corner_17 ?_
        cases hf
        exact hr _ _ rfl _ _ dX11_corner_20
      · refine a_aload_n F dX11_corner_21 rfl 0 rfl ?_
        refine a_iload_n F dX11_corner_22 rfl 1 rfl ?_
        refine a_callVV F lk_RX11_226 tM_0 rfl c_X11_groundOf rfl rfl ⟨rfl, rfl⟩ ⟨Nat.le_of_ble_eq_true rfl, Nat.le_of_ble_eq_true rfl⟩ rfl (Nat.le_of_ble_eq_true rfl) dX11_corner_23 hf (fun σ_2 hf => ?_)
        refine a_iload_n F dX11_corner_26 rfl 2 rfl ?_
        refine a_if_lt F hf (tgt := 52) dX11_corner_27 (by decide) (fun hf => ?_) (fun hf => ?_)
        · refine a_ldc2 F (n := (-1)) (by decide +kernel) w_558 dX11_corner_52 ?_
          cases hf
          exact hr _ _ rfl _ _ dX11_corner_55
        · refine a_iload_n F dX11_corner_30 rfl 2 rfl ?_
          refine a_aload_n F dX11_corner_31 rfl 0 rfl ?_
          refine a_getI F (j := 25) tM_0 rfl rfl (by decide) inW11 w_658 dX11_corner_32 ?_
          refine a_icmp_ge F hf (tgt := 52) dX11_corner_35 (by decide) (fun hf => ?_) (fun hf => ?_)
          · refine a_aload_n F dX11_corner_38 rfl 0 rfl ?_
            refine a_aload_n F dX11_corner_39 rfl 0 rfl ?_
            refine a_getR F (j := 26) tM_0 rfl rfl (by decide) inW11 w_664 dX11_corner_40 ?_
            refine a_iload_n F dX11_corner_43 rfl 2 rfl ?_
            refine a_iald F tM_20 rfl (by decide) hf dX11_corner_44 (fun hf => ?_)
            refine a_iload_n F dX11_corner_45 rfl 3 rfl ?_
            refine a_callVLr F lk_RX11_237 tM_0 rfl c_X11_told rfl rfl ⟨rfl, rfl⟩ ⟨Nat.le_of_ble_eq_true rfl, Nat.le_of_ble_eq_true rfl⟩ rfl (Nat.le_of_ble_eq_true rfl) dX11_corner_46 hf (fun r_3 hf => ?_)
            refine a_goto F (tgt := 55) dX11_corner_49 (by decide) ?_
            cases hf
            exact hr _ _ rfl _ _ dX11_corner_55
          · refine a_ldc2 F (n := (-1)) (by decide +kernel) w_558 dX11_corner_52 ?_
            cases hf
            exact hr _ _ rfl _ _ dX11_corner_55
set_option maxRecDepth 100000 in
set_option maxHeartbeats 4000000 in
theorem c_X11_corner {l : Launch}  {σ : St} {x1 x2 x3 : Int} : CtrL vwCl WS NWs TM l yX11_corner cX11_corner 4 (some .long) rm_X11_corner (fun ad => [.ref (ad 0), iv x1, iv x2, iv x3]) σ (f_X11_corner σ x1 x2 x3) := by
  refine ctrL_of (by decide +kernel) (fun ad => Nat.le_of_ble_eq_true rfl) (fun v σ' ad X hf F K => ?_)
  exact k_X11_corner_b0 F hf (fun v τ e => by cases e; exact K)
abbrev rm_X11_corners : Room := { frames := 5, cells := 0, slots := 0, locals := 119 }
set_option maxRecDepth 100000 in
set_option maxHeartbeats 4000000 in
theorem k_X11_corners_b0 {l : Launch} {ad : Nat → Nat} {X : Cx} (F : Ok vwCl WS NWs TM cX11_corners 2 yX11_corners.cls (some .int) ad l X) {σ : St} {x1 : Int} {y : (Int × St)} (hf : f_X11_corners_b0 σ x1 = some y) (hr : ∀ v τ, y = (v, τ) → RetI vwCl TM cX11_corners 2 rm_X11_corners ad X v τ) : At vwCl TM 2 rm_X11_corners ad X σ [(0, .ref (ad 0)), (1, iv x1)] [] 0 := by
  unfold f_X11_corners_b0 at hf
  refine a_aload_n F dX11_corners_0 rfl 0 rfl ?_
  refine a_iload_n F dX11_corners_1 rfl 1 rfl ?_
  refine a_callVIr F lk_RX11_124 tM_0 rfl c_X11_isWell rfl rfl ⟨rfl, rfl⟩ ⟨Nat.le_of_ble_eq_true rfl, Nat.le_of_ble_eq_true rfl⟩ rfl (Nat.le_of_ble_eq_true rfl) dX11_corners_2 hf (fun r_1 hf => ?_)
  refine a_if_ne F hf (tgt := 10) dX11_corners_5 (by decide) (fun hf => ?_) (fun hf => ?_)
  · refine a_iconst F dX11_corners_8 ?_
    cases hf
    exact hr _ _ rfl _ _ dX11_corners_9
  · refine a_aload_n F dX11_corners_10 rfl 0 rfl ?_
    refine a_iload_n F dX11_corners_11 rfl 1 rfl ?_
    refine a_callVIr F lk_RX11_148 tM_0 rfl c_X11_counts rfl rfl ⟨rfl, rfl⟩ ⟨Nat.le_of_ble_eq_true rfl, Nat.le_of_ble_eq_true rfl⟩ rfl (Nat.le_of_ble_eq_true rfl) dX11_corners_12 hf (fun r_2 hf => ?_)
    refine a_if_ne F hf (tgt := 20) dX11_corners_15 (by decide) (fun hf => ?_) (fun hf => ?_)
    · refine a_iconst F dX11_corners_18 ?_
      cases hf
      exact hr _ _ rfl _ _ dX11_corners_19
    · refine a_aload_n F dX11_corners_20 rfl 0 rfl ?_
      refine a_iload_n F dX11_corners_21 rfl 1 rfl ?_
      refine a_callVV F lk_RX11_226 tM_0 rfl c_X11_groundOf rfl rfl ⟨rfl, rfl⟩ ⟨Nat.le_of_ble_eq_true rfl, Nat.le_of_ble_eq_true rfl⟩ rfl (Nat.le_of_ble_eq_true rfl) dX11_corners_22 hf (fun σ_3 hf => ?_)
      refine a_aload_n F dX11_corners_25 rfl 0 rfl ?_
      refine a_getI F (j := 25) tM_0 rfl rfl (by decide) inW11 w_658 dX11_corners_26 ?_
      cases hf
      exact hr _ _ rfl _ _ dX11_corners_29
set_option maxRecDepth 100000 in
set_option maxHeartbeats 4000000 in
theorem c_X11_corners {l : Launch}  {σ : St} {x1 : Int} : CtrI vwCl WS NWs TM l yX11_corners cX11_corners 2 (some .int) rm_X11_corners (fun ad => [.ref (ad 0), iv x1]) σ (f_X11_corners σ x1) := by
  refine ctrI_of (by decide +kernel) (fun ad => Nat.le_of_ble_eq_true rfl) (fun v σ' ad X hf F K => ?_)
  exact k_X11_corners_b0 F hf (fun v τ e => by cases e; exact K)
abbrev rm_X11_cost : Room := { frames := 1, cells := 0, slots := 0, locals := 21 }
set_option maxRecDepth 100000 in
set_option maxHeartbeats 4000000 in
theorem k_X11_cost_b0 {l : Launch} {ad : Nat → Nat} {X : Cx} (F : Ok vwCl WS NWs TM cX11_cost 9 yX11_cost.cls (some .long) ad l X) {σ : St} {x1 x2 x3 x4 : Int} {y : Int} (hf : f_X11_cost_b0 σ x1 x2 x3 x4 = some y) (hr : RetL vwCl TM cX11_cost 9 rm_X11_cost ad X y σ) : At vwCl TM 9 rm_X11_cost ad X σ [(0, .ref (ad 0)), (1, iv x1), (2, iv x2), (3, iv x3), (4, iv x4)] [] 0 := by
  unfold f_X11_cost_b0 at hf
  refine a_iload_n F dX11_cost_0 rfl 2 rfl ?_
  refine a_i2l F hf dX11_cost_1 (fun hf => ?_)
  refine a_iload F dX11_cost_2 4 rfl ?_
  refine a_i2l F hf dX11_cost_4 (fun hf => ?_)
  refine a_aload_n F dX11_cost_5 rfl 0 rfl ?_
  refine a_getR F (j := 4) tM_0 rfl rfl (by decide) inW11 w_539 dX11_cost_6 ?_
  refine a_iload_n F dX11_cost_9 rfl 1 rfl ?_
  refine a_iald F tM_2 rfl (by decide) hf dX11_cost_10 (fun hf => ?_)
  refine a_i2l F hf dX11_cost_11 (fun hf => ?_)
  refine a_lmul F dX11_cost_12 ?_
  refine a_lsub F dX11_cost_13 ?_
  refine a_topJ hf (fun x5_1 hf => ?_)
  refine a_lstore F (lv' := [(5, jv x5_1), (0, .ref (ad 0)), (1, iv x1), (2, iv x2), (3, iv x3), (4, iv x4)]) dX11_cost_14 (by decide) rfl ?_
  refine a_iload_n F dX11_cost_16 rfl 4 rfl ?_
  refine a_i2l F hf dX11_cost_17 (fun hf => ?_)
  refine a_iload F dX11_cost_18 5 rfl ?_
  refine a_i2l F hf dX11_cost_20 (fun hf => ?_)
  refine a_aload_n F dX11_cost_21 rfl 1 rfl ?_
  refine a_getR F (j := 5) tM_0 rfl rfl (by decide) inW11 w_540 dX11_cost_22 ?_
  refine a_iload_n F dX11_cost_25 rfl 2 rfl ?_
  refine a_iald F tM_3 rfl (by decide) hf dX11_cost_26 (fun hf => ?_)
  refine a_i2l F hf dX11_cost_27 (fun hf => ?_)
  refine a_lmul F dX11_cost_28 ?_
  refine a_lsub F dX11_cost_29 ?_
  refine a_topJ hf (fun x7_2 hf => ?_)
  refine a_lstore F (lv' := [(7, jv x7_2), (5, jv x5_1), (0, .ref (ad 0)), (1, iv x1), (2, iv x2), (3, iv x3), (4, iv x4)]) dX11_cost_30 (by decide) rfl ?_
  refine a_lload F dX11_cost_32 1 rfl ?_
  refine a_lload F dX11_cost_34 1 rfl ?_
  refine a_lmul F dX11_cost_36 ?_
  refine a_lload F dX11_cost_37 0 rfl ?_
  refine a_lload F dX11_cost_39 0 rfl ?_
  refine a_lmul F dX11_cost_41 ?_
  refine a_ladd F dX11_cost_42 ?_
  refine a_aload_n F dX11_cost_43 rfl 2 rfl ?_
  refine a_iload_n F dX11_cost_44 rfl 3 rfl ?_
  refine a_callVLr F lk_RX11_151 tM_0 rfl c_X11_off rfl rfl ⟨rfl, rfl⟩ ⟨Nat.le_of_ble_eq_true rfl, Nat.le_of_ble_eq_true rfl⟩ rfl (Nat.le_of_ble_eq_true rfl) dX11_cost_45 hf (fun r_3 hf => ?_)
  refine a_iload F dX11_cost_48 6 rfl ?_
  refine a_i2l F hf dX11_cost_50 (fun hf => ?_)
  refine a_lmul F dX11_cost_51 ?_
  refine a_iload F dX11_cost_52 6 rfl ?_
  refine a_i2l F hf dX11_cost_54 (fun hf => ?_)
  refine a_lmul F dX11_cost_55 ?_
  refine a_lsub F dX11_cost_56 ?_
  cases hf
  exact hr _ _ dX11_cost_57
set_option maxRecDepth 100000 in
set_option maxHeartbeats 4000000 in
theorem c_X11_cost {l : Launch}  {σ : St} {x1 x2 x3 x4 : Int} : CtrL vwCl WS NWs TM l yX11_cost cX11_cost 9 (some .long) rm_X11_cost (fun ad => [.ref (ad 0), iv x1, iv x2, iv x3, iv x4]) σ (rd (f_X11_cost σ x1 x2 x3 x4) σ) := by
  refine ctrL_of (by decide +kernel) (fun ad => Nat.le_of_ble_eq_true rfl) (fun v σ' ad X hf F K => ?_)
  obtain ⟨hf2, e2⟩ := rd_elim hf
  subst e2
  exact k_X11_cost_b0 F hf2 K
abbrev rm_X11_count : Room := { frames := 2, cells := 0, slots := 0, locals := 42 }
set_option maxRecDepth 100000 in
set_option maxHeartbeats 4000000 in
theorem k_X11_count_b4 {l : Launch} {ad : Nat → Nat} {X : Cx} (F : Ok vwCl WS NWs TM cX11_count 4 yX11_count.cls (some .int) ad l X) {σ : St} {x1 x2 x3 : Int} {y : ((Int × Int) ⊕ Int)} (hf : f_X11_count_b4 σ x1 x2 x3 = some y) (hn : ∀ z2 z3, y = .inl (z2, z3) → At vwCl TM 4 rm_X11_count ad X σ [(0, .ref (ad 0)), (1, iv x1), (2, iv z2), (3, iv z3)] [] 4) (hx0 : ∀ z2, y = .inr (z2) → At vwCl TM 4 rm_X11_count ad X σ [(0, .ref (ad 0)), (1, iv x1), (2, iv z2)] [] 43) : At vwCl TM 4 rm_X11_count ad X σ [(0, .ref (ad 0)), (1, iv x1), (2, iv x2), (3, iv x3)] [] 4 := by
  unfold f_X11_count_b4 at hf
  refine a_iload_n F dX11_count_4 rfl 3 rfl ?_
  refine a_bipush F dX11_count_5 (by decide +kernel) ?_
  refine a_icmp_ge F hf (tgt := 43) dX11_count_7 (by decide) (fun hf => ?_) (fun hf => ?_)
  · refine a_iload_n F dX11_count_10 rfl 1 rfl ?_
    refine a_if_ne F hf (tgt := 26) dX11_count_11 (by decide) (fun hf => ?_) (fun hf => ?_)
    · refine a_aload_n F dX11_count_14 rfl 0 rfl ?_
      refine a_getR F (j := 3) tM_0 rfl rfl (by decide) inW11 w_526 dX11_count_15 ?_
      refine a_iload_n F dX11_count_18 rfl 3 rfl ?_
      refine a_zald F tM_1 rfl (by decide) hf dX11_count_19 (fun hf => ?_)
      refine a_if_eq F hf (tgt := 37) dX11_count_20 (by decide) (fun hf => ?_) (fun hf => ?_)
      · refine a_iinc F hf dX11_count_37 3 rfl (by decide) (fun x3_7 hf => ⟨[(3, iv x3_7), (0, .ref (ad 0)), (1, iv x1), (2, iv x2)], rfl, ?_⟩)
        refine a_goto F (tgt := 4) dX11_count_40 (by decide) ?_
        cases hf
        exact a_sub [1, 2, 3, 0] rfl (hn _ _ rfl)
      · refine a_goto F (tgt := 34) dX11_count_23 (by decide) ?_
        refine a_iinc F hf dX11_count_34 2 rfl (by decide) (fun x2_8 hf => ⟨[(2, iv x2_8), (0, .ref (ad 0)), (1, iv x1), (3, iv x3)], rfl, ?_⟩)
        refine a_iinc F hf dX11_count_37 3 rfl (by decide) (fun x3_9 hf => ⟨[(3, iv x3_9), (2, iv x2_8), (0, .ref (ad 0)), (1, iv x1)], rfl, ?_⟩)
        refine a_goto F (tgt := 4) dX11_count_40 (by decide) ?_
        cases hf
        exact a_sub [2, 3, 1, 0] rfl (hn _ _ rfl)
    · refine a_aload_n F dX11_count_26 rfl 0 rfl ?_
      refine a_iload_n F dX11_count_27 rfl 3 rfl ?_
      refine a_callVIr F lk_RX11_148 tM_0 rfl c_X11_counts rfl rfl ⟨rfl, rfl⟩ ⟨Nat.le_of_ble_eq_true rfl, Nat.le_of_ble_eq_true rfl⟩ rfl (Nat.le_of_ble_eq_true rfl) dX11_count_28 hf (fun r_3 hf => ?_)
      refine a_if_eq F hf (tgt := 37) dX11_count_31 (by decide) (fun hf => ?_) (fun hf => ?_)
      · refine a_iinc F hf dX11_count_37 3 rfl (by decide) (fun x3_4 hf => ⟨[(3, iv x3_4), (0, .ref (ad 0)), (1, iv x1), (2, iv x2)], rfl, ?_⟩)
        refine a_goto F (tgt := 4) dX11_count_40 (by decide) ?_
        cases hf
        exact a_sub [1, 2, 3, 0] rfl (hn _ _ rfl)
      · refine a_iinc F hf dX11_count_34 2 rfl (by decide) (fun x2_5 hf => ⟨[(2, iv x2_5), (0, .ref (ad 0)), (1, iv x1), (3, iv x3)], rfl, ?_⟩)
        refine a_iinc F hf dX11_count_37 3 rfl (by decide) (fun x3_6 hf => ⟨[(3, iv x3_6), (2, iv x2_5), (0, .ref (ad 0)), (1, iv x1)], rfl, ?_⟩)
        refine a_goto F (tgt := 4) dX11_count_40 (by decide) ?_
        cases hf
        exact a_sub [2, 3, 1, 0] rfl (hn _ _ rfl)
  · cases hf
    exact a_sub [0, 1, 2] rfl (hx0 _ rfl)
set_option maxRecDepth 100000 in
set_option maxHeartbeats 4000000 in
theorem k_X11_count_b0 {l : Launch} {ad : Nat → Nat} {X : Cx} (F : Ok vwCl WS NWs TM cX11_count 4 yX11_count.cls (some .int) ad l X) {σ : St} {x1 : Int} {y : Int} (hf : f_X11_count_b0 σ x1 = some y) (hr : RetI vwCl TM cX11_count 4 rm_X11_count ad X y σ) : At vwCl TM 4 rm_X11_count ad X σ [(0, .ref (ad 0)), (1, iv x1)] [] 0 := by
  unfold f_X11_count_b0 at hf
  refine a_iconst F dX11_count_0 ?_
  refine a_topI hf (fun x2_1 hf => ?_)
  refine a_istore_n F (lv' := [(2, iv x2_1), (0, .ref (ad 0)), (1, iv x1)]) dX11_count_1 rfl (by decide) rfl ?_
  refine a_iconst F dX11_count_2 ?_
  refine a_topI hf (fun x3_2 hf => ?_)
  refine a_istore_n F (lv' := [(3, iv x3_2), (2, iv x2_1), (0, .ref (ad 0)), (1, iv x1)]) dX11_count_3 rfl (by decide) rfl ?_
  obtain ⟨q0, he, hf⟩ := jbind_elim hf
  refine a_sub [2, 3, 1, 0] rfl (loop_rule (P := (fun q => ∀ z2 z3, (z2, z3) = q → At vwCl TM 4 rm_X11_count ad X σ [(0, .ref (ad 0)), (1, iv x1), (2, iv z2), (3, iv z3)] [] 4)) (K := (fun q => (∀ z2, z2 = q → At vwCl TM 4 rm_X11_count ad X σ [(0, .ref (ad 0)), (1, iv x1), (2, iv z2)] [] 43))) ?_ 1000 _ _ he ?_ _ _ rfl)
  · intro q y hy hn hx z2 z3 e
    subst e
    exact k_X11_count_b4 F hy (fun z2 z3 e => hn _ e _ _ rfl) (fun z2 e => (hx _ e) _ rfl)
  · intro x2_10 e
    subst e
    refine a_iload_n F dX11_count_43 rfl 1 rfl ?_
    refine a_if_eq F hf (tgt := 52) dX11_count_44 (by decide) (fun hf => ?_) (fun hf => ?_)
    · refine a_iload_n F dX11_count_52 rfl 2 rfl ?_
      refine a_goto F (tgt := 69) dX11_count_53 (by decide) ?_
      cases hf
      exact hr _ _ dX11_count_69
    · refine a_iload_n F dX11_count_47 rfl 1 rfl ?_
      refine a_iconst F dX11_count_48 ?_
      refine a_icmp_ne F hf (tgt := 56) dX11_count_49 (by decide) (fun hf => ?_) (fun hf => ?_)
      · refine a_iload_n F dX11_count_52 rfl 2 rfl ?_
        refine a_goto F (tgt := 69) dX11_count_53 (by decide) ?_
        cases hf
        exact hr _ _ dX11_count_69
      · refine a_iload_n F dX11_count_56 rfl 1 rfl ?_
        refine a_iconst F dX11_count_57 ?_
        refine a_icmp_ne F hf (tgt := 68) dX11_count_58 (by decide) (fun hf => ?_) (fun hf => ?_)
        · refine a_aload_n F dX11_count_61 rfl 0 rfl ?_
          refine a_getI F (j := 8) tM_0 rfl rfl (by decide) inW11 w_621 dX11_count_62 ?_
          refine a_goto F (tgt := 69) dX11_count_65 (by decide) ?_
          cases hf
          exact hr _ _ dX11_count_69
        · refine a_iconst F dX11_count_68 ?_
          cases hf
          exact hr _ _ dX11_count_69
set_option maxRecDepth 100000 in
set_option maxHeartbeats 4000000 in
theorem c_X11_count {l : Launch}  {σ : St} {x1 : Int} : CtrI vwCl WS NWs TM l yX11_count cX11_count 4 (some .int) rm_X11_count (fun ad => [.ref (ad 0), iv x1]) σ (rd (f_X11_count σ x1) σ) := by
  refine ctrI_of (by decide +kernel) (fun ad => Nat.le_of_ble_eq_true rfl) (fun v σ' ad X hf F K => ?_)
  obtain ⟨hf2, e2⟩ := rd_elim hf
  subst e2
  exact k_X11_count_b0 F hf2 K
abbrev rm_X11_end : Room := { frames := 4, cells := 0, slots := 0, locals := 102 }
set_option maxRecDepth 100000 in
set_option maxHeartbeats 4000000 in
theorem k_X11_end_b54 {l : Launch} {ad : Nat → Nat} {X : Cx} (F : Ok vwCl WS NWs TM cX11_end 5 yX11_end.cls (some .long) ad l X) {σ : St} {x4 t1 : Int} {y : (Int × St)} (hf : f_X11_end_b54 σ x4 t1 = some y) (hr : ∀ v τ, y = (v, τ) → RetL vwCl TM cX11_end 5 rm_X11_end ad X v τ) : At vwCl TM 5 rm_X11_end ad X σ [(4, iv x4)] [iv t1, .ref (ad 0)] 54 := by
  unfold f_X11_end_b54 at hf
  refine a_iload F dX11_end_54 0 rfl ?_
  refine a_callVLr F lk_RX11_237 tM_0 rfl c_X11_told rfl rfl ⟨rfl, rfl⟩ ⟨Nat.le_of_ble_eq_true rfl, Nat.le_of_ble_eq_true rfl⟩ rfl (Nat.le_of_ble_eq_true rfl) dX11_end_56 hf (fun r_4 hf => ?_)
  cases hf
  exact hr _ _ rfl _ _ dX11_end_59
set_option maxRecDepth 100000 in
set_option maxHeartbeats 4000000 in
theorem k_X11_end_b0 {l : Launch} {ad : Nat → Nat} {X : Cx} (F : Ok vwCl WS NWs TM cX11_end 5 yX11_end.cls (some .long) ad l X) {σ : St} {x1 x2 x3 x4 : Int} {y : (Int × St)} (hf : f_X11_end_b0 σ x1 x2 x3 x4 = some y) (hr : ∀ v τ, y = (v, τ) → RetL vwCl TM cX11_end 5 rm_X11_end ad X v τ) : At vwCl TM 5 rm_X11_end ad X σ [(0, .ref (ad 0)), (1, iv x1), (2, iv x2), (3, iv x3), (4, iv x4)] [] 0 := by
  unfold f_X11_end_b0 at hf
  refine a_aload_n F dX11_end_0 rfl 0 rfl ?_
  refine a_iload_n F dX11_end_1 rfl 1 rfl ?_
  refine a_iload_n F dX11_end_2 rfl 2 rfl ?_
  refine a_callVIr F lk_RX11_241 tM_0 rfl c_X11_areTwo rfl rfl ⟨rfl, rfl⟩ ⟨Nat.le_of_ble_eq_true rfl, Nat.le_of_ble_eq_true rfl⟩ rfl (Nat.le_of_ble_eq_true rfl) dX11_end_3 hf (fun r_1 hf => ?_)
  refine a_if_eq F hf (tgt := 34) dX11_end_6 (by decide) (fun hf => ?_) (fun hf => ?_)
  · refine a_ldc2 F (n := (-1)) (by decide +kernel) w_558 dX11_end_34 ?_
    cases hf
    exact hr _ _ rfl _ _ dX11_end_37
  · refine a_iload_n F dX11_end_9 rfl 3 rfl ?_
    refine a_if_lt F hf (tgt := 34) dX11_end_10 (by decide) (fun hf => ?_) (fun hf => ?_)
    · refine a_ldc2 F (n := (-1)) (by decide +kernel) w_558 dX11_end_34 ?_
      cases hf
      exact hr _ _ rfl _ _ dX11_end_37
    · refine a_iload F dX11_end_13 4 rfl ?_
      refine a_if_lt F hf (tgt := 34) dX11_end_15 (by decide) (fun hf => ?_) (fun hf => ?_)
      · refine a_ldc2 F (n := (-1)) (by decide +kernel) w_558 dX11_end_34 ?_
        cases hf
        exact hr _ _ rfl _ _ dX11_end_37
      · refine a_iload F dX11_end_18 4 rfl ?_
        refine a_iconst F dX11_end_20 ?_
        refine a_icmp_gt F hf (tgt := 34) dX11_end_21 (by decide) (fun hf => ?_) (fun hf => ?_)
        · refine a_ldc2 F (n := (-1)) (by decide +kernel) w_558 dX11_end_34 ?_
          cases hf
          exact hr _ _ rfl _ _ dX11_end_37
        · refine a_iload_n F dX11_end_24 rfl 3 rfl ?_
          refine a_aload_n F dX11_end_25 rfl 0 rfl ?_
          refine a_iload_n F dX11_end_26 rfl 1 rfl ?_
          refine a_iload_n F dX11_end_27 rfl 2 rfl ?_
          refine a_callVI F lk_RX11_244 tM_0 rfl c_X11_borderOf rfl rfl ⟨rfl, rfl⟩ ⟨Nat.le_of_ble_eq_true rfl, Nat.le_of_ble_eq_true rfl⟩ rfl (Nat.le_of_ble_eq_true rfl) dX11_end_28 hf (fun r_2 σ_3 hf => ?_)
          refine a_icmp_lt F hf (tgt := 38) dX11_end_31 (by decide) (fun hf => ?_) (fun hf => ?_)
          · refine a_aload_n F dX11_end_38 rfl 0 rfl ?_
            refine a_iload_n F dX11_end_39 rfl 3 rfl ?_
            refine a_if_ne F hf (tgt := 50) dX11_end_40 (by decide) (fun hf => ?_) (fun hf => ?_)
            · refine a_aload_n F dX11_end_43 rfl 0 rfl ?_
              refine a_getI F (j := 27) tM_0 rfl rfl (by decide) inW11 w_592 dX11_end_44 ?_
              refine a_goto F (tgt := 54) dX11_end_47 (by decide) ?_
              exact a_sub [4] rfl (k_X11_end_b54 F hf hr)
            · refine a_aload_n F dX11_end_50 rfl 0 rfl ?_
              refine a_getI F (j := 28) tM_0 rfl rfl (by decide) inW11 w_593 dX11_end_51 ?_
              exact a_sub [4] rfl (k_X11_end_b54 F hf hr)
          · refine a_ldc2 F (n := (-1)) (by decide +kernel) w_558 dX11_end_34 ?_
            cases hf
            exact hr _ _ rfl _ _ dX11_end_37
set_option maxRecDepth 100000 in
set_option maxHeartbeats 4000000 in
theorem c_X11_end {l : Launch}  {σ : St} {x1 x2 x3 x4 : Int} : CtrL vwCl WS NWs TM l yX11_end cX11_end 5 (some .long) rm_X11_end (fun ad => [.ref (ad 0), iv x1, iv x2, iv x3, iv x4]) σ (f_X11_end σ x1 x2 x3 x4) := by
  refine ctrL_of (by decide +kernel) (fun ad => Nat.le_of_ble_eq_true rfl) (fun v σ' ad X hf F K => ?_)
  exact k_X11_end_b0 F hf (fun v τ e => by cases e; exact K)
abbrev rm_X11_fill : Room := { frames := 3, cells := 0, slots := 0, locals := 65 }
set_option maxRecDepth 100000 in
set_option maxHeartbeats 4000000 in
theorem k_X11_fill_b0 {l : Launch} {ad : Nat → Nat} {X : Cx} (F : Ok vwCl WS NWs TM cX11_fill 2 yX11_fill.cls (some .int) ad l X) {σ : St} {x1 : Int} {y : (Int × St)} (hf : f_X11_fill_b0 σ x1 = some y) (hr : ∀ v τ, y = (v, τ) → RetI vwCl TM cX11_fill 2 rm_X11_fill ad X v τ) : At vwCl TM 2 rm_X11_fill ad X σ [(0, .ref (ad 0)), (1, iv x1)] [] 0 := by
  unfold f_X11_fill_b0 at hf
  refine a_aload_n F dX11_fill_0 rfl 0 rfl ?_
  refine a_iload_n F dX11_fill_1 rfl 1 rfl ?_
  refine a_callVIr F lk_RX11_124 tM_0 rfl c_X11_isWell rfl rfl ⟨rfl, rfl⟩ ⟨Nat.le_of_ble_eq_true rfl, Nat.le_of_ble_eq_true rfl⟩ rfl (Nat.le_of_ble_eq_true rfl) dX11_fill_2 hf (fun r_1 hf => ?_)
  refine a_if_ne F hf (tgt := 10) dX11_fill_5 (by decide) (fun hf => ?_) (fun hf => ?_)
  · refine a_iconst F dX11_fill_8 ?_
    cases hf
    exact hr _ _ rfl _ _ dX11_fill_9
  · refine a_aload_n F dX11_fill_10 rfl 0 rfl ?_
    refine a_callVV F lk_RX11_131 tM_0 rfl c_X11_keeps rfl rfl ⟨rfl, rfl⟩ ⟨Nat.le_of_ble_eq_true rfl, Nat.le_of_ble_eq_true rfl⟩ rfl (Nat.le_of_ble_eq_true rfl) dX11_fill_11 hf (fun σ_2 hf => ?_)
    refine a_aload_n F dX11_fill_14 rfl 0 rfl ?_
    refine a_getR F (j := 3) tM_0 rfl rfl (by decide) inW11 w_526 dX11_fill_15 ?_
    refine a_iload_n F dX11_fill_18 rfl 1 rfl ?_
    refine a_iconst F dX11_fill_19 ?_
    refine a_zast F tM_1 rfl (by decide) hf dX11_fill_20 (fun σ_3 hf => ?_)
    refine a_aload_n F dX11_fill_21 rfl 0 rfl ?_
    refine a_iconst F dX11_fill_22 ?_
    refine a_callVIr F lk_RX11_144 tM_0 rfl c_X11_count rfl rfl ⟨rfl, rfl⟩ ⟨Nat.le_of_ble_eq_true rfl, Nat.le_of_ble_eq_true rfl⟩ rfl (Nat.le_of_ble_eq_true rfl) dX11_fill_23 hf (fun r_4 hf => ?_)
    cases hf
    exact hr _ _ rfl _ _ dX11_fill_26
set_option maxRecDepth 100000 in
set_option maxHeartbeats 4000000 in
theorem c_X11_fill {l : Launch}  {σ : St} {x1 : Int} : CtrI vwCl WS NWs TM l yX11_fill cX11_fill 2 (some .int) rm_X11_fill (fun ad => [.ref (ad 0), iv x1]) σ (f_X11_fill σ x1) := by
  refine ctrI_of (by decide +kernel) (fun ad => Nat.le_of_ble_eq_true rfl) (fun v σ' ad X hf F K => ?_)
  exact k_X11_fill_b0 F hf (fun v τ e => by cases e; exact K)
abbrev rm_X11_isPoint : Room := { frames := 0, cells := 0, slots := 0, locals := 0 }
set_option maxRecDepth 100000 in
set_option maxHeartbeats 4000000 in
theorem k_X11_isPoint_b0 {l : Launch} {ad : Nat → Nat} {X : Cx} (F : Ok vwCl WS NWs TM cX11_isPoint 4 yX11_isPoint.cls (some .boolean) ad l X) {σ : St} {x1 x2 x3 : Int} {y : Int} (hf : f_X11_isPoint_b0 σ x1 x2 x3 = some y) (hr : RetI vwCl TM cX11_isPoint 4 rm_X11_isPoint ad X y σ) : At vwCl TM 4 rm_X11_isPoint ad X σ [(0, .ref (ad 0)), (1, iv x1), (2, iv x2), (3, iv x3)] [] 0 := by
  unfold f_X11_isPoint_b0 at hf
  refine a_iload_n F dX11_isPoint_0 rfl 3 rfl ?_
  refine a_iconst F dX11_isPoint_1 ?_
  refine a_icmp_lt F hf (tgt := 44) dX11_isPoint_2 (by decide) (fun hf => ?_) (fun hf => ?_)
  · refine a_iconst F dX11_isPoint_44 ?_
    cases hf
    exact hr _ _ dX11_isPoint_45
  · refine a_iload_n F dX11_isPoint_5 rfl 3 rfl ?_
    refine a_sipush F dX11_isPoint_6 (by decide +kernel) ?_
    refine a_icmp_gt F hf (tgt := 44) dX11_isPoint_9 (by decide) (fun hf => ?_) (fun hf => ?_)
    · refine a_iconst F dX11_isPoint_44 ?_
      cases hf
      exact hr _ _ dX11_isPoint_45
    · refine a_iload_n F dX11_isPoint_12 rfl 1 rfl ?_
      refine a_if_lt F hf (tgt := 44) dX11_isPoint_13 (by decide) (fun hf => ?_) (fun hf => ?_)
      · refine a_iconst F dX11_isPoint_44 ?_
        cases hf
        exact hr _ _ dX11_isPoint_45
      · refine a_iload_n F dX11_isPoint_16 rfl 2 rfl ?_
        refine a_if_lt F hf (tgt := 44) dX11_isPoint_17 (by decide) (fun hf => ?_) (fun hf => ?_)
        · refine a_iconst F dX11_isPoint_44 ?_
          cases hf
          exact hr _ _ dX11_isPoint_45
        · refine a_iload_n F dX11_isPoint_20 rfl 1 rfl ?_
          refine a_aload_n F dX11_isPoint_21 rfl 0 rfl ?_
          refine a_getI F (j := 0) tM_0 rfl rfl (by decide) inW11 w_559 dX11_isPoint_22 ?_
          refine a_iload_n F dX11_isPoint_25 rfl 3 rfl ?_
          refine a_imul F dX11_isPoint_26 ?_
          refine a_icmp_gt F hf (tgt := 44) dX11_isPoint_27 (by decide) (fun hf => ?_) (fun hf => ?_)
          · refine a_iconst F dX11_isPoint_44 ?_
            cases hf
            exact hr _ _ dX11_isPoint_45
          · refine a_iload_n F dX11_isPoint_30 rfl 2 rfl ?_
            refine a_aload_n F dX11_isPoint_31 rfl 0 rfl ?_
            refine a_getI F (j := 1) tM_0 rfl rfl (by decide) inW11 w_560 dX11_isPoint_32 ?_
            refine a_iload_n F dX11_isPoint_35 rfl 3 rfl ?_
            refine a_imul F dX11_isPoint_36 ?_
            refine a_icmp_gt F hf (tgt := 44) dX11_isPoint_37 (by decide) (fun hf => ?_) (fun hf => ?_)
            · refine a_iconst F dX11_isPoint_44 ?_
              cases hf
              exact hr _ _ dX11_isPoint_45
            · refine a_iconst F dX11_isPoint_40 ?_
              refine a_goto F (tgt := 45) dX11_isPoint_41 (by decide) ?_
              cases hf
              exact hr _ _ dX11_isPoint_45
set_option maxRecDepth 100000 in
set_option maxHeartbeats 4000000 in
theorem c_X11_isPoint {l : Launch}  {σ : St} {x1 x2 x3 : Int} : CtrI vwCl WS NWs TM l yX11_isPoint cX11_isPoint 4 (some .boolean) rm_X11_isPoint (fun ad => [.ref (ad 0), iv x1, iv x2, iv x3]) σ (rd (f_X11_isPoint σ x1 x2 x3) σ) := by
  refine ctrZ_of (fun v σ' h => jz_z (rd_elim h).1) (by decide +kernel) (fun ad => Nat.le_of_ble_eq_true rfl) (fun v σ' ad X hf F K => ?_)
  obtain ⟨hf2, e2⟩ := rd_elim hf
  subst e2
  exact k_X11_isPoint_b0 F (jz_e hf2) K
abbrev rm_X11_isSheet : Room := { frames := 0, cells := 0, slots := 0, locals := 0 }
set_option maxRecDepth 100000 in
set_option maxHeartbeats 4000000 in
theorem k_X11_isSheet_b0 {l : Launch} {ad : Nat → Nat} {X : Cx} (F : Ok vwCl WS NWs TM cX11_isSheet 2 yX11_isSheet.cls (some .boolean) ad l X) {σ : St} {x1 : Int} {y : Int} (hf : f_X11_isSheet_b0 x1 = some y) (hr : RetI vwCl TM cX11_isSheet 2 rm_X11_isSheet ad X y σ) : At vwCl TM 2 rm_X11_isSheet ad X σ [(0, .ref (ad 0)), (1, iv x1)] [] 0 := by
  unfold f_X11_isSheet_b0 at hf
  refine a_iload_n F dX11_isSheet_0 rfl 1 rfl ?_
  refine a_if_lt F hf (tgt := 14) dX11_isSheet_1 (by decide) (fun hf => ?_) (fun hf => ?_)
  · refine a_iconst F dX11_isSheet_14 ?_
    cases hf
    exact hr _ _ dX11_isSheet_15
  · refine a_iload_n F dX11_isSheet_4 rfl 1 rfl ?_
    refine a_bipush F dX11_isSheet_5 (by decide +kernel) ?_
    refine a_icmp_ge F hf (tgt := 14) dX11_isSheet_7 (by decide) (fun hf => ?_) (fun hf => ?_)
    · refine a_iconst F dX11_isSheet_10 ?_
      refine a_goto F (tgt := 15) dX11_isSheet_11 (by decide) ?_
      cases hf
      exact hr _ _ dX11_isSheet_15
    · refine a_iconst F dX11_isSheet_14 ?_
      cases hf
      exact hr _ _ dX11_isSheet_15
set_option maxRecDepth 100000 in
set_option maxHeartbeats 4000000 in
theorem c_X11_isSheet {l : Launch}  {σ : St} {x1 : Int} : CtrI vwCl WS NWs TM l yX11_isSheet cX11_isSheet 2 (some .boolean) rm_X11_isSheet (fun ad => [.ref (ad 0), iv x1]) σ (rd (f_X11_isSheet x1) σ) := by
  refine ctrZ_of (fun v σ' h => jz_z (rd_elim h).1) (by decide +kernel) (fun ad => Nat.le_of_ble_eq_true rfl) (fun v σ' ad X hf F K => ?_)
  obtain ⟨hf2, e2⟩ := rd_elim hf
  subst e2
  exact k_X11_isSheet_b0 F (jz_e hf2) K
abbrev rm_X11_toSides : Room := { frames := 0, cells := 0, slots := 0, locals := 0 }
set_option maxRecDepth 100000 in
set_option maxHeartbeats 4000000 in
theorem k_X11_toSides_b89 {l : Launch} {ad : Nat → Nat} {X : Cx} (F : Ok vwCl WS NWs TM cX11_toSides 8 yX11_toSides.cls (some .long) ad l X) {σ : St} {x1 x2 x3 x5 t0 : Int} {y : ((Int × Int) ⊕ Int)} (hf : f_X11_toSides_b89 σ x1 x2 x3 x5 t0 = some y) (hn : ∀ z3 z5, y = .inl (z3, z5) → At vwCl TM 8 rm_X11_toSides ad X σ [(0, .ref (ad 0)), (1, iv x1), (2, iv x2), (3, jv z3), (5, iv z5)] [] 7) : At vwCl TM 8 rm_X11_toSides ad X σ [(0, .ref (ad 0)), (1, iv x1), (2, iv x2), (3, jv x3), (5, iv x5)] [jv t0] 89 := by
  unfold f_X11_toSides_b89 at hf
  refine a_topJ hf (fun x6_3 hf => ?_)
  refine a_lstore F (lv' := [(6, jv x6_3), (0, .ref (ad 0)), (1, iv x1), (2, iv x2), (3, jv x3), (5, iv x5)]) dX11_toSides_89 (by decide) rfl ?_
  refine a_ldc2 F (n := 4) (by decide +kernel) w_684 dX11_toSides_91 ?_
  refine a_lload F dX11_toSides_94 0 rfl ?_
  refine a_lmul F dX11_toSides_96 ?_
  refine a_lload F dX11_toSides_97 0 rfl ?_
  refine a_lmul F dX11_toSides_99 ?_
  refine a_lload_n F dX11_toSides_100 rfl 4 rfl ?_
  refine a_lcmp_ge F hf (tgt := 115) dX11_toSides_101 dX11_toSides_102 (by decide) (fun hf => ?_) (fun hf => ?_)
  · refine a_ldc2 F (n := 4) (by decide +kernel) w_684 dX11_toSides_105 ?_
    refine a_lload F dX11_toSides_108 0 rfl ?_
    refine a_lmul F dX11_toSides_110 ?_
    refine a_lload F dX11_toSides_111 0 rfl ?_
    refine a_lmul F dX11_toSides_113 ?_
    refine a_topJ hf (fun x3_5 hf => ?_)
    refine a_lstore_n F (lv' := [(3, jv x3_5), (6, jv x6_3), (0, .ref (ad 0)), (1, iv x1), (2, iv x2), (5, iv x5)]) dX11_toSides_114 rfl (by decide) rfl ?_
    refine a_iinc F hf dX11_toSides_115 5 rfl (by decide) (fun x5_6 hf => ⟨[(5, iv x5_6), (3, jv x3_5), (6, jv x6_3), (0, .ref (ad 0)), (1, iv x1), (2, iv x2)], rfl, ?_⟩)
    refine a_goto F (tgt := 7) dX11_toSides_118 (by decide) ?_
    cases hf
    exact a_sub [3, 4, 5, 1, 0] rfl (hn _ _ rfl)
  · refine a_iinc F hf dX11_toSides_115 5 rfl (by decide) (fun x5_4 hf => ⟨[(5, iv x5_4), (6, jv x6_3), (0, .ref (ad 0)), (1, iv x1), (2, iv x2), (3, jv x3)], rfl, ?_⟩)
    refine a_goto F (tgt := 7) dX11_toSides_118 (by decide) ?_
    cases hf
    exact a_sub [2, 3, 4, 5, 0] rfl (hn _ _ rfl)
set_option maxRecDepth 100000 in
set_option maxHeartbeats 4000000 in
theorem k_X11_toSides_b7 {l : Launch} {ad : Nat → Nat} {X : Cx} (F : Ok vwCl WS NWs TM cX11_toSides 8 yX11_toSides.cls (some .long) ad l X) {σ : St} {x1 x2 x3 x5 : Int} {y : ((Int × Int) ⊕ Int)} (hf : f_X11_toSides_b7 σ x1 x2 x3 x5 = some y) (hn : ∀ z3 z5, y = .inl (z3, z5) → At vwCl TM 8 rm_X11_toSides ad X σ [(0, .ref (ad 0)), (1, iv x1), (2, iv x2), (3, jv z3), (5, iv z5)] [] 7) (hx0 : ∀ z3, y = .inr (z3) → At vwCl TM 8 rm_X11_toSides ad X σ [(3, jv z3)] [] 121) : At vwCl TM 8 rm_X11_toSides ad X σ [(0, .ref (ad 0)), (1, iv x1), (2, iv x2), (3, jv x3), (5, iv x5)] [] 7 := by
  unfold f_X11_toSides_b7 at hf
  refine a_iload F dX11_toSides_7 4 rfl ?_
  refine a_iconst F dX11_toSides_9 ?_
  refine a_icmp_ge F hf (tgt := 121) dX11_toSides_10 (by decide) (fun hf => ?_) (fun hf => ?_)
  · refine a_iload_n F dX11_toSides_13 rfl 2 rfl ?_
    refine a_iload F dX11_toSides_14 4 rfl ?_
    refine a_ishr F dX11_toSides_16 ?_
    refine a_iconst F dX11_toSides_17 ?_
    refine a_iand F dX11_toSides_18 ?_
    refine a_if_ne F hf (tgt := 25) dX11_toSides_19 (by decide) (fun hf => ?_) (fun hf => ?_)
    · refine a_goto F (tgt := 115) dX11_toSides_22 (by decide) ?_
      refine a_iinc F hf dX11_toSides_115 4 rfl (by decide) (fun x5_7 hf => ⟨[(5, iv x5_7), (0, .ref (ad 0)), (1, iv x1), (2, iv x2), (3, jv x3)], rfl, ?_⟩)
      refine a_goto F (tgt := 7) dX11_toSides_118 (by decide) ?_
      cases hf
      exact a_sub [1, 2, 3, 4, 0] rfl (hn _ _ rfl)
    · refine a_iload F dX11_toSides_25 4 rfl ?_
      refine a_if_ne F hf (tgt := 40) dX11_toSides_27 (by decide) (fun hf => ?_) (fun hf => ?_)
      · refine a_aload_n F dX11_toSides_30 rfl 0 rfl ?_
        refine a_getR F (j := 5) tM_0 rfl rfl (by decide) inW11 w_540 dX11_toSides_31 ?_
        refine a_iload_n F dX11_toSides_34 rfl 1 rfl ?_
        refine a_iald F tM_3 rfl (by decide) hf dX11_toSides_35 (fun hf => ?_)
        refine a_i2l F hf dX11_toSides_36 (fun hf => ?_)
        refine a_goto F (tgt := 89) dX11_toSides_37 (by decide) ?_
        exact a_sub [0, 1, 2, 3, 4] rfl (k_X11_toSides_b89 F hf hn)
      · refine a_iload F dX11_toSides_40 4 rfl ?_
        refine a_iconst F dX11_toSides_42 ?_
        refine a_icmp_ne F hf (tgt := 61) dX11_toSides_43 (by decide) (fun hf => ?_) (fun hf => ?_)
        · refine a_aload_n F dX11_toSides_46 rfl 0 rfl ?_
          refine a_getI F (j := 0) tM_0 rfl rfl (by decide) inW11 w_559 dX11_toSides_47 ?_
          refine a_aload_n F dX11_toSides_50 rfl 0 rfl ?_
          refine a_getR F (j := 4) tM_0 rfl rfl (by decide) inW11 w_539 dX11_toSides_51 ?_
          refine a_iload_n F dX11_toSides_54 rfl 1 rfl ?_
          refine a_iald F tM_2 rfl (by decide) hf dX11_toSides_55 (fun hf => ?_)
          refine a_isub F dX11_toSides_56 ?_
          refine a_i2l F hf dX11_toSides_57 (fun hf => ?_)
          refine a_goto F (tgt := 89) dX11_toSides_58 (by decide) ?_
          exact a_sub [0, 1, 2, 3, 4] rfl (k_X11_toSides_b89 F hf hn)
        · refine a_iload F dX11_toSides_61 4 rfl ?_
          refine a_iconst F dX11_toSides_63 ?_
          refine a_icmp_ne F hf (tgt := 82) dX11_toSides_64 (by decide) (fun hf => ?_) (fun hf => ?_)
          · refine a_aload_n F dX11_toSides_67 rfl 0 rfl ?_
            refine a_getI F (j := 1) tM_0 rfl rfl (by decide) inW11 w_560 dX11_toSides_68 ?_
            refine a_aload_n F dX11_toSides_71 rfl 0 rfl ?_
            refine a_getR F (j := 5) tM_0 rfl rfl (by decide) inW11 w_540 dX11_toSides_72 ?_
            refine a_iload_n F dX11_toSides_75 rfl 1 rfl ?_
            refine a_iald F tM_3 rfl (by decide) hf dX11_toSides_76 (fun hf => ?_)
            refine a_isub F dX11_toSides_77 ?_
            refine a_i2l F hf dX11_toSides_78 (fun hf => ?_)
            refine a_goto F (tgt := 89) dX11_toSides_79 (by decide) ?_
            exact a_sub [0, 1, 2, 3, 4] rfl (k_X11_toSides_b89 F hf hn)
          · refine a_aload_n F dX11_toSides_82 rfl 0 rfl ?_
            refine a_getR F (j := 4) tM_0 rfl rfl (by decide) inW11 w_539 dX11_toSides_83 ?_
            refine a_iload_n F dX11_toSides_86 rfl 1 rfl ?_
            refine a_iald F tM_2 rfl (by decide) hf dX11_toSides_87 (fun hf => ?_)
            refine a_i2l F hf dX11_toSides_88 (fun hf => ?_)
            exact a_sub [0, 1, 2, 3, 4] rfl (k_X11_toSides_b89 F hf hn)
  · cases hf
    exact a_sub [3] rfl (hx0 _ rfl)
set_option maxRecDepth 100000 in
set_option maxHeartbeats 4000000 in
theorem k_X11_toSides_b0 {l : Launch} {ad : Nat → Nat} {X : Cx} (F : Ok vwCl WS NWs TM cX11_toSides 8 yX11_toSides.cls (some .long) ad l X) {σ : St} {x1 x2 : Int} {y : Int} (hf : f_X11_toSides_b0 σ x1 x2 = some y) (hr : RetL vwCl TM cX11_toSides 8 rm_X11_toSides ad X y σ) : At vwCl TM 8 rm_X11_toSides ad X σ [(0, .ref (ad 0)), (1, iv x1), (2, iv x2)] [] 0 := by
  unfold f_X11_toSides_b0 at hf
  refine a_ldc2 F (n := 9223372036854775807) (by decide +kernel) w_683 dX11_toSides_0 ?_
  refine a_topJ hf (fun x3_1 hf => ?_)
  refine a_lstore_n F (lv' := [(3, jv x3_1), (0, .ref (ad 0)), (1, iv x1), (2, iv x2)]) dX11_toSides_3 rfl (by decide) rfl ?_
  refine a_iconst F dX11_toSides_4 ?_
  refine a_topI hf (fun x5_2 hf => ?_)
  refine a_istore F (lv' := [(5, iv x5_2), (3, jv x3_1), (0, .ref (ad 0)), (1, iv x1), (2, iv x2)]) dX11_toSides_5 (by decide) rfl ?_
  obtain ⟨q0, he, hf⟩ := jbind_elim hf
  refine a_sub [2, 3, 4, 1, 0] rfl (loop_rule (P := (fun q => ∀ z3 z5, (z3, z5) = q → At vwCl TM 8 rm_X11_toSides ad X σ [(0, .ref (ad 0)), (1, iv x1), (2, iv x2), (3, jv z3), (5, iv z5)] [] 7)) (K := (fun q => (∀ z3, z3 = q → At vwCl TM 8 rm_X11_toSides ad X σ [(3, jv z3)] [] 121))) ?_ 1000 _ _ he ?_ _ _ rfl)
  · intro q y hy hn hx z3 z5 e
    subst e
    exact k_X11_toSides_b7 F hy (fun z3 z5 e => hn _ e _ _ rfl) (fun z3 e => (hx _ e) _ rfl)
  · intro x3_8 e
    subst e
    refine a_lload_n F dX11_toSides_121 rfl 0 rfl ?_
    cases hf
    exact hr _ _ dX11_toSides_122
set_option maxRecDepth 100000 in
set_option maxHeartbeats 4000000 in
theorem c_X11_toSides {l : Launch}  {σ : St} {x1 x2 : Int} : CtrL vwCl WS NWs TM l yX11_toSides cX11_toSides 8 (some .long) rm_X11_toSides (fun ad => [.ref (ad 0), iv x1, iv x2]) σ (rd (f_X11_toSides σ x1 x2) σ) := by
  refine ctrL_of (by decide +kernel) (fun ad => Nat.le_of_ble_eq_true rfl) (fun v σ' ad X hf F K => ?_)
  obtain ⟨hf2, e2⟩ := rd_elim hf
  subst e2
  exact k_X11_toSides_b0 F hf2 K
abbrev rm_X11_toCorner : Room := { frames := 2, cells := 0, slots := 0, locals := 42 }
set_option maxRecDepth 100000 in
set_option maxHeartbeats 4000000 in
theorem k_X11_toCorner_b76 {l : Launch} {ad : Nat → Nat} {X : Cx} (F : Ok vwCl WS NWs TM cX11_toCorner 7 yX11_toCorner.cls (some .long) ad l X) {σ : St} {x1 x2 x4 t0 t1 t2 t3 : Int} {y : ((Int × Int) ⊕ Int)} (hf : f_X11_toCorner_b76 σ x1 x2 x4 t0 t1 t2 t3 = some y) (hn : ∀ z2 z4, y = .inl (z2, z4) → At vwCl TM 7 rm_X11_toCorner ad X σ [(0, .ref (ad 0)), (1, iv x1), (2, jv z2), (4, iv z4)] [] 7) : At vwCl TM 7 rm_X11_toCorner ad X σ [(0, .ref (ad 0)), (1, iv x1), (2, jv x2), (4, iv x4)] [iv t3, iv t2, jv t1, jv t0] 76 := by
  unfold f_X11_toCorner_b76 at hf
  refine a_isub F dX11_toCorner_76 ?_
  refine a_i2l F hf dX11_toCorner_77 (fun hf => ?_)
  refine a_callSLr F lk_RX11_247 c_X11_square rfl rfl ⟨rfl, rfl⟩ ⟨Nat.le_of_ble_eq_true rfl, Nat.le_of_ble_eq_true rfl⟩ rfl (Nat.le_of_ble_eq_true rfl) dX11_toCorner_78 hf (fun r_4 hf => ?_)
  refine a_lmul F dX11_toCorner_81 ?_
  refine a_topJ hf (fun x5_5 hf => ?_)
  refine a_lstore F (lv' := [(5, jv x5_5), (0, .ref (ad 0)), (1, iv x1), (2, jv x2), (4, iv x4)]) dX11_toCorner_82 (by decide) rfl ?_
  refine a_lload F dX11_toCorner_84 0 rfl ?_
  refine a_lload_n F dX11_toCorner_86 rfl 3 rfl ?_
  refine a_lcmp_ge F hf (tgt := 94) dX11_toCorner_87 dX11_toCorner_88 (by decide) (fun hf => ?_) (fun hf => ?_)
  · refine a_lload F dX11_toCorner_91 0 rfl ?_
    refine a_topJ hf (fun x2_7 hf => ?_)
    refine a_lstore_n F (lv' := [(2, jv x2_7), (5, jv x5_5), (0, .ref (ad 0)), (1, iv x1), (4, iv x4)]) dX11_toCorner_93 rfl (by decide) rfl ?_
    refine a_iinc F hf dX11_toCorner_94 4 rfl (by decide) (fun x4_8 hf => ⟨[(4, iv x4_8), (2, jv x2_7), (5, jv x5_5), (0, .ref (ad 0)), (1, iv x1)], rfl, ?_⟩)
    refine a_goto F (tgt := 7) dX11_toCorner_97 (by decide) ?_
    cases hf
    exact a_sub [3, 4, 1, 0] rfl (hn _ _ rfl)
  · refine a_iinc F hf dX11_toCorner_94 4 rfl (by decide) (fun x4_6 hf => ⟨[(4, iv x4_6), (5, jv x5_5), (0, .ref (ad 0)), (1, iv x1), (2, jv x2)], rfl, ?_⟩)
    refine a_goto F (tgt := 7) dX11_toCorner_97 (by decide) ?_
    cases hf
    exact a_sub [2, 3, 4, 0] rfl (hn _ _ rfl)
set_option maxRecDepth 100000 in
set_option maxHeartbeats 4000000 in
theorem k_X11_toCorner_b54 {l : Launch} {ad : Nat → Nat} {X : Cx} (F : Ok vwCl WS NWs TM cX11_toCorner 7 yX11_toCorner.cls (some .long) ad l X) {σ : St} {x1 x2 x4 t0 t1 t2 : Int} {y : ((Int × Int) ⊕ Int)} (hf : f_X11_toCorner_b54 σ x1 x2 x4 t0 t1 t2 = some y) (hn : ∀ z2 z4, y = .inl (z2, z4) → At vwCl TM 7 rm_X11_toCorner ad X σ [(0, .ref (ad 0)), (1, iv x1), (2, jv z2), (4, iv z4)] [] 7) : At vwCl TM 7 rm_X11_toCorner ad X σ [(0, .ref (ad 0)), (1, iv x1), (2, jv x2), (4, iv x4)] [iv t2, iv t1, jv t0] 54 := by
  unfold f_X11_toCorner_b54 at hf
  refine a_isub F dX11_toCorner_54 ?_
  refine a_i2l F hf dX11_toCorner_55 (fun hf => ?_)
  refine a_aload_n F dX11_toCorner_56 rfl 0 rfl ?_
  refine a_getR F (j := 5) tM_0 rfl rfl (by decide) inW11 w_540 dX11_toCorner_57 ?_
  refine a_iload F dX11_toCorner_60 3 rfl ?_
  refine a_iald F tM_3 rfl (by decide) hf dX11_toCorner_62 (fun hf => ?_)
  refine a_iload_n F dX11_toCorner_63 rfl 1 rfl ?_
  refine a_iconst F dX11_toCorner_64 ?_
  refine a_icmp_le F hf (tgt := 75) dX11_toCorner_65 (by decide) (fun hf => ?_) (fun hf => ?_)
  · refine a_aload_n F dX11_toCorner_68 rfl 0 rfl ?_
    refine a_getI F (j := 1) tM_0 rfl rfl (by decide) inW11 w_560 dX11_toCorner_69 ?_
    refine a_goto F (tgt := 76) dX11_toCorner_72 (by decide) ?_
    exact a_sub [0, 1, 2, 3] rfl (k_X11_toCorner_b76 F hf hn)
  · refine a_iconst F dX11_toCorner_75 ?_
    exact a_sub [0, 1, 2, 3] rfl (k_X11_toCorner_b76 F hf hn)
set_option maxRecDepth 100000 in
set_option maxHeartbeats 4000000 in
theorem k_X11_toCorner_b46 {l : Launch} {ad : Nat → Nat} {X : Cx} (F : Ok vwCl WS NWs TM cX11_toCorner 7 yX11_toCorner.cls (some .long) ad l X) {σ : St} {x1 x2 x4 t0 t1 : Int} {y : ((Int × Int) ⊕ Int)} (hf : f_X11_toCorner_b46 σ x1 x2 x4 t0 t1 = some y) (hn : ∀ z2 z4, y = .inl (z2, z4) → At vwCl TM 7 rm_X11_toCorner ad X σ [(0, .ref (ad 0)), (1, iv x1), (2, jv z2), (4, iv z4)] [] 7) : At vwCl TM 7 rm_X11_toCorner ad X σ [(0, .ref (ad 0)), (1, iv x1), (2, jv x2), (4, iv x4)] [iv t1, jv t0] 46 := by
  unfold f_X11_toCorner_b46 at hf
  refine a_aload_n F dX11_toCorner_46 rfl 0 rfl ?_
  refine a_getI F (j := 0) tM_0 rfl rfl (by decide) inW11 w_559 dX11_toCorner_47 ?_
  refine a_goto F (tgt := 54) dX11_toCorner_50 (by decide) ?_
  exact a_sub [0, 1, 2, 3] rfl (k_X11_toCorner_b54 F hf hn)
set_option maxRecDepth 100000 in
set_option maxHeartbeats 4000000 in
theorem k_X11_toCorner_b7 {l : Launch} {ad : Nat → Nat} {X : Cx} (F : Ok vwCl WS NWs TM cX11_toCorner 7 yX11_toCorner.cls (some .long) ad l X) {σ : St} {x1 x2 x4 : Int} {y : ((Int × Int) ⊕ Int)} (hf : f_X11_toCorner_b7 σ x1 x2 x4 = some y) (hn : ∀ z2 z4, y = .inl (z2, z4) → At vwCl TM 7 rm_X11_toCorner ad X σ [(0, .ref (ad 0)), (1, iv x1), (2, jv z2), (4, iv z4)] [] 7) (hx0 : ∀ z2, y = .inr (z2) → At vwCl TM 7 rm_X11_toCorner ad X σ [(2, jv z2)] [] 100) : At vwCl TM 7 rm_X11_toCorner ad X σ [(0, .ref (ad 0)), (1, iv x1), (2, jv x2), (4, iv x4)] [] 7 := by
  unfold f_X11_toCorner_b7 at hf
  refine a_iload F dX11_toCorner_7 3 rfl ?_
  refine a_bipush F dX11_toCorner_9 (by decide +kernel) ?_
  refine a_icmp_ge F hf (tgt := 100) dX11_toCorner_11 (by decide) (fun hf => ?_) (fun hf => ?_)
  · refine a_aload_n F dX11_toCorner_14 rfl 0 rfl ?_
    refine a_iload F dX11_toCorner_15 3 rfl ?_
    refine a_callVIr F lk_RX11_148 tM_0 rfl c_X11_counts rfl rfl ⟨rfl, rfl⟩ ⟨Nat.le_of_ble_eq_true rfl, Nat.le_of_ble_eq_true rfl⟩ rfl (Nat.le_of_ble_eq_true rfl) dX11_toCorner_17 hf (fun r_3 hf => ?_)
    refine a_if_ne F hf (tgt := 26) dX11_toCorner_20 (by decide) (fun hf => ?_) (fun hf => ?_)
    · refine a_goto F (tgt := 94) dX11_toCorner_23 (by decide) ?_
      refine a_iinc F hf dX11_toCorner_94 3 rfl (by decide) (fun x4_9 hf => ⟨[(4, iv x4_9), (0, .ref (ad 0)), (1, iv x1), (2, jv x2)], rfl, ?_⟩)
      refine a_goto F (tgt := 7) dX11_toCorner_97 (by decide) ?_
      cases hf
      exact a_sub [1, 2, 3, 0] rfl (hn _ _ rfl)
    · refine a_ldc2 F (n := 4) (by decide +kernel) w_684 dX11_toCorner_26 ?_
      refine a_aload_n F dX11_toCorner_29 rfl 0 rfl ?_
      refine a_getR F (j := 4) tM_0 rfl rfl (by decide) inW11 w_539 dX11_toCorner_30 ?_
      refine a_iload F dX11_toCorner_33 3 rfl ?_
      refine a_iald F tM_2 rfl (by decide) hf dX11_toCorner_35 (fun hf => ?_)
      refine a_iload_n F dX11_toCorner_36 rfl 1 rfl ?_
      refine a_iconst F dX11_toCorner_37 ?_
      refine a_icmp_eq F hf (tgt := 46) dX11_toCorner_38 (by decide) (fun hf => ?_) (fun hf => ?_)
      · exact a_sub [0, 1, 2, 3] rfl (k_X11_toCorner_b46 F hf hn)
      · refine a_iload_n F dX11_toCorner_41 rfl 1 rfl ?_
        refine a_iconst F dX11_toCorner_42 ?_
        refine a_icmp_ne F hf (tgt := 53) dX11_toCorner_43 (by decide) (fun hf => ?_) (fun hf => ?_)
        · exact a_sub [0, 1, 2, 3] rfl (k_X11_toCorner_b46 F hf hn)
        · refine a_iconst F dX11_toCorner_53 ?_
          exact a_sub [0, 1, 2, 3] rfl (k_X11_toCorner_b54 F hf hn)
  · cases hf
    exact a_sub [2] rfl (hx0 _ rfl)
set_option maxRecDepth 100000 in
set_option maxHeartbeats 4000000 in
theorem k_X11_toCorner_b0 {l : Launch} {ad : Nat → Nat} {X : Cx} (F : Ok vwCl WS NWs TM cX11_toCorner 7 yX11_toCorner.cls (some .long) ad l X) {σ : St} {x1 : Int} {y : Int} (hf : f_X11_toCorner_b0 σ x1 = some y) (hr : RetL vwCl TM cX11_toCorner 7 rm_X11_toCorner ad X y σ) : At vwCl TM 7 rm_X11_toCorner ad X σ [(0, .ref (ad 0)), (1, iv x1)] [] 0 := by
  unfold f_X11_toCorner_b0 at hf
  refine a_ldc2 F (n := 9223372036854775807) (by decide +kernel) w_683 dX11_toCorner_0 ?_
  refine a_topJ hf (fun x2_1 hf => ?_)
  refine a_lstore_n F (lv' := [(2, jv x2_1), (0, .ref (ad 0)), (1, iv x1)]) dX11_toCorner_3 rfl (by decide) rfl ?_
  refine a_iconst F dX11_toCorner_4 ?_
  refine a_topI hf (fun x4_2 hf => ?_)
  refine a_istore F (lv' := [(4, iv x4_2), (2, jv x2_1), (0, .ref (ad 0)), (1, iv x1)]) dX11_toCorner_5 (by decide) rfl ?_
  obtain ⟨q0, he, hf⟩ := jbind_elim hf
  refine a_sub [2, 3, 1, 0] rfl (loop_rule (P := (fun q => ∀ z2 z4, (z2, z4) = q → At vwCl TM 7 rm_X11_toCorner ad X σ [(0, .ref (ad 0)), (1, iv x1), (2, jv z2), (4, iv z4)] [] 7)) (K := (fun q => (∀ z2, z2 = q → At vwCl TM 7 rm_X11_toCorner ad X σ [(2, jv z2)] [] 100))) ?_ 1000 _ _ he ?_ _ _ rfl)
  · intro q y hy hn hx z2 z4 e
    subst e
    exact k_X11_toCorner_b7 F hy (fun z2 z4 e => hn _ e _ _ rfl) (fun z2 e => (hx _ e) _ rfl)
  · intro x2_10 e
    subst e
    refine a_lload_n F dX11_toCorner_100 rfl 0 rfl ?_
    cases hf
    exact hr _ _ dX11_toCorner_101
set_option maxRecDepth 100000 in
set_option maxHeartbeats 4000000 in
theorem c_X11_toCorner {l : Launch}  {σ : St} {x1 : Int} : CtrL vwCl WS NWs TM l yX11_toCorner cX11_toCorner 7 (some .long) rm_X11_toCorner (fun ad => [.ref (ad 0), iv x1]) σ (rd (f_X11_toCorner σ x1) σ) := by
  refine ctrL_of (by decide +kernel) (fun ad => Nat.le_of_ble_eq_true rfl) (fun v σ' ad X hf F K => ?_)
  obtain ⟨hf2, e2⟩ := rd_elim hf
  subst e2
  exact k_X11_toCorner_b0 F hf2 K
abbrev rm_X11_keep : Room := { frames := 3, cells := 0, slots := 0, locals := 68 }
set_option maxRecDepth 100000 in
set_option maxHeartbeats 4000000 in
theorem k_X11_keep_b38 {l : Launch} {ad : Nat → Nat} {X : Cx} (F : Ok vwCl WS NWs TM cX11_keep 15 yX11_keep.cls (some .int) ad l X) {σ : St} {x1 x2 x3 x4 : Int} {y : ((Int × Int) ⊕ Int)} (hf : f_X11_keep_b38 σ x1 x2 x3 x4 = some y) (hn : ∀ z3 z4, y = .inl (z3, z4) → At vwCl TM 15 rm_X11_keep ad X σ [(0, .ref (ad 0)), (1, iv x1), (2, iv x2), (3, iv z3), (4, iv z4)] [] 38) (hx0 : ∀ z3, y = .inr (z3) → At vwCl TM 15 rm_X11_keep ad X σ [(0, .ref (ad 0)), (1, iv x1), (2, iv x2), (3, iv z3)] [] 62) : At vwCl TM 15 rm_X11_keep ad X σ [(0, .ref (ad 0)), (1, iv x1), (2, iv x2), (3, iv x3), (4, iv x4)] [] 38 := by
  unfold f_X11_keep_b38 at hf
  refine a_iload F dX11_keep_38 4 rfl ?_
  refine a_iload_n F dX11_keep_40 rfl 2 rfl ?_
  refine a_icmp_eq F hf (tgt := 62) dX11_keep_41 (by decide) (fun hf => ?_) (fun hf => ?_)
  · cases hf
    exact a_sub [0, 1, 2, 3] rfl (hx0 _ rfl)
  · refine a_iload_n F dX11_keep_44 rfl 3 rfl ?_
    refine a_iconst F dX11_keep_45 ?_
    refine a_iload F dX11_keep_46 4 rfl ?_
    refine a_ishl F dX11_keep_48 ?_
    refine a_ior F dX11_keep_49 ?_
    refine a_topI hf (fun x3_4 hf => ?_)
    refine a_istore_n F (lv' := [(3, iv x3_4), (0, .ref (ad 0)), (1, iv x1), (2, iv x2), (4, iv x4)]) dX11_keep_50 rfl (by decide) rfl ?_
    refine a_iload F dX11_keep_51 4 rfl ?_
    refine a_iconst F dX11_keep_53 ?_
    refine a_iadd F dX11_keep_54 ?_
    refine a_iconst F dX11_keep_55 ?_
    refine a_irem F hf dX11_keep_56 (fun hf => ?_)
    refine a_topI hf (fun x4_5 hf => ?_)
    refine a_istore F (lv' := [(4, iv x4_5), (3, iv x3_4), (0, .ref (ad 0)), (1, iv x1), (2, iv x2)]) dX11_keep_57 (by decide) rfl ?_
    refine a_goto F (tgt := 38) dX11_keep_59 (by decide) ?_
    cases hf
    exact a_sub [2, 3, 4, 1, 0] rfl (hn _ _ rfl)
set_option maxRecDepth 100000 in
set_option maxHeartbeats 4000000 in
theorem k_X11_keep_b122 {l : Launch} {ad : Nat → Nat} {X : Cx} (F : Ok vwCl WS NWs TM cX11_keep 15 yX11_keep.cls (some .int) ad l X) {σ : St} {x1 x2 x3 x4 t1 t2 : Int} {y : ((St × Int) ⊕ St)} (hf : f_X11_keep_b122 σ x1 x2 x3 x4 t1 t2 = some y) (hn : ∀ τ z4, y = .inl (τ, z4) → At vwCl TM 15 rm_X11_keep ad X τ [(0, .ref (ad 0)), (1, iv x1), (2, iv x2), (3, iv x3), (4, iv z4)] [] 65) : At vwCl TM 15 rm_X11_keep ad X σ [(0, .ref (ad 0)), (1, iv x1), (2, iv x2), (3, iv x3), (4, iv x4)] [jv t2, iv t1, .ref (ad 29)] 122 := by
  unfold f_X11_keep_b122 at hf
  refine a_last F tM_29 rfl (by decide) hf dX11_keep_122 (fun σ_11 hf => ?_)
  refine a_iinc F hf dX11_keep_123 4 rfl (by decide) (fun x4_12 hf => ⟨[(4, iv x4_12), (0, .ref (ad 0)), (1, iv x1), (2, iv x2), (3, iv x3)], rfl, ?_⟩)
  refine a_goto F (tgt := 65) dX11_keep_126 (by decide) ?_
  cases hf
  exact a_sub [1, 2, 3, 4, 0] rfl (hn _ _ rfl)
set_option maxRecDepth 100000 in
set_option maxHeartbeats 4000000 in
theorem k_X11_keep_b92 {l : Launch} {ad : Nat → Nat} {X : Cx} (F : Ok vwCl WS NWs TM cX11_keep 15 yX11_keep.cls (some .int) ad l X) {σ : St} {x1 x2 x3 x4 t1 t2 : Int} {y : ((St × Int) ⊕ St)} (hf : f_X11_keep_b92 σ x1 x2 x3 x4 t1 t2 = some y) (hn : ∀ τ z4, y = .inl (τ, z4) → At vwCl TM 15 rm_X11_keep ad X τ [(0, .ref (ad 0)), (1, iv x1), (2, iv x2), (3, iv x3), (4, iv z4)] [] 65) : At vwCl TM 15 rm_X11_keep ad X σ [(0, .ref (ad 0)), (1, iv x1), (2, iv x2), (3, iv x3), (4, iv x4)] [iv t2, iv t1, .ref (ad 30)] 92 := by
  unfold f_X11_keep_b92 at hf
  refine a_zast F tM_30 rfl (by decide) hf dX11_keep_92 (fun σ_9 hf => ?_)
  refine a_aload_n F dX11_keep_93 rfl 0 rfl ?_
  refine a_getR F (j := 51) tM_0 rfl rfl (by decide) inW11 w_686 dX11_keep_94 ?_
  refine a_iload F dX11_keep_97 4 rfl ?_
  refine a_aload_n F dX11_keep_99 rfl 0 rfl ?_
  refine a_getR F (j := 52) tM_0 rfl rfl (by decide) inW11 w_685 dX11_keep_100 ?_
  refine a_iload F dX11_keep_103 4 rfl ?_
  refine a_zald F tM_30 rfl (by decide) hf dX11_keep_105 (fun hf => ?_)
  refine a_if_eq F hf (tgt := 115) dX11_keep_106 (by decide) (fun hf => ?_) (fun hf => ?_)
  · refine a_aload_n F dX11_keep_115 rfl 0 rfl ?_
    refine a_iload F dX11_keep_116 4 rfl ?_
    refine a_iload_n F dX11_keep_118 rfl 3 rfl ?_
    refine a_callVLr F lk_RX11_346 tM_0 rfl c_X11_toSides rfl rfl ⟨rfl, rfl⟩ ⟨Nat.le_of_ble_eq_true rfl, Nat.le_of_ble_eq_true rfl⟩ rfl (Nat.le_of_ble_eq_true rfl) dX11_keep_119 hf (fun r_10 hf => ?_)
    exact a_sub [0, 1, 2, 3, 4] rfl (k_X11_keep_b122 F hf hn)
  · refine a_ldc2 F (n := 9223372036854775807) (by decide +kernel) w_683 dX11_keep_109 ?_
    refine a_goto F (tgt := 122) dX11_keep_112 (by decide) ?_
    exact a_sub [0, 1, 2, 3, 4] rfl (k_X11_keep_b122 F hf hn)
set_option maxRecDepth 100000 in
set_option maxHeartbeats 4000000 in
theorem k_X11_keep_b65 {l : Launch} {ad : Nat → Nat} {X : Cx} (F : Ok vwCl WS NWs TM cX11_keep 15 yX11_keep.cls (some .int) ad l X) {σ : St} {x1 x2 x3 x4 : Int} {y : ((St × Int) ⊕ St)} (hf : f_X11_keep_b65 σ x1 x2 x3 x4 = some y) (hn : ∀ τ z4, y = .inl (τ, z4) → At vwCl TM 15 rm_X11_keep ad X τ [(0, .ref (ad 0)), (1, iv x1), (2, iv x2), (3, iv x3), (4, iv z4)] [] 65) (hx0 : ∀ τ, y = .inr (τ) → At vwCl TM 15 rm_X11_keep ad X τ [(0, .ref (ad 0)), (1, iv x1), (2, iv x2), (3, iv x3)] [] 129) : At vwCl TM 15 rm_X11_keep ad X σ [(0, .ref (ad 0)), (1, iv x1), (2, iv x2), (3, iv x3), (4, iv x4)] [] 65 := by
  unfold f_X11_keep_b65 at hf
  refine a_iload F dX11_keep_65 4 rfl ?_
  refine a_bipush F dX11_keep_67 (by decide +kernel) ?_
  refine a_icmp_ge F hf (tgt := 129) dX11_keep_69 (by decide) (fun hf => ?_) (fun hf => ?_)
  · refine a_aload_n F dX11_keep_72 rfl 0 rfl ?_
    refine a_getR F (j := 52) tM_0 rfl rfl (by decide) inW11 w_685 dX11_keep_73 ?_
    refine a_iload F dX11_keep_76 4 rfl ?_
    refine a_aload_n F dX11_keep_78 rfl 0 rfl ?_
    refine a_iload F dX11_keep_79 4 rfl ?_
    refine a_callVIr F lk_RX11_148 tM_0 rfl c_X11_counts rfl rfl ⟨rfl, rfl⟩ ⟨Nat.le_of_ble_eq_true rfl, Nat.le_of_ble_eq_true rfl⟩ rfl (Nat.le_of_ble_eq_true rfl) dX11_keep_81 hf (fun r_8 hf => ?_)
    refine a_if_ne F hf (tgt := 91) dX11_keep_84 (by decide) (fun hf => ?_) (fun hf => ?_)
    · refine a_iconst F dX11_keep_87 ?_
      refine a_goto F (tgt := 92) dX11_keep_88 (by decide) ?_
      exact a_sub [0, 1, 2, 3, 4] rfl (k_X11_keep_b92 F hf hn)
    · refine a_iconst F dX11_keep_91 ?_
      exact a_sub [0, 1, 2, 3, 4] rfl (k_X11_keep_b92 F hf hn)
  · cases hf
    exact a_sub [0, 1, 2, 3] rfl (hx0 _ rfl)
set_option maxRecDepth 100000 in
set_option maxHeartbeats 4000000 in
theorem k_X11_keep_b172 {l : Launch} {ad : Nat → Nat} {X : Cx} (F : Ok vwCl WS NWs TM cX11_keep 15 yX11_keep.cls (some .int) ad l X) {σ : St} {x3 x4 x7 x8 : Int} {y : ((Int × Int) ⊕ Int)} (hf : f_X11_keep_b172 σ x3 x4 x7 x8 = some y) (hn : ∀ z7 z8, y = .inl (z7, z8) → At vwCl TM 15 rm_X11_keep ad X σ [(0, .ref (ad 0)), (3, iv x3), (4, jv x4), (7, iv z7), (8, iv z8)] [] 172) (hx0 : ∀ z7, y = .inr (z7) → At vwCl TM 15 rm_X11_keep ad X σ [(0, .ref (ad 0)), (3, iv x3), (4, jv x4), (7, iv z7)] [] 223) : At vwCl TM 15 rm_X11_keep ad X σ [(0, .ref (ad 0)), (3, iv x3), (4, jv x4), (7, iv x7), (8, iv x8)] [] 172 := by
  unfold f_X11_keep_b172 at hf
  refine a_iload F dX11_keep_172 4 rfl ?_
  refine a_bipush F dX11_keep_174 (by decide +kernel) ?_
  refine a_icmp_ge F hf (tgt := 223) dX11_keep_176 (by decide) (fun hf => ?_) (fun hf => ?_)
  · refine a_aload_n F dX11_keep_179 rfl 0 rfl ?_
    refine a_getR F (j := 52) tM_0 rfl rfl (by decide) inW11 w_685 dX11_keep_180 ?_
    refine a_iload F dX11_keep_183 4 rfl ?_
    refine a_zald F tM_30 rfl (by decide) hf dX11_keep_185 (fun hf => ?_)
    refine a_if_ne F hf (tgt := 217) dX11_keep_186 (by decide) (fun hf => ?_) (fun hf => ?_)
    · refine a_iload F dX11_keep_189 3 rfl ?_
      refine a_iconst F dX11_keep_191 ?_
      refine a_icmp_eq F hf (tgt := 213) dX11_keep_192 (by decide) (fun hf => ?_) (fun hf => ?_)
      · refine a_iload F dX11_keep_213 4 rfl ?_
        refine a_topI hf (fun x7_22 hf => ?_)
        refine a_istore F (lv' := [(7, iv x7_22), (0, .ref (ad 0)), (3, iv x3), (4, jv x4), (8, iv x8)]) dX11_keep_215 (by decide) rfl ?_
        refine a_iinc F hf dX11_keep_217 4 rfl (by decide) (fun x8_23 hf => ⟨[(8, iv x8_23), (7, iv x7_22), (0, .ref (ad 0)), (3, iv x3), (4, jv x4)], rfl, ?_⟩)
        refine a_goto F (tgt := 172) dX11_keep_220 (by decide) ?_
        cases hf
        exact a_sub [2, 3, 4, 1, 0] rfl (hn _ _ rfl)
      · refine a_aload_n F dX11_keep_195 rfl 0 rfl ?_
        refine a_getR F (j := 51) tM_0 rfl rfl (by decide) inW11 w_686 dX11_keep_196 ?_
        refine a_iload F dX11_keep_199 4 rfl ?_
        refine a_lald F tM_29 rfl (by decide) hf dX11_keep_201 (fun hf => ?_)
        refine a_aload_n F dX11_keep_202 rfl 0 rfl ?_
        refine a_getR F (j := 51) tM_0 rfl rfl (by decide) inW11 w_686 dX11_keep_203 ?_
        refine a_iload F dX11_keep_206 3 rfl ?_
        refine a_lald F tM_29 rfl (by decide) hf dX11_keep_208 (fun hf => ?_)
        refine a_lcmp_ge F hf (tgt := 217) dX11_keep_209 dX11_keep_210 (by decide) (fun hf => ?_) (fun hf => ?_)
        · refine a_iload F dX11_keep_213 4 rfl ?_
          refine a_topI hf (fun x7_25 hf => ?_)
          refine a_istore F (lv' := [(7, iv x7_25), (0, .ref (ad 0)), (3, iv x3), (4, jv x4), (8, iv x8)]) dX11_keep_215 (by decide) rfl ?_
          refine a_iinc F hf dX11_keep_217 4 rfl (by decide) (fun x8_26 hf => ⟨[(8, iv x8_26), (7, iv x7_25), (0, .ref (ad 0)), (3, iv x3), (4, jv x4)], rfl, ?_⟩)
          refine a_goto F (tgt := 172) dX11_keep_220 (by decide) ?_
          cases hf
          exact a_sub [2, 3, 4, 1, 0] rfl (hn _ _ rfl)
        · refine a_iinc F hf dX11_keep_217 4 rfl (by decide) (fun x8_24 hf => ⟨[(8, iv x8_24), (0, .ref (ad 0)), (3, iv x3), (4, jv x4), (7, iv x7)], rfl, ?_⟩)
          refine a_goto F (tgt := 172) dX11_keep_220 (by decide) ?_
          cases hf
          exact a_sub [1, 2, 3, 4, 0] rfl (hn _ _ rfl)
    · refine a_iinc F hf dX11_keep_217 4 rfl (by decide) (fun x8_21 hf => ⟨[(8, iv x8_21), (0, .ref (ad 0)), (3, iv x3), (4, jv x4), (7, iv x7)], rfl, ?_⟩)
      refine a_goto F (tgt := 172) dX11_keep_220 (by decide) ?_
      cases hf
      exact a_sub [1, 2, 3, 4, 0] rfl (hn _ _ rfl)
  · cases hf
    exact a_sub [0, 1, 2, 3] rfl (hx0 _ rfl)
set_option maxRecDepth 100000 in
set_option maxHeartbeats 4000000 in
theorem k_X11_keep_b363 {l : Launch} {ad : Nat → Nat} {X : Cx} (F : Ok vwCl WS NWs TM cX11_keep 15 yX11_keep.cls (some .int) ad l X) {σ : St} {x3 x4 x6 x7 x12 t0 : Int} {y : ((St × Int) ⊕ St)} (hf : f_X11_keep_b363 σ x3 x4 x6 x7 x12 t0 = some y) (hn : ∀ τ z12, y = .inl (τ, z12) → At vwCl TM 15 rm_X11_keep ad X τ [(0, .ref (ad 0)), (3, iv x3), (4, jv x4), (6, iv x6), (7, iv x7), (12, iv z12)] [] 306) : At vwCl TM 15 rm_X11_keep ad X σ [(0, .ref (ad 0)), (3, iv x3), (4, jv x4), (6, iv x6), (7, iv x7), (12, iv x12)] [jv t0] 363 := by
  unfold f_X11_keep_b363 at hf
  refine a_topJ hf (fun x13_35 hf => ?_)
  refine a_lstore F (lv' := [(13, jv x13_35), (0, .ref (ad 0)), (3, iv x3), (4, jv x4), (6, iv x6), (7, iv x7), (12, iv x12)]) dX11_keep_363 (by decide) rfl ?_
  refine a_lload F dX11_keep_365 0 rfl ?_
  refine a_aload_n F dX11_keep_367 rfl 1 rfl ?_
  refine a_getR F (j := 51) tM_0 rfl rfl (by decide) inW11 w_686 dX11_keep_368 ?_
  refine a_iload F dX11_keep_371 6 rfl ?_
  refine a_lald F tM_29 rfl (by decide) hf dX11_keep_373 (fun hf => ?_)
  refine a_lcmp_ge F hf (tgt := 387) dX11_keep_374 dX11_keep_375 (by decide) (fun hf => ?_) (fun hf => ?_)
  · refine a_aload_n F dX11_keep_378 rfl 1 rfl ?_
    refine a_getR F (j := 51) tM_0 rfl rfl (by decide) inW11 w_686 dX11_keep_379 ?_
    refine a_iload F dX11_keep_382 6 rfl ?_
    refine a_lload F dX11_keep_384 0 rfl ?_
    refine a_last F tM_29 rfl (by decide) hf dX11_keep_386 (fun σ_37 hf => ?_)
    refine a_iinc F hf dX11_keep_387 6 rfl (by decide) (fun x12_38 hf => ⟨[(12, iv x12_38), (13, jv x13_35), (0, .ref (ad 0)), (3, iv x3), (4, jv x4), (6, iv x6), (7, iv x7)], rfl, ?_⟩)
    refine a_goto F (tgt := 306) dX11_keep_390 (by decide) ?_
    cases hf
    exact a_sub [2, 3, 4, 5, 6, 0] rfl (hn _ _ rfl)
  · refine a_iinc F hf dX11_keep_387 6 rfl (by decide) (fun x12_36 hf => ⟨[(12, iv x12_36), (13, jv x13_35), (0, .ref (ad 0)), (3, iv x3), (4, jv x4), (6, iv x6), (7, iv x7)], rfl, ?_⟩)
    refine a_goto F (tgt := 306) dX11_keep_390 (by decide) ?_
    cases hf
    exact a_sub [2, 3, 4, 5, 6, 0] rfl (hn _ _ rfl)
set_option maxRecDepth 100000 in
set_option maxHeartbeats 4000000 in
theorem k_X11_keep_b306 {l : Launch} {ad : Nat → Nat} {X : Cx} (F : Ok vwCl WS NWs TM cX11_keep 15 yX11_keep.cls (some .int) ad l X) {σ : St} {x3 x4 x6 x7 x12 : Int} {y : ((St × Int) ⊕ St)} (hf : f_X11_keep_b306 σ x3 x4 x6 x7 x12 = some y) (hn : ∀ τ z12, y = .inl (τ, z12) → At vwCl TM 15 rm_X11_keep ad X τ [(0, .ref (ad 0)), (3, iv x3), (4, jv x4), (6, iv x6), (7, iv x7), (12, iv z12)] [] 306) (hx0 : ∀ τ, y = .inr (τ) → At vwCl TM 15 rm_X11_keep ad X τ [(0, .ref (ad 0)), (3, iv x3), (4, jv x4), (6, iv x6)] [] 393) : At vwCl TM 15 rm_X11_keep ad X σ [(0, .ref (ad 0)), (3, iv x3), (4, jv x4), (6, iv x6), (7, iv x7), (12, iv x12)] [] 306 := by
  unfold f_X11_keep_b306 at hf
  refine a_iload F dX11_keep_306 5 rfl ?_
  refine a_bipush F dX11_keep_308 (by decide +kernel) ?_
  refine a_icmp_ge F hf (tgt := 393) dX11_keep_310 (by decide) (fun hf => ?_) (fun hf => ?_)
  · refine a_aload_n F dX11_keep_313 rfl 0 rfl ?_
    refine a_getR F (j := 52) tM_0 rfl rfl (by decide) inW11 w_685 dX11_keep_314 ?_
    refine a_iload F dX11_keep_317 5 rfl ?_
    refine a_zald F tM_30 rfl (by decide) hf dX11_keep_319 (fun hf => ?_)
    refine a_if_eq F hf (tgt := 326) dX11_keep_320 (by decide) (fun hf => ?_) (fun hf => ?_)
    · refine a_aload_n F dX11_keep_326 rfl 0 rfl ?_
      refine a_iload F dX11_keep_327 4 rfl ?_
      refine a_iload F dX11_keep_329 5 rfl ?_
      refine a_callVLr F lk_RX11_276 tM_0 rfl c_X11_apart rfl rfl ⟨rfl, rfl⟩ ⟨Nat.le_of_ble_eq_true rfl, Nat.le_of_ble_eq_true rfl⟩ rfl (Nat.le_of_ble_eq_true rfl) dX11_keep_331 hf (fun r_34 hf => ?_)
      refine a_aload_n F dX11_keep_334 rfl 0 rfl ?_
      refine a_getR F (j := 51) tM_0 rfl rfl (by decide) inW11 w_686 dX11_keep_335 ?_
      refine a_iload F dX11_keep_338 4 rfl ?_
      refine a_lald F tM_29 rfl (by decide) hf dX11_keep_340 (fun hf => ?_)
      refine a_lcmp_le F hf (tgt := 356) dX11_keep_341 dX11_keep_342 (by decide) (fun hf => ?_) (fun hf => ?_)
      · refine a_aload_n F dX11_keep_345 rfl 0 rfl ?_
        refine a_iload F dX11_keep_346 4 rfl ?_
        refine a_iload F dX11_keep_348 5 rfl ?_
        refine a_callVLr F lk_RX11_276 tM_0 rfl c_X11_apart rfl rfl ⟨rfl, rfl⟩ ⟨Nat.le_of_ble_eq_true rfl, Nat.le_of_ble_eq_true rfl⟩ rfl (Nat.le_of_ble_eq_true rfl) dX11_keep_350 hf (fun r_39 hf => ?_)
        refine a_goto F (tgt := 363) dX11_keep_353 (by decide) ?_
        exact a_sub [0, 1, 2, 3, 4, 5] rfl (k_X11_keep_b363 F hf hn)
      · refine a_aload_n F dX11_keep_356 rfl 0 rfl ?_
        refine a_getR F (j := 51) tM_0 rfl rfl (by decide) inW11 w_686 dX11_keep_357 ?_
        refine a_iload F dX11_keep_360 4 rfl ?_
        refine a_lald F tM_29 rfl (by decide) hf dX11_keep_362 (fun hf => ?_)
        exact a_sub [0, 1, 2, 3, 4, 5] rfl (k_X11_keep_b363 F hf hn)
    · refine a_goto F (tgt := 387) dX11_keep_323 (by decide) ?_
      refine a_iinc F hf dX11_keep_387 5 rfl (by decide) (fun x12_40 hf => ⟨[(12, iv x12_40), (0, .ref (ad 0)), (3, iv x3), (4, jv x4), (6, iv x6), (7, iv x7)], rfl, ?_⟩)
      refine a_goto F (tgt := 306) dX11_keep_390 (by decide) ?_
      cases hf
      exact a_sub [1, 2, 3, 4, 5, 0] rfl (hn _ _ rfl)
  · cases hf
    exact a_sub [0, 1, 2, 3] rfl (hx0 _ rfl)
set_option maxRecDepth 100000 in
set_option maxHeartbeats 4000000 in
theorem k_X11_keep_b289 {l : Launch} {ad : Nat → Nat} {X : Cx} (F : Ok vwCl WS NWs TM cX11_keep 15 yX11_keep.cls (some .int) ad l X) {σ : St} {x3 x4 x6 x7 t0 : Int} {y : ((St × Int × Int) ⊕ (St × Int))} (hf : f_X11_keep_b289 σ x3 x4 x6 x7 t0 = some y) (hn : ∀ τ z4 z6, y = .inl (τ, z4, z6) → At vwCl TM 15 rm_X11_keep ad X τ [(0, .ref (ad 0)), (3, iv x3), (4, jv z4), (6, iv z6)] [] 161) : At vwCl TM 15 rm_X11_keep ad X σ [(0, .ref (ad 0)), (3, iv x3), (4, jv x4), (6, iv x6), (7, iv x7)] [jv t0] 289 := by
  unfold f_X11_keep_b289 at hf
  refine a_topJ hf (fun x10_32 hf => ?_)
  refine a_lstore F (lv' := [(10, jv x10_32), (0, .ref (ad 0)), (3, iv x3), (4, jv x4), (6, iv x6), (7, iv x7)]) dX11_keep_289 (by decide) rfl ?_
  refine a_lload F dX11_keep_291 0 rfl ?_
  refine a_lload F dX11_keep_293 3 rfl ?_
  refine a_lcmp_ge F hf (tgt := 303) dX11_keep_295 dX11_keep_296 (by decide) (fun hf => ?_) (fun hf => ?_)
  · refine a_lload F dX11_keep_299 0 rfl ?_
    refine a_topJ hf (fun x4_42 hf => ?_)
    refine a_lstore F (lv' := [(4, jv x4_42), (10, jv x10_32), (0, .ref (ad 0)), (3, iv x3), (6, iv x6), (7, iv x7)]) dX11_keep_301 (by decide) rfl ?_
    refine a_iconst F dX11_keep_303 ?_
    refine a_topI hf (fun x12_43 hf => ?_)
    refine a_istore F (lv' := [(12, iv x12_43), (4, jv x4_42), (10, jv x10_32), (0, .ref (ad 0)), (3, iv x3), (6, iv x6), (7, iv x7)]) dX11_keep_304 (by decide) rfl ?_
    obtain ⟨q0, he, hf⟩ := jbind_elim hf
    refine a_sub [3, 4, 1, 5, 6, 0] rfl (loop_rule (P := (fun q => ∀ τ z12, (τ, z12) = q → At vwCl TM 15 rm_X11_keep ad X τ [(0, .ref (ad 0)), (3, iv x3), (4, jv x4_42), (6, iv x6), (7, iv x7), (12, iv z12)] [] 306)) (K := (fun q => (∀ τ, τ = q → At vwCl TM 15 rm_X11_keep ad X τ [(0, .ref (ad 0)), (3, iv x3), (4, jv x4_42), (6, iv x6)] [] 393))) ?_ 1000 _ _ he ?_ _ _ rfl)
    · intro q y hy hn hx τ z12 e
      subst e
      exact k_X11_keep_b306 F hy (fun τ z12 e => hn _ e _ _ rfl) (fun τ e => (hx _ e) _ rfl)
    · intro σ_44 e
      subst e
      refine a_goto F (tgt := 161) dX11_keep_393 (by decide) ?_
      cases hf
      exact a_sub [0, 1, 2, 3] rfl (hn _ _ _ rfl)
  · refine a_iconst F dX11_keep_303 ?_
    refine a_topI hf (fun x12_33 hf => ?_)
    refine a_istore F (lv' := [(12, iv x12_33), (10, jv x10_32), (0, .ref (ad 0)), (3, iv x3), (4, jv x4), (6, iv x6), (7, iv x7)]) dX11_keep_304 (by decide) rfl ?_
    obtain ⟨q0, he, hf⟩ := jbind_elim hf
    refine a_sub [2, 3, 4, 5, 6, 0] rfl (loop_rule (P := (fun q => ∀ τ z12, (τ, z12) = q → At vwCl TM 15 rm_X11_keep ad X τ [(0, .ref (ad 0)), (3, iv x3), (4, jv x4), (6, iv x6), (7, iv x7), (12, iv z12)] [] 306)) (K := (fun q => (∀ τ, τ = q → At vwCl TM 15 rm_X11_keep ad X τ [(0, .ref (ad 0)), (3, iv x3), (4, jv x4), (6, iv x6)] [] 393))) ?_ 1000 _ _ he ?_ _ _ rfl)
    · intro q y hy hn hx τ z12 e
      subst e
      exact k_X11_keep_b306 F hy (fun τ z12 e => hn _ e _ _ rfl) (fun τ e => (hx _ e) _ rfl)
    · intro σ_41 e
      subst e
      refine a_goto F (tgt := 161) dX11_keep_393 (by decide) ?_
      cases hf
      exact a_sub [0, 1, 2, 3] rfl (hn _ _ _ rfl)
set_option maxRecDepth 100000 in
set_option maxHeartbeats 4000000 in
theorem k_X11_keep_b234 {l : Launch} {ad : Nat → Nat} {X : Cx} (F : Ok vwCl WS NWs TM cX11_keep 15 yX11_keep.cls (some .int) ad l X) {σ : St} {x3 x4 x7 t0 : Int} {y : ((St × Int × Int) ⊕ (St × Int))} (hf : f_X11_keep_b234 σ x3 x4 x7 t0 = some y) (hn : ∀ τ z4 z6, y = .inl (τ, z4, z6) → At vwCl TM 15 rm_X11_keep ad X τ [(0, .ref (ad 0)), (3, iv x3), (4, jv z4), (6, iv z6)] [] 161) : At vwCl TM 15 rm_X11_keep ad X σ [(0, .ref (ad 0)), (3, iv x3), (4, jv x4), (7, iv x7)] [iv t0] 234 := by
  unfold f_X11_keep_b234 at hf
  refine a_topI hf (fun x6_28 hf => ?_)
  refine a_istore F (lv' := [(6, iv x6_28), (0, .ref (ad 0)), (3, iv x3), (4, jv x4), (7, iv x7)]) dX11_keep_234 (by decide) rfl ?_
  refine a_iload F dX11_keep_236 0 rfl ?_
  refine a_if_ne F hf (tgt := 244) dX11_keep_238 (by decide) (fun hf => ?_) (fun hf => ?_)
  · refine a_goto F (tgt := 161) dX11_keep_241 (by decide) ?_
    cases hf
    exact a_sub [1, 2, 3, 0] rfl (hn _ _ _ rfl)
  · refine a_aload_n F dX11_keep_244 rfl 1 rfl ?_
    refine a_getR F (j := 52) tM_0 rfl rfl (by decide) inW11 w_685 dX11_keep_245 ?_
    refine a_iload F dX11_keep_248 4 rfl ?_
    refine a_iconst F dX11_keep_250 ?_
    refine a_zast F tM_30 rfl (by decide) hf dX11_keep_251 (fun σ_29 hf => ?_)
    refine a_aload_n F dX11_keep_252 rfl 1 rfl ?_
    refine a_iload F dX11_keep_253 4 rfl ?_
    refine a_bipush F dX11_keep_255 (by decide +kernel) ?_
    refine a_iload_n F dX11_keep_257 rfl 2 rfl ?_
    refine a_isub F dX11_keep_258 ?_
    refine a_callVLr F lk_RX11_346 tM_0 rfl c_X11_toSides rfl rfl ⟨rfl, rfl⟩ ⟨Nat.le_of_ble_eq_true rfl, Nat.le_of_ble_eq_true rfl⟩ rfl (Nat.le_of_ble_eq_true rfl) dX11_keep_259 hf (fun r_30 hf => ?_)
    refine a_topJ hf (fun x8_31 hf => ?_)
    refine a_lstore F (lv' := [(8, jv x8_31), (6, iv x6_28), (0, .ref (ad 0)), (3, iv x3), (4, jv x4), (7, iv x7)]) dX11_keep_262 (by decide) rfl ?_
    refine a_lload F dX11_keep_264 0 rfl ?_
    refine a_aload_n F dX11_keep_266 rfl 2 rfl ?_
    refine a_getR F (j := 51) tM_0 rfl rfl (by decide) inW11 w_686 dX11_keep_267 ?_
    refine a_iload F dX11_keep_270 5 rfl ?_
    refine a_lald F tM_29 rfl (by decide) hf dX11_keep_272 (fun hf => ?_)
    refine a_lcmp_le F hf (tgt := 282) dX11_keep_273 dX11_keep_274 (by decide) (fun hf => ?_) (fun hf => ?_)
    · refine a_lload F dX11_keep_277 0 rfl ?_
      refine a_goto F (tgt := 289) dX11_keep_279 (by decide) ?_
      exact a_sub [2, 3, 4, 1, 5] rfl (k_X11_keep_b289 F hf hn)
    · refine a_aload_n F dX11_keep_282 rfl 2 rfl ?_
      refine a_getR F (j := 51) tM_0 rfl rfl (by decide) inW11 w_686 dX11_keep_283 ?_
      refine a_iload F dX11_keep_286 5 rfl ?_
      refine a_lald F tM_29 rfl (by decide) hf dX11_keep_288 (fun hf => ?_)
      exact a_sub [2, 3, 4, 1, 5] rfl (k_X11_keep_b289 F hf hn)
set_option maxRecDepth 100000 in
set_option maxHeartbeats 4000000 in
theorem k_X11_keep_b161 {l : Launch} {ad : Nat → Nat} {X : Cx} (F : Ok vwCl WS NWs TM cX11_keep 15 yX11_keep.cls (some .int) ad l X) {σ : St} {x3 x4 x6 : Int} {y : ((St × Int × Int) ⊕ (St × Int))} (hf : f_X11_keep_b161 σ x3 x4 x6 = some y) (hn : ∀ τ z4 z6, y = .inl (τ, z4, z6) → At vwCl TM 15 rm_X11_keep ad X τ [(0, .ref (ad 0)), (3, iv x3), (4, jv z4), (6, iv z6)] [] 161) (hx0 : ∀ τ z4, y = .inr ((τ, z4)) → At vwCl TM 15 rm_X11_keep ad X τ [(4, jv z4)] [] 396) : At vwCl TM 15 rm_X11_keep ad X σ [(0, .ref (ad 0)), (3, iv x3), (4, jv x4), (6, iv x6)] [] 161 := by
  unfold f_X11_keep_b161 at hf
  refine a_iload F dX11_keep_161 3 rfl ?_
  refine a_if_eq F hf (tgt := 396) dX11_keep_163 (by decide) (fun hf => ?_) (fun hf => ?_)
  · cases hf
    exact a_sub [2] rfl (hx0 _ _ rfl)
  · refine a_iconst F dX11_keep_166 ?_
    refine a_topI hf (fun x7_19 hf => ?_)
    refine a_istore F (lv' := [(7, iv x7_19), (0, .ref (ad 0)), (3, iv x3), (4, jv x4), (6, iv x6)]) dX11_keep_167 (by decide) rfl ?_
    refine a_iconst F dX11_keep_169 ?_
    refine a_topI hf (fun x8_20 hf => ?_)
    refine a_istore F (lv' := [(8, iv x8_20), (7, iv x7_19), (0, .ref (ad 0)), (3, iv x3), (4, jv x4), (6, iv x6)]) dX11_keep_170 (by decide) rfl ?_
    obtain ⟨q0, he, hf⟩ := jbind_elim hf
    refine a_sub [2, 3, 4, 1, 0] rfl (loop_rule (P := (fun q => ∀ z7 z8, (z7, z8) = q → At vwCl TM 15 rm_X11_keep ad X σ [(0, .ref (ad 0)), (3, iv x3), (4, jv x4), (7, iv z7), (8, iv z8)] [] 172)) (K := (fun q => (∀ z7, z7 = q → At vwCl TM 15 rm_X11_keep ad X σ [(0, .ref (ad 0)), (3, iv x3), (4, jv x4), (7, iv z7)] [] 223))) ?_ 1000 _ _ he ?_ _ _ rfl)
    · intro q y hy hn hx z7 z8 e
      subst e
      exact k_X11_keep_b172 F hy (fun z7 z8 e => hn _ e _ _ rfl) (fun z7 e => (hx _ e) _ rfl)
    · intro x7_27 e
      subst e
      refine a_iload F dX11_keep_223 3 rfl ?_
      refine a_iconst F dX11_keep_225 ?_
      refine a_icmp_eq F hf (tgt := 233) dX11_keep_226 (by decide) (fun hf => ?_) (fun hf => ?_)
      · refine a_iconst F dX11_keep_233 ?_
        exact a_sub [0, 1, 2, 3] rfl (k_X11_keep_b234 F hf hn)
      · refine a_iconst F dX11_keep_229 ?_
        refine a_goto F (tgt := 234) dX11_keep_230 (by decide) ?_
        exact a_sub [0, 1, 2, 3] rfl (k_X11_keep_b234 F hf hn)
set_option maxRecDepth 100000 in
set_option maxHeartbeats 4000000 in
theorem k_X11_keep_b0 {l : Launch} {ad : Nat → Nat} {X : Cx} (F : Ok vwCl WS NWs TM cX11_keep 15 yX11_keep.cls (some .int) ad l X) {σ : St} {x1 x2 : Int} {y : (Int × St)} (hf : f_X11_keep_b0 σ x1 x2 = some y) (hr : ∀ v τ, y = (v, τ) → RetI vwCl TM cX11_keep 15 rm_X11_keep ad X v τ) : At vwCl TM 15 rm_X11_keep ad X σ [(0, .ref (ad 0)), (1, iv x1), (2, iv x2)] [] 0 := by
  unfold f_X11_keep_b0 at hf
  refine a_iload_n F dX11_keep_0 rfl 1 rfl ?_
  refine a_if_lt F hf (tgt := 31) dX11_keep_1 (by decide) (fun hf => ?_) (fun hf => ?_)
  · refine a_iconst F dX11_keep_31 ?_
    cases hf
    exact hr _ _ rfl _ _ dX11_keep_32
  · refine a_iload_n F dX11_keep_4 rfl 1 rfl ?_
    refine a_iconst F dX11_keep_5 ?_
    refine a_icmp_gt F hf (tgt := 31) dX11_keep_6 (by decide) (fun hf => ?_) (fun hf => ?_)
    · refine a_iconst F dX11_keep_31 ?_
      cases hf
      exact hr _ _ rfl _ _ dX11_keep_32
    · refine a_iload_n F dX11_keep_9 rfl 2 rfl ?_
      refine a_if_lt F hf (tgt := 31) dX11_keep_10 (by decide) (fun hf => ?_) (fun hf => ?_)
      · refine a_iconst F dX11_keep_31 ?_
        cases hf
        exact hr _ _ rfl _ _ dX11_keep_32
      · refine a_iload_n F dX11_keep_13 rfl 2 rfl ?_
        refine a_iconst F dX11_keep_14 ?_
        refine a_icmp_gt F hf (tgt := 31) dX11_keep_15 (by decide) (fun hf => ?_) (fun hf => ?_)
        · refine a_iconst F dX11_keep_31 ?_
          cases hf
          exact hr _ _ rfl _ _ dX11_keep_32
        · refine a_iload_n F dX11_keep_18 rfl 1 rfl ?_
          refine a_iload_n F dX11_keep_19 rfl 2 rfl ?_
          refine a_icmp_eq F hf (tgt := 31) dX11_keep_20 (by decide) (fun hf => ?_) (fun hf => ?_)
          · refine a_iconst F dX11_keep_31 ?_
            cases hf
            exact hr _ _ rfl _ _ dX11_keep_32
          · refine a_aload_n F dX11_keep_23 rfl 0 rfl ?_
            refine a_iconst F dX11_keep_24 ?_
            refine a_callVIr F lk_RX11_144 tM_0 rfl c_X11_count rfl rfl ⟨rfl, rfl⟩ ⟨Nat.le_of_ble_eq_true rfl, Nat.le_of_ble_eq_true rfl⟩ rfl (Nat.le_of_ble_eq_true rfl) dX11_keep_25 hf (fun r_1 hf => ?_)
            refine a_if_ne F hf (tgt := 33) dX11_keep_28 (by decide) (fun hf => ?_) (fun hf => ?_)
            · refine a_iconst F dX11_keep_31 ?_
              cases hf
              exact hr _ _ rfl _ _ dX11_keep_32
            · refine a_iconst F dX11_keep_33 ?_
              refine a_topI hf (fun x3_2 hf => ?_)
              refine a_istore_n F (lv' := [(3, iv x3_2), (0, .ref (ad 0)), (1, iv x1), (2, iv x2)]) dX11_keep_34 rfl (by decide) rfl ?_
              refine a_iload_n F dX11_keep_35 rfl 2 rfl ?_
              refine a_topI hf (fun x4_3 hf => ?_)
              refine a_istore F (lv' := [(4, iv x4_3), (3, iv x3_2), (0, .ref (ad 0)), (1, iv x1), (2, iv x2)]) dX11_keep_36 (by decide) rfl ?_
              obtain ⟨q0, he, hf⟩ := jbind_elim hf
              refine a_sub [2, 3, 4, 1, 0] rfl (loop_rule (P := (fun q => ∀ z3 z4, (z3, z4) = q → At vwCl TM 15 rm_X11_keep ad X σ [(0, .ref (ad 0)), (1, iv x1), (2, iv x2), (3, iv z3), (4, iv z4)] [] 38)) (K := (fun q => (∀ z3, z3 = q → At vwCl TM 15 rm_X11_keep ad X σ [(0, .ref (ad 0)), (1, iv x1), (2, iv x2), (3, iv z3)] [] 62))) ?_ 1000 _ _ he ?_ _ _ rfl)
              · intro q y hy hn hx z3 z4 e
                subst e
                exact k_X11_keep_b38 F hy (fun z3 z4 e => hn _ e _ _ rfl) (fun z3 e => (hx _ e) _ rfl)
              · intro x3_6 e
                subst e
                refine a_iconst F dX11_keep_62 ?_
                refine a_topI hf (fun x4_7 hf => ?_)
                refine a_istore F (lv' := [(4, iv x4_7), (0, .ref (ad 0)), (1, iv x1), (2, iv x2), (3, iv x3_6)]) dX11_keep_63 (by decide) rfl ?_
                obtain ⟨q0, he, hf⟩ := jbind_elim hf
                refine a_sub [1, 2, 3, 4, 0] rfl (loop_rule (P := (fun q => ∀ τ z4, (τ, z4) = q → At vwCl TM 15 rm_X11_keep ad X τ [(0, .ref (ad 0)), (1, iv x1), (2, iv x2), (3, iv x3_6), (4, iv z4)] [] 65)) (K := (fun q => (∀ τ, τ = q → At vwCl TM 15 rm_X11_keep ad X τ [(0, .ref (ad 0)), (1, iv x1), (2, iv x2), (3, iv x3_6)] [] 129))) ?_ 1000 _ _ he ?_ _ _ rfl)
                · intro q y hy hn hx τ z4 e
                  subst e
                  exact k_X11_keep_b65 F hy (fun τ z4 e => hn _ e _ _ rfl) (fun τ e => (hx _ e) _ rfl)
                · intro σ_13 e
                  subst e
                  refine a_aload_n F dX11_keep_129 rfl 0 rfl ?_
                  refine a_iload_n F dX11_keep_130 rfl 1 rfl ?_
                  refine a_callVLr F lk_RX11_349 tM_0 rfl c_X11_toCorner rfl rfl ⟨rfl, rfl⟩ ⟨Nat.le_of_ble_eq_true rfl, Nat.le_of_ble_eq_true rfl⟩ rfl (Nat.le_of_ble_eq_true rfl) dX11_keep_131 hf (fun r_14 hf => ?_)
                  refine a_aload_n F dX11_keep_134 rfl 0 rfl ?_
                  refine a_iload_n F dX11_keep_135 rfl 2 rfl ?_
                  refine a_callVLr F lk_RX11_349 tM_0 rfl c_X11_toCorner rfl rfl ⟨rfl, rfl⟩ ⟨Nat.le_of_ble_eq_true rfl, Nat.le_of_ble_eq_true rfl⟩ rfl (Nat.le_of_ble_eq_true rfl) dX11_keep_136 hf (fun r_15 hf => ?_)
                  refine a_lcmp_ge F hf (tgt := 151) dX11_keep_139 dX11_keep_140 (by decide) (fun hf => ?_) (fun hf => ?_)
                  · refine a_aload_n F dX11_keep_143 rfl 0 rfl ?_
                    refine a_iload_n F dX11_keep_144 rfl 1 rfl ?_
                    refine a_callVLr F lk_RX11_349 tM_0 rfl c_X11_toCorner rfl rfl ⟨rfl, rfl⟩ ⟨Nat.le_of_ble_eq_true rfl, Nat.le_of_ble_eq_true rfl⟩ rfl (Nat.le_of_ble_eq_true rfl) dX11_keep_145 hf (fun r_47 hf => ?_)
                    refine a_goto F (tgt := 156) dX11_keep_148 (by decide) ?_
                    refine a_topJ hf (fun x4_48 hf => ?_)
                    refine a_lstore F (lv' := [(4, jv x4_48), (0, .ref (ad 0)), (1, iv x1), (2, iv x2), (3, iv x3_6)]) dX11_keep_156 (by decide) rfl ?_
                    refine a_iconst F dX11_keep_158 ?_
                    refine a_topI hf (fun x6_49 hf => ?_)
                    refine a_istore F (lv' := [(6, iv x6_49), (4, jv x4_48), (0, .ref (ad 0)), (1, iv x1), (2, iv x2), (3, iv x3_6)]) dX11_keep_159 (by decide) rfl ?_
                    obtain ⟨q0, he, hf⟩ := jbind_elim hf
                    refine a_sub [2, 5, 1, 0] rfl (loop_rule (P := (fun q => ∀ τ z4 z6, (τ, z4, z6) = q → At vwCl TM 15 rm_X11_keep ad X τ [(0, .ref (ad 0)), (3, iv x3_6), (4, jv z4), (6, iv z6)] [] 161)) (K := (fun q => (∀ τ z4, (τ, z4) = q → At vwCl TM 15 rm_X11_keep ad X τ [(4, jv z4)] [] 396))) ?_ 1000 _ _ he ?_ _ _ _ rfl)
                    · intro q y hy hn hx τ z4 z6 e
                      subst e
                      exact k_X11_keep_b161 F hy (fun τ z4 z6 e => hn _ e _ _ _ rfl) (fun τ z4 e => (hx _ e) _ _ rfl)
                    · intro σ_50 x4_51 e
                      subst e
                      refine a_lload F dX11_keep_396 0 rfl ?_
                      refine a_l2i F dX11_keep_398 ?_
                      cases hf
                      exact hr _ _ rfl _ _ dX11_keep_399
                  · refine a_aload_n F dX11_keep_151 rfl 0 rfl ?_
                    refine a_iload_n F dX11_keep_152 rfl 2 rfl ?_
                    refine a_callVLr F lk_RX11_349 tM_0 rfl c_X11_toCorner rfl rfl ⟨rfl, rfl⟩ ⟨Nat.le_of_ble_eq_true rfl, Nat.le_of_ble_eq_true rfl⟩ rfl (Nat.le_of_ble_eq_true rfl) dX11_keep_153 hf (fun r_16 hf => ?_)
                    refine a_topJ hf (fun x4_17 hf => ?_)
                    refine a_lstore F (lv' := [(4, jv x4_17), (0, .ref (ad 0)), (1, iv x1), (2, iv x2), (3, iv x3_6)]) dX11_keep_156 (by decide) rfl ?_
                    refine a_iconst F dX11_keep_158 ?_
                    refine a_topI hf (fun x6_18 hf => ?_)
                    refine a_istore F (lv' := [(6, iv x6_18), (4, jv x4_17), (0, .ref (ad 0)), (1, iv x1), (2, iv x2), (3, iv x3_6)]) dX11_keep_159 (by decide) rfl ?_
                    obtain ⟨q0, he, hf⟩ := jbind_elim hf
                    refine a_sub [2, 5, 1, 0] rfl (loop_rule (P := (fun q => ∀ τ z4 z6, (τ, z4, z6) = q → At vwCl TM 15 rm_X11_keep ad X τ [(0, .ref (ad 0)), (3, iv x3_6), (4, jv z4), (6, iv z6)] [] 161)) (K := (fun q => (∀ τ z4, (τ, z4) = q → At vwCl TM 15 rm_X11_keep ad X τ [(4, jv z4)] [] 396))) ?_ 1000 _ _ he ?_ _ _ _ rfl)
                    · intro q y hy hn hx τ z4 z6 e
                      subst e
                      exact k_X11_keep_b161 F hy (fun τ z4 z6 e => hn _ e _ _ _ rfl) (fun τ z4 e => (hx _ e) _ _ rfl)
                    · intro σ_45 x4_46 e
                      subst e
                      refine a_lload F dX11_keep_396 0 rfl ?_
                      refine a_l2i F dX11_keep_398 ?_
                      cases hf
                      exact hr _ _ rfl _ _ dX11_keep_399
set_option maxRecDepth 100000 in
set_option maxHeartbeats 4000000 in
theorem c_X11_keep {l : Launch}  {σ : St} {x1 x2 : Int} : CtrI vwCl WS NWs TM l yX11_keep cX11_keep 15 (some .int) rm_X11_keep (fun ad => [.ref (ad 0), iv x1, iv x2]) σ (f_X11_keep σ x1 x2) := by
  refine ctrI_of (by decide +kernel) (fun ad => Nat.le_of_ble_eq_true rfl) (fun v σ' ad X hf F K => ?_)
  exact k_X11_keep_b0 F hf (fun v τ e => by cases e; exact K)
abbrev rm_X11_tries : Room := { frames := 2, cells := 0, slots := 0, locals := 63 }
set_option maxRecDepth 100000 in
set_option maxHeartbeats 4000000 in
theorem k_X11_tries_b106 {l : Launch} {ad : Nat → Nat} {X : Cx} (F : Ok vwCl WS NWs TM cX11_tries 10 yX11_tries.cls none ad l X) {σ : St} {x1 x3 x5 x7 x8 : Int} {y : ((St × Int) ⊕ St)} (hf : f_X11_tries_b106 σ x1 x3 x5 x7 x8 = some y) (hn : ∀ τ z7, y = .inl (τ, z7) → At vwCl TM 10 rm_X11_tries ad X τ [(0, .ref (ad 0)), (1, jv x1), (3, jv x3), (5, jv x5), (7, iv z7)] [] 35) : At vwCl TM 10 rm_X11_tries ad X σ [(0, .ref (ad 0)), (1, jv x1), (3, jv x3), (5, jv x5), (7, iv x7), (8, jv x8)] [] 106 := by
  unfold f_X11_tries_b106 at hf
  refine a_aload_n F dX11_tries_106 rfl 0 rfl ?_
  refine a_lload F dX11_tries_107 5 rfl ?_
  refine a_putJ F (j := 37) tM_0 rfl rfl (by decide) inW11 w_647 tyX11 tyX11_ok nmX11 rfl rfl hf dX11_tries_109 (fun σ_10 hf => ?_)
  refine a_iinc F hf dX11_tries_112 4 rfl (by decide) (fun x7_11 hf => ⟨[(7, iv x7_11), (0, .ref (ad 0)), (1, jv x1), (3, jv x3), (5, jv x5), (8, jv x8)], rfl, ?_⟩)
  refine a_goto F (tgt := 35) dX11_tries_115 (by decide) ?_
  cases hf
  exact a_sub [1, 2, 3, 4, 0] rfl (hn _ _ rfl)
set_option maxRecDepth 100000 in
set_option maxHeartbeats 4000000 in
theorem k_X11_tries_b35 {l : Launch} {ad : Nat → Nat} {X : Cx} (F : Ok vwCl WS NWs TM cX11_tries 10 yX11_tries.cls none ad l X) {σ : St} {x1 x3 x5 x7 : Int} {y : ((St × Int) ⊕ St)} (hf : f_X11_tries_b35 σ x1 x3 x5 x7 = some y) (hn : ∀ τ z7, y = .inl (τ, z7) → At vwCl TM 10 rm_X11_tries ad X τ [(0, .ref (ad 0)), (1, jv x1), (3, jv x3), (5, jv x5), (7, iv z7)] [] 35) (hx0 : ∀ τ, y = .inr (τ) → At vwCl TM 10 rm_X11_tries ad X τ [(0, .ref (ad 0))] [] 118) : At vwCl TM 10 rm_X11_tries ad X σ [(0, .ref (ad 0)), (1, jv x1), (3, jv x3), (5, jv x5), (7, iv x7)] [] 35 := by
  unfold f_X11_tries_b35 at hf
  refine a_iload F dX11_tries_35 4 rfl ?_
  refine a_bipush F dX11_tries_37 (by decide +kernel) ?_
  refine a_icmp_ge F hf (tgt := 118) dX11_tries_39 (by decide) (fun hf => ?_) (fun hf => ?_)
  · refine a_aload_n F dX11_tries_42 rfl 0 rfl ?_
    refine a_iload F dX11_tries_43 4 rfl ?_
    refine a_callVIr F lk_RX11_148 tM_0 rfl c_X11_counts rfl rfl ⟨rfl, rfl⟩ ⟨Nat.le_of_ble_eq_true rfl, Nat.le_of_ble_eq_true rfl⟩ rfl (Nat.le_of_ble_eq_true rfl) dX11_tries_45 hf (fun r_7 hf => ?_)
    refine a_if_ne F hf (tgt := 54) dX11_tries_48 (by decide) (fun hf => ?_) (fun hf => ?_)
    · refine a_goto F (tgt := 112) dX11_tries_51 (by decide) ?_
      refine a_iinc F hf dX11_tries_112 4 rfl (by decide) (fun x7_13 hf => ⟨[(7, iv x7_13), (0, .ref (ad 0)), (1, jv x1), (3, jv x3), (5, jv x5)], rfl, ?_⟩)
      refine a_goto F (tgt := 35) dX11_tries_115 (by decide) ?_
      cases hf
      exact a_sub [1, 2, 3, 4, 0] rfl (hn _ _ rfl)
    · refine a_lload_n F dX11_tries_54 rfl 1 rfl ?_
      refine a_lload F dX11_tries_55 3 rfl ?_
      refine a_aload_n F dX11_tries_57 rfl 0 rfl ?_
      refine a_getR F (j := 4) tM_0 rfl rfl (by decide) inW11 w_539 dX11_tries_58 ?_
      refine a_iload F dX11_tries_61 4 rfl ?_
      refine a_iald F tM_2 rfl (by decide) hf dX11_tries_63 (fun hf => ?_)
      refine a_i2l F hf dX11_tries_64 (fun hf => ?_)
      refine a_lmul F dX11_tries_65 ?_
      refine a_lsub F dX11_tries_66 ?_
      refine a_lload_n F dX11_tries_67 rfl 2 rfl ?_
      refine a_lload F dX11_tries_68 3 rfl ?_
      refine a_aload_n F dX11_tries_70 rfl 0 rfl ?_
      refine a_getR F (j := 5) tM_0 rfl rfl (by decide) inW11 w_540 dX11_tries_71 ?_
      refine a_iload F dX11_tries_74 4 rfl ?_
      refine a_iald F tM_3 rfl (by decide) hf dX11_tries_76 (fun hf => ?_)
      refine a_i2l F hf dX11_tries_77 (fun hf => ?_)
      refine a_lmul F dX11_tries_78 ?_
      refine a_lsub F dX11_tries_79 ?_
      refine a_callSLr F lk_RX11_247 c_X11_square rfl rfl ⟨rfl, rfl⟩ ⟨Nat.le_of_ble_eq_true rfl, Nat.le_of_ble_eq_true rfl⟩ rfl (Nat.le_of_ble_eq_true rfl) dX11_tries_80 hf (fun r_8 hf => ?_)
      refine a_topJ hf (fun x8_9 hf => ?_)
      refine a_lstore F (lv' := [(8, jv x8_9), (0, .ref (ad 0)), (1, jv x1), (3, jv x3), (5, jv x5), (7, iv x7)]) dX11_tries_83 (by decide) rfl ?_
      refine a_aload_n F dX11_tries_85 rfl 1 rfl ?_
      refine a_getJ F (j := 37) tM_0 rfl rfl (by decide) inW11 w_647 dX11_tries_86 ?_
      refine a_ldc2 F (n := (-1)) (by decide +kernel) w_558 dX11_tries_89 ?_
      refine a_lcmp_eq F hf (tgt := 106) dX11_tries_92 dX11_tries_93 (by decide) (fun hf => ?_) (fun hf => ?_)
      · exact a_sub [1, 2, 3, 4, 5, 0] rfl (k_X11_tries_b106 F hf hn)
      · refine a_lload F dX11_tries_96 0 rfl ?_
        refine a_aload_n F dX11_tries_98 rfl 1 rfl ?_
        refine a_getJ F (j := 37) tM_0 rfl rfl (by decide) inW11 w_647 dX11_tries_99 ?_
        refine a_lcmp_ge F hf (tgt := 112) dX11_tries_102 dX11_tries_103 (by decide) (fun hf => ?_) (fun hf => ?_)
        · exact a_sub [1, 2, 3, 4, 5, 0] rfl (k_X11_tries_b106 F hf hn)
        · refine a_iinc F hf dX11_tries_112 5 rfl (by decide) (fun x7_12 hf => ⟨[(7, iv x7_12), (8, jv x8_9), (0, .ref (ad 0)), (1, jv x1), (3, jv x3), (5, jv x5)], rfl, ?_⟩)
          refine a_goto F (tgt := 35) dX11_tries_115 (by decide) ?_
          cases hf
          exact a_sub [2, 3, 4, 5, 0] rfl (hn _ _ rfl)
  · cases hf
    exact a_sub [0] rfl (hx0 _ rfl)
set_option maxRecDepth 100000 in
set_option maxHeartbeats 4000000 in
theorem k_X11_tries_b0 {l : Launch} {ad : Nat → Nat} {X : Cx} (F : Ok vwCl WS NWs TM cX11_tries 10 yX11_tries.cls none ad l X) {σ : St} {x1 x3 x5 : Int} {y : St} (hf : f_X11_tries_b0 σ x1 x3 x5 = some y) (hr : RetV vwCl TM cX11_tries 10 rm_X11_tries ad X y) : At vwCl TM 10 rm_X11_tries ad X σ [(0, .ref (ad 0)), (1, jv x1), (3, jv x3), (5, jv x5)] [] 0 := by
  unfold f_X11_tries_b0 at hf
  refine a_aload_n F dX11_tries_0 rfl 0 rfl ?_
  refine a_lload_n F dX11_tries_1 rfl 1 rfl ?_
  refine a_putJ F (j := 34) tM_0 rfl rfl (by decide) inW11 w_641 tyX11 tyX11_ok nmX11 rfl rfl hf dX11_tries_2 (fun σ_1 hf => ?_)
  refine a_aload_n F dX11_tries_5 rfl 0 rfl ?_
  refine a_lload_n F dX11_tries_6 rfl 2 rfl ?_
  refine a_putJ F (j := 35) tM_0 rfl rfl (by decide) inW11 w_643 tyX11 tyX11_ok nmX11 rfl rfl hf dX11_tries_7 (fun σ_2 hf => ?_)
  refine a_aload_n F dX11_tries_10 rfl 0 rfl ?_
  refine a_lload F dX11_tries_11 3 rfl ?_
  refine a_putJ F (j := 36) tM_0 rfl rfl (by decide) inW11 w_645 tyX11 tyX11_ok nmX11 rfl rfl hf dX11_tries_13 (fun σ_3 hf => ?_)
  refine a_aload_n F dX11_tries_16 rfl 0 rfl ?_
  refine a_ldc2 F (n := (-1)) (by decide +kernel) w_558 dX11_tries_17 ?_
  refine a_putJ F (j := 37) tM_0 rfl rfl (by decide) inW11 w_647 tyX11 tyX11_ok nmX11 rfl rfl hf dX11_tries_20 (fun σ_4 hf => ?_)
  refine a_aload_n F dX11_tries_23 rfl 0 rfl ?_
  refine a_lload F dX11_tries_24 3 rfl ?_
  refine a_lload F dX11_tries_26 3 rfl ?_
  refine a_lmul F dX11_tries_28 ?_
  refine a_putJ F (j := 38) tM_0 rfl rfl (by decide) inW11 w_649 tyX11 tyX11_ok nmX11 rfl rfl hf dX11_tries_29 (fun σ_5 hf => ?_)
  refine a_iconst F dX11_tries_32 ?_
  refine a_topI hf (fun x7_6 hf => ?_)
  refine a_istore F (lv' := [(7, iv x7_6), (0, .ref (ad 0)), (1, jv x1), (3, jv x3), (5, jv x5)]) dX11_tries_33 (by decide) rfl ?_
  obtain ⟨q0, he, hf⟩ := jbind_elim hf
  refine a_sub [1, 2, 3, 4, 0] rfl (loop_rule (P := (fun q => ∀ τ z7, (τ, z7) = q → At vwCl TM 10 rm_X11_tries ad X τ [(0, .ref (ad 0)), (1, jv x1), (3, jv x3), (5, jv x5), (7, iv z7)] [] 35)) (K := (fun q => (∀ τ, τ = q → At vwCl TM 10 rm_X11_tries ad X τ [(0, .ref (ad 0))] [] 118))) ?_ 1000 _ _ he ?_ _ _ rfl)
  · intro q y hy hn hx τ z7 e
    subst e
    exact k_X11_tries_b35 F hy (fun τ z7 e => hn _ e _ _ rfl) (fun τ e => (hx _ e) _ rfl)
  · intro σ_14 e
    subst e
    refine a_aload_n F dX11_tries_118 rfl 0 rfl ?_
    refine a_callVV F lk_RX11_315 tM_0 rfl c_X11_better rfl rfl ⟨rfl, rfl⟩ ⟨Nat.le_of_ble_eq_true rfl, Nat.le_of_ble_eq_true rfl⟩ rfl (Nat.le_of_ble_eq_true rfl) dX11_tries_119 hf (fun σ_15 hf => ?_)
    cases hf
    exact hr _ _ dX11_tries_122
set_option maxRecDepth 100000 in
set_option maxHeartbeats 4000000 in
theorem c_X11_tries {l : Launch}  {σ : St} {x1 x3 x5 : Int} : CtrV vwCl WS NWs TM l yX11_tries cX11_tries 10 none rm_X11_tries (fun ad => [.ref (ad 0), jv x1, jv x3, jv x5]) σ (f_X11_tries σ x1 x3 x5) := by
  refine ctrV_of (by decide +kernel) (fun ad => Nat.le_of_ble_eq_true rfl) (fun σ' ad X hf F K => ?_)
  exact k_X11_tries_b0 F hf K
abbrev rm_X11_triesOn : Room := { frames := 3, cells := 0, slots := 0, locals := 92 }
set_option maxRecDepth 100000 in
set_option maxHeartbeats 4000000 in
theorem k_X11_triesOn_b33 {l : Launch} {ad : Nat → Nat} {X : Cx} (F : Ok vwCl WS NWs TM cX11_triesOn 14 yX11_triesOn.cls none ad l X) {σ : St} {x5 x7 x8 x10 t0 : Int} {y : St} (hf : f_X11_triesOn_b33 σ x5 x7 x8 x10 t0 = some y) (hr : RetV vwCl TM cX11_triesOn 14 rm_X11_triesOn ad X y) : At vwCl TM 14 rm_X11_triesOn ad X σ [(0, .ref (ad 0)), (5, jv x5), (7, iv x7), (8, jv x8), (10, jv x10)] [jv t0] 33 := by
  unfold f_X11_triesOn_b33 at hf
  refine a_topJ hf (fun x12_2 hf => ?_)
  refine a_lstore F (lv' := [(12, jv x12_2), (0, .ref (ad 0)), (5, jv x5), (7, iv x7), (8, jv x8), (10, jv x10)]) dX11_triesOn_33 (by decide) rfl ?_
  refine a_lload F dX11_triesOn_35 0 rfl ?_
  refine a_lconst F (n := 0) dX11_triesOn_37 (by decide +kernel) ?_
  refine a_lcmp_lt F hf (tgt := 53) dX11_triesOn_38 dX11_triesOn_39 (by decide) (fun hf => ?_) (fun hf => ?_)
  · cases hf
    exact hr _ _ dX11_triesOn_53
  · refine a_lload F dX11_triesOn_42 0 rfl ?_
    refine a_lload F dX11_triesOn_44 4 rfl ?_
    refine a_lload F dX11_triesOn_46 5 rfl ?_
    refine a_lmul F dX11_triesOn_48 ?_
    refine a_lcmp_le F hf (tgt := 54) dX11_triesOn_49 dX11_triesOn_50 (by decide) (fun hf => ?_) (fun hf => ?_)
    · cases hf
      exact hr _ _ dX11_triesOn_53
    · refine a_iload F dX11_triesOn_54 3 rfl ?_
      refine a_if_eq F hf (tgt := 75) dX11_triesOn_56 (by decide) (fun hf => ?_) (fun hf => ?_)
      · refine a_aload_n F dX11_triesOn_75 rfl 1 rfl ?_
        refine a_lload F dX11_triesOn_76 0 rfl ?_
        refine a_lload F dX11_triesOn_78 2 rfl ?_
        refine a_lload F dX11_triesOn_80 5 rfl ?_
        refine a_lmul F dX11_triesOn_82 ?_
        refine a_lload F dX11_triesOn_83 5 rfl ?_
        refine a_callVV F lk_RX11_322 tM_0 rfl c_X11_tries rfl rfl ⟨rfl, rfl⟩ ⟨Nat.le_of_ble_eq_true rfl, Nat.le_of_ble_eq_true rfl⟩ rfl (Nat.le_of_ble_eq_true rfl) dX11_triesOn_85 hf (fun σ_3 hf => ?_)
        cases hf
        exact hr _ _ dX11_triesOn_88
      · refine a_aload_n F dX11_triesOn_59 rfl 1 rfl ?_
        refine a_lload F dX11_triesOn_60 2 rfl ?_
        refine a_lload F dX11_triesOn_62 5 rfl ?_
        refine a_lmul F dX11_triesOn_64 ?_
        refine a_lload F dX11_triesOn_65 0 rfl ?_
        refine a_lload F dX11_triesOn_67 5 rfl ?_
        refine a_callVV F lk_RX11_322 tM_0 rfl c_X11_tries rfl rfl ⟨rfl, rfl⟩ ⟨Nat.le_of_ble_eq_true rfl, Nat.le_of_ble_eq_true rfl⟩ rfl (Nat.le_of_ble_eq_true rfl) dX11_triesOn_69 hf (fun σ_4 hf => ?_)
        refine a_goto F (tgt := 88) dX11_triesOn_72 (by decide) ?_
        cases hf
        exact hr _ _ dX11_triesOn_88
set_option maxRecDepth 100000 in
set_option maxHeartbeats 4000000 in
theorem k_X11_triesOn_b19 {l : Launch} {ad : Nat → Nat} {X : Cx} (F : Ok vwCl WS NWs TM cX11_triesOn 14 yX11_triesOn.cls none ad l X) {σ : St} {x1 x3 x5 x7 x8 t0 : Int} {y : St} (hf : f_X11_triesOn_b19 σ x1 x3 x5 x7 x8 t0 = some y) (hr : RetV vwCl TM cX11_triesOn 14 rm_X11_triesOn ad X y) : At vwCl TM 14 rm_X11_triesOn ad X σ [(0, .ref (ad 0)), (1, jv x1), (3, jv x3), (5, jv x5), (7, iv x7), (8, jv x8)] [jv t0] 19 := by
  unfold f_X11_triesOn_b19 at hf
  refine a_topJ hf (fun x10_1 hf => ?_)
  refine a_lstore F (lv' := [(10, jv x10_1), (0, .ref (ad 0)), (1, jv x1), (3, jv x3), (5, jv x5), (7, iv x7), (8, jv x8)]) dX11_triesOn_19 (by decide) rfl ?_
  refine a_lload_n F dX11_triesOn_21 rfl 2 rfl ?_
  refine a_lconst F (n := 0) dX11_triesOn_22 (by decide +kernel) ?_
  refine a_lcmp_ge F hf (tgt := 32) dX11_triesOn_23 dX11_triesOn_24 (by decide) (fun hf => ?_) (fun hf => ?_)
  · refine a_lload_n F dX11_triesOn_27 rfl 3 rfl ?_
    refine a_lneg F dX11_triesOn_28 ?_
    refine a_goto F (tgt := 33) dX11_triesOn_29 (by decide) ?_
    exact a_sub [1, 4, 5, 6, 0] rfl (k_X11_triesOn_b33 F hf hr)
  · refine a_lload_n F dX11_triesOn_32 rfl 3 rfl ?_
    exact a_sub [1, 4, 5, 6, 0] rfl (k_X11_triesOn_b33 F hf hr)
set_option maxRecDepth 100000 in
set_option maxHeartbeats 4000000 in
theorem k_X11_triesOn_b0 {l : Launch} {ad : Nat → Nat} {X : Cx} (F : Ok vwCl WS NWs TM cX11_triesOn 14 yX11_triesOn.cls none ad l X) {σ : St} {x1 x3 x5 x7 x8 : Int} {y : St} (hf : f_X11_triesOn_b0 σ x1 x3 x5 x7 x8 = some y) (hr : RetV vwCl TM cX11_triesOn 14 rm_X11_triesOn ad X y) : At vwCl TM 14 rm_X11_triesOn ad X σ [(0, .ref (ad 0)), (1, jv x1), (3, jv x3), (5, jv x5), (7, iv x7), (8, jv x8)] [] 0 := by
  unfold f_X11_triesOn_b0 at hf
  refine a_lload_n F dX11_triesOn_0 rfl 1 rfl ?_
  refine a_lconst F (n := 0) dX11_triesOn_1 (by decide +kernel) ?_
  refine a_lcmp_ne F hf (tgt := 7) dX11_triesOn_2 dX11_triesOn_3 (by decide) (fun hf => ?_) (fun hf => ?_)
  · cases hf
    exact hr _ _ dX11_triesOn_6
  · refine a_lload_n F dX11_triesOn_7 rfl 1 rfl ?_
    refine a_lconst F (n := 0) dX11_triesOn_8 (by decide +kernel) ?_
    refine a_lcmp_ge F hf (tgt := 18) dX11_triesOn_9 dX11_triesOn_10 (by decide) (fun hf => ?_) (fun hf => ?_)
    · refine a_lload_n F dX11_triesOn_13 rfl 1 rfl ?_
      refine a_lneg F dX11_triesOn_14 ?_
      refine a_goto F (tgt := 19) dX11_triesOn_15 (by decide) ?_
      exact a_sub [0, 1, 2, 3, 4, 5] rfl (k_X11_triesOn_b19 F hf hr)
    · refine a_lload_n F dX11_triesOn_18 rfl 1 rfl ?_
      exact a_sub [0, 1, 2, 3, 4, 5] rfl (k_X11_triesOn_b19 F hf hr)
set_option maxRecDepth 100000 in
set_option maxHeartbeats 4000000 in
theorem c_X11_triesOn {l : Launch}  {σ : St} {x1 x3 x5 x7 x8 : Int} : CtrV vwCl WS NWs TM l yX11_triesOn cX11_triesOn 14 none rm_X11_triesOn (fun ad => [.ref (ad 0), jv x1, jv x3, jv x5, iv x7, jv x8]) σ (f_X11_triesOn σ x1 x3 x5 x7 x8) := by
  refine ctrV_of (by decide +kernel) (fun ad => Nat.le_of_ble_eq_true rfl) (fun σ' ad X hf F K => ?_)
  exact k_X11_triesOn_b0 F hf K
