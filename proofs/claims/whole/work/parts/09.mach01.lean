abbrev rm_J13_compare_74951 : Room := { frames := 0, cells := 0, slots := 0, locals := 0 }
set_option maxRecDepth 100000 in
set_option maxHeartbeats 4000000 in
theorem k_J13_compare_74951_b0 {l : Launch} {ad : Nat → Nat} {X : Cx} (F : Ok vwCl WS NWs TC cJ13_compare_74951 4 yJ13_compare_74951.cls (some .int) ad l X) {σ : St} {x0 x2 : Int} {y : Int} (hf : f_J13_compare_74951_b0 x0 x2 = some y) (hr : RetI vwCl TC cJ13_compare_74951 4 rm_J13_compare_74951 ad X y σ) : At vwCl TC 4 rm_J13_compare_74951 ad X σ [(0, jv x0), (2, jv x2)] [] 0 := by
  unfold f_J13_compare_74951_b0 at hf
  refine a_lload_n F dJ13_compare_74951_0 rfl 0 rfl ?_
  refine a_lload_n F dJ13_compare_74951_1 rfl 1 rfl ?_
  refine a_lcmp_ge F hf (tgt := 10) dJ13_compare_74951_2 dJ13_compare_74951_3 (by decide) (fun hf => ?_) (fun hf => ?_)
  · refine a_iconst F dJ13_compare_74951_6 ?_
    refine a_goto F (tgt := 21) dJ13_compare_74951_7 (by decide) ?_
    cases hf
    exact hr _ _ dJ13_compare_74951_21
  · refine a_lload_n F dJ13_compare_74951_10 rfl 0 rfl ?_
    refine a_lload_n F dJ13_compare_74951_11 rfl 1 rfl ?_
    refine a_lcmp_ne F hf (tgt := 20) dJ13_compare_74951_12 dJ13_compare_74951_13 (by decide) (fun hf => ?_) (fun hf => ?_)
    · refine a_iconst F dJ13_compare_74951_16 ?_
      refine a_goto F (tgt := 21) dJ13_compare_74951_17 (by decide) ?_
      cases hf
      exact hr _ _ dJ13_compare_74951_21
    · refine a_iconst F dJ13_compare_74951_20 ?_
      cases hf
      exact hr _ _ dJ13_compare_74951_21
set_option maxRecDepth 100000 in
set_option maxHeartbeats 4000000 in
theorem c_J13_compare_74951 {l : Launch}  {σ : St} {x0 x2 : Int} : CtrI vwCl WS NWs TC l yJ13_compare_74951 cJ13_compare_74951 4 (some .int) rm_J13_compare_74951 (fun ad => [jv x0, jv x2]) σ (rd (f_J13_compare_74951 x0 x2) σ) := by
  refine ctrI_of (by decide +kernel) (fun ad => Nat.le_of_ble_eq_true rfl) (fun v σ' ad X hf F K => ?_)
  obtain ⟨hf2, e2⟩ := rd_elim hf
  subst e2
  exact k_J13_compare_74951_b0 F hf2 K
abbrev rm_J7_fill_53178 : Room := { frames := 0, cells := 0, slots := 0, locals := 0 }
set_option maxRecDepth 100000 in
set_option maxHeartbeats 4000000 in
theorem k_J7_fill_53178_b5 {l : Launch} {T : List Kd} {ad : Nat → Nat} {X : Cx} (F : Ok vwCl WS NWs T cJ7_fill_53178 4 yJ7_fill_53178.cls none ad l X) {k : Nat} {n : Nat} (hk : T[k]? = some (.inl (0, n))) (hln : n < 2147483648) {σ : St} {x1 x2 x3 : Int} {y : ((St × Int) ⊕ St)} (hf : f_J7_fill_53178_b5 σ k n x1 x2 x3 = some y) (hn : ∀ τ z2, y = .inl (τ, z2) → At vwCl T 4 rm_J7_fill_53178 ad X τ [(0, .ref (ad k)), (1, iv x1), (2, iv z2), (3, iv x3)] [] 5) (hx0 : ∀ τ, y = .inr (τ) → At vwCl T 4 rm_J7_fill_53178 ad X τ [] [] 20) : At vwCl T 4 rm_J7_fill_53178 ad X σ [(0, .ref (ad k)), (1, iv x1), (2, iv x2), (3, iv x3)] [] 5 := by
  unfold f_J7_fill_53178_b5 at hf
  refine a_iload_n F dJ7_fill_53178_5 rfl 2 rfl ?_
  refine a_iload_n F dJ7_fill_53178_6 rfl 3 rfl ?_
  refine a_icmp_ge F hf (tgt := 20) dJ7_fill_53178_7 (by decide) (fun hf => ?_) (fun hf => ?_)
  · refine a_aload_n F dJ7_fill_53178_10 rfl 0 rfl ?_
    refine a_iload_n F dJ7_fill_53178_11 rfl 2 rfl ?_
    refine a_iload_n F dJ7_fill_53178_12 rfl 1 rfl ?_
    refine a_iast F hk rfl hln hf dJ7_fill_53178_13 (fun σ_3 hf => ?_)
    refine a_iinc F hf dJ7_fill_53178_14 2 rfl (by decide) (fun x2_4 hf => ⟨[(2, iv x2_4), (0, .ref (ad k)), (1, iv x1), (3, iv x3)], rfl, ?_⟩)
    refine a_goto F (tgt := 5) dJ7_fill_53178_17 (by decide) ?_
    cases hf
    exact a_sub [1, 2, 0, 3] rfl (hn _ _ rfl)
  · cases hf
    exact a_sub [] rfl (hx0 _ rfl)
set_option maxRecDepth 100000 in
set_option maxHeartbeats 4000000 in
theorem k_J7_fill_53178_b0 {l : Launch} {T : List Kd} {ad : Nat → Nat} {X : Cx} (F : Ok vwCl WS NWs T cJ7_fill_53178 4 yJ7_fill_53178.cls none ad l X) {k : Nat} {n : Nat} (hk : T[k]? = some (.inl (0, n))) (hln : n < 2147483648) {σ : St} {x1 : Int} {y : St} (hf : f_J7_fill_53178_b0 σ k n x1 = some y) (hr : RetV vwCl T cJ7_fill_53178 4 rm_J7_fill_53178 ad X y) : At vwCl T 4 rm_J7_fill_53178 ad X σ [(0, .ref (ad k)), (1, iv x1)] [] 0 := by
  unfold f_J7_fill_53178_b0 at hf
  refine a_iconst F dJ7_fill_53178_0 ?_
  refine a_topI hf (fun x2_1 hf => ?_)
  refine a_istore_n F (lv' := [(2, iv x2_1), (0, .ref (ad k)), (1, iv x1)]) dJ7_fill_53178_1 rfl (by decide) rfl ?_
  refine a_aload_n F dJ7_fill_53178_2 rfl 1 rfl ?_
  refine a_alenI F hk rfl dJ7_fill_53178_3 ?_
  refine a_topI hf (fun x3_2 hf => ?_)
  refine a_istore_n F (lv' := [(3, iv x3_2), (2, iv x2_1), (0, .ref (ad k)), (1, iv x1)]) dJ7_fill_53178_4 rfl (by decide) rfl ?_
  obtain ⟨q0, he, hf⟩ := jbind_elim hf
  refine a_sub [2, 3, 1, 0] rfl (loop_rule (P := (fun q => ∀ τ z2, (τ, z2) = q → At vwCl T 4 rm_J7_fill_53178 ad X τ [(0, .ref (ad k)), (1, iv x1), (2, iv z2), (3, iv x3_2)] [] 5)) (K := (fun q => (∀ τ, τ = q → At vwCl T 4 rm_J7_fill_53178 ad X τ [] [] 20))) ?_ 1000 _ _ he ?_ _ _ rfl)
  · intro q y hy hn hx τ z2 e
    subst e
    exact k_J7_fill_53178_b5 F hk hln hy (fun τ z2 e => hn _ e _ _ rfl) (fun τ e => (hx _ e) _ rfl)
  · intro σ_5 e
    subst e
    cases hf
    exact hr _ _ dJ7_fill_53178_20
set_option maxRecDepth 100000 in
set_option maxHeartbeats 4000000 in
theorem c_J7_fill_53178 {l : Launch} {T : List Kd}  {k : Nat} {n : Nat} (hk : T[k]? = some (.inl (0, n))) (hln : n < 2147483648) {σ : St} {x1 : Int} : CtrV vwCl WS NWs T l yJ7_fill_53178 cJ7_fill_53178 4 none rm_J7_fill_53178 (fun ad => [.ref (ad k), iv x1]) σ (f_J7_fill_53178 σ k n x1) := by
  refine ctrV_of (by decide +kernel) (fun ad => Nat.le_of_ble_eq_true rfl) (fun σ' ad X hf F K => ?_)
  exact k_J7_fill_53178_b0 F hk hln hf K
abbrev rm_J7_fill_d0a16 : Room := { frames := 0, cells := 0, slots := 0, locals := 0 }
set_option maxRecDepth 100000 in
set_option maxHeartbeats 4000000 in
theorem k_J7_fill_d0a16_b6 {l : Launch} {T : List Kd} {ad : Nat → Nat} {X : Cx} (F : Ok vwCl WS NWs T cJ7_fill_d0a16 5 yJ7_fill_d0a16.cls none ad l X) {k : Nat} {n : Nat} (hk : T[k]? = some (.inl (1, n))) (hln : n < 2147483648) {σ : St} {x1 x3 x4 : Int} {y : ((St × Int) ⊕ St)} (hf : f_J7_fill_d0a16_b6 σ k n x1 x3 x4 = some y) (hn : ∀ τ z3, y = .inl (τ, z3) → At vwCl T 5 rm_J7_fill_d0a16 ad X τ [(0, .ref (ad k)), (1, jv x1), (3, iv z3), (4, iv x4)] [] 6) (hx0 : ∀ τ, y = .inr (τ) → At vwCl T 5 rm_J7_fill_d0a16 ad X τ [] [] 22) : At vwCl T 5 rm_J7_fill_d0a16 ad X σ [(0, .ref (ad k)), (1, jv x1), (3, iv x3), (4, iv x4)] [] 6 := by
  unfold f_J7_fill_d0a16_b6 at hf
  refine a_iload_n F dJ7_fill_d0a16_6 rfl 2 rfl ?_
  refine a_iload F dJ7_fill_d0a16_7 3 rfl ?_
  refine a_icmp_ge F hf (tgt := 22) dJ7_fill_d0a16_9 (by decide) (fun hf => ?_) (fun hf => ?_)
  · refine a_aload_n F dJ7_fill_d0a16_12 rfl 0 rfl ?_
    refine a_iload_n F dJ7_fill_d0a16_13 rfl 2 rfl ?_
    refine a_lload_n F dJ7_fill_d0a16_14 rfl 1 rfl ?_
    refine a_last F hk rfl hln hf dJ7_fill_d0a16_15 (fun σ_3 hf => ?_)
    refine a_iinc F hf dJ7_fill_d0a16_16 2 rfl (by decide) (fun x3_4 hf => ⟨[(3, iv x3_4), (0, .ref (ad k)), (1, jv x1), (4, iv x4)], rfl, ?_⟩)
    refine a_goto F (tgt := 6) dJ7_fill_d0a16_19 (by decide) ?_
    cases hf
    exact a_sub [1, 2, 0, 3] rfl (hn _ _ rfl)
  · cases hf
    exact a_sub [] rfl (hx0 _ rfl)
set_option maxRecDepth 100000 in
set_option maxHeartbeats 4000000 in
theorem k_J7_fill_d0a16_b0 {l : Launch} {T : List Kd} {ad : Nat → Nat} {X : Cx} (F : Ok vwCl WS NWs T cJ7_fill_d0a16 5 yJ7_fill_d0a16.cls none ad l X) {k : Nat} {n : Nat} (hk : T[k]? = some (.inl (1, n))) (hln : n < 2147483648) {σ : St} {x1 : Int} {y : St} (hf : f_J7_fill_d0a16_b0 σ k n x1 = some y) (hr : RetV vwCl T cJ7_fill_d0a16 5 rm_J7_fill_d0a16 ad X y) : At vwCl T 5 rm_J7_fill_d0a16 ad X σ [(0, .ref (ad k)), (1, jv x1)] [] 0 := by
  unfold f_J7_fill_d0a16_b0 at hf
  refine a_iconst F dJ7_fill_d0a16_0 ?_
  refine a_topI hf (fun x3_1 hf => ?_)
  refine a_istore_n F (lv' := [(3, iv x3_1), (0, .ref (ad k)), (1, jv x1)]) dJ7_fill_d0a16_1 rfl (by decide) rfl ?_
  refine a_aload_n F dJ7_fill_d0a16_2 rfl 1 rfl ?_
  refine a_alenJ F hk rfl dJ7_fill_d0a16_3 ?_
  refine a_topI hf (fun x4_2 hf => ?_)
  refine a_istore F (lv' := [(4, iv x4_2), (3, iv x3_1), (0, .ref (ad k)), (1, jv x1)]) dJ7_fill_d0a16_4 (by decide) rfl ?_
  obtain ⟨q0, he, hf⟩ := jbind_elim hf
  refine a_sub [2, 3, 1, 0] rfl (loop_rule (P := (fun q => ∀ τ z3, (τ, z3) = q → At vwCl T 5 rm_J7_fill_d0a16 ad X τ [(0, .ref (ad k)), (1, jv x1), (3, iv z3), (4, iv x4_2)] [] 6)) (K := (fun q => (∀ τ, τ = q → At vwCl T 5 rm_J7_fill_d0a16 ad X τ [] [] 22))) ?_ 1000 _ _ he ?_ _ _ rfl)
  · intro q y hy hn hx τ z3 e
    subst e
    exact k_J7_fill_d0a16_b6 F hk hln hy (fun τ z3 e => hn _ e _ _ rfl) (fun τ e => (hx _ e) _ rfl)
  · intro σ_5 e
    subst e
    cases hf
    exact hr _ _ dJ7_fill_d0a16_22
set_option maxRecDepth 100000 in
set_option maxHeartbeats 4000000 in
theorem c_J7_fill_d0a16 {l : Launch} {T : List Kd}  {k : Nat} {n : Nat} (hk : T[k]? = some (.inl (1, n))) (hln : n < 2147483648) {σ : St} {x1 : Int} : CtrV vwCl WS NWs T l yJ7_fill_d0a16 cJ7_fill_d0a16 5 none rm_J7_fill_d0a16 (fun ad => [.ref (ad k), jv x1]) σ (f_J7_fill_d0a16 σ k n x1) := by
  refine ctrV_of (by decide +kernel) (fun ad => Nat.le_of_ble_eq_true rfl) (fun σ' ad X hf F K => ?_)
  exact k_J7_fill_d0a16_b0 F hk hln hf K
abbrev rm_X9_has : Room := { frames := 0, cells := 0, slots := 0, locals := 0 }
set_option maxRecDepth 100000 in
set_option maxHeartbeats 4000000 in
theorem k_X9_has_b0 {l : Launch} {ad : Nat → Nat} {X : Cx} (F : Ok vwCl WS NWs TC cX9_has 2 yX9_has.cls (some .boolean) ad l X) {σ : St} {x1 : Int} {y : Int} (hf : f_X9_has_b0 σ x1 = some y) (hr : RetI vwCl TC cX9_has 2 rm_X9_has ad X y σ) : At vwCl TC 2 rm_X9_has ad X σ [(0, .ref (ad 1)), (1, iv x1)] [] 0 := by
  unfold f_X9_has_b0 at hf
  refine a_iload_n F dX9_has_0 rfl 1 rfl ?_
  refine a_if_lt F hf (tgt := 24) dX9_has_1 (by decide) (fun hf => ?_) (fun hf => ?_)
  · refine a_iconst F dX9_has_24 ?_
    cases hf
    exact hr _ _ dX9_has_25
  · refine a_iload_n F dX9_has_4 rfl 1 rfl ?_
    refine a_bipush F dX9_has_5 (by decide +kernel) ?_
    refine a_icmp_ge F hf (tgt := 24) dX9_has_7 (by decide) (fun hf => ?_) (fun hf => ?_)
    · refine a_aload_n F dX9_has_10 rfl 0 rfl ?_
      refine a_getR F (j := 9) tC_1 rfl rfl (by decide) inW9 w_1 dX9_has_11 ?_
      refine a_iload_n F dX9_has_14 rfl 1 rfl ?_
      refine a_iald F tC_5 rfl (by decide) hf dX9_has_15 (fun hf => ?_)
      refine a_iconst F dX9_has_16 ?_
      refine a_icmp_eq F hf (tgt := 24) dX9_has_17 (by decide) (fun hf => ?_) (fun hf => ?_)
      · refine a_iconst F dX9_has_24 ?_
        cases hf
        exact hr _ _ dX9_has_25
      · refine a_iconst F dX9_has_20 ?_
        refine a_goto F (tgt := 25) dX9_has_21 (by decide) ?_
        cases hf
        exact hr _ _ dX9_has_25
    · refine a_iconst F dX9_has_24 ?_
      cases hf
      exact hr _ _ dX9_has_25
set_option maxRecDepth 100000 in
set_option maxHeartbeats 4000000 in
theorem c_X9_has {l : Launch}  {σ : St} {x1 : Int} : CtrI vwCl WS NWs TC l yX9_has cX9_has 2 (some .boolean) rm_X9_has (fun ad => [.ref (ad 1), iv x1]) σ (rd (f_X9_has σ x1) σ) := by
  refine ctrZ_of (fun v σ' h => jz_z (rd_elim h).1) (by decide +kernel) (fun ad => Nat.le_of_ble_eq_true rfl) (fun v σ' ad X hf F K => ?_)
  obtain ⟨hf2, e2⟩ := rd_elim hf
  subst e2
  exact k_X9_has_b0 F (jz_e hf2) K
abbrev rm_X9_isCounted : Room := { frames := 1, cells := 0, slots := 0, locals := 21 }
set_option maxRecDepth 100000 in
set_option maxHeartbeats 4000000 in
theorem k_X9_isCounted_b0 {l : Launch} {ad : Nat → Nat} {X : Cx} (F : Ok vwCl WS NWs TC cX9_isCounted 2 yX9_isCounted.cls (some .boolean) ad l X) {σ : St} {x1 : Int} {y : Int} (hf : f_X9_isCounted_b0 σ x1 = some y) (hr : RetI vwCl TC cX9_isCounted 2 rm_X9_isCounted ad X y σ) : At vwCl TC 2 rm_X9_isCounted ad X σ [(0, .ref (ad 1)), (1, iv x1)] [] 0 := by
  unfold f_X9_isCounted_b0 at hf
  refine a_aload_n F dX9_isCounted_0 rfl 0 rfl ?_
  refine a_iload_n F dX9_isCounted_1 rfl 1 rfl ?_
  refine a_callVIr F lk_RX9_40 tC_1 rfl c_X9_has rfl rfl ⟨rfl, rfl⟩ ⟨Nat.le_of_ble_eq_true rfl, Nat.le_of_ble_eq_true rfl⟩ rfl (Nat.le_of_ble_eq_true rfl) dX9_isCounted_2 hf (fun r_1 hf => ?_)
  refine a_if_eq F hf (tgt := 18) dX9_isCounted_5 (by decide) (fun hf => ?_) (fun hf => ?_)
  · refine a_iconst F dX9_isCounted_18 ?_
    cases hf
    exact hr _ _ dX9_isCounted_19
  · refine a_aload_n F dX9_isCounted_8 rfl 0 rfl ?_
    refine a_getR F (j := 9) tC_1 rfl rfl (by decide) inW9 w_1 dX9_isCounted_9 ?_
    refine a_iload_n F dX9_isCounted_12 rfl 1 rfl ?_
    refine a_iald F tC_5 rfl (by decide) hf dX9_isCounted_13 (fun hf => ?_)
    refine a_iconst F dX9_isCounted_14 ?_
    refine a_icmp_ne F hf (tgt := 20) dX9_isCounted_15 (by decide) (fun hf => ?_) (fun hf => ?_)
    · refine a_iconst F dX9_isCounted_18 ?_
      cases hf
      exact hr _ _ dX9_isCounted_19
    · refine a_aload_n F dX9_isCounted_20 rfl 0 rfl ?_
      refine a_getR F (j := 9) tC_1 rfl rfl (by decide) inW9 w_1 dX9_isCounted_21 ?_
      refine a_iload_n F dX9_isCounted_24 rfl 1 rfl ?_
      refine a_iald F tC_5 rfl (by decide) hf dX9_isCounted_25 (fun hf => ?_)
      refine a_iconst F dX9_isCounted_26 ?_
      refine a_icmp_ne F hf (tgt := 47) dX9_isCounted_27 (by decide) (fun hf => ?_) (fun hf => ?_)
      · refine a_aload_n F dX9_isCounted_30 rfl 0 rfl ?_
        refine a_getR F (j := 10) tC_1 rfl rfl (by decide) inW9 w_7 dX9_isCounted_31 ?_
        refine a_iload_n F dX9_isCounted_34 rfl 1 rfl ?_
        refine a_iald F tC_6 rfl (by decide) hf dX9_isCounted_35 (fun hf => ?_)
        refine a_aload_n F dX9_isCounted_36 rfl 0 rfl ?_
        refine a_getI F (j := 2) tC_1 rfl rfl (by decide) inW9 w_8 dX9_isCounted_37 ?_
        refine a_ishr F dX9_isCounted_40 ?_
        refine a_iconst F dX9_isCounted_41 ?_
        refine a_iand F dX9_isCounted_42 ?_
        refine a_iconst F dX9_isCounted_43 ?_
        refine a_icmp_ne F hf (tgt := 51) dX9_isCounted_44 (by decide) (fun hf => ?_) (fun hf => ?_)
        · refine a_iconst F dX9_isCounted_47 ?_
          refine a_goto F (tgt := 52) dX9_isCounted_48 (by decide) ?_
          cases hf
          exact hr _ _ dX9_isCounted_52
        · refine a_iconst F dX9_isCounted_51 ?_
          cases hf
          exact hr _ _ dX9_isCounted_52
      · refine a_iconst F dX9_isCounted_47 ?_
        refine a_goto F (tgt := 52) dX9_isCounted_48 (by decide) ?_
        cases hf
        exact hr _ _ dX9_isCounted_52
set_option maxRecDepth 100000 in
set_option maxHeartbeats 4000000 in
theorem c_X9_isCounted {l : Launch}  {σ : St} {x1 : Int} : CtrI vwCl WS NWs TC l yX9_isCounted cX9_isCounted 2 (some .boolean) rm_X9_isCounted (fun ad => [.ref (ad 1), iv x1]) σ (rd (f_X9_isCounted σ x1) σ) := by
  refine ctrZ_of (fun v σ' h => jz_z (rd_elim h).1) (by decide +kernel) (fun ad => Nat.le_of_ble_eq_true rfl) (fun v σ' ad X hf F K => ?_)
  obtain ⟨hf2, e2⟩ := rd_elim hf
  subst e2
  exact k_X9_isCounted_b0 F (jz_e hf2) K
abbrev rm_X1_setLine : Room := { frames := 0, cells := 0, slots := 0, locals := 0 }
set_option maxRecDepth 100000 in
set_option maxHeartbeats 4000000 in
theorem k_X1_setLine_b0 {l : Launch} {ad : Nat → Nat} {X : Cx} (F : Ok vwCl WS NWs TC cX1_setLine 5 yX1_setLine.cls none ad l X) {g : Nat} (hg : isG g) {σ : St} {x1 x2 x3 x4 : Int} {y : St} (hf : f_X1_setLine_b0 σ g x1 x2 x3 x4 = some y) (hr : RetV vwCl TC cX1_setLine 5 rm_X1_setLine ad X y) : At vwCl TC 5 rm_X1_setLine ad X σ [(0, .ref (ad g)), (1, iv x1), (2, iv x2), (3, iv x3), (4, iv x4)] [] 0 := by
  unfold f_X1_setLine_b0 at hf
  refine a_aload_n F dX1_setLine_0 rfl 0 rfl ?_
  refine a_getR F (j := 1) (tG hg) rfl rfl (by decide) inW1 w_9 dX1_setLine_1 ?_
  refine a_iload_n F dX1_setLine_4 rfl 1 rfl ?_
  refine a_iload_n F dX1_setLine_5 rfl 2 rfl ?_
  refine a_i2l F hf dX1_setLine_6 (fun hf => ?_)
  refine a_last F (tG1 hg) rfl (by decide) hf dX1_setLine_7 (fun σ_1 hf => ?_)
  refine a_aload_n F dX1_setLine_8 rfl 0 rfl ?_
  refine a_getR F (j := 2) (tG hg) rfl rfl (by decide) inW1 w_10 dX1_setLine_9 ?_
  refine a_iload_n F dX1_setLine_12 rfl 1 rfl ?_
  refine a_iload_n F dX1_setLine_13 rfl 3 rfl ?_
  refine a_i2l F hf dX1_setLine_14 (fun hf => ?_)
  refine a_last F (tG2 hg) rfl (by decide) hf dX1_setLine_15 (fun σ_2 hf => ?_)
  refine a_aload_n F dX1_setLine_16 rfl 0 rfl ?_
  refine a_getR F (j := 3) (tG hg) rfl rfl (by decide) inW1 w_11 dX1_setLine_17 ?_
  refine a_iload_n F dX1_setLine_20 rfl 1 rfl ?_
  refine a_iload F dX1_setLine_21 4 rfl ?_
  refine a_i2l F hf dX1_setLine_23 (fun hf => ?_)
  refine a_last F (tG3 hg) rfl (by decide) hf dX1_setLine_24 (fun σ_3 hf => ?_)
  cases hf
  exact hr _ _ dX1_setLine_25
set_option maxRecDepth 100000 in
set_option maxHeartbeats 4000000 in
theorem c_X1_setLine {l : Launch}  {g : Nat} (hg : isG g) {σ : St} {x1 x2 x3 x4 : Int} : CtrV vwCl WS NWs TC l yX1_setLine cX1_setLine 5 none rm_X1_setLine (fun ad => [.ref (ad g), iv x1, iv x2, iv x3, iv x4]) σ (f_X1_setLine σ g x1 x2 x3 x4) := by
  refine ctrV_of (by decide +kernel) (fun ad => Nat.le_of_ble_eq_true rfl) (fun σ' ad X hf F K => ?_)
  exact k_X1_setLine_b0 F hg hf K
abbrev rm_X4_add : Room := { frames := 0, cells := 0, slots := 0, locals := 0 }
set_option maxRecDepth 100000 in
set_option maxHeartbeats 4000000 in
theorem k_X4_add_b0 {l : Launch} {ad : Nat → Nat} {X : Cx} (F : Ok vwCl WS NWs TC cX4_add 8 yX4_add.cls none ad l X) {o : Nat} (ho : isO o) {σ : St} {x1 x3 x5 x7 : Int} {y : St} (hf : f_X4_add_b0 σ o x1 x3 x5 x7 = some y) (hr : RetV vwCl TC cX4_add 8 rm_X4_add ad X y) : At vwCl TC 8 rm_X4_add ad X σ [(0, .ref (ad o)), (1, jv x1), (3, jv x3), (5, jv x5), (7, iv x7)] [] 0 := by
  unfold f_X4_add_b0 at hf
  refine a_aload_n F dX4_add_0 rfl 0 rfl ?_
  refine a_getI F (j := 0) (tO ho) rfl rfl (by decide) inW4 w_12 dX4_add_1 ?_
  refine a_aload_n F dX4_add_4 rfl 0 rfl ?_
  refine a_getR F (j := 1) (tO ho) rfl rfl (by decide) inW4 w_13 dX4_add_5 ?_
  refine a_alenJ F (tO1 ho) rfl dX4_add_8 ?_
  refine a_icmp_ge F hf (tgt := 64) dX4_add_9 (by decide) (fun hf => ?_) (fun hf => ?_)
  · refine a_aload_n F dX4_add_12 rfl 0 rfl ?_
    refine a_getR F (j := 1) (tO ho) rfl rfl (by decide) inW4 w_13 dX4_add_13 ?_
    refine a_aload_n F dX4_add_16 rfl 0 rfl ?_
    refine a_getI F (j := 0) (tO ho) rfl rfl (by decide) inW4 w_12 dX4_add_17 ?_
    refine a_lload_n F dX4_add_20 rfl 1 rfl ?_
    refine a_last F (tO1 ho) rfl (lnO_lt _) hf dX4_add_21 (fun σ_1 hf => ?_)
    refine a_aload_n F dX4_add_22 rfl 0 rfl ?_
    refine a_getR F (j := 2) (tO ho) rfl rfl (by decide) inW4 w_14 dX4_add_23 ?_
    refine a_aload_n F dX4_add_26 rfl 0 rfl ?_
    refine a_getI F (j := 0) (tO ho) rfl rfl (by decide) inW4 w_12 dX4_add_27 ?_
    refine a_lload_n F dX4_add_30 rfl 2 rfl ?_
    refine a_last F (tO2 ho) rfl (lnO_lt _) hf dX4_add_31 (fun σ_2 hf => ?_)
    refine a_aload_n F dX4_add_32 rfl 0 rfl ?_
    refine a_getR F (j := 3) (tO ho) rfl rfl (by decide) inW4 w_15 dX4_add_33 ?_
    refine a_aload_n F dX4_add_36 rfl 0 rfl ?_
    refine a_getI F (j := 0) (tO ho) rfl rfl (by decide) inW4 w_12 dX4_add_37 ?_
    refine a_lload F dX4_add_40 3 rfl ?_
    refine a_last F (tO3 ho) rfl (lnO_lt _) hf dX4_add_42 (fun σ_3 hf => ?_)
    refine a_aload_n F dX4_add_43 rfl 0 rfl ?_
    refine a_getR F (j := 4) (tO ho) rfl rfl (by decide) inW4 w_16 dX4_add_44 ?_
    refine a_aload_n F dX4_add_47 rfl 0 rfl ?_
    refine a_getI F (j := 0) (tO ho) rfl rfl (by decide) inW4 w_12 dX4_add_48 ?_
    refine a_iload F dX4_add_51 4 rfl ?_
    refine a_iast F (tO4 ho) rfl (lnO_lt _) hf dX4_add_53 (fun σ_4 hf => ?_)
    refine a_aload_n F dX4_add_54 rfl 0 rfl ?_
    refine a_dup F dX4_add_55 rfl ?_
    refine a_getI F (j := 0) (tO ho) rfl rfl (by decide) inW4 w_12 dX4_add_56 ?_
    refine a_iconst F dX4_add_59 ?_
    refine a_iadd F dX4_add_60 ?_
    refine a_putI F (j := 0) (tO ho) rfl rfl (by decide) inW4 w_12 tyX4 tyX4_ok nmX4 rfl rfl hf dX4_add_61 (fun σ_5 hf => ?_)
    cases hf
    exact hr _ _ dX4_add_64
  · cases hf
    exact hr _ _ dX4_add_64
set_option maxRecDepth 100000 in
set_option maxHeartbeats 4000000 in
theorem c_X4_add {l : Launch}  {o : Nat} (ho : isO o) {σ : St} {x1 x3 x5 x7 : Int} : CtrV vwCl WS NWs TC l yX4_add cX4_add 8 none rm_X4_add (fun ad => [.ref (ad o), jv x1, jv x3, jv x5, iv x7]) σ (f_X4_add σ o x1 x3 x5 x7) := by
  refine ctrV_of (by decide +kernel) (fun ad => Nat.le_of_ble_eq_true rfl) (fun σ' ad X hf F K => ?_)
  exact k_X4_add_b0 F ho hf K
abbrev rm_X1_beginWithMap : Room := { frames := 1, cells := 0, slots := 0, locals := 27 }
set_option maxRecDepth 100000 in
set_option maxHeartbeats 4000000 in
theorem k_X1_beginWithMap_b0 {l : Launch} {ad : Nat → Nat} {X : Cx} (F : Ok vwCl WS NWs TC cX1_beginWithMap 3 yX1_beginWithMap.cls none ad l X) {g : Nat} (hg : isG g) {σ : St} {y : St} (hf : f_X1_beginWithMap_b0 σ g = some y) (hr : RetV vwCl TC cX1_beginWithMap 3 rm_X1_beginWithMap ad X y) : At vwCl TC 3 rm_X1_beginWithMap ad X σ [(0, .ref (ad g))] [] 0 := by
  unfold f_X1_beginWithMap_b0 at hf
  refine a_iconst F dX1_beginWithMap_0 ?_
  refine a_aload_n F dX1_beginWithMap_1 rfl 0 rfl ?_
  refine a_getR F (j := 0) (tG hg) rfl rfl (by decide) inW1 w_17 dX1_beginWithMap_2 ?_
  refine a_getI F (j := 0) tC_1 rfl rfl (by decide) inW9 w_18 dX1_beginWithMap_5 ?_
  refine a_imul F dX1_beginWithMap_8 ?_
  refine a_topI hf (fun x1_1 hf => ?_)
  refine a_istore_n F (lv' := [(1, iv x1_1), (0, .ref (ad g))]) dX1_beginWithMap_9 rfl (by decide) rfl ?_
  refine a_iconst F dX1_beginWithMap_10 ?_
  refine a_aload_n F dX1_beginWithMap_11 rfl 1 rfl ?_
  refine a_getR F (j := 0) (tG hg) rfl rfl (by decide) inW1 w_17 dX1_beginWithMap_12 ?_
  refine a_getI F (j := 1) tC_1 rfl rfl (by decide) inW9 w_19 dX1_beginWithMap_15 ?_
  refine a_imul F dX1_beginWithMap_18 ?_
  refine a_topI hf (fun x2_2 hf => ?_)
  refine a_istore_n F (lv' := [(2, iv x2_2), (1, iv x1_1), (0, .ref (ad g))]) dX1_beginWithMap_19 rfl (by decide) rfl ?_
  refine a_aload_n F dX1_beginWithMap_20 rfl 2 rfl ?_
  refine a_iconst F dX1_beginWithMap_21 ?_
  refine a_iconst F dX1_beginWithMap_22 ?_
  refine a_iconst F dX1_beginWithMap_23 ?_
  refine a_iconst F dX1_beginWithMap_24 ?_
  refine a_callVV F lk_RX1_116 (tG hg) rfl (c_X1_setLine hg) rfl rfl ⟨rfl, rfl⟩ ⟨Nat.le_of_ble_eq_true rfl, Nat.le_of_ble_eq_true rfl⟩ rfl (Nat.le_of_ble_eq_true rfl) dX1_beginWithMap_25 hf (fun σ_3 hf => ?_)
  refine a_aload_n F dX1_beginWithMap_28 rfl 2 rfl ?_
  refine a_iconst F dX1_beginWithMap_29 ?_
  refine a_iconst F dX1_beginWithMap_30 ?_
  refine a_iconst F dX1_beginWithMap_31 ?_
  refine a_iload_n F dX1_beginWithMap_32 rfl 1 rfl ?_
  refine a_callVV F lk_RX1_116 (tG hg) rfl (c_X1_setLine hg) rfl rfl ⟨rfl, rfl⟩ ⟨Nat.le_of_ble_eq_true rfl, Nat.le_of_ble_eq_true rfl⟩ rfl (Nat.le_of_ble_eq_true rfl) dX1_beginWithMap_33 hf (fun σ_4 hf => ?_)
  refine a_aload_n F dX1_beginWithMap_36 rfl 2 rfl ?_
  refine a_iconst F dX1_beginWithMap_37 ?_
  refine a_iconst F dX1_beginWithMap_38 ?_
  refine a_iconst F dX1_beginWithMap_39 ?_
  refine a_iload_n F dX1_beginWithMap_40 rfl 0 rfl ?_
  refine a_callVV F lk_RX1_116 (tG hg) rfl (c_X1_setLine hg) rfl rfl ⟨rfl, rfl⟩ ⟨Nat.le_of_ble_eq_true rfl, Nat.le_of_ble_eq_true rfl⟩ rfl (Nat.le_of_ble_eq_true rfl) dX1_beginWithMap_41 hf (fun σ_5 hf => ?_)
  refine a_aload_n F dX1_beginWithMap_44 rfl 2 rfl ?_
  refine a_iconst F dX1_beginWithMap_45 ?_
  refine a_iconst F dX1_beginWithMap_46 ?_
  refine a_iconst F dX1_beginWithMap_47 ?_
  refine a_iconst F dX1_beginWithMap_48 ?_
  refine a_callVV F lk_RX1_116 (tG hg) rfl (c_X1_setLine hg) rfl rfl ⟨rfl, rfl⟩ ⟨Nat.le_of_ble_eq_true rfl, Nat.le_of_ble_eq_true rfl⟩ rfl (Nat.le_of_ble_eq_true rfl) dX1_beginWithMap_49 hf (fun σ_6 hf => ?_)
  refine a_aload_n F dX1_beginWithMap_52 rfl 2 rfl ?_
  refine a_getV F (j := 4) (tG hg) rfl rfl (by decide) inW1 w_25 dX1_beginWithMap_53 ?_
  refine a_topR hf (fun o_7 hf => ?_)
  obtain ⟨ho_7, hf⟩ := jchk_elim hf
  refine a_lconst F (n := 0) dX1_beginWithMap_56 (by decide +kernel) ?_
  refine a_lconst F (n := 0) dX1_beginWithMap_57 (by decide +kernel) ?_
  refine a_lconst F (n := 1) dX1_beginWithMap_58 (by decide +kernel) ?_
  refine a_iconst F dX1_beginWithMap_59 ?_
  refine a_callVV F lk_RX1_120 (tO ho_7) rfl (c_X4_add ho_7) rfl rfl ⟨rfl, rfl⟩ ⟨Nat.le_of_ble_eq_true rfl, Nat.le_of_ble_eq_true rfl⟩ rfl (Nat.le_of_ble_eq_true rfl) dX1_beginWithMap_60 hf (fun σ_8 hf => ?_)
  refine a_aload_n F dX1_beginWithMap_63 rfl 2 rfl ?_
  refine a_getV F (j := 4) (tG hg) rfl rfl (by decide) inW1 w_25 dX1_beginWithMap_64 ?_
  refine a_topR hf (fun o_9 hf => ?_)
  obtain ⟨ho_9, hf⟩ := jchk_elim hf
  refine a_iload_n F dX1_beginWithMap_67 rfl 1 rfl ?_
  refine a_i2l F hf dX1_beginWithMap_68 (fun hf => ?_)
  refine a_lconst F (n := 0) dX1_beginWithMap_69 (by decide +kernel) ?_
  refine a_lconst F (n := 1) dX1_beginWithMap_70 (by decide +kernel) ?_
  refine a_iconst F dX1_beginWithMap_71 ?_
  refine a_callVV F lk_RX1_120 (tO ho_9) rfl (c_X4_add ho_9) rfl rfl ⟨rfl, rfl⟩ ⟨Nat.le_of_ble_eq_true rfl, Nat.le_of_ble_eq_true rfl⟩ rfl (Nat.le_of_ble_eq_true rfl) dX1_beginWithMap_72 hf (fun σ_10 hf => ?_)
  refine a_aload_n F dX1_beginWithMap_75 rfl 2 rfl ?_
  refine a_getV F (j := 4) (tG hg) rfl rfl (by decide) inW1 w_25 dX1_beginWithMap_76 ?_
  refine a_topR hf (fun o_11 hf => ?_)
  obtain ⟨ho_11, hf⟩ := jchk_elim hf
  refine a_iload_n F dX1_beginWithMap_79 rfl 1 rfl ?_
  refine a_i2l F hf dX1_beginWithMap_80 (fun hf => ?_)
  refine a_iload_n F dX1_beginWithMap_81 rfl 0 rfl ?_
  refine a_i2l F hf dX1_beginWithMap_82 (fun hf => ?_)
  refine a_lconst F (n := 1) dX1_beginWithMap_83 (by decide +kernel) ?_
  refine a_iconst F dX1_beginWithMap_84 ?_
  refine a_callVV F lk_RX1_120 (tO ho_11) rfl (c_X4_add ho_11) rfl rfl ⟨rfl, rfl⟩ ⟨Nat.le_of_ble_eq_true rfl, Nat.le_of_ble_eq_true rfl⟩ rfl (Nat.le_of_ble_eq_true rfl) dX1_beginWithMap_85 hf (fun σ_12 hf => ?_)
  refine a_aload_n F dX1_beginWithMap_88 rfl 2 rfl ?_
  refine a_getV F (j := 4) (tG hg) rfl rfl (by decide) inW1 w_25 dX1_beginWithMap_89 ?_
  refine a_topR hf (fun o_13 hf => ?_)
  obtain ⟨ho_13, hf⟩ := jchk_elim hf
  refine a_lconst F (n := 0) dX1_beginWithMap_92 (by decide +kernel) ?_
  refine a_iload_n F dX1_beginWithMap_93 rfl 0 rfl ?_
  refine a_i2l F hf dX1_beginWithMap_94 (fun hf => ?_)
  refine a_lconst F (n := 1) dX1_beginWithMap_95 (by decide +kernel) ?_
  refine a_iconst F dX1_beginWithMap_96 ?_
  refine a_callVV F lk_RX1_120 (tO ho_13) rfl (c_X4_add ho_13) rfl rfl ⟨rfl, rfl⟩ ⟨Nat.le_of_ble_eq_true rfl, Nat.le_of_ble_eq_true rfl⟩ rfl (Nat.le_of_ble_eq_true rfl) dX1_beginWithMap_97 hf (fun σ_14 hf => ?_)
  cases hf
  exact hr _ _ dX1_beginWithMap_100
set_option maxRecDepth 100000 in
set_option maxHeartbeats 4000000 in
theorem c_X1_beginWithMap {l : Launch}  {g : Nat} (hg : isG g) {σ : St} : CtrV vwCl WS NWs TC l yX1_beginWithMap cX1_beginWithMap 3 none rm_X1_beginWithMap (fun ad => [.ref (ad g)]) σ (f_X1_beginWithMap σ g) := by
  refine ctrV_of (by decide +kernel) (fun ad => Nat.le_of_ble_eq_true rfl) (fun σ' ad X hf F K => ?_)
  exact k_X1_beginWithMap_b0 F hg hf K
abbrev rm_X1_fromOrigin : Room := { frames := 0, cells := 0, slots := 0, locals := 0 }
set_option maxRecDepth 100000 in
set_option maxHeartbeats 4000000 in
theorem k_X1_fromOrigin_b0 {l : Launch} {ad : Nat → Nat} {X : Cx} (F : Ok vwCl WS NWs TC cX1_fromOrigin 2 yX1_fromOrigin.cls (some .int) ad l X) {g : Nat} (hg : isG g) {σ : St} {x1 : Int} {y : Int} (hf : f_X1_fromOrigin_b0 σ g x1 = some y) (hr : RetI vwCl TC cX1_fromOrigin 2 rm_X1_fromOrigin ad X y σ) : At vwCl TC 2 rm_X1_fromOrigin ad X σ [(0, .ref (ad g)), (1, iv x1)] [] 0 := by
  unfold f_X1_fromOrigin_b0 at hf
  refine a_aload_n F dX1_fromOrigin_0 rfl 0 rfl ?_
  refine a_getR F (j := 0) (tG hg) rfl rfl (by decide) inW1 w_17 dX1_fromOrigin_1 ?_
  refine a_getR F (j := 7) tC_1 rfl rfl (by decide) inW9 w_31 dX1_fromOrigin_4 ?_
  refine a_iload_n F dX1_fromOrigin_7 rfl 1 rfl ?_
  refine a_iald F tC_3 rfl (by decide) hf dX1_fromOrigin_8 (fun hf => ?_)
  refine a_aload_n F dX1_fromOrigin_9 rfl 0 rfl ?_
  refine a_getR F (j := 0) (tG hg) rfl rfl (by decide) inW1 w_17 dX1_fromOrigin_10 ?_
  refine a_getR F (j := 7) tC_1 rfl rfl (by decide) inW9 w_31 dX1_fromOrigin_13 ?_
  refine a_iload_n F dX1_fromOrigin_16 rfl 1 rfl ?_
  refine a_iald F tC_3 rfl (by decide) hf dX1_fromOrigin_17 (fun hf => ?_)
  refine a_imul F dX1_fromOrigin_18 ?_
  refine a_aload_n F dX1_fromOrigin_19 rfl 0 rfl ?_
  refine a_getR F (j := 0) (tG hg) rfl rfl (by decide) inW1 w_17 dX1_fromOrigin_20 ?_
  refine a_getR F (j := 8) tC_1 rfl rfl (by decide) inW9 w_32 dX1_fromOrigin_23 ?_
  refine a_iload_n F dX1_fromOrigin_26 rfl 1 rfl ?_
  refine a_iald F tC_4 rfl (by decide) hf dX1_fromOrigin_27 (fun hf => ?_)
  refine a_aload_n F dX1_fromOrigin_28 rfl 0 rfl ?_
  refine a_getR F (j := 0) (tG hg) rfl rfl (by decide) inW1 w_17 dX1_fromOrigin_29 ?_
  refine a_getR F (j := 8) tC_1 rfl rfl (by decide) inW9 w_32 dX1_fromOrigin_32 ?_
  refine a_iload_n F dX1_fromOrigin_35 rfl 1 rfl ?_
  refine a_iald F tC_4 rfl (by decide) hf dX1_fromOrigin_36 (fun hf => ?_)
  refine a_imul F dX1_fromOrigin_37 ?_
  refine a_iadd F dX1_fromOrigin_38 ?_
  cases hf
  exact hr _ _ dX1_fromOrigin_39
set_option maxRecDepth 100000 in
set_option maxHeartbeats 4000000 in
theorem c_X1_fromOrigin {l : Launch}  {g : Nat} (hg : isG g) {σ : St} {x1 : Int} : CtrI vwCl WS NWs TC l yX1_fromOrigin cX1_fromOrigin 2 (some .int) rm_X1_fromOrigin (fun ad => [.ref (ad g), iv x1]) σ (rd (f_X1_fromOrigin σ g x1) σ) := by
  refine ctrI_of (by decide +kernel) (fun ad => Nat.le_of_ble_eq_true rfl) (fun v σ' ad X hf F K => ?_)
  obtain ⟨hf2, e2⟩ := rd_elim hf
  subst e2
  exact k_X1_fromOrigin_b0 F hg hf2 K
abbrev rm_X9_takenOff : Room := { frames := 1, cells := 0, slots := 0, locals := 21 }
set_option maxRecDepth 100000 in
set_option maxHeartbeats 4000000 in
theorem k_X9_takenOff_b0 {l : Launch} {ad : Nat → Nat} {X : Cx} (F : Ok vwCl WS NWs TC cX9_takenOff 2 yX9_takenOff.cls (some .int) ad l X) {σ : St} {x1 : Int} {y : Int} (hf : f_X9_takenOff_b0 σ x1 = some y) (hr : RetI vwCl TC cX9_takenOff 2 rm_X9_takenOff ad X y σ) : At vwCl TC 2 rm_X9_takenOff ad X σ [(0, .ref (ad 1)), (1, iv x1)] [] 0 := by
  unfold f_X9_takenOff_b0 at hf
  refine a_aload_n F dX9_takenOff_0 rfl 0 rfl ?_
  refine a_iload_n F dX9_takenOff_1 rfl 1 rfl ?_
  refine a_callVIr F lk_RX9_40 tC_1 rfl c_X9_has rfl rfl ⟨rfl, rfl⟩ ⟨Nat.le_of_ble_eq_true rfl, Nat.le_of_ble_eq_true rfl⟩ rfl (Nat.le_of_ble_eq_true rfl) dX9_takenOff_2 hf (fun r_1 hf => ?_)
  refine a_if_eq F hf (tgt := 27) dX9_takenOff_5 (by decide) (fun hf => ?_) (fun hf => ?_)
  · refine a_iconst F dX9_takenOff_27 ?_
    cases hf
    exact hr _ _ dX9_takenOff_28
  · refine a_aload_n F dX9_takenOff_8 rfl 0 rfl ?_
    refine a_getR F (j := 9) tC_1 rfl rfl (by decide) inW9 w_1 dX9_takenOff_9 ?_
    refine a_iload_n F dX9_takenOff_12 rfl 1 rfl ?_
    refine a_iald F tC_5 rfl (by decide) hf dX9_takenOff_13 (fun hf => ?_)
    refine a_iconst F dX9_takenOff_14 ?_
    refine a_icmp_ne F hf (tgt := 27) dX9_takenOff_15 (by decide) (fun hf => ?_) (fun hf => ?_)
    · refine a_aload_n F dX9_takenOff_18 rfl 0 rfl ?_
      refine a_getR F (j := 10) tC_1 rfl rfl (by decide) inW9 w_7 dX9_takenOff_19 ?_
      refine a_iload_n F dX9_takenOff_22 rfl 1 rfl ?_
      refine a_iald F tC_6 rfl (by decide) hf dX9_takenOff_23 (fun hf => ?_)
      refine a_goto F (tgt := 28) dX9_takenOff_24 (by decide) ?_
      cases hf
      exact hr _ _ dX9_takenOff_28
    · refine a_iconst F dX9_takenOff_27 ?_
      cases hf
      exact hr _ _ dX9_takenOff_28
set_option maxRecDepth 100000 in
set_option maxHeartbeats 4000000 in
theorem c_X9_takenOff {l : Launch}  {σ : St} {x1 : Int} : CtrI vwCl WS NWs TC l yX9_takenOff cX9_takenOff 2 (some .int) rm_X9_takenOff (fun ad => [.ref (ad 1), iv x1]) σ (rd (f_X9_takenOff σ x1) σ) := by
  refine ctrI_of (by decide +kernel) (fun ad => Nat.le_of_ble_eq_true rfl) (fun v σ' ad X hf F K => ?_)
  obtain ⟨hf2, e2⟩ := rd_elim hf
  subst e2
  exact k_X9_takenOff_b0 F hf2 K
abbrev rm_X1_setBorder : Room := { frames := 2, cells := 0, slots := 0, locals := 42 }
set_option maxRecDepth 100000 in
set_option maxHeartbeats 4000000 in
theorem k_X1_setBorder_b39 {l : Launch} {ad : Nat → Nat} {X : Cx} (F : Ok vwCl WS NWs TC cX1_setBorder 5 yX1_setBorder.cls none ad l X) {g : Nat} (hg : isG g) {σ : St} {x1 x2 x4 : Int} {y : St} (hf : f_X1_setBorder_b39 σ g x1 x2 x4 = some y) (hr : RetV vwCl TC cX1_setBorder 5 rm_X1_setBorder ad X y) : At vwCl TC 5 rm_X1_setBorder ad X σ [(0, .ref (ad g)), (1, iv x1), (2, iv x2), (4, iv x4)] [] 39 := by
  unfold f_X1_setBorder_b39 at hf
  refine a_aload_n F dX1_setBorder_39 rfl 0 rfl ?_
  refine a_iconst F dX1_setBorder_40 ?_
  refine a_iload_n F dX1_setBorder_41 rfl 1 rfl ?_
  refine a_iadd F dX1_setBorder_42 ?_
  refine a_aload_n F dX1_setBorder_43 rfl 0 rfl ?_
  refine a_getR F (j := 0) (tG hg) rfl rfl (by decide) inW1 w_17 dX1_setBorder_44 ?_
  refine a_getR F (j := 7) tC_1 rfl rfl (by decide) inW9 w_31 dX1_setBorder_47 ?_
  refine a_iload_n F dX1_setBorder_50 rfl 1 rfl ?_
  refine a_iald F tC_3 rfl (by decide) hf dX1_setBorder_51 (fun hf => ?_)
  refine a_aload_n F dX1_setBorder_52 rfl 0 rfl ?_
  refine a_getR F (j := 0) (tG hg) rfl rfl (by decide) inW1 w_17 dX1_setBorder_53 ?_
  refine a_getR F (j := 7) tC_1 rfl rfl (by decide) inW9 w_31 dX1_setBorder_56 ?_
  refine a_iload_n F dX1_setBorder_59 rfl 2 rfl ?_
  refine a_iald F tC_3 rfl (by decide) hf dX1_setBorder_60 (fun hf => ?_)
  refine a_isub F dX1_setBorder_61 ?_
  refine a_aload_n F dX1_setBorder_62 rfl 0 rfl ?_
  refine a_getR F (j := 0) (tG hg) rfl rfl (by decide) inW1 w_17 dX1_setBorder_63 ?_
  refine a_getR F (j := 8) tC_1 rfl rfl (by decide) inW9 w_32 dX1_setBorder_66 ?_
  refine a_iload_n F dX1_setBorder_69 rfl 1 rfl ?_
  refine a_iald F tC_4 rfl (by decide) hf dX1_setBorder_70 (fun hf => ?_)
  refine a_aload_n F dX1_setBorder_71 rfl 0 rfl ?_
  refine a_getR F (j := 0) (tG hg) rfl rfl (by decide) inW1 w_17 dX1_setBorder_72 ?_
  refine a_getR F (j := 8) tC_1 rfl rfl (by decide) inW9 w_32 dX1_setBorder_75 ?_
  refine a_iload_n F dX1_setBorder_78 rfl 2 rfl ?_
  refine a_iald F tC_4 rfl (by decide) hf dX1_setBorder_79 (fun hf => ?_)
  refine a_isub F dX1_setBorder_80 ?_
  refine a_iload F dX1_setBorder_81 3 rfl ?_
  refine a_callVV F lk_RX1_116 (tG hg) rfl (c_X1_setLine hg) rfl rfl ⟨rfl, rfl⟩ ⟨Nat.le_of_ble_eq_true rfl, Nat.le_of_ble_eq_true rfl⟩ rfl (Nat.le_of_ble_eq_true rfl) dX1_setBorder_83 hf (fun σ_4 hf => ?_)
  cases hf
  exact hr _ _ dX1_setBorder_86
set_option maxRecDepth 100000 in
set_option maxHeartbeats 4000000 in
theorem k_X1_setBorder_b0 {l : Launch} {ad : Nat → Nat} {X : Cx} (F : Ok vwCl WS NWs TC cX1_setBorder 5 yX1_setBorder.cls none ad l X) {g : Nat} (hg : isG g) {σ : St} {x1 x2 x3 : Int} {y : St} (hf : f_X1_setBorder_b0 σ g x1 x2 x3 = some y) (hr : RetV vwCl TC cX1_setBorder 5 rm_X1_setBorder ad X y) : At vwCl TC 5 rm_X1_setBorder ad X σ [(0, .ref (ad g)), (1, iv x1), (2, iv x2), (3, iv x3)] [] 0 := by
  unfold f_X1_setBorder_b0 at hf
  refine a_aload_n F dX1_setBorder_0 rfl 0 rfl ?_
  refine a_iload_n F dX1_setBorder_1 rfl 1 rfl ?_
  refine a_callVIr F lk_RX1_124 (tG hg) rfl (c_X1_fromOrigin hg) rfl rfl ⟨rfl, rfl⟩ ⟨Nat.le_of_ble_eq_true rfl, Nat.le_of_ble_eq_true rfl⟩ rfl (Nat.le_of_ble_eq_true rfl) dX1_setBorder_2 hf (fun r_1 hf => ?_)
  refine a_aload_n F dX1_setBorder_5 rfl 0 rfl ?_
  refine a_iload_n F dX1_setBorder_6 rfl 2 rfl ?_
  refine a_callVIr F lk_RX1_124 (tG hg) rfl (c_X1_fromOrigin hg) rfl rfl ⟨rfl, rfl⟩ ⟨Nat.le_of_ble_eq_true rfl, Nat.le_of_ble_eq_true rfl⟩ rfl (Nat.le_of_ble_eq_true rfl) dX1_setBorder_7 hf (fun r_2 hf => ?_)
  refine a_isub F dX1_setBorder_10 ?_
  refine a_topI hf (fun x4_3 hf => ?_)
  refine a_istore F (lv' := [(4, iv x4_3), (0, .ref (ad g)), (1, iv x1), (2, iv x2), (3, iv x3)]) dX1_setBorder_11 (by decide) rfl ?_
  refine a_iload_n F dX1_setBorder_13 rfl 4 rfl ?_
  refine a_if_eq F hf (tgt := 39) dX1_setBorder_14 (by decide) (fun hf => ?_) (fun hf => ?_)
  · exact a_sub [1, 2, 3, 0] rfl (k_X1_setBorder_b39 F hg hf hr)
  · refine a_iload F dX1_setBorder_17 0 rfl ?_
    refine a_aload_n F dX1_setBorder_19 rfl 1 rfl ?_
    refine a_getR F (j := 0) (tG hg) rfl rfl (by decide) inW1 w_17 dX1_setBorder_20 ?_
    refine a_iload_n F dX1_setBorder_23 rfl 3 rfl ?_
    refine a_callVIr F lk_RX1_127 tC_1 rfl c_X9_takenOff rfl rfl ⟨rfl, rfl⟩ ⟨Nat.le_of_ble_eq_true rfl, Nat.le_of_ble_eq_true rfl⟩ rfl (Nat.le_of_ble_eq_true rfl) dX1_setBorder_24 hf (fun r_5 hf => ?_)
    refine a_aload_n F dX1_setBorder_27 rfl 1 rfl ?_
    refine a_getR F (j := 0) (tG hg) rfl rfl (by decide) inW1 w_17 dX1_setBorder_28 ?_
    refine a_iload_n F dX1_setBorder_31 rfl 2 rfl ?_
    refine a_callVIr F lk_RX1_127 tC_1 rfl c_X9_takenOff rfl rfl ⟨rfl, rfl⟩ ⟨Nat.le_of_ble_eq_true rfl, Nat.le_of_ble_eq_true rfl⟩ rfl (Nat.le_of_ble_eq_true rfl) dX1_setBorder_32 hf (fun r_6 hf => ?_)
    refine a_isub F dX1_setBorder_35 ?_
    refine a_iadd F dX1_setBorder_36 ?_
    refine a_topI hf (fun x4_7 hf => ?_)
    refine a_istore F (lv' := [(4, iv x4_7), (0, .ref (ad g)), (1, iv x1), (2, iv x2), (3, iv x3)]) dX1_setBorder_37 (by decide) rfl ?_
    exact a_sub [1, 2, 3, 0] rfl (k_X1_setBorder_b39 F hg hf hr)
set_option maxRecDepth 100000 in
set_option maxHeartbeats 4000000 in
theorem c_X1_setBorder {l : Launch}  {g : Nat} (hg : isG g) {σ : St} {x1 x2 x3 : Int} : CtrV vwCl WS NWs TC l yX1_setBorder cX1_setBorder 5 none rm_X1_setBorder (fun ad => [.ref (ad g), iv x1, iv x2, iv x3]) σ (f_X1_setBorder σ g x1 x2 x3) := by
  refine ctrV_of (by decide +kernel) (fun ad => Nat.le_of_ble_eq_true rfl) (fun σ' ad X hf F K => ?_)
  exact k_X1_setBorder_b0 F hg hf K
abbrev rm_X1_innerSide : Room := { frames := 0, cells := 0, slots := 0, locals := 0 }
set_option maxRecDepth 100000 in
set_option maxHeartbeats 4000000 in
theorem k_X1_innerSide_b0 {l : Launch} {ad : Nat → Nat} {X : Cx} (F : Ok vwCl WS NWs TC cX1_innerSide 3 yX1_innerSide.cls (some .long) ad l X) {g : Nat} (hg : isG g) {σ : St} {x1 x2 : Int} {y : Int} (hf : f_X1_innerSide_b0 σ g x1 x2 = some y) (hr : RetL vwCl TC cX1_innerSide 3 rm_X1_innerSide ad X y σ) : At vwCl TC 3 rm_X1_innerSide ad X σ [(0, .ref (ad g)), (1, iv x1), (2, iv x2)] [] 0 := by
  unfold f_X1_innerSide_b0 at hf
  refine a_aload_n F dX1_innerSide_0 rfl 0 rfl ?_
  refine a_getR F (j := 3) (tG hg) rfl rfl (by decide) inW1 w_11 dX1_innerSide_1 ?_
  refine a_iload_n F dX1_innerSide_4 rfl 1 rfl ?_
  refine a_lald F (tG3 hg) rfl (by decide) hf dX1_innerSide_5 (fun hf => ?_)
  refine a_aload_n F dX1_innerSide_6 rfl 0 rfl ?_
  refine a_getV F (j := 4) (tG hg) rfl rfl (by decide) inW1 w_25 dX1_innerSide_7 ?_
  refine a_topR hf (fun o_1 hf => ?_)
  obtain ⟨ho_1, hf⟩ := jchk_elim hf
  refine a_getR F (j := 3) (tO ho_1) rfl rfl (by decide) inW4 w_41 dX1_innerSide_10 ?_
  refine a_iload_n F dX1_innerSide_13 rfl 2 rfl ?_
  refine a_lald F (tO3 ho_1) rfl (lnO_lt _) hf dX1_innerSide_14 (fun hf => ?_)
  refine a_lmul F dX1_innerSide_15 ?_
  refine a_aload_n F dX1_innerSide_16 rfl 0 rfl ?_
  refine a_getR F (j := 1) (tG hg) rfl rfl (by decide) inW1 w_9 dX1_innerSide_17 ?_
  refine a_iload_n F dX1_innerSide_20 rfl 1 rfl ?_
  refine a_lald F (tG1 hg) rfl (by decide) hf dX1_innerSide_21 (fun hf => ?_)
  refine a_aload_n F dX1_innerSide_22 rfl 0 rfl ?_
  refine a_getV F (j := 4) (tG hg) rfl rfl (by decide) inW1 w_25 dX1_innerSide_23 ?_
  refine a_topR hf (fun o_2 hf => ?_)
  obtain ⟨ho_2, hf⟩ := jchk_elim hf
  refine a_getR F (j := 1) (tO ho_2) rfl rfl (by decide) inW4 w_42 dX1_innerSide_26 ?_
  refine a_iload_n F dX1_innerSide_29 rfl 2 rfl ?_
  refine a_lald F (tO1 ho_2) rfl (lnO_lt _) hf dX1_innerSide_30 (fun hf => ?_)
  refine a_lmul F dX1_innerSide_31 ?_
  refine a_lsub F dX1_innerSide_32 ?_
  refine a_aload_n F dX1_innerSide_33 rfl 0 rfl ?_
  refine a_getR F (j := 2) (tG hg) rfl rfl (by decide) inW1 w_10 dX1_innerSide_34 ?_
  refine a_iload_n F dX1_innerSide_37 rfl 1 rfl ?_
  refine a_lald F (tG2 hg) rfl (by decide) hf dX1_innerSide_38 (fun hf => ?_)
  refine a_aload_n F dX1_innerSide_39 rfl 0 rfl ?_
  refine a_getV F (j := 4) (tG hg) rfl rfl (by decide) inW1 w_25 dX1_innerSide_40 ?_
  refine a_topR hf (fun o_3 hf => ?_)
  obtain ⟨ho_3, hf⟩ := jchk_elim hf
  refine a_getR F (j := 2) (tO ho_3) rfl rfl (by decide) inW4 w_43 dX1_innerSide_43 ?_
  refine a_iload_n F dX1_innerSide_46 rfl 2 rfl ?_
  refine a_lald F (tO2 ho_3) rfl (lnO_lt _) hf dX1_innerSide_47 (fun hf => ?_)
  refine a_lmul F dX1_innerSide_48 ?_
  refine a_lsub F dX1_innerSide_49 ?_
  cases hf
  exact hr _ _ dX1_innerSide_50
set_option maxRecDepth 100000 in
set_option maxHeartbeats 4000000 in
theorem c_X1_innerSide {l : Launch}  {g : Nat} (hg : isG g) {σ : St} {x1 x2 : Int} : CtrL vwCl WS NWs TC l yX1_innerSide cX1_innerSide 3 (some .long) rm_X1_innerSide (fun ad => [.ref (ad g), iv x1, iv x2]) σ (rd (f_X1_innerSide σ g x1 x2) σ) := by
  refine ctrL_of (by decide +kernel) (fun ad => Nat.le_of_ble_eq_true rfl) (fun v σ' ad X hf F K => ?_)
  obtain ⟨hf2, e2⟩ := rd_elim hf
  subst e2
  exact k_X1_innerSide_b0 F hg hf2 K
abbrev rm_X4_addFrom : Room := { frames := 1, cells := 0, slots := 0, locals := 27 }
set_option maxRecDepth 100000 in
set_option maxHeartbeats 4000000 in
theorem k_X4_addFrom_b0 {l : Launch} {ad : Nat → Nat} {X : Cx} (F : Ok vwCl WS NWs TC cX4_addFrom 4 yX4_addFrom.cls none ad l X) {o : Nat} {o1 : Nat} (ho : isO o) (ho1 : isO o1) {σ : St} {x2 x3 : Int} {y : St} (hf : f_X4_addFrom_b0 σ o o1 x2 x3 = some y) (hr : RetV vwCl TC cX4_addFrom 4 rm_X4_addFrom ad X y) : At vwCl TC 4 rm_X4_addFrom ad X σ [(0, .ref (ad o)), (1, .ref (ad o1)), (2, iv x2), (3, iv x3)] [] 0 := by
  unfold f_X4_addFrom_b0 at hf
  refine a_aload_n F dX4_addFrom_0 rfl 0 rfl ?_
  refine a_aload_n F dX4_addFrom_1 rfl 1 rfl ?_
  refine a_getR F (j := 1) (tO ho1) rfl rfl (by decide) inW4 w_13 dX4_addFrom_2 ?_
  refine a_iload_n F dX4_addFrom_5 rfl 2 rfl ?_
  refine a_lald F (tO1 ho1) rfl (lnO_lt _) hf dX4_addFrom_6 (fun hf => ?_)
  refine a_aload_n F dX4_addFrom_7 rfl 1 rfl ?_
  refine a_getR F (j := 2) (tO ho1) rfl rfl (by decide) inW4 w_14 dX4_addFrom_8 ?_
  refine a_iload_n F dX4_addFrom_11 rfl 2 rfl ?_
  refine a_lald F (tO2 ho1) rfl (lnO_lt _) hf dX4_addFrom_12 (fun hf => ?_)
  refine a_aload_n F dX4_addFrom_13 rfl 1 rfl ?_
  refine a_getR F (j := 3) (tO ho1) rfl rfl (by decide) inW4 w_15 dX4_addFrom_14 ?_
  refine a_iload_n F dX4_addFrom_17 rfl 2 rfl ?_
  refine a_lald F (tO3 ho1) rfl (lnO_lt _) hf dX4_addFrom_18 (fun hf => ?_)
  refine a_iload_n F dX4_addFrom_19 rfl 3 rfl ?_
  refine a_callVV F lk_RX4_27 (tO ho) rfl (c_X4_add ho) rfl rfl ⟨rfl, rfl⟩ ⟨Nat.le_of_ble_eq_true rfl, Nat.le_of_ble_eq_true rfl⟩ rfl (Nat.le_of_ble_eq_true rfl) dX4_addFrom_20 hf (fun σ_1 hf => ?_)
  cases hf
  exact hr _ _ dX4_addFrom_23
set_option maxRecDepth 100000 in
set_option maxHeartbeats 4000000 in
theorem c_X4_addFrom {l : Launch}  {o : Nat} {o1 : Nat} (ho : isO o) (ho1 : isO o1) {σ : St} {x2 x3 : Int} : CtrV vwCl WS NWs TC l yX4_addFrom cX4_addFrom 4 none rm_X4_addFrom (fun ad => [.ref (ad o), .ref (ad o1), iv x2, iv x3]) σ (f_X4_addFrom σ o o1 x2 x3) := by
  refine ctrV_of (by decide +kernel) (fun ad => Nat.le_of_ble_eq_true rfl) (fun σ' ad X hf F K => ?_)
  exact k_X4_addFrom_b0 F ho ho1 hf K
abbrev rm_X1_leaveTouched : Room := { frames := 2, cells := 0, slots := 0, locals := 50 }
set_option maxRecDepth 100000 in
set_option maxHeartbeats 4000000 in
theorem k_X1_leaveTouched_b2 {l : Launch} {ad : Nat → Nat} {X : Cx} (F : Ok vwCl WS NWs TC cX1_leaveTouched 3 yX1_leaveTouched.cls none ad l X) {g : Nat} (hg : isG g) {σ : St} {x1 x2 : Int} {y : ((St × Int) ⊕ St)} (hf : f_X1_leaveTouched_b2 σ g x1 x2 = some y) (hn : ∀ τ z2, y = .inl (τ, z2) → At vwCl TC 3 rm_X1_leaveTouched ad X τ [(0, .ref (ad g)), (1, iv x1), (2, iv z2)] [] 2) (hx0 : ∀ τ, y = .inr (τ) → At vwCl TC 3 rm_X1_leaveTouched ad X τ [] [] 43) : At vwCl TC 3 rm_X1_leaveTouched ad X σ [(0, .ref (ad g)), (1, iv x1), (2, iv x2)] [] 2 := by
  unfold f_X1_leaveTouched_b2 at hf
  refine a_iload_n F dX1_leaveTouched_2 rfl 2 rfl ?_
  refine a_aload_n F dX1_leaveTouched_3 rfl 0 rfl ?_
  refine a_getV F (j := 4) (tG hg) rfl rfl (by decide) inW1 w_25 dX1_leaveTouched_4 ?_
  refine a_topR hf (fun o_2 hf => ?_)
  obtain ⟨ho_2, hf⟩ := jchk_elim hf
  refine a_getI F (j := 0) (tO ho_2) rfl rfl (by decide) inW4 w_45 dX1_leaveTouched_7 ?_
  refine a_icmp_ge F hf (tgt := 43) dX1_leaveTouched_10 (by decide) (fun hf => ?_) (fun hf => ?_)
  · refine a_aload_n F dX1_leaveTouched_13 rfl 0 rfl ?_
    refine a_getR F (j := 6) (tG hg) rfl rfl (by decide) inW1 w_46 dX1_leaveTouched_14 ?_
    refine a_iload_n F dX1_leaveTouched_17 rfl 2 rfl ?_
    refine a_lald F (tG14 hg) rfl (by decide) hf dX1_leaveTouched_18 (fun hf => ?_)
    refine a_lconst F (n := 0) dX1_leaveTouched_19 (by decide +kernel) ?_
    refine a_lcmp_ne F hf (tgt := 37) dX1_leaveTouched_20 dX1_leaveTouched_21 (by decide) (fun hf => ?_) (fun hf => ?_)
    · refine a_aload_n F dX1_leaveTouched_24 rfl 0 rfl ?_
      refine a_getV F (j := 5) (tG hg) rfl rfl (by decide) inW1 w_47 dX1_leaveTouched_25 ?_
      refine a_topR hf (fun o_4 hf => ?_)
      obtain ⟨ho_4, hf⟩ := jchk_elim hf
      refine a_aload_n F dX1_leaveTouched_28 rfl 0 rfl ?_
      refine a_getV F (j := 4) (tG hg) rfl rfl (by decide) inW1 w_25 dX1_leaveTouched_29 ?_
      refine a_topR hf (fun o_5 hf => ?_)
      obtain ⟨ho_5, hf⟩ := jchk_elim hf
      refine a_iload_n F dX1_leaveTouched_32 rfl 2 rfl ?_
      refine a_iload_n F dX1_leaveTouched_33 rfl 1 rfl ?_
      refine a_callVV F lk_RX1_143 (tO ho_4) rfl (c_X4_addFrom ho_4 ho_5) rfl rfl ⟨rfl, rfl⟩ ⟨Nat.le_of_ble_eq_true rfl, Nat.le_of_ble_eq_true rfl⟩ rfl (Nat.le_of_ble_eq_true rfl) dX1_leaveTouched_34 hf (fun σ_6 hf => ?_)
      refine a_iinc F hf dX1_leaveTouched_37 2 rfl (by decide) (fun x2_7 hf => ⟨[(2, iv x2_7), (0, .ref (ad g)), (1, iv x1)], rfl, ?_⟩)
      refine a_goto F (tgt := 2) dX1_leaveTouched_40 (by decide) ?_
      cases hf
      exact a_sub [1, 2, 0] rfl (hn _ _ rfl)
    · refine a_iinc F hf dX1_leaveTouched_37 2 rfl (by decide) (fun x2_3 hf => ⟨[(2, iv x2_3), (0, .ref (ad g)), (1, iv x1)], rfl, ?_⟩)
      refine a_goto F (tgt := 2) dX1_leaveTouched_40 (by decide) ?_
      cases hf
      exact a_sub [1, 2, 0] rfl (hn _ _ rfl)
  · cases hf
    exact a_sub [] rfl (hx0 _ rfl)
set_option maxRecDepth 100000 in
set_option maxHeartbeats 4000000 in
theorem k_X1_leaveTouched_b0 {l : Launch} {ad : Nat → Nat} {X : Cx} (F : Ok vwCl WS NWs TC cX1_leaveTouched 3 yX1_leaveTouched.cls none ad l X) {g : Nat} (hg : isG g) {σ : St} {x1 : Int} {y : St} (hf : f_X1_leaveTouched_b0 σ g x1 = some y) (hr : RetV vwCl TC cX1_leaveTouched 3 rm_X1_leaveTouched ad X y) : At vwCl TC 3 rm_X1_leaveTouched ad X σ [(0, .ref (ad g)), (1, iv x1)] [] 0 := by
  unfold f_X1_leaveTouched_b0 at hf
  refine a_iconst F dX1_leaveTouched_0 ?_
  refine a_topI hf (fun x2_1 hf => ?_)
  refine a_istore_n F (lv' := [(2, iv x2_1), (0, .ref (ad g)), (1, iv x1)]) dX1_leaveTouched_1 rfl (by decide) rfl ?_
  obtain ⟨q0, he, hf⟩ := jbind_elim hf
  refine a_sub [1, 2, 0] rfl (loop_rule (P := (fun q => ∀ τ z2, (τ, z2) = q → At vwCl TC 3 rm_X1_leaveTouched ad X τ [(0, .ref (ad g)), (1, iv x1), (2, iv z2)] [] 2)) (K := (fun q => (∀ τ, τ = q → At vwCl TC 3 rm_X1_leaveTouched ad X τ [] [] 43))) ?_ 1000 _ _ he ?_ _ _ rfl)
  · intro q y hy hn hx τ z2 e
    subst e
    exact k_X1_leaveTouched_b2 F hg hy (fun τ z2 e => hn _ e _ _ rfl) (fun τ e => (hx _ e) _ rfl)
  · intro σ_8 e
    subst e
    cases hf
    exact hr _ _ dX1_leaveTouched_43
set_option maxRecDepth 100000 in
set_option maxHeartbeats 4000000 in
theorem c_X1_leaveTouched {l : Launch}  {g : Nat} (hg : isG g) {σ : St} {x1 : Int} : CtrV vwCl WS NWs TC l yX1_leaveTouched cX1_leaveTouched 3 none rm_X1_leaveTouched (fun ad => [.ref (ad g), iv x1]) σ (f_X1_leaveTouched σ g x1) := by
  refine ctrV_of (by decide +kernel) (fun ad => Nat.le_of_ble_eq_true rfl) (fun σ' ad X hf F K => ?_)
  exact k_X1_leaveTouched_b0 F hg hf K
abbrev rm_X1_addCrossing : Room := { frames := 1, cells := 0, slots := 0, locals := 27 }
set_option maxRecDepth 100000 in
set_option maxHeartbeats 4000000 in
theorem k_X1_addCrossing_b0 {l : Launch} {ad : Nat → Nat} {X : Cx} (F : Ok vwCl WS NWs TC cX1_addCrossing 10 yX1_addCrossing.cls none ad l X) {g : Nat} (hg : isG g) {σ : St} {x1 x2 x3 : Int} {y : St} (hf : f_X1_addCrossing_b0 σ g x1 x2 x3 = some y) (hr : RetV vwCl TC cX1_addCrossing 10 rm_X1_addCrossing ad X y) : At vwCl TC 10 rm_X1_addCrossing ad X σ [(0, .ref (ad g)), (1, iv x1), (2, iv x2), (3, iv x3)] [] 0 := by
  unfold f_X1_addCrossing_b0 at hf
  refine a_aload_n F dX1_addCrossing_0 rfl 0 rfl ?_
  refine a_getR F (j := 1) (tG hg) rfl rfl (by decide) inW1 w_9 dX1_addCrossing_1 ?_
  refine a_iload_n F dX1_addCrossing_4 rfl 1 rfl ?_
  refine a_lald F (tG1 hg) rfl (by decide) hf dX1_addCrossing_5 (fun hf => ?_)
  refine a_aload_n F dX1_addCrossing_6 rfl 0 rfl ?_
  refine a_getR F (j := 2) (tG hg) rfl rfl (by decide) inW1 w_10 dX1_addCrossing_7 ?_
  refine a_iload_n F dX1_addCrossing_10 rfl 2 rfl ?_
  refine a_lald F (tG2 hg) rfl (by decide) hf dX1_addCrossing_11 (fun hf => ?_)
  refine a_lmul F dX1_addCrossing_12 ?_
  refine a_aload_n F dX1_addCrossing_13 rfl 0 rfl ?_
  refine a_getR F (j := 1) (tG hg) rfl rfl (by decide) inW1 w_9 dX1_addCrossing_14 ?_
  refine a_iload_n F dX1_addCrossing_17 rfl 2 rfl ?_
  refine a_lald F (tG1 hg) rfl (by decide) hf dX1_addCrossing_18 (fun hf => ?_)
  refine a_aload_n F dX1_addCrossing_19 rfl 0 rfl ?_
  refine a_getR F (j := 2) (tG hg) rfl rfl (by decide) inW1 w_10 dX1_addCrossing_20 ?_
  refine a_iload_n F dX1_addCrossing_23 rfl 1 rfl ?_
  refine a_lald F (tG2 hg) rfl (by decide) hf dX1_addCrossing_24 (fun hf => ?_)
  refine a_lmul F dX1_addCrossing_25 ?_
  refine a_lsub F dX1_addCrossing_26 ?_
  refine a_topJ hf (fun x4_1 hf => ?_)
  refine a_lstore F (lv' := [(4, jv x4_1), (0, .ref (ad g)), (1, iv x1), (2, iv x2), (3, iv x3)]) dX1_addCrossing_27 (by decide) rfl ?_
  refine a_aload_n F dX1_addCrossing_29 rfl 1 rfl ?_
  refine a_getR F (j := 3) (tG hg) rfl rfl (by decide) inW1 w_11 dX1_addCrossing_30 ?_
  refine a_iload_n F dX1_addCrossing_33 rfl 2 rfl ?_
  refine a_lald F (tG3 hg) rfl (by decide) hf dX1_addCrossing_34 (fun hf => ?_)
  refine a_aload_n F dX1_addCrossing_35 rfl 1 rfl ?_
  refine a_getR F (j := 2) (tG hg) rfl rfl (by decide) inW1 w_10 dX1_addCrossing_36 ?_
  refine a_iload_n F dX1_addCrossing_39 rfl 3 rfl ?_
  refine a_lald F (tG2 hg) rfl (by decide) hf dX1_addCrossing_40 (fun hf => ?_)
  refine a_lmul F dX1_addCrossing_41 ?_
  refine a_aload_n F dX1_addCrossing_42 rfl 1 rfl ?_
  refine a_getR F (j := 3) (tG hg) rfl rfl (by decide) inW1 w_11 dX1_addCrossing_43 ?_
  refine a_iload_n F dX1_addCrossing_46 rfl 3 rfl ?_
  refine a_lald F (tG3 hg) rfl (by decide) hf dX1_addCrossing_47 (fun hf => ?_)
  refine a_aload_n F dX1_addCrossing_48 rfl 1 rfl ?_
  refine a_getR F (j := 2) (tG hg) rfl rfl (by decide) inW1 w_10 dX1_addCrossing_49 ?_
  refine a_iload_n F dX1_addCrossing_52 rfl 2 rfl ?_
  refine a_lald F (tG2 hg) rfl (by decide) hf dX1_addCrossing_53 (fun hf => ?_)
  refine a_lmul F dX1_addCrossing_54 ?_
  refine a_lsub F dX1_addCrossing_55 ?_
  refine a_topJ hf (fun x6_2 hf => ?_)
  refine a_lstore F (lv' := [(6, jv x6_2), (4, jv x4_1), (0, .ref (ad g)), (1, iv x1), (2, iv x2), (3, iv x3)]) dX1_addCrossing_56 (by decide) rfl ?_
  refine a_aload_n F dX1_addCrossing_58 rfl 2 rfl ?_
  refine a_getR F (j := 1) (tG hg) rfl rfl (by decide) inW1 w_9 dX1_addCrossing_59 ?_
  refine a_iload_n F dX1_addCrossing_62 rfl 3 rfl ?_
  refine a_lald F (tG1 hg) rfl (by decide) hf dX1_addCrossing_63 (fun hf => ?_)
  refine a_aload_n F dX1_addCrossing_64 rfl 2 rfl ?_
  refine a_getR F (j := 3) (tG hg) rfl rfl (by decide) inW1 w_11 dX1_addCrossing_65 ?_
  refine a_iload_n F dX1_addCrossing_68 rfl 4 rfl ?_
  refine a_lald F (tG3 hg) rfl (by decide) hf dX1_addCrossing_69 (fun hf => ?_)
  refine a_lmul F dX1_addCrossing_70 ?_
  refine a_aload_n F dX1_addCrossing_71 rfl 2 rfl ?_
  refine a_getR F (j := 1) (tG hg) rfl rfl (by decide) inW1 w_9 dX1_addCrossing_72 ?_
  refine a_iload_n F dX1_addCrossing_75 rfl 4 rfl ?_
  refine a_lald F (tG1 hg) rfl (by decide) hf dX1_addCrossing_76 (fun hf => ?_)
  refine a_aload_n F dX1_addCrossing_77 rfl 2 rfl ?_
  refine a_getR F (j := 3) (tG hg) rfl rfl (by decide) inW1 w_11 dX1_addCrossing_78 ?_
  refine a_iload_n F dX1_addCrossing_81 rfl 3 rfl ?_
  refine a_lald F (tG3 hg) rfl (by decide) hf dX1_addCrossing_82 (fun hf => ?_)
  refine a_lmul F dX1_addCrossing_83 ?_
  refine a_lsub F dX1_addCrossing_84 ?_
  refine a_topJ hf (fun x8_3 hf => ?_)
  refine a_lstore F (lv' := [(8, jv x8_3), (6, jv x6_2), (4, jv x4_1), (0, .ref (ad g)), (1, iv x1), (2, iv x2), (3, iv x3)]) dX1_addCrossing_85 (by decide) rfl ?_
  refine a_lload F dX1_addCrossing_87 2 rfl ?_
  refine a_lconst F (n := 0) dX1_addCrossing_89 (by decide +kernel) ?_
  refine a_lcmp_ge F hf (tgt := 114) dX1_addCrossing_90 dX1_addCrossing_91 (by decide) (fun hf => ?_) (fun hf => ?_)
  · refine a_aload_n F dX1_addCrossing_94 rfl 3 rfl ?_
    refine a_getV F (j := 5) (tG hg) rfl rfl (by decide) inW1 w_47 dX1_addCrossing_95 ?_
    refine a_topR hf (fun o_6 hf => ?_)
    obtain ⟨ho_6, hf⟩ := jchk_elim hf
    refine a_lload F dX1_addCrossing_98 1 rfl ?_
    refine a_lneg F dX1_addCrossing_100 ?_
    refine a_lload F dX1_addCrossing_101 0 rfl ?_
    refine a_lneg F dX1_addCrossing_103 ?_
    refine a_lload F dX1_addCrossing_104 2 rfl ?_
    refine a_lneg F dX1_addCrossing_106 ?_
    refine a_iload_n F dX1_addCrossing_107 rfl 6 rfl ?_
    refine a_callVV F lk_RX1_120 (tO ho_6) rfl (c_X4_add ho_6) rfl rfl ⟨rfl, rfl⟩ ⟨Nat.le_of_ble_eq_true rfl, Nat.le_of_ble_eq_true rfl⟩ rfl (Nat.le_of_ble_eq_true rfl) dX1_addCrossing_108 hf (fun σ_7 hf => ?_)
    refine a_goto F (tgt := 135) dX1_addCrossing_111 (by decide) ?_
    cases hf
    exact hr _ _ dX1_addCrossing_135
  · refine a_lload F dX1_addCrossing_114 2 rfl ?_
    refine a_lconst F (n := 0) dX1_addCrossing_116 (by decide +kernel) ?_
    refine a_lcmp_le F hf (tgt := 135) dX1_addCrossing_117 dX1_addCrossing_118 (by decide) (fun hf => ?_) (fun hf => ?_)
    · refine a_aload_n F dX1_addCrossing_121 rfl 3 rfl ?_
      refine a_getV F (j := 5) (tG hg) rfl rfl (by decide) inW1 w_47 dX1_addCrossing_122 ?_
      refine a_topR hf (fun o_4 hf => ?_)
      obtain ⟨ho_4, hf⟩ := jchk_elim hf
      refine a_lload F dX1_addCrossing_125 1 rfl ?_
      refine a_lload F dX1_addCrossing_127 0 rfl ?_
      refine a_lload F dX1_addCrossing_129 2 rfl ?_
      refine a_iload_n F dX1_addCrossing_131 rfl 6 rfl ?_
      refine a_callVV F lk_RX1_120 (tO ho_4) rfl (c_X4_add ho_4) rfl rfl ⟨rfl, rfl⟩ ⟨Nat.le_of_ble_eq_true rfl, Nat.le_of_ble_eq_true rfl⟩ rfl (Nat.le_of_ble_eq_true rfl) dX1_addCrossing_132 hf (fun σ_5 hf => ?_)
      cases hf
      exact hr _ _ dX1_addCrossing_135
    · cases hf
      exact hr _ _ dX1_addCrossing_135
set_option maxRecDepth 100000 in
set_option maxHeartbeats 4000000 in
theorem c_X1_addCrossing {l : Launch}  {g : Nat} (hg : isG g) {σ : St} {x1 x2 x3 : Int} : CtrV vwCl WS NWs TC l yX1_addCrossing cX1_addCrossing 10 none rm_X1_addCrossing (fun ad => [.ref (ad g), iv x1, iv x2, iv x3]) σ (f_X1_addCrossing σ g x1 x2 x3) := by
  refine ctrV_of (by decide +kernel) (fun ad => Nat.le_of_ble_eq_true rfl) (fun σ' ad X hf F K => ?_)
  exact k_X1_addCrossing_b0 F hg hf K
abbrev rm_X1_cutPiece : Room := { frames := 2, cells := 0, slots := 0, locals := 56 }
set_option maxRecDepth 100000 in
set_option maxHeartbeats 4000000 in
theorem k_X1_cutPiece_b2 {l : Launch} {ad : Nat → Nat} {X : Cx} (F : Ok vwCl WS NWs TC cX1_cutPiece 3 yX1_cutPiece.cls none ad l X) {g : Nat} (hg : isG g) {σ : St} {x1 x2 : Int} {y : ((St × Int) ⊕ St)} (hf : f_X1_cutPiece_b2 σ g x1 x2 = some y) (hn : ∀ τ z2, y = .inl (τ, z2) → At vwCl TC 3 rm_X1_cutPiece ad X τ [(0, .ref (ad g)), (1, iv x1), (2, iv z2)] [] 2) (hx0 : ∀ τ, y = .inr (τ) → At vwCl TC 3 rm_X1_cutPiece ad X τ [] [] 77) : At vwCl TC 3 rm_X1_cutPiece ad X σ [(0, .ref (ad g)), (1, iv x1), (2, iv x2)] [] 2 := by
  unfold f_X1_cutPiece_b2 at hf
  refine a_iload_n F dX1_cutPiece_2 rfl 2 rfl ?_
  refine a_aload_n F dX1_cutPiece_3 rfl 0 rfl ?_
  refine a_getV F (j := 4) (tG hg) rfl rfl (by decide) inW1 w_25 dX1_cutPiece_4 ?_
  refine a_topR hf (fun o_2 hf => ?_)
  obtain ⟨ho_2, hf⟩ := jchk_elim hf
  refine a_getI F (j := 0) (tO ho_2) rfl rfl (by decide) inW4 w_45 dX1_cutPiece_7 ?_
  refine a_icmp_ge F hf (tgt := 77) dX1_cutPiece_10 (by decide) (fun hf => ?_) (fun hf => ?_)
  · refine a_aload_n F dX1_cutPiece_13 rfl 0 rfl ?_
    refine a_getR F (j := 6) (tG hg) rfl rfl (by decide) inW1 w_46 dX1_cutPiece_14 ?_
    refine a_iload_n F dX1_cutPiece_17 rfl 2 rfl ?_
    refine a_lald F (tG14 hg) rfl (by decide) hf dX1_cutPiece_18 (fun hf => ?_)
    refine a_lconst F (n := 0) dX1_cutPiece_19 (by decide +kernel) ?_
    refine a_lcmp_le F hf (tgt := 48) dX1_cutPiece_20 dX1_cutPiece_21 (by decide) (fun hf => ?_) (fun hf => ?_)
    · refine a_aload_n F dX1_cutPiece_24 rfl 0 rfl ?_
      refine a_getV F (j := 5) (tG hg) rfl rfl (by decide) inW1 w_47 dX1_cutPiece_25 ?_
      refine a_topR hf (fun o_7 hf => ?_)
      obtain ⟨ho_7, hf⟩ := jchk_elim hf
      refine a_aload_n F dX1_cutPiece_28 rfl 0 rfl ?_
      refine a_getV F (j := 4) (tG hg) rfl rfl (by decide) inW1 w_25 dX1_cutPiece_29 ?_
      refine a_topR hf (fun o_8 hf => ?_)
      obtain ⟨ho_8, hf⟩ := jchk_elim hf
      refine a_iload_n F dX1_cutPiece_32 rfl 2 rfl ?_
      refine a_aload_n F dX1_cutPiece_33 rfl 0 rfl ?_
      refine a_getV F (j := 4) (tG hg) rfl rfl (by decide) inW1 w_25 dX1_cutPiece_34 ?_
      refine a_topR hf (fun o_9 hf => ?_)
      obtain ⟨ho_9, hf⟩ := jchk_elim hf
      refine a_getR F (j := 4) (tO ho_9) rfl rfl (by decide) inW4 w_52 dX1_cutPiece_37 ?_
      refine a_iload_n F dX1_cutPiece_40 rfl 2 rfl ?_
      refine a_iald F (tO4 ho_9) rfl (lnO_lt _) hf dX1_cutPiece_41 (fun hf => ?_)
      refine a_callVV F lk_RX1_143 (tO ho_7) rfl (c_X4_addFrom ho_7 ho_8) rfl rfl ⟨rfl, rfl⟩ ⟨Nat.le_of_ble_eq_true rfl, Nat.le_of_ble_eq_true rfl⟩ rfl (Nat.le_of_ble_eq_true rfl) dX1_cutPiece_42 hf (fun σ_10 hf => ?_)
      refine a_goto F (tgt := 71) dX1_cutPiece_45 (by decide) ?_
      refine a_iinc F hf dX1_cutPiece_71 2 rfl (by decide) (fun x2_11 hf => ⟨[(2, iv x2_11), (0, .ref (ad g)), (1, iv x1)], rfl, ?_⟩)
      refine a_goto F (tgt := 2) dX1_cutPiece_74 (by decide) ?_
      cases hf
      exact a_sub [1, 2, 0] rfl (hn _ _ rfl)
    · refine a_aload_n F dX1_cutPiece_48 rfl 0 rfl ?_
      refine a_aload_n F dX1_cutPiece_49 rfl 0 rfl ?_
      refine a_getV F (j := 4) (tG hg) rfl rfl (by decide) inW1 w_25 dX1_cutPiece_50 ?_
      refine a_topR hf (fun o_3 hf => ?_)
      obtain ⟨ho_3, hf⟩ := jchk_elim hf
      refine a_getR F (j := 4) (tO ho_3) rfl rfl (by decide) inW4 w_52 dX1_cutPiece_53 ?_
      refine a_iload_n F dX1_cutPiece_56 rfl 2 rfl ?_
      refine a_iald F (tO4 ho_3) rfl (lnO_lt _) hf dX1_cutPiece_57 (fun hf => ?_)
      refine a_iload_n F dX1_cutPiece_58 rfl 1 rfl ?_
      refine a_aload_n F dX1_cutPiece_59 rfl 0 rfl ?_
      refine a_getV F (j := 4) (tG hg) rfl rfl (by decide) inW1 w_25 dX1_cutPiece_60 ?_
      refine a_topR hf (fun o_4 hf => ?_)
      obtain ⟨ho_4, hf⟩ := jchk_elim hf
      refine a_getR F (j := 4) (tO ho_4) rfl rfl (by decide) inW4 w_52 dX1_cutPiece_63 ?_
      refine a_iload_n F dX1_cutPiece_66 rfl 2 rfl ?_
      refine a_iald F (tO4 ho_4) rfl (lnO_lt _) hf dX1_cutPiece_67 (fun hf => ?_)
      refine a_callVV F lk_RX1_150 (tG hg) rfl (c_X1_addCrossing hg) rfl rfl ⟨rfl, rfl⟩ ⟨Nat.le_of_ble_eq_true rfl, Nat.le_of_ble_eq_true rfl⟩ rfl (Nat.le_of_ble_eq_true rfl) dX1_cutPiece_68 hf (fun σ_5 hf => ?_)
      refine a_iinc F hf dX1_cutPiece_71 2 rfl (by decide) (fun x2_6 hf => ⟨[(2, iv x2_6), (0, .ref (ad g)), (1, iv x1)], rfl, ?_⟩)
      refine a_goto F (tgt := 2) dX1_cutPiece_74 (by decide) ?_
      cases hf
      exact a_sub [1, 2, 0] rfl (hn _ _ rfl)
  · cases hf
    exact a_sub [] rfl (hx0 _ rfl)
set_option maxRecDepth 100000 in
set_option maxHeartbeats 4000000 in
theorem k_X1_cutPiece_b0 {l : Launch} {ad : Nat → Nat} {X : Cx} (F : Ok vwCl WS NWs TC cX1_cutPiece 3 yX1_cutPiece.cls none ad l X) {g : Nat} (hg : isG g) {σ : St} {x1 : Int} {y : St} (hf : f_X1_cutPiece_b0 σ g x1 = some y) (hr : RetV vwCl TC cX1_cutPiece 3 rm_X1_cutPiece ad X y) : At vwCl TC 3 rm_X1_cutPiece ad X σ [(0, .ref (ad g)), (1, iv x1)] [] 0 := by
  unfold f_X1_cutPiece_b0 at hf
  refine a_iconst F dX1_cutPiece_0 ?_
  refine a_topI hf (fun x2_1 hf => ?_)
  refine a_istore_n F (lv' := [(2, iv x2_1), (0, .ref (ad g)), (1, iv x1)]) dX1_cutPiece_1 rfl (by decide) rfl ?_
  obtain ⟨q0, he, hf⟩ := jbind_elim hf
  refine a_sub [1, 2, 0] rfl (loop_rule (P := (fun q => ∀ τ z2, (τ, z2) = q → At vwCl TC 3 rm_X1_cutPiece ad X τ [(0, .ref (ad g)), (1, iv x1), (2, iv z2)] [] 2)) (K := (fun q => (∀ τ, τ = q → At vwCl TC 3 rm_X1_cutPiece ad X τ [] [] 77))) ?_ 1000 _ _ he ?_ _ _ rfl)
  · intro q y hy hn hx τ z2 e
    subst e
    exact k_X1_cutPiece_b2 F hg hy (fun τ z2 e => hn _ e _ _ rfl) (fun τ e => (hx _ e) _ rfl)
  · intro σ_12 e
    subst e
    cases hf
    exact hr _ _ dX1_cutPiece_77
set_option maxRecDepth 100000 in
set_option maxHeartbeats 4000000 in
theorem c_X1_cutPiece {l : Launch}  {g : Nat} (hg : isG g) {σ : St} {x1 : Int} : CtrV vwCl WS NWs TC l yX1_cutPiece cX1_cutPiece 3 none rm_X1_cutPiece (fun ad => [.ref (ad g), iv x1]) σ (f_X1_cutPiece σ g x1) := by
  refine ctrV_of (by decide +kernel) (fun ad => Nat.le_of_ble_eq_true rfl) (fun σ' ad X hf F K => ?_)
  exact k_X1_cutPiece_b0 F hg hf K
abbrev rm_X1_cutRing : Room := { frames := 2, cells := 0, slots := 0, locals := 56 }
set_option maxRecDepth 100000 in
set_option maxHeartbeats 4000000 in
theorem k_X1_cutRing_b139 {l : Launch} {ad : Nat → Nat} {X : Cx} (F : Ok vwCl WS NWs TC cX1_cutRing 4 yX1_cutRing.cls none ad l X) {g : Nat} {p0 : Nat} {p1 : Nat} (hg : isG g) (hp0 : isO p0) (hp1 : isO p1) {σ : St} {x1 x2 t2 t3 : Int} {y : ((St × Int) ⊕ St)} (hf : f_X1_cutRing_b139 σ g p0 p1 x1 x2 t2 t3 = some y) (hn : ∀ τ z2, y = .inl (τ, z2) → At vwCl TC 4 rm_X1_cutRing ad X τ [(0, .ref (ad g)), (1, iv x1), (2, iv z2)] [] 2) : At vwCl TC 4 rm_X1_cutRing ad X σ [(0, .ref (ad g)), (1, iv x1), (2, iv x2)] [iv t3, iv t2, .ref (ad p1), .ref (ad p0)] 139 := by
  unfold f_X1_cutRing_b139 at hf
  refine a_callVV F lk_RX1_143 (tO hp0) rfl (c_X4_addFrom hp0 hp1) rfl rfl ⟨rfl, rfl⟩ ⟨Nat.le_of_ble_eq_true rfl, Nat.le_of_ble_eq_true rfl⟩ rfl (Nat.le_of_ble_eq_true rfl) dX1_cutRing_139 hf (fun σ_13 hf => ?_)
  refine a_goto F (tgt := 179) dX1_cutRing_142 (by decide) ?_
  refine a_iinc F hf dX1_cutRing_179 2 rfl (by decide) (fun x2_14 hf => ⟨[(2, iv x2_14), (0, .ref (ad g)), (1, iv x1)], rfl, ?_⟩)
  refine a_goto F (tgt := 2) dX1_cutRing_182 (by decide) ?_
  cases hf
  exact a_sub [1, 2, 0] rfl (hn _ _ rfl)
set_option maxRecDepth 100000 in
set_option maxHeartbeats 4000000 in
theorem k_X1_cutRing_b33 {l : Launch} {ad : Nat → Nat} {X : Cx} (F : Ok vwCl WS NWs TC cX1_cutRing 4 yX1_cutRing.cls none ad l X) {g : Nat} (hg : isG g) {σ : St} {x1 x2 t0 : Int} {y : ((St × Int) ⊕ St)} (hf : f_X1_cutRing_b33 σ g x1 x2 t0 = some y) (hn : ∀ τ z2, y = .inl (τ, z2) → At vwCl TC 4 rm_X1_cutRing ad X τ [(0, .ref (ad g)), (1, iv x1), (2, iv z2)] [] 2) : At vwCl TC 4 rm_X1_cutRing ad X σ [(0, .ref (ad g)), (1, iv x1), (2, iv x2)] [iv t0] 33 := by
  unfold f_X1_cutRing_b33 at hf
  refine a_topI hf (fun x3_4 hf => ?_)
  refine a_istore_n F (lv' := [(3, iv x3_4), (0, .ref (ad g)), (1, iv x1), (2, iv x2)]) dX1_cutRing_33 rfl (by decide) rfl ?_
  refine a_aload_n F dX1_cutRing_34 rfl 1 rfl ?_
  refine a_getR F (j := 6) (tG hg) rfl rfl (by decide) inW1 w_46 dX1_cutRing_35 ?_
  refine a_iload_n F dX1_cutRing_38 rfl 3 rfl ?_
  refine a_lald F (tG14 hg) rfl (by decide) hf dX1_cutRing_39 (fun hf => ?_)
  refine a_lconst F (n := 0) dX1_cutRing_40 (by decide +kernel) ?_
  refine a_lcmp_le F hf (tgt := 95) dX1_cutRing_41 dX1_cutRing_42 (by decide) (fun hf => ?_) (fun hf => ?_)
  · refine a_aload_n F dX1_cutRing_45 rfl 1 rfl ?_
    refine a_getV F (j := 5) (tG hg) rfl rfl (by decide) inW1 w_47 dX1_cutRing_46 ?_
    refine a_topR hf (fun o_15 hf => ?_)
    obtain ⟨ho_15, hf⟩ := jchk_elim hf
    refine a_aload_n F dX1_cutRing_49 rfl 1 rfl ?_
    refine a_getV F (j := 4) (tG hg) rfl rfl (by decide) inW1 w_25 dX1_cutRing_50 ?_
    refine a_topR hf (fun o_16 hf => ?_)
    obtain ⟨ho_16, hf⟩ := jchk_elim hf
    refine a_iload_n F dX1_cutRing_53 rfl 3 rfl ?_
    refine a_aload_n F dX1_cutRing_54 rfl 1 rfl ?_
    refine a_getV F (j := 4) (tG hg) rfl rfl (by decide) inW1 w_25 dX1_cutRing_55 ?_
    refine a_topR hf (fun o_17 hf => ?_)
    obtain ⟨ho_17, hf⟩ := jchk_elim hf
    refine a_getR F (j := 4) (tO ho_17) rfl rfl (by decide) inW4 w_52 dX1_cutRing_58 ?_
    refine a_iload_n F dX1_cutRing_61 rfl 3 rfl ?_
    refine a_iald F (tO4 ho_17) rfl (lnO_lt _) hf dX1_cutRing_62 (fun hf => ?_)
    refine a_callVV F lk_RX1_143 (tO ho_15) rfl (c_X4_addFrom ho_15 ho_16) rfl rfl ⟨rfl, rfl⟩ ⟨Nat.le_of_ble_eq_true rfl, Nat.le_of_ble_eq_true rfl⟩ rfl (Nat.le_of_ble_eq_true rfl) dX1_cutRing_63 hf (fun σ_18 hf => ?_)
    refine a_aload_n F dX1_cutRing_66 rfl 1 rfl ?_
    refine a_getR F (j := 6) (tG hg) rfl rfl (by decide) inW1 w_46 dX1_cutRing_67 ?_
    refine a_iload_n F dX1_cutRing_70 rfl 0 rfl ?_
    refine a_lald F (tG14 hg) rfl (by decide) hf dX1_cutRing_71 (fun hf => ?_)
    refine a_lconst F (n := 0) dX1_cutRing_72 (by decide +kernel) ?_
    refine a_lcmp_ge F hf (tgt := 179) dX1_cutRing_73 dX1_cutRing_74 (by decide) (fun hf => ?_) (fun hf => ?_)
    · refine a_aload_n F dX1_cutRing_77 rfl 1 rfl ?_
      refine a_aload_n F dX1_cutRing_78 rfl 1 rfl ?_
      refine a_getV F (j := 4) (tG hg) rfl rfl (by decide) inW1 w_25 dX1_cutRing_79 ?_
      refine a_topR hf (fun o_20 hf => ?_)
      obtain ⟨ho_20, hf⟩ := jchk_elim hf
      refine a_getR F (j := 4) (tO ho_20) rfl rfl (by decide) inW4 w_52 dX1_cutRing_82 ?_
      refine a_iload_n F dX1_cutRing_85 rfl 3 rfl ?_
      refine a_iald F (tO4 ho_20) rfl (lnO_lt _) hf dX1_cutRing_86 (fun hf => ?_)
      refine a_iload_n F dX1_cutRing_87 rfl 2 rfl ?_
      refine a_iload_n F dX1_cutRing_88 rfl 2 rfl ?_
      refine a_callVV F lk_RX1_150 (tG hg) rfl (c_X1_addCrossing hg) rfl rfl ⟨rfl, rfl⟩ ⟨Nat.le_of_ble_eq_true rfl, Nat.le_of_ble_eq_true rfl⟩ rfl (Nat.le_of_ble_eq_true rfl) dX1_cutRing_89 hf (fun σ_21 hf => ?_)
      refine a_goto F (tgt := 179) dX1_cutRing_92 (by decide) ?_
      refine a_iinc F hf dX1_cutRing_179 3 rfl (by decide) (fun x2_22 hf => ⟨[(2, iv x2_22), (3, iv x3_4), (0, .ref (ad g)), (1, iv x1)], rfl, ?_⟩)
      refine a_goto F (tgt := 2) dX1_cutRing_182 (by decide) ?_
      cases hf
      exact a_sub [2, 3, 0] rfl (hn _ _ rfl)
    · refine a_iinc F hf dX1_cutRing_179 3 rfl (by decide) (fun x2_19 hf => ⟨[(2, iv x2_19), (3, iv x3_4), (0, .ref (ad g)), (1, iv x1)], rfl, ?_⟩)
      refine a_goto F (tgt := 2) dX1_cutRing_182 (by decide) ?_
      cases hf
      exact a_sub [2, 3, 0] rfl (hn _ _ rfl)
  · refine a_aload_n F dX1_cutRing_95 rfl 1 rfl ?_
    refine a_getR F (j := 6) (tG hg) rfl rfl (by decide) inW1 w_46 dX1_cutRing_96 ?_
    refine a_iload_n F dX1_cutRing_99 rfl 3 rfl ?_
    refine a_lald F (tG14 hg) rfl (by decide) hf dX1_cutRing_100 (fun hf => ?_)
    refine a_lconst F (n := 0) dX1_cutRing_101 (by decide +kernel) ?_
    refine a_lcmp_ne F hf (tgt := 145) dX1_cutRing_102 dX1_cutRing_103 (by decide) (fun hf => ?_) (fun hf => ?_)
    · refine a_aload_n F dX1_cutRing_106 rfl 1 rfl ?_
      refine a_getV F (j := 5) (tG hg) rfl rfl (by decide) inW1 w_47 dX1_cutRing_107 ?_
      refine a_topR hf (fun o_10 hf => ?_)
      obtain ⟨ho_10, hf⟩ := jchk_elim hf
      refine a_aload_n F dX1_cutRing_110 rfl 1 rfl ?_
      refine a_getV F (j := 4) (tG hg) rfl rfl (by decide) inW1 w_25 dX1_cutRing_111 ?_
      refine a_topR hf (fun o_11 hf => ?_)
      obtain ⟨ho_11, hf⟩ := jchk_elim hf
      refine a_iload_n F dX1_cutRing_114 rfl 3 rfl ?_
      refine a_aload_n F dX1_cutRing_115 rfl 1 rfl ?_
      refine a_getR F (j := 6) (tG hg) rfl rfl (by decide) inW1 w_46 dX1_cutRing_116 ?_
      refine a_iload_n F dX1_cutRing_119 rfl 0 rfl ?_
      refine a_lald F (tG14 hg) rfl (by decide) hf dX1_cutRing_120 (fun hf => ?_)
      refine a_lconst F (n := 0) dX1_cutRing_121 (by decide +kernel) ?_
      refine a_lcmp_ge F hf (tgt := 130) dX1_cutRing_122 dX1_cutRing_123 (by decide) (fun hf => ?_) (fun hf => ?_)
      · refine a_iload_n F dX1_cutRing_126 rfl 2 rfl ?_
        refine a_goto F (tgt := 139) dX1_cutRing_127 (by decide) ?_
        exact a_sub [1, 2, 3] rfl (k_X1_cutRing_b139 F hg ho_10 ho_11 hf hn)
      · refine a_aload_n F dX1_cutRing_130 rfl 1 rfl ?_
        refine a_getV F (j := 4) (tG hg) rfl rfl (by decide) inW1 w_25 dX1_cutRing_131 ?_
        refine a_topR hf (fun o_12 hf => ?_)
        obtain ⟨ho_12, hf⟩ := jchk_elim hf
        refine a_getR F (j := 4) (tO ho_12) rfl rfl (by decide) inW4 w_52 dX1_cutRing_134 ?_
        refine a_iload_n F dX1_cutRing_137 rfl 3 rfl ?_
        refine a_iald F (tO4 ho_12) rfl (lnO_lt _) hf dX1_cutRing_138 (fun hf => ?_)
        exact a_sub [1, 2, 3] rfl (k_X1_cutRing_b139 F hg ho_10 ho_11 hf hn)
    · refine a_aload_n F dX1_cutRing_145 rfl 1 rfl ?_
      refine a_getR F (j := 6) (tG hg) rfl rfl (by decide) inW1 w_46 dX1_cutRing_146 ?_
      refine a_iload_n F dX1_cutRing_149 rfl 0 rfl ?_
      refine a_lald F (tG14 hg) rfl (by decide) hf dX1_cutRing_150 (fun hf => ?_)
      refine a_lconst F (n := 0) dX1_cutRing_151 (by decide +kernel) ?_
      refine a_lcmp_le F hf (tgt := 179) dX1_cutRing_152 dX1_cutRing_153 (by decide) (fun hf => ?_) (fun hf => ?_)
      · refine a_aload_n F dX1_cutRing_156 rfl 1 rfl ?_
        refine a_aload_n F dX1_cutRing_157 rfl 1 rfl ?_
        refine a_getV F (j := 4) (tG hg) rfl rfl (by decide) inW1 w_25 dX1_cutRing_158 ?_
        refine a_topR hf (fun o_6 hf => ?_)
        obtain ⟨ho_6, hf⟩ := jchk_elim hf
        refine a_getR F (j := 4) (tO ho_6) rfl rfl (by decide) inW4 w_52 dX1_cutRing_161 ?_
        refine a_iload_n F dX1_cutRing_164 rfl 3 rfl ?_
        refine a_iald F (tO4 ho_6) rfl (lnO_lt _) hf dX1_cutRing_165 (fun hf => ?_)
        refine a_iload_n F dX1_cutRing_166 rfl 2 rfl ?_
        refine a_aload_n F dX1_cutRing_167 rfl 1 rfl ?_
        refine a_getV F (j := 4) (tG hg) rfl rfl (by decide) inW1 w_25 dX1_cutRing_168 ?_
        refine a_topR hf (fun o_7 hf => ?_)
        obtain ⟨ho_7, hf⟩ := jchk_elim hf
        refine a_getR F (j := 4) (tO ho_7) rfl rfl (by decide) inW4 w_52 dX1_cutRing_171 ?_
        refine a_iload_n F dX1_cutRing_174 rfl 3 rfl ?_
        refine a_iald F (tO4 ho_7) rfl (lnO_lt _) hf dX1_cutRing_175 (fun hf => ?_)
        refine a_callVV F lk_RX1_150 (tG hg) rfl (c_X1_addCrossing hg) rfl rfl ⟨rfl, rfl⟩ ⟨Nat.le_of_ble_eq_true rfl, Nat.le_of_ble_eq_true rfl⟩ rfl (Nat.le_of_ble_eq_true rfl) dX1_cutRing_176 hf (fun σ_8 hf => ?_)
        refine a_iinc F hf dX1_cutRing_179 3 rfl (by decide) (fun x2_9 hf => ⟨[(2, iv x2_9), (3, iv x3_4), (0, .ref (ad g)), (1, iv x1)], rfl, ?_⟩)
        refine a_goto F (tgt := 2) dX1_cutRing_182 (by decide) ?_
        cases hf
        exact a_sub [2, 3, 0] rfl (hn _ _ rfl)
      · refine a_iinc F hf dX1_cutRing_179 3 rfl (by decide) (fun x2_5 hf => ⟨[(2, iv x2_5), (3, iv x3_4), (0, .ref (ad g)), (1, iv x1)], rfl, ?_⟩)
        refine a_goto F (tgt := 2) dX1_cutRing_182 (by decide) ?_
        cases hf
        exact a_sub [2, 3, 0] rfl (hn _ _ rfl)
set_option maxRecDepth 100000 in
set_option maxHeartbeats 4000000 in
theorem k_X1_cutRing_b2 {l : Launch} {ad : Nat → Nat} {X : Cx} (F : Ok vwCl WS NWs TC cX1_cutRing 4 yX1_cutRing.cls none ad l X) {g : Nat} (hg : isG g) {σ : St} {x1 x2 : Int} {y : ((St × Int) ⊕ St)} (hf : f_X1_cutRing_b2 σ g x1 x2 = some y) (hn : ∀ τ z2, y = .inl (τ, z2) → At vwCl TC 4 rm_X1_cutRing ad X τ [(0, .ref (ad g)), (1, iv x1), (2, iv z2)] [] 2) (hx0 : ∀ τ, y = .inr (τ) → At vwCl TC 4 rm_X1_cutRing ad X τ [] [] 185) : At vwCl TC 4 rm_X1_cutRing ad X σ [(0, .ref (ad g)), (1, iv x1), (2, iv x2)] [] 2 := by
  unfold f_X1_cutRing_b2 at hf
  refine a_iload_n F dX1_cutRing_2 rfl 2 rfl ?_
  refine a_aload_n F dX1_cutRing_3 rfl 0 rfl ?_
  refine a_getV F (j := 4) (tG hg) rfl rfl (by decide) inW1 w_25 dX1_cutRing_4 ?_
  refine a_topR hf (fun o_2 hf => ?_)
  obtain ⟨ho_2, hf⟩ := jchk_elim hf
  refine a_getI F (j := 0) (tO ho_2) rfl rfl (by decide) inW4 w_45 dX1_cutRing_7 ?_
  refine a_icmp_ge F hf (tgt := 185) dX1_cutRing_10 (by decide) (fun hf => ?_) (fun hf => ?_)
  · refine a_iload_n F dX1_cutRing_13 rfl 2 rfl ?_
    refine a_iconst F dX1_cutRing_14 ?_
    refine a_iadd F dX1_cutRing_15 ?_
    refine a_aload_n F dX1_cutRing_16 rfl 0 rfl ?_
    refine a_getV F (j := 4) (tG hg) rfl rfl (by decide) inW1 w_25 dX1_cutRing_17 ?_
    refine a_topR hf (fun o_3 hf => ?_)
    obtain ⟨ho_3, hf⟩ := jchk_elim hf
    refine a_getI F (j := 0) (tO ho_3) rfl rfl (by decide) inW4 w_45 dX1_cutRing_20 ?_
    refine a_icmp_ge F hf (tgt := 32) dX1_cutRing_23 (by decide) (fun hf => ?_) (fun hf => ?_)
    · refine a_iload_n F dX1_cutRing_26 rfl 2 rfl ?_
      refine a_iconst F dX1_cutRing_27 ?_
      refine a_iadd F dX1_cutRing_28 ?_
      refine a_goto F (tgt := 33) dX1_cutRing_29 (by decide) ?_
      exact a_sub [0, 1, 2] rfl (k_X1_cutRing_b33 F hg hf hn)
    · refine a_iconst F dX1_cutRing_32 ?_
      exact a_sub [0, 1, 2] rfl (k_X1_cutRing_b33 F hg hf hn)
  · cases hf
    exact a_sub [] rfl (hx0 _ rfl)
set_option maxRecDepth 100000 in
set_option maxHeartbeats 4000000 in
theorem k_X1_cutRing_b0 {l : Launch} {ad : Nat → Nat} {X : Cx} (F : Ok vwCl WS NWs TC cX1_cutRing 4 yX1_cutRing.cls none ad l X) {g : Nat} (hg : isG g) {σ : St} {x1 : Int} {y : St} (hf : f_X1_cutRing_b0 σ g x1 = some y) (hr : RetV vwCl TC cX1_cutRing 4 rm_X1_cutRing ad X y) : At vwCl TC 4 rm_X1_cutRing ad X σ [(0, .ref (ad g)), (1, iv x1)] [] 0 := by
  unfold f_X1_cutRing_b0 at hf
  refine a_iconst F dX1_cutRing_0 ?_
  refine a_topI hf (fun x2_1 hf => ?_)
  refine a_istore_n F (lv' := [(2, iv x2_1), (0, .ref (ad g)), (1, iv x1)]) dX1_cutRing_1 rfl (by decide) rfl ?_
  obtain ⟨q0, he, hf⟩ := jbind_elim hf
  refine a_sub [1, 2, 0] rfl (loop_rule (P := (fun q => ∀ τ z2, (τ, z2) = q → At vwCl TC 4 rm_X1_cutRing ad X τ [(0, .ref (ad g)), (1, iv x1), (2, iv z2)] [] 2)) (K := (fun q => (∀ τ, τ = q → At vwCl TC 4 rm_X1_cutRing ad X τ [] [] 185))) ?_ 1000 _ _ he ?_ _ _ rfl)
  · intro q y hy hn hx τ z2 e
    subst e
    exact k_X1_cutRing_b2 F hg hy (fun τ z2 e => hn _ e _ _ rfl) (fun τ e => (hx _ e) _ rfl)
  · intro σ_23 e
    subst e
    cases hf
    exact hr _ _ dX1_cutRing_185
set_option maxRecDepth 100000 in
set_option maxHeartbeats 4000000 in
theorem c_X1_cutRing {l : Launch}  {g : Nat} (hg : isG g) {σ : St} {x1 : Int} : CtrV vwCl WS NWs TC l yX1_cutRing cX1_cutRing 4 none rm_X1_cutRing (fun ad => [.ref (ad g), iv x1]) σ (f_X1_cutRing σ g x1) := by
  refine ctrV_of (by decide +kernel) (fun ad => Nat.le_of_ble_eq_true rfl) (fun σ' ad X hf F K => ?_)
  exact k_X1_cutRing_b0 F hg hf K
abbrev rm_X1_cut : Room := { frames := 3, cells := 0, slots := 0, locals := 79 }
set_option maxRecDepth 100000 in
set_option maxHeartbeats 4000000 in
theorem k_X1_cut_b51 {l : Launch} {ad : Nat → Nat} {X : Cx} (F : Ok vwCl WS NWs TC cX1_cut 5 yX1_cut.cls none ad l X) {g : Nat} (hg : isG g) {σ : St} {x1 x3 x4 t0 t1 : Int} {y : ((St × Int × Int × Int) ⊕ (St × Int × Int))} (hf : f_X1_cut_b51 σ g x1 x3 x4 t0 t1 = some y) (hn : ∀ τ z2 z3 z4, y = .inl (τ, z2, z3, z4) → At vwCl TC 5 rm_X1_cut ad X τ [(0, .ref (ad g)), (1, iv x1), (2, iv z2), (3, iv z3), (4, iv z4)] [] 7) : At vwCl TC 5 rm_X1_cut ad X σ [(0, .ref (ad g)), (1, iv x1), (3, iv x3), (4, iv x4)] [iv t1, iv t0] 51 := by
  unfold f_X1_cut_b51 at hf
  refine a_ior F dX1_cut_51 ?_
  refine a_topI hf (fun x2_7 hf => ?_)
  refine a_istore_n F (lv' := [(2, iv x2_7), (0, .ref (ad g)), (1, iv x1), (3, iv x3), (4, iv x4)]) dX1_cut_52 rfl (by decide) rfl ?_
  refine a_iload_n F dX1_cut_53 rfl 3 rfl ?_
  refine a_aload_n F dX1_cut_54 rfl 1 rfl ?_
  refine a_getR F (j := 6) (tG hg) rfl rfl (by decide) inW1 w_46 dX1_cut_55 ?_
  refine a_iload F dX1_cut_58 4 rfl ?_
  refine a_lald F (tG14 hg) rfl (by decide) hf dX1_cut_60 (fun hf => ?_)
  refine a_lconst F (n := 0) dX1_cut_61 (by decide +kernel) ?_
  refine a_lcmp_ge F hf (tgt := 70) dX1_cut_62 dX1_cut_63 (by decide) (fun hf => ?_) (fun hf => ?_)
  · refine a_iconst F dX1_cut_66 ?_
    refine a_goto F (tgt := 71) dX1_cut_67 (by decide) ?_
    refine a_ior F dX1_cut_71 ?_
    refine a_topI hf (fun x3_10 hf => ?_)
    refine a_istore_n F (lv' := [(3, iv x3_10), (2, iv x2_7), (0, .ref (ad g)), (1, iv x1), (4, iv x4)]) dX1_cut_72 rfl (by decide) rfl ?_
    refine a_iinc F hf dX1_cut_73 4 rfl (by decide) (fun x4_11 hf => ⟨[(4, iv x4_11), (3, iv x3_10), (2, iv x2_7), (0, .ref (ad g)), (1, iv x1)], rfl, ?_⟩)
    refine a_goto F (tgt := 7) dX1_cut_76 (by decide) ?_
    cases hf
    exact a_sub [3, 4, 2, 1, 0] rfl (hn _ _ _ _ rfl)
  · refine a_iconst F dX1_cut_70 ?_
    refine a_ior F dX1_cut_71 ?_
    refine a_topI hf (fun x3_8 hf => ?_)
    refine a_istore_n F (lv' := [(3, iv x3_8), (2, iv x2_7), (0, .ref (ad g)), (1, iv x1), (4, iv x4)]) dX1_cut_72 rfl (by decide) rfl ?_
    refine a_iinc F hf dX1_cut_73 4 rfl (by decide) (fun x4_9 hf => ⟨[(4, iv x4_9), (3, iv x3_8), (2, iv x2_7), (0, .ref (ad g)), (1, iv x1)], rfl, ?_⟩)
    refine a_goto F (tgt := 7) dX1_cut_76 (by decide) ?_
    cases hf
    exact a_sub [3, 4, 2, 1, 0] rfl (hn _ _ _ _ rfl)
set_option maxRecDepth 100000 in
set_option maxHeartbeats 4000000 in
theorem k_X1_cut_b7 {l : Launch} {ad : Nat → Nat} {X : Cx} (F : Ok vwCl WS NWs TC cX1_cut 5 yX1_cut.cls none ad l X) {g : Nat} (hg : isG g) {σ : St} {x1 x2 x3 x4 : Int} {y : ((St × Int × Int × Int) ⊕ (St × Int × Int))} (hf : f_X1_cut_b7 σ g x1 x2 x3 x4 = some y) (hn : ∀ τ z2 z3 z4, y = .inl (τ, z2, z3, z4) → At vwCl TC 5 rm_X1_cut ad X τ [(0, .ref (ad g)), (1, iv x1), (2, iv z2), (3, iv z3), (4, iv z4)] [] 7) (hx0 : ∀ τ z2 z3, y = .inr ((τ, z2, z3)) → At vwCl TC 5 rm_X1_cut ad X τ [(0, .ref (ad g)), (1, iv x1), (2, iv z2), (3, iv z3)] [] 79) : At vwCl TC 5 rm_X1_cut ad X σ [(0, .ref (ad g)), (1, iv x1), (2, iv x2), (3, iv x3), (4, iv x4)] [] 7 := by
  unfold f_X1_cut_b7 at hf
  refine a_iload F dX1_cut_7 4 rfl ?_
  refine a_aload_n F dX1_cut_9 rfl 0 rfl ?_
  refine a_getV F (j := 4) (tG hg) rfl rfl (by decide) inW1 w_25 dX1_cut_10 ?_
  refine a_topR hf (fun o_4 hf => ?_)
  obtain ⟨ho_4, hf⟩ := jchk_elim hf
  refine a_getI F (j := 0) (tO ho_4) rfl rfl (by decide) inW4 w_45 dX1_cut_13 ?_
  refine a_icmp_ge F hf (tgt := 79) dX1_cut_16 (by decide) (fun hf => ?_) (fun hf => ?_)
  · refine a_aload_n F dX1_cut_19 rfl 0 rfl ?_
    refine a_getR F (j := 6) (tG hg) rfl rfl (by decide) inW1 w_46 dX1_cut_20 ?_
    refine a_iload F dX1_cut_23 4 rfl ?_
    refine a_aload_n F dX1_cut_25 rfl 0 rfl ?_
    refine a_iload_n F dX1_cut_26 rfl 1 rfl ?_
    refine a_iload F dX1_cut_27 4 rfl ?_
    refine a_callVLr F lk_RX1_85 (tG hg) rfl (c_X1_innerSide hg) rfl rfl ⟨rfl, rfl⟩ ⟨Nat.le_of_ble_eq_true rfl, Nat.le_of_ble_eq_true rfl⟩ rfl (Nat.le_of_ble_eq_true rfl) dX1_cut_29 hf (fun r_5 hf => ?_)
    refine a_last F (tG14 hg) rfl (by decide) hf dX1_cut_32 (fun σ_6 hf => ?_)
    refine a_iload_n F dX1_cut_33 rfl 2 rfl ?_
    refine a_aload_n F dX1_cut_34 rfl 0 rfl ?_
    refine a_getR F (j := 6) (tG hg) rfl rfl (by decide) inW1 w_46 dX1_cut_35 ?_
    refine a_iload F dX1_cut_38 4 rfl ?_
    refine a_lald F (tG14 hg) rfl (by decide) hf dX1_cut_40 (fun hf => ?_)
    refine a_lconst F (n := 0) dX1_cut_41 (by decide +kernel) ?_
    refine a_lcmp_le F hf (tgt := 50) dX1_cut_42 dX1_cut_43 (by decide) (fun hf => ?_) (fun hf => ?_)
    · refine a_iconst F dX1_cut_46 ?_
      refine a_goto F (tgt := 51) dX1_cut_47 (by decide) ?_
      exact a_sub [0, 1, 3, 4] rfl (k_X1_cut_b51 F hg hf hn)
    · refine a_iconst F dX1_cut_50 ?_
      exact a_sub [0, 1, 3, 4] rfl (k_X1_cut_b51 F hg hf hn)
  · cases hf
    exact a_sub [0, 1, 2, 3] rfl (hx0 _ _ _ rfl)
set_option maxRecDepth 100000 in
set_option maxHeartbeats 4000000 in
theorem k_X1_cut_b128 {l : Launch} {ad : Nat → Nat} {X : Cx} (F : Ok vwCl WS NWs TC cX1_cut 5 yX1_cut.cls none ad l X) {g : Nat} (hg : isG g) {σ : St} {y : St} (hf : f_X1_cut_b128 σ g = some y) (hr : RetV vwCl TC cX1_cut 5 rm_X1_cut ad X y) : At vwCl TC 5 rm_X1_cut ad X σ [(0, .ref (ad g))] [] 128 := by
  unfold f_X1_cut_b128 at hf
  refine a_aload_n F dX1_cut_128 rfl 0 rfl ?_
  refine a_getV F (j := 4) (tG hg) rfl rfl (by decide) inW1 w_25 dX1_cut_129 ?_
  refine a_topR hf (fun o_19 hf => ?_)
  obtain ⟨ho_19, hf⟩ := jchk_elim hf
  refine a_astore F (lv' := [(4, .ref (ad o_19)), (0, .ref (ad g))]) dX1_cut_132 (by decide) rfl ?_
  refine a_aload_n F dX1_cut_134 rfl 1 rfl ?_
  refine a_aload_n F dX1_cut_135 rfl 1 rfl ?_
  refine a_getV F (j := 5) (tG hg) rfl rfl (by decide) inW1 w_47 dX1_cut_136 ?_
  refine a_topR hf (fun o_20 hf => ?_)
  obtain ⟨ho_20, hf⟩ := jchk_elim hf
  refine a_putV F (j := 4) (tG hg) rfl rfl (by decide) inW1 w_25 tyX1 tyX1_ok nmX1 rfl rfl hf dX1_cut_139 (fun σ_21 hf => ?_)
  refine a_aload_n F dX1_cut_142 rfl 1 rfl ?_
  refine a_aload F dX1_cut_143 0 rfl ?_
  refine a_putV F (j := 5) (tG hg) rfl rfl (by decide) inW1 w_47 tyX1 tyX1_ok nmX1 rfl rfl hf dX1_cut_145 (fun σ_22 hf => ?_)
  cases hf
  exact hr _ _ dX1_cut_148
set_option maxRecDepth 100000 in
set_option maxHeartbeats 4000000 in
theorem k_X1_cut_b0 {l : Launch} {ad : Nat → Nat} {X : Cx} (F : Ok vwCl WS NWs TC cX1_cut 5 yX1_cut.cls none ad l X) {g : Nat} (hg : isG g) {σ : St} {x1 : Int} {y : St} (hf : f_X1_cut_b0 σ g x1 = some y) (hr : RetV vwCl TC cX1_cut 5 rm_X1_cut ad X y) : At vwCl TC 5 rm_X1_cut ad X σ [(0, .ref (ad g)), (1, iv x1)] [] 0 := by
  unfold f_X1_cut_b0 at hf
  refine a_iconst F dX1_cut_0 ?_
  refine a_topI hf (fun x2_1 hf => ?_)
  refine a_istore_n F (lv' := [(2, iv x2_1), (0, .ref (ad g)), (1, iv x1)]) dX1_cut_1 rfl (by decide) rfl ?_
  refine a_iconst F dX1_cut_2 ?_
  refine a_topI hf (fun x3_2 hf => ?_)
  refine a_istore_n F (lv' := [(3, iv x3_2), (2, iv x2_1), (0, .ref (ad g)), (1, iv x1)]) dX1_cut_3 rfl (by decide) rfl ?_
  refine a_iconst F dX1_cut_4 ?_
  refine a_topI hf (fun x4_3 hf => ?_)
  refine a_istore F (lv' := [(4, iv x4_3), (3, iv x3_2), (2, iv x2_1), (0, .ref (ad g)), (1, iv x1)]) dX1_cut_5 (by decide) rfl ?_
  obtain ⟨q0, he, hf⟩ := jbind_elim hf
  refine a_sub [3, 4, 2, 1, 0] rfl (loop_rule (P := (fun q => ∀ τ z2 z3 z4, (τ, z2, z3, z4) = q → At vwCl TC 5 rm_X1_cut ad X τ [(0, .ref (ad g)), (1, iv x1), (2, iv z2), (3, iv z3), (4, iv z4)] [] 7)) (K := (fun q => (∀ τ z2 z3, (τ, z2, z3) = q → At vwCl TC 5 rm_X1_cut ad X τ [(0, .ref (ad g)), (1, iv x1), (2, iv z2), (3, iv z3)] [] 79))) ?_ 1000 _ _ he ?_ _ _ _ _ rfl)
  · intro q y hy hn hx τ z2 z3 z4 e
    subst e
    exact k_X1_cut_b7 F hg hy (fun τ z2 z3 z4 e => hn _ e _ _ _ _ rfl) (fun τ z2 z3 e => (hx _ e) _ _ _ rfl)
  · intro σ_12 x2_13 x3_14 e
    subst e
    refine a_iload_n F dX1_cut_79 rfl 3 rfl ?_
    refine a_if_ne F hf (tgt := 84) dX1_cut_80 (by decide) (fun hf => ?_) (fun hf => ?_)
    · cases hf
      exact hr _ _ dX1_cut_83
    · refine a_aload_n F dX1_cut_84 rfl 0 rfl ?_
      refine a_getV F (j := 5) (tG hg) rfl rfl (by decide) inW1 w_47 dX1_cut_85 ?_
      refine a_topR hf (fun o_15 hf => ?_)
      obtain ⟨ho_15, hf⟩ := jchk_elim hf
      refine a_iconst F dX1_cut_88 ?_
      refine a_putI F (j := 0) (tO ho_15) rfl rfl (by decide) inW4 w_45 tyX4 tyX4_ok nmX4 rfl rfl hf dX1_cut_89 (fun σ_16 hf => ?_)
      refine a_iload_n F dX1_cut_92 rfl 2 rfl ?_
      refine a_if_ne F hf (tgt := 104) dX1_cut_93 (by decide) (fun hf => ?_) (fun hf => ?_)
      · refine a_aload_n F dX1_cut_96 rfl 0 rfl ?_
        refine a_iload_n F dX1_cut_97 rfl 1 rfl ?_
        refine a_callVV F lk_RX1_134 (tG hg) rfl (c_X1_leaveTouched hg) rfl rfl ⟨rfl, rfl⟩ ⟨Nat.le_of_ble_eq_true rfl, Nat.le_of_ble_eq_true rfl⟩ rfl (Nat.le_of_ble_eq_true rfl) dX1_cut_98 hf (fun σ_24 hf => ?_)
        refine a_goto F (tgt := 128) dX1_cut_101 (by decide) ?_
        exact a_sub [0] rfl (k_X1_cut_b128 F hg hf hr)
      · refine a_aload_n F dX1_cut_104 rfl 0 rfl ?_
        refine a_getV F (j := 4) (tG hg) rfl rfl (by decide) inW1 w_25 dX1_cut_105 ?_
        refine a_topR hf (fun o_17 hf => ?_)
        obtain ⟨ho_17, hf⟩ := jchk_elim hf
        refine a_getI F (j := 0) (tO ho_17) rfl rfl (by decide) inW4 w_45 dX1_cut_108 ?_
        refine a_iconst F dX1_cut_111 ?_
        refine a_icmp_ne F hf (tgt := 123) dX1_cut_112 (by decide) (fun hf => ?_) (fun hf => ?_)
        · refine a_aload_n F dX1_cut_115 rfl 0 rfl ?_
          refine a_iload_n F dX1_cut_116 rfl 1 rfl ?_
          refine a_callVV F lk_RX1_137 (tG hg) rfl (c_X1_cutPiece hg) rfl rfl ⟨rfl, rfl⟩ ⟨Nat.le_of_ble_eq_true rfl, Nat.le_of_ble_eq_true rfl⟩ rfl (Nat.le_of_ble_eq_true rfl) dX1_cut_117 hf (fun σ_23 hf => ?_)
          refine a_goto F (tgt := 128) dX1_cut_120 (by decide) ?_
          exact a_sub [0] rfl (k_X1_cut_b128 F hg hf hr)
        · refine a_aload_n F dX1_cut_123 rfl 0 rfl ?_
          refine a_iload_n F dX1_cut_124 rfl 1 rfl ?_
          refine a_callVV F lk_RX1_140 (tG hg) rfl (c_X1_cutRing hg) rfl rfl ⟨rfl, rfl⟩ ⟨Nat.le_of_ble_eq_true rfl, Nat.le_of_ble_eq_true rfl⟩ rfl (Nat.le_of_ble_eq_true rfl) dX1_cut_125 hf (fun σ_18 hf => ?_)
          exact a_sub [0] rfl (k_X1_cut_b128 F hg hf hr)
set_option maxRecDepth 100000 in
set_option maxHeartbeats 4000000 in
theorem c_X1_cut {l : Launch}  {g : Nat} (hg : isG g) {σ : St} {x1 : Int} : CtrV vwCl WS NWs TC l yX1_cut cX1_cut 5 none rm_X1_cut (fun ad => [.ref (ad g), iv x1]) σ (f_X1_cut σ g x1) := by
  refine ctrV_of (by decide +kernel) (fun ad => Nat.le_of_ble_eq_true rfl) (fun σ' ad X hf F K => ?_)
  exact k_X1_cut_b0 F hg hf K
abbrev rm_X4_isBefore : Room := { frames := 0, cells := 0, slots := 0, locals := 0 }
set_option maxRecDepth 100000 in
set_option maxHeartbeats 4000000 in
theorem k_X4_isBefore_b0 {l : Launch} {ad : Nat → Nat} {X : Cx} (F : Ok vwCl WS NWs TC cX4_isBefore 5 yX4_isBefore.cls (some .boolean) ad l X) {o : Nat} (ho : isO o) {σ : St} {x1 x2 : Int} {y : Int} (hf : f_X4_isBefore_b0 σ o x1 x2 = some y) (hr : RetI vwCl TC cX4_isBefore 5 rm_X4_isBefore ad X y σ) : At vwCl TC 5 rm_X4_isBefore ad X σ [(0, .ref (ad o)), (1, iv x1), (2, iv x2)] [] 0 := by
  unfold f_X4_isBefore_b0 at hf
  refine a_aload_n F dX4_isBefore_0 rfl 0 rfl ?_
  refine a_getR F (j := 1) (tO ho) rfl rfl (by decide) inW4 w_13 dX4_isBefore_1 ?_
  refine a_iload_n F dX4_isBefore_4 rfl 1 rfl ?_
  refine a_lald F (tO1 ho) rfl (lnO_lt _) hf dX4_isBefore_5 (fun hf => ?_)
  refine a_aload_n F dX4_isBefore_6 rfl 0 rfl ?_
  refine a_getR F (j := 3) (tO ho) rfl rfl (by decide) inW4 w_15 dX4_isBefore_7 ?_
  refine a_iload_n F dX4_isBefore_10 rfl 2 rfl ?_
  refine a_lald F (tO3 ho) rfl (lnO_lt _) hf dX4_isBefore_11 (fun hf => ?_)
  refine a_lmul F dX4_isBefore_12 ?_
  refine a_aload_n F dX4_isBefore_13 rfl 0 rfl ?_
  refine a_getR F (j := 1) (tO ho) rfl rfl (by decide) inW4 w_13 dX4_isBefore_14 ?_
  refine a_iload_n F dX4_isBefore_17 rfl 2 rfl ?_
  refine a_lald F (tO1 ho) rfl (lnO_lt _) hf dX4_isBefore_18 (fun hf => ?_)
  refine a_aload_n F dX4_isBefore_19 rfl 0 rfl ?_
  refine a_getR F (j := 3) (tO ho) rfl rfl (by decide) inW4 w_15 dX4_isBefore_20 ?_
  refine a_iload_n F dX4_isBefore_23 rfl 1 rfl ?_
  refine a_lald F (tO3 ho) rfl (lnO_lt _) hf dX4_isBefore_24 (fun hf => ?_)
  refine a_lmul F dX4_isBefore_25 ?_
  refine a_lsub F dX4_isBefore_26 ?_
  refine a_topJ hf (fun x3_1 hf => ?_)
  refine a_lstore_n F (lv' := [(3, jv x3_1), (0, .ref (ad o)), (1, iv x1), (2, iv x2)]) dX4_isBefore_27 rfl (by decide) rfl ?_
  refine a_lload_n F dX4_isBefore_28 rfl 0 rfl ?_
  refine a_lconst F (n := 0) dX4_isBefore_29 (by decide +kernel) ?_
  refine a_lcmp_lt F hf (tgt := 70) dX4_isBefore_30 dX4_isBefore_31 (by decide) (fun hf => ?_) (fun hf => ?_)
  · refine a_iconst F dX4_isBefore_70 ?_
    refine a_goto F (tgt := 75) dX4_isBefore_71 (by decide) ?_
    cases hf
    exact hr _ _ dX4_isBefore_75
  · refine a_lload_n F dX4_isBefore_34 rfl 0 rfl ?_
    refine a_lconst F (n := 0) dX4_isBefore_35 (by decide +kernel) ?_
    refine a_lcmp_ne F hf (tgt := 74) dX4_isBefore_36 dX4_isBefore_37 (by decide) (fun hf => ?_) (fun hf => ?_)
    · refine a_aload_n F dX4_isBefore_40 rfl 1 rfl ?_
      refine a_getR F (j := 2) (tO ho) rfl rfl (by decide) inW4 w_14 dX4_isBefore_41 ?_
      refine a_iload_n F dX4_isBefore_44 rfl 2 rfl ?_
      refine a_lald F (tO2 ho) rfl (lnO_lt _) hf dX4_isBefore_45 (fun hf => ?_)
      refine a_aload_n F dX4_isBefore_46 rfl 1 rfl ?_
      refine a_getR F (j := 3) (tO ho) rfl rfl (by decide) inW4 w_15 dX4_isBefore_47 ?_
      refine a_iload_n F dX4_isBefore_50 rfl 3 rfl ?_
      refine a_lald F (tO3 ho) rfl (lnO_lt _) hf dX4_isBefore_51 (fun hf => ?_)
      refine a_lmul F dX4_isBefore_52 ?_
      refine a_aload_n F dX4_isBefore_53 rfl 1 rfl ?_
      refine a_getR F (j := 2) (tO ho) rfl rfl (by decide) inW4 w_14 dX4_isBefore_54 ?_
      refine a_iload_n F dX4_isBefore_57 rfl 3 rfl ?_
      refine a_lald F (tO2 ho) rfl (lnO_lt _) hf dX4_isBefore_58 (fun hf => ?_)
      refine a_aload_n F dX4_isBefore_59 rfl 1 rfl ?_
      refine a_getR F (j := 3) (tO ho) rfl rfl (by decide) inW4 w_15 dX4_isBefore_60 ?_
      refine a_iload_n F dX4_isBefore_63 rfl 2 rfl ?_
      refine a_lald F (tO3 ho) rfl (lnO_lt _) hf dX4_isBefore_64 (fun hf => ?_)
      refine a_lmul F dX4_isBefore_65 ?_
      refine a_lcmp_ge F hf (tgt := 74) dX4_isBefore_66 dX4_isBefore_67 (by decide) (fun hf => ?_) (fun hf => ?_)
      · refine a_iconst F dX4_isBefore_70 ?_
        refine a_goto F (tgt := 75) dX4_isBefore_71 (by decide) ?_
        cases hf
        exact hr _ _ dX4_isBefore_75
      · refine a_iconst F dX4_isBefore_74 ?_
        cases hf
        exact hr _ _ dX4_isBefore_75
    · refine a_iconst F dX4_isBefore_74 ?_
      cases hf
      exact hr _ _ dX4_isBefore_75
set_option maxRecDepth 100000 in
set_option maxHeartbeats 4000000 in
theorem c_X4_isBefore {l : Launch}  {o : Nat} (ho : isO o) {σ : St} {x1 x2 : Int} : CtrI vwCl WS NWs TC l yX4_isBefore cX4_isBefore 5 (some .boolean) rm_X4_isBefore (fun ad => [.ref (ad o), iv x1, iv x2]) σ (rd (f_X4_isBefore σ o x1 x2) σ) := by
  refine ctrZ_of (fun v σ' h => jz_z (rd_elim h).1) (by decide +kernel) (fun ad => Nat.le_of_ble_eq_true rfl) (fun v σ' ad X hf F K => ?_)
  obtain ⟨hf2, e2⟩ := rd_elim hf
  subst e2
  exact k_X4_isBefore_b0 F ho (jz_e hf2) K
abbrev rm_X1_draw : Room := { frames := 4, cells := 0, slots := 0, locals := 103 }
set_option maxRecDepth 100000 in
set_option maxHeartbeats 4000000 in
theorem k_X1_draw_b31 {l : Launch} {ad : Nat → Nat} {X : Cx} (F : Ok vwCl WS NWs TC cX1_draw 5 yX1_draw.cls none ad l X) {g : Nat} (hg : isG g) {σ : St} {x1 x2 x3 : Int} {y : ((St × Int) ⊕ St)} (hf : f_X1_draw_b31 σ g x1 x2 x3 = some y) (hn : ∀ τ z3, y = .inl (τ, z3) → At vwCl TC 5 rm_X1_draw ad X τ [(0, .ref (ad g)), (1, iv x1), (2, iv x2), (3, iv z3)] [] 31) (hx0 : ∀ τ, y = .inr (τ) → At vwCl TC 5 rm_X1_draw ad X τ [(0, .ref (ad g))] [] 81) : At vwCl TC 5 rm_X1_draw ad X σ [(0, .ref (ad g)), (1, iv x1), (2, iv x2), (3, iv x3)] [] 31 := by
  unfold f_X1_draw_b31 at hf
  refine a_iload_n F dX1_draw_31 rfl 3 rfl ?_
  refine a_aload_n F dX1_draw_32 rfl 0 rfl ?_
  refine a_getR F (j := 0) (tG hg) rfl rfl (by decide) inW1 w_17 dX1_draw_33 ?_
  refine a_getI F (j := 4) tC_1 rfl rfl (by decide) inW9 w_82 dX1_draw_36 ?_
  refine a_icmp_ge F hf (tgt := 81) dX1_draw_39 (by decide) (fun hf => ?_) (fun hf => ?_)
  · refine a_aload_n F dX1_draw_42 rfl 0 rfl ?_
    refine a_getR F (j := 0) (tG hg) rfl rfl (by decide) inW1 w_17 dX1_draw_43 ?_
    refine a_getR F (j := 5) tC_1 rfl rfl (by decide) inW9 w_83 dX1_draw_46 ?_
    refine a_iload_n F dX1_draw_49 rfl 3 rfl ?_
    refine a_iald F tC_2 rfl (by decide) hf dX1_draw_50 (fun hf => ?_)
    refine a_topI hf (fun x4_7 hf => ?_)
    refine a_istore F (lv' := [(4, iv x4_7), (0, .ref (ad g)), (1, iv x1), (2, iv x2), (3, iv x3)]) dX1_draw_51 (by decide) rfl ?_
    refine a_iload F dX1_draw_53 0 rfl ?_
    refine a_iload_n F dX1_draw_55 rfl 2 rfl ?_
    refine a_icmp_eq F hf (tgt := 75) dX1_draw_56 (by decide) (fun hf => ?_) (fun hf => ?_)
    · refine a_iinc F hf dX1_draw_75 4 rfl (by decide) (fun x3_8 hf => ⟨[(3, iv x3_8), (4, iv x4_7), (0, .ref (ad g)), (1, iv x1), (2, iv x2)], rfl, ?_⟩)
      refine a_goto F (tgt := 31) dX1_draw_78 (by decide) ?_
      cases hf
      exact a_sub [2, 3, 4, 0] rfl (hn _ _ rfl)
    · refine a_aload_n F dX1_draw_59 rfl 1 rfl ?_
      refine a_iload F dX1_draw_60 0 rfl ?_
      refine a_iload_n F dX1_draw_62 rfl 2 rfl ?_
      refine a_iload_n F dX1_draw_63 rfl 3 rfl ?_
      refine a_callVV F lk_RX1_74 (tG hg) rfl (c_X1_setBorder hg) rfl rfl ⟨rfl, rfl⟩ ⟨Nat.le_of_ble_eq_true rfl, Nat.le_of_ble_eq_true rfl⟩ rfl (Nat.le_of_ble_eq_true rfl) dX1_draw_64 hf (fun σ_9 hf => ?_)
      refine a_aload_n F dX1_draw_67 rfl 1 rfl ?_
      refine a_iconst F dX1_draw_68 ?_
      refine a_iload F dX1_draw_69 0 rfl ?_
      refine a_iadd F dX1_draw_71 ?_
      refine a_callVV F lk_RX1_78 (tG hg) rfl (c_X1_cut hg) rfl rfl ⟨rfl, rfl⟩ ⟨Nat.le_of_ble_eq_true rfl, Nat.le_of_ble_eq_true rfl⟩ rfl (Nat.le_of_ble_eq_true rfl) dX1_draw_72 hf (fun σ_10 hf => ?_)
      refine a_iinc F hf dX1_draw_75 4 rfl (by decide) (fun x3_11 hf => ⟨[(3, iv x3_11), (4, iv x4_7), (0, .ref (ad g)), (1, iv x1), (2, iv x2)], rfl, ?_⟩)
      refine a_goto F (tgt := 31) dX1_draw_78 (by decide) ?_
      cases hf
      exact a_sub [2, 3, 4, 0] rfl (hn _ _ rfl)
  · cases hf
    exact a_sub [0] rfl (hx0 _ rfl)
set_option maxRecDepth 100000 in
set_option maxHeartbeats 4000000 in
theorem k_X1_draw_b83 {l : Launch} {ad : Nat → Nat} {X : Cx} (F : Ok vwCl WS NWs TC cX1_draw 5 yX1_draw.cls none ad l X) {g : Nat} (hg : isG g) {σ : St} {x3 : Int} {y : ((St × Int) ⊕ St)} (hf : f_X1_draw_b83 σ g x3 = some y) (hn : ∀ τ z3, y = .inl (τ, z3) → At vwCl TC 5 rm_X1_draw ad X τ [(0, .ref (ad g)), (3, iv z3)] [] 83) (hx0 : ∀ τ, y = .inr (τ) → At vwCl TC 5 rm_X1_draw ad X τ [] [] 120) : At vwCl TC 5 rm_X1_draw ad X σ [(0, .ref (ad g)), (3, iv x3)] [] 83 := by
  unfold f_X1_draw_b83 at hf
  refine a_iload_n F dX1_draw_83 rfl 1 rfl ?_
  refine a_aload_n F dX1_draw_84 rfl 0 rfl ?_
  refine a_getV F (j := 4) (tG hg) rfl rfl (by decide) inW1 w_25 dX1_draw_85 ?_
  refine a_topR hf (fun o_14 hf => ?_)
  obtain ⟨ho_14, hf⟩ := jchk_elim hf
  refine a_getI F (j := 0) (tO ho_14) rfl rfl (by decide) inW4 w_45 dX1_draw_88 ?_
  refine a_icmp_ge F hf (tgt := 120) dX1_draw_91 (by decide) (fun hf => ?_) (fun hf => ?_)
  · refine a_aload_n F dX1_draw_94 rfl 0 rfl ?_
    refine a_getV F (j := 4) (tG hg) rfl rfl (by decide) inW1 w_25 dX1_draw_95 ?_
    refine a_topR hf (fun o_15 hf => ?_)
    obtain ⟨ho_15, hf⟩ := jchk_elim hf
    refine a_iload_n F dX1_draw_98 rfl 1 rfl ?_
    refine a_aload_n F dX1_draw_99 rfl 0 rfl ?_
    refine a_getI F (j := 7) (tG hg) rfl rfl (by decide) inW1 w_73 dX1_draw_100 ?_
    refine a_callVIr F lk_RX1_81 (tO ho_15) rfl (c_X4_isBefore ho_15) rfl rfl ⟨rfl, rfl⟩ ⟨Nat.le_of_ble_eq_true rfl, Nat.le_of_ble_eq_true rfl⟩ rfl (Nat.le_of_ble_eq_true rfl) dX1_draw_103 hf (fun r_16 hf => ?_)
    refine a_if_eq F hf (tgt := 114) dX1_draw_106 (by decide) (fun hf => ?_) (fun hf => ?_)
    · refine a_iinc F hf dX1_draw_114 1 rfl (by decide) (fun x3_17 hf => ⟨[(3, iv x3_17), (0, .ref (ad g))], rfl, ?_⟩)
      refine a_goto F (tgt := 83) dX1_draw_117 (by decide) ?_
      cases hf
      exact a_sub [1, 0] rfl (hn _ _ rfl)
    · refine a_aload_n F dX1_draw_109 rfl 0 rfl ?_
      refine a_iload_n F dX1_draw_110 rfl 1 rfl ?_
      refine a_putI F (j := 7) (tG hg) rfl rfl (by decide) inW1 w_73 tyX1 tyX1_ok nmX1 rfl rfl hf dX1_draw_111 (fun σ_18 hf => ?_)
      refine a_iinc F hf dX1_draw_114 1 rfl (by decide) (fun x3_19 hf => ⟨[(3, iv x3_19), (0, .ref (ad g))], rfl, ?_⟩)
      refine a_goto F (tgt := 83) dX1_draw_117 (by decide) ?_
      cases hf
      exact a_sub [1, 0] rfl (hn _ _ rfl)
  · cases hf
    exact a_sub [] rfl (hx0 _ rfl)
set_option maxRecDepth 100000 in
set_option maxHeartbeats 4000000 in
theorem k_X1_draw_b0 {l : Launch} {ad : Nat → Nat} {X : Cx} (F : Ok vwCl WS NWs TC cX1_draw 5 yX1_draw.cls none ad l X) {g : Nat} (hg : isG g) {σ : St} {x1 x2 : Int} {y : St} (hf : f_X1_draw_b0 σ g x1 x2 = some y) (hr : RetV vwCl TC cX1_draw 5 rm_X1_draw ad X y) : At vwCl TC 5 rm_X1_draw ad X σ [(0, .ref (ad g)), (1, iv x1), (2, iv x2)] [] 0 := by
  unfold f_X1_draw_b0 at hf
  refine a_aload_n F dX1_draw_0 rfl 0 rfl ?_
  refine a_getV F (j := 4) (tG hg) rfl rfl (by decide) inW1 w_25 dX1_draw_1 ?_
  refine a_topR hf (fun o_1 hf => ?_)
  obtain ⟨ho_1, hf⟩ := jchk_elim hf
  refine a_iconst F dX1_draw_4 ?_
  refine a_putI F (j := 0) (tO ho_1) rfl rfl (by decide) inW4 w_45 tyX4 tyX4_ok nmX4 rfl rfl hf dX1_draw_5 (fun σ_2 hf => ?_)
  refine a_aload_n F dX1_draw_8 rfl 0 rfl ?_
  refine a_iconst F dX1_draw_9 ?_
  refine a_putI F (j := 7) (tG hg) rfl rfl (by decide) inW1 w_73 tyX1 tyX1_ok nmX1 rfl rfl hf dX1_draw_10 (fun σ_3 hf => ?_)
  refine a_aload_n F dX1_draw_13 rfl 0 rfl ?_
  refine a_getR F (j := 0) (tG hg) rfl rfl (by decide) inW1 w_17 dX1_draw_14 ?_
  refine a_iload_n F dX1_draw_17 rfl 1 rfl ?_
  refine a_callVIr F lk_RX1_62 tC_1 rfl c_X9_isCounted rfl rfl ⟨rfl, rfl⟩ ⟨Nat.le_of_ble_eq_true rfl, Nat.le_of_ble_eq_true rfl⟩ rfl (Nat.le_of_ble_eq_true rfl) dX1_draw_18 hf (fun r_4 hf => ?_)
  refine a_if_ne F hf (tgt := 25) dX1_draw_21 (by decide) (fun hf => ?_) (fun hf => ?_)
  · cases hf
    exact hr _ _ dX1_draw_24
  · refine a_aload_n F dX1_draw_25 rfl 0 rfl ?_
    refine a_callVV F lk_RX1_66 (tG hg) rfl (c_X1_beginWithMap hg) rfl rfl ⟨rfl, rfl⟩ ⟨Nat.le_of_ble_eq_true rfl, Nat.le_of_ble_eq_true rfl⟩ rfl (Nat.le_of_ble_eq_true rfl) dX1_draw_26 hf (fun σ_5 hf => ?_)
    refine a_iconst F dX1_draw_29 ?_
    refine a_topI hf (fun x3_6 hf => ?_)
    refine a_istore_n F (lv' := [(3, iv x3_6), (0, .ref (ad g)), (1, iv x1), (2, iv x2)]) dX1_draw_30 rfl (by decide) rfl ?_
    obtain ⟨q0, he, hf⟩ := jbind_elim hf
    refine a_sub [1, 2, 3, 0] rfl (loop_rule (P := (fun q => ∀ τ z3, (τ, z3) = q → At vwCl TC 5 rm_X1_draw ad X τ [(0, .ref (ad g)), (1, iv x1), (2, iv x2), (3, iv z3)] [] 31)) (K := (fun q => (∀ τ, τ = q → At vwCl TC 5 rm_X1_draw ad X τ [(0, .ref (ad g))] [] 81))) ?_ 1000 _ _ he ?_ _ _ rfl)
    · intro q y hy hn hx τ z3 e
      subst e
      exact k_X1_draw_b31 F hg hy (fun τ z3 e => hn _ e _ _ rfl) (fun τ e => (hx _ e) _ rfl)
    · intro σ_12 e
      subst e
      refine a_iconst F dX1_draw_81 ?_
      refine a_topI hf (fun x3_13 hf => ?_)
      refine a_istore_n F (lv' := [(3, iv x3_13), (0, .ref (ad g))]) dX1_draw_82 rfl (by decide) rfl ?_
      obtain ⟨q0, he, hf⟩ := jbind_elim hf
      refine a_sub [1, 0] rfl (loop_rule (P := (fun q => ∀ τ z3, (τ, z3) = q → At vwCl TC 5 rm_X1_draw ad X τ [(0, .ref (ad g)), (3, iv z3)] [] 83)) (K := (fun q => (∀ τ, τ = q → At vwCl TC 5 rm_X1_draw ad X τ [] [] 120))) ?_ 1000 _ _ he ?_ _ _ rfl)
      · intro q y hy hn hx τ z3 e
        subst e
        exact k_X1_draw_b83 F hg hy (fun τ z3 e => hn _ e _ _ rfl) (fun τ e => (hx _ e) _ rfl)
      · intro σ_20 e
        subst e
        cases hf
        exact hr _ _ dX1_draw_120
set_option maxRecDepth 100000 in
set_option maxHeartbeats 4000000 in
theorem c_X1_draw {l : Launch}  {g : Nat} (hg : isG g) {σ : St} {x1 x2 : Int} : CtrV vwCl WS NWs TC l yX1_draw cX1_draw 5 none rm_X1_draw (fun ad => [.ref (ad g), iv x1, iv x2]) σ (f_X1_draw σ g x1 x2) := by
  refine ctrV_of (by decide +kernel) (fun ad => Nat.le_of_ble_eq_true rfl) (fun σ' ad X hf F K => ?_)
  exact k_X1_draw_b0 F hg hf K
abbrev rm_X1_size : Room := { frames := 0, cells := 0, slots := 0, locals := 0 }
set_option maxRecDepth 100000 in
set_option maxHeartbeats 4000000 in
theorem k_X1_size_b0 {l : Launch} {ad : Nat → Nat} {X : Cx} (F : Ok vwCl WS NWs TC cX1_size 1 yX1_size.cls (some .int) ad l X) {g : Nat} (hg : isG g) {σ : St} {y : Int} (hf : f_X1_size_b0 σ g = some y) (hr : RetI vwCl TC cX1_size 1 rm_X1_size ad X y σ) : At vwCl TC 1 rm_X1_size ad X σ [(0, .ref (ad g))] [] 0 := by
  unfold f_X1_size_b0 at hf
  refine a_aload_n F dX1_size_0 rfl 0 rfl ?_
  refine a_getV F (j := 4) (tG hg) rfl rfl (by decide) inW1 w_25 dX1_size_1 ?_
  refine a_topR hf (fun o_1 hf => ?_)
  obtain ⟨ho_1, hf⟩ := jchk_elim hf
  refine a_getI F (j := 0) (tO ho_1) rfl rfl (by decide) inW4 w_45 dX1_size_4 ?_
  cases hf
  exact hr _ _ dX1_size_7
set_option maxRecDepth 100000 in
set_option maxHeartbeats 4000000 in
theorem c_X1_size {l : Launch}  {g : Nat} (hg : isG g) {σ : St} : CtrI vwCl WS NWs TC l yX1_size cX1_size 1 (some .int) rm_X1_size (fun ad => [.ref (ad g)]) σ (rd (f_X1_size σ g) σ) := by
  refine ctrI_of (by decide +kernel) (fun ad => Nat.le_of_ble_eq_true rfl) (fun v σ' ad X hf F K => ?_)
  obtain ⟨hf2, e2⟩ := rd_elim hf
  subst e2
  exact k_X1_size_b0 F hg hf2 K
abbrev rm_X1_outline : Room := { frames := 0, cells := 0, slots := 0, locals := 0 }
set_option maxRecDepth 100000 in
set_option maxHeartbeats 4000000 in
theorem k_X1_outline_b0 {l : Launch} {ad : Nat → Nat} {X : Cx} (F : Ok vwCl WS NWs TC cX1_outline 1 yX1_outline.cls (some (.object "WellMap$Outline")) ad l X) {g : Nat} (hg : isG g) {σ : St} {y : Nat} (hf : f_X1_outline_b0 σ g = some y) (hr : RetR vwCl TC cX1_outline 1 rm_X1_outline ad X y σ) : At vwCl TC 1 rm_X1_outline ad X σ [(0, .ref (ad g))] [] 0 := by
  unfold f_X1_outline_b0 at hf
  refine a_aload_n F dX1_outline_0 rfl 0 rfl ?_
  refine a_getV F (j := 4) (tG hg) rfl rfl (by decide) inW1 w_25 dX1_outline_1 ?_
  refine a_topR hf (fun o_1 hf => ?_)
  obtain ⟨ho_1, hf⟩ := jchk_elim hf
  cases hf
  exact hr _ _ dX1_outline_4
set_option maxRecDepth 100000 in
set_option maxHeartbeats 4000000 in
theorem c_X1_outline {l : Launch}  {g : Nat} (hg : isG g) {σ : St} : CtrR vwCl WS NWs TC l yX1_outline cX1_outline 1 (some (.object "WellMap$Outline")) rm_X1_outline (fun ad => [.ref (ad g)]) σ (rd (f_X1_outline σ g) σ) := by
  refine ctrR_of (by decide +kernel) (fun ad => Nat.le_of_ble_eq_true rfl) (fun v σ' ad X hf F K => ?_)
  obtain ⟨hf2, e2⟩ := rd_elim hf
  subst e2
  exact k_X1_outline_b0 F hg hf2 K
abbrev rm_X10_compareFractions : Room := { frames := 1, cells := 0, slots := 0, locals := 23 }
set_option maxRecDepth 100000 in
set_option maxHeartbeats 4000000 in
theorem k_X10_compareFractions_b6 {l : Launch} {ad : Nat → Nat} {X : Cx} (F : Ok vwCl WS NWs TC cX10_compareFractions 17 yX10_compareFractions.cls (some .int) ad l X) {σ : St} {x0 x2 x4 x6 x8 x9 : Int} {y : ((Int × Int × Int × Int × Int × Int) ⊕ ((Int × Int) ⊕ (Int × Int × Int) ⊕ Unit))} (hf : f_X10_compareFractions_b6 x0 x2 x4 x6 x8 x9 = some y) (hn : ∀ z0 z2 z4 z6 z8 z9, y = .inl (z0, z2, z4, z6, z8, z9) → At vwCl TC 17 rm_X10_compareFractions ad X σ [(0, jv z0), (2, jv z2), (4, jv z4), (6, jv z6), (8, iv z8), (9, iv z9)] [] 6) (hx0 : ∀ z8 z12, y = .inr (.inl (z8, z12)) → At vwCl TC 17 rm_X10_compareFractions ad X σ [(8, iv z8), (12, iv z12)] [] 49) (hx1 : ∀ z8 z13 z15, y = .inr (.inr (.inl (z8, z13, z15))) → At vwCl TC 17 rm_X10_compareFractions ad X σ [(8, iv z8), (13, jv z13), (15, jv z15)] [] 81) (hx2 : y = .inr (.inr (.inr (()))) → At vwCl TC 17 rm_X10_compareFractions ad X σ [] [] 116) : At vwCl TC 17 rm_X10_compareFractions ad X σ [(0, jv x0), (2, jv x2), (4, jv x4), (6, jv x6), (8, iv x8), (9, iv x9)] [] 6 := by
  unfold f_X10_compareFractions_b6 at hf
  refine a_iload F dX10_compareFractions_6 5 rfl ?_
  refine a_sipush F dX10_compareFractions_8 (by decide +kernel) ?_
  refine a_icmp_ge F hf (tgt := 116) dX10_compareFractions_11 (by decide) (fun hf => ?_) (fun hf => ?_)
  · refine a_lload_n F dX10_compareFractions_14 rfl 1 rfl ?_
    refine a_lconst F (n := 0) dX10_compareFractions_15 (by decide +kernel) ?_
    refine a_lcmp_eq F hf (tgt := 116) dX10_compareFractions_16 dX10_compareFractions_17 (by decide) (fun hf => ?_) (fun hf => ?_)
    · cases hf
      exact a_sub [] rfl (hx2  rfl)
    · refine a_lload F dX10_compareFractions_20 3 rfl ?_
      refine a_lconst F (n := 0) dX10_compareFractions_22 (by decide +kernel) ?_
      refine a_lcmp_eq F hf (tgt := 116) dX10_compareFractions_23 dX10_compareFractions_24 (by decide) (fun hf => ?_) (fun hf => ?_)
      · cases hf
        exact a_sub [] rfl (hx2  rfl)
      · refine a_lload_n F dX10_compareFractions_27 rfl 0 rfl ?_
        refine a_lload_n F dX10_compareFractions_28 rfl 1 rfl ?_
        refine a_ldiv F hf dX10_compareFractions_29 (fun hf => ?_)
        refine a_topJ hf (fun x10_3 hf => ?_)
        refine a_lstore F (lv' := [(10, jv x10_3), (0, jv x0), (2, jv x2), (4, jv x4), (6, jv x6), (8, iv x8), (9, iv x9)]) dX10_compareFractions_30 (by decide) rfl ?_
        refine a_lload F dX10_compareFractions_32 0 rfl ?_
        refine a_lload F dX10_compareFractions_34 3 rfl ?_
        refine a_lload F dX10_compareFractions_36 4 rfl ?_
        refine a_ldiv F hf dX10_compareFractions_38 (fun hf => ?_)
        refine a_callSIr F lk_RX10_272 c_J13_compare_74951 rfl rfl ⟨rfl, rfl⟩ ⟨Nat.le_of_ble_eq_true rfl, Nat.le_of_ble_eq_true rfl⟩ rfl (Nat.le_of_ble_eq_true rfl) dX10_compareFractions_39 hf (fun r_4 hf => ?_)
        refine a_topI hf (fun x12_5 hf => ?_)
        refine a_istore F (lv' := [(12, iv x12_5), (10, jv x10_3), (0, jv x0), (2, jv x2), (4, jv x4), (6, jv x6), (8, iv x8), (9, iv x9)]) dX10_compareFractions_42 (by decide) rfl ?_
        refine a_iload F dX10_compareFractions_44 0 rfl ?_
        refine a_if_eq F hf (tgt := 55) dX10_compareFractions_46 (by decide) (fun hf => ?_) (fun hf => ?_)
        · refine a_lload_n F dX10_compareFractions_55 rfl 2 rfl ?_
          refine a_lload_n F dX10_compareFractions_56 rfl 3 rfl ?_
          refine a_lrem F hf dX10_compareFractions_57 (fun hf => ?_)
          refine a_topJ hf (fun x13_6 hf => ?_)
          refine a_lstore F (lv' := [(13, jv x13_6), (12, iv x12_5), (10, jv x10_3), (0, jv x0), (2, jv x2), (4, jv x4), (6, jv x6), (8, iv x8), (9, iv x9)]) dX10_compareFractions_58 (by decide) rfl ?_
          refine a_lload F dX10_compareFractions_60 5 rfl ?_
          refine a_lload F dX10_compareFractions_62 6 rfl ?_
          refine a_lrem F hf dX10_compareFractions_64 (fun hf => ?_)
          refine a_topJ hf (fun x15_7 hf => ?_)
          refine a_lstore F (lv' := [(15, jv x15_7), (13, jv x13_6), (12, iv x12_5), (10, jv x10_3), (0, jv x0), (2, jv x2), (4, jv x4), (6, jv x6), (8, iv x8), (9, iv x9)]) dX10_compareFractions_65 (by decide) rfl ?_
          refine a_lload F dX10_compareFractions_67 1 rfl ?_
          refine a_lconst F (n := 0) dX10_compareFractions_69 (by decide +kernel) ?_
          refine a_lcmp_eq F hf (tgt := 81) dX10_compareFractions_70 dX10_compareFractions_71 (by decide) (fun hf => ?_) (fun hf => ?_)
          · cases hf
            exact a_sub [8, 1, 0] rfl (hx1 _ _ _ rfl)
          · refine a_lload F dX10_compareFractions_74 0 rfl ?_
            refine a_lconst F (n := 0) dX10_compareFractions_76 (by decide +kernel) ?_
            refine a_lcmp_ne F hf (tgt := 92) dX10_compareFractions_77 dX10_compareFractions_78 (by decide) (fun hf => ?_) (fun hf => ?_)
            · cases hf
              exact a_sub [8, 1, 0] rfl (hx1 _ _ _ rfl)
            · refine a_lload_n F dX10_compareFractions_92 rfl 5 rfl ?_
              refine a_topJ hf (fun x0_8 hf => ?_)
              refine a_lstore_n F (lv' := [(0, jv x0_8), (15, jv x15_7), (13, jv x13_6), (12, iv x12_5), (10, jv x10_3), (2, jv x2), (4, jv x4), (6, jv x6), (8, iv x8), (9, iv x9)]) dX10_compareFractions_93 rfl (by decide) rfl ?_
              refine a_lload F dX10_compareFractions_94 2 rfl ?_
              refine a_topJ hf (fun x2_9 hf => ?_)
              refine a_lstore_n F (lv' := [(2, jv x2_9), (0, jv x0_8), (15, jv x15_7), (13, jv x13_6), (12, iv x12_5), (10, jv x10_3), (4, jv x4), (6, jv x6), (8, iv x8), (9, iv x9)]) dX10_compareFractions_96 rfl (by decide) rfl ?_
              refine a_lload F dX10_compareFractions_97 7 rfl ?_
              refine a_topJ hf (fun x4_10 hf => ?_)
              refine a_lstore F (lv' := [(4, jv x4_10), (2, jv x2_9), (0, jv x0_8), (15, jv x15_7), (13, jv x13_6), (12, iv x12_5), (10, jv x10_3), (6, jv x6), (8, iv x8), (9, iv x9)]) dX10_compareFractions_99 (by decide) rfl ?_
              refine a_lload F dX10_compareFractions_101 3 rfl ?_
              refine a_topJ hf (fun x6_11 hf => ?_)
              refine a_lstore F (lv' := [(6, jv x6_11), (4, jv x4_10), (2, jv x2_9), (0, jv x0_8), (15, jv x15_7), (13, jv x13_6), (12, iv x12_5), (10, jv x10_3), (8, iv x8), (9, iv x9)]) dX10_compareFractions_103 (by decide) rfl ?_
              refine a_iload F dX10_compareFractions_105 8 rfl ?_
              refine a_ineg F dX10_compareFractions_107 ?_
              refine a_topI hf (fun x8_12 hf => ?_)
              refine a_istore F (lv' := [(8, iv x8_12), (6, jv x6_11), (4, jv x4_10), (2, jv x2_9), (0, jv x0_8), (15, jv x15_7), (13, jv x13_6), (12, iv x12_5), (10, jv x10_3), (9, iv x9)]) dX10_compareFractions_108 (by decide) rfl ?_
              refine a_iinc F hf dX10_compareFractions_110 9 rfl (by decide) (fun x9_13 hf => ⟨[(9, iv x9_13), (8, iv x8_12), (6, jv x6_11), (4, jv x4_10), (2, jv x2_9), (0, jv x0_8), (15, jv x15_7), (13, jv x13_6), (12, iv x12_5), (10, jv x10_3)], rfl, ?_⟩)
              refine a_goto F (tgt := 6) dX10_compareFractions_113 (by decide) ?_
              cases hf
              exact a_sub [5, 4, 3, 2, 1, 0] rfl (hn _ _ _ _ _ _ rfl)
        · cases hf
          exact a_sub [6, 0] rfl (hx0 _ _ rfl)
  · cases hf
    exact a_sub [] rfl (hx2  rfl)
set_option maxRecDepth 100000 in
set_option maxHeartbeats 4000000 in
theorem k_X10_compareFractions_b0 {l : Launch} {ad : Nat → Nat} {X : Cx} (F : Ok vwCl WS NWs TC cX10_compareFractions 17 yX10_compareFractions.cls (some .int) ad l X) {σ : St} {x0 x2 x4 x6 : Int} {y : Int} (hf : f_X10_compareFractions_b0 x0 x2 x4 x6 = some y) (hr : RetI vwCl TC cX10_compareFractions 17 rm_X10_compareFractions ad X y σ) : At vwCl TC 17 rm_X10_compareFractions ad X σ [(0, jv x0), (2, jv x2), (4, jv x4), (6, jv x6)] [] 0 := by
  unfold f_X10_compareFractions_b0 at hf
  refine a_iconst F dX10_compareFractions_0 ?_
  refine a_topI hf (fun x8_1 hf => ?_)
  refine a_istore F (lv' := [(8, iv x8_1), (0, jv x0), (2, jv x2), (4, jv x4), (6, jv x6)]) dX10_compareFractions_1 (by decide) rfl ?_
  refine a_iconst F dX10_compareFractions_3 ?_
  refine a_topI hf (fun x9_2 hf => ?_)
  refine a_istore F (lv' := [(9, iv x9_2), (8, iv x8_1), (0, jv x0), (2, jv x2), (4, jv x4), (6, jv x6)]) dX10_compareFractions_4 (by decide) rfl ?_
  obtain ⟨q0, he, hf⟩ := jbind_elim hf
  refine a_sub [2, 3, 4, 5, 1, 0] rfl (loop_rule (P := (fun q => ∀ z0 z2 z4 z6 z8 z9, (z0, z2, z4, z6, z8, z9) = q → At vwCl TC 17 rm_X10_compareFractions ad X σ [(0, jv z0), (2, jv z2), (4, jv z4), (6, jv z6), (8, iv z8), (9, iv z9)] [] 6)) (K := (fun q => (∀ z8 z12, .inl (z8, z12) = q → At vwCl TC 17 rm_X10_compareFractions ad X σ [(8, iv z8), (12, iv z12)] [] 49) ∧ (∀ z8 z13 z15, .inr (.inl (z8, z13, z15)) = q → At vwCl TC 17 rm_X10_compareFractions ad X σ [(8, iv z8), (13, jv z13), (15, jv z15)] [] 81) ∧ (.inr (.inr (())) = q → At vwCl TC 17 rm_X10_compareFractions ad X σ [] [] 116))) ?_ 1000 _ _ he ?_ _ _ _ _ _ _ rfl)
  · intro q y hy hn hx z0 z2 z4 z6 z8 z9 e
    subst e
    exact k_X10_compareFractions_b6 F hy (fun z0 z2 z4 z6 z8 z9 e => hn _ e _ _ _ _ _ _ rfl) (fun z8 z12 e => (hx _ e).1 _ _ rfl) (fun z8 z13 z15 e => (hx _ e).2.1 _ _ _ rfl) (fun  e => (hx _ e).2.2  rfl)
  · refine ⟨?_, ?_, ?_⟩
    · intro x8_14 x12_15 e
      subst e
      refine a_iload F dX10_compareFractions_49 0 rfl ?_
      refine a_iload F dX10_compareFractions_51 1 rfl ?_
      refine a_imul F dX10_compareFractions_53 ?_
      cases hf
      exact hr _ _ dX10_compareFractions_54
    · intro x8_16 x13_17 x15_18 e
      subst e
      refine a_iload F dX10_compareFractions_81 0 rfl ?_
      refine a_lload F dX10_compareFractions_83 1 rfl ?_
      refine a_lload F dX10_compareFractions_85 2 rfl ?_
      refine a_callSIr F lk_RX10_272 c_J13_compare_74951 rfl rfl ⟨rfl, rfl⟩ ⟨Nat.le_of_ble_eq_true rfl, Nat.le_of_ble_eq_true rfl⟩ rfl (Nat.le_of_ble_eq_true rfl) dX10_compareFractions_87 hf (fun r_19 hf => ?_)
      refine a_imul F dX10_compareFractions_90 ?_
      cases hf
      exact hr _ _ dX10_compareFractions_91
    · intro  e
      subst e
      refine a_iconst F dX10_compareFractions_116 ?_
      cases hf
      exact hr _ _ dX10_compareFractions_117
set_option maxRecDepth 100000 in
set_option maxHeartbeats 4000000 in
theorem c_X10_compareFractions {l : Launch}  {σ : St} {x0 x2 x4 x6 : Int} : CtrI vwCl WS NWs TC l yX10_compareFractions cX10_compareFractions 17 (some .int) rm_X10_compareFractions (fun ad => [jv x0, jv x2, jv x4, jv x6]) σ (rd (f_X10_compareFractions x0 x2 x4 x6) σ) := by
  refine ctrI_of (by decide +kernel) (fun ad => Nat.le_of_ble_eq_true rfl) (fun v σ' ad X hf F K => ?_)
  obtain ⟨hf2, e2⟩ := rd_elim hf
  subst e2
  exact k_X10_compareFractions_b0 F hf2 K
abbrev rm_X0_isBeforeBest : Room := { frames := 2, cells := 0, slots := 0, locals := 50 }
set_option maxRecDepth 100000 in
set_option maxHeartbeats 4000000 in
theorem k_X0_isBeforeBest_b0 {l : Launch} {ad : Nat → Nat} {X : Cx} (F : Ok vwCl WS NWs TC cX0_isBeforeBest 3 yX0_isBeforeBest.cls (some .boolean) ad l X) {o1 : Nat} (ho1 : isO o1) {σ : St} {x2 : Int} {y : (Int × St)} (hf : f_X0_isBeforeBest_b0 σ o1 x2 = some y) (hr : ∀ v τ, y = (v, τ) → RetI vwCl TC cX0_isBeforeBest 3 rm_X0_isBeforeBest ad X v τ) : At vwCl TC 3 rm_X0_isBeforeBest ad X σ [(0, .ref (ad 41)), (1, .ref (ad o1)), (2, iv x2)] [] 0 := by
  unfold f_X0_isBeforeBest_b0 at hf
  refine a_aload_n F dX0_isBeforeBest_0 rfl 0 rfl ?_
  refine a_getR F (j := 4) tC_41 rfl rfl (by decide) inW0 w_100 dX0_isBeforeBest_1 ?_
  refine a_iconst F dX0_isBeforeBest_4 ?_
  refine a_putI F (j := 0) tC_57 rfl rfl (by decide) inW4 w_101 tyX4 tyX4_ok nmX4 rfl rfl hf dX0_isBeforeBest_5 (fun σ_1 hf => ?_)
  refine a_aload_n F dX0_isBeforeBest_8 rfl 0 rfl ?_
  refine a_getR F (j := 4) tC_41 rfl rfl (by decide) inW0 w_100 dX0_isBeforeBest_9 ?_
  refine a_aload_n F dX0_isBeforeBest_12 rfl 1 rfl ?_
  refine a_iload_n F dX0_isBeforeBest_13 rfl 2 rfl ?_
  refine a_iconst F dX0_isBeforeBest_14 ?_
  refine a_callVV F lk_RX0_113 tC_57 rfl (c_X4_addFrom (by decide) ho1) rfl rfl ⟨rfl, rfl⟩ ⟨Nat.le_of_ble_eq_true rfl, Nat.le_of_ble_eq_true rfl⟩ rfl (Nat.le_of_ble_eq_true rfl) dX0_isBeforeBest_15 hf (fun σ_2 hf => ?_)
  refine a_aload_n F dX0_isBeforeBest_18 rfl 0 rfl ?_
  refine a_getR F (j := 4) tC_41 rfl rfl (by decide) inW0 w_100 dX0_isBeforeBest_19 ?_
  refine a_iconst F dX0_isBeforeBest_22 ?_
  refine a_iconst F dX0_isBeforeBest_23 ?_
  refine a_callVIr F lk_RX0_116 tC_57 rfl (c_X4_isBefore (by decide)) rfl rfl ⟨rfl, rfl⟩ ⟨Nat.le_of_ble_eq_true rfl, Nat.le_of_ble_eq_true rfl⟩ rfl (Nat.le_of_ble_eq_true rfl) dX0_isBeforeBest_24 hf (fun r_3 hf => ?_)
  cases hf
  exact hr _ _ rfl _ _ dX0_isBeforeBest_27
set_option maxRecDepth 100000 in
set_option maxHeartbeats 4000000 in
theorem c_X0_isBeforeBest {l : Launch}  {o1 : Nat} (ho1 : isO o1) {σ : St} {x2 : Int} : CtrI vwCl WS NWs TC l yX0_isBeforeBest cX0_isBeforeBest 3 (some .boolean) rm_X0_isBeforeBest (fun ad => [.ref (ad 41), .ref (ad o1), iv x2]) σ (f_X0_isBeforeBest σ o1 x2) := by
  refine ctrZ_of (fun v σ' h => jzw_z h) (by decide +kernel) (fun ad => Nat.le_of_ble_eq_true rfl) (fun v σ' ad X hf F K => ?_)
  exact k_X0_isBeforeBest_b0 F ho1 (jzw_e hf) (fun v τ e => by cases e; exact K)
abbrev rm_X0_lookAt : Room := { frames := 3, cells := 0, slots := 0, locals := 72 }
set_option maxRecDepth 100000 in
set_option maxHeartbeats 4000000 in
theorem k_X0_lookAt_b127 {l : Launch} {ad : Nat → Nat} {X : Cx} (F : Ok vwCl WS NWs TC cX0_lookAt 15 yX0_lookAt.cls none ad l X) {o1 : Nat} (ho1 : isO o1) {σ : St} {x2 x10 x12 : Int} {y : St} (hf : f_X0_lookAt_b127 σ o1 x2 x10 x12 = some y) (hr : RetV vwCl TC cX0_lookAt 15 rm_X0_lookAt ad X y) : At vwCl TC 15 rm_X0_lookAt ad X σ [(0, .ref (ad 41)), (1, .ref (ad o1)), (2, iv x2), (10, jv x10), (12, jv x12)] [] 127 := by
  unfold f_X0_lookAt_b127 at hf
  refine a_aload_n F dX0_lookAt_127 rfl 0 rfl ?_
  refine a_iconst F dX0_lookAt_128 ?_
  refine a_putZ F (j := 3) tC_41 rfl rfl (by decide) inW0 w_111 tyX0 tyX0_ok nmX0 rfl rfl hf dX0_lookAt_129 (fun σ_7 hf => ?_)
  refine a_aload_n F dX0_lookAt_132 rfl 0 rfl ?_
  refine a_getR F (j := 4) tC_41 rfl rfl (by decide) inW0 w_100 dX0_lookAt_133 ?_
  refine a_iconst F dX0_lookAt_136 ?_
  refine a_putI F (j := 0) tC_57 rfl rfl (by decide) inW4 w_101 tyX4 tyX4_ok nmX4 rfl rfl hf dX0_lookAt_137 (fun σ_8 hf => ?_)
  refine a_aload_n F dX0_lookAt_140 rfl 0 rfl ?_
  refine a_getR F (j := 4) tC_41 rfl rfl (by decide) inW0 w_100 dX0_lookAt_141 ?_
  refine a_aload_n F dX0_lookAt_144 rfl 1 rfl ?_
  refine a_iload_n F dX0_lookAt_145 rfl 2 rfl ?_
  refine a_iconst F dX0_lookAt_146 ?_
  refine a_callVV F lk_RX0_113 tC_57 rfl (c_X4_addFrom (by decide) ho1) rfl rfl ⟨rfl, rfl⟩ ⟨Nat.le_of_ble_eq_true rfl, Nat.le_of_ble_eq_true rfl⟩ rfl (Nat.le_of_ble_eq_true rfl) dX0_lookAt_147 hf (fun σ_9 hf => ?_)
  refine a_aload_n F dX0_lookAt_150 rfl 0 rfl ?_
  refine a_lload F dX0_lookAt_151 3 rfl ?_
  refine a_putJ F (j := 5) tC_41 rfl rfl (by decide) inW0 w_112 tyX0 tyX0_ok nmX0 rfl rfl hf dX0_lookAt_153 (fun σ_10 hf => ?_)
  refine a_aload_n F dX0_lookAt_156 rfl 0 rfl ?_
  refine a_lload F dX0_lookAt_157 4 rfl ?_
  refine a_putJ F (j := 6) tC_41 rfl rfl (by decide) inW0 w_113 tyX0 tyX0_ok nmX0 rfl rfl hf dX0_lookAt_159 (fun σ_11 hf => ?_)
  cases hf
  exact hr _ _ dX0_lookAt_162
set_option maxRecDepth 100000 in
set_option maxHeartbeats 4000000 in
theorem k_X0_lookAt_b106 {l : Launch} {ad : Nat → Nat} {X : Cx} (F : Ok vwCl WS NWs TC cX0_lookAt 15 yX0_lookAt.cls none ad l X) {o1 : Nat} (ho1 : isO o1) {σ : St} {x2 x10 x12 t0 : Int} {y : St} (hf : f_X0_lookAt_b106 σ o1 x2 x10 x12 t0 = some y) (hr : RetV vwCl TC cX0_lookAt 15 rm_X0_lookAt ad X y) : At vwCl TC 15 rm_X0_lookAt ad X σ [(0, .ref (ad 41)), (1, .ref (ad o1)), (2, iv x2), (10, jv x10), (12, jv x12)] [iv t0] 106 := by
  unfold f_X0_lookAt_b106 at hf
  refine a_topI hf (fun x14_6 hf => ?_)
  refine a_istore F (lv' := [(14, iv x14_6), (0, .ref (ad 41)), (1, .ref (ad o1)), (2, iv x2), (10, jv x10), (12, jv x12)]) dX0_lookAt_106 (by decide) rfl ?_
  refine a_iload F dX0_lookAt_108 0 rfl ?_
  refine a_if_gt F hf (tgt := 127) dX0_lookAt_110 (by decide) (fun hf => ?_) (fun hf => ?_)
  · exact a_sub [1, 2, 3, 4, 5] rfl (k_X0_lookAt_b127 F ho1 hf hr)
  · refine a_iload F dX0_lookAt_113 0 rfl ?_
    refine a_if_ne F hf (tgt := 162) dX0_lookAt_115 (by decide) (fun hf => ?_) (fun hf => ?_)
    · refine a_aload_n F dX0_lookAt_118 rfl 1 rfl ?_
      refine a_aload_n F dX0_lookAt_119 rfl 2 rfl ?_
      refine a_iload_n F dX0_lookAt_120 rfl 3 rfl ?_
      refine a_callVI F lk_RX0_108 tC_41 rfl (c_X0_isBeforeBest ho1) rfl rfl ⟨rfl, rfl⟩ ⟨Nat.le_of_ble_eq_true rfl, Nat.le_of_ble_eq_true rfl⟩ rfl (Nat.le_of_ble_eq_true rfl) dX0_lookAt_121 hf (fun r_12 σ_13 hf => ?_)
      refine a_if_eq F hf (tgt := 162) dX0_lookAt_124 (by decide) (fun hf => ?_) (fun hf => ?_)
      · cases hf
        exact hr _ _ dX0_lookAt_162
      · exact a_sub [1, 2, 3, 4, 5] rfl (k_X0_lookAt_b127 F ho1 hf hr)
    · cases hf
      exact hr _ _ dX0_lookAt_162
set_option maxRecDepth 100000 in
set_option maxHeartbeats 4000000 in
theorem k_X0_lookAt_b0 {l : Launch} {ad : Nat → Nat} {X : Cx} (F : Ok vwCl WS NWs TC cX0_lookAt 15 yX0_lookAt.cls none ad l X) {o1 : Nat} (ho1 : isO o1) {σ : St} {x2 x3 : Int} {y : St} (hf : f_X0_lookAt_b0 σ o1 x2 x3 = some y) (hr : RetV vwCl TC cX0_lookAt 15 rm_X0_lookAt ad X y) : At vwCl TC 15 rm_X0_lookAt ad X σ [(0, .ref (ad 41)), (1, .ref (ad o1)), (2, iv x2), (3, iv x3)] [] 0 := by
  unfold f_X0_lookAt_b0 at hf
  refine a_aload_n F dX0_lookAt_0 rfl 1 rfl ?_
  refine a_getR F (j := 3) (tO ho1) rfl rfl (by decide) inW4 w_104 dX0_lookAt_1 ?_
  refine a_iload_n F dX0_lookAt_4 rfl 2 rfl ?_
  refine a_lald F (tO3 ho1) rfl (lnO_lt _) hf dX0_lookAt_5 (fun hf => ?_)
  refine a_topJ hf (fun x4_1 hf => ?_)
  refine a_lstore F (lv' := [(4, jv x4_1), (0, .ref (ad 41)), (1, .ref (ad o1)), (2, iv x2), (3, iv x3)]) dX0_lookAt_6 (by decide) rfl ?_
  refine a_aload_n F dX0_lookAt_8 rfl 2 rfl ?_
  refine a_getR F (j := 1) (tO ho1) rfl rfl (by decide) inW4 w_105 dX0_lookAt_9 ?_
  refine a_iload_n F dX0_lookAt_12 rfl 3 rfl ?_
  refine a_lald F (tO1 ho1) rfl (lnO_lt _) hf dX0_lookAt_13 (fun hf => ?_)
  refine a_iconst F dX0_lookAt_14 ?_
  refine a_aload_n F dX0_lookAt_15 rfl 1 rfl ?_
  refine a_getR F (j := 0) tC_41 rfl rfl (by decide) inW0 w_106 dX0_lookAt_16 ?_
  refine a_getR F (j := 7) tC_1 rfl rfl (by decide) inW9 w_107 dX0_lookAt_19 ?_
  refine a_iload_n F dX0_lookAt_22 rfl 4 rfl ?_
  refine a_iald F tC_3 rfl (by decide) hf dX0_lookAt_23 (fun hf => ?_)
  refine a_imul F dX0_lookAt_24 ?_
  refine a_i2l F hf dX0_lookAt_25 (fun hf => ?_)
  refine a_lload F dX0_lookAt_26 0 rfl ?_
  refine a_lmul F dX0_lookAt_28 ?_
  refine a_lsub F dX0_lookAt_29 ?_
  refine a_topJ hf (fun x6_2 hf => ?_)
  refine a_lstore F (lv' := [(6, jv x6_2), (4, jv x4_1), (0, .ref (ad 41)), (1, .ref (ad o1)), (2, iv x2), (3, iv x3)]) dX0_lookAt_30 (by decide) rfl ?_
  refine a_aload_n F dX0_lookAt_32 rfl 3 rfl ?_
  refine a_getR F (j := 2) (tO ho1) rfl rfl (by decide) inW4 w_108 dX0_lookAt_33 ?_
  refine a_iload_n F dX0_lookAt_36 rfl 4 rfl ?_
  refine a_lald F (tO2 ho1) rfl (lnO_lt _) hf dX0_lookAt_37 (fun hf => ?_)
  refine a_iconst F dX0_lookAt_38 ?_
  refine a_aload_n F dX0_lookAt_39 rfl 2 rfl ?_
  refine a_getR F (j := 0) tC_41 rfl rfl (by decide) inW0 w_106 dX0_lookAt_40 ?_
  refine a_getR F (j := 8) tC_1 rfl rfl (by decide) inW9 w_109 dX0_lookAt_43 ?_
  refine a_iload_n F dX0_lookAt_46 rfl 5 rfl ?_
  refine a_iald F tC_4 rfl (by decide) hf dX0_lookAt_47 (fun hf => ?_)
  refine a_imul F dX0_lookAt_48 ?_
  refine a_i2l F hf dX0_lookAt_49 (fun hf => ?_)
  refine a_lload F dX0_lookAt_50 1 rfl ?_
  refine a_lmul F dX0_lookAt_52 ?_
  refine a_lsub F dX0_lookAt_53 ?_
  refine a_topJ hf (fun x8_3 hf => ?_)
  refine a_lstore F (lv' := [(8, jv x8_3), (6, jv x6_2), (4, jv x4_1), (0, .ref (ad 41)), (1, .ref (ad o1)), (2, iv x2), (3, iv x3)]) dX0_lookAt_54 (by decide) rfl ?_
  refine a_lload F dX0_lookAt_56 1 rfl ?_
  refine a_lload F dX0_lookAt_58 1 rfl ?_
  refine a_lmul F dX0_lookAt_60 ?_
  refine a_lload F dX0_lookAt_61 0 rfl ?_
  refine a_lload F dX0_lookAt_63 0 rfl ?_
  refine a_lmul F dX0_lookAt_65 ?_
  refine a_ladd F dX0_lookAt_66 ?_
  refine a_topJ hf (fun x10_4 hf => ?_)
  refine a_lstore F (lv' := [(10, jv x10_4), (8, jv x8_3), (6, jv x6_2), (4, jv x4_1), (0, .ref (ad 41)), (1, .ref (ad o1)), (2, iv x2), (3, iv x3)]) dX0_lookAt_67 (by decide) rfl ?_
  refine a_ldc2 F (n := 4) (by decide +kernel) w_110 dX0_lookAt_69 ?_
  refine a_lload F dX0_lookAt_72 3 rfl ?_
  refine a_lmul F dX0_lookAt_74 ?_
  refine a_lload F dX0_lookAt_75 3 rfl ?_
  refine a_lmul F dX0_lookAt_77 ?_
  refine a_topJ hf (fun x12_5 hf => ?_)
  refine a_lstore F (lv' := [(12, jv x12_5), (10, jv x10_4), (8, jv x8_3), (6, jv x6_2), (4, jv x4_1), (0, .ref (ad 41)), (1, .ref (ad o1)), (2, iv x2), (3, iv x3)]) dX0_lookAt_78 (by decide) rfl ?_
  refine a_aload_n F dX0_lookAt_80 rfl 5 rfl ?_
  refine a_getI F (j := 3) tC_41 rfl rfl (by decide) inW0 w_111 dX0_lookAt_81 ?_
  refine a_if_eq F hf (tgt := 105) dX0_lookAt_84 (by decide) (fun hf => ?_) (fun hf => ?_)
  · refine a_iconst F dX0_lookAt_105 ?_
    exact a_sub [5, 6, 7, 1, 0] rfl (k_X0_lookAt_b106 F ho1 hf hr)
  · refine a_lload F dX0_lookAt_87 1 rfl ?_
    refine a_lload F dX0_lookAt_89 0 rfl ?_
    refine a_aload_n F dX0_lookAt_91 rfl 5 rfl ?_
    refine a_getJ F (j := 5) tC_41 rfl rfl (by decide) inW0 w_112 dX0_lookAt_92 ?_
    refine a_aload_n F dX0_lookAt_95 rfl 5 rfl ?_
    refine a_getJ F (j := 6) tC_41 rfl rfl (by decide) inW0 w_113 dX0_lookAt_96 ?_
    refine a_callNIr F lk_RX0_104 c_X10_compareFractions rfl rfl ⟨rfl, rfl⟩ ⟨Nat.le_of_ble_eq_true rfl, Nat.le_of_ble_eq_true rfl⟩ rfl (Nat.le_of_ble_eq_true rfl) dX0_lookAt_99 hf (fun r_14 hf => ?_)
    refine a_goto F (tgt := 106) dX0_lookAt_102 (by decide) ?_
    exact a_sub [5, 6, 7, 1, 0] rfl (k_X0_lookAt_b106 F ho1 hf hr)
set_option maxRecDepth 100000 in
set_option maxHeartbeats 4000000 in
theorem c_X0_lookAt {l : Launch}  {o1 : Nat} (ho1 : isO o1) {σ : St} {x2 x3 : Int} : CtrV vwCl WS NWs TC l yX0_lookAt cX0_lookAt 15 none rm_X0_lookAt (fun ad => [.ref (ad 41), .ref (ad o1), iv x2, iv x3]) σ (f_X0_lookAt σ o1 x2 x3) := by
  refine ctrV_of (by decide +kernel) (fun ad => Nat.le_of_ble_eq_true rfl) (fun σ' ad X hf F K => ?_)
  exact k_X0_lookAt_b0 F ho1 hf K
abbrev rm_X0_findOnce : Room := { frames := 5, cells := 0, slots := 0, locals := 127 }
set_option maxRecDepth 100000 in
set_option maxHeartbeats 4000000 in
theorem k_X0_findOnce_b65 {l : Launch} {ad : Nat → Nat} {X : Cx} (F : Ok vwCl WS NWs TC cX0_findOnce 4 yX0_findOnce.cls none ad l X) {σ : St} {x1 x2 x3 : Int} {y : ((St × Int) ⊕ St)} (hf : f_X0_findOnce_b65 σ x1 x2 x3 = some y) (hn : ∀ τ z3, y = .inl (τ, z3) → At vwCl TC 4 rm_X0_findOnce ad X τ [(0, .ref (ad 41)), (1, iv x1), (2, iv x2), (3, iv z3)] [] 65) (hx0 : ∀ τ, y = .inr (τ) → At vwCl TC 4 rm_X0_findOnce ad X τ [(0, .ref (ad 41)), (1, iv x1)] [] 95) : At vwCl TC 4 rm_X0_findOnce ad X σ [(0, .ref (ad 41)), (1, iv x1), (2, iv x2), (3, iv x3)] [] 65 := by
  unfold f_X0_findOnce_b65 at hf
  refine a_iload_n F dX0_findOnce_65 rfl 3 rfl ?_
  refine a_aload_n F dX0_findOnce_66 rfl 0 rfl ?_
  refine a_getR F (j := 1) tC_41 rfl rfl (by decide) inW0 w_126 dX0_findOnce_67 ?_
  refine a_callVIr F lk_RX0_57 tC_42 rfl (c_X1_size (by decide)) rfl rfl ⟨rfl, rfl⟩ ⟨Nat.le_of_ble_eq_true rfl, Nat.le_of_ble_eq_true rfl⟩ rfl (Nat.le_of_ble_eq_true rfl) dX0_findOnce_70 hf (fun r_7 hf => ?_)
  refine a_icmp_ge F hf (tgt := 95) dX0_findOnce_73 (by decide) (fun hf => ?_) (fun hf => ?_)
  · refine a_aload_n F dX0_findOnce_76 rfl 0 rfl ?_
    refine a_aload_n F dX0_findOnce_77 rfl 0 rfl ?_
    refine a_getR F (j := 1) tC_41 rfl rfl (by decide) inW0 w_126 dX0_findOnce_78 ?_
    refine a_callVRr F lk_RX0_61 tC_42 rfl (c_X1_outline (by decide)) rfl rfl ⟨rfl, rfl⟩ ⟨Nat.le_of_ble_eq_true rfl, Nat.le_of_ble_eq_true rfl⟩ rfl (Nat.le_of_ble_eq_true rfl) dX0_findOnce_81 hf (fun o_8 hf => ?_)
    obtain ⟨ho_8, hf⟩ := jchk_elim hf
    refine a_iload_n F dX0_findOnce_84 rfl 3 rfl ?_
    refine a_iload_n F dX0_findOnce_85 rfl 2 rfl ?_
    refine a_callVV F lk_RX0_65 tC_41 rfl (c_X0_lookAt ho_8) rfl rfl ⟨rfl, rfl⟩ ⟨Nat.le_of_ble_eq_true rfl, Nat.le_of_ble_eq_true rfl⟩ rfl (Nat.le_of_ble_eq_true rfl) dX0_findOnce_86 hf (fun σ_9 hf => ?_)
    refine a_iinc F hf dX0_findOnce_89 3 rfl (by decide) (fun x3_10 hf => ⟨[(3, iv x3_10), (0, .ref (ad 41)), (1, iv x1), (2, iv x2)], rfl, ?_⟩)
    refine a_goto F (tgt := 65) dX0_findOnce_92 (by decide) ?_
    cases hf
    exact a_sub [1, 2, 3, 0] rfl (hn _ _ rfl)
  · cases hf
    exact a_sub [0, 1] rfl (hx0 _ rfl)
set_option maxRecDepth 100000 in
set_option maxHeartbeats 4000000 in
theorem k_X0_findOnce_b33 {l : Launch} {ad : Nat → Nat} {X : Cx} (F : Ok vwCl WS NWs TC cX0_findOnce 4 yX0_findOnce.cls none ad l X) {σ : St} {x1 : Int} {y : ((St × Int) ⊕ St)} (hf : f_X0_findOnce_b33 σ x1 = some y) (hn : ∀ τ z1, y = .inl (τ, z1) → At vwCl TC 4 rm_X0_findOnce ad X τ [(0, .ref (ad 41)), (1, iv z1)] [] 33) (hx0 : ∀ τ, y = .inr (τ) → At vwCl TC 4 rm_X0_findOnce ad X τ [] [] 101) : At vwCl TC 4 rm_X0_findOnce ad X σ [(0, .ref (ad 41)), (1, iv x1)] [] 33 := by
  unfold f_X0_findOnce_b33 at hf
  refine a_iload_n F dX0_findOnce_33 rfl 1 rfl ?_
  refine a_aload_n F dX0_findOnce_34 rfl 0 rfl ?_
  refine a_getR F (j := 0) tC_41 rfl rfl (by decide) inW0 w_106 dX0_findOnce_35 ?_
  refine a_getI F (j := 4) tC_1 rfl rfl (by decide) inW9 w_124 dX0_findOnce_38 ?_
  refine a_icmp_ge F hf (tgt := 101) dX0_findOnce_41 (by decide) (fun hf => ?_) (fun hf => ?_)
  · refine a_aload_n F dX0_findOnce_44 rfl 0 rfl ?_
    refine a_getR F (j := 0) tC_41 rfl rfl (by decide) inW0 w_106 dX0_findOnce_45 ?_
    refine a_getR F (j := 5) tC_1 rfl rfl (by decide) inW9 w_125 dX0_findOnce_48 ?_
    refine a_iload_n F dX0_findOnce_51 rfl 1 rfl ?_
    refine a_iald F tC_2 rfl (by decide) hf dX0_findOnce_52 (fun hf => ?_)
    refine a_topI hf (fun x2_4 hf => ?_)
    refine a_istore_n F (lv' := [(2, iv x2_4), (0, .ref (ad 41)), (1, iv x1)]) dX0_findOnce_53 rfl (by decide) rfl ?_
    refine a_aload_n F dX0_findOnce_54 rfl 1 rfl ?_
    refine a_getR F (j := 1) tC_41 rfl rfl (by decide) inW0 w_126 dX0_findOnce_55 ?_
    refine a_iload_n F dX0_findOnce_58 rfl 0 rfl ?_
    refine a_iconst F dX0_findOnce_59 ?_
    refine a_callVV F lk_RX0_53 tC_42 rfl (c_X1_draw (by decide)) rfl rfl ⟨rfl, rfl⟩ ⟨Nat.le_of_ble_eq_true rfl, Nat.le_of_ble_eq_true rfl⟩ rfl (Nat.le_of_ble_eq_true rfl) dX0_findOnce_60 hf (fun σ_5 hf => ?_)
    refine a_iconst F dX0_findOnce_63 ?_
    refine a_topI hf (fun x3_6 hf => ?_)
    refine a_istore_n F (lv' := [(3, iv x3_6), (2, iv x2_4), (0, .ref (ad 41)), (1, iv x1)]) dX0_findOnce_64 rfl (by decide) rfl ?_
    obtain ⟨q0, he, hf⟩ := jbind_elim hf
    refine a_sub [2, 3, 1, 0] rfl (loop_rule (P := (fun q => ∀ τ z3, (τ, z3) = q → At vwCl TC 4 rm_X0_findOnce ad X τ [(0, .ref (ad 41)), (1, iv x1), (2, iv x2_4), (3, iv z3)] [] 65)) (K := (fun q => (∀ τ, τ = q → At vwCl TC 4 rm_X0_findOnce ad X τ [(0, .ref (ad 41)), (1, iv x1)] [] 95))) ?_ 1000 _ _ he ?_ _ _ rfl)
    · intro q y hy hn hx τ z3 e
      subst e
      exact k_X0_findOnce_b65 F hy (fun τ z3 e => hn _ e _ _ rfl) (fun τ e => (hx _ e) _ rfl)
    · intro σ_11 e
      subst e
      refine a_iinc F hf dX0_findOnce_95 1 rfl (by decide) (fun x1_12 hf => ⟨[(1, iv x1_12), (0, .ref (ad 41))], rfl, ?_⟩)
      refine a_goto F (tgt := 33) dX0_findOnce_98 (by decide) ?_
      cases hf
      exact a_sub [1, 0] rfl (hn _ _ rfl)
  · cases hf
    exact a_sub [] rfl (hx0 _ rfl)
set_option maxRecDepth 100000 in
set_option maxHeartbeats 4000000 in
theorem k_X0_findOnce_b0 {l : Launch} {ad : Nat → Nat} {X : Cx} (F : Ok vwCl WS NWs TC cX0_findOnce 4 yX0_findOnce.cls none ad l X) {σ : St} {y : St} (hf : f_X0_findOnce_b0 σ = some y) (hr : RetV vwCl TC cX0_findOnce 4 rm_X0_findOnce ad X y) : At vwCl TC 4 rm_X0_findOnce ad X σ [(0, .ref (ad 41))] [] 0 := by
  unfold f_X0_findOnce_b0 at hf
  refine a_aload_n F dX0_findOnce_0 rfl 0 rfl ?_
  refine a_getI F (j := 2) tC_41 rfl rfl (by decide) inW0 w_122 dX0_findOnce_1 ?_
  refine a_aload_n F dX0_findOnce_4 rfl 0 rfl ?_
  refine a_getR F (j := 0) tC_41 rfl rfl (by decide) inW0 w_106 dX0_findOnce_5 ?_
  refine a_getI F (j := 6) tC_1 rfl rfl (by decide) inW9 w_123 dX0_findOnce_8 ?_
  refine a_icmp_ne F hf (tgt := 15) dX0_findOnce_11 (by decide) (fun hf => ?_) (fun hf => ?_)
  · cases hf
    exact hr _ _ dX0_findOnce_14
  · refine a_aload_n F dX0_findOnce_15 rfl 0 rfl ?_
    refine a_aload_n F dX0_findOnce_16 rfl 0 rfl ?_
    refine a_getR F (j := 0) tC_41 rfl rfl (by decide) inW0 w_106 dX0_findOnce_17 ?_
    refine a_getI F (j := 6) tC_1 rfl rfl (by decide) inW9 w_123 dX0_findOnce_20 ?_
    refine a_putI F (j := 2) tC_41 rfl rfl (by decide) inW0 w_122 tyX0 tyX0_ok nmX0 rfl rfl hf dX0_findOnce_23 (fun σ_1 hf => ?_)
    refine a_aload_n F dX0_findOnce_26 rfl 0 rfl ?_
    refine a_iconst F dX0_findOnce_27 ?_
    refine a_putZ F (j := 3) tC_41 rfl rfl (by decide) inW0 w_111 tyX0 tyX0_ok nmX0 rfl rfl hf dX0_findOnce_28 (fun σ_2 hf => ?_)
    refine a_iconst F dX0_findOnce_31 ?_
    refine a_topI hf (fun x1_3 hf => ?_)
    refine a_istore_n F (lv' := [(1, iv x1_3), (0, .ref (ad 41))]) dX0_findOnce_32 rfl (by decide) rfl ?_
    obtain ⟨q0, he, hf⟩ := jbind_elim hf
    refine a_sub [1, 0] rfl (loop_rule (P := (fun q => ∀ τ z1, (τ, z1) = q → At vwCl TC 4 rm_X0_findOnce ad X τ [(0, .ref (ad 41)), (1, iv z1)] [] 33)) (K := (fun q => (∀ τ, τ = q → At vwCl TC 4 rm_X0_findOnce ad X τ [] [] 101))) ?_ 1000 _ _ he ?_ _ _ rfl)
    · intro q y hy hn hx τ z1 e
      subst e
      exact k_X0_findOnce_b33 F hy (fun τ z1 e => hn _ e _ _ rfl) (fun τ e => (hx _ e) _ rfl)
    · intro σ_13 e
      subst e
      cases hf
      exact hr _ _ dX0_findOnce_101
set_option maxRecDepth 100000 in
set_option maxHeartbeats 4000000 in
theorem c_X0_findOnce {l : Launch}  {σ : St} : CtrV vwCl WS NWs TC l yX0_findOnce cX0_findOnce 4 none rm_X0_findOnce (fun ad => [.ref (ad 41)]) σ (f_X0_findOnce σ) := by
  refine ctrV_of (by decide +kernel) (fun ad => Nat.le_of_ble_eq_true rfl) (fun σ' ad X hf F K => ?_)
  exact k_X0_findOnce_b0 F hf K
abbrev rm_X10_greatestDivisor : Room := { frames := 1, cells := 0, slots := 0, locals := 21 }
set_option maxRecDepth 100000 in
set_option maxHeartbeats 4000000 in
theorem k_X10_greatestDivisor_b15 {l : Launch} {ad : Nat → Nat} {X : Cx} (F : Ok vwCl WS NWs TC cX10_greatestDivisor 11 yX10_greatestDivisor.cls (some .long) ad l X) {σ : St} {x4 x6 x8 : Int} {y : ((Int × Int × Int) ⊕ Int)} (hf : f_X10_greatestDivisor_b15 x4 x6 x8 = some y) (hn : ∀ z4 z6 z8, y = .inl (z4, z6, z8) → At vwCl TC 11 rm_X10_greatestDivisor ad X σ [(4, jv z4), (6, jv z6), (8, iv z8)] [] 15) (hx0 : ∀ z4, y = .inr (z4) → At vwCl TC 11 rm_X10_greatestDivisor ad X σ [(4, jv z4)] [] 51) : At vwCl TC 11 rm_X10_greatestDivisor ad X σ [(4, jv x4), (6, jv x6), (8, iv x8)] [] 15 := by
  unfold f_X10_greatestDivisor_b15 at hf
  refine a_iload F dX10_greatestDivisor_15 2 rfl ?_
  refine a_sipush F dX10_greatestDivisor_17 (by decide +kernel) ?_
  refine a_icmp_ge F hf (tgt := 51) dX10_greatestDivisor_20 (by decide) (fun hf => ?_) (fun hf => ?_)
  · refine a_lload F dX10_greatestDivisor_23 1 rfl ?_
    refine a_lconst F (n := 0) dX10_greatestDivisor_25 (by decide +kernel) ?_
    refine a_lcmp_eq F hf (tgt := 51) dX10_greatestDivisor_26 dX10_greatestDivisor_27 (by decide) (fun hf => ?_) (fun hf => ?_)
    · cases hf
      exact a_sub [0] rfl (hx0 _ rfl)
    · refine a_lload F dX10_greatestDivisor_30 0 rfl ?_
      refine a_lload F dX10_greatestDivisor_32 1 rfl ?_
      refine a_lrem F hf dX10_greatestDivisor_34 (fun hf => ?_)
      refine a_topJ hf (fun x9_4 hf => ?_)
      refine a_lstore F (lv' := [(9, jv x9_4), (4, jv x4), (6, jv x6), (8, iv x8)]) dX10_greatestDivisor_35 (by decide) rfl ?_
      refine a_lload F dX10_greatestDivisor_37 2 rfl ?_
      refine a_topJ hf (fun x4_5 hf => ?_)
      refine a_lstore F (lv' := [(4, jv x4_5), (9, jv x9_4), (6, jv x6), (8, iv x8)]) dX10_greatestDivisor_39 (by decide) rfl ?_
      refine a_lload F dX10_greatestDivisor_41 1 rfl ?_
      refine a_topJ hf (fun x6_6 hf => ?_)
      refine a_lstore F (lv' := [(6, jv x6_6), (4, jv x4_5), (9, jv x9_4), (8, iv x8)]) dX10_greatestDivisor_43 (by decide) rfl ?_
      refine a_iinc F hf dX10_greatestDivisor_45 3 rfl (by decide) (fun x8_7 hf => ⟨[(8, iv x8_7), (6, jv x6_6), (4, jv x4_5), (9, jv x9_4)], rfl, ?_⟩)
      refine a_goto F (tgt := 15) dX10_greatestDivisor_48 (by decide) ?_
      cases hf
      exact a_sub [2, 1, 0] rfl (hn _ _ _ rfl)
  · cases hf
    exact a_sub [0] rfl (hx0 _ rfl)
set_option maxRecDepth 100000 in
set_option maxHeartbeats 4000000 in
theorem k_X10_greatestDivisor_b0 {l : Launch} {ad : Nat → Nat} {X : Cx} (F : Ok vwCl WS NWs TC cX10_greatestDivisor 11 yX10_greatestDivisor.cls (some .long) ad l X) {σ : St} {x0 x2 : Int} {y : Int} (hf : f_X10_greatestDivisor_b0 x0 x2 = some y) (hr : RetL vwCl TC cX10_greatestDivisor 11 rm_X10_greatestDivisor ad X y σ) : At vwCl TC 11 rm_X10_greatestDivisor ad X σ [(0, jv x0), (2, jv x2)] [] 0 := by
  unfold f_X10_greatestDivisor_b0 at hf
  refine a_lload_n F dX10_greatestDivisor_0 rfl 0 rfl ?_
  refine a_mabs_long F w_143 w_144 w_145 w_146 (by decide) (Nat.le_of_ble_eq_true rfl) hf dX10_greatestDivisor_1 (fun hf => ?_)
  refine a_topJ hf (fun x4_1 hf => ?_)
  refine a_lstore F (lv' := [(4, jv x4_1), (0, jv x0), (2, jv x2)]) dX10_greatestDivisor_4 (by decide) rfl ?_
  refine a_lload_n F dX10_greatestDivisor_6 rfl 2 rfl ?_
  refine a_mabs_long F w_143 w_144 w_145 w_146 (by decide) (Nat.le_of_ble_eq_true rfl) hf dX10_greatestDivisor_7 (fun hf => ?_)
  refine a_topJ hf (fun x6_2 hf => ?_)
  refine a_lstore F (lv' := [(6, jv x6_2), (4, jv x4_1), (0, jv x0), (2, jv x2)]) dX10_greatestDivisor_10 (by decide) rfl ?_
  refine a_iconst F dX10_greatestDivisor_12 ?_
  refine a_topI hf (fun x8_3 hf => ?_)
  refine a_istore F (lv' := [(8, iv x8_3), (6, jv x6_2), (4, jv x4_1), (0, jv x0), (2, jv x2)]) dX10_greatestDivisor_13 (by decide) rfl ?_
  obtain ⟨q0, he, hf⟩ := jbind_elim hf
  refine a_sub [2, 1, 0] rfl (loop_rule (P := (fun q => ∀ z4 z6 z8, (z4, z6, z8) = q → At vwCl TC 11 rm_X10_greatestDivisor ad X σ [(4, jv z4), (6, jv z6), (8, iv z8)] [] 15)) (K := (fun q => (∀ z4, z4 = q → At vwCl TC 11 rm_X10_greatestDivisor ad X σ [(4, jv z4)] [] 51))) ?_ 1000 _ _ he ?_ _ _ _ rfl)
  · intro q y hy hn hx z4 z6 z8 e
    subst e
    exact k_X10_greatestDivisor_b15 F hy (fun z4 z6 z8 e => hn _ e _ _ _ rfl) (fun z4 e => (hx _ e) _ rfl)
  · intro x4_8 e
    subst e
    refine a_lload F dX10_greatestDivisor_51 0 rfl ?_
    cases hf
    exact hr _ _ dX10_greatestDivisor_53
set_option maxRecDepth 100000 in
set_option maxHeartbeats 4000000 in
theorem c_X10_greatestDivisor {l : Launch}  {σ : St} {x0 x2 : Int} : CtrL vwCl WS NWs TC l yX10_greatestDivisor cX10_greatestDivisor 11 (some .long) rm_X10_greatestDivisor (fun ad => [jv x0, jv x2]) σ (rd (f_X10_greatestDivisor x0 x2) σ) := by
  refine ctrL_of (by decide +kernel) (fun ad => Nat.le_of_ble_eq_true rfl) (fun v σ' ad X hf F K => ?_)
  obtain ⟨hf2, e2⟩ := rd_elim hf
  subst e2
  exact k_X10_greatestDivisor_b0 F hf2 K
abbrev rm_X10_above : Room := { frames := 2, cells := 0, slots := 0, locals := 51 }
set_option maxRecDepth 100000 in
set_option maxHeartbeats 4000000 in
theorem k_X10_above_b0 {l : Launch} {ad : Nat → Nat} {X : Cx} (F : Ok vwCl WS NWs TC cX10_above 6 yX10_above.cls (some .long) ad l X) {σ : St} {x0 x2 : Int} {y : Int} (hf : f_X10_above_b0 x0 x2 = some y) (hr : RetL vwCl TC cX10_above 6 rm_X10_above ad X y σ) : At vwCl TC 6 rm_X10_above ad X σ [(0, jv x0), (2, jv x2)] [] 0 := by
  unfold f_X10_above_b0 at hf
  refine a_lload_n F dX10_above_0 rfl 0 rfl ?_
  refine a_lload_n F dX10_above_1 rfl 1 rfl ?_
  refine a_callSLr F lk_RX10_262 c_X10_greatestDivisor rfl rfl ⟨rfl, rfl⟩ ⟨Nat.le_of_ble_eq_true rfl, Nat.le_of_ble_eq_true rfl⟩ rfl (Nat.le_of_ble_eq_true rfl) dX10_above_2 hf (fun r_1 hf => ?_)
  refine a_topJ hf (fun x4_2 hf => ?_)
  refine a_lstore F (lv' := [(4, jv x4_2), (0, jv x0), (2, jv x2)]) dX10_above_5 (by decide) rfl ?_
  refine a_lload F dX10_above_7 0 rfl ?_
  refine a_lconst F (n := 0) dX10_above_9 (by decide +kernel) ?_
  refine a_lcmp_ne F hf (tgt := 18) dX10_above_10 dX10_above_11 (by decide) (fun hf => ?_) (fun hf => ?_)
  · refine a_lload_n F dX10_above_14 rfl 1 rfl ?_
    refine a_goto F (tgt := 22) dX10_above_15 (by decide) ?_
    cases hf
    exact hr _ _ dX10_above_22
  · refine a_lload_n F dX10_above_18 rfl 1 rfl ?_
    refine a_lload F dX10_above_19 0 rfl ?_
    refine a_ldiv F hf dX10_above_21 (fun hf => ?_)
    cases hf
    exact hr _ _ dX10_above_22
set_option maxRecDepth 100000 in
set_option maxHeartbeats 4000000 in
theorem c_X10_above {l : Launch}  {σ : St} {x0 x2 : Int} : CtrL vwCl WS NWs TC l yX10_above cX10_above 6 (some .long) rm_X10_above (fun ad => [jv x0, jv x2]) σ (rd (f_X10_above x0 x2) σ) := by
  refine ctrL_of (by decide +kernel) (fun ad => Nat.le_of_ble_eq_true rfl) (fun v σ' ad X hf F K => ?_)
  obtain ⟨hf2, e2⟩ := rd_elim hf
  subst e2
  exact k_X10_above_b0 F hf2 K
