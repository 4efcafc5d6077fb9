abbrev rm_X11_next : Room := { frames := 2, cells := 0, slots := 0, locals := 49 }
set_option maxRecDepth 100000 in
set_option maxHeartbeats 4000000 in
theorem k_X11_next_b45 {l : Launch} {ad : Nat → Nat} {X : Cx} (F : Ok vwCl WS NWs TM cX11_next 10 yX11_next.cls (some .int) ad l X) {σ : St} {x1 x2 x3 x4 x5 x6 x7 : Int} {y : ((Int × Int) ⊕ Int)} (hf : f_X11_next_b45 σ x1 x2 x3 x4 x5 x6 x7 = some y) (hn : ∀ z6 z7, y = .inl (z6, z7) → At vwCl TM 10 rm_X11_next ad X σ [(0, .ref (ad 0)), (1, iv x1), (2, iv x2), (3, iv x3), (4, iv x4), (5, iv x5), (6, iv z6), (7, iv z7)] [] 45) (hx0 : ∀ z6, y = .inr (z6) → At vwCl TM 10 rm_X11_next ad X σ [(0, .ref (ad 0)), (1, iv x1), (2, iv x2), (3, iv x3), (4, iv x4), (5, iv x5), (6, iv z6)] [] 122) : At vwCl TM 10 rm_X11_next ad X σ [(0, .ref (ad 0)), (1, iv x1), (2, iv x2), (3, iv x3), (4, iv x4), (5, iv x5), (6, iv x6), (7, iv x7)] [] 45 := by
  unfold f_X11_next_b45 at hf
  refine a_iload F dX11_next_45 7 rfl ?_
  refine a_bipush F dX11_next_47 (by decide +kernel) ?_
  refine a_icmp_ge F hf (tgt := 122) dX11_next_49 (by decide) (fun hf => ?_) (fun hf => ?_)
  · refine a_iload F dX11_next_52 7 rfl ?_
    refine a_iload F dX11_next_54 5 rfl ?_
    refine a_icmp_eq F hf (tgt := 116) dX11_next_56 (by decide) (fun hf => ?_) (fun hf => ?_)
    · refine a_iinc F hf dX11_next_116 7 rfl (by decide) (fun x7_6 hf => ⟨[(7, iv x7_6), (0, .ref (ad 0)), (1, iv x1), (2, iv x2), (3, iv x3), (4, iv x4), (5, iv x5), (6, iv x6)], rfl, ?_⟩)
      refine a_goto F (tgt := 45) dX11_next_119 (by decide) ?_
      cases hf
      exact a_sub [1, 2, 3, 4, 5, 6, 7, 0] rfl (hn _ _ rfl)
    · refine a_aload_n F dX11_next_59 rfl 0 rfl ?_
      refine a_iload F dX11_next_60 7 rfl ?_
      refine a_callVIr F lk_RX11_148 tM_0 rfl c_X11_counts rfl rfl ⟨rfl, rfl⟩ ⟨Nat.le_of_ble_eq_true rfl, Nat.le_of_ble_eq_true rfl⟩ rfl (Nat.le_of_ble_eq_true rfl) dX11_next_62 hf (fun r_7 hf => ?_)
      refine a_if_ne F hf (tgt := 71) dX11_next_65 (by decide) (fun hf => ?_) (fun hf => ?_)
      · refine a_goto F (tgt := 116) dX11_next_68 (by decide) ?_
        refine a_iinc F hf dX11_next_116 7 rfl (by decide) (fun x7_17 hf => ⟨[(7, iv x7_17), (0, .ref (ad 0)), (1, iv x1), (2, iv x2), (3, iv x3), (4, iv x4), (5, iv x5), (6, iv x6)], rfl, ?_⟩)
        refine a_goto F (tgt := 45) dX11_next_119 (by decide) ?_
        cases hf
        exact a_sub [1, 2, 3, 4, 5, 6, 7, 0] rfl (hn _ _ rfl)
      · refine a_aload_n F dX11_next_71 rfl 0 rfl ?_
        refine a_iload F dX11_next_72 7 rfl ?_
        refine a_iload_n F dX11_next_74 rfl 1 rfl ?_
        refine a_iload_n F dX11_next_75 rfl 2 rfl ?_
        refine a_iload_n F dX11_next_76 rfl 3 rfl ?_
        refine a_callVLr F lk_RX11_159 tM_0 rfl c_X11_cost rfl rfl ⟨rfl, rfl⟩ ⟨Nat.le_of_ble_eq_true rfl, Nat.le_of_ble_eq_true rfl⟩ rfl (Nat.le_of_ble_eq_true rfl) dX11_next_77 hf (fun r_8 hf => ?_)
        refine a_aload_n F dX11_next_80 rfl 0 rfl ?_
        refine a_iload F dX11_next_81 5 rfl ?_
        refine a_iload_n F dX11_next_83 rfl 1 rfl ?_
        refine a_iload_n F dX11_next_84 rfl 2 rfl ?_
        refine a_iload_n F dX11_next_85 rfl 3 rfl ?_
        refine a_callVLr F lk_RX11_159 tM_0 rfl c_X11_cost rfl rfl ⟨rfl, rfl⟩ ⟨Nat.le_of_ble_eq_true rfl, Nat.le_of_ble_eq_true rfl⟩ rfl (Nat.le_of_ble_eq_true rfl) dX11_next_86 hf (fun r_9 hf => ?_)
        refine a_lsub F dX11_next_89 ?_
        refine a_topJ hf (fun x8_10 hf => ?_)
        refine a_lstore F (lv' := [(8, jv x8_10), (0, .ref (ad 0)), (1, iv x1), (2, iv x2), (3, iv x3), (4, iv x4), (5, iv x5), (6, iv x6), (7, iv x7)]) dX11_next_90 (by decide) rfl ?_
        refine a_lload F dX11_next_92 0 rfl ?_
        refine a_lconst F (n := 0) dX11_next_94 (by decide +kernel) ?_
        refine a_lcmp_lt F hf (tgt := 113) dX11_next_95 dX11_next_96 (by decide) (fun hf => ?_) (fun hf => ?_)
        · refine a_iinc F hf dX11_next_113 7 rfl (by decide) (fun x6_11 hf => ⟨[(6, iv x6_11), (8, jv x8_10), (0, .ref (ad 0)), (1, iv x1), (2, iv x2), (3, iv x3), (4, iv x4), (5, iv x5), (7, iv x7)], rfl, ?_⟩)
          refine a_iinc F hf dX11_next_116 8 rfl (by decide) (fun x7_12 hf => ⟨[(7, iv x7_12), (6, iv x6_11), (8, jv x8_10), (0, .ref (ad 0)), (1, iv x1), (2, iv x2), (3, iv x3), (4, iv x4), (5, iv x5)], rfl, ?_⟩)
          refine a_goto F (tgt := 45) dX11_next_119 (by decide) ?_
          cases hf
          exact a_sub [3, 4, 5, 6, 7, 8, 1, 0] rfl (hn _ _ rfl)
        · refine a_lload F dX11_next_99 0 rfl ?_
          refine a_lconst F (n := 0) dX11_next_101 (by decide +kernel) ?_
          refine a_lcmp_ne F hf (tgt := 116) dX11_next_102 dX11_next_103 (by decide) (fun hf => ?_) (fun hf => ?_)
          · refine a_iload F dX11_next_106 8 rfl ?_
            refine a_iload F dX11_next_108 6 rfl ?_
            refine a_icmp_ge F hf (tgt := 116) dX11_next_110 (by decide) (fun hf => ?_) (fun hf => ?_)
            · refine a_iinc F hf dX11_next_113 7 rfl (by decide) (fun x6_15 hf => ⟨[(6, iv x6_15), (8, jv x8_10), (0, .ref (ad 0)), (1, iv x1), (2, iv x2), (3, iv x3), (4, iv x4), (5, iv x5), (7, iv x7)], rfl, ?_⟩)
              refine a_iinc F hf dX11_next_116 8 rfl (by decide) (fun x7_16 hf => ⟨[(7, iv x7_16), (6, iv x6_15), (8, jv x8_10), (0, .ref (ad 0)), (1, iv x1), (2, iv x2), (3, iv x3), (4, iv x4), (5, iv x5)], rfl, ?_⟩)
              refine a_goto F (tgt := 45) dX11_next_119 (by decide) ?_
              cases hf
              exact a_sub [3, 4, 5, 6, 7, 8, 1, 0] rfl (hn _ _ rfl)
            · refine a_iinc F hf dX11_next_116 8 rfl (by decide) (fun x7_14 hf => ⟨[(7, iv x7_14), (8, jv x8_10), (0, .ref (ad 0)), (1, iv x1), (2, iv x2), (3, iv x3), (4, iv x4), (5, iv x5), (6, iv x6)], rfl, ?_⟩)
              refine a_goto F (tgt := 45) dX11_next_119 (by decide) ?_
              cases hf
              exact a_sub [2, 3, 4, 5, 6, 7, 8, 0] rfl (hn _ _ rfl)
          · refine a_iinc F hf dX11_next_116 8 rfl (by decide) (fun x7_13 hf => ⟨[(7, iv x7_13), (8, jv x8_10), (0, .ref (ad 0)), (1, iv x1), (2, iv x2), (3, iv x3), (4, iv x4), (5, iv x5), (6, iv x6)], rfl, ?_⟩)
            refine a_goto F (tgt := 45) dX11_next_119 (by decide) ?_
            cases hf
            exact a_sub [2, 3, 4, 5, 6, 7, 8, 0] rfl (hn _ _ rfl)
  · cases hf
    exact a_sub [0, 1, 2, 3, 4, 5, 6] rfl (hx0 _ rfl)
set_option maxRecDepth 100000 in
set_option maxHeartbeats 4000000 in
theorem k_X11_next_b20 {l : Launch} {ad : Nat → Nat} {X : Cx} (F : Ok vwCl WS NWs TM cX11_next 10 yX11_next.cls (some .int) ad l X) {σ : St} {x1 x2 x3 x4 x5 : Int} {y : (Int ⊕ (Int ⊕ Unit))} (hf : f_X11_next_b20 σ x1 x2 x3 x4 x5 = some y) (hn : ∀ z5, y = .inl z5 → At vwCl TM 10 rm_X11_next ad X σ [(0, .ref (ad 0)), (1, iv x1), (2, iv x2), (3, iv x3), (4, iv x4), (5, iv z5)] [] 20) (hx0 : ∀ z5, y = .inr (.inl z5) → At vwCl TM 10 rm_X11_next ad X σ [(5, iv z5)] [] 129) (hx1 : y = .inr (.inr (())) → At vwCl TM 10 rm_X11_next ad X σ [] [] 138) : At vwCl TM 10 rm_X11_next ad X σ [(0, .ref (ad 0)), (1, iv x1), (2, iv x2), (3, iv x3), (4, iv x4), (5, iv x5)] [] 20 := by
  unfold f_X11_next_b20 at hf
  refine a_iload F dX11_next_20 5 rfl ?_
  refine a_bipush F dX11_next_22 (by decide +kernel) ?_
  refine a_icmp_ge F hf (tgt := 138) dX11_next_24 (by decide) (fun hf => ?_) (fun hf => ?_)
  · refine a_aload_n F dX11_next_27 rfl 0 rfl ?_
    refine a_iload F dX11_next_28 5 rfl ?_
    refine a_callVIr F lk_RX11_148 tM_0 rfl c_X11_counts rfl rfl ⟨rfl, rfl⟩ ⟨Nat.le_of_ble_eq_true rfl, Nat.le_of_ble_eq_true rfl⟩ rfl (Nat.le_of_ble_eq_true rfl) dX11_next_30 hf (fun r_3 hf => ?_)
    refine a_if_ne F hf (tgt := 39) dX11_next_33 (by decide) (fun hf => ?_) (fun hf => ?_)
    · refine a_goto F (tgt := 132) dX11_next_36 (by decide) ?_
      refine a_iinc F hf dX11_next_132 5 rfl (by decide) (fun x5_20 hf => ⟨[(5, iv x5_20), (0, .ref (ad 0)), (1, iv x1), (2, iv x2), (3, iv x3), (4, iv x4)], rfl, ?_⟩)
      refine a_goto F (tgt := 20) dX11_next_135 (by decide) ?_
      cases hf
      exact a_sub [1, 2, 3, 4, 5, 0] rfl (hn _ rfl)
    · refine a_iconst F dX11_next_39 ?_
      refine a_topI hf (fun x6_4 hf => ?_)
      refine a_istore F (lv' := [(6, iv x6_4), (0, .ref (ad 0)), (1, iv x1), (2, iv x2), (3, iv x3), (4, iv x4), (5, iv x5)]) dX11_next_40 (by decide) rfl ?_
      refine a_iconst F dX11_next_42 ?_
      refine a_topI hf (fun x7_5 hf => ?_)
      refine a_istore F (lv' := [(7, iv x7_5), (6, iv x6_4), (0, .ref (ad 0)), (1, iv x1), (2, iv x2), (3, iv x3), (4, iv x4), (5, iv x5)]) dX11_next_43 (by decide) rfl ?_
      obtain ⟨q0, he, hf⟩ := jbind_elim hf
      refine a_sub [2, 3, 4, 5, 6, 7, 1, 0] rfl (loop_rule (P := (fun q => ∀ z6 z7, (z6, z7) = q → At vwCl TM 10 rm_X11_next ad X σ [(0, .ref (ad 0)), (1, iv x1), (2, iv x2), (3, iv x3), (4, iv x4), (5, iv x5), (6, iv z6), (7, iv z7)] [] 45)) (K := (fun q => (∀ z6, z6 = q → At vwCl TM 10 rm_X11_next ad X σ [(0, .ref (ad 0)), (1, iv x1), (2, iv x2), (3, iv x3), (4, iv x4), (5, iv x5), (6, iv z6)] [] 122))) ?_ 1000 _ _ he ?_ _ _ rfl)
      · intro q y hy hn hx z6 z7 e
        subst e
        exact k_X11_next_b45 F hy (fun z6 z7 e => hn _ e _ _ rfl) (fun z6 e => (hx _ e) _ rfl)
      · intro x6_18 e
        subst e
        refine a_iload F dX11_next_122 6 rfl ?_
        refine a_iload F dX11_next_124 4 rfl ?_
        refine a_icmp_ne F hf (tgt := 132) dX11_next_126 (by decide) (fun hf => ?_) (fun hf => ?_)
        · cases hf
          exact a_sub [5] rfl (hx0 _ rfl)
        · refine a_iinc F hf dX11_next_132 5 rfl (by decide) (fun x5_19 hf => ⟨[(5, iv x5_19), (0, .ref (ad 0)), (1, iv x1), (2, iv x2), (3, iv x3), (4, iv x4), (6, iv x6_18)], rfl, ?_⟩)
          refine a_goto F (tgt := 20) dX11_next_135 (by decide) ?_
          cases hf
          exact a_sub [1, 2, 3, 4, 5, 0] rfl (hn _ rfl)
  · cases hf
    exact a_sub [] rfl (hx1  rfl)
set_option maxRecDepth 100000 in
set_option maxHeartbeats 4000000 in
theorem k_X11_next_b0 {l : Launch} {ad : Nat → Nat} {X : Cx} (F : Ok vwCl WS NWs TM cX11_next 10 yX11_next.cls (some .int) ad l X) {σ : St} {x1 x2 x3 x4 : Int} {y : Int} (hf : f_X11_next_b0 σ x1 x2 x3 x4 = some y) (hr : RetI vwCl TM cX11_next 10 rm_X11_next ad X y σ) : At vwCl TM 10 rm_X11_next ad X σ [(0, .ref (ad 0)), (1, iv x1), (2, iv x2), (3, iv x3), (4, iv x4)] [] 0 := by
  unfold f_X11_next_b0 at hf
  refine a_aload_n F dX11_next_0 rfl 0 rfl ?_
  refine a_iload_n F dX11_next_1 rfl 1 rfl ?_
  refine a_iload_n F dX11_next_2 rfl 2 rfl ?_
  refine a_iload_n F dX11_next_3 rfl 3 rfl ?_
  refine a_callVIr F lk_RX11_155 tM_0 rfl c_X11_isPoint rfl rfl ⟨rfl, rfl⟩ ⟨Nat.le_of_ble_eq_true rfl, Nat.le_of_ble_eq_true rfl⟩ rfl (Nat.le_of_ble_eq_true rfl) dX11_next_4 hf (fun r_1 hf => ?_)
  refine a_if_eq F hf (tgt := 15) dX11_next_7 (by decide) (fun hf => ?_) (fun hf => ?_)
  · refine a_iconst F dX11_next_15 ?_
    cases hf
    exact hr _ _ dX11_next_16
  · refine a_iload F dX11_next_10 4 rfl ?_
    refine a_if_ge F hf (tgt := 17) dX11_next_12 (by decide) (fun hf => ?_) (fun hf => ?_)
    · refine a_iconst F dX11_next_15 ?_
      cases hf
      exact hr _ _ dX11_next_16
    · refine a_iconst F dX11_next_17 ?_
      refine a_topI hf (fun x5_2 hf => ?_)
      refine a_istore F (lv' := [(5, iv x5_2), (0, .ref (ad 0)), (1, iv x1), (2, iv x2), (3, iv x3), (4, iv x4)]) dX11_next_18 (by decide) rfl ?_
      obtain ⟨q0, he, hf⟩ := jbind_elim hf
      refine a_sub [1, 2, 3, 4, 5, 0] rfl (loop_rule (P := (fun q => ∀ z5, z5 = q → At vwCl TM 10 rm_X11_next ad X σ [(0, .ref (ad 0)), (1, iv x1), (2, iv x2), (3, iv x3), (4, iv x4), (5, iv z5)] [] 20)) (K := (fun q => (∀ z5, .inl z5 = q → At vwCl TM 10 rm_X11_next ad X σ [(5, iv z5)] [] 129) ∧ (.inr (()) = q → At vwCl TM 10 rm_X11_next ad X σ [] [] 138))) ?_ 1000 _ _ he ?_ _ rfl)
      · intro q y hy hn hx z5 e
        subst e
        exact k_X11_next_b20 F hy (fun z5 e => hn _ e _ rfl) (fun z5 e => (hx _ e).1 _ rfl) (fun  e => (hx _ e).2  rfl)
      · refine ⟨?_, ?_⟩
        · intro x5_21 e
          subst e
          refine a_iload F dX11_next_129 0 rfl ?_
          cases hf
          exact hr _ _ dX11_next_131
        · intro  e
          subst e
          refine a_iconst F dX11_next_138 ?_
          cases hf
          exact hr _ _ dX11_next_139
set_option maxRecDepth 100000 in
set_option maxHeartbeats 4000000 in
theorem c_X11_next {l : Launch}  {σ : St} {x1 x2 x3 x4 : Int} : CtrI vwCl WS NWs TM l yX11_next cX11_next 10 (some .int) rm_X11_next (fun ad => [.ref (ad 0), iv x1, iv x2, iv x3, iv x4]) σ (rd (f_X11_next σ x1 x2 x3 x4) σ) := by
  refine ctrI_of (by decide +kernel) (fun ad => Nat.le_of_ble_eq_true rfl) (fun v σ' ad X hf F K => ?_)
  obtain ⟨hf2, e2⟩ := rd_elim hf
  subst e2
  exact k_X11_next_b0 F hf2 K
abbrev rm_X11_tree : Room := { frames := 2, cells := 0, slots := 0, locals := 45 }
set_option maxRecDepth 100000 in
set_option maxHeartbeats 4000000 in
theorem k_X11_tree_b7 {l : Launch} {ad : Nat → Nat} {X : Cx} (F : Ok vwCl WS NWs TM cX11_tree 6 yX11_tree.cls (some .int) ad l X) {σ : St} {x1 : Int} {y : ((St × Int) ⊕ St)} (hf : f_X11_tree_b7 σ x1 = some y) (hn : ∀ τ z1, y = .inl (τ, z1) → At vwCl TM 6 rm_X11_tree ad X τ [(0, .ref (ad 0)), (1, iv z1)] [] 7) (hx0 : ∀ τ, y = .inr (τ) → At vwCl TM 6 rm_X11_tree ad X τ [(0, .ref (ad 0))] [] 26) : At vwCl TM 6 rm_X11_tree ad X σ [(0, .ref (ad 0)), (1, iv x1)] [] 7 := by
  unfold f_X11_tree_b7 at hf
  refine a_iload_n F dX11_tree_7 rfl 1 rfl ?_
  refine a_bipush F dX11_tree_8 (by decide +kernel) ?_
  refine a_icmp_ge F hf (tgt := 26) dX11_tree_10 (by decide) (fun hf => ?_) (fun hf => ?_)
  · refine a_aload_n F dX11_tree_13 rfl 0 rfl ?_
    refine a_getR F (j := 48) tM_0 rfl rfl (by decide) inW11 w_760 dX11_tree_14 ?_
    refine a_iload_n F dX11_tree_17 rfl 1 rfl ?_
    refine a_iload_n F dX11_tree_18 rfl 1 rfl ?_
    refine a_iast F tM_27 rfl (by decide) hf dX11_tree_19 (fun σ_3 hf => ?_)
    refine a_iinc F hf dX11_tree_20 1 rfl (by decide) (fun x1_4 hf => ⟨[(1, iv x1_4), (0, .ref (ad 0))], rfl, ?_⟩)
    refine a_goto F (tgt := 7) dX11_tree_23 (by decide) ?_
    cases hf
    exact a_sub [1, 0] rfl (hn _ _ rfl)
  · cases hf
    exact a_sub [0] rfl (hx0 _ rfl)
set_option maxRecDepth 100000 in
set_option maxHeartbeats 4000000 in
theorem k_X11_tree_b120 {l : Launch} {ad : Nat → Nat} {X : Cx} (F : Ok vwCl WS NWs TM cX11_tree 6 yX11_tree.cls (some .int) ad l X) {σ : St} {x4 x5 : Int} {y : ((Int × Int × Int) ⊕ (Int × Int))} (hf : f_X11_tree_b120 σ x4 x5 = some y) (hn : ∀ z2 z3 z5, y = .inl (z2, z3, z5) → At vwCl TM 6 rm_X11_tree ad X σ [(0, .ref (ad 0)), (2, iv z2), (3, iv z3), (4, iv x4), (5, iv z5)] [] 52) : At vwCl TM 6 rm_X11_tree ad X σ [(0, .ref (ad 0)), (4, iv x4), (5, iv x5)] [] 120 := by
  unfold f_X11_tree_b120 at hf
  refine a_iload F dX11_tree_120 1 rfl ?_
  refine a_topI hf (fun x2_16 hf => ?_)
  refine a_istore_n F (lv' := [(2, iv x2_16), (0, .ref (ad 0)), (4, iv x4), (5, iv x5)]) dX11_tree_122 rfl (by decide) rfl ?_
  refine a_iload F dX11_tree_123 3 rfl ?_
  refine a_topI hf (fun x3_17 hf => ?_)
  refine a_istore_n F (lv' := [(3, iv x3_17), (2, iv x2_16), (0, .ref (ad 0)), (4, iv x4), (5, iv x5)]) dX11_tree_125 rfl (by decide) rfl ?_
  refine a_iinc F hf dX11_tree_126 4 rfl (by decide) (fun x5_18 hf => ⟨[(5, iv x5_18), (3, iv x3_17), (2, iv x2_16), (0, .ref (ad 0)), (4, iv x4)], rfl, ?_⟩)
  refine a_goto F (tgt := 52) dX11_tree_129 (by decide) ?_
  cases hf
  exact a_sub [3, 2, 1, 4, 0] rfl (hn _ _ _ rfl)
set_option maxRecDepth 100000 in
set_option maxHeartbeats 4000000 in
theorem k_X11_tree_b52 {l : Launch} {ad : Nat → Nat} {X : Cx} (F : Ok vwCl WS NWs TM cX11_tree 6 yX11_tree.cls (some .int) ad l X) {σ : St} {x2 x3 x4 x5 : Int} {y : ((Int × Int × Int) ⊕ (Int × Int))} (hf : f_X11_tree_b52 σ x2 x3 x4 x5 = some y) (hn : ∀ z2 z3 z5, y = .inl (z2, z3, z5) → At vwCl TM 6 rm_X11_tree ad X σ [(0, .ref (ad 0)), (2, iv z2), (3, iv z3), (4, iv x4), (5, iv z5)] [] 52) (hx0 : ∀ z2 z3, y = .inr ((z2, z3)) → At vwCl TM 6 rm_X11_tree ad X σ [(0, .ref (ad 0)), (2, iv z2), (3, iv z3), (4, iv x4)] [] 132) : At vwCl TM 6 rm_X11_tree ad X σ [(0, .ref (ad 0)), (2, iv x2), (3, iv x3), (4, iv x4), (5, iv x5)] [] 52 := by
  unfold f_X11_tree_b52 at hf
  refine a_iload F dX11_tree_52 4 rfl ?_
  refine a_bipush F dX11_tree_54 (by decide +kernel) ?_
  refine a_icmp_ge F hf (tgt := 132) dX11_tree_56 (by decide) (fun hf => ?_) (fun hf => ?_)
  · refine a_aload_n F dX11_tree_59 rfl 0 rfl ?_
    refine a_iload F dX11_tree_60 3 rfl ?_
    refine a_callVIr F lk_RX11_148 tM_0 rfl c_X11_counts rfl rfl ⟨rfl, rfl⟩ ⟨Nat.le_of_ble_eq_true rfl, Nat.le_of_ble_eq_true rfl⟩ rfl (Nat.le_of_ble_eq_true rfl) dX11_tree_62 hf (fun r_11 hf => ?_)
    refine a_if_eq F hf (tgt := 126) dX11_tree_65 (by decide) (fun hf => ?_) (fun hf => ?_)
    · refine a_iinc F hf dX11_tree_126 4 rfl (by decide) (fun x5_12 hf => ⟨[(5, iv x5_12), (0, .ref (ad 0)), (2, iv x2), (3, iv x3), (4, iv x4)], rfl, ?_⟩)
      refine a_goto F (tgt := 52) dX11_tree_129 (by decide) ?_
      cases hf
      exact a_sub [1, 2, 3, 4, 0] rfl (hn _ _ _ rfl)
    · refine a_aload_n F dX11_tree_68 rfl 0 rfl ?_
      refine a_iload F dX11_tree_69 4 rfl ?_
      refine a_callVIr F lk_RX11_148 tM_0 rfl c_X11_counts rfl rfl ⟨rfl, rfl⟩ ⟨Nat.le_of_ble_eq_true rfl, Nat.le_of_ble_eq_true rfl⟩ rfl (Nat.le_of_ble_eq_true rfl) dX11_tree_71 hf (fun r_13 hf => ?_)
      refine a_if_eq F hf (tgt := 126) dX11_tree_74 (by decide) (fun hf => ?_) (fun hf => ?_)
      · refine a_iinc F hf dX11_tree_126 4 rfl (by decide) (fun x5_14 hf => ⟨[(5, iv x5_14), (0, .ref (ad 0)), (2, iv x2), (3, iv x3), (4, iv x4)], rfl, ?_⟩)
        refine a_goto F (tgt := 52) dX11_tree_129 (by decide) ?_
        cases hf
        exact a_sub [1, 2, 3, 4, 0] rfl (hn _ _ _ rfl)
      · refine a_aload_n F dX11_tree_77 rfl 0 rfl ?_
        refine a_getR F (j := 48) tM_0 rfl rfl (by decide) inW11 w_760 dX11_tree_78 ?_
        refine a_iload F dX11_tree_81 3 rfl ?_
        refine a_iald F tM_27 rfl (by decide) hf dX11_tree_83 (fun hf => ?_)
        refine a_aload_n F dX11_tree_84 rfl 0 rfl ?_
        refine a_getR F (j := 48) tM_0 rfl rfl (by decide) inW11 w_760 dX11_tree_85 ?_
        refine a_iload F dX11_tree_88 4 rfl ?_
        refine a_iald F tM_27 rfl (by decide) hf dX11_tree_90 (fun hf => ?_)
        refine a_icmp_eq F hf (tgt := 126) dX11_tree_91 (by decide) (fun hf => ?_) (fun hf => ?_)
        · refine a_iinc F hf dX11_tree_126 4 rfl (by decide) (fun x5_15 hf => ⟨[(5, iv x5_15), (0, .ref (ad 0)), (2, iv x2), (3, iv x3), (4, iv x4)], rfl, ?_⟩)
          refine a_goto F (tgt := 52) dX11_tree_129 (by decide) ?_
          cases hf
          exact a_sub [1, 2, 3, 4, 0] rfl (hn _ _ _ rfl)
        · refine a_iload_n F dX11_tree_94 rfl 1 rfl ?_
          refine a_iconst F dX11_tree_95 ?_
          refine a_icmp_eq F hf (tgt := 120) dX11_tree_96 (by decide) (fun hf => ?_) (fun hf => ?_)
          · exact a_sub [0, 3, 4] rfl (k_X11_tree_b120 F hf hn)
          · refine a_aload_n F dX11_tree_99 rfl 0 rfl ?_
            refine a_iload F dX11_tree_100 3 rfl ?_
            refine a_iload F dX11_tree_102 4 rfl ?_
            refine a_callVLr F lk_RX11_276 tM_0 rfl c_X11_apart rfl rfl ⟨rfl, rfl⟩ ⟨Nat.le_of_ble_eq_true rfl, Nat.le_of_ble_eq_true rfl⟩ rfl (Nat.le_of_ble_eq_true rfl) dX11_tree_104 hf (fun r_19 hf => ?_)
            refine a_aload_n F dX11_tree_107 rfl 0 rfl ?_
            refine a_iload_n F dX11_tree_108 rfl 1 rfl ?_
            refine a_iload_n F dX11_tree_109 rfl 2 rfl ?_
            refine a_callVLr F lk_RX11_276 tM_0 rfl c_X11_apart rfl rfl ⟨rfl, rfl⟩ ⟨Nat.le_of_ble_eq_true rfl, Nat.le_of_ble_eq_true rfl⟩ rfl (Nat.le_of_ble_eq_true rfl) dX11_tree_110 hf (fun r_20 hf => ?_)
            refine a_lcmp_lt F hf (tgt := 120) dX11_tree_113 dX11_tree_114 (by decide) (fun hf => ?_) (fun hf => ?_)
            · exact a_sub [0, 3, 4] rfl (k_X11_tree_b120 F hf hn)
            · refine a_goto F (tgt := 126) dX11_tree_117 (by decide) ?_
              refine a_iinc F hf dX11_tree_126 4 rfl (by decide) (fun x5_21 hf => ⟨[(5, iv x5_21), (0, .ref (ad 0)), (2, iv x2), (3, iv x3), (4, iv x4)], rfl, ?_⟩)
              refine a_goto F (tgt := 52) dX11_tree_129 (by decide) ?_
              cases hf
              exact a_sub [1, 2, 3, 4, 0] rfl (hn _ _ _ rfl)
  · cases hf
    exact a_sub [0, 1, 2, 3] rfl (hx0 _ _ rfl)
set_option maxRecDepth 100000 in
set_option maxHeartbeats 4000000 in
theorem k_X11_tree_b39 {l : Launch} {ad : Nat → Nat} {X : Cx} (F : Ok vwCl WS NWs TM cX11_tree 6 yX11_tree.cls (some .int) ad l X) {σ : St} {x2 x3 x4 : Int} {y : ((Int × Int × Int) ⊕ (Int × Int))} (hf : f_X11_tree_b39 σ x2 x3 x4 = some y) (hn : ∀ z2 z3 z4, y = .inl (z2, z3, z4) → At vwCl TM 6 rm_X11_tree ad X σ [(0, .ref (ad 0)), (2, iv z2), (3, iv z3), (4, iv z4)] [] 39) (hx0 : ∀ z2 z3, y = .inr ((z2, z3)) → At vwCl TM 6 rm_X11_tree ad X σ [(0, .ref (ad 0)), (2, iv z2), (3, iv z3)] [] 138) : At vwCl TM 6 rm_X11_tree ad X σ [(0, .ref (ad 0)), (2, iv x2), (3, iv x3), (4, iv x4)] [] 39 := by
  unfold f_X11_tree_b39 at hf
  refine a_iload F dX11_tree_39 3 rfl ?_
  refine a_bipush F dX11_tree_41 (by decide +kernel) ?_
  refine a_icmp_ge F hf (tgt := 138) dX11_tree_43 (by decide) (fun hf => ?_) (fun hf => ?_)
  · refine a_iload F dX11_tree_46 3 rfl ?_
    refine a_iconst F dX11_tree_48 ?_
    refine a_iadd F dX11_tree_49 ?_
    refine a_topI hf (fun x5_10 hf => ?_)
    refine a_istore F (lv' := [(5, iv x5_10), (0, .ref (ad 0)), (2, iv x2), (3, iv x3), (4, iv x4)]) dX11_tree_50 (by decide) rfl ?_
    obtain ⟨q0, he, hf⟩ := jbind_elim hf
    refine a_sub [1, 2, 3, 4, 0] rfl (loop_rule (P := (fun q => ∀ z2 z3 z5, (z2, z3, z5) = q → At vwCl TM 6 rm_X11_tree ad X σ [(0, .ref (ad 0)), (2, iv z2), (3, iv z3), (4, iv x4), (5, iv z5)] [] 52)) (K := (fun q => (∀ z2 z3, (z2, z3) = q → At vwCl TM 6 rm_X11_tree ad X σ [(0, .ref (ad 0)), (2, iv z2), (3, iv z3), (4, iv x4)] [] 132))) ?_ 1000 _ _ he ?_ _ _ _ rfl)
    · intro q y hy hn hx z2 z3 z5 e
      subst e
      exact k_X11_tree_b52 F hy (fun z2 z3 z5 e => hn _ e _ _ _ rfl) (fun z2 z3 e => (hx _ e) _ _ rfl)
    · intro x2_22 x3_23 e
      subst e
      refine a_iinc F hf dX11_tree_132 3 rfl (by decide) (fun x4_24 hf => ⟨[(4, iv x4_24), (0, .ref (ad 0)), (2, iv x2_22), (3, iv x3_23)], rfl, ?_⟩)
      refine a_goto F (tgt := 39) dX11_tree_135 (by decide) ?_
      cases hf
      exact a_sub [1, 2, 3, 0] rfl (hn _ _ _ rfl)
  · cases hf
    exact a_sub [0, 1, 2] rfl (hx0 _ _ rfl)
set_option maxRecDepth 100000 in
set_option maxHeartbeats 4000000 in
theorem k_X11_tree_b197 {l : Launch} {ad : Nat → Nat} {X : Cx} (F : Ok vwCl WS NWs TM cX11_tree 6 yX11_tree.cls (some .int) ad l X) {σ : St} {x1 x2 x4 x5 : Int} {y : ((St × Int) ⊕ St)} (hf : f_X11_tree_b197 σ x1 x2 x4 x5 = some y) (hn : ∀ τ z5, y = .inl (τ, z5) → At vwCl TM 6 rm_X11_tree ad X τ [(0, .ref (ad 0)), (1, iv x1), (2, iv x2), (4, iv x4), (5, iv z5)] [] 197) (hx0 : ∀ τ, y = .inr (τ) → At vwCl TM 6 rm_X11_tree ad X τ [(0, .ref (ad 0)), (1, iv x1)] [] 235) : At vwCl TM 6 rm_X11_tree ad X σ [(0, .ref (ad 0)), (1, iv x1), (2, iv x2), (4, iv x4), (5, iv x5)] [] 197 := by
  unfold f_X11_tree_b197 at hf
  refine a_iload F dX11_tree_197 4 rfl ?_
  refine a_bipush F dX11_tree_199 (by decide +kernel) ?_
  refine a_icmp_ge F hf (tgt := 235) dX11_tree_201 (by decide) (fun hf => ?_) (fun hf => ?_)
  · refine a_aload_n F dX11_tree_204 rfl 0 rfl ?_
    refine a_getR F (j := 48) tM_0 rfl rfl (by decide) inW11 w_760 dX11_tree_205 ?_
    refine a_iload F dX11_tree_208 4 rfl ?_
    refine a_iald F tM_27 rfl (by decide) hf dX11_tree_210 (fun hf => ?_)
    refine a_iload F dX11_tree_211 3 rfl ?_
    refine a_icmp_ne F hf (tgt := 229) dX11_tree_213 (by decide) (fun hf => ?_) (fun hf => ?_)
    · refine a_aload_n F dX11_tree_216 rfl 0 rfl ?_
      refine a_getR F (j := 48) tM_0 rfl rfl (by decide) inW11 w_760 dX11_tree_217 ?_
      refine a_iload F dX11_tree_220 4 rfl ?_
      refine a_aload_n F dX11_tree_222 rfl 0 rfl ?_
      refine a_getR F (j := 48) tM_0 rfl rfl (by decide) inW11 w_760 dX11_tree_223 ?_
      refine a_iload_n F dX11_tree_226 rfl 2 rfl ?_
      refine a_iald F tM_27 rfl (by decide) hf dX11_tree_227 (fun hf => ?_)
      refine a_iast F tM_27 rfl (by decide) hf dX11_tree_228 (fun σ_34 hf => ?_)
      refine a_iinc F hf dX11_tree_229 4 rfl (by decide) (fun x5_35 hf => ⟨[(5, iv x5_35), (0, .ref (ad 0)), (1, iv x1), (2, iv x2), (4, iv x4)], rfl, ?_⟩)
      refine a_goto F (tgt := 197) dX11_tree_232 (by decide) ?_
      cases hf
      exact a_sub [1, 2, 3, 4, 0] rfl (hn _ _ rfl)
    · refine a_iinc F hf dX11_tree_229 4 rfl (by decide) (fun x5_33 hf => ⟨[(5, iv x5_33), (0, .ref (ad 0)), (1, iv x1), (2, iv x2), (4, iv x4)], rfl, ?_⟩)
      refine a_goto F (tgt := 197) dX11_tree_232 (by decide) ?_
      cases hf
      exact a_sub [1, 2, 3, 4, 0] rfl (hn _ _ rfl)
  · cases hf
    exact a_sub [0, 1] rfl (hx0 _ rfl)
set_option maxRecDepth 100000 in
set_option maxHeartbeats 4000000 in
theorem k_X11_tree_b148 {l : Launch} {ad : Nat → Nat} {X : Cx} (F : Ok vwCl WS NWs TM cX11_tree 6 yX11_tree.cls (some .int) ad l X) {σ : St} {x2 x3 t0 : Int} {y : ((St × Int) ⊕ St)} (hf : f_X11_tree_b148 σ x2 x3 t0 = some y) (hn : ∀ τ z1, y = .inl (τ, z1) → At vwCl TM 6 rm_X11_tree ad X τ [(0, .ref (ad 0)), (1, iv z1)] [] 28) : At vwCl TM 6 rm_X11_tree ad X σ [(0, .ref (ad 0)), (2, iv x2), (3, iv x3)] [iv t0] 148 := by
  unfold f_X11_tree_b148 at hf
  refine a_topI hf (fun x1_27 hf => ?_)
  refine a_istore_n F (lv' := [(1, iv x1_27), (0, .ref (ad 0)), (2, iv x2), (3, iv x3)]) dX11_tree_148 rfl (by decide) rfl ?_
  refine a_iload_n F dX11_tree_149 rfl 0 rfl ?_
  refine a_if_ne F hf (tgt := 156) dX11_tree_150 (by decide) (fun hf => ?_) (fun hf => ?_)
  · refine a_goto F (tgt := 28) dX11_tree_153 (by decide) ?_
    cases hf
    exact a_sub [1, 0] rfl (hn _ _ rfl)
  · refine a_aload_n F dX11_tree_156 rfl 1 rfl ?_
    refine a_getR F (j := 46) tM_0 rfl rfl (by decide) inW11 w_761 dX11_tree_157 ?_
    refine a_aload_n F dX11_tree_160 rfl 1 rfl ?_
    refine a_getI F (j := 45) tM_0 rfl rfl (by decide) inW11 w_759 dX11_tree_161 ?_
    refine a_iload_n F dX11_tree_164 rfl 2 rfl ?_
    refine a_iast F tM_25 rfl (by decide) hf dX11_tree_165 (fun σ_28 hf => ?_)
    refine a_aload_n F dX11_tree_166 rfl 1 rfl ?_
    refine a_getR F (j := 47) tM_0 rfl rfl (by decide) inW11 w_762 dX11_tree_167 ?_
    refine a_aload_n F dX11_tree_170 rfl 1 rfl ?_
    refine a_getI F (j := 45) tM_0 rfl rfl (by decide) inW11 w_759 dX11_tree_171 ?_
    refine a_iload_n F dX11_tree_174 rfl 3 rfl ?_
    refine a_iast F tM_26 rfl (by decide) hf dX11_tree_175 (fun σ_29 hf => ?_)
    refine a_aload_n F dX11_tree_176 rfl 1 rfl ?_
    refine a_dup F dX11_tree_177 rfl ?_
    refine a_getI F (j := 45) tM_0 rfl rfl (by decide) inW11 w_759 dX11_tree_178 ?_
    refine a_iconst F dX11_tree_181 ?_
    refine a_iadd F dX11_tree_182 ?_
    refine a_putI F (j := 45) tM_0 rfl rfl (by decide) inW11 w_759 tyX11 tyX11_ok nmX11 rfl rfl hf dX11_tree_183 (fun σ_30 hf => ?_)
    refine a_aload_n F dX11_tree_186 rfl 1 rfl ?_
    refine a_getR F (j := 48) tM_0 rfl rfl (by decide) inW11 w_760 dX11_tree_187 ?_
    refine a_iload_n F dX11_tree_190 rfl 3 rfl ?_
    refine a_iald F tM_27 rfl (by decide) hf dX11_tree_191 (fun hf => ?_)
    refine a_topI hf (fun x4_31 hf => ?_)
    refine a_istore F (lv' := [(4, iv x4_31), (1, iv x1_27), (0, .ref (ad 0)), (2, iv x2), (3, iv x3)]) dX11_tree_192 (by decide) rfl ?_
    refine a_iconst F dX11_tree_194 ?_
    refine a_topI hf (fun x5_32 hf => ?_)
    refine a_istore F (lv' := [(5, iv x5_32), (4, iv x4_31), (1, iv x1_27), (0, .ref (ad 0)), (2, iv x2), (3, iv x3)]) dX11_tree_195 (by decide) rfl ?_
    obtain ⟨q0, he, hf⟩ := jbind_elim hf
    refine a_sub [3, 2, 4, 1, 0] rfl (loop_rule (P := (fun q => ∀ τ z5, (τ, z5) = q → At vwCl TM 6 rm_X11_tree ad X τ [(0, .ref (ad 0)), (1, iv x1_27), (2, iv x2), (4, iv x4_31), (5, iv z5)] [] 197)) (K := (fun q => (∀ τ, τ = q → At vwCl TM 6 rm_X11_tree ad X τ [(0, .ref (ad 0)), (1, iv x1_27)] [] 235))) ?_ 1000 _ _ he ?_ _ _ rfl)
    · intro q y hy hn hx τ z5 e
      subst e
      exact k_X11_tree_b197 F hy (fun τ z5 e => hn _ e _ _ rfl) (fun τ e => (hx _ e) _ rfl)
    · intro σ_36 e
      subst e
      refine a_goto F (tgt := 28) dX11_tree_235 (by decide) ?_
      cases hf
      exact a_sub [0, 1] rfl (hn _ _ rfl)
set_option maxRecDepth 100000 in
set_option maxHeartbeats 4000000 in
theorem k_X11_tree_b28 {l : Launch} {ad : Nat → Nat} {X : Cx} (F : Ok vwCl WS NWs TM cX11_tree 6 yX11_tree.cls (some .int) ad l X) {σ : St} {x1 : Int} {y : ((St × Int) ⊕ St)} (hf : f_X11_tree_b28 σ x1 = some y) (hn : ∀ τ z1, y = .inl (τ, z1) → At vwCl TM 6 rm_X11_tree ad X τ [(0, .ref (ad 0)), (1, iv z1)] [] 28) (hx0 : ∀ τ, y = .inr (τ) → At vwCl TM 6 rm_X11_tree ad X τ [(0, .ref (ad 0))] [] 238) : At vwCl TM 6 rm_X11_tree ad X σ [(0, .ref (ad 0)), (1, iv x1)] [] 28 := by
  unfold f_X11_tree_b28 at hf
  refine a_iload_n F dX11_tree_28 rfl 1 rfl ?_
  refine a_if_eq F hf (tgt := 238) dX11_tree_29 (by decide) (fun hf => ?_) (fun hf => ?_)
  · cases hf
    exact a_sub [0] rfl (hx0 _ rfl)
  · refine a_iconst F dX11_tree_32 ?_
    refine a_topI hf (fun x2_7 hf => ?_)
    refine a_istore_n F (lv' := [(2, iv x2_7), (0, .ref (ad 0)), (1, iv x1)]) dX11_tree_33 rfl (by decide) rfl ?_
    refine a_iconst F dX11_tree_34 ?_
    refine a_topI hf (fun x3_8 hf => ?_)
    refine a_istore_n F (lv' := [(3, iv x3_8), (2, iv x2_7), (0, .ref (ad 0)), (1, iv x1)]) dX11_tree_35 rfl (by decide) rfl ?_
    refine a_iconst F dX11_tree_36 ?_
    refine a_topI hf (fun x4_9 hf => ?_)
    refine a_istore F (lv' := [(4, iv x4_9), (3, iv x3_8), (2, iv x2_7), (0, .ref (ad 0)), (1, iv x1)]) dX11_tree_37 (by decide) rfl ?_
    obtain ⟨q0, he, hf⟩ := jbind_elim hf
    refine a_sub [3, 2, 1, 0] rfl (loop_rule (P := (fun q => ∀ z2 z3 z4, (z2, z3, z4) = q → At vwCl TM 6 rm_X11_tree ad X σ [(0, .ref (ad 0)), (2, iv z2), (3, iv z3), (4, iv z4)] [] 39)) (K := (fun q => (∀ z2 z3, (z2, z3) = q → At vwCl TM 6 rm_X11_tree ad X σ [(0, .ref (ad 0)), (2, iv z2), (3, iv z3)] [] 138))) ?_ 1000 _ _ he ?_ _ _ _ rfl)
    · intro q y hy hn hx z2 z3 z4 e
      subst e
      exact k_X11_tree_b39 F hy (fun z2 z3 z4 e => hn _ e _ _ _ rfl) (fun z2 z3 e => (hx _ e) _ _ rfl)
    · intro x2_25 x3_26 e
      subst e
      refine a_iload_n F dX11_tree_138 rfl 1 rfl ?_
      refine a_iconst F dX11_tree_139 ?_
      refine a_icmp_eq F hf (tgt := 147) dX11_tree_140 (by decide) (fun hf => ?_) (fun hf => ?_)
      · refine a_iconst F dX11_tree_147 ?_
        exact a_sub [0, 1, 2] rfl (k_X11_tree_b148 F hf hn)
      · refine a_iconst F dX11_tree_143 ?_
        refine a_goto F (tgt := 148) dX11_tree_144 (by decide) ?_
        exact a_sub [0, 1, 2] rfl (k_X11_tree_b148 F hf hn)
set_option maxRecDepth 100000 in
set_option maxHeartbeats 4000000 in
theorem k_X11_tree_b0 {l : Launch} {ad : Nat → Nat} {X : Cx} (F : Ok vwCl WS NWs TM cX11_tree 6 yX11_tree.cls (some .int) ad l X) {σ : St} {y : (Int × St)} (hf : f_X11_tree_b0 σ = some y) (hr : ∀ v τ, y = (v, τ) → RetI vwCl TM cX11_tree 6 rm_X11_tree ad X v τ) : At vwCl TM 6 rm_X11_tree ad X σ [(0, .ref (ad 0))] [] 0 := by
  unfold f_X11_tree_b0 at hf
  refine a_aload_n F dX11_tree_0 rfl 0 rfl ?_
  refine a_iconst F dX11_tree_1 ?_
  refine a_putI F (j := 45) tM_0 rfl rfl (by decide) inW11 w_759 tyX11 tyX11_ok nmX11 rfl rfl hf dX11_tree_2 (fun σ_1 hf => ?_)
  refine a_iconst F dX11_tree_5 ?_
  refine a_topI hf (fun x1_2 hf => ?_)
  refine a_istore_n F (lv' := [(1, iv x1_2), (0, .ref (ad 0))]) dX11_tree_6 rfl (by decide) rfl ?_
  obtain ⟨q0, he, hf⟩ := jbind_elim hf
  refine a_sub [1, 0] rfl (loop_rule (P := (fun q => ∀ τ z1, (τ, z1) = q → At vwCl TM 6 rm_X11_tree ad X τ [(0, .ref (ad 0)), (1, iv z1)] [] 7)) (K := (fun q => (∀ τ, τ = q → At vwCl TM 6 rm_X11_tree ad X τ [(0, .ref (ad 0))] [] 26))) ?_ 1000 _ _ he ?_ _ _ rfl)
  · intro q y hy hn hx τ z1 e
    subst e
    exact k_X11_tree_b7 F hy (fun τ z1 e => hn _ e _ _ rfl) (fun τ e => (hx _ e) _ rfl)
  · intro σ_5 e
    subst e
    refine a_iconst F dX11_tree_26 ?_
    refine a_topI hf (fun x1_6 hf => ?_)
    refine a_istore_n F (lv' := [(1, iv x1_6), (0, .ref (ad 0))]) dX11_tree_27 rfl (by decide) rfl ?_
    obtain ⟨q0, he, hf⟩ := jbind_elim hf
    refine a_sub [1, 0] rfl (loop_rule (P := (fun q => ∀ τ z1, (τ, z1) = q → At vwCl TM 6 rm_X11_tree ad X τ [(0, .ref (ad 0)), (1, iv z1)] [] 28)) (K := (fun q => (∀ τ, τ = q → At vwCl TM 6 rm_X11_tree ad X τ [(0, .ref (ad 0))] [] 238))) ?_ 1000 _ _ he ?_ _ _ rfl)
    · intro q y hy hn hx τ z1 e
      subst e
      exact k_X11_tree_b28 F hy (fun τ z1 e => hn _ e _ _ rfl) (fun τ e => (hx _ e) _ rfl)
    · intro σ_37 e
      subst e
      refine a_aload_n F dX11_tree_238 rfl 0 rfl ?_
      refine a_getI F (j := 45) tM_0 rfl rfl (by decide) inW11 w_759 dX11_tree_239 ?_
      cases hf
      exact hr _ _ rfl _ _ dX11_tree_242
set_option maxRecDepth 100000 in
set_option maxHeartbeats 4000000 in
theorem c_X11_tree {l : Launch}  {σ : St} : CtrI vwCl WS NWs TM l yX11_tree cX11_tree 6 (some .int) rm_X11_tree (fun ad => [.ref (ad 0)]) σ (f_X11_tree σ) := by
  refine ctrI_of (by decide +kernel) (fun ad => Nat.le_of_ble_eq_true rfl) (fun v σ' ad X hf F K => ?_)
  exact k_X11_tree_b0 F hf (fun v τ e => by cases e; exact K)
abbrev rm_X11_pipe : Room := { frames := 3, cells := 0, slots := 0, locals := 70 }
set_option maxRecDepth 100000 in
set_option maxHeartbeats 4000000 in
theorem k_X11_pipe_b0 {l : Launch} {ad : Nat → Nat} {X : Cx} (F : Ok vwCl WS NWs TM cX11_pipe 3 yX11_pipe.cls (some .int) ad l X) {σ : St} {x1 x2 : Int} {y : (Int × St)} (hf : f_X11_pipe_b0 σ x1 x2 = some y) (hr : ∀ v τ, y = (v, τ) → RetI vwCl TM cX11_pipe 3 rm_X11_pipe ad X v τ) : At vwCl TM 3 rm_X11_pipe ad X σ [(0, .ref (ad 0)), (1, iv x1), (2, iv x2)] [] 0 := by
  unfold f_X11_pipe_b0 at hf
  refine a_aload_n F dX11_pipe_0 rfl 0 rfl ?_
  refine a_callVI F lk_RX11_334 tM_0 rfl c_X11_tree rfl rfl ⟨rfl, rfl⟩ ⟨Nat.le_of_ble_eq_true rfl, Nat.le_of_ble_eq_true rfl⟩ rfl (Nat.le_of_ble_eq_true rfl) dX11_pipe_1 hf (fun r_1 σ_2 hf => ?_)
  refine a_iload_n F dX11_pipe_4 rfl 1 rfl ?_
  refine a_icmp_le F hf (tgt := 12) dX11_pipe_5 (by decide) (fun hf => ?_) (fun hf => ?_)
  · refine a_iload_n F dX11_pipe_8 rfl 1 rfl ?_
    refine a_if_ge F hf (tgt := 14) dX11_pipe_9 (by decide) (fun hf => ?_) (fun hf => ?_)
    · refine a_iconst F dX11_pipe_12 ?_
      cases hf
      exact hr _ _ rfl _ _ dX11_pipe_13
    · refine a_iload_n F dX11_pipe_14 rfl 2 rfl ?_
      refine a_if_ne F hf (tgt := 27) dX11_pipe_15 (by decide) (fun hf => ?_) (fun hf => ?_)
      · refine a_aload_n F dX11_pipe_18 rfl 0 rfl ?_
        refine a_getR F (j := 46) tM_0 rfl rfl (by decide) inW11 w_761 dX11_pipe_19 ?_
        refine a_iload_n F dX11_pipe_22 rfl 1 rfl ?_
        refine a_iald F tM_25 rfl (by decide) hf dX11_pipe_23 (fun hf => ?_)
        refine a_goto F (tgt := 67) dX11_pipe_24 (by decide) ?_
        cases hf
        exact hr _ _ rfl _ _ dX11_pipe_67
      · refine a_iload_n F dX11_pipe_27 rfl 2 rfl ?_
        refine a_iconst F dX11_pipe_28 ?_
        refine a_icmp_ne F hf (tgt := 41) dX11_pipe_29 (by decide) (fun hf => ?_) (fun hf => ?_)
        · refine a_aload_n F dX11_pipe_32 rfl 0 rfl ?_
          refine a_getR F (j := 47) tM_0 rfl rfl (by decide) inW11 w_762 dX11_pipe_33 ?_
          refine a_iload_n F dX11_pipe_36 rfl 1 rfl ?_
          refine a_iald F tM_26 rfl (by decide) hf dX11_pipe_37 (fun hf => ?_)
          refine a_goto F (tgt := 67) dX11_pipe_38 (by decide) ?_
          cases hf
          exact hr _ _ rfl _ _ dX11_pipe_67
        · refine a_iload_n F dX11_pipe_41 rfl 2 rfl ?_
          refine a_iconst F dX11_pipe_42 ?_
          refine a_icmp_ne F hf (tgt := 66) dX11_pipe_43 (by decide) (fun hf => ?_) (fun hf => ?_)
          · refine a_aload_n F dX11_pipe_46 rfl 0 rfl ?_
            refine a_aload_n F dX11_pipe_47 rfl 0 rfl ?_
            refine a_getR F (j := 46) tM_0 rfl rfl (by decide) inW11 w_761 dX11_pipe_48 ?_
            refine a_iload_n F dX11_pipe_51 rfl 1 rfl ?_
            refine a_iald F tM_25 rfl (by decide) hf dX11_pipe_52 (fun hf => ?_)
            refine a_aload_n F dX11_pipe_53 rfl 0 rfl ?_
            refine a_getR F (j := 47) tM_0 rfl rfl (by decide) inW11 w_762 dX11_pipe_54 ?_
            refine a_iload_n F dX11_pipe_57 rfl 1 rfl ?_
            refine a_iald F tM_26 rfl (by decide) hf dX11_pipe_58 (fun hf => ?_)
            refine a_callVLr F lk_RX11_276 tM_0 rfl c_X11_apart rfl rfl ⟨rfl, rfl⟩ ⟨Nat.le_of_ble_eq_true rfl, Nat.le_of_ble_eq_true rfl⟩ rfl (Nat.le_of_ble_eq_true rfl) dX11_pipe_59 hf (fun r_3 hf => ?_)
            refine a_l2i F dX11_pipe_62 ?_
            refine a_goto F (tgt := 67) dX11_pipe_63 (by decide) ?_
            cases hf
            exact hr _ _ rfl _ _ dX11_pipe_67
          · refine a_iconst F dX11_pipe_66 ?_
            cases hf
            exact hr _ _ rfl _ _ dX11_pipe_67
  · refine a_iconst F dX11_pipe_12 ?_
    cases hf
    exact hr _ _ rfl _ _ dX11_pipe_13
set_option maxRecDepth 100000 in
set_option maxHeartbeats 4000000 in
theorem c_X11_pipe {l : Launch}  {σ : St} {x1 x2 : Int} : CtrI vwCl WS NWs TM l yX11_pipe cX11_pipe 3 (some .int) rm_X11_pipe (fun ad => [.ref (ad 0), iv x1, iv x2]) σ (f_X11_pipe σ x1 x2) := by
  refine ctrI_of (by decide +kernel) (fun ad => Nat.le_of_ble_eq_true rfl) (fun v σ' ad X hf F K => ?_)
  exact k_X11_pipe_b0 F hf (fun v τ e => by cases e; exact K)
abbrev rm_X11_rectangle : Room := { frames := 1, cells := 0, slots := 0, locals := 22 }
set_option maxRecDepth 100000 in
set_option maxHeartbeats 4000000 in
theorem k_X11_rectangle_b28 {l : Launch} {ad : Nat → Nat} {X : Cx} (F : Ok vwCl WS NWs TM cX11_rectangle 4 yX11_rectangle.cls (some .boolean) ad l X) {σ : St} {x1 x2 x3 : Int} {y : (Int ⊕ (Unit ⊕ Unit))} (hf : f_X11_rectangle_b28 σ x1 x2 x3 = some y) (hn : ∀ z3, y = .inl z3 → At vwCl TM 4 rm_X11_rectangle ad X σ [(0, .ref (ad 0)), (1, iv x1), (2, iv x2), (3, iv z3)] [] 28) (hx0 : y = .inr (.inl ()) → At vwCl TM 4 rm_X11_rectangle ad X σ [] [] 63) (hx1 : y = .inr (.inr (())) → At vwCl TM 4 rm_X11_rectangle ad X σ [(0, .ref (ad 0)), (1, iv x1), (2, iv x2)] [] 71) : At vwCl TM 4 rm_X11_rectangle ad X σ [(0, .ref (ad 0)), (1, iv x1), (2, iv x2), (3, iv x3)] [] 28 := by
  unfold f_X11_rectangle_b28 at hf
  refine a_iload_n F dX11_rectangle_28 rfl 3 rfl ?_
  refine a_bipush F dX11_rectangle_29 (by decide +kernel) ?_
  refine a_icmp_ge F hf (tgt := 71) dX11_rectangle_31 (by decide) (fun hf => ?_) (fun hf => ?_)
  · refine a_aload_n F dX11_rectangle_34 rfl 0 rfl ?_
    refine a_getR F (j := 3) tM_0 rfl rfl (by decide) inW11 w_526 dX11_rectangle_35 ?_
    refine a_iload_n F dX11_rectangle_38 rfl 3 rfl ?_
    refine a_zald F tM_1 rfl (by decide) hf dX11_rectangle_39 (fun hf => ?_)
    refine a_if_eq F hf (tgt := 65) dX11_rectangle_40 (by decide) (fun hf => ?_) (fun hf => ?_)
    · refine a_iinc F hf dX11_rectangle_65 3 rfl (by decide) (fun x3_2 hf => ⟨[(3, iv x3_2), (0, .ref (ad 0)), (1, iv x1), (2, iv x2)], rfl, ?_⟩)
      refine a_goto F (tgt := 28) dX11_rectangle_68 (by decide) ?_
      cases hf
      exact a_sub [1, 2, 3, 0] rfl (hn _ rfl)
    · refine a_aload_n F dX11_rectangle_43 rfl 0 rfl ?_
      refine a_getR F (j := 4) tM_0 rfl rfl (by decide) inW11 w_539 dX11_rectangle_44 ?_
      refine a_iload_n F dX11_rectangle_47 rfl 3 rfl ?_
      refine a_iald F tM_2 rfl (by decide) hf dX11_rectangle_48 (fun hf => ?_)
      refine a_iload_n F dX11_rectangle_49 rfl 1 rfl ?_
      refine a_icmp_gt F hf (tgt := 63) dX11_rectangle_50 (by decide) (fun hf => ?_) (fun hf => ?_)
      · cases hf
        exact a_sub [] rfl (hx0  rfl)
      · refine a_aload_n F dX11_rectangle_53 rfl 0 rfl ?_
        refine a_getR F (j := 5) tM_0 rfl rfl (by decide) inW11 w_540 dX11_rectangle_54 ?_
        refine a_iload_n F dX11_rectangle_57 rfl 3 rfl ?_
        refine a_iald F tM_3 rfl (by decide) hf dX11_rectangle_58 (fun hf => ?_)
        refine a_iload_n F dX11_rectangle_59 rfl 2 rfl ?_
        refine a_icmp_le F hf (tgt := 65) dX11_rectangle_60 (by decide) (fun hf => ?_) (fun hf => ?_)
        · cases hf
          exact a_sub [] rfl (hx0  rfl)
        · refine a_iinc F hf dX11_rectangle_65 3 rfl (by decide) (fun x3_3 hf => ⟨[(3, iv x3_3), (0, .ref (ad 0)), (1, iv x1), (2, iv x2)], rfl, ?_⟩)
          refine a_goto F (tgt := 28) dX11_rectangle_68 (by decide) ?_
          cases hf
          exact a_sub [1, 2, 3, 0] rfl (hn _ rfl)
  · cases hf
    exact a_sub [0, 1, 2] rfl (hx1  rfl)
set_option maxRecDepth 100000 in
set_option maxHeartbeats 4000000 in
theorem k_X11_rectangle_b0 {l : Launch} {ad : Nat → Nat} {X : Cx} (F : Ok vwCl WS NWs TM cX11_rectangle 4 yX11_rectangle.cls (some .boolean) ad l X) {σ : St} {x1 x2 : Int} {y : (Int × St)} (hf : f_X11_rectangle_b0 σ x1 x2 = some y) (hr : ∀ v τ, y = (v, τ) → RetI vwCl TM cX11_rectangle 4 rm_X11_rectangle ad X v τ) : At vwCl TM 4 rm_X11_rectangle ad X σ [(0, .ref (ad 0)), (1, iv x1), (2, iv x2)] [] 0 := by
  unfold f_X11_rectangle_b0 at hf
  refine a_iload_n F dX11_rectangle_0 rfl 1 rfl ?_
  refine a_iconst F dX11_rectangle_1 ?_
  refine a_icmp_lt F hf (tgt := 24) dX11_rectangle_2 (by decide) (fun hf => ?_) (fun hf => ?_)
  · refine a_iconst F dX11_rectangle_24 ?_
    cases hf
    exact hr _ _ rfl _ _ dX11_rectangle_25
  · refine a_iload_n F dX11_rectangle_5 rfl 1 rfl ?_
    refine a_sipush F dX11_rectangle_6 (by decide +kernel) ?_
    refine a_icmp_gt F hf (tgt := 24) dX11_rectangle_9 (by decide) (fun hf => ?_) (fun hf => ?_)
    · refine a_iconst F dX11_rectangle_24 ?_
      cases hf
      exact hr _ _ rfl _ _ dX11_rectangle_25
    · refine a_iload_n F dX11_rectangle_12 rfl 2 rfl ?_
      refine a_iconst F dX11_rectangle_13 ?_
      refine a_icmp_lt F hf (tgt := 24) dX11_rectangle_14 (by decide) (fun hf => ?_) (fun hf => ?_)
      · refine a_iconst F dX11_rectangle_24 ?_
        cases hf
        exact hr _ _ rfl _ _ dX11_rectangle_25
      · refine a_iload_n F dX11_rectangle_17 rfl 2 rfl ?_
        refine a_sipush F dX11_rectangle_18 (by decide +kernel) ?_
        refine a_icmp_le F hf (tgt := 26) dX11_rectangle_21 (by decide) (fun hf => ?_) (fun hf => ?_)
        · refine a_iconst F dX11_rectangle_24 ?_
          cases hf
          exact hr _ _ rfl _ _ dX11_rectangle_25
        · refine a_iconst F dX11_rectangle_26 ?_
          refine a_topI hf (fun x3_1 hf => ?_)
          refine a_istore_n F (lv' := [(3, iv x3_1), (0, .ref (ad 0)), (1, iv x1), (2, iv x2)]) dX11_rectangle_27 rfl (by decide) rfl ?_
          obtain ⟨q0, he, hf⟩ := jbind_elim hf
          refine a_sub [1, 2, 3, 0] rfl (loop_rule (P := (fun q => ∀ z3, z3 = q → At vwCl TM 4 rm_X11_rectangle ad X σ [(0, .ref (ad 0)), (1, iv x1), (2, iv x2), (3, iv z3)] [] 28)) (K := (fun q => (.inl () = q → At vwCl TM 4 rm_X11_rectangle ad X σ [] [] 63) ∧ (.inr (()) = q → At vwCl TM 4 rm_X11_rectangle ad X σ [(0, .ref (ad 0)), (1, iv x1), (2, iv x2)] [] 71))) ?_ 1000 _ _ he ?_ _ rfl)
          · intro q y hy hn hx z3 e
            subst e
            exact k_X11_rectangle_b28 F hy (fun z3 e => hn _ e _ rfl) (fun  e => (hx _ e).1  rfl) (fun  e => (hx _ e).2  rfl)
          · refine ⟨?_, ?_⟩
            · intro  e
              subst e
              refine a_iconst F dX11_rectangle_63 ?_
              cases hf
              exact hr _ _ rfl _ _ dX11_rectangle_64
            · intro  e
              subst e
              refine a_aload_n F dX11_rectangle_71 rfl 0 rfl ?_
              refine a_callVV F lk_RX11_131 tM_0 rfl c_X11_keeps rfl rfl ⟨rfl, rfl⟩ ⟨Nat.le_of_ble_eq_true rfl, Nat.le_of_ble_eq_true rfl⟩ rfl (Nat.le_of_ble_eq_true rfl) dX11_rectangle_72 hf (fun σ_4 hf => ?_)
              refine a_aload_n F dX11_rectangle_75 rfl 0 rfl ?_
              refine a_iload_n F dX11_rectangle_76 rfl 1 rfl ?_
              refine a_putI F (j := 0) tM_0 rfl rfl (by decide) inW11 w_559 tyX11 tyX11_ok nmX11 rfl rfl hf dX11_rectangle_77 (fun σ_5 hf => ?_)
              refine a_aload_n F dX11_rectangle_80 rfl 0 rfl ?_
              refine a_iload_n F dX11_rectangle_81 rfl 2 rfl ?_
              refine a_putI F (j := 1) tM_0 rfl rfl (by decide) inW11 w_560 tyX11 tyX11_ok nmX11 rfl rfl hf dX11_rectangle_82 (fun σ_6 hf => ?_)
              refine a_iconst F dX11_rectangle_85 ?_
              cases hf
              exact hr _ _ rfl _ _ dX11_rectangle_86
set_option maxRecDepth 100000 in
set_option maxHeartbeats 4000000 in
theorem c_X11_rectangle {l : Launch}  {σ : St} {x1 x2 : Int} : CtrI vwCl WS NWs TM l yX11_rectangle cX11_rectangle 4 (some .boolean) rm_X11_rectangle (fun ad => [.ref (ad 0), iv x1, iv x2]) σ (f_X11_rectangle σ x1 x2) := by
  refine ctrZ_of (fun v σ' h => jzw_z h) (by decide +kernel) (fun ad => Nat.le_of_ble_eq_true rfl) (fun v σ' ad X hf F K => ?_)
  exact k_X11_rectangle_b0 F (jzw_e hf) (fun v τ e => by cases e; exact K)
abbrev rm_X11_ring : Room := { frames := 4, cells := 0, slots := 0, locals := 112 }
set_option maxRecDepth 100000 in
set_option maxHeartbeats 4000000 in
theorem k_X11_ring_b0 {l : Launch} {ad : Nat → Nat} {X : Cx} (F : Ok vwCl WS NWs TM cX11_ring 2 yX11_ring.cls (some .int) ad l X) {σ : St} {x1 : Int} {y : (Int × St)} (hf : f_X11_ring_b0 σ x1 = some y) (hr : ∀ v τ, y = (v, τ) → RetI vwCl TM cX11_ring 2 rm_X11_ring ad X v τ) : At vwCl TM 2 rm_X11_ring ad X σ [(0, .ref (ad 0)), (1, iv x1)] [] 0 := by
  unfold f_X11_ring_b0 at hf
  refine a_aload_n F dX11_ring_0 rfl 0 rfl ?_
  refine a_callVV F lk_RX11_263 tM_0 rfl c_X11_ringsOf rfl rfl ⟨rfl, rfl⟩ ⟨Nat.le_of_ble_eq_true rfl, Nat.le_of_ble_eq_true rfl⟩ rfl (Nat.le_of_ble_eq_true rfl) dX11_ring_1 hf (fun σ_1 hf => ?_)
  refine a_iload_n F dX11_ring_4 rfl 1 rfl ?_
  refine a_if_lt F hf (tgt := 25) dX11_ring_5 (by decide) (fun hf => ?_) (fun hf => ?_)
  · refine a_iconst F dX11_ring_25 ?_
    cases hf
    exact hr _ _ rfl _ _ dX11_ring_26
  · refine a_iload_n F dX11_ring_8 rfl 1 rfl ?_
    refine a_aload_n F dX11_ring_9 rfl 0 rfl ?_
    refine a_getI F (j := 29) tM_0 rfl rfl (by decide) inW11 w_711 dX11_ring_10 ?_
    refine a_icmp_ge F hf (tgt := 25) dX11_ring_13 (by decide) (fun hf => ?_) (fun hf => ?_)
    · refine a_aload_n F dX11_ring_16 rfl 0 rfl ?_
      refine a_getR F (j := 30) tM_0 rfl rfl (by decide) inW11 w_716 dX11_ring_17 ?_
      refine a_iload_n F dX11_ring_20 rfl 1 rfl ?_
      refine a_iald F tM_21 rfl (by decide) hf dX11_ring_21 (fun hf => ?_)
      refine a_goto F (tgt := 26) dX11_ring_22 (by decide) ?_
      cases hf
      exact hr _ _ rfl _ _ dX11_ring_26
    · refine a_iconst F dX11_ring_25 ?_
      cases hf
      exact hr _ _ rfl _ _ dX11_ring_26
set_option maxRecDepth 100000 in
set_option maxHeartbeats 4000000 in
theorem c_X11_ring {l : Launch}  {σ : St} {x1 : Int} : CtrI vwCl WS NWs TM l yX11_ring cX11_ring 2 (some .int) rm_X11_ring (fun ad => [.ref (ad 0), iv x1]) σ (f_X11_ring σ x1) := by
  refine ctrI_of (by decide +kernel) (fun ad => Nat.le_of_ble_eq_true rfl) (fun v σ' ad X hf F K => ?_)
  exact k_X11_ring_b0 F hf (fun v τ e => by cases e; exact K)
abbrev rm_X11_rings : Room := { frames := 4, cells := 0, slots := 0, locals := 112 }
set_option maxRecDepth 100000 in
set_option maxHeartbeats 4000000 in
theorem k_X11_rings_b0 {l : Launch} {ad : Nat → Nat} {X : Cx} (F : Ok vwCl WS NWs TM cX11_rings 1 yX11_rings.cls (some .int) ad l X) {σ : St} {y : (Int × St)} (hf : f_X11_rings_b0 σ = some y) (hr : ∀ v τ, y = (v, τ) → RetI vwCl TM cX11_rings 1 rm_X11_rings ad X v τ) : At vwCl TM 1 rm_X11_rings ad X σ [(0, .ref (ad 0))] [] 0 := by
  unfold f_X11_rings_b0 at hf
  refine a_aload_n F dX11_rings_0 rfl 0 rfl ?_
  refine a_callVV F lk_RX11_263 tM_0 rfl c_X11_ringsOf rfl rfl ⟨rfl, rfl⟩ ⟨Nat.le_of_ble_eq_true rfl, Nat.le_of_ble_eq_true rfl⟩ rfl (Nat.le_of_ble_eq_true rfl) dX11_rings_1 hf (fun σ_1 hf => ?_)
  refine a_aload_n F dX11_rings_4 rfl 0 rfl ?_
  refine a_getI F (j := 29) tM_0 rfl rfl (by decide) inW11 w_711 dX11_rings_5 ?_
  cases hf
  exact hr _ _ rfl _ _ dX11_rings_8
set_option maxRecDepth 100000 in
set_option maxHeartbeats 4000000 in
theorem c_X11_rings {l : Launch}  {σ : St} : CtrI vwCl WS NWs TM l yX11_rings cX11_rings 1 (some .int) rm_X11_rings (fun ad => [.ref (ad 0)]) σ (f_X11_rings σ) := by
  refine ctrI_of (by decide +kernel) (fun ad => Nat.le_of_ble_eq_true rfl) (fun v σ' ad X hf F K => ?_)
  exact k_X11_rings_b0 F hf (fun v τ e => by cases e; exact K)
abbrev rm_X11_round : Room := { frames := 4, cells := 0, slots := 0, locals := 112 }
set_option maxRecDepth 100000 in
set_option maxHeartbeats 4000000 in
theorem k_X11_round_b0 {l : Launch} {ad : Nat → Nat} {X : Cx} (F : Ok vwCl WS NWs TM cX11_round 3 yX11_round.cls (some .long) ad l X) {σ : St} {x1 x2 : Int} {y : (Int × St)} (hf : f_X11_round_b0 σ x1 x2 = some y) (hr : ∀ v τ, y = (v, τ) → RetL vwCl TM cX11_round 3 rm_X11_round ad X v τ) : At vwCl TM 3 rm_X11_round ad X σ [(0, .ref (ad 0)), (1, iv x1), (2, iv x2)] [] 0 := by
  unfold f_X11_round_b0 at hf
  refine a_aload_n F dX11_round_0 rfl 0 rfl ?_
  refine a_callVV F lk_RX11_263 tM_0 rfl c_X11_ringsOf rfl rfl ⟨rfl, rfl⟩ ⟨Nat.le_of_ble_eq_true rfl, Nat.le_of_ble_eq_true rfl⟩ rfl (Nat.le_of_ble_eq_true rfl) dX11_round_1 hf (fun σ_1 hf => ?_)
  refine a_iload_n F dX11_round_4 rfl 1 rfl ?_
  refine a_if_lt F hf (tgt := 16) dX11_round_5 (by decide) (fun hf => ?_) (fun hf => ?_)
  · refine a_ldc2 F (n := (-1)) (by decide +kernel) w_558 dX11_round_16 ?_
    cases hf
    exact hr _ _ rfl _ _ dX11_round_19
  · refine a_iload_n F dX11_round_8 rfl 1 rfl ?_
    refine a_aload_n F dX11_round_9 rfl 0 rfl ?_
    refine a_getI F (j := 29) tM_0 rfl rfl (by decide) inW11 w_711 dX11_round_10 ?_
    refine a_icmp_lt F hf (tgt := 20) dX11_round_13 (by decide) (fun hf => ?_) (fun hf => ?_)
    · refine a_aload_n F dX11_round_20 rfl 0 rfl ?_
      refine a_iload_n F dX11_round_21 rfl 1 rfl ?_
      refine a_callVV F lk_RX11_287 tM_0 rfl c_X11_middle rfl rfl ⟨rfl, rfl⟩ ⟨Nat.le_of_ble_eq_true rfl, Nat.le_of_ble_eq_true rfl⟩ rfl (Nat.le_of_ble_eq_true rfl) dX11_round_22 hf (fun σ_2 hf => ?_)
      refine a_aload_n F dX11_round_25 rfl 0 rfl ?_
      refine a_iload_n F dX11_round_26 rfl 2 rfl ?_
      refine a_callVLr F lk_RX11_290 tM_0 rfl c_X11_middleTold rfl rfl ⟨rfl, rfl⟩ ⟨Nat.le_of_ble_eq_true rfl, Nat.le_of_ble_eq_true rfl⟩ rfl (Nat.le_of_ble_eq_true rfl) dX11_round_27 hf (fun r_3 hf => ?_)
      cases hf
      exact hr _ _ rfl _ _ dX11_round_30
    · refine a_ldc2 F (n := (-1)) (by decide +kernel) w_558 dX11_round_16 ?_
      cases hf
      exact hr _ _ rfl _ _ dX11_round_19
set_option maxRecDepth 100000 in
set_option maxHeartbeats 4000000 in
theorem c_X11_round {l : Launch}  {σ : St} {x1 x2 : Int} : CtrL vwCl WS NWs TM l yX11_round cX11_round 3 (some .long) rm_X11_round (fun ad => [.ref (ad 0), iv x1, iv x2]) σ (f_X11_round σ x1 x2) := by
  refine ctrL_of (by decide +kernel) (fun ad => Nat.le_of_ble_eq_true rfl) (fun v σ' ad X hf F K => ?_)
  exact k_X11_round_b0 F hf (fun v τ e => by cases e; exact K)
abbrev rm_X11_season : Room := { frames := 0, cells := 0, slots := 0, locals := 0 }
set_option maxRecDepth 100000 in
set_option maxHeartbeats 4000000 in
theorem k_X11_season_b0 {l : Launch} {ad : Nat → Nat} {X : Cx} (F : Ok vwCl WS NWs TM cX11_season 3 yX11_season.cls (some .int) ad l X) {σ : St} {x1 : Int} {y : (Int × St)} (hf : f_X11_season_b0 σ x1 = some y) (hr : ∀ v τ, y = (v, τ) → RetI vwCl TM cX11_season 3 rm_X11_season ad X v τ) : At vwCl TM 3 rm_X11_season ad X σ [(0, .ref (ad 0)), (1, iv x1)] [] 0 := by
  unfold f_X11_season_b0 at hf
  refine a_iload_n F dX11_season_0 rfl 1 rfl ?_
  refine a_if_lt F hf (tgt := 9) dX11_season_1 (by decide) (fun hf => ?_) (fun hf => ?_)
  · refine a_iconst F dX11_season_9 ?_
    cases hf
    exact hr _ _ rfl _ _ dX11_season_10
  · refine a_iload_n F dX11_season_4 rfl 1 rfl ?_
    refine a_iconst F dX11_season_5 ?_
    refine a_icmp_le F hf (tgt := 11) dX11_season_6 (by decide) (fun hf => ?_) (fun hf => ?_)
    · refine a_iconst F dX11_season_9 ?_
      cases hf
      exact hr _ _ rfl _ _ dX11_season_10
    · refine a_aload_n F dX11_season_11 rfl 0 rfl ?_
      refine a_getI F (j := 2) tM_0 rfl rfl (by decide) inW11 w_534 dX11_season_12 ?_
      refine a_topI hf (fun x2_1 hf => ?_)
      refine a_istore_n F (lv' := [(2, iv x2_1), (0, .ref (ad 0)), (1, iv x1)]) dX11_season_15 rfl (by decide) rfl ?_
      refine a_aload_n F dX11_season_16 rfl 1 rfl ?_
      refine a_iload_n F dX11_season_17 rfl 2 rfl ?_
      refine a_putI F (j := 2) tM_0 rfl rfl (by decide) inW11 w_534 tyX11 tyX11_ok nmX11 rfl rfl hf dX11_season_18 (fun σ_2 hf => ?_)
      refine a_iload_n F dX11_season_21 rfl 0 rfl ?_
      cases hf
      exact hr _ _ rfl _ _ dX11_season_22
set_option maxRecDepth 100000 in
set_option maxHeartbeats 4000000 in
theorem c_X11_season {l : Launch}  {σ : St} {x1 : Int} : CtrI vwCl WS NWs TM l yX11_season cX11_season 3 (some .int) rm_X11_season (fun ad => [.ref (ad 0), iv x1]) σ (f_X11_season σ x1) := by
  refine ctrI_of (by decide +kernel) (fun ad => Nat.le_of_ble_eq_true rfl) (fun v σ' ad X hf F K => ?_)
  exact k_X11_season_b0 F hf (fun v τ e => by cases e; exact K)
abbrev rm_X11_serves : Room := { frames := 2, cells := 0, slots := 0, locals := 49 }
set_option maxRecDepth 100000 in
set_option maxHeartbeats 4000000 in
theorem k_X11_serves_b71 {l : Launch} {ad : Nat → Nat} {X : Cx} (F : Ok vwCl WS NWs TM cX11_serves 10 yX11_serves.cls (some .int) ad l X) {σ : St} {x1 x2 x3 x4 x5 x7 x8 : Int} {y : ((Int × Int × Int) ⊕ Int)} (hf : f_X11_serves_b71 σ x1 x2 x3 x4 x5 x7 x8 = some y) (hn : ∀ z4 z5 z7, y = .inl (z4, z5, z7) → At vwCl TM 10 rm_X11_serves ad X σ [(0, .ref (ad 0)), (1, iv x1), (2, iv x2), (3, iv x3), (4, iv z4), (5, jv z5), (7, iv z7)] [] 21) : At vwCl TM 10 rm_X11_serves ad X σ [(0, .ref (ad 0)), (1, iv x1), (2, iv x2), (3, iv x3), (4, iv x4), (5, jv x5), (7, iv x7), (8, jv x8)] [] 71 := by
  unfold f_X11_serves_b71 at hf
  refine a_lload F dX11_serves_71 7 rfl ?_
  refine a_lload F dX11_serves_73 5 rfl ?_
  refine a_lcmp_ne F hf (tgt := 88) dX11_serves_75 dX11_serves_76 (by decide) (fun hf => ?_) (fun hf => ?_)
  · refine a_iload F dX11_serves_79 4 rfl ?_
    refine a_iconst F dX11_serves_81 ?_
    refine a_iload F dX11_serves_82 6 rfl ?_
    refine a_ishl F dX11_serves_84 ?_
    refine a_ior F dX11_serves_85 ?_
    refine a_topI hf (fun x4_11 hf => ?_)
    refine a_istore F (lv' := [(4, iv x4_11), (0, .ref (ad 0)), (1, iv x1), (2, iv x2), (3, iv x3), (5, jv x5), (7, iv x7), (8, jv x8)]) dX11_serves_86 (by decide) rfl ?_
    refine a_iinc F hf dX11_serves_88 6 rfl (by decide) (fun x7_12 hf => ⟨[(7, iv x7_12), (4, iv x4_11), (0, .ref (ad 0)), (1, iv x1), (2, iv x2), (3, iv x3), (5, jv x5), (8, jv x8)], rfl, ?_⟩)
    refine a_goto F (tgt := 21) dX11_serves_91 (by decide) ?_
    cases hf
    exact a_sub [2, 3, 4, 5, 1, 6, 0] rfl (hn _ _ _ rfl)
  · refine a_iinc F hf dX11_serves_88 6 rfl (by decide) (fun x7_10 hf => ⟨[(7, iv x7_10), (0, .ref (ad 0)), (1, iv x1), (2, iv x2), (3, iv x3), (4, iv x4), (5, jv x5), (8, jv x8)], rfl, ?_⟩)
    refine a_goto F (tgt := 21) dX11_serves_91 (by decide) ?_
    cases hf
    exact a_sub [1, 2, 3, 4, 5, 6, 0] rfl (hn _ _ _ rfl)
set_option maxRecDepth 100000 in
set_option maxHeartbeats 4000000 in
theorem k_X11_serves_b64 {l : Launch} {ad : Nat → Nat} {X : Cx} (F : Ok vwCl WS NWs TM cX11_serves 10 yX11_serves.cls (some .int) ad l X) {σ : St} {x1 x2 x3 x7 x8 : Int} {y : ((Int × Int × Int) ⊕ Int)} (hf : f_X11_serves_b64 σ x1 x2 x3 x7 x8 = some y) (hn : ∀ z4 z5 z7, y = .inl (z4, z5, z7) → At vwCl TM 10 rm_X11_serves ad X σ [(0, .ref (ad 0)), (1, iv x1), (2, iv x2), (3, iv x3), (4, iv z4), (5, jv z5), (7, iv z7)] [] 21) : At vwCl TM 10 rm_X11_serves ad X σ [(0, .ref (ad 0)), (1, iv x1), (2, iv x2), (3, iv x3), (7, iv x7), (8, jv x8)] [] 64 := by
  unfold f_X11_serves_b64 at hf
  refine a_lload F dX11_serves_64 5 rfl ?_
  refine a_topJ hf (fun x5_8 hf => ?_)
  refine a_lstore F (lv' := [(5, jv x5_8), (0, .ref (ad 0)), (1, iv x1), (2, iv x2), (3, iv x3), (7, iv x7), (8, jv x8)]) dX11_serves_66 (by decide) rfl ?_
  refine a_iconst F dX11_serves_68 ?_
  refine a_topI hf (fun x4_9 hf => ?_)
  refine a_istore F (lv' := [(4, iv x4_9), (5, jv x5_8), (0, .ref (ad 0)), (1, iv x1), (2, iv x2), (3, iv x3), (7, iv x7), (8, jv x8)]) dX11_serves_69 (by decide) rfl ?_
  exact a_sub [2, 3, 4, 5, 0, 1, 6, 7] rfl (k_X11_serves_b71 F hf hn)
set_option maxRecDepth 100000 in
set_option maxHeartbeats 4000000 in
theorem k_X11_serves_b21 {l : Launch} {ad : Nat → Nat} {X : Cx} (F : Ok vwCl WS NWs TM cX11_serves 10 yX11_serves.cls (some .int) ad l X) {σ : St} {x1 x2 x3 x4 x5 x7 : Int} {y : ((Int × Int × Int) ⊕ Int)} (hf : f_X11_serves_b21 σ x1 x2 x3 x4 x5 x7 = some y) (hn : ∀ z4 z5 z7, y = .inl (z4, z5, z7) → At vwCl TM 10 rm_X11_serves ad X σ [(0, .ref (ad 0)), (1, iv x1), (2, iv x2), (3, iv x3), (4, iv z4), (5, jv z5), (7, iv z7)] [] 21) (hx0 : ∀ z4, y = .inr (z4) → At vwCl TM 10 rm_X11_serves ad X σ [(4, iv z4)] [] 94) : At vwCl TM 10 rm_X11_serves ad X σ [(0, .ref (ad 0)), (1, iv x1), (2, iv x2), (3, iv x3), (4, iv x4), (5, jv x5), (7, iv x7)] [] 21 := by
  unfold f_X11_serves_b21 at hf
  refine a_iload F dX11_serves_21 6 rfl ?_
  refine a_bipush F dX11_serves_23 (by decide +kernel) ?_
  refine a_icmp_ge F hf (tgt := 94) dX11_serves_25 (by decide) (fun hf => ?_) (fun hf => ?_)
  · refine a_aload_n F dX11_serves_28 rfl 0 rfl ?_
    refine a_iload F dX11_serves_29 6 rfl ?_
    refine a_callVIr F lk_RX11_148 tM_0 rfl c_X11_counts rfl rfl ⟨rfl, rfl⟩ ⟨Nat.le_of_ble_eq_true rfl, Nat.le_of_ble_eq_true rfl⟩ rfl (Nat.le_of_ble_eq_true rfl) dX11_serves_31 hf (fun r_5 hf => ?_)
    refine a_if_ne F hf (tgt := 40) dX11_serves_34 (by decide) (fun hf => ?_) (fun hf => ?_)
    · refine a_goto F (tgt := 88) dX11_serves_37 (by decide) ?_
      refine a_iinc F hf dX11_serves_88 6 rfl (by decide) (fun x7_13 hf => ⟨[(7, iv x7_13), (0, .ref (ad 0)), (1, iv x1), (2, iv x2), (3, iv x3), (4, iv x4), (5, jv x5)], rfl, ?_⟩)
      refine a_goto F (tgt := 21) dX11_serves_91 (by decide) ?_
      cases hf
      exact a_sub [1, 2, 3, 4, 5, 6, 0] rfl (hn _ _ _ rfl)
    · refine a_aload_n F dX11_serves_40 rfl 0 rfl ?_
      refine a_iload F dX11_serves_41 6 rfl ?_
      refine a_iload_n F dX11_serves_43 rfl 1 rfl ?_
      refine a_iload_n F dX11_serves_44 rfl 2 rfl ?_
      refine a_iload_n F dX11_serves_45 rfl 3 rfl ?_
      refine a_callVLr F lk_RX11_159 tM_0 rfl c_X11_cost rfl rfl ⟨rfl, rfl⟩ ⟨Nat.le_of_ble_eq_true rfl, Nat.le_of_ble_eq_true rfl⟩ rfl (Nat.le_of_ble_eq_true rfl) dX11_serves_46 hf (fun r_6 hf => ?_)
      refine a_topJ hf (fun x8_7 hf => ?_)
      refine a_lstore F (lv' := [(8, jv x8_7), (0, .ref (ad 0)), (1, iv x1), (2, iv x2), (3, iv x3), (4, iv x4), (5, jv x5), (7, iv x7)]) dX11_serves_49 (by decide) rfl ?_
      refine a_iload F dX11_serves_51 5 rfl ?_
      refine a_if_eq F hf (tgt := 64) dX11_serves_53 (by decide) (fun hf => ?_) (fun hf => ?_)
      · exact a_sub [1, 2, 3, 4, 7, 0] rfl (k_X11_serves_b64 F hf hn)
      · refine a_lload F dX11_serves_56 0 rfl ?_
        refine a_lload F dX11_serves_58 6 rfl ?_
        refine a_lcmp_ge F hf (tgt := 71) dX11_serves_60 dX11_serves_61 (by decide) (fun hf => ?_) (fun hf => ?_)
        · exact a_sub [1, 2, 3, 4, 7, 0] rfl (k_X11_serves_b64 F hf hn)
        · exact a_sub [1, 2, 3, 4, 5, 6, 7, 0] rfl (k_X11_serves_b71 F hf hn)
  · cases hf
    exact a_sub [4] rfl (hx0 _ rfl)
set_option maxRecDepth 100000 in
set_option maxHeartbeats 4000000 in
theorem k_X11_serves_b0 {l : Launch} {ad : Nat → Nat} {X : Cx} (F : Ok vwCl WS NWs TM cX11_serves 10 yX11_serves.cls (some .int) ad l X) {σ : St} {x1 x2 x3 : Int} {y : Int} (hf : f_X11_serves_b0 σ x1 x2 x3 = some y) (hr : RetI vwCl TM cX11_serves 10 rm_X11_serves ad X y σ) : At vwCl TM 10 rm_X11_serves ad X σ [(0, .ref (ad 0)), (1, iv x1), (2, iv x2), (3, iv x3)] [] 0 := by
  unfold f_X11_serves_b0 at hf
  refine a_aload_n F dX11_serves_0 rfl 0 rfl ?_
  refine a_iload_n F dX11_serves_1 rfl 1 rfl ?_
  refine a_iload_n F dX11_serves_2 rfl 2 rfl ?_
  refine a_iload_n F dX11_serves_3 rfl 3 rfl ?_
  refine a_callVIr F lk_RX11_155 tM_0 rfl c_X11_isPoint rfl rfl ⟨rfl, rfl⟩ ⟨Nat.le_of_ble_eq_true rfl, Nat.le_of_ble_eq_true rfl⟩ rfl (Nat.le_of_ble_eq_true rfl) dX11_serves_4 hf (fun r_1 hf => ?_)
  refine a_if_ne F hf (tgt := 12) dX11_serves_7 (by decide) (fun hf => ?_) (fun hf => ?_)
  · refine a_iconst F dX11_serves_10 ?_
    cases hf
    exact hr _ _ dX11_serves_11
  · refine a_iconst F dX11_serves_12 ?_
    refine a_topI hf (fun x4_2 hf => ?_)
    refine a_istore F (lv' := [(4, iv x4_2), (0, .ref (ad 0)), (1, iv x1), (2, iv x2), (3, iv x3)]) dX11_serves_13 (by decide) rfl ?_
    refine a_lconst F (n := 0) dX11_serves_15 (by decide +kernel) ?_
    refine a_topJ hf (fun x5_3 hf => ?_)
    refine a_lstore F (lv' := [(5, jv x5_3), (4, iv x4_2), (0, .ref (ad 0)), (1, iv x1), (2, iv x2), (3, iv x3)]) dX11_serves_16 (by decide) rfl ?_
    refine a_iconst F dX11_serves_18 ?_
    refine a_topI hf (fun x7_4 hf => ?_)
    refine a_istore F (lv' := [(7, iv x7_4), (5, jv x5_3), (4, iv x4_2), (0, .ref (ad 0)), (1, iv x1), (2, iv x2), (3, iv x3)]) dX11_serves_19 (by decide) rfl ?_
    obtain ⟨q0, he, hf⟩ := jbind_elim hf
    refine a_sub [3, 4, 5, 6, 2, 1, 0] rfl (loop_rule (P := (fun q => ∀ z4 z5 z7, (z4, z5, z7) = q → At vwCl TM 10 rm_X11_serves ad X σ [(0, .ref (ad 0)), (1, iv x1), (2, iv x2), (3, iv x3), (4, iv z4), (5, jv z5), (7, iv z7)] [] 21)) (K := (fun q => (∀ z4, z4 = q → At vwCl TM 10 rm_X11_serves ad X σ [(4, iv z4)] [] 94))) ?_ 1000 _ _ he ?_ _ _ _ rfl)
    · intro q y hy hn hx z4 z5 z7 e
      subst e
      exact k_X11_serves_b21 F hy (fun z4 z5 z7 e => hn _ e _ _ _ rfl) (fun z4 e => (hx _ e) _ rfl)
    · intro x4_14 e
      subst e
      refine a_iload F dX11_serves_94 0 rfl ?_
      cases hf
      exact hr _ _ dX11_serves_96
set_option maxRecDepth 100000 in
set_option maxHeartbeats 4000000 in
theorem c_X11_serves {l : Launch}  {σ : St} {x1 x2 x3 : Int} : CtrI vwCl WS NWs TM l yX11_serves cX11_serves 10 (some .int) rm_X11_serves (fun ad => [.ref (ad 0), iv x1, iv x2, iv x3]) σ (rd (f_X11_serves σ x1 x2 x3) σ) := by
  refine ctrI_of (by decide +kernel) (fun ad => Nat.le_of_ble_eq_true rfl) (fun v σ' ad X hf F K => ?_)
  obtain ⟨hf2, e2⟩ := rd_elim hf
  subst e2
  exact k_X11_serves_b0 F hf2 K
abbrev rm_X11_sheet : Room := { frames := 1, cells := 0, slots := 0, locals := 21 }
set_option maxRecDepth 100000 in
set_option maxHeartbeats 4000000 in
theorem k_X11_sheet_b30 {l : Launch} {ad : Nat → Nat} {X : Cx} (F : Ok vwCl WS NWs TM cX11_sheet 4 yX11_sheet.cls (some .boolean) ad l X) {σ : St} {x1 x3 : Int} {y : ((St × Int) ⊕ St)} (hf : f_X11_sheet_b30 σ x1 x3 = some y) (hn : ∀ τ z3, y = .inl (τ, z3) → At vwCl TM 4 rm_X11_sheet ad X τ [(0, .ref (ad 0)), (1, iv x1), (3, iv z3)] [] 30) (hx0 : ∀ τ, y = .inr (τ) → At vwCl TM 4 rm_X11_sheet ad X τ [] [] 54) : At vwCl TM 4 rm_X11_sheet ad X σ [(0, .ref (ad 0)), (1, iv x1), (3, iv x3)] [] 30 := by
  unfold f_X11_sheet_b30 at hf
  refine a_iload_n F dX11_sheet_30 rfl 2 rfl ?_
  refine a_bipush F dX11_sheet_31 (by decide +kernel) ?_
  refine a_icmp_ge F hf (tgt := 54) dX11_sheet_33 (by decide) (fun hf => ?_) (fun hf => ?_)
  · refine a_aload_n F dX11_sheet_36 rfl 0 rfl ?_
    refine a_getR F (j := 54) tM_0 rfl rfl (by decide) inW11 w_746 dX11_sheet_37 ?_
    refine a_bipush F dX11_sheet_40 (by decide +kernel) ?_
    refine a_iload_n F dX11_sheet_42 rfl 1 rfl ?_
    refine a_imul F dX11_sheet_43 ?_
    refine a_iload_n F dX11_sheet_44 rfl 2 rfl ?_
    refine a_iadd F dX11_sheet_45 ?_
    refine a_iconst F dX11_sheet_46 ?_
    refine a_iast F tM_32 rfl (by decide) hf dX11_sheet_47 (fun σ_4 hf => ?_)
    refine a_iinc F hf dX11_sheet_48 2 rfl (by decide) (fun x3_5 hf => ⟨[(3, iv x3_5), (0, .ref (ad 0)), (1, iv x1)], rfl, ?_⟩)
    refine a_goto F (tgt := 30) dX11_sheet_51 (by decide) ?_
    cases hf
    exact a_sub [1, 2, 0] rfl (hn _ _ rfl)
  · cases hf
    exact a_sub [] rfl (hx0 _ rfl)
set_option maxRecDepth 100000 in
set_option maxHeartbeats 4000000 in
theorem k_X11_sheet_b0 {l : Launch} {ad : Nat → Nat} {X : Cx} (F : Ok vwCl WS NWs TM cX11_sheet 4 yX11_sheet.cls (some .boolean) ad l X) {σ : St} {x1 x2 : Int} {y : (Int × St)} (hf : f_X11_sheet_b0 σ x1 x2 = some y) (hr : ∀ v τ, y = (v, τ) → RetI vwCl TM cX11_sheet 4 rm_X11_sheet ad X v τ) : At vwCl TM 4 rm_X11_sheet ad X σ [(0, .ref (ad 0)), (1, iv x1), (2, iv x2)] [] 0 := by
  unfold f_X11_sheet_b0 at hf
  refine a_aload_n F dX11_sheet_0 rfl 0 rfl ?_
  refine a_iload_n F dX11_sheet_1 rfl 1 rfl ?_
  refine a_callVIr F lk_RX11_352 tM_0 rfl c_X11_isSheet rfl rfl ⟨rfl, rfl⟩ ⟨Nat.le_of_ble_eq_true rfl, Nat.le_of_ble_eq_true rfl⟩ rfl (Nat.le_of_ble_eq_true rfl) dX11_sheet_2 hf (fun r_1 hf => ?_)
  refine a_if_eq F hf (tgt := 19) dX11_sheet_5 (by decide) (fun hf => ?_) (fun hf => ?_)
  · refine a_iconst F dX11_sheet_19 ?_
    cases hf
    exact hr _ _ rfl _ _ dX11_sheet_20
  · refine a_iload_n F dX11_sheet_8 rfl 2 rfl ?_
    refine a_iconst F dX11_sheet_9 ?_
    refine a_icmp_lt F hf (tgt := 19) dX11_sheet_10 (by decide) (fun hf => ?_) (fun hf => ?_)
    · refine a_iconst F dX11_sheet_19 ?_
      cases hf
      exact hr _ _ rfl _ _ dX11_sheet_20
    · refine a_iload_n F dX11_sheet_13 rfl 2 rfl ?_
      refine a_bipush F dX11_sheet_14 (by decide +kernel) ?_
      refine a_icmp_le F hf (tgt := 21) dX11_sheet_16 (by decide) (fun hf => ?_) (fun hf => ?_)
      · refine a_iconst F dX11_sheet_19 ?_
        cases hf
        exact hr _ _ rfl _ _ dX11_sheet_20
      · refine a_aload_n F dX11_sheet_21 rfl 0 rfl ?_
        refine a_getR F (j := 53) tM_0 rfl rfl (by decide) inW11 w_744 dX11_sheet_22 ?_
        refine a_iload_n F dX11_sheet_25 rfl 1 rfl ?_
        refine a_iload_n F dX11_sheet_26 rfl 2 rfl ?_
        refine a_iast F tM_31 rfl (by decide) hf dX11_sheet_27 (fun σ_2 hf => ?_)
        refine a_iconst F dX11_sheet_28 ?_
        refine a_topI hf (fun x3_3 hf => ?_)
        refine a_istore_n F (lv' := [(3, iv x3_3), (0, .ref (ad 0)), (1, iv x1), (2, iv x2)]) dX11_sheet_29 rfl (by decide) rfl ?_
        obtain ⟨q0, he, hf⟩ := jbind_elim hf
        refine a_sub [1, 2, 0] rfl (loop_rule (P := (fun q => ∀ τ z3, (τ, z3) = q → At vwCl TM 4 rm_X11_sheet ad X τ [(0, .ref (ad 0)), (1, iv x1), (3, iv z3)] [] 30)) (K := (fun q => (∀ τ, τ = q → At vwCl TM 4 rm_X11_sheet ad X τ [] [] 54))) ?_ 1000 _ _ he ?_ _ _ rfl)
        · intro q y hy hn hx τ z3 e
          subst e
          exact k_X11_sheet_b30 F hy (fun τ z3 e => hn _ e _ _ rfl) (fun τ e => (hx _ e) _ rfl)
        · intro σ_6 e
          subst e
          refine a_iconst F dX11_sheet_54 ?_
          cases hf
          exact hr _ _ rfl _ _ dX11_sheet_55
set_option maxRecDepth 100000 in
set_option maxHeartbeats 4000000 in
theorem c_X11_sheet {l : Launch}  {σ : St} {x1 x2 : Int} : CtrI vwCl WS NWs TM l yX11_sheet cX11_sheet 4 (some .boolean) rm_X11_sheet (fun ad => [.ref (ad 0), iv x1, iv x2]) σ (f_X11_sheet σ x1 x2) := by
  refine ctrZ_of (fun v σ' h => jzw_z h) (by decide +kernel) (fun ad => Nat.le_of_ble_eq_true rfl) (fun v σ' ad X hf F K => ?_)
  exact k_X11_sheet_b0 F (jzw_e hf) (fun v τ e => by cases e; exact K)
abbrev rm_X11_sink : Room := { frames := 2, cells := 0, slots := 0, locals := 46 }
set_option maxRecDepth 100000 in
set_option maxHeartbeats 4000000 in
theorem k_X11_sink_b0 {l : Launch} {ad : Nat → Nat} {X : Cx} (F : Ok vwCl WS NWs TM cX11_sink 6 yX11_sink.cls (some .int) ad l X) {σ : St} {x1 x2 x3 x4 : Int} {y : (Int × St)} (hf : f_X11_sink_b0 σ x1 x2 x3 x4 = some y) (hr : ∀ v τ, y = (v, τ) → RetI vwCl TM cX11_sink 6 rm_X11_sink ad X v τ) : At vwCl TM 6 rm_X11_sink ad X σ [(0, .ref (ad 0)), (1, iv x1), (2, iv x2), (3, iv x3), (4, iv x4)] [] 0 := by
  unfold f_X11_sink_b0 at hf
  refine a_aload_n F dX11_sink_0 rfl 0 rfl ?_
  refine a_iload_n F dX11_sink_1 rfl 1 rfl ?_
  refine a_iload_n F dX11_sink_2 rfl 2 rfl ?_
  refine a_iload_n F dX11_sink_3 rfl 3 rfl ?_
  refine a_iload F dX11_sink_4 4 rfl ?_
  refine a_callVI F lk_RX11_140 tM_0 rfl c_X11_sinks rfl rfl ⟨rfl, rfl⟩ ⟨Nat.le_of_ble_eq_true rfl, Nat.le_of_ble_eq_true rfl⟩ rfl (Nat.le_of_ble_eq_true rfl) dX11_sink_6 hf (fun r_1 σ_2 hf => ?_)
  refine a_topI hf (fun x5_3 hf => ?_)
  refine a_istore F (lv' := [(5, iv x5_3), (0, .ref (ad 0)), (1, iv x1), (2, iv x2), (3, iv x3), (4, iv x4)]) dX11_sink_9 (by decide) rfl ?_
  refine a_iload F dX11_sink_11 0 rfl ?_
  refine a_if_ge F hf (tgt := 19) dX11_sink_13 (by decide) (fun hf => ?_) (fun hf => ?_)
  · refine a_iload F dX11_sink_16 0 rfl ?_
    cases hf
    exact hr _ _ rfl _ _ dX11_sink_18
  · refine a_aload_n F dX11_sink_19 rfl 1 rfl ?_
    refine a_getR F (j := 3) tM_0 rfl rfl (by decide) inW11 w_526 dX11_sink_20 ?_
    refine a_iload F dX11_sink_23 0 rfl ?_
    refine a_iconst F dX11_sink_25 ?_
    refine a_zast F tM_1 rfl (by decide) hf dX11_sink_26 (fun σ_4 hf => ?_)
    refine a_aload_n F dX11_sink_27 rfl 1 rfl ?_
    refine a_callVV F lk_RX11_131 tM_0 rfl c_X11_keeps rfl rfl ⟨rfl, rfl⟩ ⟨Nat.le_of_ble_eq_true rfl, Nat.le_of_ble_eq_true rfl⟩ rfl (Nat.le_of_ble_eq_true rfl) dX11_sink_28 hf (fun σ_5 hf => ?_)
    refine a_aload_n F dX11_sink_31 rfl 1 rfl ?_
    refine a_getR F (j := 3) tM_0 rfl rfl (by decide) inW11 w_526 dX11_sink_32 ?_
    refine a_iload F dX11_sink_35 0 rfl ?_
    refine a_iconst F dX11_sink_37 ?_
    refine a_zast F tM_1 rfl (by decide) hf dX11_sink_38 (fun σ_6 hf => ?_)
    refine a_iload F dX11_sink_39 0 rfl ?_
    cases hf
    exact hr _ _ rfl _ _ dX11_sink_41
set_option maxRecDepth 100000 in
set_option maxHeartbeats 4000000 in
theorem c_X11_sink {l : Launch}  {σ : St} {x1 x2 x3 x4 : Int} : CtrI vwCl WS NWs TM l yX11_sink cX11_sink 6 (some .int) rm_X11_sink (fun ad => [.ref (ad 0), iv x1, iv x2, iv x3, iv x4]) σ (f_X11_sink σ x1 x2 x3 x4) := by
  refine ctrI_of (by decide +kernel) (fun ad => Nat.le_of_ble_eq_true rfl) (fun v σ' ad X hf F K => ?_)
  exact k_X11_sink_b0 F hf (fun v τ e => by cases e; exact K)
abbrev rm_X11_undo : Room := { frames := 1, cells := 0, slots := 0, locals := 22 }
set_option maxRecDepth 100000 in
set_option maxHeartbeats 4000000 in
theorem k_X11_undo_b0 {l : Launch} {ad : Nat → Nat} {X : Cx} (F : Ok vwCl WS NWs TM cX11_undo 1 yX11_undo.cls (some .int) ad l X) {σ : St} {y : (Int × St)} (hf : f_X11_undo_b0 σ = some y) (hr : ∀ v τ, y = (v, τ) → RetI vwCl TM cX11_undo 1 rm_X11_undo ad X v τ) : At vwCl TM 1 rm_X11_undo ad X σ [(0, .ref (ad 0))] [] 0 := by
  unfold f_X11_undo_b0 at hf
  refine a_aload_n F dX11_undo_0 rfl 0 rfl ?_
  refine a_getI F (j := 8) tM_0 rfl rfl (by decide) inW11 w_621 dX11_undo_1 ?_
  refine a_if_ne F hf (tgt := 9) dX11_undo_4 (by decide) (fun hf => ?_) (fun hf => ?_)
  · refine a_iconst F dX11_undo_7 ?_
    cases hf
    exact hr _ _ rfl _ _ dX11_undo_8
  · refine a_aload_n F dX11_undo_9 rfl 0 rfl ?_
    refine a_callVV F lk_RX11_121 tM_0 rfl c_X11_brings rfl rfl ⟨rfl, rfl⟩ ⟨Nat.le_of_ble_eq_true rfl, Nat.le_of_ble_eq_true rfl⟩ rfl (Nat.le_of_ble_eq_true rfl) dX11_undo_10 hf (fun σ_1 hf => ?_)
    refine a_aload_n F dX11_undo_13 rfl 0 rfl ?_
    refine a_getI F (j := 8) tM_0 rfl rfl (by decide) inW11 w_621 dX11_undo_14 ?_
    cases hf
    exact hr _ _ rfl _ _ dX11_undo_17
set_option maxRecDepth 100000 in
set_option maxHeartbeats 4000000 in
theorem c_X11_undo {l : Launch}  {σ : St} : CtrI vwCl WS NWs TM l yX11_undo cX11_undo 1 (some .int) rm_X11_undo (fun ad => [.ref (ad 0)]) σ (f_X11_undo σ) := by
  refine ctrI_of (by decide +kernel) (fun ad => Nat.le_of_ble_eq_true rfl) (fun v σ' ad X hf F K => ?_)
  exact k_X11_undo_b0 F hf (fun v τ e => by cases e; exact K)
abbrev rm_X11_well : Room := { frames := 2, cells := 0, slots := 0, locals := 42 }
set_option maxRecDepth 100000 in
set_option maxHeartbeats 4000000 in
theorem k_X11_well_b0 {l : Launch} {ad : Nat → Nat} {X : Cx} (F : Ok vwCl WS NWs TM cX11_well 3 yX11_well.cls (some .int) ad l X) {σ : St} {x1 x2 : Int} {y : Int} (hf : f_X11_well_b0 σ x1 x2 = some y) (hr : RetI vwCl TM cX11_well 3 rm_X11_well ad X y σ) : At vwCl TM 3 rm_X11_well ad X σ [(0, .ref (ad 0)), (1, iv x1), (2, iv x2)] [] 0 := by
  unfold f_X11_well_b0 at hf
  refine a_aload_n F dX11_well_0 rfl 0 rfl ?_
  refine a_iload_n F dX11_well_1 rfl 1 rfl ?_
  refine a_callVIr F lk_RX11_124 tM_0 rfl c_X11_isWell rfl rfl ⟨rfl, rfl⟩ ⟨Nat.le_of_ble_eq_true rfl, Nat.le_of_ble_eq_true rfl⟩ rfl (Nat.le_of_ble_eq_true rfl) dX11_well_2 hf (fun r_1 hf => ?_)
  refine a_if_ne F hf (tgt := 10) dX11_well_5 (by decide) (fun hf => ?_) (fun hf => ?_)
  · refine a_iconst F dX11_well_8 ?_
    cases hf
    exact hr _ _ dX11_well_9
  · refine a_iload_n F dX11_well_10 rfl 2 rfl ?_
    obtain ⟨hg9, hf⟩ := jchk_elim hf
    by_cases hq0 : x2 = 0
    · rw [if_pos hq0] at hf
      refine a_tableIn F (tgt := 40) hg9 dX11_well_11 (by omega) (by omega) (by rw [hq0]; rfl) (by decide) ?_
      refine a_aload_n F dX11_well_40 rfl 0 rfl ?_
      refine a_getR F (j := 4) tM_0 rfl rfl (by decide) inW11 w_539 dX11_well_41 ?_
      refine a_iload_n F dX11_well_44 rfl 1 rfl ?_
      refine a_iald F tM_2 rfl (by decide) hf dX11_well_45 (fun hf => ?_)
      cases hf
      exact hr _ _ dX11_well_46
    · rw [if_neg hq0] at hf
      by_cases hq1 : x2 = 1
      · rw [if_pos hq1] at hf
        refine a_tableIn F (tgt := 47) hg9 dX11_well_11 (by omega) (by omega) (by rw [hq1]; rfl) (by decide) ?_
        refine a_aload_n F dX11_well_47 rfl 0 rfl ?_
        refine a_getR F (j := 5) tM_0 rfl rfl (by decide) inW11 w_540 dX11_well_48 ?_
        refine a_iload_n F dX11_well_51 rfl 1 rfl ?_
        refine a_iald F tM_3 rfl (by decide) hf dX11_well_52 (fun hf => ?_)
        cases hf
        exact hr _ _ dX11_well_53
      · rw [if_neg hq1] at hf
        by_cases hq2 : x2 = 2
        · rw [if_pos hq2] at hf
          refine a_tableIn F (tgt := 54) hg9 dX11_well_11 (by omega) (by omega) (by rw [hq2]; rfl) (by decide) ?_
          refine a_aload_n F dX11_well_54 rfl 0 rfl ?_
          refine a_getR F (j := 6) tM_0 rfl rfl (by decide) inW11 w_532 dX11_well_55 ?_
          refine a_iload_n F dX11_well_58 rfl 1 rfl ?_
          refine a_iald F tM_4 rfl (by decide) hf dX11_well_59 (fun hf => ?_)
          cases hf
          exact hr _ _ dX11_well_60
        · rw [if_neg hq2] at hf
          by_cases hq3 : x2 = 3
          · rw [if_pos hq3] at hf
            refine a_tableIn F (tgt := 61) hg9 dX11_well_11 (by omega) (by omega) (by rw [hq3]; rfl) (by decide) ?_
            refine a_aload_n F dX11_well_61 rfl 0 rfl ?_
            refine a_iload_n F dX11_well_62 rfl 1 rfl ?_
            refine a_callVIr F lk_RX11_148 tM_0 rfl c_X11_counts rfl rfl ⟨rfl, rfl⟩ ⟨Nat.le_of_ble_eq_true rfl, Nat.le_of_ble_eq_true rfl⟩ rfl (Nat.le_of_ble_eq_true rfl) dX11_well_63 hf (fun r_2 hf => ?_)
            refine a_if_eq F hf (tgt := 73) dX11_well_66 (by decide) (fun hf => ?_) (fun hf => ?_)
            · refine a_iconst F dX11_well_73 ?_
              cases hf
              exact hr _ _ dX11_well_74
            · refine a_iconst F dX11_well_69 ?_
              refine a_goto F (tgt := 74) dX11_well_70 (by decide) ?_
              cases hf
              exact hr _ _ dX11_well_74
          · rw [if_neg hq3] at hf
            refine a_tableOut F (tgt := 75) hg9 dX11_well_11 (by omega) (by decide) ?_
            refine a_iconst F dX11_well_75 ?_
            cases hf
            exact hr _ _ dX11_well_76
set_option maxRecDepth 100000 in
set_option maxHeartbeats 4000000 in
theorem c_X11_well {l : Launch}  {σ : St} {x1 x2 : Int} : CtrI vwCl WS NWs TM l yX11_well cX11_well 3 (some .int) rm_X11_well (fun ad => [.ref (ad 0), iv x1, iv x2]) σ (rd (f_X11_well σ x1 x2) σ) := by
  refine ctrI_of (by decide +kernel) (fun ad => Nat.le_of_ble_eq_true rfl) (fun v σ' ad X hf F K => ?_)
  obtain ⟨hf2, e2⟩ := rd_elim hf
  subst e2
  exact k_X11_well_b0 F hf2 K
