abbrev rm_X11_meets : Room := { frames := 1, cells := 0, slots := 0, locals := 27 }
set_option maxRecDepth 100000 in
set_option maxHeartbeats 4000000 in
theorem k_X11_meets_b115 {l : Launch} {ad : Nat → Nat} {X : Cx} (F : Ok vwCl WS NWs TM cX11_meets 10 yX11_meets.cls none ad l X) {σ : St} {x3 x5 x7 x9 : Int} {y : (Int ⊕ (Unit ⊕ Unit))} (hf : f_X11_meets_b115 σ x3 x5 x7 x9 = some y) (hn : ∀ z9, y = .inl z9 → At vwCl TM 10 rm_X11_meets ad X σ [(0, .ref (ad 0)), (3, jv x3), (5, jv x5), (7, jv x7), (9, iv z9)] [] 115) (hx0 : y = .inr (.inl ()) → At vwCl TM 10 rm_X11_meets ad X σ [] [] 140) (hx1 : y = .inr (.inr (())) → At vwCl TM 10 rm_X11_meets ad X σ [(0, .ref (ad 0)), (3, jv x3), (5, jv x5), (7, jv x7)] [] 147) : At vwCl TM 10 rm_X11_meets ad X σ [(0, .ref (ad 0)), (3, jv x3), (5, jv x5), (7, jv x7), (9, iv x9)] [] 115 := by
  unfold f_X11_meets_b115 at hf
  refine a_iload F dX11_meets_115 4 rfl ?_
  refine a_aload_n F dX11_meets_117 rfl 0 rfl ?_
  refine a_getI F (j := 16) tM_0 rfl rfl (by decide) inW11 w_536 dX11_meets_118 ?_
  refine a_icmp_ge F hf (tgt := 147) dX11_meets_121 (by decide) (fun hf => ?_) (fun hf => ?_)
  · refine a_aload_n F dX11_meets_124 rfl 0 rfl ?_
    refine a_iload F dX11_meets_125 4 rfl ?_
    refine a_lload F dX11_meets_127 2 rfl ?_
    refine a_lload F dX11_meets_129 3 rfl ?_
    refine a_lload_n F dX11_meets_131 rfl 1 rfl ?_
    refine a_callVLr F lk_RX11_178 tM_0 rfl c_X11_over rfl rfl ⟨rfl, rfl⟩ ⟨Nat.le_of_ble_eq_true rfl, Nat.le_of_ble_eq_true rfl⟩ rfl (Nat.le_of_ble_eq_true rfl) dX11_meets_132 hf (fun r_5 hf => ?_)
    refine a_lconst F (n := 0) dX11_meets_135 (by decide +kernel) ?_
    refine a_lcmp_le F hf (tgt := 141) dX11_meets_136 dX11_meets_137 (by decide) (fun hf => ?_) (fun hf => ?_)
    · cases hf
      exact a_sub [] rfl (hx0  rfl)
    · refine a_iinc F hf dX11_meets_141 4 rfl (by decide) (fun x9_6 hf => ⟨[(9, iv x9_6), (0, .ref (ad 0)), (3, jv x3), (5, jv x5), (7, jv x7)], rfl, ?_⟩)
      refine a_goto F (tgt := 115) dX11_meets_144 (by decide) ?_
      cases hf
      exact a_sub [1, 2, 3, 4, 0] rfl (hn _ rfl)
  · cases hf
    exact a_sub [0, 1, 2, 3] rfl (hx1  rfl)
set_option maxRecDepth 100000 in
set_option maxHeartbeats 4000000 in
theorem k_X11_meets_b150 {l : Launch} {ad : Nat → Nat} {X : Cx} (F : Ok vwCl WS NWs TM cX11_meets 10 yX11_meets.cls none ad l X) {σ : St} {x3 x5 x7 x9 : Int} {y : (Int ⊕ (Unit ⊕ Unit))} (hf : f_X11_meets_b150 σ x3 x5 x7 x9 = some y) (hn : ∀ z9, y = .inl z9 → At vwCl TM 10 rm_X11_meets ad X σ [(0, .ref (ad 0)), (3, jv x3), (5, jv x5), (7, jv x7), (9, iv z9)] [] 150) (hx0 : y = .inr (.inl ()) → At vwCl TM 10 rm_X11_meets ad X σ [] [] 173) (hx1 : y = .inr (.inr (())) → At vwCl TM 10 rm_X11_meets ad X σ [(0, .ref (ad 0)), (3, jv x3), (5, jv x5), (7, jv x7)] [] 180) : At vwCl TM 10 rm_X11_meets ad X σ [(0, .ref (ad 0)), (3, jv x3), (5, jv x5), (7, jv x7), (9, iv x9)] [] 150 := by
  unfold f_X11_meets_b150 at hf
  refine a_iload F dX11_meets_150 4 rfl ?_
  refine a_aload_n F dX11_meets_152 rfl 0 rfl ?_
  refine a_getI F (j := 20) tM_0 rfl rfl (by decide) inW11 w_568 dX11_meets_153 ?_
  refine a_icmp_ge F hf (tgt := 180) dX11_meets_156 (by decide) (fun hf => ?_) (fun hf => ?_)
  · refine a_aload_n F dX11_meets_159 rfl 0 rfl ?_
    refine a_iload F dX11_meets_160 4 rfl ?_
    refine a_lload F dX11_meets_162 2 rfl ?_
    refine a_lload F dX11_meets_164 3 rfl ?_
    refine a_lload_n F dX11_meets_166 rfl 1 rfl ?_
    refine a_callVIr F lk_RX11_185 tM_0 rfl c_X11_isSame rfl rfl ⟨rfl, rfl⟩ ⟨Nat.le_of_ble_eq_true rfl, Nat.le_of_ble_eq_true rfl⟩ rfl (Nat.le_of_ble_eq_true rfl) dX11_meets_167 hf (fun r_8 hf => ?_)
    refine a_if_eq F hf (tgt := 174) dX11_meets_170 (by decide) (fun hf => ?_) (fun hf => ?_)
    · refine a_iinc F hf dX11_meets_174 4 rfl (by decide) (fun x9_9 hf => ⟨[(9, iv x9_9), (0, .ref (ad 0)), (3, jv x3), (5, jv x5), (7, jv x7)], rfl, ?_⟩)
      refine a_goto F (tgt := 150) dX11_meets_177 (by decide) ?_
      cases hf
      exact a_sub [1, 2, 3, 4, 0] rfl (hn _ rfl)
    · cases hf
      exact a_sub [] rfl (hx0  rfl)
  · cases hf
    exact a_sub [0, 1, 2, 3] rfl (hx1  rfl)
set_option maxRecDepth 100000 in
set_option maxHeartbeats 4000000 in
theorem k_X11_meets_b0 {l : Launch} {ad : Nat → Nat} {X : Cx} (F : Ok vwCl WS NWs TM cX11_meets 10 yX11_meets.cls none ad l X) {σ : St} {x1 x2 : Int} {y : St} (hf : f_X11_meets_b0 σ x1 x2 = some y) (hr : RetV vwCl TM cX11_meets 10 rm_X11_meets ad X y) : At vwCl TM 10 rm_X11_meets ad X σ [(0, .ref (ad 0)), (1, iv x1), (2, iv x2)] [] 0 := by
  unfold f_X11_meets_b0 at hf
  refine a_aload_n F dX11_meets_0 rfl 0 rfl ?_
  refine a_getR F (j := 17) tM_0 rfl rfl (by decide) inW11 w_535 dX11_meets_1 ?_
  refine a_iload_n F dX11_meets_4 rfl 1 rfl ?_
  refine a_lald F tM_13 rfl (by decide) hf dX11_meets_5 (fun hf => ?_)
  refine a_aload_n F dX11_meets_6 rfl 0 rfl ?_
  refine a_getR F (j := 18) tM_0 rfl rfl (by decide) inW11 w_537 dX11_meets_7 ?_
  refine a_iload_n F dX11_meets_10 rfl 2 rfl ?_
  refine a_lald F tM_14 rfl (by decide) hf dX11_meets_11 (fun hf => ?_)
  refine a_lmul F dX11_meets_12 ?_
  refine a_aload_n F dX11_meets_13 rfl 0 rfl ?_
  refine a_getR F (j := 17) tM_0 rfl rfl (by decide) inW11 w_535 dX11_meets_14 ?_
  refine a_iload_n F dX11_meets_17 rfl 2 rfl ?_
  refine a_lald F tM_13 rfl (by decide) hf dX11_meets_18 (fun hf => ?_)
  refine a_aload_n F dX11_meets_19 rfl 0 rfl ?_
  refine a_getR F (j := 18) tM_0 rfl rfl (by decide) inW11 w_537 dX11_meets_20 ?_
  refine a_iload_n F dX11_meets_23 rfl 1 rfl ?_
  refine a_lald F tM_14 rfl (by decide) hf dX11_meets_24 (fun hf => ?_)
  refine a_lmul F dX11_meets_25 ?_
  refine a_lsub F dX11_meets_26 ?_
  refine a_topJ hf (fun x3_1 hf => ?_)
  refine a_lstore_n F (lv' := [(3, jv x3_1), (0, .ref (ad 0)), (1, iv x1), (2, iv x2)]) dX11_meets_27 rfl (by decide) rfl ?_
  refine a_lload_n F dX11_meets_28 rfl 0 rfl ?_
  refine a_lconst F (n := 0) dX11_meets_29 (by decide +kernel) ?_
  refine a_lcmp_ne F hf (tgt := 35) dX11_meets_30 dX11_meets_31 (by decide) (fun hf => ?_) (fun hf => ?_)
  · cases hf
    exact hr _ _ dX11_meets_34
  · refine a_aload_n F dX11_meets_35 rfl 1 rfl ?_
    refine a_getR F (j := 19) tM_0 rfl rfl (by decide) inW11 w_538 dX11_meets_36 ?_
    refine a_iload_n F dX11_meets_39 rfl 2 rfl ?_
    refine a_lald F tM_15 rfl (by decide) hf dX11_meets_40 (fun hf => ?_)
    refine a_aload_n F dX11_meets_41 rfl 1 rfl ?_
    refine a_getR F (j := 18) tM_0 rfl rfl (by decide) inW11 w_537 dX11_meets_42 ?_
    refine a_iload_n F dX11_meets_45 rfl 3 rfl ?_
    refine a_lald F tM_14 rfl (by decide) hf dX11_meets_46 (fun hf => ?_)
    refine a_lmul F dX11_meets_47 ?_
    refine a_aload_n F dX11_meets_48 rfl 1 rfl ?_
    refine a_getR F (j := 19) tM_0 rfl rfl (by decide) inW11 w_538 dX11_meets_49 ?_
    refine a_iload_n F dX11_meets_52 rfl 3 rfl ?_
    refine a_lald F tM_15 rfl (by decide) hf dX11_meets_53 (fun hf => ?_)
    refine a_aload_n F dX11_meets_54 rfl 1 rfl ?_
    refine a_getR F (j := 18) tM_0 rfl rfl (by decide) inW11 w_537 dX11_meets_55 ?_
    refine a_iload_n F dX11_meets_58 rfl 2 rfl ?_
    refine a_lald F tM_14 rfl (by decide) hf dX11_meets_59 (fun hf => ?_)
    refine a_lmul F dX11_meets_60 ?_
    refine a_lsub F dX11_meets_61 ?_
    refine a_topJ hf (fun x5_2 hf => ?_)
    refine a_lstore F (lv' := [(5, jv x5_2), (3, jv x3_1), (0, .ref (ad 0)), (1, iv x1), (2, iv x2)]) dX11_meets_62 (by decide) rfl ?_
    refine a_aload_n F dX11_meets_64 rfl 2 rfl ?_
    refine a_getR F (j := 17) tM_0 rfl rfl (by decide) inW11 w_535 dX11_meets_65 ?_
    refine a_iload_n F dX11_meets_68 rfl 3 rfl ?_
    refine a_lald F tM_13 rfl (by decide) hf dX11_meets_69 (fun hf => ?_)
    refine a_aload_n F dX11_meets_70 rfl 2 rfl ?_
    refine a_getR F (j := 19) tM_0 rfl rfl (by decide) inW11 w_538 dX11_meets_71 ?_
    refine a_iload_n F dX11_meets_74 rfl 4 rfl ?_
    refine a_lald F tM_15 rfl (by decide) hf dX11_meets_75 (fun hf => ?_)
    refine a_lmul F dX11_meets_76 ?_
    refine a_aload_n F dX11_meets_77 rfl 2 rfl ?_
    refine a_getR F (j := 17) tM_0 rfl rfl (by decide) inW11 w_535 dX11_meets_78 ?_
    refine a_iload_n F dX11_meets_81 rfl 4 rfl ?_
    refine a_lald F tM_13 rfl (by decide) hf dX11_meets_82 (fun hf => ?_)
    refine a_aload_n F dX11_meets_83 rfl 2 rfl ?_
    refine a_getR F (j := 19) tM_0 rfl rfl (by decide) inW11 w_538 dX11_meets_84 ?_
    refine a_iload_n F dX11_meets_87 rfl 3 rfl ?_
    refine a_lald F tM_15 rfl (by decide) hf dX11_meets_88 (fun hf => ?_)
    refine a_lmul F dX11_meets_89 ?_
    refine a_lsub F dX11_meets_90 ?_
    refine a_topJ hf (fun x7_3 hf => ?_)
    refine a_lstore F (lv' := [(7, jv x7_3), (5, jv x5_2), (3, jv x3_1), (0, .ref (ad 0)), (1, iv x1), (2, iv x2)]) dX11_meets_91 (by decide) rfl ?_
    refine a_lload_n F dX11_meets_93 rfl 2 rfl ?_
    refine a_lconst F (n := 0) dX11_meets_94 (by decide +kernel) ?_
    refine a_lcmp_ge F hf (tgt := 112) dX11_meets_95 dX11_meets_96 (by decide) (fun hf => ?_) (fun hf => ?_)
    · refine a_lload_n F dX11_meets_99 rfl 2 rfl ?_
      refine a_lneg F dX11_meets_100 ?_
      refine a_topJ hf (fun x3_14 hf => ?_)
      refine a_lstore_n F (lv' := [(3, jv x3_14), (7, jv x7_3), (5, jv x5_2), (0, .ref (ad 0)), (1, iv x1), (2, iv x2)]) dX11_meets_101 rfl (by decide) rfl ?_
      refine a_lload F dX11_meets_102 2 rfl ?_
      refine a_lneg F dX11_meets_104 ?_
      refine a_topJ hf (fun x5_15 hf => ?_)
      refine a_lstore F (lv' := [(5, jv x5_15), (3, jv x3_14), (7, jv x7_3), (0, .ref (ad 0)), (1, iv x1), (2, iv x2)]) dX11_meets_105 (by decide) rfl ?_
      refine a_lload F dX11_meets_107 2 rfl ?_
      refine a_lneg F dX11_meets_109 ?_
      refine a_topJ hf (fun x7_16 hf => ?_)
      refine a_lstore F (lv' := [(7, jv x7_16), (5, jv x5_15), (3, jv x3_14), (0, .ref (ad 0)), (1, iv x1), (2, iv x2)]) dX11_meets_110 (by decide) rfl ?_
      refine a_iconst F dX11_meets_112 ?_
      refine a_topI hf (fun x9_17 hf => ?_)
      refine a_istore F (lv' := [(9, iv x9_17), (7, jv x7_16), (5, jv x5_15), (3, jv x3_14), (0, .ref (ad 0)), (1, iv x1), (2, iv x2)]) dX11_meets_113 (by decide) rfl ?_
      obtain ⟨q0, he, hf⟩ := jbind_elim hf
      refine a_sub [4, 3, 2, 1, 0] rfl (loop_rule (P := (fun q => ∀ z9, z9 = q → At vwCl TM 10 rm_X11_meets ad X σ [(0, .ref (ad 0)), (3, jv x3_14), (5, jv x5_15), (7, jv x7_16), (9, iv z9)] [] 115)) (K := (fun q => (.inl () = q → At vwCl TM 10 rm_X11_meets ad X σ [] [] 140) ∧ (.inr (()) = q → At vwCl TM 10 rm_X11_meets ad X σ [(0, .ref (ad 0)), (3, jv x3_14), (5, jv x5_15), (7, jv x7_16)] [] 147))) ?_ 1000 _ _ he ?_ _ rfl)
      · intro q y hy hn hx z9 e
        subst e
        exact k_X11_meets_b115 F hy (fun z9 e => hn _ e _ rfl) (fun  e => (hx _ e).1  rfl) (fun  e => (hx _ e).2  rfl)
      · refine ⟨?_, ?_⟩
        · intro  e
          subst e
          cases hf
          exact hr _ _ dX11_meets_140
        · intro  e
          subst e
          refine a_iconst F dX11_meets_147 ?_
          refine a_topI hf (fun x9_18 hf => ?_)
          refine a_istore F (lv' := [(9, iv x9_18), (0, .ref (ad 0)), (3, jv x3_14), (5, jv x5_15), (7, jv x7_16)]) dX11_meets_148 (by decide) rfl ?_
          obtain ⟨q0, he, hf⟩ := jbind_elim hf
          refine a_sub [1, 2, 3, 4, 0] rfl (loop_rule (P := (fun q => ∀ z9, z9 = q → At vwCl TM 10 rm_X11_meets ad X σ [(0, .ref (ad 0)), (3, jv x3_14), (5, jv x5_15), (7, jv x7_16), (9, iv z9)] [] 150)) (K := (fun q => (.inl () = q → At vwCl TM 10 rm_X11_meets ad X σ [] [] 173) ∧ (.inr (()) = q → At vwCl TM 10 rm_X11_meets ad X σ [(0, .ref (ad 0)), (3, jv x3_14), (5, jv x5_15), (7, jv x7_16)] [] 180))) ?_ 1000 _ _ he ?_ _ rfl)
          · intro q y hy hn hx z9 e
            subst e
            exact k_X11_meets_b150 F hy (fun z9 e => hn _ e _ rfl) (fun  e => (hx _ e).1  rfl) (fun  e => (hx _ e).2  rfl)
          · refine ⟨?_, ?_⟩
            · intro  e
              subst e
              cases hf
              exact hr _ _ dX11_meets_173
            · intro  e
              subst e
              refine a_aload_n F dX11_meets_180 rfl 0 rfl ?_
              refine a_getR F (j := 21) tM_0 rfl rfl (by decide) inW11 w_561 dX11_meets_181 ?_
              refine a_aload_n F dX11_meets_184 rfl 0 rfl ?_
              refine a_getI F (j := 20) tM_0 rfl rfl (by decide) inW11 w_568 dX11_meets_185 ?_
              refine a_lload F dX11_meets_188 2 rfl ?_
              refine a_last F tM_16 rfl (by decide) hf dX11_meets_190 (fun σ_19 hf => ?_)
              refine a_aload_n F dX11_meets_191 rfl 0 rfl ?_
              refine a_getR F (j := 22) tM_0 rfl rfl (by decide) inW11 w_563 dX11_meets_192 ?_
              refine a_aload_n F dX11_meets_195 rfl 0 rfl ?_
              refine a_getI F (j := 20) tM_0 rfl rfl (by decide) inW11 w_568 dX11_meets_196 ?_
              refine a_lload F dX11_meets_199 3 rfl ?_
              refine a_last F tM_17 rfl (by decide) hf dX11_meets_201 (fun σ_20 hf => ?_)
              refine a_aload_n F dX11_meets_202 rfl 0 rfl ?_
              refine a_getR F (j := 23) tM_0 rfl rfl (by decide) inW11 w_562 dX11_meets_203 ?_
              refine a_aload_n F dX11_meets_206 rfl 0 rfl ?_
              refine a_getI F (j := 20) tM_0 rfl rfl (by decide) inW11 w_568 dX11_meets_207 ?_
              refine a_lload_n F dX11_meets_210 rfl 1 rfl ?_
              refine a_last F tM_18 rfl (by decide) hf dX11_meets_211 (fun σ_21 hf => ?_)
              refine a_aload_n F dX11_meets_212 rfl 0 rfl ?_
              refine a_dup F dX11_meets_213 rfl ?_
              refine a_getI F (j := 20) tM_0 rfl rfl (by decide) inW11 w_568 dX11_meets_214 ?_
              refine a_iconst F dX11_meets_217 ?_
              refine a_iadd F dX11_meets_218 ?_
              refine a_putI F (j := 20) tM_0 rfl rfl (by decide) inW11 w_568 tyX11 tyX11_ok nmX11 rfl rfl hf dX11_meets_219 (fun σ_22 hf => ?_)
              cases hf
              exact hr _ _ dX11_meets_222
    · refine a_iconst F dX11_meets_112 ?_
      refine a_topI hf (fun x9_4 hf => ?_)
      refine a_istore F (lv' := [(9, iv x9_4), (7, jv x7_3), (5, jv x5_2), (3, jv x3_1), (0, .ref (ad 0)), (1, iv x1), (2, iv x2)]) dX11_meets_113 (by decide) rfl ?_
      obtain ⟨q0, he, hf⟩ := jbind_elim hf
      refine a_sub [4, 3, 2, 1, 0] rfl (loop_rule (P := (fun q => ∀ z9, z9 = q → At vwCl TM 10 rm_X11_meets ad X σ [(0, .ref (ad 0)), (3, jv x3_1), (5, jv x5_2), (7, jv x7_3), (9, iv z9)] [] 115)) (K := (fun q => (.inl () = q → At vwCl TM 10 rm_X11_meets ad X σ [] [] 140) ∧ (.inr (()) = q → At vwCl TM 10 rm_X11_meets ad X σ [(0, .ref (ad 0)), (3, jv x3_1), (5, jv x5_2), (7, jv x7_3)] [] 147))) ?_ 1000 _ _ he ?_ _ rfl)
      · intro q y hy hn hx z9 e
        subst e
        exact k_X11_meets_b115 F hy (fun z9 e => hn _ e _ rfl) (fun  e => (hx _ e).1  rfl) (fun  e => (hx _ e).2  rfl)
      · refine ⟨?_, ?_⟩
        · intro  e
          subst e
          cases hf
          exact hr _ _ dX11_meets_140
        · intro  e
          subst e
          refine a_iconst F dX11_meets_147 ?_
          refine a_topI hf (fun x9_7 hf => ?_)
          refine a_istore F (lv' := [(9, iv x9_7), (0, .ref (ad 0)), (3, jv x3_1), (5, jv x5_2), (7, jv x7_3)]) dX11_meets_148 (by decide) rfl ?_
          obtain ⟨q0, he, hf⟩ := jbind_elim hf
          refine a_sub [1, 2, 3, 4, 0] rfl (loop_rule (P := (fun q => ∀ z9, z9 = q → At vwCl TM 10 rm_X11_meets ad X σ [(0, .ref (ad 0)), (3, jv x3_1), (5, jv x5_2), (7, jv x7_3), (9, iv z9)] [] 150)) (K := (fun q => (.inl () = q → At vwCl TM 10 rm_X11_meets ad X σ [] [] 173) ∧ (.inr (()) = q → At vwCl TM 10 rm_X11_meets ad X σ [(0, .ref (ad 0)), (3, jv x3_1), (5, jv x5_2), (7, jv x7_3)] [] 180))) ?_ 1000 _ _ he ?_ _ rfl)
          · intro q y hy hn hx z9 e
            subst e
            exact k_X11_meets_b150 F hy (fun z9 e => hn _ e _ rfl) (fun  e => (hx _ e).1  rfl) (fun  e => (hx _ e).2  rfl)
          · refine ⟨?_, ?_⟩
            · intro  e
              subst e
              cases hf
              exact hr _ _ dX11_meets_173
            · intro  e
              subst e
              refine a_aload_n F dX11_meets_180 rfl 0 rfl ?_
              refine a_getR F (j := 21) tM_0 rfl rfl (by decide) inW11 w_561 dX11_meets_181 ?_
              refine a_aload_n F dX11_meets_184 rfl 0 rfl ?_
              refine a_getI F (j := 20) tM_0 rfl rfl (by decide) inW11 w_568 dX11_meets_185 ?_
              refine a_lload F dX11_meets_188 2 rfl ?_
              refine a_last F tM_16 rfl (by decide) hf dX11_meets_190 (fun σ_10 hf => ?_)
              refine a_aload_n F dX11_meets_191 rfl 0 rfl ?_
              refine a_getR F (j := 22) tM_0 rfl rfl (by decide) inW11 w_563 dX11_meets_192 ?_
              refine a_aload_n F dX11_meets_195 rfl 0 rfl ?_
              refine a_getI F (j := 20) tM_0 rfl rfl (by decide) inW11 w_568 dX11_meets_196 ?_
              refine a_lload F dX11_meets_199 3 rfl ?_
              refine a_last F tM_17 rfl (by decide) hf dX11_meets_201 (fun σ_11 hf => ?_)
              refine a_aload_n F dX11_meets_202 rfl 0 rfl ?_
              refine a_getR F (j := 23) tM_0 rfl rfl (by decide) inW11 w_562 dX11_meets_203 ?_
              refine a_aload_n F dX11_meets_206 rfl 0 rfl ?_
              refine a_getI F (j := 20) tM_0 rfl rfl (by decide) inW11 w_568 dX11_meets_207 ?_
              refine a_lload_n F dX11_meets_210 rfl 1 rfl ?_
              refine a_last F tM_18 rfl (by decide) hf dX11_meets_211 (fun σ_12 hf => ?_)
              refine a_aload_n F dX11_meets_212 rfl 0 rfl ?_
              refine a_dup F dX11_meets_213 rfl ?_
              refine a_getI F (j := 20) tM_0 rfl rfl (by decide) inW11 w_568 dX11_meets_214 ?_
              refine a_iconst F dX11_meets_217 ?_
              refine a_iadd F dX11_meets_218 ?_
              refine a_putI F (j := 20) tM_0 rfl rfl (by decide) inW11 w_568 tyX11 tyX11_ok nmX11 rfl rfl hf dX11_meets_219 (fun σ_13 hf => ?_)
              cases hf
              exact hr _ _ dX11_meets_222
set_option maxRecDepth 100000 in
set_option maxHeartbeats 4000000 in
theorem c_X11_meets {l : Launch}  {σ : St} {x1 x2 : Int} : CtrV vwCl WS NWs TM l yX11_meets cX11_meets 10 none rm_X11_meets (fun ad => [.ref (ad 0), iv x1, iv x2]) σ (f_X11_meets σ x1 x2) := by
  refine ctrV_of (by decide +kernel) (fun ad => Nat.le_of_ble_eq_true rfl) (fun σ' ad X hf F K => ?_)
  exact k_X11_meets_b0 F hf K
abbrev rm_X11_order : Room := { frames := 0, cells := 0, slots := 0, locals := 0 }
set_option maxRecDepth 100000 in
set_option maxHeartbeats 4000000 in
theorem k_X11_order_b0 {l : Launch} {ad : Nat → Nat} {X : Cx} (F : Ok vwCl WS NWs TM cX11_order 10 yX11_order.cls (some .int) ad l X) {σ : St} {x0 x2 x4 x6 : Int} {y : Int} (hf : f_X11_order_b0 x0 x2 x4 x6 = some y) (hr : RetI vwCl TM cX11_order 10 rm_X11_order ad X y σ) : At vwCl TM 10 rm_X11_order ad X σ [(0, jv x0), (2, jv x2), (4, jv x4), (6, jv x6)] [] 0 := by
  unfold f_X11_order_b0 at hf
  refine a_lload_n F dX11_order_0 rfl 0 rfl ?_
  refine a_lload F dX11_order_1 3 rfl ?_
  refine a_lmul F dX11_order_3 ?_
  refine a_lload F dX11_order_4 2 rfl ?_
  refine a_lload_n F dX11_order_6 rfl 1 rfl ?_
  refine a_lmul F dX11_order_7 ?_
  refine a_lsub F dX11_order_8 ?_
  refine a_topJ hf (fun x8_1 hf => ?_)
  refine a_lstore F (lv' := [(8, jv x8_1), (0, jv x0), (2, jv x2), (4, jv x4), (6, jv x6)]) dX11_order_9 (by decide) rfl ?_
  refine a_lload F dX11_order_11 0 rfl ?_
  refine a_lconst F (n := 0) dX11_order_13 (by decide +kernel) ?_
  refine a_lcmp_le F hf (tgt := 22) dX11_order_14 dX11_order_15 (by decide) (fun hf => ?_) (fun hf => ?_)
  · refine a_iconst F dX11_order_18 ?_
    refine a_goto F (tgt := 34) dX11_order_19 (by decide) ?_
    cases hf
    exact hr _ _ dX11_order_34
  · refine a_lload F dX11_order_22 0 rfl ?_
    refine a_lconst F (n := 0) dX11_order_24 (by decide +kernel) ?_
    refine a_lcmp_ge F hf (tgt := 33) dX11_order_25 dX11_order_26 (by decide) (fun hf => ?_) (fun hf => ?_)
    · refine a_iconst F dX11_order_29 ?_
      refine a_goto F (tgt := 34) dX11_order_30 (by decide) ?_
      cases hf
      exact hr _ _ dX11_order_34
    · refine a_iconst F dX11_order_33 ?_
      cases hf
      exact hr _ _ dX11_order_34
set_option maxRecDepth 100000 in
set_option maxHeartbeats 4000000 in
theorem c_X11_order {l : Launch}  {σ : St} {x0 x2 x4 x6 : Int} : CtrI vwCl WS NWs TM l yX11_order cX11_order 10 (some .int) rm_X11_order (fun ad => [jv x0, jv x2, jv x4, jv x6]) σ (rd (f_X11_order x0 x2 x4 x6) σ) := by
  refine ctrI_of (by decide +kernel) (fun ad => Nat.le_of_ble_eq_true rfl) (fun v σ' ad X hf F K => ?_)
  obtain ⟨hf2, e2⟩ := rd_elim hf
  subst e2
  exact k_X11_order_b0 F hf2 K
abbrev rm_X11_orderX : Room := { frames := 1, cells := 0, slots := 0, locals := 29 }
set_option maxRecDepth 100000 in
set_option maxHeartbeats 4000000 in
theorem k_X11_orderX_b0 {l : Launch} {ad : Nat → Nat} {X : Cx} (F : Ok vwCl WS NWs TM cX11_orderX 3 yX11_orderX.cls (some .int) ad l X) {σ : St} {x1 x2 : Int} {y : Int} (hf : f_X11_orderX_b0 σ x1 x2 = some y) (hr : RetI vwCl TM cX11_orderX 3 rm_X11_orderX ad X y σ) : At vwCl TM 3 rm_X11_orderX ad X σ [(0, .ref (ad 0)), (1, iv x1), (2, iv x2)] [] 0 := by
  unfold f_X11_orderX_b0 at hf
  refine a_aload_n F dX11_orderX_0 rfl 0 rfl ?_
  refine a_getR F (j := 21) tM_0 rfl rfl (by decide) inW11 w_561 dX11_orderX_1 ?_
  refine a_iload_n F dX11_orderX_4 rfl 1 rfl ?_
  refine a_lald F tM_16 rfl (by decide) hf dX11_orderX_5 (fun hf => ?_)
  refine a_aload_n F dX11_orderX_6 rfl 0 rfl ?_
  refine a_getR F (j := 23) tM_0 rfl rfl (by decide) inW11 w_562 dX11_orderX_7 ?_
  refine a_iload_n F dX11_orderX_10 rfl 1 rfl ?_
  refine a_lald F tM_18 rfl (by decide) hf dX11_orderX_11 (fun hf => ?_)
  refine a_aload_n F dX11_orderX_12 rfl 0 rfl ?_
  refine a_getR F (j := 21) tM_0 rfl rfl (by decide) inW11 w_561 dX11_orderX_13 ?_
  refine a_iload_n F dX11_orderX_16 rfl 2 rfl ?_
  refine a_lald F tM_16 rfl (by decide) hf dX11_orderX_17 (fun hf => ?_)
  refine a_aload_n F dX11_orderX_18 rfl 0 rfl ?_
  refine a_getR F (j := 23) tM_0 rfl rfl (by decide) inW11 w_562 dX11_orderX_19 ?_
  refine a_iload_n F dX11_orderX_22 rfl 2 rfl ?_
  refine a_lald F tM_18 rfl (by decide) hf dX11_orderX_23 (fun hf => ?_)
  refine a_callSIr F lk_RX11_189 c_X11_order rfl rfl ⟨rfl, rfl⟩ ⟨Nat.le_of_ble_eq_true rfl, Nat.le_of_ble_eq_true rfl⟩ rfl (Nat.le_of_ble_eq_true rfl) dX11_orderX_24 hf (fun r_1 hf => ?_)
  cases hf
  exact hr _ _ dX11_orderX_27
set_option maxRecDepth 100000 in
set_option maxHeartbeats 4000000 in
theorem c_X11_orderX {l : Launch}  {σ : St} {x1 x2 : Int} : CtrI vwCl WS NWs TM l yX11_orderX cX11_orderX 3 (some .int) rm_X11_orderX (fun ad => [.ref (ad 0), iv x1, iv x2]) σ (rd (f_X11_orderX σ x1 x2) σ) := by
  refine ctrI_of (by decide +kernel) (fun ad => Nat.le_of_ble_eq_true rfl) (fun v σ' ad X hf F K => ?_)
  obtain ⟨hf2, e2⟩ := rd_elim hf
  subst e2
  exact k_X11_orderX_b0 F hf2 K
abbrev rm_X11_orderY : Room := { frames := 1, cells := 0, slots := 0, locals := 29 }
set_option maxRecDepth 100000 in
set_option maxHeartbeats 4000000 in
theorem k_X11_orderY_b0 {l : Launch} {ad : Nat → Nat} {X : Cx} (F : Ok vwCl WS NWs TM cX11_orderY 3 yX11_orderY.cls (some .int) ad l X) {σ : St} {x1 x2 : Int} {y : Int} (hf : f_X11_orderY_b0 σ x1 x2 = some y) (hr : RetI vwCl TM cX11_orderY 3 rm_X11_orderY ad X y σ) : At vwCl TM 3 rm_X11_orderY ad X σ [(0, .ref (ad 0)), (1, iv x1), (2, iv x2)] [] 0 := by
  unfold f_X11_orderY_b0 at hf
  refine a_aload_n F dX11_orderY_0 rfl 0 rfl ?_
  refine a_getR F (j := 22) tM_0 rfl rfl (by decide) inW11 w_563 dX11_orderY_1 ?_
  refine a_iload_n F dX11_orderY_4 rfl 1 rfl ?_
  refine a_lald F tM_17 rfl (by decide) hf dX11_orderY_5 (fun hf => ?_)
  refine a_aload_n F dX11_orderY_6 rfl 0 rfl ?_
  refine a_getR F (j := 23) tM_0 rfl rfl (by decide) inW11 w_562 dX11_orderY_7 ?_
  refine a_iload_n F dX11_orderY_10 rfl 1 rfl ?_
  refine a_lald F tM_18 rfl (by decide) hf dX11_orderY_11 (fun hf => ?_)
  refine a_aload_n F dX11_orderY_12 rfl 0 rfl ?_
  refine a_getR F (j := 22) tM_0 rfl rfl (by decide) inW11 w_563 dX11_orderY_13 ?_
  refine a_iload_n F dX11_orderY_16 rfl 2 rfl ?_
  refine a_lald F tM_17 rfl (by decide) hf dX11_orderY_17 (fun hf => ?_)
  refine a_aload_n F dX11_orderY_18 rfl 0 rfl ?_
  refine a_getR F (j := 23) tM_0 rfl rfl (by decide) inW11 w_562 dX11_orderY_19 ?_
  refine a_iload_n F dX11_orderY_22 rfl 2 rfl ?_
  refine a_lald F tM_18 rfl (by decide) hf dX11_orderY_23 (fun hf => ?_)
  refine a_callSIr F lk_RX11_189 c_X11_order rfl rfl ⟨rfl, rfl⟩ ⟨Nat.le_of_ble_eq_true rfl, Nat.le_of_ble_eq_true rfl⟩ rfl (Nat.le_of_ble_eq_true rfl) dX11_orderY_24 hf (fun r_1 hf => ?_)
  cases hf
  exact hr _ _ dX11_orderY_27
set_option maxRecDepth 100000 in
set_option maxHeartbeats 4000000 in
theorem c_X11_orderY {l : Launch}  {σ : St} {x1 x2 : Int} : CtrI vwCl WS NWs TM l yX11_orderY cX11_orderY 3 (some .int) rm_X11_orderY (fun ad => [.ref (ad 0), iv x1, iv x2]) σ (rd (f_X11_orderY σ x1 x2) σ) := by
  refine ctrI_of (by decide +kernel) (fun ad => Nat.le_of_ble_eq_true rfl) (fun v σ' ad X hf F K => ?_)
  obtain ⟨hf2, e2⟩ := rd_elim hf
  subst e2
  exact k_X11_orderY_b0 F hf2 K
abbrev rm_X11_isAhead : Room := { frames := 2, cells := 0, slots := 0, locals := 51 }
set_option maxRecDepth 100000 in
set_option maxHeartbeats 4000000 in
theorem k_X11_isAhead_b0 {l : Launch} {ad : Nat → Nat} {X : Cx} (F : Ok vwCl WS NWs TM cX11_isAhead 4 yX11_isAhead.cls (some .boolean) ad l X) {σ : St} {x1 x2 : Int} {y : Int} (hf : f_X11_isAhead_b0 σ x1 x2 = some y) (hr : RetI vwCl TM cX11_isAhead 4 rm_X11_isAhead ad X y σ) : At vwCl TM 4 rm_X11_isAhead ad X σ [(0, .ref (ad 0)), (1, iv x1), (2, iv x2)] [] 0 := by
  unfold f_X11_isAhead_b0 at hf
  refine a_aload_n F dX11_isAhead_0 rfl 0 rfl ?_
  refine a_iload_n F dX11_isAhead_1 rfl 1 rfl ?_
  refine a_iload_n F dX11_isAhead_2 rfl 2 rfl ?_
  refine a_callVIr F lk_RX11_193 tM_0 rfl c_X11_orderX rfl rfl ⟨rfl, rfl⟩ ⟨Nat.le_of_ble_eq_true rfl, Nat.le_of_ble_eq_true rfl⟩ rfl (Nat.le_of_ble_eq_true rfl) dX11_isAhead_3 hf (fun r_1 hf => ?_)
  refine a_topI hf (fun x3_2 hf => ?_)
  refine a_istore_n F (lv' := [(3, iv x3_2), (0, .ref (ad 0)), (1, iv x1), (2, iv x2)]) dX11_isAhead_6 rfl (by decide) rfl ?_
  refine a_iload_n F dX11_isAhead_7 rfl 0 rfl ?_
  refine a_if_lt F hf (tgt := 24) dX11_isAhead_8 (by decide) (fun hf => ?_) (fun hf => ?_)
  · refine a_iconst F dX11_isAhead_24 ?_
    refine a_goto F (tgt := 29) dX11_isAhead_25 (by decide) ?_
    cases hf
    exact hr _ _ dX11_isAhead_29
  · refine a_iload_n F dX11_isAhead_11 rfl 0 rfl ?_
    refine a_if_ne F hf (tgt := 28) dX11_isAhead_12 (by decide) (fun hf => ?_) (fun hf => ?_)
    · refine a_aload_n F dX11_isAhead_15 rfl 1 rfl ?_
      refine a_iload_n F dX11_isAhead_16 rfl 2 rfl ?_
      refine a_iload_n F dX11_isAhead_17 rfl 3 rfl ?_
      refine a_callVIr F lk_RX11_197 tM_0 rfl c_X11_orderY rfl rfl ⟨rfl, rfl⟩ ⟨Nat.le_of_ble_eq_true rfl, Nat.le_of_ble_eq_true rfl⟩ rfl (Nat.le_of_ble_eq_true rfl) dX11_isAhead_18 hf (fun r_3 hf => ?_)
      refine a_if_ge F hf (tgt := 28) dX11_isAhead_21 (by decide) (fun hf => ?_) (fun hf => ?_)
      · refine a_iconst F dX11_isAhead_24 ?_
        refine a_goto F (tgt := 29) dX11_isAhead_25 (by decide) ?_
        cases hf
        exact hr _ _ dX11_isAhead_29
      · refine a_iconst F dX11_isAhead_28 ?_
        cases hf
        exact hr _ _ dX11_isAhead_29
    · refine a_iconst F dX11_isAhead_28 ?_
      cases hf
      exact hr _ _ dX11_isAhead_29
set_option maxRecDepth 100000 in
set_option maxHeartbeats 4000000 in
theorem c_X11_isAhead {l : Launch}  {σ : St} {x1 x2 : Int} : CtrI vwCl WS NWs TM l yX11_isAhead cX11_isAhead 4 (some .boolean) rm_X11_isAhead (fun ad => [.ref (ad 0), iv x1, iv x2]) σ (rd (f_X11_isAhead σ x1 x2) σ) := by
  refine ctrZ_of (fun v σ' h => jz_z (rd_elim h).1) (by decide +kernel) (fun ad => Nat.le_of_ble_eq_true rfl) (fun v σ' ad X hf F K => ?_)
  obtain ⟨hf2, e2⟩ := rd_elim hf
  subst e2
  exact k_X11_isAhead_b0 F (jz_e hf2) K
abbrev rm_X11_borderOf : Room := { frames := 3, cells := 0, slots := 0, locals := 79 }
set_option maxRecDepth 100000 in
set_option maxHeartbeats 4000000 in
theorem k_X11_borderOf_b31 {l : Launch} {ad : Nat → Nat} {X : Cx} (F : Ok vwCl WS NWs TM cX11_borderOf 4 yX11_borderOf.cls (some .int) ad l X) {σ : St} {x3 : Int} {y : ((St × Int) ⊕ St)} (hf : f_X11_borderOf_b31 σ x3 = some y) (hn : ∀ τ z3, y = .inl (τ, z3) → At vwCl TM 4 rm_X11_borderOf ad X τ [(0, .ref (ad 0)), (3, iv z3)] [] 31) (hx0 : ∀ τ, y = .inr (τ) → At vwCl TM 4 rm_X11_borderOf ad X τ [(0, .ref (ad 0))] [] 51) : At vwCl TM 4 rm_X11_borderOf ad X σ [(0, .ref (ad 0)), (3, iv x3)] [] 31 := by
  unfold f_X11_borderOf_b31 at hf
  refine a_iload_n F dX11_borderOf_31 rfl 1 rfl ?_
  refine a_aload_n F dX11_borderOf_32 rfl 0 rfl ?_
  refine a_getI F (j := 16) tM_0 rfl rfl (by decide) inW11 w_536 dX11_borderOf_33 ?_
  refine a_icmp_ge F hf (tgt := 51) dX11_borderOf_36 (by decide) (fun hf => ?_) (fun hf => ?_)
  · refine a_aload_n F dX11_borderOf_39 rfl 0 rfl ?_
    refine a_iconst F dX11_borderOf_40 ?_
    refine a_iload_n F dX11_borderOf_41 rfl 1 rfl ?_
    refine a_callVV F lk_RX11_213 tM_0 rfl c_X11_meets rfl rfl ⟨rfl, rfl⟩ ⟨Nat.le_of_ble_eq_true rfl, Nat.le_of_ble_eq_true rfl⟩ rfl (Nat.le_of_ble_eq_true rfl) dX11_borderOf_42 hf (fun σ_6 hf => ?_)
    refine a_iinc F hf dX11_borderOf_45 1 rfl (by decide) (fun x3_7 hf => ⟨[(3, iv x3_7), (0, .ref (ad 0))], rfl, ?_⟩)
    refine a_goto F (tgt := 31) dX11_borderOf_48 (by decide) ?_
    cases hf
    exact a_sub [1, 0] rfl (hn _ _ rfl)
  · cases hf
    exact a_sub [0] rfl (hx0 _ rfl)
set_option maxRecDepth 100000 in
set_option maxHeartbeats 4000000 in
theorem k_X11_borderOf_b116 {l : Launch} {ad : Nat → Nat} {X : Cx} (F : Ok vwCl WS NWs TM cX11_borderOf 4 yX11_borderOf.cls (some .int) ad l X) {σ : St} {x3 : Int} {y : ((St × Int) ⊕ St)} (hf : f_X11_borderOf_b116 σ x3 = some y) (hn : ∀ τ z3, y = .inl (τ, z3) → At vwCl TM 4 rm_X11_borderOf ad X τ [(0, .ref (ad 0)), (3, iv z3)] [] 63) : At vwCl TM 4 rm_X11_borderOf ad X σ [(0, .ref (ad 0)), (3, iv x3)] [] 116 := by
  unfold f_X11_borderOf_b116 at hf
  refine a_aload_n F dX11_borderOf_116 rfl 0 rfl ?_
  refine a_iload_n F dX11_borderOf_117 rfl 1 rfl ?_
  refine a_putI F (j := 28) tM_0 rfl rfl (by decide) inW11 w_593 tyX11 tyX11_ok nmX11 rfl rfl hf dX11_borderOf_118 (fun σ_13 hf => ?_)
  refine a_iinc F hf dX11_borderOf_121 1 rfl (by decide) (fun x3_14 hf => ⟨[(3, iv x3_14), (0, .ref (ad 0))], rfl, ?_⟩)
  refine a_goto F (tgt := 63) dX11_borderOf_124 (by decide) ?_
  cases hf
  exact a_sub [1, 0] rfl (hn _ _ rfl)
set_option maxRecDepth 100000 in
set_option maxHeartbeats 4000000 in
theorem k_X11_borderOf_b96 {l : Launch} {ad : Nat → Nat} {X : Cx} (F : Ok vwCl WS NWs TM cX11_borderOf 4 yX11_borderOf.cls (some .int) ad l X) {σ : St} {x3 : Int} {y : ((St × Int) ⊕ St)} (hf : f_X11_borderOf_b96 σ x3 = some y) (hn : ∀ τ z3, y = .inl (τ, z3) → At vwCl TM 4 rm_X11_borderOf ad X τ [(0, .ref (ad 0)), (3, iv z3)] [] 63) : At vwCl TM 4 rm_X11_borderOf ad X σ [(0, .ref (ad 0)), (3, iv x3)] [] 96 := by
  unfold f_X11_borderOf_b96 at hf
  refine a_aload_n F dX11_borderOf_96 rfl 0 rfl ?_
  refine a_getI F (j := 28) tM_0 rfl rfl (by decide) inW11 w_593 dX11_borderOf_97 ?_
  refine a_iconst F dX11_borderOf_100 ?_
  refine a_icmp_eq F hf (tgt := 116) dX11_borderOf_101 (by decide) (fun hf => ?_) (fun hf => ?_)
  · exact a_sub [0, 1] rfl (k_X11_borderOf_b116 F hf hn)
  · refine a_aload_n F dX11_borderOf_104 rfl 0 rfl ?_
    refine a_aload_n F dX11_borderOf_105 rfl 0 rfl ?_
    refine a_getI F (j := 28) tM_0 rfl rfl (by decide) inW11 w_593 dX11_borderOf_106 ?_
    refine a_iload_n F dX11_borderOf_109 rfl 1 rfl ?_
    refine a_callVIr F lk_RX11_219 tM_0 rfl c_X11_isAhead rfl rfl ⟨rfl, rfl⟩ ⟨Nat.le_of_ble_eq_true rfl, Nat.le_of_ble_eq_true rfl⟩ rfl (Nat.le_of_ble_eq_true rfl) dX11_borderOf_110 hf (fun r_15 hf => ?_)
    refine a_if_eq F hf (tgt := 121) dX11_borderOf_113 (by decide) (fun hf => ?_) (fun hf => ?_)
    · refine a_iinc F hf dX11_borderOf_121 1 rfl (by decide) (fun x3_16 hf => ⟨[(3, iv x3_16), (0, .ref (ad 0))], rfl, ?_⟩)
      refine a_goto F (tgt := 63) dX11_borderOf_124 (by decide) ?_
      cases hf
      exact a_sub [1, 0] rfl (hn _ _ rfl)
    · exact a_sub [0, 1] rfl (k_X11_borderOf_b116 F hf hn)
set_option maxRecDepth 100000 in
set_option maxHeartbeats 4000000 in
theorem k_X11_borderOf_b91 {l : Launch} {ad : Nat → Nat} {X : Cx} (F : Ok vwCl WS NWs TM cX11_borderOf 4 yX11_borderOf.cls (some .int) ad l X) {σ : St} {x3 : Int} {y : ((St × Int) ⊕ St)} (hf : f_X11_borderOf_b91 σ x3 = some y) (hn : ∀ τ z3, y = .inl (τ, z3) → At vwCl TM 4 rm_X11_borderOf ad X τ [(0, .ref (ad 0)), (3, iv z3)] [] 63) : At vwCl TM 4 rm_X11_borderOf ad X σ [(0, .ref (ad 0)), (3, iv x3)] [] 91 := by
  unfold f_X11_borderOf_b91 at hf
  refine a_aload_n F dX11_borderOf_91 rfl 0 rfl ?_
  refine a_iload_n F dX11_borderOf_92 rfl 1 rfl ?_
  refine a_putI F (j := 27) tM_0 rfl rfl (by decide) inW11 w_592 tyX11 tyX11_ok nmX11 rfl rfl hf dX11_borderOf_93 (fun σ_12 hf => ?_)
  exact a_sub [0, 1] rfl (k_X11_borderOf_b96 F hf hn)
set_option maxRecDepth 100000 in
set_option maxHeartbeats 4000000 in
theorem k_X11_borderOf_b63 {l : Launch} {ad : Nat → Nat} {X : Cx} (F : Ok vwCl WS NWs TM cX11_borderOf 4 yX11_borderOf.cls (some .int) ad l X) {σ : St} {x3 : Int} {y : ((St × Int) ⊕ St)} (hf : f_X11_borderOf_b63 σ x3 = some y) (hn : ∀ τ z3, y = .inl (τ, z3) → At vwCl TM 4 rm_X11_borderOf ad X τ [(0, .ref (ad 0)), (3, iv z3)] [] 63) (hx0 : ∀ τ, y = .inr (τ) → At vwCl TM 4 rm_X11_borderOf ad X τ [(0, .ref (ad 0))] [] 127) : At vwCl TM 4 rm_X11_borderOf ad X σ [(0, .ref (ad 0)), (3, iv x3)] [] 63 := by
  unfold f_X11_borderOf_b63 at hf
  refine a_iload_n F dX11_borderOf_63 rfl 1 rfl ?_
  refine a_aload_n F dX11_borderOf_64 rfl 0 rfl ?_
  refine a_getI F (j := 20) tM_0 rfl rfl (by decide) inW11 w_568 dX11_borderOf_65 ?_
  refine a_icmp_ge F hf (tgt := 127) dX11_borderOf_68 (by decide) (fun hf => ?_) (fun hf => ?_)
  · refine a_aload_n F dX11_borderOf_71 rfl 0 rfl ?_
    refine a_getI F (j := 27) tM_0 rfl rfl (by decide) inW11 w_592 dX11_borderOf_72 ?_
    refine a_iconst F dX11_borderOf_75 ?_
    refine a_icmp_eq F hf (tgt := 91) dX11_borderOf_76 (by decide) (fun hf => ?_) (fun hf => ?_)
    · exact a_sub [0, 1] rfl (k_X11_borderOf_b91 F hf hn)
    · refine a_aload_n F dX11_borderOf_79 rfl 0 rfl ?_
      refine a_iload_n F dX11_borderOf_80 rfl 1 rfl ?_
      refine a_aload_n F dX11_borderOf_81 rfl 0 rfl ?_
      refine a_getI F (j := 27) tM_0 rfl rfl (by decide) inW11 w_592 dX11_borderOf_82 ?_
      refine a_callVIr F lk_RX11_219 tM_0 rfl c_X11_isAhead rfl rfl ⟨rfl, rfl⟩ ⟨Nat.le_of_ble_eq_true rfl, Nat.le_of_ble_eq_true rfl⟩ rfl (Nat.le_of_ble_eq_true rfl) dX11_borderOf_85 hf (fun r_17 hf => ?_)
      refine a_if_eq F hf (tgt := 96) dX11_borderOf_88 (by decide) (fun hf => ?_) (fun hf => ?_)
      · exact a_sub [0, 1] rfl (k_X11_borderOf_b96 F hf hn)
      · exact a_sub [0, 1] rfl (k_X11_borderOf_b91 F hf hn)
  · cases hf
    exact a_sub [0] rfl (hx0 _ rfl)
set_option maxRecDepth 100000 in
set_option maxHeartbeats 4000000 in
theorem k_X11_borderOf_b0 {l : Launch} {ad : Nat → Nat} {X : Cx} (F : Ok vwCl WS NWs TM cX11_borderOf 4 yX11_borderOf.cls (some .int) ad l X) {σ : St} {x1 x2 : Int} {y : (Int × St)} (hf : f_X11_borderOf_b0 σ x1 x2 = some y) (hr : ∀ v τ, y = (v, τ) → RetI vwCl TM cX11_borderOf 4 rm_X11_borderOf ad X v τ) : At vwCl TM 4 rm_X11_borderOf ad X σ [(0, .ref (ad 0)), (1, iv x1), (2, iv x2)] [] 0 := by
  unfold f_X11_borderOf_b0 at hf
  refine a_aload_n F dX11_borderOf_0 rfl 0 rfl ?_
  refine a_iload_n F dX11_borderOf_1 rfl 1 rfl ?_
  refine a_callVIr F lk_RX11_148 tM_0 rfl c_X11_counts rfl rfl ⟨rfl, rfl⟩ ⟨Nat.le_of_ble_eq_true rfl, Nat.le_of_ble_eq_true rfl⟩ rfl (Nat.le_of_ble_eq_true rfl) dX11_borderOf_2 hf (fun r_1 hf => ?_)
  refine a_if_eq F hf (tgt := 16) dX11_borderOf_5 (by decide) (fun hf => ?_) (fun hf => ?_)
  · refine a_iconst F dX11_borderOf_16 ?_
    cases hf
    exact hr _ _ rfl _ _ dX11_borderOf_17
  · refine a_aload_n F dX11_borderOf_8 rfl 0 rfl ?_
    refine a_iload_n F dX11_borderOf_9 rfl 2 rfl ?_
    refine a_callVIr F lk_RX11_148 tM_0 rfl c_X11_counts rfl rfl ⟨rfl, rfl⟩ ⟨Nat.le_of_ble_eq_true rfl, Nat.le_of_ble_eq_true rfl⟩ rfl (Nat.le_of_ble_eq_true rfl) dX11_borderOf_10 hf (fun r_2 hf => ?_)
    refine a_if_ne F hf (tgt := 18) dX11_borderOf_13 (by decide) (fun hf => ?_) (fun hf => ?_)
    · refine a_iconst F dX11_borderOf_16 ?_
      cases hf
      exact hr _ _ rfl _ _ dX11_borderOf_17
    · refine a_aload_n F dX11_borderOf_18 rfl 0 rfl ?_
      refine a_iload_n F dX11_borderOf_19 rfl 1 rfl ?_
      refine a_iload_n F dX11_borderOf_20 rfl 2 rfl ?_
      refine a_callVV F lk_RX11_210 tM_0 rfl c_X11_linesOf rfl rfl ⟨rfl, rfl⟩ ⟨Nat.le_of_ble_eq_true rfl, Nat.le_of_ble_eq_true rfl⟩ rfl (Nat.le_of_ble_eq_true rfl) dX11_borderOf_21 hf (fun σ_3 hf => ?_)
      refine a_aload_n F dX11_borderOf_24 rfl 0 rfl ?_
      refine a_iconst F dX11_borderOf_25 ?_
      refine a_putI F (j := 20) tM_0 rfl rfl (by decide) inW11 w_568 tyX11 tyX11_ok nmX11 rfl rfl hf dX11_borderOf_26 (fun σ_4 hf => ?_)
      refine a_iconst F dX11_borderOf_29 ?_
      refine a_topI hf (fun x3_5 hf => ?_)
      refine a_istore_n F (lv' := [(3, iv x3_5), (0, .ref (ad 0)), (1, iv x1), (2, iv x2)]) dX11_borderOf_30 rfl (by decide) rfl ?_
      obtain ⟨q0, he, hf⟩ := jbind_elim hf
      refine a_sub [1, 0] rfl (loop_rule (P := (fun q => ∀ τ z3, (τ, z3) = q → At vwCl TM 4 rm_X11_borderOf ad X τ [(0, .ref (ad 0)), (3, iv z3)] [] 31)) (K := (fun q => (∀ τ, τ = q → At vwCl TM 4 rm_X11_borderOf ad X τ [(0, .ref (ad 0))] [] 51))) ?_ 1000 _ _ he ?_ _ _ rfl)
      · intro q y hy hn hx τ z3 e
        subst e
        exact k_X11_borderOf_b31 F hy (fun τ z3 e => hn _ e _ _ rfl) (fun τ e => (hx _ e) _ rfl)
      · intro σ_8 e
        subst e
        refine a_aload_n F dX11_borderOf_51 rfl 0 rfl ?_
        refine a_iconst F dX11_borderOf_52 ?_
        refine a_putI F (j := 27) tM_0 rfl rfl (by decide) inW11 w_592 tyX11 tyX11_ok nmX11 rfl rfl hf dX11_borderOf_53 (fun σ_9 hf => ?_)
        refine a_aload_n F dX11_borderOf_56 rfl 0 rfl ?_
        refine a_iconst F dX11_borderOf_57 ?_
        refine a_putI F (j := 28) tM_0 rfl rfl (by decide) inW11 w_593 tyX11 tyX11_ok nmX11 rfl rfl hf dX11_borderOf_58 (fun σ_10 hf => ?_)
        refine a_iconst F dX11_borderOf_61 ?_
        refine a_topI hf (fun x3_11 hf => ?_)
        refine a_istore_n F (lv' := [(3, iv x3_11), (0, .ref (ad 0))]) dX11_borderOf_62 rfl (by decide) rfl ?_
        obtain ⟨q0, he, hf⟩ := jbind_elim hf
        refine a_sub [1, 0] rfl (loop_rule (P := (fun q => ∀ τ z3, (τ, z3) = q → At vwCl TM 4 rm_X11_borderOf ad X τ [(0, .ref (ad 0)), (3, iv z3)] [] 63)) (K := (fun q => (∀ τ, τ = q → At vwCl TM 4 rm_X11_borderOf ad X τ [(0, .ref (ad 0))] [] 127))) ?_ 1000 _ _ he ?_ _ _ rfl)
        · intro q y hy hn hx τ z3 e
          subst e
          exact k_X11_borderOf_b63 F hy (fun τ z3 e => hn _ e _ _ rfl) (fun τ e => (hx _ e) _ rfl)
        · intro σ_18 e
          subst e
          refine a_aload_n F dX11_borderOf_127 rfl 0 rfl ?_
          refine a_getI F (j := 27) tM_0 rfl rfl (by decide) inW11 w_592 dX11_borderOf_128 ?_
          refine a_iconst F dX11_borderOf_131 ?_
          refine a_icmp_ne F hf (tgt := 139) dX11_borderOf_132 (by decide) (fun hf => ?_) (fun hf => ?_)
          · refine a_iconst F dX11_borderOf_135 ?_
            refine a_goto F (tgt := 155) dX11_borderOf_136 (by decide) ?_
            cases hf
            exact hr _ _ rfl _ _ dX11_borderOf_155
          · refine a_aload_n F dX11_borderOf_139 rfl 0 rfl ?_
            refine a_getI F (j := 27) tM_0 rfl rfl (by decide) inW11 w_592 dX11_borderOf_140 ?_
            refine a_aload_n F dX11_borderOf_143 rfl 0 rfl ?_
            refine a_getI F (j := 28) tM_0 rfl rfl (by decide) inW11 w_593 dX11_borderOf_144 ?_
            refine a_icmp_ne F hf (tgt := 154) dX11_borderOf_147 (by decide) (fun hf => ?_) (fun hf => ?_)
            · refine a_iconst F dX11_borderOf_150 ?_
              refine a_goto F (tgt := 155) dX11_borderOf_151 (by decide) ?_
              cases hf
              exact hr _ _ rfl _ _ dX11_borderOf_155
            · refine a_iconst F dX11_borderOf_154 ?_
              cases hf
              exact hr _ _ rfl _ _ dX11_borderOf_155
set_option maxRecDepth 100000 in
set_option maxHeartbeats 4000000 in
theorem c_X11_borderOf {l : Launch}  {σ : St} {x1 x2 : Int} : CtrI vwCl WS NWs TM l yX11_borderOf cX11_borderOf 4 (some .int) rm_X11_borderOf (fun ad => [.ref (ad 0), iv x1, iv x2]) σ (f_X11_borderOf σ x1 x2) := by
  refine ctrI_of (by decide +kernel) (fun ad => Nat.le_of_ble_eq_true rfl) (fun v σ' ad X hf F K => ?_)
  exact k_X11_borderOf_b0 F hf (fun v τ e => by cases e; exact K)
abbrev rm_X11_about : Room := { frames := 4, cells := 0, slots := 0, locals := 102 }
set_option maxRecDepth 100000 in
set_option maxHeartbeats 4000000 in
theorem k_X11_about_b14 {l : Launch} {ad : Nat → Nat} {X : Cx} (F : Ok vwCl WS NWs TM cX11_about 4 yX11_about.cls (some .int) ad l X) {σ : St} {x1 x2 x3 : Int} {y : ((St × Int × Int) ⊕ (St × Int))} (hf : f_X11_about_b14 σ x1 x2 x3 = some y) (hn : ∀ τ z2 z3, y = .inl (τ, z2, z3) → At vwCl TM 4 rm_X11_about ad X τ [(0, .ref (ad 0)), (1, iv x1), (2, iv z2), (3, iv z3)] [] 14) (hx0 : ∀ τ z2, y = .inr ((τ, z2)) → At vwCl TM 4 rm_X11_about ad X τ [(2, iv z2)] [] 47) : At vwCl TM 4 rm_X11_about ad X σ [(0, .ref (ad 0)), (1, iv x1), (2, iv x2), (3, iv x3)] [] 14 := by
  unfold f_X11_about_b14 at hf
  refine a_iload_n F dX11_about_14 rfl 3 rfl ?_
  refine a_bipush F dX11_about_15 (by decide +kernel) ?_
  refine a_icmp_ge F hf (tgt := 47) dX11_about_17 (by decide) (fun hf => ?_) (fun hf => ?_)
  · refine a_iload_n F dX11_about_20 rfl 3 rfl ?_
    refine a_iload_n F dX11_about_21 rfl 1 rfl ?_
    refine a_icmp_eq F hf (tgt := 41) dX11_about_22 (by decide) (fun hf => ?_) (fun hf => ?_)
    · refine a_iinc F hf dX11_about_41 3 rfl (by decide) (fun x3_4 hf => ⟨[(3, iv x3_4), (0, .ref (ad 0)), (1, iv x1), (2, iv x2)], rfl, ?_⟩)
      refine a_goto F (tgt := 14) dX11_about_44 (by decide) ?_
      cases hf
      exact a_sub [1, 2, 3, 0] rfl (hn _ _ _ rfl)
    · refine a_aload_n F dX11_about_25 rfl 0 rfl ?_
      refine a_iload_n F dX11_about_26 rfl 1 rfl ?_
      refine a_iload_n F dX11_about_27 rfl 3 rfl ?_
      refine a_callVI F lk_RX11_244 tM_0 rfl c_X11_borderOf rfl rfl ⟨rfl, rfl⟩ ⟨Nat.le_of_ble_eq_true rfl, Nat.le_of_ble_eq_true rfl⟩ rfl (Nat.le_of_ble_eq_true rfl) dX11_about_28 hf (fun r_5 σ_6 hf => ?_)
      refine a_iconst F dX11_about_31 ?_
      refine a_icmp_ne F hf (tgt := 41) dX11_about_32 (by decide) (fun hf => ?_) (fun hf => ?_)
      · refine a_iload_n F dX11_about_35 rfl 2 rfl ?_
        refine a_iconst F dX11_about_36 ?_
        refine a_iload_n F dX11_about_37 rfl 3 rfl ?_
        refine a_ishl F dX11_about_38 ?_
        refine a_ior F dX11_about_39 ?_
        refine a_topI hf (fun x2_8 hf => ?_)
        refine a_istore_n F (lv' := [(2, iv x2_8), (0, .ref (ad 0)), (1, iv x1), (3, iv x3)]) dX11_about_40 rfl (by decide) rfl ?_
        refine a_iinc F hf dX11_about_41 3 rfl (by decide) (fun x3_9 hf => ⟨[(3, iv x3_9), (2, iv x2_8), (0, .ref (ad 0)), (1, iv x1)], rfl, ?_⟩)
        refine a_goto F (tgt := 14) dX11_about_44 (by decide) ?_
        cases hf
        exact a_sub [2, 3, 1, 0] rfl (hn _ _ _ rfl)
      · refine a_iinc F hf dX11_about_41 3 rfl (by decide) (fun x3_7 hf => ⟨[(3, iv x3_7), (0, .ref (ad 0)), (1, iv x1), (2, iv x2)], rfl, ?_⟩)
        refine a_goto F (tgt := 14) dX11_about_44 (by decide) ?_
        cases hf
        exact a_sub [1, 2, 3, 0] rfl (hn _ _ _ rfl)
  · cases hf
    exact a_sub [2] rfl (hx0 _ _ rfl)
set_option maxRecDepth 100000 in
set_option maxHeartbeats 4000000 in
theorem k_X11_about_b0 {l : Launch} {ad : Nat → Nat} {X : Cx} (F : Ok vwCl WS NWs TM cX11_about 4 yX11_about.cls (some .int) ad l X) {σ : St} {x1 : Int} {y : (Int × St)} (hf : f_X11_about_b0 σ x1 = some y) (hr : ∀ v τ, y = (v, τ) → RetI vwCl TM cX11_about 4 rm_X11_about ad X v τ) : At vwCl TM 4 rm_X11_about ad X σ [(0, .ref (ad 0)), (1, iv x1)] [] 0 := by
  unfold f_X11_about_b0 at hf
  refine a_aload_n F dX11_about_0 rfl 0 rfl ?_
  refine a_iload_n F dX11_about_1 rfl 1 rfl ?_
  refine a_callVIr F lk_RX11_124 tM_0 rfl c_X11_isWell rfl rfl ⟨rfl, rfl⟩ ⟨Nat.le_of_ble_eq_true rfl, Nat.le_of_ble_eq_true rfl⟩ rfl (Nat.le_of_ble_eq_true rfl) dX11_about_2 hf (fun r_1 hf => ?_)
  refine a_if_ne F hf (tgt := 10) dX11_about_5 (by decide) (fun hf => ?_) (fun hf => ?_)
  · refine a_iconst F dX11_about_8 ?_
    cases hf
    exact hr _ _ rfl _ _ dX11_about_9
  · refine a_iconst F dX11_about_10 ?_
    refine a_topI hf (fun x2_2 hf => ?_)
    refine a_istore_n F (lv' := [(2, iv x2_2), (0, .ref (ad 0)), (1, iv x1)]) dX11_about_11 rfl (by decide) rfl ?_
    refine a_iconst F dX11_about_12 ?_
    refine a_topI hf (fun x3_3 hf => ?_)
    refine a_istore_n F (lv' := [(3, iv x3_3), (2, iv x2_2), (0, .ref (ad 0)), (1, iv x1)]) dX11_about_13 rfl (by decide) rfl ?_
    obtain ⟨q0, he, hf⟩ := jbind_elim hf
    refine a_sub [2, 3, 1, 0] rfl (loop_rule (P := (fun q => ∀ τ z2 z3, (τ, z2, z3) = q → At vwCl TM 4 rm_X11_about ad X τ [(0, .ref (ad 0)), (1, iv x1), (2, iv z2), (3, iv z3)] [] 14)) (K := (fun q => (∀ τ z2, (τ, z2) = q → At vwCl TM 4 rm_X11_about ad X τ [(2, iv z2)] [] 47))) ?_ 1000 _ _ he ?_ _ _ _ rfl)
    · intro q y hy hn hx τ z2 z3 e
      subst e
      exact k_X11_about_b14 F hy (fun τ z2 z3 e => hn _ e _ _ _ rfl) (fun τ z2 e => (hx _ e) _ _ rfl)
    · intro σ_10 x2_11 e
      subst e
      refine a_iload_n F dX11_about_47 rfl 0 rfl ?_
      cases hf
      exact hr _ _ rfl _ _ dX11_about_48
set_option maxRecDepth 100000 in
set_option maxHeartbeats 4000000 in
theorem c_X11_about {l : Launch}  {σ : St} {x1 : Int} : CtrI vwCl WS NWs TM l yX11_about cX11_about 4 (some .int) rm_X11_about (fun ad => [.ref (ad 0), iv x1]) σ (f_X11_about σ x1) := by
  refine ctrI_of (by decide +kernel) (fun ad => Nat.le_of_ble_eq_true rfl) (fun v σ' ad X hf F K => ?_)
  exact k_X11_about_b0 F hf (fun v τ e => by cases e; exact K)
abbrev rm_X11_along : Room := { frames := 2, cells := 0, slots := 0, locals := 51 }
set_option maxRecDepth 100000 in
set_option maxHeartbeats 4000000 in
theorem k_X11_along_b53 {l : Launch} {ad : Nat → Nat} {X : Cx} (F : Ok vwCl WS NWs TM cX11_along 4 yX11_along.cls (some .int) ad l X) {σ : St} {x2 x3 t0 : Int} {y : Int} (hf : f_X11_along_b53 σ x2 x3 t0 = some y) (hr : RetI vwCl TM cX11_along 4 rm_X11_along ad X y σ) : At vwCl TM 4 rm_X11_along ad X σ [(0, .ref (ad 0)), (2, iv x2), (3, iv x3)] [iv t0] 53 := by
  unfold f_X11_along_b53 at hf
  refine a_aload_n F dX11_along_53 rfl 0 rfl ?_
  refine a_iload_n F dX11_along_54 rfl 1 rfl ?_
  refine a_iload_n F dX11_along_55 rfl 2 rfl ?_
  refine a_callVIr F lk_RX11_197 tM_0 rfl c_X11_orderY rfl rfl ⟨rfl, rfl⟩ ⟨Nat.le_of_ble_eq_true rfl, Nat.le_of_ble_eq_true rfl⟩ rfl (Nat.le_of_ble_eq_true rfl) dX11_along_56 hf (fun r_1 hf => ?_)
  refine a_imul F dX11_along_59 ?_
  cases hf
  exact hr _ _ dX11_along_60
set_option maxRecDepth 100000 in
set_option maxHeartbeats 4000000 in
theorem k_X11_along_b27 {l : Launch} {ad : Nat → Nat} {X : Cx} (F : Ok vwCl WS NWs TM cX11_along 4 yX11_along.cls (some .int) ad l X) {σ : St} {x2 x3 t0 : Int} {y : Int} (hf : f_X11_along_b27 σ x2 x3 t0 = some y) (hr : RetI vwCl TM cX11_along 4 rm_X11_along ad X y σ) : At vwCl TM 4 rm_X11_along ad X σ [(0, .ref (ad 0)), (2, iv x2), (3, iv x3)] [iv t0] 27 := by
  unfold f_X11_along_b27 at hf
  refine a_aload_n F dX11_along_27 rfl 0 rfl ?_
  refine a_iload_n F dX11_along_28 rfl 1 rfl ?_
  refine a_iload_n F dX11_along_29 rfl 2 rfl ?_
  refine a_callVIr F lk_RX11_193 tM_0 rfl c_X11_orderX rfl rfl ⟨rfl, rfl⟩ ⟨Nat.le_of_ble_eq_true rfl, Nat.le_of_ble_eq_true rfl⟩ rfl (Nat.le_of_ble_eq_true rfl) dX11_along_30 hf (fun r_2 hf => ?_)
  refine a_imul F dX11_along_33 ?_
  refine a_goto F (tgt := 60) dX11_along_34 (by decide) ?_
  cases hf
  exact hr _ _ dX11_along_60
set_option maxRecDepth 100000 in
set_option maxHeartbeats 4000000 in
theorem k_X11_along_b0 {l : Launch} {ad : Nat → Nat} {X : Cx} (F : Ok vwCl WS NWs TM cX11_along 4 yX11_along.cls (some .int) ad l X) {σ : St} {x1 x2 x3 : Int} {y : Int} (hf : f_X11_along_b0 σ x1 x2 x3 = some y) (hr : RetI vwCl TM cX11_along 4 rm_X11_along ad X y σ) : At vwCl TM 4 rm_X11_along ad X σ [(0, .ref (ad 0)), (1, iv x1), (2, iv x2), (3, iv x3)] [] 0 := by
  unfold f_X11_along_b0 at hf
  refine a_aload_n F dX11_along_0 rfl 0 rfl ?_
  refine a_getR F (j := 18) tM_0 rfl rfl (by decide) inW11 w_537 dX11_along_1 ?_
  refine a_iload_n F dX11_along_4 rfl 1 rfl ?_
  refine a_lald F tM_14 rfl (by decide) hf dX11_along_5 (fun hf => ?_)
  refine a_lconst F (n := 0) dX11_along_6 (by decide +kernel) ?_
  refine a_lcmp_eq F hf (tgt := 37) dX11_along_7 dX11_along_8 (by decide) (fun hf => ?_) (fun hf => ?_)
  · refine a_aload_n F dX11_along_37 rfl 0 rfl ?_
    refine a_getR F (j := 17) tM_0 rfl rfl (by decide) inW11 w_535 dX11_along_38 ?_
    refine a_iload_n F dX11_along_41 rfl 1 rfl ?_
    refine a_lald F tM_13 rfl (by decide) hf dX11_along_42 (fun hf => ?_)
    refine a_lconst F (n := 0) dX11_along_43 (by decide +kernel) ?_
    refine a_lcmp_le F hf (tgt := 52) dX11_along_44 dX11_along_45 (by decide) (fun hf => ?_) (fun hf => ?_)
    · refine a_iconst F dX11_along_48 ?_
      refine a_goto F (tgt := 53) dX11_along_49 (by decide) ?_
      exact a_sub [0, 2, 3] rfl (k_X11_along_b53 F hf hr)
    · refine a_iconst F dX11_along_52 ?_
      exact a_sub [0, 2, 3] rfl (k_X11_along_b53 F hf hr)
  · refine a_aload_n F dX11_along_11 rfl 0 rfl ?_
    refine a_getR F (j := 18) tM_0 rfl rfl (by decide) inW11 w_537 dX11_along_12 ?_
    refine a_iload_n F dX11_along_15 rfl 1 rfl ?_
    refine a_lald F tM_14 rfl (by decide) hf dX11_along_16 (fun hf => ?_)
    refine a_lconst F (n := 0) dX11_along_17 (by decide +kernel) ?_
    refine a_lcmp_ge F hf (tgt := 26) dX11_along_18 dX11_along_19 (by decide) (fun hf => ?_) (fun hf => ?_)
    · refine a_iconst F dX11_along_22 ?_
      refine a_goto F (tgt := 27) dX11_along_23 (by decide) ?_
      exact a_sub [0, 2, 3] rfl (k_X11_along_b27 F hf hr)
    · refine a_iconst F dX11_along_26 ?_
      exact a_sub [0, 2, 3] rfl (k_X11_along_b27 F hf hr)
set_option maxRecDepth 100000 in
set_option maxHeartbeats 4000000 in
theorem c_X11_along {l : Launch}  {σ : St} {x1 x2 x3 : Int} : CtrI vwCl WS NWs TM l yX11_along cX11_along 4 (some .int) rm_X11_along (fun ad => [.ref (ad 0), iv x1, iv x2, iv x3]) σ (rd (f_X11_along σ x1 x2 x3) σ) := by
  refine ctrI_of (by decide +kernel) (fun ad => Nat.le_of_ble_eq_true rfl) (fun v σ' ad X hf F K => ?_)
  obtain ⟨hf2, e2⟩ := rd_elim hf
  subst e2
  exact k_X11_along_b0 F hf2 K
abbrev rm_X11_square : Room := { frames := 0, cells := 0, slots := 0, locals := 0 }
set_option maxRecDepth 100000 in
set_option maxHeartbeats 4000000 in
theorem k_X11_square_b0 {l : Launch} {ad : Nat → Nat} {X : Cx} (F : Ok vwCl WS NWs TM cX11_square 4 yX11_square.cls (some .long) ad l X) {σ : St} {x0 x2 : Int} {y : Int} (hf : f_X11_square_b0 x0 x2 = some y) (hr : RetL vwCl TM cX11_square 4 rm_X11_square ad X y σ) : At vwCl TM 4 rm_X11_square ad X σ [(0, jv x0), (2, jv x2)] [] 0 := by
  unfold f_X11_square_b0 at hf
  refine a_lload_n F dX11_square_0 rfl 0 rfl ?_
  refine a_lload_n F dX11_square_1 rfl 0 rfl ?_
  refine a_lmul F dX11_square_2 ?_
  refine a_lload_n F dX11_square_3 rfl 1 rfl ?_
  refine a_lload_n F dX11_square_4 rfl 1 rfl ?_
  refine a_lmul F dX11_square_5 ?_
  refine a_ladd F dX11_square_6 ?_
  cases hf
  exact hr _ _ dX11_square_7
set_option maxRecDepth 100000 in
set_option maxHeartbeats 4000000 in
theorem c_X11_square {l : Launch}  {σ : St} {x0 x2 : Int} : CtrL vwCl WS NWs TM l yX11_square cX11_square 4 (some .long) rm_X11_square (fun ad => [jv x0, jv x2]) σ (rd (f_X11_square x0 x2) σ) := by
  refine ctrL_of (by decide +kernel) (fun ad => Nat.le_of_ble_eq_true rfl) (fun v σ' ad X hf F K => ?_)
  obtain ⟨hf2, e2⟩ := rd_elim hf
  subst e2
  exact k_X11_square_b0 F hf2 K
abbrev rm_X11_apart : Room := { frames := 1, cells := 0, slots := 0, locals := 23 }
set_option maxRecDepth 100000 in
set_option maxHeartbeats 4000000 in
theorem k_X11_apart_b0 {l : Launch} {ad : Nat → Nat} {X : Cx} (F : Ok vwCl WS NWs TM cX11_apart 3 yX11_apart.cls (some .long) ad l X) {σ : St} {x1 x2 : Int} {y : Int} (hf : f_X11_apart_b0 σ x1 x2 = some y) (hr : RetL vwCl TM cX11_apart 3 rm_X11_apart ad X y σ) : At vwCl TM 3 rm_X11_apart ad X σ [(0, .ref (ad 0)), (1, iv x1), (2, iv x2)] [] 0 := by
  unfold f_X11_apart_b0 at hf
  refine a_aload_n F dX11_apart_0 rfl 0 rfl ?_
  refine a_getR F (j := 4) tM_0 rfl rfl (by decide) inW11 w_539 dX11_apart_1 ?_
  refine a_iload_n F dX11_apart_4 rfl 1 rfl ?_
  refine a_iald F tM_2 rfl (by decide) hf dX11_apart_5 (fun hf => ?_)
  refine a_aload_n F dX11_apart_6 rfl 0 rfl ?_
  refine a_getR F (j := 4) tM_0 rfl rfl (by decide) inW11 w_539 dX11_apart_7 ?_
  refine a_iload_n F dX11_apart_10 rfl 2 rfl ?_
  refine a_iald F tM_2 rfl (by decide) hf dX11_apart_11 (fun hf => ?_)
  refine a_isub F dX11_apart_12 ?_
  refine a_i2l F hf dX11_apart_13 (fun hf => ?_)
  refine a_aload_n F dX11_apart_14 rfl 0 rfl ?_
  refine a_getR F (j := 5) tM_0 rfl rfl (by decide) inW11 w_540 dX11_apart_15 ?_
  refine a_iload_n F dX11_apart_18 rfl 1 rfl ?_
  refine a_iald F tM_3 rfl (by decide) hf dX11_apart_19 (fun hf => ?_)
  refine a_aload_n F dX11_apart_20 rfl 0 rfl ?_
  refine a_getR F (j := 5) tM_0 rfl rfl (by decide) inW11 w_540 dX11_apart_21 ?_
  refine a_iload_n F dX11_apart_24 rfl 2 rfl ?_
  refine a_iald F tM_3 rfl (by decide) hf dX11_apart_25 (fun hf => ?_)
  refine a_isub F dX11_apart_26 ?_
  refine a_i2l F hf dX11_apart_27 (fun hf => ?_)
  refine a_callSLr F lk_RX11_247 c_X11_square rfl rfl ⟨rfl, rfl⟩ ⟨Nat.le_of_ble_eq_true rfl, Nat.le_of_ble_eq_true rfl⟩ rfl (Nat.le_of_ble_eq_true rfl) dX11_apart_28 hf (fun r_1 hf => ?_)
  cases hf
  exact hr _ _ dX11_apart_31
set_option maxRecDepth 100000 in
set_option maxHeartbeats 4000000 in
theorem c_X11_apart {l : Launch}  {σ : St} {x1 x2 : Int} : CtrL vwCl WS NWs TM l yX11_apart cX11_apart 3 (some .long) rm_X11_apart (fun ad => [.ref (ad 0), iv x1, iv x2]) σ (rd (f_X11_apart σ x1 x2) σ) := by
  refine ctrL_of (by decide +kernel) (fun ad => Nat.le_of_ble_eq_true rfl) (fun v σ' ad X hf F K => ?_)
  obtain ⟨hf2, e2⟩ := rd_elim hf
  subst e2
  exact k_X11_apart_b0 F hf2 K
abbrev rm_X11_areTwo : Room := { frames := 1, cells := 0, slots := 0, locals := 21 }
set_option maxRecDepth 100000 in
set_option maxHeartbeats 4000000 in
theorem k_X11_areTwo_b0 {l : Launch} {ad : Nat → Nat} {X : Cx} (F : Ok vwCl WS NWs TM cX11_areTwo 3 yX11_areTwo.cls (some .boolean) ad l X) {σ : St} {x1 x2 : Int} {y : Int} (hf : f_X11_areTwo_b0 σ x1 x2 = some y) (hr : RetI vwCl TM cX11_areTwo 3 rm_X11_areTwo ad X y σ) : At vwCl TM 3 rm_X11_areTwo ad X σ [(0, .ref (ad 0)), (1, iv x1), (2, iv x2)] [] 0 := by
  unfold f_X11_areTwo_b0 at hf
  refine a_aload_n F dX11_areTwo_0 rfl 0 rfl ?_
  refine a_iload_n F dX11_areTwo_1 rfl 1 rfl ?_
  refine a_callVIr F lk_RX11_124 tM_0 rfl c_X11_isWell rfl rfl ⟨rfl, rfl⟩ ⟨Nat.le_of_ble_eq_true rfl, Nat.le_of_ble_eq_true rfl⟩ rfl (Nat.le_of_ble_eq_true rfl) dX11_areTwo_2 hf (fun r_1 hf => ?_)
  refine a_if_eq F hf (tgt := 25) dX11_areTwo_5 (by decide) (fun hf => ?_) (fun hf => ?_)
  · refine a_iconst F dX11_areTwo_25 ?_
    cases hf
    exact hr _ _ dX11_areTwo_26
  · refine a_aload_n F dX11_areTwo_8 rfl 0 rfl ?_
    refine a_iload_n F dX11_areTwo_9 rfl 2 rfl ?_
    refine a_callVIr F lk_RX11_124 tM_0 rfl c_X11_isWell rfl rfl ⟨rfl, rfl⟩ ⟨Nat.le_of_ble_eq_true rfl, Nat.le_of_ble_eq_true rfl⟩ rfl (Nat.le_of_ble_eq_true rfl) dX11_areTwo_10 hf (fun r_2 hf => ?_)
    refine a_if_eq F hf (tgt := 25) dX11_areTwo_13 (by decide) (fun hf => ?_) (fun hf => ?_)
    · refine a_iconst F dX11_areTwo_25 ?_
      cases hf
      exact hr _ _ dX11_areTwo_26
    · refine a_iload_n F dX11_areTwo_16 rfl 1 rfl ?_
      refine a_iload_n F dX11_areTwo_17 rfl 2 rfl ?_
      refine a_icmp_eq F hf (tgt := 25) dX11_areTwo_18 (by decide) (fun hf => ?_) (fun hf => ?_)
      · refine a_iconst F dX11_areTwo_25 ?_
        cases hf
        exact hr _ _ dX11_areTwo_26
      · refine a_iconst F dX11_areTwo_21 ?_
        refine a_goto F (tgt := 26) dX11_areTwo_22 (by decide) ?_
        cases hf
        exact hr _ _ dX11_areTwo_26
set_option maxRecDepth 100000 in
set_option maxHeartbeats 4000000 in
theorem c_X11_areTwo {l : Launch}  {σ : St} {x1 x2 : Int} : CtrI vwCl WS NWs TM l yX11_areTwo cX11_areTwo 3 (some .boolean) rm_X11_areTwo (fun ad => [.ref (ad 0), iv x1, iv x2]) σ (rd (f_X11_areTwo σ x1 x2) σ) := by
  refine ctrZ_of (fun v σ' h => jz_z (rd_elim h).1) (by decide +kernel) (fun ad => Nat.le_of_ble_eq_true rfl) (fun v σ' ad X hf F K => ?_)
  obtain ⟨hf2, e2⟩ := rd_elim hf
  subst e2
  exact k_X11_areTwo_b0 F (jz_e hf2) K
abbrev rm_X11_cross : Room := { frames := 0, cells := 0, slots := 0, locals := 0 }
set_option maxRecDepth 100000 in
set_option maxHeartbeats 4000000 in
theorem k_X11_cross_b0 {l : Launch} {ad : Nat → Nat} {X : Cx} (F : Ok vwCl WS NWs TM cX11_cross 4 yX11_cross.cls (some .long) ad l X) {σ : St} {x1 x2 x3 : Int} {y : Int} (hf : f_X11_cross_b0 σ x1 x2 x3 = some y) (hr : RetL vwCl TM cX11_cross 4 rm_X11_cross ad X y σ) : At vwCl TM 4 rm_X11_cross ad X σ [(0, .ref (ad 0)), (1, iv x1), (2, iv x2), (3, iv x3)] [] 0 := by
  unfold f_X11_cross_b0 at hf
  refine a_aload_n F dX11_cross_0 rfl 0 rfl ?_
  refine a_getR F (j := 4) tM_0 rfl rfl (by decide) inW11 w_539 dX11_cross_1 ?_
  refine a_iload_n F dX11_cross_4 rfl 2 rfl ?_
  refine a_iald F tM_2 rfl (by decide) hf dX11_cross_5 (fun hf => ?_)
  refine a_aload_n F dX11_cross_6 rfl 0 rfl ?_
  refine a_getR F (j := 4) tM_0 rfl rfl (by decide) inW11 w_539 dX11_cross_7 ?_
  refine a_iload_n F dX11_cross_10 rfl 1 rfl ?_
  refine a_iald F tM_2 rfl (by decide) hf dX11_cross_11 (fun hf => ?_)
  refine a_isub F dX11_cross_12 ?_
  refine a_i2l F hf dX11_cross_13 (fun hf => ?_)
  refine a_aload_n F dX11_cross_14 rfl 0 rfl ?_
  refine a_getR F (j := 5) tM_0 rfl rfl (by decide) inW11 w_540 dX11_cross_15 ?_
  refine a_iload_n F dX11_cross_18 rfl 3 rfl ?_
  refine a_iald F tM_3 rfl (by decide) hf dX11_cross_19 (fun hf => ?_)
  refine a_aload_n F dX11_cross_20 rfl 0 rfl ?_
  refine a_getR F (j := 5) tM_0 rfl rfl (by decide) inW11 w_540 dX11_cross_21 ?_
  refine a_iload_n F dX11_cross_24 rfl 1 rfl ?_
  refine a_iald F tM_3 rfl (by decide) hf dX11_cross_25 (fun hf => ?_)
  refine a_isub F dX11_cross_26 ?_
  refine a_i2l F hf dX11_cross_27 (fun hf => ?_)
  refine a_lmul F dX11_cross_28 ?_
  refine a_aload_n F dX11_cross_29 rfl 0 rfl ?_
  refine a_getR F (j := 5) tM_0 rfl rfl (by decide) inW11 w_540 dX11_cross_30 ?_
  refine a_iload_n F dX11_cross_33 rfl 2 rfl ?_
  refine a_iald F tM_3 rfl (by decide) hf dX11_cross_34 (fun hf => ?_)
  refine a_aload_n F dX11_cross_35 rfl 0 rfl ?_
  refine a_getR F (j := 5) tM_0 rfl rfl (by decide) inW11 w_540 dX11_cross_36 ?_
  refine a_iload_n F dX11_cross_39 rfl 1 rfl ?_
  refine a_iald F tM_3 rfl (by decide) hf dX11_cross_40 (fun hf => ?_)
  refine a_isub F dX11_cross_41 ?_
  refine a_i2l F hf dX11_cross_42 (fun hf => ?_)
  refine a_aload_n F dX11_cross_43 rfl 0 rfl ?_
  refine a_getR F (j := 4) tM_0 rfl rfl (by decide) inW11 w_539 dX11_cross_44 ?_
  refine a_iload_n F dX11_cross_47 rfl 3 rfl ?_
  refine a_iald F tM_2 rfl (by decide) hf dX11_cross_48 (fun hf => ?_)
  refine a_aload_n F dX11_cross_49 rfl 0 rfl ?_
  refine a_getR F (j := 4) tM_0 rfl rfl (by decide) inW11 w_539 dX11_cross_50 ?_
  refine a_iload_n F dX11_cross_53 rfl 1 rfl ?_
  refine a_iald F tM_2 rfl (by decide) hf dX11_cross_54 (fun hf => ?_)
  refine a_isub F dX11_cross_55 ?_
  refine a_i2l F hf dX11_cross_56 (fun hf => ?_)
  refine a_lmul F dX11_cross_57 ?_
  refine a_lsub F dX11_cross_58 ?_
  cases hf
  exact hr _ _ dX11_cross_59
set_option maxRecDepth 100000 in
set_option maxHeartbeats 4000000 in
theorem c_X11_cross {l : Launch}  {σ : St} {x1 x2 x3 : Int} : CtrL vwCl WS NWs TM l yX11_cross cX11_cross 4 (some .long) rm_X11_cross (fun ad => [.ref (ad 0), iv x1, iv x2, iv x3]) σ (rd (f_X11_cross σ x1 x2 x3) σ) := by
  refine ctrL_of (by decide +kernel) (fun ad => Nat.le_of_ble_eq_true rfl) (fun v σ' ad X hf F K => ?_)
  obtain ⟨hf2, e2⟩ := rd_elim hf
  subst e2
  exact k_X11_cross_b0 F hf2 K
abbrev rm_X11_hull : Room := { frames := 2, cells := 0, slots := 0, locals := 45 }
set_option maxRecDepth 100000 in
set_option maxHeartbeats 4000000 in
theorem k_X11_hull_b9 {l : Launch} {ad : Nat → Nat} {X : Cx} (F : Ok vwCl WS NWs TM cX11_hull 7 yX11_hull.cls (some .int) ad l X) {σ : St} {x1 x2 : Int} {y : ((Int × Int) ⊕ Int)} (hf : f_X11_hull_b9 σ x1 x2 = some y) (hn : ∀ z1 z2, y = .inl (z1, z2) → At vwCl TM 7 rm_X11_hull ad X σ [(0, .ref (ad 0)), (1, iv z1), (2, iv z2)] [] 9) (hx0 : ∀ z1, y = .inr (z1) → At vwCl TM 7 rm_X11_hull ad X σ [(0, .ref (ad 0)), (1, iv z1)] [] 84) : At vwCl TM 7 rm_X11_hull ad X σ [(0, .ref (ad 0)), (1, iv x1), (2, iv x2)] [] 9 := by
  unfold f_X11_hull_b9 at hf
  refine a_iload_n F dX11_hull_9 rfl 2 rfl ?_
  refine a_bipush F dX11_hull_10 (by decide +kernel) ?_
  refine a_icmp_ge F hf (tgt := 84) dX11_hull_12 (by decide) (fun hf => ?_) (fun hf => ?_)
  · refine a_aload_n F dX11_hull_15 rfl 0 rfl ?_
    refine a_iload_n F dX11_hull_16 rfl 2 rfl ?_
    refine a_callVIr F lk_RX11_148 tM_0 rfl c_X11_counts rfl rfl ⟨rfl, rfl⟩ ⟨Nat.le_of_ble_eq_true rfl, Nat.le_of_ble_eq_true rfl⟩ rfl (Nat.le_of_ble_eq_true rfl) dX11_hull_17 hf (fun r_4 hf => ?_)
    refine a_if_ne F hf (tgt := 26) dX11_hull_20 (by decide) (fun hf => ?_) (fun hf => ?_)
    · refine a_goto F (tgt := 78) dX11_hull_23 (by decide) ?_
      refine a_iinc F hf dX11_hull_78 2 rfl (by decide) (fun x2_13 hf => ⟨[(2, iv x2_13), (0, .ref (ad 0)), (1, iv x1)], rfl, ?_⟩)
      refine a_goto F (tgt := 9) dX11_hull_81 (by decide) ?_
      cases hf
      exact a_sub [1, 2, 0] rfl (hn _ _ rfl)
    · refine a_iload_n F dX11_hull_26 rfl 1 rfl ?_
      refine a_iconst F dX11_hull_27 ?_
      refine a_icmp_eq F hf (tgt := 76) dX11_hull_28 (by decide) (fun hf => ?_) (fun hf => ?_)
      · refine a_iload_n F dX11_hull_76 rfl 2 rfl ?_
        refine a_topI hf (fun x1_5 hf => ?_)
        refine a_istore_n F (lv' := [(1, iv x1_5), (0, .ref (ad 0)), (2, iv x2)]) dX11_hull_77 rfl (by decide) rfl ?_
        refine a_iinc F hf dX11_hull_78 2 rfl (by decide) (fun x2_6 hf => ⟨[(2, iv x2_6), (1, iv x1_5), (0, .ref (ad 0))], rfl, ?_⟩)
        refine a_goto F (tgt := 9) dX11_hull_81 (by decide) ?_
        cases hf
        exact a_sub [2, 1, 0] rfl (hn _ _ rfl)
      · refine a_aload_n F dX11_hull_31 rfl 0 rfl ?_
        refine a_getR F (j := 4) tM_0 rfl rfl (by decide) inW11 w_539 dX11_hull_32 ?_
        refine a_iload_n F dX11_hull_35 rfl 2 rfl ?_
        refine a_iald F tM_2 rfl (by decide) hf dX11_hull_36 (fun hf => ?_)
        refine a_aload_n F dX11_hull_37 rfl 0 rfl ?_
        refine a_getR F (j := 4) tM_0 rfl rfl (by decide) inW11 w_539 dX11_hull_38 ?_
        refine a_iload_n F dX11_hull_41 rfl 1 rfl ?_
        refine a_iald F tM_2 rfl (by decide) hf dX11_hull_42 (fun hf => ?_)
        refine a_icmp_lt F hf (tgt := 76) dX11_hull_43 (by decide) (fun hf => ?_) (fun hf => ?_)
        · refine a_iload_n F dX11_hull_76 rfl 2 rfl ?_
          refine a_topI hf (fun x1_7 hf => ?_)
          refine a_istore_n F (lv' := [(1, iv x1_7), (0, .ref (ad 0)), (2, iv x2)]) dX11_hull_77 rfl (by decide) rfl ?_
          refine a_iinc F hf dX11_hull_78 2 rfl (by decide) (fun x2_8 hf => ⟨[(2, iv x2_8), (1, iv x1_7), (0, .ref (ad 0))], rfl, ?_⟩)
          refine a_goto F (tgt := 9) dX11_hull_81 (by decide) ?_
          cases hf
          exact a_sub [2, 1, 0] rfl (hn _ _ rfl)
        · refine a_aload_n F dX11_hull_46 rfl 0 rfl ?_
          refine a_getR F (j := 4) tM_0 rfl rfl (by decide) inW11 w_539 dX11_hull_47 ?_
          refine a_iload_n F dX11_hull_50 rfl 2 rfl ?_
          refine a_iald F tM_2 rfl (by decide) hf dX11_hull_51 (fun hf => ?_)
          refine a_aload_n F dX11_hull_52 rfl 0 rfl ?_
          refine a_getR F (j := 4) tM_0 rfl rfl (by decide) inW11 w_539 dX11_hull_53 ?_
          refine a_iload_n F dX11_hull_56 rfl 1 rfl ?_
          refine a_iald F tM_2 rfl (by decide) hf dX11_hull_57 (fun hf => ?_)
          refine a_icmp_ne F hf (tgt := 78) dX11_hull_58 (by decide) (fun hf => ?_) (fun hf => ?_)
          · refine a_aload_n F dX11_hull_61 rfl 0 rfl ?_
            refine a_getR F (j := 5) tM_0 rfl rfl (by decide) inW11 w_540 dX11_hull_62 ?_
            refine a_iload_n F dX11_hull_65 rfl 2 rfl ?_
            refine a_iald F tM_3 rfl (by decide) hf dX11_hull_66 (fun hf => ?_)
            refine a_aload_n F dX11_hull_67 rfl 0 rfl ?_
            refine a_getR F (j := 5) tM_0 rfl rfl (by decide) inW11 w_540 dX11_hull_68 ?_
            refine a_iload_n F dX11_hull_71 rfl 1 rfl ?_
            refine a_iald F tM_3 rfl (by decide) hf dX11_hull_72 (fun hf => ?_)
            refine a_icmp_ge F hf (tgt := 78) dX11_hull_73 (by decide) (fun hf => ?_) (fun hf => ?_)
            · refine a_iload_n F dX11_hull_76 rfl 2 rfl ?_
              refine a_topI hf (fun x1_11 hf => ?_)
              refine a_istore_n F (lv' := [(1, iv x1_11), (0, .ref (ad 0)), (2, iv x2)]) dX11_hull_77 rfl (by decide) rfl ?_
              refine a_iinc F hf dX11_hull_78 2 rfl (by decide) (fun x2_12 hf => ⟨[(2, iv x2_12), (1, iv x1_11), (0, .ref (ad 0))], rfl, ?_⟩)
              refine a_goto F (tgt := 9) dX11_hull_81 (by decide) ?_
              cases hf
              exact a_sub [2, 1, 0] rfl (hn _ _ rfl)
            · refine a_iinc F hf dX11_hull_78 2 rfl (by decide) (fun x2_10 hf => ⟨[(2, iv x2_10), (0, .ref (ad 0)), (1, iv x1)], rfl, ?_⟩)
              refine a_goto F (tgt := 9) dX11_hull_81 (by decide) ?_
              cases hf
              exact a_sub [1, 2, 0] rfl (hn _ _ rfl)
          · refine a_iinc F hf dX11_hull_78 2 rfl (by decide) (fun x2_9 hf => ⟨[(2, iv x2_9), (0, .ref (ad 0)), (1, iv x1)], rfl, ?_⟩)
            refine a_goto F (tgt := 9) dX11_hull_81 (by decide) ?_
            cases hf
            exact a_sub [1, 2, 0] rfl (hn _ _ rfl)
  · cases hf
    exact a_sub [0, 1] rfl (hx0 _ rfl)
set_option maxRecDepth 100000 in
set_option maxHeartbeats 4000000 in
theorem k_X11_hull_b172 {l : Launch} {ad : Nat → Nat} {X : Cx} (F : Ok vwCl WS NWs TM cX11_hull 7 yX11_hull.cls (some .int) ad l X) {σ : St} {x1 x2 x3 x4 t0 : Int} {y : ((Int × Int) ⊕ Int)} (hf : f_X11_hull_b172 σ x1 x2 x3 x4 t0 = some y) (hn : ∀ z3 z4, y = .inl (z3, z4) → At vwCl TM 7 rm_X11_hull ad X σ [(0, .ref (ad 0)), (1, iv x1), (2, iv x2), (3, iv z3), (4, iv z4)] [] 128) : At vwCl TM 7 rm_X11_hull ad X σ [(0, .ref (ad 0)), (1, iv x1), (2, iv x2), (3, iv x3), (4, iv x4)] [jv t0] 172 := by
  unfold f_X11_hull_b172 at hf
  refine a_topJ hf (fun x5_23 hf => ?_)
  refine a_lstore F (lv' := [(5, jv x5_23), (0, .ref (ad 0)), (1, iv x1), (2, iv x2), (3, iv x3), (4, iv x4)]) dX11_hull_172 (by decide) rfl ?_
  refine a_lload F dX11_hull_174 0 rfl ?_
  refine a_lconst F (n := 0) dX11_hull_176 (by decide +kernel) ?_
  refine a_lcmp_lt F hf (tgt := 205) dX11_hull_177 dX11_hull_178 (by decide) (fun hf => ?_) (fun hf => ?_)
  · refine a_iload F dX11_hull_205 5 rfl ?_
    refine a_topI hf (fun x3_24 hf => ?_)
    refine a_istore_n F (lv' := [(3, iv x3_24), (5, jv x5_23), (0, .ref (ad 0)), (1, iv x1), (2, iv x2), (4, iv x4)]) dX11_hull_207 rfl (by decide) rfl ?_
    refine a_iinc F hf dX11_hull_208 5 rfl (by decide) (fun x4_25 hf => ⟨[(4, iv x4_25), (3, iv x3_24), (5, jv x5_23), (0, .ref (ad 0)), (1, iv x1), (2, iv x2)], rfl, ?_⟩)
    refine a_goto F (tgt := 128) dX11_hull_211 (by decide) ?_
    cases hf
    exact a_sub [3, 4, 5, 1, 0] rfl (hn _ _ rfl)
  · refine a_lload F dX11_hull_181 0 rfl ?_
    refine a_lconst F (n := 0) dX11_hull_183 (by decide +kernel) ?_
    refine a_lcmp_ne F hf (tgt := 208) dX11_hull_184 dX11_hull_185 (by decide) (fun hf => ?_) (fun hf => ?_)
    · refine a_aload_n F dX11_hull_188 rfl 1 rfl ?_
      refine a_iload_n F dX11_hull_189 rfl 3 rfl ?_
      refine a_iload F dX11_hull_190 5 rfl ?_
      refine a_callVLr F lk_RX11_276 tM_0 rfl c_X11_apart rfl rfl ⟨rfl, rfl⟩ ⟨Nat.le_of_ble_eq_true rfl, Nat.le_of_ble_eq_true rfl⟩ rfl (Nat.le_of_ble_eq_true rfl) dX11_hull_192 hf (fun r_27 hf => ?_)
      refine a_aload_n F dX11_hull_195 rfl 1 rfl ?_
      refine a_iload_n F dX11_hull_196 rfl 3 rfl ?_
      refine a_iload_n F dX11_hull_197 rfl 4 rfl ?_
      refine a_callVLr F lk_RX11_276 tM_0 rfl c_X11_apart rfl rfl ⟨rfl, rfl⟩ ⟨Nat.le_of_ble_eq_true rfl, Nat.le_of_ble_eq_true rfl⟩ rfl (Nat.le_of_ble_eq_true rfl) dX11_hull_198 hf (fun r_28 hf => ?_)
      refine a_lcmp_le F hf (tgt := 208) dX11_hull_201 dX11_hull_202 (by decide) (fun hf => ?_) (fun hf => ?_)
      · refine a_iload F dX11_hull_205 5 rfl ?_
        refine a_topI hf (fun x3_30 hf => ?_)
        refine a_istore_n F (lv' := [(3, iv x3_30), (5, jv x5_23), (0, .ref (ad 0)), (1, iv x1), (2, iv x2), (4, iv x4)]) dX11_hull_207 rfl (by decide) rfl ?_
        refine a_iinc F hf dX11_hull_208 5 rfl (by decide) (fun x4_31 hf => ⟨[(4, iv x4_31), (3, iv x3_30), (5, jv x5_23), (0, .ref (ad 0)), (1, iv x1), (2, iv x2)], rfl, ?_⟩)
        refine a_goto F (tgt := 128) dX11_hull_211 (by decide) ?_
        cases hf
        exact a_sub [3, 4, 5, 1, 0] rfl (hn _ _ rfl)
      · refine a_iinc F hf dX11_hull_208 5 rfl (by decide) (fun x4_29 hf => ⟨[(4, iv x4_29), (5, jv x5_23), (0, .ref (ad 0)), (1, iv x1), (2, iv x2), (3, iv x3)], rfl, ?_⟩)
        refine a_goto F (tgt := 128) dX11_hull_211 (by decide) ?_
        cases hf
        exact a_sub [2, 3, 4, 5, 0] rfl (hn _ _ rfl)
    · refine a_iinc F hf dX11_hull_208 5 rfl (by decide) (fun x4_26 hf => ⟨[(4, iv x4_26), (5, jv x5_23), (0, .ref (ad 0)), (1, iv x1), (2, iv x2), (3, iv x3)], rfl, ?_⟩)
      refine a_goto F (tgt := 128) dX11_hull_211 (by decide) ?_
      cases hf
      exact a_sub [2, 3, 4, 5, 0] rfl (hn _ _ rfl)
set_option maxRecDepth 100000 in
set_option maxHeartbeats 4000000 in
theorem k_X11_hull_b128 {l : Launch} {ad : Nat → Nat} {X : Cx} (F : Ok vwCl WS NWs TM cX11_hull 7 yX11_hull.cls (some .int) ad l X) {σ : St} {x1 x2 x3 x4 : Int} {y : ((Int × Int) ⊕ Int)} (hf : f_X11_hull_b128 σ x1 x2 x3 x4 = some y) (hn : ∀ z3 z4, y = .inl (z3, z4) → At vwCl TM 7 rm_X11_hull ad X σ [(0, .ref (ad 0)), (1, iv x1), (2, iv x2), (3, iv z3), (4, iv z4)] [] 128) (hx0 : ∀ z3, y = .inr (z3) → At vwCl TM 7 rm_X11_hull ad X σ [(0, .ref (ad 0)), (1, iv x1), (3, iv z3)] [] 214) : At vwCl TM 7 rm_X11_hull ad X σ [(0, .ref (ad 0)), (1, iv x1), (2, iv x2), (3, iv x3), (4, iv x4)] [] 128 := by
  unfold f_X11_hull_b128 at hf
  refine a_iload F dX11_hull_128 4 rfl ?_
  refine a_bipush F dX11_hull_130 (by decide +kernel) ?_
  refine a_icmp_ge F hf (tgt := 214) dX11_hull_132 (by decide) (fun hf => ?_) (fun hf => ?_)
  · refine a_iload F dX11_hull_135 4 rfl ?_
    refine a_iload_n F dX11_hull_137 rfl 2 rfl ?_
    refine a_icmp_eq F hf (tgt := 208) dX11_hull_138 (by decide) (fun hf => ?_) (fun hf => ?_)
    · refine a_iinc F hf dX11_hull_208 4 rfl (by decide) (fun x4_20 hf => ⟨[(4, iv x4_20), (0, .ref (ad 0)), (1, iv x1), (2, iv x2), (3, iv x3)], rfl, ?_⟩)
      refine a_goto F (tgt := 128) dX11_hull_211 (by decide) ?_
      cases hf
      exact a_sub [1, 2, 3, 4, 0] rfl (hn _ _ rfl)
    · refine a_aload_n F dX11_hull_141 rfl 0 rfl ?_
      refine a_iload F dX11_hull_142 4 rfl ?_
      refine a_callVIr F lk_RX11_148 tM_0 rfl c_X11_counts rfl rfl ⟨rfl, rfl⟩ ⟨Nat.le_of_ble_eq_true rfl, Nat.le_of_ble_eq_true rfl⟩ rfl (Nat.le_of_ble_eq_true rfl) dX11_hull_144 hf (fun r_21 hf => ?_)
      refine a_if_ne F hf (tgt := 153) dX11_hull_147 (by decide) (fun hf => ?_) (fun hf => ?_)
      · refine a_goto F (tgt := 208) dX11_hull_150 (by decide) ?_
        refine a_iinc F hf dX11_hull_208 4 rfl (by decide) (fun x4_32 hf => ⟨[(4, iv x4_32), (0, .ref (ad 0)), (1, iv x1), (2, iv x2), (3, iv x3)], rfl, ?_⟩)
        refine a_goto F (tgt := 128) dX11_hull_211 (by decide) ?_
        cases hf
        exact a_sub [1, 2, 3, 4, 0] rfl (hn _ _ rfl)
      · refine a_iload_n F dX11_hull_153 rfl 3 rfl ?_
        refine a_iconst F dX11_hull_154 ?_
        refine a_icmp_ne F hf (tgt := 164) dX11_hull_155 (by decide) (fun hf => ?_) (fun hf => ?_)
        · refine a_ldc2 F (n := (-1)) (by decide +kernel) w_558 dX11_hull_158 ?_
          refine a_goto F (tgt := 172) dX11_hull_161 (by decide) ?_
          exact a_sub [0, 1, 2, 3, 4] rfl (k_X11_hull_b172 F hf hn)
        · refine a_aload_n F dX11_hull_164 rfl 0 rfl ?_
          refine a_iload_n F dX11_hull_165 rfl 2 rfl ?_
          refine a_iload_n F dX11_hull_166 rfl 3 rfl ?_
          refine a_iload F dX11_hull_167 4 rfl ?_
          refine a_callVLr F lk_RX11_250 tM_0 rfl c_X11_cross rfl rfl ⟨rfl, rfl⟩ ⟨Nat.le_of_ble_eq_true rfl, Nat.le_of_ble_eq_true rfl⟩ rfl (Nat.le_of_ble_eq_true rfl) dX11_hull_169 hf (fun r_22 hf => ?_)
          exact a_sub [0, 1, 2, 3, 4] rfl (k_X11_hull_b172 F hf hn)
  · cases hf
    exact a_sub [0, 1, 3] rfl (hx0 _ rfl)
set_option maxRecDepth 100000 in
set_option maxHeartbeats 4000000 in
theorem k_X11_hull_b103 {l : Launch} {ad : Nat → Nat} {X : Cx} (F : Ok vwCl WS NWs TM cX11_hull 7 yX11_hull.cls (some .int) ad l X) {σ : St} {x1 x2 : Int} {y : ((St × Int) ⊕ St)} (hf : f_X11_hull_b103 σ x1 x2 = some y) (hn : ∀ τ z2, y = .inl (τ, z2) → At vwCl TM 7 rm_X11_hull ad X τ [(0, .ref (ad 0)), (1, iv x1), (2, iv z2)] [] 86) : At vwCl TM 7 rm_X11_hull ad X σ [(0, .ref (ad 0)), (1, iv x1), (2, iv x2)] [] 103 := by
  unfold f_X11_hull_b103 at hf
  refine a_aload_n F dX11_hull_103 rfl 0 rfl ?_
  refine a_getR F (j := 50) tM_0 rfl rfl (by decide) inW11 w_606 dX11_hull_104 ?_
  refine a_aload_n F dX11_hull_107 rfl 0 rfl ?_
  refine a_getI F (j := 49) tM_0 rfl rfl (by decide) inW11 w_605 dX11_hull_108 ?_
  refine a_iload_n F dX11_hull_111 rfl 2 rfl ?_
  refine a_iast F tM_28 rfl (by decide) hf dX11_hull_112 (fun σ_16 hf => ?_)
  refine a_aload_n F dX11_hull_113 rfl 0 rfl ?_
  refine a_dup F dX11_hull_114 rfl ?_
  refine a_getI F (j := 49) tM_0 rfl rfl (by decide) inW11 w_605 dX11_hull_115 ?_
  refine a_iconst F dX11_hull_118 ?_
  refine a_iadd F dX11_hull_119 ?_
  refine a_putI F (j := 49) tM_0 rfl rfl (by decide) inW11 w_605 tyX11 tyX11_ok nmX11 rfl rfl hf dX11_hull_120 (fun σ_17 hf => ?_)
  refine a_iconst F dX11_hull_123 ?_
  refine a_topI hf (fun x3_18 hf => ?_)
  refine a_istore_n F (lv' := [(3, iv x3_18), (0, .ref (ad 0)), (1, iv x1), (2, iv x2)]) dX11_hull_124 rfl (by decide) rfl ?_
  refine a_iconst F dX11_hull_125 ?_
  refine a_topI hf (fun x4_19 hf => ?_)
  refine a_istore F (lv' := [(4, iv x4_19), (3, iv x3_18), (0, .ref (ad 0)), (1, iv x1), (2, iv x2)]) dX11_hull_126 (by decide) rfl ?_
  obtain ⟨q0, he, hf⟩ := jbind_elim hf
  refine a_sub [2, 3, 4, 1, 0] rfl (loop_rule (P := (fun q => ∀ z3 z4, (z3, z4) = q → At vwCl TM 7 rm_X11_hull ad X σ_17 [(0, .ref (ad 0)), (1, iv x1), (2, iv x2), (3, iv z3), (4, iv z4)] [] 128)) (K := (fun q => (∀ z3, z3 = q → At vwCl TM 7 rm_X11_hull ad X σ_17 [(0, .ref (ad 0)), (1, iv x1), (3, iv z3)] [] 214))) ?_ 1000 _ _ he ?_ _ _ rfl)
  · intro q y hy hn hx z3 z4 e
    subst e
    exact k_X11_hull_b128 F hy (fun z3 z4 e => hn _ e _ _ rfl) (fun z3 e => (hx _ e) _ rfl)
  · intro x3_33 e
    subst e
    refine a_iload_n F dX11_hull_214 rfl 2 rfl ?_
    refine a_topI hf (fun x2_34 hf => ?_)
    refine a_istore_n F (lv' := [(2, iv x2_34), (0, .ref (ad 0)), (1, iv x1), (3, iv x3_33)]) dX11_hull_215 rfl (by decide) rfl ?_
    refine a_goto F (tgt := 86) dX11_hull_216 (by decide) ?_
    cases hf
    exact a_sub [1, 2, 0] rfl (hn _ _ rfl)
set_option maxRecDepth 100000 in
set_option maxHeartbeats 4000000 in
theorem k_X11_hull_b86 {l : Launch} {ad : Nat → Nat} {X : Cx} (F : Ok vwCl WS NWs TM cX11_hull 7 yX11_hull.cls (some .int) ad l X) {σ : St} {x1 x2 : Int} {y : ((St × Int) ⊕ St)} (hf : f_X11_hull_b86 σ x1 x2 = some y) (hn : ∀ τ z2, y = .inl (τ, z2) → At vwCl TM 7 rm_X11_hull ad X τ [(0, .ref (ad 0)), (1, iv x1), (2, iv z2)] [] 86) (hx0 : ∀ τ, y = .inr (τ) → At vwCl TM 7 rm_X11_hull ad X τ [(0, .ref (ad 0))] [] 219) : At vwCl TM 7 rm_X11_hull ad X σ [(0, .ref (ad 0)), (1, iv x1), (2, iv x2)] [] 86 := by
  unfold f_X11_hull_b86 at hf
  refine a_iload_n F dX11_hull_86 rfl 2 rfl ?_
  refine a_iconst F dX11_hull_87 ?_
  refine a_icmp_eq F hf (tgt := 219) dX11_hull_88 (by decide) (fun hf => ?_) (fun hf => ?_)
  · cases hf
    exact a_sub [0] rfl (hx0 _ rfl)
  · refine a_aload_n F dX11_hull_91 rfl 0 rfl ?_
    refine a_getI F (j := 49) tM_0 rfl rfl (by decide) inW11 w_605 dX11_hull_92 ?_
    refine a_if_eq F hf (tgt := 103) dX11_hull_95 (by decide) (fun hf => ?_) (fun hf => ?_)
    · exact a_sub [0, 1, 2] rfl (k_X11_hull_b103 F hf hn)
    · refine a_iload_n F dX11_hull_98 rfl 2 rfl ?_
      refine a_iload_n F dX11_hull_99 rfl 1 rfl ?_
      refine a_icmp_eq F hf (tgt := 219) dX11_hull_100 (by decide) (fun hf => ?_) (fun hf => ?_)
      · cases hf
        exact a_sub [0] rfl (hx0 _ rfl)
      · exact a_sub [0, 1, 2] rfl (k_X11_hull_b103 F hf hn)
set_option maxRecDepth 100000 in
set_option maxHeartbeats 4000000 in
theorem k_X11_hull_b0 {l : Launch} {ad : Nat → Nat} {X : Cx} (F : Ok vwCl WS NWs TM cX11_hull 7 yX11_hull.cls (some .int) ad l X) {σ : St} {y : (Int × St)} (hf : f_X11_hull_b0 σ = some y) (hr : ∀ v τ, y = (v, τ) → RetI vwCl TM cX11_hull 7 rm_X11_hull ad X v τ) : At vwCl TM 7 rm_X11_hull ad X σ [(0, .ref (ad 0))] [] 0 := by
  unfold f_X11_hull_b0 at hf
  refine a_aload_n F dX11_hull_0 rfl 0 rfl ?_
  refine a_iconst F dX11_hull_1 ?_
  refine a_putI F (j := 49) tM_0 rfl rfl (by decide) inW11 w_605 tyX11 tyX11_ok nmX11 rfl rfl hf dX11_hull_2 (fun σ_1 hf => ?_)
  refine a_iconst F dX11_hull_5 ?_
  refine a_topI hf (fun x1_2 hf => ?_)
  refine a_istore_n F (lv' := [(1, iv x1_2), (0, .ref (ad 0))]) dX11_hull_6 rfl (by decide) rfl ?_
  refine a_iconst F dX11_hull_7 ?_
  refine a_topI hf (fun x2_3 hf => ?_)
  refine a_istore_n F (lv' := [(2, iv x2_3), (1, iv x1_2), (0, .ref (ad 0))]) dX11_hull_8 rfl (by decide) rfl ?_
  obtain ⟨q0, he, hf⟩ := jbind_elim hf
  refine a_sub [2, 1, 0] rfl (loop_rule (P := (fun q => ∀ z1 z2, (z1, z2) = q → At vwCl TM 7 rm_X11_hull ad X σ_1 [(0, .ref (ad 0)), (1, iv z1), (2, iv z2)] [] 9)) (K := (fun q => (∀ z1, z1 = q → At vwCl TM 7 rm_X11_hull ad X σ_1 [(0, .ref (ad 0)), (1, iv z1)] [] 84))) ?_ 1000 _ _ he ?_ _ _ rfl)
  · intro q y hy hn hx z1 z2 e
    subst e
    exact k_X11_hull_b9 F hy (fun z1 z2 e => hn _ e _ _ rfl) (fun z1 e => (hx _ e) _ rfl)
  · intro x1_14 e
    subst e
    refine a_iload_n F dX11_hull_84 rfl 1 rfl ?_
    refine a_topI hf (fun x2_15 hf => ?_)
    refine a_istore_n F (lv' := [(2, iv x2_15), (0, .ref (ad 0)), (1, iv x1_14)]) dX11_hull_85 rfl (by decide) rfl ?_
    obtain ⟨q0, he, hf⟩ := jbind_elim hf
    refine a_sub [1, 2, 0] rfl (loop_rule (P := (fun q => ∀ τ z2, (τ, z2) = q → At vwCl TM 7 rm_X11_hull ad X τ [(0, .ref (ad 0)), (1, iv x1_14), (2, iv z2)] [] 86)) (K := (fun q => (∀ τ, τ = q → At vwCl TM 7 rm_X11_hull ad X τ [(0, .ref (ad 0))] [] 219))) ?_ 1000 _ _ he ?_ _ _ rfl)
    · intro q y hy hn hx τ z2 e
      subst e
      exact k_X11_hull_b86 F hy (fun τ z2 e => hn _ e _ _ rfl) (fun τ e => (hx _ e) _ rfl)
    · intro σ_35 e
      subst e
      refine a_aload_n F dX11_hull_219 rfl 0 rfl ?_
      refine a_getI F (j := 49) tM_0 rfl rfl (by decide) inW11 w_605 dX11_hull_220 ?_
      cases hf
      exact hr _ _ rfl _ _ dX11_hull_223
set_option maxRecDepth 100000 in
set_option maxHeartbeats 4000000 in
theorem c_X11_hull {l : Launch}  {σ : St} : CtrI vwCl WS NWs TM l yX11_hull cX11_hull 7 (some .int) rm_X11_hull (fun ad => [.ref (ad 0)]) σ (f_X11_hull σ) := by
  refine ctrI_of (by decide +kernel) (fun ad => Nat.le_of_ble_eq_true rfl) (fun v σ' ad X hf F K => ?_)
  exact k_X11_hull_b0 F hf (fun v τ e => by cases e; exact K)
abbrev rm_X11_around : Room := { frames := 3, cells := 0, slots := 0, locals := 71 }
set_option maxRecDepth 100000 in
set_option maxHeartbeats 4000000 in
theorem k_X11_around_b0 {l : Launch} {ad : Nat → Nat} {X : Cx} (F : Ok vwCl WS NWs TM cX11_around 2 yX11_around.cls (some .int) ad l X) {σ : St} {x1 : Int} {y : (Int × St)} (hf : f_X11_around_b0 σ x1 = some y) (hr : ∀ v τ, y = (v, τ) → RetI vwCl TM cX11_around 2 rm_X11_around ad X v τ) : At vwCl TM 2 rm_X11_around ad X σ [(0, .ref (ad 0)), (1, iv x1)] [] 0 := by
  unfold f_X11_around_b0 at hf
  refine a_iload_n F dX11_around_0 rfl 1 rfl ?_
  refine a_if_lt F hf (tgt := 21) dX11_around_1 (by decide) (fun hf => ?_) (fun hf => ?_)
  · refine a_iconst F dX11_around_21 ?_
    cases hf
    exact hr _ _ rfl _ _ dX11_around_22
  · refine a_iload_n F dX11_around_4 rfl 1 rfl ?_
    refine a_aload_n F dX11_around_5 rfl 0 rfl ?_
    refine a_callVI F lk_RX11_341 tM_0 rfl c_X11_hull rfl rfl ⟨rfl, rfl⟩ ⟨Nat.le_of_ble_eq_true rfl, Nat.le_of_ble_eq_true rfl⟩ rfl (Nat.le_of_ble_eq_true rfl) dX11_around_6 hf (fun r_1 σ_2 hf => ?_)
    refine a_icmp_ge F hf (tgt := 21) dX11_around_9 (by decide) (fun hf => ?_) (fun hf => ?_)
    · refine a_aload_n F dX11_around_12 rfl 0 rfl ?_
      refine a_getR F (j := 50) tM_0 rfl rfl (by decide) inW11 w_606 dX11_around_13 ?_
      refine a_iload_n F dX11_around_16 rfl 1 rfl ?_
      refine a_iald F tM_28 rfl (by decide) hf dX11_around_17 (fun hf => ?_)
      refine a_goto F (tgt := 22) dX11_around_18 (by decide) ?_
      cases hf
      exact hr _ _ rfl _ _ dX11_around_22
    · refine a_iconst F dX11_around_21 ?_
      cases hf
      exact hr _ _ rfl _ _ dX11_around_22
set_option maxRecDepth 100000 in
set_option maxHeartbeats 4000000 in
theorem c_X11_around {l : Launch}  {σ : St} {x1 : Int} : CtrI vwCl WS NWs TM l yX11_around cX11_around 2 (some .int) rm_X11_around (fun ad => [.ref (ad 0), iv x1]) σ (f_X11_around σ x1) := by
  refine ctrI_of (by decide +kernel) (fun ad => Nat.le_of_ble_eq_true rfl) (fun v σ' ad X hf F K => ?_)
  exact k_X11_around_b0 F hf (fun v τ e => by cases e; exact K)
abbrev rm_X11_ask : Room := { frames := 1, cells := 0, slots := 0, locals := 21 }
set_option maxRecDepth 100000 in
set_option maxHeartbeats 4000000 in
theorem k_X11_ask_b0 {l : Launch} {ad : Nat → Nat} {X : Cx} (F : Ok vwCl WS NWs TM cX11_ask 4 yX11_ask.cls (some .int) ad l X) {σ : St} {x1 x2 : Int} {y : Int} (hf : f_X11_ask_b0 σ x1 x2 = some y) (hr : RetI vwCl TM cX11_ask 4 rm_X11_ask ad X y σ) : At vwCl TM 4 rm_X11_ask ad X σ [(0, .ref (ad 0)), (1, iv x1), (2, iv x2)] [] 0 := by
  unfold f_X11_ask_b0 at hf
  refine a_aload_n F dX11_ask_0 rfl 0 rfl ?_
  refine a_iload_n F dX11_ask_1 rfl 1 rfl ?_
  refine a_callVIr F lk_RX11_124 tM_0 rfl c_X11_isWell rfl rfl ⟨rfl, rfl⟩ ⟨Nat.le_of_ble_eq_true rfl, Nat.le_of_ble_eq_true rfl⟩ rfl (Nat.le_of_ble_eq_true rfl) dX11_ask_2 hf (fun r_1 hf => ?_)
  refine a_if_ne F hf (tgt := 10) dX11_ask_5 (by decide) (fun hf => ?_) (fun hf => ?_)
  · refine a_iconst F dX11_ask_8 ?_
    cases hf
    exact hr _ _ dX11_ask_9
  · refine a_aload_n F dX11_ask_10 rfl 0 rfl ?_
    refine a_getR F (j := 6) tM_0 rfl rfl (by decide) inW11 w_532 dX11_ask_11 ?_
    refine a_iload_n F dX11_ask_14 rfl 1 rfl ?_
    refine a_iald F tM_4 rfl (by decide) hf dX11_ask_15 (fun hf => ?_)
    refine a_topI hf (fun x3_2 hf => ?_)
    refine a_istore_n F (lv' := [(3, iv x3_2), (0, .ref (ad 0)), (1, iv x1), (2, iv x2)]) dX11_ask_16 rfl (by decide) rfl ?_
    refine a_iload_n F dX11_ask_17 rfl 3 rfl ?_
    obtain ⟨hg9, hf⟩ := jchk_elim hf
    by_cases hq0 : x2 = 0
    · rw [if_pos hq0] at hf
      refine a_tableIn F (tgt := 48) hg9 dX11_ask_18 (by omega) (by omega) (by rw [hq0]; rfl) (by decide) ?_
      refine a_iload_n F dX11_ask_48 rfl 0 rfl ?_
      refine a_iconst F dX11_ask_49 ?_
      refine a_icmp_ne F hf (tgt := 62) dX11_ask_50 (by decide) (fun hf => ?_) (fun hf => ?_)
      · refine a_aload_n F dX11_ask_53 rfl 1 rfl ?_
        refine a_getR F (j := 7) tM_0 rfl rfl (by decide) inW11 w_533 dX11_ask_54 ?_
        refine a_iload_n F dX11_ask_57 rfl 2 rfl ?_
        refine a_iald F tM_5 rfl (by decide) hf dX11_ask_58 (fun hf => ?_)
        refine a_goto F (tgt := 64) dX11_ask_59 (by decide) ?_
        cases hf
        exact hr _ _ dX11_ask_64
      · refine a_bipush F dX11_ask_62 (by decide +kernel) ?_
        cases hf
        exact hr _ _ dX11_ask_64
    · rw [if_neg hq0] at hf
      by_cases hq1 : x2 = 1
      · rw [if_pos hq1] at hf
        refine a_tableIn F (tgt := 65) hg9 dX11_ask_18 (by omega) (by omega) (by rw [hq1]; rfl) (by decide) ?_
        refine a_iload_n F dX11_ask_65 rfl 0 rfl ?_
        refine a_iconst F dX11_ask_66 ?_
        refine a_icmp_ne F hf (tgt := 79) dX11_ask_67 (by decide) (fun hf => ?_) (fun hf => ?_)
        · refine a_aload_n F dX11_ask_70 rfl 1 rfl ?_
          refine a_getR F (j := 7) tM_0 rfl rfl (by decide) inW11 w_533 dX11_ask_71 ?_
          refine a_iload_n F dX11_ask_74 rfl 2 rfl ?_
          refine a_iald F tM_5 rfl (by decide) hf dX11_ask_75 (fun hf => ?_)
          refine a_goto F (tgt := 90) dX11_ask_76 (by decide) ?_
          cases hf
          exact hr _ _ dX11_ask_90
        · refine a_iload_n F dX11_ask_79 rfl 0 rfl ?_
          refine a_iconst F dX11_ask_80 ?_
          refine a_icmp_le F hf (tgt := 88) dX11_ask_81 (by decide) (fun hf => ?_) (fun hf => ?_)
          · refine a_iconst F dX11_ask_84 ?_
            refine a_goto F (tgt := 90) dX11_ask_85 (by decide) ?_
            cases hf
            exact hr _ _ dX11_ask_90
          · refine a_bipush F dX11_ask_88 (by decide +kernel) ?_
            cases hf
            exact hr _ _ dX11_ask_90
      · rw [if_neg hq1] at hf
        by_cases hq2 : x2 = 2
        · rw [if_pos hq2] at hf
          refine a_tableIn F (tgt := 91) hg9 dX11_ask_18 (by omega) (by omega) (by rw [hq2]; rfl) (by decide) ?_
          refine a_iload_n F dX11_ask_91 rfl 0 rfl ?_
          refine a_iconst F dX11_ask_92 ?_
          refine a_icmp_le F hf (tgt := 100) dX11_ask_93 (by decide) (fun hf => ?_) (fun hf => ?_)
          · refine a_iconst F dX11_ask_96 ?_
            refine a_goto F (tgt := 102) dX11_ask_97 (by decide) ?_
            cases hf
            exact hr _ _ dX11_ask_102
          · refine a_bipush F dX11_ask_100 (by decide +kernel) ?_
            cases hf
            exact hr _ _ dX11_ask_102
        · rw [if_neg hq2] at hf
          by_cases hq3 : x2 = 3
          · rw [if_pos hq3] at hf
            refine a_tableIn F (tgt := 103) hg9 dX11_ask_18 (by omega) (by omega) (by rw [hq3]; rfl) (by decide) ?_
            refine a_iload_n F dX11_ask_103 rfl 0 rfl ?_
            refine a_iconst F dX11_ask_104 ?_
            refine a_icmp_ne F hf (tgt := 117) dX11_ask_105 (by decide) (fun hf => ?_) (fun hf => ?_)
            · refine a_aload_n F dX11_ask_108 rfl 1 rfl ?_
              refine a_getR F (j := 7) tM_0 rfl rfl (by decide) inW11 w_533 dX11_ask_109 ?_
              refine a_iload_n F dX11_ask_112 rfl 2 rfl ?_
              refine a_iald F tM_5 rfl (by decide) hf dX11_ask_113 (fun hf => ?_)
              refine a_goto F (tgt := 119) dX11_ask_114 (by decide) ?_
              cases hf
              exact hr _ _ dX11_ask_119
            · refine a_bipush F dX11_ask_117 (by decide +kernel) ?_
              cases hf
              exact hr _ _ dX11_ask_119
          · rw [if_neg hq3] at hf
            refine a_tableOut F (tgt := 120) hg9 dX11_ask_18 (by omega) (by decide) ?_
            refine a_iconst F dX11_ask_120 ?_
            cases hf
            exact hr _ _ dX11_ask_121
set_option maxRecDepth 100000 in
set_option maxHeartbeats 4000000 in
theorem c_X11_ask {l : Launch}  {σ : St} {x1 x2 : Int} : CtrI vwCl WS NWs TM l yX11_ask cX11_ask 4 (some .int) rm_X11_ask (fun ad => [.ref (ad 0), iv x1, iv x2]) σ (rd (f_X11_ask σ x1 x2) σ) := by
  refine ctrI_of (by decide +kernel) (fun ad => Nat.le_of_ble_eq_true rfl) (fun v σ' ad X hf F K => ?_)
  obtain ⟨hf2, e2⟩ := rd_elim hf
  subst e2
  exact k_X11_ask_b0 F hf2 K
abbrev rm_X11_mayBe : Room := { frames := 0, cells := 0, slots := 0, locals := 0 }
set_option maxRecDepth 100000 in
set_option maxHeartbeats 4000000 in
theorem k_X11_mayBe_b0 {l : Launch} {ad : Nat → Nat} {X : Cx} (F : Ok vwCl WS NWs TM cX11_mayBe 2 yX11_mayBe.cls (some .boolean) ad l X) {σ : St} {x0 x1 : Int} {y : Int} (hf : f_X11_mayBe_b0 x0 x1 = some y) (hr : RetI vwCl TM cX11_mayBe 2 rm_X11_mayBe ad X y σ) : At vwCl TM 2 rm_X11_mayBe ad X σ [(0, iv x0), (1, iv x1)] [] 0 := by
  unfold f_X11_mayBe_b0 at hf
  refine a_iload_n F dX11_mayBe_0 rfl 0 rfl ?_
  obtain ⟨hg9, hf⟩ := jchk_elim hf
  by_cases hq0 : x0 = 0
  · rw [if_pos hq0] at hf
    refine a_tableIn F (tgt := 36) hg9 dX11_mayBe_1 (by omega) (by omega) (by rw [hq0]; rfl) (by decide) ?_
    refine a_iload_n F dX11_mayBe_36 rfl 1 rfl ?_
    refine a_if_ne F hf (tgt := 44) dX11_mayBe_37 (by decide) (fun hf => ?_) (fun hf => ?_)
    · refine a_iconst F dX11_mayBe_40 ?_
      refine a_goto F (tgt := 45) dX11_mayBe_41 (by decide) ?_
      cases hf
      exact hr _ _ dX11_mayBe_45
    · refine a_iconst F dX11_mayBe_44 ?_
      cases hf
      exact hr _ _ dX11_mayBe_45
  · rw [if_neg hq0] at hf
    by_cases hq1 : x0 = 1
    · rw [if_pos hq1] at hf
      refine a_tableIn F (tgt := 46) hg9 dX11_mayBe_1 (by omega) (by omega) (by rw [hq1]; rfl) (by decide) ?_
      refine a_iload_n F dX11_mayBe_46 rfl 1 rfl ?_
      refine a_if_lt F hf (tgt := 60) dX11_mayBe_47 (by decide) (fun hf => ?_) (fun hf => ?_)
      · refine a_iconst F dX11_mayBe_60 ?_
        cases hf
        exact hr _ _ dX11_mayBe_61
      · refine a_iload_n F dX11_mayBe_50 rfl 1 rfl ?_
        refine a_ldc F (n := 1000000) (by decide +kernel) w_619 dX11_mayBe_51 ?_
        refine a_icmp_gt F hf (tgt := 60) dX11_mayBe_53 (by decide) (fun hf => ?_) (fun hf => ?_)
        · refine a_iconst F dX11_mayBe_60 ?_
          cases hf
          exact hr _ _ dX11_mayBe_61
        · refine a_iconst F dX11_mayBe_56 ?_
          refine a_goto F (tgt := 61) dX11_mayBe_57 (by decide) ?_
          cases hf
          exact hr _ _ dX11_mayBe_61
    · rw [if_neg hq1] at hf
      by_cases hq2 : x0 = 2
      · rw [if_pos hq2] at hf
        refine a_tableIn F (tgt := 62) hg9 dX11_mayBe_1 (by omega) (by omega) (by rw [hq2]; rfl) (by decide) ?_
        refine a_iload_n F dX11_mayBe_62 rfl 1 rfl ?_
        refine a_if_lt F hf (tgt := 76) dX11_mayBe_63 (by decide) (fun hf => ?_) (fun hf => ?_)
        · refine a_iconst F dX11_mayBe_76 ?_
          cases hf
          exact hr _ _ dX11_mayBe_77
        · refine a_iload_n F dX11_mayBe_66 rfl 1 rfl ?_
          refine a_ldc F (n := 999999) (by decide +kernel) w_620 dX11_mayBe_67 ?_
          refine a_icmp_gt F hf (tgt := 76) dX11_mayBe_69 (by decide) (fun hf => ?_) (fun hf => ?_)
          · refine a_iconst F dX11_mayBe_76 ?_
            cases hf
            exact hr _ _ dX11_mayBe_77
          · refine a_iconst F dX11_mayBe_72 ?_
            refine a_goto F (tgt := 77) dX11_mayBe_73 (by decide) ?_
            cases hf
            exact hr _ _ dX11_mayBe_77
      · rw [if_neg hq2] at hf
        by_cases hq3 : x0 = 3
        · rw [if_pos hq3] at hf
          refine a_tableIn F (tgt := 36) hg9 dX11_mayBe_1 (by omega) (by omega) (by rw [hq3]; rfl) (by decide) ?_
          refine a_iload_n F dX11_mayBe_36 rfl 1 rfl ?_
          refine a_if_ne F hf (tgt := 44) dX11_mayBe_37 (by decide) (fun hf => ?_) (fun hf => ?_)
          · refine a_iconst F dX11_mayBe_40 ?_
            refine a_goto F (tgt := 45) dX11_mayBe_41 (by decide) ?_
            cases hf
            exact hr _ _ dX11_mayBe_45
          · refine a_iconst F dX11_mayBe_44 ?_
            cases hf
            exact hr _ _ dX11_mayBe_45
        · rw [if_neg hq3] at hf
          by_cases hq4 : x0 = 4
          · rw [if_pos hq4] at hf
            refine a_tableIn F (tgt := 78) hg9 dX11_mayBe_1 (by omega) (by omega) (by rw [hq4]; rfl) (by decide) ?_
            refine a_iload_n F dX11_mayBe_78 rfl 1 rfl ?_
            refine a_iconst F dX11_mayBe_79 ?_
            refine a_icmp_lt F hf (tgt := 93) dX11_mayBe_80 (by decide) (fun hf => ?_) (fun hf => ?_)
            · refine a_iconst F dX11_mayBe_93 ?_
              cases hf
              exact hr _ _ dX11_mayBe_94
            · refine a_iload_n F dX11_mayBe_83 rfl 1 rfl ?_
              refine a_bipush F dX11_mayBe_84 (by decide +kernel) ?_
              refine a_icmp_gt F hf (tgt := 93) dX11_mayBe_86 (by decide) (fun hf => ?_) (fun hf => ?_)
              · refine a_iconst F dX11_mayBe_93 ?_
                cases hf
                exact hr _ _ dX11_mayBe_94
              · refine a_iconst F dX11_mayBe_89 ?_
                refine a_goto F (tgt := 94) dX11_mayBe_90 (by decide) ?_
                cases hf
                exact hr _ _ dX11_mayBe_94
          · rw [if_neg hq4] at hf
            refine a_tableOut F (tgt := 95) hg9 dX11_mayBe_1 (by omega) (by decide) ?_
            refine a_iconst F dX11_mayBe_95 ?_
            cases hf
            exact hr _ _ dX11_mayBe_96
set_option maxRecDepth 100000 in
set_option maxHeartbeats 4000000 in
theorem c_X11_mayBe {l : Launch}  {σ : St} {x0 x1 : Int} : CtrI vwCl WS NWs TM l yX11_mayBe cX11_mayBe 2 (some .boolean) rm_X11_mayBe (fun ad => [iv x0, iv x1]) σ (rd (f_X11_mayBe x0 x1) σ) := by
  refine ctrZ_of (fun v σ' h => jz_z (rd_elim h).1) (by decide +kernel) (fun ad => Nat.le_of_ble_eq_true rfl) (fun v σ' ad X hf F K => ?_)
  obtain ⟨hf2, e2⟩ := rd_elim hf
  subst e2
  exact k_X11_mayBe_b0 F (jz_e hf2) K
abbrev rm_X11_keeps : Room := { frames := 0, cells := 0, slots := 0, locals := 0 }
set_option maxRecDepth 100000 in
set_option maxHeartbeats 4000000 in
theorem k_X11_keeps_b149 {l : Launch} {ad : Nat → Nat} {X : Cx} (F : Ok vwCl WS NWs TM cX11_keeps 3 yX11_keeps.cls none ad l X) {σ : St} {x1 : Int} {y : ((St × Int) ⊕ St)} (hf : f_X11_keeps_b149 σ x1 = some y) (hn : ∀ τ z1, y = .inl (τ, z1) → At vwCl TM 3 rm_X11_keeps ad X τ [(0, .ref (ad 0)), (1, iv z1)] [] 149) (hx0 : ∀ τ, y = .inr (τ) → At vwCl TM 3 rm_X11_keeps ad X τ [(0, .ref (ad 0))] [] 231) : At vwCl TM 3 rm_X11_keeps ad X σ [(0, .ref (ad 0)), (1, iv x1)] [] 149 := by
  unfold f_X11_keeps_b149 at hf
  refine a_iload_n F dX11_keeps_149 rfl 1 rfl ?_
  refine a_bipush F dX11_keeps_150 (by decide +kernel) ?_
  refine a_icmp_ge F hf (tgt := 231) dX11_keeps_152 (by decide) (fun hf => ?_) (fun hf => ?_)
  · refine a_bipush F dX11_keeps_155 (by decide +kernel) ?_
    refine a_aload_n F dX11_keeps_157 rfl 0 rfl ?_
    refine a_getI F (j := 8) tM_0 rfl rfl (by decide) inW11 w_621 dX11_keeps_158 ?_
    refine a_imul F dX11_keeps_161 ?_
    refine a_iload_n F dX11_keeps_162 rfl 1 rfl ?_
    refine a_iadd F dX11_keeps_163 ?_
    refine a_topI hf (fun x2_2 hf => ?_)
    refine a_istore_n F (lv' := [(2, iv x2_2), (0, .ref (ad 0)), (1, iv x1)]) dX11_keeps_164 rfl (by decide) rfl ?_
    refine a_aload_n F dX11_keeps_165 rfl 1 rfl ?_
    refine a_getR F (j := 9) tM_0 rfl rfl (by decide) inW11 w_622 dX11_keeps_166 ?_
    refine a_iload_n F dX11_keeps_169 rfl 0 rfl ?_
    refine a_aload_n F dX11_keeps_170 rfl 1 rfl ?_
    refine a_getR F (j := 3) tM_0 rfl rfl (by decide) inW11 w_526 dX11_keeps_171 ?_
    refine a_iload_n F dX11_keeps_174 rfl 2 rfl ?_
    refine a_zald F tM_1 rfl (by decide) hf dX11_keeps_175 (fun hf => ?_)
    refine a_zast F tM_6 rfl (by decide) hf dX11_keeps_176 (fun σ_3 hf => ?_)
    refine a_aload_n F dX11_keeps_177 rfl 1 rfl ?_
    refine a_getR F (j := 10) tM_0 rfl rfl (by decide) inW11 w_623 dX11_keeps_178 ?_
    refine a_iload_n F dX11_keeps_181 rfl 0 rfl ?_
    refine a_aload_n F dX11_keeps_182 rfl 1 rfl ?_
    refine a_getR F (j := 4) tM_0 rfl rfl (by decide) inW11 w_539 dX11_keeps_183 ?_
    refine a_iload_n F dX11_keeps_186 rfl 2 rfl ?_
    refine a_iald F tM_2 rfl (by decide) hf dX11_keeps_187 (fun hf => ?_)
    refine a_iast F tM_7 rfl (by decide) hf dX11_keeps_188 (fun σ_4 hf => ?_)
    refine a_aload_n F dX11_keeps_189 rfl 1 rfl ?_
    refine a_getR F (j := 11) tM_0 rfl rfl (by decide) inW11 w_624 dX11_keeps_190 ?_
    refine a_iload_n F dX11_keeps_193 rfl 0 rfl ?_
    refine a_aload_n F dX11_keeps_194 rfl 1 rfl ?_
    refine a_getR F (j := 5) tM_0 rfl rfl (by decide) inW11 w_540 dX11_keeps_195 ?_
    refine a_iload_n F dX11_keeps_198 rfl 2 rfl ?_
    refine a_iald F tM_3 rfl (by decide) hf dX11_keeps_199 (fun hf => ?_)
    refine a_iast F tM_8 rfl (by decide) hf dX11_keeps_200 (fun σ_5 hf => ?_)
    refine a_aload_n F dX11_keeps_201 rfl 1 rfl ?_
    refine a_getR F (j := 12) tM_0 rfl rfl (by decide) inW11 w_625 dX11_keeps_202 ?_
    refine a_iload_n F dX11_keeps_205 rfl 0 rfl ?_
    refine a_aload_n F dX11_keeps_206 rfl 1 rfl ?_
    refine a_getR F (j := 6) tM_0 rfl rfl (by decide) inW11 w_532 dX11_keeps_207 ?_
    refine a_iload_n F dX11_keeps_210 rfl 2 rfl ?_
    refine a_iald F tM_4 rfl (by decide) hf dX11_keeps_211 (fun hf => ?_)
    refine a_iast F tM_9 rfl (by decide) hf dX11_keeps_212 (fun σ_6 hf => ?_)
    refine a_aload_n F dX11_keeps_213 rfl 1 rfl ?_
    refine a_getR F (j := 13) tM_0 rfl rfl (by decide) inW11 w_626 dX11_keeps_214 ?_
    refine a_iload_n F dX11_keeps_217 rfl 0 rfl ?_
    refine a_aload_n F dX11_keeps_218 rfl 1 rfl ?_
    refine a_getR F (j := 7) tM_0 rfl rfl (by decide) inW11 w_533 dX11_keeps_219 ?_
    refine a_iload_n F dX11_keeps_222 rfl 2 rfl ?_
    refine a_iald F tM_5 rfl (by decide) hf dX11_keeps_223 (fun hf => ?_)
    refine a_iast F tM_10 rfl (by decide) hf dX11_keeps_224 (fun σ_7 hf => ?_)
    refine a_iinc F hf dX11_keeps_225 2 rfl (by decide) (fun x1_8 hf => ⟨[(1, iv x1_8), (2, iv x2_2), (0, .ref (ad 0))], rfl, ?_⟩)
    refine a_goto F (tgt := 149) dX11_keeps_228 (by decide) ?_
    cases hf
    exact a_sub [2, 0] rfl (hn _ _ rfl)
  · cases hf
    exact a_sub [0] rfl (hx0 _ rfl)
set_option maxRecDepth 100000 in
set_option maxHeartbeats 4000000 in
theorem k_X11_keeps_b11 {l : Launch} {ad : Nat → Nat} {X : Cx} (F : Ok vwCl WS NWs TM cX11_keeps 3 yX11_keeps.cls none ad l X) {σ : St} {x1 : Int} {y : ((St × Int) ⊕ St)} (hf : f_X11_keeps_b11 σ x1 = some y) (hn : ∀ τ z1, y = .inl (τ, z1) → At vwCl TM 3 rm_X11_keeps ad X τ [(0, .ref (ad 0)), (1, iv z1)] [] 11) (hx0 : ∀ τ, y = .inr (τ) → At vwCl TM 3 rm_X11_keeps ad X τ [(0, .ref (ad 0))] [] 99) : At vwCl TM 3 rm_X11_keeps ad X σ [(0, .ref (ad 0)), (1, iv x1)] [] 11 := by
  unfold f_X11_keeps_b11 at hf
  refine a_iload_n F dX11_keeps_11 rfl 1 rfl ?_
  refine a_sipush F dX11_keeps_12 (by decide +kernel) ?_
  refine a_icmp_ge F hf (tgt := 99) dX11_keeps_15 (by decide) (fun hf => ?_) (fun hf => ?_)
  · refine a_aload_n F dX11_keeps_18 rfl 0 rfl ?_
    refine a_getR F (j := 9) tM_0 rfl rfl (by decide) inW11 w_622 dX11_keeps_19 ?_
    refine a_iload_n F dX11_keeps_22 rfl 1 rfl ?_
    refine a_aload_n F dX11_keeps_23 rfl 0 rfl ?_
    refine a_getR F (j := 9) tM_0 rfl rfl (by decide) inW11 w_622 dX11_keeps_24 ?_
    refine a_iload_n F dX11_keeps_27 rfl 1 rfl ?_
    refine a_bipush F dX11_keeps_28 (by decide +kernel) ?_
    refine a_iadd F dX11_keeps_30 ?_
    refine a_zald F tM_6 rfl (by decide) hf dX11_keeps_31 (fun hf => ?_)
    refine a_zast F tM_6 rfl (by decide) hf dX11_keeps_32 (fun σ_14 hf => ?_)
    refine a_aload_n F dX11_keeps_33 rfl 0 rfl ?_
    refine a_getR F (j := 10) tM_0 rfl rfl (by decide) inW11 w_623 dX11_keeps_34 ?_
    refine a_iload_n F dX11_keeps_37 rfl 1 rfl ?_
    refine a_aload_n F dX11_keeps_38 rfl 0 rfl ?_
    refine a_getR F (j := 10) tM_0 rfl rfl (by decide) inW11 w_623 dX11_keeps_39 ?_
    refine a_iload_n F dX11_keeps_42 rfl 1 rfl ?_
    refine a_bipush F dX11_keeps_43 (by decide +kernel) ?_
    refine a_iadd F dX11_keeps_45 ?_
    refine a_iald F tM_7 rfl (by decide) hf dX11_keeps_46 (fun hf => ?_)
    refine a_iast F tM_7 rfl (by decide) hf dX11_keeps_47 (fun σ_15 hf => ?_)
    refine a_aload_n F dX11_keeps_48 rfl 0 rfl ?_
    refine a_getR F (j := 11) tM_0 rfl rfl (by decide) inW11 w_624 dX11_keeps_49 ?_
    refine a_iload_n F dX11_keeps_52 rfl 1 rfl ?_
    refine a_aload_n F dX11_keeps_53 rfl 0 rfl ?_
    refine a_getR F (j := 11) tM_0 rfl rfl (by decide) inW11 w_624 dX11_keeps_54 ?_
    refine a_iload_n F dX11_keeps_57 rfl 1 rfl ?_
    refine a_bipush F dX11_keeps_58 (by decide +kernel) ?_
    refine a_iadd F dX11_keeps_60 ?_
    refine a_iald F tM_8 rfl (by decide) hf dX11_keeps_61 (fun hf => ?_)
    refine a_iast F tM_8 rfl (by decide) hf dX11_keeps_62 (fun σ_16 hf => ?_)
    refine a_aload_n F dX11_keeps_63 rfl 0 rfl ?_
    refine a_getR F (j := 12) tM_0 rfl rfl (by decide) inW11 w_625 dX11_keeps_64 ?_
    refine a_iload_n F dX11_keeps_67 rfl 1 rfl ?_
    refine a_aload_n F dX11_keeps_68 rfl 0 rfl ?_
    refine a_getR F (j := 12) tM_0 rfl rfl (by decide) inW11 w_625 dX11_keeps_69 ?_
    refine a_iload_n F dX11_keeps_72 rfl 1 rfl ?_
    refine a_bipush F dX11_keeps_73 (by decide +kernel) ?_
    refine a_iadd F dX11_keeps_75 ?_
    refine a_iald F tM_9 rfl (by decide) hf dX11_keeps_76 (fun hf => ?_)
    refine a_iast F tM_9 rfl (by decide) hf dX11_keeps_77 (fun σ_17 hf => ?_)
    refine a_aload_n F dX11_keeps_78 rfl 0 rfl ?_
    refine a_getR F (j := 13) tM_0 rfl rfl (by decide) inW11 w_626 dX11_keeps_79 ?_
    refine a_iload_n F dX11_keeps_82 rfl 1 rfl ?_
    refine a_aload_n F dX11_keeps_83 rfl 0 rfl ?_
    refine a_getR F (j := 13) tM_0 rfl rfl (by decide) inW11 w_626 dX11_keeps_84 ?_
    refine a_iload_n F dX11_keeps_87 rfl 1 rfl ?_
    refine a_bipush F dX11_keeps_88 (by decide +kernel) ?_
    refine a_iadd F dX11_keeps_90 ?_
    refine a_iald F tM_10 rfl (by decide) hf dX11_keeps_91 (fun hf => ?_)
    refine a_iast F tM_10 rfl (by decide) hf dX11_keeps_92 (fun σ_18 hf => ?_)
    refine a_iinc F hf dX11_keeps_93 1 rfl (by decide) (fun x1_19 hf => ⟨[(1, iv x1_19), (0, .ref (ad 0))], rfl, ?_⟩)
    refine a_goto F (tgt := 11) dX11_keeps_96 (by decide) ?_
    cases hf
    exact a_sub [1, 0] rfl (hn _ _ rfl)
  · cases hf
    exact a_sub [0] rfl (hx0 _ rfl)
set_option maxRecDepth 100000 in
set_option maxHeartbeats 4000000 in
theorem k_X11_keeps_b101 {l : Launch} {ad : Nat → Nat} {X : Cx} (F : Ok vwCl WS NWs TM cX11_keeps 3 yX11_keeps.cls none ad l X) {σ : St} {x1 : Int} {y : ((St × Int) ⊕ St)} (hf : f_X11_keeps_b101 σ x1 = some y) (hn : ∀ τ z1, y = .inl (τ, z1) → At vwCl TM 3 rm_X11_keeps ad X τ [(0, .ref (ad 0)), (1, iv z1)] [] 101) (hx0 : ∀ τ, y = .inr (τ) → At vwCl TM 3 rm_X11_keeps ad X τ [(0, .ref (ad 0))] [] 141) : At vwCl TM 3 rm_X11_keeps ad X σ [(0, .ref (ad 0)), (1, iv x1)] [] 101 := by
  unfold f_X11_keeps_b101 at hf
  refine a_iload_n F dX11_keeps_101 rfl 1 rfl ?_
  refine a_bipush F dX11_keeps_102 (by decide +kernel) ?_
  refine a_icmp_ge F hf (tgt := 141) dX11_keeps_104 (by decide) (fun hf => ?_) (fun hf => ?_)
  · refine a_aload_n F dX11_keeps_107 rfl 0 rfl ?_
    refine a_getR F (j := 14) tM_0 rfl rfl (by decide) inW11 w_627 dX11_keeps_108 ?_
    refine a_iload_n F dX11_keeps_111 rfl 1 rfl ?_
    refine a_aload_n F dX11_keeps_112 rfl 0 rfl ?_
    refine a_getR F (j := 14) tM_0 rfl rfl (by decide) inW11 w_627 dX11_keeps_113 ?_
    refine a_iload_n F dX11_keeps_116 rfl 1 rfl ?_
    refine a_iconst F dX11_keeps_117 ?_
    refine a_iadd F dX11_keeps_118 ?_
    refine a_iald F tM_11 rfl (by decide) hf dX11_keeps_119 (fun hf => ?_)
    refine a_iast F tM_11 rfl (by decide) hf dX11_keeps_120 (fun σ_22 hf => ?_)
    refine a_aload_n F dX11_keeps_121 rfl 0 rfl ?_
    refine a_getR F (j := 15) tM_0 rfl rfl (by decide) inW11 w_628 dX11_keeps_122 ?_
    refine a_iload_n F dX11_keeps_125 rfl 1 rfl ?_
    refine a_aload_n F dX11_keeps_126 rfl 0 rfl ?_
    refine a_getR F (j := 15) tM_0 rfl rfl (by decide) inW11 w_628 dX11_keeps_127 ?_
    refine a_iload_n F dX11_keeps_130 rfl 1 rfl ?_
    refine a_iconst F dX11_keeps_131 ?_
    refine a_iadd F dX11_keeps_132 ?_
    refine a_iald F tM_12 rfl (by decide) hf dX11_keeps_133 (fun hf => ?_)
    refine a_iast F tM_12 rfl (by decide) hf dX11_keeps_134 (fun σ_23 hf => ?_)
    refine a_iinc F hf dX11_keeps_135 1 rfl (by decide) (fun x1_24 hf => ⟨[(1, iv x1_24), (0, .ref (ad 0))], rfl, ?_⟩)
    refine a_goto F (tgt := 101) dX11_keeps_138 (by decide) ?_
    cases hf
    exact a_sub [1, 0] rfl (hn _ _ rfl)
  · cases hf
    exact a_sub [0] rfl (hx0 _ rfl)
set_option maxRecDepth 100000 in
set_option maxHeartbeats 4000000 in
theorem k_X11_keeps_b0 {l : Launch} {ad : Nat → Nat} {X : Cx} (F : Ok vwCl WS NWs TM cX11_keeps 3 yX11_keeps.cls none ad l X) {σ : St} {y : St} (hf : f_X11_keeps_b0 σ = some y) (hr : RetV vwCl TM cX11_keeps 3 rm_X11_keeps ad X y) : At vwCl TM 3 rm_X11_keeps ad X σ [(0, .ref (ad 0))] [] 0 := by
  unfold f_X11_keeps_b0 at hf
  refine a_aload_n F dX11_keeps_0 rfl 0 rfl ?_
  refine a_getI F (j := 8) tM_0 rfl rfl (by decide) inW11 w_621 dX11_keeps_1 ?_
  refine a_bipush F dX11_keeps_4 (by decide +kernel) ?_
  refine a_icmp_ne F hf (tgt := 147) dX11_keeps_6 (by decide) (fun hf => ?_) (fun hf => ?_)
  · refine a_iconst F dX11_keeps_9 ?_
    refine a_topI hf (fun x1_13 hf => ?_)
    refine a_istore_n F (lv' := [(1, iv x1_13), (0, .ref (ad 0))]) dX11_keeps_10 rfl (by decide) rfl ?_
    obtain ⟨q0, he, hf⟩ := jbind_elim hf
    refine a_sub [1, 0] rfl (loop_rule (P := (fun q => ∀ τ z1, (τ, z1) = q → At vwCl TM 3 rm_X11_keeps ad X τ [(0, .ref (ad 0)), (1, iv z1)] [] 11)) (K := (fun q => (∀ τ, τ = q → At vwCl TM 3 rm_X11_keeps ad X τ [(0, .ref (ad 0))] [] 99))) ?_ 1000 _ _ he ?_ _ _ rfl)
    · intro q y hy hn hx τ z1 e
      subst e
      exact k_X11_keeps_b11 F hy (fun τ z1 e => hn _ e _ _ rfl) (fun τ e => (hx _ e) _ rfl)
    · intro σ_20 e
      subst e
      refine a_iconst F dX11_keeps_99 ?_
      refine a_topI hf (fun x1_21 hf => ?_)
      refine a_istore_n F (lv' := [(1, iv x1_21), (0, .ref (ad 0))]) dX11_keeps_100 rfl (by decide) rfl ?_
      obtain ⟨q0, he, hf⟩ := jbind_elim hf
      refine a_sub [1, 0] rfl (loop_rule (P := (fun q => ∀ τ z1, (τ, z1) = q → At vwCl TM 3 rm_X11_keeps ad X τ [(0, .ref (ad 0)), (1, iv z1)] [] 101)) (K := (fun q => (∀ τ, τ = q → At vwCl TM 3 rm_X11_keeps ad X τ [(0, .ref (ad 0))] [] 141))) ?_ 1000 _ _ he ?_ _ _ rfl)
      · intro q y hy hn hx τ z1 e
        subst e
        exact k_X11_keeps_b101 F hy (fun τ z1 e => hn _ e _ _ rfl) (fun τ e => (hx _ e) _ rfl)
      · intro σ_25 e
        subst e
        refine a_aload_n F dX11_keeps_141 rfl 0 rfl ?_
        refine a_bipush F dX11_keeps_142 (by decide +kernel) ?_
        refine a_putI F (j := 8) tM_0 rfl rfl (by decide) inW11 w_621 tyX11 tyX11_ok nmX11 rfl rfl hf dX11_keeps_144 (fun σ_26 hf => ?_)
        refine a_iconst F dX11_keeps_147 ?_
        refine a_topI hf (fun x1_27 hf => ?_)
        refine a_istore_n F (lv' := [(1, iv x1_27), (0, .ref (ad 0))]) dX11_keeps_148 rfl (by decide) rfl ?_
        obtain ⟨q0, he, hf⟩ := jbind_elim hf
        refine a_sub [1, 0] rfl (loop_rule (P := (fun q => ∀ τ z1, (τ, z1) = q → At vwCl TM 3 rm_X11_keeps ad X τ [(0, .ref (ad 0)), (1, iv z1)] [] 149)) (K := (fun q => (∀ τ, τ = q → At vwCl TM 3 rm_X11_keeps ad X τ [(0, .ref (ad 0))] [] 231))) ?_ 1000 _ _ he ?_ _ _ rfl)
        · intro q y hy hn hx τ z1 e
          subst e
          exact k_X11_keeps_b149 F hy (fun τ z1 e => hn _ e _ _ rfl) (fun τ e => (hx _ e) _ rfl)
        · intro σ_28 e
          subst e
          refine a_aload_n F dX11_keeps_231 rfl 0 rfl ?_
          refine a_getR F (j := 14) tM_0 rfl rfl (by decide) inW11 w_627 dX11_keeps_232 ?_
          refine a_aload_n F dX11_keeps_235 rfl 0 rfl ?_
          refine a_getI F (j := 8) tM_0 rfl rfl (by decide) inW11 w_621 dX11_keeps_236 ?_
          refine a_aload_n F dX11_keeps_239 rfl 0 rfl ?_
          refine a_getI F (j := 0) tM_0 rfl rfl (by decide) inW11 w_559 dX11_keeps_240 ?_
          refine a_iast F tM_11 rfl (by decide) hf dX11_keeps_243 (fun σ_29 hf => ?_)
          refine a_aload_n F dX11_keeps_244 rfl 0 rfl ?_
          refine a_getR F (j := 15) tM_0 rfl rfl (by decide) inW11 w_628 dX11_keeps_245 ?_
          refine a_aload_n F dX11_keeps_248 rfl 0 rfl ?_
          refine a_getI F (j := 8) tM_0 rfl rfl (by decide) inW11 w_621 dX11_keeps_249 ?_
          refine a_aload_n F dX11_keeps_252 rfl 0 rfl ?_
          refine a_getI F (j := 1) tM_0 rfl rfl (by decide) inW11 w_560 dX11_keeps_253 ?_
          refine a_iast F tM_12 rfl (by decide) hf dX11_keeps_256 (fun σ_30 hf => ?_)
          refine a_aload_n F dX11_keeps_257 rfl 0 rfl ?_
          refine a_dup F dX11_keeps_258 rfl ?_
          refine a_getI F (j := 8) tM_0 rfl rfl (by decide) inW11 w_621 dX11_keeps_259 ?_
          refine a_iconst F dX11_keeps_262 ?_
          refine a_iadd F dX11_keeps_263 ?_
          refine a_putI F (j := 8) tM_0 rfl rfl (by decide) inW11 w_621 tyX11 tyX11_ok nmX11 rfl rfl hf dX11_keeps_264 (fun σ_31 hf => ?_)
          cases hf
          exact hr _ _ dX11_keeps_267
  · refine a_iconst F dX11_keeps_147 ?_
    refine a_topI hf (fun x1_1 hf => ?_)
    refine a_istore_n F (lv' := [(1, iv x1_1), (0, .ref (ad 0))]) dX11_keeps_148 rfl (by decide) rfl ?_
    obtain ⟨q0, he, hf⟩ := jbind_elim hf
    refine a_sub [1, 0] rfl (loop_rule (P := (fun q => ∀ τ z1, (τ, z1) = q → At vwCl TM 3 rm_X11_keeps ad X τ [(0, .ref (ad 0)), (1, iv z1)] [] 149)) (K := (fun q => (∀ τ, τ = q → At vwCl TM 3 rm_X11_keeps ad X τ [(0, .ref (ad 0))] [] 231))) ?_ 1000 _ _ he ?_ _ _ rfl)
    · intro q y hy hn hx τ z1 e
      subst e
      exact k_X11_keeps_b149 F hy (fun τ z1 e => hn _ e _ _ rfl) (fun τ e => (hx _ e) _ rfl)
    · intro σ_9 e
      subst e
      refine a_aload_n F dX11_keeps_231 rfl 0 rfl ?_
      refine a_getR F (j := 14) tM_0 rfl rfl (by decide) inW11 w_627 dX11_keeps_232 ?_
      refine a_aload_n F dX11_keeps_235 rfl 0 rfl ?_
      refine a_getI F (j := 8) tM_0 rfl rfl (by decide) inW11 w_621 dX11_keeps_236 ?_
      refine a_aload_n F dX11_keeps_239 rfl 0 rfl ?_
      refine a_getI F (j := 0) tM_0 rfl rfl (by decide) inW11 w_559 dX11_keeps_240 ?_
      refine a_iast F tM_11 rfl (by decide) hf dX11_keeps_243 (fun σ_10 hf => ?_)
      refine a_aload_n F dX11_keeps_244 rfl 0 rfl ?_
      refine a_getR F (j := 15) tM_0 rfl rfl (by decide) inW11 w_628 dX11_keeps_245 ?_
      refine a_aload_n F dX11_keeps_248 rfl 0 rfl ?_
      refine a_getI F (j := 8) tM_0 rfl rfl (by decide) inW11 w_621 dX11_keeps_249 ?_
      refine a_aload_n F dX11_keeps_252 rfl 0 rfl ?_
      refine a_getI F (j := 1) tM_0 rfl rfl (by decide) inW11 w_560 dX11_keeps_253 ?_
      refine a_iast F tM_12 rfl (by decide) hf dX11_keeps_256 (fun σ_11 hf => ?_)
      refine a_aload_n F dX11_keeps_257 rfl 0 rfl ?_
      refine a_dup F dX11_keeps_258 rfl ?_
      refine a_getI F (j := 8) tM_0 rfl rfl (by decide) inW11 w_621 dX11_keeps_259 ?_
      refine a_iconst F dX11_keeps_262 ?_
      refine a_iadd F dX11_keeps_263 ?_
      refine a_putI F (j := 8) tM_0 rfl rfl (by decide) inW11 w_621 tyX11 tyX11_ok nmX11 rfl rfl hf dX11_keeps_264 (fun σ_12 hf => ?_)
      cases hf
      exact hr _ _ dX11_keeps_267
set_option maxRecDepth 100000 in
set_option maxHeartbeats 4000000 in
theorem c_X11_keeps {l : Launch}  {σ : St} : CtrV vwCl WS NWs TM l yX11_keeps cX11_keeps 3 none rm_X11_keeps (fun ad => [.ref (ad 0)]) σ (f_X11_keeps σ) := by
  refine ctrV_of (by decide +kernel) (fun ad => Nat.le_of_ble_eq_true rfl) (fun σ' ad X hf F K => ?_)
  exact k_X11_keeps_b0 F hf K
abbrev rm_X11_become : Room := { frames := 1, cells := 0, slots := 0, locals := 22 }
set_option maxRecDepth 100000 in
set_option maxHeartbeats 4000000 in
theorem k_X11_become_b0 {l : Launch} {ad : Nat → Nat} {X : Cx} (F : Ok vwCl WS NWs TM cX11_become 5 yX11_become.cls (some .int) ad l X) {σ : St} {x1 x2 x3 : Int} {y : (Int × St)} (hf : f_X11_become_b0 σ x1 x2 x3 = some y) (hr : ∀ v τ, y = (v, τ) → RetI vwCl TM cX11_become 5 rm_X11_become ad X v τ) : At vwCl TM 5 rm_X11_become ad X σ [(0, .ref (ad 0)), (1, iv x1), (2, iv x2), (3, iv x3)] [] 0 := by
  unfold f_X11_become_b0 at hf
  refine a_aload_n F dX11_become_0 rfl 0 rfl ?_
  refine a_iload_n F dX11_become_1 rfl 1 rfl ?_
  refine a_callVIr F lk_RX11_124 tM_0 rfl c_X11_isWell rfl rfl ⟨rfl, rfl⟩ ⟨Nat.le_of_ble_eq_true rfl, Nat.le_of_ble_eq_true rfl⟩ rfl (Nat.le_of_ble_eq_true rfl) dX11_become_2 hf (fun r_1 hf => ?_)
  refine a_if_eq F hf (tgt := 16) dX11_become_5 (by decide) (fun hf => ?_) (fun hf => ?_)
  · refine a_iconst F dX11_become_16 ?_
    cases hf
    exact hr _ _ rfl _ _ dX11_become_17
  · refine a_iload_n F dX11_become_8 rfl 2 rfl ?_
    refine a_iload_n F dX11_become_9 rfl 3 rfl ?_
    refine a_callSIr F lk_RX11_136 c_X11_mayBe rfl rfl ⟨rfl, rfl⟩ ⟨Nat.le_of_ble_eq_true rfl, Nat.le_of_ble_eq_true rfl⟩ rfl (Nat.le_of_ble_eq_true rfl) dX11_become_10 hf (fun r_2 hf => ?_)
    refine a_if_ne F hf (tgt := 18) dX11_become_13 (by decide) (fun hf => ?_) (fun hf => ?_)
    · refine a_iconst F dX11_become_16 ?_
      cases hf
      exact hr _ _ rfl _ _ dX11_become_17
    · refine a_aload_n F dX11_become_18 rfl 0 rfl ?_
      refine a_callVV F lk_RX11_131 tM_0 rfl c_X11_keeps rfl rfl ⟨rfl, rfl⟩ ⟨Nat.le_of_ble_eq_true rfl, Nat.le_of_ble_eq_true rfl⟩ rfl (Nat.le_of_ble_eq_true rfl) dX11_become_19 hf (fun σ_3 hf => ?_)
      refine a_aload_n F dX11_become_22 rfl 0 rfl ?_
      refine a_getR F (j := 6) tM_0 rfl rfl (by decide) inW11 w_532 dX11_become_23 ?_
      refine a_iload_n F dX11_become_26 rfl 1 rfl ?_
      refine a_iald F tM_4 rfl (by decide) hf dX11_become_27 (fun hf => ?_)
      refine a_topI hf (fun x4_4 hf => ?_)
      refine a_istore F (lv' := [(4, iv x4_4), (0, .ref (ad 0)), (1, iv x1), (2, iv x2), (3, iv x3)]) dX11_become_28 (by decide) rfl ?_
      refine a_aload_n F dX11_become_30 rfl 1 rfl ?_
      refine a_getR F (j := 6) tM_0 rfl rfl (by decide) inW11 w_532 dX11_become_31 ?_
      refine a_iload_n F dX11_become_34 rfl 2 rfl ?_
      refine a_iload_n F dX11_become_35 rfl 3 rfl ?_
      refine a_iast F tM_4 rfl (by decide) hf dX11_become_36 (fun σ_5 hf => ?_)
      refine a_aload_n F dX11_become_37 rfl 1 rfl ?_
      refine a_getR F (j := 7) tM_0 rfl rfl (by decide) inW11 w_533 dX11_become_38 ?_
      refine a_iload_n F dX11_become_41 rfl 2 rfl ?_
      refine a_iload_n F dX11_become_42 rfl 4 rfl ?_
      refine a_iast F tM_5 rfl (by decide) hf dX11_become_43 (fun σ_6 hf => ?_)
      refine a_iload F dX11_become_44 0 rfl ?_
      cases hf
      exact hr _ _ rfl _ _ dX11_become_46
set_option maxRecDepth 100000 in
set_option maxHeartbeats 4000000 in
theorem c_X11_become {l : Launch}  {σ : St} {x1 x2 x3 : Int} : CtrI vwCl WS NWs TM l yX11_become cX11_become 5 (some .int) rm_X11_become (fun ad => [.ref (ad 0), iv x1, iv x2, iv x3]) σ (f_X11_become σ x1 x2 x3) := by
  refine ctrI_of (by decide +kernel) (fun ad => Nat.le_of_ble_eq_true rfl) (fun v σ' ad X hf F K => ?_)
  exact k_X11_become_b0 F hf (fun v τ e => by cases e; exact K)
abbrev rm_X11_beside : Room := { frames := 4, cells := 0, slots := 0, locals := 102 }
set_option maxRecDepth 100000 in
set_option maxHeartbeats 4000000 in
theorem k_X11_beside_b0 {l : Launch} {ad : Nat → Nat} {X : Cx} (F : Ok vwCl WS NWs TM cX11_beside 3 yX11_beside.cls (some .int) ad l X) {σ : St} {x1 x2 : Int} {y : (Int × St)} (hf : f_X11_beside_b0 σ x1 x2 = some y) (hr : ∀ v τ, y = (v, τ) → RetI vwCl TM cX11_beside 3 rm_X11_beside ad X v τ) : At vwCl TM 3 rm_X11_beside ad X σ [(0, .ref (ad 0)), (1, iv x1), (2, iv x2)] [] 0 := by
  unfold f_X11_beside_b0 at hf
  refine a_aload_n F dX11_beside_0 rfl 0 rfl ?_
  refine a_iload_n F dX11_beside_1 rfl 1 rfl ?_
  refine a_iload_n F dX11_beside_2 rfl 2 rfl ?_
  refine a_callVIr F lk_RX11_241 tM_0 rfl c_X11_areTwo rfl rfl ⟨rfl, rfl⟩ ⟨Nat.le_of_ble_eq_true rfl, Nat.le_of_ble_eq_true rfl⟩ rfl (Nat.le_of_ble_eq_true rfl) dX11_beside_3 hf (fun r_1 hf => ?_)
  refine a_if_eq F hf (tgt := 27) dX11_beside_6 (by decide) (fun hf => ?_) (fun hf => ?_)
  · refine a_iconst F dX11_beside_27 ?_
    cases hf
    exact hr _ _ rfl _ _ dX11_beside_28
  · refine a_aload_n F dX11_beside_9 rfl 0 rfl ?_
    refine a_iload_n F dX11_beside_10 rfl 1 rfl ?_
    refine a_iload_n F dX11_beside_11 rfl 2 rfl ?_
    refine a_callVI F lk_RX11_244 tM_0 rfl c_X11_borderOf rfl rfl ⟨rfl, rfl⟩ ⟨Nat.le_of_ble_eq_true rfl, Nat.le_of_ble_eq_true rfl⟩ rfl (Nat.le_of_ble_eq_true rfl) dX11_beside_12 hf (fun r_2 σ_3 hf => ?_)
    refine a_iconst F dX11_beside_15 ?_
    refine a_icmp_ne F hf (tgt := 23) dX11_beside_16 (by decide) (fun hf => ?_) (fun hf => ?_)
    · refine a_iconst F dX11_beside_19 ?_
      refine a_goto F (tgt := 28) dX11_beside_20 (by decide) ?_
      cases hf
      exact hr _ _ rfl _ _ dX11_beside_28
    · refine a_iconst F dX11_beside_23 ?_
      refine a_goto F (tgt := 28) dX11_beside_24 (by decide) ?_
      cases hf
      exact hr _ _ rfl _ _ dX11_beside_28
set_option maxRecDepth 100000 in
set_option maxHeartbeats 4000000 in
theorem c_X11_beside {l : Launch}  {σ : St} {x1 x2 : Int} : CtrI vwCl WS NWs TM l yX11_beside cX11_beside 3 (some .int) rm_X11_beside (fun ad => [.ref (ad 0), iv x1, iv x2]) σ (f_X11_beside σ x1 x2) := by
  refine ctrI_of (by decide +kernel) (fun ad => Nat.le_of_ble_eq_true rfl) (fun v σ' ad X hf F K => ?_)
  exact k_X11_beside_b0 F hf (fun v τ e => by cases e; exact K)
abbrev rm_X11_fractions : Room := { frames := 0, cells := 0, slots := 0, locals := 0 }
set_option maxRecDepth 100000 in
set_option maxHeartbeats 4000000 in
theorem k_X11_fractions_b17 {l : Launch} {ad : Nat → Nat} {X : Cx} (F : Ok vwCl WS NWs TM cX11_fractions 23 yX11_fractions.cls (some .int) ad l X) {σ : St} {x8 x10 x12 x14 x16 : Int} {y : ((Int × Int × Int × Int × Int) ⊕ ((Int × Int × Int) ⊕ (Int × Int × Int)))} (hf : f_X11_fractions_b17 x8 x10 x12 x14 x16 = some y) (hn : ∀ z8 z10 z12 z14 z16, y = .inl (z8, z10, z12, z14, z16) → At vwCl TM 23 rm_X11_fractions ad X σ [(8, jv z8), (10, jv z10), (12, jv z12), (14, jv z14), (16, iv z16)] [] 17) (hx0 : ∀ z16 z17 z19, y = .inr (.inl (z16, z17, z19)) → At vwCl TM 23 rm_X11_fractions ad X σ [(16, iv z16), (17, jv z17), (19, jv z19)] [] 39) (hx1 : ∀ z8 z12 z16, y = .inr (.inr ((z8, z12, z16))) → At vwCl TM 23 rm_X11_fractions ad X σ [(8, jv z8), (12, jv z12), (16, iv z16)] [] 90) : At vwCl TM 23 rm_X11_fractions ad X σ [(8, jv x8), (10, jv x10), (12, jv x12), (14, jv x14), (16, iv x16)] [] 17 := by
  unfold f_X11_fractions_b17 at hf
  refine a_lload F dX11_fractions_17 0 rfl ?_
  refine a_lload F dX11_fractions_19 1 rfl ?_
  refine a_ldiv F hf dX11_fractions_21 (fun hf => ?_)
  refine a_topJ hf (fun x17_6 hf => ?_)
  refine a_lstore F (lv' := [(17, jv x17_6), (8, jv x8), (10, jv x10), (12, jv x12), (14, jv x14), (16, iv x16)]) dX11_fractions_22 (by decide) rfl ?_
  refine a_lload F dX11_fractions_24 3 rfl ?_
  refine a_lload F dX11_fractions_26 4 rfl ?_
  refine a_ldiv F hf dX11_fractions_28 (fun hf => ?_)
  refine a_topJ hf (fun x19_7 hf => ?_)
  refine a_lstore F (lv' := [(19, jv x19_7), (17, jv x17_6), (8, jv x8), (10, jv x10), (12, jv x12), (14, jv x14), (16, iv x16)]) dX11_fractions_29 (by decide) rfl ?_
  refine a_lload F dX11_fractions_31 1 rfl ?_
  refine a_lload F dX11_fractions_33 0 rfl ?_
  refine a_lcmp_eq F hf (tgt := 56) dX11_fractions_35 dX11_fractions_36 (by decide) (fun hf => ?_) (fun hf => ?_)
  · refine a_lload F dX11_fractions_56 2 rfl ?_
    refine a_lload F dX11_fractions_58 1 rfl ?_
    refine a_lload F dX11_fractions_60 3 rfl ?_
    refine a_lmul F dX11_fractions_62 ?_
    refine a_lsub F dX11_fractions_63 ?_
    refine a_topJ hf (fun x8_8 hf => ?_)
    refine a_lstore F (lv' := [(8, jv x8_8), (19, jv x19_7), (17, jv x17_6), (10, jv x10), (12, jv x12), (14, jv x14), (16, iv x16)]) dX11_fractions_64 (by decide) rfl ?_
    refine a_lload F dX11_fractions_66 4 rfl ?_
    refine a_lload F dX11_fractions_68 1 rfl ?_
    refine a_lload F dX11_fractions_70 5 rfl ?_
    refine a_lmul F dX11_fractions_72 ?_
    refine a_lsub F dX11_fractions_73 ?_
    refine a_topJ hf (fun x12_9 hf => ?_)
    refine a_lstore F (lv' := [(12, jv x12_9), (8, jv x8_8), (19, jv x19_7), (17, jv x17_6), (10, jv x10), (14, jv x14), (16, iv x16)]) dX11_fractions_74 (by decide) rfl ?_
    refine a_lload F dX11_fractions_76 1 rfl ?_
    refine a_lconst F (n := 0) dX11_fractions_78 (by decide +kernel) ?_
    refine a_lcmp_eq F hf (tgt := 90) dX11_fractions_79 dX11_fractions_80 (by decide) (fun hf => ?_) (fun hf => ?_)
    · cases hf
      exact a_sub [1, 0, 6] rfl (hx1 _ _ _ rfl)
    · refine a_lload F dX11_fractions_83 0 rfl ?_
      refine a_lconst F (n := 0) dX11_fractions_85 (by decide +kernel) ?_
      refine a_lcmp_ne F hf (tgt := 118) dX11_fractions_86 dX11_fractions_87 (by decide) (fun hf => ?_) (fun hf => ?_)
      · cases hf
        exact a_sub [1, 0, 6] rfl (hx1 _ _ _ rfl)
      · refine a_lload F dX11_fractions_118 1 rfl ?_
        refine a_topJ hf (fun x21_10 hf => ?_)
        refine a_lstore F (lv' := [(21, jv x21_10), (12, jv x12_9), (8, jv x8_8), (19, jv x19_7), (17, jv x17_6), (10, jv x10), (14, jv x14), (16, iv x16)]) dX11_fractions_120 (by decide) rfl ?_
        refine a_lload F dX11_fractions_122 5 rfl ?_
        refine a_topJ hf (fun x8_11 hf => ?_)
        refine a_lstore F (lv' := [(8, jv x8_11), (21, jv x21_10), (12, jv x12_9), (19, jv x19_7), (17, jv x17_6), (10, jv x10), (14, jv x14), (16, iv x16)]) dX11_fractions_124 (by decide) rfl ?_
        refine a_lload F dX11_fractions_126 1 rfl ?_
        refine a_topJ hf (fun x10_12 hf => ?_)
        refine a_lstore F (lv' := [(10, jv x10_12), (8, jv x8_11), (21, jv x21_10), (12, jv x12_9), (19, jv x19_7), (17, jv x17_6), (14, jv x14), (16, iv x16)]) dX11_fractions_128 (by decide) rfl ?_
        refine a_lload F dX11_fractions_130 3 rfl ?_
        refine a_topJ hf (fun x21_13 hf => ?_)
        refine a_lstore F (lv' := [(21, jv x21_13), (10, jv x10_12), (8, jv x8_11), (12, jv x12_9), (19, jv x19_7), (17, jv x17_6), (14, jv x14), (16, iv x16)]) dX11_fractions_132 (by decide) rfl ?_
        refine a_lload F dX11_fractions_134 6 rfl ?_
        refine a_topJ hf (fun x12_14 hf => ?_)
        refine a_lstore F (lv' := [(12, jv x12_14), (21, jv x21_13), (10, jv x10_12), (8, jv x8_11), (19, jv x19_7), (17, jv x17_6), (14, jv x14), (16, iv x16)]) dX11_fractions_136 (by decide) rfl ?_
        refine a_lload F dX11_fractions_138 1 rfl ?_
        refine a_topJ hf (fun x14_15 hf => ?_)
        refine a_lstore F (lv' := [(14, jv x14_15), (12, jv x12_14), (21, jv x21_13), (10, jv x10_12), (8, jv x8_11), (19, jv x19_7), (17, jv x17_6), (16, iv x16)]) dX11_fractions_140 (by decide) rfl ?_
        refine a_iload F dX11_fractions_142 7 rfl ?_
        refine a_ineg F dX11_fractions_144 ?_
        refine a_topI hf (fun x16_16 hf => ?_)
        refine a_istore F (lv' := [(16, iv x16_16), (14, jv x14_15), (12, jv x12_14), (21, jv x21_13), (10, jv x10_12), (8, jv x8_11), (19, jv x19_7), (17, jv x17_6)]) dX11_fractions_145 (by decide) rfl ?_
        refine a_goto F (tgt := 17) dX11_fractions_147 (by decide) ?_
        cases hf
        exact a_sub [5, 4, 2, 1, 0] rfl (hn _ _ _ _ _ rfl)
  · cases hf
    exact a_sub [6, 1, 0] rfl (hx0 _ _ _ rfl)
set_option maxRecDepth 100000 in
set_option maxHeartbeats 4000000 in
theorem k_X11_fractions_b0 {l : Launch} {ad : Nat → Nat} {X : Cx} (F : Ok vwCl WS NWs TM cX11_fractions 23 yX11_fractions.cls (some .int) ad l X) {σ : St} {x0 x2 x4 x6 : Int} {y : Int} (hf : f_X11_fractions_b0 x0 x2 x4 x6 = some y) (hr : RetI vwCl TM cX11_fractions 23 rm_X11_fractions ad X y σ) : At vwCl TM 23 rm_X11_fractions ad X σ [(0, jv x0), (2, jv x2), (4, jv x4), (6, jv x6)] [] 0 := by
  unfold f_X11_fractions_b0 at hf
  refine a_lload_n F dX11_fractions_0 rfl 0 rfl ?_
  refine a_topJ hf (fun x8_1 hf => ?_)
  refine a_lstore F (lv' := [(8, jv x8_1), (0, jv x0), (2, jv x2), (4, jv x4), (6, jv x6)]) dX11_fractions_1 (by decide) rfl ?_
  refine a_lload_n F dX11_fractions_3 rfl 2 rfl ?_
  refine a_topJ hf (fun x10_2 hf => ?_)
  refine a_lstore F (lv' := [(10, jv x10_2), (8, jv x8_1), (0, jv x0), (2, jv x2), (4, jv x4), (6, jv x6)]) dX11_fractions_4 (by decide) rfl ?_
  refine a_lload F dX11_fractions_6 4 rfl ?_
  refine a_topJ hf (fun x12_3 hf => ?_)
  refine a_lstore F (lv' := [(12, jv x12_3), (10, jv x10_2), (8, jv x8_1), (0, jv x0), (2, jv x2), (4, jv x4), (6, jv x6)]) dX11_fractions_8 (by decide) rfl ?_
  refine a_lload F dX11_fractions_10 6 rfl ?_
  refine a_topJ hf (fun x14_4 hf => ?_)
  refine a_lstore F (lv' := [(14, jv x14_4), (12, jv x12_3), (10, jv x10_2), (8, jv x8_1), (0, jv x0), (2, jv x2), (4, jv x4), (6, jv x6)]) dX11_fractions_12 (by decide) rfl ?_
  refine a_iconst F dX11_fractions_14 ?_
  refine a_topI hf (fun x16_5 hf => ?_)
  refine a_istore F (lv' := [(16, iv x16_5), (14, jv x14_4), (12, jv x12_3), (10, jv x10_2), (8, jv x8_1), (0, jv x0), (2, jv x2), (4, jv x4), (6, jv x6)]) dX11_fractions_15 (by decide) rfl ?_
  obtain ⟨q0, he, hf⟩ := jbind_elim hf
  refine a_sub [4, 3, 2, 1, 0] rfl (loop_rule (P := (fun q => ∀ z8 z10 z12 z14 z16, (z8, z10, z12, z14, z16) = q → At vwCl TM 23 rm_X11_fractions ad X σ [(8, jv z8), (10, jv z10), (12, jv z12), (14, jv z14), (16, iv z16)] [] 17)) (K := (fun q => (∀ z16 z17 z19, .inl (z16, z17, z19) = q → At vwCl TM 23 rm_X11_fractions ad X σ [(16, iv z16), (17, jv z17), (19, jv z19)] [] 39) ∧ (∀ z8 z12 z16, .inr ((z8, z12, z16)) = q → At vwCl TM 23 rm_X11_fractions ad X σ [(8, jv z8), (12, jv z12), (16, iv z16)] [] 90))) ?_ 1000 _ _ he ?_ _ _ _ _ _ rfl)
  · intro q y hy hn hx z8 z10 z12 z14 z16 e
    subst e
    exact k_X11_fractions_b17 F hy (fun z8 z10 z12 z14 z16 e => hn _ e _ _ _ _ _ rfl) (fun z16 z17 z19 e => (hx _ e).1 _ _ _ rfl) (fun z8 z12 z16 e => (hx _ e).2 _ _ _ rfl)
  · refine ⟨?_, ?_⟩
    · intro x16_17 x17_18 x19_19 e
      subst e
      refine a_lload F dX11_fractions_39 1 rfl ?_
      refine a_lload F dX11_fractions_41 2 rfl ?_
      refine a_lcmp_le F hf (tgt := 52) dX11_fractions_43 dX11_fractions_44 (by decide) (fun hf => ?_) (fun hf => ?_)
      · refine a_iload F dX11_fractions_47 0 rfl ?_
        refine a_goto F (tgt := 55) dX11_fractions_49 (by decide) ?_
        cases hf
        exact hr _ _ dX11_fractions_55
      · refine a_iload F dX11_fractions_52 0 rfl ?_
        refine a_ineg F dX11_fractions_54 ?_
        cases hf
        exact hr _ _ dX11_fractions_55
    · intro x8_20 x12_21 x16_22 e
      subst e
      refine a_lload F dX11_fractions_90 0 rfl ?_
      refine a_lload F dX11_fractions_92 1 rfl ?_
      refine a_lcmp_ne F hf (tgt := 102) dX11_fractions_94 dX11_fractions_95 (by decide) (fun hf => ?_) (fun hf => ?_)
      · refine a_iconst F dX11_fractions_98 ?_
        refine a_goto F (tgt := 117) dX11_fractions_99 (by decide) ?_
        cases hf
        exact hr _ _ dX11_fractions_117
      · refine a_lload F dX11_fractions_102 0 rfl ?_
        refine a_lconst F (n := 0) dX11_fractions_104 (by decide +kernel) ?_
        refine a_lcmp_ne F hf (tgt := 115) dX11_fractions_105 dX11_fractions_106 (by decide) (fun hf => ?_) (fun hf => ?_)
        · refine a_iload F dX11_fractions_109 2 rfl ?_
          refine a_ineg F dX11_fractions_111 ?_
          refine a_goto F (tgt := 117) dX11_fractions_112 (by decide) ?_
          cases hf
          exact hr _ _ dX11_fractions_117
        · refine a_iload F dX11_fractions_115 2 rfl ?_
          cases hf
          exact hr _ _ dX11_fractions_117
set_option maxRecDepth 100000 in
set_option maxHeartbeats 4000000 in
theorem c_X11_fractions {l : Launch}  {σ : St} {x0 x2 x4 x6 : Int} : CtrI vwCl WS NWs TM l yX11_fractions cX11_fractions 23 (some .int) rm_X11_fractions (fun ad => [jv x0, jv x2, jv x4, jv x6]) σ (rd (f_X11_fractions x0 x2 x4 x6) σ) := by
  refine ctrI_of (by decide +kernel) (fun ad => Nat.le_of_ble_eq_true rfl) (fun v σ' ad X hf F K => ?_)
  obtain ⟨hf2, e2⟩ := rd_elim hf
  subst e2
  exact k_X11_fractions_b0 F hf2 K
abbrev rm_X11_better : Room := { frames := 1, cells := 0, slots := 0, locals := 42 }
set_option maxRecDepth 100000 in
set_option maxHeartbeats 4000000 in
theorem k_X11_better_b89 {l : Launch} {ad : Nat → Nat} {X : Cx} (F : Ok vwCl WS NWs TM cX11_better 2 yX11_better.cls none ad l X) {σ : St} {x1 : Int} {y : St} (hf : f_X11_better_b89 σ x1 = some y) (hr : RetV vwCl TM cX11_better 2 rm_X11_better ad X y) : At vwCl TM 2 rm_X11_better ad X σ [(0, .ref (ad 0)), (1, iv x1)] [] 89 := by
  unfold f_X11_better_b89 at hf
  refine a_iload_n F dX11_better_89 rfl 1 rfl ?_
  refine a_if_gt F hf (tgt := 94) dX11_better_90 (by decide) (fun hf => ?_) (fun hf => ?_)
  · refine a_aload_n F dX11_better_94 rfl 0 rfl ?_
    refine a_iconst F dX11_better_95 ?_
    refine a_putZ F (j := 39) tM_0 rfl rfl (by decide) inW11 w_640 tyX11 tyX11_ok nmX11 rfl rfl hf dX11_better_96 (fun σ_3 hf => ?_)
    refine a_aload_n F dX11_better_99 rfl 0 rfl ?_
    refine a_aload_n F dX11_better_100 rfl 0 rfl ?_
    refine a_getJ F (j := 34) tM_0 rfl rfl (by decide) inW11 w_641 dX11_better_101 ?_
    refine a_putJ F (j := 40) tM_0 rfl rfl (by decide) inW11 w_642 tyX11 tyX11_ok nmX11 rfl rfl hf dX11_better_104 (fun σ_4 hf => ?_)
    refine a_aload_n F dX11_better_107 rfl 0 rfl ?_
    refine a_aload_n F dX11_better_108 rfl 0 rfl ?_
    refine a_getJ F (j := 35) tM_0 rfl rfl (by decide) inW11 w_643 dX11_better_109 ?_
    refine a_putJ F (j := 41) tM_0 rfl rfl (by decide) inW11 w_644 tyX11 tyX11_ok nmX11 rfl rfl hf dX11_better_112 (fun σ_5 hf => ?_)
    refine a_aload_n F dX11_better_115 rfl 0 rfl ?_
    refine a_aload_n F dX11_better_116 rfl 0 rfl ?_
    refine a_getJ F (j := 36) tM_0 rfl rfl (by decide) inW11 w_645 dX11_better_117 ?_
    refine a_putJ F (j := 42) tM_0 rfl rfl (by decide) inW11 w_646 tyX11 tyX11_ok nmX11 rfl rfl hf dX11_better_120 (fun σ_6 hf => ?_)
    refine a_aload_n F dX11_better_123 rfl 0 rfl ?_
    refine a_aload_n F dX11_better_124 rfl 0 rfl ?_
    refine a_getJ F (j := 37) tM_0 rfl rfl (by decide) inW11 w_647 dX11_better_125 ?_
    refine a_putJ F (j := 43) tM_0 rfl rfl (by decide) inW11 w_648 tyX11 tyX11_ok nmX11 rfl rfl hf dX11_better_128 (fun σ_7 hf => ?_)
    refine a_aload_n F dX11_better_131 rfl 0 rfl ?_
    refine a_aload_n F dX11_better_132 rfl 0 rfl ?_
    refine a_getJ F (j := 38) tM_0 rfl rfl (by decide) inW11 w_649 dX11_better_133 ?_
    refine a_putJ F (j := 44) tM_0 rfl rfl (by decide) inW11 w_650 tyX11 tyX11_ok nmX11 rfl rfl hf dX11_better_136 (fun σ_8 hf => ?_)
    cases hf
    exact hr _ _ dX11_better_139
  · cases hf
    exact hr _ _ dX11_better_93
set_option maxRecDepth 100000 in
set_option maxHeartbeats 4000000 in
theorem k_X11_better_b65 {l : Launch} {ad : Nat → Nat} {X : Cx} (F : Ok vwCl WS NWs TM cX11_better 2 yX11_better.cls none ad l X) {σ : St} {x1 : Int} {y : St} (hf : f_X11_better_b65 σ x1 = some y) (hr : RetV vwCl TM cX11_better 2 rm_X11_better ad X y) : At vwCl TM 2 rm_X11_better ad X σ [(0, .ref (ad 0)), (1, iv x1)] [] 65 := by
  unfold f_X11_better_b65 at hf
  refine a_iload_n F dX11_better_65 rfl 1 rfl ?_
  refine a_if_ne F hf (tgt := 89) dX11_better_66 (by decide) (fun hf => ?_) (fun hf => ?_)
  · refine a_aload_n F dX11_better_69 rfl 0 rfl ?_
    refine a_getJ F (j := 41) tM_0 rfl rfl (by decide) inW11 w_644 dX11_better_70 ?_
    refine a_aload_n F dX11_better_73 rfl 0 rfl ?_
    refine a_getJ F (j := 42) tM_0 rfl rfl (by decide) inW11 w_646 dX11_better_74 ?_
    refine a_aload_n F dX11_better_77 rfl 0 rfl ?_
    refine a_getJ F (j := 35) tM_0 rfl rfl (by decide) inW11 w_643 dX11_better_78 ?_
    refine a_aload_n F dX11_better_81 rfl 0 rfl ?_
    refine a_getJ F (j := 36) tM_0 rfl rfl (by decide) inW11 w_645 dX11_better_82 ?_
    refine a_callSIr F lk_RX11_189 c_X11_order rfl rfl ⟨rfl, rfl⟩ ⟨Nat.le_of_ble_eq_true rfl, Nat.le_of_ble_eq_true rfl⟩ rfl (Nat.le_of_ble_eq_true rfl) dX11_better_85 hf (fun r_9 hf => ?_)
    refine a_topI hf (fun x1_10 hf => ?_)
    refine a_istore_n F (lv' := [(1, iv x1_10), (0, .ref (ad 0))]) dX11_better_88 rfl (by decide) rfl ?_
    exact a_sub [1, 0] rfl (k_X11_better_b89 F hf hr)
  · exact a_sub [0, 1] rfl (k_X11_better_b89 F hf hr)
set_option maxRecDepth 100000 in
set_option maxHeartbeats 4000000 in
theorem k_X11_better_b30 {l : Launch} {ad : Nat → Nat} {X : Cx} (F : Ok vwCl WS NWs TM cX11_better 2 yX11_better.cls none ad l X) {σ : St} {t0 : Int} {y : St} (hf : f_X11_better_b30 σ t0 = some y) (hr : RetV vwCl TM cX11_better 2 rm_X11_better ad X y) : At vwCl TM 2 rm_X11_better ad X σ [(0, .ref (ad 0))] [iv t0] 30 := by
  unfold f_X11_better_b30 at hf
  refine a_topI hf (fun x1_1 hf => ?_)
  refine a_istore_n F (lv' := [(1, iv x1_1), (0, .ref (ad 0))]) dX11_better_30 rfl (by decide) rfl ?_
  refine a_iload_n F dX11_better_31 rfl 0 rfl ?_
  refine a_if_ne F hf (tgt := 58) dX11_better_32 (by decide) (fun hf => ?_) (fun hf => ?_)
  · refine a_aload_n F dX11_better_35 rfl 1 rfl ?_
    refine a_getJ F (j := 40) tM_0 rfl rfl (by decide) inW11 w_642 dX11_better_36 ?_
    refine a_aload_n F dX11_better_39 rfl 1 rfl ?_
    refine a_getJ F (j := 42) tM_0 rfl rfl (by decide) inW11 w_646 dX11_better_40 ?_
    refine a_aload_n F dX11_better_43 rfl 1 rfl ?_
    refine a_getJ F (j := 34) tM_0 rfl rfl (by decide) inW11 w_641 dX11_better_44 ?_
    refine a_aload_n F dX11_better_47 rfl 1 rfl ?_
    refine a_getJ F (j := 36) tM_0 rfl rfl (by decide) inW11 w_645 dX11_better_48 ?_
    refine a_callSIr F lk_RX11_189 c_X11_order rfl rfl ⟨rfl, rfl⟩ ⟨Nat.le_of_ble_eq_true rfl, Nat.le_of_ble_eq_true rfl⟩ rfl (Nat.le_of_ble_eq_true rfl) dX11_better_51 hf (fun r_11 hf => ?_)
    refine a_topI hf (fun x1_12 hf => ?_)
    refine a_istore_n F (lv' := [(1, iv x1_12), (0, .ref (ad 0))]) dX11_better_54 rfl (by decide) rfl ?_
    refine a_goto F (tgt := 65) dX11_better_55 (by decide) ?_
    exact a_sub [1, 0] rfl (k_X11_better_b65 F hf hr)
  · refine a_iload_n F dX11_better_58 rfl 0 rfl ?_
    refine a_if_ge F hf (tgt := 63) dX11_better_59 (by decide) (fun hf => ?_) (fun hf => ?_)
    · cases hf
      exact hr _ _ dX11_better_62
    · refine a_iconst F dX11_better_63 ?_
      refine a_topI hf (fun x1_2 hf => ?_)
      refine a_istore_n F (lv' := [(1, iv x1_2), (0, .ref (ad 0))]) dX11_better_64 rfl (by decide) rfl ?_
      exact a_sub [1, 0] rfl (k_X11_better_b65 F hf hr)
set_option maxRecDepth 100000 in
set_option maxHeartbeats 4000000 in
theorem k_X11_better_b0 {l : Launch} {ad : Nat → Nat} {X : Cx} (F : Ok vwCl WS NWs TM cX11_better 2 yX11_better.cls none ad l X) {σ : St} {y : St} (hf : f_X11_better_b0 σ = some y) (hr : RetV vwCl TM cX11_better 2 rm_X11_better ad X y) : At vwCl TM 2 rm_X11_better ad X σ [(0, .ref (ad 0))] [] 0 := by
  unfold f_X11_better_b0 at hf
  refine a_aload_n F dX11_better_0 rfl 0 rfl ?_
  refine a_getI F (j := 39) tM_0 rfl rfl (by decide) inW11 w_640 dX11_better_1 ?_
  refine a_if_eq F hf (tgt := 29) dX11_better_4 (by decide) (fun hf => ?_) (fun hf => ?_)
  · refine a_iconst F dX11_better_29 ?_
    exact a_sub [0] rfl (k_X11_better_b30 F hf hr)
  · refine a_aload_n F dX11_better_7 rfl 0 rfl ?_
    refine a_getJ F (j := 37) tM_0 rfl rfl (by decide) inW11 w_647 dX11_better_8 ?_
    refine a_aload_n F dX11_better_11 rfl 0 rfl ?_
    refine a_getJ F (j := 38) tM_0 rfl rfl (by decide) inW11 w_649 dX11_better_12 ?_
    refine a_aload_n F dX11_better_15 rfl 0 rfl ?_
    refine a_getJ F (j := 43) tM_0 rfl rfl (by decide) inW11 w_648 dX11_better_16 ?_
    refine a_aload_n F dX11_better_19 rfl 0 rfl ?_
    refine a_getJ F (j := 44) tM_0 rfl rfl (by decide) inW11 w_650 dX11_better_20 ?_
    refine a_callSIr F lk_RX11_303 c_X11_fractions rfl rfl ⟨rfl, rfl⟩ ⟨Nat.le_of_ble_eq_true rfl, Nat.le_of_ble_eq_true rfl⟩ rfl (Nat.le_of_ble_eq_true rfl) dX11_better_23 hf (fun r_13 hf => ?_)
    refine a_goto F (tgt := 30) dX11_better_26 (by decide) ?_
    exact a_sub [0] rfl (k_X11_better_b30 F hf hr)
set_option maxRecDepth 100000 in
set_option maxHeartbeats 4000000 in
theorem c_X11_better {l : Launch}  {σ : St} : CtrV vwCl WS NWs TM l yX11_better cX11_better 2 none rm_X11_better (fun ad => [.ref (ad 0)]) σ (f_X11_better σ) := by
  refine ctrV_of (by decide +kernel) (fun ad => Nat.le_of_ble_eq_true rfl) (fun σ' ad X hf F K => ?_)
  exact k_X11_better_b0 F hf K
abbrev rm_X11_border : Room := { frames := 4, cells := 0, slots := 0, locals := 102 }
set_option maxRecDepth 100000 in
set_option maxHeartbeats 4000000 in
theorem k_X11_border_b0 {l : Launch} {ad : Nat → Nat} {X : Cx} (F : Ok vwCl WS NWs TM cX11_border 3 yX11_border.cls (some .int) ad l X) {σ : St} {x1 x2 : Int} {y : (Int × St)} (hf : f_X11_border_b0 σ x1 x2 = some y) (hr : ∀ v τ, y = (v, τ) → RetI vwCl TM cX11_border 3 rm_X11_border ad X v τ) : At vwCl TM 3 rm_X11_border ad X σ [(0, .ref (ad 0)), (1, iv x1), (2, iv x2)] [] 0 := by
  unfold f_X11_border_b0 at hf
  refine a_aload_n F dX11_border_0 rfl 0 rfl ?_
  refine a_iload_n F dX11_border_1 rfl 1 rfl ?_
  refine a_iload_n F dX11_border_2 rfl 2 rfl ?_
  refine a_callVIr F lk_RX11_241 tM_0 rfl c_X11_areTwo rfl rfl ⟨rfl, rfl⟩ ⟨Nat.le_of_ble_eq_true rfl, Nat.le_of_ble_eq_true rfl⟩ rfl (Nat.le_of_ble_eq_true rfl) dX11_border_3 hf (fun r_1 hf => ?_)
  refine a_if_eq F hf (tgt := 18) dX11_border_6 (by decide) (fun hf => ?_) (fun hf => ?_)
  · refine a_iconst F dX11_border_18 ?_
    cases hf
    exact hr _ _ rfl _ _ dX11_border_19
  · refine a_aload_n F dX11_border_9 rfl 0 rfl ?_
    refine a_iload_n F dX11_border_10 rfl 1 rfl ?_
    refine a_iload_n F dX11_border_11 rfl 2 rfl ?_
    refine a_callVI F lk_RX11_244 tM_0 rfl c_X11_borderOf rfl rfl ⟨rfl, rfl⟩ ⟨Nat.le_of_ble_eq_true rfl, Nat.le_of_ble_eq_true rfl⟩ rfl (Nat.le_of_ble_eq_true rfl) dX11_border_12 hf (fun r_2 σ_3 hf => ?_)
    refine a_goto F (tgt := 19) dX11_border_15 (by decide) ?_
    cases hf
    exact hr _ _ rfl _ _ dX11_border_19
set_option maxRecDepth 100000 in
set_option maxHeartbeats 4000000 in
theorem c_X11_border {l : Launch}  {σ : St} {x1 x2 : Int} : CtrI vwCl WS NWs TM l yX11_border cX11_border 3 (some .int) rm_X11_border (fun ad => [.ref (ad 0), iv x1, iv x2]) σ (f_X11_border σ x1 x2) := by
  refine ctrI_of (by decide +kernel) (fun ad => Nat.le_of_ble_eq_true rfl) (fun v σ' ad X hf F K => ?_)
  exact k_X11_border_b0 F hf (fun v τ e => by cases e; exact K)
