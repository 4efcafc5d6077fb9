
/-! ===== the law's own rows: two sides, a script ===== -/
abbrev LC : Type := Program × Launch × Env × State × MethodId × List Frame × Method × Code × va_G
def LAt (b : Nat) (cs : Nat → ClassId) (adC adM : Nat → Nat) (X : LC) (σC σM : St) (lv : List (Nat × Value)) (st : List Value) (pc : Nat) : Prop := match X with
  | (p, l, e, s, m, below, meth, c, D) => ∀ (H : Heap) (locs : List Loc) (ls : Array Slot), va_P D vwCl (wd cs adC TC σC) H → va_P D vwCl (wd cs adM TM σM) H → va_S (fun q => s.heap.size ≤ q) s.heap H locs → lv_has ls 4 lv → W p l e room_1 s m #[Value.ref b] below meth c H locs 104 6226 (lw_Z below #[Value.ref b] s) (F0 m pc ls st)
def LOk (b L : Nat) (xs : Nat → Int32) (cs : Nat → ClassId) (adC adM : Nat → Nat) (l : Launch) (X : LC) : Prop := match X with
  | (p, l', _, s, m, _, meth, c, D) => l' = l ∧ CallFix p m c code 4 s #[Value.ref b] WS RL ∧ va_K D vwCl (tyL cs) s ∧ adI adC TC.length ∧ (∀ k, k < TC.length → s.heap.size ≤ adC k) ∧ adI adM TM.length ∧ (∀ k, k < TM.length → s.heap.size ≤ adM k) ∧ (∀ i j, i < TC.length → j < TM.length → adC i ≠ adM j) ∧ XS NWs (fun q => s.heap.size ≤ q) s ∧ va_X b L xs s s.heap ∧ b < s.heap.size ∧ meth.locks = false ∧ meth.sig.returnType = ret
section LROWS
variable {b L : Nat} {xs : Nat → Int32} {cs : Nat → ClassId} {adC adM : Nat → Nat} {l : Launch} {X : LC} {σC σM : St} {lv : List (Nat × Value)} {st : List Value} {pc : Nat}
theorem l_aload_n (F : LOk b L xs cs adC adM l X) {n : Fin 4} {i x : Nat} (d : decode code pc = .ok (.aload_n n, 1)) (hi : (n : Nat) = i) (j : Nat) (hj : lv[j]? = some (i, .ref x)) (k : LAt b cs adC adM X σC σM lv (.ref x :: st) (pc + 1)) : LAt b cs adC adM X σC σM lv st pc := by
  obtain ⟨p, l', e, s, m, below, meth, c, D⟩ := X
  obtain ⟨rfl, F⟩ := F
  intro H locs ls hC hM hS hl
  exact lv_aload_n F.1.1 F.1.2.1 d hi (lv_at hl j hj) (k H locs ls hC hM hS hl)
theorem l_iload_n (F : LOk b L xs cs adC adM l X) {n : Fin 4} {i : Nat} {x : Int} (d : decode code pc = .ok (.iload_n n, 1)) (hi : (n : Nat) = i) (j : Nat) (hj : lv[j]? = some (i, iv x)) (k : LAt b cs adC adM X σC σM lv (iv x :: st) (pc + 1)) : LAt b cs adC adM X σC σM lv st pc := by
  obtain ⟨p, l', e, s, m, below, meth, c, D⟩ := X
  obtain ⟨rfl, F⟩ := F
  intro H locs ls hC hM hS hl
  exact lv_iload_n F.1.1 F.1.2.1 d hi (lv_at hl j hj) (k H locs ls hC hM hS hl)
theorem l_iconst (F : LOk b L xs cs adC adM l X) {n : Int} (d : decode code pc = .ok (.iconst n, 1)) (k : LAt b cs adC adM X σC σM lv (iv n :: st) (pc + 1)) : LAt b cs adC adM X σC σM lv st pc := by
  obtain ⟨p, l', e, s, m, below, meth, c, D⟩ := X
  obtain ⟨rfl, F⟩ := F
  intro H locs ls hC hM hS hl
  exact lv_iconst F.1.1 F.1.2.1 d rfl (k H locs ls hC hM hS hl)
theorem l_bipush (F : LOk b L xs cs adC adM l X) {n : Int} (d : decode code pc = .ok (.bipush n, 2)) (hv : (Int8.ofInt n).toInt32 = Int32.ofInt n) (k : LAt b cs adC adM X σC σM lv (iv n :: st) (pc + 2)) : LAt b cs adC adM X σC σM lv st pc := by
  obtain ⟨p, l', e, s, m, below, meth, c, D⟩ := X
  obtain ⟨rfl, F⟩ := F
  intro H locs ls hC hM hS hl
  exact lv_bipush F.1.1 F.1.2.1 d hv (k H locs ls hC hM hS hl)
theorem l_iadd (F : LOk b L xs cs adC adM l X) {x y : Int} (d : decode code pc = .ok (.iadd, 1)) (k : LAt b cs adC adM X σC σM lv (iv (x + y) :: st) (pc + 1)) : LAt b cs adC adM X σC σM lv (iv y :: iv x :: st) pc := by
  obtain ⟨p, l', e, s, m, below, meth, c, D⟩ := X
  obtain ⟨rfl, F⟩ := F
  intro H locs ls hC hM hS hl
  exact lv_iadd F.1.1 F.1.2.1 d (by rw [← Int32.ofInt_add]; exact k H locs ls hC hM hS hl)
theorem l_isub (F : LOk b L xs cs adC adM l X) {x y : Int} (d : decode code pc = .ok (.isub, 1)) (k : LAt b cs adC adM X σC σM lv (iv (x - y) :: st) (pc + 1)) : LAt b cs adC adM X σC σM lv (iv y :: iv x :: st) pc := by
  obtain ⟨p, l', e, s, m, below, meth, c, D⟩ := X
  obtain ⟨rfl, F⟩ := F
  intro H locs ls hC hM hS hl
  exact lv_isub F.1.1 F.1.2.1 d (by rw [← Int32.ofInt_sub]; exact k H locs ls hC hM hS hl)
theorem l_iand (F : LOk b L xs cs adC adM l X) {x y : Int} (d : decode code pc = .ok (.iand, 1)) (k : LAt b cs adC adM X σC σM lv (iv (jand x y) :: st) (pc + 1)) : LAt b cs adC adM X σC σM lv (iv y :: iv x :: st) pc := by
  obtain ⟨p, l', e, s, m, below, meth, c, D⟩ := X
  obtain ⟨rfl, F⟩ := F
  intro H locs ls hC hM hS hl
  exact lv_iand F.1.1 F.1.2.1 d (by rw [← Int32.ofInt_toInt (_ &&& _)]; exact k H locs ls hC hM hS hl)
theorem l_slen (F : LOk b L xs cs adC adM l X) (d : decode code pc = .ok (.arraylength, 1)) (k : LAt b cs adC adM X σC σM lv (iv (L : Int) :: st) (pc + 1)) : LAt b cs adC adM X σC σM lv (.ref b :: st) pc := by
  obtain ⟨p, l', e, s, m, below, meth, c, D⟩ := X
  obtain ⟨rfl, F⟩ := F
  intro H locs ls hC hM hS hl
  exact va_slen F.1.1 F.1.2.1 F.2.2.2.2.2.2.2.2.1 F.2.2.2.2.2.2.2.2.2.1 (Nat.not_le.mpr F.2.2.2.2.2.2.2.2.2.1) hS d (k H locs ls hC hM hS hl)
theorem l_sld (F : LOk b L xs cs adC adM l X) {j : Int} (hj : 0 ≤ j ∧ j < (L : Int)) (hL : L < 2147483648) (d : decode code pc = .ok (.iaload, 1)) (k : LAt b cs adC adM X σC σM lv (iv (xs j.toNat).toInt :: st) (pc + 1)) : LAt b cs adC adM X σC σM lv (iv j :: .ref b :: st) pc := by
  obtain ⟨p, l', e, s, m, below, meth, c, D⟩ := X
  obtain ⟨rfl, F⟩ := F
  intro H locs ls hC hM hS hl
  obtain ⟨h1, h2⟩ := oI_in rfl hL hj
  refine va_sld F.1.1 F.1.2.1 F.2.2.2.2.2.2.2.2.1 F.2.2.2.2.2.2.2.2.2.1 (Nat.not_le.mpr F.2.2.2.2.2.2.2.2.2.1) hS h1 d ?_
  rw [h2, ← Int32.ofInt_toInt (xs j.toNat)]
  exact k H locs ls hC hM hS hl
theorem l_goto (F : LOk b L xs cs adC adM l X) {off : Int} {tgt : Nat} (d : decode code pc = .ok (.goto off, 3)) (ht : (pc : Int) + off = (tgt : Int)) (k : LAt b cs adC adM X σC σM lv st tgt) : LAt b cs adC adM X σC σM lv st pc := by
  obtain ⟨p, l', e, s, m, below, meth, c, D⟩ := X
  obtain ⟨rfl, F⟩ := F
  intro H locs ls hC hM hS hl
  exact lv_goto F.1.1 F.1.2.1 d ht (k H locs ls hC hM hS hl)
theorem l_iinc (F : LOk b L xs cs adC adM l X) {i : Nat} {n x : Int} {lv' : List (Nat × Value)} (d : decode code pc = .ok (.iinc i n, 3)) (j : Nat) (hj : lv[j]? = some (i, iv x)) (hn : i < 4) (hs : (i, Value.int (Int32.ofInt (x + n))) :: lv.filter (fun q => !(q.1 == i) && !(q.1 + 1 == i && q.2.category == 2)) = lv') (k : LAt b cs adC adM X σC σM lv' st (pc + 3)) : LAt b cs adC adM X σC σM lv st pc := by
  obtain ⟨p, l', e, s, m, below, meth, c, D⟩ := X
  obtain ⟨rfl, F⟩ := F
  intro H locs ls hC hM hS hl
  exact lv_iinc F.1.1 F.1.2.1 d hl hj (v := Int32.ofInt (x + n)) (by rw [Int32.ofInt_add]) hn hs (fun ls hl => k H locs ls hC hM hS hl)
theorem l_sub {lv' : List (Nat × Value)} (ks : List Nat) (h : lv_pick lv ks = lv') (k : LAt b cs adC adM X σC σM lv' st pc) : LAt b cs adC adM X σC σM lv st pc := by
  obtain ⟨p, l', e, s, m, below, meth, c, D⟩ := X
  intro H locs ls hC hM hS hl
  exact k H locs ls hC hM hS (lv_sub hl ks h)
theorem l_icmp_gt (F : LOk b L xs cs adC adM l X) {x y : Int} (hx : inI x) (hy : inI y) {off : Int} {tgt : Nat} (d : decode code pc = .ok (.if_icmp .gt off, 3)) (ht : (pc : Int) + off = (tgt : Int)) (kt : y < x → LAt b cs adC adM X σC σM lv st tgt) (kf : ¬ y < x → LAt b cs adC adM X σC σM lv st (pc + 3)) : LAt b cs adC adM X σC σM lv (iv y :: iv x :: st) pc := by
  obtain ⟨p, l', e, s, m, below, meth, c, D⟩ := X
  obtain ⟨rfl, F⟩ := F
  intro H locs ls hC hM hS hl
  have e1 := oI_lt hy hx
  refine lv_icmp_gt F.1.1 F.1.2.1 d ht (fun w => ?_) (fun w => ?_)
  · exact kt (e1.mp w) H locs ls hC hM hS hl
  · exact kf (fun z => w (e1.mpr z)) H locs ls hC hM hS hl
/-- two equal answers: the jump is taken -/
theorem l_same (F : LOk b L xs cs adC adM l X) {x : Int} {off : Int} {tgt : Nat} (d : decode code pc = .ok (.if_icmp .eq off, 3)) (ht : (pc : Int) + off = (tgt : Int)) (k : LAt b cs adC adM X σC σM lv st tgt) : LAt b cs adC adM X σC σM lv (iv x :: iv x :: st) pc := by
  obtain ⟨p, l', e, s, m, below, meth, c, D⟩ := X
  obtain ⟨rfl, F⟩ := F
  intro H locs ls hC hM hS hl
  exact lv_icmp_eq F.1.1 F.1.2.1 d ht (fun _ => k H locs ls hC hM hS hl) (fun w => absurd rfl w)
theorem l_sameL (F : LOk b L xs cs adC adM l X) {x : Int} {off : Int} {tgt : Nat} (d1 : decode code pc = .ok (.lcmp, 1)) (d : decode code (pc + 1) = .ok (.ifCond .eq off, 3)) (ht : ((pc + 1 : Nat) : Int) + off = (tgt : Int)) (k : LAt b cs adC adM X σC σM lv st tgt) : LAt b cs adC adM X σC σM lv (jv x :: jv x :: st) pc := by
  obtain ⟨p, l', e, s, m, below, meth, c, D⟩ := X
  obtain ⟨rfl, F⟩ := F
  intro H locs ls hC hM hS hl
  refine W.lcmp F.1.1 F.1.2.1 d1 ?_
  exact lv_if_eq F.1.1 F.1.2.1 d ht (fun _ => k H locs ls hC hM hS hl) (fun w => absurd (by unfold lg_cmp; simp) w)
theorem l_tableIn (F : LOk b L xs cs adC adM l X) {dflt lo hi : Int} {offs : Array Int} {len : Nat} {x off : Int} {tgt : Nat} (ha : inI x) (d : decode code pc = .ok (.tableswitch dflt lo hi offs, len)) (h1 : ¬ x < lo) (h2 : ¬ hi < x) (ho : offs[(x - lo).toNat]? = some off) (ht : (pc : Int) + off = (tgt : Int)) (k : LAt b cs adC adM X σC σM lv st tgt) : LAt b cs adC adM X σC σM lv (iv x :: st) pc := by
  obtain ⟨p, l', e, s, m, below, meth, c, D⟩ := X
  obtain ⟨rfl, F⟩ := F
  intro H locs ls hC hM hS hl
  exact lv_tableIn F.1.1 F.1.2.1 d (by rw [oI ha]; exact h1) (by rw [oI ha]; exact h2) (by rw [oI ha]; exact ho) ht (k H locs ls hC hM hS hl)
theorem l_tableOut (F : LOk b L xs cs adC adM l X) {dflt lo hi : Int} {offs : Array Int} {len : Nat} {x : Int} {tgt : Nat} (ha : inI x) (d : decode code pc = .ok (.tableswitch dflt lo hi offs, len)) (h : x < lo ∨ hi < x) (ht : (pc : Int) + dflt = (tgt : Int)) (k : LAt b cs adC adM X σC σM lv st tgt) : LAt b cs adC adM X σC σM lv (iv x :: st) pc := by
  obtain ⟨p, l', e, s, m, below, meth, c, D⟩ := X
  obtain ⟨rfl, F⟩ := F
  intro H locs ls hC hM hS hl
  exact lv_tableOut F.1.1 F.1.2.1 d (by rw [oI ha]; exact h) ht (k H locs ls hC hM hS hl)
theorem l_end (F : LOk b L xs cs adC adM l X) (d : decode code pc = .ok (.ireturn, 1)) : LAt b cs adC adM X σC σM lv [iv 1] pc := by
  obtain ⟨p, l', e, s, m, below, meth, c, D⟩ := X
  obtain ⟨rfl, F⟩ := F
  intro H locs ls hC hM hS hl
  refine va_forget (fun q hq => hS.2.2 q hq) ?_
  refine W.widen (k := 600000) (n := 7302250) (by decide) (by decide) ?_
  exact lw_ret F.1.1 F.1.2.1 F.2.2.2.2.2.2.2.2.2.2.2 F.2.2.2.2.2.2.2.2.2.2.1 d
theorem l_callCI (F : LOk b L xs cs adC adM l X) {y : MethodName} {bytes : ByteArray} {maxL n index : Nat} {rt : Option FieldType} {rm : Room} {as : (Nat → Nat) → List Value} {As st0 : List Value} {ci : Nat} {sl : List (Nat × Nat)} {q : u_T × Nat} (hk0 : TC[0]? = some (.inr (ci, sl))) (hci : vwCl[ci]? = some (y.cls, q)) (Lk : LinkV WS RL index y bytes maxL rt n) {res : Option (Int × St)} (hK9 : CtrI vwCl WS NWs TC l y bytes maxL rt rm as σC res) (has : as adC = .ref (adC 0) :: As) (hst : st0 = As.reverse ++ .ref (adC 0) :: st) (hrm : rm.cells = 0 ∧ rm.slots = 0) (hR : rm.frames + 1 ≤ room_1.frames ∧ 8 + (maxL + 11) + rm.locals ≤ room_1.locals) (hn : As.length = n) (hroom : (st.map fun v => v.category).sum ≤ 8) (d : decode code pc = .ok (.invokevirtual index, 3)) {v : Int} {σC' : St} (hres : res = some (v, σC')) (kk : LAt b cs adC adM X σC' σM lv (iv v :: st) (pc + 3)) : LAt b cs adC adM X σC σM lv st0 pc := by
  obtain ⟨p, l', e, s, m, below, meth, c, D⟩ := X
  obtain ⟨rfl, F⟩ := F
  intro H locs ls hC hM hS hl
  have hM2 := hK9 v σC' hres D cs adC H.size
  rw [has] at hM2
  have hA : ∀ x, AW adC TC.length H.size x → s.heap.size ≤ x := by
    intro x h
    rcases h with ⟨k, hk, rfl⟩ | h
    · exact F.2.2.2.1 k hk
    · exact Nat.le_trans hS.1 h
  refine va_calli (va_runV F.1 hM2 (cwV n F.1.2.2.2.2 Lk.1 rfl hrm.1 hrm.2 Lk.2 hR) ⟨PU_blind, va_recv F.2.1 hC hci (wd_get hk0), fun U hU hW => ⟨rfl, by rw [hU], by rw [hU]; exact hC, va_K.moved hW.alike F.2.1, F.2.2.1, F.2.2.2.2.2.2.2.1.warm hS hU hW hA⟩⟩ rfl hn hl.1 hst (lv_room hroom) d ⟨by decide, by decide⟩) hS (fun x _ h => hA x h) hA (fun r u t H1 locs1 ht hvm hw hB hz1 hk1 hS1 => ?_)
  obtain ⟨w1, w2⟩ := hw
  subst w1; subst w2
  unfold BU at hB
  rw [ht] at hB
  have hO : va_P D vwCl (wd cs adM TM σM) H1 := fun k x hx => (hM k x hx).kept (hk1 x.1 (hM k x hx).lt (fun z => by
    obtain ⟨hi, e1⟩ := wd_inv hx
    rcases z with ⟨j, hk, e2⟩ | z
    · exact F.2.2.2.2.2.2.1 j k hk hi (e2.symm.trans e1)
    · have := (hM k x hx).lt
      omega))
  exact kk H1 locs1 ls hB hO hS1 hl
theorem l_callCL (F : LOk b L xs cs adC adM l X) {y : MethodName} {bytes : ByteArray} {maxL n index : Nat} {rt : Option FieldType} {rm : Room} {as : (Nat → Nat) → List Value} {As st0 : List Value} {ci : Nat} {sl : List (Nat × Nat)} {q : u_T × Nat} (hk0 : TC[0]? = some (.inr (ci, sl))) (hci : vwCl[ci]? = some (y.cls, q)) (Lk : LinkV WS RL index y bytes maxL rt n) {res : Option (Int × St)} (hK9 : CtrL vwCl WS NWs TC l y bytes maxL rt rm as σC res) (has : as adC = .ref (adC 0) :: As) (hst : st0 = As.reverse ++ .ref (adC 0) :: st) (hrm : rm.cells = 0 ∧ rm.slots = 0) (hR : rm.frames + 1 ≤ room_1.frames ∧ 8 + (maxL + 11) + rm.locals ≤ room_1.locals) (hn : As.length = n) (hroom : (st.map fun v => v.category).sum ≤ 8) (d : decode code pc = .ok (.invokevirtual index, 3)) {v : Int} {σC' : St} (hres : res = some (v, σC')) (kk : LAt b cs adC adM X σC' σM lv (jv v :: st) (pc + 3)) : LAt b cs adC adM X σC σM lv st0 pc := by
  obtain ⟨p, l', e, s, m, below, meth, c, D⟩ := X
  obtain ⟨rfl, F⟩ := F
  intro H locs ls hC hM hS hl
  have hM2 := hK9 v σC' hres D cs adC H.size
  rw [has] at hM2
  have hA : ∀ x, AW adC TC.length H.size x → s.heap.size ≤ x := by
    intro x h
    rcases h with ⟨k, hk, rfl⟩ | h
    · exact F.2.2.2.1 k hk
    · exact Nat.le_trans hS.1 h
  refine va_calll (va_runV F.1 hM2 (cwV n F.1.2.2.2.2 Lk.1 rfl hrm.1 hrm.2 Lk.2 hR) ⟨PU_blind, va_recv F.2.1 hC hci (wd_get hk0), fun U hU hW => ⟨rfl, by rw [hU], by rw [hU]; exact hC, va_K.moved hW.alike F.2.1, F.2.2.1, F.2.2.2.2.2.2.2.1.warm hS hU hW hA⟩⟩ rfl hn hl.1 hst (lv_room hroom) d ⟨by decide, by decide⟩) hS (fun x _ h => hA x h) hA (fun r u t H1 locs1 ht hvm hw hB hz1 hk1 hS1 => ?_)
  obtain ⟨w1, w2⟩ := hw
  subst w1; subst w2
  unfold BU at hB
  rw [ht] at hB
  have hO : va_P D vwCl (wd cs adM TM σM) H1 := fun k x hx => (hM k x hx).kept (hk1 x.1 (hM k x hx).lt (fun z => by
    obtain ⟨hi, e1⟩ := wd_inv hx
    rcases z with ⟨j, hk, e2⟩ | z
    · exact F.2.2.2.2.2.2.1 j k hk hi (e2.symm.trans e1)
    · have := (hM k x hx).lt
      omega))
  exact kk H1 locs1 ls hB hO hS1 hl
theorem l_callMI (F : LOk b L xs cs adC adM l X) {y : MethodName} {bytes : ByteArray} {maxL n index : Nat} {rt : Option FieldType} {rm : Room} {as : (Nat → Nat) → List Value} {As st0 : List Value} {ci : Nat} {sl : List (Nat × Nat)} {q : u_T × Nat} (hk0 : TM[0]? = some (.inr (ci, sl))) (hci : vwCl[ci]? = some (y.cls, q)) (Lk : LinkV WS RL index y bytes maxL rt n) {res : Option (Int × St)} (hK9 : CtrI vwCl WS NWs TM l y bytes maxL rt rm as σM res) (has : as adM = .ref (adM 0) :: As) (hst : st0 = As.reverse ++ .ref (adM 0) :: st) (hrm : rm.cells = 0 ∧ rm.slots = 0) (hR : rm.frames + 1 ≤ room_1.frames ∧ 8 + (maxL + 11) + rm.locals ≤ room_1.locals) (hn : As.length = n) (hroom : (st.map fun v => v.category).sum ≤ 8) (d : decode code pc = .ok (.invokevirtual index, 3)) {v : Int} {σM' : St} (hres : res = some (v, σM')) (kk : LAt b cs adC adM X σC σM' lv (iv v :: st) (pc + 3)) : LAt b cs adC adM X σC σM lv st0 pc := by
  obtain ⟨p, l', e, s, m, below, meth, c, D⟩ := X
  obtain ⟨rfl, F⟩ := F
  intro H locs ls hC hM hS hl
  have hM2 := hK9 v σM' hres D cs adM H.size
  rw [has] at hM2
  have hA : ∀ x, AW adM TM.length H.size x → s.heap.size ≤ x := by
    intro x h
    rcases h with ⟨k, hk, rfl⟩ | h
    · exact F.2.2.2.2.2.1 k hk
    · exact Nat.le_trans hS.1 h
  refine va_calli (va_runV F.1 hM2 (cwV n F.1.2.2.2.2 Lk.1 rfl hrm.1 hrm.2 Lk.2 hR) ⟨PU_blind, va_recv F.2.1 hM hci (wd_get hk0), fun U hU hW => ⟨rfl, by rw [hU], by rw [hU]; exact hM, va_K.moved hW.alike F.2.1, F.2.2.2.2.1, F.2.2.2.2.2.2.2.1.warm hS hU hW hA⟩⟩ rfl hn hl.1 hst (lv_room hroom) d ⟨by decide, by decide⟩) hS (fun x _ h => hA x h) hA (fun r u t H1 locs1 ht hvm hw hB hz1 hk1 hS1 => ?_)
  obtain ⟨w1, w2⟩ := hw
  subst w1; subst w2
  unfold BU at hB
  rw [ht] at hB
  have hO : va_P D vwCl (wd cs adC TC σC) H1 := fun k x hx => (hC k x hx).kept (hk1 x.1 (hC k x hx).lt (fun z => by
    obtain ⟨hi, e1⟩ := wd_inv hx
    rcases z with ⟨j, hk, e2⟩ | z
    · exact F.2.2.2.2.2.2.1 k j hi hk (e1.symm.trans e2)
    · have := (hC k x hx).lt
      omega))
  exact kk H1 locs1 ls hO hB hS1 hl
theorem l_callML (F : LOk b L xs cs adC adM l X) {y : MethodName} {bytes : ByteArray} {maxL n index : Nat} {rt : Option FieldType} {rm : Room} {as : (Nat → Nat) → List Value} {As st0 : List Value} {ci : Nat} {sl : List (Nat × Nat)} {q : u_T × Nat} (hk0 : TM[0]? = some (.inr (ci, sl))) (hci : vwCl[ci]? = some (y.cls, q)) (Lk : LinkV WS RL index y bytes maxL rt n) {res : Option (Int × St)} (hK9 : CtrL vwCl WS NWs TM l y bytes maxL rt rm as σM res) (has : as adM = .ref (adM 0) :: As) (hst : st0 = As.reverse ++ .ref (adM 0) :: st) (hrm : rm.cells = 0 ∧ rm.slots = 0) (hR : rm.frames + 1 ≤ room_1.frames ∧ 8 + (maxL + 11) + rm.locals ≤ room_1.locals) (hn : As.length = n) (hroom : (st.map fun v => v.category).sum ≤ 8) (d : decode code pc = .ok (.invokevirtual index, 3)) {v : Int} {σM' : St} (hres : res = some (v, σM')) (kk : LAt b cs adC adM X σC σM' lv (jv v :: st) (pc + 3)) : LAt b cs adC adM X σC σM lv st0 pc := by
  obtain ⟨p, l', e, s, m, below, meth, c, D⟩ := X
  obtain ⟨rfl, F⟩ := F
  intro H locs ls hC hM hS hl
  have hM2 := hK9 v σM' hres D cs adM H.size
  rw [has] at hM2
  have hA : ∀ x, AW adM TM.length H.size x → s.heap.size ≤ x := by
    intro x h
    rcases h with ⟨k, hk, rfl⟩ | h
    · exact F.2.2.2.2.2.1 k hk
    · exact Nat.le_trans hS.1 h
  refine va_calll (va_runV F.1 hM2 (cwV n F.1.2.2.2.2 Lk.1 rfl hrm.1 hrm.2 Lk.2 hR) ⟨PU_blind, va_recv F.2.1 hM hci (wd_get hk0), fun U hU hW => ⟨rfl, by rw [hU], by rw [hU]; exact hM, va_K.moved hW.alike F.2.1, F.2.2.2.2.1, F.2.2.2.2.2.2.2.1.warm hS hU hW hA⟩⟩ rfl hn hl.1 hst (lv_room hroom) d ⟨by decide, by decide⟩) hS (fun x _ h => hA x h) hA (fun r u t H1 locs1 ht hvm hw hB hz1 hk1 hS1 => ?_)
  obtain ⟨w1, w2⟩ := hw
  subst w1; subst w2
  unfold BU at hB
  rw [ht] at hB
  have hO : va_P D vwCl (wd cs adC TC σC) H1 := fun k x hx => (hC k x hx).kept (hk1 x.1 (hC k x hx).lt (fun z => by
    obtain ⟨hi, e1⟩ := wd_inv hx
    rcases z with ⟨j, hk, e2⟩ | z
    · exact F.2.2.2.2.2.2.1 k j hi hk (e1.symm.trans e2)
    · have := (hC k x hx).lt
      omega))
  exact kk H1 locs1 ls hO hB hS1 hl
end LROWS

