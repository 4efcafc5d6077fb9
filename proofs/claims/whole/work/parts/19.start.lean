theorem wd_adI {cs : Nat → ClassId} {ad : Nat → Nat} {T : List Kd} {σ : St} {A : Nat → Prop} (h : va_D A (wd cs ad T σ)) : adI ad T.length ∧ ∀ k, k < T.length → A (ad k) := by
  have g : ∀ k, k < T.length → ∃ e, (wd cs ad T σ)[k]? = some (ad k, e) := fun k hk => ⟨_, wd_get (List.getElem?_eq_getElem hk)⟩
  refine ⟨fun i j hi hj e => ?_, fun k hk => ?_⟩
  · obtain ⟨e1, h1⟩ := g i hi
    obtain ⟨e2, h2⟩ := g j hj
    exact h.1 i j _ _ h1 h2 e
  · obtain ⟨e1, h1⟩ := g k hk
    exact h.2 k _ h1
theorem wd_x {cs : Nat → ClassId} {ad ad2 : Nat → Nat} {T T2 : List Kd} {σ σ2 : St} {A : Nat → Prop} (h : va_D A (wd cs ad T σ ++ wd cs ad2 T2 σ2)) : ∀ i j, i < T.length → j < T2.length → ad i ≠ ad2 j := fun i j hi hj => va_D_x h i j (ad i, _) (ad2 j, _) (wd_get (List.getElem?_eq_getElem hi)) (wd_get (List.getElem?_eq_getElem hj))
theorem start_tab {b : Nat} {s : State} (nm : String) (f : Nat → Int) (A : Nat → Prop) (hA : ∀ a : Nat, a < s.heap.size → ¬ A a) (hl : (Cond.laysStatic "WellMap" nm "[I").before #[Value.ref b] s = true) (hini : (Cond.initialized "WellMap").before #[Value.ref b] s = true) (harr : (Cond.arrayOf (.static "WellMap" nm "[I") .int).before #[Value.ref b] s = true) (hlen : (Cond.eq (.length (.static "WellMap" nm "[I")) (.int 5)).before #[Value.ref b] s = true) (hel : ∀ j : Nat, j < 5 → (Cond.eq (.elem (.static "WellMap" nm "[I") (.int (Int32.ofNat j))) (.int (Int32.ofInt (f j)))).before #[Value.ref b] s = true) : ∃ t : Nat, va_Z "WellMap" nm "[I" (.ref t) A s s.heap ∧ va_T .int t 5 (fun j => iv (f j)) A s s.heap := by
  obtain ⟨t, h1, h2⟩ := va_Tof (tm := .static "WellMap" nm "[I") (ty := .int) (N := 5) (f := fun j => iv (f j)) (A := A) (by decide) harr (va_eqt hlen) (fun j hj => va_eqt (hel j hj)) hA
  exact ⟨t, va_Zref hl hini h1 hA, h2⟩
theorem start_cls {b : Nat} {s : State} (hts : ∀ w ∈ WS, w.before #[Value.ref b] s = true) : ∀ k : Nat, ∃ (c : ClassId) (i : Nat → Nat), ∀ q : vw_C, vwCl[k]? = some q → u_Kn s q.1 q.2.1 q.2.2 c i
  | 0 => by obtain ⟨c, i, h⟩ := u_known (C := RX0) (T := TX0) (N := 7) (n := 7) hts inW0 (hts _ ist_0); exact ⟨c, i, fun q hq => by cases hq; exact h⟩
  | 1 => by obtain ⟨c, i, h⟩ := u_known (C := RX1) (T := TX1) (N := 10) (n := 10) hts inW1 (hts _ ist_1); exact ⟨c, i, fun q hq => by cases hq; exact h⟩
  | 2 => by obtain ⟨c, i, h⟩ := u_known (C := RX2) (T := TX2) (N := 4) (n := 4) hts inW2 (hts _ ist_2); exact ⟨c, i, fun q hq => by cases hq; exact h⟩
  | 3 => by obtain ⟨c, i, h⟩ := u_known (C := RX3) (T := TX3) (N := 5) (n := 5) hts inW3 (hts _ ist_3); exact ⟨c, i, fun q hq => by cases hq; exact h⟩
  | 4 => by obtain ⟨c, i, h⟩ := u_known (C := RX4) (T := TX4) (N := 5) (n := 5) hts inW4 (hts _ ist_4); exact ⟨c, i, fun q hq => by cases hq; exact h⟩
  | 5 => by obtain ⟨c, i, h⟩ := u_known (C := RX5) (T := TX5) (N := 8) (n := 8) hts inW5 (hts _ ist_5); exact ⟨c, i, fun q hq => by cases hq; exact h⟩
  | 6 => by obtain ⟨c, i, h⟩ := u_known (C := RX6) (T := TX6) (N := 11) (n := 11) hts inW6 (hts _ ist_6); exact ⟨c, i, fun q hq => by cases hq; exact h⟩
  | 7 => by obtain ⟨c, i, h⟩ := u_known (C := RX7) (T := TX7) (N := 5) (n := 5) hts inW7 (hts _ ist_7); exact ⟨c, i, fun q hq => by cases hq; exact h⟩
  | 8 => by obtain ⟨c, i, h⟩ := u_known (C := RX8) (T := TX8) (N := 2) (n := 2) hts inW8 (hts _ ist_8); exact ⟨c, i, fun q hq => by cases hq; exact h⟩
  | 9 => by obtain ⟨c, i, h⟩ := u_known (C := RX9) (T := TX9) (N := 11) (n := 11) hts inW9 (hts _ ist_9); exact ⟨c, i, fun q hq => by cases hq; exact h⟩
  | 10 => by obtain ⟨c, i, h⟩ := u_known (C := RX10) (T := TX10) (N := 10) (n := 10) hts inW10 (hts _ ist_10); exact ⟨c, i, fun q hq => by cases hq; exact h⟩
  | 11 => by obtain ⟨c, i, h⟩ := u_known (C := RX11) (T := TX11) (N := 56) (n := 56) hts inW11 (hts _ ist_11); exact ⟨c, i, fun q hq => by cases hq; exact h⟩
  | k + 12 => by
    obtain ⟨c, i, h⟩ := u_known (C := RX11) (T := TX11) (N := 56) (n := 56) hts inW11 (hts _ ist_11)
    exact ⟨c, i, fun q hq => by cases hq⟩
theorem start_arr {b : Nat} {s : State} {ty : FieldType} (hp : ty = .int ∨ ty = .long ∨ ty = .boolean) (h : (Cond.arrayClass ty).before #[Value.ref b] s = true) : ∃ cA : ClassId, ArrOfT s cA ty ∧ va_RA s cA ty := by
  obtain ⟨cA, kA, comp, h1, h2, h3⟩ := Cond.arrayClass_spec h
  refine ⟨cA, fun n z => ⟨fun k h => (by cases h), kA, h2, comp, h3⟩, ?_⟩
  rcases hp with rfl | rfl | rfl <;> exact h1
set_option maxRecDepth 100000 in
set_option maxHeartbeats 4000000 in
theorem start_open {Rel : Nat → St → St → Prop} (hG : Good Rel) (hR0 : Rel 0 sC0 sM0) {p : Program} {e : Env} {s : State} {m : MethodId} {below : List Frame} {meth : Method} {c : Code} (l : Launch) {b L : Nat} {xs : Nat → Int32} (hL : L ≤ 3584) (C0 : lw_At p s m meth c b L xs) : W p l e room_1 s m #[Value.ref b] below meth c s.heap [] 0 0 (lw_Z below #[Value.ref b] s) (entryFrame m ([Value.ref b] : List Value).toArray 4) := by
  obtain ⟨hx, hb, hr, hml, hown, hts, hX, hbl, hlocks, hgv⟩ := C0
  have htW : ∀ w ∈ WS, w.before #[Value.ref b] s = true := fun w hw => hts w (WS_in w hw)
  have hs := flat_of_before _ hgv
  have hA0 : ∀ a : Nat, a < s.heap.size → ¬ (fun q : Nat => s.heap.size ≤ q) a := fun a h => Nat.not_le.mpr h
  obtain ⟨t1, z1, w1⟩ := start_tab "LEAST_NUMBER" lstN (fun q : Nat => s.heap.size ≤ q) hA0 (hts _ ls_LEAST_NUMBER) (htW _ ini_W) (hs _ (by decide +kernel)) (hs _ (by decide +kernel)) (fun j hj => by
    match j, hj with
    | 0, _ => exact hs _ (by decide +kernel)
    | 1, _ => exact hs _ (by decide +kernel)
    | 2, _ => exact hs _ (by decide +kernel)
    | 3, _ => exact hs _ (by decide +kernel)
    | 4, _ => exact hs _ (by decide +kernel)
    | k + 5, h => exact absurd h (by omega))
  obtain ⟨t2, z2, w2⟩ := start_tab "MOST_NUMBER" mstN (fun q : Nat => s.heap.size ≤ q) hA0 (hts _ ls_MOST_NUMBER) (htW _ ini_W) (hs _ (by decide +kernel)) (hs _ (by decide +kernel)) (fun j hj => by
    match j, hj with
    | 0, _ => exact hs _ (by decide +kernel)
    | 1, _ => exact hs _ (by decide +kernel)
    | 2, _ => exact hs _ (by decide +kernel)
    | 3, _ => exact hs _ (by decide +kernel)
    | 4, _ => exact hs _ (by decide +kernel)
    | k + 5, h => exact absurd h (by omega))
  have hXS : XS NWs (fun q : Nat => s.heap.size ≤ q) s := ⟨fun a i x h hm => va_Nw.of rfl (hts _ (nw_in _ hm)), t1, t2, z1, w1, z2, w2⟩
  obtain ⟨dC, hd⟩ := Classical.axiomOfChoice (start_cls htW)
  obtain ⟨dI, hdI⟩ := Classical.axiomOfChoice hd
  obtain ⟨cI, aI⟩ := start_arr (Or.inl rfl) (htW _ ac_int)
  obtain ⟨cJ, aJ⟩ := start_arr (Or.inr (Or.inl rfl)) (htW _ ac_long)
  obtain ⟨cZ, aZ⟩ := start_arr (Or.inr (Or.inr rfl)) (htW _ ac_boolean)
  obtain ⟨cs, e0, e1, e2⟩ : ∃ cs : Nat → ClassId, cs 0 = cI ∧ cs 1 = cJ ∧ cs 2 = cZ := ⟨fun k => if k = 0 then cI else if k = 1 then cJ else cZ, rfl, rfl, rfl⟩
  have hK : va_K (dC, dI) vwCl (tyL cs) s := by
    refine ⟨fun k q hq => hdI k q hq, fun k q hk => ?_⟩
    match k, hk with
    | 0, hk => cases hk; rw [e0]; exact aI
    | 1, hk => cases hk; rw [e1]; exact aJ
    | 2, hk => cases hk; rw [e2]; exact aZ
    | k + 3, hk => cases hk
  have hS : va_S (fun q : Nat => s.heap.size ≤ q) s.heap s.heap [] := va_S.rf
  have hP : va_P (dC, dI) vwCl [] s.heap := fun k q h => by simp at h
  have hD : va_D (fun q : Nat => s.heap.size ≤ q) [] := ⟨fun i j p q h => by simp at h, fun k q h => by simp at h⟩
  have hl := lv_entry ([.ref b]) (n := 4) (Nat.le_of_ble_eq_true rfl)
  rw [lg_entry_eq]
  generalize (lg_sl ([.ref b]) ++ List.replicate (4 - (lg_sl ([.ref b])).length) Slot.unset).toArray = ls at hl ⊢
  have F : OkN vwCl WS NWs code 4 RL cs l (p, l, e, s, m, #[Value.ref b], below, meth, c, lw_Z below #[Value.ref b] s, (dC, dI), fun q : Nat => s.heap.size ≤ q) := ⟨rfl, ⟨hx, hb, hml, hown, htW⟩, hK, fun q h => h, hXS⟩
  have key : AtW vwCl 4 room_1 (p, l, e, s, m, #[Value.ref b], below, meth, c, lw_Z below #[Value.ref b] s, (dC, dI), fun q : Nat => s.heap.size ≤ q) [] 0 0 [(0, .ref b)] [] 0 := by
    refine n_newW F (ci := 10) inW10 tyX10 tyX10_ok lcl_7 ist_10 lii_9 rfl dfX10 (Nat.le_of_ble_eq_true rfl) (Nat.le_of_ble_eq_true rfl) dL_law_0 (fun qC => ?_)
    refine n_dup F dL_law_3 rfl ?_
    refine n_callW F (n := 0) (c_X10_init (l := l) (h0 := qC)) rfl ⟨rfl, rfl⟩ ⟨Nat.le_of_ble_eq_true rfl, Nat.le_of_ble_eq_true rfl⟩ rfl (good_code lic_9) lii_9 lml_9 lim_9 rfl (by decide +kernel) (Nat.le_of_ble_eq_true rfl) (Nat.le_of_ble_eq_true rfl) (Nat.le_of_ble_eq_true rfl) dL_law_4 (fun uC => ?_)
    refine n_ws (ws' := wd cs (adU qC uC) TC sC0) (by rw [List.nil_append, wd_C0]) ?_
    refine n_astore_n F (lv' := [(1, .ref qC), (0, .ref b)]) dL_law_7 rfl (by decide) rfl ?_
    refine n_newW F (ci := 11) inW11 tyX11 tyX11_ok lcl_10 ist_11 lii_12 rfl dfX11 (Nat.le_of_ble_eq_true rfl) (Nat.le_of_ble_eq_true rfl) dL_law_8 (fun qM => ?_)
    refine n_dup F dL_law_11 rfl ?_
    refine n_callW F (n := 0) (c_X11_init (l := l) (h0 := qM)) rfl ⟨rfl, rfl⟩ ⟨Nat.le_of_ble_eq_true rfl, Nat.le_of_ble_eq_true rfl⟩ rfl (good_code lic_12) lii_12 lml_12 lim_12 rfl (by decide +kernel) (Nat.le_of_ble_eq_true rfl) (Nat.le_of_ble_eq_true rfl) (Nat.le_of_ble_eq_true rfl) dL_law_12 (fun uM => ?_)
    refine n_ws (ws' := wd cs (adU qC uC) TC sC0 ++ wd cs (adU qM uM) TM sM0) (by rw [wd_M0]) ?_
    refine n_astore_n F (lv' := [(2, .ref qM), (1, .ref qC), (0, .ref b)]) dL_law_15 rfl (by decide) rfl ?_
    refine n_iconst F dL_law_16 ?_
    refine n_istore_n F (lv' := [(3, iv 0), (2, .ref qM), (1, .ref qC), (0, .ref b)]) dL_law_17 rfl (by decide) rfl ?_
    intro H locs ls hP hD hS hl
    obtain ⟨i1, i2⟩ := wd_adI (va_D_left hD)
    obtain ⟨j1, j2⟩ := wd_adI (va_D_right hD)
    have FL : LOk b L xs cs (adU qC uC) (adU qM uM) l (p, l, e, s, m, below, meth, c, (dC, dI)) := ⟨rfl, ⟨hx, hb, hml, hown, htW⟩, hK, i1, i2, j1, j2, wd_x hD, hXS, hX, hbl, hlocks, hr⟩
    exact law_loop hG FL hL 513 0 sC0 sM0 rfl (Nat.zero_le _) hR0 H locs ls (va_P_left hP) (va_P_right hP) hS (lv_sub hl [3, 2, 1, 0] rfl)
  exact key s.heap [] ls hP hD hS hl
