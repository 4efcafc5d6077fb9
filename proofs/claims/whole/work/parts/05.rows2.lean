section ROWS2
variable {p : Program} {l : Launch} {e : Env} {R : Room} {s : State} {m : MethodId} {args : Array Value} {below : List Frame} {meth : Method} {c : Code} {H : Heap} {locs : List Loc} {Q : State → Prop}
variable {cl : List vw_C} {WS NW : List Cond} {cc : ByteArray} {nL : Nat} {own : String} {ret : Option FieldType} {D : va_G} {cs : Nat → ClassId} {ad : Nat → Nat} {T : List Kd} {A : Nat → Prop} {σ : St}
variable {pc : Nat} {ls : Array Slot} {st : List Value}
theorem r_getI (F : MX cl WS NW p s m args meth c cc nL own ret D cs ad T.length A) (G : GW cl D cs ad T A s.heap H locs σ) {k j ci : Nat} {sl : List (Nat × Nat)} {C : String} {Tt : u_T} {N index : Nat} {x : Nat} (hk : T[k]? = some (.inr (ci, sl))) (hj : sl[j]? = some (0, x)) (hc : cl[ci]? = some (C, Tt, N)) (hjN : j < N) (hin : ∀ w ∈ u_ws C Tt N, w ∈ WS) (hw : Cond.fieldLink own index (Tt j).1 (Tt j).2.1 (Tt j).2.2.1 ∈ WS) (d : decode cc pc = .ok (.getfield index, 3)) (kk : W p l e R s m args below meth c H locs 0 0 Q (F0 m (pc + 3) ls (iv (σ k j) :: st))) : W p l e R s m args below meth c H locs 0 0 Q (F0 m pc ls (.ref (ad k) :: st)) :=
  va_get F.1.1 F.1.2.1 F.1.2.2.2.2 hin F.1.2.2.2.1 F.2.1 G.1 k (wd_get hk) hc j hjN (F.1.2.2.2.2 _ hw) (fun _ h9 => h9) (sl_get hj) d kk
theorem r_getJ (F : MX cl WS NW p s m args meth c cc nL own ret D cs ad T.length A) (G : GW cl D cs ad T A s.heap H locs σ) {k j ci : Nat} {sl : List (Nat × Nat)} {C : String} {Tt : u_T} {N index : Nat} {x : Nat} (hk : T[k]? = some (.inr (ci, sl))) (hj : sl[j]? = some (1, x)) (hc : cl[ci]? = some (C, Tt, N)) (hjN : j < N) (hin : ∀ w ∈ u_ws C Tt N, w ∈ WS) (hw : Cond.fieldLink own index (Tt j).1 (Tt j).2.1 (Tt j).2.2.1 ∈ WS) (d : decode cc pc = .ok (.getfield index, 3)) (kk : W p l e R s m args below meth c H locs 0 0 Q (F0 m (pc + 3) ls (jv (σ k j) :: st))) : W p l e R s m args below meth c H locs 0 0 Q (F0 m pc ls (.ref (ad k) :: st)) :=
  va_get F.1.1 F.1.2.1 F.1.2.2.2.2 hin F.1.2.2.2.1 F.2.1 G.1 k (wd_get hk) hc j hjN (F.1.2.2.2.2 _ hw) (fun _ h9 => h9) (sl_get hj) d kk
theorem r_getR (F : MX cl WS NW p s m args meth c cc nL own ret D cs ad T.length A) (G : GW cl D cs ad T A s.heap H locs σ) {k j ci : Nat} {sl : List (Nat × Nat)} {C : String} {Tt : u_T} {N index : Nat} {x : Nat} (hk : T[k]? = some (.inr (ci, sl))) (hj : sl[j]? = some (2, x)) (hc : cl[ci]? = some (C, Tt, N)) (hjN : j < N) (hin : ∀ w ∈ u_ws C Tt N, w ∈ WS) (hw : Cond.fieldLink own index (Tt j).1 (Tt j).2.1 (Tt j).2.2.1 ∈ WS) (d : decode cc pc = .ok (.getfield index, 3)) (kk : W p l e R s m args below meth c H locs 0 0 Q (F0 m (pc + 3) ls (.ref (ad x) :: st))) : W p l e R s m args below meth c H locs 0 0 Q (F0 m pc ls (.ref (ad k) :: st)) :=
  va_get F.1.1 F.1.2.1 F.1.2.2.2.2 hin F.1.2.2.2.1 F.2.1 G.1 k (wd_get hk) hc j hjN (F.1.2.2.2.2 _ hw) (fun _ h9 => h9) (sl_get hj) d kk
theorem r_getV (F : MX cl WS NW p s m args meth c cc nL own ret D cs ad T.length A) (G : GW cl D cs ad T A s.heap H locs σ) {k j ci : Nat} {sl : List (Nat × Nat)} {C : String} {Tt : u_T} {N index : Nat} {x : Nat} (hk : T[k]? = some (.inr (ci, sl))) (hj : sl[j]? = some (3, x)) (hc : cl[ci]? = some (C, Tt, N)) (hjN : j < N) (hin : ∀ w ∈ u_ws C Tt N, w ∈ WS) (hw : Cond.fieldLink own index (Tt j).1 (Tt j).2.1 (Tt j).2.2.1 ∈ WS) (d : decode cc pc = .ok (.getfield index, 3)) (kk : W p l e R s m args below meth c H locs 0 0 Q (F0 m (pc + 3) ls (.ref (ad (σ k j).toNat) :: st))) : W p l e R s m args below meth c H locs 0 0 Q (F0 m pc ls (.ref (ad k) :: st)) :=
  va_get F.1.1 F.1.2.1 F.1.2.2.2.2 hin F.1.2.2.2.1 F.2.1 G.1 k (wd_get hk) hc j hjN (F.1.2.2.2.2 _ hw) (fun _ h9 => h9) (sl_get hj) d kk
theorem r_putI (F : MX cl WS NW p s m args meth c cc nL own ret D cs ad T.length A) (G : GW cl D cs ad T A s.heap H locs σ) {k j ci : Nat} {sl : List (Nat × Nat)} {C : String} {Tt : u_T} {N index : Nat} {x : Nat} (hk : T[k]? = some (.inr (ci, sl))) (hj : sl[j]? = some (0, x)) (hc : cl[ci]? = some (C, Tt, N)) (hjN : j < N) (hin : ∀ w ∈ u_ws C Tt N, w ∈ WS) (hw : Cond.fieldLink own index (Tt j).1 (Tt j).2.1 (Tt j).2.2.1 ∈ WS) (ty0 : Nat → FieldType) (hty : ∀ k, k < N → parseFieldDescriptor (Tt k).2.2.1 = some (ty0 k)) (hnm : ∀ a, a < N → ∀ b, b < N → a ≠ b → (Tt a).2.1 ≠ (Tt b).2.1) (hfin : (Tt j).2.2.2 = false)  (hd : ty0 j = .int) {v : Int} {β : Type} {kont : St → Option β} {y : β} (hf : jlet (up2 σ k j v) kont = some y) (d : decode cc pc = .ok (.putfield index, 3)) (kk : ∀ σ' H' locs', GW cl D cs ad T A s.heap H' locs' σ' → kont σ' = some y → W p l e R s m args below meth c H' locs' 0 0 Q (F0 m (pc + 3) ls st)) : W p l e R s m args below meth c H locs 0 0 Q (F0 m pc ls (iv v :: .ref (ad k) :: st)) := by
  refine va_put F.1.1 F.1.2.1 F.1.2.2.2.2 hin ty0 hty hnm F.1.2.2.2.1 F.2.1 G.1 (MX_D F) G.2 k (wd_get hk) hc j hjN (F.1.2.2.2.2 _ hw) (fun _ h9 => h9) hfin (ty := .int) (by rw [hty j hjN, hd]) rfl rfl (by rw [List.length_mapIdx]; exact (List.getElem?_eq_some_iff.mp hj).1) d (fun H' locs' hP _ hS => ?_)
  refine kk _ H' locs' ⟨?_, hS⟩ hf
  have e := wd_set (cs := cs) (ad := ad) (σ := σ) (g := up1 (σ k) j v) hk (e := .inr (ci, (sl.mapIdx (fun i t => sv ad t (σ k i))).set j (iv v))) (by show (Sum.inr _ : va_E) = _; rw [sl_set (w := iv v) hj (v := v) rfl])
  rw [e] at hP
  exact hP
theorem r_putJ (F : MX cl WS NW p s m args meth c cc nL own ret D cs ad T.length A) (G : GW cl D cs ad T A s.heap H locs σ) {k j ci : Nat} {sl : List (Nat × Nat)} {C : String} {Tt : u_T} {N index : Nat} {x : Nat} (hk : T[k]? = some (.inr (ci, sl))) (hj : sl[j]? = some (1, x)) (hc : cl[ci]? = some (C, Tt, N)) (hjN : j < N) (hin : ∀ w ∈ u_ws C Tt N, w ∈ WS) (hw : Cond.fieldLink own index (Tt j).1 (Tt j).2.1 (Tt j).2.2.1 ∈ WS) (ty0 : Nat → FieldType) (hty : ∀ k, k < N → parseFieldDescriptor (Tt k).2.2.1 = some (ty0 k)) (hnm : ∀ a, a < N → ∀ b, b < N → a ≠ b → (Tt a).2.1 ≠ (Tt b).2.1) (hfin : (Tt j).2.2.2 = false)  (hd : ty0 j = .long) {v : Int} {β : Type} {kont : St → Option β} {y : β} (hf : jlet (up2 σ k j v) kont = some y) (d : decode cc pc = .ok (.putfield index, 3)) (kk : ∀ σ' H' locs', GW cl D cs ad T A s.heap H' locs' σ' → kont σ' = some y → W p l e R s m args below meth c H' locs' 0 0 Q (F0 m (pc + 3) ls st)) : W p l e R s m args below meth c H locs 0 0 Q (F0 m pc ls (jv v :: .ref (ad k) :: st)) := by
  refine va_put F.1.1 F.1.2.1 F.1.2.2.2.2 hin ty0 hty hnm F.1.2.2.2.1 F.2.1 G.1 (MX_D F) G.2 k (wd_get hk) hc j hjN (F.1.2.2.2.2 _ hw) (fun _ h9 => h9) hfin (ty := .long) (by rw [hty j hjN, hd]) rfl rfl (by rw [List.length_mapIdx]; exact (List.getElem?_eq_some_iff.mp hj).1) d (fun H' locs' hP _ hS => ?_)
  refine kk _ H' locs' ⟨?_, hS⟩ hf
  have e := wd_set (cs := cs) (ad := ad) (σ := σ) (g := up1 (σ k) j v) hk (e := .inr (ci, (sl.mapIdx (fun i t => sv ad t (σ k i))).set j (jv v))) (by show (Sum.inr _ : va_E) = _; rw [sl_set (w := jv v) hj (v := v) rfl])
  rw [e] at hP
  exact hP
theorem r_putZ (F : MX cl WS NW p s m args meth c cc nL own ret D cs ad T.length A) (G : GW cl D cs ad T A s.heap H locs σ) {k j ci : Nat} {sl : List (Nat × Nat)} {C : String} {Tt : u_T} {N index : Nat} {x : Nat} (hk : T[k]? = some (.inr (ci, sl))) (hj : sl[j]? = some (0, x)) (hc : cl[ci]? = some (C, Tt, N)) (hjN : j < N) (hin : ∀ w ∈ u_ws C Tt N, w ∈ WS) (hw : Cond.fieldLink own index (Tt j).1 (Tt j).2.1 (Tt j).2.2.1 ∈ WS) (ty0 : Nat → FieldType) (hty : ∀ k, k < N → parseFieldDescriptor (Tt k).2.2.1 = some (ty0 k)) (hnm : ∀ a, a < N → ∀ b, b < N → a ≠ b → (Tt a).2.1 ≠ (Tt b).2.1) (hfin : (Tt j).2.2.2 = false)  (hd : ty0 j = .boolean) {v : Int} {β : Type} {kont : St → Option β} {y : β} (hf : jchk (v = 0 ∨ v = 1) (jlet (up2 σ k j v) kont) = some y) (d : decode cc pc = .ok (.putfield index, 3)) (kk : ∀ σ' H' locs', GW cl D cs ad T A s.heap H' locs' σ' → kont σ' = some y → W p l e R s m args below meth c H' locs' 0 0 Q (F0 m (pc + 3) ls st)) : W p l e R s m args below meth c H locs 0 0 Q (F0 m pc ls (iv v :: .ref (ad k) :: st)) := by
  obtain ⟨hg, hf⟩ := jchk_elim hf
  refine va_put F.1.1 F.1.2.1 F.1.2.2.2.2 hin ty0 hty hnm F.1.2.2.2.1 F.2.1 G.1 (MX_D F) G.2 k (wd_get hk) hc j hjN (F.1.2.2.2.2 _ hw) (fun _ h9 => h9) hfin (ty := .boolean) (by rw [hty j hjN, hd]) (by rcases hg with rfl | rfl <;> decide) (by rcases hg with rfl | rfl <;> decide) (by rw [List.length_mapIdx]; exact (List.getElem?_eq_some_iff.mp hj).1) d (fun H' locs' hP _ hS => ?_)
  refine kk _ H' locs' ⟨?_, hS⟩ hf
  have e := wd_set (cs := cs) (ad := ad) (σ := σ) (g := up1 (σ k) j v) hk (e := .inr (ci, (sl.mapIdx (fun i t => sv ad t (σ k i))).set j (iv v))) (by show (Sum.inr _ : va_E) = _; rw [sl_set (w := iv v) hj (v := v) rfl])
  rw [e] at hP
  exact hP
theorem r_putV (F : MX cl WS NW p s m args meth c cc nL own ret D cs ad T.length A) (G : GW cl D cs ad T A s.heap H locs σ) {k j ci : Nat} {sl : List (Nat × Nat)} {C : String} {Tt : u_T} {N index : Nat} {x : Nat} (hk : T[k]? = some (.inr (ci, sl))) (hj : sl[j]? = some (3, x)) (hc : cl[ci]? = some (C, Tt, N)) (hjN : j < N) (hin : ∀ w ∈ u_ws C Tt N, w ∈ WS) (hw : Cond.fieldLink own index (Tt j).1 (Tt j).2.1 (Tt j).2.2.1 ∈ WS) (ty0 : Nat → FieldType) (hty : ∀ k, k < N → parseFieldDescriptor (Tt k).2.2.1 = some (ty0 k)) (hnm : ∀ a, a < N → ∀ b, b < N → a ≠ b → (Tt a).2.1 ≠ (Tt b).2.1) (hfin : (Tt j).2.2.2 = false) {OC : String} (hd : ty0 j = .object OC) {v : Nat} {β : Type} {kont : St → Option β} {y : β} (hf : jlet (up2 σ k j (v : Int)) kont = some y) (d : decode cc pc = .ok (.putfield index, 3)) (kk : ∀ σ' H' locs', GW cl D cs ad T A s.heap H' locs' σ' → kont σ' = some y → W p l e R s m args below meth c H' locs' 0 0 Q (F0 m (pc + 3) ls st)) : W p l e R s m args below meth c H locs 0 0 Q (F0 m pc ls (.ref (ad v) :: .ref (ad k) :: st)) := by
  refine va_put F.1.1 F.1.2.1 F.1.2.2.2.2 hin ty0 hty hnm F.1.2.2.2.1 F.2.1 G.1 (MX_D F) G.2 k (wd_get hk) hc j hjN (F.1.2.2.2.2 _ hw) (fun _ h9 => h9) hfin (ty := .object OC) (by rw [hty j hjN, hd]) rfl rfl (by rw [List.length_mapIdx]; exact (List.getElem?_eq_some_iff.mp hj).1) d (fun H' locs' hP _ hS => ?_)
  refine kk _ H' locs' ⟨?_, hS⟩ hf
  have e := wd_set (cs := cs) (ad := ad) (σ := σ) (g := up1 (σ k) j (v : Int)) hk (e := .inr (ci, (sl.mapIdx (fun i t => sv ad t (σ k i))).set j (.ref (ad v)))) (by show (Sum.inr _ : va_E) = _; rw [sl_set (w := .ref (ad v)) hj (v := (v : Int)) (by show Value.ref (ad (Int.toNat v)) = _; rw [Int.toNat_natCast])])
  rw [e] at hP
  exact hP
theorem r_iald (F : MX cl WS NW p s m args meth c cc nL own ret D cs ad T.length A) (G : GW cl D cs ad T A s.heap H locs σ) {k n : Nat} {N i : Int} (hk : T[k]? = some (.inl (0, n))) (hN : (n : Int) = N) (hn : n < 2147483648) {β : Type} {X : Option β} {y : β} (hf : jchk (0 ≤ i ∧ i < N) X = some y) (d : decode cc pc = .ok (.iaload, 1)) (kk : X = some y → W p l e R s m args below meth c H locs 0 0 Q (F0 m (pc + 1) ls (iv (σ k i.toNat) :: st))) : W p l e R s m args below meth c H locs 0 0 Q (F0 m pc ls (iv i :: .ref (ad k) :: st)) := by
  obtain ⟨hg, hf⟩ := jchk_elim hf
  obtain ⟨h1, h2⟩ := oI_in hN hn hg
  refine va_iald F.1.1 F.1.2.1 F.2.1 G.1 k 0 (wd_get hk) rfl h1 d ?_
  rw [h2]
  exact kk hf
theorem r_lald (F : MX cl WS NW p s m args meth c cc nL own ret D cs ad T.length A) (G : GW cl D cs ad T A s.heap H locs σ) {k n : Nat} {N i : Int} (hk : T[k]? = some (.inl (1, n))) (hN : (n : Int) = N) (hn : n < 2147483648) {β : Type} {X : Option β} {y : β} (hf : jchk (0 ≤ i ∧ i < N) X = some y) (d : decode cc pc = .ok (.laload, 1)) (kk : X = some y → W p l e R s m args below meth c H locs 0 0 Q (F0 m (pc + 1) ls (jv (σ k i.toNat) :: st))) : W p l e R s m args below meth c H locs 0 0 Q (F0 m pc ls (iv i :: .ref (ad k) :: st)) := by
  obtain ⟨hg, hf⟩ := jchk_elim hf
  obtain ⟨h1, h2⟩ := oI_in hN hn hg
  refine va_lald F.1.1 F.1.2.1 F.2.1 G.1 k 1 (wd_get hk) rfl h1 d ?_
  rw [h2]
  exact kk hf
theorem r_zald (F : MX cl WS NW p s m args meth c cc nL own ret D cs ad T.length A) (G : GW cl D cs ad T A s.heap H locs σ) {k n : Nat} {N i : Int} (hk : T[k]? = some (.inl (2, n))) (hN : (n : Int) = N) (hn : n < 2147483648) {β : Type} {X : Option β} {y : β} (hf : jchk (0 ≤ i ∧ i < N) X = some y) (d : decode cc pc = .ok (.baload, 1)) (kk : X = some y → W p l e R s m args below meth c H locs 0 0 Q (F0 m (pc + 1) ls (iv (σ k i.toNat) :: st))) : W p l e R s m args below meth c H locs 0 0 Q (F0 m pc ls (iv i :: .ref (ad k) :: st)) := by
  obtain ⟨hg, hf⟩ := jchk_elim hf
  obtain ⟨h1, h2⟩ := oI_in hN hn hg
  refine va_zald F.1.1 F.1.2.1 F.2.1 G.1 k 2 (wd_get hk) rfl h1 d ?_
  rw [h2]
  exact kk hf
theorem r_iast (F : MX cl WS NW p s m args meth c cc nL own ret D cs ad T.length A) (G : GW cl D cs ad T A s.heap H locs σ) {k n : Nat} {N i v : Int} (hk : T[k]? = some (.inl (0, n))) (hN : (n : Int) = N) (hn : n < 2147483648) {β : Type} {kont : St → Option β} {y : β} (hf : jchk (0 ≤ i ∧ i < N) (jlet (up2 σ k i.toNat v) kont) = some y) (d : decode cc pc = .ok (.iastore, 1)) (kk : ∀ σ' H' locs', GW cl D cs ad T A s.heap H' locs' σ' → kont σ' = some y → W p l e R s m args below meth c H' locs' 0 0 Q (F0 m (pc + 1) ls st)) : W p l e R s m args below meth c H locs 0 0 Q (F0 m pc ls (iv v :: iv i :: .ref (ad k) :: st)) := by
  obtain ⟨hg, hf⟩ := jchk_elim hf
  obtain ⟨h1, h2⟩ := oI_in hN hn hg
  refine va_iast F.1.1 F.1.2.1 F.2.1 G.1 (MX_D F) G.2 k 0 (wd_get hk) rfl h1 d (fun H' locs' hP _ hS => ?_)
  refine kk _ H' locs' ⟨?_, hS⟩ hf
  rw [h2] at hP
  have e : (upd (fun j => Int32.ofInt (σ k j)) i.toNat (Int32.ofInt v)) = (fun j => Int32.ofInt (up1 (σ k) i.toNat v j)) := by
    funext q
    by_cases hq : q = i.toNat
    · subst hq
      simp [upd, up1]
    · simp [upd, up1, hq]
  rw [e, wd_set (cs := cs) (ad := ad) (σ := σ) (g := up1 (σ k) i.toNat v) (e := .inl (cs 0, n, .inl (fun j => Int32.ofInt (up1 (σ k) i.toNat v j)))) hk rfl] at hP
  exact hP
theorem r_last (F : MX cl WS NW p s m args meth c cc nL own ret D cs ad T.length A) (G : GW cl D cs ad T A s.heap H locs σ) {k n : Nat} {N i v : Int} (hk : T[k]? = some (.inl (1, n))) (hN : (n : Int) = N) (hn : n < 2147483648) {β : Type} {kont : St → Option β} {y : β} (hf : jchk (0 ≤ i ∧ i < N) (jlet (up2 σ k i.toNat v) kont) = some y) (d : decode cc pc = .ok (.lastore, 1)) (kk : ∀ σ' H' locs', GW cl D cs ad T A s.heap H' locs' σ' → kont σ' = some y → W p l e R s m args below meth c H' locs' 0 0 Q (F0 m (pc + 1) ls st)) : W p l e R s m args below meth c H locs 0 0 Q (F0 m pc ls (jv v :: iv i :: .ref (ad k) :: st)) := by
  obtain ⟨hg, hf⟩ := jchk_elim hf
  obtain ⟨h1, h2⟩ := oI_in hN hn hg
  refine va_last F.1.1 F.1.2.1 F.2.1 G.1 (MX_D F) G.2 k 1 (wd_get hk) rfl h1 d (fun H' locs' hP _ hS => ?_)
  refine kk _ H' locs' ⟨?_, hS⟩ hf
  rw [h2] at hP
  have e : (vp_updL (fun j => Int64.ofInt (σ k j)) i.toNat (Int64.ofInt v)) = (fun j => Int64.ofInt (up1 (σ k) i.toNat v j)) := by
    funext q
    by_cases hq : q = i.toNat
    · subst hq
      simp [vp_updL, up1]
    · simp [vp_updL, up1, hq]
  rw [e, wd_set (cs := cs) (ad := ad) (σ := σ) (g := up1 (σ k) i.toNat v) (e := .inl (cs 1, n, .inr (.inl (fun j => Int64.ofInt (up1 (σ k) i.toNat v j))))) hk rfl] at hP
  exact hP
theorem r_zast (F : MX cl WS NW p s m args meth c cc nL own ret D cs ad T.length A) (G : GW cl D cs ad T A s.heap H locs σ) {k n : Nat} {N i v : Int} (hk : T[k]? = some (.inl (2, n))) (hN : (n : Int) = N) (hn : n < 2147483648) {β : Type} {kont : St → Option β} {y : β} (hf : jchk ((0 ≤ i ∧ i < N) ∧ (v = 0 ∨ v = 1)) (jlet (up2 σ k i.toNat v) kont) = some y) (d : decode cc pc = .ok (.bastore, 1)) (kk : ∀ σ' H' locs', GW cl D cs ad T A s.heap H' locs' σ' → kont σ' = some y → W p l e R s m args below meth c H' locs' 0 0 Q (F0 m (pc + 1) ls st)) : W p l e R s m args below meth c H locs 0 0 Q (F0 m pc ls (iv v :: iv i :: .ref (ad k) :: st)) := by
  obtain ⟨hg, hf⟩ := jchk_elim hf
  obtain ⟨hg, hz⟩ := hg
  obtain ⟨h1, h2⟩ := oI_in hN hn hg
  refine va_zast F.1.1 F.1.2.1 F.2.1 G.1 (MX_D F) G.2 k 2 (wd_get hk) rfl h1 d (fun H' locs' hP _ hS => ?_)
  refine kk _ H' locs' ⟨?_, hS⟩ hf
  rw [h2] at hP
  have e : (upd (fun j => Int32.ofInt (σ k j)) i.toNat (vp_nar .boolean (Int32.ofInt v))) = (fun j => Int32.ofInt (up1 (σ k) i.toNat v j)) := by
    funext q
    by_cases hq : q = i.toNat
    · subst hq
      rcases hz with rfl | rfl
      · simp [upd, up1]; decide
      · simp [upd, up1]; decide
    · simp [upd, up1, hq]
  rw [e, wd_set (cs := cs) (ad := ad) (σ := σ) (g := up1 (σ k) i.toNat v) (e := .inl (cs 2, n, .inl (fun j => Int32.ofInt (up1 (σ k) i.toNat v j)))) hk rfl] at hP
  exact hP
theorem r_alenI (F : MX cl WS NW p s m args meth c cc nL own ret D cs ad T.length A) (G : GW cl D cs ad T A s.heap H locs σ) {k n : Nat} {N : Int} (hk : T[k]? = some (.inl (0, n))) (hN : (n : Int) = N) (d : decode cc pc = .ok (.arraylength, 1)) (kk : W p l e R s m args below meth c H locs 0 0 Q (F0 m (pc + 1) ls (iv N :: st))) : W p l e R s m args below meth c H locs 0 0 Q (F0 m pc ls (.ref (ad k) :: st)) := by
  subst hN
  exact va_alen F.1.1 F.1.2.1 F.2.1 G.1 k 0 (wd_get hk) rfl rfl d kk
theorem r_alenJ (F : MX cl WS NW p s m args meth c cc nL own ret D cs ad T.length A) (G : GW cl D cs ad T A s.heap H locs σ) {k n : Nat} {N : Int} (hk : T[k]? = some (.inl (1, n))) (hN : (n : Int) = N) (d : decode cc pc = .ok (.arraylength, 1)) (kk : W p l e R s m args below meth c H locs 0 0 Q (F0 m (pc + 1) ls (iv N :: st))) : W p l e R s m args below meth c H locs 0 0 Q (F0 m pc ls (.ref (ad k) :: st)) := by
  subst hN
  exact va_alen F.1.1 F.1.2.1 F.2.1 G.1 k 1 (wd_get hk) rfl rfl d kk
theorem r_copyI (F : MX cl WS NW p s m args meth c cc nL own ret D cs ad T.length A) (G : GW cl D cs ad T A s.heap H locs σ) (hl : ls.size = nL) {k0 k1 n0 n1 index : Nat} {N0 N1 n dp sp : Int} (hk0 : T[k0]? = some (.inl (0, n0))) (hk1 : T[k1]? = some (.inl (0, n1))) (hN0 : (n0 : Int) = N0) (hN1 : (n1 : Int) = N1) (hn0 : n0 < 2147483648) (hn1 : n1 < 2147483648) (hw1 : Cond.methodLink own index arraycopyName ∈ WS) (hw2 : Cond.native arraycopyName ∈ WS) (hw3 : Cond.static arraycopyName ∈ WS) (hw4 : Cond.initialized "java/lang/System" ∈ WS) (hfr : 1 ≤ R.frames) (hlo : (st.map fun v => v.category).sum + (nativeFrameWords "java/lang/System" "arraycopy" 5 + 11) ≤ R.locals) {β : Type} {kont : St → Option β} {y : β} (hf : jchk (0 ≤ sp ∧ 0 ≤ dp ∧ 0 ≤ n ∧ sp + n ≤ N0 ∧ dp + n ≤ N1) (jlet (upr σ k1 (va_cpy (σ k0) (σ k1) sp.toNat dp.toNat n.toNat)) kont) = some y) (d : decode cc pc = .ok (.invokestatic index, 3)) (kk : ∀ σ' H' locs', GW cl D cs ad T A s.heap H' locs' σ' → kont σ' = some y → W p l e R s m args below meth c H' locs' 0 0 Q (F0 m (pc + 3) ls st)) : W p l e R s m args below meth c H locs 0 0 Q (F0 m pc ls (iv n :: iv dp :: .ref (ad k1) :: iv sp :: .ref (ad k0) :: st)) := by
  obtain ⟨⟨g1, g2, g3, g4, g5⟩, hf⟩ := jchk_elim hf
  have i1 : inI sp := ⟨by omega, by omega⟩
  have i2 : inI dp := ⟨by omega, by omega⟩
  have i3 : inI n := ⟨by omega, by omega⟩
  have z : inI 0 := ⟨by omega, by omega⟩
  refine va_copyi F.1.1 F.1.2.1 (by rw [F.1.2.2.1, hl]) F.1.2.2.2.1 (F.1.2.2.2.2 _ hw1) (F.1.2.2.2.2 _ hw2) (F.1.2.2.2.2 _ hw3) (F.1.2.2.2.2 _ hw4) F.2.1 G.1 (MX_D F) G.2 k0 k1 0 0 (wd_get hk0) (wd_get hk1) rfl rfl rfl (by rw [← oI_0, oI_lt i1 z]; omega) (by rw [← oI_0, oI_lt i2 z]; omega) (by rw [← oI_0, oI_lt i3 z]; omega) (by rw [oI_nat i1, oI_nat i3]; omega) (by rw [oI_nat i2, oI_nat i3]; omega) (fun _ _ => rfl) hfr hlo d (fun H' locs' hP _ hS => ?_)
  refine kk _ H' locs' ⟨?_, hS⟩ hf
  rw [oI_nat i1, oI_nat i2, oI_nat i3] at hP
  have e : va_cpy (fun j => Int32.ofInt (σ k0 j)) (fun j => Int32.ofInt (σ k1 j)) sp.toNat dp.toNat n.toNat = fun j => Int32.ofInt (va_cpy (σ k0) (σ k1) sp.toNat dp.toNat n.toNat j) := by
    funext q
    unfold va_cpy
    split <;> rfl
  rw [e, wd_set (cs := cs) (ad := ad) (σ := σ) (g := va_cpy (σ k0) (σ k1) sp.toNat dp.toNat n.toNat) (e := .inl (cs 0, n1, .inl (fun j => Int32.ofInt (va_cpy (σ k0) (σ k1) sp.toNat dp.toNat n.toNat j)))) hk1 rfl] at hP
  exact hP
theorem r_mmax (F : MX cl WS NW p s m args meth c cc nL own ret D cs ad T.length A) (hl : ls.size = nL) {index : Nat} {a b : Int} (hw1 : Cond.methodLink own index Lib.Math.max.name ∈ WS) (hw2 : Cond.static Lib.Math.max.name ∈ WS) (hw3 : Cond.initialized "java/lang/Math" ∈ WS) (hw4 : Cond.code Lib.Math.max.name Lib.Math.max.code 2 (some .int) ∈ WS) (hfr : 1 ≤ R.frames) (hlo : (st.map fun v => v.category).sum + 13 ≤ R.locals) {β : Type} {X : Option β} {y : β} (hf : jchk (inI a ∧ inI b) X = some y) (d : decode cc pc = .ok (.invokestatic index, 3)) (kk : X = some y → W p l e R s m args below meth c H locs 0 0 Q (F0 m (pc + 3) ls (iv (if a < b then b else a) :: st))) : W p l e R s m args below meth c H locs 0 0 Q (F0 m pc ls (iv b :: iv a :: st)) := by
  obtain ⟨hg, hf⟩ := jchk_elim hf
  have kk := kk hf
  refine va_mmax F.1.1 F.1.2.1 (by rw [F.1.2.2.1, hl]) F.1.2.2.2.1 (F.1.2.2.2.2 _ hw1) (F.1.2.2.2.2 _ hw2) (F.1.2.2.2.2 _ hw3) (F.1.2.2.2.2 _ hw4) hfr hlo (Nat.zero_le _) (Nat.zero_le _) d ?_
  simp only [oI_lt hg.1 hg.2]
  by_cases q : a < b
  · rw [if_pos q] at kk ⊢; exact kk
  · rw [if_neg q] at kk ⊢; exact kk
theorem r_mmin (F : MX cl WS NW p s m args meth c cc nL own ret D cs ad T.length A) (hl : ls.size = nL) {index : Nat} {a b : Int} (hw1 : Cond.methodLink own index Lib.Math.min.name ∈ WS) (hw2 : Cond.static Lib.Math.min.name ∈ WS) (hw3 : Cond.initialized "java/lang/Math" ∈ WS) (hw4 : Cond.code Lib.Math.min.name Lib.Math.min.code 2 (some .int) ∈ WS) (hfr : 1 ≤ R.frames) (hlo : (st.map fun v => v.category).sum + 13 ≤ R.locals) {β : Type} {X : Option β} {y : β} (hf : jchk (inI a ∧ inI b) X = some y) (d : decode cc pc = .ok (.invokestatic index, 3)) (kk : X = some y → W p l e R s m args below meth c H locs 0 0 Q (F0 m (pc + 3) ls (iv (if b < a then b else a) :: st))) : W p l e R s m args below meth c H locs 0 0 Q (F0 m pc ls (iv b :: iv a :: st)) := by
  obtain ⟨hg, hf⟩ := jchk_elim hf
  have kk := kk hf
  refine va_mmin F.1.1 F.1.2.1 (by rw [F.1.2.2.1, hl]) F.1.2.2.2.1 (F.1.2.2.2.2 _ hw1) (F.1.2.2.2.2 _ hw2) (F.1.2.2.2.2 _ hw3) (F.1.2.2.2.2 _ hw4) hfr hlo (Nat.zero_le _) (Nat.zero_le _) d ?_
  simp only [oI_lt hg.2 hg.1]
  by_cases q : b < a
  · rw [if_pos q] at kk ⊢; exact kk
  · rw [if_neg q] at kk ⊢; exact kk
theorem r_mmax_long (F : MX cl WS NW p s m args meth c cc nL own ret D cs ad T.length A) (hl : ls.size = nL) {index : Nat} {a b : Int} (hw1 : Cond.methodLink own index Lib.MathLoose.max_long.x ∈ WS) (hw2 : Cond.static Lib.MathLoose.max_long.x ∈ WS) (hw3 : Cond.initialized "java/lang/Math" ∈ WS) (hw4 : Cond.code Lib.MathLoose.max_long.x Lib.MathLoose.max_long.code 4 (some .long) ∈ WS) (hfr : 1 ≤ R.frames) (hlo : (st.map fun v => v.category).sum + 15 ≤ R.locals) {β : Type} {X : Option β} {y : β} (hf : jchk (inL a ∧ inL b) X = some y) (d : decode cc pc = .ok (.invokestatic index, 3)) (kk : X = some y → W p l e R s m args below meth c H locs 0 0 Q (F0 m (pc + 3) ls (jv (if b < a then a else b) :: st))) : W p l e R s m args below meth c H locs 0 0 Q (F0 m pc ls (jv b :: jv a :: st)) := by
  obtain ⟨hg, hf⟩ := jchk_elim hf
  have kk := kk hf
  refine va_mmax_long F.1.1 F.1.2.1 (by rw [F.1.2.2.1, hl]) F.1.2.2.2.1 (F.1.2.2.2.2 _ hw1) (F.1.2.2.2.2 _ hw2) (F.1.2.2.2.2 _ hw3) (F.1.2.2.2.2 _ hw4) hfr hlo (Nat.zero_le _) (Nat.zero_le _) d ?_
  simp only [oL_lt hg.2 hg.1]
  by_cases q : b < a
  · rw [if_pos q] at kk ⊢; exact kk
  · rw [if_neg q] at kk ⊢; exact kk
theorem r_mmin_long (F : MX cl WS NW p s m args meth c cc nL own ret D cs ad T.length A) (hl : ls.size = nL) {index : Nat} {a b : Int} (hw1 : Cond.methodLink own index Lib.MathLoose.min_long.x ∈ WS) (hw2 : Cond.static Lib.MathLoose.min_long.x ∈ WS) (hw3 : Cond.initialized "java/lang/Math" ∈ WS) (hw4 : Cond.code Lib.MathLoose.min_long.x Lib.MathLoose.min_long.code 4 (some .long) ∈ WS) (hfr : 1 ≤ R.frames) (hlo : (st.map fun v => v.category).sum + 15 ≤ R.locals) {β : Type} {X : Option β} {y : β} (hf : jchk (inL a ∧ inL b) X = some y) (d : decode cc pc = .ok (.invokestatic index, 3)) (kk : X = some y → W p l e R s m args below meth c H locs 0 0 Q (F0 m (pc + 3) ls (jv (if b < a then b else a) :: st))) : W p l e R s m args below meth c H locs 0 0 Q (F0 m pc ls (jv b :: jv a :: st)) := by
  obtain ⟨hg, hf⟩ := jchk_elim hf
  have kk := kk hf
  refine va_mmin_long F.1.1 F.1.2.1 (by rw [F.1.2.2.1, hl]) F.1.2.2.2.1 (F.1.2.2.2.2 _ hw1) (F.1.2.2.2.2 _ hw2) (F.1.2.2.2.2 _ hw3) (F.1.2.2.2.2 _ hw4) hfr hlo (Nat.zero_le _) (Nat.zero_le _) d ?_
  simp only [oL_lt hg.2 hg.1]
  by_cases q : b < a
  · rw [if_pos q] at kk ⊢; exact kk
  · rw [if_neg q] at kk ⊢; exact kk
theorem r_mabs_long (F : MX cl WS NW p s m args meth c cc nL own ret D cs ad T.length A) (hl : ls.size = nL) {index : Nat} {a : Int} (hw1 : Cond.methodLink own index Lib.MathLoose.abs_long.x ∈ WS) (hw2 : Cond.static Lib.MathLoose.abs_long.x ∈ WS) (hw3 : Cond.initialized "java/lang/Math" ∈ WS) (hw4 : Cond.code Lib.MathLoose.abs_long.x Lib.MathLoose.abs_long.code 2 (some .long) ∈ WS) (hfr : 1 ≤ R.frames) (hlo : (st.map fun v => v.category).sum + 13 ≤ R.locals) {β : Type} {X : Option β} {y : β} (hf : jchk (inL a) X = some y) (d : decode cc pc = .ok (.invokestatic index, 3)) (kk : X = some y → W p l e R s m args below meth c H locs 0 0 Q (F0 m (pc + 3) ls (jv (if 0 < a then a else -a) :: st))) : W p l e R s m args below meth c H locs 0 0 Q (F0 m pc ls (jv a :: st)) := by
  obtain ⟨hg, hf⟩ := jchk_elim hf
  have kk := kk hf
  refine va_mabs_long F.1.1 F.1.2.1 (by rw [F.1.2.2.1, hl]) F.1.2.2.2.1 (F.1.2.2.2.2 _ hw1) (F.1.2.2.2.2 _ hw2) (F.1.2.2.2.2 _ hw3) (F.1.2.2.2.2 _ hw4) hfr hlo (Nat.zero_le _) (Nat.zero_le _) d ?_
  have e := oL_lt (a := 0) ⟨by omega, by omega⟩ hg
  rw [oL_0] at e
  simp only [e]
  by_cases q : 0 < a
  · rw [if_pos q] at kk ⊢; exact kk
  · rw [if_neg q] at kk ⊢; rw [← Int64.ofInt_neg]; exact kk
theorem r_gets (F : MX cl WS NW p s m args meth c cc nL own ret D cs ad T.length A) (G : GW cl D cs ad T A s.heap H locs σ) {C nm ds : String} {t index : Nat} (hZ : va_Z C nm ds (.ref t) A s s.heap) (hw : Cond.fieldLink own index C nm ds ∈ WS) (d : decode cc pc = .ok (.getstatic index, 3)) (kk : W p l e R s m args below meth c H locs 0 0 Q (F0 m (pc + 3) ls (.ref t :: st))) : W p l e R s m args below meth c H locs 0 0 Q (F0 m pc ls st) := va_gets F.1.1 F.1.2.1 hZ G.2 F.1.2.2.2.1 (F.1.2.2.2.2 _ hw) (fun _ h => h) d kk
theorem r_tlen (F : MX cl WS NW p s m args meth c cc nL own ret D cs ad T.length A) (G : GW cl D cs ad T A s.heap H locs σ) {t N : Nat} {f : Nat → Value} (hT : va_T .int t N f A s s.heap) {M : Int} (hN : (N : Int) = M) (d : decode cc pc = .ok (.arraylength, 1)) (kk : W p l e R s m args below meth c H locs 0 0 Q (F0 m (pc + 1) ls (iv M :: st))) : W p l e R s m args below meth c H locs 0 0 Q (F0 m pc ls (.ref t :: st)) := by
  subst hN
  exact va_tlen F.1.1 F.1.2.1 hT G.2 rfl d kk
theorem r_tld (F : MX cl WS NW p s m args meth c cc nL own ret D cs ad T.length A) (G : GW cl D cs ad T A s.heap H locs σ) {t N : Nat} {f : Nat → Int} (hT : va_T .int t N (fun j => iv (f j)) A s s.heap) {M i : Int} (hN : (N : Int) = M) (hn : N < 2147483648) {β : Type} {X : Option β} {y : β} (hf : jchk (0 ≤ i ∧ i < M) X = some y) (d : decode cc pc = .ok (.iaload, 1)) (kk : X = some y → W p l e R s m args below meth c H locs 0 0 Q (F0 m (pc + 1) ls (iv (f i.toNat) :: st))) : W p l e R s m args below meth c H locs 0 0 Q (F0 m pc ls (iv i :: .ref t :: st)) := by
  obtain ⟨hg, hf⟩ := jchk_elim hf
  obtain ⟨h1, h2⟩ := oI_in hN hn hg
  exact va_ti F.1.1 F.1.2.1 hT G.2 h1 (by rw [h2]) d (kk hf)
theorem PU_blind {sz : Nat} {av : List Value} : FrameBlind (va_Pc av (PU cl NW D cs ad T sz σ)) := by
  intro a U g mk q
  obtain ⟨q0, q1, qP, qK, qI, qX⟩ := q
  exact ⟨q0, q1, qP, va_K.moved (u := U) (U := U.calling g mk a) (Vm.Alike.refl U.vm) qK, qI, qX.call g mk a⟩
theorem AW_sub (F : MX cl WS NW p s m args meth c cc nL own ret D cs ad T.length A) (G : GW cl D cs ad T A s.heap H locs σ) : ∀ q, AW ad T.length H.size q → A q := by
  intro q h
  rcases h with ⟨k, hk, rfl⟩ | h
  · exact F.2.2.2.2.1 k hk
  · exact F.2.2.1 q (Nat.le_trans G.2.1 h)
theorem PU_at (F : MX cl WS NW p s m args meth c cc nL own ret D cs ad T.length A) (G : GW cl D cs ad T A s.heap H locs σ) {U : State} (hU : U.heap = H) (hW : s.WarmedH U.vm) : PU cl NW D cs ad T H.size σ U :=
  ⟨by rw [hU], by rw [hU]; exact G.1, va_K.moved hW.alike F.2.1, F.2.2.2.1, F.2.2.2.2.2.2.2.warm G.2 hU hW (AW_sub F G)⟩
theorem g_runV (F : MX cl WS NW p s m args meth c cc nL own ret D cs ad T.length A) (G : GW cl D cs ad T A s.heap H locs σ) {y : MethodName} {bytes : ByteArray} {maxL n index : Nat} {rt : Option FieldType} {rm : Room} {As st0 : List Value} (hl : ls.size = nL) (L : LinkV WS own index y bytes maxL rt n) {k ci : Nat} {sl : List (Nat × Nat)} {q : u_T × Nat} (hk : T[k]? = some (.inr (ci, sl))) (hci : cl[ci]? = some (y.cls, q)) {Qc : Array Value → State → Outcome → State → Prop} (hM : Met l y (Cond.code y bytes maxL rt :: WS) rm (va_Pc (.ref (ad k) :: As) (PU cl NW D cs ad T H.size σ)) Qc 0 0 (AW ad T.length H.size)) (hrm : rm.cells = 0 ∧ rm.slots = 0) (hR : rm.frames + 1 ≤ R.frames ∧ 8 + (maxL + 11) + rm.locals ≤ R.locals) (hn : As.length = n) (hst : st0 = As.reverse ++ .ref (ad k) :: st) (hroom : (st.map fun v => v.category).sum ≤ 8) (d : decode cc pc = .ok (.invokevirtual index, 3)) : va_Run p l e R s m args below meth c H locs 0 0 0 0 (F0 m pc ls st0) st (Qc (Value.ref (ad k) :: As).toArray) (AW ad T.length H.size) :=
  va_runV F.1 hM (cwV n F.1.2.2.2.2 L.1 rfl hrm.1 hrm.2 L.2 hR) ⟨PU_blind, va_recv F.2.1 G.1 hci (wd_get hk), fun U hU hW => ⟨rfl, PU_at F G hU hW⟩⟩ rfl hn hl hst (lv_room hroom) d ⟨Nat.zero_le _, Nat.zero_le _⟩
theorem g_runS (F : MX cl WS NW p s m args meth c cc nL own ret D cs ad T.length A) (G : GW cl D cs ad T A s.heap H locs σ) {y : MethodName} {bytes : ByteArray} {maxL n index : Nat} {rt : Option FieldType} {rm : Room} {As st0 : List Value} (hl : ls.size = nL) (L : LinkS WS own index y bytes maxL rt n) {Qc : Array Value → State → Outcome → State → Prop} (hM : Met l y (Cond.code y bytes maxL rt :: WS) rm (va_Pc As (PU cl NW D cs ad T H.size σ)) Qc 0 0 (AW ad T.length H.size)) (hrm : rm.cells = 0 ∧ rm.slots = 0) (hR : rm.frames + 1 ≤ R.frames ∧ 8 + (maxL + 11) + rm.locals ≤ R.locals) (hn : As.length = n) (hst : st0 = As.reverse ++ st) (hroom : (st.map fun v => v.category).sum ≤ 8) (d : decode cc pc = .ok (.invokestatic index, 3)) : va_Run p l e R s m args below meth c H locs 0 0 0 0 (F0 m pc ls st0) st (Qc As.toArray) (AW ad T.length H.size) :=
  va_runS F.1 hM (va_cwS n F.1.2.2.2.2 L.1 rfl hrm.1 hrm.2 L.2 hR) ⟨PU_blind, fun U hU hW => ⟨rfl, PU_at F G hU hW⟩⟩ rfl hn hl hst (lv_room hroom) d ⟨Nat.zero_le _, Nat.zero_le _⟩
theorem g_runN (F : MX cl WS NW p s m args meth c cc nL own ret D cs ad T.length A) (G : GW cl D cs ad T A s.heap H locs σ) {y : MethodName} {bytes : ByteArray} {maxL n index : Nat} {rt : Option FieldType} {rm : Room} {As st0 : List Value} (hl : ls.size = nL) {host : String} (L : LinkN WS NW own index y host bytes maxL rt n) {Qc : Array Value → State → Outcome → State → Prop} (hM : Met l y (Cond.code y bytes maxL rt :: WS) rm (va_Pc As (PU cl NW D cs ad T H.size σ)) Qc 0 0 (AW ad T.length H.size)) (hrm : rm.cells = 0 ∧ rm.slots = 0) (hR : rm.frames + 1 ≤ R.frames ∧ 8 + (maxL + 11) + rm.locals ≤ R.locals) (hn : As.length = n) (hst : st0 = As.reverse ++ st) (hroom : (st.map fun v => v.category).sum ≤ 8) (d : decode cc pc = .ok (.invokestatic index, 3)) : va_Run p l e R s m args below meth c H locs 0 0 0 0 (F0 m pc ls st0) st (Qc As.toArray) (AW ad T.length H.size) :=
  va_runSN F.1 hM ⟨va_cnB n F.1.2.2.2.2 L.1 rfl hrm.1 hrm.2 (F.2.2.2.2.2.2.2.1 _ _ _ _ L.2.1) (F.1.2.2.2.2 _ L.2.2.1) L.2.2.2.2 hR, F.1.2.2.2.2 _ L.2.2.2.1, trivial⟩ ⟨PU_blind, fun U hU hW => ⟨rfl, PU_at F G hU hW⟩⟩ rfl hn hl hst (lv_room hroom) d ⟨Nat.zero_le _, Nat.zero_le _⟩
theorem r_callVI (F : MX cl WS NW p s m args meth c cc nL own ret D cs ad T.length A) (G : GW cl D cs ad T A s.heap H locs σ) {y : MethodName} {bytes : ByteArray} {maxL n index : Nat} {rt : Option FieldType} {rm : Room} {as : (Nat → Nat) → List Value} {As st0 : List Value} (hl : ls.size = nL) (L : LinkV WS own index y bytes maxL rt n) {k ci : Nat} {sl : List (Nat × Nat)} {q : u_T × Nat} (hk : T[k]? = some (.inr (ci, sl))) (hci : cl[ci]? = some (y.cls, q)) {res : Option (Int × St)} (hC : CtrI cl WS NW T l y bytes maxL rt rm as σ res) (hrm : rm.cells = 0 ∧ rm.slots = 0) (hR : rm.frames + 1 ≤ R.frames ∧ 8 + (maxL + 11) + rm.locals ≤ R.locals) (hn : As.length = n) (has : as ad = .ref (ad k) :: As) (hst : st0 = As.reverse ++ .ref (ad k) :: st) (hroom : (st.map fun v => v.category).sum ≤ 8) (d : decode cc pc = .ok (.invokevirtual index, 3)) {β : Type} {kont : Int × St → Option β} {y0 : β} (hf : jbind res kont = some y0) (kk : ∀ v σ' H' locs', GW cl D cs ad T A s.heap H' locs' σ' → kont (v, σ') = some y0 → W p l e R s m args below meth c H' locs' 0 0 Q (F0 m (pc + 3) ls (iv v :: st))) : W p l e R s m args below meth c H locs 0 0 Q (F0 m pc ls st0) := by
  obtain ⟨⟨v, σ'⟩, e1, e2⟩ := jbind_elim hf
  have hM := hC v σ' e1 D cs ad H.size
  rw [has] at hM
  refine va_calli (g_runV F G hl L hk hci hM hrm hR hn hst hroom d) G.2 (fun q _ h => AW_sub F G q h) (AW_sub F G) (fun r u t H1 locs1 ht hvm hw hB hz1 hk1 hS => ?_)
  obtain ⟨w1, w2⟩ := hw
  subst w1; subst w2
  refine kk v u H1 locs1 ⟨?_, hS⟩ e2
  rw [← ht]; exact hB
theorem r_callVIr (F : MX cl WS NW p s m args meth c cc nL own ret D cs ad T.length A) (G : GW cl D cs ad T A s.heap H locs σ) {y : MethodName} {bytes : ByteArray} {maxL n index : Nat} {rt : Option FieldType} {rm : Room} {as : (Nat → Nat) → List Value} {As st0 : List Value} (hl : ls.size = nL) (L : LinkV WS own index y bytes maxL rt n) {k ci : Nat} {sl : List (Nat × Nat)} {q : u_T × Nat} (hk : T[k]? = some (.inr (ci, sl))) (hci : cl[ci]? = some (y.cls, q)) {res : Option Int} (hC : CtrI cl WS NW T l y bytes maxL rt rm as σ (rd res σ)) (hrm : rm.cells = 0 ∧ rm.slots = 0) (hR : rm.frames + 1 ≤ R.frames ∧ 8 + (maxL + 11) + rm.locals ≤ R.locals) (hn : As.length = n) (has : as ad = .ref (ad k) :: As) (hst : st0 = As.reverse ++ .ref (ad k) :: st) (hroom : (st.map fun v => v.category).sum ≤ 8) (d : decode cc pc = .ok (.invokevirtual index, 3)) {β : Type} {kont : Int → Option β} {y0 : β} (hf : jbind res kont = some y0) (kk : ∀ v H' locs', GW cl D cs ad T A s.heap H' locs' σ → kont v = some y0 → W p l e R s m args below meth c H' locs' 0 0 Q (F0 m (pc + 3) ls (iv v :: st))) : W p l e R s m args below meth c H locs 0 0 Q (F0 m pc ls st0) := by
  obtain ⟨v, e1, e2⟩ := jbind_elim hf
  subst e1
  refine r_callVI F G hl L hk hci hC hrm hR hn has hst hroom d (kont := fun q => jchk True (some (q.1, q.2))) (y0 := (v, σ)) rfl (fun v' σ' H' locs' G' e => ?_)
  obtain ⟨-, e⟩ := jchk_elim e
  cases e
  exact kk _ H' locs' G' e2
theorem r_callVL (F : MX cl WS NW p s m args meth c cc nL own ret D cs ad T.length A) (G : GW cl D cs ad T A s.heap H locs σ) {y : MethodName} {bytes : ByteArray} {maxL n index : Nat} {rt : Option FieldType} {rm : Room} {as : (Nat → Nat) → List Value} {As st0 : List Value} (hl : ls.size = nL) (L : LinkV WS own index y bytes maxL rt n) {k ci : Nat} {sl : List (Nat × Nat)} {q : u_T × Nat} (hk : T[k]? = some (.inr (ci, sl))) (hci : cl[ci]? = some (y.cls, q)) {res : Option (Int × St)} (hC : CtrL cl WS NW T l y bytes maxL rt rm as σ res) (hrm : rm.cells = 0 ∧ rm.slots = 0) (hR : rm.frames + 1 ≤ R.frames ∧ 8 + (maxL + 11) + rm.locals ≤ R.locals) (hn : As.length = n) (has : as ad = .ref (ad k) :: As) (hst : st0 = As.reverse ++ .ref (ad k) :: st) (hroom : (st.map fun v => v.category).sum ≤ 8) (d : decode cc pc = .ok (.invokevirtual index, 3)) {β : Type} {kont : Int × St → Option β} {y0 : β} (hf : jbind res kont = some y0) (kk : ∀ v σ' H' locs', GW cl D cs ad T A s.heap H' locs' σ' → kont (v, σ') = some y0 → W p l e R s m args below meth c H' locs' 0 0 Q (F0 m (pc + 3) ls (jv v :: st))) : W p l e R s m args below meth c H locs 0 0 Q (F0 m pc ls st0) := by
  obtain ⟨⟨v, σ'⟩, e1, e2⟩ := jbind_elim hf
  have hM := hC v σ' e1 D cs ad H.size
  rw [has] at hM
  refine va_calll (g_runV F G hl L hk hci hM hrm hR hn hst hroom d) G.2 (fun q _ h => AW_sub F G q h) (AW_sub F G) (fun r u t H1 locs1 ht hvm hw hB hz1 hk1 hS => ?_)
  obtain ⟨w1, w2⟩ := hw
  subst w1; subst w2
  refine kk v u H1 locs1 ⟨?_, hS⟩ e2
  rw [← ht]; exact hB
theorem r_callVLr (F : MX cl WS NW p s m args meth c cc nL own ret D cs ad T.length A) (G : GW cl D cs ad T A s.heap H locs σ) {y : MethodName} {bytes : ByteArray} {maxL n index : Nat} {rt : Option FieldType} {rm : Room} {as : (Nat → Nat) → List Value} {As st0 : List Value} (hl : ls.size = nL) (L : LinkV WS own index y bytes maxL rt n) {k ci : Nat} {sl : List (Nat × Nat)} {q : u_T × Nat} (hk : T[k]? = some (.inr (ci, sl))) (hci : cl[ci]? = some (y.cls, q)) {res : Option Int} (hC : CtrL cl WS NW T l y bytes maxL rt rm as σ (rd res σ)) (hrm : rm.cells = 0 ∧ rm.slots = 0) (hR : rm.frames + 1 ≤ R.frames ∧ 8 + (maxL + 11) + rm.locals ≤ R.locals) (hn : As.length = n) (has : as ad = .ref (ad k) :: As) (hst : st0 = As.reverse ++ .ref (ad k) :: st) (hroom : (st.map fun v => v.category).sum ≤ 8) (d : decode cc pc = .ok (.invokevirtual index, 3)) {β : Type} {kont : Int → Option β} {y0 : β} (hf : jbind res kont = some y0) (kk : ∀ v H' locs', GW cl D cs ad T A s.heap H' locs' σ → kont v = some y0 → W p l e R s m args below meth c H' locs' 0 0 Q (F0 m (pc + 3) ls (jv v :: st))) : W p l e R s m args below meth c H locs 0 0 Q (F0 m pc ls st0) := by
  obtain ⟨v, e1, e2⟩ := jbind_elim hf
  subst e1
  refine r_callVL F G hl L hk hci hC hrm hR hn has hst hroom d (kont := fun q => jchk True (some (q.1, q.2))) (y0 := (v, σ)) rfl (fun v' σ' H' locs' G' e => ?_)
  obtain ⟨-, e⟩ := jchk_elim e
  cases e
  exact kk _ H' locs' G' e2
theorem r_callVV (F : MX cl WS NW p s m args meth c cc nL own ret D cs ad T.length A) (G : GW cl D cs ad T A s.heap H locs σ) {y : MethodName} {bytes : ByteArray} {maxL n index : Nat} {rt : Option FieldType} {rm : Room} {as : (Nat → Nat) → List Value} {As st0 : List Value} (hl : ls.size = nL) (L : LinkV WS own index y bytes maxL rt n) {k ci : Nat} {sl : List (Nat × Nat)} {q : u_T × Nat} (hk : T[k]? = some (.inr (ci, sl))) (hci : cl[ci]? = some (y.cls, q)) {res : Option St} (hC : CtrV cl WS NW T l y bytes maxL rt rm as σ res) (hrm : rm.cells = 0 ∧ rm.slots = 0) (hR : rm.frames + 1 ≤ R.frames ∧ 8 + (maxL + 11) + rm.locals ≤ R.locals) (hn : As.length = n) (has : as ad = .ref (ad k) :: As) (hst : st0 = As.reverse ++ .ref (ad k) :: st) (hroom : (st.map fun v => v.category).sum ≤ 8) (d : decode cc pc = .ok (.invokevirtual index, 3)) {β : Type} {kont : St → Option β} {y0 : β} (hf : jbind res kont = some y0) (kk : ∀ σ' H' locs', GW cl D cs ad T A s.heap H' locs' σ' → kont σ' = some y0 → W p l e R s m args below meth c H' locs' 0 0 Q (F0 m (pc + 3) ls st)) : W p l e R s m args below meth c H locs 0 0 Q (F0 m pc ls st0) := by
  obtain ⟨σ', e1, e2⟩ := jbind_elim hf
  have hM := hC σ' e1 D cs ad H.size
  rw [has] at hM
  refine va_callv (g_runV F G hl L hk hci hM hrm hR hn hst hroom d) G.2 (fun q _ h => AW_sub F G q h) (AW_sub F G) (fun u t H1 locs1 ht hvm hw hB hz1 hk1 hS => ?_)
  subst hw
  refine kk u H1 locs1 ⟨?_, hS⟩ e2
  rw [← ht]; exact hB
theorem r_callSI (F : MX cl WS NW p s m args meth c cc nL own ret D cs ad T.length A) (G : GW cl D cs ad T A s.heap H locs σ) {y : MethodName} {bytes : ByteArray} {maxL n index : Nat} {rt : Option FieldType} {rm : Room} {as : (Nat → Nat) → List Value} {As st0 : List Value} (hl : ls.size = nL) (L : LinkS WS own index y bytes maxL rt n) {res : Option (Int × St)} (hC : CtrI cl WS NW T l y bytes maxL rt rm as σ res) (hrm : rm.cells = 0 ∧ rm.slots = 0) (hR : rm.frames + 1 ≤ R.frames ∧ 8 + (maxL + 11) + rm.locals ≤ R.locals) (hn : As.length = n) (has : as ad = As) (hst : st0 = As.reverse ++ st) (hroom : (st.map fun v => v.category).sum ≤ 8) (d : decode cc pc = .ok (.invokestatic index, 3)) {β : Type} {kont : Int × St → Option β} {y0 : β} (hf : jbind res kont = some y0) (kk : ∀ v σ' H' locs', GW cl D cs ad T A s.heap H' locs' σ' → kont (v, σ') = some y0 → W p l e R s m args below meth c H' locs' 0 0 Q (F0 m (pc + 3) ls (iv v :: st))) : W p l e R s m args below meth c H locs 0 0 Q (F0 m pc ls st0) := by
  obtain ⟨⟨v, σ'⟩, e1, e2⟩ := jbind_elim hf
  have hM := hC v σ' e1 D cs ad H.size
  rw [has] at hM
  refine va_calli (g_runS F G hl L hM hrm hR hn hst hroom d) G.2 (fun q _ h => AW_sub F G q h) (AW_sub F G) (fun r u t H1 locs1 ht hvm hw hB hz1 hk1 hS => ?_)
  obtain ⟨w1, w2⟩ := hw
  subst w1; subst w2
  refine kk v u H1 locs1 ⟨?_, hS⟩ e2
  rw [← ht]; exact hB
theorem r_callSIr (F : MX cl WS NW p s m args meth c cc nL own ret D cs ad T.length A) (G : GW cl D cs ad T A s.heap H locs σ) {y : MethodName} {bytes : ByteArray} {maxL n index : Nat} {rt : Option FieldType} {rm : Room} {as : (Nat → Nat) → List Value} {As st0 : List Value} (hl : ls.size = nL) (L : LinkS WS own index y bytes maxL rt n) {res : Option Int} (hC : CtrI cl WS NW T l y bytes maxL rt rm as σ (rd res σ)) (hrm : rm.cells = 0 ∧ rm.slots = 0) (hR : rm.frames + 1 ≤ R.frames ∧ 8 + (maxL + 11) + rm.locals ≤ R.locals) (hn : As.length = n) (has : as ad = As) (hst : st0 = As.reverse ++ st) (hroom : (st.map fun v => v.category).sum ≤ 8) (d : decode cc pc = .ok (.invokestatic index, 3)) {β : Type} {kont : Int → Option β} {y0 : β} (hf : jbind res kont = some y0) (kk : ∀ v H' locs', GW cl D cs ad T A s.heap H' locs' σ → kont v = some y0 → W p l e R s m args below meth c H' locs' 0 0 Q (F0 m (pc + 3) ls (iv v :: st))) : W p l e R s m args below meth c H locs 0 0 Q (F0 m pc ls st0) := by
  obtain ⟨v, e1, e2⟩ := jbind_elim hf
  subst e1
  refine r_callSI F G hl L hC hrm hR hn has hst hroom d (kont := fun q => jchk True (some (q.1, q.2))) (y0 := (v, σ)) rfl (fun v' σ' H' locs' G' e => ?_)
  obtain ⟨-, e⟩ := jchk_elim e
  cases e
  exact kk _ H' locs' G' e2
theorem r_callSL (F : MX cl WS NW p s m args meth c cc nL own ret D cs ad T.length A) (G : GW cl D cs ad T A s.heap H locs σ) {y : MethodName} {bytes : ByteArray} {maxL n index : Nat} {rt : Option FieldType} {rm : Room} {as : (Nat → Nat) → List Value} {As st0 : List Value} (hl : ls.size = nL) (L : LinkS WS own index y bytes maxL rt n) {res : Option (Int × St)} (hC : CtrL cl WS NW T l y bytes maxL rt rm as σ res) (hrm : rm.cells = 0 ∧ rm.slots = 0) (hR : rm.frames + 1 ≤ R.frames ∧ 8 + (maxL + 11) + rm.locals ≤ R.locals) (hn : As.length = n) (has : as ad = As) (hst : st0 = As.reverse ++ st) (hroom : (st.map fun v => v.category).sum ≤ 8) (d : decode cc pc = .ok (.invokestatic index, 3)) {β : Type} {kont : Int × St → Option β} {y0 : β} (hf : jbind res kont = some y0) (kk : ∀ v σ' H' locs', GW cl D cs ad T A s.heap H' locs' σ' → kont (v, σ') = some y0 → W p l e R s m args below meth c H' locs' 0 0 Q (F0 m (pc + 3) ls (jv v :: st))) : W p l e R s m args below meth c H locs 0 0 Q (F0 m pc ls st0) := by
  obtain ⟨⟨v, σ'⟩, e1, e2⟩ := jbind_elim hf
  have hM := hC v σ' e1 D cs ad H.size
  rw [has] at hM
  refine va_calll (g_runS F G hl L hM hrm hR hn hst hroom d) G.2 (fun q _ h => AW_sub F G q h) (AW_sub F G) (fun r u t H1 locs1 ht hvm hw hB hz1 hk1 hS => ?_)
  obtain ⟨w1, w2⟩ := hw
  subst w1; subst w2
  refine kk v u H1 locs1 ⟨?_, hS⟩ e2
  rw [← ht]; exact hB
theorem r_callSLr (F : MX cl WS NW p s m args meth c cc nL own ret D cs ad T.length A) (G : GW cl D cs ad T A s.heap H locs σ) {y : MethodName} {bytes : ByteArray} {maxL n index : Nat} {rt : Option FieldType} {rm : Room} {as : (Nat → Nat) → List Value} {As st0 : List Value} (hl : ls.size = nL) (L : LinkS WS own index y bytes maxL rt n) {res : Option Int} (hC : CtrL cl WS NW T l y bytes maxL rt rm as σ (rd res σ)) (hrm : rm.cells = 0 ∧ rm.slots = 0) (hR : rm.frames + 1 ≤ R.frames ∧ 8 + (maxL + 11) + rm.locals ≤ R.locals) (hn : As.length = n) (has : as ad = As) (hst : st0 = As.reverse ++ st) (hroom : (st.map fun v => v.category).sum ≤ 8) (d : decode cc pc = .ok (.invokestatic index, 3)) {β : Type} {kont : Int → Option β} {y0 : β} (hf : jbind res kont = some y0) (kk : ∀ v H' locs', GW cl D cs ad T A s.heap H' locs' σ → kont v = some y0 → W p l e R s m args below meth c H' locs' 0 0 Q (F0 m (pc + 3) ls (jv v :: st))) : W p l e R s m args below meth c H locs 0 0 Q (F0 m pc ls st0) := by
  obtain ⟨v, e1, e2⟩ := jbind_elim hf
  subst e1
  refine r_callSL F G hl L hC hrm hR hn has hst hroom d (kont := fun q => jchk True (some (q.1, q.2))) (y0 := (v, σ)) rfl (fun v' σ' H' locs' G' e => ?_)
  obtain ⟨-, e⟩ := jchk_elim e
  cases e
  exact kk _ H' locs' G' e2
theorem r_callSV (F : MX cl WS NW p s m args meth c cc nL own ret D cs ad T.length A) (G : GW cl D cs ad T A s.heap H locs σ) {y : MethodName} {bytes : ByteArray} {maxL n index : Nat} {rt : Option FieldType} {rm : Room} {as : (Nat → Nat) → List Value} {As st0 : List Value} (hl : ls.size = nL) (L : LinkS WS own index y bytes maxL rt n) {res : Option St} (hC : CtrV cl WS NW T l y bytes maxL rt rm as σ res) (hrm : rm.cells = 0 ∧ rm.slots = 0) (hR : rm.frames + 1 ≤ R.frames ∧ 8 + (maxL + 11) + rm.locals ≤ R.locals) (hn : As.length = n) (has : as ad = As) (hst : st0 = As.reverse ++ st) (hroom : (st.map fun v => v.category).sum ≤ 8) (d : decode cc pc = .ok (.invokestatic index, 3)) {β : Type} {kont : St → Option β} {y0 : β} (hf : jbind res kont = some y0) (kk : ∀ σ' H' locs', GW cl D cs ad T A s.heap H' locs' σ' → kont σ' = some y0 → W p l e R s m args below meth c H' locs' 0 0 Q (F0 m (pc + 3) ls st)) : W p l e R s m args below meth c H locs 0 0 Q (F0 m pc ls st0) := by
  obtain ⟨σ', e1, e2⟩ := jbind_elim hf
  have hM := hC σ' e1 D cs ad H.size
  rw [has] at hM
  refine va_callv (g_runS F G hl L hM hrm hR hn hst hroom d) G.2 (fun q _ h => AW_sub F G q h) (AW_sub F G) (fun u t H1 locs1 ht hvm hw hB hz1 hk1 hS => ?_)
  subst hw
  refine kk u H1 locs1 ⟨?_, hS⟩ e2
  rw [← ht]; exact hB
theorem r_callNI (F : MX cl WS NW p s m args meth c cc nL own ret D cs ad T.length A) (G : GW cl D cs ad T A s.heap H locs σ) {y : MethodName} {bytes : ByteArray} {maxL n index : Nat} {rt : Option FieldType} {rm : Room} {as : (Nat → Nat) → List Value} {As st0 : List Value} (hl : ls.size = nL) {host : String} (L : LinkN WS NW own index y host bytes maxL rt n) {res : Option (Int × St)} (hC : CtrI cl WS NW T l y bytes maxL rt rm as σ res) (hrm : rm.cells = 0 ∧ rm.slots = 0) (hR : rm.frames + 1 ≤ R.frames ∧ 8 + (maxL + 11) + rm.locals ≤ R.locals) (hn : As.length = n) (has : as ad = As) (hst : st0 = As.reverse ++ st) (hroom : (st.map fun v => v.category).sum ≤ 8) (d : decode cc pc = .ok (.invokestatic index, 3)) {β : Type} {kont : Int × St → Option β} {y0 : β} (hf : jbind res kont = some y0) (kk : ∀ v σ' H' locs', GW cl D cs ad T A s.heap H' locs' σ' → kont (v, σ') = some y0 → W p l e R s m args below meth c H' locs' 0 0 Q (F0 m (pc + 3) ls (iv v :: st))) : W p l e R s m args below meth c H locs 0 0 Q (F0 m pc ls st0) := by
  obtain ⟨⟨v, σ'⟩, e1, e2⟩ := jbind_elim hf
  have hM := hC v σ' e1 D cs ad H.size
  rw [has] at hM
  refine va_calli (g_runN F G hl L hM hrm hR hn hst hroom d) G.2 (fun q _ h => AW_sub F G q h) (AW_sub F G) (fun r u t H1 locs1 ht hvm hw hB hz1 hk1 hS => ?_)
  obtain ⟨w1, w2⟩ := hw
  subst w1; subst w2
  refine kk v u H1 locs1 ⟨?_, hS⟩ e2
  rw [← ht]; exact hB
theorem r_callNIr (F : MX cl WS NW p s m args meth c cc nL own ret D cs ad T.length A) (G : GW cl D cs ad T A s.heap H locs σ) {y : MethodName} {bytes : ByteArray} {maxL n index : Nat} {rt : Option FieldType} {rm : Room} {as : (Nat → Nat) → List Value} {As st0 : List Value} (hl : ls.size = nL) {host : String} (L : LinkN WS NW own index y host bytes maxL rt n) {res : Option Int} (hC : CtrI cl WS NW T l y bytes maxL rt rm as σ (rd res σ)) (hrm : rm.cells = 0 ∧ rm.slots = 0) (hR : rm.frames + 1 ≤ R.frames ∧ 8 + (maxL + 11) + rm.locals ≤ R.locals) (hn : As.length = n) (has : as ad = As) (hst : st0 = As.reverse ++ st) (hroom : (st.map fun v => v.category).sum ≤ 8) (d : decode cc pc = .ok (.invokestatic index, 3)) {β : Type} {kont : Int → Option β} {y0 : β} (hf : jbind res kont = some y0) (kk : ∀ v H' locs', GW cl D cs ad T A s.heap H' locs' σ → kont v = some y0 → W p l e R s m args below meth c H' locs' 0 0 Q (F0 m (pc + 3) ls (iv v :: st))) : W p l e R s m args below meth c H locs 0 0 Q (F0 m pc ls st0) := by
  obtain ⟨v, e1, e2⟩ := jbind_elim hf
  subst e1
  refine r_callNI F G hl L hC hrm hR hn has hst hroom d (kont := fun q => jchk True (some (q.1, q.2))) (y0 := (v, σ)) rfl (fun v' σ' H' locs' G' e => ?_)
  obtain ⟨-, e⟩ := jchk_elim e
  cases e
  exact kk _ H' locs' G' e2
theorem r_callNL (F : MX cl WS NW p s m args meth c cc nL own ret D cs ad T.length A) (G : GW cl D cs ad T A s.heap H locs σ) {y : MethodName} {bytes : ByteArray} {maxL n index : Nat} {rt : Option FieldType} {rm : Room} {as : (Nat → Nat) → List Value} {As st0 : List Value} (hl : ls.size = nL) {host : String} (L : LinkN WS NW own index y host bytes maxL rt n) {res : Option (Int × St)} (hC : CtrL cl WS NW T l y bytes maxL rt rm as σ res) (hrm : rm.cells = 0 ∧ rm.slots = 0) (hR : rm.frames + 1 ≤ R.frames ∧ 8 + (maxL + 11) + rm.locals ≤ R.locals) (hn : As.length = n) (has : as ad = As) (hst : st0 = As.reverse ++ st) (hroom : (st.map fun v => v.category).sum ≤ 8) (d : decode cc pc = .ok (.invokestatic index, 3)) {β : Type} {kont : Int × St → Option β} {y0 : β} (hf : jbind res kont = some y0) (kk : ∀ v σ' H' locs', GW cl D cs ad T A s.heap H' locs' σ' → kont (v, σ') = some y0 → W p l e R s m args below meth c H' locs' 0 0 Q (F0 m (pc + 3) ls (jv v :: st))) : W p l e R s m args below meth c H locs 0 0 Q (F0 m pc ls st0) := by
  obtain ⟨⟨v, σ'⟩, e1, e2⟩ := jbind_elim hf
  have hM := hC v σ' e1 D cs ad H.size
  rw [has] at hM
  refine va_calll (g_runN F G hl L hM hrm hR hn hst hroom d) G.2 (fun q _ h => AW_sub F G q h) (AW_sub F G) (fun r u t H1 locs1 ht hvm hw hB hz1 hk1 hS => ?_)
  obtain ⟨w1, w2⟩ := hw
  subst w1; subst w2
  refine kk v u H1 locs1 ⟨?_, hS⟩ e2
  rw [← ht]; exact hB
theorem r_callNLr (F : MX cl WS NW p s m args meth c cc nL own ret D cs ad T.length A) (G : GW cl D cs ad T A s.heap H locs σ) {y : MethodName} {bytes : ByteArray} {maxL n index : Nat} {rt : Option FieldType} {rm : Room} {as : (Nat → Nat) → List Value} {As st0 : List Value} (hl : ls.size = nL) {host : String} (L : LinkN WS NW own index y host bytes maxL rt n) {res : Option Int} (hC : CtrL cl WS NW T l y bytes maxL rt rm as σ (rd res σ)) (hrm : rm.cells = 0 ∧ rm.slots = 0) (hR : rm.frames + 1 ≤ R.frames ∧ 8 + (maxL + 11) + rm.locals ≤ R.locals) (hn : As.length = n) (has : as ad = As) (hst : st0 = As.reverse ++ st) (hroom : (st.map fun v => v.category).sum ≤ 8) (d : decode cc pc = .ok (.invokestatic index, 3)) {β : Type} {kont : Int → Option β} {y0 : β} (hf : jbind res kont = some y0) (kk : ∀ v H' locs', GW cl D cs ad T A s.heap H' locs' σ → kont v = some y0 → W p l e R s m args below meth c H' locs' 0 0 Q (F0 m (pc + 3) ls (jv v :: st))) : W p l e R s m args below meth c H locs 0 0 Q (F0 m pc ls st0) := by
  obtain ⟨v, e1, e2⟩ := jbind_elim hf
  subst e1
  refine r_callNL F G hl L hC hrm hR hn has hst hroom d (kont := fun q => jchk True (some (q.1, q.2))) (y0 := (v, σ)) rfl (fun v' σ' H' locs' G' e => ?_)
  obtain ⟨-, e⟩ := jchk_elim e
  cases e
  exact kk _ H' locs' G' e2
theorem r_callNV (F : MX cl WS NW p s m args meth c cc nL own ret D cs ad T.length A) (G : GW cl D cs ad T A s.heap H locs σ) {y : MethodName} {bytes : ByteArray} {maxL n index : Nat} {rt : Option FieldType} {rm : Room} {as : (Nat → Nat) → List Value} {As st0 : List Value} (hl : ls.size = nL) {host : String} (L : LinkN WS NW own index y host bytes maxL rt n) {res : Option St} (hC : CtrV cl WS NW T l y bytes maxL rt rm as σ res) (hrm : rm.cells = 0 ∧ rm.slots = 0) (hR : rm.frames + 1 ≤ R.frames ∧ 8 + (maxL + 11) + rm.locals ≤ R.locals) (hn : As.length = n) (has : as ad = As) (hst : st0 = As.reverse ++ st) (hroom : (st.map fun v => v.category).sum ≤ 8) (d : decode cc pc = .ok (.invokestatic index, 3)) {β : Type} {kont : St → Option β} {y0 : β} (hf : jbind res kont = some y0) (kk : ∀ σ' H' locs', GW cl D cs ad T A s.heap H' locs' σ' → kont σ' = some y0 → W p l e R s m args below meth c H' locs' 0 0 Q (F0 m (pc + 3) ls st)) : W p l e R s m args below meth c H locs 0 0 Q (F0 m pc ls st0) := by
  obtain ⟨σ', e1, e2⟩ := jbind_elim hf
  have hM := hC σ' e1 D cs ad H.size
  rw [has] at hM
  refine va_callv (g_runN F G hl L hM hrm hR hn hst hroom d) G.2 (fun q _ h => AW_sub F G q h) (AW_sub F G) (fun u t H1 locs1 ht hvm hw hB hz1 hk1 hS => ?_)
  subst hw
  refine kk u H1 locs1 ⟨?_, hS⟩ e2
  rw [← ht]; exact hB
theorem r_callVRr (F : MX cl WS NW p s m args meth c cc nL own ret D cs ad T.length A) (G : GW cl D cs ad T A s.heap H locs σ) {y : MethodName} {bytes : ByteArray} {maxL n index : Nat} {rt : Option FieldType} {rm : Room} {as : (Nat → Nat) → List Value} {As st0 : List Value} (hl : ls.size = nL) (L : LinkV WS own index y bytes maxL rt n) {k ci : Nat} {sl : List (Nat × Nat)} {q : u_T × Nat} (hk : T[k]? = some (.inr (ci, sl))) (hci : cl[ci]? = some (y.cls, q)) {res : Option Nat} (hC : CtrR cl WS NW T l y bytes maxL rt rm as σ (rd res σ)) (hrm : rm.cells = 0 ∧ rm.slots = 0) (hR : rm.frames + 1 ≤ R.frames ∧ 8 + (maxL + 11) + rm.locals ≤ R.locals) (hn : As.length = n) (has : as ad = .ref (ad k) :: As) (hst : st0 = As.reverse ++ .ref (ad k) :: st) (hroom : (st.map fun v => v.category).sum ≤ 8) (d : decode cc pc = .ok (.invokevirtual index, 3)) {β : Type} {kont : Nat → Option β} {y0 : β} (hf : jbind res kont = some y0) (kk : ∀ v H' locs', GW cl D cs ad T A s.heap H' locs' σ → kont v = some y0 → W p l e R s m args below meth c H' locs' 0 0 Q (F0 m (pc + 3) ls (.ref (ad v) :: st))) : W p l e R s m args below meth c H locs 0 0 Q (F0 m pc ls st0) := by
  obtain ⟨v, e1, e2⟩ := jbind_elim hf
  subst e1
  have hM := hC v σ rfl D cs ad H.size
  rw [has] at hM
  refine va_callr (g_runV F G hl L hk hci hM hrm hR hn hst hroom d) G.2 (fun q _ h => AW_sub F G q h) (AW_sub F G) (fun u ra t H1 locs1 ht hvm hw hB hz1 hk1 hS => ?_)
  obtain ⟨w1, hB⟩ := hB
  subst w1; subst hw
  refine kk v H1 locs1 ⟨?_, hS⟩ e2
  rw [← ht]; exact hB
theorem fin_I (F : MX cl WS NW p s m args meth c cc nL own (some .int) D cs ad T.length A) (G : GW cl D cs ad T A s.heap H locs σ) {v : Int} (d : decode cc pc = .ok (.ireturn, 1)) : W p l e R s m args below meth c H locs 0 0 (MQ below (va_Qi (fun r u => r = Int32.ofInt v ∧ u = σ) (BU cl D cs ad T) A) args s 0 0 A) (F0 m pc ls [iv v]) :=
  W.iret F.1.1 F.1.2.1 F.2.2.2.2.2.2.1 (fun t ht hW => ⟨⟨_, σ, rfl, ⟨rfl, rfl⟩, by unfold BU; rw [ht]; exact G.1⟩, G.2.F ht⟩) G.2.2.2 d F.2.2.2.2.2.1
theorem fin_Z (F : MX cl WS NW p s m args meth c cc nL own (some .boolean) D cs ad T.length A) (G : GW cl D cs ad T A s.heap H locs σ) {v : Int} (hv : v = 0 ∨ v = 1) (d : decode cc pc = .ok (.ireturn, 1)) : W p l e R s m args below meth c H locs 0 0 (MQ below (va_Qi (fun r u => r = Int32.ofInt v ∧ u = σ) (BU cl D cs ad T) A) args s 0 0 A) (F0 m pc ls [iv v]) :=
  W.zret F.1.1 F.1.2.1 F.2.2.2.2.2.2.1 (by rcases hv with rfl | rfl <;> decide) (fun t ht hW => ⟨⟨_, σ, rfl, ⟨rfl, rfl⟩, by unfold BU; rw [ht]; exact G.1⟩, G.2.F ht⟩) G.2.2.2 d F.2.2.2.2.2.1
theorem fin_L (F : MX cl WS NW p s m args meth c cc nL own (some .long) D cs ad T.length A) (G : GW cl D cs ad T A s.heap H locs σ) {v : Int} (d : decode cc pc = .ok (.lreturn, 1)) : W p l e R s m args below meth c H locs 0 0 (MQ below (va_Ql (fun r u => r = Int64.ofInt v ∧ u = σ) (BU cl D cs ad T) A) args s 0 0 A) (F0 m pc ls [jv v]) :=
  W.lret F.1.1 F.1.2.1 F.2.2.2.2.2.2.1 (fun t ht hW => ⟨⟨_, σ, rfl, ⟨rfl, rfl⟩, by unfold BU; rw [ht]; exact G.1⟩, G.2.F ht⟩) G.2.2.2 d F.2.2.2.2.2.1
theorem fin_V (F : MX cl WS NW p s m args meth c cc nL own none D cs ad T.length A) (G : GW cl D cs ad T A s.heap H locs σ) (d : decode cc pc = .ok (.return_, 1)) : W p l e R s m args below meth c H locs 0 0 (MQ below (va_Qv (fun u => u = σ) (BU cl D cs ad T) A) args s 0 0 A) (F0 m pc ls []) :=
  W.vret F.1.1 F.1.2.1 F.2.2.2.2.2.2.1 (fun t ht hW => ⟨⟨σ, rfl, rfl, by unfold BU; rw [ht]; exact G.1⟩, G.2.F ht⟩) G.2.2.2 d F.2.2.2.2.2.1
theorem fin_R {OC : String} (F : MX cl WS NW p s m args meth c cc nL own (some (.object OC)) D cs ad T.length A) (G : GW cl D cs ad T A s.heap H locs σ) {v : Nat} (d : decode cc pc = .ok (.areturn, 1)) : W p l e R s m args below meth c H locs 0 0 (MQ below (va_Qr (fun u => u = σ) (fun u a t => a = ad v ∧ BU cl D cs ad T u t) A) args s 0 0 A) (F0 m pc ls [.ref (ad v)]) :=
  W.aret F.1.1 F.1.2.1 F.2.2.2.2.2.2.1 (Or.inl ⟨_, rfl⟩) (Or.inr ⟨_, rfl⟩) (fun t ht hW => ⟨⟨σ, _, rfl, rfl, rfl, by unfold BU; rw [ht]; exact G.1⟩, G.2.F ht⟩) G.2.2.2 d F.2.2.2.2.2.1
theorem met_of {y : MethodName} {maxL sz : Nat} {rm : Room} {av : List Value} {Qc : Nat → Array Value → State → Outcome → State → Prop} (hy : plainName y.cls = true) (hlen : (lg_sl av).length ≤ maxL) (hws : ∀ w ∈ WS, w ∈ Cond.code y cc maxL ret :: WS)
    (body : ∀ (p : Program) (e : Env) (s : State) (m : MethodId) (below : List Frame) (meth : Method) (c : Code) (ls : Array Slot), MX cl WS NW p s m av.toArray meth c cc maxL y.cls ret D cs ad T.length (AW ad T.length s.heap.size) → GW cl D cs ad T (AW ad T.length s.heap.size) s.heap s.heap [] σ → lv_has ls maxL (lv_args 0 av) → W p l e rm s m av.toArray below meth c s.heap [] 0 0 (MQ below (Qc s.heap.size) av.toArray s 0 0 (AW ad T.length s.heap.size)) (F0 m 0 ls [])) :
    Met l y (Cond.code y cc maxL ret :: WS) rm (va_Pc av (PU cl NW D cs ad T sz σ)) (Qc sz) 0 0 (AW ad T.length sz) := by
  refine Met.ofW (cc := cc) (maxL := maxL) (ret := ret) hy rfl ?_
  intro p e s m args below meth c s₁ B hml hv
  obtain ⟨rfl, hsz, hP, hK, hI, hX⟩ := hv
  subst hsz
  have hts := atoms_spec (ws := Cond.code y cc maxL ret :: WS) B.pre
  have hl := lv_entry av (n := maxL) hlen
  rw [lg_entry_eq]
  generalize (lg_sl av ++ List.replicate (maxL - (lg_sl av).length) Slot.unset).toArray = ls at hl ⊢
  exact body p e s m below meth c ls ⟨⟨B.exec, B.bytes, hml, findClass_of_methodNamed B.named, fun w hw => hts w (hws w hw)⟩, hK, fun q h => Or.inr h, hI, fun k hk => Or.inl ⟨k, hk, rfl⟩, B.notSynchronized, B.returns, hX⟩ ⟨hP, va_S.rf⟩ hl
end ROWS2
