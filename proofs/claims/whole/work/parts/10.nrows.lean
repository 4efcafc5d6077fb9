/-! ===== constructors: worlds as lists, cells are made ===== -/
abbrev CN : Type := Program × Launch × Env × State × MethodId × Array Value × List Frame × Method × Code × (State → Prop) × va_G × (Nat → Prop)
def AtW (cl : List vw_C) (nL : Nat) (R : Room) (X : CN) (ws : va_W) (cells slots : Nat) (lv : List (Nat × Value)) (st : List Value) (pc : Nat) : Prop := match X with
  | (p, l, e, s, m, args, below, meth, c, Q, D, A) => ∀ (H : Heap) (locs : List Loc) (ls : Array Slot), va_P D cl ws H → va_D A ws → va_S A s.heap H locs → lv_has ls nL lv → W p l e R s m args below meth c H locs cells slots Q (F0 m pc ls st)
def OkN (cl : List vw_C) (WS NW : List Cond) (cc : ByteArray) (nL : Nat) (own : String) (cs : Nat → ClassId) (l : Launch) (X : CN) : Prop := match X with
  | (p, l', _, s, m, args, _, meth, c, _, D, A) => l' = l ∧ CallFix p m c cc nL s args WS own ∧ va_K D cl (tyL cs) s ∧ (∀ q, s.heap.size ≤ q → A q) ∧ XS NW A s
def NmI (X : CN) : Prop := match X with
  | (_, _, _, _, _, _, _, meth, _, _, _, _) => meth.name = "<init>"
def zA (cs : Nat → ClassId) (t n : Nat) : va_E := ce cs (fun _ => 0) (.inl (t, n)) (fun _ => 0)
def PN (cl : List vw_C) (NW : List Cond) (D : va_G) (cs : Nat → ClassId) (sz : Nat) (pre : va_W) (U : State) : Prop := U.heap.size = sz ∧ va_P D cl pre U.heap ∧ va_K D cl (tyL cs) U ∧ va_D (fun _ => True) pre ∧ XS NW (va_A pre sz) U
def CtrN (cl : List vw_C) (WS NW : List Cond) (l : Launch) (y : MethodName) (cc : ByteArray) (maxL : Nat) (rm : Room) (q ci : Nat) (fs0 as : List Value) (post : (Nat → ClassId) → (Nat → Nat) → va_W) (mc ms : Nat) : Prop :=
  ∀ D cs sz, Met l y (Cond.code y cc maxL none :: WS) rm (va_Pc (.ref q :: as) (PN cl NW D cs sz [(q, .inr (ci, fs0))])) (va_Qv (fun _ => True) (fun u t => va_P D cl (post cs u) t.heap ∧ va_D (va_A [(q, .inr (ci, fs0))] sz) (post cs u)) (va_A [(q, .inr (ci, fs0))] sz)) mc ms (va_A [(q, .inr (ci, fs0))] sz)
theorem va_P_right {D : va_G} {cl : List vw_C} {w1 w2 : va_W} {H : Heap} (h : va_P D cl (w1 ++ w2) H) : va_P D cl w2 H := fun k q hk => h (w1.length + k) q (by rw [List.getElem?_append_right (by omega)]; simpa using hk)
theorem va_P_left {D : va_G} {cl : List vw_C} {w1 w2 : va_W} {H : Heap} (h : va_P D cl (w1 ++ w2) H) : va_P D cl w1 H := fun k q hk => h k q (by rw [List.getElem?_append_left (List.getElem?_eq_some_iff.mp hk).1]; exact hk)
theorem va_D_right {A : Nat → Prop} {w1 w2 : va_W} (h : va_D A (w1 ++ w2)) : va_D A w2 := by
  refine ⟨fun i j p q hi hj e => ?_, fun k q hk => h.2 (w1.length + k) q (by rw [List.getElem?_append_right (by omega)]; simpa using hk)⟩
  have := h.1 (w1.length + i) (w1.length + j) p q (by rw [List.getElem?_append_right (by omega)]; simpa using hi) (by rw [List.getElem?_append_right (by omega)]; simpa using hj) e
  omega
theorem va_D_left {A : Nat → Prop} {w1 w2 : va_W} (h : va_D A (w1 ++ w2)) : va_D A w1 := by
  refine ⟨fun i j p q hi hj e => ?_, fun k q hk => h.2 k q (by rw [List.getElem?_append_left (List.getElem?_eq_some_iff.mp hk).1]; exact hk)⟩
  exact h.1 i j p q (by rw [List.getElem?_append_left (List.getElem?_eq_some_iff.mp hi).1]; exact hi) (by rw [List.getElem?_append_left (List.getElem?_eq_some_iff.mp hj).1]; exact hj) e
theorem va_D_x {A : Nat → Prop} {w1 w2 : va_W} (h : va_D A (w1 ++ w2)) : ∀ (i j : Nat) (p q : Nat × va_E), w1[i]? = some p → w2[j]? = some q → p.1 ≠ q.1 := by
  intro i j p q hi hj e
  have hl := (List.getElem?_eq_some_iff.mp hi).1
  have := h.1 i (w1.length + j) p q (by rw [List.getElem?_append_left hl]; exact hi) (by rw [List.getElem?_append_right (by omega)]; simpa using hj) e
  omega
/-- behind a call that had the world's right part -/
theorem join_right {A : Nat → Prop} {D : va_G} {cl : List vw_C} {w pre w1 : va_W} {H H1 : Heap} (hP : va_P D cl (w ++ pre) H) (hD : va_D A (w ++ pre)) (hk : ∀ q : Nat, q < H.size → ¬ va_A pre H.size q → H1[q]? = H[q]?) (hF : ∀ q, va_A pre H.size q → A q) (hP1 : va_P D cl w1 H1) (hD1 : va_D (va_A pre H.size) w1) : va_P D cl (w ++ w1) H1 ∧ va_D A (w ++ w1) := by
  have apart : ∀ (k : Nat) (q : Nat × va_E), w[k]? = some q → q.1 < H.size ∧ ¬ va_A pre H.size q.1 := by
    intro k q hq
    have hl := (va_P_left hP k q hq).lt
    refine ⟨hl, fun h => ?_⟩
    rcases h with ⟨k2, e, h⟩ | h
    · exact va_D_x hD k k2 q (q.1, e) hq h rfl
    · omega
  refine ⟨va_P.app (fun k q hq => ?_) hP1, va_D.app (va_D_left hD) (hD1.weaken (fun k q _ h => hF q.1 h)) (fun i j x y hx hy hxy => ?_)⟩
  · obtain ⟨g1, g2⟩ := apart k q hq
    exact (va_P_left hP k q hq).kept (hk q.1 g1 g2)
  · exact (apart i x hx).2 (by rw [hxy]; exact hD1.2 j y hy)
section NROWS
variable {cl : List vw_C} {WS NW : List Cond} {cc : ByteArray} {nL : Nat} {own : String} {cs : Nat → ClassId} {R : Room} {l : Launch} {X : CN} {ws : va_W} {cells slots : Nat} {lv : List (Nat × Value)} {st : List Value} {pc : Nat}
theorem n_ws {ws' : va_W} (h : ws = ws') (k : AtW cl nL R X ws' cells slots lv st pc) : AtW cl nL R X ws cells slots lv st pc := h ▸ k
theorem n_aload_n (F : OkN cl WS NW cc nL own cs l X) {n : Fin 4} {i x : Nat} (d : decode cc pc = .ok (.aload_n n, 1)) (hi : (n : Nat) = i) (j : Nat) (hj : lv[j]? = some (i, .ref x)) (k : AtW cl nL R X ws cells slots lv (.ref x :: st) (pc + 1)) : AtW cl nL R X ws cells slots lv st pc := by
  obtain ⟨p, l', e, s, m, args, below, meth, c, Q, D, A⟩ := X
  obtain ⟨rfl, F⟩ := F
  intro H locs ls hP hD hS hl
  exact lv_aload_n F.1.1 F.1.2.1 d hi (lv_at hl j hj) (k H locs ls hP hD hS hl)
theorem n_iload_n (F : OkN cl WS NW cc nL own cs l X) {n : Fin 4} {i : Nat} {x : Int} (d : decode cc pc = .ok (.iload_n n, 1)) (hi : (n : Nat) = i) (j : Nat) (hj : lv[j]? = some (i, iv x)) (k : AtW cl nL R X ws cells slots lv (iv x :: st) (pc + 1)) : AtW cl nL R X ws cells slots lv st pc := by
  obtain ⟨p, l', e, s, m, args, below, meth, c, Q, D, A⟩ := X
  obtain ⟨rfl, F⟩ := F
  intro H locs ls hP hD hS hl
  exact lv_iload_n F.1.1 F.1.2.1 d hi (lv_at hl j hj) (k H locs ls hP hD hS hl)
theorem n_iconst (F : OkN cl WS NW cc nL own cs l X) {n : Int} (d : decode cc pc = .ok (.iconst n, 1)) (k : AtW cl nL R X ws cells slots lv (iv n :: st) (pc + 1)) : AtW cl nL R X ws cells slots lv st pc := by
  obtain ⟨p, l', e, s, m, args, below, meth, c, Q, D, A⟩ := X
  obtain ⟨rfl, F⟩ := F
  intro H locs ls hP hD hS hl
  exact lv_iconst F.1.1 F.1.2.1 d rfl (k H locs ls hP hD hS hl)
theorem n_bipush (F : OkN cl WS NW cc nL own cs l X) {n : Int} (d : decode cc pc = .ok (.bipush n, 2)) (hv : (Int8.ofInt n).toInt32 = Int32.ofInt n) (k : AtW cl nL R X ws cells slots lv (iv n :: st) (pc + 2)) : AtW cl nL R X ws cells slots lv st pc := by
  obtain ⟨p, l', e, s, m, args, below, meth, c, Q, D, A⟩ := X
  obtain ⟨rfl, F⟩ := F
  intro H locs ls hP hD hS hl
  exact lv_bipush F.1.1 F.1.2.1 d hv (k H locs ls hP hD hS hl)
theorem n_sipush (F : OkN cl WS NW cc nL own cs l X) {n : Int} (d : decode cc pc = .ok (.sipush n, 3)) (hv : (Int16.ofInt n).toInt32 = Int32.ofInt n) (k : AtW cl nL R X ws cells slots lv (iv n :: st) (pc + 3)) : AtW cl nL R X ws cells slots lv st pc := by
  obtain ⟨p, l', e, s, m, args, below, meth, c, Q, D, A⟩ := X
  obtain ⟨rfl, F⟩ := F
  intro H locs ls hP hD hS hl
  exact lv_sipush F.1.1 F.1.2.1 d hv (k H locs ls hP hD hS hl)
theorem n_dup (F : OkN cl WS NW cc nL own cs l X) {v : Value} (d : decode cc pc = .ok (.dup, 1)) (hv : v.category = 1) (k : AtW cl nL R X ws cells slots lv (v :: v :: st) (pc + 1)) : AtW cl nL R X ws cells slots lv (v :: st) pc := by
  obtain ⟨p, l', e, s, m, args, below, meth, c, Q, D, A⟩ := X
  obtain ⟨rfl, F⟩ := F
  intro H locs ls hP hD hS hl
  exact lv_dup F.1.1 F.1.2.1 d hv (k H locs ls hP hD hS hl)
theorem n_astore_n (F : OkN cl WS NW cc nL own cs l X) {n : Fin 4} {i x : Nat} {lv' : List (Nat × Value)} (d : decode cc pc = .ok (.astore_n n, 1)) (hi : (n : Nat) = i) (hn : i < nL) (hs : (i, Value.ref x) :: lv.filter (fun q => !(q.1 == i) && !(q.1 + 1 == i && q.2.category == 2)) = lv') (k : AtW cl nL R X ws cells slots lv' st (pc + 1)) : AtW cl nL R X ws cells slots lv (.ref x :: st) pc := by
  obtain ⟨p, l', e, s, m, args, below, meth, c, Q, D, A⟩ := X
  obtain ⟨rfl, F⟩ := F
  intro H locs ls hP hD hS hl
  exact lv_astore_n F.1.1 F.1.2.1 d hi hl hn hs (fun ls hl => k H locs ls hP hD hS hl)
theorem n_istore_n (F : OkN cl WS NW cc nL own cs l X) {n : Fin 4} {i : Nat} {x : Int} {lv' : List (Nat × Value)} (d : decode cc pc = .ok (.istore_n n, 1)) (hi : (n : Nat) = i) (hn : i < nL) (hs : (i, Value.int (Int32.ofInt x)) :: lv.filter (fun q => !(q.1 == i) && !(q.1 + 1 == i && q.2.category == 2)) = lv') (k : AtW cl nL R X ws cells slots lv' st (pc + 1)) : AtW cl nL R X ws cells slots lv (iv x :: st) pc := by
  obtain ⟨p, l', e, s, m, args, below, meth, c, Q, D, A⟩ := X
  obtain ⟨rfl, F⟩ := F
  intro H locs ls hP hD hS hl
  exact lv_istore_n F.1.1 F.1.2.1 d hi hl hn hs (fun ls hl => k H locs ls hP hD hS hl)
theorem n_objInit (F : OkN cl WS NW cc nL own cs l X) {idx a : Nat} (h1 : Cond.methodLink own idx Lib.objectInit ∈ WS) (h2 : Cond.instanceMethod Lib.objectInit ∈ WS) (h3 : Cond.code Lib.objectInit ⟨#[0xb1]⟩ 1 none ∈ WS) (d : decode cc pc = .ok (.invokespecial idx, 3)) (hfr : 1 ≤ R.frames) (hlo : (st.map fun v => v.category).sum + 12 ≤ R.locals) (k : AtW cl nL R X ws cells slots lv st (pc + 3)) : AtW cl nL R X ws cells slots lv (.ref a :: st) pc := by
  obtain ⟨p, l', e, s, m, args, below, meth, c, Q, D, A⟩ := X
  obtain ⟨rfl, F⟩ := F
  intro H locs ls hP hD hS hl
  refine W.objInit F.1.1 F.1.2.1 F.1.2.2.2.1 (F.1.2.2.2.2 _ h1) (F.1.2.2.2.2 _ h2) (F.1.2.2.2.2 _ h3) rfl (by rw [F.1.2.2.1]; exact hl.1) rfl d hfr (by show 2 * 0 + _ + 12 ≤ _; omega) ?_
  exact k H locs ls hP hD hS hl
theorem n_newaI {a0 : Nat × va_E} {rs : va_W} (F : OkN cl WS NW cc nL own cs l X) {n : Int} {N : Nat} (hN : n = (N : Int)) (hn : N ≤ 100000) (hw : Cond.arrayClass .int ∈ WS) (hc : cells + 1 ≤ R.cells) (hs : slots + N ≤ R.slots) (d : decode cc pc = .ok (.newarray .int, 2)) (k : ∀ q, AtW cl nL R X (a0 :: (rs ++ [(q, zA cs 0 N)])) (cells + 1) (slots + N) lv (.ref q :: st) (pc + 2)) : AtW cl nL R X (a0 :: rs) cells slots lv (iv n :: st) pc := by
  obtain ⟨p, l', e, s, m, args, below, meth, c, Q, D, A⟩ := X
  obtain ⟨rfl, F⟩ := F
  intro H locs ls hP hD hS hl
  subst hN
  have hi : inI (N : Int) := ⟨by omega, by omega⟩
  refine va_newa F.1.1 F.1.2.1 (atype := .int) (ty := .int) (F.1.2.2.2.2 _ hw) rfl F.2.1 hP hD hS F.2.2.1 (a0 := (N, .inl (fun _ => Int32.ofInt 0))) (N' := N) (fun cA => by rw [vp_cell_i, oI_0]; rfl) (by rw [← oI_0, oI_lt hi ⟨by omega, by omega⟩]; omega) (by rw [oI_nat hi]; omega) (by show N * 4 ≤ _; omega) hc hs d (fun q cA H1 hK1 hP1 hD1 hS1 => ?_)
  have e1 : cA = cs 0 := by
    have a1 := (hK1.2 3 (cA, .int) rfl).2
    have a2 := (F.2.1.2 0 (cs 0, .int) rfl).2
    exact Option.some.inj (a1.symm.trans a2)
  subst e1
  exact k q H1 locs ls hP1 hD1 hS1 hl
theorem n_newaJ {a0 : Nat × va_E} {rs : va_W} (F : OkN cl WS NW cc nL own cs l X) {n : Int} {N : Nat} (hN : n = (N : Int)) (hn : N ≤ 100000) (hw : Cond.arrayClass .long ∈ WS) (hc : cells + 1 ≤ R.cells) (hs : slots + N ≤ R.slots) (d : decode cc pc = .ok (.newarray .long, 2)) (k : ∀ q, AtW cl nL R X (a0 :: (rs ++ [(q, zA cs 1 N)])) (cells + 1) (slots + N) lv (.ref q :: st) (pc + 2)) : AtW cl nL R X (a0 :: rs) cells slots lv (iv n :: st) pc := by
  obtain ⟨p, l', e, s, m, args, below, meth, c, Q, D, A⟩ := X
  obtain ⟨rfl, F⟩ := F
  intro H locs ls hP hD hS hl
  subst hN
  have hi : inI (N : Int) := ⟨by omega, by omega⟩
  refine va_newa F.1.1 F.1.2.1 (atype := .long) (ty := .long) (F.1.2.2.2.2 _ hw) rfl F.2.1 hP hD hS F.2.2.1 (a0 := (N, .inr (.inl (fun _ => Int64.ofInt 0)))) (N' := N) (fun cA => by rw [vp_cell_l, oL_0]; rfl) (by rw [← oI_0, oI_lt hi ⟨by omega, by omega⟩]; omega) (by rw [oI_nat hi]; omega) (by show N * 8 ≤ _; omega) hc hs d (fun q cA H1 hK1 hP1 hD1 hS1 => ?_)
  have e1 : cA = cs 1 := by
    have a1 := (hK1.2 3 (cA, .long) rfl).2
    have a2 := (F.2.1.2 1 (cs 1, .long) rfl).2
    exact Option.some.inj (a1.symm.trans a2)
  subst e1
  exact k q H1 locs ls hP1 hD1 hS1 hl
theorem n_newaZ {a0 : Nat × va_E} {rs : va_W} (F : OkN cl WS NW cc nL own cs l X) {n : Int} {N : Nat} (hN : n = (N : Int)) (hn : N ≤ 100000) (hw : Cond.arrayClass .boolean ∈ WS) (hc : cells + 1 ≤ R.cells) (hs : slots + N ≤ R.slots) (d : decode cc pc = .ok (.newarray .boolean, 2)) (k : ∀ q, AtW cl nL R X (a0 :: (rs ++ [(q, zA cs 2 N)])) (cells + 1) (slots + N) lv (.ref q :: st) (pc + 2)) : AtW cl nL R X (a0 :: rs) cells slots lv (iv n :: st) pc := by
  obtain ⟨p, l', e, s, m, args, below, meth, c, Q, D, A⟩ := X
  obtain ⟨rfl, F⟩ := F
  intro H locs ls hP hD hS hl
  subst hN
  have hi : inI (N : Int) := ⟨by omega, by omega⟩
  refine va_newa F.1.1 F.1.2.1 (atype := .boolean) (ty := .boolean) (F.1.2.2.2.2 _ hw) rfl F.2.1 hP hD hS F.2.2.1 (a0 := (N, .inl (fun _ => Int32.ofInt 0))) (N' := N) (fun cA => by rw [vp_cell_i, oI_0]; rfl) (by rw [← oI_0, oI_lt hi ⟨by omega, by omega⟩]; omega) (by rw [oI_nat hi]; omega) (by show N * 1 ≤ _; omega) hc hs d (fun q cA H1 hK1 hP1 hD1 hS1 => ?_)
  have e1 : cA = cs 2 := by
    have a1 := (hK1.2 3 (cA, .boolean) rfl).2
    have a2 := (F.2.1.2 2 (cs 2, .boolean) rfl).2
    exact Option.some.inj (a1.symm.trans a2)
  subst e1
  exact k q H1 locs ls hP1 hD1 hS1 hl
theorem n_new {a0 : Nat × va_E} {rs : va_W} (F : OkN cl WS NW cc nL own cs l X) {C : String} {T : u_T} {N ci index : Nat} (hin : ∀ w ∈ u_ws C T N, w ∈ WS) (ty : Nat → FieldType) (hty : ∀ k, k < N → parseFieldDescriptor (T k).2.2.1 = some (ty k)) (h1 : Cond.classLink own index C ∈ WS) (h2 : Cond.instantiable C N ∈ WS) (h3 : Cond.initialized C ∈ WS) (hci : cl[ci]? = some (C, T, N)) {fs : List Value} (hfs : ∀ j, j < N → defaultValue (ty j) = vp_V fs j) (hc : cells + 1 ≤ R.cells) (hs : slots + N ≤ R.slots) (d : decode cc pc = .ok (.new index, 3)) (k : ∀ q, AtW cl nL R X (a0 :: (rs ++ [(q, .inr (ci, fs))])) (cells + 1) (slots + N) lv (.ref q :: st) (pc + 3)) : AtW cl nL R X (a0 :: rs) cells slots lv st pc := by
  obtain ⟨p, l', e, s, m, args, below, meth, c, Q, D, A⟩ := X
  obtain ⟨rfl, F⟩ := F
  intro H locs ls hP hD hS hl
  exact va_new F.1.1 F.1.2.1 F.1.2.2.2.2 hin ty hty F.1.2.2.2.1 (F.1.2.2.2.2 _ h1) (F.1.2.2.2.2 _ h2) (F.1.2.2.2.2 _ h3) F.2.1 hP hD hS F.2.2.1 hci hfs hc hs d (fun q H1 hP1 hD1 hS1 => k q H1 locs ls hP1 hD1 hS1 hl)
theorem n_newW (F : OkN cl WS NW cc nL own cs l X) {C : String} {T : u_T} {N ci index : Nat} (hin : ∀ w ∈ u_ws C T N, w ∈ WS) (ty : Nat → FieldType) (hty : ∀ k, k < N → parseFieldDescriptor (T k).2.2.1 = some (ty k)) (h1 : Cond.classLink own index C ∈ WS) (h2 : Cond.instantiable C N ∈ WS) (h3 : Cond.initialized C ∈ WS) (hci : cl[ci]? = some (C, T, N)) {fs : List Value} (hfs : ∀ j, j < N → defaultValue (ty j) = vp_V fs j) (hc : cells + 1 ≤ R.cells) (hs : slots + N ≤ R.slots) (d : decode cc pc = .ok (.new index, 3)) (k : ∀ q, AtW cl nL R X (ws ++ [(q, .inr (ci, fs))]) (cells + 1) (slots + N) lv (.ref q :: st) (pc + 3)) : AtW cl nL R X ws cells slots lv st pc := by
  obtain ⟨p, l', e, s, m, args, below, meth, c, Q, D, A⟩ := X
  obtain ⟨rfl, F⟩ := F
  intro H locs ls hP hD hS hl
  exact va_new F.1.1 F.1.2.1 F.1.2.2.2.2 hin ty hty F.1.2.2.2.1 (F.1.2.2.2.2 _ h1) (F.1.2.2.2.2 _ h2) (F.1.2.2.2.2 _ h3) F.2.1 hP hD hS F.2.2.1 hci hfs hc hs d (fun q H1 hP1 hD1 hS1 => k q H1 locs ls hP1 hD1 hS1 hl)
theorem n_putF (F : OkN cl WS NW cc nL own cs l X) (I : NmI X) {C : String} {T : u_T} {N ci index h0 : Nat} {fs fs' : List Value} {rs : va_W} {v : Value} (k : Nat) (hin : ∀ w ∈ u_ws C T N, w ∈ WS) (ty0 : Nat → FieldType) (hty : ∀ k, k < N → parseFieldDescriptor (T k).2.2.1 = some (ty0 k)) (hnm : ∀ a, a < N → ∀ b, b < N → a ≠ b → (T a).2.1 ≠ (T b).2.1) (hc : cl[ci]? = some (C, T, N)) (hk : k < N) (hw : Cond.fieldLink own index (T k).1 (T k).2.1 (T k).2.2.1 ∈ WS) (hfin : (T k).2.2.2 = true) (hdecl : (T k).1 = own) (hn : narrow (ty0 k) v = v) (hfit : fits (ty0 k) v = true) (hlen : k < fs.length) (hfs : fs.set k v = fs') (d : decode cc pc = .ok (.putfield index, 3)) (kk : AtW cl nL R X ((h0, .inr (ci, fs')) :: rs) cells slots lv st (pc + 3)) : AtW cl nL R X ((h0, .inr (ci, fs)) :: rs) cells slots lv (v :: .ref h0 :: st) pc := by
  obtain ⟨p, l', e, s, m, args, below, meth, c, Q, D, A⟩ := X
  obtain ⟨rfl, F⟩ := F
  intro H locs ls hP hD hS hl
  subst hfs
  exact va_putF F.1.1 F.1.2.1 F.1.2.2.2.2 hin ty0 hty hnm F.1.2.2.2.1 F.2.1 hP hD hS 0 rfl hc k hk (F.1.2.2.2.2 _ hw) (fun _ h9 => h9) hfin I hdecl (hty k hk) hn hfit hlen d (fun H1 locs1 hP1 hD1 hS1 => kk H1 locs1 ls hP1 hD1 hS1 hl)
theorem n_put (F : OkN cl WS NW cc nL own cs l X) {C : String} {T : u_T} {N ci index h0 : Nat} {fs fs' : List Value} {rs : va_W} {v : Value} (k : Nat) (hin : ∀ w ∈ u_ws C T N, w ∈ WS) (ty0 : Nat → FieldType) (hty : ∀ k, k < N → parseFieldDescriptor (T k).2.2.1 = some (ty0 k)) (hnm : ∀ a, a < N → ∀ b, b < N → a ≠ b → (T a).2.1 ≠ (T b).2.1) (hc : cl[ci]? = some (C, T, N)) (hk : k < N) (hw : Cond.fieldLink own index (T k).1 (T k).2.1 (T k).2.2.1 ∈ WS) (hfin : (T k).2.2.2 = false) (hn : narrow (ty0 k) v = v) (hfit : fits (ty0 k) v = true) (hlen : k < fs.length) (hfs : fs.set k v = fs') (d : decode cc pc = .ok (.putfield index, 3)) (kk : AtW cl nL R X ((h0, .inr (ci, fs')) :: rs) cells slots lv st (pc + 3)) : AtW cl nL R X ((h0, .inr (ci, fs)) :: rs) cells slots lv (v :: .ref h0 :: st) pc := by
  obtain ⟨p, l', e, s, m, args, below, meth, c, Q, D, A⟩ := X
  obtain ⟨rfl, F⟩ := F
  intro H locs ls hP hD hS hl
  subst hfs
  exact va_put F.1.1 F.1.2.1 F.1.2.2.2.2 hin ty0 hty hnm F.1.2.2.2.1 F.2.1 hP hD hS 0 rfl hc k hk (F.1.2.2.2.2 _ hw) (fun _ h9 => h9) hfin (hty k hk) hn hfit hlen d (fun H1 locs1 hP1 hD1 hS1 => kk H1 locs1 ls hP1 hD1 hS1 hl)
/-- a store into the int array that was made last -/
theorem n_iast (F : OkN cl WS NW cc nL own cs l X) {a0 : Nat × va_E} {rs : va_W} {q n : Nat} {f : Nat → Int} {i v : Int} (j : Nat) (hj : i = (j : Int)) (hjn : j < n) (hn : n < 2147483648) (d : decode cc pc = .ok (.iastore, 1)) (kk : AtW cl nL R X (a0 :: (rs ++ [(q, ce cs (fun _ => 0) (.inl (0, n)) (up1 f j v))])) cells slots lv st (pc + 1)) : AtW cl nL R X (a0 :: (rs ++ [(q, ce cs (fun _ => 0) (.inl (0, n)) f)])) cells slots lv (iv v :: iv i :: .ref q :: st) pc := by
  obtain ⟨p, l', e, s, m, args, below, meth, c, Q, D, A⟩ := X
  obtain ⟨rfl, F⟩ := F
  intro H locs ls hP hD hS hl
  have hi : 0 ≤ i ∧ i < (n : Int) := ⟨by omega, by omega⟩
  obtain ⟨h1, h2⟩ := oI_in rfl hn hi
  have h3 : i.toNat = j := by omega
  rw [h3] at h2
  obtain ⟨w, hw⟩ : ∃ w, w = a0 :: rs := ⟨_, rfl⟩
  have hc : ∀ x : Nat × va_E, a0 :: (rs ++ [x]) = w ++ [x] := fun x => by rw [hw]; rfl
  rw [hc] at hP hD kk
  refine va_iast F.1.1 F.1.2.1 F.2.1 hP hD hS w.length 0 (by rw [List.getElem?_append_right (Nat.le_refl _), Nat.sub_self]; rfl) rfl h1 d (fun H' locs' hP' hD' hS' => ?_)
  have e0 : ∀ x : Nat × va_E, (w ++ [(q, ce cs (fun _ => 0) (.inl (0, n)) f)]).set w.length x = w ++ [x] := fun x => by rw [List.set_append_right _ _ (Nat.le_refl _), Nat.sub_self]; rfl
  have e1 : (upd (fun j => Int32.ofInt (f j)) j (Int32.ofInt v)) = (fun k => Int32.ofInt (up1 f j v k)) := by
    funext q
    by_cases hq : q = j
    · subst hq
      simp [upd, up1]
    · simp [upd, up1, hq]
  rw [e0, h2, e1] at hP' hD'
  exact kk H' locs' ls hP' hD' hS' hl
theorem n_callW (F : OkN cl WS NW cc nL own cs l X) {y : MethodName} {bytes : ByteArray} {maxL n index q ci mc ms : Nat} {rm : Room} {fs0 as st0 : List Value} {post : (Nat → ClassId) → (Nat → Nat) → va_W} {w : va_W} (hC : CtrN cl WS NW l y bytes maxL rm q ci fs0 as post mc ms) (hst : st0 = as.reverse ++ .ref q :: st) (hrm : rm.cells = mc ∧ rm.slots = ms) (hR : rm.frames + 1 ≤ R.frames ∧ 8 + (maxL + 11) + rm.locals ≤ R.locals) (hn : as.length = n) (hg : GoodIn WS (Cond.code y bytes maxL none :: WS)) (h1 : Cond.initialized y.cls ∈ WS) (h2 : Cond.methodLink own index y ∈ WS) (h3 : Cond.instanceMethod y ∈ WS) (hnm : y.name = "<init>") (hd : y.cls ≠ "java/lang/invoke/MethodHandle" ∧ y.cls ≠ "java/lang/invoke/VarHandle" ∧ (parseMethodDescriptor y.desc).map (fun d => d.parameters.length) = some n) (hroom : (st.map fun v => v.category).sum ≤ 8) (hc : cells + mc ≤ R.cells) (hs : slots + ms ≤ R.slots) (d : decode cc pc = .ok (.invokespecial index, 3)) (kk : ∀ u, AtW cl nL R X (w ++ post cs u) (cells + mc) (slots + ms) lv st (pc + 3)) : AtW cl nL R X (w ++ [(q, .inr (ci, fs0))]) cells slots lv st0 pc := by
  obtain ⟨p, l', e, s, m, args, below, meth, c, Q, D, A⟩ := X
  obtain ⟨rfl, F⟩ := F
  intro H locs ls hP hD hS hl
  have hA : ∀ x, va_A [(q, .inr (ci, fs0))] H.size x → A x := by
    intro x h
    rcases h with ⟨k, e, h⟩ | h
    · exact (va_D_right hD).2 k (x, e) h
    · exact F.2.2.1 x (Nat.le_trans hS.1 h)
  refine va_callv (va_runI F.1 (hC D cs H.size) (cwI n F.1.2.2.2.2 hg rfl hrm.1 hrm.2 (F.1.2.2.2.2 _ h1) (F.1.2.2.2.2 _ h2) (F.1.2.2.2.2 _ h3) hnm hd hR) ⟨?_, fun U hU hW => ⟨rfl, by rw [hU], by rw [hU]; exact va_P_right hP, va_K.moved hW.alike F.2.1, (va_D_right hD).weaken (fun _ _ _ _ => trivial), F.2.2.2.warm hS hU hW hA⟩⟩ rfl hn hl.1 hst (lv_room hroom) d ⟨hc, hs⟩) hS (fun x _ h => hA x h) hA (fun u t H1 locs1 ht hvm hw hB hz1 hk1 hS1 => ?_)
  · intro a U g mk z
    obtain ⟨q0, q1, qP, qK, qD, qX⟩ := z
    exact ⟨q0, q1, qP, va_K.moved (u := U) (U := U.calling g mk a) (Vm.Alike.refl U.vm) qK, qD, qX.call g mk a⟩
  · rw [ht] at hB
    obtain ⟨a1, a2⟩ := join_right hP hD hk1 hA hB.1 hB.2
    exact kk u H1 locs1 ls a1 a2 hS1 hl
theorem n_callI (F : OkN cl WS NW cc nL own cs l X) {y : MethodName} {bytes : ByteArray} {maxL n index q ci mc ms : Nat} {rm : Room} {fs0 as st0 : List Value} {post : (Nat → ClassId) → (Nat → Nat) → va_W} {a0 : Nat × va_E} {rs : va_W} (hC : CtrN cl WS NW l y bytes maxL rm q ci fs0 as post mc ms) (hst : st0 = as.reverse ++ .ref q :: st) (hrm : rm.cells = mc ∧ rm.slots = ms) (hR : rm.frames + 1 ≤ R.frames ∧ 8 + (maxL + 11) + rm.locals ≤ R.locals) (hn : as.length = n) (hg : GoodIn WS (Cond.code y bytes maxL none :: WS)) (h1 : Cond.initialized y.cls ∈ WS) (h2 : Cond.methodLink own index y ∈ WS) (h3 : Cond.instanceMethod y ∈ WS) (hnm : y.name = "<init>") (hd : y.cls ≠ "java/lang/invoke/MethodHandle" ∧ y.cls ≠ "java/lang/invoke/VarHandle" ∧ (parseMethodDescriptor y.desc).map (fun d => d.parameters.length) = some n) (hroom : (st.map fun v => v.category).sum ≤ 8) (hc : cells + mc ≤ R.cells) (hs : slots + ms ≤ R.slots) (d : decode cc pc = .ok (.invokespecial index, 3)) (kk : ∀ u, AtW cl nL R X (a0 :: (rs ++ post cs u)) (cells + mc) (slots + ms) lv st (pc + 3)) : AtW cl nL R X (a0 :: (rs ++ [(q, .inr (ci, fs0))])) cells slots lv st0 pc := by
  have hcc : ∀ x : va_W, a0 :: (rs ++ x) = (a0 :: rs) ++ x := fun x => rfl
  rw [hcc]
  exact n_callW F hC hst hrm hR hn hg h1 h2 h3 hnm hd hroom hc hs d (fun u => by rw [← hcc]; exact kk u)
theorem n_widen {c2 s2 : Nat} (h1 : cells ≤ c2) (h2 : slots ≤ s2) (k : AtW cl nL R X ws c2 s2 lv st pc) : AtW cl nL R X ws cells slots lv st pc := by
  obtain ⟨p, l', e, s, m, args, below, meth, c, Q, D, A⟩ := X
  intro H locs ls hP hD hS hl
  exact W.widen (k := c2) (n := s2) h1 h2 (k H locs ls hP hD hS hl)
def RetN (cl : List vw_C) (cc : ByteArray) (nL : Nat) (R : Room) (cs : Nat → ClassId) (X : CN) (post : (Nat → ClassId) → (Nat → Nat) → va_W) (mc ms : Nat) : Prop := ∀ (pc : Nat) (lv : List (Nat × Value)) (u : Nat → Nat), decode cc pc = .ok (.return_, 1) → AtW cl nL R X (post cs u) mc ms lv [] pc
theorem ctrN_of {y : MethodName} {rm : Room} {q ci mc ms : Nat} {fs0 as : List Value} {post : (Nat → ClassId) → (Nat → Nat) → va_W} (hy : plainName y.cls = true) (hnm : y.name = "<init>") (hlen : (lg_sl (.ref q :: as)).length ≤ nL) (body : ∀ (cs : Nat → ClassId) (X : CN), OkN cl WS NW cc nL y.cls cs l X → NmI X → RetN cl cc nL rm cs X post mc ms → AtW cl nL rm X [(q, .inr (ci, fs0))] 0 0 (lv_args 0 (.ref q :: as)) [] 0) : CtrN cl WS NW l y cc nL rm q ci fs0 as post mc ms := by
  intro D cs sz
  refine Met.ofW (cc := cc) (maxL := nL) (ret := none) hy rfl ?_
  intro p e s m args below meth c s₁ B hml hv
  obtain ⟨rfl, hsz, hP, hK, hD0, hX⟩ := hv
  subst hsz
  have hts := atoms_spec (ws := Cond.code y cc nL none :: WS) B.pre
  have hl := lv_entry (.ref q :: as) (n := nL) hlen
  rw [lg_entry_eq]
  generalize (lg_sl (.ref q :: as) ++ List.replicate (nL - (lg_sl (.ref q :: as)).length) Slot.unset).toArray = ls at hl ⊢
  have hin : meth.name = "<init>" := by rw [(name_of_methodNamed B.named B.method).1]; exact hnm
  have hr := B.returns
  have hlocks := B.notSynchronized
  refine body cs (p, l, e, s, m, (Value.ref q :: as).toArray, below, meth, c, _, D, va_A [(q, .inr (ci, fs0))] s.heap.size) ⟨rfl, ⟨B.exec, B.bytes, hml, findClass_of_methodNamed B.named, fun w hw => hts w (List.mem_cons_of_mem _ hw)⟩, hK, fun q h => Or.inr h, hX⟩ hin ?_ s.heap [] ls hP hD0.self va_S.rf hl
  intro pc lv u d H locs ls hP hD hS hl
  exact W.vret B.exec B.bytes hr (fun t ht hW => ⟨⟨u, rfl, trivial, by rw [ht]; exact hP, hD⟩, hS.F ht⟩) hS.2.2 d hlocks
end NROWS
