/-! ===== BASE 3: what a method of a side stands on ===== -/
def lstN (j : Nat) : Int := if j = 4 then 1 else 0
def mstN (j : Nat) : Int := if j = 1 then 1000000 else if j = 2 then 999999 else if j = 4 then 15 else 0
/-- what holds of the start beside the side's own cells: words of nest mates, two tables of the class that nobody writes -/
def XS (NW : List Cond) (A : Nat → Prop) (U : State) : Prop := (∀ a i x h, Cond.methodLinkNest a i x h ∈ NW → va_Nw (.methodLinkNest a i x h) U) ∧ ∃ t1 t2 : Nat, va_Z "WellMap" "LEAST_NUMBER" "[I" (.ref t1) A U U.heap ∧ va_T .int t1 5 (fun j => iv (lstN j)) A U U.heap ∧ va_Z "WellMap" "MOST_NUMBER" "[I" (.ref t2) A U U.heap ∧ va_T .int t2 5 (fun j => iv (mstN j)) A U U.heap
theorem XS.call {NW : List Cond} {A : Nat → Prop} {U : State} (h : XS NW A U) (g : JFrame) (mk : MethodId) (a : Array Value) : XS NW A (U.calling g mk a) := by
  obtain ⟨h1, t1, t2, z1, w1, z2, w2⟩ := h
  have hv : U.vm.Alike (U.calling g mk a).vm := Vm.Alike.refl U.vm
  exact ⟨fun a i x h hm => va_Nw.same rfl rfl (h1 a i x h hm), t1, t2, z1.moved hv, w1.moved hv, z2.moved hv, w2.moved hv⟩
theorem XS.warm {NW : List Cond} {A B : Nat → Prop} {s U : State} {H : Heap} {locs : List Loc} (h : XS NW A s) (hS : va_S A s.heap H locs) (hU : U.heap = H) (hW : s.WarmedH U.vm) (hAB : ∀ q, B q → A q) : XS NW B U := by
  obtain ⟨h1, t1, t2, z1, w1, z2, w2⟩ := h
  subst hU
  exact ⟨fun a i x h hm => va_Nw.warmM hW (h1 a i x h hm), t1, t2, ((z1.moved hW.alike).kept hS.2.1).narrow hAB, ((w1.moved hW.alike).kept hS.2.1).narrow hAB, ((z2.moved hW.alike).kept hS.2.1).narrow hAB, ((w2.moved hW.alike).kept hS.2.1).narrow hAB⟩
def MX (cl : List vw_C) (WS NW : List Cond) (p : Program) (s : State) (m : MethodId) (args : Array Value) (meth : Method) (c : Code) (cc : ByteArray) (nL : Nat) (own : String) (ret : Option FieldType) (D : va_G) (cs : Nat → ClassId) (ad : Nat → Nat) (n : Nat) (A : Nat → Prop) : Prop :=
  CallFix p m c cc nL s args WS own ∧ va_K D cl (tyL cs) s ∧ (∀ q, s.heap.size ≤ q → A q) ∧ adI ad n ∧ (∀ k, k < n → A (ad k)) ∧ meth.locks = false ∧ meth.sig.returnType = ret ∧ XS NW A s
def GW (cl : List vw_C) (D : va_G) (cs : Nat → ClassId) (ad : Nat → Nat) (T : List Kd) (A : Nat → Prop) (H0 H : Heap) (locs : List Loc) (σ : St) : Prop := va_P D cl (wd cs ad T σ) H ∧ va_S A H0 H locs
/-- a side's world at a state: at a method's entry, and behind it -/
def PU (cl : List vw_C) (NW : List Cond) (D : va_G) (cs : Nat → ClassId) (ad : Nat → Nat) (T : List Kd) (sz : Nat) (σ : St) (U : State) : Prop := U.heap.size = sz ∧ va_P D cl (wd cs ad T σ) U.heap ∧ va_K D cl (tyL cs) U ∧ adI ad T.length ∧ XS NW (AW ad T.length sz) U
def BU (cl : List vw_C) (D : va_G) (cs : Nat → ClassId) (ad : Nat → Nat) (T : List Kd) (σ : St) (t : State) : Prop := va_P D cl (wd cs ad T σ) t.heap
/-- contracts: the method answers what the pure function does, by the kind of its answer -/
def CtrI (cl : List vw_C) (WS NW : List Cond) (T : List Kd) (l : Launch) (y : MethodName) (cc : ByteArray) (maxL : Nat) (ret : Option FieldType) (rm : Room) (as : (Nat → Nat) → List Value) (σ : St) (res : Option (Int × St)) : Prop :=
  ∀ v σ', res = some (v, σ') → ∀ D cs ad sz, Met l y (Cond.code y cc maxL ret :: WS) rm (va_Pc (as ad) (PU cl NW D cs ad T sz σ)) (va_Qi (fun r u => r = Int32.ofInt v ∧ u = σ') (BU cl D cs ad T) (AW ad T.length sz)) 0 0 (AW ad T.length sz)
def CtrL (cl : List vw_C) (WS NW : List Cond) (T : List Kd) (l : Launch) (y : MethodName) (cc : ByteArray) (maxL : Nat) (ret : Option FieldType) (rm : Room) (as : (Nat → Nat) → List Value) (σ : St) (res : Option (Int × St)) : Prop :=
  ∀ v σ', res = some (v, σ') → ∀ D cs ad sz, Met l y (Cond.code y cc maxL ret :: WS) rm (va_Pc (as ad) (PU cl NW D cs ad T sz σ)) (va_Ql (fun r u => r = Int64.ofInt v ∧ u = σ') (BU cl D cs ad T) (AW ad T.length sz)) 0 0 (AW ad T.length sz)
def CtrV (cl : List vw_C) (WS NW : List Cond) (T : List Kd) (l : Launch) (y : MethodName) (cc : ByteArray) (maxL : Nat) (ret : Option FieldType) (rm : Room) (as : (Nat → Nat) → List Value) (σ : St) (res : Option St) : Prop :=
  ∀ σ', res = some σ' → ∀ D cs ad sz, Met l y (Cond.code y cc maxL ret :: WS) rm (va_Pc (as ad) (PU cl NW D cs ad T sz σ)) (va_Qv (fun u => u = σ') (BU cl D cs ad T) (AW ad T.length sz)) 0 0 (AW ad T.length sz)
/-- an answer that is a cell of the side, by its number -/
def CtrR (cl : List vw_C) (WS NW : List Cond) (T : List Kd) (l : Launch) (y : MethodName) (cc : ByteArray) (maxL : Nat) (ret : Option FieldType) (rm : Room) (as : (Nat → Nat) → List Value) (σ : St) (res : Option (Nat × St)) : Prop :=
  ∀ v σ', res = some (v, σ') → ∀ D cs ad sz, Met l y (Cond.code y cc maxL ret :: WS) rm (va_Pc (as ad) (PU cl NW D cs ad T sz σ)) (va_Qr (fun u => u = σ') (fun u a t => a = ad v ∧ BU cl D cs ad T u t) (AW ad T.length sz)) 0 0 (AW ad T.length sz)
/-- a reader's answer, with the state as it was -/
def rd {α : Type} (x : Option α) (σ : St) : Option (α × St) := match x with
  | some a => some (a, σ)
  | none => none
theorem rd_s {α : Type} {a : α} {σ : St} : rd (some a) σ = some (a, σ) := rfl
theorem rd_elim {α : Type} {x : Option α} {σ : St} {a : α} {τ : St} (h : rd x σ = some (a, τ)) : x = some a ∧ τ = σ := by
  cases x with
  | none => cases h
  | some b => cases h; exact ⟨rfl, rfl⟩
/-- the words of a call of an own method, its receiver's class the method's own -/
def LinkV (WS : List Cond) (own : String) (index : Nat) (y : MethodName) (bytes : ByteArray) (maxL : Nat) (ret : Option FieldType) (n : Nat) : Prop :=
  GoodIn WS (wsV own index y.cls y (Cond.code y bytes maxL ret :: WS)) ∧ (y.cls = y.cls ∧ y.cls ≠ "java/lang/invoke/MethodHandle" ∧ y.cls ≠ "java/lang/invoke/VarHandle" ∧ (parseMethodDescriptor y.desc).map (fun d => d.parameters.length) = some n)
def LinkS (WS : List Cond) (own : String) (index : Nat) (y : MethodName) (bytes : ByteArray) (maxL : Nat) (ret : Option FieldType) (n : Nat) : Prop :=
  GoodIn WS (va_wsS own index y (Cond.code y bytes maxL ret :: WS)) ∧ (y.cls ≠ "java/lang/invoke/MethodHandle" ∧ y.cls ≠ "java/lang/invoke/VarHandle" ∧ (parseMethodDescriptor y.desc).map (fun d => d.parameters.length) = some n)
def LinkN (WS NW : List Cond) (own : String) (index : Nat) (y : MethodName) (host : String) (bytes : ByteArray) (maxL : Nat) (ret : Option FieldType) (n : Nat) : Prop :=
  GoodIn WS (Cond.code y bytes maxL ret :: WS) ∧ Cond.methodLinkNest own index y host ∈ NW ∧ Cond.initialized y.cls ∈ WS ∧ Cond.static y ∈ WS ∧ (y.cls ≠ "java/lang/invoke/MethodHandle" ∧ y.cls ≠ "java/lang/invoke/VarHandle" ∧ (parseMethodDescriptor y.desc).map (fun d => d.parameters.length) = some n)
theorem linkV_of {WS : List Cond} {own : String} {index : Nat} {y : MethodName} {bytes : ByteArray} {maxL : Nat} {ret : Option FieldType} {n : Nat} (hg : ∀ w ∈ WS, (w.onTables && w.keeps) = true ∨ ∃ ty, w = .arrayClass ty) (h1 : Cond.methodLink own index y ∈ WS) (h2 : Cond.instanceMethod y ∈ WS) (h3 : Cond.selects y.cls y y ∈ WS) (h4 : Cond.initialized y.cls ∈ WS) (h5 : Cond.code y bytes maxL ret ∈ WS) (hd : y.cls ≠ "java/lang/invoke/MethodHandle" ∧ y.cls ≠ "java/lang/invoke/VarHandle" ∧ (parseMethodDescriptor y.desc).map (fun d => d.parameters.length) = some n) : LinkV WS own index y bytes maxL ret n := by
  refine ⟨fun w hw => ?_, rfl, hd⟩
  have hm : w ∈ WS := by
    unfold wsV at hw
    rcases List.mem_append.mp hw with h | h
    · simp only [List.mem_cons, List.not_mem_nil, or_false] at h
      rcases h with rfl | rfl | rfl | rfl <;> assumption
    · rcases List.mem_cons.mp h with rfl | h
      · exact h5
      · exact h
  exact ⟨hm, hg w hm⟩
theorem linkS_of {WS : List Cond} {own : String} {index : Nat} {y : MethodName} {bytes : ByteArray} {maxL : Nat} {ret : Option FieldType} {n : Nat} (hg : ∀ w ∈ WS, (w.onTables && w.keeps) = true ∨ ∃ ty, w = .arrayClass ty) (h1 : Cond.methodLink own index y ∈ WS) (h2 : Cond.static y ∈ WS) (h4 : Cond.initialized y.cls ∈ WS) (h5 : Cond.code y bytes maxL ret ∈ WS) (hd : y.cls ≠ "java/lang/invoke/MethodHandle" ∧ y.cls ≠ "java/lang/invoke/VarHandle" ∧ (parseMethodDescriptor y.desc).map (fun d => d.parameters.length) = some n) : LinkS WS own index y bytes maxL ret n := by
  refine ⟨fun w hw => ?_, hd⟩
  have hm : w ∈ WS := by
    unfold va_wsS at hw
    rcases List.mem_append.mp hw with h | h
    · simp only [List.mem_cons, List.not_mem_nil, or_false] at h
      rcases h with rfl | rfl | rfl <;> assumption
    · rcases List.mem_cons.mp h with rfl | h
      · exact h5
      · exact h
  exact ⟨hm, hg w hm⟩
theorem linkN_of {WS NW : List Cond} {own : String} {index : Nat} {y : MethodName} {host : String} {bytes : ByteArray} {maxL : Nat} {ret : Option FieldType} {n : Nat} (hg : ∀ w ∈ WS, (w.onTables && w.keeps) = true ∨ ∃ ty, w = .arrayClass ty) (h1 : Cond.methodLinkNest own index y host ∈ NW) (h2 : Cond.static y ∈ WS) (h4 : Cond.initialized y.cls ∈ WS) (h5 : Cond.code y bytes maxL ret ∈ WS) (hd : y.cls ≠ "java/lang/invoke/MethodHandle" ∧ y.cls ≠ "java/lang/invoke/VarHandle" ∧ (parseMethodDescriptor y.desc).map (fun d => d.parameters.length) = some n) : LinkN WS NW own index y host bytes maxL ret n := by
  refine ⟨fun w hw => ?_, h1, h4, h2, hd⟩
  have hm : w ∈ WS := by
    rcases List.mem_cons.mp hw with rfl | h
    · exact h5
    · exact h
  exact ⟨hm, hg w hm⟩
section ROWS
variable {p : Program} {l : Launch} {e : Env} {R : Room} {s : State} {m : MethodId} {args : Array Value} {below : List Frame} {meth : Method} {c : Code} {H : Heap} {locs : List Loc} {Q : State → Prop}
variable {cl : List vw_C} {WS NW : List Cond} {cc : ByteArray} {nL : Nat} {own : String} {ret : Option FieldType} {D : va_G} {cs : Nat → ClassId} {ad : Nat → Nat} {T : List Kd} {A : Nat → Prop} {σ : St}
variable {pc : Nat} {ls : Array Slot} {st : List Value}
theorem MX_D (F : MX cl WS NW p s m args meth c cc nL own ret D cs ad T.length A) : va_D A (wd cs ad T σ) := wd_D F.2.2.2.1 F.2.2.2.2.1
/-- a guard, a name for a number, a branch -/
theorem r_topI {β : Type} {x : Int} {k : Int → Option β} {y : β} (hf : jlet x k = some y) (kk : ∀ z, k z = some y → W p l e R s m args below meth c H locs 0 0 Q (F0 m pc ls (iv z :: st))) : W p l e R s m args below meth c H locs 0 0 Q (F0 m pc ls (iv x :: st)) := kk x hf
theorem r_topJ {β : Type} {x : Int} {k : Int → Option β} {y : β} (hf : jlet x k = some y) (kk : ∀ z, k z = some y → W p l e R s m args below meth c H locs 0 0 Q (F0 m pc ls (jv z :: st))) : W p l e R s m args below meth c H locs 0 0 Q (F0 m pc ls (jv x :: st)) := kk x hf
theorem r_bipush (F : MX cl WS NW p s m args meth c cc nL own ret D cs ad T.length A) {n : Int} (d : decode cc pc = .ok (.bipush n, 2)) (hv : (Int8.ofInt n).toInt32 = Int32.ofInt n) (k : W p l e R s m args below meth c H locs 0 0 Q (F0 m (pc + 2) ls (iv n :: st))) : W p l e R s m args below meth c H locs 0 0 Q (F0 m pc ls st) := lv_bipush F.1.1 F.1.2.1 d hv k
theorem r_sipush (F : MX cl WS NW p s m args meth c cc nL own ret D cs ad T.length A) {n : Int} (d : decode cc pc = .ok (.sipush n, 3)) (hv : (Int16.ofInt n).toInt32 = Int32.ofInt n) (k : W p l e R s m args below meth c H locs 0 0 Q (F0 m (pc + 3) ls (iv n :: st))) : W p l e R s m args below meth c H locs 0 0 Q (F0 m pc ls st) := lv_sipush F.1.1 F.1.2.1 d hv k
theorem r_iconst (F : MX cl WS NW p s m args meth c cc nL own ret D cs ad T.length A) {n : Int} (d : decode cc pc = .ok (.iconst n, 1)) (k : W p l e R s m args below meth c H locs 0 0 Q (F0 m (pc + 1) ls (iv n :: st))) : W p l e R s m args below meth c H locs 0 0 Q (F0 m pc ls st) := lv_iconst F.1.1 F.1.2.1 d rfl k
theorem r_ldc (F : MX cl WS NW p s m args meth c cc nL own ret D cs ad T.length A) {n : Int} {i : Nat} {v : Int32} (hv : v = Int32.ofInt n) (hw : Cond.constant own i v ∈ WS) (d : decode cc pc = .ok (.ldc i, 2)) (k : W p l e R s m args below meth c H locs 0 0 Q (F0 m (pc + 2) ls (iv n :: st))) : W p l e R s m args below meth c H locs 0 0 Q (F0 m pc ls st) := by
  subst hv
  exact lv_ldc F.1.1 F.1.2.1 F.1.2.2.2.1 (F.1.2.2.2.2 _ hw) d k
theorem r_ldc2 (F : MX cl WS NW p s m args meth c cc nL own ret D cs ad T.length A) {n : Int} {i : Nat} {v : Int64} (hv : v = Int64.ofInt n) (hw : Cond.constantLong own i v ∈ WS) (d : decode cc pc = .ok (.ldc2_w i, 3)) (k : W p l e R s m args below meth c H locs 0 0 Q (F0 m (pc + 3) ls (jv n :: st))) : W p l e R s m args below meth c H locs 0 0 Q (F0 m pc ls st) := by
  subst hv
  exact lv_ldc2 F.1.1 F.1.2.1 F.1.2.2.2.1 (F.1.2.2.2.2 _ hw) d k
theorem r_lconst (F : MX cl WS NW p s m args meth c cc nL own ret D cs ad T.length A) {n : Int} {i : Fin 2} (d : decode cc pc = .ok (.lconst i, 1)) (hv : Int64.ofNat (i : Nat) = Int64.ofInt n) (k : W p l e R s m args below meth c H locs 0 0 Q (F0 m (pc + 1) ls (jv n :: st))) : W p l e R s m args below meth c H locs 0 0 Q (F0 m pc ls st) := lv_lconst F.1.1 F.1.2.1 d hv k
theorem r_iadd (F : MX cl WS NW p s m args meth c cc nL own ret D cs ad T.length A) {a b : Int} (d : decode cc pc = .ok (.iadd, 1)) (k : W p l e R s m args below meth c H locs 0 0 Q (F0 m (pc + 1) ls (iv (a + b) :: st))) : W p l e R s m args below meth c H locs 0 0 Q (F0 m pc ls (iv b :: iv a :: st)) := lv_iadd F.1.1 F.1.2.1 d (by rw [← Int32.ofInt_add]; exact k)
theorem r_isub (F : MX cl WS NW p s m args meth c cc nL own ret D cs ad T.length A) {a b : Int} (d : decode cc pc = .ok (.isub, 1)) (k : W p l e R s m args below meth c H locs 0 0 Q (F0 m (pc + 1) ls (iv (a - b) :: st))) : W p l e R s m args below meth c H locs 0 0 Q (F0 m pc ls (iv b :: iv a :: st)) := lv_isub F.1.1 F.1.2.1 d (by rw [← Int32.ofInt_sub]; exact k)
theorem r_imul (F : MX cl WS NW p s m args meth c cc nL own ret D cs ad T.length A) {a b : Int} (d : decode cc pc = .ok (.imul, 1)) (k : W p l e R s m args below meth c H locs 0 0 Q (F0 m (pc + 1) ls (iv (a * b) :: st))) : W p l e R s m args below meth c H locs 0 0 Q (F0 m pc ls (iv b :: iv a :: st)) := lv_imul F.1.1 F.1.2.1 d (by rw [← Int32.ofInt_mul]; exact k)
theorem r_ineg (F : MX cl WS NW p s m args meth c cc nL own ret D cs ad T.length A) {a : Int} (d : decode cc pc = .ok (.ineg, 1)) (k : W p l e R s m args below meth c H locs 0 0 Q (F0 m (pc + 1) ls (iv (-a) :: st))) : W p l e R s m args below meth c H locs 0 0 Q (F0 m pc ls (iv a :: st)) := lv_ineg F.1.1 F.1.2.1 d (by rw [← Int32.ofInt_neg]; exact k)
theorem r_ladd (F : MX cl WS NW p s m args meth c cc nL own ret D cs ad T.length A) {a b : Int} (d : decode cc pc = .ok (.ladd, 1)) (k : W p l e R s m args below meth c H locs 0 0 Q (F0 m (pc + 1) ls (jv (a + b) :: st))) : W p l e R s m args below meth c H locs 0 0 Q (F0 m pc ls (jv b :: jv a :: st)) := lv_ladd F.1.1 F.1.2.1 d (by rw [← Int64.ofInt_add]; exact k)
theorem r_lsub (F : MX cl WS NW p s m args meth c cc nL own ret D cs ad T.length A) {a b : Int} (d : decode cc pc = .ok (.lsub, 1)) (k : W p l e R s m args below meth c H locs 0 0 Q (F0 m (pc + 1) ls (jv (a - b) :: st))) : W p l e R s m args below meth c H locs 0 0 Q (F0 m pc ls (jv b :: jv a :: st)) := lv_lsub F.1.1 F.1.2.1 d (by rw [← Int64.ofInt_sub]; exact k)
theorem r_lmul (F : MX cl WS NW p s m args meth c cc nL own ret D cs ad T.length A) {a b : Int} (d : decode cc pc = .ok (.lmul, 1)) (k : W p l e R s m args below meth c H locs 0 0 Q (F0 m (pc + 1) ls (jv (a * b) :: st))) : W p l e R s m args below meth c H locs 0 0 Q (F0 m pc ls (jv b :: jv a :: st)) := lv_lmul F.1.1 F.1.2.1 d (by rw [← Int64.ofInt_mul]; exact k)
theorem r_lneg (F : MX cl WS NW p s m args meth c cc nL own ret D cs ad T.length A) {a : Int} (d : decode cc pc = .ok (.lneg, 1)) (k : W p l e R s m args below meth c H locs 0 0 Q (F0 m (pc + 1) ls (jv (-a) :: st))) : W p l e R s m args below meth c H locs 0 0 Q (F0 m pc ls (jv a :: st)) := lv_lneg F.1.1 F.1.2.1 d (by rw [← Int64.ofInt_neg]; exact k)
theorem r_ishl (F : MX cl WS NW p s m args meth c cc nL own ret D cs ad T.length A) {a b : Int} (d : decode cc pc = .ok (.ishl, 1)) (k : W p l e R s m args below meth c H locs 0 0 Q (F0 m (pc + 1) ls (iv (jshl a b) :: st))) : W p l e R s m args below meth c H locs 0 0 Q (F0 m pc ls (iv b :: iv a :: st)) := lv_ishl F.1.1 F.1.2.1 d (by rw [← Int32.ofInt_toInt (_ <<< _)]; exact k)
theorem r_ishr (F : MX cl WS NW p s m args meth c cc nL own ret D cs ad T.length A) {a b : Int} (d : decode cc pc = .ok (.ishr, 1)) (k : W p l e R s m args below meth c H locs 0 0 Q (F0 m (pc + 1) ls (iv (jshr a b) :: st))) : W p l e R s m args below meth c H locs 0 0 Q (F0 m pc ls (iv b :: iv a :: st)) := lv_ishr F.1.1 F.1.2.1 d (by rw [← Int32.ofInt_toInt (_ >>> _)]; exact k)
theorem r_iand (F : MX cl WS NW p s m args meth c cc nL own ret D cs ad T.length A) {a b : Int} (d : decode cc pc = .ok (.iand, 1)) (k : W p l e R s m args below meth c H locs 0 0 Q (F0 m (pc + 1) ls (iv (jand a b) :: st))) : W p l e R s m args below meth c H locs 0 0 Q (F0 m pc ls (iv b :: iv a :: st)) := lv_iand F.1.1 F.1.2.1 d (by rw [← Int32.ofInt_toInt (_ &&& _)]; exact k)
theorem r_ior (F : MX cl WS NW p s m args meth c cc nL own ret D cs ad T.length A) {a b : Int} (d : decode cc pc = .ok (.ior, 1)) (k : W p l e R s m args below meth c H locs 0 0 Q (F0 m (pc + 1) ls (iv (jor a b) :: st))) : W p l e R s m args below meth c H locs 0 0 Q (F0 m pc ls (iv b :: iv a :: st)) := lv_ior F.1.1 F.1.2.1 d (by rw [← Int32.ofInt_toInt (_ ||| _)]; exact k)
theorem r_land (F : MX cl WS NW p s m args meth c cc nL own ret D cs ad T.length A) {a b : Int} (d : decode cc pc = .ok (.land, 1)) (k : W p l e R s m args below meth c H locs 0 0 Q (F0 m (pc + 1) ls (jv (jland a b) :: st))) : W p l e R s m args below meth c H locs 0 0 Q (F0 m pc ls (jv b :: jv a :: st)) := lv_land F.1.1 F.1.2.1 d (by rw [← Int64.ofInt_toInt (_ &&& _)]; exact k)
theorem r_lor (F : MX cl WS NW p s m args meth c cc nL own ret D cs ad T.length A) {a b : Int} (d : decode cc pc = .ok (.lor, 1)) (k : W p l e R s m args below meth c H locs 0 0 Q (F0 m (pc + 1) ls (jv (jlor a b) :: st))) : W p l e R s m args below meth c H locs 0 0 Q (F0 m pc ls (jv b :: jv a :: st)) := lv_lor F.1.1 F.1.2.1 d (by rw [← Int64.ofInt_toInt (_ ||| _)]; exact k)
theorem r_lshl (F : MX cl WS NW p s m args meth c cc nL own ret D cs ad T.length A) {a b : Int} (d : decode cc pc = .ok (.lshl, 1)) (k : W p l e R s m args below meth c H locs 0 0 Q (F0 m (pc + 1) ls (jv (jlshl a b) :: st))) : W p l e R s m args below meth c H locs 0 0 Q (F0 m pc ls (iv b :: jv a :: st)) := lv_lshl F.1.1 F.1.2.1 d (v := Int64.ofInt (jlshl a b)) (by unfold jlshl; rw [Int64.ofInt_toInt]) k
theorem r_lshr (F : MX cl WS NW p s m args meth c cc nL own ret D cs ad T.length A) {a b : Int} (d : decode cc pc = .ok (.lshr, 1)) (k : W p l e R s m args below meth c H locs 0 0 Q (F0 m (pc + 1) ls (jv (jlshr a b) :: st))) : W p l e R s m args below meth c H locs 0 0 Q (F0 m pc ls (iv b :: jv a :: st)) := lv_lshr F.1.1 F.1.2.1 d (v := Int64.ofInt (jlshr a b)) (by unfold jlshr; rw [Int64.ofInt_toInt]) k
theorem r_irem (F : MX cl WS NW p s m args meth c cc nL own ret D cs ad T.length A) {a b : Int} {β : Type} {X : Option β} {y : β} (hf : jchk (inI b ∧ b ≠ 0) X = some y) (d : decode cc pc = .ok (.irem, 1)) (k : X = some y → W p l e R s m args below meth c H locs 0 0 Q (F0 m (pc + 1) ls (iv (jirem a b) :: st))) : W p l e R s m args below meth c H locs 0 0 Q (F0 m pc ls (iv b :: iv a :: st)) := by
  obtain ⟨⟨h1, h2⟩, hf⟩ := jchk_elim hf
  refine lv_irem F.1.1 F.1.2.1 d (fun q => h2 ?_) (by rw [← Int32.ofInt_toInt (_ - _)]; exact k hf)
  rw [← oI_0] at q
  exact (oI_eq h1 ⟨by omega, by omega⟩).mp q
theorem r_ldiv (F : MX cl WS NW p s m args meth c cc nL own ret D cs ad T.length A) {a b : Int} {β : Type} {X : Option β} {y : β} (hf : jchk (inL b ∧ b ≠ 0) X = some y) (d : decode cc pc = .ok (.ldiv, 1)) (k : X = some y → W p l e R s m args below meth c H locs 0 0 Q (F0 m (pc + 1) ls (jv (jldiv a b) :: st))) : W p l e R s m args below meth c H locs 0 0 Q (F0 m pc ls (jv b :: jv a :: st)) := by
  obtain ⟨⟨h1, h2⟩, hf⟩ := jchk_elim hf
  refine lv_ldiv F.1.1 F.1.2.1 d (fun q => h2 ?_) (by rw [← Int64.ofInt_toInt (_ / _)]; exact k hf)
  rw [← oL_0] at q
  exact (oL_eq h1 ⟨by omega, by omega⟩).mp q
theorem r_lrem (F : MX cl WS NW p s m args meth c cc nL own ret D cs ad T.length A) {a b : Int} {β : Type} {X : Option β} {y : β} (hf : jchk (inL b ∧ b ≠ 0) X = some y) (d : decode cc pc = .ok (.lrem, 1)) (k : X = some y → W p l e R s m args below meth c H locs 0 0 Q (F0 m (pc + 1) ls (jv (jlrem a b) :: st))) : W p l e R s m args below meth c H locs 0 0 Q (F0 m pc ls (jv b :: jv a :: st)) := by
  obtain ⟨⟨h1, h2⟩, hf⟩ := jchk_elim hf
  refine lv_lrem F.1.1 F.1.2.1 d (fun q => h2 ?_) (by rw [← Int64.ofInt_toInt (_ - _)]; exact k hf)
  rw [← oL_0] at q
  exact (oL_eq h1 ⟨by omega, by omega⟩).mp q
theorem r_i2l (F : MX cl WS NW p s m args meth c cc nL own ret D cs ad T.length A) {a : Int} {β : Type} {X : Option β} {y : β} (hf : jchk (inI a) X = some y) (d : decode cc pc = .ok (.i2l, 1)) (k : X = some y → W p l e R s m args below meth c H locs 0 0 Q (F0 m (pc + 1) ls (jv a :: st))) : W p l e R s m args below meth c H locs 0 0 Q (F0 m pc ls (iv a :: st)) := by
  obtain ⟨h1, hf⟩ := jchk_elim hf
  exact lv_i2l F.1.1 F.1.2.1 d (oIL h1) (k hf)
theorem r_l2i (F : MX cl WS NW p s m args meth c cc nL own ret D cs ad T.length A) {a : Int} (d : decode cc pc = .ok (.l2i, 1)) (k : W p l e R s m args below meth c H locs 0 0 Q (F0 m (pc + 1) ls (iv a :: st))) : W p l e R s m args below meth c H locs 0 0 Q (F0 m pc ls (jv a :: st)) := lv_l2i F.1.1 F.1.2.1 d Int64.toInt32_ofInt k
theorem r_icmp_lt (F : MX cl WS NW p s m args meth c cc nL own ret D cs ad T.length A) {a b : Int} {β : Type} {X Y : Option β} {y : β} (hf : jchk (inI a ∧ inI b) (if a < b then X else Y) = some y) {off : Int} {tgt : Nat} (d : decode cc pc = .ok (.if_icmp .lt off, 3)) (ht : (pc : Int) + off = (tgt : Int)) (kt : X = some y → W p l e R s m args below meth c H locs 0 0 Q (F0 m tgt ls st)) (kf : Y = some y → W p l e R s m args below meth c H locs 0 0 Q (F0 m (pc + 3) ls st)) : W p l e R s m args below meth c H locs 0 0 Q (F0 m pc ls (iv b :: iv a :: st)) := by
  obtain ⟨⟨ha, hb⟩, hf⟩ := jchk_elim hf
  have e1 := oI_lt ha hb
  have e2 := oI_lt hb ha
  have e3 := oI_eq ha hb
  have e4 := oI_le ha hb
  have e5 := oI_le hb ha
  by_cases q : a < b
  · rw [if_pos q] at hf
    refine lv_icmp_lt F.1.1 F.1.2.1 d ht (fun w => ?_) (fun w => ?_) <;> first | exact kt hf | (exfalso; first | omega | (simp only [ge_iff_le, gt_iff_lt, e1, e2, e3, e4, e5] at w; omega))
  · rw [if_neg q] at hf
    refine lv_icmp_lt F.1.1 F.1.2.1 d ht (fun w => ?_) (fun w => ?_) <;> first | exact kf hf | (exfalso; first | omega | (simp only [ge_iff_le, gt_iff_lt, e1, e2, e3, e4, e5] at w; omega))
theorem r_if_lt (F : MX cl WS NW p s m args meth c cc nL own ret D cs ad T.length A) {a : Int} {β : Type} {X Y : Option β} {y : β} (hf : jchk (inI a) (if a < 0 then X else Y) = some y) {off : Int} {tgt : Nat} (d : decode cc pc = .ok (.ifCond .lt off, 3)) (ht : (pc : Int) + off = (tgt : Int)) (kt : X = some y → W p l e R s m args below meth c H locs 0 0 Q (F0 m tgt ls st)) (kf : Y = some y → W p l e R s m args below meth c H locs 0 0 Q (F0 m (pc + 3) ls st)) : W p l e R s m args below meth c H locs 0 0 Q (F0 m pc ls (iv a :: st)) := by
  obtain ⟨ha, hf⟩ := jchk_elim hf
  have hb : inI 0 := ⟨by omega, by omega⟩
  have e1 := oI_lt ha hb
  have e2 := oI_lt hb ha
  have e3 := oI_eq ha hb
  have e4 := oI_le ha hb
  have e5 := oI_le hb ha
  rw [oI_0] at e1 e2 e3 e4 e5
  by_cases q : a < 0
  · rw [if_pos q] at hf
    refine lv_if_lt F.1.1 F.1.2.1 d ht (fun w => ?_) (fun w => ?_) <;> first | exact kt hf | (exfalso; first | omega | (simp only [ge_iff_le, gt_iff_lt, e1, e2, e3, e4, e5] at w; omega))
  · rw [if_neg q] at hf
    refine lv_if_lt F.1.1 F.1.2.1 d ht (fun w => ?_) (fun w => ?_) <;> first | exact kf hf | (exfalso; first | omega | (simp only [ge_iff_le, gt_iff_lt, e1, e2, e3, e4, e5] at w; omega))
theorem r_lcmp_lt (F : MX cl WS NW p s m args meth c cc nL own ret D cs ad T.length A) {a b : Int} {β : Type} {X Y : Option β} {y : β} (hf : jchk (inL a ∧ inL b) (if a < b then X else Y) = some y) {off : Int} {tgt : Nat} (d1 : decode cc pc = .ok (.lcmp, 1)) (d : decode cc (pc + 1) = .ok (.ifCond .lt off, 3)) (ht : ((pc + 1 : Nat) : Int) + off = (tgt : Int)) (kt : X = some y → W p l e R s m args below meth c H locs 0 0 Q (F0 m tgt ls st)) (kf : Y = some y → W p l e R s m args below meth c H locs 0 0 Q (F0 m (pc + 1 + 3) ls st)) : W p l e R s m args below meth c H locs 0 0 Q (F0 m pc ls (jv b :: jv a :: st)) := by
  refine W.lcmp F.1.1 F.1.2.1 d1 ?_
  obtain ⟨⟨ha, hb⟩, hf⟩ := jchk_elim hf
  have e0 : lg_cmp (Int64.ofInt a) (Int64.ofInt b) = Int32.ofInt (if b < a then 1 else if a = b then 0 else -1) := by
    unfold lg_cmp
    simp only [gt_iff_lt, oL_lt hb ha, oL_eq ha hb]
    split
    · decide
    · split
      · decide
      · decide
  rw [e0]
  have hr : inI (if b < a then 1 else if a = b then 0 else -1) := by
    split
    · exact ⟨by omega, by omega⟩
    · split
      · exact ⟨by omega, by omega⟩
      · exact ⟨by omega, by omega⟩
  refine r_if_lt F (X := X) (Y := Y) (y := y) ?_ d ht kt kf
  rw [jchk_t hr]
  by_cases q : a < b
  · rw [if_pos q] at hf
    rw [if_pos, hf]
    repeat' split
    all_goals omega
  · rw [if_neg q] at hf
    rw [if_neg, hf]
    repeat' split
    all_goals omega
theorem r_icmp_ge (F : MX cl WS NW p s m args meth c cc nL own ret D cs ad T.length A) {a b : Int} {β : Type} {X Y : Option β} {y : β} (hf : jchk (inI a ∧ inI b) (if a < b then X else Y) = some y) {off : Int} {tgt : Nat} (d : decode cc pc = .ok (.if_icmp .ge off, 3)) (ht : (pc : Int) + off = (tgt : Int)) (kt : X = some y → W p l e R s m args below meth c H locs 0 0 Q (F0 m (pc + 3) ls st)) (kf : Y = some y → W p l e R s m args below meth c H locs 0 0 Q (F0 m tgt ls st)) : W p l e R s m args below meth c H locs 0 0 Q (F0 m pc ls (iv b :: iv a :: st)) := by
  obtain ⟨⟨ha, hb⟩, hf⟩ := jchk_elim hf
  have e1 := oI_lt ha hb
  have e2 := oI_lt hb ha
  have e3 := oI_eq ha hb
  have e4 := oI_le ha hb
  have e5 := oI_le hb ha
  by_cases q : a < b
  · rw [if_pos q] at hf
    refine lv_icmp_ge F.1.1 F.1.2.1 d ht (fun w => ?_) (fun w => ?_) <;> first | exact kt hf | (exfalso; first | omega | (simp only [ge_iff_le, gt_iff_lt, e1, e2, e3, e4, e5] at w; omega))
  · rw [if_neg q] at hf
    refine lv_icmp_ge F.1.1 F.1.2.1 d ht (fun w => ?_) (fun w => ?_) <;> first | exact kf hf | (exfalso; first | omega | (simp only [ge_iff_le, gt_iff_lt, e1, e2, e3, e4, e5] at w; omega))
theorem r_if_ge (F : MX cl WS NW p s m args meth c cc nL own ret D cs ad T.length A) {a : Int} {β : Type} {X Y : Option β} {y : β} (hf : jchk (inI a) (if a < 0 then X else Y) = some y) {off : Int} {tgt : Nat} (d : decode cc pc = .ok (.ifCond .ge off, 3)) (ht : (pc : Int) + off = (tgt : Int)) (kt : X = some y → W p l e R s m args below meth c H locs 0 0 Q (F0 m (pc + 3) ls st)) (kf : Y = some y → W p l e R s m args below meth c H locs 0 0 Q (F0 m tgt ls st)) : W p l e R s m args below meth c H locs 0 0 Q (F0 m pc ls (iv a :: st)) := by
  obtain ⟨ha, hf⟩ := jchk_elim hf
  have hb : inI 0 := ⟨by omega, by omega⟩
  have e1 := oI_lt ha hb
  have e2 := oI_lt hb ha
  have e3 := oI_eq ha hb
  have e4 := oI_le ha hb
  have e5 := oI_le hb ha
  rw [oI_0] at e1 e2 e3 e4 e5
  by_cases q : a < 0
  · rw [if_pos q] at hf
    refine lv_if_ge F.1.1 F.1.2.1 d ht (fun w => ?_) (fun w => ?_) <;> first | exact kt hf | (exfalso; first | omega | (simp only [ge_iff_le, gt_iff_lt, e1, e2, e3, e4, e5] at w; omega))
  · rw [if_neg q] at hf
    refine lv_if_ge F.1.1 F.1.2.1 d ht (fun w => ?_) (fun w => ?_) <;> first | exact kf hf | (exfalso; first | omega | (simp only [ge_iff_le, gt_iff_lt, e1, e2, e3, e4, e5] at w; omega))
theorem r_lcmp_ge (F : MX cl WS NW p s m args meth c cc nL own ret D cs ad T.length A) {a b : Int} {β : Type} {X Y : Option β} {y : β} (hf : jchk (inL a ∧ inL b) (if a < b then X else Y) = some y) {off : Int} {tgt : Nat} (d1 : decode cc pc = .ok (.lcmp, 1)) (d : decode cc (pc + 1) = .ok (.ifCond .ge off, 3)) (ht : ((pc + 1 : Nat) : Int) + off = (tgt : Int)) (kt : X = some y → W p l e R s m args below meth c H locs 0 0 Q (F0 m (pc + 1 + 3) ls st)) (kf : Y = some y → W p l e R s m args below meth c H locs 0 0 Q (F0 m tgt ls st)) : W p l e R s m args below meth c H locs 0 0 Q (F0 m pc ls (jv b :: jv a :: st)) := by
  refine W.lcmp F.1.1 F.1.2.1 d1 ?_
  obtain ⟨⟨ha, hb⟩, hf⟩ := jchk_elim hf
  have e0 : lg_cmp (Int64.ofInt a) (Int64.ofInt b) = Int32.ofInt (if b < a then 1 else if a = b then 0 else -1) := by
    unfold lg_cmp
    simp only [gt_iff_lt, oL_lt hb ha, oL_eq ha hb]
    split
    · decide
    · split
      · decide
      · decide
  rw [e0]
  have hr : inI (if b < a then 1 else if a = b then 0 else -1) := by
    split
    · exact ⟨by omega, by omega⟩
    · split
      · exact ⟨by omega, by omega⟩
      · exact ⟨by omega, by omega⟩
  refine r_if_ge F (X := X) (Y := Y) (y := y) ?_ d ht kt kf
  rw [jchk_t hr]
  by_cases q : a < b
  · rw [if_pos q] at hf
    rw [if_pos, hf]
    repeat' split
    all_goals omega
  · rw [if_neg q] at hf
    rw [if_neg, hf]
    repeat' split
    all_goals omega
theorem r_icmp_gt (F : MX cl WS NW p s m args meth c cc nL own ret D cs ad T.length A) {a b : Int} {β : Type} {X Y : Option β} {y : β} (hf : jchk (inI a ∧ inI b) (if b < a then X else Y) = some y) {off : Int} {tgt : Nat} (d : decode cc pc = .ok (.if_icmp .gt off, 3)) (ht : (pc : Int) + off = (tgt : Int)) (kt : X = some y → W p l e R s m args below meth c H locs 0 0 Q (F0 m tgt ls st)) (kf : Y = some y → W p l e R s m args below meth c H locs 0 0 Q (F0 m (pc + 3) ls st)) : W p l e R s m args below meth c H locs 0 0 Q (F0 m pc ls (iv b :: iv a :: st)) := by
  obtain ⟨⟨ha, hb⟩, hf⟩ := jchk_elim hf
  have e1 := oI_lt ha hb
  have e2 := oI_lt hb ha
  have e3 := oI_eq ha hb
  have e4 := oI_le ha hb
  have e5 := oI_le hb ha
  by_cases q : b < a
  · rw [if_pos q] at hf
    refine lv_icmp_gt F.1.1 F.1.2.1 d ht (fun w => ?_) (fun w => ?_) <;> first | exact kt hf | (exfalso; first | omega | (simp only [ge_iff_le, gt_iff_lt, e1, e2, e3, e4, e5] at w; omega))
  · rw [if_neg q] at hf
    refine lv_icmp_gt F.1.1 F.1.2.1 d ht (fun w => ?_) (fun w => ?_) <;> first | exact kf hf | (exfalso; first | omega | (simp only [ge_iff_le, gt_iff_lt, e1, e2, e3, e4, e5] at w; omega))
theorem r_if_gt (F : MX cl WS NW p s m args meth c cc nL own ret D cs ad T.length A) {a : Int} {β : Type} {X Y : Option β} {y : β} (hf : jchk (inI a) (if 0 < a then X else Y) = some y) {off : Int} {tgt : Nat} (d : decode cc pc = .ok (.ifCond .gt off, 3)) (ht : (pc : Int) + off = (tgt : Int)) (kt : X = some y → W p l e R s m args below meth c H locs 0 0 Q (F0 m tgt ls st)) (kf : Y = some y → W p l e R s m args below meth c H locs 0 0 Q (F0 m (pc + 3) ls st)) : W p l e R s m args below meth c H locs 0 0 Q (F0 m pc ls (iv a :: st)) := by
  obtain ⟨ha, hf⟩ := jchk_elim hf
  have hb : inI 0 := ⟨by omega, by omega⟩
  have e1 := oI_lt ha hb
  have e2 := oI_lt hb ha
  have e3 := oI_eq ha hb
  have e4 := oI_le ha hb
  have e5 := oI_le hb ha
  rw [oI_0] at e1 e2 e3 e4 e5
  by_cases q : 0 < a
  · rw [if_pos q] at hf
    refine lv_if_gt F.1.1 F.1.2.1 d ht (fun w => ?_) (fun w => ?_) <;> first | exact kt hf | (exfalso; first | omega | (simp only [ge_iff_le, gt_iff_lt, e1, e2, e3, e4, e5] at w; omega))
  · rw [if_neg q] at hf
    refine lv_if_gt F.1.1 F.1.2.1 d ht (fun w => ?_) (fun w => ?_) <;> first | exact kf hf | (exfalso; first | omega | (simp only [ge_iff_le, gt_iff_lt, e1, e2, e3, e4, e5] at w; omega))
theorem r_lcmp_gt (F : MX cl WS NW p s m args meth c cc nL own ret D cs ad T.length A) {a b : Int} {β : Type} {X Y : Option β} {y : β} (hf : jchk (inL a ∧ inL b) (if b < a then X else Y) = some y) {off : Int} {tgt : Nat} (d1 : decode cc pc = .ok (.lcmp, 1)) (d : decode cc (pc + 1) = .ok (.ifCond .gt off, 3)) (ht : ((pc + 1 : Nat) : Int) + off = (tgt : Int)) (kt : X = some y → W p l e R s m args below meth c H locs 0 0 Q (F0 m tgt ls st)) (kf : Y = some y → W p l e R s m args below meth c H locs 0 0 Q (F0 m (pc + 1 + 3) ls st)) : W p l e R s m args below meth c H locs 0 0 Q (F0 m pc ls (jv b :: jv a :: st)) := by
  refine W.lcmp F.1.1 F.1.2.1 d1 ?_
  obtain ⟨⟨ha, hb⟩, hf⟩ := jchk_elim hf
  have e0 : lg_cmp (Int64.ofInt a) (Int64.ofInt b) = Int32.ofInt (if b < a then 1 else if a = b then 0 else -1) := by
    unfold lg_cmp
    simp only [gt_iff_lt, oL_lt hb ha, oL_eq ha hb]
    split
    · decide
    · split
      · decide
      · decide
  rw [e0]
  have hr : inI (if b < a then 1 else if a = b then 0 else -1) := by
    split
    · exact ⟨by omega, by omega⟩
    · split
      · exact ⟨by omega, by omega⟩
      · exact ⟨by omega, by omega⟩
  refine r_if_gt F (X := X) (Y := Y) (y := y) ?_ d ht kt kf
  rw [jchk_t hr]
  by_cases q : b < a
  · rw [if_pos q] at hf
    rw [if_pos, hf]
    repeat' split
    all_goals omega
  · rw [if_neg q] at hf
    rw [if_neg, hf]
    repeat' split
    all_goals omega
theorem r_icmp_le (F : MX cl WS NW p s m args meth c cc nL own ret D cs ad T.length A) {a b : Int} {β : Type} {X Y : Option β} {y : β} (hf : jchk (inI a ∧ inI b) (if b < a then X else Y) = some y) {off : Int} {tgt : Nat} (d : decode cc pc = .ok (.if_icmp .le off, 3)) (ht : (pc : Int) + off = (tgt : Int)) (kt : X = some y → W p l e R s m args below meth c H locs 0 0 Q (F0 m (pc + 3) ls st)) (kf : Y = some y → W p l e R s m args below meth c H locs 0 0 Q (F0 m tgt ls st)) : W p l e R s m args below meth c H locs 0 0 Q (F0 m pc ls (iv b :: iv a :: st)) := by
  obtain ⟨⟨ha, hb⟩, hf⟩ := jchk_elim hf
  have e1 := oI_lt ha hb
  have e2 := oI_lt hb ha
  have e3 := oI_eq ha hb
  have e4 := oI_le ha hb
  have e5 := oI_le hb ha
  by_cases q : b < a
  · rw [if_pos q] at hf
    refine lv_icmp_le F.1.1 F.1.2.1 d ht (fun w => ?_) (fun w => ?_) <;> first | exact kt hf | (exfalso; first | omega | (simp only [ge_iff_le, gt_iff_lt, e1, e2, e3, e4, e5] at w; omega))
  · rw [if_neg q] at hf
    refine lv_icmp_le F.1.1 F.1.2.1 d ht (fun w => ?_) (fun w => ?_) <;> first | exact kf hf | (exfalso; first | omega | (simp only [ge_iff_le, gt_iff_lt, e1, e2, e3, e4, e5] at w; omega))
theorem r_if_le (F : MX cl WS NW p s m args meth c cc nL own ret D cs ad T.length A) {a : Int} {β : Type} {X Y : Option β} {y : β} (hf : jchk (inI a) (if 0 < a then X else Y) = some y) {off : Int} {tgt : Nat} (d : decode cc pc = .ok (.ifCond .le off, 3)) (ht : (pc : Int) + off = (tgt : Int)) (kt : X = some y → W p l e R s m args below meth c H locs 0 0 Q (F0 m (pc + 3) ls st)) (kf : Y = some y → W p l e R s m args below meth c H locs 0 0 Q (F0 m tgt ls st)) : W p l e R s m args below meth c H locs 0 0 Q (F0 m pc ls (iv a :: st)) := by
  obtain ⟨ha, hf⟩ := jchk_elim hf
  have hb : inI 0 := ⟨by omega, by omega⟩
  have e1 := oI_lt ha hb
  have e2 := oI_lt hb ha
  have e3 := oI_eq ha hb
  have e4 := oI_le ha hb
  have e5 := oI_le hb ha
  rw [oI_0] at e1 e2 e3 e4 e5
  by_cases q : 0 < a
  · rw [if_pos q] at hf
    refine lv_if_le F.1.1 F.1.2.1 d ht (fun w => ?_) (fun w => ?_) <;> first | exact kt hf | (exfalso; first | omega | (simp only [ge_iff_le, gt_iff_lt, e1, e2, e3, e4, e5] at w; omega))
  · rw [if_neg q] at hf
    refine lv_if_le F.1.1 F.1.2.1 d ht (fun w => ?_) (fun w => ?_) <;> first | exact kf hf | (exfalso; first | omega | (simp only [ge_iff_le, gt_iff_lt, e1, e2, e3, e4, e5] at w; omega))
theorem r_lcmp_le (F : MX cl WS NW p s m args meth c cc nL own ret D cs ad T.length A) {a b : Int} {β : Type} {X Y : Option β} {y : β} (hf : jchk (inL a ∧ inL b) (if b < a then X else Y) = some y) {off : Int} {tgt : Nat} (d1 : decode cc pc = .ok (.lcmp, 1)) (d : decode cc (pc + 1) = .ok (.ifCond .le off, 3)) (ht : ((pc + 1 : Nat) : Int) + off = (tgt : Int)) (kt : X = some y → W p l e R s m args below meth c H locs 0 0 Q (F0 m (pc + 1 + 3) ls st)) (kf : Y = some y → W p l e R s m args below meth c H locs 0 0 Q (F0 m tgt ls st)) : W p l e R s m args below meth c H locs 0 0 Q (F0 m pc ls (jv b :: jv a :: st)) := by
  refine W.lcmp F.1.1 F.1.2.1 d1 ?_
  obtain ⟨⟨ha, hb⟩, hf⟩ := jchk_elim hf
  have e0 : lg_cmp (Int64.ofInt a) (Int64.ofInt b) = Int32.ofInt (if b < a then 1 else if a = b then 0 else -1) := by
    unfold lg_cmp
    simp only [gt_iff_lt, oL_lt hb ha, oL_eq ha hb]
    split
    · decide
    · split
      · decide
      · decide
  rw [e0]
  have hr : inI (if b < a then 1 else if a = b then 0 else -1) := by
    split
    · exact ⟨by omega, by omega⟩
    · split
      · exact ⟨by omega, by omega⟩
      · exact ⟨by omega, by omega⟩
  refine r_if_le F (X := X) (Y := Y) (y := y) ?_ d ht kt kf
  rw [jchk_t hr]
  by_cases q : b < a
  · rw [if_pos q] at hf
    rw [if_pos, hf]
    repeat' split
    all_goals omega
  · rw [if_neg q] at hf
    rw [if_neg, hf]
    repeat' split
    all_goals omega
theorem r_icmp_eq (F : MX cl WS NW p s m args meth c cc nL own ret D cs ad T.length A) {a b : Int} {β : Type} {X Y : Option β} {y : β} (hf : jchk (inI a ∧ inI b) (if a = b then X else Y) = some y) {off : Int} {tgt : Nat} (d : decode cc pc = .ok (.if_icmp .eq off, 3)) (ht : (pc : Int) + off = (tgt : Int)) (kt : X = some y → W p l e R s m args below meth c H locs 0 0 Q (F0 m tgt ls st)) (kf : Y = some y → W p l e R s m args below meth c H locs 0 0 Q (F0 m (pc + 3) ls st)) : W p l e R s m args below meth c H locs 0 0 Q (F0 m pc ls (iv b :: iv a :: st)) := by
  obtain ⟨⟨ha, hb⟩, hf⟩ := jchk_elim hf
  have e1 := oI_lt ha hb
  have e2 := oI_lt hb ha
  have e3 := oI_eq ha hb
  have e4 := oI_le ha hb
  have e5 := oI_le hb ha
  by_cases q : a = b
  · rw [if_pos q] at hf
    refine lv_icmp_eq F.1.1 F.1.2.1 d ht (fun w => ?_) (fun w => ?_) <;> first | exact kt hf | (exfalso; first | omega | (simp only [ge_iff_le, gt_iff_lt, e1, e2, e3, e4, e5] at w; omega))
  · rw [if_neg q] at hf
    refine lv_icmp_eq F.1.1 F.1.2.1 d ht (fun w => ?_) (fun w => ?_) <;> first | exact kf hf | (exfalso; first | omega | (simp only [ge_iff_le, gt_iff_lt, e1, e2, e3, e4, e5] at w; omega))
theorem r_if_eq (F : MX cl WS NW p s m args meth c cc nL own ret D cs ad T.length A) {a : Int} {β : Type} {X Y : Option β} {y : β} (hf : jchk (inI a) (if a = 0 then X else Y) = some y) {off : Int} {tgt : Nat} (d : decode cc pc = .ok (.ifCond .eq off, 3)) (ht : (pc : Int) + off = (tgt : Int)) (kt : X = some y → W p l e R s m args below meth c H locs 0 0 Q (F0 m tgt ls st)) (kf : Y = some y → W p l e R s m args below meth c H locs 0 0 Q (F0 m (pc + 3) ls st)) : W p l e R s m args below meth c H locs 0 0 Q (F0 m pc ls (iv a :: st)) := by
  obtain ⟨ha, hf⟩ := jchk_elim hf
  have hb : inI 0 := ⟨by omega, by omega⟩
  have e1 := oI_lt ha hb
  have e2 := oI_lt hb ha
  have e3 := oI_eq ha hb
  have e4 := oI_le ha hb
  have e5 := oI_le hb ha
  rw [oI_0] at e1 e2 e3 e4 e5
  by_cases q : a = 0
  · rw [if_pos q] at hf
    refine lv_if_eq F.1.1 F.1.2.1 d ht (fun w => ?_) (fun w => ?_) <;> first | exact kt hf | (exfalso; first | omega | (simp only [ge_iff_le, gt_iff_lt, e1, e2, e3, e4, e5] at w; omega))
  · rw [if_neg q] at hf
    refine lv_if_eq F.1.1 F.1.2.1 d ht (fun w => ?_) (fun w => ?_) <;> first | exact kf hf | (exfalso; first | omega | (simp only [ge_iff_le, gt_iff_lt, e1, e2, e3, e4, e5] at w; omega))
theorem r_lcmp_eq (F : MX cl WS NW p s m args meth c cc nL own ret D cs ad T.length A) {a b : Int} {β : Type} {X Y : Option β} {y : β} (hf : jchk (inL a ∧ inL b) (if a = b then X else Y) = some y) {off : Int} {tgt : Nat} (d1 : decode cc pc = .ok (.lcmp, 1)) (d : decode cc (pc + 1) = .ok (.ifCond .eq off, 3)) (ht : ((pc + 1 : Nat) : Int) + off = (tgt : Int)) (kt : X = some y → W p l e R s m args below meth c H locs 0 0 Q (F0 m tgt ls st)) (kf : Y = some y → W p l e R s m args below meth c H locs 0 0 Q (F0 m (pc + 1 + 3) ls st)) : W p l e R s m args below meth c H locs 0 0 Q (F0 m pc ls (jv b :: jv a :: st)) := by
  refine W.lcmp F.1.1 F.1.2.1 d1 ?_
  obtain ⟨⟨ha, hb⟩, hf⟩ := jchk_elim hf
  have e0 : lg_cmp (Int64.ofInt a) (Int64.ofInt b) = Int32.ofInt (if b < a then 1 else if a = b then 0 else -1) := by
    unfold lg_cmp
    simp only [gt_iff_lt, oL_lt hb ha, oL_eq ha hb]
    split
    · decide
    · split
      · decide
      · decide
  rw [e0]
  have hr : inI (if b < a then 1 else if a = b then 0 else -1) := by
    split
    · exact ⟨by omega, by omega⟩
    · split
      · exact ⟨by omega, by omega⟩
      · exact ⟨by omega, by omega⟩
  refine r_if_eq F (X := X) (Y := Y) (y := y) ?_ d ht kt kf
  rw [jchk_t hr]
  by_cases q : a = b
  · rw [if_pos q] at hf
    rw [if_pos, hf]
    repeat' split
    all_goals omega
  · rw [if_neg q] at hf
    rw [if_neg, hf]
    repeat' split
    all_goals omega
theorem r_icmp_ne (F : MX cl WS NW p s m args meth c cc nL own ret D cs ad T.length A) {a b : Int} {β : Type} {X Y : Option β} {y : β} (hf : jchk (inI a ∧ inI b) (if a = b then X else Y) = some y) {off : Int} {tgt : Nat} (d : decode cc pc = .ok (.if_icmp .ne off, 3)) (ht : (pc : Int) + off = (tgt : Int)) (kt : X = some y → W p l e R s m args below meth c H locs 0 0 Q (F0 m (pc + 3) ls st)) (kf : Y = some y → W p l e R s m args below meth c H locs 0 0 Q (F0 m tgt ls st)) : W p l e R s m args below meth c H locs 0 0 Q (F0 m pc ls (iv b :: iv a :: st)) := by
  obtain ⟨⟨ha, hb⟩, hf⟩ := jchk_elim hf
  have e1 := oI_lt ha hb
  have e2 := oI_lt hb ha
  have e3 := oI_eq ha hb
  have e4 := oI_le ha hb
  have e5 := oI_le hb ha
  by_cases q : a = b
  · rw [if_pos q] at hf
    refine lv_icmp_ne F.1.1 F.1.2.1 d ht (fun w => ?_) (fun w => ?_) <;> first | exact kt hf | (exfalso; first | omega | (simp only [ge_iff_le, gt_iff_lt, e1, e2, e3, e4, e5] at w; omega))
  · rw [if_neg q] at hf
    refine lv_icmp_ne F.1.1 F.1.2.1 d ht (fun w => ?_) (fun w => ?_) <;> first | exact kf hf | (exfalso; first | omega | (simp only [ge_iff_le, gt_iff_lt, e1, e2, e3, e4, e5] at w; omega))
theorem r_if_ne (F : MX cl WS NW p s m args meth c cc nL own ret D cs ad T.length A) {a : Int} {β : Type} {X Y : Option β} {y : β} (hf : jchk (inI a) (if a = 0 then X else Y) = some y) {off : Int} {tgt : Nat} (d : decode cc pc = .ok (.ifCond .ne off, 3)) (ht : (pc : Int) + off = (tgt : Int)) (kt : X = some y → W p l e R s m args below meth c H locs 0 0 Q (F0 m (pc + 3) ls st)) (kf : Y = some y → W p l e R s m args below meth c H locs 0 0 Q (F0 m tgt ls st)) : W p l e R s m args below meth c H locs 0 0 Q (F0 m pc ls (iv a :: st)) := by
  obtain ⟨ha, hf⟩ := jchk_elim hf
  have hb : inI 0 := ⟨by omega, by omega⟩
  have e1 := oI_lt ha hb
  have e2 := oI_lt hb ha
  have e3 := oI_eq ha hb
  have e4 := oI_le ha hb
  have e5 := oI_le hb ha
  rw [oI_0] at e1 e2 e3 e4 e5
  by_cases q : a = 0
  · rw [if_pos q] at hf
    refine lv_if_ne F.1.1 F.1.2.1 d ht (fun w => ?_) (fun w => ?_) <;> first | exact kt hf | (exfalso; first | omega | (simp only [ge_iff_le, gt_iff_lt, e1, e2, e3, e4, e5] at w; omega))
  · rw [if_neg q] at hf
    refine lv_if_ne F.1.1 F.1.2.1 d ht (fun w => ?_) (fun w => ?_) <;> first | exact kf hf | (exfalso; first | omega | (simp only [ge_iff_le, gt_iff_lt, e1, e2, e3, e4, e5] at w; omega))
theorem r_lcmp_ne (F : MX cl WS NW p s m args meth c cc nL own ret D cs ad T.length A) {a b : Int} {β : Type} {X Y : Option β} {y : β} (hf : jchk (inL a ∧ inL b) (if a = b then X else Y) = some y) {off : Int} {tgt : Nat} (d1 : decode cc pc = .ok (.lcmp, 1)) (d : decode cc (pc + 1) = .ok (.ifCond .ne off, 3)) (ht : ((pc + 1 : Nat) : Int) + off = (tgt : Int)) (kt : X = some y → W p l e R s m args below meth c H locs 0 0 Q (F0 m (pc + 1 + 3) ls st)) (kf : Y = some y → W p l e R s m args below meth c H locs 0 0 Q (F0 m tgt ls st)) : W p l e R s m args below meth c H locs 0 0 Q (F0 m pc ls (jv b :: jv a :: st)) := by
  refine W.lcmp F.1.1 F.1.2.1 d1 ?_
  obtain ⟨⟨ha, hb⟩, hf⟩ := jchk_elim hf
  have e0 : lg_cmp (Int64.ofInt a) (Int64.ofInt b) = Int32.ofInt (if b < a then 1 else if a = b then 0 else -1) := by
    unfold lg_cmp
    simp only [gt_iff_lt, oL_lt hb ha, oL_eq ha hb]
    split
    · decide
    · split
      · decide
      · decide
  rw [e0]
  have hr : inI (if b < a then 1 else if a = b then 0 else -1) := by
    split
    · exact ⟨by omega, by omega⟩
    · split
      · exact ⟨by omega, by omega⟩
      · exact ⟨by omega, by omega⟩
  refine r_if_ne F (X := X) (Y := Y) (y := y) ?_ d ht kt kf
  rw [jchk_t hr]
  by_cases q : a = b
  · rw [if_pos q] at hf
    rw [if_pos, hf]
    repeat' split
    all_goals omega
  · rw [if_neg q] at hf
    rw [if_neg, hf]
    repeat' split
    all_goals omega
end ROWS
