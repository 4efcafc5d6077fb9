/-! ===== BASE 4: the same rows, the machine's own state out of sight: At = from here, with these locals and this stack, it comes to Q ===== -/
abbrev Cx : Type := Program × Launch × Env × State × MethodId × Array Value × List Frame × Method × Code × (State → Prop) × va_G × (Nat → ClassId) × (Nat → Prop)
def At (cl : List vw_C) (T : List Kd) (nL : Nat) (R : Room) (ad : Nat → Nat) (X : Cx) (σ : St) (lv : List (Nat × Value)) (st : List Value) (pc : Nat) : Prop := match X with
  | (p, l, e, s, m, args, below, meth, c, Q, D, cs, A) => ∀ (H : Heap) (locs : List Loc) (ls : Array Slot), GW cl D cs ad T A s.heap H locs σ → lv_has ls nL lv → W p l e R s m args below meth c H locs 0 0 Q (F0 m pc ls st)
def Ok (cl : List vw_C) (WS NW : List Cond) (T : List Kd) (cc : ByteArray) (nL : Nat) (own : String) (ret : Option FieldType) (ad : Nat → Nat) (l : Launch) (X : Cx) : Prop := match X with
  | (p, l', _, s, m, args, _, meth, c, _, D, cs, A) => l' = l ∧ MX cl WS NW p s m args meth c cc nL own ret D cs ad T.length A
/-- an answer that is 0 or 1 -/
def jz (x : Option Int) : Option Int := match x with
  | some v => jchk (v = 0 ∨ v = 1) (some v)
  | none => none
def jzw (x : Option (Int × St)) : Option (Int × St) := match x with
  | some q => jchk (q.1 = 0 ∨ q.1 = 1) (some q)
  | none => none
theorem jz_e {x : Option Int} {v : Int} (h : jz x = some v) : x = some v := by
  cases x with
  | none => cases h
  | some a => exact (jchk_elim h).2
theorem jz_z {x : Option Int} {v : Int} (h : jz x = some v) : v = 0 ∨ v = 1 := by
  cases x with
  | none => cases h
  | some a =>
    obtain ⟨h1, h2⟩ := jchk_elim (p := a = 0 ∨ a = 1) (x := some a) h
    cases h2; exact h1
theorem jzw_e {x : Option (Int × St)} {v : Int × St} (h : jzw x = some v) : x = some v := by
  cases x with
  | none => cases h
  | some a => exact (jchk_elim h).2
theorem jzw_z {x : Option (Int × St)} {v : Int} {τ : St} (h : jzw x = some (v, τ)) : v = 0 ∨ v = 1 := by
  cases x with
  | none => cases h
  | some a =>
    obtain ⟨h1, h2⟩ := jchk_elim (p := a.1 = 0 ∨ a.1 = 1) (x := some a) h
    cases h2; exact h1
/-- the loop -/
theorem loop_rule {S E : Type} {body : S → Option (S ⊕ E)} {P : S → Prop} {K : E → Prop} (hb : ∀ s y, body s = some y → (∀ s', y = .inl s' → P s') → (∀ ex, y = .inr ex → K ex) → P s) : ∀ (n : Nat) (s : S) (ex : E), jloop body n s = some ex → K ex → P s
  | 0, _, _, h, _ => by cases h
  | n + 1, s, ex, h, hK => by
    cases hy : body s with
    | none => unfold jloop at h; rw [hy] at h; cases h
    | some y =>
      unfold jloop at h; rw [hy] at h
      cases y with
      | inl s' => exact hb s _ hy (fun _ e => by cases e; exact loop_rule hb n s' ex h hK) (fun _ e => by cases e)
      | inr ex' => cases h; exact hb s _ hy (fun _ e => by cases e) (fun _ e => by cases e; exact hK)
section AROWS
variable {cl : List vw_C} {WS NW : List Cond} {T : List Kd} {cc : ByteArray} {nL : Nat} {own : String} {ret : Option FieldType} {R : Room} {ad : Nat → Nat} {l : Launch} {X : Cx} {σ : St} {lv : List (Nat × Value)} {st : List Value} {pc : Nat}
theorem a_sub {lv' : List (Nat × Value)} (ks : List Nat) (h : lv_pick lv ks = lv') (k : At cl T nL R ad X σ lv' st pc) : At cl T nL R ad X σ lv st pc := by
  obtain ⟨p, l', e, s, m, args, below, meth, c, Q, D, cs, A⟩ := X
  intro H locs ls G hl
  exact k H locs ls G (lv_sub hl ks h)
theorem a_topI {β : Type} {x : Int} {k : Int → Option β} {y : β} (hf : jlet x k = some y) (kk : ∀ z, k z = some y → At cl T nL R ad X σ lv (iv z :: st) pc) : At cl T nL R ad X σ lv (iv x :: st) pc := kk x hf
theorem a_topJ {β : Type} {x : Int} {k : Int → Option β} {y : β} (hf : jlet x k = some y) (kk : ∀ z, k z = some y → At cl T nL R ad X σ lv (jv z :: st) pc) : At cl T nL R ad X σ lv (jv x :: st) pc := kk x hf
theorem a_topR {β : Type} {x : Nat} {k : Nat → Option β} {y : β} (hf : jlet x k = some y) (kk : ∀ z, k z = some y → At cl T nL R ad X σ lv (.ref (ad z) :: st) pc) : At cl T nL R ad X σ lv (.ref (ad x) :: st) pc := kk x hf
theorem a_iconst (F : Ok cl WS NW T cc nL own ret ad l X) {n : Int} (d : decode cc pc = .ok (.iconst n, 1)) (k : At cl T nL R ad X σ lv (iv n :: st) (pc + 1)) : At cl T nL R ad X σ lv st pc := by
  obtain ⟨p, l', e, s, m, args, below, meth, c, Q, D, cs, A⟩ := X
  obtain ⟨rfl, F⟩ := F
  intro H locs ls G hl
  exact r_iconst F d (k H locs ls G hl)
theorem a_bipush (F : Ok cl WS NW T cc nL own ret ad l X) {n : Int} (d : decode cc pc = .ok (.bipush n, 2)) (hv : (Int8.ofInt n).toInt32 = Int32.ofInt n) (k : At cl T nL R ad X σ lv (iv n :: st) (pc + 2)) : At cl T nL R ad X σ lv st pc := by
  obtain ⟨p, l', e, s, m, args, below, meth, c, Q, D, cs, A⟩ := X
  obtain ⟨rfl, F⟩ := F
  intro H locs ls G hl
  exact r_bipush F d hv (k H locs ls G hl)
theorem a_sipush (F : Ok cl WS NW T cc nL own ret ad l X) {n : Int} (d : decode cc pc = .ok (.sipush n, 3)) (hv : (Int16.ofInt n).toInt32 = Int32.ofInt n) (k : At cl T nL R ad X σ lv (iv n :: st) (pc + 3)) : At cl T nL R ad X σ lv st pc := by
  obtain ⟨p, l', e, s, m, args, below, meth, c, Q, D, cs, A⟩ := X
  obtain ⟨rfl, F⟩ := F
  intro H locs ls G hl
  exact r_sipush F d hv (k H locs ls G hl)
theorem a_lconst (F : Ok cl WS NW T cc nL own ret ad l X) {n : Int} {i : Fin 2} (d : decode cc pc = .ok (.lconst i, 1)) (hv : Int64.ofNat (i : Nat) = Int64.ofInt n) (k : At cl T nL R ad X σ lv (jv n :: st) (pc + 1)) : At cl T nL R ad X σ lv st pc := by
  obtain ⟨p, l', e, s, m, args, below, meth, c, Q, D, cs, A⟩ := X
  obtain ⟨rfl, F⟩ := F
  intro H locs ls G hl
  exact r_lconst F d hv (k H locs ls G hl)
theorem a_ldc (F : Ok cl WS NW T cc nL own ret ad l X) {n : Int} {i : Nat} {v : Int32} (hv : v = Int32.ofInt n) (hw : Cond.constant own i v ∈ WS) (d : decode cc pc = .ok (.ldc i, 2)) (k : At cl T nL R ad X σ lv (iv n :: st) (pc + 2)) : At cl T nL R ad X σ lv st pc := by
  obtain ⟨p, l', e, s, m, args, below, meth, c, Q, D, cs, A⟩ := X
  obtain ⟨rfl, F⟩ := F
  intro H locs ls G hl
  exact r_ldc F hv hw d (k H locs ls G hl)
theorem a_ldc2 (F : Ok cl WS NW T cc nL own ret ad l X) {n : Int} {i : Nat} {v : Int64} (hv : v = Int64.ofInt n) (hw : Cond.constantLong own i v ∈ WS) (d : decode cc pc = .ok (.ldc2_w i, 3)) (k : At cl T nL R ad X σ lv (jv n :: st) (pc + 3)) : At cl T nL R ad X σ lv st pc := by
  obtain ⟨p, l', e, s, m, args, below, meth, c, Q, D, cs, A⟩ := X
  obtain ⟨rfl, F⟩ := F
  intro H locs ls G hl
  exact r_ldc2 F hv hw d (k H locs ls G hl)
theorem a_iadd (F : Ok cl WS NW T cc nL own ret ad l X) {a b : Int} (d : decode cc pc = .ok (.iadd, 1)) (k : At cl T nL R ad X σ lv (iv (a + b) :: st) (pc + 1)) : At cl T nL R ad X σ lv (iv b :: iv a :: st) pc := by
  obtain ⟨p, l', e, s, m, args, below, meth, c, Q, D, cs, A⟩ := X
  obtain ⟨rfl, F⟩ := F
  intro H locs ls G hl
  exact r_iadd F d (k H locs ls G hl)
theorem a_isub (F : Ok cl WS NW T cc nL own ret ad l X) {a b : Int} (d : decode cc pc = .ok (.isub, 1)) (k : At cl T nL R ad X σ lv (iv (a - b) :: st) (pc + 1)) : At cl T nL R ad X σ lv (iv b :: iv a :: st) pc := by
  obtain ⟨p, l', e, s, m, args, below, meth, c, Q, D, cs, A⟩ := X
  obtain ⟨rfl, F⟩ := F
  intro H locs ls G hl
  exact r_isub F d (k H locs ls G hl)
theorem a_imul (F : Ok cl WS NW T cc nL own ret ad l X) {a b : Int} (d : decode cc pc = .ok (.imul, 1)) (k : At cl T nL R ad X σ lv (iv (a * b) :: st) (pc + 1)) : At cl T nL R ad X σ lv (iv b :: iv a :: st) pc := by
  obtain ⟨p, l', e, s, m, args, below, meth, c, Q, D, cs, A⟩ := X
  obtain ⟨rfl, F⟩ := F
  intro H locs ls G hl
  exact r_imul F d (k H locs ls G hl)
theorem a_ladd (F : Ok cl WS NW T cc nL own ret ad l X) {a b : Int} (d : decode cc pc = .ok (.ladd, 1)) (k : At cl T nL R ad X σ lv (jv (a + b) :: st) (pc + 1)) : At cl T nL R ad X σ lv (jv b :: jv a :: st) pc := by
  obtain ⟨p, l', e, s, m, args, below, meth, c, Q, D, cs, A⟩ := X
  obtain ⟨rfl, F⟩ := F
  intro H locs ls G hl
  exact r_ladd F d (k H locs ls G hl)
theorem a_lsub (F : Ok cl WS NW T cc nL own ret ad l X) {a b : Int} (d : decode cc pc = .ok (.lsub, 1)) (k : At cl T nL R ad X σ lv (jv (a - b) :: st) (pc + 1)) : At cl T nL R ad X σ lv (jv b :: jv a :: st) pc := by
  obtain ⟨p, l', e, s, m, args, below, meth, c, Q, D, cs, A⟩ := X
  obtain ⟨rfl, F⟩ := F
  intro H locs ls G hl
  exact r_lsub F d (k H locs ls G hl)
theorem a_lmul (F : Ok cl WS NW T cc nL own ret ad l X) {a b : Int} (d : decode cc pc = .ok (.lmul, 1)) (k : At cl T nL R ad X σ lv (jv (a * b) :: st) (pc + 1)) : At cl T nL R ad X σ lv (jv b :: jv a :: st) pc := by
  obtain ⟨p, l', e, s, m, args, below, meth, c, Q, D, cs, A⟩ := X
  obtain ⟨rfl, F⟩ := F
  intro H locs ls G hl
  exact r_lmul F d (k H locs ls G hl)
theorem a_ineg (F : Ok cl WS NW T cc nL own ret ad l X) {a : Int} (d : decode cc pc = .ok (.ineg, 1)) (k : At cl T nL R ad X σ lv (iv (-a) :: st) (pc + 1)) : At cl T nL R ad X σ lv (iv a :: st) pc := by
  obtain ⟨p, l', e, s, m, args, below, meth, c, Q, D, cs, A⟩ := X
  obtain ⟨rfl, F⟩ := F
  intro H locs ls G hl
  exact r_ineg F d (k H locs ls G hl)
theorem a_lneg (F : Ok cl WS NW T cc nL own ret ad l X) {a : Int} (d : decode cc pc = .ok (.lneg, 1)) (k : At cl T nL R ad X σ lv (jv (-a) :: st) (pc + 1)) : At cl T nL R ad X σ lv (jv a :: st) pc := by
  obtain ⟨p, l', e, s, m, args, below, meth, c, Q, D, cs, A⟩ := X
  obtain ⟨rfl, F⟩ := F
  intro H locs ls G hl
  exact r_lneg F d (k H locs ls G hl)
theorem a_ishl (F : Ok cl WS NW T cc nL own ret ad l X) {a b : Int} (d : decode cc pc = .ok (.ishl, 1)) (k : At cl T nL R ad X σ lv (iv (jshl a b) :: st) (pc + 1)) : At cl T nL R ad X σ lv (iv b :: iv a :: st) pc := by
  obtain ⟨p, l', e, s, m, args, below, meth, c, Q, D, cs, A⟩ := X
  obtain ⟨rfl, F⟩ := F
  intro H locs ls G hl
  exact r_ishl F d (k H locs ls G hl)
theorem a_ishr (F : Ok cl WS NW T cc nL own ret ad l X) {a b : Int} (d : decode cc pc = .ok (.ishr, 1)) (k : At cl T nL R ad X σ lv (iv (jshr a b) :: st) (pc + 1)) : At cl T nL R ad X σ lv (iv b :: iv a :: st) pc := by
  obtain ⟨p, l', e, s, m, args, below, meth, c, Q, D, cs, A⟩ := X
  obtain ⟨rfl, F⟩ := F
  intro H locs ls G hl
  exact r_ishr F d (k H locs ls G hl)
theorem a_iand (F : Ok cl WS NW T cc nL own ret ad l X) {a b : Int} (d : decode cc pc = .ok (.iand, 1)) (k : At cl T nL R ad X σ lv (iv (jand a b) :: st) (pc + 1)) : At cl T nL R ad X σ lv (iv b :: iv a :: st) pc := by
  obtain ⟨p, l', e, s, m, args, below, meth, c, Q, D, cs, A⟩ := X
  obtain ⟨rfl, F⟩ := F
  intro H locs ls G hl
  exact r_iand F d (k H locs ls G hl)
theorem a_ior (F : Ok cl WS NW T cc nL own ret ad l X) {a b : Int} (d : decode cc pc = .ok (.ior, 1)) (k : At cl T nL R ad X σ lv (iv (jor a b) :: st) (pc + 1)) : At cl T nL R ad X σ lv (iv b :: iv a :: st) pc := by
  obtain ⟨p, l', e, s, m, args, below, meth, c, Q, D, cs, A⟩ := X
  obtain ⟨rfl, F⟩ := F
  intro H locs ls G hl
  exact r_ior F d (k H locs ls G hl)
theorem a_land (F : Ok cl WS NW T cc nL own ret ad l X) {a b : Int} (d : decode cc pc = .ok (.land, 1)) (k : At cl T nL R ad X σ lv (jv (jland a b) :: st) (pc + 1)) : At cl T nL R ad X σ lv (jv b :: jv a :: st) pc := by
  obtain ⟨p, l', e, s, m, args, below, meth, c, Q, D, cs, A⟩ := X
  obtain ⟨rfl, F⟩ := F
  intro H locs ls G hl
  exact r_land F d (k H locs ls G hl)
theorem a_lor (F : Ok cl WS NW T cc nL own ret ad l X) {a b : Int} (d : decode cc pc = .ok (.lor, 1)) (k : At cl T nL R ad X σ lv (jv (jlor a b) :: st) (pc + 1)) : At cl T nL R ad X σ lv (jv b :: jv a :: st) pc := by
  obtain ⟨p, l', e, s, m, args, below, meth, c, Q, D, cs, A⟩ := X
  obtain ⟨rfl, F⟩ := F
  intro H locs ls G hl
  exact r_lor F d (k H locs ls G hl)
theorem a_lshl (F : Ok cl WS NW T cc nL own ret ad l X) {a b : Int} (d : decode cc pc = .ok (.lshl, 1)) (k : At cl T nL R ad X σ lv (jv (jlshl a b) :: st) (pc + 1)) : At cl T nL R ad X σ lv (iv b :: jv a :: st) pc := by
  obtain ⟨p, l', e, s, m, args, below, meth, c, Q, D, cs, A⟩ := X
  obtain ⟨rfl, F⟩ := F
  intro H locs ls G hl
  exact r_lshl F d (k H locs ls G hl)
theorem a_lshr (F : Ok cl WS NW T cc nL own ret ad l X) {a b : Int} (d : decode cc pc = .ok (.lshr, 1)) (k : At cl T nL R ad X σ lv (jv (jlshr a b) :: st) (pc + 1)) : At cl T nL R ad X σ lv (iv b :: jv a :: st) pc := by
  obtain ⟨p, l', e, s, m, args, below, meth, c, Q, D, cs, A⟩ := X
  obtain ⟨rfl, F⟩ := F
  intro H locs ls G hl
  exact r_lshr F d (k H locs ls G hl)
theorem a_l2i (F : Ok cl WS NW T cc nL own ret ad l X) {a : Int} (d : decode cc pc = .ok (.l2i, 1)) (k : At cl T nL R ad X σ lv (iv a :: st) (pc + 1)) : At cl T nL R ad X σ lv (jv a :: st) pc := by
  obtain ⟨p, l', e, s, m, args, below, meth, c, Q, D, cs, A⟩ := X
  obtain ⟨rfl, F⟩ := F
  intro H locs ls G hl
  exact r_l2i F d (k H locs ls G hl)
theorem a_irem (F : Ok cl WS NW T cc nL own ret ad l X) {a b : Int} {β : Type} {Y : Option β} {y : β} (hf : jchk (inI b ∧ b ≠ 0) Y = some y) (d : decode cc pc = .ok (.irem, 1)) (k : Y = some y → At cl T nL R ad X σ lv (iv (jirem a b) :: st) (pc + 1)) : At cl T nL R ad X σ lv (iv b :: iv a :: st) pc := by
  obtain ⟨p, l', e, s, m, args, below, meth, c, Q, D, cs, A⟩ := X
  obtain ⟨rfl, F⟩ := F
  intro H locs ls G hl
  exact r_irem F hf d (fun hf => k hf H locs ls G hl)
theorem a_ldiv (F : Ok cl WS NW T cc nL own ret ad l X) {a b : Int} {β : Type} {Y : Option β} {y : β} (hf : jchk (inL b ∧ b ≠ 0) Y = some y) (d : decode cc pc = .ok (.ldiv, 1)) (k : Y = some y → At cl T nL R ad X σ lv (jv (jldiv a b) :: st) (pc + 1)) : At cl T nL R ad X σ lv (jv b :: jv a :: st) pc := by
  obtain ⟨p, l', e, s, m, args, below, meth, c, Q, D, cs, A⟩ := X
  obtain ⟨rfl, F⟩ := F
  intro H locs ls G hl
  exact r_ldiv F hf d (fun hf => k hf H locs ls G hl)
theorem a_lrem (F : Ok cl WS NW T cc nL own ret ad l X) {a b : Int} {β : Type} {Y : Option β} {y : β} (hf : jchk (inL b ∧ b ≠ 0) Y = some y) (d : decode cc pc = .ok (.lrem, 1)) (k : Y = some y → At cl T nL R ad X σ lv (jv (jlrem a b) :: st) (pc + 1)) : At cl T nL R ad X σ lv (jv b :: jv a :: st) pc := by
  obtain ⟨p, l', e, s, m, args, below, meth, c, Q, D, cs, A⟩ := X
  obtain ⟨rfl, F⟩ := F
  intro H locs ls G hl
  exact r_lrem F hf d (fun hf => k hf H locs ls G hl)
theorem a_i2l (F : Ok cl WS NW T cc nL own ret ad l X) {a : Int} {β : Type} {Y : Option β} {y : β} (hf : jchk (inI a) Y = some y) (d : decode cc pc = .ok (.i2l, 1)) (k : Y = some y → At cl T nL R ad X σ lv (jv a :: st) (pc + 1)) : At cl T nL R ad X σ lv (iv a :: st) pc := by
  obtain ⟨p, l', e, s, m, args, below, meth, c, Q, D, cs, A⟩ := X
  obtain ⟨rfl, F⟩ := F
  intro H locs ls G hl
  exact r_i2l F hf d (fun hf => k hf H locs ls G hl)
theorem a_iload_n (F : Ok cl WS NW T cc nL own ret ad l X) {n : Fin 4} {i : Nat} {x : Int} (d : decode cc pc = .ok (.iload_n n, 1)) (hi : (n : Nat) = i) (j : Nat) (hj : lv[j]? = some (i, iv x)) (k : At cl T nL R ad X σ lv (iv x :: st) (pc + 1)) : At cl T nL R ad X σ lv st pc := by
  obtain ⟨p, l', e, s, m, args, below, meth, c, Q, D, cs, A⟩ := X
  obtain ⟨rfl, F⟩ := F
  intro H locs ls G hl
  exact lv_iload_n F.1.1 F.1.2.1 d hi (lv_at hl j hj) (k H locs ls G hl)
theorem a_iload (F : Ok cl WS NW T cc nL own ret ad l X) {i : Nat} {x : Int} (d : decode cc pc = .ok (.iload i, 2)) (j : Nat) (hj : lv[j]? = some (i, iv x)) (k : At cl T nL R ad X σ lv (iv x :: st) (pc + 2)) : At cl T nL R ad X σ lv st pc := by
  obtain ⟨p, l', e, s, m, args, below, meth, c, Q, D, cs, A⟩ := X
  obtain ⟨rfl, F⟩ := F
  intro H locs ls G hl
  exact lv_iload F.1.1 F.1.2.1 d (lv_at hl j hj) (k H locs ls G hl)
theorem a_istore_n (F : Ok cl WS NW T cc nL own ret ad l X) {n : Fin 4} {i : Nat} {x : Int} {lv' : List (Nat × Value)} (d : decode cc pc = .ok (.istore_n n, 1)) (hi : (n : Nat) = i) (hn : i < nL) (hs : (i, Value.int (Int32.ofInt x)) :: lv.filter (fun q => !(q.1 == i) && !(q.1 + 1 == i && q.2.category == 2)) = lv') (k : At cl T nL R ad X σ lv' st (pc + 1)) : At cl T nL R ad X σ lv (iv x :: st) pc := by
  obtain ⟨p, l', e, s, m, args, below, meth, c, Q, D, cs, A⟩ := X
  obtain ⟨rfl, F⟩ := F
  intro H locs ls G hl
  exact lv_istore_n F.1.1 F.1.2.1 d hi hl hn hs (fun ls hl => k H locs ls G hl)
theorem a_istore (F : Ok cl WS NW T cc nL own ret ad l X) {i : Nat} {x : Int} {lv' : List (Nat × Value)} (d : decode cc pc = .ok (.istore i, 2)) (hn : i < nL) (hs : (i, Value.int (Int32.ofInt x)) :: lv.filter (fun q => !(q.1 == i) && !(q.1 + 1 == i && q.2.category == 2)) = lv') (k : At cl T nL R ad X σ lv' st (pc + 2)) : At cl T nL R ad X σ lv (iv x :: st) pc := by
  obtain ⟨p, l', e, s, m, args, below, meth, c, Q, D, cs, A⟩ := X
  obtain ⟨rfl, F⟩ := F
  intro H locs ls G hl
  exact lv_istore F.1.1 F.1.2.1 d hl hn hs (fun ls hl => k H locs ls G hl)
theorem a_lload_n (F : Ok cl WS NW T cc nL own ret ad l X) {n : Fin 4} {i : Nat} {x : Int} (d : decode cc pc = .ok (.lload_n n, 1)) (hi : (n : Nat) = i) (j : Nat) (hj : lv[j]? = some (i, jv x)) (k : At cl T nL R ad X σ lv (jv x :: st) (pc + 1)) : At cl T nL R ad X σ lv st pc := by
  obtain ⟨p, l', e, s, m, args, below, meth, c, Q, D, cs, A⟩ := X
  obtain ⟨rfl, F⟩ := F
  intro H locs ls G hl
  exact lv_lload_n F.1.1 F.1.2.1 d hi (lv_at hl j hj) (k H locs ls G hl)
theorem a_lload (F : Ok cl WS NW T cc nL own ret ad l X) {i : Nat} {x : Int} (d : decode cc pc = .ok (.lload i, 2)) (j : Nat) (hj : lv[j]? = some (i, jv x)) (k : At cl T nL R ad X σ lv (jv x :: st) (pc + 2)) : At cl T nL R ad X σ lv st pc := by
  obtain ⟨p, l', e, s, m, args, below, meth, c, Q, D, cs, A⟩ := X
  obtain ⟨rfl, F⟩ := F
  intro H locs ls G hl
  exact lv_lload F.1.1 F.1.2.1 d (lv_at hl j hj) (k H locs ls G hl)
theorem a_lstore_n (F : Ok cl WS NW T cc nL own ret ad l X) {n : Fin 4} {i : Nat} {x : Int} {lv' : List (Nat × Value)} (d : decode cc pc = .ok (.lstore_n n, 1)) (hi : (n : Nat) = i) (hn : i + 1 < nL) (hs : (i, Value.long (Int64.ofInt x)) :: lv.filter (fun q => !(q.1 == i) && (!(q.1 == i + 1) && !(q.1 + 1 == i && q.2.category == 2))) = lv') (k : At cl T nL R ad X σ lv' st (pc + 1)) : At cl T nL R ad X σ lv (jv x :: st) pc := by
  obtain ⟨p, l', e, s, m, args, below, meth, c, Q, D, cs, A⟩ := X
  obtain ⟨rfl, F⟩ := F
  intro H locs ls G hl
  exact lv_lstore_n F.1.1 F.1.2.1 d hi hl hn hs (fun ls hl => k H locs ls G hl)
theorem a_lstore (F : Ok cl WS NW T cc nL own ret ad l X) {i : Nat} {x : Int} {lv' : List (Nat × Value)} (d : decode cc pc = .ok (.lstore i, 2)) (hn : i + 1 < nL) (hs : (i, Value.long (Int64.ofInt x)) :: lv.filter (fun q => !(q.1 == i) && (!(q.1 == i + 1) && !(q.1 + 1 == i && q.2.category == 2))) = lv') (k : At cl T nL R ad X σ lv' st (pc + 2)) : At cl T nL R ad X σ lv (jv x :: st) pc := by
  obtain ⟨p, l', e, s, m, args, below, meth, c, Q, D, cs, A⟩ := X
  obtain ⟨rfl, F⟩ := F
  intro H locs ls G hl
  exact lv_lstore F.1.1 F.1.2.1 d hl hn hs (fun ls hl => k H locs ls G hl)
theorem a_aload_n (F : Ok cl WS NW T cc nL own ret ad l X) {n : Fin 4} {i : Nat} {x : Nat} (d : decode cc pc = .ok (.aload_n n, 1)) (hi : (n : Nat) = i) (j : Nat) (hj : lv[j]? = some (i, .ref x)) (k : At cl T nL R ad X σ lv (.ref x :: st) (pc + 1)) : At cl T nL R ad X σ lv st pc := by
  obtain ⟨p, l', e, s, m, args, below, meth, c, Q, D, cs, A⟩ := X
  obtain ⟨rfl, F⟩ := F
  intro H locs ls G hl
  exact lv_aload_n F.1.1 F.1.2.1 d hi (lv_at hl j hj) (k H locs ls G hl)
theorem a_aload (F : Ok cl WS NW T cc nL own ret ad l X) {i : Nat} {x : Nat} (d : decode cc pc = .ok (.aload i, 2)) (j : Nat) (hj : lv[j]? = some (i, .ref x)) (k : At cl T nL R ad X σ lv (.ref x :: st) (pc + 2)) : At cl T nL R ad X σ lv st pc := by
  obtain ⟨p, l', e, s, m, args, below, meth, c, Q, D, cs, A⟩ := X
  obtain ⟨rfl, F⟩ := F
  intro H locs ls G hl
  exact lv_aload F.1.1 F.1.2.1 d (lv_at hl j hj) (k H locs ls G hl)
theorem a_astore_n (F : Ok cl WS NW T cc nL own ret ad l X) {n : Fin 4} {i : Nat} {x : Nat} {lv' : List (Nat × Value)} (d : decode cc pc = .ok (.astore_n n, 1)) (hi : (n : Nat) = i) (hn : i < nL) (hs : (i, Value.ref x) :: lv.filter (fun q => !(q.1 == i) && !(q.1 + 1 == i && q.2.category == 2)) = lv') (k : At cl T nL R ad X σ lv' st (pc + 1)) : At cl T nL R ad X σ lv (.ref x :: st) pc := by
  obtain ⟨p, l', e, s, m, args, below, meth, c, Q, D, cs, A⟩ := X
  obtain ⟨rfl, F⟩ := F
  intro H locs ls G hl
  exact lv_astore_n F.1.1 F.1.2.1 d hi hl hn hs (fun ls hl => k H locs ls G hl)
theorem a_astore (F : Ok cl WS NW T cc nL own ret ad l X) {i : Nat} {x : Nat} {lv' : List (Nat × Value)} (d : decode cc pc = .ok (.astore i, 2)) (hn : i < nL) (hs : (i, Value.ref x) :: lv.filter (fun q => !(q.1 == i) && !(q.1 + 1 == i && q.2.category == 2)) = lv') (k : At cl T nL R ad X σ lv' st (pc + 2)) : At cl T nL R ad X σ lv (.ref x :: st) pc := by
  obtain ⟨p, l', e, s, m, args, below, meth, c, Q, D, cs, A⟩ := X
  obtain ⟨rfl, F⟩ := F
  intro H locs ls G hl
  exact lv_astore F.1.1 F.1.2.1 d hl hn hs (fun ls hl => k H locs ls G hl)
theorem a_iinc (F : Ok cl WS NW T cc nL own ret ad l X) {i : Nat} {n x : Int} {β : Type} {kont : Int → Option β} {y : β} (hf : jlet (x + n) kont = some y) (d : decode cc pc = .ok (.iinc i n, 3)) (j : Nat) (hj : lv[j]? = some (i, iv x)) (hn : i < nL) (kk : ∀ z, kont z = some y → ∃ lv', (i, Value.int (Int32.ofInt z)) :: lv.filter (fun q => !(q.1 == i) && !(q.1 + 1 == i && q.2.category == 2)) = lv' ∧ At cl T nL R ad X σ lv' st (pc + 3)) : At cl T nL R ad X σ lv st pc := by
  obtain ⟨lv', ee, k⟩ := kk _ hf
  obtain ⟨p, l', e, s, m, args, below, meth, c, Q, D, cs, A⟩ := X
  obtain ⟨rfl, F⟩ := F
  intro H locs ls G hl
  exact lv_iinc F.1.1 F.1.2.1 d hl hj (v := Int32.ofInt (x + n)) (by rw [Int32.ofInt_add]) hn ee (fun ls hl => k H locs ls G hl)
theorem a_goto (F : Ok cl WS NW T cc nL own ret ad l X) {off : Int} {tgt : Nat} (d : decode cc pc = .ok (.goto off, 3)) (ht : (pc : Int) + off = (tgt : Int)) (k : At cl T nL R ad X σ lv st tgt) : At cl T nL R ad X σ lv st pc := by
  obtain ⟨p, l', e, s, m, args, below, meth, c, Q, D, cs, A⟩ := X
  obtain ⟨rfl, F⟩ := F
  intro H locs ls G hl
  exact lv_goto F.1.1 F.1.2.1 d ht (k H locs ls G hl)
theorem a_dup (F : Ok cl WS NW T cc nL own ret ad l X) {v : Value} (d : decode cc pc = .ok (.dup, 1)) (hv : v.category = 1) (k : At cl T nL R ad X σ lv (v :: v :: st) (pc + 1)) : At cl T nL R ad X σ lv (v :: st) pc := by
  obtain ⟨p, l', e, s, m, args, below, meth, c, Q, D, cs, A⟩ := X
  obtain ⟨rfl, F⟩ := F
  intro H locs ls G hl
  exact lv_dup F.1.1 F.1.2.1 d hv (k H locs ls G hl)
theorem a_tableOut (F : Ok cl WS NW T cc nL own ret ad l X) {dflt lo hi : Int} {offs : Array Int} {len : Nat} {a : Int} {tgt : Nat} (ha : inI a) (d : decode cc pc = .ok (.tableswitch dflt lo hi offs, len)) (h : a < lo ∨ hi < a) (ht : (pc : Int) + dflt = (tgt : Int)) (k : At cl T nL R ad X σ lv st tgt) : At cl T nL R ad X σ lv (iv a :: st) pc := by
  obtain ⟨p, l', e, s, m, args, below, meth, c, Q, D, cs, A⟩ := X
  obtain ⟨rfl, F⟩ := F
  intro H locs ls G hl
  exact lv_tableOut F.1.1 F.1.2.1 d (by rw [oI ha]; exact h) ht (k H locs ls G hl)
theorem a_tableIn (F : Ok cl WS NW T cc nL own ret ad l X) {dflt lo hi : Int} {offs : Array Int} {len : Nat} {a off : Int} {tgt : Nat} (ha : inI a) (d : decode cc pc = .ok (.tableswitch dflt lo hi offs, len)) (h1 : ¬ a < lo) (h2 : ¬ hi < a) (ho : offs[(a - lo).toNat]? = some off) (ht : (pc : Int) + off = (tgt : Int)) (k : At cl T nL R ad X σ lv st tgt) : At cl T nL R ad X σ lv (iv a :: st) pc := by
  obtain ⟨p, l', e, s, m, args, below, meth, c, Q, D, cs, A⟩ := X
  obtain ⟨rfl, F⟩ := F
  intro H locs ls G hl
  exact lv_tableIn F.1.1 F.1.2.1 d (by rw [oI ha]; exact h1) (by rw [oI ha]; exact h2) (by rw [oI ha]; exact ho) ht (k H locs ls G hl)
theorem a_icmp_lt (F : Ok cl WS NW T cc nL own ret ad l X) {a b : Int} {β : Type} {Y Z : Option β} {y : β} (hf : jchk (inI a ∧ inI b) (if a < b then Y else Z) = some y) {off : Int} {tgt : Nat} (d : decode cc pc = .ok (.if_icmp .lt off, 3)) (ht : (pc : Int) + off = (tgt : Int)) (kt : Y = some y → At cl T nL R ad X σ lv st tgt) (kf : Z = some y → At cl T nL R ad X σ lv st (pc + 3)) : At cl T nL R ad X σ lv (iv b :: iv a :: st) pc := by
  obtain ⟨p, l', e, s, m, args, below, meth, c, Q, D, cs, A⟩ := X
  obtain ⟨rfl, F⟩ := F
  intro H locs ls G hl
  exact r_icmp_lt F hf d ht (fun h => kt h H locs ls G hl) (fun h => kf h H locs ls G hl)
theorem a_if_lt (F : Ok cl WS NW T cc nL own ret ad l X) {a : Int} {β : Type} {Y Z : Option β} {y : β} (hf : jchk (inI a) (if a < 0 then Y else Z) = some y) {off : Int} {tgt : Nat} (d : decode cc pc = .ok (.ifCond .lt off, 3)) (ht : (pc : Int) + off = (tgt : Int)) (kt : Y = some y → At cl T nL R ad X σ lv st tgt) (kf : Z = some y → At cl T nL R ad X σ lv st (pc + 3)) : At cl T nL R ad X σ lv (iv a :: st) pc := by
  obtain ⟨p, l', e, s, m, args, below, meth, c, Q, D, cs, A⟩ := X
  obtain ⟨rfl, F⟩ := F
  intro H locs ls G hl
  exact r_if_lt F hf d ht (fun h => kt h H locs ls G hl) (fun h => kf h H locs ls G hl)
theorem a_lcmp_lt (F : Ok cl WS NW T cc nL own ret ad l X) {a b : Int} {β : Type} {Y Z : Option β} {y : β} (hf : jchk (inL a ∧ inL b) (if a < b then Y else Z) = some y) {off : Int} {tgt : Nat} (d1 : decode cc pc = .ok (.lcmp, 1)) (d : decode cc (pc + 1) = .ok (.ifCond .lt off, 3)) (ht : ((pc + 1 : Nat) : Int) + off = (tgt : Int)) (kt : Y = some y → At cl T nL R ad X σ lv st tgt) (kf : Z = some y → At cl T nL R ad X σ lv st (pc + 1 + 3)) : At cl T nL R ad X σ lv (jv b :: jv a :: st) pc := by
  obtain ⟨p, l', e, s, m, args, below, meth, c, Q, D, cs, A⟩ := X
  obtain ⟨rfl, F⟩ := F
  intro H locs ls G hl
  exact r_lcmp_lt F hf d1 d ht (fun h => kt h H locs ls G hl) (fun h => kf h H locs ls G hl)
theorem a_icmp_ge (F : Ok cl WS NW T cc nL own ret ad l X) {a b : Int} {β : Type} {Y Z : Option β} {y : β} (hf : jchk (inI a ∧ inI b) (if a < b then Y else Z) = some y) {off : Int} {tgt : Nat} (d : decode cc pc = .ok (.if_icmp .ge off, 3)) (ht : (pc : Int) + off = (tgt : Int)) (kt : Y = some y → At cl T nL R ad X σ lv st (pc + 3)) (kf : Z = some y → At cl T nL R ad X σ lv st tgt) : At cl T nL R ad X σ lv (iv b :: iv a :: st) pc := by
  obtain ⟨p, l', e, s, m, args, below, meth, c, Q, D, cs, A⟩ := X
  obtain ⟨rfl, F⟩ := F
  intro H locs ls G hl
  exact r_icmp_ge F hf d ht (fun h => kt h H locs ls G hl) (fun h => kf h H locs ls G hl)
theorem a_if_ge (F : Ok cl WS NW T cc nL own ret ad l X) {a : Int} {β : Type} {Y Z : Option β} {y : β} (hf : jchk (inI a) (if a < 0 then Y else Z) = some y) {off : Int} {tgt : Nat} (d : decode cc pc = .ok (.ifCond .ge off, 3)) (ht : (pc : Int) + off = (tgt : Int)) (kt : Y = some y → At cl T nL R ad X σ lv st (pc + 3)) (kf : Z = some y → At cl T nL R ad X σ lv st tgt) : At cl T nL R ad X σ lv (iv a :: st) pc := by
  obtain ⟨p, l', e, s, m, args, below, meth, c, Q, D, cs, A⟩ := X
  obtain ⟨rfl, F⟩ := F
  intro H locs ls G hl
  exact r_if_ge F hf d ht (fun h => kt h H locs ls G hl) (fun h => kf h H locs ls G hl)
theorem a_lcmp_ge (F : Ok cl WS NW T cc nL own ret ad l X) {a b : Int} {β : Type} {Y Z : Option β} {y : β} (hf : jchk (inL a ∧ inL b) (if a < b then Y else Z) = some y) {off : Int} {tgt : Nat} (d1 : decode cc pc = .ok (.lcmp, 1)) (d : decode cc (pc + 1) = .ok (.ifCond .ge off, 3)) (ht : ((pc + 1 : Nat) : Int) + off = (tgt : Int)) (kt : Y = some y → At cl T nL R ad X σ lv st (pc + 1 + 3)) (kf : Z = some y → At cl T nL R ad X σ lv st tgt) : At cl T nL R ad X σ lv (jv b :: jv a :: st) pc := by
  obtain ⟨p, l', e, s, m, args, below, meth, c, Q, D, cs, A⟩ := X
  obtain ⟨rfl, F⟩ := F
  intro H locs ls G hl
  exact r_lcmp_ge F hf d1 d ht (fun h => kt h H locs ls G hl) (fun h => kf h H locs ls G hl)
theorem a_icmp_gt (F : Ok cl WS NW T cc nL own ret ad l X) {a b : Int} {β : Type} {Y Z : Option β} {y : β} (hf : jchk (inI a ∧ inI b) (if b < a then Y else Z) = some y) {off : Int} {tgt : Nat} (d : decode cc pc = .ok (.if_icmp .gt off, 3)) (ht : (pc : Int) + off = (tgt : Int)) (kt : Y = some y → At cl T nL R ad X σ lv st tgt) (kf : Z = some y → At cl T nL R ad X σ lv st (pc + 3)) : At cl T nL R ad X σ lv (iv b :: iv a :: st) pc := by
  obtain ⟨p, l', e, s, m, args, below, meth, c, Q, D, cs, A⟩ := X
  obtain ⟨rfl, F⟩ := F
  intro H locs ls G hl
  exact r_icmp_gt F hf d ht (fun h => kt h H locs ls G hl) (fun h => kf h H locs ls G hl)
theorem a_if_gt (F : Ok cl WS NW T cc nL own ret ad l X) {a : Int} {β : Type} {Y Z : Option β} {y : β} (hf : jchk (inI a) (if 0 < a then Y else Z) = some y) {off : Int} {tgt : Nat} (d : decode cc pc = .ok (.ifCond .gt off, 3)) (ht : (pc : Int) + off = (tgt : Int)) (kt : Y = some y → At cl T nL R ad X σ lv st tgt) (kf : Z = some y → At cl T nL R ad X σ lv st (pc + 3)) : At cl T nL R ad X σ lv (iv a :: st) pc := by
  obtain ⟨p, l', e, s, m, args, below, meth, c, Q, D, cs, A⟩ := X
  obtain ⟨rfl, F⟩ := F
  intro H locs ls G hl
  exact r_if_gt F hf d ht (fun h => kt h H locs ls G hl) (fun h => kf h H locs ls G hl)
theorem a_lcmp_gt (F : Ok cl WS NW T cc nL own ret ad l X) {a b : Int} {β : Type} {Y Z : Option β} {y : β} (hf : jchk (inL a ∧ inL b) (if b < a then Y else Z) = some y) {off : Int} {tgt : Nat} (d1 : decode cc pc = .ok (.lcmp, 1)) (d : decode cc (pc + 1) = .ok (.ifCond .gt off, 3)) (ht : ((pc + 1 : Nat) : Int) + off = (tgt : Int)) (kt : Y = some y → At cl T nL R ad X σ lv st tgt) (kf : Z = some y → At cl T nL R ad X σ lv st (pc + 1 + 3)) : At cl T nL R ad X σ lv (jv b :: jv a :: st) pc := by
  obtain ⟨p, l', e, s, m, args, below, meth, c, Q, D, cs, A⟩ := X
  obtain ⟨rfl, F⟩ := F
  intro H locs ls G hl
  exact r_lcmp_gt F hf d1 d ht (fun h => kt h H locs ls G hl) (fun h => kf h H locs ls G hl)
theorem a_icmp_le (F : Ok cl WS NW T cc nL own ret ad l X) {a b : Int} {β : Type} {Y Z : Option β} {y : β} (hf : jchk (inI a ∧ inI b) (if b < a then Y else Z) = some y) {off : Int} {tgt : Nat} (d : decode cc pc = .ok (.if_icmp .le off, 3)) (ht : (pc : Int) + off = (tgt : Int)) (kt : Y = some y → At cl T nL R ad X σ lv st (pc + 3)) (kf : Z = some y → At cl T nL R ad X σ lv st tgt) : At cl T nL R ad X σ lv (iv b :: iv a :: st) pc := by
  obtain ⟨p, l', e, s, m, args, below, meth, c, Q, D, cs, A⟩ := X
  obtain ⟨rfl, F⟩ := F
  intro H locs ls G hl
  exact r_icmp_le F hf d ht (fun h => kt h H locs ls G hl) (fun h => kf h H locs ls G hl)
theorem a_if_le (F : Ok cl WS NW T cc nL own ret ad l X) {a : Int} {β : Type} {Y Z : Option β} {y : β} (hf : jchk (inI a) (if 0 < a then Y else Z) = some y) {off : Int} {tgt : Nat} (d : decode cc pc = .ok (.ifCond .le off, 3)) (ht : (pc : Int) + off = (tgt : Int)) (kt : Y = some y → At cl T nL R ad X σ lv st (pc + 3)) (kf : Z = some y → At cl T nL R ad X σ lv st tgt) : At cl T nL R ad X σ lv (iv a :: st) pc := by
  obtain ⟨p, l', e, s, m, args, below, meth, c, Q, D, cs, A⟩ := X
  obtain ⟨rfl, F⟩ := F
  intro H locs ls G hl
  exact r_if_le F hf d ht (fun h => kt h H locs ls G hl) (fun h => kf h H locs ls G hl)
theorem a_lcmp_le (F : Ok cl WS NW T cc nL own ret ad l X) {a b : Int} {β : Type} {Y Z : Option β} {y : β} (hf : jchk (inL a ∧ inL b) (if b < a then Y else Z) = some y) {off : Int} {tgt : Nat} (d1 : decode cc pc = .ok (.lcmp, 1)) (d : decode cc (pc + 1) = .ok (.ifCond .le off, 3)) (ht : ((pc + 1 : Nat) : Int) + off = (tgt : Int)) (kt : Y = some y → At cl T nL R ad X σ lv st (pc + 1 + 3)) (kf : Z = some y → At cl T nL R ad X σ lv st tgt) : At cl T nL R ad X σ lv (jv b :: jv a :: st) pc := by
  obtain ⟨p, l', e, s, m, args, below, meth, c, Q, D, cs, A⟩ := X
  obtain ⟨rfl, F⟩ := F
  intro H locs ls G hl
  exact r_lcmp_le F hf d1 d ht (fun h => kt h H locs ls G hl) (fun h => kf h H locs ls G hl)
theorem a_icmp_eq (F : Ok cl WS NW T cc nL own ret ad l X) {a b : Int} {β : Type} {Y Z : Option β} {y : β} (hf : jchk (inI a ∧ inI b) (if a = b then Y else Z) = some y) {off : Int} {tgt : Nat} (d : decode cc pc = .ok (.if_icmp .eq off, 3)) (ht : (pc : Int) + off = (tgt : Int)) (kt : Y = some y → At cl T nL R ad X σ lv st tgt) (kf : Z = some y → At cl T nL R ad X σ lv st (pc + 3)) : At cl T nL R ad X σ lv (iv b :: iv a :: st) pc := by
  obtain ⟨p, l', e, s, m, args, below, meth, c, Q, D, cs, A⟩ := X
  obtain ⟨rfl, F⟩ := F
  intro H locs ls G hl
  exact r_icmp_eq F hf d ht (fun h => kt h H locs ls G hl) (fun h => kf h H locs ls G hl)
theorem a_if_eq (F : Ok cl WS NW T cc nL own ret ad l X) {a : Int} {β : Type} {Y Z : Option β} {y : β} (hf : jchk (inI a) (if a = 0 then Y else Z) = some y) {off : Int} {tgt : Nat} (d : decode cc pc = .ok (.ifCond .eq off, 3)) (ht : (pc : Int) + off = (tgt : Int)) (kt : Y = some y → At cl T nL R ad X σ lv st tgt) (kf : Z = some y → At cl T nL R ad X σ lv st (pc + 3)) : At cl T nL R ad X σ lv (iv a :: st) pc := by
  obtain ⟨p, l', e, s, m, args, below, meth, c, Q, D, cs, A⟩ := X
  obtain ⟨rfl, F⟩ := F
  intro H locs ls G hl
  exact r_if_eq F hf d ht (fun h => kt h H locs ls G hl) (fun h => kf h H locs ls G hl)
theorem a_lcmp_eq (F : Ok cl WS NW T cc nL own ret ad l X) {a b : Int} {β : Type} {Y Z : Option β} {y : β} (hf : jchk (inL a ∧ inL b) (if a = b then Y else Z) = some y) {off : Int} {tgt : Nat} (d1 : decode cc pc = .ok (.lcmp, 1)) (d : decode cc (pc + 1) = .ok (.ifCond .eq off, 3)) (ht : ((pc + 1 : Nat) : Int) + off = (tgt : Int)) (kt : Y = some y → At cl T nL R ad X σ lv st tgt) (kf : Z = some y → At cl T nL R ad X σ lv st (pc + 1 + 3)) : At cl T nL R ad X σ lv (jv b :: jv a :: st) pc := by
  obtain ⟨p, l', e, s, m, args, below, meth, c, Q, D, cs, A⟩ := X
  obtain ⟨rfl, F⟩ := F
  intro H locs ls G hl
  exact r_lcmp_eq F hf d1 d ht (fun h => kt h H locs ls G hl) (fun h => kf h H locs ls G hl)
theorem a_icmp_ne (F : Ok cl WS NW T cc nL own ret ad l X) {a b : Int} {β : Type} {Y Z : Option β} {y : β} (hf : jchk (inI a ∧ inI b) (if a = b then Y else Z) = some y) {off : Int} {tgt : Nat} (d : decode cc pc = .ok (.if_icmp .ne off, 3)) (ht : (pc : Int) + off = (tgt : Int)) (kt : Y = some y → At cl T nL R ad X σ lv st (pc + 3)) (kf : Z = some y → At cl T nL R ad X σ lv st tgt) : At cl T nL R ad X σ lv (iv b :: iv a :: st) pc := by
  obtain ⟨p, l', e, s, m, args, below, meth, c, Q, D, cs, A⟩ := X
  obtain ⟨rfl, F⟩ := F
  intro H locs ls G hl
  exact r_icmp_ne F hf d ht (fun h => kt h H locs ls G hl) (fun h => kf h H locs ls G hl)
theorem a_if_ne (F : Ok cl WS NW T cc nL own ret ad l X) {a : Int} {β : Type} {Y Z : Option β} {y : β} (hf : jchk (inI a) (if a = 0 then Y else Z) = some y) {off : Int} {tgt : Nat} (d : decode cc pc = .ok (.ifCond .ne off, 3)) (ht : (pc : Int) + off = (tgt : Int)) (kt : Y = some y → At cl T nL R ad X σ lv st (pc + 3)) (kf : Z = some y → At cl T nL R ad X σ lv st tgt) : At cl T nL R ad X σ lv (iv a :: st) pc := by
  obtain ⟨p, l', e, s, m, args, below, meth, c, Q, D, cs, A⟩ := X
  obtain ⟨rfl, F⟩ := F
  intro H locs ls G hl
  exact r_if_ne F hf d ht (fun h => kt h H locs ls G hl) (fun h => kf h H locs ls G hl)
theorem a_lcmp_ne (F : Ok cl WS NW T cc nL own ret ad l X) {a b : Int} {β : Type} {Y Z : Option β} {y : β} (hf : jchk (inL a ∧ inL b) (if a = b then Y else Z) = some y) {off : Int} {tgt : Nat} (d1 : decode cc pc = .ok (.lcmp, 1)) (d : decode cc (pc + 1) = .ok (.ifCond .ne off, 3)) (ht : ((pc + 1 : Nat) : Int) + off = (tgt : Int)) (kt : Y = some y → At cl T nL R ad X σ lv st (pc + 1 + 3)) (kf : Z = some y → At cl T nL R ad X σ lv st tgt) : At cl T nL R ad X σ lv (jv b :: jv a :: st) pc := by
  obtain ⟨p, l', e, s, m, args, below, meth, c, Q, D, cs, A⟩ := X
  obtain ⟨rfl, F⟩ := F
  intro H locs ls G hl
  exact r_lcmp_ne F hf d1 d ht (fun h => kt h H locs ls G hl) (fun h => kf h H locs ls G hl)
theorem a_getI (F : Ok cl WS NW T cc nL own ret ad l X) {k j ci : Nat} {sl : List (Nat × Nat)} {C : String} {Tt : u_T} {N index : Nat} {x : Nat} (hk : T[k]? = some (.inr (ci, sl))) (hj : sl[j]? = some (0, x)) (hc : cl[ci]? = some (C, Tt, N)) (hjN : j < N) (hin : ∀ w ∈ u_ws C Tt N, w ∈ WS) (hw : Cond.fieldLink own index (Tt j).1 (Tt j).2.1 (Tt j).2.2.1 ∈ WS) (d : decode cc pc = .ok (.getfield index, 3)) (kk : At cl T nL R ad X σ lv (iv (σ k j) :: st) (pc + 3)) : At cl T nL R ad X σ lv (.ref (ad k) :: st) pc := by
  obtain ⟨p, l', e, s, m, args, below, meth, c, Q, D, cs, A⟩ := X
  obtain ⟨rfl, F⟩ := F
  intro H locs ls G hl
  exact r_getI F G hk hj hc hjN hin hw d (kk H locs ls G hl)
theorem a_getJ (F : Ok cl WS NW T cc nL own ret ad l X) {k j ci : Nat} {sl : List (Nat × Nat)} {C : String} {Tt : u_T} {N index : Nat} {x : Nat} (hk : T[k]? = some (.inr (ci, sl))) (hj : sl[j]? = some (1, x)) (hc : cl[ci]? = some (C, Tt, N)) (hjN : j < N) (hin : ∀ w ∈ u_ws C Tt N, w ∈ WS) (hw : Cond.fieldLink own index (Tt j).1 (Tt j).2.1 (Tt j).2.2.1 ∈ WS) (d : decode cc pc = .ok (.getfield index, 3)) (kk : At cl T nL R ad X σ lv (jv (σ k j) :: st) (pc + 3)) : At cl T nL R ad X σ lv (.ref (ad k) :: st) pc := by
  obtain ⟨p, l', e, s, m, args, below, meth, c, Q, D, cs, A⟩ := X
  obtain ⟨rfl, F⟩ := F
  intro H locs ls G hl
  exact r_getJ F G hk hj hc hjN hin hw d (kk H locs ls G hl)
theorem a_getR (F : Ok cl WS NW T cc nL own ret ad l X) {k j ci : Nat} {sl : List (Nat × Nat)} {C : String} {Tt : u_T} {N index : Nat} {x : Nat} (hk : T[k]? = some (.inr (ci, sl))) (hj : sl[j]? = some (2, x)) (hc : cl[ci]? = some (C, Tt, N)) (hjN : j < N) (hin : ∀ w ∈ u_ws C Tt N, w ∈ WS) (hw : Cond.fieldLink own index (Tt j).1 (Tt j).2.1 (Tt j).2.2.1 ∈ WS) (d : decode cc pc = .ok (.getfield index, 3)) (kk : At cl T nL R ad X σ lv (.ref (ad x) :: st) (pc + 3)) : At cl T nL R ad X σ lv (.ref (ad k) :: st) pc := by
  obtain ⟨p, l', e, s, m, args, below, meth, c, Q, D, cs, A⟩ := X
  obtain ⟨rfl, F⟩ := F
  intro H locs ls G hl
  exact r_getR F G hk hj hc hjN hin hw d (kk H locs ls G hl)
theorem a_getV (F : Ok cl WS NW T cc nL own ret ad l X) {k j ci : Nat} {sl : List (Nat × Nat)} {C : String} {Tt : u_T} {N index : Nat} {x : Nat} (hk : T[k]? = some (.inr (ci, sl))) (hj : sl[j]? = some (3, x)) (hc : cl[ci]? = some (C, Tt, N)) (hjN : j < N) (hin : ∀ w ∈ u_ws C Tt N, w ∈ WS) (hw : Cond.fieldLink own index (Tt j).1 (Tt j).2.1 (Tt j).2.2.1 ∈ WS) (d : decode cc pc = .ok (.getfield index, 3)) (kk : At cl T nL R ad X σ lv (.ref (ad (σ k j).toNat) :: st) (pc + 3)) : At cl T nL R ad X σ lv (.ref (ad k) :: st) pc := by
  obtain ⟨p, l', e, s, m, args, below, meth, c, Q, D, cs, A⟩ := X
  obtain ⟨rfl, F⟩ := F
  intro H locs ls G hl
  exact r_getV F G hk hj hc hjN hin hw d (kk H locs ls G hl)
theorem a_putI (F : Ok cl WS NW T cc nL own ret ad l X) {k j ci : Nat} {sl : List (Nat × Nat)} {C : String} {Tt : u_T} {N index : Nat} {x : Nat} (hk : T[k]? = some (.inr (ci, sl))) (hj : sl[j]? = some (0, x)) (hc : cl[ci]? = some (C, Tt, N)) (hjN : j < N) (hin : ∀ w ∈ u_ws C Tt N, w ∈ WS) (hw : Cond.fieldLink own index (Tt j).1 (Tt j).2.1 (Tt j).2.2.1 ∈ WS) (ty0 : Nat → FieldType) (hty : ∀ k, k < N → parseFieldDescriptor (Tt k).2.2.1 = some (ty0 k)) (hnm : ∀ a, a < N → ∀ b, b < N → a ≠ b → (Tt a).2.1 ≠ (Tt b).2.1) (hfin : (Tt j).2.2.2 = false)  (hd : ty0 j = .int) {v : Int} {β : Type} {kont : St → Option β} {y : β} (hf : jlet (up2 σ k j v) kont = some y) (d : decode cc pc = .ok (.putfield index, 3)) (kk : ∀ σ', kont σ' = some y → At cl T nL R ad X σ' lv st (pc + 3)) : At cl T nL R ad X σ lv (iv v :: .ref (ad k) :: st) pc := by
  obtain ⟨p, l', e, s, m, args, below, meth, c, Q, D, cs, A⟩ := X
  obtain ⟨rfl, F⟩ := F
  intro H locs ls G hl
  exact r_putI F G hk hj hc hjN hin hw ty0 hty hnm hfin hd hf d (fun σ' H' locs' G' hf => kk σ' hf H' locs' ls G' hl)
theorem a_putJ (F : Ok cl WS NW T cc nL own ret ad l X) {k j ci : Nat} {sl : List (Nat × Nat)} {C : String} {Tt : u_T} {N index : Nat} {x : Nat} (hk : T[k]? = some (.inr (ci, sl))) (hj : sl[j]? = some (1, x)) (hc : cl[ci]? = some (C, Tt, N)) (hjN : j < N) (hin : ∀ w ∈ u_ws C Tt N, w ∈ WS) (hw : Cond.fieldLink own index (Tt j).1 (Tt j).2.1 (Tt j).2.2.1 ∈ WS) (ty0 : Nat → FieldType) (hty : ∀ k, k < N → parseFieldDescriptor (Tt k).2.2.1 = some (ty0 k)) (hnm : ∀ a, a < N → ∀ b, b < N → a ≠ b → (Tt a).2.1 ≠ (Tt b).2.1) (hfin : (Tt j).2.2.2 = false)  (hd : ty0 j = .long) {v : Int} {β : Type} {kont : St → Option β} {y : β} (hf : jlet (up2 σ k j v) kont = some y) (d : decode cc pc = .ok (.putfield index, 3)) (kk : ∀ σ', kont σ' = some y → At cl T nL R ad X σ' lv st (pc + 3)) : At cl T nL R ad X σ lv (jv v :: .ref (ad k) :: st) pc := by
  obtain ⟨p, l', e, s, m, args, below, meth, c, Q, D, cs, A⟩ := X
  obtain ⟨rfl, F⟩ := F
  intro H locs ls G hl
  exact r_putJ F G hk hj hc hjN hin hw ty0 hty hnm hfin hd hf d (fun σ' H' locs' G' hf => kk σ' hf H' locs' ls G' hl)
theorem a_putZ (F : Ok cl WS NW T cc nL own ret ad l X) {k j ci : Nat} {sl : List (Nat × Nat)} {C : String} {Tt : u_T} {N index : Nat} {x : Nat} (hk : T[k]? = some (.inr (ci, sl))) (hj : sl[j]? = some (0, x)) (hc : cl[ci]? = some (C, Tt, N)) (hjN : j < N) (hin : ∀ w ∈ u_ws C Tt N, w ∈ WS) (hw : Cond.fieldLink own index (Tt j).1 (Tt j).2.1 (Tt j).2.2.1 ∈ WS) (ty0 : Nat → FieldType) (hty : ∀ k, k < N → parseFieldDescriptor (Tt k).2.2.1 = some (ty0 k)) (hnm : ∀ a, a < N → ∀ b, b < N → a ≠ b → (Tt a).2.1 ≠ (Tt b).2.1) (hfin : (Tt j).2.2.2 = false)  (hd : ty0 j = .boolean) {v : Int} {β : Type} {kont : St → Option β} {y : β} (hf : jchk (v = 0 ∨ v = 1) (jlet (up2 σ k j v) kont) = some y) (d : decode cc pc = .ok (.putfield index, 3)) (kk : ∀ σ', kont σ' = some y → At cl T nL R ad X σ' lv st (pc + 3)) : At cl T nL R ad X σ lv (iv v :: .ref (ad k) :: st) pc := by
  obtain ⟨p, l', e, s, m, args, below, meth, c, Q, D, cs, A⟩ := X
  obtain ⟨rfl, F⟩ := F
  intro H locs ls G hl
  exact r_putZ F G hk hj hc hjN hin hw ty0 hty hnm hfin hd hf d (fun σ' H' locs' G' hf => kk σ' hf H' locs' ls G' hl)
theorem a_putV (F : Ok cl WS NW T cc nL own ret ad l X) {k j ci : Nat} {sl : List (Nat × Nat)} {C : String} {Tt : u_T} {N index : Nat} {x : Nat} (hk : T[k]? = some (.inr (ci, sl))) (hj : sl[j]? = some (3, x)) (hc : cl[ci]? = some (C, Tt, N)) (hjN : j < N) (hin : ∀ w ∈ u_ws C Tt N, w ∈ WS) (hw : Cond.fieldLink own index (Tt j).1 (Tt j).2.1 (Tt j).2.2.1 ∈ WS) (ty0 : Nat → FieldType) (hty : ∀ k, k < N → parseFieldDescriptor (Tt k).2.2.1 = some (ty0 k)) (hnm : ∀ a, a < N → ∀ b, b < N → a ≠ b → (Tt a).2.1 ≠ (Tt b).2.1) (hfin : (Tt j).2.2.2 = false) {OC : String} (hd : ty0 j = .object OC) {v : Nat} {β : Type} {kont : St → Option β} {y : β} (hf : jlet (up2 σ k j (v : Int)) kont = some y) (d : decode cc pc = .ok (.putfield index, 3)) (kk : ∀ σ', kont σ' = some y → At cl T nL R ad X σ' lv st (pc + 3)) : At cl T nL R ad X σ lv (.ref (ad v) :: .ref (ad k) :: st) pc := by
  obtain ⟨p, l', e, s, m, args, below, meth, c, Q, D, cs, A⟩ := X
  obtain ⟨rfl, F⟩ := F
  intro H locs ls G hl
  exact r_putV F G hk hj hc hjN hin hw ty0 hty hnm hfin hd hf d (fun σ' H' locs' G' hf => kk σ' hf H' locs' ls G' hl)
theorem a_iald (F : Ok cl WS NW T cc nL own ret ad l X) {k n : Nat} {N i : Int} (hk : T[k]? = some (.inl (0, n))) (hN : (n : Int) = N) (hn : n < 2147483648) {β : Type} {Y : Option β} {y : β} (hf : jchk (0 ≤ i ∧ i < N) Y = some y) (d : decode cc pc = .ok (.iaload, 1)) (kk : Y = some y → At cl T nL R ad X σ lv (iv (σ k i.toNat) :: st) (pc + 1)) : At cl T nL R ad X σ lv (iv i :: .ref (ad k) :: st) pc := by
  obtain ⟨p, l', e, s, m, args, below, meth, c, Q, D, cs, A⟩ := X
  obtain ⟨rfl, F⟩ := F
  intro H locs ls G hl
  exact r_iald F G hk hN hn hf d (fun hf => kk hf H locs ls G hl)
theorem a_iast (F : Ok cl WS NW T cc nL own ret ad l X) {k n : Nat} {N i v : Int} (hk : T[k]? = some (.inl (0, n))) (hN : (n : Int) = N) (hn : n < 2147483648) {β : Type} {kont : St → Option β} {y : β} (hf : jchk (0 ≤ i ∧ i < N) (jlet (up2 σ k i.toNat v) kont) = some y) (d : decode cc pc = .ok (.iastore, 1)) (kk : ∀ σ', kont σ' = some y → At cl T nL R ad X σ' lv st (pc + 1)) : At cl T nL R ad X σ lv (iv v :: iv i :: .ref (ad k) :: st) pc := by
  obtain ⟨p, l', e, s, m, args, below, meth, c, Q, D, cs, A⟩ := X
  obtain ⟨rfl, F⟩ := F
  intro H locs ls G hl
  exact r_iast F G hk hN hn hf d (fun σ' H' locs' G' hf => kk σ' hf H' locs' ls G' hl)
theorem a_lald (F : Ok cl WS NW T cc nL own ret ad l X) {k n : Nat} {N i : Int} (hk : T[k]? = some (.inl (1, n))) (hN : (n : Int) = N) (hn : n < 2147483648) {β : Type} {Y : Option β} {y : β} (hf : jchk (0 ≤ i ∧ i < N) Y = some y) (d : decode cc pc = .ok (.laload, 1)) (kk : Y = some y → At cl T nL R ad X σ lv (jv (σ k i.toNat) :: st) (pc + 1)) : At cl T nL R ad X σ lv (iv i :: .ref (ad k) :: st) pc := by
  obtain ⟨p, l', e, s, m, args, below, meth, c, Q, D, cs, A⟩ := X
  obtain ⟨rfl, F⟩ := F
  intro H locs ls G hl
  exact r_lald F G hk hN hn hf d (fun hf => kk hf H locs ls G hl)
theorem a_last (F : Ok cl WS NW T cc nL own ret ad l X) {k n : Nat} {N i v : Int} (hk : T[k]? = some (.inl (1, n))) (hN : (n : Int) = N) (hn : n < 2147483648) {β : Type} {kont : St → Option β} {y : β} (hf : jchk (0 ≤ i ∧ i < N) (jlet (up2 σ k i.toNat v) kont) = some y) (d : decode cc pc = .ok (.lastore, 1)) (kk : ∀ σ', kont σ' = some y → At cl T nL R ad X σ' lv st (pc + 1)) : At cl T nL R ad X σ lv (jv v :: iv i :: .ref (ad k) :: st) pc := by
  obtain ⟨p, l', e, s, m, args, below, meth, c, Q, D, cs, A⟩ := X
  obtain ⟨rfl, F⟩ := F
  intro H locs ls G hl
  exact r_last F G hk hN hn hf d (fun σ' H' locs' G' hf => kk σ' hf H' locs' ls G' hl)
theorem a_zald (F : Ok cl WS NW T cc nL own ret ad l X) {k n : Nat} {N i : Int} (hk : T[k]? = some (.inl (2, n))) (hN : (n : Int) = N) (hn : n < 2147483648) {β : Type} {Y : Option β} {y : β} (hf : jchk (0 ≤ i ∧ i < N) Y = some y) (d : decode cc pc = .ok (.baload, 1)) (kk : Y = some y → At cl T nL R ad X σ lv (iv (σ k i.toNat) :: st) (pc + 1)) : At cl T nL R ad X σ lv (iv i :: .ref (ad k) :: st) pc := by
  obtain ⟨p, l', e, s, m, args, below, meth, c, Q, D, cs, A⟩ := X
  obtain ⟨rfl, F⟩ := F
  intro H locs ls G hl
  exact r_zald F G hk hN hn hf d (fun hf => kk hf H locs ls G hl)
theorem a_zast (F : Ok cl WS NW T cc nL own ret ad l X) {k n : Nat} {N i v : Int} (hk : T[k]? = some (.inl (2, n))) (hN : (n : Int) = N) (hn : n < 2147483648) {β : Type} {kont : St → Option β} {y : β} (hf : jchk ((0 ≤ i ∧ i < N) ∧ (v = 0 ∨ v = 1)) (jlet (up2 σ k i.toNat v) kont) = some y) (d : decode cc pc = .ok (.bastore, 1)) (kk : ∀ σ', kont σ' = some y → At cl T nL R ad X σ' lv st (pc + 1)) : At cl T nL R ad X σ lv (iv v :: iv i :: .ref (ad k) :: st) pc := by
  obtain ⟨p, l', e, s, m, args, below, meth, c, Q, D, cs, A⟩ := X
  obtain ⟨rfl, F⟩ := F
  intro H locs ls G hl
  exact r_zast F G hk hN hn hf d (fun σ' H' locs' G' hf => kk σ' hf H' locs' ls G' hl)
theorem a_alenI (F : Ok cl WS NW T cc nL own ret ad l X) {k n : Nat} {N : Int} (hk : T[k]? = some (.inl (0, n))) (hN : (n : Int) = N) (d : decode cc pc = .ok (.arraylength, 1)) (kk : At cl T nL R ad X σ lv (iv N :: st) (pc + 1)) : At cl T nL R ad X σ lv (.ref (ad k) :: st) pc := by
  obtain ⟨p, l', e, s, m, args, below, meth, c, Q, D, cs, A⟩ := X
  obtain ⟨rfl, F⟩ := F
  intro H locs ls G hl
  exact r_alenI F G hk hN d (kk H locs ls G hl)
theorem a_alenJ (F : Ok cl WS NW T cc nL own ret ad l X) {k n : Nat} {N : Int} (hk : T[k]? = some (.inl (1, n))) (hN : (n : Int) = N) (d : decode cc pc = .ok (.arraylength, 1)) (kk : At cl T nL R ad X σ lv (iv N :: st) (pc + 1)) : At cl T nL R ad X σ lv (.ref (ad k) :: st) pc := by
  obtain ⟨p, l', e, s, m, args, below, meth, c, Q, D, cs, A⟩ := X
  obtain ⟨rfl, F⟩ := F
  intro H locs ls G hl
  exact r_alenJ F G hk hN d (kk H locs ls G hl)
theorem a_copyI (F : Ok cl WS NW T cc nL own ret ad l X) {k0 k1 n0 n1 index : Nat} {N0 N1 n dp sp : Int} (hk0 : T[k0]? = some (.inl (0, n0))) (hk1 : T[k1]? = some (.inl (0, n1))) (hN0 : (n0 : Int) = N0) (hN1 : (n1 : Int) = N1) (hn0 : n0 < 2147483648) (hn1 : n1 < 2147483648) (hw1 : Cond.methodLink own index arraycopyName ∈ WS) (hw2 : Cond.native arraycopyName ∈ WS) (hw3 : Cond.static arraycopyName ∈ WS) (hw4 : Cond.initialized "java/lang/System" ∈ WS) (hfr : 1 ≤ R.frames) (hlo : (st.map fun v => v.category).sum + (nativeFrameWords "java/lang/System" "arraycopy" 5 + 11) ≤ R.locals) {β : Type} {kont : St → Option β} {y : β} (hf : jchk (0 ≤ sp ∧ 0 ≤ dp ∧ 0 ≤ n ∧ sp + n ≤ N0 ∧ dp + n ≤ N1) (jlet (upr σ k1 (va_cpy (σ k0) (σ k1) sp.toNat dp.toNat n.toNat)) kont) = some y) (d : decode cc pc = .ok (.invokestatic index, 3)) (kk : ∀ σ', kont σ' = some y → At cl T nL R ad X σ' lv st (pc + 3)) : At cl T nL R ad X σ lv (iv n :: iv dp :: .ref (ad k1) :: iv sp :: .ref (ad k0) :: st) pc := by
  obtain ⟨p, l', e, s, m, args, below, meth, c, Q, D, cs, A⟩ := X
  obtain ⟨rfl, F⟩ := F
  intro H locs ls G hl
  exact r_copyI F G hl.1 hk0 hk1 hN0 hN1 hn0 hn1 hw1 hw2 hw3 hw4 hfr hlo hf d (fun σ' H' locs' G' hf => kk σ' hf H' locs' ls G' hl)
theorem a_mmax (F : Ok cl WS NW T cc nL own ret ad l X) {index : Nat} {a b : Int} (hw1 : Cond.methodLink own index Lib.Math.max.name ∈ WS) (hw2 : Cond.static Lib.Math.max.name ∈ WS) (hw3 : Cond.initialized "java/lang/Math" ∈ WS) (hw4 : Cond.code Lib.Math.max.name Lib.Math.max.code 2 (some .int) ∈ WS) (hfr : 1 ≤ R.frames) (hlo : (st.map fun v => v.category).sum + 13 ≤ R.locals) {β : Type} {Y : Option β} {y : β} (hf : jchk (inI a ∧ inI b) Y = some y) (d : decode cc pc = .ok (.invokestatic index, 3)) (kk : Y = some y → At cl T nL R ad X σ lv (iv (if a < b then b else a) :: st) (pc + 3)) : At cl T nL R ad X σ lv (iv b :: iv a :: st) pc := by
  obtain ⟨p, l', e, s, m, args, below, meth, c, Q, D, cs, A⟩ := X
  obtain ⟨rfl, F⟩ := F
  intro H locs ls G hl
  exact r_mmax F hl.1 hw1 hw2 hw3 hw4 hfr hlo hf d (fun hf => kk hf H locs ls G hl)
theorem a_mmin (F : Ok cl WS NW T cc nL own ret ad l X) {index : Nat} {a b : Int} (hw1 : Cond.methodLink own index Lib.Math.min.name ∈ WS) (hw2 : Cond.static Lib.Math.min.name ∈ WS) (hw3 : Cond.initialized "java/lang/Math" ∈ WS) (hw4 : Cond.code Lib.Math.min.name Lib.Math.min.code 2 (some .int) ∈ WS) (hfr : 1 ≤ R.frames) (hlo : (st.map fun v => v.category).sum + 13 ≤ R.locals) {β : Type} {Y : Option β} {y : β} (hf : jchk (inI a ∧ inI b) Y = some y) (d : decode cc pc = .ok (.invokestatic index, 3)) (kk : Y = some y → At cl T nL R ad X σ lv (iv (if b < a then b else a) :: st) (pc + 3)) : At cl T nL R ad X σ lv (iv b :: iv a :: st) pc := by
  obtain ⟨p, l', e, s, m, args, below, meth, c, Q, D, cs, A⟩ := X
  obtain ⟨rfl, F⟩ := F
  intro H locs ls G hl
  exact r_mmin F hl.1 hw1 hw2 hw3 hw4 hfr hlo hf d (fun hf => kk hf H locs ls G hl)
theorem a_mmax_long (F : Ok cl WS NW T cc nL own ret ad l X) {index : Nat} {a b : Int} (hw1 : Cond.methodLink own index Lib.MathLoose.max_long.x ∈ WS) (hw2 : Cond.static Lib.MathLoose.max_long.x ∈ WS) (hw3 : Cond.initialized "java/lang/Math" ∈ WS) (hw4 : Cond.code Lib.MathLoose.max_long.x Lib.MathLoose.max_long.code 4 (some .long) ∈ WS) (hfr : 1 ≤ R.frames) (hlo : (st.map fun v => v.category).sum + 15 ≤ R.locals) {β : Type} {Y : Option β} {y : β} (hf : jchk (inL a ∧ inL b) Y = some y) (d : decode cc pc = .ok (.invokestatic index, 3)) (kk : Y = some y → At cl T nL R ad X σ lv (jv (if b < a then a else b) :: st) (pc + 3)) : At cl T nL R ad X σ lv (jv b :: jv a :: st) pc := by
  obtain ⟨p, l', e, s, m, args, below, meth, c, Q, D, cs, A⟩ := X
  obtain ⟨rfl, F⟩ := F
  intro H locs ls G hl
  exact r_mmax_long F hl.1 hw1 hw2 hw3 hw4 hfr hlo hf d (fun hf => kk hf H locs ls G hl)
theorem a_mmin_long (F : Ok cl WS NW T cc nL own ret ad l X) {index : Nat} {a b : Int} (hw1 : Cond.methodLink own index Lib.MathLoose.min_long.x ∈ WS) (hw2 : Cond.static Lib.MathLoose.min_long.x ∈ WS) (hw3 : Cond.initialized "java/lang/Math" ∈ WS) (hw4 : Cond.code Lib.MathLoose.min_long.x Lib.MathLoose.min_long.code 4 (some .long) ∈ WS) (hfr : 1 ≤ R.frames) (hlo : (st.map fun v => v.category).sum + 15 ≤ R.locals) {β : Type} {Y : Option β} {y : β} (hf : jchk (inL a ∧ inL b) Y = some y) (d : decode cc pc = .ok (.invokestatic index, 3)) (kk : Y = some y → At cl T nL R ad X σ lv (jv (if b < a then b else a) :: st) (pc + 3)) : At cl T nL R ad X σ lv (jv b :: jv a :: st) pc := by
  obtain ⟨p, l', e, s, m, args, below, meth, c, Q, D, cs, A⟩ := X
  obtain ⟨rfl, F⟩ := F
  intro H locs ls G hl
  exact r_mmin_long F hl.1 hw1 hw2 hw3 hw4 hfr hlo hf d (fun hf => kk hf H locs ls G hl)
theorem a_mabs_long (F : Ok cl WS NW T cc nL own ret ad l X) {index : Nat} {a : Int} (hw1 : Cond.methodLink own index Lib.MathLoose.abs_long.x ∈ WS) (hw2 : Cond.static Lib.MathLoose.abs_long.x ∈ WS) (hw3 : Cond.initialized "java/lang/Math" ∈ WS) (hw4 : Cond.code Lib.MathLoose.abs_long.x Lib.MathLoose.abs_long.code 2 (some .long) ∈ WS) (hfr : 1 ≤ R.frames) (hlo : (st.map fun v => v.category).sum + 13 ≤ R.locals) {β : Type} {Y : Option β} {y : β} (hf : jchk (inL a) Y = some y) (d : decode cc pc = .ok (.invokestatic index, 3)) (kk : Y = some y → At cl T nL R ad X σ lv (jv (if 0 < a then a else -a) :: st) (pc + 3)) : At cl T nL R ad X σ lv (jv a :: st) pc := by
  obtain ⟨p, l', e, s, m, args, below, meth, c, Q, D, cs, A⟩ := X
  obtain ⟨rfl, F⟩ := F
  intro H locs ls G hl
  exact r_mabs_long F hl.1 hw1 hw2 hw3 hw4 hfr hlo hf d (fun hf => kk hf H locs ls G hl)
theorem a_tabL (F : Ok cl WS NW T cc nL own ret ad l X) (kk : ∀ (t : Nat), (∀ st pc index, Cond.fieldLink own index "WellMap" "LEAST_NUMBER" "[I" ∈ WS → decode cc pc = .ok (.getstatic index, 3) → At cl T nL R ad X σ lv (.ref t :: st) (pc + 3) → At cl T nL R ad X σ lv st pc) → (∀ st pc, decode cc pc = .ok (.arraylength, 1) → At cl T nL R ad X σ lv (iv 5 :: st) (pc + 1) → At cl T nL R ad X σ lv (.ref t :: st) pc) → (∀ (β : Type) (Y : Option β) (y : β) i st pc, jchk (0 ≤ i ∧ i < 5) Y = some y → decode cc pc = .ok (.iaload, 1) → (Y = some y → At cl T nL R ad X σ lv (iv (lstN i.toNat) :: st) (pc + 1)) → At cl T nL R ad X σ lv (iv i :: .ref t :: st) pc) → At cl T nL R ad X σ lv st pc) : At cl T nL R ad X σ lv st pc := by
  obtain ⟨p, l', e, s, m, args, below, meth, c, Q, D, cs, A⟩ := X
  obtain ⟨rfl, F⟩ := F
  obtain ⟨h1, t1, t2, z1, w1, z2, w2⟩ := F.2.2.2.2.2.2.2
  exact kk _ (fun st pc index hw d k H locs ls G hl => r_gets F G z1 hw d (k H locs ls G hl)) (fun st pc d k H locs ls G hl => r_tlen F G w1 rfl d (k H locs ls G hl)) (fun β Y y i st pc hf d k H locs ls G hl => r_tld F G w1 rfl (by decide) hf d (fun hf => k hf H locs ls G hl))
theorem a_tabM (F : Ok cl WS NW T cc nL own ret ad l X) (kk : ∀ (t : Nat), (∀ st pc index, Cond.fieldLink own index "WellMap" "MOST_NUMBER" "[I" ∈ WS → decode cc pc = .ok (.getstatic index, 3) → At cl T nL R ad X σ lv (.ref t :: st) (pc + 3) → At cl T nL R ad X σ lv st pc) → (∀ st pc, decode cc pc = .ok (.arraylength, 1) → At cl T nL R ad X σ lv (iv 5 :: st) (pc + 1) → At cl T nL R ad X σ lv (.ref t :: st) pc) → (∀ (β : Type) (Y : Option β) (y : β) i st pc, jchk (0 ≤ i ∧ i < 5) Y = some y → decode cc pc = .ok (.iaload, 1) → (Y = some y → At cl T nL R ad X σ lv (iv (mstN i.toNat) :: st) (pc + 1)) → At cl T nL R ad X σ lv (iv i :: .ref t :: st) pc) → At cl T nL R ad X σ lv st pc) : At cl T nL R ad X σ lv st pc := by
  obtain ⟨p, l', e, s, m, args, below, meth, c, Q, D, cs, A⟩ := X
  obtain ⟨rfl, F⟩ := F
  obtain ⟨h1, t1, t2, z1, w1, z2, w2⟩ := F.2.2.2.2.2.2.2
  exact kk _ (fun st pc index hw d k H locs ls G hl => r_gets F G z2 hw d (k H locs ls G hl)) (fun st pc d k H locs ls G hl => r_tlen F G w2 rfl d (k H locs ls G hl)) (fun β Y y i st pc hf d k H locs ls G hl => r_tld F G w2 rfl (by decide) hf d (fun hf => k hf H locs ls G hl))
theorem a_callVI (F : Ok cl WS NW T cc nL own ret ad l X) {y : MethodName} {bytes : ByteArray} {maxL n index : Nat} {rt : Option FieldType} {rm : Room} {as : (Nat → Nat) → List Value} {As st0 : List Value} (L : LinkV WS own index y bytes maxL rt n) {k ci : Nat} {sl : List (Nat × Nat)} {q : u_T × Nat} (hk : T[k]? = some (.inr (ci, sl))) (hci : cl[ci]? = some (y.cls, q)) {res : Option (Int × St)} (hC : CtrI cl WS NW T l y bytes maxL rt rm as σ res) (has : as ad = .ref (ad k) :: As) (hst : st0 = As.reverse ++ .ref (ad k) :: st) (hrm : rm.cells = 0 ∧ rm.slots = 0) (hR : rm.frames + 1 ≤ R.frames ∧ 8 + (maxL + 11) + rm.locals ≤ R.locals) (hn : As.length = n) (hroom : (st.map fun v => v.category).sum ≤ 8) (d : decode cc pc = .ok (.invokevirtual index, 3)) {β : Type} {kont : Int × St → Option β} {y0 : β} (hf : jbind res kont = some y0) (kk : ∀ v σ', kont (v, σ') = some y0 → At cl T nL R ad X σ' lv (iv v :: st) (pc + 3)) : At cl T nL R ad X σ lv st0 pc := by
  obtain ⟨p, l', e, s, m, args, below, meth, c, Q, D, cs, A⟩ := X
  obtain ⟨rfl, F⟩ := F
  intro H locs ls G hl
  exact r_callVI F G hl.1 L hk hci hC hrm hR hn has hst hroom d hf (fun v σ' H' locs' G' hf => kk v σ' hf H' locs' ls G' hl)
theorem a_callVIr (F : Ok cl WS NW T cc nL own ret ad l X) {y : MethodName} {bytes : ByteArray} {maxL n index : Nat} {rt : Option FieldType} {rm : Room} {as : (Nat → Nat) → List Value} {As st0 : List Value} (L : LinkV WS own index y bytes maxL rt n) {k ci : Nat} {sl : List (Nat × Nat)} {q : u_T × Nat} (hk : T[k]? = some (.inr (ci, sl))) (hci : cl[ci]? = some (y.cls, q)) {res : Option Int} (hC : CtrI cl WS NW T l y bytes maxL rt rm as σ (rd res σ)) (has : as ad = .ref (ad k) :: As) (hst : st0 = As.reverse ++ .ref (ad k) :: st) (hrm : rm.cells = 0 ∧ rm.slots = 0) (hR : rm.frames + 1 ≤ R.frames ∧ 8 + (maxL + 11) + rm.locals ≤ R.locals) (hn : As.length = n) (hroom : (st.map fun v => v.category).sum ≤ 8) (d : decode cc pc = .ok (.invokevirtual index, 3)) {β : Type} {kont : Int → Option β} {y0 : β} (hf : jbind res kont = some y0) (kk : ∀ v, kont v = some y0 → At cl T nL R ad X σ lv (iv v :: st) (pc + 3)) : At cl T nL R ad X σ lv st0 pc := by
  obtain ⟨p, l', e, s, m, args, below, meth, c, Q, D, cs, A⟩ := X
  obtain ⟨rfl, F⟩ := F
  intro H locs ls G hl
  exact r_callVIr F G hl.1 L hk hci hC hrm hR hn has hst hroom d hf (fun v H' locs' G' hf => kk v hf H' locs' ls G' hl)
theorem a_callVL (F : Ok cl WS NW T cc nL own ret ad l X) {y : MethodName} {bytes : ByteArray} {maxL n index : Nat} {rt : Option FieldType} {rm : Room} {as : (Nat → Nat) → List Value} {As st0 : List Value} (L : LinkV WS own index y bytes maxL rt n) {k ci : Nat} {sl : List (Nat × Nat)} {q : u_T × Nat} (hk : T[k]? = some (.inr (ci, sl))) (hci : cl[ci]? = some (y.cls, q)) {res : Option (Int × St)} (hC : CtrL cl WS NW T l y bytes maxL rt rm as σ res) (has : as ad = .ref (ad k) :: As) (hst : st0 = As.reverse ++ .ref (ad k) :: st) (hrm : rm.cells = 0 ∧ rm.slots = 0) (hR : rm.frames + 1 ≤ R.frames ∧ 8 + (maxL + 11) + rm.locals ≤ R.locals) (hn : As.length = n) (hroom : (st.map fun v => v.category).sum ≤ 8) (d : decode cc pc = .ok (.invokevirtual index, 3)) {β : Type} {kont : Int × St → Option β} {y0 : β} (hf : jbind res kont = some y0) (kk : ∀ v σ', kont (v, σ') = some y0 → At cl T nL R ad X σ' lv (jv v :: st) (pc + 3)) : At cl T nL R ad X σ lv st0 pc := by
  obtain ⟨p, l', e, s, m, args, below, meth, c, Q, D, cs, A⟩ := X
  obtain ⟨rfl, F⟩ := F
  intro H locs ls G hl
  exact r_callVL F G hl.1 L hk hci hC hrm hR hn has hst hroom d hf (fun v σ' H' locs' G' hf => kk v σ' hf H' locs' ls G' hl)
theorem a_callVLr (F : Ok cl WS NW T cc nL own ret ad l X) {y : MethodName} {bytes : ByteArray} {maxL n index : Nat} {rt : Option FieldType} {rm : Room} {as : (Nat → Nat) → List Value} {As st0 : List Value} (L : LinkV WS own index y bytes maxL rt n) {k ci : Nat} {sl : List (Nat × Nat)} {q : u_T × Nat} (hk : T[k]? = some (.inr (ci, sl))) (hci : cl[ci]? = some (y.cls, q)) {res : Option Int} (hC : CtrL cl WS NW T l y bytes maxL rt rm as σ (rd res σ)) (has : as ad = .ref (ad k) :: As) (hst : st0 = As.reverse ++ .ref (ad k) :: st) (hrm : rm.cells = 0 ∧ rm.slots = 0) (hR : rm.frames + 1 ≤ R.frames ∧ 8 + (maxL + 11) + rm.locals ≤ R.locals) (hn : As.length = n) (hroom : (st.map fun v => v.category).sum ≤ 8) (d : decode cc pc = .ok (.invokevirtual index, 3)) {β : Type} {kont : Int → Option β} {y0 : β} (hf : jbind res kont = some y0) (kk : ∀ v, kont v = some y0 → At cl T nL R ad X σ lv (jv v :: st) (pc + 3)) : At cl T nL R ad X σ lv st0 pc := by
  obtain ⟨p, l', e, s, m, args, below, meth, c, Q, D, cs, A⟩ := X
  obtain ⟨rfl, F⟩ := F
  intro H locs ls G hl
  exact r_callVLr F G hl.1 L hk hci hC hrm hR hn has hst hroom d hf (fun v H' locs' G' hf => kk v hf H' locs' ls G' hl)
theorem a_callVV (F : Ok cl WS NW T cc nL own ret ad l X) {y : MethodName} {bytes : ByteArray} {maxL n index : Nat} {rt : Option FieldType} {rm : Room} {as : (Nat → Nat) → List Value} {As st0 : List Value} (L : LinkV WS own index y bytes maxL rt n) {k ci : Nat} {sl : List (Nat × Nat)} {q : u_T × Nat} (hk : T[k]? = some (.inr (ci, sl))) (hci : cl[ci]? = some (y.cls, q)) {res : Option St} (hC : CtrV cl WS NW T l y bytes maxL rt rm as σ res) (has : as ad = .ref (ad k) :: As) (hst : st0 = As.reverse ++ .ref (ad k) :: st) (hrm : rm.cells = 0 ∧ rm.slots = 0) (hR : rm.frames + 1 ≤ R.frames ∧ 8 + (maxL + 11) + rm.locals ≤ R.locals) (hn : As.length = n) (hroom : (st.map fun v => v.category).sum ≤ 8) (d : decode cc pc = .ok (.invokevirtual index, 3)) {β : Type} {kont : St → Option β} {y0 : β} (hf : jbind res kont = some y0) (kk : ∀ σ', kont σ' = some y0 → At cl T nL R ad X σ' lv st (pc + 3)) : At cl T nL R ad X σ lv st0 pc := by
  obtain ⟨p, l', e, s, m, args, below, meth, c, Q, D, cs, A⟩ := X
  obtain ⟨rfl, F⟩ := F
  intro H locs ls G hl
  exact r_callVV F G hl.1 L hk hci hC hrm hR hn has hst hroom d hf (fun σ' H' locs' G' hf => kk σ' hf H' locs' ls G' hl)
theorem a_callSI (F : Ok cl WS NW T cc nL own ret ad l X) {y : MethodName} {bytes : ByteArray} {maxL n index : Nat} {rt : Option FieldType} {rm : Room} {as : (Nat → Nat) → List Value} {As st0 : List Value} (L : LinkS WS own index y bytes maxL rt n) {res : Option (Int × St)} (hC : CtrI cl WS NW T l y bytes maxL rt rm as σ res) (has : as ad = As) (hst : st0 = As.reverse ++ st) (hrm : rm.cells = 0 ∧ rm.slots = 0) (hR : rm.frames + 1 ≤ R.frames ∧ 8 + (maxL + 11) + rm.locals ≤ R.locals) (hn : As.length = n) (hroom : (st.map fun v => v.category).sum ≤ 8) (d : decode cc pc = .ok (.invokestatic index, 3)) {β : Type} {kont : Int × St → Option β} {y0 : β} (hf : jbind res kont = some y0) (kk : ∀ v σ', kont (v, σ') = some y0 → At cl T nL R ad X σ' lv (iv v :: st) (pc + 3)) : At cl T nL R ad X σ lv st0 pc := by
  obtain ⟨p, l', e, s, m, args, below, meth, c, Q, D, cs, A⟩ := X
  obtain ⟨rfl, F⟩ := F
  intro H locs ls G hl
  exact r_callSI F G hl.1 L hC hrm hR hn has hst hroom d hf (fun v σ' H' locs' G' hf => kk v σ' hf H' locs' ls G' hl)
theorem a_callSIr (F : Ok cl WS NW T cc nL own ret ad l X) {y : MethodName} {bytes : ByteArray} {maxL n index : Nat} {rt : Option FieldType} {rm : Room} {as : (Nat → Nat) → List Value} {As st0 : List Value} (L : LinkS WS own index y bytes maxL rt n) {res : Option Int} (hC : CtrI cl WS NW T l y bytes maxL rt rm as σ (rd res σ)) (has : as ad = As) (hst : st0 = As.reverse ++ st) (hrm : rm.cells = 0 ∧ rm.slots = 0) (hR : rm.frames + 1 ≤ R.frames ∧ 8 + (maxL + 11) + rm.locals ≤ R.locals) (hn : As.length = n) (hroom : (st.map fun v => v.category).sum ≤ 8) (d : decode cc pc = .ok (.invokestatic index, 3)) {β : Type} {kont : Int → Option β} {y0 : β} (hf : jbind res kont = some y0) (kk : ∀ v, kont v = some y0 → At cl T nL R ad X σ lv (iv v :: st) (pc + 3)) : At cl T nL R ad X σ lv st0 pc := by
  obtain ⟨p, l', e, s, m, args, below, meth, c, Q, D, cs, A⟩ := X
  obtain ⟨rfl, F⟩ := F
  intro H locs ls G hl
  exact r_callSIr F G hl.1 L hC hrm hR hn has hst hroom d hf (fun v H' locs' G' hf => kk v hf H' locs' ls G' hl)
theorem a_callSL (F : Ok cl WS NW T cc nL own ret ad l X) {y : MethodName} {bytes : ByteArray} {maxL n index : Nat} {rt : Option FieldType} {rm : Room} {as : (Nat → Nat) → List Value} {As st0 : List Value} (L : LinkS WS own index y bytes maxL rt n) {res : Option (Int × St)} (hC : CtrL cl WS NW T l y bytes maxL rt rm as σ res) (has : as ad = As) (hst : st0 = As.reverse ++ st) (hrm : rm.cells = 0 ∧ rm.slots = 0) (hR : rm.frames + 1 ≤ R.frames ∧ 8 + (maxL + 11) + rm.locals ≤ R.locals) (hn : As.length = n) (hroom : (st.map fun v => v.category).sum ≤ 8) (d : decode cc pc = .ok (.invokestatic index, 3)) {β : Type} {kont : Int × St → Option β} {y0 : β} (hf : jbind res kont = some y0) (kk : ∀ v σ', kont (v, σ') = some y0 → At cl T nL R ad X σ' lv (jv v :: st) (pc + 3)) : At cl T nL R ad X σ lv st0 pc := by
  obtain ⟨p, l', e, s, m, args, below, meth, c, Q, D, cs, A⟩ := X
  obtain ⟨rfl, F⟩ := F
  intro H locs ls G hl
  exact r_callSL F G hl.1 L hC hrm hR hn has hst hroom d hf (fun v σ' H' locs' G' hf => kk v σ' hf H' locs' ls G' hl)
theorem a_callSLr (F : Ok cl WS NW T cc nL own ret ad l X) {y : MethodName} {bytes : ByteArray} {maxL n index : Nat} {rt : Option FieldType} {rm : Room} {as : (Nat → Nat) → List Value} {As st0 : List Value} (L : LinkS WS own index y bytes maxL rt n) {res : Option Int} (hC : CtrL cl WS NW T l y bytes maxL rt rm as σ (rd res σ)) (has : as ad = As) (hst : st0 = As.reverse ++ st) (hrm : rm.cells = 0 ∧ rm.slots = 0) (hR : rm.frames + 1 ≤ R.frames ∧ 8 + (maxL + 11) + rm.locals ≤ R.locals) (hn : As.length = n) (hroom : (st.map fun v => v.category).sum ≤ 8) (d : decode cc pc = .ok (.invokestatic index, 3)) {β : Type} {kont : Int → Option β} {y0 : β} (hf : jbind res kont = some y0) (kk : ∀ v, kont v = some y0 → At cl T nL R ad X σ lv (jv v :: st) (pc + 3)) : At cl T nL R ad X σ lv st0 pc := by
  obtain ⟨p, l', e, s, m, args, below, meth, c, Q, D, cs, A⟩ := X
  obtain ⟨rfl, F⟩ := F
  intro H locs ls G hl
  exact r_callSLr F G hl.1 L hC hrm hR hn has hst hroom d hf (fun v H' locs' G' hf => kk v hf H' locs' ls G' hl)
theorem a_callSV (F : Ok cl WS NW T cc nL own ret ad l X) {y : MethodName} {bytes : ByteArray} {maxL n index : Nat} {rt : Option FieldType} {rm : Room} {as : (Nat → Nat) → List Value} {As st0 : List Value} (L : LinkS WS own index y bytes maxL rt n) {res : Option St} (hC : CtrV cl WS NW T l y bytes maxL rt rm as σ res) (has : as ad = As) (hst : st0 = As.reverse ++ st) (hrm : rm.cells = 0 ∧ rm.slots = 0) (hR : rm.frames + 1 ≤ R.frames ∧ 8 + (maxL + 11) + rm.locals ≤ R.locals) (hn : As.length = n) (hroom : (st.map fun v => v.category).sum ≤ 8) (d : decode cc pc = .ok (.invokestatic index, 3)) {β : Type} {kont : St → Option β} {y0 : β} (hf : jbind res kont = some y0) (kk : ∀ σ', kont σ' = some y0 → At cl T nL R ad X σ' lv st (pc + 3)) : At cl T nL R ad X σ lv st0 pc := by
  obtain ⟨p, l', e, s, m, args, below, meth, c, Q, D, cs, A⟩ := X
  obtain ⟨rfl, F⟩ := F
  intro H locs ls G hl
  exact r_callSV F G hl.1 L hC hrm hR hn has hst hroom d hf (fun σ' H' locs' G' hf => kk σ' hf H' locs' ls G' hl)
theorem a_callNI (F : Ok cl WS NW T cc nL own ret ad l X) {y : MethodName} {bytes : ByteArray} {maxL n index : Nat} {rt : Option FieldType} {rm : Room} {as : (Nat → Nat) → List Value} {As st0 : List Value} {host : String} (L : LinkN WS NW own index y host bytes maxL rt n) {res : Option (Int × St)} (hC : CtrI cl WS NW T l y bytes maxL rt rm as σ res) (has : as ad = As) (hst : st0 = As.reverse ++ st) (hrm : rm.cells = 0 ∧ rm.slots = 0) (hR : rm.frames + 1 ≤ R.frames ∧ 8 + (maxL + 11) + rm.locals ≤ R.locals) (hn : As.length = n) (hroom : (st.map fun v => v.category).sum ≤ 8) (d : decode cc pc = .ok (.invokestatic index, 3)) {β : Type} {kont : Int × St → Option β} {y0 : β} (hf : jbind res kont = some y0) (kk : ∀ v σ', kont (v, σ') = some y0 → At cl T nL R ad X σ' lv (iv v :: st) (pc + 3)) : At cl T nL R ad X σ lv st0 pc := by
  obtain ⟨p, l', e, s, m, args, below, meth, c, Q, D, cs, A⟩ := X
  obtain ⟨rfl, F⟩ := F
  intro H locs ls G hl
  exact r_callNI F G hl.1 L hC hrm hR hn has hst hroom d hf (fun v σ' H' locs' G' hf => kk v σ' hf H' locs' ls G' hl)
theorem a_callNIr (F : Ok cl WS NW T cc nL own ret ad l X) {y : MethodName} {bytes : ByteArray} {maxL n index : Nat} {rt : Option FieldType} {rm : Room} {as : (Nat → Nat) → List Value} {As st0 : List Value} {host : String} (L : LinkN WS NW own index y host bytes maxL rt n) {res : Option Int} (hC : CtrI cl WS NW T l y bytes maxL rt rm as σ (rd res σ)) (has : as ad = As) (hst : st0 = As.reverse ++ st) (hrm : rm.cells = 0 ∧ rm.slots = 0) (hR : rm.frames + 1 ≤ R.frames ∧ 8 + (maxL + 11) + rm.locals ≤ R.locals) (hn : As.length = n) (hroom : (st.map fun v => v.category).sum ≤ 8) (d : decode cc pc = .ok (.invokestatic index, 3)) {β : Type} {kont : Int → Option β} {y0 : β} (hf : jbind res kont = some y0) (kk : ∀ v, kont v = some y0 → At cl T nL R ad X σ lv (iv v :: st) (pc + 3)) : At cl T nL R ad X σ lv st0 pc := by
  obtain ⟨p, l', e, s, m, args, below, meth, c, Q, D, cs, A⟩ := X
  obtain ⟨rfl, F⟩ := F
  intro H locs ls G hl
  exact r_callNIr F G hl.1 L hC hrm hR hn has hst hroom d hf (fun v H' locs' G' hf => kk v hf H' locs' ls G' hl)
theorem a_callNL (F : Ok cl WS NW T cc nL own ret ad l X) {y : MethodName} {bytes : ByteArray} {maxL n index : Nat} {rt : Option FieldType} {rm : Room} {as : (Nat → Nat) → List Value} {As st0 : List Value} {host : String} (L : LinkN WS NW own index y host bytes maxL rt n) {res : Option (Int × St)} (hC : CtrL cl WS NW T l y bytes maxL rt rm as σ res) (has : as ad = As) (hst : st0 = As.reverse ++ st) (hrm : rm.cells = 0 ∧ rm.slots = 0) (hR : rm.frames + 1 ≤ R.frames ∧ 8 + (maxL + 11) + rm.locals ≤ R.locals) (hn : As.length = n) (hroom : (st.map fun v => v.category).sum ≤ 8) (d : decode cc pc = .ok (.invokestatic index, 3)) {β : Type} {kont : Int × St → Option β} {y0 : β} (hf : jbind res kont = some y0) (kk : ∀ v σ', kont (v, σ') = some y0 → At cl T nL R ad X σ' lv (jv v :: st) (pc + 3)) : At cl T nL R ad X σ lv st0 pc := by
  obtain ⟨p, l', e, s, m, args, below, meth, c, Q, D, cs, A⟩ := X
  obtain ⟨rfl, F⟩ := F
  intro H locs ls G hl
  exact r_callNL F G hl.1 L hC hrm hR hn has hst hroom d hf (fun v σ' H' locs' G' hf => kk v σ' hf H' locs' ls G' hl)
theorem a_callNLr (F : Ok cl WS NW T cc nL own ret ad l X) {y : MethodName} {bytes : ByteArray} {maxL n index : Nat} {rt : Option FieldType} {rm : Room} {as : (Nat → Nat) → List Value} {As st0 : List Value} {host : String} (L : LinkN WS NW own index y host bytes maxL rt n) {res : Option Int} (hC : CtrL cl WS NW T l y bytes maxL rt rm as σ (rd res σ)) (has : as ad = As) (hst : st0 = As.reverse ++ st) (hrm : rm.cells = 0 ∧ rm.slots = 0) (hR : rm.frames + 1 ≤ R.frames ∧ 8 + (maxL + 11) + rm.locals ≤ R.locals) (hn : As.length = n) (hroom : (st.map fun v => v.category).sum ≤ 8) (d : decode cc pc = .ok (.invokestatic index, 3)) {β : Type} {kont : Int → Option β} {y0 : β} (hf : jbind res kont = some y0) (kk : ∀ v, kont v = some y0 → At cl T nL R ad X σ lv (jv v :: st) (pc + 3)) : At cl T nL R ad X σ lv st0 pc := by
  obtain ⟨p, l', e, s, m, args, below, meth, c, Q, D, cs, A⟩ := X
  obtain ⟨rfl, F⟩ := F
  intro H locs ls G hl
  exact r_callNLr F G hl.1 L hC hrm hR hn has hst hroom d hf (fun v H' locs' G' hf => kk v hf H' locs' ls G' hl)
theorem a_callNV (F : Ok cl WS NW T cc nL own ret ad l X) {y : MethodName} {bytes : ByteArray} {maxL n index : Nat} {rt : Option FieldType} {rm : Room} {as : (Nat → Nat) → List Value} {As st0 : List Value} {host : String} (L : LinkN WS NW own index y host bytes maxL rt n) {res : Option St} (hC : CtrV cl WS NW T l y bytes maxL rt rm as σ res) (has : as ad = As) (hst : st0 = As.reverse ++ st) (hrm : rm.cells = 0 ∧ rm.slots = 0) (hR : rm.frames + 1 ≤ R.frames ∧ 8 + (maxL + 11) + rm.locals ≤ R.locals) (hn : As.length = n) (hroom : (st.map fun v => v.category).sum ≤ 8) (d : decode cc pc = .ok (.invokestatic index, 3)) {β : Type} {kont : St → Option β} {y0 : β} (hf : jbind res kont = some y0) (kk : ∀ σ', kont σ' = some y0 → At cl T nL R ad X σ' lv st (pc + 3)) : At cl T nL R ad X σ lv st0 pc := by
  obtain ⟨p, l', e, s, m, args, below, meth, c, Q, D, cs, A⟩ := X
  obtain ⟨rfl, F⟩ := F
  intro H locs ls G hl
  exact r_callNV F G hl.1 L hC hrm hR hn has hst hroom d hf (fun σ' H' locs' G' hf => kk σ' hf H' locs' ls G' hl)
theorem a_callVRr (F : Ok cl WS NW T cc nL own ret ad l X) {y : MethodName} {bytes : ByteArray} {maxL n index : Nat} {rt : Option FieldType} {rm : Room} {as : (Nat → Nat) → List Value} {As st0 : List Value} (L : LinkV WS own index y bytes maxL rt n) {k ci : Nat} {sl : List (Nat × Nat)} {q : u_T × Nat} (hk : T[k]? = some (.inr (ci, sl))) (hci : cl[ci]? = some (y.cls, q)) {res : Option Nat} (hC : CtrR cl WS NW T l y bytes maxL rt rm as σ (rd res σ)) (has : as ad = .ref (ad k) :: As) (hst : st0 = As.reverse ++ .ref (ad k) :: st) (hrm : rm.cells = 0 ∧ rm.slots = 0) (hR : rm.frames + 1 ≤ R.frames ∧ 8 + (maxL + 11) + rm.locals ≤ R.locals) (hn : As.length = n) (hroom : (st.map fun v => v.category).sum ≤ 8) (d : decode cc pc = .ok (.invokevirtual index, 3)) {β : Type} {kont : Nat → Option β} {y0 : β} (hf : jbind res kont = some y0) (kk : ∀ v, kont v = some y0 → At cl T nL R ad X σ lv (.ref (ad v) :: st) (pc + 3)) : At cl T nL R ad X σ lv st0 pc := by
  obtain ⟨p, l', e, s, m, args, below, meth, c, Q, D, cs, A⟩ := X
  obtain ⟨rfl, F⟩ := F
  intro H locs ls G hl
  exact r_callVRr F G hl.1 L hk hci hC hrm hR hn has hst hroom d hf (fun v H' locs' G' hf => kk v hf H' locs' ls G' hl)
def RetI (cl : List vw_C) (T : List Kd) (cc : ByteArray) (nL : Nat) (R : Room) (ad : Nat → Nat) (X : Cx) (v : Int) (σ : St) : Prop := ∀ (pc : Nat) (lv : List (Nat × Value)), decode cc pc = .ok (.ireturn, 1) → At cl T nL R ad X σ lv [iv v] pc
def RetL (cl : List vw_C) (T : List Kd) (cc : ByteArray) (nL : Nat) (R : Room) (ad : Nat → Nat) (X : Cx) (v : Int) (σ : St) : Prop := ∀ (pc : Nat) (lv : List (Nat × Value)), decode cc pc = .ok (.lreturn, 1) → At cl T nL R ad X σ lv [jv v] pc
def RetR (cl : List vw_C) (T : List Kd) (cc : ByteArray) (nL : Nat) (R : Room) (ad : Nat → Nat) (X : Cx) (v : Nat) (σ : St) : Prop := ∀ (pc : Nat) (lv : List (Nat × Value)), decode cc pc = .ok (.areturn, 1) → At cl T nL R ad X σ lv [.ref (ad v)] pc
def RetV (cl : List vw_C) (T : List Kd) (cc : ByteArray) (nL : Nat) (R : Room) (ad : Nat → Nat) (X : Cx) (σ : St) : Prop := ∀ (pc : Nat) (lv : List (Nat × Value)), decode cc pc = .ok (.return_, 1) → At cl T nL R ad X σ lv [] pc
theorem ctrI_of {y : MethodName} {rm : Room} {as : (Nat → Nat) → List Value} {res : Option (Int × St)} (hy : plainName y.cls = true) (hlen : ∀ ad, (lg_sl (as ad)).length ≤ nL) (body : ∀ (v : Int) (σ' : St) (ad : Nat → Nat) (X : Cx), res = some (v, σ') → Ok cl WS NW T cc nL y.cls (some .int) ad l X → RetI cl T cc nL rm ad X v σ' → At cl T nL rm ad X σ (lv_args 0 (as ad)) [] 0) : CtrI cl WS NW T l y cc nL (some .int) rm as σ res := by
  intro v σ' hres D cs ad sz
  refine met_of (Qc := fun sz => va_Qi (fun r u => r = Int32.ofInt v ∧ u = σ') (BU cl D cs ad T) (AW ad T.length sz)) hy (hlen ad) (fun w hw => List.mem_cons_of_mem _ hw) ?_
  intro p e s m below meth c ls F G hl
  exact body v σ' ad (p, l, e, s, m, (as ad).toArray, below, meth, c, _, D, cs, AW ad T.length s.heap.size) hres ⟨rfl, F⟩ (fun pc lv d H locs ls G hl => fin_I F G d) s.heap [] ls G hl
theorem ctrZ_of {y : MethodName} {rm : Room} {as : (Nat → Nat) → List Value} {res : Option (Int × St)} (hz : ∀ v σ', res = some (v, σ') → v = 0 ∨ v = 1) (hy : plainName y.cls = true) (hlen : ∀ ad, (lg_sl (as ad)).length ≤ nL) (body : ∀ (v : Int) (σ' : St) (ad : Nat → Nat) (X : Cx), res = some (v, σ') → Ok cl WS NW T cc nL y.cls (some .boolean) ad l X → RetI cl T cc nL rm ad X v σ' → At cl T nL rm ad X σ (lv_args 0 (as ad)) [] 0) : CtrI cl WS NW T l y cc nL (some .boolean) rm as σ res := by
  intro v σ' hres D cs ad sz
  refine met_of (Qc := fun sz => va_Qi (fun r u => r = Int32.ofInt v ∧ u = σ') (BU cl D cs ad T) (AW ad T.length sz)) hy (hlen ad) (fun w hw => List.mem_cons_of_mem _ hw) ?_
  intro p e s m below meth c ls F G hl
  exact body v σ' ad (p, l, e, s, m, (as ad).toArray, below, meth, c, _, D, cs, AW ad T.length s.heap.size) hres ⟨rfl, F⟩ (fun pc lv d H locs ls G hl => fin_Z F G (hz v σ' hres) d) s.heap [] ls G hl
theorem ctrL_of {y : MethodName} {rm : Room} {as : (Nat → Nat) → List Value} {res : Option (Int × St)} (hy : plainName y.cls = true) (hlen : ∀ ad, (lg_sl (as ad)).length ≤ nL) (body : ∀ (v : Int) (σ' : St) (ad : Nat → Nat) (X : Cx), res = some (v, σ') → Ok cl WS NW T cc nL y.cls (some .long) ad l X → RetL cl T cc nL rm ad X v σ' → At cl T nL rm ad X σ (lv_args 0 (as ad)) [] 0) : CtrL cl WS NW T l y cc nL (some .long) rm as σ res := by
  intro v σ' hres D cs ad sz
  refine met_of (Qc := fun sz => va_Ql (fun r u => r = Int64.ofInt v ∧ u = σ') (BU cl D cs ad T) (AW ad T.length sz)) hy (hlen ad) (fun w hw => List.mem_cons_of_mem _ hw) ?_
  intro p e s m below meth c ls F G hl
  exact body v σ' ad (p, l, e, s, m, (as ad).toArray, below, meth, c, _, D, cs, AW ad T.length s.heap.size) hres ⟨rfl, F⟩ (fun pc lv d H locs ls G hl => fin_L F G d) s.heap [] ls G hl
theorem ctrV_of {y : MethodName} {rm : Room} {as : (Nat → Nat) → List Value} {res : Option St} (hy : plainName y.cls = true) (hlen : ∀ ad, (lg_sl (as ad)).length ≤ nL) (body : ∀ (σ' : St) (ad : Nat → Nat) (X : Cx), res = some σ' → Ok cl WS NW T cc nL y.cls none ad l X → RetV cl T cc nL rm ad X σ' → At cl T nL rm ad X σ (lv_args 0 (as ad)) [] 0) : CtrV cl WS NW T l y cc nL none rm as σ res := by
  intro σ' hres D cs ad sz
  refine met_of (Qc := fun sz => va_Qv (fun u => u = σ') (BU cl D cs ad T) (AW ad T.length sz)) hy (hlen ad) (fun w hw => List.mem_cons_of_mem _ hw) ?_
  intro p e s m below meth c ls F G hl
  exact body σ' ad (p, l, e, s, m, (as ad).toArray, below, meth, c, _, D, cs, AW ad T.length s.heap.size) hres ⟨rfl, F⟩ (fun pc lv d H locs ls G hl => fin_V F G d) s.heap [] ls G hl
theorem ctrR_of {y : MethodName} {rm : Room} {as : (Nat → Nat) → List Value} {res : Option (Nat × St)} {OC : String} (hy : plainName y.cls = true) (hlen : ∀ ad, (lg_sl (as ad)).length ≤ nL) (body : ∀ (v : Nat) (σ' : St) (ad : Nat → Nat) (X : Cx), res = some (v, σ') → Ok cl WS NW T cc nL y.cls (some (.object OC)) ad l X → RetR cl T cc nL rm ad X v σ' → At cl T nL rm ad X σ (lv_args 0 (as ad)) [] 0) : CtrR cl WS NW T l y cc nL (some (.object OC)) rm as σ res := by
  intro v σ' hres D cs ad sz
  refine met_of (Qc := fun sz => va_Qr (fun u => u = σ') (fun u a t => a = ad v ∧ BU cl D cs ad T u t) (AW ad T.length sz)) hy (hlen ad) (fun w hw => List.mem_cons_of_mem _ hw) ?_
  intro p e s m below meth c ls F G hl
  exact body v σ' ad (p, l, e, s, m, (as ad).toArray, below, meth, c, _, D, cs, AW ad T.length s.heap.size) hres ⟨rfl, F⟩ (fun pc lv d H locs ls G hl => fin_R F G d) s.heap [] ls G hl
end AROWS
