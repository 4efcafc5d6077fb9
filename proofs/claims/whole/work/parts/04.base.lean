/-! ===== BASE 1: whole numbers, and the words that the pure functions are made of ===== -/
abbrev inI (a : Int) : Prop := -2147483648 ≤ a ∧ a < 2147483648
abbrev inL (a : Int) : Prop := -9223372036854775808 ≤ a ∧ a < 9223372036854775808
abbrev iv (a : Int) : Value := Value.int (Int32.ofInt a)
abbrev jv (a : Int) : Value := Value.long (Int64.ofInt a)
theorem oI {a : Int} (h : inI a) : (Int32.ofInt a).toInt = a := Int32.toInt_ofInt_of_le (by omega) (by omega)
theorem oL {a : Int} (h : inL a) : (Int64.ofInt a).toInt = a := Int64.toInt_ofInt_of_le (by omega) (by omega)
theorem oI_lt {a b : Int} (ha : inI a) (hb : inI b) : Int32.ofInt a < Int32.ofInt b ↔ a < b := by rw [Int32.lt_iff_toInt_lt, oI ha, oI hb]
theorem oI_le {a b : Int} (ha : inI a) (hb : inI b) : Int32.ofInt a ≤ Int32.ofInt b ↔ a ≤ b := by rw [Int32.le_iff_toInt_le, oI ha, oI hb]
theorem oI_eq {a b : Int} (ha : inI a) (hb : inI b) : Int32.ofInt a = Int32.ofInt b ↔ a = b := by rw [← Int32.toInt_inj, oI ha, oI hb]
theorem oL_lt {a b : Int} (ha : inL a) (hb : inL b) : Int64.ofInt a < Int64.ofInt b ↔ a < b := by rw [Int64.lt_iff_toInt_lt, oL ha, oL hb]
theorem oL_eq {a b : Int} (ha : inL a) (hb : inL b) : Int64.ofInt a = Int64.ofInt b ↔ a = b := by rw [← Int64.toInt_inj, oL ha, oL hb]
theorem oI_0 : Int32.ofInt 0 = 0 := by decide +kernel
theorem oL_0 : Int64.ofInt 0 = 0 := by decide +kernel
theorem oIL {a : Int} (h : inI a) : (Int32.ofInt a).toInt64 = Int64.ofInt a := by
  rw [← Int64.toInt_inj, Int32.toInt_toInt64, oI h, oL ⟨by omega, by omega⟩]
theorem oI_nat {a : Int} (h : inI a) : (Int32.ofInt a).toNatClampNeg = a.toNat := by
  show (Int32.ofInt a).toInt.toNat = a.toNat
  rw [oI h]
theorem oI_in {a : Int} {n : Nat} {N : Int} (hN : (n : Int) = N) (hn : n < 2147483648) (h : 0 ≤ a ∧ a < N) : vp_in (Int32.ofInt a) n ∧ (Int32.ofInt a).toNatClampNeg = a.toNat := by
  have hi : inI a := ⟨by omega, by omega⟩
  refine ⟨?_, oI_nat hi⟩
  intro q
  rcases q with q | q
  · rw [show (0 : Int32) = Int32.ofInt 0 from oI_0.symm, oI_lt hi ⟨by omega, by omega⟩] at q
    omega
  · rw [oI_nat hi] at q
    omega
abbrev St : Type := Nat → Nat → Int
def up1 (f : Nat → Int) (j : Nat) (v : Int) : Nat → Int := fun i => if i = j then v else f i
def upr (σ : St) (k : Nat) (g : Nat → Int) : St := fun i => if i = k then g else σ i
def up2 (σ : St) (k j : Nat) (v : Int) : St := upr σ k (up1 (σ k) j v)
def jchk {α : Type} (p : Prop) [Decidable p] (x : Option α) : Option α := if p then x else none
def jlet {α β : Type} (e : α) (k : α → β) : β := k e
def jbind {α β : Type} (x : Option α) (k : α → Option β) : Option β := match x with
  | some a => k a
  | none => none
def jloop {S E : Type} (body : S → Option (S ⊕ E)) : Nat → S → Option E
  | 0, _ => none
  | n + 1, s => match body s with
    | none => none
    | some (.inl s') => jloop body n s'
    | some (.inr e) => some e
theorem jchk_elim {α : Type} {p : Prop} [Decidable p] {x : Option α} {y : α} (h : jchk p x = some y) : p ∧ x = some y := by
  unfold jchk at h
  by_cases q : p
  · rw [if_pos q] at h; exact ⟨q, h⟩
  · rw [if_neg q] at h; cases h
theorem jbind_elim {α β : Type} {x : Option α} {k : α → Option β} {y : β} (h : jbind x k = some y) : ∃ a, x = some a ∧ k a = some y := by
  cases x with
  | none => cases h
  | some a => exact ⟨a, rfl, h⟩
theorem jchk_t {α : Type} {p : Prop} [Decidable p] {x : Option α} (h : p) : jchk p x = x := if_pos h
theorem jbind_s {α β : Type} {a : α} {k : α → Option β} : jbind (some a) k = k a := rfl
/-- operations of the machine that are no ring's -/
def jshl (a b : Int) : Int := (Int32.ofInt a <<< (Int32.ofInt b &&& 31)).toInt
def jshr (a b : Int) : Int := (Int32.ofInt a >>> (Int32.ofInt b &&& 31)).toInt
def jand (a b : Int) : Int := (Int32.ofInt a &&& Int32.ofInt b).toInt
def jor (a b : Int) : Int := (Int32.ofInt a ||| Int32.ofInt b).toInt
def jirem (a b : Int) : Int := (Int32.ofInt a - Int32.ofInt a / Int32.ofInt b * Int32.ofInt b).toInt
def jlshl (a b : Int) : Int := (Int64.ofInt a <<< ((Int32.ofInt b).toInt64 &&& 63)).toInt
def jlshr (a b : Int) : Int := (Int64.ofInt a >>> ((Int32.ofInt b).toInt64 &&& 63)).toInt
def jland (a b : Int) : Int := (Int64.ofInt a &&& Int64.ofInt b).toInt
def jlor (a b : Int) : Int := (Int64.ofInt a ||| Int64.ofInt b).toInt
def jldiv (a b : Int) : Int := (Int64.ofInt a / Int64.ofInt b).toInt
def jlrem (a b : Int) : Int := (Int64.ofInt a - Int64.ofInt a / Int64.ofInt b * Int64.ofInt b).toInt

/-! ===== BASE 2: the cells of a side, by their numbers ===== -/
abbrev Kd : Type := (Nat × Nat) ⊕ (Nat × List (Nat × Nat))
def sv (ad : Nat → Nat) (t : Nat × Nat) (v : Int) : Value := match t.1 with
  | 0 => .int (Int32.ofInt v)
  | 1 => .long (Int64.ofInt v)
  | 2 => .ref (ad t.2)
  | _ => .ref (ad v.toNat)
def ce (cs : Nat → ClassId) (ad : Nat → Nat) (t : Kd) (f : Nat → Int) : va_E := match t with
  | .inl (0, n) => .inl (cs 0, n, .inl (fun j => Int32.ofInt (f j)))
  | .inl (1, n) => .inl (cs 1, n, .inr (.inl (fun j => Int64.ofInt (f j))))
  | .inl (_, n) => .inl (cs 2, n, .inl (fun j => Int32.ofInt (f j)))
  | .inr (ci, sl) => .inr (ci, sl.mapIdx (fun j t => sv ad t (f j)))
def wd (cs : Nat → ClassId) (ad : Nat → Nat) (T : List Kd) (σ : St) : va_W := T.mapIdx (fun k t => (ad k, ce cs ad t (σ k)))
def tyL (cs : Nat → ClassId) : List (ClassId × FieldType) := [(cs 0, .int), (cs 1, .long), (cs 2, .boolean)]
theorem wd_get {cs : Nat → ClassId} {ad : Nat → Nat} {T : List Kd} {σ : St} {k : Nat} {t : Kd} (h : T[k]? = some t) : (wd cs ad T σ)[k]? = some (ad k, ce cs ad t (σ k)) := by
  unfold wd
  rw [List.getElem?_mapIdx, h]
  rfl
theorem wd_inv {cs : Nat → ClassId} {ad : Nat → Nat} {T : List Kd} {σ : St} {k : Nat} {q : Nat × va_E} (h : (wd cs ad T σ)[k]? = some q) : k < T.length ∧ q.1 = ad k := by
  unfold wd at h
  rw [List.getElem?_mapIdx] at h
  cases ht : T[k]? with
  | none => rw [ht] at h; cases h
  | some t =>
    rw [ht] at h
    cases h
    exact ⟨(List.getElem?_eq_some_iff.mp ht).1, rfl⟩
theorem wd_set {cs : Nat → ClassId} {ad : Nat → Nat} {T : List Kd} {σ : St} {k : Nat} {t : Kd} {g : Nat → Int} {e : va_E} (h : T[k]? = some t) (he : ce cs ad t g = e) : (wd cs ad T σ).set k (ad k, e) = wd cs ad T (upr σ k g) := by
  have hk : k < T.length := (List.getElem?_eq_some_iff.mp h).1
  refine List.ext_getElem? (fun i => ?_)
  by_cases hi : i = k
  · subst hi
    rw [List.getElem?_set_self (by unfold wd; rw [List.length_mapIdx]; exact hk), wd_get h, ← he]
    simp [upr]
  · rw [List.getElem?_set_ne (fun q => hi q.symm)]
    unfold wd
    rw [List.getElem?_mapIdx, List.getElem?_mapIdx]
    simp [upr, hi]
theorem wd_len {cs : Nat → ClassId} {ad : Nat → Nat} {T : List Kd} {σ : St} : (wd cs ad T σ).length = T.length := by unfold wd; rw [List.length_mapIdx]
/-- the cells that a side may change -/
def AW (ad : Nat → Nat) (n sz : Nat) : Nat → Prop := fun q => (∃ k, k < n ∧ q = ad k) ∨ sz ≤ q
def adI (ad : Nat → Nat) (n : Nat) : Prop := ∀ i j, i < n → j < n → ad i = ad j → i = j
theorem wd_D {cs : Nat → ClassId} {ad : Nat → Nat} {T : List Kd} {σ : St} {A : Nat → Prop} (h : adI ad T.length) (hA : ∀ k, k < T.length → A (ad k)) : va_D A (wd cs ad T σ) := by
  refine ⟨fun i j p q hp hq e => ?_, fun k q hq => ?_⟩
  · obtain ⟨a1, a2⟩ := wd_inv hp
    obtain ⟨b1, b2⟩ := wd_inv hq
    exact h i j a1 b1 (by rw [← a2, ← b2]; exact e)
  · obtain ⟨a1, a2⟩ := wd_inv hq
    rw [a2]; exact hA k a1
theorem sl_set {ad : Nat → Nat} {sl : List (Nat × Nat)} {f : Nat → Int} {j : Nat} {t : Nat × Nat} {v : Int} {w : Value} (hj : sl[j]? = some t) (hv : sv ad t v = w) : (sl.mapIdx (fun i t => sv ad t (f i))).set j w = sl.mapIdx (fun i t => sv ad t (up1 f j v i)) := by
  have hk : j < sl.length := (List.getElem?_eq_some_iff.mp hj).1
  refine List.ext_getElem? (fun i => ?_)
  by_cases hi : i = j
  · subst hi
    rw [List.getElem?_set_self (by rw [List.length_mapIdx]; exact hk), List.getElem?_mapIdx, hj, ← hv]
    simp [up1]
  · rw [List.getElem?_set_ne (fun q => hi q.symm), List.getElem?_mapIdx, List.getElem?_mapIdx]
    simp [up1, hi]
theorem sl_get {ad : Nat → Nat} {sl : List (Nat × Nat)} {f : Nat → Int} {j : Nat} {t : Nat × Nat} (hj : sl[j]? = some t) : (sl.mapIdx (fun i t => sv ad t (f i)))[j]? = some (sv ad t (f j)) := by
  rw [List.getElem?_mapIdx, hj]; rfl
