/-! ===== the pure side 10: bounds, folds over the wells that count ===== -/
theorem sq_nn (a : Int) : 0 ≤ a * a := by
  rcases Int.le_total 0 a with h | h
  · exact Int.mul_nonneg h h
  · exact Int.mul_nonneg_of_nonpos_of_nonpos h h
theorem mul_bd {a b A B : Int} (h1 : -A ≤ a) (h2 : a ≤ A) (h3 : -B ≤ b) (h4 : b ≤ B) : -(A * B) ≤ a * b ∧ a * b ≤ A * B := by
  have hA : 0 ≤ A := by omega
  have hB : 0 ≤ B := by omega
  have p1 := Int.mul_nonneg (show 0 ≤ A - a by omega) (show 0 ≤ B + b by omega)
  have p2 := Int.mul_nonneg (show 0 ≤ A + a by omega) (show 0 ≤ B - b by omega)
  have p3 := Int.mul_nonneg (show 0 ≤ A - a by omega) (show 0 ≤ B - b by omega)
  have p4 := Int.mul_nonneg (show 0 ≤ A + a by omega) (show 0 ≤ B + b by omega)
  grind
theorem sq_bd {a A : Int} (h1 : -A ≤ a) (h2 : a ≤ A) : 0 ≤ a * a ∧ a * a ≤ A * A := ⟨sq_nn a, (mul_bd h1 h2 h1 h2).2⟩
/-- the component's loops over the wells that count, by an invariant over all wells -/
theorem loopC {T E : Type} {body : T → Option (T ⊕ E)} (p : Nat → Bool) (I : Nat → T → Prop) (J : E → Prop) (hs : ∀ w s, w < 24 → p w = true → I w s → (∃ s', body s = some (.inl s') ∧ I (w + 1) s') ∨ (∃ e, body s = some (.inr e) ∧ J e)) (hn : ∀ w s, w < 24 → p w = false → I w s → I (w + 1) s) (he : ∀ s, I 24 s → ∃ e, body s = some (.inr e) ∧ J e) : ∀ (m w fuel : Nat) (s : T), w + m = 24 → m < fuel → I w s → ∃ e, jloop body fuel s = some e ∧ J e
  | 0, w, fuel, s, h, hf, hI => by
    obtain ⟨f, rfl⟩ : ∃ f, fuel = f + 1 := ⟨fuel - 1, by omega⟩
    have hi : w = 24 := by omega
    subst hi
    obtain ⟨e, h1, h2⟩ := he s hI
    exact ⟨e, by unfold jloop; rw [h1], h2⟩
  | m + 1, w, fuel, s, h, hf, hI => by
    cases hp : p w with
    | false => exact loopC p I J hs hn he m (w + 1) fuel s (by omega) (by omega) (hn w s (by omega) hp hI)
    | true =>
      obtain ⟨f, rfl⟩ : ∃ f, fuel = f + 1 := ⟨fuel - 1, by omega⟩
      rcases hs w s (by omega) hp hI with ⟨s', h1, h2⟩ | ⟨e, h1, h2⟩
      · obtain ⟨e, h3, h4⟩ := loopC p I J hs hn he m (w + 1) f s' (by omega) (by omega) h2
        exact ⟨e, by unfold jloop; rw [h1]; exact h3, h4⟩
      · exact ⟨e, by unfold jloop; rw [h1], h2⟩
/-- a loop's end is one -/
theorem some_of {E : Type} {x : Option E} {J : E → Prop} {e : E} (h : ∃ e', x = some e' ∧ J e') (hJ : ∀ e', J e' → e' = e) : x = some e := by
  obtain ⟨e', h1, h2⟩ := h
  rw [h1, hJ e' h2]
/-- sets of wells as numbers -/
def nb (S : Nat → Bool) : Nat → Nat
  | 0 => 0
  | n + 1 => nb S n + (if S n = true then 2 ^ n else 0)
theorem nb_t {S : Nat → Bool} {n : Nat} (h : S n = true) : nb S (n + 1) = nb S n + 2 ^ n := by simp [nb, h]
theorem nb_f {S : Nat → Bool} {n : Nat} (h : S n = false) : nb S (n + 1) = nb S n := by simp [nb, h]
theorem nb_lt (S : Nat → Bool) : ∀ n, nb S n < 2 ^ n
  | 0 => Nat.one_pos
  | n + 1 => by
    have ih := nb_lt S n
    have e : 2 ^ (n + 1) = 2 ^ n + 2 ^ n := by rw [Nat.pow_succ]; omega
    cases h : S n with
    | true => rw [nb_t h]; omega
    | false => rw [nb_f h]; omega
theorem nb_cong {S S' : Nat → Bool} : ∀ {n : Nat}, (∀ k, k < n → S k = S' k) → nb S n = nb S' n
  | 0, _ => rfl
  | n + 1, h => by
    have ih := nb_cong (n := n) (fun k hk => h k (by omega))
    cases c : S n with
    | true => rw [nb_t c, nb_t (by rw [← h n (by omega)]; exact c), ih]
    | false => rw [nb_f c, nb_f (by rw [← h n (by omega)]; exact c), ih]
theorem nb_inj {S S' : Nat → Bool} : ∀ {n : Nat}, nb S n = nb S' n → ∀ k, k < n → S k = S' k
  | 0, _, k, hk => absurd hk (Nat.not_lt_zero k)
  | n + 1, h, k, hk => by
    have l1 := nb_lt S n
    have l2 := nb_lt S' n
    cases c : S n with
    | true =>
      cases c' : S' n with
      | true =>
        rw [nb_t c, nb_t c'] at h
        by_cases e : k = n
        · rw [e, c, c']
        · exact nb_inj (n := n) (by omega) k (by omega)
      | false =>
        rw [nb_t c, nb_f c'] at h
        omega
    | false =>
      cases c' : S' n with
      | true =>
        rw [nb_f c, nb_t c'] at h
        omega
      | false =>
        rw [nb_f c, nb_f c'] at h
        by_cases e : k = n
        · rw [e, c, c']
        · exact nb_inj (n := n) h k (by omega)
theorem nb_mod (S : Nat → Bool) (w : Nat) : ∀ m, nb S (w + m) % 2 ^ w = nb S w
  | 0 => Nat.mod_eq_of_lt (nb_lt S w)
  | m + 1 => by
    have ih := nb_mod S w m
    have e : 2 ^ (w + m) = 2 ^ w * 2 ^ m := Nat.pow_add 2 w m
    show nb S (w + m + 1) % 2 ^ w = nb S w
    cases c : S (w + m) with
    | true => rw [nb_t c, e, Nat.add_mul_mod_self_left, ih]
    | false => rw [nb_f c, ih]
theorem nb_zero {S : Nat → Bool} {n : Nat} (h : ∀ k, k < n → S k = false) : nb S n = 0 := by
  induction n with
  | zero => rfl
  | succ n ih => rw [nb_f (h n (by omega)), ih (fun k hk => h k (by omega))]
theorem nb_pos {S : Nat → Bool} {n k : Nat} (hk : k < n) (h : S k = true) : nb S n ≠ 0 := by
  intro z
  have := nb_inj (S := S) (S' := fun _ => false) (n := n) (by rw [z, nb_zero (fun _ _ => rfl)]) k hk
  rw [h] at this
  cases this
theorem bv_n {a : Nat} (ha : a < 2147483648) : (Int32.ofInt (a : Int)).toBitVec.toNat = a := by
  rw [Int32.toBitVec_ofInt, BitVec.toNat_ofInt]
  omega
theorem jor_n {a b : Nat} (ha : a < 2147483648) (hb : b < 2147483648) : jor (a : Int) (b : Int) = ((a ||| b : Nat) : Int) := by
  have e : ((Int32.ofInt (a : Int)) ||| (Int32.ofInt (b : Int))).toBitVec.toNat = a ||| b := by
    rw [Int32.toBitVec_or, BitVec.toNat_or, bv_n ha, bv_n hb]
  have l : a ||| b < 2 ^ 31 := Nat.or_lt_two_pow ha hb
  unfold jor
  rw [← Int32.toInt_toBitVec, BitVec.toInt_eq_toNat_of_lt (by rw [e]; omega), e]
theorem jand_n {a b : Nat} (ha : a < 2147483648) (hb : b < 2147483648) : jand (a : Int) (b : Int) = ((a &&& b : Nat) : Int) := by
  have e : ((Int32.ofInt (a : Int)) &&& (Int32.ofInt (b : Int))).toBitVec.toNat = a &&& b := by
    rw [Int32.toBitVec_and, BitVec.toNat_and, bv_n ha, bv_n hb]
  have l : a &&& b < 2 ^ 31 := Nat.and_lt_two_pow a hb
  unfold jand
  rw [← Int32.toInt_toBitVec, BitVec.toInt_eq_toNat_of_lt (by rw [e]; omega), e]
theorem jshl_n : ∀ w : Nat, w < 24 → jshl 1 (w : Int) = ((2 ^ w : Nat) : Int) := by decide
theorem pw_lt {w : Nat} (hw : w < 24) : 2 ^ w < 2147483648 := Nat.lt_of_lt_of_le (Nat.pow_lt_pow_right (by omega) hw) (by decide)
theorem jor_nb {S : Nat → Bool} {w : Nat} (hw : w < 24) (h : S w = true) : jor ((nb S w : Nat) : Int) (jshl 1 (w : Int)) = ((nb S (w + 1) : Nat) : Int) := by
  have l := nb_lt S w
  have l2 := pw_lt hw
  rw [jshl_n w hw, jor_n (by omega) l2, nb_t h]
  have := Nat.two_pow_add_eq_or_of_lt l 1
  rw [Nat.mul_one] at this
  rw [Nat.or_comm, ← this, Nat.add_comm]
