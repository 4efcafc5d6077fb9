/-! ===== the pure side 2: loops by invariants; counting ===== -/
/-- a loop of N rounds, then out -/
theorem jloop_ex {S E : Type} {body : S → Option (S ⊕ E)} (I : Nat → S → Prop) (N : Nat) (J : E → Prop) (hs : ∀ i s, i < N → I i s → ∃ s', body s = some (.inl s') ∧ I (i + 1) s') (he : ∀ s, I N s → ∃ e, body s = some (.inr e) ∧ J e) : ∀ (m i fuel : Nat) (s : S), i + m = N → m < fuel → I i s → ∃ e, jloop body fuel s = some e ∧ J e
  | 0, i, fuel, s, h, hf, hI => by
    obtain ⟨f, rfl⟩ : ∃ f, fuel = f + 1 := ⟨fuel - 1, by omega⟩
    have hi : i = N := by omega
    subst hi
    obtain ⟨e, h1, h2⟩ := he s hI
    exact ⟨e, by unfold jloop; rw [h1], h2⟩
  | m + 1, i, fuel, s, h, hf, hI => by
    obtain ⟨f, rfl⟩ : ∃ f, fuel = f + 1 := ⟨fuel - 1, by omega⟩
    obtain ⟨s', h1, h2⟩ := hs i s (by omega) hI
    obtain ⟨e, h3, h4⟩ := jloop_ex I N J hs he m (i + 1) f s' (by omega) (by omega) h2
    exact ⟨e, by unfold jloop; rw [h1]; exact h3, h4⟩
/-- a loop that may go out early -/
theorem jloop_or {S E : Type} {body : S → Option (S ⊕ E)} (I : Nat → S → Prop) (N : Nat) (J : E → Prop) (hs : ∀ i s, i < N → I i s → (∃ s', body s = some (.inl s') ∧ I (i + 1) s') ∨ (∃ e, body s = some (.inr e) ∧ J e)) (he : ∀ s, I N s → ∃ e, body s = some (.inr e) ∧ J e) : ∀ (m i fuel : Nat) (s : S), i + m = N → m < fuel → I i s → ∃ e, jloop body fuel s = some e ∧ J e
  | 0, i, fuel, s, h, hf, hI => by
    obtain ⟨f, rfl⟩ : ∃ f, fuel = f + 1 := ⟨fuel - 1, by omega⟩
    have hi : i = N := by omega
    subst hi
    obtain ⟨e, h1, h2⟩ := he s hI
    exact ⟨e, by unfold jloop; rw [h1], h2⟩
  | m + 1, i, fuel, s, h, hf, hI => by
    obtain ⟨f, rfl⟩ : ∃ f, fuel = f + 1 := ⟨fuel - 1, by omega⟩
    rcases hs i s (by omega) hI with ⟨s', h1, h2⟩ | ⟨e, h1, h2⟩
    · obtain ⟨e, h3, h4⟩ := jloop_or I N J hs he m (i + 1) f s' (by omega) (by omega) h2
      exact ⟨e, by unfold jloop; rw [h1]; exact h3, h4⟩
    · exact ⟨e, by unfold jloop; rw [h1], h2⟩
/-- how many below n -/
def ct (p : Nat → Bool) : Nat → Nat
  | 0 => 0
  | n + 1 => ct p n + (if p n = true then 1 else 0)
theorem ct_t {p : Nat → Bool} {n : Nat} (h : p n = true) : ct p (n + 1) = ct p n + 1 := by simp [ct, h]
theorem ct_f {p : Nat → Bool} {n : Nat} (h : p n = false) : ct p (n + 1) = ct p n := by simp [ct, h]
theorem ct_le (p : Nat → Bool) : ∀ n, ct p n ≤ n
  | 0 => Nat.le_refl 0
  | n + 1 => by
    have := ct_le p n
    unfold ct
    split <;> omega
theorem ct_mono (p : Nat → Bool) (m : Nat) : ∀ n, ct p m ≤ ct p (m + n)
  | 0 => Nat.le_refl _
  | n + 1 => by
    have h1 := ct_mono p m n
    have h2 : ct p (m + (n + 1)) = ct p (m + n) + (if p (m + n) = true then 1 else 0) := rfl
    omega
theorem ct_lt {p : Nat → Bool} {v w : Nat} (hv : p v = true) (h : v < w) : ct p v < ct p w := by
  have h1 := ct_t hv
  have h2 := ct_mono p (v + 1) (w - (v + 1))
  rw [show v + 1 + (w - (v + 1)) = w by omega] at h2
  omega
theorem ct_inj {p : Nat → Bool} {v w : Nat} (hv : p v = true) (hw : p w = true) (h : ct p v = ct p w) : v = w := by
  rcases Nat.lt_trichotomy v w with q | q | q
  · have := ct_lt hv q; omega
  · exact q
  · have := ct_lt hw q; omega
theorem ct_cong {p q : Nat → Bool} : ∀ {n : Nat}, (∀ k, k < n → p k = q k) → ct p n = ct q n
  | 0, _ => rfl
  | n + 1, h => by
    unfold ct
    rw [ct_cong (fun k hk => h k (by omega)), h n (by omega)]
theorem ct_kth {p : Nat → Bool} {k : Nat} : ∀ {n : Nat}, k < ct p n → ∃ w, w < n ∧ p w = true ∧ ct p w = k
  | 0, h => absurd h (Nat.not_lt_zero k)
  | n + 1, h => by
    by_cases q : k < ct p n
    · obtain ⟨w, h1, h2⟩ := ct_kth q
      exact ⟨w, by omega, h2⟩
    · by_cases hp : p n = true
      · rw [ct_t hp] at h
        exact ⟨n, by omega, hp, by omega⟩
      · rw [ct_f (by simpa using hp)] at h
        omega
theorem up2_same {σ : St} {k j : Nat} {v : Int} : up2 σ k j v k j = v := by simp [up2, upr, up1]
theorem up2_j {σ : St} {k j j' : Nat} {v : Int} (h : j' ≠ j) : up2 σ k j v k j' = σ k j' := by simp [up2, upr, up1, h]
theorem up2_k {σ : St} {k j k' : Nat} {v : Int} (h : k' ≠ k) : up2 σ k j v k' = σ k' := by simp [up2, upr, h]
/-- the wells that count, of the component's state -/
def pC (σ : St) (w : Nat) : Bool := cn (σ 1 2) (σ 5 w) (σ 6 w)
def hC_ (σ : St) (w : Nat) : Bool := decide (σ 5 w ≠ -1)
def cInv (σ0 : St) (i : Nat) (s : St × Int) : Prop := s.2 = (i : Int) ∧ Fr wr_X9_countAnew σ0 s.1 ∧ s.1 1 6 = σ0 1 6 + 1 ∧ s.1 1 3 = (ct (hC_ σ0) i : Nat) ∧ s.1 1 4 = (ct (pC σ0) i : Nat) ∧ ∀ w, w < i → pC σ0 w = true → s.1 2 (ct (pC σ0) w) = (w : Int)
theorem countAnew_body46 {σ0 τ : St} {i : Nat} (hK : ∀ w, w < 24 → -1 ≤ σ0 5 w ∧ σ0 5 w ≤ 4) (hi : i < 24) (hF : Fr wr_X9_countAnew σ0 τ) (h6 : τ 1 6 = σ0 1 6 + 1) (h3 : τ 1 3 = (ct (hC_ σ0) (i + 1) : Nat)) (h4 : τ 1 4 = (ct (pC σ0) i : Nat)) (hw : ∀ w, w < i → pC σ0 w = true → τ 2 (ct (pC σ0) w) = (w : Int)) : ∃ s', f_X9_countAnew_b46 τ (i : Int) = some (.inl s') ∧ cInv σ0 (i + 1) s' := by
  have e5 : τ 5 i = σ0 5 i := hF 5 i (by decide) (by simp)
  have e6 : τ 6 i = σ0 6 i := hF 6 i (by decide) (by simp)
  have e2 : τ 1 2 = σ0 1 2 := hF 1 2 (by decide) (by decide)
  have hle := ct_le (pC σ0) i
  rw [f_X9_countAnew_b46, cnC hi (by rw [e5]; exact hK i hi), jbind_s, e2, e5, e6]
  by_cases hp : pC σ0 i = true
  · have hp' : cn (σ0 1 2) (σ0 5 i) (σ0 6 i) = true := hp
    rw [hp', bI_t, jc_I (by omega) (by omega), if_neg (by omega), jc_ix (by omega) (by omega), jlet_v, jlet_v, jlet_v]
    refine ⟨_, rfl, by show (i : Int) + 1 = _; omega, ?_, ?_, ?_, ?_, ?_⟩
    · refine Fr.putF ?_ rfl (by decide)
      exact Fr.putA hF rfl (by decide)
    · dsimp only
      rw [up2_j (by decide), up2_k (by decide)]
      exact h6
    · dsimp only
      rw [up2_j (by decide), up2_k (by decide)]
      exact h3
    · dsimp only
      rw [up2_same, up2_k (by decide), h4, ct_t hp]
      omega
    · intro w hwi hpw
      dsimp only
      rw [up2_k (by decide), h4]
      by_cases q : w = i
      · subst q
        rw [cast_n, up2_same]
      · have hlt := ct_lt (w := i) hpw (by omega)
        rw [cast_n, up2_j (by omega)]
        exact hw w (by omega) hpw
  · have hp0 : pC σ0 i = false := by simpa using hp
    have hp' : cn (σ0 1 2) (σ0 5 i) (σ0 6 i) = false := hp0
    rw [hp', bI_f, jc_I (by omega) (by omega), if_pos rfl, jlet_v]
    refine ⟨_, rfl, by show (i : Int) + 1 = _; omega, hF, h6, h3, ?_, ?_⟩
    · rw [ct_f hp0]; exact h4
    · intro w hwi hpw
      have q : w ≠ i := fun z => by rw [z, hp0] at hpw; cases hpw
      exact hw w (by omega) hpw
theorem countAnew_spec {σ : St} (hK : ∀ w, w < 24 → -1 ≤ σ 5 w ∧ σ 5 w ≤ 4) : ∃ τ, f_X9_countAnew σ = some τ ∧ Fr wr_X9_countAnew σ τ ∧ τ 1 6 = σ 1 6 + 1 ∧ τ 1 3 = (ct (hC_ σ) 24 : Nat) ∧ τ 1 4 = (ct (pC σ) 24 : Nat) ∧ ∀ w, w < 24 → pC σ w = true → τ 2 (ct (pC σ) w) = (w : Int) := by
  have hL : ∃ τ, jloop (fun (q : (St × Int)) => match q with | (σ, x1) => f_X9_countAnew_b22 σ x1) 1000 (up2 (up2 (up2 σ 1 6 (σ 1 6 + 1)) 1 3 0) 1 4 0, 0) = some τ ∧ (Fr wr_X9_countAnew σ τ ∧ τ 1 6 = σ 1 6 + 1 ∧ τ 1 3 = (ct (hC_ σ) 24 : Nat) ∧ τ 1 4 = (ct (pC σ) 24 : Nat) ∧ ∀ w, w < 24 → pC σ w = true → τ 2 (ct (pC σ) w) = (w : Int)) := by
    refine jloop_ex (cInv σ) 24 (fun τ => Fr wr_X9_countAnew σ τ ∧ τ 1 6 = σ 1 6 + 1 ∧ τ 1 3 = (ct (hC_ σ) 24 : Nat) ∧ τ 1 4 = (ct (pC σ) 24 : Nat) ∧ ∀ w, w < 24 → pC σ w = true → τ 2 (ct (pC σ) w) = (w : Int)) ?_ ?_ 24 0 1000 _ rfl (by omega) ?_
    · intro a s hi hI
      obtain ⟨τ, x⟩ := s
      obtain ⟨e1, hF, h6, h3, h4, hw⟩ := hI
      dsimp only at e1 hF h6 h3 h4 hw ⊢
      subst e1
      have e5 : τ 5 a = σ 5 a := hF 5 a (by decide) (by simp)
      rw [f_X9_countAnew_b22, jc_II (by omega) (by omega) (by omega) (by omega), if_pos (by omega), has_in hi (by rw [e5]; exact hK a hi), jbind_s, e5]
      by_cases q : σ 5 a = -1
      · have hh : hC_ σ a = false := by simp [hC_, q]
        rw [if_pos q, jc_I (by omega) (by omega), if_pos rfl]
        exact countAnew_body46 hK hi hF h6 (by rw [ct_f hh]; exact h3) h4 hw
      · have hh : hC_ σ a = true := by simp [hC_, q]
        rw [if_neg q, jc_I (by omega) (by omega), if_neg (by omega), jlet_v]
        refine countAnew_body46 hK hi (Fr.putF hF rfl (by decide)) ?_ ?_ ?_ ?_
        · rw [up2_j (by decide)]; exact h6
        · rw [up2_same, h3, ct_t hh]; omega
        · rw [up2_j (by decide)]; exact h4
        · intro w hwi hpw
          rw [up2_k (by decide)]
          exact hw w hwi hpw
    · intro s hI
      obtain ⟨τ, x⟩ := s
      obtain ⟨e1, hF, h6, h3, h4, hw⟩ := hI
      dsimp only at e1 hF h6 h3 h4 hw ⊢
      subst e1
      refine ⟨τ, ?_, hF, h6, h3, h4, hw⟩
      rw [f_X9_countAnew_b22, jc_II (by omega) (by omega) (by omega) (by omega), if_neg (by omega)]
    · refine ⟨rfl, ?_, ?_, ?_, ?_, fun w hw => absurd hw (Nat.not_lt_zero w)⟩
      · refine Fr.putF ?_ rfl (by decide)
        refine Fr.putF ?_ rfl (by decide)
        exact Fr.putF Fr.refl rfl (by decide)
      · dsimp only
        rw [up2_j (by decide), up2_j (by decide), up2_same]
      · dsimp only
        rw [up2_j (by decide), up2_same]; rfl
      · dsimp only
        rw [up2_same]; rfl
  obtain ⟨τ, h1, h2⟩ := hL
  refine ⟨τ, ?_, h2⟩
  rw [f_X9_countAnew, f_X9_countAnew_b0, jlet_v, jlet_v, jlet_v, jlet_v, h1, jbind_s]
