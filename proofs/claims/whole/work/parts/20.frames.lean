/-! ===== frames: what a writing function leaves as it was (written by wip/whole/gen/frames.py) ===== -/
abbrev Wr : Type := List Nat × List (Nat × Nat)
def Fr (P : Wr) (σ τ : St) : Prop := ∀ k j, k ∉ P.1 → (k, j) ∉ P.2 → τ k j = σ k j
theorem Fr.refl {P : Wr} {σ : St} : Fr P σ σ := fun _ _ _ _ => rfl
theorem Fr.trans {P : Wr} {σ τ υ : St} (h : Fr P σ τ) (h2 : Fr P τ υ) : Fr P σ υ := fun k j q q2 => (h2 k j q q2).trans (h k j q q2)
theorem Fr.mono {P P2 : Wr} {σ τ : St} (h : Fr P σ τ) (h1 : ∀ x ∈ P.1, x ∈ P2.1) (h2 : ∀ x ∈ P.2, x ∈ P2.2) : Fr P2 σ τ := fun k j q q2 => h k j (fun z => q (h1 _ z)) (fun z => q2 (h2 _ z))
theorem Fr.putA {P : Wr} {σ τ υ : St} {k j : Nat} {v : Int} (h : Fr P σ τ) (e : υ = up2 τ k j v) (hP : k ∈ P.1) : Fr P σ υ := fun k' j' q q2 => by
  subst e
  rw [← h k' j' q q2]
  have hk : k' ≠ k := fun z => q (by rw [z]; exact hP)
  simp [up2, upr, hk]
theorem Fr.putF {P : Wr} {σ τ υ : St} {k j : Nat} {v : Int} (h : Fr P σ τ) (e : υ = up2 τ k j v) (hP : (k, j) ∈ P.2) : Fr P σ υ := fun k' j' q q2 => by
  subst e
  rw [← h k' j' q q2]
  by_cases hk : k' = k
  · subst hk
    have hj : j' ≠ j := fun z => q2 (by rw [z]; exact hP)
    simp [up2, upr, up1, hj]
  · simp [up2, upr, hk]
theorem Fr.row {P : Wr} {σ τ υ : St} {k : Nat} {g : Nat → Int} (h : Fr P σ τ) (e : υ = upr τ k g) (hP : k ∈ P.1) : Fr P σ υ := fun k' j' q q2 => by
  subst e
  rw [← h k' j' q q2]
  have hk : k' ≠ k := fun z => q (by rw [z]; exact hP)
  simp [upr, hk]
theorem jlet_x {α β : Type} {e : α} {k : α → Option β} {y : β} (h : jlet e k = some y) : ∃ x, x = e ∧ k x = some y := ⟨e, rfl, h⟩
theorem jif_x {β : Type} {c : Prop} [Decidable c] {a b : Option β} {y : β} (h : (if c then a else b) = some y) : (c ∧ a = some y) ∨ (¬ c ∧ b = some y) := by
  by_cases q : c
  · rw [if_pos q] at h; exact Or.inl ⟨q, h⟩
  · rw [if_neg q] at h; exact Or.inr ⟨q, h⟩
theorem jloop_inv {S E : Type} {body : S → Option (S ⊕ E)} {I : S → Prop} {J : E → Prop} (hb : ∀ s y, body s = some y → I s → (∀ s', y = .inl s' → I s') ∧ (∀ e, y = .inr e → J e)) : ∀ (n : Nat) (s : S) (e : E), jloop body n s = some e → I s → J e
  | 0, _, _, h, _ => by cases h
  | n + 1, s, e, h, hI => by
    cases hy : body s with
    | none => unfold jloop at h; rw [hy] at h; cases h
    | some y =>
      unfold jloop at h; rw [hy] at h
      obtain ⟨h1, h2⟩ := hb s y hy hI
      cases y with
      | inl s' => exact jloop_inv hb n s' e h (h1 s' rfl)
      | inr e' => cases h; exact h2 _ rfl
abbrev wr_X2_wrapOnce : Wr := ([66], [(65, 1), (65, 2)])
theorem fr_f_X2_wrapOnce_b40 {σ0 σ : St} {x1 x2 x3 : Int} {y : (St × Int × Int) ⊕ St} (hf : f_X2_wrapOnce_b40 σ x1 x2 x3 = some y) (hF : Fr wr_X2_wrapOnce σ0 σ) : (∀ s' : (St × Int × Int), y = .inl s' → Fr wr_X2_wrapOnce σ0 s'.1) ∧ (∀ e : St, y = .inr e → Fr wr_X2_wrapOnce σ0 e) := by
  unfold f_X2_wrapOnce_b40 at hf
  replace hf := (jchk_elim hf).2
  rcases jif_x hf with ⟨-, hf⟩ | ⟨-, hf⟩
  · replace hf := (jchk_elim hf).2
    rcases jif_x hf with ⟨-, hf⟩ | ⟨-, hf⟩
    · cases hf
      exact ⟨fun _ e => (by cases e), fun a e => (by cases e; exact hF)⟩
    · replace hf := (jchk_elim hf).2
      obtain ⟨σ_7, ex, hn⟩ := jlet_x hf
      clear hf
      have hf := hn
      clear hn
      have hF := hF.putA ex (by decide)
      obtain ⟨σ_8, ex, hn⟩ := jlet_x hf
      clear hf
      have hf := hn
      clear hn
      have hF := hF.putF ex (by decide)
      obtain ⟨r_9, -, hf⟩ := jbind_elim hf
      obtain ⟨x4_10, -, hn⟩ := jlet_x hf
      clear hf
      have hf := hn
      clear hn
      replace hf := (jchk_elim hf).2
      rcases jif_x hf with ⟨-, hf⟩ | ⟨-, hf⟩
      · obtain ⟨x2_13, -, hn⟩ := jlet_x hf
        clear hf
        have hf := hn
        clear hn
        obtain ⟨x3_14, -, hn⟩ := jlet_x hf
        clear hf
        have hf := hn
        clear hn
        cases hf
        exact ⟨fun a e => (by cases e; exact hF), fun _ e => (by cases e)⟩
      · obtain ⟨x2_11, -, hn⟩ := jlet_x hf
        clear hf
        have hf := hn
        clear hn
        obtain ⟨x3_12, -, hn⟩ := jlet_x hf
        clear hf
        have hf := hn
        clear hn
        cases hf
        exact ⟨fun a e => (by cases e; exact hF), fun _ e => (by cases e)⟩
  · cases hf
    exact ⟨fun _ e => (by cases e), fun a e => (by cases e; exact hF)⟩
theorem fr_f_X2_wrapOnce_b0 {σ0 σ : St} {y : St} (hf : f_X2_wrapOnce_b0 σ = some y) (hF : Fr wr_X2_wrapOnce σ0 σ) : Fr wr_X2_wrapOnce σ0 y := by
  unfold f_X2_wrapOnce_b0 at hf
  replace hf := (jchk_elim hf).2
  rcases jif_x hf with ⟨-, hf⟩ | ⟨-, hf⟩
  · cases hf
    exact hF
  · obtain ⟨σ_1, ex, hn⟩ := jlet_x hf
    clear hf
    have hf := hn
    clear hn
    have hF := hF.putF ex (by decide)
    obtain ⟨σ_2, ex, hn⟩ := jlet_x hf
    clear hf
    have hf := hn
    clear hn
    have hF := hF.putF ex (by decide)
    obtain ⟨r_3, -, hf⟩ := jbind_elim hf
    obtain ⟨x1_4, -, hn⟩ := jlet_x hf
    clear hf
    have hf := hn
    clear hn
    obtain ⟨x2_5, -, hn⟩ := jlet_x hf
    clear hf
    have hf := hn
    clear hn
    obtain ⟨x3_6, -, hn⟩ := jlet_x hf
    clear hf
    have hf := hn
    clear hn
    obtain ⟨q0, he, hf⟩ := jbind_elim hf
    have hJ := jloop_inv (I := (fun q : (St × Int × Int) => Fr wr_X2_wrapOnce σ0 q.1)) (J := fun q0 => Fr wr_X2_wrapOnce σ0 q0) (fun q y hy hI => fr_f_X2_wrapOnce_b40 hy hI) _ _ _ he hF
    have hF := hJ
    cases hf
    exact hF
theorem fr_f_X2_wrapOnce {σ : St} {y : St} (hf : f_X2_wrapOnce σ = some y) : Fr wr_X2_wrapOnce σ y := fr_f_X2_wrapOnce_b0 (by unfold f_X2_wrapOnce at hf; exact hf) Fr.refl
abbrev wr_X10_around : Wr := ([66], [(65, 1), (65, 2)])
theorem fr_f_X10_around_b0 {σ0 σ : St} {x1 : Int} {y : Int × St} (hf : f_X10_around_b0 σ x1 = some y) (hF : Fr wr_X10_around σ0 σ) : Fr wr_X10_around σ0 y.2 := by
  unfold f_X10_around_b0 at hf
  obtain ⟨σ_1, hq, hf⟩ := jbind_elim hf
  have hF := hF.trans ((fr_f_X2_wrapOnce hq).mono (P2 := wr_X10_around) (by decide) (by decide))
  replace hf := (jchk_elim hf).2
  rcases jif_x hf with ⟨-, hf⟩ | ⟨-, hf⟩
  · cases hf
    exact hF
  · replace hf := (jchk_elim hf).2
    rcases jif_x hf with ⟨-, hf⟩ | ⟨-, hf⟩
    · replace hf := (jchk_elim hf).2
      cases hf
      exact hF
    · cases hf
      exact hF
theorem fr_f_X10_around {σ : St} {x1 : Int} {y : Int × St} (hf : f_X10_around σ x1 = some y) : Fr wr_X10_around σ y.2 := fr_f_X10_around_b0 (by unfold f_X10_around at hf; exact hf) Fr.refl
abbrev wr_X5_remember : Wr := ([10, 11, 12, 13, 8, 9], [(7, 0), (7, 1)])
theorem fr_f_X5_remember_b116 {σ0 σ : St} {t1 : Int} {y : St} (hf : f_X5_remember_b116 σ t1 = some y) (hF : Fr wr_X5_remember σ0 σ) : Fr wr_X5_remember σ0 y := by
  unfold f_X5_remember_b116 at hf
  obtain ⟨σ_8, ex, hn⟩ := jlet_x hf
  clear hf
  have hf := hn
  clear hn
  have hF := hF.putF ex (by decide)
  replace hf := (jchk_elim hf).2
  obtain ⟨σ_9, ex, hn⟩ := jlet_x hf
  clear hf
  have hf := hn
  clear hn
  have hF := hF.putF ex (by decide)
  cases hf
  exact hF
theorem fr_f_X5_remember_b0 {σ0 σ : St} {y : St} (hf : f_X5_remember_b0 σ = some y) (hF : Fr wr_X5_remember σ0 σ) : Fr wr_X5_remember σ0 y := by
  unfold f_X5_remember_b0 at hf
  obtain ⟨x2_1, -, hn⟩ := jlet_x hf
  clear hf
  have hf := hn
  clear hn
  replace hf := (jchk_elim hf).2
  obtain ⟨σ_2, ex, hn⟩ := jlet_x hf
  clear hf
  have hf := hn
  clear hn
  have hF := hF.putA ex (by decide)
  replace hf := (jchk_elim hf).2
  obtain ⟨σ_3, ex, hn⟩ := jlet_x hf
  clear hf
  have hf := hn
  clear hn
  have hF := hF.putA ex (by decide)
  replace hf := (jchk_elim hf).2
  obtain ⟨σ_4, ex, hn⟩ := jlet_x hf
  clear hf
  have hf := hn
  clear hn
  have hF := hF.row ex (by decide)
  replace hf := (jchk_elim hf).2
  obtain ⟨σ_5, ex, hn⟩ := jlet_x hf
  clear hf
  have hf := hn
  clear hn
  have hF := hF.row ex (by decide)
  replace hf := (jchk_elim hf).2
  obtain ⟨σ_6, ex, hn⟩ := jlet_x hf
  clear hf
  have hf := hn
  clear hn
  have hF := hF.row ex (by decide)
  replace hf := (jchk_elim hf).2
  obtain ⟨σ_7, ex, hn⟩ := jlet_x hf
  clear hf
  have hf := hn
  clear hn
  have hF := hF.row ex (by decide)
  replace hf := (jchk_elim hf).2
  rcases jif_x hf with ⟨-, hf⟩ | ⟨-, hf⟩
  · exact fr_f_X5_remember_b116 hf hF
  · exact fr_f_X5_remember_b116 hf hF
theorem fr_f_X5_remember {σ : St} {y : St} (hf : f_X5_remember σ = some y) : Fr wr_X5_remember σ y := fr_f_X5_remember_b0 (by unfold f_X5_remember at hf; exact hf) Fr.refl
abbrev wr_X9_countAnew : Wr := ([2], [(1, 3), (1, 4), (1, 6)])
theorem fr_f_X9_countAnew_b46 {σ0 σ : St} {x1 : Int} {y : (St × Int) ⊕ St} (hf : f_X9_countAnew_b46 σ x1 = some y) (hF : Fr wr_X9_countAnew σ0 σ) : (∀ s' : (St × Int), y = .inl s' → Fr wr_X9_countAnew σ0 s'.1) ∧ (∀ e : St, y = .inr e → Fr wr_X9_countAnew σ0 e) := by
  unfold f_X9_countAnew_b46 at hf
  obtain ⟨r_6, -, hf⟩ := jbind_elim hf
  replace hf := (jchk_elim hf).2
  rcases jif_x hf with ⟨-, hf⟩ | ⟨-, hf⟩
  · obtain ⟨x1_7, -, hn⟩ := jlet_x hf
    clear hf
    have hf := hn
    clear hn
    cases hf
    exact ⟨fun a e => (by cases e; exact hF), fun _ e => (by cases e)⟩
  · replace hf := (jchk_elim hf).2
    obtain ⟨σ_8, ex, hn⟩ := jlet_x hf
    clear hf
    have hf := hn
    clear hn
    have hF := hF.putA ex (by decide)
    obtain ⟨σ_9, ex, hn⟩ := jlet_x hf
    clear hf
    have hf := hn
    clear hn
    have hF := hF.putF ex (by decide)
    obtain ⟨x1_10, -, hn⟩ := jlet_x hf
    clear hf
    have hf := hn
    clear hn
    cases hf
    exact ⟨fun a e => (by cases e; exact hF), fun _ e => (by cases e)⟩
theorem fr_f_X9_countAnew_b22 {σ0 σ : St} {x1 : Int} {y : (St × Int) ⊕ St} (hf : f_X9_countAnew_b22 σ x1 = some y) (hF : Fr wr_X9_countAnew σ0 σ) : (∀ s' : (St × Int), y = .inl s' → Fr wr_X9_countAnew σ0 s'.1) ∧ (∀ e : St, y = .inr e → Fr wr_X9_countAnew σ0 e) := by
  unfold f_X9_countAnew_b22 at hf
  replace hf := (jchk_elim hf).2
  rcases jif_x hf with ⟨-, hf⟩ | ⟨-, hf⟩
  · obtain ⟨r_5, -, hf⟩ := jbind_elim hf
    replace hf := (jchk_elim hf).2
    rcases jif_x hf with ⟨-, hf⟩ | ⟨-, hf⟩
    · exact fr_f_X9_countAnew_b46 hf hF
    · obtain ⟨σ_11, ex, hn⟩ := jlet_x hf
      clear hf
      have hf := hn
      clear hn
      have hF := hF.putF ex (by decide)
      exact fr_f_X9_countAnew_b46 hf hF
  · cases hf
    exact ⟨fun _ e => (by cases e), fun a e => (by cases e; exact hF)⟩
theorem fr_f_X9_countAnew_b0 {σ0 σ : St} {y : St} (hf : f_X9_countAnew_b0 σ = some y) (hF : Fr wr_X9_countAnew σ0 σ) : Fr wr_X9_countAnew σ0 y := by
  unfold f_X9_countAnew_b0 at hf
  obtain ⟨σ_1, ex, hn⟩ := jlet_x hf
  clear hf
  have hf := hn
  clear hn
  have hF := hF.putF ex (by decide)
  obtain ⟨σ_2, ex, hn⟩ := jlet_x hf
  clear hf
  have hf := hn
  clear hn
  have hF := hF.putF ex (by decide)
  obtain ⟨σ_3, ex, hn⟩ := jlet_x hf
  clear hf
  have hf := hn
  clear hn
  have hF := hF.putF ex (by decide)
  obtain ⟨x1_4, -, hn⟩ := jlet_x hf
  clear hf
  have hf := hn
  clear hn
  obtain ⟨q0, he, hf⟩ := jbind_elim hf
  have hJ := jloop_inv (I := (fun q : (St × Int) => Fr wr_X9_countAnew σ0 q.1)) (J := fun q0 => Fr wr_X9_countAnew σ0 q0) (fun q y hy hI => fr_f_X9_countAnew_b22 hy hI) _ _ _ he hF
  have hF := hJ
  cases hf
  exact hF
theorem fr_f_X9_countAnew {σ : St} {y : St} (hf : f_X9_countAnew σ = some y) : Fr wr_X9_countAnew σ y := fr_f_X9_countAnew_b0 (by unfold f_X9_countAnew at hf; exact hf) Fr.refl
abbrev wr_X9_put : Wr := ([2, 3, 4, 5, 6], [(1, 3), (1, 4), (1, 6)])
theorem fr_f_X9_put_b0 {σ0 σ : St} {x1 x2 x3 x4 x5 : Int} {y : St} (hf : f_X9_put_b0 σ x1 x2 x3 x4 x5 = some y) (hF : Fr wr_X9_put σ0 σ) : Fr wr_X9_put σ0 y := by
  unfold f_X9_put_b0 at hf
  replace hf := (jchk_elim hf).2
  rcases jif_x hf with ⟨-, hf⟩ | ⟨-, hf⟩
  · cases hf
    exact hF
  · replace hf := (jchk_elim hf).2
    rcases jif_x hf with ⟨-, hf⟩ | ⟨-, hf⟩
    · replace hf := (jchk_elim hf).2
      obtain ⟨σ_1, ex, hn⟩ := jlet_x hf
      clear hf
      have hf := hn
      clear hn
      have hF := hF.putA ex (by decide)
      replace hf := (jchk_elim hf).2
      obtain ⟨σ_2, ex, hn⟩ := jlet_x hf
      clear hf
      have hf := hn
      clear hn
      have hF := hF.putA ex (by decide)
      replace hf := (jchk_elim hf).2
      obtain ⟨σ_3, ex, hn⟩ := jlet_x hf
      clear hf
      have hf := hn
      clear hn
      have hF := hF.putA ex (by decide)
      replace hf := (jchk_elim hf).2
      obtain ⟨σ_4, ex, hn⟩ := jlet_x hf
      clear hf
      have hf := hn
      clear hn
      have hF := hF.putA ex (by decide)
      obtain ⟨σ_5, hq, hf⟩ := jbind_elim hf
      have hF := hF.trans ((fr_f_X9_countAnew hq).mono (P2 := wr_X9_put) (by decide) (by decide))
      cases hf
      exact hF
    · cases hf
      exact hF
theorem fr_f_X9_put {σ : St} {x1 x2 x3 x4 x5 : Int} {y : St} (hf : f_X9_put σ x1 x2 x3 x4 x5 = some y) : Fr wr_X9_put σ y := fr_f_X9_put_b0 (by unfold f_X9_put at hf; exact hf) Fr.refl
abbrev wr_X10_become : Wr := ([10, 11, 12, 13, 2, 3, 4, 5, 6, 8, 9], [(1, 3), (1, 4), (1, 6), (7, 0), (7, 1)])
theorem fr_f_X10_become_b0 {σ0 σ : St} {x1 x2 x3 : Int} {y : Int × St} (hf : f_X10_become_b0 σ x1 x2 x3 = some y) (hF : Fr wr_X10_become σ0 σ) : Fr wr_X10_become σ0 y.2 := by
  unfold f_X10_become_b0 at hf
  obtain ⟨r_1, -, hf⟩ := jbind_elim hf
  replace hf := (jchk_elim hf).2
  rcases jif_x hf with ⟨-, hf⟩ | ⟨-, hf⟩
  · cases hf
    exact hF
  · obtain ⟨r_2, -, hf⟩ := jbind_elim hf
    replace hf := (jchk_elim hf).2
    rcases jif_x hf with ⟨-, hf⟩ | ⟨-, hf⟩
    · cases hf
      exact hF
    · replace hf := (jchk_elim hf).2
      obtain ⟨x4_3, -, hn⟩ := jlet_x hf
      clear hf
      have hf := hn
      clear hn
      obtain ⟨σ_4, hq, hf⟩ := jbind_elim hf
      have hF := hF.trans ((fr_f_X5_remember hq).mono (P2 := wr_X10_become) (by decide) (by decide))
      replace hf := (jchk_elim hf).2
      replace hf := (jchk_elim hf).2
      obtain ⟨σ_5, hq, hf⟩ := jbind_elim hf
      have hF := hF.trans ((fr_f_X9_put hq).mono (P2 := wr_X10_become) (by decide) (by decide))
      cases hf
      exact hF
theorem fr_f_X10_become {σ : St} {x1 x2 x3 : Int} {y : Int × St} (hf : f_X10_become σ x1 x2 x3 = some y) : Fr wr_X10_become σ y.2 := fr_f_X10_become_b0 (by unfold f_X10_become at hf; exact hf) Fr.refl
abbrev wr_X3_reachFrom : Wr := ([64], [])
theorem fr_f_X3_reachFrom_b2 {σ0 σ : St} {x1 x2 : Int} {y : (St × Int) ⊕ St} (hf : f_X3_reachFrom_b2 σ x1 x2 = some y) (hF : Fr wr_X3_reachFrom σ0 σ) : (∀ s' : (St × Int), y = .inl s' → Fr wr_X3_reachFrom σ0 s'.1) ∧ (∀ e : St, y = .inr e → Fr wr_X3_reachFrom σ0 e) := by
  unfold f_X3_reachFrom_b2 at hf
  replace hf := (jchk_elim hf).2
  rcases jif_x hf with ⟨-, hf⟩ | ⟨-, hf⟩
  · replace hf := (jchk_elim hf).2
    replace hf := (jchk_elim hf).2
    rcases jif_x hf with ⟨-, hf⟩ | ⟨-, hf⟩
    · obtain ⟨x2_2, -, hn⟩ := jlet_x hf
      clear hf
      have hf := hn
      clear hn
      cases hf
      exact ⟨fun a e => (by cases e; exact hF), fun _ e => (by cases e)⟩
    · replace hf := (jchk_elim hf).2
      replace hf := (jchk_elim hf).2
      replace hf := (jchk_elim hf).2
      obtain ⟨r_3, -, hf⟩ := jbind_elim hf
      replace hf := (jchk_elim hf).2
      replace hf := (jchk_elim hf).2
      obtain ⟨σ_4, ex, hn⟩ := jlet_x hf
      clear hf
      have hf := hn
      clear hn
      have hF := hF.putA ex (by decide)
      obtain ⟨x2_5, -, hn⟩ := jlet_x hf
      clear hf
      have hf := hn
      clear hn
      cases hf
      exact ⟨fun a e => (by cases e; exact hF), fun _ e => (by cases e)⟩
  · cases hf
    exact ⟨fun _ e => (by cases e), fun a e => (by cases e; exact hF)⟩
theorem fr_f_X3_reachFrom_b0 {σ0 σ : St} {x1 : Int} {y : St} (hf : f_X3_reachFrom_b0 σ x1 = some y) (hF : Fr wr_X3_reachFrom σ0 σ) : Fr wr_X3_reachFrom σ0 y := by
  unfold f_X3_reachFrom_b0 at hf
  obtain ⟨x2_1, -, hn⟩ := jlet_x hf
  clear hf
  have hf := hn
  clear hn
  obtain ⟨q0, he, hf⟩ := jbind_elim hf
  have hJ := jloop_inv (I := (fun q : (St × Int) => Fr wr_X3_reachFrom σ0 q.1)) (J := fun q0 => Fr wr_X3_reachFrom σ0 q0) (fun q y hy hI => fr_f_X3_reachFrom_b2 hy hI) _ _ _ he hF
  have hF := hJ
  cases hf
  exact hF
theorem fr_f_X3_reachFrom {σ : St} {x1 : Int} {y : St} (hf : f_X3_reachFrom σ x1 = some y) : Fr wr_X3_reachFrom σ y := fr_f_X3_reachFrom_b0 (by unfold f_X3_reachFrom at hf; exact hf) Fr.refl
abbrev wr_X3_addInOrder : Wr := ([63], [(62, 2)])
theorem fr_f_X3_addInOrder_b23 {σ0 σ : St} {x1 x3 x4 : Int} {y : (St × Int × Int) ⊕ (St × Int)} (hf : f_X3_addInOrder_b23 σ x1 x3 x4 = some y) (hF : Fr wr_X3_addInOrder σ0 σ) : (∀ s' : (St × Int × Int), y = .inl s' → Fr wr_X3_addInOrder σ0 s'.1) ∧ (∀ e : St × Int, y = .inr e → Fr wr_X3_addInOrder σ0 e.1) := by
  unfold f_X3_addInOrder_b23 at hf
  replace hf := (jchk_elim hf).2
  rcases jif_x hf with ⟨-, hf⟩ | ⟨-, hf⟩
  · cases hf
    exact ⟨fun _ e => (by cases e), fun a e => (by cases e; exact hF)⟩
  · replace hf := (jchk_elim hf).2
    replace hf := (jchk_elim hf).2
    rcases jif_x hf with ⟨-, hf⟩ | ⟨-, hf⟩
    · replace hf := (jchk_elim hf).2
      replace hf := (jchk_elim hf).2
      obtain ⟨σ_3, ex, hn⟩ := jlet_x hf
      clear hf
      have hf := hn
      clear hn
      have hF := hF.putA ex (by decide)
      obtain ⟨x3_4, -, hn⟩ := jlet_x hf
      clear hf
      have hf := hn
      clear hn
      obtain ⟨x4_5, -, hn⟩ := jlet_x hf
      clear hf
      have hf := hn
      clear hn
      cases hf
      exact ⟨fun a e => (by cases e; exact hF), fun _ e => (by cases e)⟩
    · cases hf
      exact ⟨fun _ e => (by cases e), fun a e => (by cases e; exact hF)⟩
theorem fr_f_X3_addInOrder_b0 {σ0 σ : St} {x1 : Int} {y : St} (hf : f_X3_addInOrder_b0 σ x1 = some y) (hF : Fr wr_X3_addInOrder σ0 σ) : Fr wr_X3_addInOrder σ0 y := by
  unfold f_X3_addInOrder_b0 at hf
  replace hf := (jchk_elim hf).2
  rcases jif_x hf with ⟨-, hf⟩ | ⟨-, hf⟩
  · obtain ⟨x3_1, -, hn⟩ := jlet_x hf
    clear hf
    have hf := hn
    clear hn
    obtain ⟨x4_2, -, hn⟩ := jlet_x hf
    clear hf
    have hf := hn
    clear hn
    obtain ⟨q0, he, hf⟩ := jbind_elim hf
    have hJ := jloop_inv (I := (fun q : (St × Int × Int) => Fr wr_X3_addInOrder σ0 q.1)) (J := fun q0 => Fr wr_X3_addInOrder σ0 q0.1) (fun q y hy hI => fr_f_X3_addInOrder_b23 hy hI) _ _ _ he hF
    obtain ⟨σ_6, x3_7⟩ := q0
    have hF := hJ
    replace hf := (jchk_elim hf).2
    obtain ⟨σ_8, ex, hn⟩ := jlet_x hf
    clear hf
    have hf := hn
    clear hn
    have hF := hF.putA ex (by decide)
    obtain ⟨σ_9, ex, hn⟩ := jlet_x hf
    clear hf
    have hf := hn
    clear hn
    have hF := hF.putF ex (by decide)
    cases hf
    exact hF
  · cases hf
    exact hF
theorem fr_f_X3_addInOrder {σ : St} {x1 : Int} {y : St} (hf : f_X3_addInOrder σ x1 = some y) : Fr wr_X3_addInOrder σ y := fr_f_X3_addInOrder_b0 (by unfold f_X3_addInOrder at hf; exact hf) Fr.refl
abbrev wr_X10_fill : Wr := ([10, 11, 12, 13, 2, 3, 4, 5, 6, 8, 9], [(1, 3), (1, 4), (1, 6), (7, 0), (7, 1)])
theorem fr_f_X10_fill_b0 {σ0 σ : St} {x1 : Int} {y : Int × St} (hf : f_X10_fill_b0 σ x1 = some y) (hF : Fr wr_X10_fill σ0 σ) : Fr wr_X10_fill σ0 y.2 := by
  unfold f_X10_fill_b0 at hf
  obtain ⟨r_1, -, hf⟩ := jbind_elim hf
  replace hf := (jchk_elim hf).2
  rcases jif_x hf with ⟨-, hf⟩ | ⟨-, hf⟩
  · cases hf
    exact hF
  · obtain ⟨σ_2, hq, hf⟩ := jbind_elim hf
    have hF := hF.trans ((fr_f_X5_remember hq).mono (P2 := wr_X10_fill) (by decide) (by decide))
    obtain ⟨σ_3, hq, hf⟩ := jbind_elim hf
    have hF := hF.trans ((fr_f_X9_put hq).mono (P2 := wr_X10_fill) (by decide) (by decide))
    cases hf
    exact hF
theorem fr_f_X10_fill {σ : St} {x1 : Int} {y : Int × St} (hf : f_X10_fill σ x1 = some y) : Fr wr_X10_fill σ y.2 := fr_f_X10_fill_b0 (by unfold f_X10_fill at hf; exact hf) Fr.refl
abbrev wr_X10_hull : Wr := ([66], [(65, 1), (65, 2)])
theorem fr_f_X10_hull_b0 {σ0 σ : St} {y : Int × St} (hf : f_X10_hull_b0 σ = some y) (hF : Fr wr_X10_hull σ0 σ) : Fr wr_X10_hull σ0 y.2 := by
  unfold f_X10_hull_b0 at hf
  obtain ⟨σ_1, hq, hf⟩ := jbind_elim hf
  have hF := hF.trans ((fr_f_X2_wrapOnce hq).mono (P2 := wr_X10_hull) (by decide) (by decide))
  cases hf
  exact hF
theorem fr_f_X10_hull {σ : St} {y : Int × St} (hf : f_X10_hull σ = some y) : Fr wr_X10_hull σ y.2 := fr_f_X10_hull_b0 (by unfold f_X10_hull at hf; exact hf) Fr.refl
abbrev wr_X8_chainFrom : Wr := ([68], [])
theorem fr_f_X8_chainFrom_b3 {σ0 σ : St} {x1 x2 x4 : Int} {y : (St × Int) ⊕ St} (hf : f_X8_chainFrom_b3 σ x1 x2 x4 = some y) (hF : Fr wr_X8_chainFrom σ0 σ) : (∀ s' : (St × Int), y = .inl s' → Fr wr_X8_chainFrom σ0 s'.1) ∧ (∀ e : St, y = .inr e → Fr wr_X8_chainFrom σ0 e) := by
  unfold f_X8_chainFrom_b3 at hf
  replace hf := (jchk_elim hf).2
  rcases jif_x hf with ⟨-, hf⟩ | ⟨-, hf⟩
  · replace hf := (jchk_elim hf).2
    replace hf := (jchk_elim hf).2
    rcases jif_x hf with ⟨-, hf⟩ | ⟨-, hf⟩
    · obtain ⟨x4_2, -, hn⟩ := jlet_x hf
      clear hf
      have hf := hn
      clear hn
      cases hf
      exact ⟨fun a e => (by cases e; exact hF), fun _ e => (by cases e)⟩
    · replace hf := (jchk_elim hf).2
      replace hf := (jchk_elim hf).2
      obtain ⟨r_3, -, hf⟩ := jbind_elim hf
      replace hf := (jchk_elim hf).2
      obtain ⟨x5_4, -, hn⟩ := jlet_x hf
      clear hf
      have hf := hn
      clear hn
      replace hf := (jchk_elim hf).2
      replace hf := (jchk_elim hf).2
      replace hf := (jchk_elim hf).2
      replace hf := (jchk_elim hf).2
      obtain ⟨σ_5, ex, hn⟩ := jlet_x hf
      clear hf
      have hf := hn
      clear hn
      have hF := hF.putA ex (by decide)
      obtain ⟨x4_6, -, hn⟩ := jlet_x hf
      clear hf
      have hf := hn
      clear hn
      cases hf
      exact ⟨fun a e => (by cases e; exact hF), fun _ e => (by cases e)⟩
  · cases hf
    exact ⟨fun _ e => (by cases e), fun a e => (by cases e; exact hF)⟩
theorem fr_f_X8_chainFrom_b0 {σ0 σ : St} {x1 x2 : Int} {y : St} (hf : f_X8_chainFrom_b0 σ x1 x2 = some y) (hF : Fr wr_X8_chainFrom σ0 σ) : Fr wr_X8_chainFrom σ0 y := by
  unfold f_X8_chainFrom_b0 at hf
  obtain ⟨x4_1, -, hn⟩ := jlet_x hf
  clear hf
  have hf := hn
  clear hn
  obtain ⟨q0, he, hf⟩ := jbind_elim hf
  have hJ := jloop_inv (I := (fun q : (St × Int) => Fr wr_X8_chainFrom σ0 q.1)) (J := fun q0 => Fr wr_X8_chainFrom σ0 q0) (fun q y hy hI => fr_f_X8_chainFrom_b3 hy hI) _ _ _ he hF
  have hF := hJ
  cases hf
  exact hF
theorem fr_f_X8_chainFrom {σ : St} {x1 x2 : Int} {y : St} (hf : f_X8_chainFrom σ x1 x2 = some y) : Fr wr_X8_chainFrom σ y := fr_f_X8_chainFrom_b0 (by unfold f_X8_chainFrom at hf; exact hf) Fr.refl
abbrev wr_X8_widest : Wr := ([68], [])
theorem fr_f_X8_widest_b21 {σ0 σ : St} {x3 x4 x5 x7 : Int} {y : (St × Int) ⊕ St} (hf : f_X8_widest_b21 σ x3 x4 x5 x7 = some y) (hF : Fr wr_X8_widest σ0 σ) : (∀ s' : (St × Int), y = .inl s' → Fr wr_X8_widest σ0 s'.1) ∧ (∀ e : St, y = .inr e → Fr wr_X8_widest σ0 e) := by
  unfold f_X8_widest_b21 at hf
  replace hf := (jchk_elim hf).2
  rcases jif_x hf with ⟨-, hf⟩ | ⟨-, hf⟩
  · replace hf := (jchk_elim hf).2
    obtain ⟨r_5, -, hf⟩ := jbind_elim hf
    replace hf := (jchk_elim hf).2
    obtain ⟨σ_6, ex, hn⟩ := jlet_x hf
    clear hf
    have hf := hn
    clear hn
    have hF := hF.putA ex (by decide)
    obtain ⟨x7_7, -, hn⟩ := jlet_x hf
    clear hf
    have hf := hn
    clear hn
    cases hf
    exact ⟨fun a e => (by cases e; exact hF), fun _ e => (by cases e)⟩
  · cases hf
    exact ⟨fun _ e => (by cases e), fun a e => (by cases e; exact hF)⟩
theorem fr_f_X8_widest_b67 {σ0 σ : St} {x3 x4 x5 x7 : Int} {y : (St × Int × Int) ⊕ (St × Int)} (hf : f_X8_widest_b67 σ x3 x4 x5 x7 = some y) (hF : Fr wr_X8_widest σ0 σ) : (∀ s' : (St × Int × Int), y = .inl s' → Fr wr_X8_widest σ0 s'.1) ∧ (∀ e : St × Int, y = .inr e → Fr wr_X8_widest σ0 e.1) := by
  unfold f_X8_widest_b67 at hf
  replace hf := (jchk_elim hf).2
  rcases jif_x hf with ⟨-, hf⟩ | ⟨-, hf⟩
  · obtain ⟨r_10, -, hf⟩ := jbind_elim hf
    obtain ⟨x8_11, -, hn⟩ := jlet_x hf
    clear hf
    have hf := hn
    clear hn
    replace hf := (jchk_elim hf).2
    obtain ⟨x9_12, -, hn⟩ := jlet_x hf
    clear hf
    have hf := hn
    clear hn
    replace hf := (jchk_elim hf).2
    obtain ⟨r_13, -, hf⟩ := jbind_elim hf
    replace hf := (jchk_elim hf).2
    obtain ⟨x11_14, -, hn⟩ := jlet_x hf
    clear hf
    have hf := hn
    clear hn
    replace hf := (jchk_elim hf).2
    obtain ⟨x5_15, -, hn⟩ := jlet_x hf
    clear hf
    have hf := hn
    clear hn
    replace hf := (jchk_elim hf).2
    obtain ⟨σ_16, ex, hn⟩ := jlet_x hf
    clear hf
    have hf := hn
    clear hn
    have hF := hF.putA ex (by decide)
    obtain ⟨σ_17, hq, hf⟩ := jbind_elim hf
    have hF := hF.trans ((fr_f_X8_chainFrom hq).mono (P2 := wr_X8_widest) (by decide) (by decide))
    obtain ⟨x7_18, -, hn⟩ := jlet_x hf
    clear hf
    have hf := hn
    clear hn
    cases hf
    exact ⟨fun a e => (by cases e; exact hF), fun _ e => (by cases e)⟩
  · cases hf
    exact ⟨fun _ e => (by cases e), fun a e => (by cases e; exact hF)⟩
theorem fr_f_X8_widest_b0 {σ0 σ : St} {x1 x2 : Int} {y : Int × St} (hf : f_X8_widest_b0 σ x1 x2 = some y) (hF : Fr wr_X8_widest σ0 σ) : Fr wr_X8_widest σ0 y.2 := by
  unfold f_X8_widest_b0 at hf
  replace hf := (jchk_elim hf).2
  obtain ⟨x3_1, -, hn⟩ := jlet_x hf
  clear hf
  have hf := hn
  clear hn
  replace hf := (jchk_elim hf).2
  obtain ⟨x4_2, -, hn⟩ := jlet_x hf
  clear hf
  have hf := hn
  clear hn
  obtain ⟨x5_3, -, hn⟩ := jlet_x hf
  clear hf
  have hf := hn
  clear hn
  obtain ⟨x7_4, -, hn⟩ := jlet_x hf
  clear hf
  have hf := hn
  clear hn
  obtain ⟨q0, he, hf⟩ := jbind_elim hf
  have hJ := jloop_inv (I := (fun q : (St × Int) => Fr wr_X8_widest σ0 q.1)) (J := fun q0 => Fr wr_X8_widest σ0 q0) (fun q y hy hI => fr_f_X8_widest_b21 hy hI) _ _ _ he hF
  have hF := hJ
  obtain ⟨x7_9, -, hn⟩ := jlet_x hf
  clear hf
  have hf := hn
  clear hn
  obtain ⟨q0, he, hf⟩ := jbind_elim hf
  have hJ := jloop_inv (I := (fun q : (St × Int × Int) => Fr wr_X8_widest σ0 q.1)) (J := fun q0 => Fr wr_X8_widest σ0 q0.1) (fun q y hy hI => fr_f_X8_widest_b67 hy hI) _ _ _ he hF
  obtain ⟨σ_19, x5_20⟩ := q0
  have hF := hJ
  cases hf
  exact hF
theorem fr_f_X8_widest {σ : St} {x1 x2 : Int} {y : Int × St} (hf : f_X8_widest σ x1 x2 = some y) : Fr wr_X8_widest σ y.2 := fr_f_X8_widest_b0 (by unfold f_X8_widest at hf; exact hf) Fr.refl
abbrev wr_X10_keep : Wr := ([68], [])
theorem fr_f_X10_keep_b28 {σ0 σ : St} {x1 x2 t0 : Int} {y : Int × St} (hf : f_X10_keep_b28 σ x1 x2 t0 = some y) (hF : Fr wr_X10_keep σ0 σ) : Fr wr_X10_keep σ0 y.2 := by
  unfold f_X10_keep_b28 at hf
  obtain ⟨x3_1, -, hn⟩ := jlet_x hf
  clear hf
  have hf := hn
  clear hn
  replace hf := (jchk_elim hf).2
  rcases jif_x hf with ⟨-, hf⟩ | ⟨-, hf⟩
  · cases hf
    exact hF
  · replace hf := (jchk_elim hf).2
    rcases jif_x hf with ⟨-, hf⟩ | ⟨-, hf⟩
    · obtain ⟨⟨r_2, σ_3⟩, hq, hf⟩ := jbind_elim hf
      have hF := hF.trans ((fr_f_X8_widest hq).mono (P2 := wr_X10_keep) (by decide) (by decide))
      cases hf
      exact hF
    · cases hf
      exact hF
theorem fr_f_X10_keep_b27 {σ0 σ : St} {x1 x2 : Int} {y : Int × St} (hf : f_X10_keep_b27 σ x1 x2 = some y) (hF : Fr wr_X10_keep σ0 σ) : Fr wr_X10_keep σ0 y.2 := by
  unfold f_X10_keep_b27 at hf
  exact fr_f_X10_keep_b28 hf hF
theorem fr_f_X10_keep_b0 {σ0 σ : St} {x1 x2 : Int} {y : Int × St} (hf : f_X10_keep_b0 σ x1 x2 = some y) (hF : Fr wr_X10_keep σ0 σ) : Fr wr_X10_keep σ0 y.2 := by
  unfold f_X10_keep_b0 at hf
  replace hf := (jchk_elim hf).2
  rcases jif_x hf with ⟨-, hf⟩ | ⟨-, hf⟩
  · exact fr_f_X10_keep_b27 hf hF
  · replace hf := (jchk_elim hf).2
    rcases jif_x hf with ⟨-, hf⟩ | ⟨-, hf⟩
    · replace hf := (jchk_elim hf).2
      rcases jif_x hf with ⟨-, hf⟩ | ⟨-, hf⟩
      · exact fr_f_X10_keep_b27 hf hF
      · replace hf := (jchk_elim hf).2
        rcases jif_x hf with ⟨-, hf⟩ | ⟨-, hf⟩
        · replace hf := (jchk_elim hf).2
          rcases jif_x hf with ⟨-, hf⟩ | ⟨-, hf⟩
          · exact fr_f_X10_keep_b27 hf hF
          · exact fr_f_X10_keep_b28 hf hF
        · exact fr_f_X10_keep_b27 hf hF
    · exact fr_f_X10_keep_b27 hf hF
theorem fr_f_X10_keep {σ : St} {x1 x2 : Int} {y : Int × St} (hf : f_X10_keep σ x1 x2 = some y) : Fr wr_X10_keep σ y.2 := fr_f_X10_keep_b0 (by unfold f_X10_keep at hf; exact hf) Fr.refl
abbrev wr_X10_lay : Wr := ([10, 11, 12, 13, 2, 3, 4, 5, 6, 8, 9], [(1, 3), (1, 4), (1, 6), (7, 0), (7, 1)])
theorem fr_f_X10_lay_b63 {σ0 σ : St} {x1 x2 x3 : Int} {y : (St × Int) ⊕ St} (hf : f_X10_lay_b63 σ x1 x2 x3 = some y) (hF : Fr wr_X10_lay σ0 σ) : (∀ s' : (St × Int), y = .inl s' → Fr wr_X10_lay σ0 s'.1) ∧ (∀ e : St, y = .inr e → Fr wr_X10_lay σ0 e) := by
  unfold f_X10_lay_b63 at hf
  replace hf := (jchk_elim hf).2
  rcases jif_x hf with ⟨-, hf⟩ | ⟨-, hf⟩
  · obtain ⟨x4_9, -, hn⟩ := jlet_x hf
    clear hf
    have hf := hn
    clear hn
    obtain ⟨r_10, -, hf⟩ := jbind_elim hf
    replace hf := (jchk_elim hf).2
    replace hf := (jchk_elim hf).2
    replace hf := (jchk_elim hf).2
    replace hf := (jchk_elim hf).2
    obtain ⟨σ_11, hq, hf⟩ := jbind_elim hf
    have hF := hF.trans ((fr_f_X9_put hq).mono (P2 := wr_X10_lay) (by decide) (by decide))
    obtain ⟨x3_12, -, hn⟩ := jlet_x hf
    clear hf
    have hf := hn
    clear hn
    cases hf
    exact ⟨fun a e => (by cases e; exact hF), fun _ e => (by cases e)⟩
  · cases hf
    exact ⟨fun _ e => (by cases e), fun a e => (by cases e; exact hF)⟩
theorem fr_f_X10_lay_b0 {σ0 σ : St} {x1 : Int} {y : Int × St} (hf : f_X10_lay_b0 σ x1 = some y) (hF : Fr wr_X10_lay σ0 σ) : Fr wr_X10_lay σ0 y.2 := by
  unfold f_X10_lay_b0 at hf
  obtain ⟨r_1, -, hf⟩ := jbind_elim hf
  replace hf := (jchk_elim hf).2
  rcases jif_x hf with ⟨-, hf⟩ | ⟨-, hf⟩
  · cases hf
    exact hF
  · replace hf := (jchk_elim hf).2
    obtain ⟨x2_2, -, hn⟩ := jlet_x hf
    clear hf
    have hf := hn
    clear hn
    obtain ⟨x3_3, -, hn⟩ := jlet_x hf
    clear hf
    have hf := hn
    clear hn
    obtain ⟨q0, -, hf⟩ := jbind_elim hf
    rcases q0 with q0 | q0
    · cases hf
      exact hF
    · obtain ⟨σ_7, hq, hf⟩ := jbind_elim hf
      have hF := hF.trans ((fr_f_X5_remember hq).mono (P2 := wr_X10_lay) (by decide) (by decide))
      obtain ⟨x3_8, -, hn⟩ := jlet_x hf
      clear hf
      have hf := hn
      clear hn
      obtain ⟨q0, he, hf⟩ := jbind_elim hf
      have hJ := jloop_inv (I := (fun q : (St × Int) => Fr wr_X10_lay σ0 q.1)) (J := fun q0 => Fr wr_X10_lay σ0 q0) (fun q y hy hI => fr_f_X10_lay_b63 hy hI) _ _ _ he hF
      have hF := hJ
      cases hf
      exact hF
theorem fr_f_X10_lay {σ : St} {x1 : Int} {y : Int × St} (hf : f_X10_lay σ x1 = some y) : Fr wr_X10_lay σ y.2 := fr_f_X10_lay_b0 (by unfold f_X10_lay at hf; exact hf) Fr.refl
abbrev wr_X7_write : Wr := ([16, 17, 18, 19], [])
theorem fr_f_X7_write_b0 {σ0 σ : St} {x1 x2 x3 x4 x5 : Int} {y : St} (hf : f_X7_write_b0 σ x1 x2 x3 x4 x5 = some y) (hF : Fr wr_X7_write σ0 σ) : Fr wr_X7_write σ0 y := by
  unfold f_X7_write_b0 at hf
  replace hf := (jchk_elim hf).2
  obtain ⟨σ_1, ex, hn⟩ := jlet_x hf
  clear hf
  have hf := hn
  clear hn
  have hF := hF.putA ex (by decide)
  replace hf := (jchk_elim hf).2
  obtain ⟨σ_2, ex, hn⟩ := jlet_x hf
  clear hf
  have hf := hn
  clear hn
  have hF := hF.putA ex (by decide)
  replace hf := (jchk_elim hf).2
  obtain ⟨σ_3, ex, hn⟩ := jlet_x hf
  clear hf
  have hf := hn
  clear hn
  have hF := hF.putA ex (by decide)
  replace hf := (jchk_elim hf).2
  obtain ⟨σ_4, ex, hn⟩ := jlet_x hf
  clear hf
  have hf := hn
  clear hn
  have hF := hF.putA ex (by decide)
  cases hf
  exact hF
theorem fr_f_X7_write {σ : St} {x1 x2 x3 x4 x5 : Int} {y : St} (hf : f_X7_write σ x1 x2 x3 x4 x5 = some y) : Fr wr_X7_write σ y := fr_f_X7_write_b0 (by unfold f_X7_write at hf; exact hf) Fr.refl
abbrev wr_X10_line : Wr := ([16, 17, 18, 19], [])
theorem fr_f_X10_line_b0 {σ0 σ : St} {x1 x2 x3 x4 x5 x6 : Int} {y : Int × St} (hf : f_X10_line_b0 σ x1 x2 x3 x4 x5 x6 = some y) (hF : Fr wr_X10_line σ0 σ) : Fr wr_X10_line σ0 y.2 := by
  unfold f_X10_line_b0 at hf
  obtain ⟨r_1, -, hf⟩ := jbind_elim hf
  replace hf := (jchk_elim hf).2
  rcases jif_x hf with ⟨-, hf⟩ | ⟨-, hf⟩
  · cases hf
    exact hF
  · obtain ⟨σ_2, hq, hf⟩ := jbind_elim hf
    have hF := hF.trans ((fr_f_X7_write hq).mono (P2 := wr_X10_line) (by decide) (by decide))
    cases hf
    exact hF
theorem fr_f_X10_line {σ : St} {x1 x2 x3 x4 x5 x6 : Int} {y : Int × St} (hf : f_X10_line σ x1 x2 x3 x4 x5 x6 = some y) : Fr wr_X10_line σ y.2 := fr_f_X10_line_b0 (by unfold f_X10_line at hf; exact jzw_e hf) Fr.refl
abbrev wr_X10_tellCosts : Wr := ([69], [])
theorem fr_f_X10_tellCosts_b3 {σ0 σ : St} {x1 x2 x3 x4 : Int} {y : (St × Int) ⊕ St} (hf : f_X10_tellCosts_b3 σ x1 x2 x3 x4 = some y) (hF : Fr wr_X10_tellCosts σ0 σ) : (∀ s' : (St × Int), y = .inl s' → Fr wr_X10_tellCosts σ0 s'.1) ∧ (∀ e : St, y = .inr e → Fr wr_X10_tellCosts σ0 e) := by
  unfold f_X10_tellCosts_b3 at hf
  replace hf := (jchk_elim hf).2
  rcases jif_x hf with ⟨-, hf⟩ | ⟨-, hf⟩
  · replace hf := (jchk_elim hf).2
    obtain ⟨x5_2, -, hn⟩ := jlet_x hf
    clear hf
    have hf := hn
    clear hn
    replace hf := (jchk_elim hf).2
    replace hf := (jchk_elim hf).2
    replace hf := (jchk_elim hf).2
    replace hf := (jchk_elim hf).2
    obtain ⟨x6_3, -, hn⟩ := jlet_x hf
    clear hf
    have hf := hn
    clear hn
    replace hf := (jchk_elim hf).2
    replace hf := (jchk_elim hf).2
    replace hf := (jchk_elim hf).2
    replace hf := (jchk_elim hf).2
    obtain ⟨x8_4, -, hn⟩ := jlet_x hf
    clear hf
    have hf := hn
    clear hn
    replace hf := (jchk_elim hf).2
    replace hf := (jchk_elim hf).2
    obtain ⟨r_5, -, hf⟩ := jbind_elim hf
    replace hf := (jchk_elim hf).2
    replace hf := (jchk_elim hf).2
    obtain ⟨σ_6, ex, hn⟩ := jlet_x hf
    clear hf
    have hf := hn
    clear hn
    have hF := hF.putA ex (by decide)
    obtain ⟨x4_7, -, hn⟩ := jlet_x hf
    clear hf
    have hf := hn
    clear hn
    cases hf
    exact ⟨fun a e => (by cases e; exact hF), fun _ e => (by cases e)⟩
  · cases hf
    exact ⟨fun _ e => (by cases e), fun a e => (by cases e; exact hF)⟩
theorem fr_f_X10_tellCosts_b0 {σ0 σ : St} {x1 x2 x3 : Int} {y : St} (hf : f_X10_tellCosts_b0 σ x1 x2 x3 = some y) (hF : Fr wr_X10_tellCosts σ0 σ) : Fr wr_X10_tellCosts σ0 y := by
  unfold f_X10_tellCosts_b0 at hf
  obtain ⟨x4_1, -, hn⟩ := jlet_x hf
  clear hf
  have hf := hn
  clear hn
  obtain ⟨q0, he, hf⟩ := jbind_elim hf
  have hJ := jloop_inv (I := (fun q : (St × Int) => Fr wr_X10_tellCosts σ0 q.1)) (J := fun q0 => Fr wr_X10_tellCosts σ0 q0) (fun q y hy hI => fr_f_X10_tellCosts_b3 hy hI) _ _ _ he hF
  have hF := hJ
  cases hf
  exact hF
theorem fr_f_X10_tellCosts {σ : St} {x1 x2 x3 : Int} {y : St} (hf : f_X10_tellCosts σ x1 x2 x3 = some y) : Fr wr_X10_tellCosts σ y := fr_f_X10_tellCosts_b0 (by unfold f_X10_tellCosts at hf; exact hf) Fr.refl
abbrev wr_X10_next : Wr := ([69], [])
theorem fr_f_X10_next_b0 {σ0 σ : St} {x1 x2 x3 x4 : Int} {y : Int × St} (hf : f_X10_next_b0 σ x1 x2 x3 x4 = some y) (hF : Fr wr_X10_next σ0 σ) : Fr wr_X10_next σ0 y.2 := by
  unfold f_X10_next_b0 at hf
  obtain ⟨r_1, -, hf⟩ := jbind_elim hf
  replace hf := (jchk_elim hf).2
  rcases jif_x hf with ⟨-, hf⟩ | ⟨-, hf⟩
  · cases hf
    exact hF
  · obtain ⟨σ_2, hq, hf⟩ := jbind_elim hf
    have hF := hF.trans ((fr_f_X10_tellCosts hq).mono (P2 := wr_X10_next) (by decide) (by decide))
    obtain ⟨x5_3, -, hn⟩ := jlet_x hf
    clear hf
    have hf := hn
    clear hn
    obtain ⟨q0, -, hf⟩ := jbind_elim hf
    rcases q0 with q0 | q0
    · replace hf := (jchk_elim hf).2
      cases hf
      exact hF
    · cases hf
      exact hF
theorem fr_f_X10_next {σ : St} {x1 x2 x3 x4 : Int} {y : Int × St} (hf : f_X10_next σ x1 x2 x3 x4 = some y) : Fr wr_X10_next σ y.2 := fr_f_X10_next_b0 (by unfold f_X10_next at hf; exact hf) Fr.refl
abbrev wr_X9_resize : Wr := ([2], [(1, 0), (1, 1), (1, 3), (1, 4), (1, 6)])
theorem fr_f_X9_resize_b0 {σ0 σ : St} {x1 x2 : Int} {y : St} (hf : f_X9_resize_b0 σ x1 x2 = some y) (hF : Fr wr_X9_resize σ0 σ) : Fr wr_X9_resize σ0 y := by
  unfold f_X9_resize_b0 at hf
  obtain ⟨σ_1, ex, hn⟩ := jlet_x hf
  clear hf
  have hf := hn
  clear hn
  have hF := hF.putF ex (by decide)
  obtain ⟨σ_2, ex, hn⟩ := jlet_x hf
  clear hf
  have hf := hn
  clear hn
  have hF := hF.putF ex (by decide)
  obtain ⟨σ_3, hq, hf⟩ := jbind_elim hf
  have hF := hF.trans ((fr_f_X9_countAnew hq).mono (P2 := wr_X9_resize) (by decide) (by decide))
  cases hf
  exact hF
theorem fr_f_X9_resize {σ : St} {x1 x2 : Int} {y : St} (hf : f_X9_resize σ x1 x2 = some y) : Fr wr_X9_resize σ y := fr_f_X9_resize_b0 (by unfold f_X9_resize at hf; exact hf) Fr.refl
abbrev wr_X10_rectangle : Wr := ([10, 11, 12, 13, 2, 8, 9], [(1, 0), (1, 1), (1, 3), (1, 4), (1, 6), (7, 0), (7, 1)])
theorem fr_f_X10_rectangle_b0 {σ0 σ : St} {x1 x2 : Int} {y : Int × St} (hf : f_X10_rectangle_b0 σ x1 x2 = some y) (hF : Fr wr_X10_rectangle σ0 σ) : Fr wr_X10_rectangle σ0 y.2 := by
  unfold f_X10_rectangle_b0 at hf
  obtain ⟨r_1, -, hf⟩ := jbind_elim hf
  replace hf := (jchk_elim hf).2
  rcases jif_x hf with ⟨-, hf⟩ | ⟨-, hf⟩
  · cases hf
    exact hF
  · obtain ⟨σ_2, hq, hf⟩ := jbind_elim hf
    have hF := hF.trans ((fr_f_X5_remember hq).mono (P2 := wr_X10_rectangle) (by decide) (by decide))
    obtain ⟨σ_3, hq, hf⟩ := jbind_elim hf
    have hF := hF.trans ((fr_f_X9_resize hq).mono (P2 := wr_X10_rectangle) (by decide) (by decide))
    cases hf
    exact hF
theorem fr_f_X10_rectangle {σ : St} {x1 x2 : Int} {y : Int × St} (hf : f_X10_rectangle σ x1 x2 = some y) : Fr wr_X10_rectangle σ y.2 := fr_f_X10_rectangle_b0 (by unfold f_X10_rectangle at hf; exact jzw_e hf) Fr.refl
abbrev wr_X6_setRound : Wr := ([], [(35, 10), (35, 8), (35, 9)])
theorem fr_f_X6_setRound_b77 {σ0 σ : St} {x1 x2 x3 x4 x6 t0 : Int} {y : Int × St} (hf : f_X6_setRound_b77 σ x1 x2 x3 x4 x6 t0 = some y) (hF : Fr wr_X6_setRound σ0 σ) : Fr wr_X6_setRound σ0 y.2 := by
  unfold f_X6_setRound_b77 at hf
  obtain ⟨x8_6, -, hn⟩ := jlet_x hf
  clear hf
  have hf := hn
  clear hn
  replace hf := (jchk_elim hf).2
  obtain ⟨σ_7, ex, hn⟩ := jlet_x hf
  clear hf
  have hf := hn
  clear hn
  have hF := hF.putF ex (by decide)
  replace hf := (jchk_elim hf).2
  replace hf := (jchk_elim hf).2
  replace hf := (jchk_elim hf).2
  replace hf := (jchk_elim hf).2
  replace hf := (jchk_elim hf).2
  replace hf := (jchk_elim hf).2
  obtain ⟨σ_8, ex, hn⟩ := jlet_x hf
  clear hf
  have hf := hn
  clear hn
  have hF := hF.putF ex (by decide)
  replace hf := (jchk_elim hf).2
  replace hf := (jchk_elim hf).2
  replace hf := (jchk_elim hf).2
  replace hf := (jchk_elim hf).2
  replace hf := (jchk_elim hf).2
  replace hf := (jchk_elim hf).2
  obtain ⟨σ_9, ex, hn⟩ := jlet_x hf
  clear hf
  have hf := hn
  clear hn
  have hF := hF.putF ex (by decide)
  replace hf := (jchk_elim hf).2
  rcases jif_x hf with ⟨-, hf⟩ | ⟨-, hf⟩
  · cases hf
    exact hF
  · cases hf
    exact hF
theorem fr_f_X6_setRound_b44 {σ0 σ : St} {x1 x2 x3 x4 t0 : Int} {y : Int × St} (hf : f_X6_setRound_b44 σ x1 x2 x3 x4 t0 = some y) (hF : Fr wr_X6_setRound σ0 σ) : Fr wr_X6_setRound σ0 y.2 := by
  unfold f_X6_setRound_b44 at hf
  obtain ⟨x6_4, -, hn⟩ := jlet_x hf
  clear hf
  have hf := hn
  clear hn
  replace hf := (jchk_elim hf).2
  rcases jif_x hf with ⟨-, hf⟩ | ⟨-, hf⟩
  · obtain ⟨r_10, -, hf⟩ := jbind_elim hf
    replace hf := (jchk_elim hf).2
    exact fr_f_X6_setRound_b77 hf hF
  · obtain ⟨r_5, -, hf⟩ := jbind_elim hf
    replace hf := (jchk_elim hf).2
    exact fr_f_X6_setRound_b77 hf hF
theorem fr_f_X6_setRound_b0 {σ0 σ : St} {x1 x2 x3 : Int} {y : Int × St} (hf : f_X6_setRound_b0 σ x1 x2 x3 = some y) (hF : Fr wr_X6_setRound σ0 σ) : Fr wr_X6_setRound σ0 y.2 := by
  unfold f_X6_setRound_b0 at hf
  obtain ⟨r_1, -, hf⟩ := jbind_elim hf
  replace hf := (jchk_elim hf).2
  obtain ⟨x4_2, -, hn⟩ := jlet_x hf
  clear hf
  have hf := hn
  clear hn
  replace hf := (jchk_elim hf).2
  rcases jif_x hf with ⟨-, hf⟩ | ⟨-, hf⟩
  · obtain ⟨r_11, -, hf⟩ := jbind_elim hf
    replace hf := (jchk_elim hf).2
    exact fr_f_X6_setRound_b44 hf hF
  · obtain ⟨r_3, -, hf⟩ := jbind_elim hf
    replace hf := (jchk_elim hf).2
    exact fr_f_X6_setRound_b44 hf hF
theorem fr_f_X6_setRound {σ : St} {x1 x2 x3 : Int} {y : Int × St} (hf : f_X6_setRound σ x1 x2 x3 = some y) : Fr wr_X6_setRound σ y.2 := fr_f_X6_setRound_b0 (by unfold f_X6_setRound at hf; exact jzw_e hf) Fr.refl
abbrev wr_X6_look : Wr := ([36, 37, 38, 39, 40], [(35, 10), (35, 2), (35, 8), (35, 9)])
theorem fr_f_X6_look_b0 {σ0 σ : St} {x1 x2 x3 : Int} {y : St} (hf : f_X6_look_b0 σ x1 x2 x3 = some y) (hF : Fr wr_X6_look σ0 σ) : Fr wr_X6_look σ0 y := by
  unfold f_X6_look_b0 at hf
  obtain ⟨⟨r_1, σ_2⟩, hq, hf⟩ := jbind_elim hf
  have hF := hF.trans ((fr_f_X6_setRound hq).mono (P2 := wr_X6_look) (by decide) (by decide))
  replace hf := (jchk_elim hf).2
  rcases jif_x hf with ⟨-, hf⟩ | ⟨-, hf⟩
  · cases hf
    exact hF
  · obtain ⟨r_3, -, hf⟩ := jbind_elim hf
    obtain ⟨x4_4, -, hn⟩ := jlet_x hf
    clear hf
    have hf := hn
    clear hn
    replace hf := (jchk_elim hf).2
    rcases jif_x hf with ⟨-, hf⟩ | ⟨-, hf⟩
    · cases hf
      exact hF
    · replace hf := (jchk_elim hf).2
      rcases jif_x hf with ⟨-, hf⟩ | ⟨-, hf⟩
      · replace hf := (jchk_elim hf).2
        obtain ⟨σ_5, ex, hn⟩ := jlet_x hf
        clear hf
        have hf := hn
        clear hn
        have hF := hF.putA ex (by decide)
        replace hf := (jchk_elim hf).2
        obtain ⟨σ_6, ex, hn⟩ := jlet_x hf
        clear hf
        have hf := hn
        clear hn
        have hF := hF.putA ex (by decide)
        replace hf := (jchk_elim hf).2
        obtain ⟨σ_7, ex, hn⟩ := jlet_x hf
        clear hf
        have hf := hn
        clear hn
        have hF := hF.putA ex (by decide)
        replace hf := (jchk_elim hf).2
        obtain ⟨σ_8, ex, hn⟩ := jlet_x hf
        clear hf
        have hf := hn
        clear hn
        have hF := hF.putA ex (by decide)
        replace hf := (jchk_elim hf).2
        obtain ⟨σ_9, ex, hn⟩ := jlet_x hf
        clear hf
        have hf := hn
        clear hn
        have hF := hF.putA ex (by decide)
        obtain ⟨σ_10, ex, hn⟩ := jlet_x hf
        clear hf
        have hf := hn
        clear hn
        have hF := hF.putF ex (by decide)
        cases hf
        exact hF
      · cases hf
        exact hF
theorem fr_f_X6_look {σ : St} {x1 x2 x3 : Int} {y : St} (hf : f_X6_look σ x1 x2 x3 = some y) : Fr wr_X6_look σ y := fr_f_X6_look_b0 (by unfold f_X6_look at hf; exact hf) Fr.refl
abbrev wr_X6_findOnce : Wr := ([36, 37, 38, 39, 40], [(35, 1), (35, 10), (35, 2), (35, 8), (35, 9)])
theorem fr_f_X6_findOnce_b63 {σ0 σ : St} {x1 x2 x3 : Int} {y : (St × Int) ⊕ St} (hf : f_X6_findOnce_b63 σ x1 x2 x3 = some y) (hF : Fr wr_X6_findOnce σ0 σ) : (∀ s' : (St × Int), y = .inl s' → Fr wr_X6_findOnce σ0 s'.1) ∧ (∀ e : St, y = .inr e → Fr wr_X6_findOnce σ0 e) := by
  unfold f_X6_findOnce_b63 at hf
  replace hf := (jchk_elim hf).2
  rcases jif_x hf with ⟨-, hf⟩ | ⟨-, hf⟩
  · replace hf := (jchk_elim hf).2
    replace hf := (jchk_elim hf).2
    replace hf := (jchk_elim hf).2
    obtain ⟨σ_6, hq, hf⟩ := jbind_elim hf
    have hF := hF.trans ((fr_f_X6_look hq).mono (P2 := wr_X6_findOnce) (by decide) (by decide))
    obtain ⟨x3_7, -, hn⟩ := jlet_x hf
    clear hf
    have hf := hn
    clear hn
    cases hf
    exact ⟨fun a e => (by cases e; exact hF), fun _ e => (by cases e)⟩
  · cases hf
    exact ⟨fun _ e => (by cases e), fun a e => (by cases e; exact hF)⟩
theorem fr_f_X6_findOnce_b48 {σ0 σ : St} {x1 x2 : Int} {y : (St × Int) ⊕ St} (hf : f_X6_findOnce_b48 σ x1 x2 = some y) (hF : Fr wr_X6_findOnce σ0 σ) : (∀ s' : (St × Int), y = .inl s' → Fr wr_X6_findOnce σ0 s'.1) ∧ (∀ e : St, y = .inr e → Fr wr_X6_findOnce σ0 e) := by
  unfold f_X6_findOnce_b48 at hf
  replace hf := (jchk_elim hf).2
  rcases jif_x hf with ⟨-, hf⟩ | ⟨-, hf⟩
  · obtain ⟨x3_5, -, hn⟩ := jlet_x hf
    clear hf
    have hf := hn
    clear hn
    obtain ⟨q0, he, hf⟩ := jbind_elim hf
    have hJ := jloop_inv (I := (fun q : (St × Int) => Fr wr_X6_findOnce σ0 q.1)) (J := fun q0 => Fr wr_X6_findOnce σ0 q0) (fun q y hy hI => fr_f_X6_findOnce_b63 hy hI) _ _ _ he hF
    have hF := hJ
    obtain ⟨x2_9, -, hn⟩ := jlet_x hf
    clear hf
    have hf := hn
    clear hn
    cases hf
    exact ⟨fun a e => (by cases e; exact hF), fun _ e => (by cases e)⟩
  · cases hf
    exact ⟨fun _ e => (by cases e), fun a e => (by cases e; exact hF)⟩
theorem fr_f_X6_findOnce_b33 {σ0 σ : St} {x1 : Int} {y : (St × Int) ⊕ St} (hf : f_X6_findOnce_b33 σ x1 = some y) (hF : Fr wr_X6_findOnce σ0 σ) : (∀ s' : (St × Int), y = .inl s' → Fr wr_X6_findOnce σ0 s'.1) ∧ (∀ e : St, y = .inr e → Fr wr_X6_findOnce σ0 e) := by
  unfold f_X6_findOnce_b33 at hf
  replace hf := (jchk_elim hf).2
  rcases jif_x hf with ⟨-, hf⟩ | ⟨-, hf⟩
  · obtain ⟨x2_4, -, hn⟩ := jlet_x hf
    clear hf
    have hf := hn
    clear hn
    obtain ⟨q0, he, hf⟩ := jbind_elim hf
    have hJ := jloop_inv (I := (fun q : (St × Int) => Fr wr_X6_findOnce σ0 q.1)) (J := fun q0 => Fr wr_X6_findOnce σ0 q0) (fun q y hy hI => fr_f_X6_findOnce_b48 hy hI) _ _ _ he hF
    have hF := hJ
    obtain ⟨x1_11, -, hn⟩ := jlet_x hf
    clear hf
    have hf := hn
    clear hn
    cases hf
    exact ⟨fun a e => (by cases e; exact hF), fun _ e => (by cases e)⟩
  · cases hf
    exact ⟨fun _ e => (by cases e), fun a e => (by cases e; exact hF)⟩
theorem fr_f_X6_findOnce_b0 {σ0 σ : St} {y : St} (hf : f_X6_findOnce_b0 σ = some y) (hF : Fr wr_X6_findOnce σ0 σ) : Fr wr_X6_findOnce σ0 y := by
  unfold f_X6_findOnce_b0 at hf
  replace hf := (jchk_elim hf).2
  rcases jif_x hf with ⟨-, hf⟩ | ⟨-, hf⟩
  · cases hf
    exact hF
  · obtain ⟨σ_1, ex, hn⟩ := jlet_x hf
    clear hf
    have hf := hn
    clear hn
    have hF := hF.putF ex (by decide)
    obtain ⟨σ_2, ex, hn⟩ := jlet_x hf
    clear hf
    have hf := hn
    clear hn
    have hF := hF.putF ex (by decide)
    obtain ⟨x1_3, -, hn⟩ := jlet_x hf
    clear hf
    have hf := hn
    clear hn
    obtain ⟨q0, he, hf⟩ := jbind_elim hf
    have hJ := jloop_inv (I := (fun q : (St × Int) => Fr wr_X6_findOnce σ0 q.1)) (J := fun q0 => Fr wr_X6_findOnce σ0 q0) (fun q y hy hI => fr_f_X6_findOnce_b33 hy hI) _ _ _ he hF
    have hF := hJ
    cases hf
    exact hF
theorem fr_f_X6_findOnce {σ : St} {y : St} (hf : f_X6_findOnce σ = some y) : Fr wr_X6_findOnce σ y := fr_f_X6_findOnce_b0 (by unfold f_X6_findOnce at hf; exact hf) Fr.refl
abbrev wr_X10_ring : Wr := ([36, 37, 38, 39, 40], [(35, 1), (35, 10), (35, 2), (35, 8), (35, 9)])
theorem fr_f_X10_ring_b0 {σ0 σ : St} {x1 : Int} {y : Int × St} (hf : f_X10_ring_b0 σ x1 = some y) (hF : Fr wr_X10_ring σ0 σ) : Fr wr_X10_ring σ0 y.2 := by
  unfold f_X10_ring_b0 at hf
  obtain ⟨σ_1, hq, hf⟩ := jbind_elim hf
  have hF := hF.trans ((fr_f_X6_findOnce hq).mono (P2 := wr_X10_ring) (by decide) (by decide))
  replace hf := (jchk_elim hf).2
  rcases jif_x hf with ⟨-, hf⟩ | ⟨-, hf⟩
  · cases hf
    exact hF
  · replace hf := (jchk_elim hf).2
    rcases jif_x hf with ⟨-, hf⟩ | ⟨-, hf⟩
    · replace hf := (jchk_elim hf).2
      cases hf
      exact hF
    · cases hf
      exact hF
theorem fr_f_X10_ring {σ : St} {x1 : Int} {y : Int × St} (hf : f_X10_ring σ x1 = some y) : Fr wr_X10_ring σ y.2 := fr_f_X10_ring_b0 (by unfold f_X10_ring at hf; exact hf) Fr.refl
abbrev wr_X10_rings : Wr := ([36, 37, 38, 39, 40], [(35, 1), (35, 10), (35, 2), (35, 8), (35, 9)])
theorem fr_f_X10_rings_b0 {σ0 σ : St} {y : Int × St} (hf : f_X10_rings_b0 σ = some y) (hF : Fr wr_X10_rings σ0 σ) : Fr wr_X10_rings σ0 y.2 := by
  unfold f_X10_rings_b0 at hf
  obtain ⟨σ_1, hq, hf⟩ := jbind_elim hf
  have hF := hF.trans ((fr_f_X6_findOnce hq).mono (P2 := wr_X10_rings) (by decide) (by decide))
  cases hf
  exact hF
theorem fr_f_X10_rings {σ : St} {y : Int × St} (hf : f_X10_rings σ = some y) : Fr wr_X10_rings σ y.2 := fr_f_X10_rings_b0 (by unfold f_X10_rings at hf; exact hf) Fr.refl
abbrev wr_X10_round : Wr := ([36, 37, 38, 39, 40], [(35, 1), (35, 10), (35, 2), (35, 8), (35, 9)])
theorem fr_f_X10_round_b0 {σ0 σ : St} {x1 x2 : Int} {y : Int × St} (hf : f_X10_round_b0 σ x1 x2 = some y) (hF : Fr wr_X10_round σ0 σ) : Fr wr_X10_round σ0 y.2 := by
  unfold f_X10_round_b0 at hf
  obtain ⟨σ_1, hq, hf⟩ := jbind_elim hf
  have hF := hF.trans ((fr_f_X6_findOnce hq).mono (P2 := wr_X10_round) (by decide) (by decide))
  obtain ⟨r_2, -, hf⟩ := jbind_elim hf
  cases hf
  exact hF
theorem fr_f_X10_round {σ : St} {x1 x2 : Int} {y : Int × St} (hf : f_X10_round σ x1 x2 = some y) : Fr wr_X10_round σ y.2 := fr_f_X10_round_b0 (by unfold f_X10_round at hf; exact hf) Fr.refl
abbrev wr_X9_turnTo : Wr := ([2], [(1, 2), (1, 3), (1, 4), (1, 6)])
theorem fr_f_X9_turnTo_b0 {σ0 σ : St} {x1 : Int} {y : St} (hf : f_X9_turnTo_b0 σ x1 = some y) (hF : Fr wr_X9_turnTo σ0 σ) : Fr wr_X9_turnTo σ0 y := by
  unfold f_X9_turnTo_b0 at hf
  obtain ⟨σ_1, ex, hn⟩ := jlet_x hf
  clear hf
  have hf := hn
  clear hn
  have hF := hF.putF ex (by decide)
  obtain ⟨σ_2, hq, hf⟩ := jbind_elim hf
  have hF := hF.trans ((fr_f_X9_countAnew hq).mono (P2 := wr_X9_turnTo) (by decide) (by decide))
  cases hf
  exact hF
theorem fr_f_X9_turnTo {σ : St} {x1 : Int} {y : St} (hf : f_X9_turnTo σ x1 = some y) : Fr wr_X9_turnTo σ y := fr_f_X9_turnTo_b0 (by unfold f_X9_turnTo at hf; exact hf) Fr.refl
abbrev wr_X10_season : Wr := ([2], [(1, 2), (1, 3), (1, 4), (1, 6)])
theorem fr_f_X10_season_b0 {σ0 σ : St} {x1 : Int} {y : Int × St} (hf : f_X10_season_b0 σ x1 = some y) (hF : Fr wr_X10_season σ0 σ) : Fr wr_X10_season σ0 y.2 := by
  unfold f_X10_season_b0 at hf
  replace hf := (jchk_elim hf).2
  rcases jif_x hf with ⟨-, hf⟩ | ⟨-, hf⟩
  · cases hf
    exact hF
  · replace hf := (jchk_elim hf).2
    rcases jif_x hf with ⟨-, hf⟩ | ⟨-, hf⟩
    · obtain ⟨x2_1, -, hn⟩ := jlet_x hf
      clear hf
      have hf := hn
      clear hn
      obtain ⟨σ_2, hq, hf⟩ := jbind_elim hf
      have hF := hF.trans ((fr_f_X9_turnTo hq).mono (P2 := wr_X10_season) (by decide) (by decide))
      cases hf
      exact hF
    · cases hf
      exact hF
theorem fr_f_X10_season {σ : St} {x1 : Int} {y : Int × St} (hf : f_X10_season σ x1 = some y) : Fr wr_X10_season σ y.2 := fr_f_X10_season_b0 (by unfold f_X10_season at hf; exact hf) Fr.refl
abbrev wr_X10_serves : Wr := ([69], [])
theorem fr_f_X10_serves_b0 {σ0 σ : St} {x1 x2 x3 : Int} {y : Int × St} (hf : f_X10_serves_b0 σ x1 x2 x3 = some y) (hF : Fr wr_X10_serves σ0 σ) : Fr wr_X10_serves σ0 y.2 := by
  unfold f_X10_serves_b0 at hf
  obtain ⟨r_1, -, hf⟩ := jbind_elim hf
  replace hf := (jchk_elim hf).2
  rcases jif_x hf with ⟨-, hf⟩ | ⟨-, hf⟩
  · cases hf
    exact hF
  · obtain ⟨σ_2, hq, hf⟩ := jbind_elim hf
    have hF := hF.trans ((fr_f_X10_tellCosts hq).mono (P2 := wr_X10_serves) (by decide) (by decide))
    obtain ⟨x4_3, -, hn⟩ := jlet_x hf
    clear hf
    have hf := hn
    clear hn
    obtain ⟨x5_4, -, hn⟩ := jlet_x hf
    clear hf
    have hf := hn
    clear hn
    obtain ⟨q0, -, hf⟩ := jbind_elim hf
    cases hf
    exact hF
theorem fr_f_X10_serves {σ : St} {x1 x2 x3 : Int} {y : Int × St} (hf : f_X10_serves σ x1 x2 x3 = some y) : Fr wr_X10_serves σ y.2 := fr_f_X10_serves_b0 (by unfold f_X10_serves at hf; exact hf) Fr.refl
abbrev wr_X7_begin : Wr := ([15, 16, 17, 18, 19], [])
theorem fr_f_X7_begin_b9 {σ0 σ : St} {x1 x3 : Int} {y : (St × Int) ⊕ St} (hf : f_X7_begin_b9 σ x1 x3 = some y) (hF : Fr wr_X7_begin σ0 σ) : (∀ s' : (St × Int), y = .inl s' → Fr wr_X7_begin σ0 s'.1) ∧ (∀ e : St, y = .inr e → Fr wr_X7_begin σ0 e) := by
  unfold f_X7_begin_b9 at hf
  replace hf := (jchk_elim hf).2
  rcases jif_x hf with ⟨-, hf⟩ | ⟨-, hf⟩
  · obtain ⟨σ_3, hq, hf⟩ := jbind_elim hf
    have hF := hF.trans ((fr_f_X7_write hq).mono (P2 := wr_X7_begin) (by decide) (by decide))
    obtain ⟨x3_4, -, hn⟩ := jlet_x hf
    clear hf
    have hf := hn
    clear hn
    cases hf
    exact ⟨fun a e => (by cases e; exact hF), fun _ e => (by cases e)⟩
  · cases hf
    exact ⟨fun _ e => (by cases e), fun a e => (by cases e; exact hF)⟩
theorem fr_f_X7_begin_b0 {σ0 σ : St} {x1 x2 : Int} {y : St} (hf : f_X7_begin_b0 σ x1 x2 = some y) (hF : Fr wr_X7_begin σ0 σ) : Fr wr_X7_begin σ0 y := by
  unfold f_X7_begin_b0 at hf
  replace hf := (jchk_elim hf).2
  obtain ⟨σ_1, ex, hn⟩ := jlet_x hf
  clear hf
  have hf := hn
  clear hn
  have hF := hF.putA ex (by decide)
  obtain ⟨x3_2, -, hn⟩ := jlet_x hf
  clear hf
  have hf := hn
  clear hn
  obtain ⟨q0, he, hf⟩ := jbind_elim hf
  have hJ := jloop_inv (I := (fun q : (St × Int) => Fr wr_X7_begin σ0 q.1)) (J := fun q0 => Fr wr_X7_begin σ0 q0) (fun q y hy hI => fr_f_X7_begin_b9 hy hI) _ _ _ he hF
  have hF := hJ
  cases hf
  exact hF
theorem fr_f_X7_begin {σ : St} {x1 x2 : Int} {y : St} (hf : f_X7_begin σ x1 x2 = some y) : Fr wr_X7_begin σ y := fr_f_X7_begin_b0 (by unfold f_X7_begin at hf; exact hf) Fr.refl
abbrev wr_X10_sheet : Wr := ([15, 16, 17, 18, 19], [])
theorem fr_f_X10_sheet_b0 {σ0 σ : St} {x1 x2 : Int} {y : Int × St} (hf : f_X10_sheet_b0 σ x1 x2 = some y) (hF : Fr wr_X10_sheet σ0 σ) : Fr wr_X10_sheet σ0 y.2 := by
  unfold f_X10_sheet_b0 at hf
  replace hf := (jchk_elim hf).2
  rcases jif_x hf with ⟨-, hf⟩ | ⟨-, hf⟩
  · cases hf
    exact hF
  · replace hf := (jchk_elim hf).2
    rcases jif_x hf with ⟨-, hf⟩ | ⟨-, hf⟩
    · replace hf := (jchk_elim hf).2
      rcases jif_x hf with ⟨-, hf⟩ | ⟨-, hf⟩
      · cases hf
        exact hF
      · replace hf := (jchk_elim hf).2
        rcases jif_x hf with ⟨-, hf⟩ | ⟨-, hf⟩
        · cases hf
          exact hF
        · obtain ⟨σ_1, hq, hf⟩ := jbind_elim hf
          have hF := hF.trans ((fr_f_X7_begin hq).mono (P2 := wr_X10_sheet) (by decide) (by decide))
          cases hf
          exact hF
    · cases hf
      exact hF
theorem fr_f_X10_sheet {σ : St} {x1 x2 : Int} {y : Int × St} (hf : f_X10_sheet σ x1 x2 = some y) : Fr wr_X10_sheet σ y.2 := fr_f_X10_sheet_b0 (by unfold f_X10_sheet at hf; exact jzw_e hf) Fr.refl
abbrev wr_X10_sink : Wr := ([10, 11, 12, 13, 2, 3, 4, 5, 6, 8, 9], [(1, 3), (1, 4), (1, 6), (7, 0), (7, 1)])
theorem fr_f_X10_sink_b0 {σ0 σ : St} {x1 x2 x3 x4 : Int} {y : Int × St} (hf : f_X10_sink_b0 σ x1 x2 x3 x4 = some y) (hF : Fr wr_X10_sink σ0 σ) : Fr wr_X10_sink σ0 y.2 := by
  unfold f_X10_sink_b0 at hf
  obtain ⟨r_1, -, hf⟩ := jbind_elim hf
  replace hf := (jchk_elim hf).2
  rcases jif_x hf with ⟨-, hf⟩ | ⟨-, hf⟩
  · cases hf
    exact hF
  · obtain ⟨r_2, -, hf⟩ := jbind_elim hf
    replace hf := (jchk_elim hf).2
    rcases jif_x hf with ⟨-, hf⟩ | ⟨-, hf⟩
    · obtain ⟨r_3, -, hf⟩ := jbind_elim hf
      obtain ⟨x5_4, -, hn⟩ := jlet_x hf
      clear hf
      have hf := hn
      clear hn
      replace hf := (jchk_elim hf).2
      rcases jif_x hf with ⟨-, hf⟩ | ⟨-, hf⟩
      · cases hf
        exact hF
      · obtain ⟨σ_5, hq, hf⟩ := jbind_elim hf
        have hF := hF.trans ((fr_f_X5_remember hq).mono (P2 := wr_X10_sink) (by decide) (by decide))
        obtain ⟨σ_6, hq, hf⟩ := jbind_elim hf
        have hF := hF.trans ((fr_f_X9_put hq).mono (P2 := wr_X10_sink) (by decide) (by decide))
        cases hf
        exact hF
    · cases hf
      exact hF
theorem fr_f_X10_sink {σ : St} {x1 x2 x3 x4 : Int} {y : Int × St} (hf : f_X10_sink σ x1 x2 x3 x4 = some y) : Fr wr_X10_sink σ y.2 := fr_f_X10_sink_b0 (by unfold f_X10_sink at hf; exact hf) Fr.refl
abbrev wr_X5_takeBack : Wr := ([2, 3, 4, 5, 6], [(1, 0), (1, 1), (1, 3), (1, 4), (1, 6), (7, 0), (7, 1)])
theorem fr_f_X5_takeBack_b38 {σ0 σ : St} {t1 : Int} {y : Int × St} (hf : f_X5_takeBack_b38 σ t1 = some y) (hF : Fr wr_X5_takeBack σ0 σ) : Fr wr_X5_takeBack σ0 y.2 := by
  unfold f_X5_takeBack_b38 at hf
  obtain ⟨σ_2, ex, hn⟩ := jlet_x hf
  clear hf
  have hf := hn
  clear hn
  have hF := hF.putF ex (by decide)
  obtain ⟨x2_3, -, hn⟩ := jlet_x hf
  clear hf
  have hf := hn
  clear hn
  replace hf := (jchk_elim hf).2
  obtain ⟨σ_4, ex, hn⟩ := jlet_x hf
  clear hf
  have hf := hn
  clear hn
  have hF := hF.row ex (by decide)
  replace hf := (jchk_elim hf).2
  obtain ⟨σ_5, ex, hn⟩ := jlet_x hf
  clear hf
  have hf := hn
  clear hn
  have hF := hF.row ex (by decide)
  replace hf := (jchk_elim hf).2
  obtain ⟨σ_6, ex, hn⟩ := jlet_x hf
  clear hf
  have hf := hn
  clear hn
  have hF := hF.row ex (by decide)
  replace hf := (jchk_elim hf).2
  obtain ⟨σ_7, ex, hn⟩ := jlet_x hf
  clear hf
  have hf := hn
  clear hn
  have hF := hF.row ex (by decide)
  replace hf := (jchk_elim hf).2
  replace hf := (jchk_elim hf).2
  obtain ⟨σ_8, hq, hf⟩ := jbind_elim hf
  have hF := hF.trans ((fr_f_X9_resize hq).mono (P2 := wr_X5_takeBack) (by decide) (by decide))
  cases hf
  exact hF
theorem fr_f_X5_takeBack_b0 {σ0 σ : St} {y : Int × St} (hf : f_X5_takeBack_b0 σ = some y) (hF : Fr wr_X5_takeBack σ0 σ) : Fr wr_X5_takeBack σ0 y.2 := by
  unfold f_X5_takeBack_b0 at hf
  replace hf := (jchk_elim hf).2
  rcases jif_x hf with ⟨-, hf⟩ | ⟨-, hf⟩
  · cases hf
    exact hF
  · obtain ⟨σ_1, ex, hn⟩ := jlet_x hf
    clear hf
    have hf := hn
    clear hn
    have hF := hF.putF ex (by decide)
    replace hf := (jchk_elim hf).2
    rcases jif_x hf with ⟨-, hf⟩ | ⟨-, hf⟩
    · exact fr_f_X5_takeBack_b38 hf hF
    · exact fr_f_X5_takeBack_b38 hf hF
theorem fr_f_X5_takeBack {σ : St} {y : Int × St} (hf : f_X5_takeBack σ = some y) : Fr wr_X5_takeBack σ y.2 := fr_f_X5_takeBack_b0 (by unfold f_X5_takeBack at hf; exact jzw_e hf) Fr.refl
abbrev wr_X10_undo : Wr := ([2, 3, 4, 5, 6], [(1, 0), (1, 1), (1, 3), (1, 4), (1, 6), (7, 0), (7, 1)])
theorem fr_f_X10_undo_b0 {σ0 σ : St} {y : Int × St} (hf : f_X10_undo_b0 σ = some y) (hF : Fr wr_X10_undo σ0 σ) : Fr wr_X10_undo σ0 y.2 := by
  unfold f_X10_undo_b0 at hf
  obtain ⟨⟨r_1, σ_2⟩, hq, hf⟩ := jbind_elim hf
  have hF := hF.trans ((fr_f_X5_takeBack hq).mono (P2 := wr_X10_undo) (by decide) (by decide))
  replace hf := (jchk_elim hf).2
  rcases jif_x hf with ⟨-, hf⟩ | ⟨-, hf⟩
  · cases hf
    exact hF
  · cases hf
    exact hF
theorem fr_f_X10_undo {σ : St} {y : Int × St} (hf : f_X10_undo σ = some y) : Fr wr_X10_undo σ y.2 := fr_f_X10_undo_b0 (by unfold f_X10_undo at hf; exact hf) Fr.refl
abbrev wr_X11_line : Wr := ([13, 14, 15], [(0, 16)])
theorem fr_f_X11_line_b0 {σ0 σ : St} {x1 x3 x5 : Int} {y : St} (hf : f_X11_line_b0 σ x1 x3 x5 = some y) (hF : Fr wr_X11_line σ0 σ) : Fr wr_X11_line σ0 y := by
  unfold f_X11_line_b0 at hf
  replace hf := (jchk_elim hf).2
  obtain ⟨σ_1, ex, hn⟩ := jlet_x hf
  clear hf
  have hf := hn
  clear hn
  have hF := hF.putA ex (by decide)
  replace hf := (jchk_elim hf).2
  obtain ⟨σ_2, ex, hn⟩ := jlet_x hf
  clear hf
  have hf := hn
  clear hn
  have hF := hF.putA ex (by decide)
  replace hf := (jchk_elim hf).2
  obtain ⟨σ_3, ex, hn⟩ := jlet_x hf
  clear hf
  have hf := hn
  clear hn
  have hF := hF.putA ex (by decide)
  obtain ⟨σ_4, ex, hn⟩ := jlet_x hf
  clear hf
  have hf := hn
  clear hn
  have hF := hF.putF ex (by decide)
  cases hf
  exact hF
theorem fr_f_X11_line {σ : St} {x1 x3 x5 : Int} {y : St} (hf : f_X11_line σ x1 x3 x5 = some y) : Fr wr_X11_line σ y := fr_f_X11_line_b0 (by unfold f_X11_line at hf; exact hf) Fr.refl
abbrev wr_X11_against : Wr := ([13, 14, 15], [(0, 16)])
theorem fr_f_X11_against_b0 {σ0 σ : St} {x1 x2 : Int} {y : St} (hf : f_X11_against_b0 σ x1 x2 = some y) (hF : Fr wr_X11_against σ0 σ) : Fr wr_X11_against σ0 y := by
  unfold f_X11_against_b0 at hf
  replace hf := (jchk_elim hf).2
  replace hf := (jchk_elim hf).2
  obtain ⟨x3_1, -, hn⟩ := jlet_x hf
  clear hf
  have hf := hn
  clear hn
  replace hf := (jchk_elim hf).2
  replace hf := (jchk_elim hf).2
  obtain ⟨x5_2, -, hn⟩ := jlet_x hf
  clear hf
  have hf := hn
  clear hn
  replace hf := (jchk_elim hf).2
  replace hf := (jchk_elim hf).2
  obtain ⟨x7_3, -, hn⟩ := jlet_x hf
  clear hf
  have hf := hn
  clear hn
  replace hf := (jchk_elim hf).2
  replace hf := (jchk_elim hf).2
  obtain ⟨x9_4, -, hn⟩ := jlet_x hf
  clear hf
  have hf := hn
  clear hn
  obtain ⟨r_5, -, hf⟩ := jbind_elim hf
  obtain ⟨r_6, -, hf⟩ := jbind_elim hf
  obtain ⟨σ_7, hq, hf⟩ := jbind_elim hf
  have hF := hF.trans ((fr_f_X11_line hq).mono (P2 := wr_X11_against) (by decide) (by decide))
  cases hf
  exact hF
theorem fr_f_X11_against {σ : St} {x1 x2 : Int} {y : St} (hf : f_X11_against σ x1 x2 = some y) : Fr wr_X11_against σ y := fr_f_X11_against_b0 (by unfold f_X11_against at hf; exact hf) Fr.refl
abbrev wr_X11_linesOf : Wr := ([13, 14, 15], [(0, 16)])
theorem fr_f_X11_linesOf_b18 {σ0 σ : St} {x1 x2 x3 : Int} {y : (St × Int) ⊕ St} (hf : f_X11_linesOf_b18 σ x1 x2 x3 = some y) (hF : Fr wr_X11_linesOf σ0 σ) : (∀ s' : (St × Int), y = .inl s' → Fr wr_X11_linesOf σ0 s'.1) ∧ (∀ e : St, y = .inr e → Fr wr_X11_linesOf σ0 e) := by
  unfold f_X11_linesOf_b18 at hf
  replace hf := (jchk_elim hf).2
  rcases jif_x hf with ⟨-, hf⟩ | ⟨-, hf⟩
  · replace hf := (jchk_elim hf).2
    rcases jif_x hf with ⟨-, hf⟩ | ⟨-, hf⟩
    · obtain ⟨x3_3, -, hn⟩ := jlet_x hf
      clear hf
      have hf := hn
      clear hn
      cases hf
      exact ⟨fun a e => (by cases e; exact hF), fun _ e => (by cases e)⟩
    · replace hf := (jchk_elim hf).2
      rcases jif_x hf with ⟨-, hf⟩ | ⟨-, hf⟩
      · obtain ⟨x3_4, -, hn⟩ := jlet_x hf
        clear hf
        have hf := hn
        clear hn
        cases hf
        exact ⟨fun a e => (by cases e; exact hF), fun _ e => (by cases e)⟩
      · obtain ⟨r_5, -, hf⟩ := jbind_elim hf
        replace hf := (jchk_elim hf).2
        rcases jif_x hf with ⟨-, hf⟩ | ⟨-, hf⟩
        · obtain ⟨x3_6, -, hn⟩ := jlet_x hf
          clear hf
          have hf := hn
          clear hn
          cases hf
          exact ⟨fun a e => (by cases e; exact hF), fun _ e => (by cases e)⟩
        · obtain ⟨σ_7, hq, hf⟩ := jbind_elim hf
          have hF := hF.trans ((fr_f_X11_against hq).mono (P2 := wr_X11_linesOf) (by decide) (by decide))
          obtain ⟨x3_8, -, hn⟩ := jlet_x hf
          clear hf
          have hf := hn
          clear hn
          cases hf
          exact ⟨fun a e => (by cases e; exact hF), fun _ e => (by cases e)⟩
  · cases hf
    exact ⟨fun _ e => (by cases e), fun a e => (by cases e; exact hF)⟩
theorem fr_f_X11_linesOf_b0 {σ0 σ : St} {x1 x2 : Int} {y : St} (hf : f_X11_linesOf_b0 σ x1 x2 = some y) (hF : Fr wr_X11_linesOf σ0 σ) : Fr wr_X11_linesOf σ0 y := by
  unfold f_X11_linesOf_b0 at hf
  obtain ⟨σ_1, ex, hn⟩ := jlet_x hf
  clear hf
  have hf := hn
  clear hn
  have hF := hF.putF ex (by decide)
  replace hf := (jchk_elim hf).2
  rcases jif_x hf with ⟨-, hf⟩ | ⟨-, hf⟩
  · obtain ⟨x3_2, -, hn⟩ := jlet_x hf
    clear hf
    have hf := hn
    clear hn
    obtain ⟨q0, he, hf⟩ := jbind_elim hf
    have hJ := jloop_inv (I := (fun q : (St × Int) => Fr wr_X11_linesOf σ0 q.1)) (J := fun q0 => Fr wr_X11_linesOf σ0 q0) (fun q y hy hI => fr_f_X11_linesOf_b18 hy hI) _ _ _ he hF
    have hF := hJ
    obtain ⟨σ_10, hq, hf⟩ := jbind_elim hf
    have hF := hF.trans ((fr_f_X11_line hq).mono (P2 := wr_X11_linesOf) (by decide) (by decide))
    replace hf := (jchk_elim hf).2
    obtain ⟨σ_11, hq, hf⟩ := jbind_elim hf
    have hF := hF.trans ((fr_f_X11_line hq).mono (P2 := wr_X11_linesOf) (by decide) (by decide))
    obtain ⟨σ_12, hq, hf⟩ := jbind_elim hf
    have hF := hF.trans ((fr_f_X11_line hq).mono (P2 := wr_X11_linesOf) (by decide) (by decide))
    replace hf := (jchk_elim hf).2
    obtain ⟨σ_13, hq, hf⟩ := jbind_elim hf
    have hF := hF.trans ((fr_f_X11_line hq).mono (P2 := wr_X11_linesOf) (by decide) (by decide))
    cases hf
    exact hF
  · obtain ⟨σ_14, hq, hf⟩ := jbind_elim hf
    have hF := hF.trans ((fr_f_X11_against hq).mono (P2 := wr_X11_linesOf) (by decide) (by decide))
    obtain ⟨x3_15, -, hn⟩ := jlet_x hf
    clear hf
    have hf := hn
    clear hn
    obtain ⟨q0, he, hf⟩ := jbind_elim hf
    have hJ := jloop_inv (I := (fun q : (St × Int) => Fr wr_X11_linesOf σ0 q.1)) (J := fun q0 => Fr wr_X11_linesOf σ0 q0) (fun q y hy hI => fr_f_X11_linesOf_b18 hy hI) _ _ _ he hF
    have hF := hJ
    obtain ⟨σ_17, hq, hf⟩ := jbind_elim hf
    have hF := hF.trans ((fr_f_X11_line hq).mono (P2 := wr_X11_linesOf) (by decide) (by decide))
    replace hf := (jchk_elim hf).2
    obtain ⟨σ_18, hq, hf⟩ := jbind_elim hf
    have hF := hF.trans ((fr_f_X11_line hq).mono (P2 := wr_X11_linesOf) (by decide) (by decide))
    obtain ⟨σ_19, hq, hf⟩ := jbind_elim hf
    have hF := hF.trans ((fr_f_X11_line hq).mono (P2 := wr_X11_linesOf) (by decide) (by decide))
    replace hf := (jchk_elim hf).2
    obtain ⟨σ_20, hq, hf⟩ := jbind_elim hf
    have hF := hF.trans ((fr_f_X11_line hq).mono (P2 := wr_X11_linesOf) (by decide) (by decide))
    cases hf
    exact hF
theorem fr_f_X11_linesOf {σ : St} {x1 x2 : Int} {y : St} (hf : f_X11_linesOf σ x1 x2 = some y) : Fr wr_X11_linesOf σ y := fr_f_X11_linesOf_b0 (by unfold f_X11_linesOf at hf; exact hf) Fr.refl
abbrev wr_X11_meets : Wr := ([16, 17, 18], [(0, 20)])
theorem fr_f_X11_meets_b0 {σ0 σ : St} {x1 x2 : Int} {y : St} (hf : f_X11_meets_b0 σ x1 x2 = some y) (hF : Fr wr_X11_meets σ0 σ) : Fr wr_X11_meets σ0 y := by
  unfold f_X11_meets_b0 at hf
  replace hf := (jchk_elim hf).2
  replace hf := (jchk_elim hf).2
  replace hf := (jchk_elim hf).2
  replace hf := (jchk_elim hf).2
  obtain ⟨x3_1, -, hn⟩ := jlet_x hf
  clear hf
  have hf := hn
  clear hn
  replace hf := (jchk_elim hf).2
  rcases jif_x hf with ⟨-, hf⟩ | ⟨-, hf⟩
  · cases hf
    exact hF
  · replace hf := (jchk_elim hf).2
    replace hf := (jchk_elim hf).2
    replace hf := (jchk_elim hf).2
    replace hf := (jchk_elim hf).2
    obtain ⟨x5_2, -, hn⟩ := jlet_x hf
    clear hf
    have hf := hn
    clear hn
    replace hf := (jchk_elim hf).2
    replace hf := (jchk_elim hf).2
    replace hf := (jchk_elim hf).2
    replace hf := (jchk_elim hf).2
    obtain ⟨x7_3, -, hn⟩ := jlet_x hf
    clear hf
    have hf := hn
    clear hn
    replace hf := (jchk_elim hf).2
    rcases jif_x hf with ⟨-, hf⟩ | ⟨-, hf⟩
    · obtain ⟨x3_14, -, hn⟩ := jlet_x hf
      clear hf
      have hf := hn
      clear hn
      obtain ⟨x5_15, -, hn⟩ := jlet_x hf
      clear hf
      have hf := hn
      clear hn
      obtain ⟨x7_16, -, hn⟩ := jlet_x hf
      clear hf
      have hf := hn
      clear hn
      obtain ⟨x9_17, -, hn⟩ := jlet_x hf
      clear hf
      have hf := hn
      clear hn
      obtain ⟨q0, -, hf⟩ := jbind_elim hf
      rcases q0 with q0 | q0
      · cases hf
        exact hF
      · obtain ⟨x9_18, -, hn⟩ := jlet_x hf
        clear hf
        have hf := hn
        clear hn
        obtain ⟨q0, -, hf⟩ := jbind_elim hf
        rcases q0 with q0 | q0
        · cases hf
          exact hF
        · replace hf := (jchk_elim hf).2
          obtain ⟨σ_19, ex, hn⟩ := jlet_x hf
          clear hf
          have hf := hn
          clear hn
          have hF := hF.putA ex (by decide)
          replace hf := (jchk_elim hf).2
          obtain ⟨σ_20, ex, hn⟩ := jlet_x hf
          clear hf
          have hf := hn
          clear hn
          have hF := hF.putA ex (by decide)
          replace hf := (jchk_elim hf).2
          obtain ⟨σ_21, ex, hn⟩ := jlet_x hf
          clear hf
          have hf := hn
          clear hn
          have hF := hF.putA ex (by decide)
          obtain ⟨σ_22, ex, hn⟩ := jlet_x hf
          clear hf
          have hf := hn
          clear hn
          have hF := hF.putF ex (by decide)
          cases hf
          exact hF
    · obtain ⟨x9_4, -, hn⟩ := jlet_x hf
      clear hf
      have hf := hn
      clear hn
      obtain ⟨q0, -, hf⟩ := jbind_elim hf
      rcases q0 with q0 | q0
      · cases hf
        exact hF
      · obtain ⟨x9_7, -, hn⟩ := jlet_x hf
        clear hf
        have hf := hn
        clear hn
        obtain ⟨q0, -, hf⟩ := jbind_elim hf
        rcases q0 with q0 | q0
        · cases hf
          exact hF
        · replace hf := (jchk_elim hf).2
          obtain ⟨σ_10, ex, hn⟩ := jlet_x hf
          clear hf
          have hf := hn
          clear hn
          have hF := hF.putA ex (by decide)
          replace hf := (jchk_elim hf).2
          obtain ⟨σ_11, ex, hn⟩ := jlet_x hf
          clear hf
          have hf := hn
          clear hn
          have hF := hF.putA ex (by decide)
          replace hf := (jchk_elim hf).2
          obtain ⟨σ_12, ex, hn⟩ := jlet_x hf
          clear hf
          have hf := hn
          clear hn
          have hF := hF.putA ex (by decide)
          obtain ⟨σ_13, ex, hn⟩ := jlet_x hf
          clear hf
          have hf := hn
          clear hn
          have hF := hF.putF ex (by decide)
          cases hf
          exact hF
theorem fr_f_X11_meets {σ : St} {x1 x2 : Int} {y : St} (hf : f_X11_meets σ x1 x2 = some y) : Fr wr_X11_meets σ y := fr_f_X11_meets_b0 (by unfold f_X11_meets at hf; exact hf) Fr.refl
abbrev wr_X11_borderOf : Wr := ([13, 14, 15, 16, 17, 18], [(0, 16), (0, 20), (0, 27), (0, 28)])
theorem fr_f_X11_borderOf_b31 {σ0 σ : St} {x3 : Int} {y : (St × Int) ⊕ St} (hf : f_X11_borderOf_b31 σ x3 = some y) (hF : Fr wr_X11_borderOf σ0 σ) : (∀ s' : (St × Int), y = .inl s' → Fr wr_X11_borderOf σ0 s'.1) ∧ (∀ e : St, y = .inr e → Fr wr_X11_borderOf σ0 e) := by
  unfold f_X11_borderOf_b31 at hf
  replace hf := (jchk_elim hf).2
  rcases jif_x hf with ⟨-, hf⟩ | ⟨-, hf⟩
  · obtain ⟨σ_6, hq, hf⟩ := jbind_elim hf
    have hF := hF.trans ((fr_f_X11_meets hq).mono (P2 := wr_X11_borderOf) (by decide) (by decide))
    obtain ⟨x3_7, -, hn⟩ := jlet_x hf
    clear hf
    have hf := hn
    clear hn
    cases hf
    exact ⟨fun a e => (by cases e; exact hF), fun _ e => (by cases e)⟩
  · cases hf
    exact ⟨fun _ e => (by cases e), fun a e => (by cases e; exact hF)⟩
theorem fr_f_X11_borderOf_b116 {σ0 σ : St} {x3 : Int} {y : (St × Int) ⊕ St} (hf : f_X11_borderOf_b116 σ x3 = some y) (hF : Fr wr_X11_borderOf σ0 σ) : (∀ s' : (St × Int), y = .inl s' → Fr wr_X11_borderOf σ0 s'.1) ∧ (∀ e : St, y = .inr e → Fr wr_X11_borderOf σ0 e) := by
  unfold f_X11_borderOf_b116 at hf
  obtain ⟨σ_13, ex, hn⟩ := jlet_x hf
  clear hf
  have hf := hn
  clear hn
  have hF := hF.putF ex (by decide)
  obtain ⟨x3_14, -, hn⟩ := jlet_x hf
  clear hf
  have hf := hn
  clear hn
  cases hf
  exact ⟨fun a e => (by cases e; exact hF), fun _ e => (by cases e)⟩
theorem fr_f_X11_borderOf_b96 {σ0 σ : St} {x3 : Int} {y : (St × Int) ⊕ St} (hf : f_X11_borderOf_b96 σ x3 = some y) (hF : Fr wr_X11_borderOf σ0 σ) : (∀ s' : (St × Int), y = .inl s' → Fr wr_X11_borderOf σ0 s'.1) ∧ (∀ e : St, y = .inr e → Fr wr_X11_borderOf σ0 e) := by
  unfold f_X11_borderOf_b96 at hf
  replace hf := (jchk_elim hf).2
  rcases jif_x hf with ⟨-, hf⟩ | ⟨-, hf⟩
  · exact fr_f_X11_borderOf_b116 hf hF
  · obtain ⟨r_15, -, hf⟩ := jbind_elim hf
    replace hf := (jchk_elim hf).2
    rcases jif_x hf with ⟨-, hf⟩ | ⟨-, hf⟩
    · obtain ⟨x3_16, -, hn⟩ := jlet_x hf
      clear hf
      have hf := hn
      clear hn
      cases hf
      exact ⟨fun a e => (by cases e; exact hF), fun _ e => (by cases e)⟩
    · exact fr_f_X11_borderOf_b116 hf hF
theorem fr_f_X11_borderOf_b91 {σ0 σ : St} {x3 : Int} {y : (St × Int) ⊕ St} (hf : f_X11_borderOf_b91 σ x3 = some y) (hF : Fr wr_X11_borderOf σ0 σ) : (∀ s' : (St × Int), y = .inl s' → Fr wr_X11_borderOf σ0 s'.1) ∧ (∀ e : St, y = .inr e → Fr wr_X11_borderOf σ0 e) := by
  unfold f_X11_borderOf_b91 at hf
  obtain ⟨σ_12, ex, hn⟩ := jlet_x hf
  clear hf
  have hf := hn
  clear hn
  have hF := hF.putF ex (by decide)
  exact fr_f_X11_borderOf_b96 hf hF
theorem fr_f_X11_borderOf_b63 {σ0 σ : St} {x3 : Int} {y : (St × Int) ⊕ St} (hf : f_X11_borderOf_b63 σ x3 = some y) (hF : Fr wr_X11_borderOf σ0 σ) : (∀ s' : (St × Int), y = .inl s' → Fr wr_X11_borderOf σ0 s'.1) ∧ (∀ e : St, y = .inr e → Fr wr_X11_borderOf σ0 e) := by
  unfold f_X11_borderOf_b63 at hf
  replace hf := (jchk_elim hf).2
  rcases jif_x hf with ⟨-, hf⟩ | ⟨-, hf⟩
  · replace hf := (jchk_elim hf).2
    rcases jif_x hf with ⟨-, hf⟩ | ⟨-, hf⟩
    · exact fr_f_X11_borderOf_b91 hf hF
    · obtain ⟨r_17, -, hf⟩ := jbind_elim hf
      replace hf := (jchk_elim hf).2
      rcases jif_x hf with ⟨-, hf⟩ | ⟨-, hf⟩
      · exact fr_f_X11_borderOf_b96 hf hF
      · exact fr_f_X11_borderOf_b91 hf hF
  · cases hf
    exact ⟨fun _ e => (by cases e), fun a e => (by cases e; exact hF)⟩
theorem fr_f_X11_borderOf_b0 {σ0 σ : St} {x1 x2 : Int} {y : Int × St} (hf : f_X11_borderOf_b0 σ x1 x2 = some y) (hF : Fr wr_X11_borderOf σ0 σ) : Fr wr_X11_borderOf σ0 y.2 := by
  unfold f_X11_borderOf_b0 at hf
  obtain ⟨r_1, -, hf⟩ := jbind_elim hf
  replace hf := (jchk_elim hf).2
  rcases jif_x hf with ⟨-, hf⟩ | ⟨-, hf⟩
  · cases hf
    exact hF
  · obtain ⟨r_2, -, hf⟩ := jbind_elim hf
    replace hf := (jchk_elim hf).2
    rcases jif_x hf with ⟨-, hf⟩ | ⟨-, hf⟩
    · cases hf
      exact hF
    · obtain ⟨σ_3, hq, hf⟩ := jbind_elim hf
      have hF := hF.trans ((fr_f_X11_linesOf hq).mono (P2 := wr_X11_borderOf) (by decide) (by decide))
      obtain ⟨σ_4, ex, hn⟩ := jlet_x hf
      clear hf
      have hf := hn
      clear hn
      have hF := hF.putF ex (by decide)
      obtain ⟨x3_5, -, hn⟩ := jlet_x hf
      clear hf
      have hf := hn
      clear hn
      obtain ⟨q0, he, hf⟩ := jbind_elim hf
      have hJ := jloop_inv (I := (fun q : (St × Int) => Fr wr_X11_borderOf σ0 q.1)) (J := fun q0 => Fr wr_X11_borderOf σ0 q0) (fun q y hy hI => fr_f_X11_borderOf_b31 hy hI) _ _ _ he hF
      have hF := hJ
      obtain ⟨σ_9, ex, hn⟩ := jlet_x hf
      clear hf
      have hf := hn
      clear hn
      have hF := hF.putF ex (by decide)
      obtain ⟨σ_10, ex, hn⟩ := jlet_x hf
      clear hf
      have hf := hn
      clear hn
      have hF := hF.putF ex (by decide)
      obtain ⟨x3_11, -, hn⟩ := jlet_x hf
      clear hf
      have hf := hn
      clear hn
      obtain ⟨q0, he, hf⟩ := jbind_elim hf
      have hJ := jloop_inv (I := (fun q : (St × Int) => Fr wr_X11_borderOf σ0 q.1)) (J := fun q0 => Fr wr_X11_borderOf σ0 q0) (fun q y hy hI => fr_f_X11_borderOf_b63 hy hI) _ _ _ he hF
      have hF := hJ
      replace hf := (jchk_elim hf).2
      rcases jif_x hf with ⟨-, hf⟩ | ⟨-, hf⟩
      · cases hf
        exact hF
      · replace hf := (jchk_elim hf).2
        rcases jif_x hf with ⟨-, hf⟩ | ⟨-, hf⟩
        · cases hf
          exact hF
        · cases hf
          exact hF
theorem fr_f_X11_borderOf {σ : St} {x1 x2 : Int} {y : Int × St} (hf : f_X11_borderOf σ x1 x2 = some y) : Fr wr_X11_borderOf σ y.2 := fr_f_X11_borderOf_b0 (by unfold f_X11_borderOf at hf; exact hf) Fr.refl
abbrev wr_X11_about : Wr := ([13, 14, 15, 16, 17, 18], [(0, 16), (0, 20), (0, 27), (0, 28)])
theorem fr_f_X11_about_b14 {σ0 σ : St} {x1 x2 x3 : Int} {y : (St × Int × Int) ⊕ (St × Int)} (hf : f_X11_about_b14 σ x1 x2 x3 = some y) (hF : Fr wr_X11_about σ0 σ) : (∀ s' : (St × Int × Int), y = .inl s' → Fr wr_X11_about σ0 s'.1) ∧ (∀ e : St × Int, y = .inr e → Fr wr_X11_about σ0 e.1) := by
  unfold f_X11_about_b14 at hf
  replace hf := (jchk_elim hf).2
  rcases jif_x hf with ⟨-, hf⟩ | ⟨-, hf⟩
  · replace hf := (jchk_elim hf).2
    rcases jif_x hf with ⟨-, hf⟩ | ⟨-, hf⟩
    · obtain ⟨x3_4, -, hn⟩ := jlet_x hf
      clear hf
      have hf := hn
      clear hn
      cases hf
      exact ⟨fun a e => (by cases e; exact hF), fun _ e => (by cases e)⟩
    · obtain ⟨⟨r_5, σ_6⟩, hq, hf⟩ := jbind_elim hf
      have hF := hF.trans ((fr_f_X11_borderOf hq).mono (P2 := wr_X11_about) (by decide) (by decide))
      replace hf := (jchk_elim hf).2
      rcases jif_x hf with ⟨-, hf⟩ | ⟨-, hf⟩
      · obtain ⟨x2_8, -, hn⟩ := jlet_x hf
        clear hf
        have hf := hn
        clear hn
        obtain ⟨x3_9, -, hn⟩ := jlet_x hf
        clear hf
        have hf := hn
        clear hn
        cases hf
        exact ⟨fun a e => (by cases e; exact hF), fun _ e => (by cases e)⟩
      · obtain ⟨x3_7, -, hn⟩ := jlet_x hf
        clear hf
        have hf := hn
        clear hn
        cases hf
        exact ⟨fun a e => (by cases e; exact hF), fun _ e => (by cases e)⟩
  · cases hf
    exact ⟨fun _ e => (by cases e), fun a e => (by cases e; exact hF)⟩
theorem fr_f_X11_about_b0 {σ0 σ : St} {x1 : Int} {y : Int × St} (hf : f_X11_about_b0 σ x1 = some y) (hF : Fr wr_X11_about σ0 σ) : Fr wr_X11_about σ0 y.2 := by
  unfold f_X11_about_b0 at hf
  obtain ⟨r_1, -, hf⟩ := jbind_elim hf
  replace hf := (jchk_elim hf).2
  rcases jif_x hf with ⟨-, hf⟩ | ⟨-, hf⟩
  · cases hf
    exact hF
  · obtain ⟨x2_2, -, hn⟩ := jlet_x hf
    clear hf
    have hf := hn
    clear hn
    obtain ⟨x3_3, -, hn⟩ := jlet_x hf
    clear hf
    have hf := hn
    clear hn
    obtain ⟨q0, he, hf⟩ := jbind_elim hf
    have hJ := jloop_inv (I := (fun q : (St × Int × Int) => Fr wr_X11_about σ0 q.1)) (J := fun q0 => Fr wr_X11_about σ0 q0.1) (fun q y hy hI => fr_f_X11_about_b14 hy hI) _ _ _ he hF
    obtain ⟨σ_10, x2_11⟩ := q0
    have hF := hJ
    cases hf
    exact hF
theorem fr_f_X11_about {σ : St} {x1 : Int} {y : Int × St} (hf : f_X11_about σ x1 = some y) : Fr wr_X11_about σ y.2 := fr_f_X11_about_b0 (by unfold f_X11_about at hf; exact hf) Fr.refl
abbrev wr_X11_hull : Wr := ([28], [(0, 49)])
theorem fr_f_X11_hull_b103 {σ0 σ : St} {x1 x2 : Int} {y : (St × Int) ⊕ St} (hf : f_X11_hull_b103 σ x1 x2 = some y) (hF : Fr wr_X11_hull σ0 σ) : (∀ s' : (St × Int), y = .inl s' → Fr wr_X11_hull σ0 s'.1) ∧ (∀ e : St, y = .inr e → Fr wr_X11_hull σ0 e) := by
  unfold f_X11_hull_b103 at hf
  replace hf := (jchk_elim hf).2
  obtain ⟨σ_16, ex, hn⟩ := jlet_x hf
  clear hf
  have hf := hn
  clear hn
  have hF := hF.putA ex (by decide)
  obtain ⟨σ_17, ex, hn⟩ := jlet_x hf
  clear hf
  have hf := hn
  clear hn
  have hF := hF.putF ex (by decide)
  obtain ⟨x3_18, -, hn⟩ := jlet_x hf
  clear hf
  have hf := hn
  clear hn
  obtain ⟨x4_19, -, hn⟩ := jlet_x hf
  clear hf
  have hf := hn
  clear hn
  obtain ⟨q0, -, hf⟩ := jbind_elim hf
  obtain ⟨x2_34, -, hn⟩ := jlet_x hf
  clear hf
  have hf := hn
  clear hn
  cases hf
  exact ⟨fun a e => (by cases e; exact hF), fun _ e => (by cases e)⟩
theorem fr_f_X11_hull_b86 {σ0 σ : St} {x1 x2 : Int} {y : (St × Int) ⊕ St} (hf : f_X11_hull_b86 σ x1 x2 = some y) (hF : Fr wr_X11_hull σ0 σ) : (∀ s' : (St × Int), y = .inl s' → Fr wr_X11_hull σ0 s'.1) ∧ (∀ e : St, y = .inr e → Fr wr_X11_hull σ0 e) := by
  unfold f_X11_hull_b86 at hf
  replace hf := (jchk_elim hf).2
  rcases jif_x hf with ⟨-, hf⟩ | ⟨-, hf⟩
  · cases hf
    exact ⟨fun _ e => (by cases e), fun a e => (by cases e; exact hF)⟩
  · replace hf := (jchk_elim hf).2
    rcases jif_x hf with ⟨-, hf⟩ | ⟨-, hf⟩
    · exact fr_f_X11_hull_b103 hf hF
    · replace hf := (jchk_elim hf).2
      rcases jif_x hf with ⟨-, hf⟩ | ⟨-, hf⟩
      · cases hf
        exact ⟨fun _ e => (by cases e), fun a e => (by cases e; exact hF)⟩
      · exact fr_f_X11_hull_b103 hf hF
theorem fr_f_X11_hull_b0 {σ0 σ : St} {y : Int × St} (hf : f_X11_hull_b0 σ = some y) (hF : Fr wr_X11_hull σ0 σ) : Fr wr_X11_hull σ0 y.2 := by
  unfold f_X11_hull_b0 at hf
  obtain ⟨σ_1, ex, hn⟩ := jlet_x hf
  clear hf
  have hf := hn
  clear hn
  have hF := hF.putF ex (by decide)
  obtain ⟨x1_2, -, hn⟩ := jlet_x hf
  clear hf
  have hf := hn
  clear hn
  obtain ⟨x2_3, -, hn⟩ := jlet_x hf
  clear hf
  have hf := hn
  clear hn
  obtain ⟨q0, -, hf⟩ := jbind_elim hf
  obtain ⟨x2_15, -, hn⟩ := jlet_x hf
  clear hf
  have hf := hn
  clear hn
  obtain ⟨q0, he, hf⟩ := jbind_elim hf
  have hJ := jloop_inv (I := (fun q : (St × Int) => Fr wr_X11_hull σ0 q.1)) (J := fun q0 => Fr wr_X11_hull σ0 q0) (fun q y hy hI => fr_f_X11_hull_b86 hy hI) _ _ _ he hF
  have hF := hJ
  cases hf
  exact hF
theorem fr_f_X11_hull {σ : St} {y : Int × St} (hf : f_X11_hull σ = some y) : Fr wr_X11_hull σ y.2 := fr_f_X11_hull_b0 (by unfold f_X11_hull at hf; exact hf) Fr.refl
abbrev wr_X11_around : Wr := ([28], [(0, 49)])
theorem fr_f_X11_around_b0 {σ0 σ : St} {x1 : Int} {y : Int × St} (hf : f_X11_around_b0 σ x1 = some y) (hF : Fr wr_X11_around σ0 σ) : Fr wr_X11_around σ0 y.2 := by
  unfold f_X11_around_b0 at hf
  replace hf := (jchk_elim hf).2
  rcases jif_x hf with ⟨-, hf⟩ | ⟨-, hf⟩
  · cases hf
    exact hF
  · obtain ⟨⟨r_1, σ_2⟩, hq, hf⟩ := jbind_elim hf
    have hF := hF.trans ((fr_f_X11_hull hq).mono (P2 := wr_X11_around) (by decide) (by decide))
    replace hf := (jchk_elim hf).2
    rcases jif_x hf with ⟨-, hf⟩ | ⟨-, hf⟩
    · replace hf := (jchk_elim hf).2
      cases hf
      exact hF
    · cases hf
      exact hF
theorem fr_f_X11_around {σ : St} {x1 : Int} {y : Int × St} (hf : f_X11_around σ x1 = some y) : Fr wr_X11_around σ y.2 := fr_f_X11_around_b0 (by unfold f_X11_around at hf; exact hf) Fr.refl
abbrev wr_X11_keeps : Wr := ([10, 11, 12, 6, 7, 8, 9], [(0, 8)])
theorem fr_f_X11_keeps_b149 {σ0 σ : St} {x1 : Int} {y : (St × Int) ⊕ St} (hf : f_X11_keeps_b149 σ x1 = some y) (hF : Fr wr_X11_keeps σ0 σ) : (∀ s' : (St × Int), y = .inl s' → Fr wr_X11_keeps σ0 s'.1) ∧ (∀ e : St, y = .inr e → Fr wr_X11_keeps σ0 e) := by
  unfold f_X11_keeps_b149 at hf
  replace hf := (jchk_elim hf).2
  rcases jif_x hf with ⟨-, hf⟩ | ⟨-, hf⟩
  · obtain ⟨x2_2, -, hn⟩ := jlet_x hf
    clear hf
    have hf := hn
    clear hn
    replace hf := (jchk_elim hf).2
    replace hf := (jchk_elim hf).2
    obtain ⟨σ_3, ex, hn⟩ := jlet_x hf
    clear hf
    have hf := hn
    clear hn
    have hF := hF.putA ex (by decide)
    replace hf := (jchk_elim hf).2
    replace hf := (jchk_elim hf).2
    obtain ⟨σ_4, ex, hn⟩ := jlet_x hf
    clear hf
    have hf := hn
    clear hn
    have hF := hF.putA ex (by decide)
    replace hf := (jchk_elim hf).2
    replace hf := (jchk_elim hf).2
    obtain ⟨σ_5, ex, hn⟩ := jlet_x hf
    clear hf
    have hf := hn
    clear hn
    have hF := hF.putA ex (by decide)
    replace hf := (jchk_elim hf).2
    replace hf := (jchk_elim hf).2
    obtain ⟨σ_6, ex, hn⟩ := jlet_x hf
    clear hf
    have hf := hn
    clear hn
    have hF := hF.putA ex (by decide)
    replace hf := (jchk_elim hf).2
    replace hf := (jchk_elim hf).2
    obtain ⟨σ_7, ex, hn⟩ := jlet_x hf
    clear hf
    have hf := hn
    clear hn
    have hF := hF.putA ex (by decide)
    obtain ⟨x1_8, -, hn⟩ := jlet_x hf
    clear hf
    have hf := hn
    clear hn
    cases hf
    exact ⟨fun a e => (by cases e; exact hF), fun _ e => (by cases e)⟩
  · cases hf
    exact ⟨fun _ e => (by cases e), fun a e => (by cases e; exact hF)⟩
theorem fr_f_X11_keeps_b11 {σ0 σ : St} {x1 : Int} {y : (St × Int) ⊕ St} (hf : f_X11_keeps_b11 σ x1 = some y) (hF : Fr wr_X11_keeps σ0 σ) : (∀ s' : (St × Int), y = .inl s' → Fr wr_X11_keeps σ0 s'.1) ∧ (∀ e : St, y = .inr e → Fr wr_X11_keeps σ0 e) := by
  unfold f_X11_keeps_b11 at hf
  replace hf := (jchk_elim hf).2
  rcases jif_x hf with ⟨-, hf⟩ | ⟨-, hf⟩
  · replace hf := (jchk_elim hf).2
    replace hf := (jchk_elim hf).2
    obtain ⟨σ_14, ex, hn⟩ := jlet_x hf
    clear hf
    have hf := hn
    clear hn
    have hF := hF.putA ex (by decide)
    replace hf := (jchk_elim hf).2
    replace hf := (jchk_elim hf).2
    obtain ⟨σ_15, ex, hn⟩ := jlet_x hf
    clear hf
    have hf := hn
    clear hn
    have hF := hF.putA ex (by decide)
    replace hf := (jchk_elim hf).2
    replace hf := (jchk_elim hf).2
    obtain ⟨σ_16, ex, hn⟩ := jlet_x hf
    clear hf
    have hf := hn
    clear hn
    have hF := hF.putA ex (by decide)
    replace hf := (jchk_elim hf).2
    replace hf := (jchk_elim hf).2
    obtain ⟨σ_17, ex, hn⟩ := jlet_x hf
    clear hf
    have hf := hn
    clear hn
    have hF := hF.putA ex (by decide)
    replace hf := (jchk_elim hf).2
    replace hf := (jchk_elim hf).2
    obtain ⟨σ_18, ex, hn⟩ := jlet_x hf
    clear hf
    have hf := hn
    clear hn
    have hF := hF.putA ex (by decide)
    obtain ⟨x1_19, -, hn⟩ := jlet_x hf
    clear hf
    have hf := hn
    clear hn
    cases hf
    exact ⟨fun a e => (by cases e; exact hF), fun _ e => (by cases e)⟩
  · cases hf
    exact ⟨fun _ e => (by cases e), fun a e => (by cases e; exact hF)⟩
theorem fr_f_X11_keeps_b101 {σ0 σ : St} {x1 : Int} {y : (St × Int) ⊕ St} (hf : f_X11_keeps_b101 σ x1 = some y) (hF : Fr wr_X11_keeps σ0 σ) : (∀ s' : (St × Int), y = .inl s' → Fr wr_X11_keeps σ0 s'.1) ∧ (∀ e : St, y = .inr e → Fr wr_X11_keeps σ0 e) := by
  unfold f_X11_keeps_b101 at hf
  replace hf := (jchk_elim hf).2
  rcases jif_x hf with ⟨-, hf⟩ | ⟨-, hf⟩
  · replace hf := (jchk_elim hf).2
    replace hf := (jchk_elim hf).2
    obtain ⟨σ_22, ex, hn⟩ := jlet_x hf
    clear hf
    have hf := hn
    clear hn
    have hF := hF.putA ex (by decide)
    replace hf := (jchk_elim hf).2
    replace hf := (jchk_elim hf).2
    obtain ⟨σ_23, ex, hn⟩ := jlet_x hf
    clear hf
    have hf := hn
    clear hn
    have hF := hF.putA ex (by decide)
    obtain ⟨x1_24, -, hn⟩ := jlet_x hf
    clear hf
    have hf := hn
    clear hn
    cases hf
    exact ⟨fun a e => (by cases e; exact hF), fun _ e => (by cases e)⟩
  · cases hf
    exact ⟨fun _ e => (by cases e), fun a e => (by cases e; exact hF)⟩
theorem fr_f_X11_keeps_b0 {σ0 σ : St} {y : St} (hf : f_X11_keeps_b0 σ = some y) (hF : Fr wr_X11_keeps σ0 σ) : Fr wr_X11_keeps σ0 y := by
  unfold f_X11_keeps_b0 at hf
  replace hf := (jchk_elim hf).2
  rcases jif_x hf with ⟨-, hf⟩ | ⟨-, hf⟩
  · obtain ⟨x1_13, -, hn⟩ := jlet_x hf
    clear hf
    have hf := hn
    clear hn
    obtain ⟨q0, he, hf⟩ := jbind_elim hf
    have hJ := jloop_inv (I := (fun q : (St × Int) => Fr wr_X11_keeps σ0 q.1)) (J := fun q0 => Fr wr_X11_keeps σ0 q0) (fun q y hy hI => fr_f_X11_keeps_b11 hy hI) _ _ _ he hF
    have hF := hJ
    obtain ⟨x1_21, -, hn⟩ := jlet_x hf
    clear hf
    have hf := hn
    clear hn
    obtain ⟨q0, he, hf⟩ := jbind_elim hf
    have hJ := jloop_inv (I := (fun q : (St × Int) => Fr wr_X11_keeps σ0 q.1)) (J := fun q0 => Fr wr_X11_keeps σ0 q0) (fun q y hy hI => fr_f_X11_keeps_b101 hy hI) _ _ _ he hF
    have hF := hJ
    obtain ⟨σ_26, ex, hn⟩ := jlet_x hf
    clear hf
    have hf := hn
    clear hn
    have hF := hF.putF ex (by decide)
    obtain ⟨x1_27, -, hn⟩ := jlet_x hf
    clear hf
    have hf := hn
    clear hn
    obtain ⟨q0, he, hf⟩ := jbind_elim hf
    have hJ := jloop_inv (I := (fun q : (St × Int) => Fr wr_X11_keeps σ0 q.1)) (J := fun q0 => Fr wr_X11_keeps σ0 q0) (fun q y hy hI => fr_f_X11_keeps_b149 hy hI) _ _ _ he hF
    have hF := hJ
    replace hf := (jchk_elim hf).2
    obtain ⟨σ_29, ex, hn⟩ := jlet_x hf
    clear hf
    have hf := hn
    clear hn
    have hF := hF.putA ex (by decide)
    replace hf := (jchk_elim hf).2
    obtain ⟨σ_30, ex, hn⟩ := jlet_x hf
    clear hf
    have hf := hn
    clear hn
    have hF := hF.putA ex (by decide)
    obtain ⟨σ_31, ex, hn⟩ := jlet_x hf
    clear hf
    have hf := hn
    clear hn
    have hF := hF.putF ex (by decide)
    cases hf
    exact hF
  · obtain ⟨x1_1, -, hn⟩ := jlet_x hf
    clear hf
    have hf := hn
    clear hn
    obtain ⟨q0, he, hf⟩ := jbind_elim hf
    have hJ := jloop_inv (I := (fun q : (St × Int) => Fr wr_X11_keeps σ0 q.1)) (J := fun q0 => Fr wr_X11_keeps σ0 q0) (fun q y hy hI => fr_f_X11_keeps_b149 hy hI) _ _ _ he hF
    have hF := hJ
    replace hf := (jchk_elim hf).2
    obtain ⟨σ_10, ex, hn⟩ := jlet_x hf
    clear hf
    have hf := hn
    clear hn
    have hF := hF.putA ex (by decide)
    replace hf := (jchk_elim hf).2
    obtain ⟨σ_11, ex, hn⟩ := jlet_x hf
    clear hf
    have hf := hn
    clear hn
    have hF := hF.putA ex (by decide)
    obtain ⟨σ_12, ex, hn⟩ := jlet_x hf
    clear hf
    have hf := hn
    clear hn
    have hF := hF.putF ex (by decide)
    cases hf
    exact hF
theorem fr_f_X11_keeps {σ : St} {y : St} (hf : f_X11_keeps σ = some y) : Fr wr_X11_keeps σ y := fr_f_X11_keeps_b0 (by unfold f_X11_keeps at hf; exact hf) Fr.refl
abbrev wr_X11_become : Wr := ([10, 11, 12, 4, 5, 6, 7, 8, 9], [(0, 8)])
theorem fr_f_X11_become_b0 {σ0 σ : St} {x1 x2 x3 : Int} {y : Int × St} (hf : f_X11_become_b0 σ x1 x2 x3 = some y) (hF : Fr wr_X11_become σ0 σ) : Fr wr_X11_become σ0 y.2 := by
  unfold f_X11_become_b0 at hf
  obtain ⟨r_1, -, hf⟩ := jbind_elim hf
  replace hf := (jchk_elim hf).2
  rcases jif_x hf with ⟨-, hf⟩ | ⟨-, hf⟩
  · cases hf
    exact hF
  · obtain ⟨r_2, -, hf⟩ := jbind_elim hf
    replace hf := (jchk_elim hf).2
    rcases jif_x hf with ⟨-, hf⟩ | ⟨-, hf⟩
    · cases hf
      exact hF
    · obtain ⟨σ_3, hq, hf⟩ := jbind_elim hf
      have hF := hF.trans ((fr_f_X11_keeps hq).mono (P2 := wr_X11_become) (by decide) (by decide))
      replace hf := (jchk_elim hf).2
      obtain ⟨x4_4, -, hn⟩ := jlet_x hf
      clear hf
      have hf := hn
      clear hn
      replace hf := (jchk_elim hf).2
      obtain ⟨σ_5, ex, hn⟩ := jlet_x hf
      clear hf
      have hf := hn
      clear hn
      have hF := hF.putA ex (by decide)
      replace hf := (jchk_elim hf).2
      obtain ⟨σ_6, ex, hn⟩ := jlet_x hf
      clear hf
      have hf := hn
      clear hn
      have hF := hF.putA ex (by decide)
      cases hf
      exact hF
theorem fr_f_X11_become {σ : St} {x1 x2 x3 : Int} {y : Int × St} (hf : f_X11_become σ x1 x2 x3 = some y) : Fr wr_X11_become σ y.2 := fr_f_X11_become_b0 (by unfold f_X11_become at hf; exact hf) Fr.refl
abbrev wr_X11_beside : Wr := ([13, 14, 15, 16, 17, 18], [(0, 16), (0, 20), (0, 27), (0, 28)])
theorem fr_f_X11_beside_b0 {σ0 σ : St} {x1 x2 : Int} {y : Int × St} (hf : f_X11_beside_b0 σ x1 x2 = some y) (hF : Fr wr_X11_beside σ0 σ) : Fr wr_X11_beside σ0 y.2 := by
  unfold f_X11_beside_b0 at hf
  obtain ⟨r_1, -, hf⟩ := jbind_elim hf
  replace hf := (jchk_elim hf).2
  rcases jif_x hf with ⟨-, hf⟩ | ⟨-, hf⟩
  · cases hf
    exact hF
  · obtain ⟨⟨r_2, σ_3⟩, hq, hf⟩ := jbind_elim hf
    have hF := hF.trans ((fr_f_X11_borderOf hq).mono (P2 := wr_X11_beside) (by decide) (by decide))
    replace hf := (jchk_elim hf).2
    rcases jif_x hf with ⟨-, hf⟩ | ⟨-, hf⟩
    · cases hf
      exact hF
    · cases hf
      exact hF
theorem fr_f_X11_beside {σ : St} {x1 x2 : Int} {y : Int × St} (hf : f_X11_beside σ x1 x2 = some y) : Fr wr_X11_beside σ y.2 := fr_f_X11_beside_b0 (by unfold f_X11_beside at hf; exact hf) Fr.refl
abbrev wr_X11_better : Wr := ([], [(0, 39), (0, 40), (0, 41), (0, 42), (0, 43), (0, 44)])
theorem fr_f_X11_better_b89 {σ0 σ : St} {x1 : Int} {y : St} (hf : f_X11_better_b89 σ x1 = some y) (hF : Fr wr_X11_better σ0 σ) : Fr wr_X11_better σ0 y := by
  unfold f_X11_better_b89 at hf
  replace hf := (jchk_elim hf).2
  rcases jif_x hf with ⟨-, hf⟩ | ⟨-, hf⟩
  · replace hf := (jchk_elim hf).2
    obtain ⟨σ_3, ex, hn⟩ := jlet_x hf
    clear hf
    have hf := hn
    clear hn
    have hF := hF.putF ex (by decide)
    obtain ⟨σ_4, ex, hn⟩ := jlet_x hf
    clear hf
    have hf := hn
    clear hn
    have hF := hF.putF ex (by decide)
    obtain ⟨σ_5, ex, hn⟩ := jlet_x hf
    clear hf
    have hf := hn
    clear hn
    have hF := hF.putF ex (by decide)
    obtain ⟨σ_6, ex, hn⟩ := jlet_x hf
    clear hf
    have hf := hn
    clear hn
    have hF := hF.putF ex (by decide)
    obtain ⟨σ_7, ex, hn⟩ := jlet_x hf
    clear hf
    have hf := hn
    clear hn
    have hF := hF.putF ex (by decide)
    obtain ⟨σ_8, ex, hn⟩ := jlet_x hf
    clear hf
    have hf := hn
    clear hn
    have hF := hF.putF ex (by decide)
    cases hf
    exact hF
  · cases hf
    exact hF
theorem fr_f_X11_better_b65 {σ0 σ : St} {x1 : Int} {y : St} (hf : f_X11_better_b65 σ x1 = some y) (hF : Fr wr_X11_better σ0 σ) : Fr wr_X11_better σ0 y := by
  unfold f_X11_better_b65 at hf
  replace hf := (jchk_elim hf).2
  rcases jif_x hf with ⟨-, hf⟩ | ⟨-, hf⟩
  · obtain ⟨r_9, -, hf⟩ := jbind_elim hf
    obtain ⟨x1_10, -, hn⟩ := jlet_x hf
    clear hf
    have hf := hn
    clear hn
    exact fr_f_X11_better_b89 hf hF
  · exact fr_f_X11_better_b89 hf hF
theorem fr_f_X11_better_b30 {σ0 σ : St} {t0 : Int} {y : St} (hf : f_X11_better_b30 σ t0 = some y) (hF : Fr wr_X11_better σ0 σ) : Fr wr_X11_better σ0 y := by
  unfold f_X11_better_b30 at hf
  obtain ⟨x1_1, -, hn⟩ := jlet_x hf
  clear hf
  have hf := hn
  clear hn
  replace hf := (jchk_elim hf).2
  rcases jif_x hf with ⟨-, hf⟩ | ⟨-, hf⟩
  · obtain ⟨r_11, -, hf⟩ := jbind_elim hf
    obtain ⟨x1_12, -, hn⟩ := jlet_x hf
    clear hf
    have hf := hn
    clear hn
    exact fr_f_X11_better_b65 hf hF
  · replace hf := (jchk_elim hf).2
    rcases jif_x hf with ⟨-, hf⟩ | ⟨-, hf⟩
    · cases hf
      exact hF
    · obtain ⟨x1_2, -, hn⟩ := jlet_x hf
      clear hf
      have hf := hn
      clear hn
      exact fr_f_X11_better_b65 hf hF
theorem fr_f_X11_better_b0 {σ0 σ : St} {y : St} (hf : f_X11_better_b0 σ = some y) (hF : Fr wr_X11_better σ0 σ) : Fr wr_X11_better σ0 y := by
  unfold f_X11_better_b0 at hf
  replace hf := (jchk_elim hf).2
  rcases jif_x hf with ⟨-, hf⟩ | ⟨-, hf⟩
  · exact fr_f_X11_better_b30 hf hF
  · obtain ⟨r_13, -, hf⟩ := jbind_elim hf
    exact fr_f_X11_better_b30 hf hF
theorem fr_f_X11_better {σ : St} {y : St} (hf : f_X11_better σ = some y) : Fr wr_X11_better σ y := fr_f_X11_better_b0 (by unfold f_X11_better at hf; exact hf) Fr.refl
abbrev wr_X11_border : Wr := ([13, 14, 15, 16, 17, 18], [(0, 16), (0, 20), (0, 27), (0, 28)])
theorem fr_f_X11_border_b0 {σ0 σ : St} {x1 x2 : Int} {y : Int × St} (hf : f_X11_border_b0 σ x1 x2 = some y) (hF : Fr wr_X11_border σ0 σ) : Fr wr_X11_border σ0 y.2 := by
  unfold f_X11_border_b0 at hf
  obtain ⟨r_1, -, hf⟩ := jbind_elim hf
  replace hf := (jchk_elim hf).2
  rcases jif_x hf with ⟨-, hf⟩ | ⟨-, hf⟩
  · cases hf
    exact hF
  · obtain ⟨⟨r_2, σ_3⟩, hq, hf⟩ := jbind_elim hf
    have hF := hF.trans ((fr_f_X11_borderOf hq).mono (P2 := wr_X11_border) (by decide) (by decide))
    cases hf
    exact hF
theorem fr_f_X11_border {σ : St} {x1 x2 : Int} {y : Int × St} (hf : f_X11_border σ x1 x2 = some y) : Fr wr_X11_border σ y.2 := fr_f_X11_border_b0 (by unfold f_X11_border at hf; exact hf) Fr.refl
abbrev wr_X11_brings : Wr := ([1, 2, 3, 4, 5], [(0, 0), (0, 1), (0, 8)])
theorem fr_f_X11_brings_b12 {σ0 σ : St} {x1 : Int} {y : (St × Int) ⊕ St} (hf : f_X11_brings_b12 σ x1 = some y) (hF : Fr wr_X11_brings σ0 σ) : (∀ s' : (St × Int), y = .inl s' → Fr wr_X11_brings σ0 s'.1) ∧ (∀ e : St, y = .inr e → Fr wr_X11_brings σ0 e) := by
  unfold f_X11_brings_b12 at hf
  replace hf := (jchk_elim hf).2
  rcases jif_x hf with ⟨-, hf⟩ | ⟨-, hf⟩
  · obtain ⟨x2_3, -, hn⟩ := jlet_x hf
    clear hf
    have hf := hn
    clear hn
    replace hf := (jchk_elim hf).2
    replace hf := (jchk_elim hf).2
    obtain ⟨σ_4, ex, hn⟩ := jlet_x hf
    clear hf
    have hf := hn
    clear hn
    have hF := hF.putA ex (by decide)
    replace hf := (jchk_elim hf).2
    replace hf := (jchk_elim hf).2
    obtain ⟨σ_5, ex, hn⟩ := jlet_x hf
    clear hf
    have hf := hn
    clear hn
    have hF := hF.putA ex (by decide)
    replace hf := (jchk_elim hf).2
    replace hf := (jchk_elim hf).2
    obtain ⟨σ_6, ex, hn⟩ := jlet_x hf
    clear hf
    have hf := hn
    clear hn
    have hF := hF.putA ex (by decide)
    replace hf := (jchk_elim hf).2
    replace hf := (jchk_elim hf).2
    obtain ⟨σ_7, ex, hn⟩ := jlet_x hf
    clear hf
    have hf := hn
    clear hn
    have hF := hF.putA ex (by decide)
    replace hf := (jchk_elim hf).2
    replace hf := (jchk_elim hf).2
    obtain ⟨σ_8, ex, hn⟩ := jlet_x hf
    clear hf
    have hf := hn
    clear hn
    have hF := hF.putA ex (by decide)
    obtain ⟨x1_9, -, hn⟩ := jlet_x hf
    clear hf
    have hf := hn
    clear hn
    cases hf
    exact ⟨fun a e => (by cases e; exact hF), fun _ e => (by cases e)⟩
  · cases hf
    exact ⟨fun _ e => (by cases e), fun a e => (by cases e; exact hF)⟩
theorem fr_f_X11_brings_b0 {σ0 σ : St} {y : St} (hf : f_X11_brings_b0 σ = some y) (hF : Fr wr_X11_brings σ0 σ) : Fr wr_X11_brings σ0 y := by
  unfold f_X11_brings_b0 at hf
  obtain ⟨σ_1, ex, hn⟩ := jlet_x hf
  clear hf
  have hf := hn
  clear hn
  have hF := hF.putF ex (by decide)
  obtain ⟨x1_2, -, hn⟩ := jlet_x hf
  clear hf
  have hf := hn
  clear hn
  obtain ⟨q0, he, hf⟩ := jbind_elim hf
  have hJ := jloop_inv (I := (fun q : (St × Int) => Fr wr_X11_brings σ0 q.1)) (J := fun q0 => Fr wr_X11_brings σ0 q0) (fun q y hy hI => fr_f_X11_brings_b12 hy hI) _ _ _ he hF
  have hF := hJ
  replace hf := (jchk_elim hf).2
  obtain ⟨σ_11, ex, hn⟩ := jlet_x hf
  clear hf
  have hf := hn
  clear hn
  have hF := hF.putF ex (by decide)
  replace hf := (jchk_elim hf).2
  obtain ⟨σ_12, ex, hn⟩ := jlet_x hf
  clear hf
  have hf := hn
  clear hn
  have hF := hF.putF ex (by decide)
  cases hf
  exact hF
theorem fr_f_X11_brings {σ : St} {y : St} (hf : f_X11_brings σ = some y) : Fr wr_X11_brings σ y := fr_f_X11_brings_b0 (by unfold f_X11_brings at hf; exact hf) Fr.refl
abbrev wr_X11_endsOn : Wr := ([], [(0, 27), (0, 28)])
theorem fr_f_X11_endsOn_b98 {σ0 σ : St} {x1 x2 : Int} {y : (St × Int) ⊕ St} (hf : f_X11_endsOn_b98 σ x1 x2 = some y) (hF : Fr wr_X11_endsOn σ0 σ) : (∀ s' : (St × Int), y = .inl s' → Fr wr_X11_endsOn σ0 s'.1) ∧ (∀ e : St, y = .inr e → Fr wr_X11_endsOn σ0 e) := by
  unfold f_X11_endsOn_b98 at hf
  obtain ⟨σ_6, ex, hn⟩ := jlet_x hf
  clear hf
  have hf := hn
  clear hn
  have hF := hF.putF ex (by decide)
  obtain ⟨x2_7, -, hn⟩ := jlet_x hf
  clear hf
  have hf := hn
  clear hn
  cases hf
  exact ⟨fun a e => (by cases e; exact hF), fun _ e => (by cases e)⟩
theorem fr_f_X11_endsOn_b77 {σ0 σ : St} {x1 x2 : Int} {y : (St × Int) ⊕ St} (hf : f_X11_endsOn_b77 σ x1 x2 = some y) (hF : Fr wr_X11_endsOn σ0 σ) : (∀ s' : (St × Int), y = .inl s' → Fr wr_X11_endsOn σ0 s'.1) ∧ (∀ e : St, y = .inr e → Fr wr_X11_endsOn σ0 e) := by
  unfold f_X11_endsOn_b77 at hf
  replace hf := (jchk_elim hf).2
  rcases jif_x hf with ⟨-, hf⟩ | ⟨-, hf⟩
  · exact fr_f_X11_endsOn_b98 hf hF
  · obtain ⟨r_8, -, hf⟩ := jbind_elim hf
    replace hf := (jchk_elim hf).2
    rcases jif_x hf with ⟨-, hf⟩ | ⟨-, hf⟩
    · exact fr_f_X11_endsOn_b98 hf hF
    · obtain ⟨x2_9, -, hn⟩ := jlet_x hf
      clear hf
      have hf := hn
      clear hn
      cases hf
      exact ⟨fun a e => (by cases e; exact hF), fun _ e => (by cases e)⟩
theorem fr_f_X11_endsOn_b72 {σ0 σ : St} {x1 x2 : Int} {y : (St × Int) ⊕ St} (hf : f_X11_endsOn_b72 σ x1 x2 = some y) (hF : Fr wr_X11_endsOn σ0 σ) : (∀ s' : (St × Int), y = .inl s' → Fr wr_X11_endsOn σ0 s'.1) ∧ (∀ e : St, y = .inr e → Fr wr_X11_endsOn σ0 e) := by
  unfold f_X11_endsOn_b72 at hf
  obtain ⟨σ_5, ex, hn⟩ := jlet_x hf
  clear hf
  have hf := hn
  clear hn
  have hF := hF.putF ex (by decide)
  exact fr_f_X11_endsOn_b77 hf hF
theorem fr_f_X11_endsOn_b12 {σ0 σ : St} {x1 x2 : Int} {y : (St × Int) ⊕ St} (hf : f_X11_endsOn_b12 σ x1 x2 = some y) (hF : Fr wr_X11_endsOn σ0 σ) : (∀ s' : (St × Int), y = .inl s' → Fr wr_X11_endsOn σ0 s'.1) ∧ (∀ e : St, y = .inr e → Fr wr_X11_endsOn σ0 e) := by
  unfold f_X11_endsOn_b12 at hf
  replace hf := (jchk_elim hf).2
  rcases jif_x hf with ⟨-, hf⟩ | ⟨-, hf⟩
  · replace hf := (jchk_elim hf).2
    replace hf := (jchk_elim hf).2
    replace hf := (jchk_elim hf).2
    obtain ⟨r_4, -, hf⟩ := jbind_elim hf
    replace hf := (jchk_elim hf).2
    rcases jif_x hf with ⟨-, hf⟩ | ⟨-, hf⟩
    · replace hf := (jchk_elim hf).2
      rcases jif_x hf with ⟨-, hf⟩ | ⟨-, hf⟩
      · exact fr_f_X11_endsOn_b72 hf hF
      · obtain ⟨r_10, -, hf⟩ := jbind_elim hf
        replace hf := (jchk_elim hf).2
        rcases jif_x hf with ⟨-, hf⟩ | ⟨-, hf⟩
        · exact fr_f_X11_endsOn_b72 hf hF
        · exact fr_f_X11_endsOn_b77 hf hF
    · obtain ⟨x2_11, -, hn⟩ := jlet_x hf
      clear hf
      have hf := hn
      clear hn
      cases hf
      exact ⟨fun a e => (by cases e; exact hF), fun _ e => (by cases e)⟩
  · cases hf
    exact ⟨fun _ e => (by cases e), fun a e => (by cases e; exact hF)⟩
theorem fr_f_X11_endsOn_b0 {σ0 σ : St} {x1 : Int} {y : St} (hf : f_X11_endsOn_b0 σ x1 = some y) (hF : Fr wr_X11_endsOn σ0 σ) : Fr wr_X11_endsOn σ0 y := by
  unfold f_X11_endsOn_b0 at hf
  obtain ⟨σ_1, ex, hn⟩ := jlet_x hf
  clear hf
  have hf := hn
  clear hn
  have hF := hF.putF ex (by decide)
  obtain ⟨σ_2, ex, hn⟩ := jlet_x hf
  clear hf
  have hf := hn
  clear hn
  have hF := hF.putF ex (by decide)
  obtain ⟨x2_3, -, hn⟩ := jlet_x hf
  clear hf
  have hf := hn
  clear hn
  obtain ⟨q0, he, hf⟩ := jbind_elim hf
  have hJ := jloop_inv (I := (fun q : (St × Int) => Fr wr_X11_endsOn σ0 q.1)) (J := fun q0 => Fr wr_X11_endsOn σ0 q0) (fun q y hy hI => fr_f_X11_endsOn_b12 hy hI) _ _ _ he hF
  have hF := hJ
  cases hf
  exact hF
theorem fr_f_X11_endsOn {σ : St} {x1 : Int} {y : St} (hf : f_X11_endsOn σ x1 = some y) : Fr wr_X11_endsOn σ y := fr_f_X11_endsOn_b0 (by unfold f_X11_endsOn at hf; exact hf) Fr.refl
abbrev wr_X11_groundOf : Wr := ([13, 14, 15, 16, 17, 18, 19, 20], [(0, 16), (0, 20), (0, 25), (0, 27), (0, 28)])
theorem fr_f_X11_groundOf_b25 {σ0 σ : St} {x2 x3 : Int} {y : (St × Int) ⊕ St} (hf : f_X11_groundOf_b25 σ x2 x3 = some y) (hF : Fr wr_X11_groundOf σ0 σ) : (∀ s' : (St × Int), y = .inl s' → Fr wr_X11_groundOf σ0 s'.1) ∧ (∀ e : St, y = .inr e → Fr wr_X11_groundOf σ0 e) := by
  unfold f_X11_groundOf_b25 at hf
  replace hf := (jchk_elim hf).2
  rcases jif_x hf with ⟨-, hf⟩ | ⟨-, hf⟩
  · obtain ⟨σ_5, hq, hf⟩ := jbind_elim hf
    have hF := hF.trans ((fr_f_X11_meets hq).mono (P2 := wr_X11_groundOf) (by decide) (by decide))
    obtain ⟨x3_6, -, hn⟩ := jlet_x hf
    clear hf
    have hf := hn
    clear hn
    cases hf
    exact ⟨fun a e => (by cases e; exact hF), fun _ e => (by cases e)⟩
  · cases hf
    exact ⟨fun _ e => (by cases e), fun a e => (by cases e; exact hF)⟩
theorem fr_f_X11_groundOf_b13 {σ0 σ : St} {x2 : Int} {y : (St × Int) ⊕ St} (hf : f_X11_groundOf_b13 σ x2 = some y) (hF : Fr wr_X11_groundOf σ0 σ) : (∀ s' : (St × Int), y = .inl s' → Fr wr_X11_groundOf σ0 s'.1) ∧ (∀ e : St, y = .inr e → Fr wr_X11_groundOf σ0 e) := by
  unfold f_X11_groundOf_b13 at hf
  replace hf := (jchk_elim hf).2
  rcases jif_x hf with ⟨-, hf⟩ | ⟨-, hf⟩
  · obtain ⟨x3_4, -, hn⟩ := jlet_x hf
    clear hf
    have hf := hn
    clear hn
    obtain ⟨q0, he, hf⟩ := jbind_elim hf
    have hJ := jloop_inv (I := (fun q : (St × Int) => Fr wr_X11_groundOf σ0 q.1)) (J := fun q0 => Fr wr_X11_groundOf σ0 q0) (fun q y hy hI => fr_f_X11_groundOf_b25 hy hI) _ _ _ he hF
    have hF := hJ
    obtain ⟨x2_8, -, hn⟩ := jlet_x hf
    clear hf
    have hf := hn
    clear hn
    cases hf
    exact ⟨fun a e => (by cases e; exact hF), fun _ e => (by cases e)⟩
  · cases hf
    exact ⟨fun _ e => (by cases e), fun a e => (by cases e; exact hF)⟩
theorem fr_f_X11_groundOf_b68 {σ0 σ : St} {x2 x3 : Int} {y : (St × Int × Int) ⊕ (St × Int)} (hf : f_X11_groundOf_b68 σ x2 x3 = some y) (hF : Fr wr_X11_groundOf σ0 σ) : (∀ s' : (St × Int × Int), y = .inl s' → Fr wr_X11_groundOf σ0 s'.1) ∧ (∀ e : St × Int, y = .inr e → Fr wr_X11_groundOf σ0 e.1) := by
  unfold f_X11_groundOf_b68 at hf
  replace hf := (jchk_elim hf).2
  rcases jif_x hf with ⟨-, hf⟩ | ⟨-, hf⟩
  · replace hf := (jchk_elim hf).2
    obtain ⟨σ_13, ex, hn⟩ := jlet_x hf
    clear hf
    have hf := hn
    clear hn
    have hF := hF.putA ex (by decide)
    obtain ⟨r_14, -, hf⟩ := jbind_elim hf
    replace hf := (jchk_elim hf).2
    rcases jif_x hf with ⟨-, hf⟩ | ⟨-, hf⟩
    · obtain ⟨x3_15, -, hn⟩ := jlet_x hf
      clear hf
      have hf := hn
      clear hn
      cases hf
      exact ⟨fun a e => (by cases e; exact hF), fun _ e => (by cases e)⟩
    · obtain ⟨x2_16, -, hn⟩ := jlet_x hf
      clear hf
      have hf := hn
      clear hn
      obtain ⟨x3_17, -, hn⟩ := jlet_x hf
      clear hf
      have hf := hn
      clear hn
      cases hf
      exact ⟨fun a e => (by cases e; exact hF), fun _ e => (by cases e)⟩
  · cases hf
    exact ⟨fun _ e => (by cases e), fun a e => (by cases e; exact hF)⟩
theorem fr_f_X11_groundOf_b102 {σ0 σ : St} {x2 x3 : Int} {y : (St × Int) ⊕ St} (hf : f_X11_groundOf_b102 σ x2 x3 = some y) (hF : Fr wr_X11_groundOf σ0 σ) : (∀ s' : (St × Int), y = .inl s' → Fr wr_X11_groundOf σ0 s'.1) ∧ (∀ e : St, y = .inr e → Fr wr_X11_groundOf σ0 e) := by
  unfold f_X11_groundOf_b102 at hf
  replace hf := (jchk_elim hf).2
  rcases jif_x hf with ⟨-, hf⟩ | ⟨-, hf⟩
  · obtain ⟨σ_21, hq, hf⟩ := jbind_elim hf
    have hF := hF.trans ((fr_f_X11_endsOn hq).mono (P2 := wr_X11_groundOf) (by decide) (by decide))
    replace hf := (jchk_elim hf).2
    rcases jif_x hf with ⟨-, hf⟩ | ⟨-, hf⟩
    · obtain ⟨x3_22, -, hn⟩ := jlet_x hf
      clear hf
      have hf := hn
      clear hn
      cases hf
      exact ⟨fun a e => (by cases e; exact hF), fun _ e => (by cases e)⟩
    · replace hf := (jchk_elim hf).2
      obtain ⟨σ_23, ex, hn⟩ := jlet_x hf
      clear hf
      have hf := hn
      clear hn
      have hF := hF.putA ex (by decide)
      obtain ⟨x3_24, -, hn⟩ := jlet_x hf
      clear hf
      have hf := hn
      clear hn
      cases hf
      exact ⟨fun a e => (by cases e; exact hF), fun _ e => (by cases e)⟩
  · cases hf
    exact ⟨fun _ e => (by cases e), fun a e => (by cases e; exact hF)⟩
theorem fr_f_X11_groundOf_b159 {σ0 σ : St} {x2 x3 : Int} {y : (St × Int) ⊕ St} (hf : f_X11_groundOf_b159 σ x2 x3 = some y) (hF : Fr wr_X11_groundOf σ0 σ) : (∀ s' : (St × Int), y = .inl s' → Fr wr_X11_groundOf σ0 s'.1) ∧ (∀ e : St, y = .inr e → Fr wr_X11_groundOf σ0 e) := by
  unfold f_X11_groundOf_b159 at hf
  replace hf := (jchk_elim hf).2
  obtain ⟨σ_27, ex, hn⟩ := jlet_x hf
  clear hf
  have hf := hn
  clear hn
  have hF := hF.putA ex (by decide)
  obtain ⟨σ_28, ex, hn⟩ := jlet_x hf
  clear hf
  have hf := hn
  clear hn
  have hF := hF.putF ex (by decide)
  replace hf := (jchk_elim hf).2
  obtain ⟨x3_29, -, hn⟩ := jlet_x hf
  clear hf
  have hf := hn
  clear hn
  cases hf
  exact ⟨fun a e => (by cases e; exact hF), fun _ e => (by cases e)⟩
theorem fr_f_X11_groundOf_b147 {σ0 σ : St} {x2 x3 : Int} {y : (St × Int) ⊕ St} (hf : f_X11_groundOf_b147 σ x2 x3 = some y) (hF : Fr wr_X11_groundOf σ0 σ) : (∀ s' : (St × Int), y = .inl s' → Fr wr_X11_groundOf σ0 s'.1) ∧ (∀ e : St, y = .inr e → Fr wr_X11_groundOf σ0 e) := by
  unfold f_X11_groundOf_b147 at hf
  replace hf := (jchk_elim hf).2
  rcases jif_x hf with ⟨-, hf⟩ | ⟨-, hf⟩
  · exact fr_f_X11_groundOf_b159 hf hF
  · replace hf := (jchk_elim hf).2
    rcases jif_x hf with ⟨-, hf⟩ | ⟨-, hf⟩
    · cases hf
      exact ⟨fun _ e => (by cases e), fun a e => (by cases e; exact hF)⟩
    · exact fr_f_X11_groundOf_b159 hf hF
theorem fr_f_X11_groundOf_b0 {σ0 σ : St} {x1 : Int} {y : St} (hf : f_X11_groundOf_b0 σ x1 = some y) (hF : Fr wr_X11_groundOf σ0 σ) : Fr wr_X11_groundOf σ0 y := by
  unfold f_X11_groundOf_b0 at hf
  obtain ⟨σ_1, hq, hf⟩ := jbind_elim hf
  have hF := hF.trans ((fr_f_X11_linesOf hq).mono (P2 := wr_X11_groundOf) (by decide) (by decide))
  obtain ⟨σ_2, ex, hn⟩ := jlet_x hf
  clear hf
  have hf := hn
  clear hn
  have hF := hF.putF ex (by decide)
  obtain ⟨x2_3, -, hn⟩ := jlet_x hf
  clear hf
  have hf := hn
  clear hn
  obtain ⟨q0, he, hf⟩ := jbind_elim hf
  have hJ := jloop_inv (I := (fun q : (St × Int) => Fr wr_X11_groundOf σ0 q.1)) (J := fun q0 => Fr wr_X11_groundOf σ0 q0) (fun q y hy hI => fr_f_X11_groundOf_b13 hy hI) _ _ _ he hF
  have hF := hJ
  obtain ⟨σ_10, ex, hn⟩ := jlet_x hf
  clear hf
  have hf := hn
  clear hn
  have hF := hF.putF ex (by decide)
  replace hf := (jchk_elim hf).2
  rcases jif_x hf with ⟨-, hf⟩ | ⟨-, hf⟩
  · cases hf
    exact hF
  · obtain ⟨x2_11, -, hn⟩ := jlet_x hf
    clear hf
    have hf := hn
    clear hn
    obtain ⟨x3_12, -, hn⟩ := jlet_x hf
    clear hf
    have hf := hn
    clear hn
    obtain ⟨q0, he, hf⟩ := jbind_elim hf
    have hJ := jloop_inv (I := (fun q : (St × Int × Int) => Fr wr_X11_groundOf σ0 q.1)) (J := fun q0 => Fr wr_X11_groundOf σ0 q0.1) (fun q y hy hI => fr_f_X11_groundOf_b68 hy hI) _ _ _ he hF
    obtain ⟨σ_18, x2_19⟩ := q0
    have hF := hJ
    obtain ⟨x3_20, -, hn⟩ := jlet_x hf
    clear hf
    have hf := hn
    clear hn
    obtain ⟨q0, he, hf⟩ := jbind_elim hf
    have hJ := jloop_inv (I := (fun q : (St × Int) => Fr wr_X11_groundOf σ0 q.1)) (J := fun q0 => Fr wr_X11_groundOf σ0 q0) (fun q y hy hI => fr_f_X11_groundOf_b102 hy hI) _ _ _ he hF
    have hF := hJ
    obtain ⟨x3_26, -, hn⟩ := jlet_x hf
    clear hf
    have hf := hn
    clear hn
    obtain ⟨q0, he, hf⟩ := jbind_elim hf
    have hJ := jloop_inv (I := (fun q : (St × Int) => Fr wr_X11_groundOf σ0 q.1)) (J := fun q0 => Fr wr_X11_groundOf σ0 q0) (fun q y hy hI => fr_f_X11_groundOf_b147 hy hI) _ _ _ he hF
    have hF := hJ
    cases hf
    exact hF
theorem fr_f_X11_groundOf {σ : St} {x1 : Int} {y : St} (hf : f_X11_groundOf σ x1 = some y) : Fr wr_X11_groundOf σ y := fr_f_X11_groundOf_b0 (by unfold f_X11_groundOf at hf; exact hf) Fr.refl
abbrev wr_X11_corner : Wr := ([13, 14, 15, 16, 17, 18, 19, 20], [(0, 16), (0, 20), (0, 25), (0, 27), (0, 28)])
theorem fr_f_X11_corner_b0 {σ0 σ : St} {x1 x2 x3 : Int} {y : Int × St} (hf : f_X11_corner_b0 σ x1 x2 x3 = some y) (hF : Fr wr_X11_corner σ0 σ) : Fr wr_X11_corner σ0 y.2 := by
  unfold f_X11_corner_b0 at hf
  obtain ⟨r_1, -, hf⟩ := jbind_elim hf
  replace hf := (jchk_elim hf).2
  rcases jif_x hf with ⟨-, hf⟩ | ⟨-, hf⟩
  · cases hf
    exact hF
  · replace hf := (jchk_elim hf).2
    rcases jif_x hf with ⟨-, hf⟩ | ⟨-, hf⟩
    · cases hf
      exact hF
    · replace hf := (jchk_elim hf).2
      rcases jif_x hf with ⟨-, hf⟩ | ⟨-, hf⟩
      · cases hf
        exact hF
      · obtain ⟨σ_2, hq, hf⟩ := jbind_elim hf
        have hF := hF.trans ((fr_f_X11_groundOf hq).mono (P2 := wr_X11_corner) (by decide) (by decide))
        replace hf := (jchk_elim hf).2
        rcases jif_x hf with ⟨-, hf⟩ | ⟨-, hf⟩
        · cases hf
          exact hF
        · replace hf := (jchk_elim hf).2
          rcases jif_x hf with ⟨-, hf⟩ | ⟨-, hf⟩
          · replace hf := (jchk_elim hf).2
            obtain ⟨r_3, -, hf⟩ := jbind_elim hf
            cases hf
            exact hF
          · cases hf
            exact hF
theorem fr_f_X11_corner {σ : St} {x1 x2 x3 : Int} {y : Int × St} (hf : f_X11_corner σ x1 x2 x3 = some y) : Fr wr_X11_corner σ y.2 := fr_f_X11_corner_b0 (by unfold f_X11_corner at hf; exact hf) Fr.refl
abbrev wr_X11_corners : Wr := ([13, 14, 15, 16, 17, 18, 19, 20], [(0, 16), (0, 20), (0, 25), (0, 27), (0, 28)])
theorem fr_f_X11_corners_b0 {σ0 σ : St} {x1 : Int} {y : Int × St} (hf : f_X11_corners_b0 σ x1 = some y) (hF : Fr wr_X11_corners σ0 σ) : Fr wr_X11_corners σ0 y.2 := by
  unfold f_X11_corners_b0 at hf
  obtain ⟨r_1, -, hf⟩ := jbind_elim hf
  replace hf := (jchk_elim hf).2
  rcases jif_x hf with ⟨-, hf⟩ | ⟨-, hf⟩
  · cases hf
    exact hF
  · obtain ⟨r_2, -, hf⟩ := jbind_elim hf
    replace hf := (jchk_elim hf).2
    rcases jif_x hf with ⟨-, hf⟩ | ⟨-, hf⟩
    · cases hf
      exact hF
    · obtain ⟨σ_3, hq, hf⟩ := jbind_elim hf
      have hF := hF.trans ((fr_f_X11_groundOf hq).mono (P2 := wr_X11_corners) (by decide) (by decide))
      cases hf
      exact hF
theorem fr_f_X11_corners {σ : St} {x1 : Int} {y : Int × St} (hf : f_X11_corners σ x1 = some y) : Fr wr_X11_corners σ y.2 := fr_f_X11_corners_b0 (by unfold f_X11_corners at hf; exact hf) Fr.refl
abbrev wr_X11_end : Wr := ([13, 14, 15, 16, 17, 18], [(0, 16), (0, 20), (0, 27), (0, 28)])
theorem fr_f_X11_end_b54 {σ0 σ : St} {x4 t1 : Int} {y : Int × St} (hf : f_X11_end_b54 σ x4 t1 = some y) (hF : Fr wr_X11_end σ0 σ) : Fr wr_X11_end σ0 y.2 := by
  unfold f_X11_end_b54 at hf
  obtain ⟨r_4, -, hf⟩ := jbind_elim hf
  cases hf
  exact hF
theorem fr_f_X11_end_b0 {σ0 σ : St} {x1 x2 x3 x4 : Int} {y : Int × St} (hf : f_X11_end_b0 σ x1 x2 x3 x4 = some y) (hF : Fr wr_X11_end σ0 σ) : Fr wr_X11_end σ0 y.2 := by
  unfold f_X11_end_b0 at hf
  obtain ⟨r_1, -, hf⟩ := jbind_elim hf
  replace hf := (jchk_elim hf).2
  rcases jif_x hf with ⟨-, hf⟩ | ⟨-, hf⟩
  · cases hf
    exact hF
  · replace hf := (jchk_elim hf).2
    rcases jif_x hf with ⟨-, hf⟩ | ⟨-, hf⟩
    · cases hf
      exact hF
    · replace hf := (jchk_elim hf).2
      rcases jif_x hf with ⟨-, hf⟩ | ⟨-, hf⟩
      · cases hf
        exact hF
      · replace hf := (jchk_elim hf).2
        rcases jif_x hf with ⟨-, hf⟩ | ⟨-, hf⟩
        · cases hf
          exact hF
        · obtain ⟨⟨r_2, σ_3⟩, hq, hf⟩ := jbind_elim hf
          have hF := hF.trans ((fr_f_X11_borderOf hq).mono (P2 := wr_X11_end) (by decide) (by decide))
          replace hf := (jchk_elim hf).2
          rcases jif_x hf with ⟨-, hf⟩ | ⟨-, hf⟩
          · replace hf := (jchk_elim hf).2
            rcases jif_x hf with ⟨-, hf⟩ | ⟨-, hf⟩
            · exact fr_f_X11_end_b54 hf hF
            · exact fr_f_X11_end_b54 hf hF
          · cases hf
            exact hF
theorem fr_f_X11_end {σ : St} {x1 x2 x3 x4 : Int} {y : Int × St} (hf : f_X11_end σ x1 x2 x3 x4 = some y) : Fr wr_X11_end σ y.2 := fr_f_X11_end_b0 (by unfold f_X11_end at hf; exact hf) Fr.refl
abbrev wr_X11_fill : Wr := ([1, 10, 11, 12, 6, 7, 8, 9], [(0, 8)])
theorem fr_f_X11_fill_b0 {σ0 σ : St} {x1 : Int} {y : Int × St} (hf : f_X11_fill_b0 σ x1 = some y) (hF : Fr wr_X11_fill σ0 σ) : Fr wr_X11_fill σ0 y.2 := by
  unfold f_X11_fill_b0 at hf
  obtain ⟨r_1, -, hf⟩ := jbind_elim hf
  replace hf := (jchk_elim hf).2
  rcases jif_x hf with ⟨-, hf⟩ | ⟨-, hf⟩
  · cases hf
    exact hF
  · obtain ⟨σ_2, hq, hf⟩ := jbind_elim hf
    have hF := hF.trans ((fr_f_X11_keeps hq).mono (P2 := wr_X11_fill) (by decide) (by decide))
    replace hf := (jchk_elim hf).2
    obtain ⟨σ_3, ex, hn⟩ := jlet_x hf
    clear hf
    have hf := hn
    clear hn
    have hF := hF.putA ex (by decide)
    obtain ⟨r_4, -, hf⟩ := jbind_elim hf
    cases hf
    exact hF
theorem fr_f_X11_fill {σ : St} {x1 : Int} {y : Int × St} (hf : f_X11_fill σ x1 = some y) : Fr wr_X11_fill σ y.2 := fr_f_X11_fill_b0 (by unfold f_X11_fill at hf; exact hf) Fr.refl
abbrev wr_X11_keep : Wr := ([29, 30], [])
theorem fr_f_X11_keep_b122 {σ0 σ : St} {x1 x2 x3 x4 t1 t2 : Int} {y : (St × Int) ⊕ St} (hf : f_X11_keep_b122 σ x1 x2 x3 x4 t1 t2 = some y) (hF : Fr wr_X11_keep σ0 σ) : (∀ s' : (St × Int), y = .inl s' → Fr wr_X11_keep σ0 s'.1) ∧ (∀ e : St, y = .inr e → Fr wr_X11_keep σ0 e) := by
  unfold f_X11_keep_b122 at hf
  replace hf := (jchk_elim hf).2
  obtain ⟨σ_11, ex, hn⟩ := jlet_x hf
  clear hf
  have hf := hn
  clear hn
  have hF := hF.putA ex (by decide)
  obtain ⟨x4_12, -, hn⟩ := jlet_x hf
  clear hf
  have hf := hn
  clear hn
  cases hf
  exact ⟨fun a e => (by cases e; exact hF), fun _ e => (by cases e)⟩
theorem fr_f_X11_keep_b92 {σ0 σ : St} {x1 x2 x3 x4 t1 t2 : Int} {y : (St × Int) ⊕ St} (hf : f_X11_keep_b92 σ x1 x2 x3 x4 t1 t2 = some y) (hF : Fr wr_X11_keep σ0 σ) : (∀ s' : (St × Int), y = .inl s' → Fr wr_X11_keep σ0 s'.1) ∧ (∀ e : St, y = .inr e → Fr wr_X11_keep σ0 e) := by
  unfold f_X11_keep_b92 at hf
  replace hf := (jchk_elim hf).2
  obtain ⟨σ_9, ex, hn⟩ := jlet_x hf
  clear hf
  have hf := hn
  clear hn
  have hF := hF.putA ex (by decide)
  replace hf := (jchk_elim hf).2
  replace hf := (jchk_elim hf).2
  rcases jif_x hf with ⟨-, hf⟩ | ⟨-, hf⟩
  · obtain ⟨r_10, -, hf⟩ := jbind_elim hf
    exact fr_f_X11_keep_b122 hf hF
  · exact fr_f_X11_keep_b122 hf hF
theorem fr_f_X11_keep_b65 {σ0 σ : St} {x1 x2 x3 x4 : Int} {y : (St × Int) ⊕ St} (hf : f_X11_keep_b65 σ x1 x2 x3 x4 = some y) (hF : Fr wr_X11_keep σ0 σ) : (∀ s' : (St × Int), y = .inl s' → Fr wr_X11_keep σ0 s'.1) ∧ (∀ e : St, y = .inr e → Fr wr_X11_keep σ0 e) := by
  unfold f_X11_keep_b65 at hf
  replace hf := (jchk_elim hf).2
  rcases jif_x hf with ⟨-, hf⟩ | ⟨-, hf⟩
  · obtain ⟨r_8, -, hf⟩ := jbind_elim hf
    replace hf := (jchk_elim hf).2
    rcases jif_x hf with ⟨-, hf⟩ | ⟨-, hf⟩
    · exact fr_f_X11_keep_b92 hf hF
    · exact fr_f_X11_keep_b92 hf hF
  · cases hf
    exact ⟨fun _ e => (by cases e), fun a e => (by cases e; exact hF)⟩
theorem fr_f_X11_keep_b363 {σ0 σ : St} {x3 x4 x6 x7 x12 t0 : Int} {y : (St × Int) ⊕ St} (hf : f_X11_keep_b363 σ x3 x4 x6 x7 x12 t0 = some y) (hF : Fr wr_X11_keep σ0 σ) : (∀ s' : (St × Int), y = .inl s' → Fr wr_X11_keep σ0 s'.1) ∧ (∀ e : St, y = .inr e → Fr wr_X11_keep σ0 e) := by
  unfold f_X11_keep_b363 at hf
  obtain ⟨x13_35, -, hn⟩ := jlet_x hf
  clear hf
  have hf := hn
  clear hn
  replace hf := (jchk_elim hf).2
  replace hf := (jchk_elim hf).2
  rcases jif_x hf with ⟨-, hf⟩ | ⟨-, hf⟩
  · replace hf := (jchk_elim hf).2
    obtain ⟨σ_37, ex, hn⟩ := jlet_x hf
    clear hf
    have hf := hn
    clear hn
    have hF := hF.putA ex (by decide)
    obtain ⟨x12_38, -, hn⟩ := jlet_x hf
    clear hf
    have hf := hn
    clear hn
    cases hf
    exact ⟨fun a e => (by cases e; exact hF), fun _ e => (by cases e)⟩
  · obtain ⟨x12_36, -, hn⟩ := jlet_x hf
    clear hf
    have hf := hn
    clear hn
    cases hf
    exact ⟨fun a e => (by cases e; exact hF), fun _ e => (by cases e)⟩
theorem fr_f_X11_keep_b306 {σ0 σ : St} {x3 x4 x6 x7 x12 : Int} {y : (St × Int) ⊕ St} (hf : f_X11_keep_b306 σ x3 x4 x6 x7 x12 = some y) (hF : Fr wr_X11_keep σ0 σ) : (∀ s' : (St × Int), y = .inl s' → Fr wr_X11_keep σ0 s'.1) ∧ (∀ e : St, y = .inr e → Fr wr_X11_keep σ0 e) := by
  unfold f_X11_keep_b306 at hf
  replace hf := (jchk_elim hf).2
  rcases jif_x hf with ⟨-, hf⟩ | ⟨-, hf⟩
  · replace hf := (jchk_elim hf).2
    replace hf := (jchk_elim hf).2
    rcases jif_x hf with ⟨-, hf⟩ | ⟨-, hf⟩
    · obtain ⟨r_34, -, hf⟩ := jbind_elim hf
      replace hf := (jchk_elim hf).2
      replace hf := (jchk_elim hf).2
      rcases jif_x hf with ⟨-, hf⟩ | ⟨-, hf⟩
      · obtain ⟨r_39, -, hf⟩ := jbind_elim hf
        exact fr_f_X11_keep_b363 hf hF
      · replace hf := (jchk_elim hf).2
        exact fr_f_X11_keep_b363 hf hF
    · obtain ⟨x12_40, -, hn⟩ := jlet_x hf
      clear hf
      have hf := hn
      clear hn
      cases hf
      exact ⟨fun a e => (by cases e; exact hF), fun _ e => (by cases e)⟩
  · cases hf
    exact ⟨fun _ e => (by cases e), fun a e => (by cases e; exact hF)⟩
theorem fr_f_X11_keep_b289 {σ0 σ : St} {x3 x4 x6 x7 t0 : Int} {y : (St × Int × Int) ⊕ (St × Int)} (hf : f_X11_keep_b289 σ x3 x4 x6 x7 t0 = some y) (hF : Fr wr_X11_keep σ0 σ) : (∀ s' : (St × Int × Int), y = .inl s' → Fr wr_X11_keep σ0 s'.1) ∧ (∀ e : St × Int, y = .inr e → Fr wr_X11_keep σ0 e.1) := by
  unfold f_X11_keep_b289 at hf
  obtain ⟨x10_32, -, hn⟩ := jlet_x hf
  clear hf
  have hf := hn
  clear hn
  replace hf := (jchk_elim hf).2
  rcases jif_x hf with ⟨-, hf⟩ | ⟨-, hf⟩
  · obtain ⟨x4_42, -, hn⟩ := jlet_x hf
    clear hf
    have hf := hn
    clear hn
    obtain ⟨x12_43, -, hn⟩ := jlet_x hf
    clear hf
    have hf := hn
    clear hn
    obtain ⟨q0, he, hf⟩ := jbind_elim hf
    have hJ := jloop_inv (I := (fun q : (St × Int) => Fr wr_X11_keep σ0 q.1)) (J := fun q0 => Fr wr_X11_keep σ0 q0) (fun q y hy hI => fr_f_X11_keep_b306 hy hI) _ _ _ he hF
    have hF := hJ
    cases hf
    exact ⟨fun a e => (by cases e; exact hF), fun _ e => (by cases e)⟩
  · obtain ⟨x12_33, -, hn⟩ := jlet_x hf
    clear hf
    have hf := hn
    clear hn
    obtain ⟨q0, he, hf⟩ := jbind_elim hf
    have hJ := jloop_inv (I := (fun q : (St × Int) => Fr wr_X11_keep σ0 q.1)) (J := fun q0 => Fr wr_X11_keep σ0 q0) (fun q y hy hI => fr_f_X11_keep_b306 hy hI) _ _ _ he hF
    have hF := hJ
    cases hf
    exact ⟨fun a e => (by cases e; exact hF), fun _ e => (by cases e)⟩
theorem fr_f_X11_keep_b234 {σ0 σ : St} {x3 x4 x7 t0 : Int} {y : (St × Int × Int) ⊕ (St × Int)} (hf : f_X11_keep_b234 σ x3 x4 x7 t0 = some y) (hF : Fr wr_X11_keep σ0 σ) : (∀ s' : (St × Int × Int), y = .inl s' → Fr wr_X11_keep σ0 s'.1) ∧ (∀ e : St × Int, y = .inr e → Fr wr_X11_keep σ0 e.1) := by
  unfold f_X11_keep_b234 at hf
  obtain ⟨x6_28, -, hn⟩ := jlet_x hf
  clear hf
  have hf := hn
  clear hn
  replace hf := (jchk_elim hf).2
  rcases jif_x hf with ⟨-, hf⟩ | ⟨-, hf⟩
  · cases hf
    exact ⟨fun a e => (by cases e; exact hF), fun _ e => (by cases e)⟩
  · replace hf := (jchk_elim hf).2
    obtain ⟨σ_29, ex, hn⟩ := jlet_x hf
    clear hf
    have hf := hn
    clear hn
    have hF := hF.putA ex (by decide)
    obtain ⟨r_30, -, hf⟩ := jbind_elim hf
    obtain ⟨x8_31, -, hn⟩ := jlet_x hf
    clear hf
    have hf := hn
    clear hn
    replace hf := (jchk_elim hf).2
    replace hf := (jchk_elim hf).2
    rcases jif_x hf with ⟨-, hf⟩ | ⟨-, hf⟩
    · exact fr_f_X11_keep_b289 hf hF
    · replace hf := (jchk_elim hf).2
      exact fr_f_X11_keep_b289 hf hF
theorem fr_f_X11_keep_b161 {σ0 σ : St} {x3 x4 x6 : Int} {y : (St × Int × Int) ⊕ (St × Int)} (hf : f_X11_keep_b161 σ x3 x4 x6 = some y) (hF : Fr wr_X11_keep σ0 σ) : (∀ s' : (St × Int × Int), y = .inl s' → Fr wr_X11_keep σ0 s'.1) ∧ (∀ e : St × Int, y = .inr e → Fr wr_X11_keep σ0 e.1) := by
  unfold f_X11_keep_b161 at hf
  replace hf := (jchk_elim hf).2
  rcases jif_x hf with ⟨-, hf⟩ | ⟨-, hf⟩
  · cases hf
    exact ⟨fun _ e => (by cases e), fun a e => (by cases e; exact hF)⟩
  · obtain ⟨x7_19, -, hn⟩ := jlet_x hf
    clear hf
    have hf := hn
    clear hn
    obtain ⟨x8_20, -, hn⟩ := jlet_x hf
    clear hf
    have hf := hn
    clear hn
    obtain ⟨q0, -, hf⟩ := jbind_elim hf
    replace hf := (jchk_elim hf).2
    rcases jif_x hf with ⟨-, hf⟩ | ⟨-, hf⟩
    · exact fr_f_X11_keep_b234 hf hF
    · exact fr_f_X11_keep_b234 hf hF
theorem fr_f_X11_keep_b0 {σ0 σ : St} {x1 x2 : Int} {y : Int × St} (hf : f_X11_keep_b0 σ x1 x2 = some y) (hF : Fr wr_X11_keep σ0 σ) : Fr wr_X11_keep σ0 y.2 := by
  unfold f_X11_keep_b0 at hf
  replace hf := (jchk_elim hf).2
  rcases jif_x hf with ⟨-, hf⟩ | ⟨-, hf⟩
  · cases hf
    exact hF
  · replace hf := (jchk_elim hf).2
    rcases jif_x hf with ⟨-, hf⟩ | ⟨-, hf⟩
    · cases hf
      exact hF
    · replace hf := (jchk_elim hf).2
      rcases jif_x hf with ⟨-, hf⟩ | ⟨-, hf⟩
      · cases hf
        exact hF
      · replace hf := (jchk_elim hf).2
        rcases jif_x hf with ⟨-, hf⟩ | ⟨-, hf⟩
        · cases hf
          exact hF
        · replace hf := (jchk_elim hf).2
          rcases jif_x hf with ⟨-, hf⟩ | ⟨-, hf⟩
          · cases hf
            exact hF
          · obtain ⟨r_1, -, hf⟩ := jbind_elim hf
            replace hf := (jchk_elim hf).2
            rcases jif_x hf with ⟨-, hf⟩ | ⟨-, hf⟩
            · cases hf
              exact hF
            · obtain ⟨x3_2, -, hn⟩ := jlet_x hf
              clear hf
              have hf := hn
              clear hn
              obtain ⟨x4_3, -, hn⟩ := jlet_x hf
              clear hf
              have hf := hn
              clear hn
              obtain ⟨q0, -, hf⟩ := jbind_elim hf
              obtain ⟨x4_7, -, hn⟩ := jlet_x hf
              clear hf
              have hf := hn
              clear hn
              obtain ⟨q0, he, hf⟩ := jbind_elim hf
              have hJ := jloop_inv (I := (fun q : (St × Int) => Fr wr_X11_keep σ0 q.1)) (J := fun q0 => Fr wr_X11_keep σ0 q0) (fun q y hy hI => fr_f_X11_keep_b65 hy hI) _ _ _ he hF
              have hF := hJ
              obtain ⟨r_14, -, hf⟩ := jbind_elim hf
              obtain ⟨r_15, -, hf⟩ := jbind_elim hf
              replace hf := (jchk_elim hf).2
              rcases jif_x hf with ⟨-, hf⟩ | ⟨-, hf⟩
              · obtain ⟨r_47, -, hf⟩ := jbind_elim hf
                obtain ⟨x4_48, -, hn⟩ := jlet_x hf
                clear hf
                have hf := hn
                clear hn
                obtain ⟨x6_49, -, hn⟩ := jlet_x hf
                clear hf
                have hf := hn
                clear hn
                obtain ⟨q0, he, hf⟩ := jbind_elim hf
                have hJ := jloop_inv (I := (fun q : (St × Int × Int) => Fr wr_X11_keep σ0 q.1)) (J := fun q0 => Fr wr_X11_keep σ0 q0.1) (fun q y hy hI => fr_f_X11_keep_b161 hy hI) _ _ _ he hF
                obtain ⟨σ_50, x4_51⟩ := q0
                have hF := hJ
                cases hf
                exact hF
              · obtain ⟨r_16, -, hf⟩ := jbind_elim hf
                obtain ⟨x4_17, -, hn⟩ := jlet_x hf
                clear hf
                have hf := hn
                clear hn
                obtain ⟨x6_18, -, hn⟩ := jlet_x hf
                clear hf
                have hf := hn
                clear hn
                obtain ⟨q0, he, hf⟩ := jbind_elim hf
                have hJ := jloop_inv (I := (fun q : (St × Int × Int) => Fr wr_X11_keep σ0 q.1)) (J := fun q0 => Fr wr_X11_keep σ0 q0.1) (fun q y hy hI => fr_f_X11_keep_b161 hy hI) _ _ _ he hF
                obtain ⟨σ_45, x4_46⟩ := q0
                have hF := hJ
                cases hf
                exact hF
theorem fr_f_X11_keep {σ : St} {x1 x2 : Int} {y : Int × St} (hf : f_X11_keep σ x1 x2 = some y) : Fr wr_X11_keep σ y.2 := fr_f_X11_keep_b0 (by unfold f_X11_keep at hf; exact hf) Fr.refl
abbrev wr_X11_tries : Wr := ([], [(0, 34), (0, 35), (0, 36), (0, 37), (0, 38), (0, 39), (0, 40), (0, 41), (0, 42), (0, 43), (0, 44)])
theorem fr_f_X11_tries_b106 {σ0 σ : St} {x1 x3 x5 x7 x8 : Int} {y : (St × Int) ⊕ St} (hf : f_X11_tries_b106 σ x1 x3 x5 x7 x8 = some y) (hF : Fr wr_X11_tries σ0 σ) : (∀ s' : (St × Int), y = .inl s' → Fr wr_X11_tries σ0 s'.1) ∧ (∀ e : St, y = .inr e → Fr wr_X11_tries σ0 e) := by
  unfold f_X11_tries_b106 at hf
  obtain ⟨σ_10, ex, hn⟩ := jlet_x hf
  clear hf
  have hf := hn
  clear hn
  have hF := hF.putF ex (by decide)
  obtain ⟨x7_11, -, hn⟩ := jlet_x hf
  clear hf
  have hf := hn
  clear hn
  cases hf
  exact ⟨fun a e => (by cases e; exact hF), fun _ e => (by cases e)⟩
theorem fr_f_X11_tries_b35 {σ0 σ : St} {x1 x3 x5 x7 : Int} {y : (St × Int) ⊕ St} (hf : f_X11_tries_b35 σ x1 x3 x5 x7 = some y) (hF : Fr wr_X11_tries σ0 σ) : (∀ s' : (St × Int), y = .inl s' → Fr wr_X11_tries σ0 s'.1) ∧ (∀ e : St, y = .inr e → Fr wr_X11_tries σ0 e) := by
  unfold f_X11_tries_b35 at hf
  replace hf := (jchk_elim hf).2
  rcases jif_x hf with ⟨-, hf⟩ | ⟨-, hf⟩
  · obtain ⟨r_7, -, hf⟩ := jbind_elim hf
    replace hf := (jchk_elim hf).2
    rcases jif_x hf with ⟨-, hf⟩ | ⟨-, hf⟩
    · obtain ⟨x7_13, -, hn⟩ := jlet_x hf
      clear hf
      have hf := hn
      clear hn
      cases hf
      exact ⟨fun a e => (by cases e; exact hF), fun _ e => (by cases e)⟩
    · replace hf := (jchk_elim hf).2
      replace hf := (jchk_elim hf).2
      replace hf := (jchk_elim hf).2
      replace hf := (jchk_elim hf).2
      obtain ⟨r_8, -, hf⟩ := jbind_elim hf
      obtain ⟨x8_9, -, hn⟩ := jlet_x hf
      clear hf
      have hf := hn
      clear hn
      replace hf := (jchk_elim hf).2
      rcases jif_x hf with ⟨-, hf⟩ | ⟨-, hf⟩
      · exact fr_f_X11_tries_b106 hf hF
      · replace hf := (jchk_elim hf).2
        rcases jif_x hf with ⟨-, hf⟩ | ⟨-, hf⟩
        · exact fr_f_X11_tries_b106 hf hF
        · obtain ⟨x7_12, -, hn⟩ := jlet_x hf
          clear hf
          have hf := hn
          clear hn
          cases hf
          exact ⟨fun a e => (by cases e; exact hF), fun _ e => (by cases e)⟩
  · cases hf
    exact ⟨fun _ e => (by cases e), fun a e => (by cases e; exact hF)⟩
theorem fr_f_X11_tries_b0 {σ0 σ : St} {x1 x3 x5 : Int} {y : St} (hf : f_X11_tries_b0 σ x1 x3 x5 = some y) (hF : Fr wr_X11_tries σ0 σ) : Fr wr_X11_tries σ0 y := by
  unfold f_X11_tries_b0 at hf
  obtain ⟨σ_1, ex, hn⟩ := jlet_x hf
  clear hf
  have hf := hn
  clear hn
  have hF := hF.putF ex (by decide)
  obtain ⟨σ_2, ex, hn⟩ := jlet_x hf
  clear hf
  have hf := hn
  clear hn
  have hF := hF.putF ex (by decide)
  obtain ⟨σ_3, ex, hn⟩ := jlet_x hf
  clear hf
  have hf := hn
  clear hn
  have hF := hF.putF ex (by decide)
  obtain ⟨σ_4, ex, hn⟩ := jlet_x hf
  clear hf
  have hf := hn
  clear hn
  have hF := hF.putF ex (by decide)
  obtain ⟨σ_5, ex, hn⟩ := jlet_x hf
  clear hf
  have hf := hn
  clear hn
  have hF := hF.putF ex (by decide)
  obtain ⟨x7_6, -, hn⟩ := jlet_x hf
  clear hf
  have hf := hn
  clear hn
  obtain ⟨q0, he, hf⟩ := jbind_elim hf
  have hJ := jloop_inv (I := (fun q : (St × Int) => Fr wr_X11_tries σ0 q.1)) (J := fun q0 => Fr wr_X11_tries σ0 q0) (fun q y hy hI => fr_f_X11_tries_b35 hy hI) _ _ _ he hF
  have hF := hJ
  obtain ⟨σ_15, hq, hf⟩ := jbind_elim hf
  have hF := hF.trans ((fr_f_X11_better hq).mono (P2 := wr_X11_tries) (by decide) (by decide))
  cases hf
  exact hF
theorem fr_f_X11_tries {σ : St} {x1 x3 x5 : Int} {y : St} (hf : f_X11_tries σ x1 x3 x5 = some y) : Fr wr_X11_tries σ y := fr_f_X11_tries_b0 (by unfold f_X11_tries at hf; exact hf) Fr.refl
abbrev wr_X11_triesOn : Wr := ([], [(0, 34), (0, 35), (0, 36), (0, 37), (0, 38), (0, 39), (0, 40), (0, 41), (0, 42), (0, 43), (0, 44)])
theorem fr_f_X11_triesOn_b33 {σ0 σ : St} {x5 x7 x8 x10 t0 : Int} {y : St} (hf : f_X11_triesOn_b33 σ x5 x7 x8 x10 t0 = some y) (hF : Fr wr_X11_triesOn σ0 σ) : Fr wr_X11_triesOn σ0 y := by
  unfold f_X11_triesOn_b33 at hf
  obtain ⟨x12_2, -, hn⟩ := jlet_x hf
  clear hf
  have hf := hn
  clear hn
  replace hf := (jchk_elim hf).2
  rcases jif_x hf with ⟨-, hf⟩ | ⟨-, hf⟩
  · cases hf
    exact hF
  · replace hf := (jchk_elim hf).2
    rcases jif_x hf with ⟨-, hf⟩ | ⟨-, hf⟩
    · cases hf
      exact hF
    · replace hf := (jchk_elim hf).2
      rcases jif_x hf with ⟨-, hf⟩ | ⟨-, hf⟩
      · obtain ⟨σ_3, hq, hf⟩ := jbind_elim hf
        have hF := hF.trans ((fr_f_X11_tries hq).mono (P2 := wr_X11_triesOn) (by decide) (by decide))
        cases hf
        exact hF
      · obtain ⟨σ_4, hq, hf⟩ := jbind_elim hf
        have hF := hF.trans ((fr_f_X11_tries hq).mono (P2 := wr_X11_triesOn) (by decide) (by decide))
        cases hf
        exact hF
theorem fr_f_X11_triesOn_b19 {σ0 σ : St} {x1 x3 x5 x7 x8 t0 : Int} {y : St} (hf : f_X11_triesOn_b19 σ x1 x3 x5 x7 x8 t0 = some y) (hF : Fr wr_X11_triesOn σ0 σ) : Fr wr_X11_triesOn σ0 y := by
  unfold f_X11_triesOn_b19 at hf
  obtain ⟨x10_1, -, hn⟩ := jlet_x hf
  clear hf
  have hf := hn
  clear hn
  replace hf := (jchk_elim hf).2
  rcases jif_x hf with ⟨-, hf⟩ | ⟨-, hf⟩
  · exact fr_f_X11_triesOn_b33 hf hF
  · exact fr_f_X11_triesOn_b33 hf hF
theorem fr_f_X11_triesOn_b0 {σ0 σ : St} {x1 x3 x5 x7 x8 : Int} {y : St} (hf : f_X11_triesOn_b0 σ x1 x3 x5 x7 x8 = some y) (hF : Fr wr_X11_triesOn σ0 σ) : Fr wr_X11_triesOn σ0 y := by
  unfold f_X11_triesOn_b0 at hf
  replace hf := (jchk_elim hf).2
  rcases jif_x hf with ⟨-, hf⟩ | ⟨-, hf⟩
  · cases hf
    exact hF
  · replace hf := (jchk_elim hf).2
    rcases jif_x hf with ⟨-, hf⟩ | ⟨-, hf⟩
    · exact fr_f_X11_triesOn_b19 hf hF
    · exact fr_f_X11_triesOn_b19 hf hF
theorem fr_f_X11_triesOn {σ : St} {x1 x3 x5 x7 x8 : Int} {y : St} (hf : f_X11_triesOn σ x1 x3 x5 x7 x8 = some y) : Fr wr_X11_triesOn σ y := fr_f_X11_triesOn_b0 (by unfold f_X11_triesOn at hf; exact hf) Fr.refl
abbrev wr_X11_triesSides : Wr := ([], [(0, 34), (0, 35), (0, 36), (0, 37), (0, 38), (0, 39), (0, 40), (0, 41), (0, 42), (0, 43), (0, 44)])
theorem fr_f_X11_triesSides_b166 {σ0 σ : St} {x3 x5 x7 x9 t1 t2 t3 : Int} {y : (St × Int) ⊕ St} (hf : f_X11_triesSides_b166 σ x3 x5 x7 x9 t1 t2 t3 = some y) (hF : Fr wr_X11_triesSides σ0 σ) : (∀ s' : (St × Int), y = .inl s' → Fr wr_X11_triesSides σ0 s'.1) ∧ (∀ e : St, y = .inr e → Fr wr_X11_triesSides σ0 e) := by
  unfold f_X11_triesSides_b166 at hf
  replace hf := (jchk_elim hf).2
  obtain ⟨σ_8, hq, hf⟩ := jbind_elim hf
  have hF := hF.trans ((fr_f_X11_triesOn hq).mono (P2 := wr_X11_triesSides) (by decide) (by decide))
  obtain ⟨x9_9, -, hn⟩ := jlet_x hf
  clear hf
  have hf := hn
  clear hn
  cases hf
  exact ⟨fun a e => (by cases e; exact hF), fun _ e => (by cases e)⟩
theorem fr_f_X11_triesSides_b150 {σ0 σ : St} {x3 x5 x7 x9 t1 t2 t3 t4 : Int} {y : (St × Int) ⊕ St} (hf : f_X11_triesSides_b150 σ x3 x5 x7 x9 t1 t2 t3 t4 = some y) (hF : Fr wr_X11_triesSides σ0 σ) : (∀ s' : (St × Int), y = .inl s' → Fr wr_X11_triesSides σ0 s'.1) ∧ (∀ e : St, y = .inr e → Fr wr_X11_triesSides σ0 e) := by
  unfold f_X11_triesSides_b150 at hf
  replace hf := (jchk_elim hf).2
  rcases jif_x hf with ⟨-, hf⟩ | ⟨-, hf⟩
  · exact fr_f_X11_triesSides_b166 hf hF
  · replace hf := (jchk_elim hf).2
    exact fr_f_X11_triesSides_b166 hf hF
theorem fr_f_X11_triesSides_b121 {σ0 σ : St} {x3 x5 x7 x9 t1 t2 t3 : Int} {y : (St × Int) ⊕ St} (hf : f_X11_triesSides_b121 σ x3 x5 x7 x9 t1 t2 t3 = some y) (hF : Fr wr_X11_triesSides σ0 σ) : (∀ s' : (St × Int), y = .inl s' → Fr wr_X11_triesSides σ0 s'.1) ∧ (∀ e : St, y = .inr e → Fr wr_X11_triesSides σ0 e) := by
  unfold f_X11_triesSides_b121 at hf
  replace hf := (jchk_elim hf).2
  obtain ⟨σ_7, hq, hf⟩ := jbind_elim hf
  have hF := hF.trans ((fr_f_X11_triesOn hq).mono (P2 := wr_X11_triesSides) (by decide) (by decide))
  replace hf := (jchk_elim hf).2
  rcases jif_x hf with ⟨-, hf⟩ | ⟨-, hf⟩
  · exact fr_f_X11_triesSides_b150 hf hF
  · replace hf := (jchk_elim hf).2
    exact fr_f_X11_triesSides_b150 hf hF
theorem fr_f_X11_triesSides_b105 {σ0 σ : St} {x3 x5 x7 x9 t1 t2 t3 t4 : Int} {y : (St × Int) ⊕ St} (hf : f_X11_triesSides_b105 σ x3 x5 x7 x9 t1 t2 t3 t4 = some y) (hF : Fr wr_X11_triesSides σ0 σ) : (∀ s' : (St × Int), y = .inl s' → Fr wr_X11_triesSides σ0 s'.1) ∧ (∀ e : St, y = .inr e → Fr wr_X11_triesSides σ0 e) := by
  unfold f_X11_triesSides_b105 at hf
  replace hf := (jchk_elim hf).2
  rcases jif_x hf with ⟨-, hf⟩ | ⟨-, hf⟩
  · exact fr_f_X11_triesSides_b121 hf hF
  · replace hf := (jchk_elim hf).2
    exact fr_f_X11_triesSides_b121 hf hF
theorem fr_f_X11_triesSides_b79 {σ0 σ : St} {x3 x5 x7 x9 : Int} {y : (St × Int) ⊕ St} (hf : f_X11_triesSides_b79 σ x3 x5 x7 x9 = some y) (hF : Fr wr_X11_triesSides σ0 σ) : (∀ s' : (St × Int), y = .inl s' → Fr wr_X11_triesSides σ0 s'.1) ∧ (∀ e : St, y = .inr e → Fr wr_X11_triesSides σ0 e) := by
  unfold f_X11_triesSides_b79 at hf
  replace hf := (jchk_elim hf).2
  rcases jif_x hf with ⟨-, hf⟩ | ⟨-, hf⟩
  · replace hf := (jchk_elim hf).2
    rcases jif_x hf with ⟨-, hf⟩ | ⟨-, hf⟩
    · exact fr_f_X11_triesSides_b105 hf hF
    · replace hf := (jchk_elim hf).2
      exact fr_f_X11_triesSides_b105 hf hF
  · cases hf
    exact ⟨fun _ e => (by cases e), fun a e => (by cases e; exact hF)⟩
theorem fr_f_X11_triesSides_b0 {σ0 σ : St} {x1 x2 : Int} {y : St} (hf : f_X11_triesSides_b0 σ x1 x2 = some y) (hF : Fr wr_X11_triesSides σ0 σ) : Fr wr_X11_triesSides σ0 y := by
  unfold f_X11_triesSides_b0 at hf
  replace hf := (jchk_elim hf).2
  replace hf := (jchk_elim hf).2
  replace hf := (jchk_elim hf).2
  obtain ⟨x3_1, -, hn⟩ := jlet_x hf
  clear hf
  have hf := hn
  clear hn
  replace hf := (jchk_elim hf).2
  replace hf := (jchk_elim hf).2
  replace hf := (jchk_elim hf).2
  obtain ⟨x5_2, -, hn⟩ := jlet_x hf
  clear hf
  have hf := hn
  clear hn
  replace hf := (jchk_elim hf).2
  replace hf := (jchk_elim hf).2
  replace hf := (jchk_elim hf).2
  replace hf := (jchk_elim hf).2
  obtain ⟨r_3, -, hf⟩ := jbind_elim hf
  replace hf := (jchk_elim hf).2
  replace hf := (jchk_elim hf).2
  replace hf := (jchk_elim hf).2
  replace hf := (jchk_elim hf).2
  obtain ⟨r_4, -, hf⟩ := jbind_elim hf
  obtain ⟨x7_5, -, hn⟩ := jlet_x hf
  clear hf
  have hf := hn
  clear hn
  obtain ⟨x9_6, -, hn⟩ := jlet_x hf
  clear hf
  have hf := hn
  clear hn
  obtain ⟨q0, he, hf⟩ := jbind_elim hf
  have hJ := jloop_inv (I := (fun q : (St × Int) => Fr wr_X11_triesSides σ0 q.1)) (J := fun q0 => Fr wr_X11_triesSides σ0 q0) (fun q y hy hI => fr_f_X11_triesSides_b79 hy hI) _ _ _ he hF
  have hF := hJ
  cases hf
  exact hF
theorem fr_f_X11_triesSides {σ : St} {x1 x2 : Int} {y : St} (hf : f_X11_triesSides σ x1 x2 = some y) : Fr wr_X11_triesSides σ y := fr_f_X11_triesSides_b0 (by unfold f_X11_triesSides at hf; exact hf) Fr.refl
abbrev wr_X11_ringsOf : Wr := ([21, 22, 23, 24], [(0, 29)])
theorem fr_f_X11_ringsOf_b27 {σ0 σ : St} {x1 x2 x3 : Int} {y : (St × Int) ⊕ St} (hf : f_X11_ringsOf_b27 σ x1 x2 x3 = some y) (hF : Fr wr_X11_ringsOf σ0 σ) : (∀ s' : (St × Int), y = .inl s' → Fr wr_X11_ringsOf σ0 s'.1) ∧ (∀ e : St, y = .inr e → Fr wr_X11_ringsOf σ0 e) := by
  unfold f_X11_ringsOf_b27 at hf
  replace hf := (jchk_elim hf).2
  rcases jif_x hf with ⟨-, hf⟩ | ⟨-, hf⟩
  · obtain ⟨r_5, -, hf⟩ := jbind_elim hf
    replace hf := (jchk_elim hf).2
    rcases jif_x hf with ⟨-, hf⟩ | ⟨-, hf⟩
    · obtain ⟨x3_6, -, hn⟩ := jlet_x hf
      clear hf
      have hf := hn
      clear hn
      cases hf
      exact ⟨fun a e => (by cases e; exact hF), fun _ e => (by cases e)⟩
    · obtain ⟨r_7, -, hf⟩ := jbind_elim hf
      replace hf := (jchk_elim hf).2
      rcases jif_x hf with ⟨-, hf⟩ | ⟨-, hf⟩
      · obtain ⟨x3_8, -, hn⟩ := jlet_x hf
        clear hf
        have hf := hn
        clear hn
        cases hf
        exact ⟨fun a e => (by cases e; exact hF), fun _ e => (by cases e)⟩
      · obtain ⟨r_9, -, hf⟩ := jbind_elim hf
        replace hf := (jchk_elim hf).2
        rcases jif_x hf with ⟨-, hf⟩ | ⟨-, hf⟩
        · obtain ⟨x3_10, -, hn⟩ := jlet_x hf
          clear hf
          have hf := hn
          clear hn
          cases hf
          exact ⟨fun a e => (by cases e; exact hF), fun _ e => (by cases e)⟩
        · obtain ⟨r_11, -, hf⟩ := jbind_elim hf
          replace hf := (jchk_elim hf).2
          rcases jif_x hf with ⟨-, hf⟩ | ⟨-, hf⟩
          · obtain ⟨x3_22, -, hn⟩ := jlet_x hf
            clear hf
            have hf := hn
            clear hn
            cases hf
            exact ⟨fun a e => (by cases e; exact hF), fun _ e => (by cases e)⟩
          · obtain ⟨r_12, -, hf⟩ := jbind_elim hf
            obtain ⟨x4_13, -, hn⟩ := jlet_x hf
            clear hf
            have hf := hn
            clear hn
            replace hf := (jchk_elim hf).2
            rcases jif_x hf with ⟨-, hf⟩ | ⟨-, hf⟩
            · obtain ⟨x3_14, -, hn⟩ := jlet_x hf
              clear hf
              have hf := hn
              clear hn
              cases hf
              exact ⟨fun a e => (by cases e; exact hF), fun _ e => (by cases e)⟩
            · replace hf := (jchk_elim hf).2
              rcases jif_x hf with ⟨-, hf⟩ | ⟨-, hf⟩
              · replace hf := (jchk_elim hf).2
                obtain ⟨σ_15, ex, hn⟩ := jlet_x hf
                clear hf
                have hf := hn
                clear hn
                have hF := hF.putA ex (by decide)
                replace hf := (jchk_elim hf).2
                obtain ⟨σ_16, ex, hn⟩ := jlet_x hf
                clear hf
                have hf := hn
                clear hn
                have hF := hF.putA ex (by decide)
                replace hf := (jchk_elim hf).2
                obtain ⟨σ_17, ex, hn⟩ := jlet_x hf
                clear hf
                have hf := hn
                clear hn
                have hF := hF.putA ex (by decide)
                replace hf := (jchk_elim hf).2
                obtain ⟨σ_18, ex, hn⟩ := jlet_x hf
                clear hf
                have hf := hn
                clear hn
                have hF := hF.putA ex (by decide)
                obtain ⟨σ_19, ex, hn⟩ := jlet_x hf
                clear hf
                have hf := hn
                clear hn
                have hF := hF.putF ex (by decide)
                obtain ⟨x3_20, -, hn⟩ := jlet_x hf
                clear hf
                have hf := hn
                clear hn
                cases hf
                exact ⟨fun a e => (by cases e; exact hF), fun _ e => (by cases e)⟩
              · obtain ⟨x3_21, -, hn⟩ := jlet_x hf
                clear hf
                have hf := hn
                clear hn
                cases hf
                exact ⟨fun a e => (by cases e; exact hF), fun _ e => (by cases e)⟩
  · cases hf
    exact ⟨fun _ e => (by cases e), fun a e => (by cases e; exact hF)⟩
theorem fr_f_X11_ringsOf_b17 {σ0 σ : St} {x1 x2 : Int} {y : (St × Int) ⊕ St} (hf : f_X11_ringsOf_b17 σ x1 x2 = some y) (hF : Fr wr_X11_ringsOf σ0 σ) : (∀ s' : (St × Int), y = .inl s' → Fr wr_X11_ringsOf σ0 s'.1) ∧ (∀ e : St, y = .inr e → Fr wr_X11_ringsOf σ0 e) := by
  unfold f_X11_ringsOf_b17 at hf
  replace hf := (jchk_elim hf).2
  rcases jif_x hf with ⟨-, hf⟩ | ⟨-, hf⟩
  · obtain ⟨x3_4, -, hn⟩ := jlet_x hf
    clear hf
    have hf := hn
    clear hn
    obtain ⟨q0, he, hf⟩ := jbind_elim hf
    have hJ := jloop_inv (I := (fun q : (St × Int) => Fr wr_X11_ringsOf σ0 q.1)) (J := fun q0 => Fr wr_X11_ringsOf σ0 q0) (fun q y hy hI => fr_f_X11_ringsOf_b27 hy hI) _ _ _ he hF
    have hF := hJ
    obtain ⟨x2_24, -, hn⟩ := jlet_x hf
    clear hf
    have hf := hn
    clear hn
    cases hf
    exact ⟨fun a e => (by cases e; exact hF), fun _ e => (by cases e)⟩
  · cases hf
    exact ⟨fun _ e => (by cases e), fun a e => (by cases e; exact hF)⟩
theorem fr_f_X11_ringsOf_b7 {σ0 σ : St} {x1 : Int} {y : (St × Int) ⊕ St} (hf : f_X11_ringsOf_b7 σ x1 = some y) (hF : Fr wr_X11_ringsOf σ0 σ) : (∀ s' : (St × Int), y = .inl s' → Fr wr_X11_ringsOf σ0 s'.1) ∧ (∀ e : St, y = .inr e → Fr wr_X11_ringsOf σ0 e) := by
  unfold f_X11_ringsOf_b7 at hf
  replace hf := (jchk_elim hf).2
  rcases jif_x hf with ⟨-, hf⟩ | ⟨-, hf⟩
  · obtain ⟨x2_3, -, hn⟩ := jlet_x hf
    clear hf
    have hf := hn
    clear hn
    obtain ⟨q0, he, hf⟩ := jbind_elim hf
    have hJ := jloop_inv (I := (fun q : (St × Int) => Fr wr_X11_ringsOf σ0 q.1)) (J := fun q0 => Fr wr_X11_ringsOf σ0 q0) (fun q y hy hI => fr_f_X11_ringsOf_b17 hy hI) _ _ _ he hF
    have hF := hJ
    obtain ⟨x1_26, -, hn⟩ := jlet_x hf
    clear hf
    have hf := hn
    clear hn
    cases hf
    exact ⟨fun a e => (by cases e; exact hF), fun _ e => (by cases e)⟩
  · cases hf
    exact ⟨fun _ e => (by cases e), fun a e => (by cases e; exact hF)⟩
theorem fr_f_X11_ringsOf_b0 {σ0 σ : St} {y : St} (hf : f_X11_ringsOf_b0 σ = some y) (hF : Fr wr_X11_ringsOf σ0 σ) : Fr wr_X11_ringsOf σ0 y := by
  unfold f_X11_ringsOf_b0 at hf
  obtain ⟨σ_1, ex, hn⟩ := jlet_x hf
  clear hf
  have hf := hn
  clear hn
  have hF := hF.putF ex (by decide)
  obtain ⟨x1_2, -, hn⟩ := jlet_x hf
  clear hf
  have hf := hn
  clear hn
  obtain ⟨q0, he, hf⟩ := jbind_elim hf
  have hJ := jloop_inv (I := (fun q : (St × Int) => Fr wr_X11_ringsOf σ0 q.1)) (J := fun q0 => Fr wr_X11_ringsOf σ0 q0) (fun q y hy hI => fr_f_X11_ringsOf_b7 hy hI) _ _ _ he hF
  have hF := hJ
  cases hf
  exact hF
theorem fr_f_X11_ringsOf {σ : St} {y : St} (hf : f_X11_ringsOf σ = some y) : Fr wr_X11_ringsOf σ y := fr_f_X11_ringsOf_b0 (by unfold f_X11_ringsOf at hf; exact hf) Fr.refl
abbrev wr_X11_middle : Wr := ([], [(0, 34), (0, 35), (0, 36), (0, 37), (0, 38)])
theorem fr_f_X11_middle_b255 {σ0 σ : St} {x2 x3 x4 x11 : Int} {y : St} (hf : f_X11_middle_b255 σ x2 x3 x4 x11 = some y) (hF : Fr wr_X11_middle σ0 σ) : Fr wr_X11_middle σ0 y := by
  unfold f_X11_middle_b255 at hf
  obtain ⟨r_15, -, hf⟩ := jbind_elim hf
  obtain ⟨r_16, -, hf⟩ := jbind_elim hf
  obtain ⟨r_17, -, hf⟩ := jbind_elim hf
  obtain ⟨σ_18, ex, hn⟩ := jlet_x hf
  clear hf
  have hf := hn
  clear hn
  have hF := hF.putF ex (by decide)
  obtain ⟨σ_19, ex, hn⟩ := jlet_x hf
  clear hf
  have hf := hn
  clear hn
  have hF := hF.putF ex (by decide)
  cases hf
  exact hF
theorem fr_f_X11_middle_b0 {σ0 σ : St} {x1 : Int} {y : St} (hf : f_X11_middle_b0 σ x1 = some y) (hF : Fr wr_X11_middle σ0 σ) : Fr wr_X11_middle σ0 y := by
  unfold f_X11_middle_b0 at hf
  replace hf := (jchk_elim hf).2
  obtain ⟨x2_1, -, hn⟩ := jlet_x hf
  clear hf
  have hf := hn
  clear hn
  replace hf := (jchk_elim hf).2
  obtain ⟨x3_2, -, hn⟩ := jlet_x hf
  clear hf
  have hf := hn
  clear hn
  replace hf := (jchk_elim hf).2
  obtain ⟨x4_3, -, hn⟩ := jlet_x hf
  clear hf
  have hf := hn
  clear hn
  replace hf := (jchk_elim hf).2
  replace hf := (jchk_elim hf).2
  replace hf := (jchk_elim hf).2
  replace hf := (jchk_elim hf).2
  obtain ⟨r_4, -, hf⟩ := jbind_elim hf
  obtain ⟨x5_5, -, hn⟩ := jlet_x hf
  clear hf
  have hf := hn
  clear hn
  replace hf := (jchk_elim hf).2
  replace hf := (jchk_elim hf).2
  replace hf := (jchk_elim hf).2
  replace hf := (jchk_elim hf).2
  obtain ⟨r_6, -, hf⟩ := jbind_elim hf
  obtain ⟨x7_7, -, hn⟩ := jlet_x hf
  clear hf
  have hf := hn
  clear hn
  replace hf := (jchk_elim hf).2
  replace hf := (jchk_elim hf).2
  replace hf := (jchk_elim hf).2
  replace hf := (jchk_elim hf).2
  obtain ⟨r_8, -, hf⟩ := jbind_elim hf
  obtain ⟨x9_9, -, hn⟩ := jlet_x hf
  clear hf
  have hf := hn
  clear hn
  obtain ⟨r_10, -, hf⟩ := jbind_elim hf
  obtain ⟨x11_11, -, hn⟩ := jlet_x hf
  clear hf
  have hf := hn
  clear hn
  obtain ⟨σ_12, ex, hn⟩ := jlet_x hf
  clear hf
  have hf := hn
  clear hn
  have hF := hF.putF ex (by decide)
  replace hf := (jchk_elim hf).2
  replace hf := (jchk_elim hf).2
  replace hf := (jchk_elim hf).2
  replace hf := (jchk_elim hf).2
  replace hf := (jchk_elim hf).2
  replace hf := (jchk_elim hf).2
  replace hf := (jchk_elim hf).2
  replace hf := (jchk_elim hf).2
  replace hf := (jchk_elim hf).2
  obtain ⟨σ_13, ex, hn⟩ := jlet_x hf
  clear hf
  have hf := hn
  clear hn
  have hF := hF.putF ex (by decide)
  replace hf := (jchk_elim hf).2
  replace hf := (jchk_elim hf).2
  replace hf := (jchk_elim hf).2
  replace hf := (jchk_elim hf).2
  replace hf := (jchk_elim hf).2
  replace hf := (jchk_elim hf).2
  replace hf := (jchk_elim hf).2
  replace hf := (jchk_elim hf).2
  replace hf := (jchk_elim hf).2
  obtain ⟨σ_14, ex, hn⟩ := jlet_x hf
  clear hf
  have hf := hn
  clear hn
  have hF := hF.putF ex (by decide)
  replace hf := (jchk_elim hf).2
  rcases jif_x hf with ⟨-, hf⟩ | ⟨-, hf⟩
  · obtain ⟨σ_20, ex, hn⟩ := jlet_x hf
    clear hf
    have hf := hn
    clear hn
    have hF := hF.putF ex (by decide)
    obtain ⟨σ_21, ex, hn⟩ := jlet_x hf
    clear hf
    have hf := hn
    clear hn
    have hF := hF.putF ex (by decide)
    obtain ⟨σ_22, ex, hn⟩ := jlet_x hf
    clear hf
    have hf := hn
    clear hn
    have hF := hF.putF ex (by decide)
    exact fr_f_X11_middle_b255 hf hF
  · exact fr_f_X11_middle_b255 hf hF
theorem fr_f_X11_middle {σ : St} {x1 : Int} {y : St} (hf : f_X11_middle σ x1 = some y) : Fr wr_X11_middle σ y := fr_f_X11_middle_b0 (by unfold f_X11_middle at hf; exact hf) Fr.refl
abbrev wr_X11_largestOf : Wr := ([21, 22, 23, 24], [(0, 29), (0, 34), (0, 35), (0, 36), (0, 37), (0, 38), (0, 39), (0, 40), (0, 41), (0, 42), (0, 43), (0, 44)])
theorem fr_f_X11_largestOf_b46 {σ0 σ : St} {x1 t1 t2 : Int} {y : (St × Int) ⊕ St} (hf : f_X11_largestOf_b46 σ x1 t1 t2 = some y) (hF : Fr wr_X11_largestOf σ0 σ) : (∀ s' : (St × Int), y = .inl s' → Fr wr_X11_largestOf σ0 s'.1) ∧ (∀ e : St, y = .inr e → Fr wr_X11_largestOf σ0 e) := by
  unfold f_X11_largestOf_b46 at hf
  obtain ⟨σ_3, hq, hf⟩ := jbind_elim hf
  have hF := hF.trans ((fr_f_X11_tries hq).mono (P2 := wr_X11_largestOf) (by decide) (by decide))
  obtain ⟨x1_4, -, hn⟩ := jlet_x hf
  clear hf
  have hf := hn
  clear hn
  cases hf
  exact ⟨fun a e => (by cases e; exact hF), fun _ e => (by cases e)⟩
theorem fr_f_X11_largestOf_b32 {σ0 σ : St} {x1 t1 : Int} {y : (St × Int) ⊕ St} (hf : f_X11_largestOf_b32 σ x1 t1 = some y) (hF : Fr wr_X11_largestOf σ0 σ) : (∀ s' : (St × Int), y = .inl s' → Fr wr_X11_largestOf σ0 s'.1) ∧ (∀ e : St, y = .inr e → Fr wr_X11_largestOf σ0 e) := by
  unfold f_X11_largestOf_b32 at hf
  replace hf := (jchk_elim hf).2
  rcases jif_x hf with ⟨-, hf⟩ | ⟨-, hf⟩
  · replace hf := (jchk_elim hf).2
    exact fr_f_X11_largestOf_b46 hf hF
  · exact fr_f_X11_largestOf_b46 hf hF
theorem fr_f_X11_largestOf_b23 {σ0 σ : St} {x1 : Int} {y : (St × Int) ⊕ St} (hf : f_X11_largestOf_b23 σ x1 = some y) (hF : Fr wr_X11_largestOf σ0 σ) : (∀ s' : (St × Int), y = .inl s' → Fr wr_X11_largestOf σ0 s'.1) ∧ (∀ e : St, y = .inr e → Fr wr_X11_largestOf σ0 e) := by
  unfold f_X11_largestOf_b23 at hf
  replace hf := (jchk_elim hf).2
  exact fr_f_X11_largestOf_b32 hf hF
theorem fr_f_X11_largestOf_b7 {σ0 σ : St} {x1 : Int} {y : (St × Int) ⊕ St} (hf : f_X11_largestOf_b7 σ x1 = some y) (hF : Fr wr_X11_largestOf σ0 σ) : (∀ s' : (St × Int), y = .inl s' → Fr wr_X11_largestOf σ0 s'.1) ∧ (∀ e : St, y = .inr e → Fr wr_X11_largestOf σ0 e) := by
  unfold f_X11_largestOf_b7 at hf
  replace hf := (jchk_elim hf).2
  rcases jif_x hf with ⟨-, hf⟩ | ⟨-, hf⟩
  · replace hf := (jchk_elim hf).2
    rcases jif_x hf with ⟨-, hf⟩ | ⟨-, hf⟩
    · exact fr_f_X11_largestOf_b23 hf hF
    · replace hf := (jchk_elim hf).2
      rcases jif_x hf with ⟨-, hf⟩ | ⟨-, hf⟩
      · exact fr_f_X11_largestOf_b23 hf hF
      · exact fr_f_X11_largestOf_b32 hf hF
  · cases hf
    exact ⟨fun _ e => (by cases e), fun a e => (by cases e; exact hF)⟩
theorem fr_f_X11_largestOf_b68 {σ0 σ : St} {x1 x2 : Int} {y : (St × Int) ⊕ St} (hf : f_X11_largestOf_b68 σ x1 x2 = some y) (hF : Fr wr_X11_largestOf σ0 σ) : (∀ s' : (St × Int), y = .inl s' → Fr wr_X11_largestOf σ0 s'.1) ∧ (∀ e : St, y = .inr e → Fr wr_X11_largestOf σ0 e) := by
  unfold f_X11_largestOf_b68 at hf
  replace hf := (jchk_elim hf).2
  rcases jif_x hf with ⟨-, hf⟩ | ⟨-, hf⟩
  · obtain ⟨r_8, -, hf⟩ := jbind_elim hf
    replace hf := (jchk_elim hf).2
    rcases jif_x hf with ⟨-, hf⟩ | ⟨-, hf⟩
    · obtain ⟨x2_9, -, hn⟩ := jlet_x hf
      clear hf
      have hf := hn
      clear hn
      cases hf
      exact ⟨fun a e => (by cases e; exact hF), fun _ e => (by cases e)⟩
    · obtain ⟨r_10, -, hf⟩ := jbind_elim hf
      replace hf := (jchk_elim hf).2
      rcases jif_x hf with ⟨-, hf⟩ | ⟨-, hf⟩
      · obtain ⟨x2_11, -, hn⟩ := jlet_x hf
        clear hf
        have hf := hn
        clear hn
        cases hf
        exact ⟨fun a e => (by cases e; exact hF), fun _ e => (by cases e)⟩
      · obtain ⟨σ_12, hq, hf⟩ := jbind_elim hf
        have hF := hF.trans ((fr_f_X11_triesSides hq).mono (P2 := wr_X11_largestOf) (by decide) (by decide))
        obtain ⟨x2_13, -, hn⟩ := jlet_x hf
        clear hf
        have hf := hn
        clear hn
        cases hf
        exact ⟨fun a e => (by cases e; exact hF), fun _ e => (by cases e)⟩
  · cases hf
    exact ⟨fun _ e => (by cases e), fun a e => (by cases e; exact hF)⟩
theorem fr_f_X11_largestOf_b58 {σ0 σ : St} {x1 : Int} {y : (St × Int) ⊕ St} (hf : f_X11_largestOf_b58 σ x1 = some y) (hF : Fr wr_X11_largestOf σ0 σ) : (∀ s' : (St × Int), y = .inl s' → Fr wr_X11_largestOf σ0 s'.1) ∧ (∀ e : St, y = .inr e → Fr wr_X11_largestOf σ0 e) := by
  unfold f_X11_largestOf_b58 at hf
  replace hf := (jchk_elim hf).2
  rcases jif_x hf with ⟨-, hf⟩ | ⟨-, hf⟩
  · obtain ⟨x2_7, -, hn⟩ := jlet_x hf
    clear hf
    have hf := hn
    clear hn
    obtain ⟨q0, he, hf⟩ := jbind_elim hf
    have hJ := jloop_inv (I := (fun q : (St × Int) => Fr wr_X11_largestOf σ0 q.1)) (J := fun q0 => Fr wr_X11_largestOf σ0 q0) (fun q y hy hI => fr_f_X11_largestOf_b68 hy hI) _ _ _ he hF
    have hF := hJ
    obtain ⟨x1_15, -, hn⟩ := jlet_x hf
    clear hf
    have hf := hn
    clear hn
    cases hf
    exact ⟨fun a e => (by cases e; exact hF), fun _ e => (by cases e)⟩
  · cases hf
    exact ⟨fun _ e => (by cases e), fun a e => (by cases e; exact hF)⟩
theorem fr_f_X11_largestOf_b114 {σ0 σ : St} {x1 : Int} {y : (St × Int) ⊕ St} (hf : f_X11_largestOf_b114 σ x1 = some y) (hF : Fr wr_X11_largestOf σ0 σ) : (∀ s' : (St × Int), y = .inl s' → Fr wr_X11_largestOf σ0 s'.1) ∧ (∀ e : St, y = .inr e → Fr wr_X11_largestOf σ0 e) := by
  unfold f_X11_largestOf_b114 at hf
  replace hf := (jchk_elim hf).2
  rcases jif_x hf with ⟨-, hf⟩ | ⟨-, hf⟩
  · obtain ⟨σ_19, hq, hf⟩ := jbind_elim hf
    have hF := hF.trans ((fr_f_X11_middle hq).mono (P2 := wr_X11_largestOf) (by decide) (by decide))
    replace hf := (jchk_elim hf).2
    rcases jif_x hf with ⟨-, hf⟩ | ⟨-, hf⟩
    · obtain ⟨x1_20, -, hn⟩ := jlet_x hf
      clear hf
      have hf := hn
      clear hn
      cases hf
      exact ⟨fun a e => (by cases e; exact hF), fun _ e => (by cases e)⟩
    · replace hf := (jchk_elim hf).2
      replace hf := (jchk_elim hf).2
      rcases jif_x hf with ⟨-, hf⟩ | ⟨-, hf⟩
      · obtain ⟨x1_21, -, hn⟩ := jlet_x hf
        clear hf
        have hf := hn
        clear hn
        cases hf
        exact ⟨fun a e => (by cases e; exact hF), fun _ e => (by cases e)⟩
      · replace hf := (jchk_elim hf).2
        rcases jif_x hf with ⟨-, hf⟩ | ⟨-, hf⟩
        · obtain ⟨x1_22, -, hn⟩ := jlet_x hf
          clear hf
          have hf := hn
          clear hn
          cases hf
          exact ⟨fun a e => (by cases e; exact hF), fun _ e => (by cases e)⟩
        · replace hf := (jchk_elim hf).2
          replace hf := (jchk_elim hf).2
          rcases jif_x hf with ⟨-, hf⟩ | ⟨-, hf⟩
          · obtain ⟨x1_23, -, hn⟩ := jlet_x hf
            clear hf
            have hf := hn
            clear hn
            cases hf
            exact ⟨fun a e => (by cases e; exact hF), fun _ e => (by cases e)⟩
          · obtain ⟨σ_24, hq, hf⟩ := jbind_elim hf
            have hF := hF.trans ((fr_f_X11_better hq).mono (P2 := wr_X11_largestOf) (by decide) (by decide))
            obtain ⟨x1_25, -, hn⟩ := jlet_x hf
            clear hf
            have hf := hn
            clear hn
            cases hf
            exact ⟨fun a e => (by cases e; exact hF), fun _ e => (by cases e)⟩
  · cases hf
    exact ⟨fun _ e => (by cases e), fun a e => (by cases e; exact hF)⟩
theorem fr_f_X11_largestOf_b0 {σ0 σ : St} {y : St} (hf : f_X11_largestOf_b0 σ = some y) (hF : Fr wr_X11_largestOf σ0 σ) : Fr wr_X11_largestOf σ0 y := by
  unfold f_X11_largestOf_b0 at hf
  replace hf := (jchk_elim hf).2
  obtain ⟨σ_1, ex, hn⟩ := jlet_x hf
  clear hf
  have hf := hn
  clear hn
  have hF := hF.putF ex (by decide)
  obtain ⟨x1_2, -, hn⟩ := jlet_x hf
  clear hf
  have hf := hn
  clear hn
  obtain ⟨q0, he, hf⟩ := jbind_elim hf
  have hJ := jloop_inv (I := (fun q : (St × Int) => Fr wr_X11_largestOf σ0 q.1)) (J := fun q0 => Fr wr_X11_largestOf σ0 q0) (fun q y hy hI => fr_f_X11_largestOf_b7 hy hI) _ _ _ he hF
  have hF := hJ
  obtain ⟨x1_6, -, hn⟩ := jlet_x hf
  clear hf
  have hf := hn
  clear hn
  obtain ⟨q0, he, hf⟩ := jbind_elim hf
  have hJ := jloop_inv (I := (fun q : (St × Int) => Fr wr_X11_largestOf σ0 q.1)) (J := fun q0 => Fr wr_X11_largestOf σ0 q0) (fun q y hy hI => fr_f_X11_largestOf_b58 hy hI) _ _ _ he hF
  have hF := hJ
  obtain ⟨σ_17, hq, hf⟩ := jbind_elim hf
  have hF := hF.trans ((fr_f_X11_ringsOf hq).mono (P2 := wr_X11_largestOf) (by decide) (by decide))
  obtain ⟨x1_18, -, hn⟩ := jlet_x hf
  clear hf
  have hf := hn
  clear hn
  obtain ⟨q0, he, hf⟩ := jbind_elim hf
  have hJ := jloop_inv (I := (fun q : (St × Int) => Fr wr_X11_largestOf σ0 q.1)) (J := fun q0 => Fr wr_X11_largestOf σ0 q0) (fun q y hy hI => fr_f_X11_largestOf_b114 hy hI) _ _ _ he hF
  have hF := hJ
  cases hf
  exact hF
theorem fr_f_X11_largestOf {σ : St} {y : St} (hf : f_X11_largestOf σ = some y) : Fr wr_X11_largestOf σ y := fr_f_X11_largestOf_b0 (by unfold f_X11_largestOf at hf; exact hf) Fr.refl
abbrev wr_X11_largest : Wr := ([21, 22, 23, 24], [(0, 29), (0, 34), (0, 35), (0, 36), (0, 37), (0, 38), (0, 39), (0, 40), (0, 41), (0, 42), (0, 43), (0, 44)])
theorem fr_f_X11_largest_b0 {σ0 σ : St} {x1 : Int} {y : Int × St} (hf : f_X11_largest_b0 σ x1 = some y) (hF : Fr wr_X11_largest σ0 σ) : Fr wr_X11_largest σ0 y.2 := by
  unfold f_X11_largest_b0 at hf
  obtain ⟨r_1, -, hf⟩ := jbind_elim hf
  replace hf := (jchk_elim hf).2
  rcases jif_x hf with ⟨-, hf⟩ | ⟨-, hf⟩
  · cases hf
    exact hF
  · replace hf := (jchk_elim hf).2
    rcases jif_x hf with ⟨-, hf⟩ | ⟨-, hf⟩
    · cases hf
      exact hF
    · replace hf := (jchk_elim hf).2
      rcases jif_x hf with ⟨-, hf⟩ | ⟨-, hf⟩
      · cases hf
        exact hF
      · obtain ⟨σ_2, hq, hf⟩ := jbind_elim hf
        have hF := hF.trans ((fr_f_X11_largestOf hq).mono (P2 := wr_X11_largest) (by decide) (by decide))
        obtain ⟨σ_3, ex, hn⟩ := jlet_x hf
        clear hf
        have hf := hn
        clear hn
        have hF := hF.putF ex (by decide)
        obtain ⟨σ_4, ex, hn⟩ := jlet_x hf
        clear hf
        have hf := hn
        clear hn
        have hF := hF.putF ex (by decide)
        obtain ⟨σ_5, ex, hn⟩ := jlet_x hf
        clear hf
        have hf := hn
        clear hn
        have hF := hF.putF ex (by decide)
        obtain ⟨σ_6, ex, hn⟩ := jlet_x hf
        clear hf
        have hf := hn
        clear hn
        have hF := hF.putF ex (by decide)
        obtain ⟨σ_7, ex, hn⟩ := jlet_x hf
        clear hf
        have hf := hn
        clear hn
        have hF := hF.putF ex (by decide)
        obtain ⟨r_8, -, hf⟩ := jbind_elim hf
        cases hf
        exact hF
theorem fr_f_X11_largest {σ : St} {x1 : Int} {y : Int × St} (hf : f_X11_largest σ x1 = some y) : Fr wr_X11_largest σ y.2 := fr_f_X11_largest_b0 (by unfold f_X11_largest at hf; exact hf) Fr.refl
abbrev wr_X11_sinks : Wr := ([1, 2, 3, 4, 5], [])
theorem fr_f_X11_sinks_b0 {σ0 σ : St} {x1 x2 x3 x4 : Int} {y : Int × St} (hf : f_X11_sinks_b0 σ x1 x2 x3 x4 = some y) (hF : Fr wr_X11_sinks σ0 σ) : Fr wr_X11_sinks σ0 y.2 := by
  unfold f_X11_sinks_b0 at hf
  replace hf := (jchk_elim hf).2
  rcases jif_x hf with ⟨-, hf⟩ | ⟨-, hf⟩
  · cases hf
    exact hF
  · replace hf := (jchk_elim hf).2
    rcases jif_x hf with ⟨-, hf⟩ | ⟨-, hf⟩
    · cases hf
      exact hF
    · replace hf := (jchk_elim hf).2
      rcases jif_x hf with ⟨-, hf⟩ | ⟨-, hf⟩
      · cases hf
        exact hF
      · replace hf := (jchk_elim hf).2
        rcases jif_x hf with ⟨-, hf⟩ | ⟨-, hf⟩
        · cases hf
          exact hF
        · obtain ⟨r_1, -, hf⟩ := jbind_elim hf
          replace hf := (jchk_elim hf).2
          rcases jif_x hf with ⟨-, hf⟩ | ⟨-, hf⟩
          · cases hf
            exact hF
          · obtain ⟨x5_2, -, hn⟩ := jlet_x hf
            clear hf
            have hf := hn
            clear hn
            obtain ⟨q0, -, hf⟩ := jbind_elim hf
            rcases q0 with q0 | q0
            · cases hf
              exact hF
            · obtain ⟨x5_6, -, hn⟩ := jlet_x hf
              clear hf
              have hf := hn
              clear hn
              obtain ⟨q0, -, hf⟩ := jbind_elim hf
              replace hf := (jchk_elim hf).2
              rcases jif_x hf with ⟨-, hf⟩ | ⟨-, hf⟩
              · cases hf
                exact hF
              · replace hf := (jchk_elim hf).2
                obtain ⟨σ_9, ex, hn⟩ := jlet_x hf
                clear hf
                have hf := hn
                clear hn
                have hF := hF.putA ex (by decide)
                replace hf := (jchk_elim hf).2
                obtain ⟨σ_10, ex, hn⟩ := jlet_x hf
                clear hf
                have hf := hn
                clear hn
                have hF := hF.putA ex (by decide)
                replace hf := (jchk_elim hf).2
                obtain ⟨σ_11, ex, hn⟩ := jlet_x hf
                clear hf
                have hf := hn
                clear hn
                have hF := hF.putA ex (by decide)
                replace hf := (jchk_elim hf).2
                obtain ⟨σ_12, ex, hn⟩ := jlet_x hf
                clear hf
                have hf := hn
                clear hn
                have hF := hF.putA ex (by decide)
                replace hf := (jchk_elim hf).2
                obtain ⟨σ_13, ex, hn⟩ := jlet_x hf
                clear hf
                have hf := hn
                clear hn
                have hF := hF.putA ex (by decide)
                cases hf
                exact hF
theorem fr_f_X11_sinks {σ : St} {x1 x2 x3 x4 : Int} {y : Int × St} (hf : f_X11_sinks σ x1 x2 x3 x4 = some y) : Fr wr_X11_sinks σ y.2 := fr_f_X11_sinks_b0 (by unfold f_X11_sinks at hf; exact hf) Fr.refl
abbrev wr_X11_lay : Wr := ([1, 10, 11, 12, 2, 3, 33, 4, 5, 6, 7, 8, 9], [(0, 8)])
theorem fr_f_X11_lay_b29 {σ0 σ : St} {x1 x2 x3 : Int} {y : (St × Int) ⊕ ((St × Int) ⊕ St)} (hf : f_X11_lay_b29 σ x1 x2 x3 = some y) (hF : Fr wr_X11_lay σ0 σ) : (∀ s' : (St × Int), y = .inl s' → Fr wr_X11_lay σ0 s'.1) ∧ (∀ e : (St × Int) ⊕ St, y = .inr e → (∀ a : (St × Int), e = .inl a → Fr wr_X11_lay σ0 a.1) ∧ (∀ a : St, e = .inr (a) → Fr wr_X11_lay σ0 a)) := by
  unfold f_X11_lay_b29 at hf
  replace hf := (jchk_elim hf).2
  rcases jif_x hf with ⟨-, hf⟩ | ⟨-, hf⟩
  · obtain ⟨x4_4, -, hn⟩ := jlet_x hf
    clear hf
    have hf := hn
    clear hn
    replace hf := (jchk_elim hf).2
    replace hf := (jchk_elim hf).2
    replace hf := (jchk_elim hf).2
    replace hf := (jchk_elim hf).2
    obtain ⟨⟨r_5, σ_6⟩, hq, hf⟩ := jbind_elim hf
    have hF := hF.trans ((fr_f_X11_sinks hq).mono (P2 := wr_X11_lay) (by decide) (by decide))
    replace hf := (jchk_elim hf).2
    obtain ⟨σ_7, ex, hn⟩ := jlet_x hf
    clear hf
    have hf := hn
    clear hn
    have hF := hF.putA ex (by decide)
    replace hf := (jchk_elim hf).2
    replace hf := (jchk_elim hf).2
    rcases jif_x hf with ⟨-, hf⟩ | ⟨-, hf⟩
    · cases hf
      exact ⟨fun _ e => (by cases e), fun a e => (by cases e; exact ⟨fun a e => (by first | (cases e; exact hF) | cases e), fun a e => (by first | (cases e; exact hF) | cases e)⟩)⟩
    · obtain ⟨x3_8, -, hn⟩ := jlet_x hf
      clear hf
      have hf := hn
      clear hn
      cases hf
      exact ⟨fun a e => (by cases e; exact hF), fun _ e => (by cases e)⟩
  · cases hf
    exact ⟨fun _ e => (by cases e), fun a e => (by cases e; exact ⟨fun a e => (by first | (cases e; exact hF) | cases e), fun a e => (by first | (cases e; exact hF) | cases e)⟩)⟩
theorem fr_f_X11_lay_b103 {σ0 σ : St} {x3 x5 : Int} {y : (St × Int) ⊕ St} (hf : f_X11_lay_b103 σ x3 x5 = some y) (hF : Fr wr_X11_lay σ0 σ) : (∀ s' : (St × Int), y = .inl s' → Fr wr_X11_lay σ0 s'.1) ∧ (∀ e : St, y = .inr e → Fr wr_X11_lay σ0 e) := by
  unfold f_X11_lay_b103 at hf
  replace hf := (jchk_elim hf).2
  rcases jif_x hf with ⟨-, hf⟩ | ⟨-, hf⟩
  · replace hf := (jchk_elim hf).2
    replace hf := (jchk_elim hf).2
    obtain ⟨σ_12, ex, hn⟩ := jlet_x hf
    clear hf
    have hf := hn
    clear hn
    have hF := hF.putA ex (by decide)
    obtain ⟨x5_13, -, hn⟩ := jlet_x hf
    clear hf
    have hf := hn
    clear hn
    cases hf
    exact ⟨fun a e => (by cases e; exact hF), fun _ e => (by cases e)⟩
  · cases hf
    exact ⟨fun _ e => (by cases e), fun a e => (by cases e; exact hF)⟩
theorem fr_f_X11_lay_b141 {σ0 σ : St} {x2 x3 : Int} {y : (St × Int) ⊕ St} (hf : f_X11_lay_b141 σ x2 x3 = some y) (hF : Fr wr_X11_lay σ0 σ) : (∀ s' : (St × Int), y = .inl s' → Fr wr_X11_lay σ0 s'.1) ∧ (∀ e : St, y = .inr e → Fr wr_X11_lay σ0 e) := by
  unfold f_X11_lay_b141 at hf
  replace hf := (jchk_elim hf).2
  rcases jif_x hf with ⟨-, hf⟩ | ⟨-, hf⟩
  · replace hf := (jchk_elim hf).2
    replace hf := (jchk_elim hf).2
    obtain ⟨σ_17, ex, hn⟩ := jlet_x hf
    clear hf
    have hf := hn
    clear hn
    have hF := hF.putA ex (by decide)
    obtain ⟨x3_18, -, hn⟩ := jlet_x hf
    clear hf
    have hf := hn
    clear hn
    cases hf
    exact ⟨fun a e => (by cases e; exact hF), fun _ e => (by cases e)⟩
  · cases hf
    exact ⟨fun _ e => (by cases e), fun a e => (by cases e; exact hF)⟩
theorem fr_f_X11_lay_b170 {σ0 σ : St} {x2 x3 : Int} {y : (St × Int) ⊕ St} (hf : f_X11_lay_b170 σ x2 x3 = some y) (hF : Fr wr_X11_lay σ0 σ) : (∀ s' : (St × Int), y = .inl s' → Fr wr_X11_lay σ0 s'.1) ∧ (∀ e : St, y = .inr e → Fr wr_X11_lay σ0 e) := by
  unfold f_X11_lay_b170 at hf
  replace hf := (jchk_elim hf).2
  rcases jif_x hf with ⟨-, hf⟩ | ⟨-, hf⟩
  · replace hf := (jchk_elim hf).2
    replace hf := (jchk_elim hf).2
    obtain ⟨σ_22, ex, hn⟩ := jlet_x hf
    clear hf
    have hf := hn
    clear hn
    have hF := hF.putA ex (by decide)
    obtain ⟨x3_23, -, hn⟩ := jlet_x hf
    clear hf
    have hf := hn
    clear hn
    cases hf
    exact ⟨fun a e => (by cases e; exact hF), fun _ e => (by cases e)⟩
  · cases hf
    exact ⟨fun _ e => (by cases e), fun a e => (by cases e; exact hF)⟩
theorem fr_f_X11_lay_b0 {σ0 σ : St} {x1 : Int} {y : Int × St} (hf : f_X11_lay_b0 σ x1 = some y) (hF : Fr wr_X11_lay σ0 σ) : Fr wr_X11_lay σ0 y.2 := by
  unfold f_X11_lay_b0 at hf
  obtain ⟨r_1, -, hf⟩ := jbind_elim hf
  replace hf := (jchk_elim hf).2
  rcases jif_x hf with ⟨-, hf⟩ | ⟨-, hf⟩
  · cases hf
    exact hF
  · replace hf := (jchk_elim hf).2
    replace hf := (jchk_elim hf).2
    rcases jif_x hf with ⟨-, hf⟩ | ⟨-, hf⟩
    · cases hf
      exact hF
    · replace hf := (jchk_elim hf).2
      obtain ⟨x2_2, -, hn⟩ := jlet_x hf
      clear hf
      have hf := hn
      clear hn
      obtain ⟨x3_3, -, hn⟩ := jlet_x hf
      clear hf
      have hf := hn
      clear hn
      obtain ⟨q0, he, hf⟩ := jbind_elim hf
      have hJ := jloop_inv (I := (fun q : (St × Int) => Fr wr_X11_lay σ0 q.1)) (J := fun q0 => (∀ a : (St × Int), q0 = .inl a → Fr wr_X11_lay σ0 a.1) ∧ (∀ a : St, q0 = .inr (a) → Fr wr_X11_lay σ0 a)) (fun q y hy hI => fr_f_X11_lay_b29 hy hI) _ _ _ he hF
      rcases q0 with q0 | q0
      · have hF := hJ.1 _ rfl
        obtain ⟨σ_9, x3_10⟩ := q0
        obtain ⟨x5_11, -, hn⟩ := jlet_x hf
        clear hf
        have hf := hn
        clear hn
        obtain ⟨q0, he, hf⟩ := jbind_elim hf
        have hJ := jloop_inv (I := (fun q : (St × Int) => Fr wr_X11_lay σ0 q.1)) (J := fun q0 => Fr wr_X11_lay σ0 q0) (fun q y hy hI => fr_f_X11_lay_b103 hy hI) _ _ _ he hF
        have hF := hJ
        cases hf
        exact hF
      · have hF := hJ.2 _ rfl
        obtain ⟨x3_16, -, hn⟩ := jlet_x hf
        clear hf
        have hf := hn
        clear hn
        obtain ⟨q0, he, hf⟩ := jbind_elim hf
        have hJ := jloop_inv (I := (fun q : (St × Int) => Fr wr_X11_lay σ0 q.1)) (J := fun q0 => Fr wr_X11_lay σ0 q0) (fun q y hy hI => fr_f_X11_lay_b141 hy hI) _ _ _ he hF
        have hF := hJ
        obtain ⟨σ_20, hq, hf⟩ := jbind_elim hf
        have hF := hF.trans ((fr_f_X11_keeps hq).mono (P2 := wr_X11_lay) (by decide) (by decide))
        obtain ⟨x3_21, -, hn⟩ := jlet_x hf
        clear hf
        have hf := hn
        clear hn
        obtain ⟨q0, he, hf⟩ := jbind_elim hf
        have hJ := jloop_inv (I := (fun q : (St × Int) => Fr wr_X11_lay σ0 q.1)) (J := fun q0 => Fr wr_X11_lay σ0 q0) (fun q y hy hI => fr_f_X11_lay_b170 hy hI) _ _ _ he hF
        have hF := hJ
        cases hf
        exact hF
theorem fr_f_X11_lay {σ : St} {x1 : Int} {y : Int × St} (hf : f_X11_lay σ x1 = some y) : Fr wr_X11_lay σ y.2 := fr_f_X11_lay_b0 (by unfold f_X11_lay at hf; exact hf) Fr.refl
abbrev wr_X11_line_ : Wr := ([32], [])
theorem fr_f_X11_line__b0 {σ0 σ : St} {x1 x2 x3 x4 x5 x6 : Int} {y : Int × St} (hf : f_X11_line__b0 σ x1 x2 x3 x4 x5 x6 = some y) (hF : Fr wr_X11_line_ σ0 σ) : Fr wr_X11_line_ σ0 y.2 := by
  unfold f_X11_line__b0 at hf
  obtain ⟨r_1, -, hf⟩ := jbind_elim hf
  replace hf := (jchk_elim hf).2
  rcases jif_x hf with ⟨-, hf⟩ | ⟨-, hf⟩
  · cases hf
    exact hF
  · replace hf := (jchk_elim hf).2
    rcases jif_x hf with ⟨-, hf⟩ | ⟨-, hf⟩
    · cases hf
      exact hF
    · replace hf := (jchk_elim hf).2
      replace hf := (jchk_elim hf).2
      rcases jif_x hf with ⟨-, hf⟩ | ⟨-, hf⟩
      · obtain ⟨x7_2, -, hn⟩ := jlet_x hf
        clear hf
        have hf := hn
        clear hn
        replace hf := (jchk_elim hf).2
        obtain ⟨σ_3, ex, hn⟩ := jlet_x hf
        clear hf
        have hf := hn
        clear hn
        have hF := hF.putA ex (by decide)
        replace hf := (jchk_elim hf).2
        obtain ⟨σ_4, ex, hn⟩ := jlet_x hf
        clear hf
        have hf := hn
        clear hn
        have hF := hF.putA ex (by decide)
        replace hf := (jchk_elim hf).2
        obtain ⟨σ_5, ex, hn⟩ := jlet_x hf
        clear hf
        have hf := hn
        clear hn
        have hF := hF.putA ex (by decide)
        replace hf := (jchk_elim hf).2
        obtain ⟨σ_6, ex, hn⟩ := jlet_x hf
        clear hf
        have hf := hn
        clear hn
        have hF := hF.putA ex (by decide)
        cases hf
        exact hF
      · cases hf
        exact hF
theorem fr_f_X11_line_ {σ : St} {x1 x2 x3 x4 x5 x6 : Int} {y : Int × St} (hf : f_X11_line_ σ x1 x2 x3 x4 x5 x6 = some y) : Fr wr_X11_line_ σ y.2 := fr_f_X11_line__b0 (by unfold f_X11_line_ at hf; exact jzw_e hf) Fr.refl
abbrev wr_X11_tree : Wr := ([25, 26, 27], [(0, 45)])
theorem fr_f_X11_tree_b7 {σ0 σ : St} {x1 : Int} {y : (St × Int) ⊕ St} (hf : f_X11_tree_b7 σ x1 = some y) (hF : Fr wr_X11_tree σ0 σ) : (∀ s' : (St × Int), y = .inl s' → Fr wr_X11_tree σ0 s'.1) ∧ (∀ e : St, y = .inr e → Fr wr_X11_tree σ0 e) := by
  unfold f_X11_tree_b7 at hf
  replace hf := (jchk_elim hf).2
  rcases jif_x hf with ⟨-, hf⟩ | ⟨-, hf⟩
  · replace hf := (jchk_elim hf).2
    obtain ⟨σ_3, ex, hn⟩ := jlet_x hf
    clear hf
    have hf := hn
    clear hn
    have hF := hF.putA ex (by decide)
    obtain ⟨x1_4, -, hn⟩ := jlet_x hf
    clear hf
    have hf := hn
    clear hn
    cases hf
    exact ⟨fun a e => (by cases e; exact hF), fun _ e => (by cases e)⟩
  · cases hf
    exact ⟨fun _ e => (by cases e), fun a e => (by cases e; exact hF)⟩
theorem fr_f_X11_tree_b197 {σ0 σ : St} {x1 x2 x4 x5 : Int} {y : (St × Int) ⊕ St} (hf : f_X11_tree_b197 σ x1 x2 x4 x5 = some y) (hF : Fr wr_X11_tree σ0 σ) : (∀ s' : (St × Int), y = .inl s' → Fr wr_X11_tree σ0 s'.1) ∧ (∀ e : St, y = .inr e → Fr wr_X11_tree σ0 e) := by
  unfold f_X11_tree_b197 at hf
  replace hf := (jchk_elim hf).2
  rcases jif_x hf with ⟨-, hf⟩ | ⟨-, hf⟩
  · replace hf := (jchk_elim hf).2
    replace hf := (jchk_elim hf).2
    rcases jif_x hf with ⟨-, hf⟩ | ⟨-, hf⟩
    · replace hf := (jchk_elim hf).2
      replace hf := (jchk_elim hf).2
      obtain ⟨σ_34, ex, hn⟩ := jlet_x hf
      clear hf
      have hf := hn
      clear hn
      have hF := hF.putA ex (by decide)
      obtain ⟨x5_35, -, hn⟩ := jlet_x hf
      clear hf
      have hf := hn
      clear hn
      cases hf
      exact ⟨fun a e => (by cases e; exact hF), fun _ e => (by cases e)⟩
    · obtain ⟨x5_33, -, hn⟩ := jlet_x hf
      clear hf
      have hf := hn
      clear hn
      cases hf
      exact ⟨fun a e => (by cases e; exact hF), fun _ e => (by cases e)⟩
  · cases hf
    exact ⟨fun _ e => (by cases e), fun a e => (by cases e; exact hF)⟩
theorem fr_f_X11_tree_b148 {σ0 σ : St} {x2 x3 t0 : Int} {y : (St × Int) ⊕ St} (hf : f_X11_tree_b148 σ x2 x3 t0 = some y) (hF : Fr wr_X11_tree σ0 σ) : (∀ s' : (St × Int), y = .inl s' → Fr wr_X11_tree σ0 s'.1) ∧ (∀ e : St, y = .inr e → Fr wr_X11_tree σ0 e) := by
  unfold f_X11_tree_b148 at hf
  obtain ⟨x1_27, -, hn⟩ := jlet_x hf
  clear hf
  have hf := hn
  clear hn
  replace hf := (jchk_elim hf).2
  rcases jif_x hf with ⟨-, hf⟩ | ⟨-, hf⟩
  · cases hf
    exact ⟨fun a e => (by cases e; exact hF), fun _ e => (by cases e)⟩
  · replace hf := (jchk_elim hf).2
    obtain ⟨σ_28, ex, hn⟩ := jlet_x hf
    clear hf
    have hf := hn
    clear hn
    have hF := hF.putA ex (by decide)
    replace hf := (jchk_elim hf).2
    obtain ⟨σ_29, ex, hn⟩ := jlet_x hf
    clear hf
    have hf := hn
    clear hn
    have hF := hF.putA ex (by decide)
    obtain ⟨σ_30, ex, hn⟩ := jlet_x hf
    clear hf
    have hf := hn
    clear hn
    have hF := hF.putF ex (by decide)
    replace hf := (jchk_elim hf).2
    obtain ⟨x4_31, -, hn⟩ := jlet_x hf
    clear hf
    have hf := hn
    clear hn
    obtain ⟨x5_32, -, hn⟩ := jlet_x hf
    clear hf
    have hf := hn
    clear hn
    obtain ⟨q0, he, hf⟩ := jbind_elim hf
    have hJ := jloop_inv (I := (fun q : (St × Int) => Fr wr_X11_tree σ0 q.1)) (J := fun q0 => Fr wr_X11_tree σ0 q0) (fun q y hy hI => fr_f_X11_tree_b197 hy hI) _ _ _ he hF
    have hF := hJ
    cases hf
    exact ⟨fun a e => (by cases e; exact hF), fun _ e => (by cases e)⟩
theorem fr_f_X11_tree_b28 {σ0 σ : St} {x1 : Int} {y : (St × Int) ⊕ St} (hf : f_X11_tree_b28 σ x1 = some y) (hF : Fr wr_X11_tree σ0 σ) : (∀ s' : (St × Int), y = .inl s' → Fr wr_X11_tree σ0 s'.1) ∧ (∀ e : St, y = .inr e → Fr wr_X11_tree σ0 e) := by
  unfold f_X11_tree_b28 at hf
  replace hf := (jchk_elim hf).2
  rcases jif_x hf with ⟨-, hf⟩ | ⟨-, hf⟩
  · cases hf
    exact ⟨fun _ e => (by cases e), fun a e => (by cases e; exact hF)⟩
  · obtain ⟨x2_7, -, hn⟩ := jlet_x hf
    clear hf
    have hf := hn
    clear hn
    obtain ⟨x3_8, -, hn⟩ := jlet_x hf
    clear hf
    have hf := hn
    clear hn
    obtain ⟨x4_9, -, hn⟩ := jlet_x hf
    clear hf
    have hf := hn
    clear hn
    obtain ⟨q0, -, hf⟩ := jbind_elim hf
    obtain ⟨x2_25, x3_26⟩ := q0
    replace hf := (jchk_elim hf).2
    rcases jif_x hf with ⟨-, hf⟩ | ⟨-, hf⟩
    · exact fr_f_X11_tree_b148 hf hF
    · exact fr_f_X11_tree_b148 hf hF
theorem fr_f_X11_tree_b0 {σ0 σ : St} {y : Int × St} (hf : f_X11_tree_b0 σ = some y) (hF : Fr wr_X11_tree σ0 σ) : Fr wr_X11_tree σ0 y.2 := by
  unfold f_X11_tree_b0 at hf
  obtain ⟨σ_1, ex, hn⟩ := jlet_x hf
  clear hf
  have hf := hn
  clear hn
  have hF := hF.putF ex (by decide)
  obtain ⟨x1_2, -, hn⟩ := jlet_x hf
  clear hf
  have hf := hn
  clear hn
  obtain ⟨q0, he, hf⟩ := jbind_elim hf
  have hJ := jloop_inv (I := (fun q : (St × Int) => Fr wr_X11_tree σ0 q.1)) (J := fun q0 => Fr wr_X11_tree σ0 q0) (fun q y hy hI => fr_f_X11_tree_b7 hy hI) _ _ _ he hF
  have hF := hJ
  obtain ⟨x1_6, -, hn⟩ := jlet_x hf
  clear hf
  have hf := hn
  clear hn
  obtain ⟨q0, he, hf⟩ := jbind_elim hf
  have hJ := jloop_inv (I := (fun q : (St × Int) => Fr wr_X11_tree σ0 q.1)) (J := fun q0 => Fr wr_X11_tree σ0 q0) (fun q y hy hI => fr_f_X11_tree_b28 hy hI) _ _ _ he hF
  have hF := hJ
  cases hf
  exact hF
theorem fr_f_X11_tree {σ : St} {y : Int × St} (hf : f_X11_tree σ = some y) : Fr wr_X11_tree σ y.2 := fr_f_X11_tree_b0 (by unfold f_X11_tree at hf; exact hf) Fr.refl
abbrev wr_X11_pipe : Wr := ([25, 26, 27], [(0, 45)])
theorem fr_f_X11_pipe_b0 {σ0 σ : St} {x1 x2 : Int} {y : Int × St} (hf : f_X11_pipe_b0 σ x1 x2 = some y) (hF : Fr wr_X11_pipe σ0 σ) : Fr wr_X11_pipe σ0 y.2 := by
  unfold f_X11_pipe_b0 at hf
  obtain ⟨⟨r_1, σ_2⟩, hq, hf⟩ := jbind_elim hf
  have hF := hF.trans ((fr_f_X11_tree hq).mono (P2 := wr_X11_pipe) (by decide) (by decide))
  replace hf := (jchk_elim hf).2
  rcases jif_x hf with ⟨-, hf⟩ | ⟨-, hf⟩
  · replace hf := (jchk_elim hf).2
    rcases jif_x hf with ⟨-, hf⟩ | ⟨-, hf⟩
    · cases hf
      exact hF
    · replace hf := (jchk_elim hf).2
      rcases jif_x hf with ⟨-, hf⟩ | ⟨-, hf⟩
      · replace hf := (jchk_elim hf).2
        cases hf
        exact hF
      · replace hf := (jchk_elim hf).2
        rcases jif_x hf with ⟨-, hf⟩ | ⟨-, hf⟩
        · replace hf := (jchk_elim hf).2
          cases hf
          exact hF
        · replace hf := (jchk_elim hf).2
          rcases jif_x hf with ⟨-, hf⟩ | ⟨-, hf⟩
          · replace hf := (jchk_elim hf).2
            replace hf := (jchk_elim hf).2
            obtain ⟨r_3, -, hf⟩ := jbind_elim hf
            cases hf
            exact hF
          · cases hf
            exact hF
  · cases hf
    exact hF
theorem fr_f_X11_pipe {σ : St} {x1 x2 : Int} {y : Int × St} (hf : f_X11_pipe σ x1 x2 = some y) : Fr wr_X11_pipe σ y.2 := fr_f_X11_pipe_b0 (by unfold f_X11_pipe at hf; exact hf) Fr.refl
abbrev wr_X11_rectangle : Wr := ([10, 11, 12, 6, 7, 8, 9], [(0, 0), (0, 1), (0, 8)])
theorem fr_f_X11_rectangle_b0 {σ0 σ : St} {x1 x2 : Int} {y : Int × St} (hf : f_X11_rectangle_b0 σ x1 x2 = some y) (hF : Fr wr_X11_rectangle σ0 σ) : Fr wr_X11_rectangle σ0 y.2 := by
  unfold f_X11_rectangle_b0 at hf
  replace hf := (jchk_elim hf).2
  rcases jif_x hf with ⟨-, hf⟩ | ⟨-, hf⟩
  · cases hf
    exact hF
  · replace hf := (jchk_elim hf).2
    rcases jif_x hf with ⟨-, hf⟩ | ⟨-, hf⟩
    · cases hf
      exact hF
    · replace hf := (jchk_elim hf).2
      rcases jif_x hf with ⟨-, hf⟩ | ⟨-, hf⟩
      · cases hf
        exact hF
      · replace hf := (jchk_elim hf).2
        rcases jif_x hf with ⟨-, hf⟩ | ⟨-, hf⟩
        · cases hf
          exact hF
        · obtain ⟨x3_1, -, hn⟩ := jlet_x hf
          clear hf
          have hf := hn
          clear hn
          obtain ⟨q0, -, hf⟩ := jbind_elim hf
          rcases q0 with q0 | q0
          · cases hf
            exact hF
          · obtain ⟨σ_4, hq, hf⟩ := jbind_elim hf
            have hF := hF.trans ((fr_f_X11_keeps hq).mono (P2 := wr_X11_rectangle) (by decide) (by decide))
            obtain ⟨σ_5, ex, hn⟩ := jlet_x hf
            clear hf
            have hf := hn
            clear hn
            have hF := hF.putF ex (by decide)
            obtain ⟨σ_6, ex, hn⟩ := jlet_x hf
            clear hf
            have hf := hn
            clear hn
            have hF := hF.putF ex (by decide)
            cases hf
            exact hF
theorem fr_f_X11_rectangle {σ : St} {x1 x2 : Int} {y : Int × St} (hf : f_X11_rectangle σ x1 x2 = some y) : Fr wr_X11_rectangle σ y.2 := fr_f_X11_rectangle_b0 (by unfold f_X11_rectangle at hf; exact jzw_e hf) Fr.refl
abbrev wr_X11_ring : Wr := ([21, 22, 23, 24], [(0, 29)])
theorem fr_f_X11_ring_b0 {σ0 σ : St} {x1 : Int} {y : Int × St} (hf : f_X11_ring_b0 σ x1 = some y) (hF : Fr wr_X11_ring σ0 σ) : Fr wr_X11_ring σ0 y.2 := by
  unfold f_X11_ring_b0 at hf
  obtain ⟨σ_1, hq, hf⟩ := jbind_elim hf
  have hF := hF.trans ((fr_f_X11_ringsOf hq).mono (P2 := wr_X11_ring) (by decide) (by decide))
  replace hf := (jchk_elim hf).2
  rcases jif_x hf with ⟨-, hf⟩ | ⟨-, hf⟩
  · cases hf
    exact hF
  · replace hf := (jchk_elim hf).2
    rcases jif_x hf with ⟨-, hf⟩ | ⟨-, hf⟩
    · replace hf := (jchk_elim hf).2
      cases hf
      exact hF
    · cases hf
      exact hF
theorem fr_f_X11_ring {σ : St} {x1 : Int} {y : Int × St} (hf : f_X11_ring σ x1 = some y) : Fr wr_X11_ring σ y.2 := fr_f_X11_ring_b0 (by unfold f_X11_ring at hf; exact hf) Fr.refl
abbrev wr_X11_rings : Wr := ([21, 22, 23, 24], [(0, 29)])
theorem fr_f_X11_rings_b0 {σ0 σ : St} {y : Int × St} (hf : f_X11_rings_b0 σ = some y) (hF : Fr wr_X11_rings σ0 σ) : Fr wr_X11_rings σ0 y.2 := by
  unfold f_X11_rings_b0 at hf
  obtain ⟨σ_1, hq, hf⟩ := jbind_elim hf
  have hF := hF.trans ((fr_f_X11_ringsOf hq).mono (P2 := wr_X11_rings) (by decide) (by decide))
  cases hf
  exact hF
theorem fr_f_X11_rings {σ : St} {y : Int × St} (hf : f_X11_rings σ = some y) : Fr wr_X11_rings σ y.2 := fr_f_X11_rings_b0 (by unfold f_X11_rings at hf; exact hf) Fr.refl
abbrev wr_X11_round : Wr := ([21, 22, 23, 24], [(0, 29), (0, 34), (0, 35), (0, 36), (0, 37), (0, 38)])
theorem fr_f_X11_round_b0 {σ0 σ : St} {x1 x2 : Int} {y : Int × St} (hf : f_X11_round_b0 σ x1 x2 = some y) (hF : Fr wr_X11_round σ0 σ) : Fr wr_X11_round σ0 y.2 := by
  unfold f_X11_round_b0 at hf
  obtain ⟨σ_1, hq, hf⟩ := jbind_elim hf
  have hF := hF.trans ((fr_f_X11_ringsOf hq).mono (P2 := wr_X11_round) (by decide) (by decide))
  replace hf := (jchk_elim hf).2
  rcases jif_x hf with ⟨-, hf⟩ | ⟨-, hf⟩
  · cases hf
    exact hF
  · replace hf := (jchk_elim hf).2
    rcases jif_x hf with ⟨-, hf⟩ | ⟨-, hf⟩
    · obtain ⟨σ_2, hq, hf⟩ := jbind_elim hf
      have hF := hF.trans ((fr_f_X11_middle hq).mono (P2 := wr_X11_round) (by decide) (by decide))
      obtain ⟨r_3, -, hf⟩ := jbind_elim hf
      cases hf
      exact hF
    · cases hf
      exact hF
theorem fr_f_X11_round {σ : St} {x1 x2 : Int} {y : Int × St} (hf : f_X11_round σ x1 x2 = some y) : Fr wr_X11_round σ y.2 := fr_f_X11_round_b0 (by unfold f_X11_round at hf; exact hf) Fr.refl
abbrev wr_X11_season : Wr := ([], [(0, 2)])
theorem fr_f_X11_season_b0 {σ0 σ : St} {x1 : Int} {y : Int × St} (hf : f_X11_season_b0 σ x1 = some y) (hF : Fr wr_X11_season σ0 σ) : Fr wr_X11_season σ0 y.2 := by
  unfold f_X11_season_b0 at hf
  replace hf := (jchk_elim hf).2
  rcases jif_x hf with ⟨-, hf⟩ | ⟨-, hf⟩
  · cases hf
    exact hF
  · replace hf := (jchk_elim hf).2
    rcases jif_x hf with ⟨-, hf⟩ | ⟨-, hf⟩
    · cases hf
      exact hF
    · obtain ⟨x2_1, -, hn⟩ := jlet_x hf
      clear hf
      have hf := hn
      clear hn
      obtain ⟨σ_2, ex, hn⟩ := jlet_x hf
      clear hf
      have hf := hn
      clear hn
      have hF := hF.putF ex (by decide)
      cases hf
      exact hF
theorem fr_f_X11_season {σ : St} {x1 : Int} {y : Int × St} (hf : f_X11_season σ x1 = some y) : Fr wr_X11_season σ y.2 := fr_f_X11_season_b0 (by unfold f_X11_season at hf; exact hf) Fr.refl
abbrev wr_X11_sheet : Wr := ([31, 32], [])
theorem fr_f_X11_sheet_b30 {σ0 σ : St} {x1 x3 : Int} {y : (St × Int) ⊕ St} (hf : f_X11_sheet_b30 σ x1 x3 = some y) (hF : Fr wr_X11_sheet σ0 σ) : (∀ s' : (St × Int), y = .inl s' → Fr wr_X11_sheet σ0 s'.1) ∧ (∀ e : St, y = .inr e → Fr wr_X11_sheet σ0 e) := by
  unfold f_X11_sheet_b30 at hf
  replace hf := (jchk_elim hf).2
  rcases jif_x hf with ⟨-, hf⟩ | ⟨-, hf⟩
  · replace hf := (jchk_elim hf).2
    obtain ⟨σ_4, ex, hn⟩ := jlet_x hf
    clear hf
    have hf := hn
    clear hn
    have hF := hF.putA ex (by decide)
    obtain ⟨x3_5, -, hn⟩ := jlet_x hf
    clear hf
    have hf := hn
    clear hn
    cases hf
    exact ⟨fun a e => (by cases e; exact hF), fun _ e => (by cases e)⟩
  · cases hf
    exact ⟨fun _ e => (by cases e), fun a e => (by cases e; exact hF)⟩
theorem fr_f_X11_sheet_b0 {σ0 σ : St} {x1 x2 : Int} {y : Int × St} (hf : f_X11_sheet_b0 σ x1 x2 = some y) (hF : Fr wr_X11_sheet σ0 σ) : Fr wr_X11_sheet σ0 y.2 := by
  unfold f_X11_sheet_b0 at hf
  obtain ⟨r_1, -, hf⟩ := jbind_elim hf
  replace hf := (jchk_elim hf).2
  rcases jif_x hf with ⟨-, hf⟩ | ⟨-, hf⟩
  · cases hf
    exact hF
  · replace hf := (jchk_elim hf).2
    rcases jif_x hf with ⟨-, hf⟩ | ⟨-, hf⟩
    · cases hf
      exact hF
    · replace hf := (jchk_elim hf).2
      rcases jif_x hf with ⟨-, hf⟩ | ⟨-, hf⟩
      · cases hf
        exact hF
      · replace hf := (jchk_elim hf).2
        obtain ⟨σ_2, ex, hn⟩ := jlet_x hf
        clear hf
        have hf := hn
        clear hn
        have hF := hF.putA ex (by decide)
        obtain ⟨x3_3, -, hn⟩ := jlet_x hf
        clear hf
        have hf := hn
        clear hn
        obtain ⟨q0, he, hf⟩ := jbind_elim hf
        have hJ := jloop_inv (I := (fun q : (St × Int) => Fr wr_X11_sheet σ0 q.1)) (J := fun q0 => Fr wr_X11_sheet σ0 q0) (fun q y hy hI => fr_f_X11_sheet_b30 hy hI) _ _ _ he hF
        have hF := hJ
        cases hf
        exact hF
theorem fr_f_X11_sheet {σ : St} {x1 x2 : Int} {y : Int × St} (hf : f_X11_sheet σ x1 x2 = some y) : Fr wr_X11_sheet σ y.2 := fr_f_X11_sheet_b0 (by unfold f_X11_sheet at hf; exact jzw_e hf) Fr.refl
abbrev wr_X11_sink : Wr := ([1, 10, 11, 12, 2, 3, 4, 5, 6, 7, 8, 9], [(0, 8)])
theorem fr_f_X11_sink_b0 {σ0 σ : St} {x1 x2 x3 x4 : Int} {y : Int × St} (hf : f_X11_sink_b0 σ x1 x2 x3 x4 = some y) (hF : Fr wr_X11_sink σ0 σ) : Fr wr_X11_sink σ0 y.2 := by
  unfold f_X11_sink_b0 at hf
  obtain ⟨⟨r_1, σ_2⟩, hq, hf⟩ := jbind_elim hf
  have hF := hF.trans ((fr_f_X11_sinks hq).mono (P2 := wr_X11_sink) (by decide) (by decide))
  obtain ⟨x5_3, -, hn⟩ := jlet_x hf
  clear hf
  have hf := hn
  clear hn
  replace hf := (jchk_elim hf).2
  rcases jif_x hf with ⟨-, hf⟩ | ⟨-, hf⟩
  · cases hf
    exact hF
  · replace hf := (jchk_elim hf).2
    obtain ⟨σ_4, ex, hn⟩ := jlet_x hf
    clear hf
    have hf := hn
    clear hn
    have hF := hF.putA ex (by decide)
    obtain ⟨σ_5, hq, hf⟩ := jbind_elim hf
    have hF := hF.trans ((fr_f_X11_keeps hq).mono (P2 := wr_X11_sink) (by decide) (by decide))
    replace hf := (jchk_elim hf).2
    obtain ⟨σ_6, ex, hn⟩ := jlet_x hf
    clear hf
    have hf := hn
    clear hn
    have hF := hF.putA ex (by decide)
    cases hf
    exact hF
theorem fr_f_X11_sink {σ : St} {x1 x2 x3 x4 : Int} {y : Int × St} (hf : f_X11_sink σ x1 x2 x3 x4 = some y) : Fr wr_X11_sink σ y.2 := fr_f_X11_sink_b0 (by unfold f_X11_sink at hf; exact hf) Fr.refl
abbrev wr_X11_undo : Wr := ([1, 2, 3, 4, 5], [(0, 0), (0, 1), (0, 8)])
theorem fr_f_X11_undo_b0 {σ0 σ : St} {y : Int × St} (hf : f_X11_undo_b0 σ = some y) (hF : Fr wr_X11_undo σ0 σ) : Fr wr_X11_undo σ0 y.2 := by
  unfold f_X11_undo_b0 at hf
  replace hf := (jchk_elim hf).2
  rcases jif_x hf with ⟨-, hf⟩ | ⟨-, hf⟩
  · cases hf
    exact hF
  · obtain ⟨σ_1, hq, hf⟩ := jbind_elim hf
    have hF := hF.trans ((fr_f_X11_brings hq).mono (P2 := wr_X11_undo) (by decide) (by decide))
    cases hf
    exact hF
theorem fr_f_X11_undo {σ : St} {y : Int × St} (hf : f_X11_undo σ = some y) : Fr wr_X11_undo σ y.2 := fr_f_X11_undo_b0 (by unfold f_X11_undo at hf; exact hf) Fr.refl
