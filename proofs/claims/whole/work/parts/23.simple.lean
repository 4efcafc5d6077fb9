/-! ===== the pure side 3: the wells of both sides; simple readers ===== -/
def Rw (σC σM : St) : Prop := WF (σC 1 0) (σC 1 1) (σC 5) (σC 3) (σC 4) (σC 6) ∧ (0 ≤ σC 1 2 ∧ σC 1 2 ≤ 3) ∧ σM 0 0 = σC 1 0 ∧ σM 0 1 = σC 1 1 ∧ σM 0 2 = σC 1 2 ∧ RM σM (σC 5) (σC 3) (σC 4) (σC 6) ∧ σC 1 3 = (ct (hC_ σC) 24 : Nat) ∧ σC 1 4 = (ct (pC σC) 24 : Nat) ∧ ∀ w, w < 24 → pC σC w = true → σC 2 (ct (pC σC) w) = (w : Int)
theorem ix24 (w : Int) : (w < 0 ∨ 24 ≤ w) ∨ ∃ k : Nat, k < 24 ∧ w = (k : Int) := by
  by_cases h : w < 0 ∨ 24 ≤ w
  · exact Or.inl h
  · exact Or.inr ⟨w.toNat, by omega, by omega⟩
theorem Rw.rng {σC σM : St} (h : Rw σC σM) {w : Nat} (hw : w < 24) : (-1 ≤ σC 5 w ∧ σC 5 w ≤ 4) ∧ (0 ≤ σC 6 w ∧ σC 6 w ≤ 1000000) ∧ (0 ≤ σC 3 w ∧ σC 3 w ≤ 1000) ∧ (0 ≤ σC 4 w ∧ σC 4 w ≤ 1000) := by
  have h1 := h.1.rng hw
  have h2 := h.1.1
  have h3 := h.1.2.1
  omega
theorem Rw.cnC {σC σM : St} (h : Rw σC σM) {w : Nat} (hw : w < 24) : f_X9_isCounted σC (w : Int) = some (bI (pC σC w)) := cnC_w hw (h.rng hw).1
theorem Rw.cnM {σC σM : St} (h : Rw σC σM) {w : Nat} (hw : w < 24) : f_X11_counts σM (w : Int) = some (bI (pC σC w)) := by
  rw [cnM_w h.2.2.2.2.2.1 hw (h.rng hw).1, h.2.2.2.2.1]
  rfl
/-- the same on both sides, and an answer -/
theorem both {α : Type} {a b : Option α} (h : b = a) (h2 : ∃ v, a = some v) : ∃ v, a = some v ∧ b = some v := by
  obtain ⟨v, e⟩ := h2
  exact ⟨v, e, h.trans e⟩
theorem well_eq {σC σM : St} (h : Rw σC σM) {w x : Int} (hw : inI w) (hx : inI x) : ∃ v, f_X10_well σC w x = some v ∧ f_X11_well σM w x = some v := by
  obtain ⟨x1, x2⟩ := hx
  rw [f_X10_well, f_X11_well, f_X10_well_b0, f_X11_well_b0]
  rcases ix24 w with q | ⟨k, hk, rfl⟩
  · rw [has_out hw q, wellM_out hw q]
    refine ⟨-1, ?_, ?_⟩ <;> simp (disch := omega) only [jbind_s, jc_I, ↓reduceIte]
  · obtain ⟨⟨a1, a2⟩, ⟨a3, a4⟩, ⟨a5, a6⟩, a7, a8⟩ := h.rng hk
    have hb := bI_rng (pC σC k)
    rw [has_in hk ⟨a1, a2⟩, wellM h.2.2.2.2.2.1 hk, h.cnC hk, h.cnM hk]
    rcases h.2.2.2.2.2.1 k hk with ⟨h1, h2⟩ | ⟨h1, h2, h3, h4, h5, h6⟩
    · refine ⟨-1, ?_, ?_⟩ <;> simp (disch := omega) only [h2, jbind_s, jc_I, ↓reduceIte]
    · refine both ?_ ?_
      · simp (disch := omega) only [jbind_s, cast_n, h3, h4, h5]
      · simp (disch := omega) only [jbind_s, cast_n, if_neg h2, jc_I, jc_ix]
        (repeat' split) <;> exact ⟨_, rfl⟩
def askV (k n x : Int) : Int := if x = 0 then (if k = 1 then n else -2) else if x = 1 then (if k = 2 then n else if 2 < k then 0 else -2) else if x = 2 then (if 2 < k then 0 else -2) else if x = 3 then (if k = 4 then n else -2) else -1
theorem some_ite {α : Type} {c : Prop} [Decidable c] {a b : α} : (if c then some a else some b) = some (if c then a else b) := by split <;> rfl
theorem ask38 {σ : St} {k : Nat} {x K t : Int} (hk : k < 24) (hx : inI x) (hK : 0 ≤ K ∧ K ≤ 4) (ht : t = if 2 < K then 1 else 0) : f_X10_ask_b38 σ (k : Int) x K t = some (askV K (σ 6 k) x) := by
  obtain ⟨x1, x2⟩ := hx
  rw [f_X10_ask_b38, jlet_v, jc_I x1 x2, jc_II (by omega) (by omega) (by omega) (by omega), jc_II (by omega) (by omega) (by omega) (by omega), jc_II (by omega) (by omega) (by omega) (by omega), jc_ix (by omega) (by omega), jc_I (by split at ht <;> omega) (by split at ht <;> omega), cast_n]
  unfold askV
  subst ht
  by_cases q : 2 < K
  · simp only [if_pos q, some_ite]
    simp
  · simp only [if_neg q, some_ite]
    simp
theorem askC {σ : St} {k : Nat} {x : Int} (hk : k < 24) (hx : inI x) (hK : 0 ≤ σ 5 k ∧ σ 5 k ≤ 4) : f_X10_ask σ (k : Int) x = some (askV (σ 5 k) (σ 6 k) x) := by
  rw [f_X10_ask, f_X10_ask_b0, has_in hk (by omega), jbind_s, if_neg (by omega), jc_I (by omega) (by omega), if_neg (by omega), jc_ix (by omega) (by omega), jlet_v, cast_n, jc_II (by omega) (by omega) (by omega) (by omega), jc_II (by omega) (by omega) (by omega) (by omega)]
  by_cases c3 : σ 5 k = 3
  · rw [if_pos c3]
    exact ask38 hk hx hK (by rw [if_pos (by omega)])
  · rw [if_neg c3]
    by_cases c4 : σ 5 k = 4
    · rw [if_pos c4]
      exact ask38 hk hx hK (by rw [if_pos (by omega)])
    · rw [if_neg c4]
      exact ask38 hk hx hK (by rw [if_neg (by omega)])
theorem askM {σ : St} {K X Y N : Nat → Int} (h : RM σ K X Y N) {k : Nat} {x : Int} (hk : k < 24) (hx : inI x) (hK : 0 ≤ K k ∧ K k ≤ 4) : f_X11_ask σ (k : Int) x = some (askV (K k) (N k) x) := by
  obtain ⟨x1, x2⟩ := hx
  rcases h k hk with ⟨h1, h2⟩ | ⟨h1, h2, h3, h4, h5, h6⟩
  · omega
  · rw [f_X11_ask, f_X11_ask_b0, wellM h hk, jbind_s, if_neg (by omega), jc_I (by omega) (by omega), if_neg (by omega), jc_ix (by omega) (by omega), jlet_v, cast_n, h3, h6, jc_I x1 x2, jc_II (by omega) (by omega) (by omega) (by omega), jc_II (by omega) (by omega) (by omega) (by omega), jc_II (by omega) (by omega) (by omega) (by omega)]
    unfold askV
    simp (disch := omega) only [jc_II, jc_ix, some_ite]
theorem ask_eq {σC σM : St} (h : Rw σC σM) {w x : Int} (hw : inI w) (hx : inI x) : ∃ v, f_X10_ask σC w x = some v ∧ f_X11_ask σM w x = some v := by
  rcases ix24 w with q | ⟨k, hk, rfl⟩
  · rw [f_X10_ask, f_X11_ask, f_X10_ask_b0, f_X11_ask_b0, has_out hw q, wellM_out hw q]
    refine ⟨-1, ?_, ?_⟩ <;> simp (disch := omega) only [jbind_s, jc_I, ↓reduceIte]
  · obtain ⟨⟨a1, a2⟩, ⟨a3, a4⟩, ⟨a5, a6⟩, a7, a8⟩ := h.rng hk
    by_cases h2 : σC 5 k = -1
    · rw [f_X10_ask, f_X11_ask, f_X10_ask_b0, f_X11_ask_b0, has_in hk ⟨a1, a2⟩, wellM h.2.2.2.2.2.1 hk]
      refine ⟨-1, ?_, ?_⟩ <;> simp (disch := omega) only [h2, jbind_s, jc_I, ↓reduceIte]
    · exact ⟨_, askC hk hx (by omega), askM h.2.2.2.2.2.1 hk hx (by omega)⟩
/-- how many: the model's loop -/
theorem countM_loop {σC σM : St} (h : Rw σC σM) {x : Int} (hx : inI x) (fuel : Nat) (hf : 24 < fuel) : jloop (fun (q : (Int × Int)) => match q with | (x2, x3) => f_X11_count_b4 σM x x2 x3) fuel (0, 0) = some (if x = 0 then (ct (hC_ σC) 24 : Nat) else (ct (pC σC) 24 : Nat) : Int) := by
  obtain ⟨x1, x2⟩ := hx
  refine jloop_for0 (g := fun i => ((if x = 0 then (ct (hC_ σC) i : Nat) else (ct (pC σC) i : Nat) : Int), (i : Int))) (N := 24) (e := _) ?_ hf (fun a ha => ?_) ?_
  · simp [ct]
  · show f_X11_count_b4 σM x _ (a : Int) = _
    rw [f_X11_count_b4, jc_II (by omega) (by omega) (by omega) (by omega), if_pos (by omega), jc_I x1 x2]
    by_cases q : x = 0
    · rw [if_pos q, if_pos q, if_pos q, jc_ix (by omega) (by omega), cast_n]
      rcases h.2.2.2.2.2.1 a ha with ⟨h1, h2⟩ | ⟨h1, h2, -⟩
      · have hh : hC_ σC a = false := by simp [hC_, h2]
        rw [h1, jc_I (by omega) (by omega), if_pos rfl, jlet_v, ct_f hh, cast_s]
      · have hh : hC_ σC a = true := by simp [hC_, h2]
        rw [h1, jc_I (by omega) (by omega), if_neg (by omega), jlet_v, jlet_v, ct_t hh, cast_s, cast_s]
    · rw [if_neg q, if_neg q, if_neg q, h.cnM ha, jbind_s]
      cases hp : pC σC a with
      | false => rw [bI_f, jc_I (by omega) (by omega), if_pos rfl, jlet_v, ct_f hp, cast_s]
      | true => rw [bI_t, jc_I (by omega) (by omega), if_neg (by omega), jlet_v, jlet_v, ct_t hp, cast_s, cast_s]
  · show f_X11_count_b4 σM x _ ((24 : Nat) : Int) = _
    rw [f_X11_count_b4, jc_II (by omega) (by omega) (by omega) (by omega), if_neg (by omega)]
theorem countM {σC σM : St} (h : Rw σC σM) {x : Int} (hx : inI x) : f_X11_count σM x = some (if x = 0 then ((ct (hC_ σC) 24 : Nat) : Int) else if x = 1 then ((ct (pC σC) 24 : Nat) : Int) else if x = 2 then σM 0 8 else -1) := by
  rw [f_X11_count, f_X11_count_b0, jlet_v, jlet_v, countM_loop h hx 1000 (by omega), jbind_s]
  obtain ⟨x1, x2⟩ := hx
  rw [jc_I x1 x2, jc_II (by omega) (by omega) (by omega) (by omega), jc_II (by omega) (by omega) (by omega) (by omega)]
  by_cases q : x = 0
  · rw [if_pos q, if_pos q, if_pos q]
  · rw [if_neg q, if_neg q, if_neg q]
    by_cases q1 : x = 1
    · rw [if_pos q1, if_pos q1]
    · rw [if_neg q1, if_neg q1]
      by_cases q2 : x = 2
      · rw [if_pos q2, if_pos q2]
      · rw [if_neg q2, if_neg q2]
theorem count_eq {σC σM : St} (h : Rw σC σM) (hp : σM 0 8 = σC 7 0) {x : Int} (hx : inI x) : ∃ v, f_X10_count σC x = some v ∧ f_X11_count σM x = some v := by
  refine ⟨_, ?_, countM h hx⟩
  obtain ⟨x1, x2⟩ := hx
  rw [f_X10_count, f_X10_count_b0, jc_I x1 x2, h.2.2.2.2.2.2.1, h.2.2.2.2.2.2.2.1, hp]
  by_cases q : x = 0
  · rw [if_pos q, if_pos q]
  · rw [if_neg q, if_neg q]
    by_cases q1 : x = 1
    · rw [if_pos q1, if_pos q1]
    · rw [if_neg q1, if_neg q1]
      by_cases q2 : x = 2
      · rw [if_pos q2, if_pos q2]
      · rw [if_neg q2, if_neg q2]
