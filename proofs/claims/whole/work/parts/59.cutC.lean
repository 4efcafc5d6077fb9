/-! ===== the pure side 39: a cut, the component's loops ===== -/
theorem addFrom_spec {μ : St} {g o s n i : Nat} {lab : Int} (hG : GD g o s) (hi : i < 28) (hn : n < 28) (h0 : μ s 0 = (n : Int)) : f_X4_addFrom μ s o (i : Int) lab = some (addO μ s n (ptO μ o i).1 (ptO μ o i).2.1 (ptO μ o i).2.2 lab) := by
  obtain ⟨n1, -⟩ := hG.ln
  obtain ⟨m1, -⟩ := hG.sw.ln
  rw [f_X4_addFrom, f_X4_addFrom_b0, n1, jc_ix (by omega) (by omega), jc_ix (by omega) (by omega), jc_ix (by omega) (by omega), cast_n, add_spec4 m1 hn h0, jbind_s]
  rfl
theorem pt_fr {μ β : St} {g o s i : Nat} (hG : GD g o s) (h : ∀ k, k < s ∨ s + 4 < k → μ k = β k) : ptO μ o i = ptO β o i := by
  have := hG.b
  unfold ptO
  rw [h (o + 1) (by omega), h (o + 2) (by omega), h (o + 3) (by omega)]
theorem ln_fr {μ β : St} {g o s l : Nat} (hG : GD g o s) (h : ∀ k, k < s ∨ s + 4 < k → μ k = β k) : lnG μ g l = lnG β g l := by
  have := hG.b
  unfold lnG
  rw [h (g + 1) (by omega), h (g + 2) (by omega), h (g + 3) (by omega)]
theorem touch_loop {β : St} {g o s m l : Nat} (hG : GD g o s) (h4 : β g 4 = (o : Int)) (h5 : β g 5 = (s : Int)) (h0 : β o 0 = (m : Int)) (hm : m ≤ 28) (hs : β s 0 = 0) (hr : ∀ i, i < m → -100000000000000 ≤ β (g + 14) i ∧ β (g + 14) i ≤ 100000000000000) (fuel : Nat) (hf : 28 < fuel) : ∃ μ, jloop (fun (q : (St × Int)) => match q with | (σ, x2) => f_X1_leaveTouched_b2 σ g (l : Int) x2) fuel (β, 0) = some μ ∧ (∀ k, k < s ∨ s + 4 < k → μ k = β k) ∧ ∃ (n : Nat) (G : Nat → Nat), μ s 0 = (n : Int) ∧ n ≤ m ∧ (∀ k, k < n → G k < m ∧ β (g + 14) (G k) = 0 ∧ ptO μ s k = ptO β o (G k) ∧ μ (s + 4) k = (l : Int)) ∧ (∀ a b, a < b → b < n → G a < G b) ∧ ∀ i, i < m → β (g + 14) i = 0 → ∃ k, k < n ∧ G k = i := by
  obtain ⟨n1, n2⟩ := hG.ln
  obtain ⟨m1, m2⟩ := hG.sw.ln
  have gb := hG.b
  refine jloop_ex (I := fun i q => q.2 = (i : Int) ∧ (∀ k, k < s ∨ s + 4 < k → q.1 k = β k) ∧ ∃ (n : Nat) (G : Nat → Nat), q.1 s 0 = (n : Int) ∧ n ≤ i ∧ (∀ k, k < n → G k < i ∧ β (g + 14) (G k) = 0 ∧ ptO q.1 s k = ptO β o (G k) ∧ q.1 (s + 4) k = (l : Int)) ∧ (∀ a b, a < b → b < n → G a < G b) ∧ ∀ j, j < i → β (g + 14) j = 0 → ∃ k, k < n ∧ G k = j) (N := m) (J := _) ?_ ?_ m 0 fuel _ (by omega) (by omega) ⟨rfl, fun _ _ => rfl, 0, fun _ => 0, hs, by omega, fun k hk => absurd hk (Nat.not_lt_zero k), fun a b _ hb => absurd hb (Nat.not_lt_zero b), fun j hj => absurd hj (Nat.not_lt_zero j)⟩
  · rintro i ⟨μ, _⟩ hi ⟨rfl, i1, n, G, i2, i3, i4, i5, i6⟩
    dsimp only at i1 i2 i4
    show ∃ s', f_X1_leaveTouched_b2 μ g (l : Int) (i : Int) = some (.inl s') ∧ _
    have r := hr i hi
    rw [f_X1_leaveTouched_b2, i1 g (by omega), h4, cast_n, jlet_v, jchk_t n2, i1 o (by omega), h0, jc_II (by omega) (by omega) (by omega) (by omega), if_pos (by omega), jc_ix (by omega) (by omega), cast_n, i1 (g + 14) (by omega), jc_LL (by omega) (by omega) (by omega) (by omega)]
    by_cases c : β (g + 14) i = 0
    · rw [if_pos c, h5, cast_n, jlet_v, jchk_t m2, jlet_v, jchk_t n2, addFrom_spec hG (by omega) (show n < 28 by omega) i2, jbind_s, jlet_v, pt_fr hG i1]
      refine ⟨_, rfl, rfl, fun k hk => by dsimp only; rw [addO_k hk, i1 k hk], n + 1, fun k => if k = n then i else G k, addO_0, by omega, fun k hk => ?_, fun a b hab hb => ?_, fun j hj z => ?_⟩
      · dsimp only
        rw [addO_pt, addO_e]
        by_cases e : k = n
        · rw [if_pos e, if_pos e, if_pos e]
          exact ⟨by omega, c, rfl, rfl⟩
        · rw [if_neg e, if_neg e, if_neg e]
          obtain ⟨y1, y2, y3, y4⟩ := i4 k (by omega)
          exact ⟨by omega, y2, y3, y4⟩
      · dsimp only
        rw [if_neg (show a ≠ n by omega)]
        by_cases e : b = n
        · rw [if_pos e]; exact (i4 a (by omega)).1
        · rw [if_neg e]; exact i5 a b hab (by omega)
      · by_cases e : j = i
        · exact ⟨n, by omega, by dsimp only; rw [if_pos rfl, e]⟩
        · obtain ⟨k, k1, k2⟩ := i6 j (by omega) z
          exact ⟨k, by omega, by dsimp only; rw [if_neg (by omega)]; exact k2⟩
    · rw [if_neg c, jlet_v]
      refine ⟨_, rfl, rfl, i1, n, G, i2, by omega, fun k hk => ?_, i5, fun j hj z => ?_⟩
      · obtain ⟨y1, y2⟩ := i4 k hk
        exact ⟨by omega, y2⟩
      · by_cases e : j = i
        · rw [e] at z; exact absurd z c
        · exact i6 j (by omega) z
  · rintro ⟨μ, _⟩ ⟨rfl, i1, i2⟩
    refine ⟨μ, ?_, i1, i2⟩
    show f_X1_leaveTouched_b2 μ g (l : Int) (m : Int) = _
    dsimp only at i1
    clear i2
    rw [f_X1_leaveTouched_b2, i1 g (by omega), h4, cast_n, jlet_v, jchk_t n2, i1 o (by omega), h0, jc_II (by omega) (by omega) (by omega) (by omega), if_neg (by omega)]
/-- the points of the cut ring that are there already -/
def NL (β μ : St) (g o s l m n : Nat) (LS' : Nat → Prop) (S : Nat → Nat) (lw u : Nat → Int) : Prop :=
  (∀ k, k < n → okP (ptO μ s k) ∧ KP (ptO β o) (fun i => fl (lnG β g l) (wr (ptO β o) m i)) m (ptO μ s k) (S k) (lw k) (u k) ∧ (0 ≤ μ (s + 4) k ∧ μ (s + 4) k < 28) ∧ LS' (μ (s + 4) k).toNat ∧ fl (lnG β g (μ (s + 4) k).toNat) (ptO μ s k) = 0 ∧ 0 ≤ fl (lnG β g l) (ptO μ s k)) ∧
  (∀ a b, a < b → b < n → KO (S a) (u a) (S b) (u b)) ∧ (∀ k, k + 1 < n → fl (lnG β g (μ (s + 4) k).toNat) (ptO μ s (k + 1)) = 0)
theorem NL.add {β μ : St} {g o s l m n : Nat} {LS' : Nat → Prop} {S : Nat → Nat} {lw u : Nat → Int} (h : NL β μ g o s l m n LS' S lw u) {P : Pt} {t lab : Nat} {a b : Int} (hP : okP P) (hK : KP (ptO β o) (fun i => fl (lnG β g l) (wr (ptO β o) m i)) m P t a b) (hl : lab < 28) (hL : LS' lab) (hz : fl (lnG β g lab) P = 0) (hf : 0 ≤ fl (lnG β g l) P) (hO : ∀ k, k < n → KO (S k) (u k) t b) (he : ∀ k, k + 1 = n → fl (lnG β g (μ (s + 4) k).toNat) P = 0) : NL β (addO μ s n P.1 P.2.1 P.2.2 (lab : Int)) g o s l m (n + 1) LS' (fun k => if k = n then t else S k) (fun k => if k = n then a else lw k) (fun k => if k = n then b else u k) := by
  obtain ⟨h1, h2, h3⟩ := h
  have eP : ∀ k, ptO (addO μ s n P.1 P.2.1 P.2.2 (lab : Int)) s k = if k = n then P else ptO μ s k := fun k => addO_pt
  refine ⟨fun k hk => ?_, fun x y xy hy => ?_, fun k hk => ?_⟩
  · rw [eP, addO_e]
    by_cases e : k = n
    · simp only [if_pos e, cast_n]
      exact ⟨hP, hK, ⟨by omega, by omega⟩, hL, hz, hf⟩
    · simp only [if_neg e]
      exact h1 k (by omega)
  · dsimp only
    rw [if_neg (show x ≠ n by omega), if_neg (show x ≠ n by omega)]
    by_cases e : y = n
    · rw [if_pos e, if_pos e]; exact hO x (by omega)
    · rw [if_neg e, if_neg e]; exact h2 x y xy (by omega)
  · rw [eP, addO_e, if_neg (show k ≠ n by omega)]
    by_cases e : k + 1 = n
    · rw [if_pos e]; exact he k e
    · rw [if_neg e]; exact h3 k (by omega)
theorem ct_le2 {z : Nat → Bool} {n : Nat} (h : ∀ a b c, a < b → b < c → c < n → z a = true → z b = true → z c = true → False) : ct z n ≤ 2 := by
  by_cases c : ct z n ≤ 2
  · exact c
  · exfalso
    obtain ⟨x, x1, x2, x3⟩ := ct_kth (show 0 < ct z n by omega)
    obtain ⟨y, y1, y2, y3⟩ := ct_kth (show 1 < ct z n by omega)
    obtain ⟨w, w1, w2, w3⟩ := ct_kth (show 2 < ct z n by omega)
    have lt : ∀ a b, z a = true → z b = true → ct z a < ct z b → a < b := fun a b za zb hh => by
      by_cases q : a < b
      · exact q
      · by_cases e : a = b
        · rw [e] at hh; omega
        · have := ct_lt zb (show b < a by omega)
          omega
    exact h x y w (lt x y x2 y2 (by omega)) (lt y w y2 w2 (by omega)) w1 x2 y2 w2
theorem ct_split (z : Nat → Bool) : ∀ n, ct z n + ct (fun k => !(z k)) n = n
  | 0 => rfl
  | n + 1 => by
    have ih := ct_split z n
    cases c : z n with
    | true => rw [ct_t c, ct_f (by simp [c])]; omega
    | false => rw [ct_f c, ct_t (by simp [c])]; omega
/-- no more points than that -/
theorem NL.bound {β μ : St} {g o s l m n : Nat} {LS' : Nat → Prop} {S : Nat → Nat} {lw u : Nat → Int} (h : NL β μ g o s l m n LS' S lw u) (hm : 3 ≤ m) (sc : SCv (ptO β o) m) (nl : nzL (lnG β g l)) : n ≤ 2 + ct (fun k => decide (0 < fl (lnG β g l) (ptO μ s k))) n := by
  have two : ct (fun k => !(decide (0 < fl (lnG β g l) (ptO μ s k)))) n ≤ 2 := by
    refine ct_le2 (fun a b c ab bc hc za zb zc => ?_)
    obtain ⟨-, ka, -, -, -, fa⟩ := h.1 a (by omega)
    obtain ⟨-, kb, -, -, -, fb⟩ := h.1 b (by omega)
    obtain ⟨-, kc, -, -, -, fc⟩ := h.1 c hc
    simp only [Bool.not_eq_true', decide_eq_false_iff_not] at za zb zc
    have t := KP.turn sc hm (by show fl _ (wr _ m m) = fl _ (wr _ m 0); rw [wr_m, wr_lt (by omega)]) ka kb kc (h.2.1 a b ab (by omega)) (h.2.1 b c bc hc)
    rw [three_on nl (by omega) (by omega) (by omega)] at t
    omega
  have := ct_split (fun k => decide (0 < fl (lnG β g l) (ptO μ s k))) n
  omega
