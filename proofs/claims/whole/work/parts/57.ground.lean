/-! ===== the pure side 37: grounds, the component's rows ===== -/
/-- a ground g, its outline o, the spare one s -/
def GD (g o s : Nat) : Prop := (g = 20 ∧ ((o = 24 ∧ s = 29) ∨ (o = 29 ∧ s = 24))) ∨ (g = 42 ∧ ((o = 46 ∧ s = 51) ∨ (o = 51 ∧ s = 46)))
theorem GD.sw {g o s : Nat} (h : GD g o s) : GD g s o := by unfold GD at *; omega
theorem GD.b {g o s : Nat} (h : GD g o s) : g + 4 ≤ o ∧ o + 4 < g + 14 ∧ g + 4 ≤ s ∧ s + 4 < g + 14 ∧ (o + 4 < s ∨ s + 4 < o) := by unfold GD at h; omega
theorem GD.ln {g o s : Nat} (h : GD g o s) : lnO o = 28 ∧ isO o := by
  unfold GD at h
  rcases h with ⟨-, ⟨rfl, -⟩ | ⟨rfl, -⟩⟩ | ⟨-, ⟨rfl, -⟩ | ⟨rfl, -⟩⟩ <;> decide
def ptO (σ : St) (o i : Nat) : Pt := (σ (o + 1) i, σ (o + 2) i, σ (o + 3) i)
def lnG (σ : St) (g l : Nat) : Pt := (σ (g + 1) l, σ (g + 2) l, σ (g + 3) l)
def addO (τ : St) (s n : Nat) (x y d e : Int) : St := up2 (up2 (up2 (up2 (up2 τ (s + 1) n x) (s + 2) n y) (s + 3) n d) (s + 4) n e) s 0 ((n + 1 : Nat) : Int)
theorem add_spec4 {τ : St} {s n : Nat} {x y d e : Int} (hl : lnO s = 28) (hn : n < 28) (h0 : τ s 0 = (n : Int)) : f_X4_add τ s x y d e = some (addO τ s n x y d e) := by
  have a : ∀ k, k ≠ 0 → s ≠ s + k := fun k hk => by omega
  rw [f_X4_add, f_X4_add_b0, hl, h0, jc_II (by omega) (by omega) (by omega) (by omega), if_pos (by omega), jc_ix (by omega) (by omega), jlet_v, cast_n, up2_k (a 1 (by decide)), h0, jc_ix (by omega) (by omega), jlet_v, cast_n, up2_k (a 2 (by decide)), up2_k (a 1 (by decide)), h0, jc_ix (by omega) (by omega), jlet_v, cast_n, up2_k (a 3 (by decide)), up2_k (a 2 (by decide)), up2_k (a 1 (by decide)), h0, jc_ix (by omega) (by omega), jlet_v, cast_n, jlet_v, up2_k (a 4 (by decide)), up2_k (a 3 (by decide)), up2_k (a 2 (by decide)), up2_k (a 1 (by decide)), h0, cast_s]
  rfl
theorem addO_k {τ : St} {s n k : Nat} {x y d e : Int} (h : k < s ∨ s + 4 < k) : addO τ s n x y d e k = τ k := by
  unfold addO
  rw [up2_k (by omega), up2_k (by omega), up2_k (by omega), up2_k (by omega), up2_k (by omega)]
theorem addO_0 {τ : St} {s n : Nat} {x y d e : Int} : addO τ s n x y d e s 0 = ((n + 1 : Nat) : Int) := by
  unfold addO
  rw [up2_same]
theorem addO_pt {τ : St} {s n i : Nat} {x y d e : Int} : ptO (addO τ s n x y d e) s i = if i = n then (x, y, d) else ptO τ s i := by
  unfold ptO addO
  by_cases c : i = n
  · rw [if_pos c, c]
    rw [up2_k (k' := s + 1) (by omega), up2_k (k' := s + 1) (by omega), up2_k (k' := s + 1) (by omega), up2_k (k' := s + 1) (by omega), up2_same, up2_k (k' := s + 2) (by omega), up2_k (k' := s + 2) (by omega), up2_k (k' := s + 2) (by omega), up2_same, up2_k (k' := s + 3) (by omega), up2_k (k' := s + 3) (by omega), up2_same]
  · rw [if_neg c]
    rw [up2_k (k' := s + 1) (by omega), up2_k (k' := s + 2) (by omega), up2_k (k' := s + 3) (by omega)]
    rw [up2_a c, up2_a c, up2_a c, up2_a c, up2_a c, up2_a c, up2_a c, up2_a c, up2_a c, up2_a c, up2_a c, up2_a c]
theorem addO_e {τ : St} {s n i : Nat} {x y d e : Int} : addO τ s n x y d e (s + 4) i = if i = n then e else τ (s + 4) i := by
  unfold addO
  by_cases c : i = n
  · rw [if_pos c, c, up2_k (k' := s + 4) (by omega), up2_same]
  · rw [if_neg c, up2_k (k' := s + 4) (by omega), up2_a c, up2_a c, up2_a c, up2_a c]
/-- points that the component can reckon with -/
def okP (p : Pt) : Prop := 0 < p.2.2 ∧ p.2.2 ≤ 1000000 ∧ 0 ≤ p.1 ∧ p.1 ≤ 2000 * p.2.2 ∧ 0 ≤ p.2.1 ∧ p.2.1 ≤ 2000 * p.2.2
def okL (L : Pt) : Prop := -1000 ≤ L.1 ∧ L.1 ≤ 1000 ∧ -1000 ≤ L.2.1 ∧ L.2.1 ≤ 1000 ∧ -3000000 ≤ L.2.2 ∧ L.2.2 ≤ 3000000
theorem fl_rng {L p : Pt} (hL : okL L) (hp : okP p) : -100000000000000 ≤ fl L p ∧ fl L p ≤ 100000000000000 := by
  obtain ⟨l1, l2, l3, l4, l5, l6⟩ := hL
  obtain ⟨p1, p2, p3, p4, p5, p6⟩ := hp
  have m1 := mul_bd (a := L.2.2) (b := p.2.2) (A := 3000000) (B := 2000000) (by omega) (by omega) (by omega) (by omega)
  have m2 := mul_bd (a := L.1) (b := p.1) (A := 1000) (B := 4000000000) (by omega) (by omega) (by omega) (by omega)
  have m3 := mul_bd (a := L.2.1) (b := p.2.1) (A := 1000) (B := 4000000000) (by omega) (by omega) (by omega) (by omega)
  unfold fl
  omega
theorem inner_spec {σ : St} {g o s l i : Nat} (hG : GD g o s) (h4 : σ g 4 = (o : Int)) (hl : l < 28) (hi : i < 28) : f_X1_innerSide σ g (l : Int) (i : Int) = some (fl (lnG σ g l) (ptO σ o i)) := by
  obtain ⟨n1, n2⟩ := hG.ln
  rw [f_X1_innerSide, f_X1_innerSide_b0, jc_ix (by omega) (by omega), h4, cast_n, jlet_v, jchk_t n2, n1, jc_ix (by omega) (by omega), jc_ix (by omega) (by omega), jlet_v, jchk_t n2, n1, jc_ix (by omega) (by omega), jc_ix (by omega) (by omega), jlet_v, jchk_t n2, n1, jc_ix (by omega) (by omega), cast_n, cast_n]
  rfl
theorem jor01 : jor 0 0 = 0 ∧ jor 0 1 = 1 ∧ jor 1 0 = 1 ∧ jor 1 1 = 1 := by decide
/-- the first pass of a cut: how far inside each point is -/
theorem cut_pass {σ : St} {g o s l m : Nat} (hG : GD g o s) (h4 : σ g 4 = (o : Int)) (hl : l < 28) (hm : m ≤ 28) (h0 : σ o 0 = (m : Int)) (hL : okL (lnG σ g l)) (hP : ∀ i, i < m → okP (ptO σ o i)) (fuel : Nat) (hf : 28 < fuel) : ∃ e, jloop (fun (q : (St × Int × Int × Int)) => match q with | (σ, x2, x3, x4) => f_X1_cut_b7 σ g (l : Int) x2 x3 x4) fuel (σ, 0, 0, 0) = some e ∧ (∀ k, k ≠ g + 14 → e.1 k = σ k) ∧ (∀ i, i < m → e.1 (g + 14) i = fl (lnG σ g l) (ptO σ o i)) ∧ ((e.2.1 = 0 ∧ ∀ i, i < m → fl (lnG σ g l) (ptO σ o i) ≤ 0) ∨ (e.2.1 = 1 ∧ ∃ i, i < m ∧ 0 < fl (lnG σ g l) (ptO σ o i))) ∧ ((e.2.2 = 0 ∧ ∀ i, i < m → 0 ≤ fl (lnG σ g l) (ptO σ o i)) ∨ (e.2.2 = 1 ∧ ∃ i, i < m ∧ fl (lnG σ g l) (ptO σ o i) < 0)) := by
  obtain ⟨n1, n2⟩ := hG.ln
  obtain ⟨j1, j2, j3, j4⟩ := jor01
  obtain ⟨gb1, gb2, -⟩ := hG.b
  have g0 : g ≠ g + 14 := by omega
  have g1 : g + 1 ≠ g + 14 := by omega
  have g2 : g + 2 ≠ g + 14 := by omega
  have g3 : g + 3 ≠ g + 14 := by omega
  have o0 : o ≠ g + 14 := by omega
  have o1 : o + 1 ≠ g + 14 := by omega
  have o2 : o + 2 ≠ g + 14 := by omega
  have o3 : o + 3 ≠ g + 14 := by omega
  refine jloop_ex (I := fun n q => q.2.2.2 = (n : Int) ∧ (∀ k, k ≠ g + 14 → q.1 k = σ k) ∧ (∀ i, i < n → q.1 (g + 14) i = fl (lnG σ g l) (ptO σ o i)) ∧ ((q.2.1 = 0 ∧ ∀ i, i < n → fl (lnG σ g l) (ptO σ o i) ≤ 0) ∨ (q.2.1 = 1 ∧ ∃ i, i < n ∧ 0 < fl (lnG σ g l) (ptO σ o i))) ∧ ((q.2.2.1 = 0 ∧ ∀ i, i < n → 0 ≤ fl (lnG σ g l) (ptO σ o i)) ∨ (q.2.2.1 = 1 ∧ ∃ i, i < n ∧ fl (lnG σ g l) (ptO σ o i) < 0))) (N := m) (J := _) ?_ ?_ m 0 fuel _ (by omega) (by omega) ⟨rfl, fun _ _ => rfl, fun i hi => absurd hi (Nat.not_lt_zero i), Or.inl ⟨rfl, fun i hi => absurd hi (Nat.not_lt_zero i)⟩, Or.inl ⟨rfl, fun i hi => absurd hi (Nat.not_lt_zero i)⟩⟩
  · rintro n ⟨τ, x2, x3, _⟩ hn ⟨rfl, i1, i2, i3, i4⟩
    dsimp only at i1 i2 i3 i4
    show ∃ s', f_X1_cut_b7 τ g (l : Int) x2 x3 (n : Int) = some (.inl s') ∧ _
    have e1 : lnG τ g l = lnG σ g l := by unfold lnG; rw [i1 (g + 1) g1, i1 (g + 2) g2, i1 (g + 3) g3]
    have e2 : ptO τ o n = ptO σ o n := by unfold ptO; rw [i1 (o + 1) o1, i1 (o + 2) o2, i1 (o + 3) o3]
    have ins := inner_spec (σ := τ) (l := l) (i := n) hG (by rw [i1 g g0]; exact h4) hl (by clear i3 i4; omega)
    rw [e1, e2] at ins
    have r := fl_rng hL (hP n hn)
    have x2b : x2 = 0 ∨ x2 = 1 := by
      rcases i3 with z | z
      · exact Or.inl z.1
      · exact Or.inr z.1
    have x3b : x3 = 0 ∨ x3 = 1 := by
      rcases i4 with z | z
      · exact Or.inl z.1
      · exact Or.inr z.1
    have new14 : ∀ i, i < n + 1 → up2 τ (g + 14) n (fl (lnG σ g l) (ptO σ o n)) (g + 14) i = fl (lnG σ g l) (ptO σ o i) := fun i hi => by
      by_cases c : i = n
      · rw [c, up2_same]
      · rw [up2_j c]
        exact i2 i (Nat.lt_of_le_of_ne (Nat.le_of_lt_succ hi) c)
    have newk : ∀ k, k ≠ g + 14 → up2 τ (g + 14) n (fl (lnG σ g l) (ptO σ o n)) k = σ k := fun k hk => by rw [up2_k hk, i1 k hk]
    have pos : 0 < fl (lnG σ g l) (ptO σ o n) → (1 : Int) = 0 ∧ (∀ i, i < n + 1 → fl (lnG σ g l) (ptO σ o i) ≤ 0) ∨ ((1 : Int) = 1 ∧ ∃ i, i < n + 1 ∧ 0 < fl (lnG σ g l) (ptO σ o i)) := fun z => Or.inr ⟨rfl, n, Nat.lt_succ_self n, z⟩
    have neg : fl (lnG σ g l) (ptO σ o n) < 0 → (1 : Int) = 0 ∧ (∀ i, i < n + 1 → 0 ≤ fl (lnG σ g l) (ptO σ o i)) ∨ ((1 : Int) = 1 ∧ ∃ i, i < n + 1 ∧ fl (lnG σ g l) (ptO σ o i) < 0) := fun z => Or.inr ⟨rfl, n, Nat.lt_succ_self n, z⟩
    have pos0 : fl (lnG σ g l) (ptO σ o n) ≤ 0 → (x2 = 0 ∧ ∀ i, i < n + 1 → fl (lnG σ g l) (ptO σ o i) ≤ 0) ∨ (x2 = 1 ∧ ∃ i, i < n + 1 ∧ 0 < fl (lnG σ g l) (ptO σ o i)) := fun z => by
      rcases i3 with ⟨y1, y2⟩ | ⟨y1, i, y2, y3⟩
      · refine Or.inl ⟨y1, fun i hi => ?_⟩
        by_cases c : i = n
        · rw [c]; exact z
        · exact y2 i (Nat.lt_of_le_of_ne (Nat.le_of_lt_succ hi) c)
      · exact Or.inr ⟨y1, i, Nat.lt_succ_of_lt y2, y3⟩
    have neg0 : 0 ≤ fl (lnG σ g l) (ptO σ o n) → (x3 = 0 ∧ ∀ i, i < n + 1 → 0 ≤ fl (lnG σ g l) (ptO σ o i)) ∨ (x3 = 1 ∧ ∃ i, i < n + 1 ∧ fl (lnG σ g l) (ptO σ o i) < 0) := fun z => by
      rcases i4 with ⟨y1, y2⟩ | ⟨y1, i, y2, y3⟩
      · refine Or.inl ⟨y1, fun i hi => ?_⟩
        by_cases c : i = n
        · rw [c]; exact z
        · exact y2 i (Nat.lt_of_le_of_ne (Nat.le_of_lt_succ hi) c)
      · exact Or.inr ⟨y1, i, Nat.lt_succ_of_lt y2, y3⟩
    have k1 : ∀ x : Int, x = 0 ∨ x = 1 → jor x 1 = 1 ∧ jor x 0 = x := fun x hx => by
      rcases hx with z | z
      · rw [z]; exact ⟨j2, j1⟩
      · rw [z]; exact ⟨j4, j3⟩
    clear i3 i4
    rw [f_X1_cut_b7, i1 g g0, h4, cast_n, jlet_v, jchk_t n2, i1 o o0, h0, jc_II (by omega) (by omega) (by omega) (by omega), if_pos (by omega), ins, jbind_s, jc_ix (by omega) (by omega), jlet_v, cast_n, jc_ix (by omega) (by omega), up2_same, jc_LL (by omega) (by omega) (by omega) (by omega)]
    by_cases c1 : 0 < fl (lnG σ g l) (ptO σ o n)
    · rw [if_pos c1, f_X1_cut_b51, (k1 x2 x2b).1, jlet_v, jc_ix (by omega) (by omega), cast_n, up2_same, jc_LL (by omega) (by omega) (by omega) (by omega), if_neg (by omega), (k1 x3 x3b).2, jlet_v, jlet_v, cast_s]
      exact ⟨_, rfl, rfl, newk, new14, pos c1, neg0 (by omega)⟩
    · rw [if_neg c1, f_X1_cut_b51, (k1 x2 x2b).2, jlet_v, jc_ix (by omega) (by omega), cast_n, up2_same, jc_LL (by omega) (by omega) (by omega) (by omega)]
      by_cases c2 : fl (lnG σ g l) (ptO σ o n) < 0
      · rw [if_pos c2, (k1 x3 x3b).1, jlet_v, jlet_v, cast_s]
        exact ⟨_, rfl, rfl, newk, new14, pos0 (by omega), neg c2⟩
      · rw [if_neg c2, (k1 x3 x3b).2, jlet_v, jlet_v, cast_s]
        exact ⟨_, rfl, rfl, newk, new14, pos0 (by omega), neg0 (by omega)⟩
  · rintro ⟨τ, x2, x3, _⟩ ⟨rfl, i1, i2, i3, i4⟩
    refine ⟨(τ, x2, x3), ?_, i1, i2, i3, i4⟩
    show f_X1_cut_b7 τ g (l : Int) x2 x3 (m : Int) = _
    dsimp only at i1
    clear i2 i3 i4
    rw [f_X1_cut_b7, i1 g g0, h4, cast_n, jlet_v, jchk_t n2, i1 o o0, h0, jc_II (by omega) (by omega) (by omega) (by omega), if_neg (by omega)]
