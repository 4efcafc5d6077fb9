/-! ===== the pure side 33: rings of points ===== -/
abbrev Pt : Type := Int × Int × Int
/-- above 0 if three points (x/d, y/d) turn to the left -/
def dt3 (p q r : Pt) : Int := p.1 * (q.2.1 * r.2.2 - r.2.1 * q.2.2) - p.2.1 * (q.1 * r.2.2 - r.1 * q.2.2) + p.2.2 * (q.1 * r.2.1 - r.1 * q.2.1)
/-- how far a point is on the inner side of a line -/
def fl (L p : Pt) : Int := L.2.2 * p.2.2 - L.1 * p.1 - L.2.1 * p.2.1
/-- k N = l p + m q -/
def cmb (k : Int) (N : Pt) (l : Int) (p : Pt) (m : Int) (q : Pt) : Prop := k * N.1 = l * p.1 + m * q.1 ∧ k * N.2.1 = l * p.2.1 + m * q.2.1 ∧ k * N.2.2 = l * p.2.2 + m * q.2.2
theorem dt3_1 {k l m : Int} {N p q : Pt} (h : cmb k N l p m q) (r s : Pt) : k * dt3 N r s = l * dt3 p r s + m * dt3 q r s := by
  obtain ⟨h1, h2, h3⟩ := h
  unfold dt3
  have e : k * (N.1 * (r.2.1 * s.2.2 - s.2.1 * r.2.2) - N.2.1 * (r.1 * s.2.2 - s.1 * r.2.2) + N.2.2 * (r.1 * s.2.1 - s.1 * r.2.1)) = (k * N.1) * (r.2.1 * s.2.2 - s.2.1 * r.2.2) - (k * N.2.1) * (r.1 * s.2.2 - s.1 * r.2.2) + (k * N.2.2) * (r.1 * s.2.1 - s.1 * r.2.1) := by grind
  rw [e, h1, h2, h3]
  grind
theorem dt3_rot (p q r : Pt) : dt3 p q r = dt3 q r p := by unfold dt3; grind
theorem dt3_2 {k l m : Int} {N p q : Pt} (h : cmb k N l p m q) (r s : Pt) : k * dt3 r N s = l * dt3 r p s + m * dt3 r q s := by
  rw [dt3_rot r N s, dt3_rot r p s, dt3_rot r q s]
  exact dt3_1 h s r
theorem dt3_3 {k l m : Int} {N p q : Pt} (h : cmb k N l p m q) (r s : Pt) : k * dt3 r s N = l * dt3 r s p + m * dt3 r s q := by
  rw [← dt3_rot N r s, ← dt3_rot p r s, ← dt3_rot q r s]
  exact dt3_1 h r s
theorem fl_lin {k l m : Int} {N p q : Pt} (h : cmb k N l p m q) (L : Pt) : k * fl L N = l * fl L p + m * fl L q := by
  obtain ⟨h1, h2, h3⟩ := h
  unfold fl
  have e : k * (L.2.2 * N.2.2 - L.1 * N.1 - L.2.1 * N.2.1) = L.2.2 * (k * N.2.2) - L.1 * (k * N.1) - L.2.1 * (k * N.2.1) := by grind
  rw [e, h1, h2, h3]
  grind
theorem dt3_aa (p q : Pt) : dt3 p p q = 0 := by unfold dt3; grind
theorem dt3_bb (p q : Pt) : dt3 p q q = 0 := by unfold dt3; grind
theorem dt3_cc (p q : Pt) : dt3 p q p = 0 := by unfold dt3; grind
/-- two summands: not below 0, above 0 -/
theorem sum_nn {k l m x y z : Int} (hk : 0 < k) (hl : 0 ≤ l) (hm : 0 ≤ m) (hx : 0 ≤ x) (hy : 0 ≤ y) (e : k * z = l * x + m * y) : 0 ≤ z := by
  have h1 := Int.mul_nonneg hl hx
  have h2 := Int.mul_nonneg hm hy
  exact pos_mul hk (by omega)
theorem sum_pos {k l m x y z : Int} (hk : 0 < k) (hl : 0 ≤ l) (hm : 0 ≤ m) (hx : 0 ≤ x) (hy : 0 ≤ y) (hs : (0 < l ∧ 0 < x) ∨ (0 < m ∧ 0 < y)) (e : k * z = l * x + m * y) : 0 < z := by
  have h1 := Int.mul_nonneg hl hx
  have h2 := Int.mul_nonneg hm hy
  rcases hs with ⟨a, b⟩ | ⟨a, b⟩
  · have := Int.mul_pos a b
    exact pos_mul' hk (by omega)
  · have := Int.mul_pos a b
    exact pos_mul' hk (by omega)
/-- strictly convex, to the left -/
def SCv (q : Nat → Pt) (m : Nat) : Prop := ∀ i j k, i < j → j < k → k < m → 0 < dt3 (q i) (q j) (q k)
/-- one after the last is the first -/
def wr (q : Nat → Pt) (m k : Nat) : Pt := if k = m then q 0 else q k
theorem wr_lt {q : Nat → Pt} {m k : Nat} (h : k < m) : wr q m k = q k := by unfold wr; rw [if_neg (by omega)]
theorem wr_m {q : Nat → Pt} {m : Nat} : wr q m m = q 0 := by unfold wr; rw [if_pos rfl]
theorem SCv.w {q : Nat → Pt} {m : Nat} (h : SCv q m) {i j k : Nat} (ij : i ≤ j) (jk : j ≤ k) (jm : j < m) (km : k ≤ m) : 0 ≤ dt3 (wr q m i) (wr q m j) (wr q m k) ∧ (i < j → j < k → ¬ (i = 0 ∧ k = m) → 0 < dt3 (wr q m i) (wr q m j) (wr q m k)) := by
  rw [wr_lt (show i < m by omega), wr_lt jm]
  by_cases c : k = m
  · rw [c, wr_m]
    have e : dt3 (q i) (q j) (q 0) = dt3 (q 0) (q i) (q j) := by rw [dt3_rot (q 0)]
    by_cases i0 : i = 0
    · rw [i0, dt3_cc]
      exact ⟨by omega, fun _ _ z => absurd ⟨rfl, rfl⟩ z⟩
    · by_cases c2 : i = j
      · rw [c2, dt3_aa]
        exact ⟨by omega, fun z => by omega⟩
      · have := h 0 i j (by omega) (by omega) jm
        rw [e]
        exact ⟨by omega, fun _ _ _ => this⟩
  · rw [wr_lt (show k < m by omega)]
    by_cases c1 : i = j
    · rw [c1, dt3_aa]
      exact ⟨by omega, fun z => by omega⟩
    · by_cases c2 : j = k
      · rw [c2, dt3_bb]
        exact ⟨by omega, fun _ z => by omega⟩
      · have := h i j k (by omega) (by omega) (by omega)
        exact ⟨by omega, fun _ _ _ => this⟩
/-- a point of the cut ring: on the way from q s to the next -/
def KP (q : Nat → Pt) (f : Nat → Int) (m : Nat) (N : Pt) (s : Nat) (l u : Int) : Prop := s < m ∧ 0 < l ∧ 0 ≤ u ∧ (∃ k, 0 < k ∧ cmb k N l (wr q m s) u (wr q m (s + 1))) ∧ (u = 0 → 0 ≤ f s) ∧ (0 < u → (0 < f s ∧ f (s + 1) < 0) ∨ (f s < 0 ∧ 0 < f (s + 1)))
/-- one goes before the other -/
def KO (s : Nat) (u : Int) (s' : Nat) (u' : Int) : Prop := s < s' ∨ (s = s' ∧ u = 0 ∧ 0 < u')
theorem KP.turn {q : Nat → Pt} {f : Nat → Int} {m : Nat} (h : SCv q m) (hm : 3 ≤ m) (hf : f m = f 0) {A B C : Pt} {a b c : Nat} {la ua lb ub lc_ uc : Int} (hA : KP q f m A a la ua) (hB : KP q f m B b lb ub) (hC : KP q f m C c lc_ uc) (hab : KO a ua b ub) (hbc : KO b ub c uc) : 0 < dt3 A B C := by
  obtain ⟨am, la0, ua0, ⟨ka, ka0, ea⟩, fa0, fa1⟩ := hA
  obtain ⟨bm, lb0, ub0, ⟨kb, kb0, eb⟩, fb0, fb1⟩ := hB
  obtain ⟨cm, lc0, uc0, ⟨kc, kc0, ec⟩, fc0, fc1⟩ := hC
  unfold KO at hab hbc
  -- with C: from two points of the ring
  have zn : ∀ i j, i ≤ j → j ≤ c → 0 ≤ dt3 (wr q m i) (wr q m j) C := fun i j ij jc =>
    sum_nn kc0 (by omega) uc0 (h.w ij jc (by omega) (by omega)).1 (h.w ij (by omega) (by omega) (by omega)).1 (dt3_3 ec _ _)
  have zp : ∀ i j, i < j → j ≤ c → (j < c ∨ (0 < uc ∧ ¬ (i = 0 ∧ c + 1 = m))) → 0 < dt3 (wr q m i) (wr q m j) C := fun i j ij jc hs => by
    refine sum_pos kc0 (by omega) uc0 (h.w (by omega) jc (by omega) (by omega)).1 (h.w (by omega) (by omega) (by omega) (by omega)).1 ?_ (dt3_3 ec _ _)
    rcases hs with z | ⟨z1, z2⟩
    · exact Or.inl ⟨lc0, (h.w (by omega) jc (by omega) (by omega)).2 ij z (by omega)⟩
    · exact Or.inr ⟨z1, (h.w (by omega) (by omega) (by omega) (by omega)).2 ij (by omega) z2⟩
  -- with B and C: from one point of the ring
  have bc1 : b + 1 ≤ c ∨ ub = 0 := by omega
  have yn : ∀ i, i ≤ b → 0 ≤ dt3 (wr q m i) B C := fun i ib => by
    rcases bc1 with z | z
    · exact sum_nn kb0 (by omega) ub0 (zn i b ib (by omega)) (zn i (b + 1) (by omega) z) (dt3_2 eb _ _)
    · have e := dt3_2 eb (wr q m i) C
      rw [z, Int.zero_mul, Int.add_zero] at e
      exact sum_nn (l := lb) (m := 0) (x := dt3 (wr q m i) (wr q m b) C) (y := 0) kb0 (by omega) (by omega) (zn i b ib (by omega)) (by omega) (by rw [e]; omega)
  have yp : ∀ i, i ≤ b → ((i < b ∧ (b < c ∨ (0 < uc ∧ ¬ (i = 0 ∧ c + 1 = m)))) ∨ (0 < ub ∧ b + 1 ≤ c ∧ (b + 1 < c ∨ (0 < uc ∧ ¬ (i = 0 ∧ c + 1 = m))))) → 0 < dt3 (wr q m i) B C := fun i ib hs => by
    rcases bc1 with z | z
    · refine sum_pos kb0 (by omega) ub0 (zn i b ib (by omega)) (zn i (b + 1) (by omega) z) ?_ (dt3_2 eb _ _)
      rcases hs with ⟨y1, y2⟩ | ⟨y1, y2, y3⟩
      · exact Or.inl ⟨lb0, zp i b y1 (by omega) y2⟩
      · exact Or.inr ⟨y1, zp i (b + 1) (by omega) y2 y3⟩
    · have e := dt3_2 eb (wr q m i) C
      rw [z, Int.zero_mul, Int.add_zero] at e
      rcases hs with ⟨y1, y2⟩ | ⟨y1, -⟩
      · exact sum_pos (m := 0) (y := 0) kb0 (by omega) (by omega) (zn i b ib (by omega)) (by omega) (Or.inl ⟨lb0, zp i b y1 (by omega) y2⟩) (by rw [e]; omega)
      · omega
  have ab1 : a + 1 ≤ b ∨ ua = 0 := by omega
  have fin : ((∃ hs : a ≤ b, 0 < dt3 (wr q m a) B C) ∨ (0 < ua ∧ a + 1 ≤ b ∧ 0 < dt3 (wr q m (a + 1)) B C)) → 0 < dt3 A B C := fun hs => by
    rcases ab1 with z | z
    · refine sum_pos ka0 (by omega) ua0 (yn a (by omega)) (yn (a + 1) z) ?_ (dt3_1 ea _ _)
      rcases hs with ⟨-, y⟩ | ⟨y1, -, y2⟩
      · exact Or.inl ⟨la0, y⟩
      · exact Or.inr ⟨y1, y2⟩
    · have e := dt3_1 ea B C
      rw [z, Int.zero_mul, Int.add_zero] at e
      rcases hs with ⟨-, y⟩ | ⟨y1, -⟩
      · exact sum_pos (m := 0) (y := 0) ka0 (by omega) (by omega) (by omega : 0 ≤ dt3 (wr q m a) B C) (by omega) (Or.inl ⟨la0, y⟩) (by rw [e]; omega)
      · omega
  rcases hab with hab | ⟨hab, ha0, hb1⟩
  · rcases hbc with hbc | ⟨hbc, hb0, hc1⟩
    · exact fin (Or.inl ⟨by omega, yp a (by omega) (Or.inl ⟨hab, Or.inl hbc⟩)⟩)
    · -- B is q b, C on the way from it
      by_cases w : a = 0 ∧ c + 1 = m
      · -- C is on the way to q 0, which is outside; so A is not q 0
        have fb := fb0 hb0
        have fc := fc1 hc1
        have ua1 : 0 < ua := by
          by_cases z : 0 < ua
          · exact z
          · exfalso
            have := fa0 (by omega)
            rw [w.2, hf, ← hbc] at fc
            rw [w.1] at this
            omega
        refine fin (Or.inr ⟨ua1, by omega, yp (a + 1) (by omega) ?_⟩)
        exact Or.inl ⟨by omega, Or.inr ⟨hc1, by omega⟩⟩
      · exact fin (Or.inl ⟨by omega, yp a (by omega) (Or.inl ⟨hab, Or.inr ⟨hc1, w⟩⟩)⟩)
  · -- A is q a, B on the way from it
    have fa := fa0 ha0
    have fb := fb1 hb1
    have bc : b < c := by omega
    refine fin (Or.inl ⟨by omega, yp a (by omega) (Or.inr ⟨hb1, by omega, ?_⟩)⟩)
    by_cases w : b + 1 < c
    · exact Or.inl w
    · right
      have ec' : c = b + 1 := by omega
      refine ⟨?_, by omega⟩
      by_cases z : 0 < uc
      · exact z
      · exfalso
        have := fc0 (by omega)
        rw [ec'] at this
        rw [← hab] at fb this
        omega
