/-! ===== the pure side 47: a ground's corners in the model's measure ===== -/
/-- two points are the same -/
def sm (p q : Pt) : Prop := p.1 * q.2.2 = q.1 * p.2.2 ∧ p.2.1 * q.2.2 = q.2.1 * p.2.2
theorem sm.symm {p q : Pt} (h : sm p q) : sm q p := ⟨h.1.symm, h.2.symm⟩
theorem sm.refl (p : Pt) : sm p p := ⟨rfl, rfl⟩
theorem smt_id (a b c x y z : Int) (h1 : a * y = b * x) (h2 : b * z = c * y) : y * (a * z) = y * (c * x) := by grind
theorem mul_cancel {k a b : Int} (hk : 0 < k) (h : k * a = k * b) : a = b := Int.eq_of_mul_eq_mul_left (by omega) h
theorem sm.trans {p q r : Pt} (hq : 0 < q.2.2) (h1 : sm p q) (h2 : sm q r) : sm p r := ⟨mul_cancel hq (smt_id _ _ _ _ _ _ h1.1 h2.1), mul_cancel hq (smt_id _ _ _ _ _ _ h1.2 h2.2)⟩
theorem sm.cm {p q : Pt} (h : sm p q) : cmb q.2.2 p p.2.2 q 0 q := ⟨by rw [Int.mul_comm, h.1, Int.mul_comm]; omega, by rw [Int.mul_comm, h.2, Int.mul_comm]; omega, by rw [Int.mul_comm]; omega⟩
theorem sm.flx {p q : Pt} (h : sm p q) (L : Pt) : q.2.2 * fl L p = p.2.2 * fl L q := by
  have := fl_lin h.cm L
  omega
theorem sm.fl0 {p q L : Pt} (hp : 0 < p.2.2) (hq : 0 < q.2.2) (h : sm p q) : fl L p = 0 ↔ fl L q = 0 := by
  have e := h.flx L
  constructor
  · intro z
    rw [z] at e
    exact zero_mul_pos hp (by rw [← e]; omega)
  · intro z
    rw [z] at e
    exact zero_mul_pos hq (by rw [e]; omega)
theorem sm.dt {p q : Pt} (hq : 0 < q.2.2) (h : sm p q) (r : Pt) : dt3 p q r = 0 := by
  have e := dt3_1 h.cm q r
  rw [dt3_aa] at e
  exact zero_mul_pos hq (by rw [e]; omega)
theorem SCv.cyc {q : Nat → Pt} {m a b : Nat} (h : SCv q m) (ha : a < m) (hb : b < m) (n1 : b ≠ a) (n2 : b ≠ nxi m a) : 0 < dt3 (q a) (q (nxi m a)) (q b) := by
  unfold nxi at n2 ⊢
  by_cases c : a + 1 < m
  · rw [if_pos c] at n2 ⊢
    by_cases d : b < a
    · rw [← dt3_rot (q b)]
      exact h b a (a + 1) d (by omega) c
    · exact h a (a + 1) b (by omega) (by omega) hb
  · rw [if_neg c] at n2 ⊢
    rw [dt3_rot]
    exact h 0 b a (by omega) (by omega) ha
theorem dt3_swap (p q r : Pt) : dt3 p q r = - dt3 p r q := by unfold dt3; grind
theorem SCv.ne {q : Nat → Pt} {m a b c : Nat} (h : SCv q m) (ha : a < m) (hb : b < m) (hc : c < m) (ab : a ≠ b) (bc : b ≠ c) (ac : a ≠ c) : dt3 (q a) (q b) (q c) ≠ 0 := by
  have r1 := dt3_rot (q a) (q b) (q c)
  have r2 := dt3_rot (q b) (q c) (q a)
  have s1 := dt3_swap (q a) (q b) (q c)
  have r3 := dt3_rot (q a) (q c) (q b)
  have r4 := dt3_rot (q c) (q b) (q a)
  rcases (by omega : (a < b ∧ b < c) ∨ (b < c ∧ c < a) ∨ (c < a ∧ a < b) ∨ (a < c ∧ c < b) ∨ (c < b ∧ b < a) ∨ (b < a ∧ a < c)) with ⟨x, y⟩ | ⟨x, y⟩ | ⟨x, y⟩ | ⟨x, y⟩ | ⟨x, y⟩ | ⟨x, y⟩
  · have := h _ _ _ x y hc; omega
  · have := h _ _ _ x y ha; omega
  · have := h _ _ _ x y hb; omega
  · have := h _ _ _ x y hb; omega
  · have := h _ _ _ x y ha; omega
  · have := h _ _ _ x y hc; omega
/-- what the corners of a ground are: Ln its nl lines -/
def GV (Ln : Nat → Pt) (LS : Nat → Prop) (Q : Nat → Pt) (m : Nat) : Prop :=
  (∀ i, i < m → 0 < (Q i).2.2) ∧ (∀ l, LS l → nzL (Ln l)) ∧ (∀ l, LS l → ∀ i, i < m → 0 ≤ fl (Ln l) (Q i)) ∧
  (∀ p : Pt, 0 < p.2.2 → (∀ l, LS l → 0 ≤ fl (Ln l) p) → HU Q m p) ∧ TT Ln LS Q m ∧
  (∀ a b, a < m → b < m → sm (Q a) (Q b) → a = b) ∧
  (∀ a, a < m → 2 ≤ m → ∃ l, LS l ∧ fl (Ln l) (Q a) = 0 ∧ fl (Ln l) (Q (nxi m a)) = 0 ∧ 0 < dr (Ln l) (Q a) (Q (nxi m a))) ∧
  (∀ l, LS l → ∀ a b, a < m → b < m → fl (Ln l) (Q a) = 0 → fl (Ln l) (Q b) = 0 → 0 < dr (Ln l) (Q a) (Q b) → b = nxi m a) ∧
  (∀ l, LS l → ∀ a b c, a < m → b < m → c < m → a ≠ b → b ≠ c → a ≠ c → fl (Ln l) (Q a) = 0 → fl (Ln l) (Q b) = 0 → fl (Ln l) (Q c) = 0 → False)
theorem GV.of {Ln : Nat → Pt} {LS : Nat → Prop} {q : Nat → Pt} {E : Nat → Nat} {m : Nat} (hO : OUT Ln LS q E m) (hT : TT Ln LS q m) (hn : ∀ l, LS l → nzL (Ln l)) : GV Ln LS q m := by
  obtain ⟨h1, h2, h3, h4, h5⟩ := hO
  refine ⟨h1, hn, h2, h3, hT, fun a b ha hb hs => ?_, fun a ha m2 => ?_, fun l hl a b ha hb za zb d => ?_, fun l hl a b c ha hb hc ab bc ac za zb zc => ?_⟩
  · by_cases e : a = b
    · exact e
    · exfalso
      by_cases m3 : 3 ≤ m
      · obtain ⟨c, c1, c2, c3⟩ : ∃ c, c < m ∧ b ≠ c ∧ a ≠ c := by
          by_cases x0 : a ≠ 0 ∧ b ≠ 0
          · exact ⟨0, by omega, by omega, by omega⟩
          · by_cases x1 : a ≠ 1 ∧ b ≠ 1
            · exact ⟨1, by omega, by omega, by omega⟩
            · exact ⟨2, by omega, by omega, by omega⟩
        exact (h4 m3).1.ne ha hb c1 e c2 c3 (hs.dt (h1 b hb) _)
      · have m2 : m = 2 := by omega
        obtain ⟨x, -⟩ := h5 m2
        rcases (by omega : (a = 0 ∧ b = 1) ∨ (a = 1 ∧ b = 0)) with ⟨y, z⟩ | ⟨y, z⟩
        · rw [y, z] at hs
          rcases x with x | x
          · exact x hs.1
          · exact x hs.2
        · rw [y, z] at hs
          rcases x with x | x
          · exact x hs.1.symm
          · exact x hs.2.symm
  · by_cases m3 : 3 ≤ m
    · obtain ⟨sc, ed⟩ := h4 m3
      obtain ⟨e1, e2, e3⟩ := ed a ha
      exact ⟨_, e1, e2, e3, edge_dr m3 sc (hn _ e1) ha e2 e3 (fun j hj => h2 _ e1 j hj)⟩
    · have m2' : m = 2 := by omega
      obtain ⟨-, -, l1, l2, x1, x2, x3, x4, x5, x6, x7, x8⟩ := h5 m2'
      rcases (by omega : a = 0 ∨ a = 1) with y | y
      · have : nxi m a = 1 := by unfold nxi; rw [if_pos (by omega), y]
        rw [this, y]
        exact ⟨l1, x1, x3, x4, x7⟩
      · have : nxi m a = 0 := by unfold nxi; rw [if_neg (by omega)]
        rw [this, y]
        exact ⟨l2, x2, x6, x5, by rw [dr_sw]; omega⟩
  · by_cases m3 : 3 ≤ m
    · by_cases e : b = nxi m a
      · exact e
      · exfalso
        have ab : b ≠ a := fun z => by rw [z, dr_aa] at d; omega
        have sc := (h4 m3).1
        have nm : nxi m a < m := nxi_lt (by omega)
        have p := sc.cyc ha hb ab e
        rw [dt3_swap] at p
        have i := dr_id za zb (q (nxi m a))
        have f := Int.mul_nonneg (show 0 ≤ dr (Ln l) (q a) (q b) by omega) (h2 l hl _ nm)
        have g := Int.mul_pos (hn l hl).pos (show 0 < - dt3 (q a) (q b) (q (nxi m a)) by omega)
        rw [Int.mul_neg] at g
        omega
    · have ab : b ≠ a := fun z => by rw [z, dr_aa] at d; omega
      unfold nxi
      split <;> omega
  · by_cases m3 : 3 ≤ m
    · exact (h4 m3).1.ne ha hb hc ab bc ac (three_on (hn l hl) za zb zc)
    · omega
/-- a point of the outline in the model's measure -/
def hf (p : Pt) : Pt := (p.1, p.2.1, 2 * p.2.2)
theorem flh_id (A B C a b c x y d ρ : Int) (h1 : A = ρ * a) (h2 : B = ρ * b) (h3 : 2 * C = ρ * c) : C * (2 * d) - A * x - B * y = ρ * (c * d - a * x - b * y) := by
  have : C * (2 * d) = (2 * C) * d := by grind
  rw [this, h1, h2, h3]
  grind
theorem drh_id (A B a b x y d x' y' d' ρ : Int) (h1 : A = ρ * a) (h2 : B = ρ * b) : (x' * (2 * d) - x * (2 * d')) * (-B) + (y' * (2 * d) - y * (2 * d')) * A = (2 * ρ) * ((x' * d - x * d') * (-b) + (y' * d - y * d') * a) := by
  rw [h1, h2]
  grind
theorem parh_id (A B A' B' a b a' b' ρ ρ' : Int) (h1 : A = ρ * a) (h2 : B = ρ * b) (h1' : A' = ρ' * a') (h2' : B' = ρ' * b') : A * B' - A' * B = (ρ * ρ') * (a * b' - a' * b) := by
  rw [h1, h2, h1', h2']
  grind
theorem GV.half {Ln Mn : Nat → Pt} {LS : Nat → Prop} {q : Nat → Pt} {m nl : Nat} {Lam : Nat → Nat} (h : GV Ln LS q m) (hL : ∀ i, i < nl → LS (Lam i) ∧ LM (Ln (Lam i)) (Mn i)) (hS : ∀ l, LS l → ∃ i, i < nl ∧ Lam i = l) : GV Mn (fun i => i < nl) (fun k => hf (q k)) m := by
  obtain ⟨h1, h2, h3, h4, h5, h6, h7, h8, h9⟩ := h
  have F : ∀ i, i < nl → ∃ ρ : Int, (ρ = 1 ∨ ρ = 2) ∧ (∀ p : Pt, fl (Mn i) (hf p) = ρ * fl (Ln (Lam i)) p) ∧ (∀ p p' : Pt, dr (Mn i) (hf p) (hf p') = (2 * ρ) * dr (Ln (Lam i)) p p') ∧ (Mn i).1 = ρ * (Ln (Lam i)).1 ∧ (Mn i).2.1 = ρ * (Ln (Lam i)).2.1 := fun i hi => by
    obtain ⟨-, ρ, r1, r2, r3, r4⟩ := hL i hi
    exact ⟨ρ, r1, fun p => flh_id _ _ _ _ _ _ _ _ _ _ r2 r3 r4, fun p p' => drh_id _ _ _ _ _ _ _ _ _ _ _ r2 r3, r2, r3⟩
  have Z : ∀ i, i < nl → ∀ p, fl (Mn i) (hf p) = 0 ↔ fl (Ln (Lam i)) p = 0 := fun i hi p => by
    obtain ⟨ρ, r1, r2, -⟩ := F i hi
    rw [r2]
    rcases r1 with z | z <;> rw [z] <;> omega
  refine ⟨fun i hi => ?_, fun l hl => ?_, fun l hl i hi => ?_, fun p p0 hp => ?_, fun k hk => ?_, fun a b ha hb hs => ?_, fun a ha m2 => ?_, fun l hl a b ha hb za zb d => ?_, fun l hl a b c ha hb hc ab bc ac za zb zc => ?_⟩
  · have := h1 i hi
    show 0 < 2 * (q i).2.2
    omega
  · obtain ⟨ρ, r1, -, -, r2, r3⟩ := F l hl
    have := h2 _ (hL l hl).1
    unfold nzL at *
    rw [r2, r3]
    rcases r1 with z | z <;> rw [z] <;> omega
  · obtain ⟨ρ, r1, r2, -⟩ := F l hl
    have := h3 _ (hL l hl).1 i hi
    rw [r2]
    rcases r1 with z | z <;> rw [z] <;> omega
  · obtain ⟨i, j, k, hi, hj, hk, a, b, c, s, a0, b0, c0, s0, e1, e2, e3⟩ := h4 (2 * p.1, 2 * p.2.1, p.2.2) p0 (fun l hl => by
      obtain ⟨i, i1, i2⟩ := hS l hl
      obtain ⟨-, ρ, r1, r2, r3, r4⟩ := hL i i1
      have f := hp i i1
      rw [i2] at r2 r3 r4
      have e : 2 * fl (Mn i) p = ρ * fl (Ln l) (2 * p.1, 2 * p.2.1, p.2.2) := by
        have := flh_id _ _ _ _ _ _ (2 * p.1) (2 * p.2.1) p.2.2 ρ r2 r3 r4
        unfold fl
        dsimp only
        rw [← this]
        grind
      rcases r1 with z | z <;> rw [z] at e <;> omega)
    dsimp only at e1 e2 e3
    refine ⟨i, j, k, hi, hj, hk, a, b, c, 2 * s, a0, b0, c0, by omega, ?_, ?_, ?_⟩
    · show 2 * s * p.1 = a * (q i).1 + b * (q j).1 + c * (q k).1
      rw [← e1]; grind
    · show 2 * s * p.2.1 = a * (q i).2.1 + b * (q j).2.1 + c * (q k).2.1
      rw [← e2]; grind
    · show 2 * s * p.2.2 = a * (2 * (q i).2.2) + b * (2 * (q j).2.2) + c * (2 * (q k).2.2)
      have : 2 * s * p.2.2 = 2 * (s * p.2.2) := by grind
      rw [this, e3]; grind
  · obtain ⟨l1, l2, a1, a2, a3, a4, a5⟩ := h5 k hk
    obtain ⟨i1, b1, c1⟩ := hS l1 a1
    obtain ⟨i2, b2, c2⟩ := hS l2 a2
    obtain ⟨ρ, r1, -, -, r2, r3⟩ := F i1 b1
    obtain ⟨ρ', s1, -, -, s2, s3⟩ := F i2 b2
    refine ⟨i1, i2, b1, b2, (Z i1 b1 _).mpr (by rw [c1]; exact a3), (Z i2 b2 _).mpr (by rw [c2]; exact a4), ?_⟩
    unfold par at *
    rw [parh_id _ _ _ _ _ _ _ _ _ _ r2 r3 s2 s3, c1, c2]
    rcases r1 with z | z <;> rcases s1 with y | y <;> rw [z, y] <;> omega
  · refine h6 a b ha hb ⟨?_, ?_⟩
    · have : (q a).1 * (2 * (q b).2.2) = (q b).1 * (2 * (q a).2.2) := hs.1
      have e1 : (q a).1 * (2 * (q b).2.2) = 2 * ((q a).1 * (q b).2.2) := by grind
      have e2 : (q b).1 * (2 * (q a).2.2) = 2 * ((q b).1 * (q a).2.2) := by grind
      omega
    · have : (q a).2.1 * (2 * (q b).2.2) = (q b).2.1 * (2 * (q a).2.2) := hs.2
      have e1 : (q a).2.1 * (2 * (q b).2.2) = 2 * ((q a).2.1 * (q b).2.2) := by grind
      have e2 : (q b).2.1 * (2 * (q a).2.2) = 2 * ((q b).2.1 * (q a).2.2) := by grind
      omega
  · obtain ⟨l, a1, a2, a3, a4⟩ := h7 a ha m2
    obtain ⟨i, b1, c1⟩ := hS l a1
    obtain ⟨ρ, r1, -, r2, -⟩ := F i b1
    refine ⟨i, b1, (Z i b1 _).mpr (by rw [c1]; exact a2), (Z i b1 _).mpr (by rw [c1]; exact a3), ?_⟩
    rw [r2, c1]
    rcases r1 with z | z <;> rw [z] <;> omega
  · obtain ⟨ρ, r1, -, r2, -⟩ := F l hl
    rw [r2] at d
    refine h8 _ (hL l hl).1 a b ha hb ((Z l hl _).mp za) ((Z l hl _).mp zb) ?_
    rcases r1 with z | z <;> rw [z] at d <;> omega
  · exact h9 _ (hL l hl).1 a b c ha hb hc ab bc ac ((Z l hl _).mp za) ((Z l hl _).mp zb) ((Z l hl _).mp zc)
