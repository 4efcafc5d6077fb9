/-! ===== the pure side 36: the three kinds of cuts ===== -/
theorem dr_ne {L p q : Pt} (h : dr L p q ≠ 0) : p.1 * q.2.2 ≠ q.1 * p.2.2 ∨ p.2.1 * q.2.2 ≠ q.2.1 * p.2.2 := by
  by_cases c : p.1 * q.2.2 = q.1 * p.2.2 ∧ p.2.1 * q.2.2 = q.2.1 * p.2.2
  · exfalso
    apply h
    unfold dr
    rw [← c.1, ← c.2]
    grind
  · by_cases d : p.1 * q.2.2 = q.1 * p.2.2
    · exact Or.inr (fun z => c ⟨d, z⟩)
    · exact Or.inl d
theorem OUT.touch {Ln : Nat → Pt} {LS LS' : Nat → Prop} {q q' : Nat → Pt} {E E' g : Nat → Nat} {m n l : Nat} (h : OUT Ln LS q E m) (hn : ∀ k, LS' k → nzL (Ln k)) (hL : ∀ k, LS' k ↔ (LS k ∨ k = l)) (hf : ∀ i, i < m → fl (Ln l) (q i) ≤ 0) (ho : ∃ i, i < m ∧ fl (Ln l) (q i) < 0) (hg : ∀ k, k < n → g k < m ∧ fl (Ln l) (q (g k)) = 0 ∧ q' k = q (g k) ∧ E' k = l) (hi : ∀ a b, a < b → b < n → g a < g b) (hc : ∀ i, i < m → fl (Ln l) (q i) = 0 → ∃ k, k < n ∧ g k = i) : n ≤ 2 ∧ OUT Ln LS' q' E' n := by
  obtain ⟨h1, h2, h3, h4, h5⟩ := h
  have up : ∀ k, LS k → LS' k := fun k z => (hL k).mpr (Or.inl z)
  have ll : LS' l := (hL l).mpr (Or.inr rfl)
  have n2 : n ≤ 2 := by
    by_cases c : n ≤ 2
    · exact c
    · exfalso
      have a1 := hi 0 1 (by omega) (by omega)
      have a2 := hi 1 2 (by omega) (by omega)
      have b2 := (hg 2 (by omega)).1
      have sc := (h4 (by omega)).1 (g 0) (g 1) (g 2) a1 a2 b2
      rw [three_on (hn l ll) (hg 0 (by omega)).2.1 (hg 1 (by omega)).2.1 (hg 2 (by omega)).2.1] at sc
      omega
  refine ⟨n2, fun k hk => ?_, fun k hk i hi' => ?_, fun p p0 hp => ?_, fun m3 => by omega, fun e2 => ?_⟩
  · rw [(hg k hk).2.2.1]; exact h1 _ (hg k hk).1
  · rw [(hg i hi').2.2.1]
    rcases (hL k).mp hk with z | z
    · exact h2 k z _ (hg i hi').1
    · rw [z, (hg i hi').2.1]; omega
  · refine HU.on (h3 p p0 (fun k hk => hp k (up k hk))) hf (hp l ll) (fun i hi' e => ?_) p0
    obtain ⟨k, k1, k2⟩ := hc i hi' e
    exact ⟨k, k1, by rw [(hg k k1).2.2.1, k2]⟩
  · subst e2
    have ij := hi 0 1 (by omega) (by omega)
    obtain ⟨gi, zi, qi, ei⟩ := hg 0 (by omega)
    obtain ⟨gj, zj, qj, ej⟩ := hg 1 (by omega)
    -- there is a third point
    have m3 : 3 ≤ m := by
      by_cases c : 3 ≤ m
      · exact c
      · exfalso
        obtain ⟨i, i1, i2⟩ := ho
        rcases (by omega : i = g 0 ∨ i = g 1) with z | z
        · rw [z, zi] at i2; omega
        · rw [z, zj] at i2; omega
    obtain ⟨sc, ed⟩ := h4 m3
    rw [qi, qj]
    generalize g 0 = i at *
    generalize g 1 = j at *
    have pos := (hn l ll).pos
    have neg : ∀ k, k < m → k ≠ i → k ≠ j → fl (Ln l) (q k) < 0 := by
      intro k hk ki kj
      have := hf k hk
      by_cases z : fl (Ln l) (q k) = 0
      · exfalso
        obtain ⟨t, t1, t2⟩ := hc k hk z
        have : t = 0 ∨ t = 1 := by omega
        have e0 := three_on (hn l ll) zi zj z
        rcases (by omega : k < i ∨ (i < k ∧ k < j) ∨ j < k) with y | y | y
        · have := sc k i j y ij gj
          rw [dt3_rot, e0] at this
          omega
        · have s := sc i k j y.1 y.2 gj
          have : dt3 (q i) (q k) (q j) = - dt3 (q i) (q j) (q k) := by unfold dt3; grind
          omega
        · have := sc i j k ij y hk
          omega
      · omega
    have id := fun k => dr_id zi zj (q k)
    by_cases nb_ : j = i + 1
    · -- the edge from i
      obtain ⟨e1, e2, e3⟩ := ed i gi
      have nx : nxi m i = j := by unfold nxi; rw [if_pos (by omega), nb_]
      have d1 := edge_dr m3 sc (hn _ (up _ e1)) gi e2 e3 (h2 _ e1)
      rw [nx] at d1 e3
      obtain ⟨k, hk, ki, kj, pk⟩ : ∃ k, k < m ∧ k ≠ i ∧ k ≠ j ∧ 0 < dt3 (q i) (q j) (q k) := by
        by_cases c : j + 1 < m
        · exact ⟨j + 1, c, by omega, by omega, sc i j (j + 1) ij (by omega) c⟩
        · exact ⟨0, by omega, by omega, by omega, by rw [← dt3_rot (q 0)]; exact sc 0 i j (by omega) ij gj⟩
      have fk := neg k hk ki kj
      have p1 := Int.mul_pos pos pk
      have i1 := id k
      have d2 : dr (Ln l) (q i) (q j) < 0 := by
        by_cases c : dr (Ln l) (q i) (q j) < 0
        · exact c
        · have := Int.mul_nonneg (show 0 ≤ dr (Ln l) (q i) (q j) by omega) (show 0 ≤ - fl (Ln l) (q k) by omega)
          rw [Int.mul_neg] at this
          omega
      exact ⟨dr_ne (L := Ln l) (by omega), fun t ht => by
        have : E' t = l := (hg t ht).2.2.2
        rw [this]; exact ⟨ll, zi, zj⟩, E i, l, up _ e1, ll, e2, e3, zi, zj, d1, d2⟩
    · -- a point between: then i is the first and j the last
      have bt : dt3 (q i) (q j) (q (i + 1)) < 0 := by
        have s := sc i (i + 1) j (by omega) (by omega) gj
        have : dt3 (q i) (q (i + 1)) (q j) = - dt3 (q i) (q j) (q (i + 1)) := by unfold dt3; grind
        omega
      have fk := neg (i + 1) (by omega) (by omega) (by omega)
      have d2 : 0 < dr (Ln l) (q i) (q j) := by
        have i1 := id (i + 1)
        by_cases c : 0 < dr (Ln l) (q i) (q j)
        · exact c
        · have := Int.mul_nonneg (show 0 ≤ - dr (Ln l) (q i) (q j) by omega) (show 0 ≤ - fl (Ln l) (q (i + 1)) by omega)
          rw [Int.mul_neg, Int.neg_mul] at this
          have := Int.mul_pos pos (show 0 < - dt3 (q i) (q j) (q (i + 1)) by omega)
          rw [Int.mul_neg] at this
          omega
      have out : ∀ k, k < m → k < i ∨ j < k → False := by
        intro k hk z
        have pk : 0 < dt3 (q i) (q j) (q k) := by
          rcases z with z | z
          · rw [← dt3_rot (q k)]; exact sc k i j z ij gj
          · exact sc i j k ij z hk
        have fk := neg k hk (by omega) (by omega)
        have i1 := id k
        have p1 := Int.mul_pos pos pk
        have := Int.mul_pos d2 (show 0 < - fl (Ln l) (q k) by omega)
        rw [Int.mul_neg] at this
        omega
      have i0 : i = 0 := by
        by_cases c : i = 0
        · exact c
        · exact (out 0 (by omega) (by omega)).elim
      have jm : j + 1 = m := by
        by_cases c : j + 1 = m
        · exact c
        · exact (out (j + 1) (by omega) (by omega)).elim
      obtain ⟨e1, e2, e3⟩ := ed j gj
      have nx : nxi m j = i := by unfold nxi; rw [if_neg (by omega), i0]
      have d1 := edge_dr m3 sc (hn _ (up _ e1)) gj e2 e3 (h2 _ e1)
      rw [nx] at d1 e3
      have d1' : dr (Ln (E j)) (q i) (q j) < 0 := by
        have : dr (Ln (E j)) (q i) (q j) = - dr (Ln (E j)) (q j) (q i) := by unfold dr; grind
        omega
      exact ⟨dr_ne (L := Ln l) (by omega), fun t ht => by
        have : E' t = l := (hg t ht).2.2.2
        rw [this]; exact ⟨ll, zi, zj⟩, l, E j, ll, up _ e1, zi, zj, e3, e2, d2, d1'⟩
theorem dr_1 {k a b : Int} {N p q : Pt} (h : cmb k N a p b q) (L r : Pt) : k * dr L N r = a * dr L p r + b * dr L q r := by
  obtain ⟨h1, h2, h3⟩ := h
  unfold dr
  have e : k * ((r.1 * N.2.2 - N.1 * r.2.2) * (- L.2.1) + (r.2.1 * N.2.2 - N.2.1 * r.2.2) * L.1) = (r.1 * (k * N.2.2) - (k * N.1) * r.2.2) * (- L.2.1) + (r.2.1 * (k * N.2.2) - (k * N.2.1) * r.2.2) * L.1 := by grind
  rw [e, h1, h2, h3]
  grind
theorem dr_aa (L p : Pt) : dr L p p = 0 := by unfold dr; grind
theorem dr_sw (L p q : Pt) : dr L p q = - dr L q p := by unfold dr; grind
/-- a piece of a line, cut: A stays, B goes, C is between them -/
theorem HU.piece {q q' : Nat → Pt} {p L A B C : Pt} {k a b : Int} (h : HU q 2 p) (hq : (q 0 = A ∧ q 1 = B) ∨ (q 0 = B ∧ q 1 = A)) (hk : 0 < k) (ha : 0 < a) (hb : 0 < b) (hC : cmb k C a A b B) (fA : 0 < fl L A) (fC : fl L C = 0) (fp : 0 ≤ fl L p) (hq' : (q' 0 = A ∧ q' 1 = C) ∨ (q' 0 = C ∧ q' 1 = A)) : HU q' 2 p := by
  -- p from A and B
  have two : ∃ x y s : Int, 0 ≤ x ∧ 0 ≤ y ∧ 0 < s ∧ cmb s p x A y B := by
    obtain ⟨i, j, t, hi, hj, ht, u, v, w, s, u0, v0, w0, s0, e1, e2, e3⟩ := h
    have one : ∀ i, i < 2 → (q i = A ∨ q i = B) := fun i hi => by
      rcases (by omega : i = 0 ∨ i = 1) with z | z <;> rcases hq with y | y <;> rw [z] <;> simp [y.1, y.2]
    rcases one i hi with z1 | z1 <;> rcases one j hj with z2 | z2 <;> rcases one t ht with z3 | z3 <;> rw [z1, z2, z3] at e1 e2 e3
    · exact ⟨u + v + w, 0, s, by omega, by omega, s0, by rw [e1]; grind, by rw [e2]; grind, by rw [e3]; grind⟩
    · exact ⟨u + v, w, s, by omega, by omega, s0, by rw [e1]; grind, by rw [e2]; grind, by rw [e3]; grind⟩
    · exact ⟨u + w, v, s, by omega, by omega, s0, by rw [e1]; grind, by rw [e2]; grind, by rw [e3]; grind⟩
    · exact ⟨u, v + w, s, by omega, by omega, s0, by rw [e1]; grind, by rw [e2]; grind, by rw [e3]; grind⟩
    · exact ⟨v + w, u, s, by omega, by omega, s0, by rw [e1]; grind, by rw [e2]; grind, by rw [e3]; grind⟩
    · exact ⟨v, u + w, s, by omega, by omega, s0, by rw [e1]; grind, by rw [e2]; grind, by rw [e3]; grind⟩
    · exact ⟨w, u + v, s, by omega, by omega, s0, by rw [e1]; grind, by rw [e2]; grind, by rw [e3]; grind⟩
    · exact ⟨0, u + v + w, s, by omega, by omega, s0, by rw [e1]; grind, by rw [e2]; grind, by rw [e3]; grind⟩
  obtain ⟨x, y, s, x0, y0, s0, hp⟩ := two
  have l1 := fl_lin hp L
  have l2 := fl_lin hC L
  rw [fC, Int.mul_zero] at l2
  have nn : 0 ≤ x * b - y * a := by
    have z := Int.mul_nonneg (show 0 ≤ s by omega) fp
    have z2 := Int.mul_nonneg (show 0 ≤ b by omega) z
    rw [l1] at z2
    have e : b * (x * fl L A + y * fl L B) = (x * b - y * a) * fl L A := by
      have : b * fl L B = - (a * fl L A) := by omega
      have e2 : b * (x * fl L A + y * fl L B) = b * x * fl L A + y * (b * fl L B) := by grind
      rw [e2, this]
      grind
    rw [e, Int.mul_comm] at z2
    exact pos_mul fA z2
  obtain ⟨c1, c2, c3⟩ := hC
  obtain ⟨p1, p2, p3⟩ := hp
  have yk := Int.mul_nonneg y0 (show 0 ≤ k by omega)
  have sb := Int.mul_pos s0 hb
  have com : s * b * p.1 = (x * b - y * a) * A.1 + y * k * C.1 ∧ s * b * p.2.1 = (x * b - y * a) * A.2.1 + y * k * C.2.1 ∧ s * b * p.2.2 = (x * b - y * a) * A.2.2 + y * k * C.2.2 := by
    refine ⟨?_, ?_, ?_⟩
    · have e1 : s * b * p.1 = b * (s * p.1) := by grind
      have e2 : y * k * C.1 = y * (k * C.1) := by grind
      rw [e1, e2, p1, c1]; grind
    · have e1 : s * b * p.2.1 = b * (s * p.2.1) := by grind
      have e2 : y * k * C.2.1 = y * (k * C.2.1) := by grind
      rw [e1, e2, p2, c2]; grind
    · have e1 : s * b * p.2.2 = b * (s * p.2.2) := by grind
      have e2 : y * k * C.2.2 = y * (k * C.2.2) := by grind
      rw [e1, e2, p3, c3]; grind
  obtain ⟨d1, d2, d3⟩ := com
  rcases hq' with ⟨z1, z2⟩ | ⟨z1, z2⟩
  · exact ⟨0, 1, 1, by omega, by omega, by omega, x * b - y * a, y * k, 0, s * b, nn, yk, by omega, sb, by rw [z1, z2, d1]; omega, by rw [z1, z2, d2]; omega, by rw [z1, z2, d3]; omega⟩
  · exact ⟨1, 0, 0, by omega, by omega, by omega, x * b - y * a, y * k, 0, s * b, nn, yk, by omega, sb, by rw [z1, z2, d1]; omega, by rw [z1, z2, d2]; omega, by rw [z1, z2, d3]; omega⟩
theorem OUT.piece {Ln : Nat → Pt} {LS LS' : Nat → Prop} {q q' : Nat → Pt} {E E' : Nat → Nat} {l : Nat} {A B C : Pt} {k a b : Int} (h : OUT Ln LS q E 2) (hL : ∀ k, LS' k ↔ (LS k ∨ k = l)) (hq : (q 0 = A ∧ q 1 = B) ∨ (q 0 = B ∧ q 1 = A)) (hk : 0 < k) (ha : 0 < a) (hb : 0 < b) (hC : cmb k C a A b B) (fA : 0 < fl (Ln l) A) (fC : fl (Ln l) C = 0) (hq' : (q 0 = A ∧ q' 0 = A ∧ q' 1 = C) ∨ (q 0 = B ∧ q' 0 = C ∧ q' 1 = A)) (hE : ∀ i, i < 2 → E' i = E i) : OUT Ln LS' q' E' 2 := by
  obtain ⟨h1, h2, h3, -, h5⟩ := h
  have up : ∀ k, LS k → LS' k := fun k z => (hL k).mpr (Or.inl z)
  have ll : LS' l := (hL l).mpr (Or.inr rfl)
  have AB : 0 < A.2.2 ∧ 0 < B.2.2 ∧ ∀ m, LS m → 0 ≤ fl (Ln m) A ∧ 0 ≤ fl (Ln m) B := by
    have a0 := h1 0 (by omega)
    have a1 := h1 1 (by omega)
    rcases hq with ⟨z1, z2⟩ | ⟨z1, z2⟩
    · rw [z1] at a0; rw [z2] at a1
      exact ⟨a0, a1, fun m hm => ⟨by rw [← z1]; exact h2 m hm 0 (by omega), by rw [← z2]; exact h2 m hm 1 (by omega)⟩⟩
    · rw [z1] at a0; rw [z2] at a1
      exact ⟨a1, a0, fun m hm => ⟨by rw [← z2]; exact h2 m hm 1 (by omega), by rw [← z1]; exact h2 m hm 0 (by omega)⟩⟩
  obtain ⟨A0, B0, ABf⟩ := AB
  have C0 : 0 < C.2.2 := by
    have := Int.mul_pos ha A0
    have := Int.mul_pos hb B0
    exact pos_mul' hk (by rw [hC.2.2]; omega)
  have Cf : ∀ m, LS m → 0 ≤ fl (Ln m) C := fun m hm => sum_nn hk (by omega) (by omega) (ABf m hm).1 (ABf m hm).2 (fl_lin hC _)
  have Cz : ∀ m, fl (Ln m) A = 0 → fl (Ln m) B = 0 → fl (Ln m) C = 0 := fun m z1 z2 => by
    have := fl_lin hC (Ln m)
    rw [z1, z2] at this
    exact zero_mul_pos hk (by rw [this]; omega)
  have hq2 : (q' 0 = A ∧ q' 1 = C) ∨ (q' 0 = C ∧ q' 1 = A) := by
    rcases hq' with z | z
    · exact Or.inl z.2
    · exact Or.inr z.2
  have two : ∀ i, i < 2 → q' i = A ∨ q' i = C := fun i hi => by
    rcases (by omega : i = 0 ∨ i = 1) with z | z <;> rcases hq2 with y | y <;> rw [z] <;> simp [y.1, y.2]
  refine ⟨fun i hi => ?_, fun m hm i hi => ?_, fun p p0 hp => HU.piece (h3 p p0 (fun k hk => hp k (up k hk))) hq hk ha hb hC fA fC (hp l ll) hq2, fun z => by omega, fun _ => ?_⟩
  · rcases two i hi with z | z <;> rw [z]
    · exact A0
    · exact C0
  · rcases (hL m).mp hm with y | y
    · rcases two i hi with z | z <;> rw [z]
      · exact (ABf m y).1
      · exact Cf m y
    · rcases two i hi with z | z <;> rw [z, y]
      · omega
      · omega
  · obtain ⟨-, g2, l1, l2, g3, g4, g5, g6, g7, g8, g9, g10⟩ := h5 rfl
    have zz : ∀ m, fl (Ln m) (q 0) = 0 → fl (Ln m) (q 1) = 0 → fl (Ln m) (q' 0) = 0 ∧ fl (Ln m) (q' 1) = 0 := fun m z1 z2 => by
      have ab : fl (Ln m) A = 0 ∧ fl (Ln m) B = 0 := by
        rcases hq with ⟨y1, y2⟩ | ⟨y1, y2⟩ <;> rw [y1] at z1 <;> rw [y2] at z2
        · exact ⟨z1, z2⟩
        · exact ⟨z2, z1⟩
      have c := Cz m ab.1 ab.2
      rcases hq2 with ⟨y1, y2⟩ | ⟨y1, y2⟩ <;> rw [y1, y2]
      · exact ⟨ab.1, c⟩
      · exact ⟨c, ab.1⟩
    have dd : ∀ m, (0 < dr (Ln m) (q 0) (q 1) → 0 < dr (Ln m) (q' 0) (q' 1)) ∧ (dr (Ln m) (q 0) (q 1) < 0 → dr (Ln m) (q' 0) (q' 1) < 0) := fun m => by
      have e1 := dr_1 hC (Ln m) A
      rw [dr_aa, Int.mul_zero, Int.zero_add] at e1
      have pos : 0 < dr (Ln m) B A → 0 < dr (Ln m) C A := fun z => pos_mul' hk (by rw [e1]; exact Int.mul_pos hb z)
      have neg : dr (Ln m) B A < 0 → dr (Ln m) C A < 0 := fun z => by
        have := Int.mul_pos hb (show 0 < - dr (Ln m) B A by omega)
        rw [Int.mul_neg] at this
        have z2 : 0 < k * (- dr (Ln m) C A) := by rw [Int.mul_neg]; omega
        have := pos_mul' hk z2
        omega
      have s1 := dr_sw (Ln m) A B
      have s2 := dr_sw (Ln m) A C
      rcases hq' with ⟨y1, y2, y3⟩ | ⟨y1, y2, y3⟩
      · have y4 : q 1 = B := by
          rcases hq with z | z
          · exact z.2
          · rw [y1] at z
            rw [z.2]; exact z.1
        rw [y1, y4, y2, y3]
        constructor
        · intro z; have := neg (by omega); omega
        · intro z; have := pos (by omega); omega
      · have y4 : q 1 = A := by
          rcases hq with z | z
          · rw [y1] at z
            rw [z.2]; exact z.1
          · exact z.2
        rw [y1, y4, y2, y3]
        exact ⟨pos, neg⟩
    refine ⟨dr_ne (L := Ln l1) (by have := (dd l1).1 g9; omega), fun i hi => ?_, l1, l2, up _ g3, up _ g4, (zz l1 g5 g6).1, (zz l1 g5 g6).2, (zz l2 g7 g8).1, (zz l2 g7 g8).2, (dd l1).1 g9, (dd l2).2 g10⟩
    rw [hE i hi]
    obtain ⟨t1, t2, t3⟩ := g2 i hi
    exact ⟨up _ t1, zz _ t2 t3⟩
/-- round a ring -/
theorem cyc_all {m : Nat} {Q : Nat → Prop} (hs : ∀ i, i < m → Q i → Q (nxi m i)) {i0 : Nat} (h0 : i0 < m) (q0 : Q i0) : ∀ j, j < m → Q j := by
  have go : ∀ k i, i + k < m → Q i → Q (i + k) := by
    intro k
    induction k with
    | zero => intro i _ q; exact q
    | succ k ih =>
      intro i hi q
      have := hs (i + k) (by omega) (ih i (by omega) q)
      unfold nxi at this
      rw [if_pos (by omega)] at this
      exact this
  have last : Q (m - 1) := by
    have := go (m - 1 - i0) i0 (by omega) q0
    rw [show i0 + (m - 1 - i0) = m - 1 by omega] at this
    exact this
  have z : Q 0 := by
    have := hs (m - 1) (by omega) last
    unfold nxi at this
    rw [if_neg (by omega)] at this
    exact this
  intro j hj
  have := go j 0 (by omega) z
  rw [Nat.zero_add] at this
  exact this
theorem wr_nx {q : Nat → Pt} {m i : Nat} (h : i < m) : wr q m (i + 1) = q (nxi m i) := by
  unfold nxi
  by_cases c : i + 1 < m
  · rw [if_pos c, wr_lt c]
  · rw [if_neg c, show i + 1 = m by omega, wr_m]
/-- a ring, cut -/
theorem OUT.ring {Ln : Nat → Pt} {LS LS' : Nat → Prop} {q N : Nat → Pt} {E E' S : Nat → Nat} {l_ u : Nat → Int} {m n l : Nat} (h : OUT Ln LS q E m) (hm : 3 ≤ m) (hn : ∀ k, LS' k → nzL (Ln k)) (hL : ∀ k, LS' k ↔ (LS k ∨ k = l)) (hin : ∃ i, i < m ∧ 0 < fl (Ln l) (q i)) (hout : ∃ i, i < m ∧ fl (Ln l) (q i) < 0) (hK : ∀ k, k < n → KP q (fun i => fl (Ln l) (wr q m i)) m (N k) (S k) (l_ k) (u k)) (hO : ∀ a b, a < b → b < n → KO (S a) (u a) (S b) (u b)) (c1 : ∀ i, i < m → 0 ≤ fl (Ln l) (q i) → ∃ k, k < n ∧ S k = i ∧ u k = 0) (c2 : ∀ i, i < m → (0 < fl (Ln l) (q i) ∧ fl (Ln l) (q (nxi m i)) < 0) ∨ (fl (Ln l) (q i) < 0 ∧ 0 < fl (Ln l) (q (nxi m i))) → ∃ k, k < n ∧ S k = i ∧ 0 < u k) (hf : ∀ k, k < n → 0 ≤ fl (Ln l) (N k)) (hE : ∀ k, k < n → LS' (E' k) ∧ fl (Ln (E' k)) (N k) = 0 ∧ fl (Ln (E' k)) (N (nxi n k)) = 0) : 3 ≤ n ∧ OUT Ln LS' N E' n := by
  obtain ⟨h1, h2, h3, h4, -⟩ := h
  obtain ⟨sc, ed⟩ := h4 hm
  have up : ∀ k, LS k → LS' k := fun k z => (hL k).mpr (Or.inl z)
  have fm : fl (Ln l) (wr q m m) = fl (Ln l) (wr q m 0) := by rw [wr_m, wr_lt (by omega)]
  -- three points at least
  have n3 : 3 ≤ n := by
    obtain ⟨i0, i1, i2⟩ := hin
    obtain ⟨j0, j1, j2⟩ := hout
    have A : ∃ i, i < m ∧ 0 < fl (Ln l) (q i) ∧ fl (Ln l) (q (nxi m i)) ≤ 0 := by
      by_cases z : ∃ i, i < m ∧ 0 < fl (Ln l) (q i) ∧ fl (Ln l) (q (nxi m i)) ≤ 0
      · exact z
      · exfalso
        have := cyc_all (Q := fun i => 0 < fl (Ln l) (q i)) (fun i hi qi => by
          by_cases y : 0 < fl (Ln l) (q (nxi m i))
          · exact y
          · exact absurd ⟨i, hi, qi, by omega⟩ z) i1 i2 j0 j1
        omega
    have B : ∃ i, i < m ∧ fl (Ln l) (q i) < 0 ∧ 0 ≤ fl (Ln l) (q (nxi m i)) := by
      by_cases z : ∃ i, i < m ∧ fl (Ln l) (q i) < 0 ∧ 0 ≤ fl (Ln l) (q (nxi m i))
      · exact z
      · exfalso
        have := cyc_all (Q := fun i => fl (Ln l) (q i) < 0) (fun i hi qi => by
          by_cases y : fl (Ln l) (q (nxi m i)) < 0
          · exact y
          · exact absurd ⟨i, hi, qi, by omega⟩ z) j1 j2 i0 i1
        omega
    obtain ⟨a, a1, a2, a3⟩ := A
    obtain ⟨b, b1, b2, b3⟩ := B
    obtain ⟨kc, kc1, kc2, kc3⟩ := c1 i0 i1 (by omega)
    -- the points that come from a and from b
    obtain ⟨ka, ka1, ka2⟩ : ∃ k, k < n ∧ ((S k = a ∧ 0 < u k) ∨ (S k = nxi m a ∧ u k = 0 ∧ fl (Ln l) (q (nxi m a)) = 0)) := by
      by_cases z : fl (Ln l) (q (nxi m a)) = 0
      · obtain ⟨k, y1, y2, y3⟩ := c1 (nxi m a) (nxi_lt (by omega)) (by omega)
        exact ⟨k, y1, Or.inr ⟨y2, y3, z⟩⟩
      · obtain ⟨k, y1, y2, y3⟩ := c2 a a1 (Or.inl ⟨a2, by omega⟩)
        exact ⟨k, y1, Or.inl ⟨y2, y3⟩⟩
    obtain ⟨kb, kb1, kb2⟩ : ∃ k, k < n ∧ ((S k = b ∧ 0 < u k) ∨ (S k = nxi m b ∧ u k = 0 ∧ fl (Ln l) (q (nxi m b)) = 0)) := by
      by_cases z : fl (Ln l) (q (nxi m b)) = 0
      · obtain ⟨k, y1, y2, y3⟩ := c1 (nxi m b) (nxi_lt (by omega)) (by omega)
        exact ⟨k, y1, Or.inr ⟨y2, y3, z⟩⟩
      · obtain ⟨k, y1, y2, y3⟩ := c2 b b1 (Or.inr ⟨b2, by omega⟩)
        exact ⟨k, y1, Or.inl ⟨y2, y3⟩⟩
    have nxinj : nxi m a = nxi m b → a = b := by
      unfold nxi
      split <;> split <;> omega
    have d1 : ka ≠ kb := fun e => by
      rw [e] at ka2
      rcases ka2 with ⟨y1, y2⟩ | ⟨y1, y2, y3⟩
      · rcases kb2 with ⟨z1, z2⟩ | ⟨z1, z2, z3⟩
        · rw [y1] at z1; rw [z1] at a2; omega
        · omega
      · rcases kb2 with ⟨z1, z2⟩ | ⟨z1, z2, z3⟩
        · omega
        · rw [y1] at z1
          have := nxinj z1
          rw [this] at a2; omega
    have d2 : ka ≠ kc := fun e => by
      rw [e] at ka2
      rcases ka2 with ⟨y1, y2⟩ | ⟨y1, y2, y3⟩
      · omega
      · rw [kc2] at y1; rw [← y1] at y3; omega
    have d3 : kb ≠ kc := fun e => by
      rw [e] at kb2
      rcases kb2 with ⟨y1, y2⟩ | ⟨y1, y2, y3⟩
      · omega
      · rw [kc2] at y1; rw [← y1] at y3; omega
    omega
  have sc' : SCv N n := fun i j k ij jk kn => KP.turn sc hm fm (hK i (by omega)) (hK j (by omega)) (hK k kn) (hO i j ij (by omega)) (hO j k jk kn)
  have q0 : ∀ i, i ≤ m → 0 < (wr q m i).2.2 := fun i hi => by
    unfold wr
    split
    · exact h1 0 (by omega)
    · exact h1 i (by omega)
  have qf : ∀ k, LS k → ∀ i, i ≤ m → 0 ≤ fl (Ln k) (wr q m i) := fun k hk i hi => by
    unfold wr
    split
    · exact h2 k hk 0 (by omega)
    · exact h2 k hk i (by omega)
  have N0 : ∀ k, k < n → 0 < (N k).2.2 := fun k hk => by
    obtain ⟨s1, s2, s3, ⟨c, c0, e1, e2, e3⟩, -⟩ := hK k hk
    exact sum_pos c0 (by omega) s3 (by have := q0 (S k) (by omega); omega) (by have := q0 (S k + 1) (by omega); omega) (Or.inl ⟨s2, q0 (S k) (by omega)⟩) e3
  have Nf : ∀ k, LS' k → ∀ i, i < n → 0 ≤ fl (Ln k) (N i) := fun k hk i hi => by
    rcases (hL k).mp hk with z | z
    · obtain ⟨s1, s2, s3, ⟨c, c0, e⟩, -⟩ := hK i hi
      exact sum_nn c0 (by omega) s3 (qf k z (S i) (by omega)) (qf k z (S i + 1) (by omega)) (fl_lin e _)
    · rw [z]; exact hf i hi
  exact ⟨n3, N0, Nf, fun p _ hp => hull_of n3 hn sc' hE Nf hp, fun _ => ⟨sc', hE⟩, fun z => by omega⟩
