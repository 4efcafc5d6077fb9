/-! ===== the pure side 22: nets, as such ===== -/
/-- joined by pipes below t -/
def Rl (p : Nat → Bool) (K : Nat → Nat → Int) (t : Int) (u v : Nat) : Prop := ∀ S : Nat → Prop, S u → (∀ x y, x < 24 → y < 24 → p x = true → p y = true → x ≠ y → S x → K x y < t → S y) → S v
def TE (p : Nat → Bool) (K : Nat → Nat → Int) (u v : Nat) : Prop := u < 24 ∧ v < 24 ∧ p u = true ∧ p v = true ∧ u ≠ v ∧ ¬ Rl p K (K u v) u v
/-- joined by pipes of C up to m -/
def RT (p : Nat → Bool) (K : Nat → Nat → Int) (C : Int → Prop) (m : Int) (u v : Nat) : Prop := ∀ S : Nat → Prop, S u → (∀ x y, x < 24 → y < 24 → p x = true → p y = true → x ≠ y → S x → C (K x y) → K x y ≤ m → S y) → S v
theorem RT.sym {p : Nat → Bool} {K : Nat → Nat → Int} {C : Int → Prop} {m : Int} {u v : Nat} (hs : ∀ x y, K x y = K y x) (h : RT p K C m u v) : RT p K C m v u := by
  intro S hv hS
  by_cases q : S u
  · exact q
  · exact absurd hv (h (fun x => ¬ S x) q (fun x y hx hy px py hne nx cx kx sy => nx (hS y x hy hx py px (fun e => hne e.symm) sy (by rw [hs]; exact cx) (by rw [hs]; exact kx))))
theorem RT.mono {p : Nat → Bool} {K : Nat → Nat → Int} {C C' : Int → Prop} {m m' : Int} {u v : Nat} (h : RT p K C m u v) (hC : ∀ x, C x → C' x) (hm : m ≤ m') : RT p K C' m' u v := fun S hu hS => h S hu (fun x y hx hy px py hne sx cx kx => hS x y hx hy px py hne sx (hC _ cx) (by omega))
theorem RT.trans {p : Nat → Bool} {K : Nat → Nat → Int} {C : Int → Prop} {m : Int} {u v w : Nat} (h : RT p K C m u v) (h2 : RT p K C m v w) : RT p K C m u w := fun S hu hS => h2 S (h S hu hS) hS
theorem RT.refl {p : Nat → Bool} {K : Nat → Nat → Int} {C : Int → Prop} {m : Int} {u : Nat} : RT p K C m u u := fun _ hu _ => hu
theorem RT.edge {p : Nat → Bool} {K : Nat → Nat → Int} {C : Int → Prop} {m : Int} {u v : Nat} (hu : u < 24) (hv : v < 24) (pu : p u = true) (pv : p v = true) (hne : u ≠ v) (c : C (K u v)) (k : K u v ≤ m) : RT p K C m u v := fun _ su hS => hS u v hu hv pu pv hne su c k
theorem Rl.sym {p : Nat → Bool} {K : Nat → Nat → Int} {t : Int} {u v : Nat} (hs : ∀ x y, K x y = K y x) (h : Rl p K t u v) : Rl p K t v u := by
  intro S hv hS
  by_cases q : S u
  · exact q
  · exact absurd hv (h (fun x => ¬ S x) q (fun x y hx hy px py hne nx kx sy => nx (hS y x hy hx py px (fun e => hne e.symm) sy (by rw [hs]; exact kx))))
theorem Rl.trans {p : Nat → Bool} {K : Nat → Nat → Int} {t : Int} {u v w : Nat} (h : Rl p K t u v) (h2 : Rl p K t v w) : Rl p K t u w := fun S hu hS => h2 S (h S hu hS) hS
theorem Rl.refl {p : Nat → Bool} {K : Nat → Nat → Int} {t : Int} {u : Nat} : Rl p K t u u := fun _ hu _ => hu
theorem Rl.edge {p : Nat → Bool} {K : Nat → Nat → Int} {t : Int} {u v : Nat} (hu : u < 24) (hv : v < 24) (pu : p u = true) (pv : p v = true) (hne : u ≠ v) (k : K u v < t) : Rl p K t u v := fun _ su hS => hS u v hu hv pu pv hne su k
/-- growing from one well -/
def PI (p : Nat → Bool) (K : Nat → Nat → Int) (D : Nat → Prop) (C : Int → Prop) : Prop :=
  (∀ x, C x → ∃ u v, TE p K u v ∧ D u ∧ D v ∧ x = K u v) ∧
  (∀ a b, a < 24 → b < 24 → p a = true → p b = true → D a → D b → RT p K C (K a b) a b) ∧
  (∀ m a b, a < 24 → b < 24 → p a = true → p b = true → D a → D b → (∃ w, w < 24 ∧ p w = true ∧ ¬ D w ∧ K a w ≤ m) → (∃ w, w < 24 ∧ p w = true ∧ ¬ D w ∧ K b w ≤ m) → RT p K C m a b)
theorem PI.init {p : Nat → Bool} {K : Nat → Nat → Int} {D : Nat → Prop} {C : Int → Prop} {w0 : Nat} (hD : ∀ w, w < 24 → p w = true → D w → w = w0) (hC : ∀ x, ¬ C x) : PI p K D C := by
  refine ⟨fun x hx => absurd hx (hC x), fun a b ha hb pa pb da db => ?_, fun m a b ha hb pa pb da db _ _ => ?_⟩
  · rw [hD a ha pa da, hD b hb pb db]; exact RT.refl
  · rw [hD a ha pa da, hD b hb pb db]; exact RT.refl
theorem PI.step {p : Nat → Bool} {K : Nat → Nat → Int} {D D' : Nat → Prop} {C C' : Int → Prop} {u v : Nat} (hs : ∀ x y, K x y = K y x) (h : PI p K D C) (hu : u < 24) (hv : v < 24) (pu : p u = true) (pv : p v = true) (du : D u) (dv : ¬ D v) (hmin : ∀ a w, a < 24 → w < 24 → p a = true → p w = true → D a → ¬ D w → K u v ≤ K a w) (hD : ∀ w, w < 24 → p w = true → (D' w ↔ (D w ∨ w = v))) (hC : ∀ x, C' x ↔ (C x ∨ x = K u v)) : PI p K D' C' := by
  obtain ⟨k1, k2, k3⟩ := h
  have hne : u ≠ v := fun e => by rw [e] at du; exact dv du
  have mono : ∀ x, C x → C' x := fun x hx => (hC x).mpr (Or.inl hx)
  have ed : ∀ m, K u v ≤ m → RT p K C' m u v := fun m hm => RT.edge hu hv pu pv hne ((hC _).mpr (Or.inr rfl)) hm
  have q2 : ∀ a, a < 24 → p a = true → D a → RT p K C' (K a v) a v := fun a ha pa da => by
    have m1 := hmin a v ha hv pa pv da dv
    exact ((k3 (K a v) a u ha hu pa pu da du ⟨v, hv, pv, dv, Int.le_refl _⟩ ⟨v, hv, pv, dv, m1⟩).mono mono (Int.le_refl _)).trans (ed _ m1)
  have q3 : ∀ m b, b < 24 → p b = true → D b → (∃ w, w < 24 ∧ p w = true ∧ ¬ D w ∧ K b w ≤ m) → RT p K C' m b v := fun m b hb pb db hw => by
    obtain ⟨w, hw1, pw, dw, kw⟩ := hw
    have m1 := hmin b w hb hw1 pb pw db dw
    exact ((k3 m b u hb hu pb pu db du ⟨w, hw1, pw, dw, kw⟩ ⟨v, hv, pv, dv, by omega⟩).mono mono (Int.le_refl _)).trans (ed _ (by omega))
  have low : ∀ m a, (∃ w, w < 24 ∧ p w = true ∧ ¬ D' w ∧ K a w ≤ m) → ∃ w, w < 24 ∧ p w = true ∧ ¬ D w ∧ K a w ≤ m := fun m a z => by
    obtain ⟨w, hw1, pw, dw, kw⟩ := z
    exact ⟨w, hw1, pw, fun y => dw ((hD w hw1 pw).mpr (Or.inl y)), kw⟩
  refine ⟨fun x hx => ?_, fun a b ha hb pa pb da db => ?_, fun m a b ha hb pa pb da db wa wb => ?_⟩
  · rcases (hC x).mp hx with z | z
    · obtain ⟨a, b, t, da, db, e⟩ := k1 x z
      exact ⟨a, b, t, (hD a t.1 t.2.2.1).mpr (Or.inl da), (hD b t.2.1 t.2.2.2.1).mpr (Or.inl db), e⟩
    · refine ⟨u, v, ⟨hu, hv, pu, pv, hne, fun r => ?_⟩, (hD u hu pu).mpr (Or.inl du), (hD v hv pv).mpr (Or.inr rfl), z⟩
      have := r (fun x => x < 24 ∧ p x = true ∧ D x) ⟨hu, pu, du⟩ (fun x y hx hy px py _ sx kx => by
        refine ⟨hy, py, ?_⟩
        by_cases q : D y
        · exact q
        · have := hmin x y hx hy px py sx.2.2 q
          omega)
      exact dv this.2.2
  · rcases (hD a ha pa).mp da with z | z
    · rcases (hD b hb pb).mp db with y | y
      · exact (k2 a b ha hb pa pb z y).mono mono (Int.le_refl _)
      · rw [y]; exact q2 a ha pa z
    · rcases (hD b hb pb).mp db with y | y
      · rw [z, hs]; exact (q2 b hb pb y).sym hs
      · rw [z, y]; exact RT.refl
  · rcases (hD a ha pa).mp da with z | z
    · rcases (hD b hb pb).mp db with y | y
      · exact (k3 m a b ha hb pa pb z y (low m a wa) (low m b wb)).mono mono (Int.le_refl _)
      · rw [y]; exact q3 m a ha pa z (low m a wa)
    · rcases (hD b hb pb).mp db with y | y
      · rw [z]; exact (q3 m b hb pb y (low m b wb)).sym hs
      · rw [z, y]; exact RT.refl
/-- all its pipes are there: the net is the one of all pipes that no lesser ones replace -/
theorem PI.all {p : Nat → Bool} {K : Nat → Nat → Int} {D : Nat → Prop} {C : Int → Prop} (hi : ∀ u v x y, u < 24 → v < 24 → x < 24 → y < 24 → K u v = K x y → (u = x ∧ v = y) ∨ (u = y ∧ v = x)) (h : PI p K D C) (hD : ∀ w, w < 24 → p w = true → D w) (x : Int) : C x ↔ ∃ u v, TE p K u v ∧ x = K u v := by
  obtain ⟨k1, k2, -⟩ := h
  constructor
  · intro hx
    obtain ⟨u, v, t, -, -, e⟩ := k1 x hx
    exact ⟨u, v, t, e⟩
  · rintro ⟨u, v, ⟨hu, hv, pu, pv, hne, t⟩, e⟩
    by_cases q : C x
    · exact q
    · exfalso
      refine t (fun S su hS => ?_)
      refine k2 u v hu hv pu pv (hD u hu pu) (hD v hv pv) S su (fun a b ha hb pa pb ab sa ca ka => hS a b ha hb pa pb ab sa ?_)
      by_cases z : K a b < K u v
      · exact z
      · have : K a b = K u v := by omega
        rw [this, ← e] at ca
        exact absurd ca q
/-- taken from the shortest on -/
def KR (p : Nat → Bool) (K : Nat → Nat → Int) (pc : Nat → Int) (C : Int → Prop) (l : Int) : Prop :=
  (∀ u v, u < 24 → v < 24 → p u = true → p v = true → pc u = pc v → ∀ t, l < t → Rl p K t u v) ∧
  (∀ u v, u < 24 → v < 24 → p u = true → p v = true → pc u ≠ pc v → l < K u v) ∧
  (∀ u v, u < 24 → v < 24 → p u = true → p v = true → u ≠ v → pc u = pc v → C (K u v) ∨ Rl p K (K u v) u v) ∧
  (∀ x, C x → ∃ u v, TE p K u v ∧ x = K u v) ∧ (∀ x, C x → x ≤ l)
theorem KR.step {p : Nat → Bool} {K : Nat → Nat → Int} {pc pc' : Nat → Int} {C C' : Int → Prop} {l : Int} {a b : Nat} (hs : ∀ x y, K x y = K y x) (hi : ∀ u v x y, u < 24 → v < 24 → x < 24 → y < 24 → K u v = K x y → (u = x ∧ v = y) ∨ (u = y ∧ v = x)) (h : KR p K pc C l) (ha : a < 24) (hb : b < 24) (pa : p a = true) (pb : p b = true) (hab : pc a ≠ pc b) (hmin : ∀ u v, u < 24 → v < 24 → p u = true → p v = true → pc u ≠ pc v → K a b ≤ K u v) (hpc : ∀ w, w < 24 → pc' w = if pc w = pc b then pc a else pc w) (hC : ∀ x, C' x ↔ (C x ∨ x = K a b)) : KR p K pc' C' (K a b) := by
  obtain ⟨k1, k2, k3, k4, k5⟩ := h
  have hne : a ≠ b := fun e => hab (by rw [e])
  have l0 := k2 a b ha hb pa pb hab
  -- same piece after: same before, or one in each
  have cases_ : ∀ u v, u < 24 → v < 24 → pc' u = pc' v → pc u = pc v ∨ (pc u = pc a ∧ pc v = pc b) ∨ (pc u = pc b ∧ pc v = pc a) := by
    intro u v hu hv e
    rw [hpc u hu, hpc v hv] at e
    by_cases c1 : pc u = pc b
    · by_cases c2 : pc v = pc b
      · exact Or.inl (by rw [c1, c2])
      · rw [if_pos c1, if_neg c2] at e
        exact Or.inr (Or.inr ⟨c1, e.symm⟩)
    · by_cases c2 : pc v = pc b
      · rw [if_neg c1, if_pos c2] at e
        exact Or.inr (Or.inl ⟨e, c2⟩)
      · rw [if_neg c1, if_neg c2] at e
        exact Or.inl e
  have j1 : ∀ u v, u < 24 → v < 24 → p u = true → p v = true → pc u = pc a → pc v = pc b → ∀ t, K a b < t → Rl p K t u v := fun u v hu hv pu pv eu ev t ht =>
    ((k1 u a hu ha pu pa eu t (by omega)).trans (Rl.edge ha hb pa pb hne ht)).trans (k1 b v hb hv pb pv ev.symm t (by omega))
  have cross : ∀ u v, u < 24 → v < 24 → pc' u ≠ pc' v → pc u ≠ pc v := fun u v hu hv z e => z (by rw [hpc u hu, hpc v hv, e])
  refine ⟨fun u v hu hv pu pv e t ht => ?_, fun u v hu hv pu pv z => ?_, fun u v hu hv pu pv uv e => ?_, fun x hx => ?_, fun x hx => ?_⟩
  · rcases cases_ u v hu hv e with z | ⟨z1, z2⟩ | ⟨z1, z2⟩
    · exact k1 u v hu hv pu pv z t (by omega)
    · exact j1 u v hu hv pu pv z1 z2 t ht
    · exact (j1 v u hv hu pv pu z2 z1 t ht).sym hs
  · have z' := cross u v hu hv z
    have m1 := hmin u v hu hv pu pv z'
    by_cases q : K a b = K u v
    · exfalso
      have mv : ∀ w, w < 24 → (pc w = pc a ∨ pc w = pc b) → pc' w = pc a := fun w hw y => by
        rw [hpc w hw]
        rcases y with y | y
        · rw [if_neg (by rw [y]; exact hab), y]
        · rw [if_pos y]
      rcases hi a b u v ha hb hu hv q with ⟨y1, y2⟩ | ⟨y1, y2⟩
      · exact z (by rw [mv u hu (Or.inl (by rw [y1])), mv v hv (Or.inr (by rw [y2]))])
      · exact z (by rw [mv u hu (Or.inr (by rw [y2])), mv v hv (Or.inl (by rw [y1]))])
    · omega
  · have big : ∀ u v, u < 24 → v < 24 → p u = true → p v = true → pc u = pc a → pc v = pc b → C' (K u v) ∨ Rl p K (K u v) u v := fun u v hu hv pu pv eu ev => by
      have m1 := hmin u v hu hv pu pv (by rw [eu, ev]; exact hab)
      by_cases q : K a b = K u v
      · exact Or.inl ((hC _).mpr (Or.inr q.symm))
      · exact Or.inr (j1 u v hu hv pu pv eu ev _ (by omega))
    rcases cases_ u v hu hv e with z | ⟨z1, z2⟩ | ⟨z1, z2⟩
    · rcases k3 u v hu hv pu pv uv z with y | y
      · exact Or.inl ((hC _).mpr (Or.inl y))
      · exact Or.inr y
    · exact big u v hu hv pu pv z1 z2
    · rcases big v u hv hu pv pu z2 z1 with y | y
      · rw [hs u v]; exact Or.inl y
      · rw [hs u v]; exact Or.inr (y.sym hs)
  · rcases (hC x).mp hx with z | z
    · exact k4 x z
    · refine ⟨a, b, ⟨ha, hb, pa, pb, hne, fun r => ?_⟩, z⟩
      have := r (fun x => x < 24 ∧ p x = true ∧ pc x = pc a) ⟨ha, pa, rfl⟩ (fun x y hx hy px py _ sx kx => by
        refine ⟨hy, py, ?_⟩
        by_cases q : pc x = pc y
        · rw [← q]; exact sx.2.2
        · have := hmin x y hx hy px py q
          omega)
      exact hab this.2.2.symm
  · rcases (hC x).mp hx with z | z
    · have := k5 x z
      omega
    · omega
theorem KR.all {p : Nat → Bool} {K : Nat → Nat → Int} {pc : Nat → Int} {C : Int → Prop} {l : Int} (h : KR p K pc C l) (hE : ∀ u v, u < 24 → v < 24 → p u = true → p v = true → pc u = pc v) (x : Int) : C x ↔ ∃ u v, TE p K u v ∧ x = K u v := by
  obtain ⟨-, -, k3, k4, -⟩ := h
  refine ⟨k4 x, ?_⟩
  rintro ⟨u, v, ⟨hu, hv, pu, pv, hne, t⟩, e⟩
  rcases k3 u v hu hv pu pv hne (hE u v hu hv pu pv) with y | y
  · rw [e]; exact y
  · exact absurd y t
def asc (f : Nat → Int) (n : Nat) : Prop := ∀ i j, i < j → j < n → f i < f j
theorem asc_one {f g : Nat → Int} {n m : Nat} (hf : asc f n) (hg : asc g m) (h : ∀ x, (∃ i, i < n ∧ f i = x) ↔ ∃ i, i < m ∧ g i = x) : n = m ∧ ∀ i, i < n → f i = g i := by
  have key : ∀ i, (i < n → i < m ∧ f i = g i) ∧ (i < m → i < n ∧ f i = g i) := by
    intro i
    induction i using Nat.strongRecOn with
    | ind i ih =>
      have s1 : i < n → ∃ j, j < m ∧ i ≤ j ∧ g j = f i := fun hi => by
        obtain ⟨j, hj, e⟩ := (h (f i)).mp ⟨i, hi, rfl⟩
        refine ⟨j, hj, ?_, e⟩
        by_cases c : i ≤ j
        · exact c
        · have := ((ih j (by omega)).1 (by omega)).2
          have := hf j i (by omega) hi
          omega
      have s2 : i < m → ∃ j, j < n ∧ i ≤ j ∧ f j = g i := fun hi => by
        obtain ⟨j, hj, e⟩ := (h (g i)).mpr ⟨i, hi, rfl⟩
        refine ⟨j, hj, ?_, e⟩
        by_cases c : i ≤ j
        · exact c
        · have := ((ih j (by omega)).1 (by omega)).2
          have := hg j i (by omega) hi
          omega
      have eqn : i < n → i < m → f i = g i := fun hn hm => by
        obtain ⟨j, hj, ij, e⟩ := s1 hn
        obtain ⟨k, hk, ik, e2⟩ := s2 hm
        have g1 : g i ≤ g j := by
          by_cases c : i = j
          · rw [c]; omega
          · have := hg i j (by omega) hj
            omega
        have g2 : f i ≤ f k := by
          by_cases c : i = k
          · rw [c]; omega
          · have := hf i k (by omega) hk
            omega
        omega
      refine ⟨fun hi => ?_, fun hi => ?_⟩
      · obtain ⟨j, hj, ij, -⟩ := s1 hi
        exact ⟨by omega, eqn hi (by omega)⟩
      · obtain ⟨j, hj, ij, -⟩ := s2 hi
        exact ⟨by omega, eqn (by omega) hi⟩
  refine ⟨?_, fun i hi => ((key i).1 hi).2⟩
  by_cases c : n < m
  · have := ((key n).2 c).1
    omega
  · by_cases c2 : m < n
    · have := ((key m).1 c2).1
      omega
    · omega
