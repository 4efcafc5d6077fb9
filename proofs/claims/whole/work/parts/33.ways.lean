/-! ===== the pure side 13: the widest way, as such ===== -/
/-- w is reached from the sources within t -/
def rch (p : Nat → Bool) (d : Nat → Nat → Int) (a : Nat → Int) (t : Int) (w : Nat) : Prop := ∀ S : Nat → Prop, (∀ u, u < 24 → p u = true → a u ≤ t → S u) → (∀ u v, u < 24 → v < 24 → p u = true → p v = true → S u → d u v ≤ t → S v) → S w
def conn (p : Nat → Bool) (d : Nat → Nat → Int) (a b : Nat → Int) (t : Int) : Prop := ∃ w, w < 24 ∧ p w = true ∧ b w ≤ t ∧ rch p d a t w
theorem rch_src {p : Nat → Bool} {d : Nat → Nat → Int} {a : Nat → Int} {t : Int} {w : Nat} (hw : w < 24) (hp : p w = true) (h : a w ≤ t) : rch p d a t w := fun _ h1 _ => h1 w hw hp h
theorem rch_step {p : Nat → Bool} {d : Nat → Nat → Int} {a : Nat → Int} {t : Int} {u v : Nat} (hu : u < 24) (hv : v < 24) (pu : p u = true) (pv : p v = true) (h : rch p d a t u) (hd : d u v ≤ t) : rch p d a t v := fun S h1 h2 => h2 u v hu hv pu pv (h S h1 h2) hd
theorem rch_mono {p : Nat → Bool} {d : Nat → Nat → Int} {a : Nat → Int} {t t' : Int} {w : Nat} (h : rch p d a t w) (ht : t ≤ t') : rch p d a t' w := fun S h1 h2 => h S (fun u hu pu z => h1 u hu pu (by omega)) (fun u v hu hv pu pv su z => h2 u v hu hv pu pv su (by omega))
theorem conn_sym {p : Nat → Bool} {d : Nat → Nat → Int} {a b : Nat → Int} {t : Int} (hd : ∀ u v, d u v = d v u) (h : conn p d a b t) : conn p d b a t := by
  obtain ⟨w, hw, pw, bw, rw_⟩ := h
  by_cases q : conn p d b a t
  · exact q
  · have := rw_ (fun u => ¬ rch p d b t u) (fun u hu pu au z => q ⟨u, hu, pu, au, z⟩) (fun u v hu hv pu pv nu duv z => nu (rch_step hv hu pv pu z (by rw [hd v u]; exact duv)))
    exact absurd (rch_src hw pw bw) this
/-- what holds while wells are joined: those done, gaps of the others, values of those done, the best yet -/
def KI (p : Nat → Bool) (d : Nat → Nat → Int) (a b : Nat → Int) (L : Int) (D : Nat → Prop) (g va : Nat → Int) (best : Int) : Prop :=
  (∀ w, w < 24 → p w = true → ¬ D w → rch p d a (g w) w) ∧ (best = L ∨ conn p d a b best) ∧
  (∀ u v, u < 24 → v < 24 → p u = true → p v = true → D u → ¬ D v → g v ≤ va u ∨ g v ≤ d u v) ∧
  (∀ w, w < 24 → p w = true → ¬ D w → g w ≤ a w) ∧ (∀ w, w < 24 → p w = true → D w → va w ≤ a w) ∧
  (∀ u w, u < 24 → w < 24 → p u = true → p w = true → D u → ¬ D w → va u ≤ g w) ∧
  (∀ u v, u < 24 → v < 24 → p u = true → p v = true → D u → D v → va v ≤ va u ∨ va v ≤ d u v) ∧
  (∀ w, w < 24 → p w = true → D w → best ≤ va w ∨ best ≤ b w)
theorem KI.init {p : Nat → Bool} {d : Nat → Nat → Int} {a b : Nat → Int} {L : Int} {D : Nat → Prop} {g : Nat → Int} (hD : ∀ w, w < 24 → p w = true → ¬ D w) (hg : ∀ w, w < 24 → p w = true → g w = a w) : KI p d a b L D g g L := by
  refine ⟨fun w hw pw _ => rch_src hw pw (by rw [hg w hw pw]; omega), Or.inl rfl, fun u v hu hv pu pv du => absurd du (hD u hu pu), fun w hw pw _ => by rw [hg w hw pw]; omega, fun w hw pw dw => absurd dw (hD w hw pw), fun u w hu hw pu pw du => absurd du (hD u hu pu), fun u w hu hw pu pw du => absurd du (hD u hu pu), fun w hw pw dw => absurd dw (hD w hw pw)⟩
theorem KI.step {p : Nat → Bool} {d : Nat → Nat → Int} {a b : Nat → Int} {L : Int} {D D' : Nat → Prop} {g g' va : Nat → Int} {best best' : Int} {k : Nat} (h : KI p d a b L D g va best) (hk : k < 24) (pk : p k = true) (dk : ¬ D k) (hmin : ∀ w, w < 24 → p w = true → ¬ D w → g k ≤ g w) (hD : ∀ w, w < 24 → p w = true → (D' w ↔ (D w ∨ w = k))) (hg : ∀ w, w < 24 → p w = true → ¬ D' w → g' w ≤ g w ∧ (g' w ≤ g k ∨ g' w ≤ d k w) ∧ (g' w = g w ∨ (g k ≤ g' w ∧ d k w ≤ g' w))) (hb : best' ≤ best ∧ (best' ≤ g k ∨ best' ≤ b k) ∧ (best' = best ∨ (g k ≤ best' ∧ b k ≤ best'))) : KI p d a b L D' g' (fun w => if w = k then g k else va w) best' := by
  obtain ⟨k1, k2, k3, k4, k5, k6, k7, k8⟩ := h
  have out : ∀ w, w < 24 → p w = true → ¬ D' w → ¬ D w ∧ w ≠ k := fun w hw pw z => ⟨fun y => z ((hD w hw pw).mpr (Or.inl y)), fun y => z ((hD w hw pw).mpr (Or.inr y))⟩
  have hin : ∀ w, w < 24 → p w = true → D' w → w ≠ k → D w := fun w hw pw z y => by
    rcases (hD w hw pw).mp z with z | z
    · exact z
    · exact absurd z y
  refine ⟨?_, ?_, ?_, ?_, ?_, ?_, ?_, ?_⟩
  · intro w hw pw z
    obtain ⟨z1, z2⟩ := out w hw pw z
    rcases (hg w hw pw z).2.2 with y | ⟨y1, y2⟩
    · rw [y]; exact k1 w hw pw z1
    · exact rch_step hk hw pk pw (rch_mono (k1 k hk pk dk) y1) y2
  · rcases hb.2.2 with y | ⟨y1, y2⟩
    · rw [y]; exact k2
    · exact Or.inr ⟨k, hk, pk, y2, rch_mono (k1 k hk pk dk) y1⟩
  · intro u v hu hv pu pv du dv
    obtain ⟨z1, z2⟩ := out v hv pv dv
    obtain ⟨y1, y2, -⟩ := hg v hv pv dv
    dsimp only
    by_cases e : u = k
    · rw [if_pos e, e]; exact y2
    · rw [if_neg e]
      rcases k3 u v hu hv pu pv (hin u hu pu du e) z1 with y | y
      · left; omega
      · right; omega
  · intro w hw pw z
    obtain ⟨z1, z2⟩ := out w hw pw z
    have := k4 w hw pw z1
    have := (hg w hw pw z).1
    omega
  · intro w hw pw z
    dsimp only
    by_cases e : w = k
    · rw [if_pos e, e]; exact k4 k hk pk dk
    · rw [if_neg e]; exact k5 w hw pw (hin w hw pw z e)
  · intro u w hu hw pu pw du dw
    obtain ⟨z1, z2⟩ := out w hw pw dw
    obtain ⟨-, -, y⟩ := hg w hw pw dw
    dsimp only
    by_cases e : u = k
    · rw [if_pos e]
      rcases y with y | y
      · rw [y]; exact hmin w hw pw z1
      · exact y.1
    · rw [if_neg e]
      have du' := hin u hu pu du e
      rcases y with y | y
      · rw [y]; exact k6 u w hu hw pu pw du' z1
      · have := k6 u k hu hk pu pk du' dk
        omega
  · intro u v hu hv pu pv du dv
    dsimp only
    by_cases e : u = k
    · by_cases e2 : v = k
      · rw [if_pos e, if_pos e2]; left; omega
      · rw [if_pos e, if_neg e2]
        left
        exact k6 v k hv hk pv pk (hin v hv pv dv e2) dk
    · by_cases e2 : v = k
      · rw [if_neg e, if_pos e2, e2]
        exact k3 u k hu hk pu pk (hin u hu pu du e) dk
      · rw [if_neg e, if_neg e2]
        exact k7 u v hu hv pu pv (hin u hu pu du e) (hin v hv pv dv e2)
  · intro w hw pw z
    dsimp only
    by_cases e : w = k
    · rw [if_pos e, e]; exact hb.2.1
    · rw [if_neg e]
      rcases k8 w hw pw (hin w hw pw z e) with y | y
      · left; omega
      · right; omega
theorem KI.least {p : Nat → Bool} {d : Nat → Nat → Int} {a b : Nat → Int} {L : Int} {D : Nat → Prop} {g va : Nat → Int} {best : Int} (h : KI p d a b L D g va best) (hD : ∀ w, w < 24 → p w = true → D w) {t : Int} (ht : conn p d a b t) : best ≤ t := by
  obtain ⟨-, -, -, -, k5, -, k7, k8⟩ := h
  obtain ⟨w, hw, pw, bw, rw_⟩ := ht
  obtain ⟨-, -, s⟩ := rw_ (fun u => u < 24 ∧ p u = true ∧ va u ≤ t) (fun u hu pu au => ⟨hu, pu, by have := k5 u hu pu (hD u hu pu); omega⟩) (fun u v hu hv pu pv su duv => ⟨hv, pv, by
    rcases k7 u v hu hv pu pv (hD u hu pu) (hD v hv pv) with y | y
    · have := su.2.2
      omega
    · omega⟩)
  rcases k8 w hw pw (hD w hw pw) with y | y
  · omega
  · omega
/-- the least of the squares to some sides, four times -/
def sd (σ : St) (w s : Nat) : Int := if s = 0 then σ 4 w else if s = 1 then σ 1 0 - σ 3 w else if s = 2 then σ 1 1 - σ 4 w else σ 3 w
def isRim (σ : St) (w : Nat) (T : Nat → Bool) (r : Int) : Prop := (∃ s, s < 4 ∧ T s = true ∧ r = 4 * sd σ w s * sd σ w s) ∧ ∀ s, s < 4 → T s = true → r ≤ 4 * sd σ w s * sd σ w s
theorem isRim_one {σ : St} {w : Nat} {T : Nat → Bool} {r r' : Int} (h : isRim σ w T r) (h' : isRim σ w T r') : r = r' := by
  obtain ⟨⟨s, s1, s2, s3⟩, h2⟩ := h
  obtain ⟨⟨t, t1, t2, t3⟩, h4⟩ := h'
  have := h2 t t1 t2
  have := h4 s s1 s2
  omega
theorem Rw.sdr {σC σM : St} (h : Rw σC σM) {w : Nat} (hw : w < 24) (s : Nat) : 0 ≤ sd σC w s ∧ sd σC w s ≤ 1000 := by
  have w1 := h.1.1
  have w2 := h.1.2.1
  obtain ⟨-, -, r3, r4⟩ := h.1.rng hw
  unfold sd
  repeat' split
  all_goals omega
theorem sd4 {x : Int} (h : 0 ≤ x ∧ x ≤ 1000) : 0 ≤ 4 * x * x ∧ 4 * x * x ≤ 4000000 := by
  have := sq_bd (a := x) (A := 1000) (by omega) (by omega)
  have e : 4 * x * x = 4 * (x * x) := by grind
  omega
