/-! ===== the pure side 40: a ring cut, the component's loop ===== -/
/-- the loop has come to point i -/
def RI (β : St) (g o s l m : Nat) (LS' : Nat → Prop) (i : Nat) (μ : St) : Prop := (∀ k, k < s ∨ s + 4 < k → μ k = β k) ∧ ∃ (n : Nat) (S : Nat → Nat) (lw u : Nat → Int), μ s 0 = (n : Int) ∧ NL β μ g o s l m n LS' S lw u ∧ (∀ k, k < n → S k < i) ∧
  (∀ j, j < i → 0 ≤ fl (lnG β g l) (wr (ptO β o) m j) → ∃ k, k < n ∧ S k = j ∧ u k = 0) ∧
  (∀ j, j < i → (0 < fl (lnG β g l) (wr (ptO β o) m j) ∧ fl (lnG β g l) (wr (ptO β o) m (j + 1)) < 0) ∨ (fl (lnG β g l) (wr (ptO β o) m j) < 0 ∧ 0 < fl (lnG β g l) (wr (ptO β o) m (j + 1))) → ∃ k, k < n ∧ S k = j ∧ 0 < u k) ∧
  ct (fun k => decide (0 < fl (lnG β g l) (ptO μ s k))) n = ct (fun j => decide (0 < fl (lnG β g l) (wr (ptO β o) m j))) i ∧
  (∀ k, k + 1 = n → (fl (lnG β g l) (wr (ptO β o) m i) < 0 → (μ (s + 4) k).toNat = l) ∧ (0 ≤ fl (lnG β g l) (wr (ptO β o) m i) → fl (lnG β g (μ (s + 4) k).toNat) (wr (ptO β o) m i) = 0)) ∧
  (n = 0 → ∀ j, j < i → fl (lnG β g l) (wr (ptO β o) m j) < 0) ∧ (0 < n → (fl (lnG β g l) (wr (ptO β o) m 0) < 0 → fl (lnG β g l) (ptO μ s 0) = 0) ∧ (0 ≤ fl (lnG β g l) (wr (ptO β o) m 0) → ptO μ s 0 = ptO β o 0))
/-- one point more: the parts that do not look ahead -/
theorem NL.more {β μ : St} {g o s l m n : Nat} {LS' : Nat → Prop} {S : Nat → Nat} {lw u : Nat → Int} (h : NL β μ g o s l m n LS' S lw u) {P : Pt} {t lab : Nat} {a b : Int} (hP : okP P) (hK : KP (ptO β o) (fun i => fl (lnG β g l) (wr (ptO β o) m i)) m P t a b) (hl : lab < 28) (hL : LS' lab) (hz : fl (lnG β g lab) P = 0) (hf : 0 ≤ fl (lnG β g l) P) (hO : ∀ k, k < n → KO (S k) (u k) t b) (he : ∀ k, k + 1 = n → fl (lnG β g (μ (s + 4) k).toNat) P = 0) (hm : 3 ≤ m) (sc : SCv (ptO β o) m) (nl : nzL (lnG β g l)) {c : Nat} (hc : ct (fun k => decide (0 < fl (lnG β g l) (ptO μ s k))) n + (if 0 < fl (lnG β g l) P then 1 else 0) = c) (hcm : c + 1 ≤ m) (hm27 : m ≤ 27) : n < 28 ∧ n + 1 ≤ m + 1 ∧ NL β (addO μ s n P.1 P.2.1 P.2.2 (lab : Int)) g o s l m (n + 1) LS' (fun k => if k = n then t else S k) (fun k => if k = n then a else lw k) (fun k => if k = n then b else u k) ∧ ct (fun k => decide (0 < fl (lnG β g l) (ptO (addO μ s n P.1 P.2.1 P.2.2 (lab : Int)) s k))) (n + 1) = c := by
  have N1 := h.add hP hK hl hL hz hf hO he
  have eP : ∀ k, ptO (addO μ s n P.1 P.2.1 P.2.2 (lab : Int)) s k = if k = n then P else ptO μ s k := fun k => addO_pt
  have cc : ct (fun k => decide (0 < fl (lnG β g l) (ptO (addO μ s n P.1 P.2.1 P.2.2 (lab : Int)) s k))) n = ct (fun k => decide (0 < fl (lnG β g l) (ptO μ s k))) n := ct_cong (fun k hk => by
    rw [eP, if_neg (show k ≠ n by omega)])
  have c1 : ct (fun k => decide (0 < fl (lnG β g l) (ptO (addO μ s n P.1 P.2.1 P.2.2 (lab : Int)) s k))) (n + 1) = c := by
    by_cases z : 0 < fl (lnG β g l) P
    · rw [if_pos z] at hc
      rw [ct_t (by rw [eP, if_pos rfl]; exact decide_eq_true z), cc, hc]
    · rw [if_neg z] at hc
      rw [ct_f (by rw [eP, if_pos rfl]; exact decide_eq_false z), cc]
      exact hc
  have b := N1.bound hm sc nl
  rw [c1] at b
  exact ⟨by omega, by omega, N1, c1⟩
theorem ring_step {β μ : St} {g o s l m i : Nat} {LS LS' : Nat → Prop} (hpb : ∀ k, LS k → PB (lnG β g k) (lnG β g l)) (hG : GD g o s) (h4 : β g 4 = (o : Int)) (h5 : β g 5 = (s : Int)) (h0 : β o 0 = (m : Int)) (hm : 3 ≤ m) (hm27 : m ≤ 27) (h14 : ∀ i, i < m → β (g + 14) i = fl (lnG β g l) (ptO β o i)) (hLS : ∀ k, LS' k ↔ (LS k ∨ k = l)) (hln : ∀ k, LS' k → k < 28 ∧ okL (lnG β g k) ∧ nzL (lnG β g k)) (hP : ∀ i, i < m → okP (ptO β o i)) (hE : ∀ i, i < m → 0 ≤ β (o + 4) i ∧ β (o + 4) i < 28) (sc : SCv (ptO β o) m) (ed : ∀ i, i < m → LS (β (o + 4) i).toNat ∧ fl (lnG β g (β (o + 4) i).toNat) (ptO β o i) = 0 ∧ fl (lnG β g (β (o + 4) i).toNat) (ptO β o (nxi m i)) = 0) (hout : ∃ i, i < m ∧ fl (lnG β g l) (ptO β o i) < 0) (hi : i < m) (h : RI β g o s l m LS' i μ) : ∃ υ, f_X1_cutRing_b33 μ g (l : Int) (i : Int) ((nxi m i : Nat) : Int) = some (.inl (υ, ((i + 1 : Nat) : Int))) ∧ RI β g o s l m LS' (i + 1) υ := by
  obtain ⟨i1, n, S, lw, u, i2, i3, i4, i5, i6, i7, i8, i9, i10⟩ := h
  obtain ⟨n1, n2⟩ := hG.ln
  obtain ⟨m1, m2⟩ := hG.sw.ln
  have gb := hG.b
  have ll : LS' l := (hLS l).mpr (Or.inr rfl)
  obtain ⟨l28, lok, lnz⟩ := hln l ll
  have jm : nxi m i < m := nxi_lt (by omega)
  obtain ⟨e1, e2, e3⟩ := ed i hi
  obtain ⟨e, he⟩ : ∃ e : Nat, β (o + 4) i = (e : Int) := ⟨(β (o + 4) i).toNat, by have := hE i hi; omega⟩
  rw [he, cast_n] at e1 e2 e3
  have eL : LS' e := (hLS e).mpr (Or.inl e1)
  obtain ⟨e28, eok, enz⟩ := hln e eL
  have wi : wr (ptO β o) m i = ptO β o i := wr_lt hi
  have wj : wr (ptO β o) m (i + 1) = ptO β o (nxi m i) := wr_nx hi
  have ri := fl_rng lok (hP i hi)
  have rj := fl_rng lok (hP (nxi m i) jm)
  -- how many points inside there are at most
  have cmax : ∀ j, j ≤ m → ct (fun j => decide (0 < fl (lnG β g l) (wr (ptO β o) m j))) j + 1 ≤ m := fun j hj => by
    obtain ⟨t, t1, t2⟩ := hout
    have hole := ct_hole (p := fun j => decide (0 < fl (lnG β g l) (wr (ptO β o) m j))) (m := t) (by
      rw [wr_lt t1]
      exact decide_eq_false (by omega)) m t1
    have mono := ct_mono (fun j => decide (0 < fl (lnG β g l) (wr (ptO β o) m j))) j (m - j)
    rw [show j + (m - j) = m by omega] at mono
    omega
  have cS := cmax (i + 1) (by omega)
  have g14 : μ (g + 14) i = fl (lnG β g l) (ptO β o i) := by rw [i1 (g + 14) (by omega), h14 i hi]
  have g14j : μ (g + 14) (nxi m i) = fl (lnG β g l) (ptO β o (nxi m i)) := by rw [i1 (g + 14) (by omega), h14 _ jm]
  have mo4 : μ (o + 4) i = (e : Int) := by rw [i1 (o + 4) (by omega), he]
  have mg4 : μ g 4 = (o : Int) := by rw [i1 g (by omega), h4]
  have mg5 : μ g 5 = (s : Int) := by rw [i1 g (by omega), h5]
  have mpt : ∀ j, ptO μ o j = ptO β o j := fun j => pt_fr hG i1
  have mln : ∀ k, lnG μ g k = lnG β g k := fun k => ln_fr hG i1
  -- the point itself
  have KQ : 0 ≤ fl (lnG β g l) (ptO β o i) → KP (ptO β o) (fun i => fl (lnG β g l) (wr (ptO β o) m i)) m (ptO β o i) i 1 0 := fun z => by
    refine ⟨hi, by omega, by omega, ⟨1, by omega, ?_⟩, fun _ => by (try dsimp only); rw [wi]; exact z, fun y => by omega⟩
    rw [wi]
    refine ⟨?_, ?_, ?_⟩ <;> simp
  have OQ : ∀ k, k < n → ∀ b : Int, KO (S k) (u k) i b := fun k hk b => Or.inl (i4 k hk)
  rw [f_X1_cutRing_b33, jlet_v, jc_ix (by omega) (by omega), cast_n, g14, jc_LL (by omega) (by omega) (by omega) (by omega)]
  by_cases c1 : 0 < fl (lnG β g l) (ptO β o i)
  · -- inside
    have ctS : ct (fun j => decide (0 < fl (lnG β g l) (wr (ptO β o) m j))) (i + 1) = ct (fun j => decide (0 < fl (lnG β g l) (wr (ptO β o) m j))) i + 1 := ct_t (by rw [wi]; exact decide_eq_true c1)
    obtain ⟨a1, a2, a3, a4⟩ := i3.more (P := ptO β o i) (t := i) (lab := e) (a := 1) (b := 0) (hP i hi) (KQ (by omega)) e28 eL e2 (by omega) (fun k hk => OQ k hk 0) (fun k hk => by have := (i8 k hk).2; rw [wi] at this; exact this (by omega)) hm sc lnz (c := ct (fun j => decide (0 < fl (lnG β g l) (wr (ptO β o) m j))) (i + 1)) (by rw [i7, if_pos c1, ctS]) cS hm27
    obtain ⟨υ, eυ⟩ : ∃ υ, υ = addO μ s n (ptO β o i).1 (ptO β o i).2.1 (ptO β o i).2.2 (e : Int) := ⟨_, rfl⟩
    have af : f_X4_addFrom μ s o (i : Int) (e : Int) = some υ := by
      rw [addFrom_spec hG (by omega) a1 i2, mpt, eυ]
    rw [← eυ] at a3 a4
    have v1 : ∀ k, k < s ∨ s + 4 < k → υ k = β k := fun k hk => by rw [eυ, addO_k hk, i1 k hk]
    have vP : ∀ k, ptO υ s k = if k = n then ptO β o i else ptO μ s k := fun k => by rw [eυ]; exact addO_pt
    have vE : ∀ k, υ (s + 4) k = if k = n then (e : Int) else μ (s + 4) k := fun k => by rw [eυ]; exact addO_e
    have v0 : υ s 0 = ((n + 1 : Nat) : Int) := by rw [eυ]; exact addO_0
    have first' : (fl (lnG β g l) (wr (ptO β o) m 0) < 0 → fl (lnG β g l) (ptO υ s 0) = 0) ∧ (0 ≤ fl (lnG β g l) (wr (ptO β o) m 0) → ptO υ s 0 = ptO β o 0) := by
      rw [vP]
      by_cases z : n = 0
      · rw [if_pos z.symm]
        -- nothing before: then this is the first point
        have i0 : i = 0 ∨ fl (lnG β g l) (wr (ptO β o) m 0) < 0 := by
          by_cases y : i = 0
          · exact Or.inl y
          · exact Or.inr (i9 z 0 (by omega))
        rcases i0 with y | y
        · rw [y] at c1 wi
          rw [y, wi]
          exact ⟨fun q => by omega, fun _ => rfl⟩
        · exfalso
          -- an inside point after outside ones has a crossing before it
          by_cases y0 : i = 0
          · rw [y0] at c1 wi; rw [wi] at y; omega
          · have b1 := i9 z (i - 1) (by omega)
            obtain ⟨k, k1, -⟩ := i6 (i - 1) (by omega) (Or.inr ⟨b1, by rw [show i - 1 + 1 = i by omega, wi]; exact c1⟩)
            omega
      · rw [if_neg (by omega)]
        exact i10 (by omega)
    have c1' : ∀ j, j < i + 1 → 0 ≤ fl (lnG β g l) (wr (ptO β o) m j) → ∃ k, k < n + 1 ∧ (if k = n then i else S k) = j ∧ (if k = n then (0 : Int) else u k) = 0 := fun j hj z => by
      by_cases y : j = i
      · exact ⟨n, by omega, by rw [if_pos rfl, y], by rw [if_pos rfl]⟩
      · obtain ⟨k, k1, k2, k3⟩ := i5 j (by omega) z
        exact ⟨k, by omega, by rw [if_neg (by omega)]; exact k2, by rw [if_neg (by omega)]; exact k3⟩
    have c2' : ∀ j, j < i → (0 < fl (lnG β g l) (wr (ptO β o) m j) ∧ fl (lnG β g l) (wr (ptO β o) m (j + 1)) < 0) ∨ (fl (lnG β g l) (wr (ptO β o) m j) < 0 ∧ 0 < fl (lnG β g l) (wr (ptO β o) m (j + 1))) → ∃ k, k < n + 1 ∧ (if k = n then i else S k) = j ∧ 0 < (if k = n then (0 : Int) else u k) := fun j hj z => by
      obtain ⟨k, k1, k2, k3⟩ := i6 j hj z
      exact ⟨k, by omega, by rw [if_neg (by omega)]; exact k2, by rw [if_neg (by omega)]; exact k3⟩
    rw [if_pos c1, mg5, cast_n, jlet_v, jchk_t m2, mg4, cast_n, jlet_v, jchk_t n2, jlet_v, jchk_t n2, n1, jc_ix (by omega) (by omega), cast_n, mo4, af, jbind_s, jc_ix (by omega) (by omega), v1 (g + 14) (by omega), h14 _ jm, jc_LL (by omega) (by omega) (by omega) (by omega)]
    by_cases c2 : fl (lnG β g l) (ptO β o (nxi m i)) < 0
    · -- and the next one outside
      have vln : ∀ k, lnG υ g k = lnG β g k := fun k => ln_fr hG v1
      obtain ⟨C, b0, b2, b3, b4, kk, aa, bb, kk0, aa0, bb0, cm⟩ := crossing_spec (τ := υ) (A := ptO β o i) (B := ptO β o (nxi m i)) (by rw [vln, vln]; exact hpb e e1) hG (by rw [v1 g (by omega), h5]) e28 l28 (by rw [vln]; exact eok) (by rw [vln]; exact lok) (by rw [vln]; exact enz) (hP i hi) (hP _ jm) (by rw [vln]; exact e2) (by rw [vln]; exact e3) (by rw [vln]; exact Or.inl ⟨c1, c2⟩)
      rw [vln] at b3 b4
      have KC : KP (ptO β o) (fun i => fl (lnG β g l) (wr (ptO β o) m i)) m C i aa bb := ⟨hi, aa0, by omega, ⟨kk, kk0, by rw [wi, wj]; exact cm⟩, fun y => by omega, fun _ => Or.inl ⟨by (try dsimp only); rw [wi]; exact c1, by (try dsimp only); rw [wj]; exact c2⟩⟩
      obtain ⟨d1, d2, d3, d4⟩ := a3.more (P := C) (t := i) (lab := l) (a := aa) (b := bb) b2 KC l28 ll b4 (by omega) (fun k hk => by
        try dsimp only
        by_cases y : k = n
        · rw [if_pos y, if_pos y]; exact Or.inr ⟨rfl, rfl, bb0⟩
        · rw [if_neg y, if_neg y]; exact OQ k (by omega) bb) (fun k hk => by
        have : k = n := by omega
        rw [vE, if_pos this, cast_n]; exact b3) hm sc lnz (c := ct (fun j => decide (0 < fl (lnG β g l) (wr (ptO β o) m j))) (i + 1)) (by rw [a4, b4]; simp) cS hm27
      have b1 := b0 (n + 1) (l : Int) d1 v0
      obtain ⟨ω, eω⟩ : ∃ ω, ω = addO υ s (n + 1) C.1 C.2.1 C.2.2 (l : Int) := ⟨_, rfl⟩
      rw [← eω] at d3 d4 b1
      have w1 : ∀ k, k < s ∨ s + 4 < k → ω k = β k := fun k hk => by rw [eω, addO_k hk, v1 k hk]
      have wP : ∀ k, ptO ω s k = if k = n + 1 then C else ptO υ s k := fun k => by rw [eω]; exact addO_pt
      have wE : ∀ k, ω (s + 4) k = if k = n + 1 then (l : Int) else υ (s + 4) k := fun k => by rw [eω]; exact addO_e
      rw [if_pos c2, v1 g (by omega), h4, cast_n, jlet_v, jchk_t n2, n1, jc_ix (by omega) (by omega), v1 (o + 4) (by omega), he, b1, jbind_s, jlet_v]
      refine ⟨ω, rfl, w1, n + 1 + 1, _, _, _, by rw [eω]; exact addO_0, d3, fun k hk => ?_, fun j hj z => ?_, fun j hj z => ?_, d4, fun k hk => ?_, fun z => by omega, fun _ => ?_⟩
      · try dsimp only
        by_cases y : k = n + 1
        · rw [if_pos y]; omega
        · rw [if_neg y]
          by_cases y2 : k = n
          · rw [if_pos y2]; omega
          · rw [if_neg y2]; have := i4 k (by omega); omega
      · obtain ⟨k, k1, k2, k3⟩ := c1' j hj z
        exact ⟨k, by omega, by (try dsimp only); rw [if_neg (by omega)]; exact k2, by (try dsimp only); rw [if_neg (by omega)]; exact k3⟩
      · by_cases y : j = i
        · exact ⟨n + 1, by omega, by (try dsimp only); rw [if_pos rfl, y], by (try dsimp only); rw [if_pos rfl]; exact bb0⟩
        · obtain ⟨k, k1, k2, k3⟩ := c2' j (by omega) z
          exact ⟨k, by omega, by (try dsimp only); rw [if_neg (by omega)]; exact k2, by (try dsimp only); rw [if_neg (by omega)]; exact k3⟩
      · have y : k = n + 1 := by omega
        rw [wE, if_pos y, cast_n, wj]
        exact ⟨fun _ => rfl, fun q => by omega⟩
      · rw [wP, if_neg (by omega)]
        exact first'
    · rw [if_neg c2, jlet_v]
      refine ⟨υ, rfl, v1, n + 1, _, _, _, v0, a3, fun k hk => ?_, c1', fun j hj z => ?_, a4, fun k hk => ?_, fun z => by omega, fun _ => first'⟩
      · try dsimp only
        by_cases y2 : k = n
        · rw [if_pos y2]; omega
        · rw [if_neg y2]; have := i4 k (by omega); omega
      · by_cases y : j = i
        · exfalso
          rw [y, wi, wj] at z
          omega
        · exact c2' j (by omega) z
      · have y : k = n := by omega
        rw [vE, if_pos y, cast_n, wj]
        exact ⟨fun q => by omega, fun _ => e3⟩
  · rw [if_neg c1, jc_ix (by omega) (by omega), jc_LL (by omega) (by omega) (by omega) (by omega)]
    have ctS : ct (fun j => decide (0 < fl (lnG β g l) (wr (ptO β o) m j))) (i + 1) = ct (fun j => decide (0 < fl (lnG β g l) (wr (ptO β o) m j))) i := ct_f (by rw [wi]; exact decide_eq_false c1)
    by_cases c0 : fl (lnG β g l) (ptO β o i) = 0
    · -- on the line
      have lastE : ∀ k, k + 1 = n → fl (lnG β g (μ (s + 4) k).toNat) (ptO β o i) = 0 := fun k hk => by
        have := (i8 k hk).2
        rw [wi] at this
        exact this (by omega)
      have gen : ∀ lab : Nat, lab < 28 → LS' lab → fl (lnG β g lab) (ptO β o i) = 0 → (fl (lnG β g l) (ptO β o (nxi m i)) < 0 → lab = l) → (0 ≤ fl (lnG β g l) (ptO β o (nxi m i)) → fl (lnG β g lab) (ptO β o (nxi m i)) = 0) → ∃ υ, f_X1_cutRing_b139 μ g s o (l : Int) (i : Int) (i : Int) (lab : Int) = some (.inl (υ, ((i + 1 : Nat) : Int))) ∧ RI β g o s l m LS' (i + 1) υ := by
        intro lab lab28 labL labz la lb
        obtain ⟨a1, a2, a3, a4⟩ := i3.more (P := ptO β o i) (t := i) (lab := lab) (a := 1) (b := 0) (hP i hi) (KQ (by omega)) lab28 labL labz (by omega) (fun k hk => OQ k hk 0) lastE hm sc lnz (c := ct (fun j => decide (0 < fl (lnG β g l) (wr (ptO β o) m j))) (i + 1)) (by rw [i7, if_neg c1, ctS]; rfl) cS hm27
        obtain ⟨υ, eυ⟩ : ∃ υ, υ = addO μ s n (ptO β o i).1 (ptO β o i).2.1 (ptO β o i).2.2 (lab : Int) := ⟨_, rfl⟩
        have af : f_X4_addFrom μ s o (i : Int) (lab : Int) = some υ := by
          rw [addFrom_spec hG (by omega) a1 i2, mpt, eυ]
        rw [← eυ] at a3 a4
        have v1 : ∀ k, k < s ∨ s + 4 < k → υ k = β k := fun k hk => by rw [eυ, addO_k hk, i1 k hk]
        have vP : ∀ k, ptO υ s k = if k = n then ptO β o i else ptO μ s k := fun k => by rw [eυ]; exact addO_pt
        have vE : ∀ k, υ (s + 4) k = if k = n then (lab : Int) else μ (s + 4) k := fun k => by rw [eυ]; exact addO_e
        have v0 : υ s 0 = ((n + 1 : Nat) : Int) := by rw [eυ]; exact addO_0
        refine ⟨υ, by rw [f_X1_cutRing_b139, af, jbind_s, jlet_v]; rfl, v1, n + 1, _, _, _, v0, a3, fun k hk => ?_, fun j hj z => ?_, fun j hj z => ?_, a4, fun k hk => ?_, fun z => by omega, fun _ => ?_⟩
        · try dsimp only
          by_cases y2 : k = n
          · rw [if_pos y2]; omega
          · rw [if_neg y2]; have := i4 k (by omega); omega
        · by_cases y : j = i
          · exact ⟨n, by omega, by (try dsimp only); rw [if_pos rfl, y], by (try dsimp only); rw [if_pos rfl]⟩
          · obtain ⟨k, k1, k2, k3⟩ := i5 j (by omega) z
            exact ⟨k, by omega, by (try dsimp only); rw [if_neg (by omega)]; exact k2, by (try dsimp only); rw [if_neg (by omega)]; exact k3⟩
        · by_cases y : j = i
          · exfalso
            rw [y, wi, wj] at z
            omega
          · obtain ⟨k, k1, k2, k3⟩ := i6 j (by omega) z
            exact ⟨k, by omega, by (try dsimp only); rw [if_neg (by omega)]; exact k2, by (try dsimp only); rw [if_neg (by omega)]; exact k3⟩
        · have y : k = n := by omega
          rw [vE, if_pos y, cast_n, wj]
          exact ⟨la, lb⟩
        · rw [vP]
          by_cases z : n = 0
          · rw [if_pos z.symm]
            by_cases y : i = 0
            · rw [y] at c0 wi ⊢
              rw [wi]
              exact ⟨fun q => by omega, fun _ => rfl⟩
            · have := i9 z 0 (by omega)
              exact ⟨fun _ => c0, fun q => by omega⟩
          · rw [if_neg (by omega)]
            exact i10 (by omega)
      rw [if_pos c0, mg5, cast_n, jlet_v, jchk_t m2, mg4, cast_n, jlet_v, jchk_t n2, jc_ix (by omega) (by omega), cast_n, g14j, jc_LL (by omega) (by omega) (by omega) (by omega)]
      by_cases c2 : fl (lnG β g l) (ptO β o (nxi m i)) < 0
      · rw [if_pos c2]
        exact gen l l28 ll c0 (fun _ => rfl) (fun q => by omega)
      · rw [if_neg c2, jlet_v, jchk_t n2, n1, jc_ix (by omega) (by omega), mo4]
        exact gen e e28 eL e2 (fun q => absurd q c2) (fun _ => e3)
    · -- outside
      have cn : fl (lnG β g l) (ptO β o i) < 0 := by omega
      rw [if_neg c0, jc_ix (by omega) (by omega), cast_n, g14j, jc_LL (by omega) (by omega) (by omega) (by omega)]
      by_cases c2 : 0 < fl (lnG β g l) (ptO β o (nxi m i))
      · obtain ⟨C, b0, b2, b3, b4, kk, aa, bb, kk0, aa0, bb0, cm⟩ := crossing_spec (τ := μ) (A := ptO β o i) (B := ptO β o (nxi m i)) (by rw [mln, mln]; exact hpb e e1) hG mg5 e28 l28 (by rw [mln]; exact eok) (by rw [mln]; exact lok) (by rw [mln]; exact enz) (hP i hi) (hP _ jm) (by rw [mln]; exact e2) (by rw [mln]; exact e3) (by rw [mln]; exact Or.inr ⟨cn, c2⟩)
        rw [mln] at b3 b4
        have KC : KP (ptO β o) (fun i => fl (lnG β g l) (wr (ptO β o) m i)) m C i aa bb := ⟨hi, aa0, by omega, ⟨kk, kk0, by rw [wi, wj]; exact cm⟩, fun y => by omega, fun _ => Or.inr ⟨by (try dsimp only); rw [wi]; exact cn, by (try dsimp only); rw [wj]; exact c2⟩⟩
        obtain ⟨d1, d2, d3, d4⟩ := i3.more (P := C) (t := i) (lab := e) (a := aa) (b := bb) b2 KC e28 eL b3 (by omega) (fun k hk => OQ k hk bb) (fun k hk => by
          have := (i8 k hk).1
          rw [wi] at this
          rw [this cn]; exact b4) hm sc lnz (c := ct (fun j => decide (0 < fl (lnG β g l) (wr (ptO β o) m j))) (i + 1)) (by rw [i7, ctS, b4]; simp) cS hm27
        have b1 := b0 n (e : Int) d1 i2
        obtain ⟨ω, eω⟩ : ∃ ω, ω = addO μ s n C.1 C.2.1 C.2.2 (e : Int) := ⟨_, rfl⟩
        rw [← eω] at d3 d4 b1
        have w1 : ∀ k, k < s ∨ s + 4 < k → ω k = β k := fun k hk => by rw [eω, addO_k hk, i1 k hk]
        have wP : ∀ k, ptO ω s k = if k = n then C else ptO μ s k := fun k => by rw [eω]; exact addO_pt
        have wE : ∀ k, ω (s + 4) k = if k = n then (e : Int) else μ (s + 4) k := fun k => by rw [eω]; exact addO_e
        rw [if_pos c2, mg4, cast_n, jlet_v, jchk_t n2, n1, jc_ix (by omega) (by omega), jlet_v, jchk_t n2, n1, jc_ix (by omega) (by omega), mo4, b1, jbind_s, jlet_v]
        refine ⟨ω, rfl, w1, n + 1, _, _, _, by rw [eω]; exact addO_0, d3, fun k hk => ?_, fun j hj z => ?_, fun j hj z => ?_, d4, fun k hk => ?_, fun z => by omega, fun _ => ?_⟩
        · try dsimp only
          by_cases y2 : k = n
          · rw [if_pos y2]; omega
          · rw [if_neg y2]; have := i4 k (by omega); omega
        · by_cases y : j = i
          · exfalso
            rw [y, wi] at z
            omega
          · obtain ⟨k, k1, k2, k3⟩ := i5 j (by omega) z
            exact ⟨k, by omega, by (try dsimp only); rw [if_neg (by omega)]; exact k2, by (try dsimp only); rw [if_neg (by omega)]; exact k3⟩
        · by_cases y : j = i
          · exact ⟨n, by omega, by (try dsimp only); rw [if_pos rfl, y], by (try dsimp only); rw [if_pos rfl]; exact bb0⟩
          · obtain ⟨k, k1, k2, k3⟩ := i6 j (by omega) z
            exact ⟨k, by omega, by (try dsimp only); rw [if_neg (by omega)]; exact k2, by (try dsimp only); rw [if_neg (by omega)]; exact k3⟩
        · have y : k = n := by omega
          rw [wE, if_pos y, cast_n, wj]
          exact ⟨fun q => by omega, fun _ => e3⟩
        · rw [wP]
          by_cases z : n = 0
          · rw [if_pos z.symm]
            by_cases y : i = 0
            · rw [y] at cn wi
              rw [wi]
              exact ⟨fun _ => b4, fun q => by omega⟩
            · have := i9 z 0 (by omega)
              exact ⟨fun _ => b4, fun q => by omega⟩
          · rw [if_neg (by omega)]
            exact i10 (by omega)
      · rw [if_neg c2, jlet_v]
        refine ⟨μ, rfl, i1, n, S, lw, u, i2, i3, fun k hk => by have := i4 k hk; omega, fun j hj z => ?_, fun j hj z => ?_, by rw [i7, ctS], fun k hk => ?_, fun z j hj => ?_, i10⟩
        · by_cases y : j = i
          · exfalso
            rw [y, wi] at z
            omega
          · exact i5 j (by omega) z
        · by_cases y : j = i
          · exfalso
            rw [y, wi, wj] at z
            omega
          · exact i6 j (by omega) z
        · have z := (i8 k hk).1
          rw [wi] at z
          have z' := z cn
          rw [wj, z']
          exact ⟨fun _ => rfl, fun q => by omega⟩
        · by_cases y : j = i
          · rw [y, wi]; exact cn
          · exact i9 z j (by omega)
