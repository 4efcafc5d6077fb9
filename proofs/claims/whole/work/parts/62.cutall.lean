/-! ===== the pure side 42: a cut, whole ===== -/
/-- not 0 if two lines are not parallel -/
def par (L M : Pt) : Int := L.1 * M.2.1 - M.1 * L.2.1
/-- each point is on two lines that are not parallel -/
def TT (Ln : Nat → Pt) (LS : Nat → Prop) (q : Nat → Pt) (m : Nat) : Prop := ∀ k, k < m → ∃ l1 l2, LS l1 ∧ LS l2 ∧ fl (Ln l1) (q k) = 0 ∧ fl (Ln l2) (q k) = 0 ∧ par (Ln l1) (Ln l2) ≠ 0
/-- parallel lines with a point in common are one -/
theorem par_on {L M A B : Pt} (hM : nzL M) (hB : 0 < B.2.2) (p0 : par L M = 0) (a1 : fl M A = 0) (b1 : fl M B = 0) (b2 : fl L B = 0) : fl L A = 0 := by
  have i1 := par_id1 L M A B
  have i2 := par_id2 L M A B
  unfold par at p0
  rw [a1, b1, b2, p0] at i1 i2
  simp [Int.mul_eq_zero] at i1 i2
  rcases hM with z | z
  · rcases i1 with y | y
    · exact absurd y z
    · rcases y with y | y
      · exact y
      · omega
  · rcases i2 with y | y
    · exact absurd y z
    · rcases y with y | y
      · exact y
      · omega
theorem par_ne {L M A B : Pt} (nL : nzL L) (hA : 0 < A.2.2) (hB : 0 < B.2.2) (zA : fl L A = 0) (zB : fl L B = 0) (hs : (0 < fl M A ∧ fl M B < 0) ∨ (fl M A < 0 ∧ 0 < fl M B)) : par L M ≠ 0 := by
  intro p0
  have i1 := par_id1 L M A B
  have i2 := par_id2 L M A B
  unfold par at p0
  rw [zA, zB, p0] at i1 i2
  have W : fl M A * B.2.2 - fl M B * A.2.2 ≠ 0 := by
    rcases hs with ⟨x, y⟩ | ⟨x, y⟩
    · have h1 := Int.mul_pos x hB
      have h2 := Int.mul_pos (show 0 < - fl M B by omega) hA
      rw [Int.neg_mul] at h2
      omega
    · have h1 := Int.mul_pos y hA
      have h2 := Int.mul_pos (show 0 < - fl M A by omega) hB
      rw [Int.neg_mul] at h2
      omega
  simp [Int.mul_eq_zero] at i1 i2
  rcases nL with z | z
  · rcases i1 with y | y
    · exact z y
    · exact W y
  · rcases i2 with y | y
    · exact z y
    · exact W y
theorem TT.sc {Ln : Nat → Pt} {LS : Nat → Prop} {q : Nat → Pt} {E : Nat → Nat} {m : Nat} (hm : 3 ≤ m) (hn : ∀ l, LS l → nzL (Ln l)) (hd : ∀ i, i < m → 0 < (q i).2.2) (sc : SCv q m) (ed : ∀ i, i < m → LS (E i) ∧ fl (Ln (E i)) (q i) = 0 ∧ fl (Ln (E i)) (q (nxi m i)) = 0) : TT Ln LS q m := by
  intro k hk
  obtain ⟨j, hj, nj⟩ : ∃ j, j < m ∧ nxi m j = k := by
    by_cases c : k = 0
    · exact ⟨m - 1, by omega, by unfold nxi; rw [if_neg (by omega), c]⟩
    · exact ⟨k - 1, by omega, by unfold nxi; rw [if_pos (by omega)]; omega⟩
  obtain ⟨a1, a2, a3⟩ := ed k hk
  obtain ⟨b1, b2, b3⟩ := ed j hj
  rw [nj] at b3
  refine ⟨E k, E j, a1, b1, a2, b3, fun z => ?_⟩
  have on := par_on (hn _ b1) (hd k hk) z b2 b3 a2
  have t := three_on (hn _ a1) on a2 a3
  have pos : 0 < dt3 (q j) (q k) (q (nxi m k)) := by
    unfold nxi at nj ⊢
    by_cases c : k + 1 < m
    · rw [if_pos c]
      by_cases c0 : k = 0
      · have e : j = m - 1 := by split at nj <;> omega
        rw [e, c0, dt3_rot]
        exact sc 0 (0 + 1) (m - 1) (by omega) (by omega) (by omega)
      · have e : j + 1 = k := by split at nj <;> omega
        exact sc j k (k + 1) (by omega) (by omega) c
    · rw [if_neg c, ← dt3_rot (q 0)]
      have e : j + 1 = k := by split at nj <;> omega
      exact sc 0 j k (by omega) (by omega) hk
  omega
/-- a ground while it is drawn: the lines of LS have cut it -/
def GI (σ τ : St) (g o s m : Nat) (LS : Nat → Prop) : Prop :=
  GD g o s ∧ τ g 4 = (o : Int) ∧ τ g 5 = (s : Int) ∧ τ o 0 = (m : Int) ∧ (∀ k, k < g ∨ g + 14 < k → τ k = σ k) ∧ (∀ j, j ≠ 4 → j ≠ 5 → j ≠ 7 → τ g j = σ g j) ∧
  (∀ i, i < m → okP (ptO τ o i) ∧ 0 ≤ τ (o + 4) i ∧ τ (o + 4) i < 28) ∧ (∀ l, LS l → l < 28 ∧ okL (lnG τ g l) ∧ nzL (lnG τ g l)) ∧
  OUT (lnG τ g) LS (ptO τ o) (fun i => (τ (o + 4) i).toNat) m ∧ TT (lnG τ g) LS (ptO τ o) m
theorem cut_spec {σ τ : St} {g o s m l : Nat} {LS LS' : Nat → Prop} (hpb : ∀ k, LS k → PB (lnG τ g k) (lnG τ g l)) (h : GI σ τ g o s m LS) (hm : m ≤ 27) (hl : l < 28) (hL : okL (lnG τ g l)) (hN : nzL (lnG τ g l)) (hLS : ∀ k, LS' k ↔ (LS k ∨ k = l)) : ∃ υ o' s' m', f_X1_cut τ g (l : Int) = some υ ∧ GI σ υ g o' s' m' LS' ∧ m' ≤ m + 1 ∧ lnG υ g = lnG τ g ∧ υ g 7 = τ g 7 := by
  obtain ⟨hG, h4, h5, h0, h6, h7, h8, h9, h10, h11⟩ := h
  obtain ⟨n1, n2⟩ := hG.ln
  obtain ⟨m1, m2⟩ := hG.sw.ln
  have gb := hG.b
  obtain ⟨⟨ε, x2, x3⟩, p0, p1, p2, p3, p4⟩ := cut_pass hG h4 hl (show m ≤ 28 by omega) h0 hL (fun i hi => (h8 i hi).1) 1000 (by omega)
  dsimp only at p1 p2 p3 p4
  have st : f_X1_cut τ g (l : Int) = jchk (inI x3) (if x3 = 0 then some ε else jlet (ε g 5).toNat (fun o_15 => jchk (isO o_15) (jlet (up2 ε o_15 0 (0 : Int)) (fun σ_16 => jchk (inI x2) (if x2 = 0 then jbind (f_X1_leaveTouched σ_16 g (l : Int)) (fun σ_24 => f_X1_cut_b128 σ_24 g) else jlet (σ_16 g 4).toNat (fun o_17 => jchk (isO o_17) (jchk (inI (σ_16 o_17 0) ∧ inI 2) (if σ_16 o_17 0 = 2 then jbind (f_X1_cutPiece σ_16 g (l : Int)) (fun σ_23 => f_X1_cut_b128 σ_23 g) else jbind (f_X1_cutRing σ_16 g (l : Int)) (fun σ_18 => f_X1_cut_b128 σ_18 g))))))))) := by
    rw [f_X1_cut, f_X1_cut_b0, jlet_v, jlet_v, jlet_v, p0, jbind_s]
  have hall : ∀ k, LS' k → k < 28 ∧ okL (lnG τ g k) ∧ nzL (lnG τ g k) := fun k hk => by
    rcases (hLS k).mp hk with z | z
    · exact h9 k z
    · rw [z]; exact ⟨hl, hL, hN⟩
  have upL : ∀ k, LS k → LS' k := fun k z => (hLS k).mpr (Or.inl z)
  have f14 : ∀ k, k < g + 14 ∨ g + 14 < k → k ≠ g + 14 := fun k hk => by omega
  have eln : ∀ {μ : St}, (∀ k, k < g + 4 → μ k = τ k) → lnG μ g = lnG τ g := fun hμ => by
    funext k
    unfold lnG
    rw [hμ (g + 1) (by omega), hμ (g + 2) (by omega), hμ (g + 3) (by omega)]
  rcases p4 with ⟨q3, all⟩ | ⟨q3, some_⟩
  · -- nothing outside
    have epts : ptO ε o = ptO τ o := by
      funext i
      unfold ptO
      rw [p1 (o + 1) (by omega), p1 (o + 2) (by omega), p1 (o + 3) (by omega)]
    have elns : lnG ε g = lnG τ g := eln (fun k hk => p1 k (by omega))
    refine ⟨ε, o, s, m, ?_, ⟨hG, by rw [p1 g (by omega)]; exact h4, by rw [p1 g (by omega)]; exact h5, by rw [p1 o (by omega)]; exact h0, fun k hk => by rw [p1 k (by omega), h6 k hk], fun j a b c => by rw [p1 g (by omega)]; exact h7 j a b c, ?_, ?_, ?_, ?_⟩, by omega, elns, by rw [p1 g (by omega)]⟩
    · rw [st, q3, jc_I (by omega) (by omega), if_pos rfl]
    · rw [epts, p1 (o + 4) (by omega)]; exact h8
    · rw [elns]; exact hall
    · rw [epts, elns, p1 (o + 4) (by omega)]
      exact h10.none hLS all
    · rw [epts, elns]
      intro k hk
      obtain ⟨l1, l2, y1, y2, y3⟩ := h11 k hk
      exact ⟨l1, l2, upL _ y1, upL _ y2, y3⟩
  · obtain ⟨β, eβ⟩ : ∃ β, β = up2 ε s 0 0 := ⟨_, rfl⟩
    have b1 : ∀ k, k ≠ g + 14 → k ≠ s → β k = τ k := fun k a b => by rw [eβ, up2_k b, p1 k a]
    have bs : β s 0 = 0 := by rw [eβ, up2_same]
    have b14 : ∀ i, i < m → β (g + 14) i = fl (lnG τ g l) (ptO τ o i) := fun i hi => by rw [eβ, up2_k (by omega)]; exact p2 i hi
    have bpts : ptO β o = ptO τ o := by
      funext i
      unfold ptO
      rw [b1 (o + 1) (by omega) (by omega), b1 (o + 2) (by omega) (by omega), b1 (o + 3) (by omega) (by omega)]
    have blns : lnG β g = lnG τ g := eln (fun k hk => b1 k (by omega) (by omega))
    have b4 : β g 4 = (o : Int) := by rw [b1 g (by omega) (by omega)]; exact h4
    have b5 : β g 5 = (s : Int) := by rw [b1 g (by omega) (by omega)]; exact h5
    have bo : β o 0 = (m : Int) := by rw [b1 o (by omega) (by omega)]; exact h0
    have bE : β (o + 4) = τ (o + 4) := b1 (o + 4) (by omega) (by omega)
    have e5 : ε g 5 = (s : Int) := by rw [p1 g (by omega)]; exact h5
    -- the end: the outlines change places
    have fin : ∀ (μ : St) (n : Nat), (∀ k, k < s ∨ s + 4 < k → μ k = β k) → μ s 0 = (n : Int) → n ≤ m + 1 → (∀ k, k < n → okP (ptO μ s k) ∧ 0 ≤ μ (s + 4) k ∧ μ (s + 4) k < 28) → OUT (lnG β g) LS' (ptO μ s) (fun k => (μ (s + 4) k).toNat) n → TT (lnG β g) LS' (ptO μ s) n → ∃ υ o' s' m', f_X1_cut_b128 μ g = some υ ∧ GI σ υ g o' s' m' LS' ∧ m' ≤ m + 1 ∧ lnG υ g = lnG τ g ∧ υ g 7 = τ g 7 := by
      intro μ n u1 u0 un u2 u3 u4
      have v1 : ∀ k, k ≠ g → up2 (up2 μ g 4 (s : Int)) g 5 (o : Int) k = μ k := fun k hk => by rw [up2_k hk, up2_k hk]
      have vp : ptO (up2 (up2 μ g 4 (s : Int)) g 5 (o : Int)) s = ptO μ s := by
        funext i
        unfold ptO
        rw [v1 (s + 1) (by omega), v1 (s + 2) (by omega), v1 (s + 3) (by omega)]
      have vl : lnG (up2 (up2 μ g 4 (s : Int)) g 5 (o : Int)) g = lnG β g := by
        funext k
        unfold lnG
        rw [v1 (g + 1) (by omega), v1 (g + 2) (by omega), v1 (g + 3) (by omega), u1 (g + 1) (by omega), u1 (g + 2) (by omega), u1 (g + 3) (by omega)]
      refine ⟨up2 (up2 μ g 4 (s : Int)) g 5 (o : Int), s, o, n, ?_, ⟨hG.sw, by rw [up2_j (by decide), up2_same], up2_same, by rw [v1 s (by omega)]; exact u0, fun k hk => by rw [v1 k (by omega), u1 k (by omega), b1 k (by omega) (by omega), h6 k hk], fun j a b c => by rw [up2_j b, up2_j a, u1 g (by omega), b1 g (by omega) (by omega)]; exact h7 j a b c, ?_, ?_, ?_, ?_⟩, un, by rw [vl, blns], by rw [up2_j (by decide), up2_j (by decide), u1 g (by omega), b1 g (by omega) (by omega)]⟩
      · rw [f_X1_cut_b128, u1 g (by omega), b4, b5, cast_n, cast_n, jlet_v, jchk_t n2, jlet_v, jchk_t m2, jlet_v, jlet_v]
      · rw [vp, v1 (s + 4) (by omega)]; exact u2
      · rw [vl, blns]; exact hall
      · rw [vp, vl, v1 (s + 4) (by omega)]; exact u3
      · rw [vp, vl]; exact u4
    have hall' : ∀ k, LS' k → k < 28 ∧ okL (lnG β g k) ∧ nzL (lnG β g k) := by rw [blns]; exact hall
    have hO' : OUT (lnG β g) LS (ptO β o) (fun i => (β (o + 4) i).toNat) m := by rw [blns, bpts, bE]; exact h10
    rcases p3 with ⟨q2, none_⟩ | ⟨q2, in_⟩
    · -- nothing inside
      obtain ⟨μ, u0, u1, n, G, u2, u3, u4, u5, u6⟩ := touch_loop (l := l) hG b4 b5 bo (show m ≤ 28 by omega) bs (fun i hi => by rw [b14 i hi]; have := fl_rng hL (h8 i hi).1; omega) 1000 (by omega)
      obtain ⟨t1, t2⟩ := OUT.touch (q' := ptO μ s) (E' := fun k => (μ (s + 4) k).toNat) (g := G) (n := n) hO' (fun k hk => (hall' k hk).2.2) hLS (fun i hi => by rw [blns, bpts]; exact none_ i hi) (by
        obtain ⟨i, i1, i2⟩ := some_
        exact ⟨i, i1, by rw [blns, bpts]; exact i2⟩) (fun k hk => by
        obtain ⟨y1, y2, y3, y4⟩ := u4 k hk
        refine ⟨y1, by rw [blns, bpts, ← b14 _ y1]; exact y2, y3, by rw [y4, cast_n]⟩) u5 (fun i hi z => u6 i hi (by rw [b14 i hi]; rw [blns, bpts] at z; exact z))
      obtain ⟨υ, o', s', m', w1, w2⟩ := fin μ n u1 u2 (by omega) (fun k hk => by
        obtain ⟨y1, y2, y3, y4⟩ := u4 k hk
        rw [y3, y4, bpts]
        exact ⟨(h8 _ y1).1, by omega, by omega⟩) t2 (fun k hk => by
        obtain ⟨y1, y2, y3, y4⟩ := u4 k hk
        obtain ⟨l1, l2, x1, x2, x3⟩ := h11 _ y1
        refine ⟨l1, l2, upL _ x1, upL _ x2, ?_⟩
        rw [y3, bpts, blns]; exact x3)
      refine ⟨υ, o', s', m', ?_, w2⟩
      rw [st, q3, jc_I (by omega) (by omega), if_neg (by omega), e5, cast_n, jlet_v, jchk_t m2, jlet_v, ← eβ, q2, jc_I (by omega) (by omega), if_pos rfl, f_X1_leaveTouched, f_X1_leaveTouched_b0, jlet_v, u0, jbind_s, jbind_s, w1]
    · have m2' : 2 ≤ m := by
        obtain ⟨i, i1, i2⟩ := in_
        obtain ⟨j, j1, j2⟩ := some_
        by_cases c : i = j
        · rw [c] at i2; omega
        · omega
      have in' : ∃ i, i < m ∧ 0 < fl (lnG β g l) (ptO β o i) := by rw [blns, bpts]; exact in_
      have out' : ∃ i, i < m ∧ fl (lnG β g l) (ptO β o i) < 0 := by rw [blns, bpts]; exact some_
      have b14' : ∀ i, i < m → β (g + 14) i = fl (lnG β g l) (ptO β o i) := by rw [blns, bpts]; exact b14
      have P' : ∀ i, i < m → okP (ptO β o i) := by rw [bpts]; exact fun i hi => (h8 i hi).1
      have E' : ∀ i, i < m → 0 ≤ β (o + 4) i ∧ β (o + 4) i < 28 := by rw [bE]; exact fun i hi => (h8 i hi).2
      by_cases c2 : m = 2
      · subst c2
        obtain ⟨μ, u0, u1, u2, u3, u4, u5⟩ := piece_loop2 (by rw [blns]; exact hpb) hG b4 b5 bo bs b14' hLS hall' P' E' hO' in' out' 1000 (by omega)
        have cs : (0 < fl (lnG τ g l) (ptO τ o 0) ∧ fl (lnG τ g l) (ptO τ o 1) < 0) ∨ (fl (lnG τ g l) (ptO τ o 0) < 0 ∧ 0 < fl (lnG τ g l) (ptO τ o 1)) := by
          obtain ⟨i, i1, i2⟩ := in_
          obtain ⟨j, j1, j2⟩ := some_
          rcases (by omega : i = 0 ∨ i = 1) with z | z <;> rcases (by omega : j = 0 ∨ j = 1) with y | y <;> rw [z] at i2 <;> rw [y] at j2
          · omega
          · exact Or.inl ⟨i2, j2⟩
          · exact Or.inr ⟨j2, i2⟩
          · omega
        obtain ⟨-, edp, -⟩ := h10.2.2.2.2 rfl
        obtain ⟨d1, d2, d3⟩ := edp 0 (by omega)
        have tt : TT (lnG β g) LS' (ptO μ s) 2 := fun k hk => by
          rw [blns]
          rcases u5 k hk with z | ⟨z1, c, a, b, c0, cm⟩
          · obtain ⟨l1, l2, x1, x2, x3⟩ := h11 k hk
            refine ⟨l1, l2, upL _ x1, upL _ x2, ?_⟩
            rw [z, bpts]; exact x3
          · rw [blns] at z1
            rw [bpts] at cm
            refine ⟨_, l, upL _ d1, (hLS l).mpr (Or.inr rfl), ?_, z1, par_ne (h9 _ d1).2.2 (h8 0 (by omega)).1.1 (h8 1 (by omega)).1.1 d2 d3 cs⟩
            have := fl_lin cm (lnG τ g ((fun i => (τ (o + 4) i).toNat) 0))
            rw [d2, d3] at this
            exact zero_mul_pos c0 (by rw [this]; omega)
        obtain ⟨υ, o', s', m', w1, w2⟩ := fin μ 2 u1 u2 (by omega) u3 u4 tt
        refine ⟨υ, o', s', m', ?_, w2⟩
        clear in_ some_ in' out'
        rw [st, q3, jc_I (by omega) (by omega), if_neg (by omega), e5, cast_n, jlet_v, jchk_t m2, jlet_v, ← eβ, q2, jc_I (by omega) (by omega), if_neg (by omega), b4, cast_n, jlet_v, jchk_t n2, bo, jc_II (by omega) (by omega) (by omega) (by omega), if_pos (by omega), f_X1_cutPiece, f_X1_cutPiece_b0, jlet_v, u0, jbind_s, jbind_s, w1]
      · obtain ⟨μ, u0, u1, n, u2, u3, u4, u5⟩ := ring_loop (by rw [blns]; exact hpb) hG b4 b5 bo (by omega) hm bs b14' hLS hall' P' E' hO' in' out' 1000 (by omega)
        obtain ⟨υ, o', s', m', w1, w2⟩ := fin μ n u1 u2 u3 u4 u5.2 (TT.sc (E := fun k => (μ (s + 4) k).toNat) u5.1 (fun k hk => (hall' k hk).2.2) (fun i hi => (u4 i hi).1.1) (u5.2.2.2.2.1 u5.1).1 (u5.2.2.2.2.1 u5.1).2)
        refine ⟨υ, o', s', m', ?_, w2⟩
        clear in_ some_ in' out'
        rw [st, q3, jc_I (by omega) (by omega), if_neg (by omega), e5, cast_n, jlet_v, jchk_t m2, jlet_v, ← eβ, q2, jc_I (by omega) (by omega), if_neg (by omega), b4, cast_n, jlet_v, jchk_t n2, bo, jc_II (by omega) (by omega) (by omega) (by omega), if_neg (by omega), f_X1_cutRing, f_X1_cutRing_b0, jlet_v, u0, jbind_s, jbind_s, w1]
