/-! ===== the pure side 52: corners ===== -/
theorem cl_ok {σC σM : St} (h : Rw σC σM) {w l : Nat} (hw : w < 24) (pw : pC σC w = true) (hl : LSn σC w 24 l) : okL (cl σC w l) ∧ nzL (cl σC w l) := by
  have w1 := h.1.1
  have w2 := h.1.2.1
  unfold cl
  rcases hl with z | ⟨v, v1, v2, v3, v4, v5⟩
  · rw [if_pos z]
    unfold sdL okL nzL
    rcases (by omega : l = 0 ∨ l = 1 ∨ l = 2 ∨ l = 3) with y | y | y | y <;> rw [y] <;> simp <;> omega
  · rw [if_neg (by omega), show l - 4 = v by omega]
    exact bl_ok h true v2 hw v4 pw v3
theorem lnOK.lnc {σ : St} {w l : Nat} {Ln : Nat → Pt} (h : lnOK σ true w 24 Ln) (hl : LSn σ w 24 l) : Ln l = cl σ w l := by
  unfold cl
  rcases hl with z | ⟨v, v1, v2, v3, v4, v5⟩
  · rw [if_pos z]; exact h.1 l z
  · rw [if_neg (by omega), show l - 4 = v by omega, v5]; exact h.2 v v1 v2 v3 v4
theorem LM.ok {L M : Pt} (h : LM L M) (hL : okL L) : okA M := by
  obtain ⟨ρ, r, h1, h2, h3⟩ := h
  obtain ⟨a1, a2, a3, a4, a5, a6⟩ := hL
  unfold okA
  rw [h1, h2]
  rcases r with z | z <;> rw [z] at h3 ⊢ <;> omega
theorem base_spec {σC σM : St} (h : Rw σC σM) {w : Nat} (hw : w < 24) (pw : pC σC w = true) {Ln q : Nat → Pt} {E : Nat → Nat} {m : Nat} (hl : lnOK σC true w 24 Ln) (hO : OUT Ln (LSn σC w 24) q E m) (hT : TT Ln (LSn σC w 24) q m) (hm : m ≤ 27) {F : Option Nat} {x2 : Int} (hx : (x2 = -1 ∧ F = none) ∨ ∃ v : Nat, v < 24 ∧ v ≠ w ∧ pC σC v = true ∧ x2 = (v : Int) ∧ F = some v) : ∃ σ1 nl, f_X11_linesOf σM (w : Int) x2 = some σ1 ∧ (∀ k, k ≠ 0 → k < 13 ∨ 15 < k → σ1 k = σM k) ∧ (∀ j, j ≠ 16 → σ1 0 j = σM 0 j) ∧ MB (up2 σ1 0 20 0) (fun k => hf (q k)) m nl ∧ ∀ v, F = some v → 0 < nl ∧ LM (Ln (4 + v)) (lnM σ1 0) := by
  obtain ⟨τ, n, l1, ⟨i1, i2, i3, Lam, i4, i5, i6⟩, l2⟩ := linesOf_spec h hw pw hx
  have el : lnM (up2 τ 0 20 0) = lnM τ := by
    funext l
    unfold lnM
    rw [up2_k (k' := 13) (by decide), up2_k (k' := 14) (by decide), up2_k (k' := 15) (by decide)]
  have hn : ∀ l, LSn σC w 24 l → nzL (Ln l) := fun l z => by rw [hl.lnc z]; exact (cl_ok h hw pw z).2
  have gv := (GV.of hO hT hn).half (Mn := lnM τ) (nl := n) (Lam := Lam) (fun i hi => ⟨(i4 i hi).1, by rw [hl.lnc (i4 i hi).1]; exact (i4 i hi).2⟩) i5
  refine ⟨τ, n, l1, i1, i2, ⟨by rw [el]; exact gv, hm, by rw [up2_j (by decide)]; exact i3, l2, fun l z => by rw [el]; exact (i4 l z).2.ok (cl_ok h hw pw (i4 l z).1).1⟩, fun v hv => ?_⟩
  obtain ⟨x, y⟩ := i6 v hv
  have := i4 0 x
  rw [y] at this
  exact ⟨x, by rw [hl.lnc this.1]; exact this.2⟩
theorem bef_hf {p q : Pt} : bef (hf p) (hf q) ↔ bef p q := by
  have e1 : p.1 * (2 * q.2.2) = 2 * (p.1 * q.2.2) := by grind
  have e2 : q.1 * (2 * p.2.2) = 2 * (q.1 * p.2.2) := by grind
  have e3 : p.2.1 * (2 * q.2.2) = 2 * (p.2.1 * q.2.2) := by grind
  have e4 : q.2.1 * (2 * p.2.2) = 2 * (q.2.1 * p.2.2) := by grind
  unfold bef hf
  dsimp only
  rw [e1, e2, e3, e4]
  omega
/-- what the model's grounds may change -/
def MS (σM τM : St) : Prop := (∀ k, k ≠ 0 → k < 13 ∨ 20 < k → τM k = σM k) ∧ ∀ j, j ≠ 16 → j ≠ 20 → j ≠ 25 → j ≠ 27 → j ≠ 28 → τM 0 j = σM 0 j
theorem MS.refl (σ : St) : MS σ σ := ⟨fun _ _ _ => rfl, fun _ _ _ _ _ _ => rfl⟩
theorem groundOf_spec {σC σM : St} (h : Rw σC σM) {w : Nat} (hw : w < 24) (pw : pC σC w = true) {Ln q : Nat → Pt} {E : Nat → Nat} {m f : Nat} (hl : lnOK σC true w 24 Ln) (hO : OUT Ln (LSn σC w 24) q E m) (hT : TT Ln (LSn σC w 24) q m) (hm : m ≤ 27) (hf0 : 0 < m → f < m) (hfb : ∀ i, i < m → ¬ bef (q i) (q f)) : ∃ τ, f_X11_groundOf σM (w : Int) = some τ ∧ MS σM τ ∧ τ 0 25 = (m : Int) ∧ ∀ i, i < m → ∃ k : Nat, k < 400 ∧ τ 20 i = (k : Int) ∧ okX (ptM τ k) ∧ sm (ptM τ k) (hf (q (rot m f i))) := by
  obtain ⟨σ1, nl, b1, b2, b3, b4, -⟩ := base_spec h hw pw hl hO hT hm (Or.inl ⟨rfl, rfl⟩)
  obtain ⟨μ, p1, n, p2⟩ := pts_out b4 up2_same 1000 (by omega)
  have ps := PS.of b4.1.1 p2
  obtain ⟨hV, -, h16, hnl, hA⟩ := id b4
  obtain ⟨γ, eγ⟩ : ∃ γ, γ = up2 μ 0 25 0 := ⟨_, rfl⟩
  have gk : ∀ k, k ≠ 0 → γ k = μ k := fun k hk => by rw [eγ, up2_k hk]
  have gj : ∀ j, j ≠ 25 → γ 0 j = μ 0 j := fun j hj => by rw [eγ, up2_j hj]
  have g25 : γ 0 25 = 0 := by rw [eγ, up2_same]
  have gp : ∀ k, ptM γ k = ptM μ k := fun k => by unfold ptM; rw [gk 16 (by decide), gk 17 (by decide), gk 18 (by decide)]
  have gl : lnM γ = lnM (up2 σ1 0 20 0) := by
    funext l
    unfold lnM
    rw [gk 13 (by decide), gk 14 (by decide), gk 15 (by decide), p2.1 13 (by decide) (by decide), p2.1 14 (by decide) (by decide), p2.1 15 (by decide) (by decide)]
  have psg : PS γ (fun k => hf (q k)) m n := by
    obtain ⟨x1, x2, x3, x4, x5⟩ := ps
    unfold PS
    simp only [gp]
    exact ⟨by rw [gj 20 (by decide)]; exact x1, x2, x3, x4, x5⟩
  have mbg : MB γ (fun k => hf (q k)) m nl := ⟨by rw [gl]; exact hV, hm, by rw [gj 16 (by decide), p2.2.1 16 (by decide)]; exact h16, hnl, by rw [gl]; exact hA⟩
  have m1 : ∀ k, k ≠ 0 → k < 13 ∨ 20 < k → γ k = σM k := fun k a b => by rw [gk k a, p2.1 k a (by omega), up2_k a, b2 k a (by omega)]
  have m2 : ∀ j, j ≠ 16 → j ≠ 20 → j ≠ 25 → γ 0 j = σM 0 j := fun j a b c => by rw [gj j c, p2.2.1 j b, up2_j b, b3 j a]
  obtain ⟨x1, x2, x3, x4, x5⟩ := id psg
  by_cases n0 : n = 0
  · have m0 : m = 0 := by
      by_cases c : m = 0
      · exact c
      · obtain ⟨k, k1, -⟩ := x5 0 (by omega)
        omega
    refine ⟨γ, ?_, ⟨m1, fun j a b c _ _ => m2 j a b c⟩, by rw [g25, m0]; rfl, fun i hi => by omega⟩
    rw [f_X11_groundOf, f_X11_groundOf_b0, b1, jbind_s, jlet_v, jlet_v, p1, jbind_s, jlet_v, ← eγ, x1, jc_I (by omega) (by omega), if_pos (by omega)]
  · have mp : 0 < m := by omega
    have fm := hf0 mp
    obtain ⟨⟨σ18, sx⟩, s1, s2, s3, s, s4, s5, s6⟩ := start_loop (γ := γ) (n := n) x1 (by omega) (by omega) (fun k hk => (x3 k hk).1) 1000 (by omega)
    dsimp only at s2 s3 s4
    subst s4
    have ssf : sm (ptM γ s) (hf (q f)) := by
      obtain ⟨ok, a, a1, a2⟩ := x3 s s5
      obtain ⟨k, k1, k2⟩ := x5 f fm
      have d1 := hV.1 a a1
      have d2 := hV.1 f fm
      have nb1 : ¬ bef (hf (q f)) (hf (q a)) := fun z => s6 k k1 ((bef_sm (x3 k k1).1.1 ok.1 d2 d1 k2 a2).mpr z)
      have nb2 : ¬ bef (hf (q a)) (hf (q f)) := fun z => hfb a a1 (bef_hf.mp z)
      exact a2.trans d1 (bef_tot nb2 nb1)
    obtain ⟨υ, u1, u2, u3, u4⟩ := behind_loop (γ := γ) (σ := σ18) mbg psg ⟨fun k a b => s2 k b, fun j a b => by rw [s2 0 (by decide)], fun k hk a ha z => ⟨Or.inl (s3 k hk), fun l' hl' => absurd hl' (Nat.not_lt_zero l')⟩⟩ (s : Int) 1000 (by omega)
    obtain ⟨ω, w1, w2, w3, w4, w5⟩ := walk_loop (γ := γ) (σ := υ) hV.1 hV.2.2.2.2.2.1 hm psg u4 (by rw [u3 25 (by decide) (by decide)]; exact g25) s5 fm ssf 1000 (by omega)
    have wp : ∀ k, ptM ω k = ptM γ k := fun k => by unfold ptM; rw [w2 16 (by decide) (by decide), w2 17 (by decide) (by decide), w2 18 (by decide) (by decide), u2 16 (by decide) (by decide), u2 17 (by decide) (by decide), u2 18 (by decide) (by decide)]
    refine ⟨ω, ?_, ⟨fun k a b => by rw [w2 k a (by omega), u2 k a (by omega), m1 k a b], fun j a b c d e => by rw [w3 j c, u3 j d e, m2 j a b c]⟩, w4, fun i hi => ?_⟩
    · rw [f_X11_groundOf, f_X11_groundOf_b0, b1, jbind_s, jlet_v, jlet_v, p1, jbind_s, jlet_v, ← eγ, x1, jc_I (by omega) (by omega), if_neg (by omega), jlet_v, jlet_v, s1, jbind_s]
      dsimp only
      rw [jlet_v, u1, jbind_s, jlet_v, w1, jbind_s]
    · obtain ⟨k, k1, k2, k3⟩ := w5 i hi
      exact ⟨k, by omega, k2, by rw [wp]; exact (x3 k k1).1, by rw [wp]; exact k3⟩
theorem told_spec {τ : St} {k : Nat} {what : Int} (hk : k < 400) (ok : okX (ptM τ k)) (h0 : 0 ≤ what) (h3 : what ≤ 3) : f_X11_told τ (k : Int) what = some (tp (ptM τ k).1 (ptM τ k).2.1 (ptM τ k).2.2 what) := by
  obtain ⟨a1, a2, a3, a4, a5, a6⟩ := ok
  unfold ptM at *
  dsimp only at *
  have lx := lowestM (a := τ 16 k) (d := τ 18 k) ⟨by omega, by omega⟩ a1 (by omega)
  have ly := lowestM (a := τ 17 k) (d := τ 18 k) ⟨by omega, by omega⟩ a1 (by omega)
  rw [f_X11_told, f_X11_told_b0, jc_II (by omega) (by omega) (by omega) (by omega)]
  rcases (by omega : what = 0 ∨ what = 1 ∨ what = 2 ∨ what = 3) with z | z | z | z <;> rw [z]
  · rw [if_pos (by omega), jc_ix (by omega) (by omega), f_X11_told_b20, jc_ix (by omega) (by omega), jchk_t (by decide), jchk_t (by decide), if_pos (by decide), f_X11_told_b37, cast_n, lx.1, jbind_s]
    rfl
  · rw [if_pos (by omega), jc_ix (by omega) (by omega), f_X11_told_b20, jc_ix (by omega) (by omega), jchk_t (by decide), jchk_t (by decide), if_neg (by decide), f_X11_told_b37, cast_n, lx.2, jbind_s]
    rfl
  · rw [if_neg (by omega), jc_ix (by omega) (by omega), f_X11_told_b20, jc_ix (by omega) (by omega), jchk_t (by decide), jchk_t (by decide), if_pos (by decide), f_X11_told_b37, cast_n, ly.1, jbind_s]
    rfl
  · rw [if_neg (by omega), jc_ix (by omega) (by omega), f_X11_told_b20, jc_ix (by omega) (by omega), jchk_t (by decide), jchk_t (by decide), if_neg (by decide), f_X11_told_b37, cast_n, ly.2, jbind_s]
    rfl
theorem tp_eq {x y d x' y' d' what : Int} (hd : 0 < d) (hd' : 0 < d') (h1 : x * d' = x' * d) (h2 : y * d' = y' * d) : tp x y d what = tp x' y' d' what := by
  obtain ⟨a1, a2⟩ := low_eq hd hd' h1
  obtain ⟨b1, b2⟩ := low_eq hd hd' h2
  unfold tp
  rw [a1, a2, b1, b2]
/-- the component's ground may be drawn -/
def GH (σC : St) : Prop := GO σC 20 ∧ inI (σC 20 8) ∧ inI (σC 20 9) ∧ inI (σC 1 6) ∧ (σC 20 9 = σC 1 6 → GrOK σC)
def GS (σC τC : St) : Prop := (∀ k, k < 20 ∨ 34 < k → τC k = σC k) ∧ GO τC 20 ∧ inI (τC 20 8) ∧ (τC 20 9 = σC 20 9 ∨ τC 20 9 = σC 1 6) ∧ (τC 20 9 = σC 1 6 → GrOK τC)
theorem GH.refl {σ : St} (h : GH σ) : GS σ σ := ⟨fun _ _ => rfl, h.1, h.2.1, Or.inl rfl, h.2.2.2.2⟩
theorem onceG {σC σM : St} (h : Rw σC σM) (hG : GH σC) {w : Nat} (hw : w < 24) : ∃ τ, f_X1_drawOnce σC 20 (w : Int) = some τ ∧ GS σC τ ∧ Rw τ σM ∧ (∀ k, k < 7 → τ k = σC k) ∧ GX τ τ 20 w true := by
  obtain ⟨g1, g2, g3, g4, g5⟩ := hG
  obtain ⟨τ, t1, t2, t3, t4, t5, t6⟩ := once_spec h g1 g2 g3 g4 g5 hw
  have fr : ∀ k, k < 7 → τ k = σC k := fun k hk => t2 k (by omega)
  exact ⟨τ, t1, ⟨t2, t3, by rw [t4]; exact ⟨by omega, by omega⟩, Or.inr t5, fun _ => ⟨w, hw, t4, t6⟩⟩, h.cC fr, fr, t6⟩
