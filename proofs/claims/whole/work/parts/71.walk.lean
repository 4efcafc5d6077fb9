/-! ===== the pure side 51: the walk about a ground ===== -/
/-- the points are the corners -/
def PS (γ : St) (Q : Nat → Pt) (m n : Nat) : Prop := γ 0 20 = (n : Int) ∧ n ≤ m ∧ (∀ k, k < n → okX (ptM γ k) ∧ ∃ t, t < m ∧ sm (ptM γ k) (Q t)) ∧ (∀ a b, a < n → b < n → sm (ptM γ a) (ptM γ b) → a = b) ∧ ∀ t, t < m → ∃ k, k < n ∧ sm (ptM γ k) (Q t)
theorem PS.of {β τ : St} {Q : Nat → Pt} {m n : Nat} {T : Nat → Prop} (hQ : ∀ t, t < m → 0 < (Q t).2.2) (h : MI β Q m T (fun _ => True) n τ) : PS τ Q m n := by
  have le := h.le hQ
  obtain ⟨-, -, h3, h4, h5, h6⟩ := h
  refine ⟨h3, le, fun k hk => ?_, fun a b ha hb s => ?_, fun t ht => h6 t ht trivial⟩
  · obtain ⟨x, t, t1, -, t2⟩ := h4 k hk
    exact ⟨x, t, t1, t2⟩
  · rcases (by omega : a < b ∨ a = b ∨ b < a) with c | c | c
    · exact absurd s (h5 a b c hb)
    · exact c
    · exact absurd s.symm (h5 b a c ha)
/-- behind k comes a point for the next corner -/
def nxt (γ : St) (Q : Nat → Pt) (m n : Nat) (σ : St) (k a : Nat) : Prop := ∃ k' : Nat, k' < n ∧ σ 19 k = (k' : Int) ∧ sm (ptM γ k') (Q (nxi m a))
def EDG (γ : St) (Q : Nat → Pt) (m l a : Nat) : Prop := fl (lnM γ l) (Q a) = 0 ∧ fl (lnM γ l) (Q (nxi m a)) = 0 ∧ 0 < dr (lnM γ l) (Q a) (Q (nxi m a))
def BHI (γ : St) (Q : Nat → Pt) (m n l : Nat) (σ : St) : Prop := (∀ k, k ≠ 0 → k ≠ 19 → σ k = γ k) ∧ (∀ j, j ≠ 27 → j ≠ 28 → σ 0 j = γ 0 j) ∧ ∀ k, k < n → ∀ a, a < m → sm (ptM γ k) (Q a) → (σ 19 k = (k : Int) ∨ nxt γ Q m n σ k a) ∧ ∀ l', l' < l → EDG γ Q m l' a → nxt γ Q m n σ k a
theorem behind_step {γ σ : St} {Q : Nat → Pt} {m n nl l : Nat} (hB : MB γ Q m nl) (hP : PS γ Q m n) (hl : l < nl) (h : BHI γ Q m n l σ) (x2 : Int) : ∃ υ, f_X11_groundOf_b102 σ x2 (l : Int) = some (.inl (υ, ((l + 1 : Nat) : Int))) ∧ BHI γ Q m n (l + 1) υ := by
  obtain ⟨hV, hm, h16, hnl, hA⟩ := hB
  obtain ⟨p1, p2, p3, p4, p5⟩ := hP
  obtain ⟨h1, h2, h3⟩ := h
  obtain ⟨v1, v2, v3, v4, v5, v6, v7, v8, v9⟩ := hV
  have el : lnM σ l = lnM γ l := by unfold lnM; rw [h1 13 (by decide) (by decide), h1 14 (by decide) (by decide), h1 15 (by decide) (by decide)]
  have ep : ∀ k, ptM σ k = ptM γ k := fun k => by unfold ptM; rw [h1 16 (by decide) (by decide), h1 17 (by decide) (by decide), h1 18 (by decide) (by decide)]
  have pd : ∀ k, k < n → 0 < (ptM γ k).2.2 := fun k hk => (p3 k hk).1.1
  obtain ⟨τ, t1, t2, t3, t4⟩ := ends_spec (γ := σ) (l := l) (n := n) (by omega) (by rw [el]; exact hA l hl) (by rw [el]; exact v2 l hl) (by rw [h2 20 (by decide) (by decide)]; exact p1) (by omega) (fun k hk => by rw [ep]; exact (p3 k hk).1)
  simp only [el, ep] at t4
  have q16 : σ 0 16 = (nl : Int) := by rw [h2 16 (by decide) (by decide)]; exact h16
  -- an edge of this line: its two points
  have edge : ∀ k a, k < n → a < m → sm (ptM γ k) (Q a) → EDG γ Q m l a → fl (lnM γ l) (ptM γ k) = 0 ∧ ∃ k2, k2 < n ∧ sm (ptM γ k2) (Q (nxi m a)) ∧ fl (lnM γ l) (ptM γ k2) = 0 ∧ 0 < dr (lnM γ l) (ptM γ k) (ptM γ k2) := fun k a hk ha s e => by
    have nm : nxi m a < m := nxi_lt (by omega)
    obtain ⟨k2, k21, k22⟩ := p5 _ nm
    exact ⟨(s.fl0 (pd k hk) (v1 a ha)).mpr e.1, k2, k21, k22, (k22.fl0 (pd k2 k21) (v1 _ nm)).mpr e.2.1, (dr_sm (pd k hk) (pd k2 k21) (v1 a ha) (v1 _ nm) s k22).1.mpr e.2.2⟩
  have keep : ∀ υ : St, (∀ k, k < n → υ 19 k = σ 19 k) → (∀ k a, k < n → a < m → sm (ptM γ k) (Q a) → ¬ EDG γ Q m l a) → ∀ k, k < n → ∀ a, a < m → sm (ptM γ k) (Q a) → (υ 19 k = (k : Int) ∨ nxt γ Q m n υ k a) ∧ ∀ l', l' < l + 1 → EDG γ Q m l' a → nxt γ Q m n υ k a := fun υ u ne k hk a ha s => by
    obtain ⟨x1, x2⟩ := h3 k hk a ha s
    unfold nxt at *
    rw [u k hk]
    refine ⟨x1, fun l' hl' e => ?_⟩
    by_cases c : l' = l
    · rw [c] at e; exact absurd e (ne k a hk ha s)
    · exact x2 l' (by omega) e
  have fr1 : ∀ k, k ≠ 0 → k ≠ 19 → τ k = γ k := fun k a b => by rw [t2 k a, h1 k a b]
  have fr2 : ∀ j, j ≠ 27 → j ≠ 28 → τ 0 j = γ 0 j := fun j a b => by rw [t3 j a b, h2 j a b]
  rw [f_X11_groundOf_b102, q16, jc_II (by omega) (by omega) (by omega) (by omega), if_pos (by omega), t1, jbind_s]
  rcases t4 with ⟨c1, c2, c3⟩ | ⟨f, e, c1, c2, c3, c4, c5, c6, c7⟩
  · rw [c1, c2, jc_II (by omega) (by omega) (by omega) (by omega), if_pos rfl, jlet_v]
    refine ⟨τ, rfl, fr1, fr2, keep τ (fun k hk => by rw [t2 19 (by decide)]) (fun k a hk ha s ed => c3 k hk (edge k a hk ha s ed).1)⟩
  · rw [c3, c4, jc_II (by omega) (by omega) (by omega) (by omega)]
    by_cases q : f = e
    · rw [if_pos (by omega), jlet_v]
      refine ⟨τ, rfl, fr1, fr2, keep τ (fun k hk => by rw [t2 19 (by decide)]) (fun k a hk ha s ed => ?_)⟩
      obtain ⟨y1, k2, y2, y3, y4, y5⟩ := edge k a hk ha s ed
      have z1 := (c7 k hk y1).1
      have z2 := (c7 k2 y2 y4).2
      rw [← q] at z2
      have := dr_lt (pd k hk) (pd k2 y2) (pd f c1) (by omega) z2 (Or.inl y5)
      rw [dr_sw] at this
      omega
    · rw [if_neg (by omega), jc_ix (by omega) (by omega), cast_n, jlet_v, jlet_v]
      have fe : 0 < dr (lnM γ l) (ptM γ f) (ptM γ e) := by
        have := (c7 e c2 c6).1
        by_cases z : dr (lnM γ l) (ptM γ f) (ptM γ e) = 0
        · exact absurd (p4 f e c1 c2 (dr_zero (v2 l hl) c5 c6 z)) q
        · omega
      obtain ⟨-, a', a1, a2⟩ := p3 f c1
      obtain ⟨-, b', b1, b2⟩ := p3 e c2
      have ba : b' = nxi m a' := v8 l hl a' b' a1 b1 ((a2.fl0 (pd f c1) (v1 a' a1)).mp c5) ((b2.fl0 (pd e c2) (v1 b' b1)).mp c6) ((dr_sm (pd f c1) (pd e c2) (v1 a' a1) (v1 b' b1) a2 b2).1.mp fe)
      have nf : nxt γ Q m n (up2 τ 19 f (e : Int)) f a' := ⟨e, c2, up2_same, by rw [← ba]; exact b2⟩
      refine ⟨up2 τ 19 f (e : Int), rfl, fun k a b => by rw [up2_k b, fr1 k a b], fun j a b => by rw [up2_k (by decide), fr2 j a b], fun k hk a ha s => ?_⟩
      by_cases kf : k = f
      · have aa : a = a' := by
          rw [kf] at s
          exact v6 a a' ha a1 (s.symm.trans (pd f c1) a2)
        rw [kf, aa]
        exact ⟨Or.inr nf, fun _ _ _ => nf⟩
      · obtain ⟨x1, x2⟩ := h3 k hk a ha s
        have u : up2 τ 19 f (e : Int) 19 k = σ 19 k := by rw [up2_j kf, t2 19 (by decide)]
        refine ⟨?_, fun l' hl' ed => ?_⟩
        · unfold nxt at *
          rw [u]; exact x1
        · by_cases c : l' = l
          · exfalso
            rw [c] at ed
            obtain ⟨y1, k2, y2, y3, y4, y5⟩ := edge k a hk ha s ed
            have z1 := (c7 k hk y1).1
            have nz : dr (lnM γ l) (ptM γ f) (ptM γ k) ≠ 0 := fun z => kf (p4 f k c1 hk (dr_zero (v2 l hl) c5 y1 z)).symm
            have nm : nxi m a < m := nxi_lt (by omega)
            have w1 : a = nxi m a' := v8 l hl a' a a1 ha ((a2.fl0 (pd f c1) (v1 a' a1)).mp c5) ed.1 ((dr_sm (pd f c1) (pd k hk) (v1 a' a1) (v1 a ha) a2 s).1.mp (by omega))
            have w2 : nxi m a = nxi m a' := v8 l hl a' _ a1 nm ((a2.fl0 (pd f c1) (v1 a' a1)).mp c5) ed.2.1 ((dr_sm (pd f c1) (pd k2 y2) (v1 a' a1) (v1 _ nm) a2 y3).1.mp (dr_lt (pd f c1) (pd k hk) (pd k2 y2) z1 (by omega) (Or.inr y5)))
            have := ed.2.2
            rw [w2, ← w1, dr_aa] at this
            omega
          · have := x2 l' (by omega) ed
            unfold nxt at *
            rw [u]; exact this
theorem behind_loop {γ σ : St} {Q : Nat → Pt} {m n nl : Nat} (hB : MB γ Q m nl) (hP : PS γ Q m n) (h : BHI γ Q m n 0 σ) (x2 : Int) (fuel : Nat) (hf : 28 < fuel) : ∃ υ, jloop (fun (q : (St × Int)) => match q with | (σ, x3) => f_X11_groundOf_b102 σ x2 x3) fuel (σ, 0) = some υ ∧ (∀ k, k ≠ 0 → k ≠ 19 → υ k = γ k) ∧ (∀ j, j ≠ 27 → j ≠ 28 → υ 0 j = γ 0 j) ∧ ∀ k, k < n → ∀ a, a < m → sm (ptM γ k) (Q a) → nxt γ Q m n υ k a := by
  obtain ⟨hV, hm, h16, hnl, hA⟩ := id hB
  refine jloop_ex (I := fun i q => q.2 = (i : Int) ∧ BHI γ Q m n i q.1) (N := nl) (J := _) ?_ ?_ nl 0 fuel _ (by omega) (by omega) ⟨rfl, h⟩
  · rintro i ⟨μ, _⟩ hi ⟨rfl, i1⟩
    obtain ⟨υ, s1, s2⟩ := behind_step hB hP hi i1 x2
    exact ⟨_, s1, rfl, s2⟩
  · rintro ⟨μ, _⟩ ⟨rfl, i1, i2, i3⟩
    dsimp only at i1 i2 i3
    refine ⟨μ, ?_, i1, i2, fun k hk a ha s => ?_⟩
    · show f_X11_groundOf_b102 μ x2 (nl : Int) = _
      rw [f_X11_groundOf_b102, i2 16 (by decide) (by decide), h16, jc_II (by omega) (by omega) (by omega) (by omega), if_neg (by omega)]
    · obtain ⟨x1, x2⟩ := i3 k hk a ha s
      by_cases m2 : 2 ≤ m
      · obtain ⟨l, l1, l2, l3, l4⟩ := hV.2.2.2.2.2.2.1 a ha m2
        exact x2 l l1 ⟨l2, l3, l4⟩
      · rcases x1 with z | z
        · have e : nxi m a = a := by unfold nxi; rw [if_neg (by omega)]; omega
          exact ⟨k, hk, z, by rw [e]; exact s⟩
        · exact z
/-- the i-th corner from f on -/
def rot (m f i : Nat) : Nat := if f + i < m then f + i else f + i - m
theorem rot_s {m f i : Nat} (hf : f < m) (hi : i < m) : nxi m (rot m f i) = rot m f (i + 1) := by
  unfold nxi rot
  split <;> split <;> (try split) <;> omega
theorem walk_loop {γ σ : St} {Q : Nat → Pt} {m n s f : Nat} (hQ : ∀ t, t < m → 0 < (Q t).2.2) (hQd : ∀ a b, a < m → b < m → sm (Q a) (Q b) → a = b) (hm : m ≤ 27) (hP : PS γ Q m n) (hb : ∀ k, k < n → ∀ a, a < m → sm (ptM γ k) (Q a) → nxt γ Q m n σ k a) (h25 : σ 0 25 = 0) (hs : s < n) (hf : f < m) (hsf : sm (ptM γ s) (Q f)) (fuel : Nat) (hfu : 28 < fuel) : ∃ υ, jloop (fun (q : (St × Int)) => match q with | (σ, x3) => f_X11_groundOf_b147 σ (s : Int) x3) fuel (σ, (s : Int)) = some υ ∧ (∀ k, k ≠ 0 → k ≠ 20 → υ k = σ k) ∧ (∀ j, j ≠ 25 → υ 0 j = σ 0 j) ∧ υ 0 25 = (m : Int) ∧ ∀ i, i < m → ∃ k : Nat, k < n ∧ υ 20 i = (k : Int) ∧ sm (ptM γ k) (Q (rot m f i)) := by
  obtain ⟨p1, p2, p3, p4, p5⟩ := hP
  refine jloop_ex (I := fun i q => (∃ k : Nat, k < n ∧ q.2 = (k : Int) ∧ sm (ptM γ k) (Q (rot m f i)) ∧ (i = 0 → k = s)) ∧ (∀ k, k ≠ 0 → k ≠ 20 → q.1 k = σ k) ∧ (∀ j, j ≠ 25 → q.1 0 j = σ 0 j) ∧ q.1 0 25 = (i : Int) ∧ ∀ c, c < i → ∃ k : Nat, k < n ∧ q.1 20 c = (k : Int) ∧ sm (ptM γ k) (Q (rot m f c))) (N := m) (J := _) ?_ ?_ m 0 fuel _ (by omega) (by omega) ⟨⟨s, hs, rfl, by
    have : rot m f 0 = f := by unfold rot; rw [if_pos (by omega)]; omega
    rw [this]; exact hsf, fun _ => rfl⟩, fun _ _ _ => rfl, fun _ _ => rfl, h25, fun c hc => absurd hc (Nat.not_lt_zero c)⟩
  · rintro i ⟨μ, _⟩ hi ⟨⟨k, k1, rfl, k2, k3⟩, i1, i2, i3, i4⟩
    dsimp only at i1 i2 i3 i4
    show ∃ s', f_X11_groundOf_b147 μ (s : Int) (k : Int) = some (.inl s') ∧ _
    have rl : rot m f i < m := by unfold rot; split <;> omega
    obtain ⟨k', n1, n2, n3⟩ := hb k k1 _ rl k2
    rw [rot_s hf hi] at n3
    have go : f_X11_groundOf_b159 μ (s : Int) (k : Int) = some (.inl (up2 (up2 μ 20 i (k : Int)) 0 25 ((i + 1 : Nat) : Int), (k' : Int))) := by
      rw [f_X11_groundOf_b159, i3, jc_ix (by omega) (by omega), cast_n, jlet_v, up2_k (k' := 0) (by decide), i3, jlet_v, jc_ix (by omega) (by omega), cast_n, up2_k (k' := 19) (by decide), up2_k (k' := 19) (by decide), i1 19 (by decide) (by decide), n2, jlet_v, show (i : Int) + 1 = ((i + 1 : Nat) : Int) by omega]
    have nx : f_X11_groundOf_b147 μ (s : Int) (k : Int) = some (.inl (up2 (up2 μ 20 i (k : Int)) 0 25 ((i + 1 : Nat) : Int), (k' : Int))) := by
      rw [f_X11_groundOf_b147, i3, jc_I (by omega) (by omega)]
      by_cases c : i = 0
      · rw [if_pos (by omega), go]
      · have ks : k ≠ s := fun e => by
          rw [e] at k2
          have := hQd _ _ rl hf (k2.symm.trans (p3 s hs).1.1 hsf)
          unfold rot at this
          split at this <;> omega
        rw [if_neg (by omega), jc_II (by omega) (by omega) (by omega) (by omega), if_neg (by omega), go]
    refine ⟨_, nx, ⟨k', n1, rfl, n3, fun z => by omega⟩, fun c a b => by dsimp only; rw [up2_k a, up2_k b, i1 c a b], fun j hj => by dsimp only; rw [up2_j hj, up2_k (k' := 0) (by decide), i2 j hj], by dsimp only; rw [up2_same], fun c hc => ?_⟩
    dsimp only
    rw [up2_k (k' := 20) (by decide)]
    by_cases e : c = i
    · exact ⟨k, k1, by rw [e, up2_same], by rw [e]; exact k2⟩
    · obtain ⟨x, x1, x2, x3⟩ := i4 c (by omega)
      exact ⟨x, x1, by rw [up2_j e]; exact x2, x3⟩
  · rintro ⟨μ, _⟩ ⟨⟨k, k1, rfl, k2, k3⟩, i1, i2, i3, i4⟩
    dsimp only at i1 i2 i3 i4
    refine ⟨μ, ?_, i1, i2, i3, i4⟩
    show f_X11_groundOf_b147 μ (s : Int) (k : Int) = _
    have e : rot m f m = f := by unfold rot; rw [if_neg (by omega)]; omega
    rw [e] at k2
    have ks := p4 k s k1 hs (k2.trans (hQ f hf) hsf.symm)
    rw [f_X11_groundOf_b147, i3, jc_I (by omega) (by omega), if_neg (by omega), jc_II (by omega) (by omega) (by omega) (by omega), if_pos (by omega)]
