/-! ===== the pure side 54: borders ===== -/
/-- a corner on a line -/
def zl (L : Pt) (q : Nat → Pt) (i : Nat) : Bool := decide (fl L (q i) = 0)
theorem zl_t {L : Pt} {q : Nat → Pt} {i : Nat} : zl L q i = true ↔ fl L (q i) = 0 := by unfold zl; exact decide_eq_true_iff
theorem zl_f {L : Pt} {q : Nat → Pt} {i : Nat} : zl L q i = false ↔ fl L (q i) ≠ 0 := by unfold zl; exact decide_eq_false_iff_not
theorem ct_nil {p : Nat → Bool} : ∀ {n : Nat}, (∀ k, k < n → p k = false) → ct p n = 0
  | 0, _ => rfl
  | n + 1, h => by rw [ct_f (h n (by omega))]; exact ct_nil (fun k hk => h k (by omega))
theorem ct_one {p : Nat → Bool} {n i : Nat} (hi : i < n) (pi : p i = true) (h : ∀ k, k < n → p k = true → k = i) : ct p n = 1 := by
  have a := ct_lt pi hi
  by_cases c : 1 < ct p n
  · exfalso
    obtain ⟨u, u1, u2, u3⟩ := ct_kth c
    obtain ⟨w, w1, w2, w3⟩ := ct_kth (show 0 < ct p n by omega)
    have e1 := h u u1 u2
    have e2 := h w w1 w2
    rw [e1] at u3
    rw [e2] at w3
    omega
  · omega
theorem ct_two {p : Nat → Bool} {n i j : Nat} (hi : i < n) (hj : j < n) (ij : i ≠ j) (pi : p i = true) (pj : p j = true) : 2 ≤ ct p n := by
  have a := ct_lt pi hi
  have b := ct_lt pj hj
  by_cases c : i < j
  · have := ct_lt pi c; omega
  · have := ct_lt pj (show j < i by omega); omega
theorem shared_spec {τ : St} {g o s m v : Nat} (hG : GD g o s) (h4 : τ g 4 = (o : Int)) (h0 : τ o 0 = (m : Int)) (hm : m ≤ 27) (hv : v < 24) (hc : f_X9_isCounted τ (v : Int) = some 1) (hr : ∀ i, i < m → -100000000000000 ≤ fl (lnG τ g (4 + v)) (ptO τ o i) ∧ fl (lnG τ g (4 + v)) (ptO τ o i) ≤ 100000000000000) : f_X1_sharedWith τ g (v : Int) = some ((ct (zl (lnG τ g (4 + v)) (ptO τ o)) m : Nat) : Int) := by
  obtain ⟨n1, n2⟩ := hG.ln
  obtain ⟨z, ez⟩ : ∃ z, z = zl (lnG τ g (4 + v)) (ptO τ o) := ⟨_, rfl⟩
  have e4 : (4 : Int) + (v : Int) = ((4 + v : Nat) : Int) := by omega
  rw [f_X1_sharedWith, f_X1_sharedWith_b0, hc, jbind_s, jc_I (by omega) (by omega), if_neg (by omega), jlet_v, jlet_v, ← ez]
  refine jbind_of (a := ((ct z m : Nat) : Int)) (jloop_for0 (g := fun i => (((ct z i : Nat) : Int), (i : Int))) (N := m) (e := ((ct z m : Nat) : Int)) rfl (by omega) (fun i hi => ?_) ?_) rfl
  · show f_X1_sharedWith_b17 τ g (v : Int) ((ct z i : Nat) : Int) (i : Int) = _
    obtain ⟨r1, r2⟩ := hr i hi
    rw [f_X1_sharedWith_b17, h4, cast_n, jlet_v, jchk_t n2, h0, jc_II (by omega) (by omega) (by omega) (by omega), if_pos (by omega), e4, inner_spec hG h4 (by omega) (by omega), jbind_s, jc_LL (by omega) (by omega) (by omega) (by omega)]
    by_cases c : fl (lnG τ g (4 + v)) (ptO τ o i) = 0
    · rw [if_pos c, jlet_v, jlet_v, cast_s, cast_s, ct_t (by rw [ez]; exact zl_t.mpr c)]
    · rw [if_neg c, jlet_v, cast_s, ct_f (by rw [ez]; exact zl_f.mpr c)]
  · show f_X1_sharedWith_b17 τ g (v : Int) ((ct z m : Nat) : Int) (m : Int) = _
    rw [f_X1_sharedWith_b17, h4, cast_n, jlet_v, jchk_t n2, h0, jc_II (by omega) (by omega) (by omega) (by omega), if_neg (by omega)]
theorem shared_none {τ : St} {g v : Nat} (hc : f_X9_isCounted τ (v : Int) = some 0) : f_X1_sharedWith τ g (v : Int) = some 0 := by
  rw [f_X1_sharedWith, f_X1_sharedWith_b0, hc, jbind_s, jc_I (by omega) (by omega), if_pos rfl]
/-- the least and the other end so far -/
def EA (z : Nat → Bool) (q : Nat → Pt) (n : Nat) (x3 x4 : Int) : Prop := (ct z n = 0 ∧ x3 = -1) ∨ ∃ i : Nat, i < n ∧ x3 = (i : Int) ∧ z i = true ∧ (∀ k, k < n → z k = true → ¬ bef (q k) (q i)) ∧ (2 ≤ ct z n → ∃ j : Nat, j < n ∧ x4 = (j : Int) ∧ z j = true ∧ j ≠ i)
theorem endAt_spec {τ : St} {g o s m v k : Nat} (hG : GD g o s) (h4 : τ g 4 = (o : Int)) (h0 : τ o 0 = (m : Int)) (hm : m ≤ 27) (hv : v < 24) (hc : f_X9_isCounted τ (v : Int) = some 1) (hL : okL (lnG τ g (4 + v))) (hP : ∀ i, i < m → okP (ptO τ o i)) (hk : k < ct (zl (lnG τ g (4 + v)) (ptO τ o)) m) : ∃ x3 x4, EA (zl (lnG τ g (4 + v)) (ptO τ o)) (ptO τ o) m x3 x4 ∧ f_X1_endAt τ g (v : Int) (k : Int) = some (if k = 0 then x3 else x4) := by
  obtain ⟨n1, n2⟩ := hG.ln
  obtain ⟨z, ez⟩ : ∃ z, z = zl (lnG τ g (4 + v)) (ptO τ o) := ⟨_, rfl⟩
  have e4 : (4 : Int) + (v : Int) = ((4 + v : Nat) : Int) := by omega
  have hr := fun i (hi : i < m) => fl_rng hL (hP i hi)
  have sh := shared_spec hG h4 h0 hm hv hc hr
  rw [← ez] at sh hk ⊢
  have cle := ct_le z m
  have lp : ∃ e, jloop (fun (q : (Int × Int × Int)) => match q with | (x3, x4, x5) => f_X1_endAt_b23 τ g (v : Int) (k : Int) x3 x4 x5) 1000 (-1, -1, 0) = some e ∧ EA z (ptO τ o) m e.1 e.2 := by
    refine jloop_ex (I := fun n q => q.2.2 = (n : Int) ∧ EA z (ptO τ o) n q.1 q.2.1) (N := m) (J := _) ?_ ?_ m 0 1000 _ (by omega) (by omega) ⟨rfl, Or.inl ⟨rfl, rfl⟩⟩
    · rintro n ⟨x3, x4, _⟩ hn ⟨rfl, i1⟩
      dsimp only at i1
      show ∃ s', f_X1_endAt_b23 τ g (v : Int) (k : Int) x3 x4 (n : Int) = some (.inl s') ∧ _
      obtain ⟨r1, r2⟩ := hr n hn
      rw [f_X1_endAt_b23, h4, cast_n, jlet_v, jchk_t n2, h0, jc_II (by omega) (by omega) (by omega) (by omega), if_pos (by omega), e4, inner_spec hG h4 (by omega) (by omega), jbind_s, jc_LL (by omega) (by omega) (by omega) (by omega)]
      by_cases c : fl (lnG τ g (4 + v)) (ptO τ o n) = 0
      · have zn : z n = true := by rw [ez]; exact zl_t.mpr c
        rw [if_pos c]
        rcases i1 with ⟨a1, a2⟩ | ⟨i, a1, a2, a3, a4, a5⟩
        · rw [a2, jc_II (by omega) (by omega) (by omega) (by omega), if_pos rfl, f_X1_endAt_b67, jlet_v, jlet_v, jlet_v]
          refine ⟨_, rfl, rfl, Or.inr ⟨n, by omega, rfl, zn, fun k hk zk => ?_, fun x => ?_⟩⟩
          · by_cases e : k = n
            · rw [e]; exact bef.irr
            · have := ct_lt zk (show k < n by omega); omega
          · rw [ct_t zn, a1] at x; omega
        · have im : i < m := by omega
          rw [a2, jc_II (by omega) (by omega) (by omega) (by omega), if_neg (by omega), jlet_v, jchk_t n2]
          rcases bef_spec (τ := τ) (i := n) (j := i) hG (by omega) (by omega) (hP n hn) (hP i im) with ⟨b1, b2⟩ | ⟨b1, b2⟩
          · rw [b2, jbind_s, jc_I (by omega) (by omega), if_neg (by omega), f_X1_endAt_b67, jlet_v, jlet_v, jlet_v]
            refine ⟨_, rfl, rfl, Or.inr ⟨n, by omega, rfl, zn, fun k hk zk y => ?_, fun x => ⟨i, by omega, rfl, a3, by omega⟩⟩⟩
            by_cases e : k = n
            · rw [e] at y; exact bef.irr y
            · exact a4 k (by omega) zk (bef.trans (hP k (by omega)).1 (hP n hn).1 (hP i im).1 y b1)
          · rw [b2, jbind_s, jc_I (by omega) (by omega), if_pos rfl, jlet_v, jlet_v]
            refine ⟨_, rfl, rfl, Or.inr ⟨i, by omega, rfl, a3, fun k hk zk => ?_, fun x => ⟨n, by omega, rfl, zn, by omega⟩⟩⟩
            by_cases e : k = n
            · rw [e]; exact b1
            · exact a4 k (by omega) zk
      · have zn : z n = false := by rw [ez]; exact zl_f.mpr c
        rw [if_neg c, jlet_v]
        refine ⟨_, rfl, rfl, ?_⟩
        dsimp only
        unfold EA
        rw [ct_f zn]
        rcases i1 with a | ⟨i, a1, a2, a3, a4, a5⟩
        · exact Or.inl a
        · refine Or.inr ⟨i, by omega, a2, a3, fun k hk zk => ?_, fun x => ?_⟩
          · by_cases e : k = n
            · rw [e, zn] at zk; cases zk
            · exact a4 k (by omega) zk
          · obtain ⟨j, j1, j2, j3, j4⟩ := a5 x
            exact ⟨j, by omega, j2, j3, j4⟩
    · rintro ⟨x3, x4, _⟩ ⟨rfl, i1⟩
      refine ⟨(x3, x4), ?_, i1⟩
      show f_X1_endAt_b23 τ g (v : Int) (k : Int) x3 x4 (m : Int) = _
      rw [f_X1_endAt_b23, h4, cast_n, jlet_v, jchk_t n2, h0, jc_II (by omega) (by omega) (by omega) (by omega), if_neg (by omega)]
  obtain ⟨⟨x3, x4⟩, l1, l2⟩ := lp
  refine ⟨x3, x4, l2, ?_⟩
  rw [f_X1_endAt, f_X1_endAt_b0, jc_I (by omega) (by omega), if_neg (by omega), sh, jbind_s, jc_II (by omega) (by omega) (by omega) (by omega), if_pos (by omega), jlet_v, jlet_v, jlet_v]
  refine jbind_of l1 ?_
  dsimp only
  rw [jc_I (by omega) (by omega)]
  by_cases e : k = 0
  · rw [if_pos e, if_pos (by omega)]
  · rw [if_neg e, if_neg (by omega)]
theorem par_tr {L M N : Pt} (h : nzL L) (h1 : par L M = 0) (h2 : par L N = 0) : par M N = 0 := by
  unfold par nzL at *
  have i1 : L.1 * (M.1 * N.2.1 - N.1 * M.2.1) = 0 := by grind
  have i2 : L.2.1 * (M.1 * N.2.1 - N.1 * M.2.1) = 0 := by grind
  rcases h with h | h
  · exact (Int.mul_eq_zero.mp i1).resolve_left h
  · exact (Int.mul_eq_zero.mp i2).resolve_left h
theorem bm_loop {β : St} {Q : Nat → Pt} {m nl : Nat} (hB : MB β Q m nl) (h20 : β 0 20 = 0) (nl0 : 0 < nl) (fuel : Nat) (hf : 28 < fuel) : ∃ υ, jloop (fun (q : (St × Int)) => match q with | (σ, x3) => f_X11_borderOf_b31 σ x3) fuel (β, 1) = some υ ∧ ∃ n, MI β Q m (fun t => fl (lnM β 0) (Q t) = 0) (fun t => fl (lnM β 0) (Q t) = 0) n υ := by
  obtain ⟨hV, hm, h16, hnl, hA⟩ := id hB
  refine jloop_ex (I := fun i q => q.2 = (i : Int) ∧ 1 ≤ i ∧ ∃ n', MI β Q m (fun t => fl (lnM β 0) (Q t) = 0) (fun t => ∃ b, b < i ∧ par (lnM β 0) (lnM β b) ≠ 0 ∧ fl (lnM β 0) (Q t) = 0 ∧ fl (lnM β b) (Q t) = 0) n' q.1) (N := nl) (J := _) ?_ ?_ (nl - 1) 1 fuel _ (by omega) (by omega) ⟨rfl, by omega, 0, fun _ _ _ => rfl, fun _ _ => rfl, h20, fun k hk => absurd hk (Nat.not_lt_zero k), fun a b _ hb => absurd hb (Nat.not_lt_zero b), fun t _ st => by
    obtain ⟨b, b1, b2, -⟩ := st
    have : b = 0 := by omega
    rw [this] at b2
    exfalso
    apply b2
    unfold par
    omega⟩
  · rintro i ⟨μ, _⟩ hi ⟨rfl, i0, n', i1⟩
    dsimp only at i1
    obtain ⟨υ, n2, s1, s2⟩ := i1.step (i := 0) (j := i) (S' := fun t => ∃ b, b < i + 1 ∧ par (lnM β 0) (lnM β b) ≠ 0 ∧ fl (lnM β 0) (Q t) = 0 ∧ fl (lnM β b) (Q t) = 0) hV hm h16 hnl hA nl0 hi (fun t _ z _ => z) (fun t st => by
      obtain ⟨b, b1, b2, b3, b4⟩ := st
      by_cases e : b = i
      · rw [e] at b2 b4; exact Or.inr ⟨b2, b3, b4⟩
      · exact Or.inl ⟨b, by omega, b2, b3, b4⟩)
    refine ⟨(υ, ((i + 1 : Nat) : Int)), ?_, rfl, by omega, n2, s2⟩
    show f_X11_borderOf_b31 μ (i : Int) = _
    have s1' : f_X11_meets μ 0 (i : Int) = some υ := s1
    rw [f_X11_borderOf_b31, i1.2.1 16 (by decide), h16, jc_II (by omega) (by omega) (by omega) (by omega), if_pos (by omega), s1', jbind_s, jlet_v, cast_s]
  · rintro ⟨μ, _⟩ ⟨rfl, i0, n', i1⟩
    dsimp only at i1
    refine ⟨μ, ?_, n', i1.1, i1.2.1, i1.2.2.1, i1.2.2.2.1, i1.2.2.2.2.1, fun t ht z => i1.2.2.2.2.2 t ht ?_⟩
    · show f_X11_borderOf_b31 μ (nl : Int) = _
      rw [f_X11_borderOf_b31, i1.2.1 16 (by decide), h16, jc_II (by omega) (by omega) (by omega) (by omega), if_neg (by omega)]
    · obtain ⟨l1, l2, a1, a2, a3, a4, a5⟩ := hV.2.2.2.2.1 t ht
      by_cases c : par (lnM β 0) (lnM β l1) = 0
      · by_cases d : par (lnM β 0) (lnM β l2) = 0
        · exact absurd (par_tr (hV.2.1 0 nl0) c d) a5
        · exact ⟨l2, a2, d, z, a4⟩
      · exact ⟨l1, a1, c, z, a3⟩
/-- the first and the last point so far -/
def FE (γ : St) (n : Nat) (τ : St) : Prop := (∀ k, k ≠ 0 → τ k = γ k) ∧ (∀ j, j ≠ 27 → j ≠ 28 → τ 0 j = γ 0 j) ∧ ((n = 0 ∧ τ 0 27 = -1 ∧ τ 0 28 = -1) ∨ ∃ f e : Nat, f < n ∧ e < n ∧ τ 0 27 = (f : Int) ∧ τ 0 28 = (e : Int) ∧ ∀ k, k < n → ¬ bef (ptM γ k) (ptM γ f) ∧ ¬ bef (ptM γ e) (ptM γ k))
theorem fe_loop {γ : St} {n : Nat} (h20 : γ 0 20 = (n : Int)) (hn : n < 400) (hX : ∀ k, k < n → okX (ptM γ k)) (fuel : Nat) (hf : 400 < fuel) : ∃ e, jloop (fun (q : (St × Int)) => match q with | (σ, x3) => f_X11_borderOf_b63 σ x3) fuel (up2 (up2 γ 0 27 (-1)) 0 28 (-1), 0) = some e ∧ FE γ n e := by
  refine jloop_ex (I := fun i q => q.2 = (i : Int) ∧ FE γ i q.1) (N := n) (J := _) ?_ ?_ n 0 fuel _ (by omega) (by omega) ⟨rfl, fun k hk => by dsimp only; rw [up2_k hk, up2_k hk], fun j h1 h2 => by dsimp only; rw [up2_j h2, up2_j h1], Or.inl ⟨rfl, by dsimp only; rw [up2_j (by decide), up2_same], by dsimp only; rw [up2_same]⟩⟩
  · rintro i ⟨μ, _⟩ hi ⟨rfl, i1, i2, i3⟩
    dsimp only at i1 i2 i3
    show ∃ s', f_X11_borderOf_b63 μ (i : Int) = some (.inl s') ∧ _
    have gen : ∀ ν : St, (∀ k, k ≠ 0 → ν k = γ k) → ptM ν = ptM γ := fun ν hν => by
      funext k
      unfold ptM
      rw [hν 16 (by decide), hν 17 (by decide), hν 18 (by decide)]
    have ah : ∀ (ν : St) (a b : Nat), (∀ k, k ≠ 0 → ν k = γ k) → a < n → b < n → (bef (ptM γ a) (ptM γ b) ∧ f_X11_isAhead ν (a : Int) (b : Int) = some 1) ∨ (¬ bef (ptM γ a) (ptM γ b) ∧ f_X11_isAhead ν (a : Int) (b : Int) = some 0) := fun ν a b hν ha hb => by
      have := ahead_spec (τ := ν) (a := a) (b := b) (by omega) (by omega) (by rw [gen ν hν]; exact hX a ha) (by rw [gen ν hν]; exact hX b hb)
      rw [gen ν hν] at this
      exact this
    have h20' : μ 0 20 = (n : Int) := by rw [i2 20 (by decide) (by decide)]; exact h20
    rw [f_X11_borderOf_b63, h20', jc_II (by omega) (by omega) (by omega) (by omega), if_pos (by omega)]
    rcases i3 with ⟨c0, c1, c2⟩ | ⟨f, e, c1, c2, c3, c4, c5⟩
    · rw [c1, jc_II (by omega) (by omega) (by omega) (by omega), if_pos rfl, f_X11_borderOf_b91, jlet_v, f_X11_borderOf_b96, up2_j (by decide), c2, jc_II (by omega) (by omega) (by omega) (by omega), if_pos rfl, f_X11_borderOf_b116, jlet_v, jlet_v]
      refine ⟨_, rfl, rfl, fun k hk => by dsimp only; rw [up2_k hk, up2_k hk, i1 k hk], fun j h1 h2 => by dsimp only; rw [up2_j h2, up2_j h1, i2 j h1 h2], Or.inr ⟨i, i, by omega, by omega, by dsimp only; rw [up2_j (by decide), up2_same], by dsimp only; rw [up2_same], fun k hk => ?_⟩⟩
      have : k = i := by omega
      rw [this]
      exact ⟨bef.irr, bef.irr⟩
    · have fn : f < n := by omega
      have en : e < n := by omega
      have fin : ∀ ν : St, ∀ f' : Nat, (∀ k, k ≠ 0 → ν k = γ k) → (∀ j, j ≠ 27 → j ≠ 28 → ν 0 j = γ 0 j) → f' < i + 1 → ν 0 27 = (f' : Int) → ν 0 28 = (e : Int) → (∀ k, k < i + 1 → ¬ bef (ptM γ k) (ptM γ f')) → ∃ s', f_X11_borderOf_b96 ν (i : Int) = some (.inl s') ∧ s'.2 = ((i + 1 : Nat) : Int) ∧ FE γ (i + 1) s'.1 := by
        intro ν f' n1 n2 n3 n4 n5 n6
        rw [f_X11_borderOf_b96, n5, jc_II (by omega) (by omega) (by omega) (by omega), if_neg (by omega)]
        rcases ah ν e i n1 en hi with ⟨b1, b2⟩ | ⟨b1, b2⟩
        · rw [b2, jbind_s, jc_I (by omega) (by omega), if_neg (by omega), f_X11_borderOf_b116, jlet_v, jlet_v]
          refine ⟨_, rfl, rfl, fun k hk => by dsimp only; rw [up2_k hk, n1 k hk], fun j h1 h2 => by dsimp only; rw [up2_j h2, n2 j h1 h2], Or.inr ⟨f', i, n3, by omega, by dsimp only; rw [up2_j (by decide), n4], by dsimp only; rw [up2_same], fun k hk => ⟨n6 k hk, fun y => ?_⟩⟩⟩
          by_cases x : k = i
          · rw [x] at y; exact bef.irr y
          · exact (c5 k (by omega)).2 (bef.trans (hX e en).1 (hX i hi).1 (hX k (by omega)).1 b1 y)
        · rw [b2, jbind_s, jc_I (by omega) (by omega), if_pos rfl, jlet_v]
          refine ⟨_, rfl, rfl, n1, n2, Or.inr ⟨f', e, n3, by omega, n4, n5, fun k hk => ⟨n6 k hk, ?_⟩⟩⟩
          by_cases x : k = i
          · rw [x]; exact b1
          · exact (c5 k (by omega)).2
      rw [c3, jc_II (by omega) (by omega) (by omega) (by omega), if_neg (by omega)]
      rcases ah μ i f i1 hi fn with ⟨b1, b2⟩ | ⟨b1, b2⟩
      · rw [b2, jbind_s, jc_I (by omega) (by omega), if_neg (by omega), f_X11_borderOf_b91, jlet_v]
        refine fin (up2 μ 0 27 (i : Int)) i (fun k hk => by rw [up2_k hk, i1 k hk]) (fun j h1 h2 => by rw [up2_j h1, i2 j h1 h2]) (by omega) up2_same (by rw [up2_j (by decide)]; exact c4) (fun k hk y => ?_)
        by_cases x : k = i
        · rw [x] at y; exact bef.irr y
        · exact (c5 k (by omega)).1 (bef.trans (hX k (by omega)).1 (hX i hi).1 (hX f fn).1 y b1)
      · rw [b2, jbind_s, jc_I (by omega) (by omega), if_pos rfl]
        refine fin μ f i1 i2 (by omega) c3 c4 (fun k hk => ?_)
        by_cases x : k = i
        · rw [x]; exact b1
        · exact (c5 k (by omega)).1
  · rintro ⟨μ, _⟩ ⟨rfl, i1, i2, i3⟩
    dsimp only at i1 i2 i3
    refine ⟨μ, ?_, i1, i2, i3⟩
    show f_X11_borderOf_b63 μ (n : Int) = _
    rw [f_X11_borderOf_b63, i2 20 (by decide) (by decide), h20, jc_II (by omega) (by omega) (by omega) (by omega), if_neg (by omega)]
