/-! ===== the pure side 17: keep, the model's ways ===== -/
/-- the sides from one corner on -/
def sN (f : Nat) : Nat → Nat
  | 0 => 0
  | n + 1 => sN f n ||| 2 ^ ((f + n) % 4)
theorem sN_lt : ∀ f, f < 4 → ∀ n, n < 5 → sN f n < 16 := by decide
theorem jirem_4 : ∀ x : Nat, x < 4 → jirem ((x : Int) + 1) 4 = (((x + 1) % 4 : Nat) : Int) := by decide
theorem sides_loop {σ : St} {f t : Nat} (hf : f < 4) (ht : t < 4) (hne : f ≠ t) (fuel : Nat) (hfu : 4 < fuel) : jloop (fun (q : (Int × Int)) => match q with | (x3, x4) => f_X11_keep_b38 σ (f : Int) (t : Int) x3 x4) fuel (0, (f : Int)) = some ((sN f ((t + 4 - f) % 4) : Nat) : Int) := by
  refine jloop_for0 (g := fun n => (((sN f n : Nat) : Int), (((f + n) % 4 : Nat) : Int))) (N := (t + 4 - f) % 4) (e := _) ?_ (by omega) (fun n hn => ?_) ?_
  · show ((0 : Int), (f : Int)) = (((0 : Nat) : Int), (((f + 0) % 4 : Nat) : Int))
    rw [show (f + 0) % 4 = f by omega]
    rfl
  · show f_X11_keep_b38 σ (f : Int) (t : Int) ((sN f n : Nat) : Int) (((f + n) % 4 : Nat) : Int) = _
    have h1 := sN_lt f hf n (by omega)
    have h2 : 2 ^ ((f + n) % 4) < 2147483648 := pw_lt (by omega)
    rw [f_X11_keep_b38, jc_II (by omega) (by omega) (by omega) (by omega), if_neg (by omega), jlet_v, jshl_n _ (by omega), jor_n (by omega) h2, jchk_t ⟨⟨by omega, by omega⟩, by omega⟩, jlet_v, jirem_4 _ (by omega), show ((f + n) % 4 + 1) % 4 = (f + (n + 1)) % 4 by omega]
    rfl
  · show f_X11_keep_b38 σ (f : Int) (t : Int) _ (((f + (t + 4 - f) % 4) % 4 : Nat) : Int) = _
    rw [f_X11_keep_b38, jc_II (by omega) (by omega) (by omega) (by omega), if_pos (by omega)]
/-- which sides: from f to t -/
def Ts (f t s : Nat) : Bool := if f < t then Tb f t true s else Tb t f false s
theorem Ts_in : ∀ f, f < 4 → ∀ t, t < 4 → f ≠ t → ∀ s : Nat, s < 4 → jand (jshr ((sN f ((t + 4 - f) % 4) : Nat) : Int) (s : Int)) 1 = bI (Ts f t s) := by decide
theorem Ts_out : ∀ f, f < 4 → ∀ t, t < 4 → f ≠ t → ∀ s : Nat, s < 4 → jand (jshr (15 - ((sN f ((t + 4 - f) % 4) : Nat) : Int)) (s : Int)) 1 = bI (!(Ts f t s)) := by decide
theorem Ts_corner : ∀ f, f < 4 → ∀ t, t < 4 → f ≠ t → Ts f t f = true ∧ Ts f t ((f + 3) % 4) = false ∧ Ts f t t = false ∧ Ts f t ((t + 3) % 4) = true := by decide
theorem keep_init {σC σM : St} (h : Rw σC σM) {f t : Nat} (hf : f < 4) (ht : t < 4) (hne : f ≠ t) {x1 x2 : Int} (fuel : Nat) (hfu : 24 < fuel) : ∃ τ, jloop (fun (q : (St × Int)) => match q with | (σ, x4) => f_X11_keep_b65 σ x1 x2 ((sN f ((t + 4 - f) % 4) : Nat) : Int) x4) fuel (σM, 0) = some τ ∧ (∀ k, k ≠ 29 → k ≠ 30 → τ k = σM k) ∧ ∀ w, w < 24 → τ 30 w = bI (!(pC σC w)) ∧ (pC σC w = true → isRim σC w (Ts f t) (τ 29 w)) := by
  obtain ⟨c1, c2, c3, c4⟩ := Ts_corner f hf t ht hne
  refine jloop_ex (I := fun w s => s.2 = (w : Int) ∧ (∀ k, k ≠ 29 → k ≠ 30 → s.1 k = σM k) ∧ ∀ u, u < w → s.1 30 u = bI (!(pC σC u)) ∧ (pC σC u = true → isRim σC u (Ts f t) (s.1 29 u))) (N := 24) (J := _) ?_ ?_ 24 0 fuel _ (by omega) (by omega) ⟨rfl, fun _ _ _ => rfl, fun u hu => absurd hu (Nat.not_lt_zero u)⟩
  · rintro w ⟨τ, _⟩ hw ⟨rfl, i1, i2⟩
    dsimp only at i1 i2
    show ∃ s', f_X11_keep_b65 τ x1 x2 ((sN f ((t + 4 - f) % 4) : Nat) : Int) (w : Int) = some (.inl s') ∧ _
    have hR : ∀ {μ : St}, (∀ k, k ≠ 29 → k ≠ 30 → μ k = σM k) → Rw σC μ := fun hμ => h.cM (fun k _ h2 => hμ k (by omega) (by omega)) (by rw [hμ 0 (by decide) (by decide)]) (by rw [hμ 0 (by decide) (by decide)]) (by rw [hμ 0 (by decide) (by decide)])
    have nx : ∀ d r : Int, d = bI (!(pC σC w)) → (pC σC w = true → isRim σC w (Ts f t) r) → ∀ u, u < w + 1 → up2 (up2 τ 30 w d) 29 w r 30 u = bI (!(pC σC u)) ∧ (pC σC u = true → isRim σC u (Ts f t) (up2 (up2 τ 30 w d) 29 w r 29 u)) := by
      intro d r hd hr u hu
      rw [up2_k (k' := 30) (by decide)]
      by_cases e : u = w
      · rw [e, up2_same, up2_same]
        exact ⟨hd, hr⟩
      · rw [up2_j e, up2_j e, up2_k (k' := 29) (by decide)]
        exact i2 u (by omega)
    have fr : ∀ d r : Int, ∀ k, k ≠ 29 → k ≠ 30 → up2 (up2 τ 30 w d) 29 w r k = σM k := fun d r k h1 h2 => by rw [up2_k h1, up2_k h2, i1 k h1 h2]
    rw [f_X11_keep_b65, jc_II (by omega) (by omega) (by omega) (by omega), if_pos (by omega), (hR i1).cnM hw, jbind_s]
    cases hp : pC σC w with
    | false =>
      rw [bI_f, jc_I (by omega) (by omega), if_pos rfl, f_X11_keep_b92, jchk_t ⟨⟨by omega, by omega⟩, Or.inr rfl⟩, jlet_v, jc_ix (by omega) (by omega), cast_n, up2_same, jc_I (by omega) (by omega), if_neg (by omega), f_X11_keep_b122, jc_ix (by omega) (by omega), jlet_v, jlet_v, cast_n, cast_s]
      exact ⟨_, rfl, rfl, fr _ _, nx _ _ (by rw [hp]; rfl) (fun z => by rw [hp] at z; cases z)⟩
    | true =>
      have hR2 : Rw σC (up2 τ 30 w 0) := hR (fun k h1 h2 => by rw [up2_k h2, i1 k h1 h2])
      obtain ⟨r, r1, r2⟩ := toSides_spec hR2 hw hp (Ts_in f hf t ht hne) ⟨f, hf, c1⟩
      rw [bI_t, jc_I (by omega) (by omega), if_neg (by omega), f_X11_keep_b92, jchk_t ⟨⟨by omega, by omega⟩, Or.inl rfl⟩, jlet_v, jc_ix (by omega) (by omega), cast_n, up2_same, jc_I (by omega) (by omega), if_pos rfl, r1, jbind_s, f_X11_keep_b122, jc_ix (by omega) (by omega), jlet_v, jlet_v, cast_n, cast_s]
      exact ⟨_, rfl, rfl, fr _ _, nx _ _ (by rw [hp]; rfl) (fun _ => r2)⟩
  · rintro ⟨τ, _⟩ ⟨rfl, i1, i2⟩
    refine ⟨τ, ?_, i1, i2⟩
    show f_X11_keep_b65 τ x1 x2 ((sN f ((t + 4 - f) % 4) : Nat) : Int) ((24 : Nat) : Int) = _
    rw [f_X11_keep_b65, jc_II (by omega) (by omega) (by omega) (by omega), if_neg (by omega)]
/-- the model's search for the next -/
theorem keep_next {τ : St} {x3 x4 : Int} (h30 : ∀ w, w < 24 → τ 30 w = 0 ∨ τ 30 w = 1) (h29 : ∀ w, w < 24 → τ 30 w = 0 → 0 ≤ τ 29 w ∧ τ 29 w ≤ 4000000) (fuel : Nat) (hfu : 24 < fuel) : ∃ e, jloop (fun (q : (Int × Int)) => match q with | (x7, x8) => f_X11_keep_b172 τ x3 x4 x7 x8) fuel (-1, 0) = some e ∧ ((e = -1 ∧ ∀ u, u < 24 → τ 30 u = 1) ∨ ∃ k : Nat, k < 24 ∧ e = (k : Int) ∧ τ 30 k = 0 ∧ ∀ u, u < 24 → τ 30 u = 0 → τ 29 k ≤ τ 29 u) := by
  refine jloop_ex (I := fun w s => s.2 = (w : Int) ∧ ((s.1 = -1 ∧ ∀ u, u < w → τ 30 u = 1) ∨ ∃ k : Nat, k < w ∧ s.1 = (k : Int) ∧ τ 30 k = 0 ∧ ∀ u, u < w → τ 30 u = 0 → τ 29 k ≤ τ 29 u)) (N := 24) (J := _) ?_ ?_ 24 0 fuel _ (by omega) (by omega) ⟨rfl, Or.inl ⟨rfl, fun u hu => absurd hu (Nat.not_lt_zero u)⟩⟩
  · rintro w ⟨e, _⟩ hw ⟨rfl, i1⟩
    dsimp only at i1
    show ∃ s', f_X11_keep_b172 τ x3 x4 e (w : Int) = some (.inl s') ∧ _
    have hz := h30 w hw
    rw [f_X11_keep_b172, jc_II (by omega) (by omega) (by omega) (by omega), if_pos (by omega), jc_ix (by omega) (by omega), cast_n, jc_I (by omega) (by omega)]
    by_cases c : τ 30 w = 0
    · have g1 := h29 w hw c
      rw [if_pos c]
      rcases i1 with ⟨rfl, i1⟩ | ⟨k, hk, rfl, i2, i3⟩
      · rw [jc_II (by omega) (by omega) (by omega) (by omega), if_pos rfl, jlet_v, jlet_v, cast_s]
        refine ⟨_, rfl, rfl, Or.inr ⟨w, by omega, rfl, c, fun u hu z => ?_⟩⟩
        by_cases e : u = w
        · rw [e]; omega
        · have := i1 u (by omega)
          omega
      · have g2 := h29 k (by omega) i2
        rw [jc_II (by omega) (by omega) (by omega) (by omega), if_neg (by omega), jc_ix (by omega) (by omega), jc_ix (by omega) (by omega), cast_n, jc_LL (by omega) (by omega) (by omega) (by omega)]
        by_cases c2 : τ 29 w < τ 29 k
        · rw [if_pos c2, jlet_v, jlet_v, cast_s]
          refine ⟨_, rfl, rfl, Or.inr ⟨w, by omega, rfl, c, fun u hu z => ?_⟩⟩
          by_cases e : u = w
          · rw [e]; omega
          · have := i3 u (by omega) z
            omega
        · rw [if_neg c2, jlet_v, cast_s]
          refine ⟨_, rfl, rfl, Or.inr ⟨k, by omega, rfl, i2, fun u hu z => ?_⟩⟩
          by_cases e : u = w
          · rw [e]; omega
          · exact i3 u (by omega) z
    · rw [if_neg c, jlet_v, cast_s]
      refine ⟨_, rfl, rfl, ?_⟩
      rcases i1 with ⟨i0, i1⟩ | ⟨k, hk, i0, i2, i3⟩
      · refine Or.inl ⟨i0, fun u hu => ?_⟩
        by_cases e : u = w
        · rw [e]; omega
        · exact i1 u (by omega)
      · refine Or.inr ⟨k, by omega, i0, i2, fun u hu z => ?_⟩
        by_cases e : u = w
        · rw [e] at z; omega
        · exact i3 u (by omega) z
  · rintro ⟨e, _⟩ ⟨rfl, i1⟩
    refine ⟨e, ?_, i1⟩
    show f_X11_keep_b172 τ x3 x4 e ((24 : Nat) : Int) = _
    rw [f_X11_keep_b172, jc_II (by omega) (by omega) (by omega) (by omega), if_neg (by omega)]
def upM (d r g : Int) : Int := if (if r < d then d else r) < g then (if r < d then d else r) else g
/-- the model's new reaches -/
theorem keep_chain {σC τ : St} (h : Rw σC τ) {x3 x4 x6 : Int} {k : Nat} (hk : k < 24) (pk : pC σC k = true) (h30 : ∀ w, w < 24 → τ 30 w = 0 ∨ τ 30 w = 1) (hp : ∀ w, w < 24 → τ 30 w = 0 → pC σC w = true) (h29 : ∀ w, w < 24 → pC σC w = true → 0 ≤ τ 29 w ∧ τ 29 w ≤ 4000000) (hkd : τ 30 k = 1) (fuel : Nat) (hfu : 24 < fuel) : ∃ υ, jloop (fun (q : (St × Int)) => match q with | (σ, x12) => f_X11_keep_b306 σ x3 x4 x6 (k : Int) x12) fuel (τ, 0) = some υ ∧ (∀ j, j ≠ 29 → υ j = τ j) ∧ ∀ w, w < 24 → υ 29 w = if τ 30 w = 0 then upM (sqd σC k w) (τ 29 k) (τ 29 w) else τ 29 w := by
  have key : ∃ υ, jloop (fun (q : (St × Int)) => match q with | (σ, x12) => f_X11_keep_b306 σ x3 x4 x6 (k : Int) x12) fuel (τ, 0) = some υ ∧ (∀ j, j ≠ 29 → υ j = τ j) ∧ ∀ w, w < 24 → υ 29 w = if w < 24 ∧ τ 30 w = 0 then upM (sqd σC k w) (τ 29 k) (τ 29 w) else τ 29 w := by
    refine jloop_ex (I := fun n s => s.2 = (n : Int) ∧ (∀ j, j ≠ 29 → s.1 j = τ j) ∧ ∀ w, w < 24 → s.1 29 w = if w < n ∧ τ 30 w = 0 then upM (sqd σC k w) (τ 29 k) (τ 29 w) else τ 29 w) (N := 24) (J := _) ?_ ?_ 24 0 fuel _ (by omega) (by omega) ⟨rfl, fun _ _ => rfl, fun w _ => by rw [if_neg (by omega)]⟩
    · rintro n ⟨μ, _⟩ hn ⟨rfl, i1, i2⟩
      dsimp only at i1 i2
      show ∃ s', f_X11_keep_b306 μ x3 x4 x6 (k : Int) (n : Int) = some (.inl s') ∧ _
      have hz := h30 n hn
      have gk : μ 29 k = τ 29 k := by rw [i2 k hk, if_neg (fun z => by omega)]
      have gn : μ 29 n = τ 29 n := by rw [i2 n hn, if_neg (fun z => by omega)]
      have rest : ∀ w, w < 24 → w ≠ n → μ 29 w = if w < n + 1 ∧ τ 30 w = 0 then upM (sqd σC k w) (τ 29 k) (τ 29 w) else τ 29 w := by
        intro w hw e
        rw [i2 w hw]
        by_cases c : w < n ∧ τ 30 w = 0
        · rw [if_pos c, if_pos ⟨by omega, c.2⟩]
        · rw [if_neg c, if_neg (fun z => c ⟨by omega, z.2⟩)]
      rw [f_X11_keep_b306, jc_II (by omega) (by omega) (by omega) (by omega), if_pos (by omega), jc_ix (by omega) (by omega), cast_n, i1 30 (by decide), jc_I (by omega) (by omega)]
      by_cases c : τ 30 n = 0
      · have pn := hp n hn c
        have g1 := h29 n hn pn
        have g2 := h29 k hk pk
        have d1 := h.sq2 hk hn
        have hR : Rw σC μ := h.cM (fun k _ h2 => i1 k (by omega)) (by rw [i1 0 (by decide)]) (by rw [i1 0 (by decide)]) (by rw [i1 0 (by decide)])
        have ap := apart_spec hR hk hn pk pn
        have e363 : ∀ t : Int, t = (if τ 29 k < sqd σC k n then sqd σC k n else τ 29 k) → ∃ s', f_X11_keep_b363 μ x3 x4 x6 (k : Int) (n : Int) t = some (.inl s') ∧ s'.2 = ((n + 1 : Nat) : Int) ∧ (∀ j, j ≠ 29 → s'.1 j = τ j) ∧ ∀ w, w < 24 → s'.1 29 w = if w < n + 1 ∧ τ 30 w = 0 then upM (sqd σC k w) (τ 29 k) (τ 29 w) else τ 29 w := by
          intro t et
          have tr : 0 ≤ t ∧ t ≤ 4000000 := by
            rw [et]
            split <;> omega
          rw [f_X11_keep_b363, jlet_v, jc_ix (by omega) (by omega), cast_n, gn, jc_LL (by omega) (by omega) (by omega) (by omega)]
          by_cases q : t < τ 29 n
          · rw [if_pos q, jc_ix (by omega) (by omega), jlet_v, jlet_v, cast_s]
            refine ⟨_, rfl, rfl, fun j hj => by dsimp only; rw [up2_k hj, i1 j hj], fun w hw => ?_⟩
            dsimp only
            by_cases e : w = n
            · rw [e, up2_same, if_pos ⟨by omega, c⟩, upM, ← et, if_pos q]
            · rw [up2_j e, rest w hw e]
          · rw [if_neg q, jlet_v, cast_s]
            refine ⟨_, rfl, rfl, i1, fun w hw => ?_⟩
            dsimp only
            by_cases e : w = n
            · rw [e, gn, if_pos ⟨by omega, c⟩, upM, ← et, if_neg q]
            · rw [rest w hw e]
        rw [if_pos c, ap, jbind_s, jc_ix (by omega) (by omega), cast_n, gk, jc_LL (by omega) (by omega) (by omega) (by omega)]
        by_cases q : τ 29 k < sqd σC k n
        · rw [if_pos q, jbind_s]
          exact e363 _ (by rw [if_pos q])
        · rw [if_neg q, jc_ix (by omega) (by omega)]
          exact e363 _ (by rw [if_neg q])
      · rw [if_neg c, jlet_v, cast_s]
        refine ⟨_, rfl, rfl, i1, fun w hw => ?_⟩
        dsimp only
        by_cases e : w = n
        · rw [e, gn, if_neg (fun z => c z.2)]
        · exact rest w hw e
    · rintro ⟨μ, _⟩ ⟨rfl, i1, i2⟩
      refine ⟨μ, ?_, i1, i2⟩
      show f_X11_keep_b306 μ x3 x4 x6 (k : Int) ((24 : Nat) : Int) = _
      rw [f_X11_keep_b306, jc_II (by omega) (by omega) (by omega) (by omega), if_neg (by omega)]
  obtain ⟨υ, e0, e1, e2⟩ := key
  refine ⟨υ, e0, e1, fun w hw => ?_⟩
  rw [e2 w hw]
  by_cases c : τ 30 w = 0
  · rw [if_pos ⟨hw, c⟩, if_pos c]
  · rw [if_neg (fun z => c z.2), if_neg c]
theorem keep_loop {σC σM τ0 : St} (h : Rw σC σM) {f t : Nat} (hf : f < 4) (ht : t < 4) (hne : f ≠ t) {a b : Nat → Int} (ha : ∀ w, w < 24 → isRim σC w (Ts f t) (a w)) (hb : ∀ w, w < 24 → isRim σC w (fun s => !(Ts f t s)) (b w)) {L : Int} (hL : 0 ≤ L ∧ L ≤ 8000000) (hM : ∀ k, k ≠ 29 → k ≠ 30 → τ0 k = σM k) (h0 : ∀ w, w < 24 → τ0 30 w = bI (!(pC σC w)) ∧ (pC σC w = true → isRim σC w (Ts f t) (τ0 29 w))) (fuel : Nat) (hfu : 30 < fuel) : ∃ e, jloop (fun (q : (St × Int × Int)) => match q with | (σ, x4, x6) => f_X11_keep_b161 σ ((sN f ((t + 4 - f) % 4) : Nat) : Int) x4 x6) fuel (τ0, L, 1) = some e ∧ (∀ k, k ≠ 29 → k ≠ 30 → e.1 k = σM k) ∧ (e.2 = L ∨ conn (pC σC) (sqd σC) a b e.2) ∧ e.2 ≤ L ∧ ∀ t', conn (pC σC) (sqd σC) a b t' → e.2 ≤ t' := by
  obtain ⟨tc1, tc2, tc3, tc4⟩ := Ts_corner f hf t ht hne
  have h24 := ct_le (pC σC) 24
  have hR : ∀ {μ : St}, (∀ k, k ≠ 29 → k ≠ 30 → μ k = σM k) → Rw σC μ := fun hμ => h.cM (fun k _ h2 => hμ k (by omega) (by omega)) (by rw [hμ 0 (by decide) (by decide)]) (by rw [hμ 0 (by decide) (by decide)]) (by rw [hμ 0 (by decide) (by decide)])
  refine jloop_ex (I := fun i s => (∀ k, k ≠ 29 → k ≠ 30 → s.1 k = σM k) ∧ (∀ w, w < 24 → s.1 30 w = 0 ∨ s.1 30 w = 1) ∧ (∀ w, w < 24 → s.1 30 w = 0 → pC σC w = true) ∧ (∀ w, w < 24 → pC σC w = true → 0 ≤ s.1 29 w ∧ s.1 29 w ≤ 4000000) ∧ (0 ≤ s.2.1 ∧ s.2.1 ≤ L) ∧ (∃ va, KI (pC σC) (sqd σC) a b L (fun w => s.1 30 w = 1) (s.1 29) va s.2.1) ∧ ((i ≤ ct (pC σC) 24 ∧ s.2.2 = 1 ∧ ct (fun w => pC σC w && decide (s.1 30 w = 1)) 24 = i) ∨ (i = ct (pC σC) 24 + 1 ∧ s.2.2 = 0 ∧ ∀ w, w < 24 → pC σC w = true → s.1 30 w = 1))) (N := ct (pC σC) 24 + 1) (J := _) ?_ ?_ (ct (pC σC) 24 + 1) 0 fuel _ (by omega) (by omega) ?_
  · rintro i ⟨τ, best, x6⟩ hi ⟨i1, i2, i3, i4, i5, ⟨va, i6⟩, i7⟩
    dsimp only at i1 i2 i3 i4 i5 i6 i7
    have i7' : i ≤ ct (pC σC) 24 ∧ x6 = 1 ∧ ct (fun w => pC σC w && decide (τ 30 w = 1)) 24 = i := by
      rcases i7 with z | ⟨z, -⟩
      · exact z
      · omega
    obtain ⟨i7, rfl, i8⟩ := i7'
    show ∃ s', f_X11_keep_b161 τ ((sN f ((t + 4 - f) % 4) : Nat) : Int) best 1 = some (.inl s') ∧ _
    obtain ⟨e, e1, e2⟩ := keep_next (τ := τ) (x3 := ((sN f ((t + 4 - f) % 4) : Nat) : Int)) (x4 := best) i2 (fun w hw z => i4 w hw (i3 w hw z)) 1000 (by omega)
    rw [f_X11_keep_b161, jc_I (by omega) (by omega), if_neg (by omega), jlet_v, jlet_v, e1, jbind_s]
    rcases e2 with ⟨rfl, e2⟩ | ⟨k, hk, rfl, kz, kmin⟩
    · rw [jc_II (by omega) (by omega) (by omega) (by omega), if_pos rfl, f_X11_keep_b234, jlet_v, jc_I (by omega) (by omega), if_pos rfl]
      refine ⟨_, rfl, i1, i2, i3, i4, i5, ⟨va, i6⟩, Or.inr ⟨?_, rfl, fun w hw _ => e2 w hw⟩⟩
      have : ct (fun w => pC σC w && decide (τ 30 w = 1)) 24 = ct (pC σC) 24 := ct_cong (fun w hw => by simp [e2 w hw])
      omega
    · have pk := i3 k hk kz
      have gk := i4 k hk pk
      have hR1 := hR i1
      have iU : ∀ j, j ≠ 29 → j ≠ 30 → up2 τ 30 k 1 j = σM j := fun j h1 h2 => by rw [up2_k h2, i1 j h1 h2]
      have u30 : ∀ w, up2 τ 30 k 1 30 w = if w = k then 1 else τ 30 w := by
        intro w
        by_cases e : w = k
        · rw [e, up2_same, if_pos rfl]
        · rw [up2_j e, if_neg e]
      obtain ⟨r, r1, r2⟩ := toSides_spec (hR iU) hk pk (Ts_out f hf t ht hne) ⟨t, ht, by rw [tc3]; rfl⟩
      have er : r = b k := isRim_one r2 (hb k hk)
      have rr := isRim_rng h hk r2
      have hz30 : ∀ w, w < 24 → up2 τ 30 k 1 30 w = 0 ∨ up2 τ 30 k 1 30 w = 1 := by
        intro w hw
        rw [u30]
        have := i2 w hw
        split <;> omega
      have hp30 : ∀ w, w < 24 → up2 τ 30 k 1 30 w = 0 → pC σC w = true := by
        intro w hw z
        rw [u30] at z
        split at z
        · omega
        · exact i3 w hw z
      have u29 : up2 τ 30 k 1 29 = τ 29 := up2_k (by decide)
      have ch : ∀ x4 : Int, ∃ υ, jloop (fun (q : (St × Int)) => match q with | (σ, x12) => f_X11_keep_b306 σ ((sN f ((t + 4 - f) % 4) : Nat) : Int) x4 1 (k : Int) x12) 1000 (up2 τ 30 k 1, 0) = some υ ∧ (∀ j, j ≠ 29 → υ j = up2 τ 30 k 1 j) ∧ ∀ w, w < 24 → υ 29 w = if up2 τ 30 k 1 30 w = 0 then upM (sqd σC k w) (τ 29 k) (τ 29 w) else τ 29 w := by
        intro x4
        have := keep_chain (hR iU) (x3 := ((sN f ((t + 4 - f) % 4) : Nat) : Int)) (x4 := x4) (x6 := 1) hk pk hz30 hp30 (by rw [u29]; exact i4) (by rw [u30, if_pos rfl]) 1000 (by omega)
        rw [u29] at this
        exact this
      have fin : ∀ (υ : St) (best' : Int), (∀ j, j ≠ 29 → υ j = up2 τ 30 k 1 j) → (∀ w, w < 24 → υ 29 w = if up2 τ 30 k 1 30 w = 0 then upM (sqd σC k w) (τ 29 k) (τ 29 w) else τ 29 w) → best' = (if (if τ 29 k < r then r else τ 29 k) < best then (if τ 29 k < r then r else τ 29 k) else best) → (∀ k, k ≠ 29 → k ≠ 30 → υ k = σM k) ∧ (∀ w, w < 24 → υ 30 w = 0 ∨ υ 30 w = 1) ∧ (∀ w, w < 24 → υ 30 w = 0 → pC σC w = true) ∧ (∀ w, w < 24 → pC σC w = true → 0 ≤ υ 29 w ∧ υ 29 w ≤ 4000000) ∧ (0 ≤ best' ∧ best' ≤ L) ∧ (∃ va, KI (pC σC) (sqd σC) a b L (fun w => υ 30 w = 1) (υ 29) va best') ∧ ((i + 1 ≤ ct (pC σC) 24 ∧ (1 : Int) = 1 ∧ ct (fun w => pC σC w && decide (υ 30 w = 1)) 24 = i + 1) ∨ (i + 1 = ct (pC σC) 24 + 1 ∧ (1 : Int) = 0 ∧ ∀ w, w < 24 → pC σC w = true → υ 30 w = 1)) := by
        intro υ best' v1 v2 vb
        have v30 : ∀ w, υ 30 w = if w = k then 1 else τ 30 w := fun w => by rw [v1 30 (by decide), u30]
        have vD : ∀ w, w < 24 → pC σC w = true → (υ 30 w = 1 ↔ (τ 30 w = 1 ∨ w = k)) := by
          intro w hw pw
          rw [v30]
          by_cases e : w = k
          · rw [if_pos e]; exact ⟨fun _ => Or.inr e, fun _ => rfl⟩
          · rw [if_neg e]; exact ⟨fun z => Or.inl z, fun z => z.elim id (fun y => absurd y e)⟩
        refine ⟨fun j h1 h2 => by rw [v1 j h1, iU j h1 h2], fun w hw => by rw [v1 30 (by decide)]; exact hz30 w hw, fun w hw z => by rw [v1 30 (by decide)] at z; exact hp30 w hw z, fun w hw pw => ?_, ?_, ⟨_, i6.step (D' := fun w => υ 30 w = 1) (g' := υ 29) (best' := best') hk pk (by omega) (fun w hw pw dw => kmin w hw (by have := i2 w hw; omega)) vD (fun w hw pw dw => ?_) ?_⟩, ?_⟩
        · rw [v2 w hw]
          have g1 := i4 w hw pw
          have d1 := h.sq2 hk hw
          unfold upM
          generalize τ 29 k = A at *
          generalize τ 29 w = B at *
          generalize sqd σC k w = C at *
          repeat' split
          all_goals omega
        · rw [vb]
          repeat' split
          all_goals omega
        · have z : up2 τ 30 k 1 30 w = 0 := by
            rw [v1 30 (by decide)] at dw
            have := hz30 w hw
            omega
          rw [v2 w hw, if_pos z]
          unfold upM
          generalize τ 29 k = A at *
          generalize τ 29 w = B at *
          generalize sqd σC k w = C at *
          repeat' split
          all_goals omega
        · rw [vb, er]
          generalize τ 29 k = A at *
          generalize b k = B at *
          repeat' split
          all_goals omega
        · have cnt : ct (fun w => pC σC w && decide (υ 30 w = 1)) 24 = ct (fun w => pC σC w && decide (τ 30 w = 1)) 24 + 1 := by
            refine ct_add2 (m := k) (by simp [kz]) (by simp [pk, v30]) 24 (fun w hw e => ?_) hk
            rw [v30, if_neg e]
          have sub := (ct_sub (p := pC σC) (q := fun w => pC σC w && decide (υ 30 w = 1)) 24 (fun w _ z => by
            simp only [Bool.and_eq_true] at z
            exact z.1)).1
          refine Or.inl ⟨by omega, rfl, by omega⟩
      rw [jc_II (by omega) (by omega) (by omega) (by omega), if_neg (by omega), f_X11_keep_b234, jlet_v, jc_I (by omega) (by omega), if_neg (by omega), jchk_t ⟨⟨by omega, by omega⟩, Or.inr rfl⟩, jlet_v, cast_n, r1, jbind_s, jlet_v, jc_ix (by omega) (by omega), u29, jc_LL (by omega) (by omega) (by omega) (by omega)]
      have e289 : ∀ tt : Int, tt = (if τ 29 k < r then r else τ 29 k) → ∃ s', f_X11_keep_b289 (up2 τ 30 k 1) ((sN f ((t + 4 - f) % 4) : Nat) : Int) best 1 (k : Int) tt = some (.inl s') ∧ (∀ k, k ≠ 29 → k ≠ 30 → s'.1 k = σM k) ∧ (∀ w, w < 24 → s'.1 30 w = 0 ∨ s'.1 30 w = 1) ∧ (∀ w, w < 24 → s'.1 30 w = 0 → pC σC w = true) ∧ (∀ w, w < 24 → pC σC w = true → 0 ≤ s'.1 29 w ∧ s'.1 29 w ≤ 4000000) ∧ (0 ≤ s'.2.1 ∧ s'.2.1 ≤ L) ∧ (∃ va, KI (pC σC) (sqd σC) a b L (fun w => s'.1 30 w = 1) (s'.1 29) va s'.2.1) ∧ ((i + 1 ≤ ct (pC σC) 24 ∧ s'.2.2 = 1 ∧ ct (fun w => pC σC w && decide (s'.1 30 w = 1)) 24 = i + 1) ∨ (i + 1 = ct (pC σC) 24 + 1 ∧ s'.2.2 = 0 ∧ ∀ w, w < 24 → pC σC w = true → s'.1 30 w = 1)) := by
        intro tt et
        have tr : 0 ≤ tt ∧ tt ≤ 4000000 := by
          rw [et]
          split <;> omega
        rw [f_X11_keep_b289, jlet_v, jc_LL (by omega) (by omega) (by omega) (by omega)]
        by_cases q : tt < best
        · obtain ⟨υ, v0, v1, v2⟩ := ch tt
          rw [if_pos q, jlet_v, jlet_v, v0, jbind_s]
          exact ⟨(υ, tt, 1), rfl, fin υ tt v1 v2 (by rw [← et, if_pos q])⟩
        · obtain ⟨υ, v0, v1, v2⟩ := ch best
          rw [if_neg q, jlet_v, v0, jbind_s]
          exact ⟨(υ, best, 1), rfl, fin υ best v1 v2 (by rw [← et, if_neg q])⟩
      by_cases q : τ 29 k < r
      · rw [if_pos q]
        exact e289 _ (by rw [if_pos q])
      · rw [if_neg q, jc_ix (by omega) (by omega)]
        exact e289 _ (by rw [if_neg q])
  · rintro ⟨τ, best, x6⟩ ⟨i1, i2, i3, i4, i5, ⟨va, i6⟩, i7⟩
    dsimp only at i1 i2 i3 i4 i5 i6 i7
    rcases i7 with ⟨i7, -⟩ | ⟨-, rfl, i8⟩
    · omega
    refine ⟨(τ, best), ?_, i1, i6.2.1, i5.2, fun t' ht' => i6.least i8 ht'⟩
    show f_X11_keep_b161 τ _ best 0 = _
    rw [f_X11_keep_b161, jc_I (by omega) (by omega), if_pos rfl]
  · have hz : ∀ w, w < 24 → pC σC w = true → τ0 29 w = a w := fun w hw pw => isRim_one ((h0 w hw).2 pw) (ha w hw)
    refine ⟨hM, fun w hw => ?_, fun w hw z => ?_, fun w hw pw => ?_, ⟨hL.1, Int.le_refl _⟩, ⟨τ0 29, KI.init (fun w hw pw => ?_) hz⟩, Or.inl ⟨by omega, rfl, ?_⟩⟩
    · have := (h0 w hw).1
      dsimp only
      rw [this]
      cases pC σC w
      · exact Or.inr rfl
      · exact Or.inl rfl
    · have := (h0 w hw).1
      dsimp only at z
      rw [this] at z
      cases e : pC σC w with
      | true => rfl
      | false => rw [e] at z; cases z
    · exact isRim_rng h hw ((h0 w hw).2 pw)
    · dsimp only
      rw [(h0 w hw).1, pw]
      decide
    · rw [ct_zero]
      intro w hw
      have := (h0 w hw).1
      cases e : pC σC w with
      | false => simp
      | true =>
        rw [e] at this
        have z : τ0 30 w = 0 := this
        simp [z]
theorem sqd_sym (σ : St) (u v : Nat) : sqd σ u v = sqd σ v u := by
  unfold sqd
  grind
theorem rim_fun {σC σM : St} (h : Rw σC σM) {f l : Nat} (hl : l ≤ 3) (hf : f < l) (b : Bool) : ∃ a : Nat → Int, ∀ w, w < 24 → isRim σC w (Tb f l b) (a w) := by
  refine ⟨fun w => if hw : w < 24 then Classical.choose (toRim_spec h (τ := σC) (fun _ _ => rfl) hw hl hf b) else 0, fun w hw => ?_⟩
  have := Classical.choose_spec (toRim_spec h (τ := σC) (fun _ _ => rfl) hw hl hf b)
  dsimp only
  rw [dif_pos hw]
  exact this.2
theorem isRim_cong {σ : St} {w : Nat} {T T' : Nat → Bool} {r : Int} (h : isRim σ w T r) (e : ∀ s, s < 4 → T' s = T s) : isRim σ w T' r := by
  obtain ⟨⟨s, s1, s2, s3⟩, h2⟩ := h
  exact ⟨⟨s, s1, by rw [e s s1]; exact s2, s3⟩, fun u hu Tu => h2 u hu (by rw [← e u hu]; exact Tu)⟩
/-- the model's answer -/
theorem keepM_spec {σC σM : St} (h : Rw σC σM) {f t : Nat} (hf : f < 4) (ht : t < 4) (hne : f ≠ t) (h0 : 0 < ct (pC σC) 24) {a b : Nat → Int} (ha : ∀ w, w < 24 → isRim σC w (Ts f t) (a w)) (hb : ∀ w, w < 24 → isRim σC w (fun s => !(Ts f t s)) (b w)) : ∃ v υ, f_X11_keep σM (f : Int) (t : Int) = some (v, υ) ∧ (∀ k, k ≠ 29 → k ≠ 30 → υ k = σM k) ∧ conn (pC σC) (sqd σC) a b v ∧ ∀ t', conn (pC σC) (sqd σC) a b t' → v ≤ t' := by
  obtain ⟨tc1, tc2, tc3, tc4⟩ := Ts_corner f hf t ht hne
  obtain ⟨τ, t0, t1, t2⟩ := keep_init h hf ht hne (x1 := (f : Int)) (x2 := (t : Int)) 1000 (by omega)
  have hR : Rw σC τ := h.cM (fun k _ h2 => t1 k (by omega) (by omega)) (by rw [t1 0 (by decide) (by decide)]) (by rw [t1 0 (by decide) (by decide)]) (by rw [t1 0 (by decide) (by decide)])
  obtain ⟨w1, hw1, pw1, e1⟩ := toCorner_spec hR hf h0
  obtain ⟨w2, hw2, pw2, e2⟩ := toCorner_spec hR ht h0
  have r1 := crn_rng h (c := f) hw1
  have r2 := crn_rng h (c := t) hw2
  have cM := countM h (x := 1) ⟨by omega, by omega⟩
  have c1 : conn (pC σC) (sqd σC) a b (crn σC f w1) := by
    obtain ⟨z1, z2⟩ := crn_sd h (w := w1) hf
    refine ⟨w1, hw1, pw1, ?_, rch_src hw1 pw1 ?_⟩
    · have := (hb w1 hw1).2 ((f + 3) % 4) (by omega) (by dsimp only; rw [tc2]; rfl)
      omega
    · have := (ha w1 hw1).2 f hf tc1
      omega
  have c2 : conn (pC σC) (sqd σC) a b (crn σC t w2) := by
    obtain ⟨z1, z2⟩ := crn_sd h (w := w2) ht
    refine ⟨w2, hw2, pw2, ?_, rch_src hw2 pw2 ?_⟩
    · have := (hb w2 hw2).2 t ht (by dsimp only; rw [tc3]; rfl)
      omega
    · have := (ha w2 hw2).2 ((t + 3) % 4) (by omega) tc4
      omega
  have h24 := ct_le (pC σC) 24
  have st : f_X11_keep σM (f : Int) (t : Int) = jbind (jloop (fun (q : (St × Int × Int)) => match q with | (σ, x4, x6) => f_X11_keep_b161 σ ((sN f ((t + 4 - f) % 4) : Nat) : Int) x4 x6) 1000 (τ, (if crn σC f w1 < crn σC t w2 then crn σC f w1 else crn σC t w2), 1)) (fun q => match q with | (σ_50, x4_51) => some (x4_51, σ_50)) := by
    rw [f_X11_keep, f_X11_keep_b0, jc_I (by omega) (by omega), if_neg (by omega), jc_II (by omega) (by omega) (by omega) (by omega), if_neg (by omega), jc_I (by omega) (by omega), if_neg (by omega), jc_II (by omega) (by omega) (by omega) (by omega), if_neg (by omega), jc_II (by omega) (by omega) (by omega) (by omega), if_neg (by omega), cM, if_neg (by omega), if_pos rfl, jbind_s, jc_I (by omega) (by omega), if_neg (by omega), jlet_v, jlet_v, sides_loop hf ht hne 1000 (by omega), jbind_s, jlet_v, t0, jbind_s, e1, jbind_s, e2, jbind_s, jc_LL (by omega) (by omega) (by omega) (by omega)]
    by_cases q : crn σC f w1 < crn σC t w2
    · rw [if_pos q, jbind_s, jlet_v, jlet_v, if_pos q]
    · rw [if_neg q, jbind_s, jlet_v, jlet_v, if_neg q]
  have hL : conn (pC σC) (sqd σC) a b (if crn σC f w1 < crn σC t w2 then crn σC f w1 else crn σC t w2) := by
    split
    · exact c1
    · exact c2
  obtain ⟨⟨υ, v⟩, l0, l1, l2, l3, l4⟩ := keep_loop h hf ht hne ha hb (L := if crn σC f w1 < crn σC t w2 then crn σC f w1 else crn σC t w2) (by split <;> omega) t1 t2 1000 (by omega)
  refine ⟨v, υ, ?_, l1, ?_, l4⟩
  · rw [st, l0, jbind_s]
  · dsimp only at l2
    rcases l2 with z | z
    · rw [z]; exact hL
    · exact z
theorem keep_eq {σC σM : St} (h : Rw σC σM) {x y : Int} (hx : inI x) (hy : inI y) : ∃ v τC τM, f_X10_keep σC x y = some (v, τC) ∧ f_X11_keep σM x y = some (v, τM) ∧ (∀ k, k ≠ 68 → τC k = σC k) ∧ ∀ k, k ≠ 29 → k ≠ 30 → τM k = σM k := by
  obtain ⟨x1, x2⟩ := hx
  obtain ⟨y1, y2⟩ := hy
  have no : f_X10_keep_b0 σC x y = f_X10_keep_b27 σC x y → f_X11_keep_b0 σM x y = some (-1, σM) → ∃ v τC τM, f_X10_keep σC x y = some (v, τC) ∧ f_X11_keep σM x y = some (v, τM) ∧ (∀ k, k ≠ 68 → τC k = σC k) ∧ ∀ k, k ≠ 29 → k ≠ 30 → τM k = σM k := by
    intro e1 e2
    refine ⟨-1, σC, σM, ?_, ?_, fun _ _ => rfl, fun _ _ _ => rfl⟩
    · rw [f_X10_keep, e1, f_X10_keep_b27, f_X10_keep_b28, jlet_v, jc_I (by omega) (by omega), if_pos rfl]
    · rw [f_X11_keep, e2]
  by_cases a1 : x < 0
  · refine no ?_ ?_
    · rw [f_X10_keep_b0, jc_I (by omega) (by omega), if_pos (by omega)]
    · rw [f_X11_keep_b0, jc_I (by omega) (by omega), if_pos (by omega)]
  by_cases a2 : 3 < x
  · refine no ?_ ?_
    · rw [f_X10_keep_b0, jc_I (by omega) (by omega), if_neg (by omega), jc_II (by omega) (by omega) (by omega) (by omega), if_neg (by omega)]
    · rw [f_X11_keep_b0, jc_I (by omega) (by omega), if_neg (by omega), jc_II (by omega) (by omega) (by omega) (by omega), if_pos (by omega)]
  by_cases a3 : y < 0
  · refine no ?_ ?_
    · rw [f_X10_keep_b0, jc_I (by omega) (by omega), if_neg (by omega), jc_II (by omega) (by omega) (by omega) (by omega), if_pos (by omega), jc_I (by omega) (by omega), if_pos (by omega)]
    · rw [f_X11_keep_b0, jc_I (by omega) (by omega), if_neg (by omega), jc_II (by omega) (by omega) (by omega) (by omega), if_neg (by omega), jc_I (by omega) (by omega), if_pos (by omega)]
  by_cases a4 : 3 < y
  · refine no ?_ ?_
    · rw [f_X10_keep_b0, jc_I (by omega) (by omega), if_neg (by omega), jc_II (by omega) (by omega) (by omega) (by omega), if_pos (by omega), jc_I (by omega) (by omega), if_neg (by omega), jc_II (by omega) (by omega) (by omega) (by omega), if_neg (by omega)]
    · rw [f_X11_keep_b0, jc_I (by omega) (by omega), if_neg (by omega), jc_II (by omega) (by omega) (by omega) (by omega), if_neg (by omega), jc_I (by omega) (by omega), if_neg (by omega), jc_II (by omega) (by omega) (by omega) (by omega), if_pos (by omega)]
  by_cases a5 : x = y
  · refine no ?_ ?_
    · rw [f_X10_keep_b0, jc_I (by omega) (by omega), if_neg (by omega), jc_II (by omega) (by omega) (by omega) (by omega), if_pos (by omega), jc_I (by omega) (by omega), if_neg (by omega), jc_II (by omega) (by omega) (by omega) (by omega), if_pos (by omega), jc_II (by omega) (by omega) (by omega) (by omega), if_pos (by omega)]
    · rw [f_X11_keep_b0, jc_I (by omega) (by omega), if_neg (by omega), jc_II (by omega) (by omega) (by omega) (by omega), if_neg (by omega), jc_I (by omega) (by omega), if_neg (by omega), jc_II (by omega) (by omega) (by omega) (by omega), if_neg (by omega), jc_II (by omega) (by omega) (by omega) (by omega), if_pos (by omega)]
  obtain ⟨f, rfl⟩ : ∃ f : Nat, x = (f : Int) := ⟨x.toNat, by omega⟩
  obtain ⟨t, rfl⟩ : ∃ t : Nat, y = (t : Int) := ⟨y.toNat, by omega⟩
  have hf : f < 4 := by omega
  have ht : t < 4 := by omega
  have hne : f ≠ t := by omega
  have hm := h.many
  have h24 := ct_le (pC σC) 24
  have cM := countM h (x := 1) ⟨by omega, by omega⟩
  have stC : f_X10_keep σC (f : Int) (t : Int) = if 0 < ct (pC σC) 24 then jbind (f_X8_widest σC (f : Int) (t : Int)) (fun q => match q with | (r_2, σ_3) => some (r_2, σ_3)) else some (-1, σC) := by
    rw [f_X10_keep, f_X10_keep_b0, jc_I (by omega) (by omega), if_neg (by omega), jc_II (by omega) (by omega) (by omega) (by omega), if_pos (by omega), jc_I (by omega) (by omega), if_neg (by omega), jc_II (by omega) (by omega) (by omega) (by omega), if_pos (by omega), jc_II (by omega) (by omega) (by omega) (by omega), if_neg (by omega), f_X10_keep_b28, jlet_v, jc_I (by omega) (by omega), if_neg (by omega), hm, jc_I (by omega) (by omega)]
    by_cases q : 0 < ct (pC σC) 24
    · rw [if_pos (by omega), if_pos q]
    · rw [if_neg (by omega), if_neg q]
  by_cases q : 0 < ct (pC σC) 24
  · obtain ⟨lo, hi, e1, e2, e3⟩ : ∃ lo hi : Nat, lo < hi ∧ hi ≤ 3 ∧ ((lo = f ∧ hi = t) ∨ (lo = t ∧ hi = f)) := by
      by_cases c : f < t
      · exact ⟨f, t, c, by omega, Or.inl ⟨rfl, rfl⟩⟩
      · exact ⟨t, f, by omega, by omega, Or.inr ⟨rfl, rfl⟩⟩
    obtain ⟨a, ha⟩ := rim_fun h e2 e1 true
    obtain ⟨b, hb⟩ := rim_fun h e2 e1 false
    obtain ⟨v, υ, w0, w1, w2, w3⟩ := widest_spec h e2 e1 e3 q ha hb
    have nt : ∀ lo hi s, (!(Tb lo hi true s)) = Tb lo hi false s := by
      intro lo hi s
      unfold Tb
      cases decide (lo ≤ s ∧ s < hi) <;> rfl
    have nf : ∀ lo hi s, (!(Tb lo hi false s)) = Tb lo hi true s := by
      intro lo hi s
      unfold Tb
      cases decide (lo ≤ s ∧ s < hi) <;> rfl
    have mm : ∃ v' υ', f_X11_keep σM (f : Int) (t : Int) = some (v', υ') ∧ (∀ k, k ≠ 29 → k ≠ 30 → υ' k = σM k) ∧ conn (pC σC) (sqd σC) a b v' ∧ ∀ t', conn (pC σC) (sqd σC) a b t' → v' ≤ t' := by
      rcases e3 with ⟨rfl, rfl⟩ | ⟨rfl, rfl⟩
      · exact keepM_spec h hf ht hne q (fun w hw => isRim_cong (ha w hw) (fun s _ => by unfold Ts; rw [if_pos e1])) (fun w hw => isRim_cong (hb w hw) (fun s _ => by unfold Ts; rw [if_pos e1, nt]))
      · obtain ⟨v', υ', k1, k2, k3, k4⟩ := keepM_spec h hf ht hne q (a := b) (b := a) (fun w hw => isRim_cong (hb w hw) (fun s _ => by unfold Ts; rw [if_neg (by omega)])) (fun w hw => isRim_cong (ha w hw) (fun s _ => by unfold Ts; rw [if_neg (by omega), nf]))
        exact ⟨v', υ', k1, k2, conn_sym (sqd_sym σC) k3, fun t' z => k4 t' (conn_sym (sqd_sym σC) z)⟩
    obtain ⟨v', υ', k1, k2, k3, k4⟩ := mm
    have ev : v' = v := by
      have := w3 v' k3
      have := k4 v w2
      omega
    refine ⟨v, υ, υ', ?_, by rw [k1, ev], w1, k2⟩
    rw [stC, if_pos q, w0, jbind_s]
  · refine ⟨-1, σC, σM, by rw [stC, if_neg q], ?_, fun _ _ => rfl, fun _ _ _ => rfl⟩
    rw [f_X11_keep, f_X11_keep_b0, jc_I (by omega) (by omega), if_neg (by omega), jc_II (by omega) (by omega) (by omega) (by omega), if_neg (by omega), jc_I (by omega) (by omega), if_neg (by omega), jc_II (by omega) (by omega) (by omega) (by omega), if_neg (by omega), jc_II (by omega) (by omega) (by omega) (by omega), if_neg (by omega), cM, if_neg (by omega), if_pos rfl, jbind_s, jc_I (by omega) (by omega), if_pos (by omega)]
