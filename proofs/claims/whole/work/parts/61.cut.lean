/-! ===== the pure side 41: a cut ===== -/
theorem ring_loop {β : St} {g o s l m : Nat} {LS LS' : Nat → Prop} (hpb : ∀ k, LS k → PB (lnG β g k) (lnG β g l)) (hG : GD g o s) (h4 : β g 4 = (o : Int)) (h5 : β g 5 = (s : Int)) (h0 : β o 0 = (m : Int)) (hm : 3 ≤ m) (hm27 : m ≤ 27) (hs : β s 0 = 0) (h14 : ∀ i, i < m → β (g + 14) i = fl (lnG β g l) (ptO β o i)) (hLS : ∀ k, LS' k ↔ (LS k ∨ k = l)) (hln : ∀ k, LS' k → k < 28 ∧ okL (lnG β g k) ∧ nzL (lnG β g k)) (hP : ∀ i, i < m → okP (ptO β o i)) (hE : ∀ i, i < m → 0 ≤ β (o + 4) i ∧ β (o + 4) i < 28) (hO : OUT (lnG β g) LS (ptO β o) (fun i => (β (o + 4) i).toNat) m) (hin : ∃ i, i < m ∧ 0 < fl (lnG β g l) (ptO β o i)) (hout : ∃ i, i < m ∧ fl (lnG β g l) (ptO β o i) < 0) (fuel : Nat) (hf : 28 < fuel) : ∃ μ, jloop (fun (q : (St × Int)) => match q with | (σ, x2) => f_X1_cutRing_b2 σ g (l : Int) x2) fuel (β, 0) = some μ ∧ (∀ k, k < s ∨ s + 4 < k → μ k = β k) ∧ ∃ n : Nat, μ s 0 = (n : Int) ∧ n ≤ m + 1 ∧ (∀ k, k < n → okP (ptO μ s k) ∧ 0 ≤ μ (s + 4) k ∧ μ (s + 4) k < 28) ∧ 3 ≤ n ∧ OUT (lnG β g) LS' (ptO μ s) (fun k => (μ (s + 4) k).toNat) n := by
  obtain ⟨n1, n2⟩ := hG.ln
  have gb := hG.b
  obtain ⟨sc, ed⟩ := hO.2.2.2.1 hm
  refine jloop_ex (I := fun i q => q.2 = (i : Int) ∧ RI β g o s l m LS' i q.1) (N := m) (J := _) ?_ ?_ m 0 fuel _ (by omega) (by omega) ⟨rfl, fun _ _ => rfl, 0, fun _ => 0, fun _ => 0, fun _ => 0, hs, ⟨fun k hk => absurd hk (Nat.not_lt_zero k), fun a b _ hb => absurd hb (Nat.not_lt_zero b), fun k hk => absurd hk (Nat.not_lt_zero _)⟩, fun k hk => absurd hk (Nat.not_lt_zero k), fun j hj => absurd hj (Nat.not_lt_zero j), fun j hj => absurd hj (Nat.not_lt_zero j), rfl, fun k hk => absurd hk (Nat.succ_ne_zero k), fun _ j hj => absurd hj (Nat.not_lt_zero j), fun z => absurd z (Nat.lt_irrefl 0)⟩
  · rintro i ⟨μ, _⟩ hi ⟨rfl, hR⟩
    obtain ⟨υ, s1, s2⟩ := ring_step hpb hG h4 h5 h0 hm hm27 h14 hLS hln hP hE sc ed hout hi hR
    refine ⟨(υ, ((i + 1 : Nat) : Int)), ?_, rfl, s2⟩
    show f_X1_cutRing_b2 μ g (l : Int) (i : Int) = _
    have i1 := hR.1
    dsimp only at i1
    rw [f_X1_cutRing_b2, i1 g (by omega), h4, cast_n, jlet_v, jchk_t n2, i1 o (by omega), h0, jc_II (by omega) (by omega) (by omega) (by omega), if_pos (by omega), jlet_v, jchk_t n2, i1 o (by omega), h0, jc_II (by omega) (by omega) (by omega) (by omega)]
    unfold nxi at s1
    by_cases c : i + 1 < m
    · rw [if_pos c] at s1
      rw [if_pos (by omega), cast_s, s1]
    · rw [if_neg c] at s1
      rw [if_neg (by omega)]
      exact s1
  · rintro ⟨μ, _⟩ ⟨rfl, i1, n, S, lw, u, i2, i3, i4, i5, i6, i7, i8, i9, i10⟩
    dsimp only at i1 i2 i3 i7 i8 i10
    refine ⟨μ, ?_, i1, n, i2, ?_, fun k hk => ⟨(i3.1 k hk).1, (i3.1 k hk).2.2.1⟩, ?_⟩
    · show f_X1_cutRing_b2 μ g (l : Int) (m : Int) = _
      clear i3 i4 i5 i6 i7 i8 i9 i10
      rw [f_X1_cutRing_b2, i1 g (by omega), h4, cast_n, jlet_v, jchk_t n2, i1 o (by omega), h0, jc_II (by omega) (by omega) (by omega) (by omega), if_neg (by omega)]
    · have b := i3.bound hm sc (hln l ((hLS l).mpr (Or.inr rfl))).2.2
      rw [i7] at b
      obtain ⟨t, t1, t2⟩ := hout
      have hole := ct_hole (p := fun j => decide (0 < fl (lnG β g l) (wr (ptO β o) m j))) (m := t) (by
        rw [wr_lt t1]
        exact decide_eq_false (by omega)) m t1
      omega
    · refine (OUT.ring (l_ := lw) (u := u) (S := S) hO hm (fun k hk => (hln k hk).2.2) hLS hin hout (fun k hk => (i3.1 k hk).2.1) i3.2.1 (fun i hi z => i5 i hi (by rw [wr_lt hi]; exact z)) (fun i hi z => i6 i hi (by rw [wr_lt hi, wr_nx hi]; exact z)) (fun k hk => (i3.1 k hk).2.2.2.2.2) (fun k hk => ?_))
      obtain ⟨-, -, -, q1, q2, -⟩ := i3.1 k hk
      refine ⟨q1, q2, ?_⟩
      unfold nxi
      by_cases c : k + 1 < n
      · rw [if_pos c]; exact i3.2.2 k c
      · rw [if_neg c]
        have p := i8 k (by omega)
        rw [wr_m] at p
        have fs := i10 (by omega)
        rw [wr_lt (show 0 < m by omega)] at fs
        by_cases z : fl (lnG β g l) (ptO β o 0) < 0
        · rw [p.1 z]; exact fs.1 z
        · rw [fs.2 (by omega)]; exact p.2 (by omega)
theorem cmb_sw {k a b : Int} {N p q : Pt} (h : cmb k N a p b q) : cmb k N b q a p := ⟨by rw [h.1]; omega, by rw [h.2.1]; omega, by rw [h.2.2]; omega⟩
theorem piece_loop2 {β : St} {g o s l : Nat} {LS LS' : Nat → Prop} (hpb : ∀ k, LS k → PB (lnG β g k) (lnG β g l)) (hG : GD g o s) (h4 : β g 4 = (o : Int)) (h5 : β g 5 = (s : Int)) (h0 : β o 0 = 2) (hs : β s 0 = 0) (h14 : ∀ i, i < 2 → β (g + 14) i = fl (lnG β g l) (ptO β o i)) (hLS : ∀ k, LS' k ↔ (LS k ∨ k = l)) (hln : ∀ k, LS' k → k < 28 ∧ okL (lnG β g k) ∧ nzL (lnG β g k)) (hP : ∀ i, i < 2 → okP (ptO β o i)) (hE : ∀ i, i < 2 → 0 ≤ β (o + 4) i ∧ β (o + 4) i < 28) (hO : OUT (lnG β g) LS (ptO β o) (fun i => (β (o + 4) i).toNat) 2) (hin : ∃ i, i < 2 ∧ 0 < fl (lnG β g l) (ptO β o i)) (hout : ∃ i, i < 2 ∧ fl (lnG β g l) (ptO β o i) < 0) (fuel : Nat) (hf : 28 < fuel) : ∃ μ, jloop (fun (q : (St × Int)) => match q with | (σ, x2) => f_X1_cutPiece_b2 σ g (l : Int) x2) fuel (β, 0) = some μ ∧ (∀ k, k < s ∨ s + 4 < k → μ k = β k) ∧ μ s 0 = 2 ∧ (∀ k, k < 2 → okP (ptO μ s k) ∧ 0 ≤ μ (s + 4) k ∧ μ (s + 4) k < 28) ∧ OUT (lnG β g) LS' (ptO μ s) (fun k => (μ (s + 4) k).toNat) 2 ∧ ∀ k, k < 2 → (ptO μ s k = ptO β o k) ∨ (fl (lnG β g l) (ptO μ s k) = 0 ∧ ∃ c a b : Int, 0 < c ∧ cmb c (ptO μ s k) a (ptO β o 0) b (ptO β o 1)) := by
  obtain ⟨n1, n2⟩ := hG.ln
  obtain ⟨m1, m2⟩ := hG.sw.ln
  have gb := hG.b
  have ll : LS' l := (hLS l).mpr (Or.inr rfl)
  obtain ⟨l28, lok, lnz⟩ := hln l ll
  obtain ⟨-, ed, -⟩ := hO.2.2.2.2 rfl
  obtain ⟨e0, he0⟩ : ∃ e : Nat, β (o + 4) 0 = (e : Int) := ⟨(β (o + 4) 0).toNat, by have := hE 0 (by omega); omega⟩
  obtain ⟨e1, he1⟩ : ∃ e : Nat, β (o + 4) 1 = (e : Int) := ⟨(β (o + 4) 1).toNat, by have := hE 1 (by omega); omega⟩
  obtain ⟨a1, a2, a3⟩ := ed 0 (by omega)
  obtain ⟨b1, b2, b3⟩ := ed 1 (by omega)
  dsimp only at a1 a2 a3 b1 b2 b3
  rw [he0, cast_n] at a1 a2 a3
  rw [he1, cast_n] at b1 b2 b3
  obtain ⟨e028, e0ok, e0nz⟩ := hln e0 ((hLS e0).mpr (Or.inl a1))
  obtain ⟨e128, e1ok, e1nz⟩ := hln e1 ((hLS e1).mpr (Or.inl b1))
  have r0 := fl_rng lok (hP 0 (by omega))
  have r1 := fl_rng lok (hP 1 (by omega))
  -- one step of the loop, when the point stays, or when it goes
  have stay : ∀ (μ : St) (i n e : Nat), (∀ k, k < s ∨ s + 4 < k → μ k = β k) → i < 2 → n < 28 → μ s 0 = (n : Int) → β (o + 4) i = (e : Int) → 0 < fl (lnG β g l) (ptO β o i) → f_X1_cutPiece_b2 μ g (l : Int) (i : Int) = some (.inl (addO μ s n (ptO β o i).1 (ptO β o i).2.1 (ptO β o i).2.2 (e : Int), ((i + 1 : Nat) : Int))) := by
    intro μ i n e i1 hi hn hsn he z
    have ri := fl_rng lok (hP i hi)
    rw [f_X1_cutPiece_b2, i1 g (by omega), h4, cast_n, jlet_v, jchk_t n2, i1 o (by omega), h0, jc_II (by omega) (by omega) (by omega) (by omega), if_pos (by omega), jc_ix (by omega) (by omega), cast_n, i1 (g + 14) (by omega), h14 i hi, jc_LL (by omega) (by omega) (by omega) (by omega), if_pos z, h5, cast_n, jlet_v, jchk_t m2, jlet_v, jchk_t n2, jlet_v, jchk_t n2, n1, jc_ix (by omega) (by omega), i1 (o + 4) (by omega), he, addFrom_spec hG (by omega) hn hsn, jbind_s, jlet_v, pt_fr hG i1]
    rfl
  have go : ∀ (μ : St) (i e : Nat), LS e → (∀ k, k < s ∨ s + 4 < k → μ k = β k) → i < 2 → e < 28 → okL (lnG β g e) → nzL (lnG β g e) → β (o + 4) i = (e : Int) → fl (lnG β g e) (ptO β o 0) = 0 → fl (lnG β g e) (ptO β o 1) = 0 → ¬ 0 < fl (lnG β g l) (ptO β o i) → ((0 < fl (lnG β g l) (ptO β o 0) ∧ fl (lnG β g l) (ptO β o 1) < 0) ∨ (fl (lnG β g l) (ptO β o 0) < 0 ∧ 0 < fl (lnG β g l) (ptO β o 1))) → ∃ C : Pt, (∀ n : Nat, n < 28 → μ s 0 = (n : Int) → f_X1_cutPiece_b2 μ g (l : Int) (i : Int) = some (.inl (addO μ s n C.1 C.2.1 C.2.2 (e : Int), ((i + 1 : Nat) : Int)))) ∧ okP C ∧ fl (lnG β g l) C = 0 ∧ ∃ k a b : Int, 0 < k ∧ 0 < a ∧ 0 < b ∧ cmb k C a (ptO β o 0) b (ptO β o 1) := by
    intro μ i e eLS i1 hi e28 eok enz he z0 z1 z hs'
    have ri := fl_rng lok (hP i hi)
    have mln : ∀ k, lnG μ g k = lnG β g k := fun k => ln_fr hG i1
    obtain ⟨C, c0, c1, c2, c3, c4⟩ := crossing_spec (τ := μ) (A := ptO β o 0) (B := ptO β o 1) (by rw [mln, mln]; exact hpb e eLS) hG (by rw [i1 g (by omega), h5]) e28 l28 (by rw [mln]; exact eok) (by rw [mln]; exact lok) (by rw [mln]; exact enz) (hP 0 (by omega)) (hP 1 (by omega)) (by rw [mln]; exact z0) (by rw [mln]; exact z1) (by rw [mln]; exact hs')
    rw [mln] at c3
    refine ⟨C, fun n hn hsn => ?_, c1, c3, c4⟩
    rw [f_X1_cutPiece_b2, i1 g (by omega), h4, cast_n, jlet_v, jchk_t n2, i1 o (by omega), h0, jc_II (by omega) (by omega) (by omega) (by omega), if_pos (by omega), jc_ix (by omega) (by omega), cast_n, i1 (g + 14) (by omega), h14 i hi, jc_LL (by omega) (by omega) (by omega) (by omega), if_neg z, jlet_v, jchk_t n2, n1, jc_ix (by omega) (by omega), jlet_v, jchk_t n2, n1, jc_ix (by omega) (by omega), i1 (o + 4) (by omega), he, c0 n (e : Int) hn hsn, jbind_s, jlet_v]
    rfl
  have last : ∀ μ : St, (∀ k, k < s ∨ s + 4 < k → μ k = β k) → f_X1_cutPiece_b2 μ g (l : Int) ((2 : Nat) : Int) = some (.inr μ) := by
    intro μ i1
    rw [f_X1_cutPiece_b2, i1 g (by omega), h4, cast_n, jlet_v, jchk_t n2, i1 o (by omega), h0, jc_II (by omega) (by omega) (by omega) (by omega), if_neg (by omega)]
  have run : ∀ (μ1 μ2 : St), f_X1_cutPiece_b2 β g (l : Int) ((0 : Nat) : Int) = some (.inl (μ1, ((1 : Nat) : Int))) → f_X1_cutPiece_b2 μ1 g (l : Int) ((1 : Nat) : Int) = some (.inl (μ2, ((2 : Nat) : Int))) → f_X1_cutPiece_b2 μ2 g (l : Int) ((2 : Nat) : Int) = some (.inr μ2) → jloop (fun (q : (St × Int)) => match q with | (σ, x2) => f_X1_cutPiece_b2 σ g (l : Int) x2) fuel (β, 0) = some μ2 := by
    intro μ1 μ2 s1 s2 s3
    refine jloop_for0 (g := fun a => if a = 0 then (β, ((0 : Nat) : Int)) else if a = 1 then (μ1, ((1 : Nat) : Int)) else (μ2, ((2 : Nat) : Int))) (N := 2) (e := _) rfl (by omega) (fun a ha => ?_) s3
    rcases (by omega : a = 0 ∨ a = 1) with z | z
    · rw [z]; exact s1
    · rw [z]; exact s2
  have fin : ∀ (P0 P1 : Pt), okP P0 → okP P1 → OUT (lnG β g) LS' (fun i => if i = 0 then P0 else P1) (fun i => (β (o + 4) i).toNat) 2 → ∀ μ2, μ2 = addO (addO β s 0 P0.1 P0.2.1 P0.2.2 (e0 : Int)) s 1 P1.1 P1.2.1 P1.2.2 (e1 : Int) → (∀ k, k < s ∨ s + 4 < k → μ2 k = β k) ∧ μ2 s 0 = 2 ∧ (∀ k, k < 2 → okP (ptO μ2 s k) ∧ 0 ≤ μ2 (s + 4) k ∧ μ2 (s + 4) k < 28) ∧ OUT (lnG β g) LS' (ptO μ2 s) (fun k => (μ2 (s + 4) k).toNat) 2 ∧ ptO μ2 s 0 = P0 ∧ ptO μ2 s 1 = P1 := by
    intro P0 P1 k0 k1 hO' μ2 e
    have q0 : ptO μ2 s 0 = P0 := by rw [e, addO_pt, if_neg (by decide), addO_pt, if_pos rfl]
    have q1 : ptO μ2 s 1 = P1 := by rw [e, addO_pt, if_pos rfl]
    have t0 : μ2 (s + 4) 0 = (e0 : Int) := by rw [e, addO_e, if_neg (by decide), addO_e, if_pos rfl]
    have t1 : μ2 (s + 4) 1 = (e1 : Int) := by rw [e, addO_e, if_pos rfl]
    refine ⟨fun k hk => by rw [e, addO_k hk, addO_k hk], by rw [e]; exact addO_0, fun k hk => ?_, ?_, q0, q1⟩
    · rcases (by omega : k = 0 ∨ k = 1) with z | z
      · rw [z, q0, t0]; exact ⟨k0, by omega, by omega⟩
      · rw [z, q1, t1]; exact ⟨k1, by omega, by omega⟩
    · obtain ⟨h1, h2, h3, -, h5'⟩ := hO'
      obtain ⟨x1, x2, l1, l2, x3⟩ := h5' rfl
      have two : ∀ i, i < 2 → ptO μ2 s i = if i = 0 then P0 else P1 := fun i hi => by
        rcases (by omega : i = 0 ∨ i = 1) with z | z
        · rw [z, q0, if_pos rfl]
        · rw [z, q1, if_neg (by decide)]
      refine ⟨fun i hi => by rw [two i hi]; exact h1 i hi, fun m hm i hi => by rw [two i hi]; exact h2 m hm i hi, fun p p0 hp => ?_, fun z => by omega, fun _ => ?_⟩
      · obtain ⟨i, j, k, i', j', k', rest⟩ := h3 p p0 hp
        exact ⟨i, j, k, i', j', k', by rw [two i i', two j j', two k k']; exact rest⟩
      · rw [q0, q1]
        refine ⟨x1, fun i hi => ?_, l1, l2, x3⟩
        have := x2 i hi
        rcases (by omega : i = 0 ∨ i = 1) with z | z
        · rw [z] at this
          dsimp only at this ⊢
          rw [he0] at this
          rw [z, t0]; exact this
        · rw [z] at this
          dsimp only at this ⊢
          rw [he1] at this
          rw [z, t1]; exact this
  have cs : (0 < fl (lnG β g l) (ptO β o 0) ∧ fl (lnG β g l) (ptO β o 1) < 0) ∨ (fl (lnG β g l) (ptO β o 0) < 0 ∧ 0 < fl (lnG β g l) (ptO β o 1)) := by
    obtain ⟨i, i1, i2⟩ := hin
    obtain ⟨j, j1, j2⟩ := hout
    rcases (by omega : i = 0 ∨ i = 1) with z | z <;> rcases (by omega : j = 0 ∨ j = 1) with y | y <;> rw [z] at i2 <;> rw [y] at j2
    · omega
    · exact Or.inl ⟨i2, j2⟩
    · exact Or.inr ⟨j2, i2⟩
    · omega
  rcases cs with c | c
  · have s1 := stay β 0 0 e0 (fun _ _ => rfl) (by omega) (by omega) hs he0 c.1
    have f1 : ∀ k, k < s ∨ s + 4 < k → addO β s 0 (ptO β o 0).1 (ptO β o 0).2.1 (ptO β o 0).2.2 (e0 : Int) k = β k := fun k hk => addO_k hk
    obtain ⟨C, g1, g2, g3, k, a, b, k0, a0, b0, cm⟩ := go _ 1 e1 b1 f1 (by omega) e128 e1ok e1nz he1 b2 b3 (by omega) (Or.inl c)
    have s2 := g1 1 (by omega) addO_0
    have hO2 := OUT.piece (q' := fun i => if i = 0 then ptO β o 0 else C) (E' := fun i => (β (o + 4) i).toNat) (A := ptO β o 0) (B := ptO β o 1) hO hLS (Or.inl ⟨rfl, rfl⟩) k0 a0 b0 cm c.1 g3 (Or.inl ⟨rfl, rfl, rfl⟩) (fun _ _ => rfl)
    obtain ⟨r1, r2, r3, r4, r5, r6⟩ := fin (ptO β o 0) C (hP 0 (by omega)) g2 hO2 _ rfl
    refine ⟨_, run _ _ s1 s2 (last _ r1), r1, r2, r3, r4, fun t ht => ?_⟩
    rcases (by omega : t = 0 ∨ t = 1) with z | z
    · left; rw [z, r5]
    · right; rw [z, r6]; exact ⟨g3, k, a, b, k0, cm⟩
  · obtain ⟨C, g1, g2, g3, k, a, b, k0, a0, b0, cm⟩ := go β 0 e0 a1 (fun _ _ => rfl) (by omega) e028 e0ok e0nz he0 a2 a3 (by omega) (Or.inr c)
    have s1 := g1 0 (by omega) hs
    have f1 : ∀ k, k < s ∨ s + 4 < k → addO β s 0 C.1 C.2.1 C.2.2 (e0 : Int) k = β k := fun k hk => addO_k hk
    have s2 := stay _ 1 1 e1 f1 (by omega) (by omega) addO_0 he1 c.2
    have hO2 := OUT.piece (q' := fun i => if i = 0 then C else ptO β o 1) (E' := fun i => (β (o + 4) i).toNat) (A := ptO β o 1) (B := ptO β o 0) hO hLS (Or.inr ⟨rfl, rfl⟩) k0 b0 a0 (cmb_sw cm) c.2 g3 (Or.inr ⟨rfl, rfl, rfl⟩) (fun _ _ => rfl)
    obtain ⟨r1, r2, r3, r4, r5, r6⟩ := fin C (ptO β o 1) g2 (hP 1 (by omega)) hO2 _ rfl
    refine ⟨_, run _ _ s1 s2 (last _ r1), r1, r2, r3, r4, fun t ht => ?_⟩
    rcases (by omega : t = 0 ∨ t = 1) with z | z
    · right; rw [z, r5]; exact ⟨g3, k, a, b, k0, cm⟩
    · left; rw [z, r6]
