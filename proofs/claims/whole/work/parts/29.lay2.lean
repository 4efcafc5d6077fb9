/-! ===== the pure side 9: lay, the end ===== -/
/-- what is known of the places of k sunk lines -/
def LayP (σC : St) (s k : Nat) (m : Nat → Nat) (N : St) : Prop := ∀ j, j < k → m j < 24 ∧ N 33 j = (m j : Int) ∧ σC 5 (m j) = -1 ∧ (∀ a, a < j → m a ≠ m j) ∧ (∀ w, w < m j → σC 5 w ≠ -1 ∨ ∃ a, a < j ∧ m a = w) ∧ (N 2 (m j) = σC 16 (s * 8 + j) ∧ N 3 (m j) = σC 17 (s * 8 + j) ∧ N 4 (m j) = σC 18 (s * 8 + j) ∧ N 5 (m j) = σC 19 (s * 8 + j)) ∧ (okK (σC 18 (s * 8 + j)) (σC 19 (s * 8 + j)) ∧ 0 ≤ σC 16 (s * 8 + j) ∧ σC 16 (s * 8 + j) ≤ σC 1 0 ∧ 0 ≤ σC 17 (s * 8 + j) ∧ σC 17 (s * 8 + j) ≤ σC 1 1) ∧ (∀ w, w < 24 → ¬ takenW σC (σC 16 (s * 8 + j)) (σC 17 (s * 8 + j)) w) ∧ ∀ a, a < j → ¬ atL σC s a (σC 16 (s * 8 + j)) (σC 17 (s * 8 + j))
theorem lay_back {σC σM M : St} {s k : Nat} (h : RA σC σM) (hL : LayI σC σM s k M) : ∃ m : Nat → Nat, (∀ j, j < k → m j < 24 ∧ M 33 j = (m j : Int)) ∧ RA σC (setS m 0 M k) ∧ LayP σC s k m (setS m 0 M k) := by
  obtain ⟨c, m, -, -, -, -, -, l5, l6, l7⟩ := hL
  refine ⟨m, fun j hj => ⟨(l7 j hj).1, (l7 j hj).2.1⟩, ?_, ?_⟩
  · obtain ⟨⟨r1, r2, r3, r4, r5, r6, r7⟩, hp, hS⟩ := h
    have e0 : setS m 0 M k 0 = σM 0 := by rw [setS_k (by decide), l5 0 (by omega)]
    refine ⟨⟨r1, r2, by rw [e0]; exact r3, by rw [e0]; exact r4, by rw [e0]; exact r5, fun w hw => ?_, r7⟩, hp.fr (fun _ _ _ => rfl) (fun k' h1 h2 => by rw [setS_k (by omega), l5 k' (by omega)]) (by rw [e0]), hS.fr (fun _ _ _ => rfl) (by rw [setS_k (by decide), l5 31 (by omega)]) (by rw [setS_k (by decide), l5 32 (by omega)])⟩
    by_cases q : ∃ j, j < k ∧ m j = w
    · obtain ⟨j, hj, e⟩ := q
      rw [← e]
      exact Or.inl ⟨setS_in k hj, (l7 j hj).2.2.1⟩
    · have q' : ∀ j, j < k → m j ≠ w := fun j hj e => q ⟨j, hj, e⟩
      rw [setS_out k q', setS_k (by decide), setS_k (by decide), setS_k (by decide), setS_k (by decide), l6 1 w q' (by omega), l6 2 w q' (by omega), l6 3 w q' (by omega), l6 4 w q' (by omega), l6 5 w q' (by omega)]
      exact r6 w hw
  · intro j hj
    obtain ⟨a1, a2, a3, a4, a5, a6, a7⟩ := l7 j hj
    rw [setS_k (by decide), setS_k (by decide), setS_k (by decide), setS_k (by decide), setS_k (by decide)]
    exact ⟨a1, a2, a3, a4, a5, a6.2, a7⟩
/-- the component's puts -/
theorem lay_puts {σC τC τM : St} {s n : Nat} {m : Nat → Nat} (hs : s < 8) (hn : n ≤ 8) (hA : RA τC τM) (tk : ∀ k, k < 7 ∨ 13 < k → τC k = σC k) (hP : LayP σC s n m τM) (fuel : Nat) (hf : 8 < fuel) : ∃ υ, jloop (fun (q : (St × Int)) => match q with | (σ, x3) => f_X10_lay_b63 σ (s : Int) (n : Int) x3) fuel (τC, 0) = some υ ∧ RA υ (setS m 1 τM n) ∧ υ 1 6 = τC 1 6 + (n : Int) ∧ (∀ k, 7 ≤ k → υ k = τC k) ∧ (n = 0 → υ = τC) := by
  refine jloop_ex (I := fun a st => st.2 = (a : Int) ∧ RA st.1 (setS m 1 τM a) ∧ st.1 1 6 = τC 1 6 + (a : Int) ∧ (∀ k, 7 ≤ k → st.1 k = τC k) ∧ (a = 0 → st.1 = τC) ∧ st.1 1 0 = σC 1 0 ∧ st.1 1 1 = σC 1 1 ∧ (∀ w, w < 24 → (st.1 5 w = -1 ↔ σC 5 w = -1 ∧ ∀ j, j < a → m j ≠ w)) ∧ (∀ x y w, w < 24 → takenW st.1 x y w → takenW σC x y w ∨ ∃ j, j < a ∧ atL σC s j x y)) (N := n) (J := fun υ => RA υ (setS m 1 τM n) ∧ υ 1 6 = τC 1 6 + (n : Int) ∧ (∀ k, 7 ≤ k → υ k = τC k) ∧ (n = 0 → υ = τC)) ?_ ?_ n 0 fuel (τC, 0) (by omega) (by omega) ?_
  · rintro a ⟨d, x⟩ ha ⟨rfl, i1, i2, i3, i4, i5, i6, i7, i8⟩
    show ∃ s', f_X10_lay_b63 d (s : Int) (n : Int) (a : Int) = some (.inl s') ∧ _
    dsimp only at i1 i2 i3 i4 i5 i6 i7 i8 ⊢
    obtain ⟨p1, p2, p3, p4, p5, ⟨p6, p7, p8, p9⟩, p10, p11, p12⟩ := hP a ha
    have hKn : σC 18 (s * 8 + a) ≠ -1 := by
      have := p10.1
      unfold okK at this
      omega
    have free : d 5 (m a) = -1 := (i7 (m a) p1).mpr ⟨p3, fun j hj => p4 j hj⟩
    have lf : f_X9_leastFree d = some ((m a : Nat) : Int) := by
      rcases free_both (x := 0) (y := 0) (k := 0) (n := 0) i1.1.m 1000 (by omega) with ⟨z, -⟩ | ⟨w, hw, z1, z2, z3, -⟩
      · exact absurd free (z (m a) p1)
      · have e : w = m a := by
          by_cases c1 : w < m a
          · have := (i7 w hw).mp z1
            rcases p5 w c1 with z | ⟨b, hb, z⟩
            · exact absurd this.1 z
            · exact absurd z (this.2 b hb)
          · by_cases c2 : m a < w
            · exact absurd free (z2 (m a) c2)
            · omega
        rw [f_X9_leastFree, f_X9_leastFree_b0, jlet_v, z3, jbind_s, e]
    have c16 : d 16 = σC 16 := by rw [i3 16 (by omega), tk 16 (by omega)]
    have c17 : d 17 = σC 17 := by rw [i3 17 (by omega), tk 17 (by omega)]
    have c18 : d 18 = σC 18 := by rw [i3 18 (by omega), tk 18 (by omega)]
    have c19 : d 19 = σC 19 := by rw [i3 19 (by omega), tk 19 (by omega)]
    obtain ⟨υ, v0, vR, v6, vk, v3, v4, v5, -, w0, w1⟩ := put_eq (μM := setS m 1 τM (a + 1)) i1 p1 (x := σC 16 (s * 8 + a)) (y := σC 17 (s * 8 + a)) (k := σC 18 (s * 8 + a)) (n := σC 19 (s * 8 + a)) (by rw [i5, i6]; exact Or.inr p10) (fun _ v hv hvw kv xv yv => by
        rcases i8 _ _ v hv ⟨kv, xv, yv⟩ with z | ⟨j, hj, z⟩
        · exact p11 v hv z
        · exact p12 j hj z) (fun k hk => by rw [setS_k (by omega), setS_k (by omega)]) (by rw [setS_k (by omega), setS_k (by omega)]) (fun k' v h1 h2 h3 h4 => by
        show up2 (setS m 1 τM a) 1 (m a) 1 k' v = _
        rw [up2_a h4]) (Or.inr ⟨hKn, setS_in (a + 1) (by omega), by rw [setS_k (by decide)]; exact p8, by rw [setS_k (by decide)]; exact p6, by rw [setS_k (by decide)]; exact p7, by rw [setS_k (by decide)]; exact p9⟩)
    have s1 : ∀ {f : Nat → Int} {v : Int}, up1 f (m a) v (m a) = v := by intro f v; simp [up1]
    have s2 : ∀ {f : Nat → Int} {v : Int} {u : Nat}, u ≠ m a → up1 f (m a) v u = f u := by intro f v u hu; simp [up1, hu]
    refine ⟨(υ, ((a + 1 : Nat) : Int)), ?_, rfl, vR, ?_, ?_, fun z => by omega, w0.trans i5, w1.trans i6, ?_, ?_⟩
    · rw [f_X10_lay_b63, jc_II (by omega) (by omega) (by omega) (by omega), if_pos (by omega), jlet_v, lf, jbind_s, show (s : Int) * 8 + (a : Int) = ((s * 8 + a : Nat) : Int) by omega, jc_ix (by omega) (by omega), jc_ix (by omega) (by omega), jc_ix (by omega) (by omega), jc_ix (by omega) (by omega), cast_n, c16, c17, c18, c19, v0, jbind_s, jlet_v, cast_s]
    · dsimp only
      rw [v6, i2]
      omega
    · intro k hk
      dsimp only
      rw [vk k hk, i3 k hk]
    · intro w hw
      dsimp only
      rw [v5]
      by_cases e : w = m a
      · rw [e, s1]
        exact ⟨fun z => absurd z hKn, fun z => absurd rfl (z.2 a (by omega))⟩
      · rw [s2 e, i7 w hw]
        refine ⟨fun z => ⟨z.1, fun j hj => ?_⟩, fun z => ⟨z.1, fun j hj => z.2 j (by omega)⟩⟩
        by_cases e2 : j = a
        · rw [e2]; exact fun z => e z.symm
        · exact z.2 j (by omega)
    · intro x y w hw
      unfold takenW
      dsimp only
      rw [v3, v4, v5]
      by_cases e : w = m a
      · rw [e, s1, s1, s1]
        exact fun z => Or.inr ⟨a, by omega, z.2⟩
      · rw [s2 e, s2 e, s2 e]
        intro z
        rcases i8 x y w hw z with z | ⟨j, hj, z⟩
        · exact Or.inl z
        · exact Or.inr ⟨j, by omega, z⟩
  · rintro ⟨d, x⟩ ⟨rfl, i1, i2, i3, i4, -⟩
    refine ⟨d, ?_, i1, i2, i3, i4⟩
    show f_X10_lay_b63 d (s : Int) (n : Int) (n : Int) = _
    rw [f_X10_lay_b63, jc_II (by omega) (by omega) (by omega) (by omega), if_neg (by omega)]
  · refine ⟨rfl, hA, by show τC 1 6 = _; omega, fun _ _ => rfl, fun _ => rfl, ?_, ?_, ?_, ?_⟩
    · show τC 1 0 = _
      rw [tk 1 (by omega)]
    · show τC 1 1 = _
      rw [tk 1 (by omega)]
    · intro w hw
      show τC 5 w = -1 ↔ _
      rw [tk 5 (by omega)]
      exact ⟨fun z => ⟨z, fun j hj => absurd hj (Nat.not_lt_zero j)⟩, fun z => z.1⟩
    · intro x y w hw z
      unfold takenW at z
      dsimp only at z
      rw [tk 5 (by omega), tk 3 (by omega), tk 4 (by omega)] at z
      exact Or.inl z
theorem lay_eq {σC σM : St} (h : RA σC σM) {x : Int} (hx : inI x) : ∃ v τC τM, f_X10_lay σC x = some (v, τC) ∧ f_X11_lay σM x = some (v, τM) ∧ RA τC τM ∧ CSt σC τC := by
  rcases ix8 x with q | ⟨s, hs, rfl⟩
  · refine ⟨-1, σC, σM, ?_, ?_, h, CSt.refl⟩
    · rw [f_X10_lay, f_X10_lay_b0, shas_out hx q, jbind_s, jc_I (by omega) (by omega), if_pos rfl]
    · rw [f_X11_lay, f_X11_lay_b0, isSheet_out hx q, jbind_s, jc_I (by omega) (by omega), if_pos rfl]
  · obtain ⟨l1, l2, l3⟩ := h.2.2.1 s hs
    by_cases c1 : σC 15 s = -1
    · refine ⟨-1, σC, σM, ?_, ?_, h, CSt.refl⟩
      · rw [f_X10_lay, f_X10_lay_b0, shas_in hs ⟨l2, l3⟩, if_pos c1, jbind_s, jc_I (by omega) (by omega), if_pos rfl]
      · rw [f_X11_lay, f_X11_lay_b0, isSheet_in hs, jbind_s, jc_I (by omega) (by omega), if_neg (by omega), jc_ix (by omega) (by omega), cast_n, l1, jc_II (by omega) (by omega) (by omega) (by omega), if_pos c1]
    · obtain ⟨n, en⟩ : ∃ n : Nat, σC 15 s = (n : Int) := ⟨(σC 15 s).toNat, by omega⟩
      have hn : n ≤ 8 := by omega
      obtain ⟨e, e1, ⟨M, rfl, hL, hy⟩ | ⟨k, M, hk, rfl, hL, h0, hy⟩⟩ := lay_check h hs hn 1000 (by omega)
      · obtain ⟨m, hm, hA, hP⟩ := lay_back h hL
        obtain ⟨τC, τM, t0, u0, hA', tk, uk, u8⟩ := after hA
        have hP' : LayP σC s n m τM := by
          intro j hj
          rw [uk 33 (by omega) (by omega), uk 2 (by omega) (by omega), uk 3 (by omega) (by omega), uk 4 (by omega) (by omega), uk 5 (by omega) (by omega)]
          exact hP j hj
        obtain ⟨υ, v0, vR, v6, vk, vn⟩ := lay_puts hs hn hA' tk hP' 1000 (by omega)
        refine ⟨(n : Int), υ, _, ?_, ?_, vR, ?_, ?_⟩
        · rw [f_X10_lay, f_X10_lay_b0, shas_in hs ⟨l2, l3⟩, if_neg c1, jbind_s, jc_I (by omega) (by omega), if_neg (by omega), jc_ix (by omega) (by omega), jlet_v, jlet_v, cast_n, en, lay_lookY hn hy 1000 (by omega), jbind_s]
          dsimp only
          rw [t0, jbind_s, jlet_v, v0, jbind_s]
        · rw [f_X11_lay, f_X11_lay_b0, isSheet_in hs, jbind_s, jc_I (by omega) (by omega), if_neg (by omega), jc_ix (by omega) (by omega), cast_n, l1, jc_II (by omega) (by omega) (by omega) (by omega), if_neg c1, jc_ix (by omega) (by omega), jlet_v, jlet_v, en, e1, jbind_s]
          dsimp only
          rw [jlet_v, un_loop2 hn hm 1000 (by omega), jbind_s, u0, jbind_s, jlet_v, re_loop hn (fun j hj => ⟨(hP' j hj).1, (hP' j hj).2.1⟩) 1000 (by omega), jbind_s]
        · intro k hk
          rw [vk k (by omega), tk k (by omega)]
        · by_cases z : n = 0
          · refine Or.inr fun k hk => ?_
            rw [vn z, tk k (by omega)]
          · left
            rw [v6, tk 1 (by omega)]
            omega
      · obtain ⟨m, hm, hA, -⟩ := lay_back h hL
        refine ⟨-2 - (k : Int), σC, _, ?_, ?_, hA, CSt.refl⟩
        · rw [f_X10_lay, f_X10_lay_b0, shas_in hs ⟨l2, l3⟩, if_neg c1, jbind_s, jc_I (by omega) (by omega), if_neg (by omega), jc_ix (by omega) (by omega), jlet_v, jlet_v, cast_n, en, lay_lookN hn hk hy h0 1000 (by omega), jbind_s]
        · rw [f_X11_lay, f_X11_lay_b0, isSheet_in hs, jbind_s, jc_I (by omega) (by omega), if_neg (by omega), jc_ix (by omega) (by omega), cast_n, l1, jc_II (by omega) (by omega) (by omega) (by omega), if_neg c1, jc_ix (by omega) (by omega), jlet_v, jlet_v, en, e1, jbind_s]
          dsimp only
          rw [jlet_v, un_loop (by omega) hm 1000 (by omega), jbind_s]
