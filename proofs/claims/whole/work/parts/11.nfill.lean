/-! ===== constructors: a read of the own object, Arrays.fill ===== -/
theorem jloop_for {S E : Type} {body : S → Option (S ⊕ E)} {g : Nat → S} {N : Nat} {e : E} (hs : ∀ i, i < N → body (g i) = some (.inl (g (i + 1)))) (he : body (g N) = some (.inr e)) : ∀ (m i fuel : Nat), i + m = N → m < fuel → jloop body fuel (g i) = some e
  | 0, i, fuel, h, hf => by
    obtain ⟨f, rfl⟩ : ∃ f, fuel = f + 1 := ⟨fuel - 1, by omega⟩
    have hi : i = N := by omega
    subst hi
    unfold jloop
    rw [he]
  | m + 1, i, fuel, h, hf => by
    obtain ⟨f, rfl⟩ : ∃ f, fuel = f + 1 := ⟨fuel - 1, by omega⟩
    unfold jloop
    rw [hs i (by omega)]
    exact jloop_for hs he m (i + 1) f (by omega) (by omega)
theorem upr_same {σ : St} {k : Nat} {g : Nat → Int} : upr σ k g k = g := by simp [upr]
theorem upr_ne {σ : St} {k i : Nat} {g : Nat → Int} (h : i ≠ k) : upr σ k g i = σ i := by simp [upr, h]
theorem upr_upr {σ : St} {k : Nat} {g g' : Nat → Int} : upr (upr σ k g) k g' = upr σ k g' := by
  funext i
  by_cases h : i = k <;> simp [upr, h]
theorem upr_self {σ : St} {k : Nat} : upr σ k (σ k) = σ := by
  funext i
  by_cases h : i = k <;> simp [upr, h]
def flt (f : Nat → Int) (v : Int) (n : Nat) : Nat → Int := fun j => if j < n then v else f j
theorem flt_step {f : Nat → Int} {v : Int} {n : Nat} : up1 (flt f v n) n v = flt f v (n + 1) := by
  funext j
  unfold up1 flt
  by_cases h : j = n
  · subst h; simp
  · by_cases h2 : j < n
    · simp [h, h2, show j < n + 1 by omega]
    · simp [h, h2, show ¬ j < n + 1 by omega]
theorem jloop_for0 {S E : Type} {body : S → Option (S ⊕ E)} {s0 : S} {fuel : Nat} (g : Nat → S) (N : Nat) (e : E) (h0 : s0 = g 0) (hf : N < fuel) (hs : ∀ i, i < N → body (g i) = some (.inl (g (i + 1)))) (he : body (g N) = some (.inr e)) : jloop body fuel s0 = some e := by
  rw [h0]
  exact jloop_for hs he N 0 fuel (by omega) hf
theorem jlet_v {α β : Type} {e : α} {k : α → β} : jlet e k = k e := (Eq.refl _).trans (Eq.refl _)
theorem jbind_of {α β : Type} {x : Option α} {k : α → Option β} {a : α} {y : β} (h : x = some a) (h2 : k a = some y) : jbind x k = some y := by rw [h]; exact h2
theorem cast_s (i : Nat) : ((i : Int) + 1) = ((i + 1 : Nat) : Int) := by omega
theorem cast_n (i : Nat) : (i : Int).toNat = i := by omega
theorem fillI_loop {σ : St} {k n : Nat} {v : Int} (hn : n ≤ 900) (fuel : Nat) (hf : n < fuel) : jloop (fun (q : (St × Int)) => match q with | (σ, x2) => f_J7_fill_53178_b5 σ k n v x2 n) fuel (σ, 0) = some (upr σ k (flt (σ k) v n)) := by
  refine jloop_for0 (g := fun i => (upr σ k (flt (σ k) v i), (i : Int))) (N := n) (e := upr σ k (flt (σ k) v n)) ?_ hf (fun i hi => ?_) ?_
  · have e0 : flt (σ k) v 0 = σ k := by funext j; simp [flt]
    simp only [e0, upr_self]
    simp
  · show f_J7_fill_53178_b5 _ k n v (i : Int) n = _
    unfold f_J7_fill_53178_b5
    rw [jchk_t ⟨⟨by omega, by omega⟩, ⟨by omega, by omega⟩⟩, if_pos (by omega), jchk_t ⟨by omega, by omega⟩]
    unfold jlet
    rw [cast_n, up2, upr_same, upr_upr, flt_step, cast_s]
  · show f_J7_fill_53178_b5 _ k n v (n : Int) n = _
    unfold f_J7_fill_53178_b5
    rw [jchk_t ⟨⟨by omega, by omega⟩, ⟨by omega, by omega⟩⟩, if_neg (by omega)]
theorem fillI_spec {σ : St} {k n : Nat} {v : Int} (hn : n ≤ 900) : f_J7_fill_53178 σ k n v = some (upr σ k (flt (σ k) v n)) :=
  by
  rw [f_J7_fill_53178, f_J7_fill_53178_b0, jlet_v, jlet_v, fillI_loop hn 1000 (by omega), jbind_s]
section NF
variable {cc : ByteArray} {nL : Nat} {own : String} {cs : Nat → ClassId} {R : Room} {l : Launch} {X : CN} {ws : va_W} {cells slots : Nat} {lv : List (Nat × Value)} {st : List Value} {pc : Nat}
theorem n_get {cl : List vw_C} {WS NW : List Cond} (F : OkN cl WS NW cc nL own cs l X) {C : String} {T : u_T} {N ci index h0 : Nat} {fs : List Value} {rs : va_W} {v : Value} (k : Nat) (hin : ∀ w ∈ u_ws C T N, w ∈ WS) (hc : cl[ci]? = some (C, T, N)) (hk : k < N) (hw : Cond.fieldLink own index (T k).1 (T k).2.1 (T k).2.2.1 ∈ WS) (hv : fs[k]? = some v) (d : decode cc pc = .ok (.getfield index, 3)) (kk : AtW cl nL R X ((h0, .inr (ci, fs)) :: rs) cells slots lv (v :: st) (pc + 3)) : AtW cl nL R X ((h0, .inr (ci, fs)) :: rs) cells slots lv (.ref h0 :: st) pc := by
  obtain ⟨p, l', e, s, m, args, below, meth, c, Q, D, A⟩ := X
  obtain ⟨rfl, F⟩ := F
  intro H locs ls hP hD hS hl
  exact va_get F.1.1 F.1.2.1 F.1.2.2.2.2 hin F.1.2.2.2.1 F.2.1 hP 0 rfl hc k hk (F.1.2.2.2.2 _ hw) (fun _ h9 => h9) hv d (kk H locs ls hP hD hS hl)
theorem n_fill (F : OkN vwCl WS NWs cc nL own cs l X) {i q n index : Nat} {f : Nat → Int} {v : Int} {ws' : va_W} (L : LinkS WS own index yJ7_fill_53178 cJ7_fill_53178 4 none 2) (hi : ws[i]? = some (q, ce cs (fun _ => 0) (.inl (0, n)) f)) (hn : n ≤ 900) (hR : rm_J7_fill_53178.frames + 1 ≤ R.frames ∧ 8 + (4 + 11) + rm_J7_fill_53178.locals ≤ R.locals) (hroom : (st.map fun v => v.category).sum ≤ 8) (hc : cells ≤ R.cells) (hs : slots ≤ R.slots) (hws : ws.set i (q, ce cs (fun _ => 0) (.inl (0, n)) (flt f v n)) = ws') (d : decode cc pc = .ok (.invokestatic index, 3)) (kk : AtW vwCl nL R X ws' cells slots lv st (pc + 3)) : AtW vwCl nL R X ws cells slots lv (iv v :: .ref q :: st) pc := by
  obtain ⟨p, l', e, s, m, args, below, meth, c, Q, D, A⟩ := X
  obtain ⟨rfl, F⟩ := F
  intro H locs ls hP hD hS hl
  subst hws
  have hA : ∀ x, AW (fun _ => q) 1 H.size x → A x := by
    intro x h
    rcases h with ⟨k, hk, rfl⟩ | h
    · exact hD.2 i _ hi
    · exact F.2.2.1 x (Nat.le_trans hS.1 h)
  have hM := (c_J7_fill_53178 (l := l') (T := [.inl (0, n)]) (k := 0) (n := n) rfl (by omega) (σ := fun _ => f) (x1 := v)) _ (fillI_spec hn) D cs (fun _ => q) H.size
  refine va_callv (va_runS F.1 hM (va_cwS 2 F.1.2.2.2.2 L.1 rfl rfl rfl L.2 hR) ⟨PU_blind, fun U hU hW => ⟨rfl, by rw [hU], ?_, va_K.moved hW.alike F.2.1, fun i j hi hj _ => by simp at hi hj; omega, F.2.2.2.warm hS hU hW hA⟩⟩ rfl rfl hl.1 rfl (lv_room hroom) d ⟨hc, hs⟩) hS (fun x _ h => hA x h) hA (fun u t H1 locs1 ht hvm hw hB hz1 hk1 hS1 => ?_)
  · rw [hU]
    intro k x hk
    have hk0 : k = 0 := by
      have := (wd_inv hk).1
      simp at this
      exact this
    subst hk0
    cases hk
    exact hP i _ hi
  · subst hw
    unfold BU at hB
    rw [ht] at hB
    have hB0 := hB 0 _ (wd_get (k := 0) rfl)
    rw [upr_same] at hB0
    have hkp : ∀ x : Nat, x ≠ q → x < H.size → H1[x]? = H[x]? := fun x hx hlt => hk1 x hlt (fun h => by
      rcases h with ⟨k, -, h⟩ | h
      · exact hx h
      · omega)
    refine kk H1 locs1 ls (fun k x hk => ?_) (hD.set hi) hS1 hl
    by_cases hki : k = i
    · subst hki
      rw [List.getElem?_set_self (List.getElem?_eq_some_iff.mp hi).1] at hk
      cases hk
      exact hB0
    · rw [List.getElem?_set_ne (fun z => hki z.symm)] at hk
      exact (hP k x hk).kept (hkp x.1 (fun z => hki (hD.1 k i x _ hk hi z)) (hP k x hk).lt)
end NF
