/-! ===== the pure side 21: pipes as numbers ===== -/
theorem bvL_n {a : Nat} (ha : a < 9223372036854775808) : (Int64.ofInt (a : Int)).toBitVec.toNat = a := by
  rw [Int64.toBitVec_ofInt, BitVec.toNat_ofInt]
  omega
theorem jlor_n {a b : Nat} (ha : a < 9223372036854775808) (hb : b < 9223372036854775808) : jlor (a : Int) (b : Int) = ((a ||| b : Nat) : Int) := by
  have e : ((Int64.ofInt (a : Int)) ||| (Int64.ofInt (b : Int))).toBitVec.toNat = a ||| b := by
    rw [Int64.toBitVec_or, BitVec.toNat_or, bvL_n ha, bvL_n hb]
  have l : a ||| b < 2 ^ 63 := Nat.or_lt_two_pow ha hb
  unfold jlor
  rw [← Int64.toInt_toBitVec, BitVec.toInt_eq_toNat_of_lt (by rw [e]; omega), e]
theorem jland_n {a b : Nat} (ha : a < 9223372036854775808) (hb : b < 9223372036854775808) : jland (a : Int) (b : Int) = ((a &&& b : Nat) : Int) := by
  have e : ((Int64.ofInt (a : Int)) &&& (Int64.ofInt (b : Int))).toBitVec.toNat = a &&& b := by
    rw [Int64.toBitVec_and, BitVec.toNat_and, bvL_n ha, bvL_n hb]
  have l : a &&& b < 2 ^ 63 := Nat.and_lt_two_pow a hb
  unfold jland
  rw [← Int64.toInt_toBitVec, BitVec.toInt_eq_toNat_of_lt (by rw [e]; omega), e]
theorem jlshl_10 {a : Nat} (ha : a < 4194304) : jlshl (a : Int) 10 = ((a * 1024 : Nat) : Int) := by
  have e : ((Int64.ofInt (a : Int)) <<< ((Int32.ofInt 10).toInt64 &&& 63)).toBitVec.toNat = a * 1024 := by
    rw [Int64.toBitVec_shiftLeft, show (((Int32.ofInt 10).toInt64 &&& 63).toBitVec.smod 64) = 10#64 by decide, BitVec.shiftLeft_eq', BitVec.toNat_shiftLeft, bvL_n (by omega), show (10#64).toNat = 10 by decide, Nat.shiftLeft_eq]
    omega
  unfold jlshl
  rw [← Int64.toInt_toBitVec, BitVec.toInt_eq_toNat_of_lt (by rw [e]; omega), e]
theorem jlshr_n {a n : Nat} (ha : a < 9223372036854775808) (k : Int) (hk : (((Int32.ofInt k).toInt64 &&& 63).toBitVec.smod 64).toNat = n) : jlshr (a : Int) k = ((a / 2 ^ n : Nat) : Int) := by
  have e0 : (Int64.ofInt (a : Int)).toBitVec.toInt = (a : Int) := by
    rw [BitVec.toInt_eq_toNat_of_lt (by rw [bvL_n ha]; omega), bvL_n ha]
  unfold jlshr
  rw [← Int64.toInt_toBitVec, Int64.toBitVec_shiftRight, BitVec.sshiftRight_eq', hk, BitVec.toInt_sshiftRight, e0, Int.shiftRight_eq_div_pow]
  rfl
theorem jshl_5 : ∀ w : Nat, w < 24 → jshl (w : Int) 5 = ((w * 32 : Nat) : Int) := by decide
def lo2 (u v : Nat) : Nat := if u < v then u else v
def hi2 (u v : Nat) : Nat := if u < v then v else u
/-- a pipe's number: square, lesser well, other one -/
def key (σ : St) (u v : Nat) : Int := sqd σ u v * 1024 + ((lo2 u v * 32 + hi2 u v : Nat) : Int)
theorem lo_hi {u v : Nat} (hu : u < 24) (hv : v < 24) : lo2 u v < 24 ∧ hi2 u v < 24 := by
  unfold lo2 hi2
  split <;> omega
theorem key_sym (σ : St) (u v : Nat) : key σ u v = key σ v u := by
  unfold key
  rw [sqd_sym σ u v]
  have : lo2 u v * 32 + hi2 u v = lo2 v u * 32 + hi2 v u := by
    unfold lo2 hi2
    by_cases c : u < v
    · rw [if_pos c, if_pos c, if_neg (by omega), if_neg (by omega)]
    · by_cases d : v < u
      · rw [if_neg c, if_neg c, if_pos d, if_pos d]
      · have : u = v := by omega
        rw [this]
  rw [this]
theorem key_inj {σ : St} {u v x y : Nat} (hu : u < 24) (hv : v < 24) (hx : x < 24) (hy : y < 24) (h : key σ u v = key σ x y) : lo2 u v = lo2 x y ∧ hi2 u v = hi2 x y ∧ sqd σ u v = sqd σ x y := by
  have a := lo_hi hu hv
  have b := lo_hi hx hy
  unfold key at h
  omega
theorem lo_hi_same {u v x y : Nat} (h1 : lo2 u v = lo2 x y) (h2 : hi2 u v = hi2 x y) : (u = x ∧ v = y) ∨ (u = y ∧ v = x) := by
  unfold lo2 at h1
  unfold hi2 at h2
  by_cases c : u < v
  · by_cases d : x < y
    · rw [if_pos c, if_pos d] at h1 h2
      omega
    · rw [if_pos c, if_neg d] at h1 h2
      omega
  · by_cases d : x < y
    · rw [if_neg c, if_pos d] at h1 h2
      omega
    · rw [if_neg c, if_neg d] at h1 h2
      omega
theorem or_add {a b i : Nat} (h : b < 2 ^ i) : a * 2 ^ i ||| b = a * 2 ^ i + b := by
  have := Nat.two_pow_add_eq_or_of_lt h a
  rw [Nat.mul_comm] at this
  exact this.symm
theorem Rw.keyr {σC σM : St} (h : Rw σC σM) {u v : Nat} (hu : u < 24) (hv : v < 24) : 0 ≤ key σC u v ∧ key σC u v < 4000000000 := by
  have d := h.sq2 hu hv
  have := lo_hi hu hv
  unfold key
  omega
theorem pipe_spec {σC σM : St} (h : Rw σC σM) {u v : Nat} (hu : u < 24) (hv : v < 24) : f_X3_pipeBetween σC (u : Int) (v : Int) = some (key σC u v) := by
  have d := h.sq2 hu hv
  obtain ⟨l1, l2⟩ := lo_hi hu hv
  obtain ⟨s, hs⟩ : ∃ s : Nat, sqd σC u v = (s : Int) := ⟨(sqd σC u v).toNat, by omega⟩
  have e1 : (if (v : Int) < (u : Int) then (v : Int) else (u : Int)) = ((lo2 u v : Nat) : Int) := by
    unfold lo2
    split <;> split <;> omega
  have e2 : (if (u : Int) < (v : Int) then (v : Int) else (u : Int)) = ((hi2 u v : Nat) : Int) := by
    unfold hi2
    split <;> split <;> omega
  rw [f_X3_pipeBetween, f_X3_pipeBetween_b0, square_spec hu hv, jbind_s, jc_I (by omega) (by omega), jc_II (by omega) (by omega) (by omega) (by omega), e1, e2, jshl_5 _ l1, jc_I (by omega) (by omega), jc_II (by omega) (by omega) (by omega) (by omega), jc_I (by omega) (by omega), hs, jlshl_10 (by omega), jlor_n (by omega) (by omega)]
  have o1 : s * 1024 ||| lo2 u v * 32 = s * 1024 + lo2 u v * 32 := or_add (i := 10) (by omega)
  rw [o1, jlor_n (by omega) (by omega)]
  have o2 : s * 1024 + lo2 u v * 32 ||| hi2 u v = s * 1024 + lo2 u v * 32 + hi2 u v := by
    have := or_add (a := s * 32 + lo2 u v) (b := hi2 u v) (i := 5) (by omega)
    have e3 : (s * 32 + lo2 u v) * 2 ^ 5 = s * 1024 + lo2 u v * 32 := by omega
    rw [e3] at this
    exact this
  rw [o2]
  have ek : key σC u v = ((s * 1024 + lo2 u v * 32 + hi2 u v : Nat) : Int) := by
    unfold key
    rw [hs]
    omega
  rw [ek]
/-- a pipe's parts, told -/
theorem key_parts {σC σM : St} (h : Rw σC σM) {u v : Nat} (hu : u < 24) (hv : v < 24) : jland (jlshr (key σC u v) 5) 31 = ((lo2 u v : Nat) : Int) ∧ jland (key σC u v) 31 = ((hi2 u v : Nat) : Int) ∧ jlshr (key σC u v) 10 = sqd σC u v := by
  have d := h.sq2 hu hv
  obtain ⟨l1, l2⟩ := lo_hi hu hv
  obtain ⟨s, hs⟩ : ∃ s : Nat, sqd σC u v = (s : Int) := ⟨(sqd σC u v).toNat, by omega⟩
  have ek : key σC u v = ((s * 1024 + lo2 u v * 32 + hi2 u v : Nat) : Int) := by
    unfold key
    rw [hs]
    omega
  rw [ek]
  refine ⟨?_, ?_, ?_⟩
  · rw [jlshr_n (n := 5) (by omega) 5 (by decide), show (31 : Int) = ((2 ^ 5 - 1 : Nat) : Int) from rfl, jland_n (by omega) (by decide), Nat.and_two_pow_sub_one_eq_mod]
    omega
  · rw [show (31 : Int) = ((2 ^ 5 - 1 : Nat) : Int) from rfl, jland_n (by omega) (by decide), Nat.and_two_pow_sub_one_eq_mod]
    omega
  · rw [jlshr_n (n := 10) (by omega) 10 (by decide), hs]
    omega
