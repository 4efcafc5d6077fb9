set_option maxRecDepth 100000 in
theorem weC_0 {cs : Nat → ClassId} {q : Nat} {u : Nat → Nat} : (wX10 q cs u)[0]? = (wd cs (adU q u) TC sC0)[0]? := by
  rw [wd_get tC_0]
  simp only [ce, List.mapIdx_cons, List.mapIdx_nil, sv]
  rfl
set_option maxRecDepth 100000 in
theorem weC_1 {cs : Nat → ClassId} {q : Nat} {u : Nat → Nat} : (wX10 q cs u)[1]? = (wd cs (adU q u) TC sC0)[1]? := by
  rw [wd_get tC_1]
  simp only [ce, List.mapIdx_cons, List.mapIdx_nil, sv]
  rfl
theorem weC_2 {cs : Nat → ClassId} {q : Nat} {u : Nat → Nat} : (wX10 q cs u)[2]? = (wd cs (adU q u) TC sC0)[2]? := by rw [wd_get tC_2]; rfl
theorem weC_3 {cs : Nat → ClassId} {q : Nat} {u : Nat → Nat} : (wX10 q cs u)[3]? = (wd cs (adU q u) TC sC0)[3]? := by rw [wd_get tC_3]; rfl
theorem weC_4 {cs : Nat → ClassId} {q : Nat} {u : Nat → Nat} : (wX10 q cs u)[4]? = (wd cs (adU q u) TC sC0)[4]? := by rw [wd_get tC_4]; rfl
theorem weC_5 {cs : Nat → ClassId} {q : Nat} {u : Nat → Nat} : (wX10 q cs u)[5]? = (wd cs (adU q u) TC sC0)[5]? := by rw [wd_get tC_5]; rfl
theorem weC_6 {cs : Nat → ClassId} {q : Nat} {u : Nat → Nat} : (wX10 q cs u)[6]? = (wd cs (adU q u) TC sC0)[6]? := by rw [wd_get tC_6]; rfl
set_option maxRecDepth 100000 in
theorem weC_7 {cs : Nat → ClassId} {q : Nat} {u : Nat → Nat} : (wX10 q cs u)[7]? = (wd cs (adU q u) TC sC0)[7]? := by
  rw [wd_get tC_7]
  simp only [ce, List.mapIdx_cons, List.mapIdx_nil, sv]
  rfl
theorem weC_8 {cs : Nat → ClassId} {q : Nat} {u : Nat → Nat} : (wX10 q cs u)[8]? = (wd cs (adU q u) TC sC0)[8]? := by rw [wd_get tC_8]; rfl
theorem weC_9 {cs : Nat → ClassId} {q : Nat} {u : Nat → Nat} : (wX10 q cs u)[9]? = (wd cs (adU q u) TC sC0)[9]? := by rw [wd_get tC_9]; rfl
theorem weC_10 {cs : Nat → ClassId} {q : Nat} {u : Nat → Nat} : (wX10 q cs u)[10]? = (wd cs (adU q u) TC sC0)[10]? := by rw [wd_get tC_10]; rfl
theorem weC_11 {cs : Nat → ClassId} {q : Nat} {u : Nat → Nat} : (wX10 q cs u)[11]? = (wd cs (adU q u) TC sC0)[11]? := by rw [wd_get tC_11]; rfl
theorem weC_12 {cs : Nat → ClassId} {q : Nat} {u : Nat → Nat} : (wX10 q cs u)[12]? = (wd cs (adU q u) TC sC0)[12]? := by rw [wd_get tC_12]; rfl
theorem weC_13 {cs : Nat → ClassId} {q : Nat} {u : Nat → Nat} : (wX10 q cs u)[13]? = (wd cs (adU q u) TC sC0)[13]? := by rw [wd_get tC_13]; rfl
set_option maxRecDepth 100000 in
theorem weC_14 {cs : Nat → ClassId} {q : Nat} {u : Nat → Nat} : (wX10 q cs u)[14]? = (wd cs (adU q u) TC sC0)[14]? := by
  rw [wd_get tC_14]
  simp only [ce, List.mapIdx_cons, List.mapIdx_nil, sv]
  rfl
theorem weC_15 {cs : Nat → ClassId} {q : Nat} {u : Nat → Nat} : (wX10 q cs u)[15]? = (wd cs (adU q u) TC sC0)[15]? := by rw [wd_get tC_15]; rfl
theorem weC_16 {cs : Nat → ClassId} {q : Nat} {u : Nat → Nat} : (wX10 q cs u)[16]? = (wd cs (adU q u) TC sC0)[16]? := by rw [wd_get tC_16]; rfl
theorem weC_17 {cs : Nat → ClassId} {q : Nat} {u : Nat → Nat} : (wX10 q cs u)[17]? = (wd cs (adU q u) TC sC0)[17]? := by rw [wd_get tC_17]; rfl
theorem weC_18 {cs : Nat → ClassId} {q : Nat} {u : Nat → Nat} : (wX10 q cs u)[18]? = (wd cs (adU q u) TC sC0)[18]? := by rw [wd_get tC_18]; rfl
theorem weC_19 {cs : Nat → ClassId} {q : Nat} {u : Nat → Nat} : (wX10 q cs u)[19]? = (wd cs (adU q u) TC sC0)[19]? := by rw [wd_get tC_19]; rfl
set_option maxRecDepth 100000 in
theorem weC_20 {cs : Nat → ClassId} {q : Nat} {u : Nat → Nat} : (wX10 q cs u)[20]? = (wd cs (adU q u) TC sC0)[20]? := by
  rw [wd_get tC_20]
  simp only [ce, List.mapIdx_cons, List.mapIdx_nil, sv]
  rfl
theorem weC_21 {cs : Nat → ClassId} {q : Nat} {u : Nat → Nat} : (wX10 q cs u)[21]? = (wd cs (adU q u) TC sC0)[21]? := by rw [wd_get tC_21]; rfl
theorem weC_22 {cs : Nat → ClassId} {q : Nat} {u : Nat → Nat} : (wX10 q cs u)[22]? = (wd cs (adU q u) TC sC0)[22]? := by rw [wd_get tC_22]; rfl
theorem weC_23 {cs : Nat → ClassId} {q : Nat} {u : Nat → Nat} : (wX10 q cs u)[23]? = (wd cs (adU q u) TC sC0)[23]? := by rw [wd_get tC_23]; rfl
set_option maxRecDepth 100000 in
theorem weC_24 {cs : Nat → ClassId} {q : Nat} {u : Nat → Nat} : (wX10 q cs u)[24]? = (wd cs (adU q u) TC sC0)[24]? := by
  rw [wd_get tC_24]
  simp only [ce, List.mapIdx_cons, List.mapIdx_nil, sv]
  rfl
theorem weC_25 {cs : Nat → ClassId} {q : Nat} {u : Nat → Nat} : (wX10 q cs u)[25]? = (wd cs (adU q u) TC sC0)[25]? := by rw [wd_get tC_25]; rfl
theorem weC_26 {cs : Nat → ClassId} {q : Nat} {u : Nat → Nat} : (wX10 q cs u)[26]? = (wd cs (adU q u) TC sC0)[26]? := by rw [wd_get tC_26]; rfl
theorem weC_27 {cs : Nat → ClassId} {q : Nat} {u : Nat → Nat} : (wX10 q cs u)[27]? = (wd cs (adU q u) TC sC0)[27]? := by rw [wd_get tC_27]; rfl
theorem weC_28 {cs : Nat → ClassId} {q : Nat} {u : Nat → Nat} : (wX10 q cs u)[28]? = (wd cs (adU q u) TC sC0)[28]? := by rw [wd_get tC_28]; rfl
set_option maxRecDepth 100000 in
theorem weC_29 {cs : Nat → ClassId} {q : Nat} {u : Nat → Nat} : (wX10 q cs u)[29]? = (wd cs (adU q u) TC sC0)[29]? := by
  rw [wd_get tC_29]
  simp only [ce, List.mapIdx_cons, List.mapIdx_nil, sv]
  rfl
theorem weC_30 {cs : Nat → ClassId} {q : Nat} {u : Nat → Nat} : (wX10 q cs u)[30]? = (wd cs (adU q u) TC sC0)[30]? := by rw [wd_get tC_30]; rfl
theorem weC_31 {cs : Nat → ClassId} {q : Nat} {u : Nat → Nat} : (wX10 q cs u)[31]? = (wd cs (adU q u) TC sC0)[31]? := by rw [wd_get tC_31]; rfl
theorem weC_32 {cs : Nat → ClassId} {q : Nat} {u : Nat → Nat} : (wX10 q cs u)[32]? = (wd cs (adU q u) TC sC0)[32]? := by rw [wd_get tC_32]; rfl
theorem weC_33 {cs : Nat → ClassId} {q : Nat} {u : Nat → Nat} : (wX10 q cs u)[33]? = (wd cs (adU q u) TC sC0)[33]? := by rw [wd_get tC_33]; rfl
theorem weC_34 {cs : Nat → ClassId} {q : Nat} {u : Nat → Nat} : (wX10 q cs u)[34]? = (wd cs (adU q u) TC sC0)[34]? := by rw [wd_get tC_34]; rfl
set_option maxRecDepth 100000 in
theorem weC_35 {cs : Nat → ClassId} {q : Nat} {u : Nat → Nat} : (wX10 q cs u)[35]? = (wd cs (adU q u) TC sC0)[35]? := by
  rw [wd_get tC_35]
  simp only [ce, List.mapIdx_cons, List.mapIdx_nil, sv]
  rfl
theorem weC_36 {cs : Nat → ClassId} {q : Nat} {u : Nat → Nat} : (wX10 q cs u)[36]? = (wd cs (adU q u) TC sC0)[36]? := by rw [wd_get tC_36]; rfl
theorem weC_37 {cs : Nat → ClassId} {q : Nat} {u : Nat → Nat} : (wX10 q cs u)[37]? = (wd cs (adU q u) TC sC0)[37]? := by rw [wd_get tC_37]; rfl
theorem weC_38 {cs : Nat → ClassId} {q : Nat} {u : Nat → Nat} : (wX10 q cs u)[38]? = (wd cs (adU q u) TC sC0)[38]? := by rw [wd_get tC_38]; rfl
theorem weC_39 {cs : Nat → ClassId} {q : Nat} {u : Nat → Nat} : (wX10 q cs u)[39]? = (wd cs (adU q u) TC sC0)[39]? := by rw [wd_get tC_39]; rfl
theorem weC_40 {cs : Nat → ClassId} {q : Nat} {u : Nat → Nat} : (wX10 q cs u)[40]? = (wd cs (adU q u) TC sC0)[40]? := by rw [wd_get tC_40]; rfl
set_option maxRecDepth 100000 in
theorem weC_41 {cs : Nat → ClassId} {q : Nat} {u : Nat → Nat} : (wX10 q cs u)[41]? = (wd cs (adU q u) TC sC0)[41]? := by
  rw [wd_get tC_41]
  simp only [ce, List.mapIdx_cons, List.mapIdx_nil, sv]
  rfl
set_option maxRecDepth 100000 in
theorem weC_42 {cs : Nat → ClassId} {q : Nat} {u : Nat → Nat} : (wX10 q cs u)[42]? = (wd cs (adU q u) TC sC0)[42]? := by
  rw [wd_get tC_42]
  simp only [ce, List.mapIdx_cons, List.mapIdx_nil, sv]
  rfl
theorem weC_43 {cs : Nat → ClassId} {q : Nat} {u : Nat → Nat} : (wX10 q cs u)[43]? = (wd cs (adU q u) TC sC0)[43]? := by rw [wd_get tC_43]; rfl
theorem weC_44 {cs : Nat → ClassId} {q : Nat} {u : Nat → Nat} : (wX10 q cs u)[44]? = (wd cs (adU q u) TC sC0)[44]? := by rw [wd_get tC_44]; rfl
theorem weC_45 {cs : Nat → ClassId} {q : Nat} {u : Nat → Nat} : (wX10 q cs u)[45]? = (wd cs (adU q u) TC sC0)[45]? := by rw [wd_get tC_45]; rfl
set_option maxRecDepth 100000 in
theorem weC_46 {cs : Nat → ClassId} {q : Nat} {u : Nat → Nat} : (wX10 q cs u)[46]? = (wd cs (adU q u) TC sC0)[46]? := by
  rw [wd_get tC_46]
  simp only [ce, List.mapIdx_cons, List.mapIdx_nil, sv]
  rfl
theorem weC_47 {cs : Nat → ClassId} {q : Nat} {u : Nat → Nat} : (wX10 q cs u)[47]? = (wd cs (adU q u) TC sC0)[47]? := by rw [wd_get tC_47]; rfl
theorem weC_48 {cs : Nat → ClassId} {q : Nat} {u : Nat → Nat} : (wX10 q cs u)[48]? = (wd cs (adU q u) TC sC0)[48]? := by rw [wd_get tC_48]; rfl
theorem weC_49 {cs : Nat → ClassId} {q : Nat} {u : Nat → Nat} : (wX10 q cs u)[49]? = (wd cs (adU q u) TC sC0)[49]? := by rw [wd_get tC_49]; rfl
theorem weC_50 {cs : Nat → ClassId} {q : Nat} {u : Nat → Nat} : (wX10 q cs u)[50]? = (wd cs (adU q u) TC sC0)[50]? := by rw [wd_get tC_50]; rfl
set_option maxRecDepth 100000 in
theorem weC_51 {cs : Nat → ClassId} {q : Nat} {u : Nat → Nat} : (wX10 q cs u)[51]? = (wd cs (adU q u) TC sC0)[51]? := by
  rw [wd_get tC_51]
  simp only [ce, List.mapIdx_cons, List.mapIdx_nil, sv]
  rfl
theorem weC_52 {cs : Nat → ClassId} {q : Nat} {u : Nat → Nat} : (wX10 q cs u)[52]? = (wd cs (adU q u) TC sC0)[52]? := by rw [wd_get tC_52]; rfl
theorem weC_53 {cs : Nat → ClassId} {q : Nat} {u : Nat → Nat} : (wX10 q cs u)[53]? = (wd cs (adU q u) TC sC0)[53]? := by rw [wd_get tC_53]; rfl
theorem weC_54 {cs : Nat → ClassId} {q : Nat} {u : Nat → Nat} : (wX10 q cs u)[54]? = (wd cs (adU q u) TC sC0)[54]? := by rw [wd_get tC_54]; rfl
theorem weC_55 {cs : Nat → ClassId} {q : Nat} {u : Nat → Nat} : (wX10 q cs u)[55]? = (wd cs (adU q u) TC sC0)[55]? := by rw [wd_get tC_55]; rfl
theorem weC_56 {cs : Nat → ClassId} {q : Nat} {u : Nat → Nat} : (wX10 q cs u)[56]? = (wd cs (adU q u) TC sC0)[56]? := by rw [wd_get tC_56]; rfl
set_option maxRecDepth 100000 in
theorem weC_57 {cs : Nat → ClassId} {q : Nat} {u : Nat → Nat} : (wX10 q cs u)[57]? = (wd cs (adU q u) TC sC0)[57]? := by
  rw [wd_get tC_57]
  simp only [ce, List.mapIdx_cons, List.mapIdx_nil, sv]
  rfl
theorem weC_58 {cs : Nat → ClassId} {q : Nat} {u : Nat → Nat} : (wX10 q cs u)[58]? = (wd cs (adU q u) TC sC0)[58]? := by rw [wd_get tC_58]; rfl
theorem weC_59 {cs : Nat → ClassId} {q : Nat} {u : Nat → Nat} : (wX10 q cs u)[59]? = (wd cs (adU q u) TC sC0)[59]? := by rw [wd_get tC_59]; rfl
theorem weC_60 {cs : Nat → ClassId} {q : Nat} {u : Nat → Nat} : (wX10 q cs u)[60]? = (wd cs (adU q u) TC sC0)[60]? := by rw [wd_get tC_60]; rfl
theorem weC_61 {cs : Nat → ClassId} {q : Nat} {u : Nat → Nat} : (wX10 q cs u)[61]? = (wd cs (adU q u) TC sC0)[61]? := by rw [wd_get tC_61]; rfl
set_option maxRecDepth 100000 in
theorem weC_62 {cs : Nat → ClassId} {q : Nat} {u : Nat → Nat} : (wX10 q cs u)[62]? = (wd cs (adU q u) TC sC0)[62]? := by
  rw [wd_get tC_62]
  simp only [ce, List.mapIdx_cons, List.mapIdx_nil, sv]
  rfl
theorem weC_63 {cs : Nat → ClassId} {q : Nat} {u : Nat → Nat} : (wX10 q cs u)[63]? = (wd cs (adU q u) TC sC0)[63]? := by rw [wd_get tC_63]; rfl
theorem weC_64 {cs : Nat → ClassId} {q : Nat} {u : Nat → Nat} : (wX10 q cs u)[64]? = (wd cs (adU q u) TC sC0)[64]? := by rw [wd_get tC_64]; rfl
set_option maxRecDepth 100000 in
theorem weC_65 {cs : Nat → ClassId} {q : Nat} {u : Nat → Nat} : (wX10 q cs u)[65]? = (wd cs (adU q u) TC sC0)[65]? := by
  rw [wd_get tC_65]
  simp only [ce, List.mapIdx_cons, List.mapIdx_nil, sv]
  rfl
theorem weC_66 {cs : Nat → ClassId} {q : Nat} {u : Nat → Nat} : (wX10 q cs u)[66]? = (wd cs (adU q u) TC sC0)[66]? := by rw [wd_get tC_66]; rfl
set_option maxRecDepth 100000 in
theorem weC_67 {cs : Nat → ClassId} {q : Nat} {u : Nat → Nat} : (wX10 q cs u)[67]? = (wd cs (adU q u) TC sC0)[67]? := by
  rw [wd_get tC_67]
  simp only [ce, List.mapIdx_cons, List.mapIdx_nil, sv]
  rfl
theorem weC_68 {cs : Nat → ClassId} {q : Nat} {u : Nat → Nat} : (wX10 q cs u)[68]? = (wd cs (adU q u) TC sC0)[68]? := by rw [wd_get tC_68]; rfl
theorem weC_69 {cs : Nat → ClassId} {q : Nat} {u : Nat → Nat} : (wX10 q cs u)[69]? = (wd cs (adU q u) TC sC0)[69]? := by rw [wd_get tC_69]; rfl
theorem wd_C0 {cs : Nat → ClassId} {q : Nat} {u : Nat → Nat} : wX10 q cs u = wd cs (adU q u) TC sC0 := by
  refine List.ext_getElem? (fun k => ?_)
  match k with
  | 0 => exact weC_0
  | 1 => exact weC_1
  | 2 => exact weC_2
  | 3 => exact weC_3
  | 4 => exact weC_4
  | 5 => exact weC_5
  | 6 => exact weC_6
  | 7 => exact weC_7
  | 8 => exact weC_8
  | 9 => exact weC_9
  | 10 => exact weC_10
  | 11 => exact weC_11
  | 12 => exact weC_12
  | 13 => exact weC_13
  | 14 => exact weC_14
  | 15 => exact weC_15
  | 16 => exact weC_16
  | 17 => exact weC_17
  | 18 => exact weC_18
  | 19 => exact weC_19
  | 20 => exact weC_20
  | 21 => exact weC_21
  | 22 => exact weC_22
  | 23 => exact weC_23
  | 24 => exact weC_24
  | 25 => exact weC_25
  | 26 => exact weC_26
  | 27 => exact weC_27
  | 28 => exact weC_28
  | 29 => exact weC_29
  | 30 => exact weC_30
  | 31 => exact weC_31
  | 32 => exact weC_32
  | 33 => exact weC_33
  | 34 => exact weC_34
  | 35 => exact weC_35
  | 36 => exact weC_36
  | 37 => exact weC_37
  | 38 => exact weC_38
  | 39 => exact weC_39
  | 40 => exact weC_40
  | 41 => exact weC_41
  | 42 => exact weC_42
  | 43 => exact weC_43
  | 44 => exact weC_44
  | 45 => exact weC_45
  | 46 => exact weC_46
  | 47 => exact weC_47
  | 48 => exact weC_48
  | 49 => exact weC_49
  | 50 => exact weC_50
  | 51 => exact weC_51
  | 52 => exact weC_52
  | 53 => exact weC_53
  | 54 => exact weC_54
  | 55 => exact weC_55
  | 56 => exact weC_56
  | 57 => exact weC_57
  | 58 => exact weC_58
  | 59 => exact weC_59
  | 60 => exact weC_60
  | 61 => exact weC_61
  | 62 => exact weC_62
  | 63 => exact weC_63
  | 64 => exact weC_64
  | 65 => exact weC_65
  | 66 => exact weC_66
  | 67 => exact weC_67
  | 68 => exact weC_68
  | 69 => exact weC_69
  | k + 70 => rw [List.getElem?_eq_none (by rw [show (wX10 q cs u).length = 70 from rfl]; omega), List.getElem?_eq_none (by rw [wd_len, show TC.length = 70 from rfl]; omega)]
set_option maxRecDepth 100000 in
theorem weM_0 {cs : Nat → ClassId} {q : Nat} {u : Nat → Nat} : (wX11 q cs u)[0]? = (wd cs (adU q u) TM sM0)[0]? := by
  rw [wd_get tM_0]
  simp only [ce, List.mapIdx_cons, List.mapIdx_nil, sv]
  rfl
theorem weM_1 {cs : Nat → ClassId} {q : Nat} {u : Nat → Nat} : (wX11 q cs u)[1]? = (wd cs (adU q u) TM sM0)[1]? := by rw [wd_get tM_1]; rfl
theorem weM_2 {cs : Nat → ClassId} {q : Nat} {u : Nat → Nat} : (wX11 q cs u)[2]? = (wd cs (adU q u) TM sM0)[2]? := by rw [wd_get tM_2]; rfl
theorem weM_3 {cs : Nat → ClassId} {q : Nat} {u : Nat → Nat} : (wX11 q cs u)[3]? = (wd cs (adU q u) TM sM0)[3]? := by rw [wd_get tM_3]; rfl
theorem weM_4 {cs : Nat → ClassId} {q : Nat} {u : Nat → Nat} : (wX11 q cs u)[4]? = (wd cs (adU q u) TM sM0)[4]? := by rw [wd_get tM_4]; rfl
theorem weM_5 {cs : Nat → ClassId} {q : Nat} {u : Nat → Nat} : (wX11 q cs u)[5]? = (wd cs (adU q u) TM sM0)[5]? := by rw [wd_get tM_5]; rfl
theorem weM_6 {cs : Nat → ClassId} {q : Nat} {u : Nat → Nat} : (wX11 q cs u)[6]? = (wd cs (adU q u) TM sM0)[6]? := by rw [wd_get tM_6]; rfl
theorem weM_7 {cs : Nat → ClassId} {q : Nat} {u : Nat → Nat} : (wX11 q cs u)[7]? = (wd cs (adU q u) TM sM0)[7]? := by rw [wd_get tM_7]; rfl
theorem weM_8 {cs : Nat → ClassId} {q : Nat} {u : Nat → Nat} : (wX11 q cs u)[8]? = (wd cs (adU q u) TM sM0)[8]? := by rw [wd_get tM_8]; rfl
theorem weM_9 {cs : Nat → ClassId} {q : Nat} {u : Nat → Nat} : (wX11 q cs u)[9]? = (wd cs (adU q u) TM sM0)[9]? := by rw [wd_get tM_9]; rfl
theorem weM_10 {cs : Nat → ClassId} {q : Nat} {u : Nat → Nat} : (wX11 q cs u)[10]? = (wd cs (adU q u) TM sM0)[10]? := by rw [wd_get tM_10]; rfl
theorem weM_11 {cs : Nat → ClassId} {q : Nat} {u : Nat → Nat} : (wX11 q cs u)[11]? = (wd cs (adU q u) TM sM0)[11]? := by rw [wd_get tM_11]; rfl
theorem weM_12 {cs : Nat → ClassId} {q : Nat} {u : Nat → Nat} : (wX11 q cs u)[12]? = (wd cs (adU q u) TM sM0)[12]? := by rw [wd_get tM_12]; rfl
theorem weM_13 {cs : Nat → ClassId} {q : Nat} {u : Nat → Nat} : (wX11 q cs u)[13]? = (wd cs (adU q u) TM sM0)[13]? := by rw [wd_get tM_13]; rfl
theorem weM_14 {cs : Nat → ClassId} {q : Nat} {u : Nat → Nat} : (wX11 q cs u)[14]? = (wd cs (adU q u) TM sM0)[14]? := by rw [wd_get tM_14]; rfl
theorem weM_15 {cs : Nat → ClassId} {q : Nat} {u : Nat → Nat} : (wX11 q cs u)[15]? = (wd cs (adU q u) TM sM0)[15]? := by rw [wd_get tM_15]; rfl
theorem weM_16 {cs : Nat → ClassId} {q : Nat} {u : Nat → Nat} : (wX11 q cs u)[16]? = (wd cs (adU q u) TM sM0)[16]? := by rw [wd_get tM_16]; rfl
theorem weM_17 {cs : Nat → ClassId} {q : Nat} {u : Nat → Nat} : (wX11 q cs u)[17]? = (wd cs (adU q u) TM sM0)[17]? := by rw [wd_get tM_17]; rfl
theorem weM_18 {cs : Nat → ClassId} {q : Nat} {u : Nat → Nat} : (wX11 q cs u)[18]? = (wd cs (adU q u) TM sM0)[18]? := by rw [wd_get tM_18]; rfl
theorem weM_19 {cs : Nat → ClassId} {q : Nat} {u : Nat → Nat} : (wX11 q cs u)[19]? = (wd cs (adU q u) TM sM0)[19]? := by rw [wd_get tM_19]; rfl
theorem weM_20 {cs : Nat → ClassId} {q : Nat} {u : Nat → Nat} : (wX11 q cs u)[20]? = (wd cs (adU q u) TM sM0)[20]? := by rw [wd_get tM_20]; rfl
theorem weM_21 {cs : Nat → ClassId} {q : Nat} {u : Nat → Nat} : (wX11 q cs u)[21]? = (wd cs (adU q u) TM sM0)[21]? := by rw [wd_get tM_21]; rfl
theorem weM_22 {cs : Nat → ClassId} {q : Nat} {u : Nat → Nat} : (wX11 q cs u)[22]? = (wd cs (adU q u) TM sM0)[22]? := by rw [wd_get tM_22]; rfl
theorem weM_23 {cs : Nat → ClassId} {q : Nat} {u : Nat → Nat} : (wX11 q cs u)[23]? = (wd cs (adU q u) TM sM0)[23]? := by rw [wd_get tM_23]; rfl
theorem weM_24 {cs : Nat → ClassId} {q : Nat} {u : Nat → Nat} : (wX11 q cs u)[24]? = (wd cs (adU q u) TM sM0)[24]? := by rw [wd_get tM_24]; rfl
theorem weM_25 {cs : Nat → ClassId} {q : Nat} {u : Nat → Nat} : (wX11 q cs u)[25]? = (wd cs (adU q u) TM sM0)[25]? := by rw [wd_get tM_25]; rfl
theorem weM_26 {cs : Nat → ClassId} {q : Nat} {u : Nat → Nat} : (wX11 q cs u)[26]? = (wd cs (adU q u) TM sM0)[26]? := by rw [wd_get tM_26]; rfl
theorem weM_27 {cs : Nat → ClassId} {q : Nat} {u : Nat → Nat} : (wX11 q cs u)[27]? = (wd cs (adU q u) TM sM0)[27]? := by rw [wd_get tM_27]; rfl
theorem weM_28 {cs : Nat → ClassId} {q : Nat} {u : Nat → Nat} : (wX11 q cs u)[28]? = (wd cs (adU q u) TM sM0)[28]? := by rw [wd_get tM_28]; rfl
theorem weM_29 {cs : Nat → ClassId} {q : Nat} {u : Nat → Nat} : (wX11 q cs u)[29]? = (wd cs (adU q u) TM sM0)[29]? := by rw [wd_get tM_29]; rfl
theorem weM_30 {cs : Nat → ClassId} {q : Nat} {u : Nat → Nat} : (wX11 q cs u)[30]? = (wd cs (adU q u) TM sM0)[30]? := by rw [wd_get tM_30]; rfl
theorem weM_31 {cs : Nat → ClassId} {q : Nat} {u : Nat → Nat} : (wX11 q cs u)[31]? = (wd cs (adU q u) TM sM0)[31]? := by rw [wd_get tM_31]; rfl
theorem weM_32 {cs : Nat → ClassId} {q : Nat} {u : Nat → Nat} : (wX11 q cs u)[32]? = (wd cs (adU q u) TM sM0)[32]? := by rw [wd_get tM_32]; rfl
theorem weM_33 {cs : Nat → ClassId} {q : Nat} {u : Nat → Nat} : (wX11 q cs u)[33]? = (wd cs (adU q u) TM sM0)[33]? := by rw [wd_get tM_33]; rfl
theorem wd_M0 {cs : Nat → ClassId} {q : Nat} {u : Nat → Nat} : wX11 q cs u = wd cs (adU q u) TM sM0 := by
  refine List.ext_getElem? (fun k => ?_)
  match k with
  | 0 => exact weM_0
  | 1 => exact weM_1
  | 2 => exact weM_2
  | 3 => exact weM_3
  | 4 => exact weM_4
  | 5 => exact weM_5
  | 6 => exact weM_6
  | 7 => exact weM_7
  | 8 => exact weM_8
  | 9 => exact weM_9
  | 10 => exact weM_10
  | 11 => exact weM_11
  | 12 => exact weM_12
  | 13 => exact weM_13
  | 14 => exact weM_14
  | 15 => exact weM_15
  | 16 => exact weM_16
  | 17 => exact weM_17
  | 18 => exact weM_18
  | 19 => exact weM_19
  | 20 => exact weM_20
  | 21 => exact weM_21
  | 22 => exact weM_22
  | 23 => exact weM_23
  | 24 => exact weM_24
  | 25 => exact weM_25
  | 26 => exact weM_26
  | 27 => exact weM_27
  | 28 => exact weM_28
  | 29 => exact weM_29
  | 30 => exact weM_30
  | 31 => exact weM_31
  | 32 => exact weM_32
  | 33 => exact weM_33
  | k + 34 => rw [List.getElem?_eq_none (by rw [show (wX11 q cs u).length = 34 from rfl]; omega), List.getElem?_eq_none (by rw [wd_len, show TM.length = 34 from rfl]; omega)]
