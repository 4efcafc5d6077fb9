theorem inL1 {w : Cond} (i : Nat) (h : tables_1_1[i]? = some w) : w ∈ lw_tbl := List.mem_append_right _ (List.mem_append_left _ (List.mem_of_getElem? h))
theorem inL2 {w : Cond} (i : Nat) (h : tables_1_2[i]? = some w) : w ∈ lw_tbl := List.mem_append_right _ (List.mem_append_right _ (List.mem_append_left _ (List.mem_of_getElem? h)))
theorem inL3 {w : Cond} (i : Nat) (h : tables_1_3[i]? = some w) : w ∈ lw_tbl := List.mem_append_right _ (List.mem_append_right _ (List.mem_append_right _ (List.mem_append_left _ (List.mem_of_getElem? h))))
theorem inL4 {w : Cond} (i : Nat) (h : tables_1_4[i]? = some w) : w ∈ lw_tbl := List.mem_append_right _ (List.mem_append_right _ (List.mem_append_right _ (List.mem_append_right _ (List.mem_append_left _ (List.mem_of_getElem? h)))))
theorem inL5 {w : Cond} (i : Nat) (h : tables_1_5[i]? = some w) : w ∈ lw_tbl := List.mem_append_right _ (List.mem_append_right _ (List.mem_append_right _ (List.mem_append_right _ (List.mem_append_right _ (List.mem_append_left _ (List.mem_of_getElem? h))))))
theorem inL6 {w : Cond} (i : Nat) (h : tables_1_6[i]? = some w) : w ∈ lw_tbl := List.mem_append_right _ (List.mem_append_right _ (List.mem_append_right _ (List.mem_append_right _ (List.mem_append_right _ (List.mem_append_right _ (List.mem_of_getElem? h))))))
theorem nw_in : ∀ w ∈ NWs, w ∈ lw_tbl := by
  intro w hw
  unfold NWs at hw
  simp only [List.mem_cons, List.not_mem_nil, or_false] at hw
  rcases hw with rfl | rfl | rfl | rfl | rfl | rfl | rfl
  · exact inL2 217 (by decide +kernel)
  · exact inL3 129 (by decide +kernel)
  · exact inL3 220 (by decide +kernel)
  · exact inL3 223 (by decide +kernel)
  · exact inL4 3 (by decide +kernel)
  · exact inL4 20 (by decide +kernel)
  · exact inL4 22 (by decide +kernel)
theorem ls_LEAST_NUMBER : Cond.laysStatic "WellMap" "LEAST_NUMBER" "[I" ∈ lw_tbl := inL2 221 (by decide +kernel)
theorem ls_MOST_NUMBER : Cond.laysStatic "WellMap" "MOST_NUMBER" "[I" ∈ lw_tbl := inL2 223 (by decide +kernel)
theorem ini_W : Cond.initialized "WellMap" ∈ WS := inT1 1 (by decide +kernel) (by decide +kernel)
theorem ac_int : Cond.arrayClass .int ∈ WS := inT1 115 (by decide +kernel) (by decide +kernel)
theorem ac_long : Cond.arrayClass .long ∈ WS := inT1 213 (by decide +kernel) (by decide +kernel)
theorem ac_boolean : Cond.arrayClass .boolean ∈ WS := inT5 120 (by decide +kernel) (by decide +kernel)
theorem ist_0 : Cond.instantiable RX0 7 ∈ WS := inT2 48 (by decide +kernel) (by decide +kernel)
theorem ist_1 : Cond.instantiable RX1 10 ∈ WS := inT1 177 (by decide +kernel) (by decide +kernel)
theorem ist_2 : Cond.instantiable RX2 4 ∈ WS := inT2 103 (by decide +kernel) (by decide +kernel)
theorem ist_3 : Cond.instantiable RX3 5 ∈ WS := inT2 80 (by decide +kernel) (by decide +kernel)
theorem ist_4 : Cond.instantiable RX4 5 ∈ WS := inT1 183 (by decide +kernel) (by decide +kernel)
theorem ist_5 : Cond.instantiable RX5 8 ∈ WS := inT1 117 (by decide +kernel) (by decide +kernel)
theorem ist_6 : Cond.instantiable RX6 11 ∈ WS := inT2 6 (by decide +kernel) (by decide +kernel)
theorem ist_7 : Cond.instantiable RX7 5 ∈ WS := inT1 149 (by decide +kernel) (by decide +kernel)
theorem ist_8 : Cond.instantiable RX8 2 ∈ WS := inT2 124 (by decide +kernel) (by decide +kernel)
theorem ist_9 : Cond.instantiable RX9 11 ∈ WS := inT1 26 (by decide +kernel) (by decide +kernel)
theorem ist_10 : Cond.instantiable RX10 10 ∈ WS := inT1 18 (by decide +kernel) (by decide +kernel)
theorem ist_11 : Cond.instantiable RX11 56 ∈ WS := inT4 186 (by decide +kernel) (by decide +kernel)
theorem lcl_7 : Cond.classLink RL 7 RX10 ∈ WS := inT1 17 (by decide +kernel) (by decide +kernel)
theorem lcl_10 : Cond.classLink RL 10 RX11 ∈ WS := inT4 185 (by decide +kernel) (by decide +kernel)
theorem lml_9 : Cond.methodLink RL 9 yX10_init ∈ WS := inT1 19 (by decide +kernel) (by decide +kernel)
theorem lim_9 : Cond.instanceMethod yX10_init ∈ WS := inT1 20 (by decide +kernel) (by decide +kernel)
theorem lic_9 : Cond.code yX10_init cX10_init 1 none ∈ WS := inT1 21 rfl (by decide +kernel)
theorem lii_9 : Cond.initialized RX10 ∈ WS := inT1 1 (by decide +kernel) (by decide +kernel)
theorem lml_12 : Cond.methodLink RL 12 yX11_init ∈ WS := inT4 187 (by decide +kernel) (by decide +kernel)
theorem lim_12 : Cond.instanceMethod yX11_init ∈ WS := inT4 188 (by decide +kernel) (by decide +kernel)
theorem lic_12 : Cond.code yX11_init cX11_init 1 none ∈ WS := inT4 189 rfl (by decide +kernel)
theorem lii_12 : Cond.initialized RX11 ∈ WS := inT1 13 (by decide +kernel) (by decide +kernel)
def sC0 : St := fun k => match k with
  | 1 => fun j => if j = 0 then 100 else if j = 1 then 100 else 0
  | 5 => flt (fun _ => 0) (-1) 24
  | 15 => flt (fun _ => 0) (-1) 8
  | 20 => fun j => if j = 4 then 24 else if j = 5 then 29 else if j = 9 then -1 else 0
  | 35 => fun j => if j = 1 then -1 else 0
  | 41 => fun j => if j = 2 then -1 else 0
  | 42 => fun j => if j = 4 then 46 else if j = 5 then 51 else if j = 9 then -1 else 0
  | 62 => fun j => if j = 1 then -1 else 0
  | 65 => fun j => if j = 1 then -1 else 0
  | _ => fun _ => 0
def sM0 : St := fun k => match k with
  | 0 => fun j => if j = 0 then 100 else if j = 1 then 100 else 0
  | 31 => up1 (up1 (up1 (up1 (up1 (up1 (up1 (up1 (fun _ => 0) 0 (-1)) 1 (-1)) 2 (-1)) 3 (-1)) 4 (-1)) 5 (-1)) 6 (-1)) 7 (-1)
  | _ => fun _ => 0
def adU (q : Nat) (u : Nat → Nat) : Nat → Nat := fun i => match i with
  | 0 => q
  | k + 1 => u k
