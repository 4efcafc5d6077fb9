/-! ===== the cells of the two sides, by their numbers ===== -/
def TC : List Kd := [.inr (10, [(2, 1), (2, 7), (2, 14), (2, 20), (2, 35), (2, 41), (2, 62), (2, 65), (2, 67), (2, 69)]), .inr (9, [(0, 0), (0, 0), (0, 0), (0, 0), (0, 0), (2, 2), (0, 0), (2, 3), (2, 4), (2, 5), (2, 6)]), .inl (0, 24), .inl (0, 24), .inl (0, 24), .inl (0, 24), .inl (0, 24), .inr (5, [(0, 0), (0, 0), (2, 8), (2, 9), (2, 10), (2, 11), (2, 12), (2, 13)]), .inl (0, 8), .inl (0, 8), .inl (0, 192), .inl (0, 192), .inl (0, 192), .inl (0, 192), .inr (7, [(2, 15), (2, 16), (2, 17), (2, 18), (2, 19)]), .inl (0, 8), .inl (0, 64), .inl (0, 64), .inl (0, 64), .inl (0, 64), .inr (1, [(2, 1), (2, 21), (2, 22), (2, 23), (3, 0), (3, 0), (2, 34), (0, 0), (0, 0), (0, 0)]), .inl (1, 28), .inl (1, 28), .inl (1, 28), .inr (4, [(0, 0), (2, 25), (2, 26), (2, 27), (2, 28)]), .inl (1, 28), .inl (1, 28), .inl (1, 28), .inl (0, 28), .inr (4, [(0, 0), (2, 30), (2, 31), (2, 32), (2, 33)]), .inl (1, 28), .inl (1, 28), .inl (1, 28), .inl (0, 28), .inl (1, 28), .inr (6, [(2, 1), (0, 0), (0, 0), (2, 36), (2, 37), (2, 38), (2, 39), (2, 40), (1, 0), (1, 0), (1, 0)]), .inl (0, 48), .inl (0, 48), .inl (1, 48), .inl (1, 48), .inl (1, 48), .inr (0, [(2, 1), (2, 42), (0, 0), (0, 0), (2, 57), (1, 0), (1, 0)]), .inr (1, [(2, 1), (2, 43), (2, 44), (2, 45), (3, 0), (3, 0), (2, 56), (0, 0), (0, 0), (0, 0)]), .inl (1, 28), .inl (1, 28), .inl (1, 28), .inr (4, [(0, 0), (2, 47), (2, 48), (2, 49), (2, 50)]), .inl (1, 28), .inl (1, 28), .inl (1, 28), .inl (0, 28), .inr (4, [(0, 0), (2, 52), (2, 53), (2, 54), (2, 55)]), .inl (1, 28), .inl (1, 28), .inl (1, 28), .inl (0, 28), .inl (1, 28), .inr (4, [(0, 0), (2, 58), (2, 59), (2, 60), (2, 61)]), .inl (1, 2), .inl (1, 2), .inl (1, 2), .inl (0, 2), .inr (3, [(2, 1), (0, 0), (0, 0), (2, 63), (2, 64)]), .inl (1, 24), .inl (1, 24), .inr (2, [(2, 1), (0, 0), (0, 0), (2, 66)]), .inl (0, 24), .inr (8, [(2, 1), (2, 68)]), .inl (1, 24), .inl (1, 24)]
theorem tC_0 : TC[0]? = some (.inr (10, [(2, 1), (2, 7), (2, 14), (2, 20), (2, 35), (2, 41), (2, 62), (2, 65), (2, 67), (2, 69)])) := rfl
theorem tC_1 : TC[1]? = some (.inr (9, [(0, 0), (0, 0), (0, 0), (0, 0), (0, 0), (2, 2), (0, 0), (2, 3), (2, 4), (2, 5), (2, 6)])) := rfl
theorem tC_2 : TC[2]? = some (.inl (0, 24)) := rfl
theorem tC_3 : TC[3]? = some (.inl (0, 24)) := rfl
theorem tC_4 : TC[4]? = some (.inl (0, 24)) := rfl
theorem tC_5 : TC[5]? = some (.inl (0, 24)) := rfl
theorem tC_6 : TC[6]? = some (.inl (0, 24)) := rfl
theorem tC_7 : TC[7]? = some (.inr (5, [(0, 0), (0, 0), (2, 8), (2, 9), (2, 10), (2, 11), (2, 12), (2, 13)])) := rfl
theorem tC_8 : TC[8]? = some (.inl (0, 8)) := rfl
theorem tC_9 : TC[9]? = some (.inl (0, 8)) := rfl
theorem tC_10 : TC[10]? = some (.inl (0, 192)) := rfl
theorem tC_11 : TC[11]? = some (.inl (0, 192)) := rfl
theorem tC_12 : TC[12]? = some (.inl (0, 192)) := rfl
theorem tC_13 : TC[13]? = some (.inl (0, 192)) := rfl
theorem tC_14 : TC[14]? = some (.inr (7, [(2, 15), (2, 16), (2, 17), (2, 18), (2, 19)])) := rfl
theorem tC_15 : TC[15]? = some (.inl (0, 8)) := rfl
theorem tC_16 : TC[16]? = some (.inl (0, 64)) := rfl
theorem tC_17 : TC[17]? = some (.inl (0, 64)) := rfl
theorem tC_18 : TC[18]? = some (.inl (0, 64)) := rfl
theorem tC_19 : TC[19]? = some (.inl (0, 64)) := rfl
theorem tC_20 : TC[20]? = some (.inr (1, [(2, 1), (2, 21), (2, 22), (2, 23), (3, 0), (3, 0), (2, 34), (0, 0), (0, 0), (0, 0)])) := rfl
theorem tC_21 : TC[21]? = some (.inl (1, 28)) := rfl
theorem tC_22 : TC[22]? = some (.inl (1, 28)) := rfl
theorem tC_23 : TC[23]? = some (.inl (1, 28)) := rfl
theorem tC_24 : TC[24]? = some (.inr (4, [(0, 0), (2, 25), (2, 26), (2, 27), (2, 28)])) := rfl
theorem tC_25 : TC[25]? = some (.inl (1, 28)) := rfl
theorem tC_26 : TC[26]? = some (.inl (1, 28)) := rfl
theorem tC_27 : TC[27]? = some (.inl (1, 28)) := rfl
theorem tC_28 : TC[28]? = some (.inl (0, 28)) := rfl
theorem tC_29 : TC[29]? = some (.inr (4, [(0, 0), (2, 30), (2, 31), (2, 32), (2, 33)])) := rfl
theorem tC_30 : TC[30]? = some (.inl (1, 28)) := rfl
theorem tC_31 : TC[31]? = some (.inl (1, 28)) := rfl
theorem tC_32 : TC[32]? = some (.inl (1, 28)) := rfl
theorem tC_33 : TC[33]? = some (.inl (0, 28)) := rfl
theorem tC_34 : TC[34]? = some (.inl (1, 28)) := rfl
theorem tC_35 : TC[35]? = some (.inr (6, [(2, 1), (0, 0), (0, 0), (2, 36), (2, 37), (2, 38), (2, 39), (2, 40), (1, 0), (1, 0), (1, 0)])) := rfl
theorem tC_36 : TC[36]? = some (.inl (0, 48)) := rfl
theorem tC_37 : TC[37]? = some (.inl (0, 48)) := rfl
theorem tC_38 : TC[38]? = some (.inl (1, 48)) := rfl
theorem tC_39 : TC[39]? = some (.inl (1, 48)) := rfl
theorem tC_40 : TC[40]? = some (.inl (1, 48)) := rfl
theorem tC_41 : TC[41]? = some (.inr (0, [(2, 1), (2, 42), (0, 0), (0, 0), (2, 57), (1, 0), (1, 0)])) := rfl
theorem tC_42 : TC[42]? = some (.inr (1, [(2, 1), (2, 43), (2, 44), (2, 45), (3, 0), (3, 0), (2, 56), (0, 0), (0, 0), (0, 0)])) := rfl
theorem tC_43 : TC[43]? = some (.inl (1, 28)) := rfl
theorem tC_44 : TC[44]? = some (.inl (1, 28)) := rfl
theorem tC_45 : TC[45]? = some (.inl (1, 28)) := rfl
theorem tC_46 : TC[46]? = some (.inr (4, [(0, 0), (2, 47), (2, 48), (2, 49), (2, 50)])) := rfl
theorem tC_47 : TC[47]? = some (.inl (1, 28)) := rfl
theorem tC_48 : TC[48]? = some (.inl (1, 28)) := rfl
theorem tC_49 : TC[49]? = some (.inl (1, 28)) := rfl
theorem tC_50 : TC[50]? = some (.inl (0, 28)) := rfl
theorem tC_51 : TC[51]? = some (.inr (4, [(0, 0), (2, 52), (2, 53), (2, 54), (2, 55)])) := rfl
theorem tC_52 : TC[52]? = some (.inl (1, 28)) := rfl
theorem tC_53 : TC[53]? = some (.inl (1, 28)) := rfl
theorem tC_54 : TC[54]? = some (.inl (1, 28)) := rfl
theorem tC_55 : TC[55]? = some (.inl (0, 28)) := rfl
theorem tC_56 : TC[56]? = some (.inl (1, 28)) := rfl
theorem tC_57 : TC[57]? = some (.inr (4, [(0, 0), (2, 58), (2, 59), (2, 60), (2, 61)])) := rfl
theorem tC_58 : TC[58]? = some (.inl (1, 2)) := rfl
theorem tC_59 : TC[59]? = some (.inl (1, 2)) := rfl
theorem tC_60 : TC[60]? = some (.inl (1, 2)) := rfl
theorem tC_61 : TC[61]? = some (.inl (0, 2)) := rfl
theorem tC_62 : TC[62]? = some (.inr (3, [(2, 1), (0, 0), (0, 0), (2, 63), (2, 64)])) := rfl
theorem tC_63 : TC[63]? = some (.inl (1, 24)) := rfl
theorem tC_64 : TC[64]? = some (.inl (1, 24)) := rfl
theorem tC_65 : TC[65]? = some (.inr (2, [(2, 1), (0, 0), (0, 0), (2, 66)])) := rfl
theorem tC_66 : TC[66]? = some (.inl (0, 24)) := rfl
theorem tC_67 : TC[67]? = some (.inr (8, [(2, 1), (2, 68)])) := rfl
theorem tC_68 : TC[68]? = some (.inl (1, 24)) := rfl
theorem tC_69 : TC[69]? = some (.inl (1, 24)) := rfl
def TM : List Kd := [.inr (11, [(0, 0), (0, 0), (0, 0), (2, 1), (2, 2), (2, 3), (2, 4), (2, 5), (0, 0), (2, 6), (2, 7), (2, 8), (2, 9), (2, 10), (2, 11), (2, 12), (0, 0), (2, 13), (2, 14), (2, 15), (0, 0), (2, 16), (2, 17), (2, 18), (2, 19), (0, 0), (2, 20), (0, 0), (0, 0), (0, 0), (2, 21), (2, 22), (2, 23), (2, 24), (1, 0), (1, 0), (1, 0), (1, 0), (1, 0), (0, 0), (1, 0), (1, 0), (1, 0), (1, 0), (1, 0), (0, 0), (2, 25), (2, 26), (2, 27), (0, 0), (2, 28), (2, 29), (2, 30), (2, 31), (2, 32), (2, 33)]), .inl (2, 24), .inl (0, 24), .inl (0, 24), .inl (0, 24), .inl (0, 24), .inl (2, 192), .inl (0, 192), .inl (0, 192), .inl (0, 192), .inl (0, 192), .inl (0, 8), .inl (0, 8), .inl (1, 28), .inl (1, 28), .inl (1, 28), .inl (1, 400), .inl (1, 400), .inl (1, 400), .inl (0, 400), .inl (0, 400), .inl (0, 64), .inl (0, 64), .inl (0, 64), .inl (0, 64), .inl (0, 24), .inl (0, 24), .inl (0, 26), .inl (0, 24), .inl (1, 24), .inl (2, 24), .inl (0, 8), .inl (0, 256), .inl (0, 8)]
theorem tM_0 : TM[0]? = some (.inr (11, [(0, 0), (0, 0), (0, 0), (2, 1), (2, 2), (2, 3), (2, 4), (2, 5), (0, 0), (2, 6), (2, 7), (2, 8), (2, 9), (2, 10), (2, 11), (2, 12), (0, 0), (2, 13), (2, 14), (2, 15), (0, 0), (2, 16), (2, 17), (2, 18), (2, 19), (0, 0), (2, 20), (0, 0), (0, 0), (0, 0), (2, 21), (2, 22), (2, 23), (2, 24), (1, 0), (1, 0), (1, 0), (1, 0), (1, 0), (0, 0), (1, 0), (1, 0), (1, 0), (1, 0), (1, 0), (0, 0), (2, 25), (2, 26), (2, 27), (0, 0), (2, 28), (2, 29), (2, 30), (2, 31), (2, 32), (2, 33)])) := rfl
theorem tM_1 : TM[1]? = some (.inl (2, 24)) := rfl
theorem tM_2 : TM[2]? = some (.inl (0, 24)) := rfl
theorem tM_3 : TM[3]? = some (.inl (0, 24)) := rfl
theorem tM_4 : TM[4]? = some (.inl (0, 24)) := rfl
theorem tM_5 : TM[5]? = some (.inl (0, 24)) := rfl
theorem tM_6 : TM[6]? = some (.inl (2, 192)) := rfl
theorem tM_7 : TM[7]? = some (.inl (0, 192)) := rfl
theorem tM_8 : TM[8]? = some (.inl (0, 192)) := rfl
theorem tM_9 : TM[9]? = some (.inl (0, 192)) := rfl
theorem tM_10 : TM[10]? = some (.inl (0, 192)) := rfl
theorem tM_11 : TM[11]? = some (.inl (0, 8)) := rfl
theorem tM_12 : TM[12]? = some (.inl (0, 8)) := rfl
theorem tM_13 : TM[13]? = some (.inl (1, 28)) := rfl
theorem tM_14 : TM[14]? = some (.inl (1, 28)) := rfl
theorem tM_15 : TM[15]? = some (.inl (1, 28)) := rfl
theorem tM_16 : TM[16]? = some (.inl (1, 400)) := rfl
theorem tM_17 : TM[17]? = some (.inl (1, 400)) := rfl
theorem tM_18 : TM[18]? = some (.inl (1, 400)) := rfl
theorem tM_19 : TM[19]? = some (.inl (0, 400)) := rfl
theorem tM_20 : TM[20]? = some (.inl (0, 400)) := rfl
theorem tM_21 : TM[21]? = some (.inl (0, 64)) := rfl
theorem tM_22 : TM[22]? = some (.inl (0, 64)) := rfl
theorem tM_23 : TM[23]? = some (.inl (0, 64)) := rfl
theorem tM_24 : TM[24]? = some (.inl (0, 64)) := rfl
theorem tM_25 : TM[25]? = some (.inl (0, 24)) := rfl
theorem tM_26 : TM[26]? = some (.inl (0, 24)) := rfl
theorem tM_27 : TM[27]? = some (.inl (0, 26)) := rfl
theorem tM_28 : TM[28]? = some (.inl (0, 24)) := rfl
theorem tM_29 : TM[29]? = some (.inl (1, 24)) := rfl
theorem tM_30 : TM[30]? = some (.inl (2, 24)) := rfl
theorem tM_31 : TM[31]? = some (.inl (0, 8)) := rfl
theorem tM_32 : TM[32]? = some (.inl (0, 256)) := rfl
theorem tM_33 : TM[33]? = some (.inl (0, 8)) := rfl
abbrev isG (g : Nat) : Prop := g = 20 ∨ g = 42
abbrev isO (o : Nat) : Prop := o = 24 ∨ o = 29 ∨ o = 46 ∨ o = 51 ∨ o = 57
def lnO (o : Nat) : Nat := if o = 57 then 2 else 28
theorem lnO_lt (o : Nat) : lnO o < 2147483648 := by unfold lnO; split <;> omega
theorem tG {g : Nat} (h : isG g) : TC[g]? = some (.inr (1, [(2, 1), (2, g + 1), (2, g + 2), (2, g + 3), (3, 0), (3, 0), (2, g + 14), (0, 0), (0, 0), (0, 0)])) := by rcases h with rfl | rfl <;> rfl
theorem tG1 {g : Nat} (h : isG g) : TC[g + 1]? = some (.inl (1, 28)) := by rcases h with rfl | rfl <;> rfl
theorem tG2 {g : Nat} (h : isG g) : TC[g + 2]? = some (.inl (1, 28)) := by rcases h with rfl | rfl <;> rfl
theorem tG3 {g : Nat} (h : isG g) : TC[g + 3]? = some (.inl (1, 28)) := by rcases h with rfl | rfl <;> rfl
theorem tG14 {g : Nat} (h : isG g) : TC[g + 14]? = some (.inl (1, 28)) := by rcases h with rfl | rfl <;> rfl
theorem tO {o : Nat} (h : isO o) : TC[o]? = some (.inr (4, [(0, 0), (2, o + 1), (2, o + 2), (2, o + 3), (2, o + 4)])) := by rcases h with rfl | rfl | rfl | rfl | rfl <;> rfl
theorem tO1 {o : Nat} (h : isO o) : TC[o + 1]? = some (.inl (1, lnO o)) := by rcases h with rfl | rfl | rfl | rfl | rfl <;> rfl
theorem tO2 {o : Nat} (h : isO o) : TC[o + 2]? = some (.inl (1, lnO o)) := by rcases h with rfl | rfl | rfl | rfl | rfl <;> rfl
theorem tO3 {o : Nat} (h : isO o) : TC[o + 3]? = some (.inl (1, lnO o)) := by rcases h with rfl | rfl | rfl | rfl | rfl <;> rfl
theorem tO4 {o : Nat} (h : isO o) : TC[o + 4]? = some (.inl (0, lnO o)) := by rcases h with rfl | rfl | rfl | rfl | rfl <;> rfl
-- component: 0 WellMap 0 wells,1 past,2 sheets,3 ground,4 rounds,5 dry,6 net,7 outer,8 ways,9 costs; 1 WellMap$Wells 0 wide,1 high,2 season,3 total,4 many,5 counted,6 version,7 x,8 y,9 kind,10 number; 7 WellMap$Past 0 many,1 nextSlot,2 wide,3 high,4 x,5 y,6 kind,7 number; 14 WellMap$Sheets 0 length,1 x,2 y,3 kind,4 number; 20 WellMap$Ground 0 wells,1 a,2 b,3 c,4 now,5 spare,6 inside,7 first,8 drawnWell,9 drawnVersion; 24 WellMap$Outline 0 many,1 x,2 y,3 d,4 edge; 29 WellMap$Outline 0 many,1 x,2 y,3 d,4 edge; 35 WellMap$Rounds 0 wells,1 foundVersion,2 many,3 members,4 firstWell,5 across,6 up,7 d,8 nowAcross,9 nowUp,10 nowD; 41 WellMap$DryRound 0 wells,1 ground,2 foundVersion,3 found,4 best,5 top,6 bottom; 42 WellMap$Ground 0 wells,1 a,2 b,3 c,4 now,5 spare,6 inside,7 first,8 drawnWell,9 drawnVersion; 46 WellMap$Outline 0 many,1 x,2 y,3 d,4 edge; 51 WellMap$Outline 0 many,1 x,2 y,3 d,4 edge; 57 WellMap$Outline 0 many,1 x,2 y,3 d,4 edge; 62 WellMap$Net 0 wells,1 joinedVersion,2 many,3 pipes,4 reach; 65 WellMap$Hull 0 wells,1 wrappedVersion,2 many,3 turns; 67 WellMap$Ways 0 wells,1 gap
-- model: 0 wide,1 high,2 season,3 isThere->1,4 wellX->2,5 wellY->3,6 kind->4,7 number->5,8 changes,9 wasThere->6,10 wasX->7,11 wasY->8,12 wasKind->9,13 wasNumber->10,14 wasWide->11,15 wasHigh->12,16 lines,17 lineA->13,18 lineB->14,19 lineC->15,20 points,21 pointX->16,22 pointY->17,23 pointD->18,24 behind->19,25 corners,26 corner->20,27 first,28 last,29 rings,30 ring->21,31 ringU->22,32 ringV->23,33 ringW->24,34 midX,35 midY,36 midD,37 above,38 below,39 isFound,40 bestX,41 bestY,42 bestD,43 bestAbove,44 bestBelow,45 pipes,46 pipeV->25,47 pipeW->26,48 piece->27,49 hulls,50 hullOf->28,51 reach->29,52 isDone->30,53 sheetMany->31,54 sheetNumber->32,55 sunk->33
