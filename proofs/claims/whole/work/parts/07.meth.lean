/-! ===== what the tables say of every method ===== -/
def cpL : List Nat := [194, 451, 661, 734, 759, 711, 619, 332, 599, 821, 825, 843, 832, 839, 847, 855, 546, 268, 648, 246, 688, 783, 653, 755, 640, 636, 705, 742, 723, 751, 763, 795, 808, 696, 692, 730, 771, 787, 800, 462, 83, 396, 586, 590, 441, 506, 486, 498, 510, 514, 524, 520, 445, 566, 570, 574, 578, 533, 537, 252, 644, 676, 684, 665, 767, 657, 680, 669, 186, 611, 627, 779, 615, 594, 119, 502, 482, 528, 541, 89, 388, 582, 400, 404, 412, 408, 422, 433, 494, 490, 426, 415, 418, 429, 437, 75, 384, 392, 603, 607, 623, 632, 701, 719, 738, 747, 775, 791, 804, 812, 851, 859, 864, 815, 457, 869, 1030, 1026, 1042, 1047, 1039, 1073, 1053, 1081, 1069, 1060, 1093, 1088, 1077, 1057, 1035, 1098, 1106, 1111, 1204, 1102, 1115, 1084, 1150, 1146, 1156, 1196, 1134, 1142, 1138, 1192, 1130, 1126, 1164, 1121, 1160, 1172, 1168, 1176, 1180, 1188, 1184, 1200, 1208, 1212, 1219, 1228, 1225, 1232, 1216, 1236, 1240, 1245, 714, 828, 454, 835, 0]
def ipL : List Nat := [61, 61, 61, 61, 61, 61, 61, 65, 65, 65, 65, 65, 65, 65, 65, 65, 69, 64, 64, 62, 62, 62, 62, 62, 62, 62, 62, 62, 62, 62, 62, 62, 62, 62, 62, 62, 62, 62, 62, 68, 57, 57, 57, 57, 57, 57, 57, 57, 57, 57, 57, 57, 57, 57, 57, 57, 57, 57, 57, 63, 63, 63, 63, 63, 63, 63, 63, 63, 60, 60, 60, 60, 60, 60, 59, 59, 59, 59, 59, 58, 58, 58, 58, 58, 58, 58, 58, 58, 58, 58, 58, 58, 58, 58, 58, 56, 56, 56, 56, 56, 56, 56, 56, 56, 56, 56, 56, 56, 56, 56, 56, 56, 56, 56, 56, 66, 66, 66, 66, 66, 66, 66, 66, 66, 66, 66, 66, 66, 66, 66, 66, 66, 66, 66, 66, 66, 66, 66, 66, 66, 66, 66, 66, 66, 66, 66, 66, 66, 66, 66, 66, 66, 66, 66, 66, 66, 66, 66, 66, 66, 66, 66, 66, 66, 66, 66, 66, 66, 70, 67, 67, 67, 55]
def retOK (rt : Nat) (r : Option FieldType) : Bool := match rt with
  | 0 => decide (r = none)
  | 1 => decide (r = some .int)
  | 2 => decide (r = some .boolean)
  | 3 => decide (r = some .long)
  | _ => (match r with
    | some (.object _) => true
    | some (.array _) => true
    | _ => false)
def mChk (mid : Nat) : Bool := decide ((yOf mid).cls ≠ "java/lang/invoke/MethodHandle" ∧ (yOf mid).cls ≠ "java/lang/invoke/VarHandle") && (nPar (yOf mid) (nthN npL mid) && (gw (nthN ipL mid) (.initialized (yOf mid).cls) && (retOK (rtOf mid) (retOf mid) && Nat.ble (mlOf mid) 20)))
def stOK (n : Nat) (e : En) : Bool := match e.1 with
  | .istore_n _ => Nat.ble (e.2.2.1.1 + 1) n
  | .istore _ => Nat.ble (e.2.2.1.1 + 1) n
  | .astore_n _ => Nat.ble (e.2.2.1.1 + 1) n
  | .astore _ => Nat.ble (e.2.2.1.1 + 1) n
  | .iinc _ _ => Nat.ble (e.2.2.1.1 + 1) n
  | .lstore_n _ => Nat.ble (e.2.2.1.1 + 2) n
  | .lstore _ => Nat.ble (e.2.2.1.1 + 2) n
  | _ => true
theorem mChk_0 : ((List.range 20).map (· + 0)).all (fun m => !(Nat.ble (m + 1) 172) || mChk m) = true := by decide +kernel
theorem mChk_20 : ((List.range 20).map (· + 20)).all (fun m => !(Nat.ble (m + 1) 172) || mChk m) = true := by decide +kernel
theorem mChk_40 : ((List.range 20).map (· + 40)).all (fun m => !(Nat.ble (m + 1) 172) || mChk m) = true := by decide +kernel
theorem mChk_60 : ((List.range 20).map (· + 60)).all (fun m => !(Nat.ble (m + 1) 172) || mChk m) = true := by decide +kernel
theorem mChk_80 : ((List.range 20).map (· + 80)).all (fun m => !(Nat.ble (m + 1) 172) || mChk m) = true := by decide +kernel
theorem mChk_100 : ((List.range 20).map (· + 100)).all (fun m => !(Nat.ble (m + 1) 172) || mChk m) = true := by decide +kernel
theorem mChk_120 : ((List.range 20).map (· + 120)).all (fun m => !(Nat.ble (m + 1) 172) || mChk m) = true := by decide +kernel
theorem mChk_140 : ((List.range 20).map (· + 140)).all (fun m => !(Nat.ble (m + 1) 172) || mChk m) = true := by decide +kernel
theorem mChk_160 : ((List.range 20).map (· + 160)).all (fun m => !(Nat.ble (m + 1) 172) || mChk m) = true := by decide +kernel
theorem mChk_ok : ∀ m, m < 172 → mChk m = true := by
  intro m hm
  have key : ∀ a, ((List.range 20).map (· + a)).all (fun m => !(Nat.ble (m + 1) 172) || mChk m) = true → a ≤ m → m < a + 20 → mChk m = true := by
    intro a h h1 h2
    have h3 := List.all_eq_true.mp h m (List.mem_map.mpr ⟨m - a, List.mem_range.mpr (by omega), by omega⟩)
    have h4 : Nat.ble (m + 1) 172 = true := Nat.ble_eq.mpr hm
    rw [h4] at h3
    simpa using h3
  by_cases c0 : m < 20
  · exact key 0 mChk_0 (by omega) (by omega)
  by_cases c20 : m < 40
  · exact key 20 mChk_20 (by omega) (by omega)
  by_cases c40 : m < 60
  · exact key 40 mChk_40 (by omega) (by omega)
  by_cases c60 : m < 80
  · exact key 60 mChk_60 (by omega) (by omega)
  by_cases c80 : m < 100
  · exact key 80 mChk_80 (by omega) (by omega)
  by_cases c100 : m < 120
  · exact key 100 mChk_100 (by omega) (by omega)
  by_cases c120 : m < 140
  · exact key 120 mChk_120 (by omega) (by omega)
  by_cases c140 : m < 160
  · exact key 140 mChk_140 (by omega) (by omega)
  exact key 160 mChk_160 (by omega) (by omega)
theorem stOK_ok : (List.range 173).all (fun m => (cdOf m).all (fun q => stOK (mlOf m) q.2)) = true := by decide +kernel
def iniOf (mid : Nat) : Bool := decide ((yOf mid).name = "<init>")
theorem gm_Fr_init : ∀ q ∈ cdOf 0, goodB (yOf 0).cls (iniOf 0) (byOf 0) q.1 q.2 = true := gk_Fr_init
theorem gm_Fr_put : ∀ q ∈ cdOf 1, goodB (yOf 1).cls (iniOf 1) (byOf 1) q.1 q.2 = true := gk_Fr_put
theorem gm_Fr_copy : ∀ q ∈ cdOf 2, goodB (yOf 2).cls (iniOf 2) (byOf 2) q.1 q.2 = true := gk_Fr_copy
theorem gm_Fr_negate : ∀ q ∈ cdOf 3, goodB (yOf 3).cls (iniOf 3) (byOf 3) q.1 q.2 = true := gk_Fr_negate
theorem gm_Fr_isZero : ∀ q ∈ cdOf 4, goodB (yOf 4).cls (iniOf 4) (byOf 4) q.1 q.2 = true := gk_Fr_isZero
theorem gm_Fr_compareToWhole : ∀ q ∈ cdOf 5, goodB (yOf 5).cls (iniOf 5) (byOf 5) q.1 q.2 = true := gk_Fr_compareToWhole
theorem gm_Fr_side : ∀ q ∈ cdOf 6, goodB (yOf 6).cls (iniOf 6) (byOf 6) q.1 q.2 = true := gk_Fr_side
theorem gm_La_init : ∀ q ∈ cdOf 7, goodB (yOf 7).cls (iniOf 7) (byOf 7) q.1 q.2 = true := gk_La_init
theorem gm_La_forget : ∀ q ∈ cdOf 8, goodB (yOf 8).cls (iniOf 8) (byOf 8) q.1 q.2 = true := gk_La_forget
theorem gm_La_prepare : ∀ q ∈ cdOf 9, goodB (yOf 9).cls (iniOf 9) (byOf 9) q.1 q.2 = true := gk_La_prepare
theorem gm_La_inverse : ∀ q ∈ cdOf 10, goodB (yOf 10).cls (iniOf 10) (byOf 10) q.1 q.2 = true := gk_La_inverse
theorem gm_La_next : ∀ q ∈ cdOf 11, goodB (yOf 11).cls (iniOf 11) (byOf 11) q.1 q.2 = true := gk_La_next
theorem gm_La_followAll : ∀ q ∈ cdOf 12, goodB (yOf 12).cls (iniOf 12) (byOf 12) q.1 q.2 = true := gk_La_followAll
theorem gm_La_follow : ∀ q ∈ cdOf 13, goodB (yOf 13).cls (iniOf 13) (byOf 13) q.1 q.2 = true := gk_La_follow
theorem gm_La_noteCycle : ∀ q ∈ cdOf 14, goodB (yOf 14).cls (iniOf 14) (byOf 14) q.1 q.2 = true := gk_La_noteCycle
theorem gm_La_fact : ∀ q ∈ cdOf 15, goodB (yOf 15).cls (iniOf 15) (byOf 15) q.1 q.2 = true := gk_La_fact
theorem gm_Li_init : ∀ q ∈ cdOf 16, goodB (yOf 16).cls (iniOf 16) (byOf 16) q.1 q.2 = true := gk_Li_init
theorem gm_Mo_init : ∀ q ∈ cdOf 17, goodB (yOf 17).cls (iniOf 17) (byOf 17) q.1 q.2 = true := gk_Mo_init
theorem gm_Mo_put : ∀ q ∈ cdOf 18, goodB (yOf 18).cls (iniOf 18) (byOf 18) q.1 q.2 = true := gk_Mo_put
theorem gm_Op_init : ∀ q ∈ cdOf 19, goodB (yOf 19).cls (iniOf 19) (byOf 19) q.1 q.2 = true := gk_Op_init
theorem gm_Op_isBig : ∀ q ∈ cdOf 20, goodB (yOf 20).cls (iniOf 20) (byOf 20) q.1 q.2 = true := gk_Op_isBig
theorem gm_Op_onlyKick : ∀ q ∈ cdOf 21, goodB (yOf 21).cls (iniOf 21) (byOf 21) q.1 q.2 = true := gk_Op_onlyKick
theorem gm_Op_lead : ∀ q ∈ cdOf 22, goodB (yOf 22).cls (iniOf 22) (byOf 22) q.1 q.2 = true := gk_Op_lead
theorem gm_Op_giveKick : ∀ q ∈ cdOf 23, goodB (yOf 23).cls (iniOf 23) (byOf 23) q.1 q.2 = true := gk_Op_giveKick
theorem gm_Op_beginTable : ∀ q ∈ cdOf 24, goodB (yOf 24).cls (iniOf 24) (byOf 24) q.1 q.2 = true := gk_Op_beginTable
theorem gm_Op_reckonTable : ∀ q ∈ cdOf 25, goodB (yOf 25).cls (iniOf 25) (byOf 25) q.1 q.2 = true := gk_Op_reckonTable
theorem gm_Op_stability : ∀ q ∈ cdOf 26, goodB (yOf 26).cls (iniOf 26) (byOf 26) q.1 q.2 = true := gk_Op_stability
theorem gm_Op_roundsUntilBack : ∀ q ∈ cdOf 27, goodB (yOf 27).cls (iniOf 27) (byOf 27) q.1 q.2 = true := gk_Op_roundsUntilBack
theorem gm_Op_reckonMiddleWidth : ∀ q ∈ cdOf 28, goodB (yOf 28).cls (iniOf 28) (byOf 28) q.1 q.2 = true := gk_Op_reckonMiddleWidth
theorem gm_Op_closeWay : ∀ q ∈ cdOf 29, goodB (yOf 29).cls (iniOf 29) (byOf 29) q.1 q.2 = true := gk_Op_closeWay
theorem gm_Op_solveClosed : ∀ q ∈ cdOf 30, goodB (yOf 30).cls (iniOf 30) (byOf 30) q.1 q.2 = true := gk_Op_solveClosed
theorem gm_Op_closeBump : ∀ q ∈ cdOf 31, goodB (yOf 31).cls (iniOf 31) (byOf 31) q.1 q.2 = true := gk_Op_closeBump
theorem gm_Op_hasTold : ∀ q ∈ cdOf 32, goodB (yOf 32).cls (iniOf 32) (byOf 32) q.1 q.2 = true := gk_Op_hasTold
theorem gm_Op_tell : ∀ q ∈ cdOf 33, goodB (yOf 33).cls (iniOf 33) (byOf 33) q.1 q.2 = true := gk_Op_tell
theorem gm_Op_tellTable : ∀ q ∈ cdOf 34, goodB (yOf 34).cls (iniOf 34) (byOf 34) q.1 q.2 = true := gk_Op_tellTable
theorem gm_Op_tellWidths : ∀ q ∈ cdOf 35, goodB (yOf 35).cls (iniOf 35) (byOf 35) q.1 q.2 = true := gk_Op_tellWidths
theorem gm_Op_tellWay : ∀ q ∈ cdOf 36, goodB (yOf 36).cls (iniOf 36) (byOf 36) q.1 q.2 = true := gk_Op_tellWay
theorem gm_Op_tellWayX : ∀ q ∈ cdOf 37, goodB (yOf 37).cls (iniOf 37) (byOf 37) q.1 q.2 = true := gk_Op_tellWayX
theorem gm_Op_tellBump : ∀ q ∈ cdOf 38, goodB (yOf 38).cls (iniOf 38) (byOf 38) q.1 q.2 = true := gk_Op_tellBump
theorem gm_Pa_init : ∀ q ∈ cdOf 39, goodB (yOf 39).cls (iniOf 39) (byOf 39) q.1 q.2 = true := gk_Pa_init
theorem gm_Re_init : ∀ q ∈ cdOf 40, goodB (yOf 40).cls (iniOf 40) (byOf 40) q.1 q.2 = true := gk_Re_init
theorem gm_Re_findFault : ∀ q ∈ cdOf 41, goodB (yOf 41).cls (iniOf 41) (byOf 41) q.1 q.2 = true := gk_Re_findFault
theorem gm_Re_faultPlace : ∀ q ∈ cdOf 42, goodB (yOf 42).cls (iniOf 42) (byOf 42) q.1 q.2 = true := gk_Re_faultPlace
theorem gm_Re_lastLine : ∀ q ∈ cdOf 43, goodB (yOf 43).cls (iniOf 43) (byOf 43) q.1 q.2 = true := gk_Re_lastLine
theorem gm_Re_take : ∀ q ∈ cdOf 44, goodB (yOf 44).cls (iniOf 44) (byOf 44) q.1 q.2 = true := gk_Re_take
theorem gm_Re_takeAlone : ∀ q ∈ cdOf 45, goodB (yOf 45).cls (iniOf 45) (byOf 45) q.1 q.2 = true := gk_Re_takeAlone
theorem gm_Re_takeLineName : ∀ q ∈ cdOf 46, goodB (yOf 46).cls (iniOf 46) (byOf 46) q.1 q.2 = true := gk_Re_takeLineName
theorem gm_Re_lineOf : ∀ q ∈ cdOf 47, goodB (yOf 47).cls (iniOf 47) (byOf 47) q.1 q.2 = true := gk_Re_lineOf
theorem gm_Re_takeItem : ∀ q ∈ cdOf 48, goodB (yOf 48).cls (iniOf 48) (byOf 48) q.1 q.2 = true := gk_Re_takeItem
theorem gm_Re_takeTimes : ∀ q ∈ cdOf 49, goodB (yOf 49).cls (iniOf 49) (byOf 49) q.1 q.2 = true := gk_Re_takeTimes
theorem gm_Re_takeToldName : ∀ q ∈ cdOf 50, goodB (yOf 50).cls (iniOf 50) (byOf 50) q.1 q.2 = true := gk_Re_takeToldName
theorem gm_Re_beginPart : ∀ q ∈ cdOf 51, goodB (yOf 51).cls (iniOf 51) (byOf 51) q.1 q.2 = true := gk_Re_beginPart
theorem gm_Re_endPart : ∀ q ∈ cdOf 52, goodB (yOf 52).cls (iniOf 52) (byOf 52) q.1 q.2 = true := gk_Re_endPart
theorem gm_Re_takeMinusOrNumber : ∀ q ∈ cdOf 53, goodB (yOf 53).cls (iniOf 53) (byOf 53) q.1 q.2 = true := gk_Re_takeMinusOrNumber
theorem gm_Re_takeAbove : ∀ q ∈ cdOf 54, goodB (yOf 54).cls (iniOf 54) (byOf 54) q.1 q.2 = true := gk_Re_takeAbove
theorem gm_Re_takeBelow : ∀ q ∈ cdOf 55, goodB (yOf 55).cls (iniOf 55) (byOf 55) q.1 q.2 = true := gk_Re_takeBelow
theorem gm_Re_takeOpen : ∀ q ∈ cdOf 56, goodB (yOf 56).cls (iniOf 56) (byOf 56) q.1 q.2 = true := gk_Re_takeOpen
theorem gm_Re_closes : ∀ q ∈ cdOf 57, goodB (yOf 57).cls (iniOf 57) (byOf 57) q.1 q.2 = true := gk_Re_closes
theorem gm_Re_takeClose : ∀ q ∈ cdOf 58, goodB (yOf 58).cls (iniOf 58) (byOf 58) q.1 q.2 = true := gk_Re_takeClose
theorem gm_Rk_init : ∀ q ∈ cdOf 59, goodB (yOf 59).cls (iniOf 59) (byOf 59) q.1 q.2 = true := gk_Rk_init
theorem gm_Rk_begin : ∀ q ∈ cdOf 60, goodB (yOf 60).cls (iniOf 60) (byOf 60) q.1 q.2 = true := gk_Rk_begin
theorem gm_Rk_plus : ∀ q ∈ cdOf 61, goodB (yOf 61).cls (iniOf 61) (byOf 61) q.1 q.2 = true := gk_Rk_plus
theorem gm_Rk_minus : ∀ q ∈ cdOf 62, goodB (yOf 62).cls (iniOf 62) (byOf 62) q.1 q.2 = true := gk_Rk_minus
theorem gm_Rk_times : ∀ q ∈ cdOf 63, goodB (yOf 63).cls (iniOf 63) (byOf 63) q.1 q.2 = true := gk_Rk_times
theorem gm_Rk_over : ∀ q ∈ cdOf 64, goodB (yOf 64).cls (iniOf 64) (byOf 64) q.1 q.2 = true := gk_Rk_over
theorem gm_Rk_plusProduct : ∀ q ∈ cdOf 65, goodB (yOf 65).cls (iniOf 65) (byOf 65) q.1 q.2 = true := gk_Rk_plusProduct
theorem gm_Rk_minusProduct : ∀ q ∈ cdOf 66, goodB (yOf 66).cls (iniOf 66) (byOf 66) q.1 q.2 = true := gk_Rk_minusProduct
theorem gm_Rk_settle : ∀ q ∈ cdOf 67, goodB (yOf 67).cls (iniOf 67) (byOf 67) q.1 q.2 = true := gk_Rk_settle
theorem gm_Ri_init : ∀ q ∈ cdOf 68, goodB (yOf 68).cls (iniOf 68) (byOf 68) q.1 q.2 = true := gk_Ri_init
theorem gm_Ri_hasPart : ∀ q ∈ cdOf 69, goodB (yOf 69).cls (iniOf 69) (byOf 69) q.1 q.2 = true := gk_Ri_hasPart
theorem gm_Ri_hasKick : ∀ q ∈ cdOf 70, goodB (yOf 70).cls (iniOf 70) (byOf 70) q.1 q.2 = true := gk_Ri_hasKick
theorem gm_Ri_hasLook : ∀ q ∈ cdOf 71, goodB (yOf 71).cls (iniOf 71) (byOf 71) q.1 q.2 = true := gk_Ri_hasLook
theorem gm_Ri_strengthAt : ∀ q ∈ cdOf 72, goodB (yOf 72).cls (iniOf 72) (byOf 72) q.1 q.2 = true := gk_Ri_strengthAt
theorem gm_Ri_become : ∀ q ∈ cdOf 73, goodB (yOf 73).cls (iniOf 73) (byOf 73) q.1 q.2 = true := gk_Ri_become
theorem gm_Ro_init : ∀ q ∈ cdOf 74, goodB (yOf 74).cls (iniOf 74) (byOf 74) q.1 q.2 = true := gk_Ro_init
theorem gm_Ro_clear : ∀ q ∈ cdOf 75, goodB (yOf 75).cls (iniOf 75) (byOf 75) q.1 q.2 = true := gk_Ro_clear
theorem gm_Ro_add : ∀ q ∈ cdOf 76, goodB (yOf 76).cls (iniOf 76) (byOf 76) q.1 q.2 = true := gk_Ro_add
theorem gm_Ro_addLine : ∀ q ∈ cdOf 77, goodB (yOf 77).cls (iniOf 77) (byOf 77) q.1 q.2 = true := gk_Ro_addLine
theorem gm_Ro_repeat : ∀ q ∈ cdOf 78, goodB (yOf 78).cls (iniOf 78) (byOf 78) q.1 q.2 = true := gk_Ro_repeat
theorem gm_Te_init : ∀ q ∈ cdOf 79, goodB (yOf 79).cls (iniOf 79) (byOf 79) q.1 q.2 = true := gk_Te_init
theorem gm_Te_append : ∀ q ∈ cdOf 80, goodB (yOf 80).cls (iniOf 80) (byOf 80) q.1 q.2 = true := gk_Te_append
theorem gm_Te_empty : ∀ q ∈ cdOf 81, goodB (yOf 81).cls (iniOf 81) (byOf 81) q.1 q.2 = true := gk_Te_empty
theorem gm_Te_rewind : ∀ q ∈ cdOf 82, goodB (yOf 82).cls (iniOf 82) (byOf 82) q.1 q.2 = true := gk_Te_rewind
theorem gm_Te_advance : ∀ q ∈ cdOf 83, goodB (yOf 83).cls (iniOf 83) (byOf 83) q.1 q.2 = true := gk_Te_advance
theorem gm_Te_signAt : ∀ q ∈ cdOf 84, goodB (yOf 84).cls (iniOf 84) (byOf 84) q.1 q.2 = true := gk_Te_signAt
theorem gm_Te_skipBlanks : ∀ q ∈ cdOf 85, goodB (yOf 85).cls (iniOf 85) (byOf 85) q.1 q.2 = true := gk_Te_skipBlanks
theorem gm_Te_takeName : ∀ q ∈ cdOf 86, goodB (yOf 86).cls (iniOf 86) (byOf 86) q.1 q.2 = true := gk_Te_takeName
theorem gm_Te_takeNumber : ∀ q ∈ cdOf 87, goodB (yOf 87).cls (iniOf 87) (byOf 87) q.1 q.2 = true := gk_Te_takeNumber
theorem gm_Te_isName : ∀ q ∈ cdOf 88, goodB (yOf 88).cls (iniOf 88) (byOf 88) q.1 q.2 = true := gk_Te_isName
theorem gm_Te_isKindLetter : ∀ q ∈ cdOf 89, goodB (yOf 89).cls (iniOf 89) (byOf 89) q.1 q.2 = true := gk_Te_isKindLetter
theorem gm_Te_letterWorth : ∀ q ∈ cdOf 90, goodB (yOf 90).cls (iniOf 90) (byOf 90) q.1 q.2 = true := gk_Te_letterWorth
theorem gm_Te_isBlank : ∀ q ∈ cdOf 91, goodB (yOf 91).cls (iniOf 91) (byOf 91) q.1 q.2 = true := gk_Te_isBlank
theorem gm_Te_isLetter : ∀ q ∈ cdOf 92, goodB (yOf 92).cls (iniOf 92) (byOf 92) q.1 q.2 = true := gk_Te_isLetter
theorem gm_Te_isFigure : ∀ q ∈ cdOf 93, goodB (yOf 93).cls (iniOf 93) (byOf 93) q.1 q.2 = true := gk_Te_isFigure
theorem gm_Te_standsAlone : ∀ q ∈ cdOf 94, goodB (yOf 94).cls (iniOf 94) (byOf 94) q.1 q.2 = true := gk_Te_standsAlone
theorem gm_C_init : ∀ q ∈ cdOf 95, goodB (yOf 95).cls (iniOf 95) (byOf 95) q.1 q.2 = true := gk_C_init
theorem gm_C_feed : ∀ q ∈ cdOf 96, goodB (yOf 96).cls (iniOf 96) (byOf 96) q.1 q.2 = true := gk_C_feed
theorem gm_C_read : ∀ q ∈ cdOf 97, goodB (yOf 97).cls (iniOf 97) (byOf 97) q.1 q.2 = true := gk_C_read
theorem gm_C_place : ∀ q ∈ cdOf 98, goodB (yOf 98).cls (iniOf 98) (byOf 98) q.1 q.2 = true := gk_C_place
theorem gm_C_part : ∀ q ∈ cdOf 99, goodB (yOf 99).cls (iniOf 99) (byOf 99) q.1 q.2 = true := gk_C_part
theorem gm_C_kick : ∀ q ∈ cdOf 100, goodB (yOf 100).cls (iniOf 100) (byOf 100) q.1 q.2 = true := gk_C_kick
theorem gm_C_table : ∀ q ∈ cdOf 101, goodB (yOf 101).cls (iniOf 101) (byOf 101) q.1 q.2 = true := gk_C_table
theorem gm_C_round : ∀ q ∈ cdOf 102, goodB (yOf 102).cls (iniOf 102) (byOf 102) q.1 q.2 = true := gk_C_round
theorem gm_C_widths : ∀ q ∈ cdOf 103, goodB (yOf 103).cls (iniOf 103) (byOf 103) q.1 q.2 = true := gk_C_widths
theorem gm_C_turns : ∀ q ∈ cdOf 104, goodB (yOf 104).cls (iniOf 104) (byOf 104) q.1 q.2 = true := gk_C_turns
theorem gm_C_way : ∀ q ∈ cdOf 105, goodB (yOf 105).cls (iniOf 105) (byOf 105) q.1 q.2 = true := gk_C_way
theorem gm_C_answer : ∀ q ∈ cdOf 106, goodB (yOf 106).cls (iniOf 106) (byOf 106) q.1 q.2 = true := gk_C_answer
theorem gm_C_bump : ∀ q ∈ cdOf 107, goodB (yOf 107).cls (iniOf 107) (byOf 107) q.1 q.2 = true := gk_C_bump
theorem gm_C_number : ∀ q ∈ cdOf 108, goodB (yOf 108).cls (iniOf 108) (byOf 108) q.1 q.2 = true := gk_C_number
theorem gm_C_grid : ∀ q ∈ cdOf 109, goodB (yOf 109).cls (iniOf 109) (byOf 109) q.1 q.2 = true := gk_C_grid
theorem gm_C_rows : ∀ q ∈ cdOf 110, goodB (yOf 110).cls (iniOf 110) (byOf 110) q.1 q.2 = true := gk_C_rows
theorem gm_C_after : ∀ q ∈ cdOf 111, goodB (yOf 111).cls (iniOf 111) (byOf 111) q.1 q.2 = true := gk_C_after
theorem gm_C_count : ∀ q ∈ cdOf 112, goodB (yOf 112).cls (iniOf 112) (byOf 112) q.1 q.2 = true := gk_C_count
theorem gm_C_isPrime : ∀ q ∈ cdOf 113, goodB (yOf 113).cls (iniOf 113) (byOf 113) q.1 q.2 = true := gk_C_isPrime
theorem gm_C_commonDivisor : ∀ q ∈ cdOf 114, goodB (yOf 114).cls (iniOf 114) (byOf 114) q.1 q.2 = true := gk_C_commonDivisor
theorem gm_R_init : ∀ q ∈ cdOf 115, goodB (yOf 115).cls (iniOf 115) (byOf 115) q.1 q.2 = true := gk_R_init
theorem gm_R_in : ∀ q ∈ cdOf 116, goodB (yOf 116).cls (iniOf 116) (byOf 116) q.1 q.2 = true := gk_R_in
theorem gm_R_feed : ∀ q ∈ cdOf 117, goodB (yOf 117).cls (iniOf 117) (byOf 117) q.1 q.2 = true := gk_R_feed
theorem gm_R_isLetter : ∀ q ∈ cdOf 118, goodB (yOf 118).cls (iniOf 118) (byOf 118) q.1 q.2 = true := gk_R_isLetter
theorem gm_R_isFigure : ∀ q ∈ cdOf 119, goodB (yOf 119).cls (iniOf 119) (byOf 119) q.1 q.2 = true := gk_R_isFigure
theorem gm_R_next : ∀ q ∈ cdOf 120, goodB (yOf 120).cls (iniOf 120) (byOf 120) q.1 q.2 = true := gk_R_next
theorem gm_R_isSign : ∀ q ∈ cdOf 121, goodB (yOf 121).cls (iniOf 121) (byOf 121) q.1 q.2 = true := gk_R_isSign
theorem gm_R_fails : ∀ q ∈ cdOf 122, goodB (yOf 122).cls (iniOf 122) (byOf 122) q.1 q.2 = true := gk_R_fails
theorem gm_R_adds : ∀ q ∈ cdOf 123, goodB (yOf 123).cls (iniOf 123) (byOf 123) q.1 q.2 = true := gk_R_adds
theorem gm_R_named : ∀ q ∈ cdOf 124, goodB (yOf 124).cls (iniOf 124) (byOf 124) q.1 q.2 = true := gk_R_named
theorem gm_R_isOwn : ∀ q ∈ cdOf 125, goodB (yOf 125).cls (iniOf 125) (byOf 125) q.1 q.2 = true := gk_R_isOwn
theorem gm_R_figure : ∀ q ∈ cdOf 126, goodB (yOf 126).cls (iniOf 126) (byOf 126) q.1 q.2 = true := gk_R_figure
theorem gm_R_item : ∀ q ∈ cdOf 127, goodB (yOf 127).cls (iniOf 127) (byOf 127) q.1 q.2 = true := gk_R_item
theorem gm_R_closes : ∀ q ∈ cdOf 128, goodB (yOf 128).cls (iniOf 128) (byOf 128) q.1 q.2 = true := gk_R_closes
theorem gm_R_line : ∀ q ∈ cdOf 129, goodB (yOf 129).cls (iniOf 129) (byOf 129) q.1 q.2 = true := gk_R_line
theorem gm_R_read : ∀ q ∈ cdOf 130, goodB (yOf 130).cls (iniOf 130) (byOf 130) q.1 q.2 = true := gk_R_read
theorem gm_R_place : ∀ q ∈ cdOf 131, goodB (yOf 131).cls (iniOf 131) (byOf 131) q.1 q.2 = true := gk_R_place
theorem gm_R_isPart : ∀ q ∈ cdOf 132, goodB (yOf 132).cls (iniOf 132) (byOf 132) q.1 q.2 = true := gk_R_isPart
theorem gm_R_ahead : ∀ q ∈ cdOf 133, goodB (yOf 133).cls (iniOf 133) (byOf 133) q.1 q.2 = true := gk_R_ahead
theorem gm_R_partOf : ∀ q ∈ cdOf 134, goodB (yOf 134).cls (iniOf 134) (byOf 134) q.1 q.2 = true := gk_R_partOf
theorem gm_R_part : ∀ q ∈ cdOf 135, goodB (yOf 135).cls (iniOf 135) (byOf 135) q.1 q.2 = true := gk_R_part
theorem gm_R_kick : ∀ q ∈ cdOf 136, goodB (yOf 136).cls (iniOf 136) (byOf 136) q.1 q.2 = true := gk_R_kick
theorem gm_R_common : ∀ q ∈ cdOf 137, goodB (yOf 137).cls (iniOf 137) (byOf 137) q.1 q.2 = true := gk_R_common
theorem gm_R_holds : ∀ q ∈ cdOf 138, goodB (yOf 138).cls (iniOf 138) (byOf 138) q.1 q.2 = true := gk_R_holds
theorem gm_R_product : ∀ q ∈ cdOf 139, goodB (yOf 139).cls (iniOf 139) (byOf 139) q.1 q.2 = true := gk_R_product
theorem gm_R_sum : ∀ q ∈ cdOf 140, goodB (yOf 140).cls (iniOf 140) (byOf 140) q.1 q.2 = true := gk_R_sum
theorem gm_R_divided : ∀ q ∈ cdOf 141, goodB (yOf 141).cls (iniOf 141) (byOf 141) q.1 q.2 = true := gk_R_divided
theorem gm_R_lays : ∀ q ∈ cdOf 142, goodB (yOf 142).cls (iniOf 142) (byOf 142) q.1 q.2 = true := gk_R_lays
theorem gm_R_leads : ∀ q ∈ cdOf 143, goodB (yOf 143).cls (iniOf 143) (byOf 143) q.1 q.2 = true := gk_R_leads
theorem gm_R_leadsTable : ∀ q ∈ cdOf 144, goodB (yOf 144).cls (iniOf 144) (byOf 144) q.1 q.2 = true := gk_R_leadsTable
theorem gm_R_leadsMote : ∀ q ∈ cdOf 145, goodB (yOf 145).cls (iniOf 145) (byOf 145) q.1 q.2 = true := gk_R_leadsMote
theorem gm_R_starts : ∀ q ∈ cdOf 146, goodB (yOf 146).cls (iniOf 146) (byOf 146) q.1 q.2 = true := gk_R_starts
theorem gm_R_goes : ∀ q ∈ cdOf 147, goodB (yOf 147).cls (iniOf 147) (byOf 147) q.1 q.2 = true := gk_R_goes
theorem gm_R_tells : ∀ q ∈ cdOf 148, goodB (yOf 148).cls (iniOf 148) (byOf 148) q.1 q.2 = true := gk_R_tells
theorem gm_R_table : ∀ q ∈ cdOf 149, goodB (yOf 149).cls (iniOf 149) (byOf 149) q.1 q.2 = true := gk_R_table
theorem gm_R_tables : ∀ q ∈ cdOf 150, goodB (yOf 150).cls (iniOf 150) (byOf 150) q.1 q.2 = true := gk_R_tables
theorem gm_R_kept : ∀ q ∈ cdOf 151, goodB (yOf 151).cls (iniOf 151) (byOf 151) q.1 q.2 = true := gk_R_kept
theorem gm_R_round : ∀ q ∈ cdOf 152, goodB (yOf 152).cls (iniOf 152) (byOf 152) q.1 q.2 = true := gk_R_round
theorem gm_R_widths : ∀ q ∈ cdOf 153, goodB (yOf 153).cls (iniOf 153) (byOf 153) q.1 q.2 = true := gk_R_widths
theorem gm_R_turns : ∀ q ∈ cdOf 154, goodB (yOf 154).cls (iniOf 154) (byOf 154) q.1 q.2 = true := gk_R_turns
theorem gm_R_closed : ∀ q ∈ cdOf 155, goodB (yOf 155).cls (iniOf 155) (byOf 155) q.1 q.2 = true := gk_R_closed
theorem gm_R_way : ∀ q ∈ cdOf 156, goodB (yOf 156).cls (iniOf 156) (byOf 156) q.1 q.2 = true := gk_R_way
theorem gm_R_answer : ∀ q ∈ cdOf 157, goodB (yOf 157).cls (iniOf 157) (byOf 157) q.1 q.2 = true := gk_R_answer
theorem gm_R_bump : ∀ q ∈ cdOf 158, goodB (yOf 158).cls (iniOf 158) (byOf 158) q.1 q.2 = true := gk_R_bump
theorem gm_R_number : ∀ q ∈ cdOf 159, goodB (yOf 159).cls (iniOf 159) (byOf 159) q.1 q.2 = true := gk_R_number
theorem gm_R_isPrime : ∀ q ∈ cdOf 160, goodB (yOf 160).cls (iniOf 160) (byOf 160) q.1 q.2 = true := gk_R_isPrime
theorem gm_R_by : ∀ q ∈ cdOf 161, goodB (yOf 161).cls (iniOf 161) (byOf 161) q.1 q.2 = true := gk_R_by
theorem gm_R_weighs : ∀ q ∈ cdOf 162, goodB (yOf 162).cls (iniOf 162) (byOf 162) q.1 q.2 = true := gk_R_weighs
theorem gm_R_rounds : ∀ q ∈ cdOf 163, goodB (yOf 163).cls (iniOf 163) (byOf 163) q.1 q.2 = true := gk_R_rounds
theorem gm_R_grid : ∀ q ∈ cdOf 164, goodB (yOf 164).cls (iniOf 164) (byOf 164) q.1 q.2 = true := gk_R_grid
theorem gm_R_rows : ∀ q ∈ cdOf 165, goodB (yOf 165).cls (iniOf 165) (byOf 165) q.1 q.2 = true := gk_R_rows
theorem gm_R_after : ∀ q ∈ cdOf 166, goodB (yOf 166).cls (iniOf 166) (byOf 166) q.1 q.2 = true := gk_R_after
theorem gm_R_count : ∀ q ∈ cdOf 167, goodB (yOf 167).cls (iniOf 167) (byOf 167) q.1 q.2 = true := gk_R_count
theorem gm_Jl_compare : ∀ q ∈ cdOf 168, goodB (yOf 168).cls (iniOf 168) (byOf 168) q.1 q.2 = true := gk_Jl_compare
theorem gm_Jm_floorMod : ∀ q ∈ cdOf 169, goodB (yOf 169).cls (iniOf 169) (byOf 169) q.1 q.2 = true := gk_Jm_floorMod
theorem gm_Jm_abs : ∀ q ∈ cdOf 170, goodB (yOf 170).cls (iniOf 170) (byOf 170) q.1 q.2 = true := gk_Jm_abs
theorem gm_Jm_min : ∀ q ∈ cdOf 171, goodB (yOf 171).cls (iniOf 171) (byOf 171) q.1 q.2 = true := gk_Jm_min
theorem gm_Law_law : ∀ q ∈ cdOf 172, goodB (yOf 172).cls (iniOf 172) (byOf 172) q.1 q.2 = true := gk_Law_law
theorem gm_all : ∀ mid, mid < 173 → ∀ q ∈ cdOf mid, goodB (yOf mid).cls (iniOf mid) (byOf mid) q.1 q.2 = true := by
  intro mid h
  match mid, h with
  | 0, _ => exact gm_Fr_init
  | 1, _ => exact gm_Fr_put
  | 2, _ => exact gm_Fr_copy
  | 3, _ => exact gm_Fr_negate
  | 4, _ => exact gm_Fr_isZero
  | 5, _ => exact gm_Fr_compareToWhole
  | 6, _ => exact gm_Fr_side
  | 7, _ => exact gm_La_init
  | 8, _ => exact gm_La_forget
  | 9, _ => exact gm_La_prepare
  | 10, _ => exact gm_La_inverse
  | 11, _ => exact gm_La_next
  | 12, _ => exact gm_La_followAll
  | 13, _ => exact gm_La_follow
  | 14, _ => exact gm_La_noteCycle
  | 15, _ => exact gm_La_fact
  | 16, _ => exact gm_Li_init
  | 17, _ => exact gm_Mo_init
  | 18, _ => exact gm_Mo_put
  | 19, _ => exact gm_Op_init
  | 20, _ => exact gm_Op_isBig
  | 21, _ => exact gm_Op_onlyKick
  | 22, _ => exact gm_Op_lead
  | 23, _ => exact gm_Op_giveKick
  | 24, _ => exact gm_Op_beginTable
  | 25, _ => exact gm_Op_reckonTable
  | 26, _ => exact gm_Op_stability
  | 27, _ => exact gm_Op_roundsUntilBack
  | 28, _ => exact gm_Op_reckonMiddleWidth
  | 29, _ => exact gm_Op_closeWay
  | 30, _ => exact gm_Op_solveClosed
  | 31, _ => exact gm_Op_closeBump
  | 32, _ => exact gm_Op_hasTold
  | 33, _ => exact gm_Op_tell
  | 34, _ => exact gm_Op_tellTable
  | 35, _ => exact gm_Op_tellWidths
  | 36, _ => exact gm_Op_tellWay
  | 37, _ => exact gm_Op_tellWayX
  | 38, _ => exact gm_Op_tellBump
  | 39, _ => exact gm_Pa_init
  | 40, _ => exact gm_Re_init
  | 41, _ => exact gm_Re_findFault
  | 42, _ => exact gm_Re_faultPlace
  | 43, _ => exact gm_Re_lastLine
  | 44, _ => exact gm_Re_take
  | 45, _ => exact gm_Re_takeAlone
  | 46, _ => exact gm_Re_takeLineName
  | 47, _ => exact gm_Re_lineOf
  | 48, _ => exact gm_Re_takeItem
  | 49, _ => exact gm_Re_takeTimes
  | 50, _ => exact gm_Re_takeToldName
  | 51, _ => exact gm_Re_beginPart
  | 52, _ => exact gm_Re_endPart
  | 53, _ => exact gm_Re_takeMinusOrNumber
  | 54, _ => exact gm_Re_takeAbove
  | 55, _ => exact gm_Re_takeBelow
  | 56, _ => exact gm_Re_takeOpen
  | 57, _ => exact gm_Re_closes
  | 58, _ => exact gm_Re_takeClose
  | 59, _ => exact gm_Rk_init
  | 60, _ => exact gm_Rk_begin
  | 61, _ => exact gm_Rk_plus
  | 62, _ => exact gm_Rk_minus
  | 63, _ => exact gm_Rk_times
  | 64, _ => exact gm_Rk_over
  | 65, _ => exact gm_Rk_plusProduct
  | 66, _ => exact gm_Rk_minusProduct
  | 67, _ => exact gm_Rk_settle
  | 68, _ => exact gm_Ri_init
  | 69, _ => exact gm_Ri_hasPart
  | 70, _ => exact gm_Ri_hasKick
  | 71, _ => exact gm_Ri_hasLook
  | 72, _ => exact gm_Ri_strengthAt
  | 73, _ => exact gm_Ri_become
  | 74, _ => exact gm_Ro_init
  | 75, _ => exact gm_Ro_clear
  | 76, _ => exact gm_Ro_add
  | 77, _ => exact gm_Ro_addLine
  | 78, _ => exact gm_Ro_repeat
  | 79, _ => exact gm_Te_init
  | 80, _ => exact gm_Te_append
  | 81, _ => exact gm_Te_empty
  | 82, _ => exact gm_Te_rewind
  | 83, _ => exact gm_Te_advance
  | 84, _ => exact gm_Te_signAt
  | 85, _ => exact gm_Te_skipBlanks
  | 86, _ => exact gm_Te_takeName
  | 87, _ => exact gm_Te_takeNumber
  | 88, _ => exact gm_Te_isName
  | 89, _ => exact gm_Te_isKindLetter
  | 90, _ => exact gm_Te_letterWorth
  | 91, _ => exact gm_Te_isBlank
  | 92, _ => exact gm_Te_isLetter
  | 93, _ => exact gm_Te_isFigure
  | 94, _ => exact gm_Te_standsAlone
  | 95, _ => exact gm_C_init
  | 96, _ => exact gm_C_feed
  | 97, _ => exact gm_C_read
  | 98, _ => exact gm_C_place
  | 99, _ => exact gm_C_part
  | 100, _ => exact gm_C_kick
  | 101, _ => exact gm_C_table
  | 102, _ => exact gm_C_round
  | 103, _ => exact gm_C_widths
  | 104, _ => exact gm_C_turns
  | 105, _ => exact gm_C_way
  | 106, _ => exact gm_C_answer
  | 107, _ => exact gm_C_bump
  | 108, _ => exact gm_C_number
  | 109, _ => exact gm_C_grid
  | 110, _ => exact gm_C_rows
  | 111, _ => exact gm_C_after
  | 112, _ => exact gm_C_count
  | 113, _ => exact gm_C_isPrime
  | 114, _ => exact gm_C_commonDivisor
  | 115, _ => exact gm_R_init
  | 116, _ => exact gm_R_in
  | 117, _ => exact gm_R_feed
  | 118, _ => exact gm_R_isLetter
  | 119, _ => exact gm_R_isFigure
  | 120, _ => exact gm_R_next
  | 121, _ => exact gm_R_isSign
  | 122, _ => exact gm_R_fails
  | 123, _ => exact gm_R_adds
  | 124, _ => exact gm_R_named
  | 125, _ => exact gm_R_isOwn
  | 126, _ => exact gm_R_figure
  | 127, _ => exact gm_R_item
  | 128, _ => exact gm_R_closes
  | 129, _ => exact gm_R_line
  | 130, _ => exact gm_R_read
  | 131, _ => exact gm_R_place
  | 132, _ => exact gm_R_isPart
  | 133, _ => exact gm_R_ahead
  | 134, _ => exact gm_R_partOf
  | 135, _ => exact gm_R_part
  | 136, _ => exact gm_R_kick
  | 137, _ => exact gm_R_common
  | 138, _ => exact gm_R_holds
  | 139, _ => exact gm_R_product
  | 140, _ => exact gm_R_sum
  | 141, _ => exact gm_R_divided
  | 142, _ => exact gm_R_lays
  | 143, _ => exact gm_R_leads
  | 144, _ => exact gm_R_leadsTable
  | 145, _ => exact gm_R_leadsMote
  | 146, _ => exact gm_R_starts
  | 147, _ => exact gm_R_goes
  | 148, _ => exact gm_R_tells
  | 149, _ => exact gm_R_table
  | 150, _ => exact gm_R_tables
  | 151, _ => exact gm_R_kept
  | 152, _ => exact gm_R_round
  | 153, _ => exact gm_R_widths
  | 154, _ => exact gm_R_turns
  | 155, _ => exact gm_R_closed
  | 156, _ => exact gm_R_way
  | 157, _ => exact gm_R_answer
  | 158, _ => exact gm_R_bump
  | 159, _ => exact gm_R_number
  | 160, _ => exact gm_R_isPrime
  | 161, _ => exact gm_R_by
  | 162, _ => exact gm_R_weighs
  | 163, _ => exact gm_R_rounds
  | 164, _ => exact gm_R_grid
  | 165, _ => exact gm_R_rows
  | 166, _ => exact gm_R_after
  | 167, _ => exact gm_R_count
  | 168, _ => exact gm_Jl_compare
  | 169, _ => exact gm_Jm_floorMod
  | 170, _ => exact gm_Jm_abs
  | 171, _ => exact gm_Jm_min
  | 172, _ => exact gm_Law_law
  | n + 173, h => exact absurd h (by omega)
set_option maxRecDepth 20000 in
theorem mc_Fr_init : lw_tbl[194]? = some (.code yX0_init cX0_init 1 none) := by rfl
set_option maxRecDepth 20000 in
theorem mc_Fr_put : lw_tbl[451]? = some (.code yX0_put cX0_put 7 none) := by rfl
set_option maxRecDepth 20000 in
theorem mc_Fr_copy : lw_tbl[661]? = some (.code yX0_copy cX0_copy 2 none) := by rfl
set_option maxRecDepth 20000 in
theorem mc_Fr_negate : lw_tbl[734]? = some (.code yX0_negate cX0_negate 1 none) := by rfl
set_option maxRecDepth 20000 in
theorem mc_Fr_isZero : lw_tbl[759]? = some (.code yX0_isZero cX0_isZero 1 (some .boolean)) := by rfl
set_option maxRecDepth 20000 in
theorem mc_Fr_compareToWhole : lw_tbl[711]? = some (.code yX0_compareToWhole cX0_compareToWhole 3 (some .int)) := by rfl
set_option maxRecDepth 20000 in
theorem mc_Fr_side : lw_tbl[619]? = some (.code yX0_side cX0_side 2 (some .int)) := by rfl
set_option maxRecDepth 20000 in
theorem mc_La_init : lw_tbl[332]? = some (.code yX1_init cX1_init 1 none) := by rfl
set_option maxRecDepth 20000 in
theorem mc_La_forget : lw_tbl[599]? = some (.code yX1_forget cX1_forget 1 none) := by rfl
set_option maxRecDepth 20000 in
theorem mc_La_prepare : lw_tbl[821]? = some (.code yX1_prepare cX1_prepare 6 (some .boolean)) := by rfl
set_option maxRecDepth 20000 in
theorem mc_La_inverse : lw_tbl[825]? = some (.code yX1_inverse cX1_inverse 3 (some .int)) := by rfl
set_option maxRecDepth 20000 in
theorem mc_La_next : lw_tbl[843]? = some (.code yX1_next cX1_next 6 (some .int)) := by rfl
set_option maxRecDepth 20000 in
theorem mc_La_followAll : lw_tbl[832]? = some (.code yX1_followAll cX1_followAll 4 none) := by rfl
set_option maxRecDepth 20000 in
theorem mc_La_follow : lw_tbl[839]? = some (.code yX1_follow cX1_follow 6 (some .int)) := by rfl
set_option maxRecDepth 20000 in
theorem mc_La_noteCycle : lw_tbl[847]? = some (.code yX1_noteCycle cX1_noteCycle 3 none) := by rfl
set_option maxRecDepth 20000 in
theorem mc_La_fact : lw_tbl[855]? = some (.code yX1_fact cX1_fact 2 (some .int)) := by rfl
set_option maxRecDepth 20000 in
theorem mc_Li_init : lw_tbl[546]? = some (.code yX2_init cX2_init 6 none) := by rfl
set_option maxRecDepth 20000 in
theorem mc_Mo_init : lw_tbl[268]? = some (.code yX3_init cX3_init 1 none) := by rfl
set_option maxRecDepth 20000 in
theorem mc_Mo_put : lw_tbl[648]? = some (.code yX3_put cX3_put 5 none) := by rfl
set_option maxRecDepth 20000 in
theorem mc_Op_init : lw_tbl[246]? = some (.code yX4_init cX4_init 2 none) := by rfl
set_option maxRecDepth 20000 in
theorem mc_Op_isBig : lw_tbl[688]? = some (.code yX4_isBig cX4_isBig 1 (some .boolean)) := by rfl
set_option maxRecDepth 20000 in
theorem mc_Op_onlyKick : lw_tbl[783]? = some (.code yX4_onlyKick cX4_onlyKick 3 (some (.array (.object "MagnetRing$Fraction")))) := by rfl
set_option maxRecDepth 20000 in
theorem mc_Op_lead : lw_tbl[653]? = some (.code yX4_lead cX4_lead 3 none) := by rfl
set_option maxRecDepth 20000 in
theorem mc_Op_giveKick : lw_tbl[755]? = some (.code yX4_giveKick cX4_giveKick 5 none) := by rfl
set_option maxRecDepth 20000 in
theorem mc_Op_beginTable : lw_tbl[640]? = some (.code yX4_beginTable cX4_beginTable 1 none) := by rfl
set_option maxRecDepth 20000 in
theorem mc_Op_reckonTable : lw_tbl[636]? = some (.code yX4_reckonTable cX4_reckonTable 6 none) := by rfl
set_option maxRecDepth 20000 in
theorem mc_Op_stability : lw_tbl[705]? = some (.code yX4_stability cX4_stability 3 (some .int)) := by rfl
set_option maxRecDepth 20000 in
theorem mc_Op_roundsUntilBack : lw_tbl[742]? = some (.code yX4_roundsUntilBack cX4_roundsUntilBack 1 (some .int)) := by rfl
set_option maxRecDepth 20000 in
theorem mc_Op_reckonMiddleWidth : lw_tbl[723]? = some (.code yX4_reckonMiddleWidth cX4_reckonMiddleWidth 1 none) := by rfl
set_option maxRecDepth 20000 in
theorem mc_Op_closeWay : lw_tbl[751]? = some (.code yX4_closeWay cX4_closeWay 5 (some .int)) := by rfl
set_option maxRecDepth 20000 in
theorem mc_Op_solveClosed : lw_tbl[763]? = some (.code yX4_solveClosed cX4_solveClosed 1 none) := by rfl
set_option maxRecDepth 20000 in
theorem mc_Op_closeBump : lw_tbl[795]? = some (.code yX4_closeBump cX4_closeBump 5 (some .int)) := by rfl
set_option maxRecDepth 20000 in
theorem mc_Op_hasTold : lw_tbl[808]? = some (.code yX4_hasTold cX4_hasTold 2 (some .boolean)) := by rfl
set_option maxRecDepth 20000 in
theorem mc_Op_tell : lw_tbl[696]? = some (.code yX4_tell cX4_tell 2 none) := by rfl
set_option maxRecDepth 20000 in
theorem mc_Op_tellTable : lw_tbl[692]? = some (.code yX4_tellTable cX4_tellTable 1 (some .int)) := by rfl
set_option maxRecDepth 20000 in
theorem mc_Op_tellWidths : lw_tbl[730]? = some (.code yX4_tellWidths cX4_tellWidths 1 (some .int)) := by rfl
set_option maxRecDepth 20000 in
theorem mc_Op_tellWay : lw_tbl[771]? = some (.code yX4_tellWay cX4_tellWay 1 (some .int)) := by rfl
set_option maxRecDepth 20000 in
theorem mc_Op_tellWayX : lw_tbl[787]? = some (.code yX4_tellWayX cX4_tellWayX 1 (some .int)) := by rfl
set_option maxRecDepth 20000 in
theorem mc_Op_tellBump : lw_tbl[800]? = some (.code yX4_tellBump cX4_tellBump 1 (some .int)) := by rfl
set_option maxRecDepth 20000 in
theorem mc_Pa_init : lw_tbl[462]? = some (.code yX5_init cX5_init 3 none) := by rfl
set_option maxRecDepth 20000 in
theorem mc_Re_init : lw_tbl[83]? = some (.code yX6_init cX6_init 1 none) := by rfl
set_option maxRecDepth 20000 in
theorem mc_Re_findFault : lw_tbl[396]? = some (.code yX6_findFault cX6_findFault 3 (some .int)) := by rfl
set_option maxRecDepth 20000 in
theorem mc_Re_faultPlace : lw_tbl[586]? = some (.code yX6_faultPlace cX6_faultPlace 1 (some .int)) := by rfl
set_option maxRecDepth 20000 in
theorem mc_Re_lastLine : lw_tbl[590]? = some (.code yX6_lastLine cX6_lastLine 1 (some (.object "MagnetRing$Line"))) := by rfl
set_option maxRecDepth 20000 in
theorem mc_Re_take : lw_tbl[441]? = some (.code yX6_take cX6_take 1 (some .int)) := by rfl
set_option maxRecDepth 20000 in
theorem mc_Re_takeAlone : lw_tbl[506]? = some (.code yX6_takeAlone cX6_takeAlone 3 (some .int)) := by rfl
set_option maxRecDepth 20000 in
theorem mc_Re_takeLineName : lw_tbl[486]? = some (.code yX6_takeLineName cX6_takeLineName 1 (some .int)) := by rfl
set_option maxRecDepth 20000 in
theorem mc_Re_lineOf : lw_tbl[498]? = some (.code yX6_lineOf cX6_lineOf 4 (some (.object "MagnetRing$Line"))) := by rfl
set_option maxRecDepth 20000 in
theorem mc_Re_takeItem : lw_tbl[510]? = some (.code yX6_takeItem cX6_takeItem 1 (some .int)) := by rfl
set_option maxRecDepth 20000 in
theorem mc_Re_takeTimes : lw_tbl[514]? = some (.code yX6_takeTimes cX6_takeTimes 1 (some .int)) := by rfl
set_option maxRecDepth 20000 in
theorem mc_Re_takeToldName : lw_tbl[524]? = some (.code yX6_takeToldName cX6_takeToldName 2 (some .int)) := by rfl
set_option maxRecDepth 20000 in
theorem mc_Re_beginPart : lw_tbl[520]? = some (.code yX6_beginPart cX6_beginPart 2 (some .int)) := by rfl
set_option maxRecDepth 20000 in
theorem mc_Re_endPart : lw_tbl[445]? = some (.code yX6_endPart cX6_endPart 5 (some .int)) := by rfl
set_option maxRecDepth 20000 in
theorem mc_Re_takeMinusOrNumber : lw_tbl[566]? = some (.code yX6_takeMinusOrNumber cX6_takeMinusOrNumber 1 (some .int)) := by rfl
set_option maxRecDepth 20000 in
theorem mc_Re_takeAbove : lw_tbl[570]? = some (.code yX6_takeAbove cX6_takeAbove 1 (some .int)) := by rfl
set_option maxRecDepth 20000 in
theorem mc_Re_takeBelow : lw_tbl[574]? = some (.code yX6_takeBelow cX6_takeBelow 1 (some .int)) := by rfl
set_option maxRecDepth 20000 in
theorem mc_Re_takeOpen : lw_tbl[578]? = some (.code yX6_takeOpen cX6_takeOpen 1 (some .int)) := by rfl
set_option maxRecDepth 20000 in
theorem mc_Re_closes : lw_tbl[533]? = some (.code yX6_closes cX6_closes 1 (some .boolean)) := by rfl
set_option maxRecDepth 20000 in
theorem mc_Re_takeClose : lw_tbl[537]? = some (.code yX6_takeClose cX6_takeClose 1 (some .int)) := by rfl
set_option maxRecDepth 20000 in
theorem mc_Rk_init : lw_tbl[252]? = some (.code yX7_init cX7_init 1 none) := by rfl
set_option maxRecDepth 20000 in
theorem mc_Rk_begin : lw_tbl[644]? = some (.code yX7_begin cX7_begin 1 none) := by rfl
set_option maxRecDepth 20000 in
theorem mc_Rk_plus : lw_tbl[676]? = some (.code yX7_plus cX7_plus 3 none) := by rfl
set_option maxRecDepth 20000 in
theorem mc_Rk_minus : lw_tbl[684]? = some (.code yX7_minus cX7_minus 3 none) := by rfl
set_option maxRecDepth 20000 in
theorem mc_Rk_times : lw_tbl[665]? = some (.code yX7_times cX7_times 3 none) := by rfl
set_option maxRecDepth 20000 in
theorem mc_Rk_over : lw_tbl[767]? = some (.code yX7_over cX7_over 3 none) := by rfl
set_option maxRecDepth 20000 in
theorem mc_Rk_plusProduct : lw_tbl[657]? = some (.code yX7_plusProduct cX7_plusProduct 4 none) := by rfl
set_option maxRecDepth 20000 in
theorem mc_Rk_minusProduct : lw_tbl[680]? = some (.code yX7_minusProduct cX7_minusProduct 4 none) := by rfl
set_option maxRecDepth 20000 in
theorem mc_Rk_settle : lw_tbl[669]? = some (.code yX7_settle cX7_settle 8 none) := by rfl
set_option maxRecDepth 20000 in
theorem mc_Ri_init : lw_tbl[186]? = some (.code yX8_init cX8_init 2 none) := by rfl
set_option maxRecDepth 20000 in
theorem mc_Ri_hasPart : lw_tbl[611]? = some (.code yX8_hasPart cX8_hasPart 2 (some .boolean)) := by rfl
set_option maxRecDepth 20000 in
theorem mc_Ri_hasKick : lw_tbl[627]? = some (.code yX8_hasKick cX8_hasKick 2 (some .boolean)) := by rfl
set_option maxRecDepth 20000 in
theorem mc_Ri_hasLook : lw_tbl[779]? = some (.code yX8_hasLook cX8_hasLook 2 (some .boolean)) := by rfl
set_option maxRecDepth 20000 in
theorem mc_Ri_strengthAt : lw_tbl[615]? = some (.code yX8_strengthAt cX8_strengthAt 2 (some (.object "MagnetRing$Fraction"))) := by rfl
set_option maxRecDepth 20000 in
theorem mc_Ri_become : lw_tbl[594]? = some (.code yX8_become cX8_become 3 none) := by rfl
set_option maxRecDepth 20000 in
theorem mc_Ro_init : lw_tbl[119]? = some (.code yX9_init cX9_init 1 none) := by rfl
set_option maxRecDepth 20000 in
theorem mc_Ro_clear : lw_tbl[502]? = some (.code yX9_clear cX9_clear 1 none) := by rfl
set_option maxRecDepth 20000 in
theorem mc_Ro_add : lw_tbl[482]? = some (.code yX9_add cX9_add 2 none) := by rfl
set_option maxRecDepth 20000 in
theorem mc_Ro_addLine : lw_tbl[528]? = some (.code yX9_addLine cX9_addLine 3 none) := by rfl
set_option maxRecDepth 20000 in
theorem mc_Ro_repeat : lw_tbl[541]? = some (.code yX9_repeat cX9_repeat 6 none) := by rfl
set_option maxRecDepth 20000 in
theorem mc_Te_init : lw_tbl[89]? = some (.code yX10_init cX10_init 1 none) := by rfl
set_option maxRecDepth 20000 in
theorem mc_Te_append : lw_tbl[388]? = some (.code yX10_append cX10_append 2 none) := by rfl
set_option maxRecDepth 20000 in
theorem mc_Te_empty : lw_tbl[582]? = some (.code yX10_empty cX10_empty 1 none) := by rfl
set_option maxRecDepth 20000 in
theorem mc_Te_rewind : lw_tbl[400]? = some (.code yX10_rewind cX10_rewind 1 none) := by rfl
set_option maxRecDepth 20000 in
theorem mc_Te_advance : lw_tbl[404]? = some (.code yX10_advance cX10_advance 2 none) := by rfl
set_option maxRecDepth 20000 in
theorem mc_Te_signAt : lw_tbl[412]? = some (.code yX10_signAt cX10_signAt 2 (some .int)) := by rfl
set_option maxRecDepth 20000 in
theorem mc_Te_skipBlanks : lw_tbl[408]? = some (.code yX10_skipBlanks cX10_skipBlanks 1 none) := by rfl
set_option maxRecDepth 20000 in
theorem mc_Te_takeName : lw_tbl[422]? = some (.code yX10_takeName cX10_takeName 1 none) := by rfl
set_option maxRecDepth 20000 in
theorem mc_Te_takeNumber : lw_tbl[433]? = some (.code yX10_takeNumber cX10_takeNumber 1 none) := by rfl
set_option maxRecDepth 20000 in
theorem mc_Te_isName : lw_tbl[494]? = some (.code yX10_isName cX10_isName 2 (some .boolean)) := by rfl
set_option maxRecDepth 20000 in
theorem mc_Te_isKindLetter : lw_tbl[490]? = some (.code yX10_isKindLetter cX10_isKindLetter 1 (some .boolean)) := by rfl
set_option maxRecDepth 20000 in
theorem mc_Te_letterWorth : lw_tbl[426]? = some (.code yX10_letterWorth cX10_letterWorth 1 (some .int)) := by rfl
set_option maxRecDepth 20000 in
theorem mc_Te_isBlank : lw_tbl[415]? = some (.code yX10_isBlank cX10_isBlank 1 (some .boolean)) := by rfl
set_option maxRecDepth 20000 in
theorem mc_Te_isLetter : lw_tbl[418]? = some (.code yX10_isLetter cX10_isLetter 1 (some .boolean)) := by rfl
set_option maxRecDepth 20000 in
theorem mc_Te_isFigure : lw_tbl[429]? = some (.code yX10_isFigure cX10_isFigure 1 (some .boolean)) := by rfl
set_option maxRecDepth 20000 in
theorem mc_Te_standsAlone : lw_tbl[437]? = some (.code yX10_standsAlone cX10_standsAlone 1 (some .boolean)) := by rfl
set_option maxRecDepth 20000 in
theorem mc_C_init : lw_tbl[75]? = some (.code yX11_init cX11_init 1 none) := by rfl
set_option maxRecDepth 20000 in
theorem mc_C_feed : lw_tbl[384]? = some (.code yX11_feed cX11_feed 5 (some .int)) := by rfl
set_option maxRecDepth 20000 in
theorem mc_C_read : lw_tbl[392]? = some (.code yX11_read cX11_read 2 (some .int)) := by rfl
set_option maxRecDepth 20000 in
theorem mc_C_place : lw_tbl[603]? = some (.code yX11_place cX11_place 1 (some .int)) := by rfl
set_option maxRecDepth 20000 in
theorem mc_C_part : lw_tbl[607]? = some (.code yX11_part cX11_part 3 (some .int)) := by rfl
set_option maxRecDepth 20000 in
theorem mc_C_kick : lw_tbl[623]? = some (.code yX11_kick cX11_kick 4 (some .int)) := by rfl
set_option maxRecDepth 20000 in
theorem mc_C_table : lw_tbl[632]? = some (.code yX11_table cX11_table 3 (some .int)) := by rfl
set_option maxRecDepth 20000 in
theorem mc_C_round : lw_tbl[701]? = some (.code yX11_round cX11_round 3 (some .int)) := by rfl
set_option maxRecDepth 20000 in
theorem mc_C_widths : lw_tbl[719]? = some (.code yX11_widths cX11_widths 3 (some .int)) := by rfl
set_option maxRecDepth 20000 in
theorem mc_C_turns : lw_tbl[738]? = some (.code yX11_turns cX11_turns 2 (some .int)) := by rfl
set_option maxRecDepth 20000 in
theorem mc_C_way : lw_tbl[747]? = some (.code yX11_way cX11_way 3 (some .int)) := by rfl
set_option maxRecDepth 20000 in
theorem mc_C_answer : lw_tbl[775]? = some (.code yX11_answer cX11_answer 4 (some .int)) := by rfl
set_option maxRecDepth 20000 in
theorem mc_C_bump : lw_tbl[791]? = some (.code yX11_bump cX11_bump 5 (some .int)) := by rfl
set_option maxRecDepth 20000 in
theorem mc_C_number : lw_tbl[804]? = some (.code yX11_number cX11_number 3 (some .int)) := by rfl
set_option maxRecDepth 20000 in
theorem mc_C_grid : lw_tbl[812]? = some (.code yX11_grid cX11_grid 2 (some .int)) := by rfl
set_option maxRecDepth 20000 in
theorem mc_C_rows : lw_tbl[851]? = some (.code yX11_rows cX11_rows 2 (some .int)) := by rfl
set_option maxRecDepth 20000 in
theorem mc_C_after : lw_tbl[859]? = some (.code yX11_after cX11_after 7 (some .int)) := by rfl
set_option maxRecDepth 20000 in
theorem mc_C_count : lw_tbl[864]? = some (.code yX11_count cX11_count 2 (some .int)) := by rfl
set_option maxRecDepth 20000 in
theorem mc_C_isPrime : lw_tbl[815]? = some (.code yX11_isPrime cX11_isPrime 2 (some .boolean)) := by rfl
set_option maxRecDepth 20000 in
theorem mc_C_commonDivisor : lw_tbl[457]? = some (.code yX11_commonDivisor cX11_commonDivisor 11 (some .long)) := by rfl
set_option maxRecDepth 20000 in
theorem mc_R_init : lw_tbl[869]? = some (.code yX12_init cX12_init 1 none) := by rfl
set_option maxRecDepth 20000 in
theorem mc_R_in : lw_tbl[1030]? = some (.code yX12_in cX12_in 6 (some .boolean)) := by rfl
set_option maxRecDepth 20000 in
theorem mc_R_feed : lw_tbl[1026]? = some (.code yX12_feed cX12_feed 5 (some .int)) := by rfl
set_option maxRecDepth 20000 in
theorem mc_R_isLetter : lw_tbl[1042]? = some (.code yX12_isLetter cX12_isLetter 1 (some .boolean)) := by rfl
set_option maxRecDepth 20000 in
theorem mc_R_isFigure : lw_tbl[1047]? = some (.code yX12_isFigure cX12_isFigure 1 (some .boolean)) := by rfl
set_option maxRecDepth 20000 in
theorem mc_R_next : lw_tbl[1039]? = some (.code yX12_next cX12_next 3 none) := by rfl
set_option maxRecDepth 20000 in
theorem mc_R_isSign : lw_tbl[1073]? = some (.code yX12_isSign cX12_isSign 2 (some .boolean)) := by rfl
set_option maxRecDepth 20000 in
theorem mc_R_fails : lw_tbl[1053]? = some (.code yX12_fails cX12_fails 2 (some .boolean)) := by rfl
set_option maxRecDepth 20000 in
theorem mc_R_adds : lw_tbl[1081]? = some (.code yX12_adds cX12_adds 8 none) := by rfl
set_option maxRecDepth 20000 in
theorem mc_R_named : lw_tbl[1069]? = some (.code yX12_named cX12_named 4 (some .int)) := by rfl
set_option maxRecDepth 20000 in
theorem mc_R_isOwn : lw_tbl[1060]? = some (.code yX12_isOwn cX12_isOwn 2 (some .boolean)) := by rfl
set_option maxRecDepth 20000 in
theorem mc_R_figure : lw_tbl[1093]? = some (.code yX12_figure cX12_figure 4 (some .boolean)) := by rfl
set_option maxRecDepth 20000 in
theorem mc_R_item : lw_tbl[1088]? = some (.code yX12_item cX12_item 3 (some .boolean)) := by rfl
set_option maxRecDepth 20000 in
theorem mc_R_closes : lw_tbl[1077]? = some (.code yX12_closes cX12_closes 5 (some .boolean)) := by rfl
set_option maxRecDepth 20000 in
theorem mc_R_line : lw_tbl[1057]? = some (.code yX12_line cX12_line 5 (some .boolean)) := by rfl
set_option maxRecDepth 20000 in
theorem mc_R_read : lw_tbl[1035]? = some (.code yX12_read cX12_read 2 (some .int)) := by rfl
set_option maxRecDepth 20000 in
theorem mc_R_place : lw_tbl[1098]? = some (.code yX12_place cX12_place 1 (some .int)) := by rfl
set_option maxRecDepth 20000 in
theorem mc_R_isPart : lw_tbl[1106]? = some (.code yX12_isPart cX12_isPart 2 (some .boolean)) := by rfl
set_option maxRecDepth 20000 in
theorem mc_R_ahead : lw_tbl[1111]? = some (.code yX12_ahead cX12_ahead 5 (some .int)) := by rfl
set_option maxRecDepth 20000 in
theorem mc_R_partOf : lw_tbl[1204]? = some (.code yX12_partOf cX12_partOf 5 (some .int)) := by rfl
set_option maxRecDepth 20000 in
theorem mc_R_part : lw_tbl[1102]? = some (.code yX12_part cX12_part 3 (some .int)) := by rfl
set_option maxRecDepth 20000 in
theorem mc_R_kick : lw_tbl[1115]? = some (.code yX12_kick cX12_kick 6 (some .int)) := by rfl
set_option maxRecDepth 20000 in
theorem mc_R_common : lw_tbl[1084]? = some (.code yX12_common cX12_common 10 (some .long)) := by rfl
set_option maxRecDepth 20000 in
theorem mc_R_holds : lw_tbl[1150]? = some (.code yX12_holds cX12_holds 7 none) := by rfl
set_option maxRecDepth 20000 in
theorem mc_R_product : lw_tbl[1146]? = some (.code yX12_product cX12_product 9 none) := by rfl
set_option maxRecDepth 20000 in
theorem mc_R_sum : lw_tbl[1156]? = some (.code yX12_sum cX12_sum 9 none) := by rfl
set_option maxRecDepth 20000 in
theorem mc_R_divided : lw_tbl[1196]? = some (.code yX12_divided cX12_divided 9 none) := by rfl
set_option maxRecDepth 20000 in
theorem mc_R_lays : lw_tbl[1134]? = some (.code yX12_lays cX12_lays 6 none) := by rfl
set_option maxRecDepth 20000 in
theorem mc_R_leads : lw_tbl[1142]? = some (.code yX12_leads cX12_leads 7 none) := by rfl
set_option maxRecDepth 20000 in
theorem mc_R_leadsTable : lw_tbl[1138]? = some (.code yX12_leadsTable cX12_leadsTable 2 none) := by rfl
set_option maxRecDepth 20000 in
theorem mc_R_leadsMote : lw_tbl[1192]? = some (.code yX12_leadsMote cX12_leadsMote 9 none) := by rfl
set_option maxRecDepth 20000 in
theorem mc_R_starts : lw_tbl[1130]? = some (.code yX12_starts cX12_starts 2 none) := by rfl
set_option maxRecDepth 20000 in
theorem mc_R_goes : lw_tbl[1126]? = some (.code yX12_goes cX12_goes 4 none) := by rfl
set_option maxRecDepth 20000 in
theorem mc_R_tells : lw_tbl[1164]? = some (.code yX12_tells cX12_tells 6 none) := by rfl
set_option maxRecDepth 20000 in
theorem mc_R_table : lw_tbl[1121]? = some (.code yX12_table cX12_table 3 (some .int)) := by rfl
set_option maxRecDepth 20000 in
theorem mc_R_tables : lw_tbl[1160]? = some (.code yX12_tables cX12_tables 2 (some .int)) := by rfl
set_option maxRecDepth 20000 in
theorem mc_R_kept : lw_tbl[1172]? = some (.code yX12_kept cX12_kept 5 (some .int)) := by rfl
set_option maxRecDepth 20000 in
theorem mc_R_round : lw_tbl[1168]? = some (.code yX12_round cX12_round 4 (some .int)) := by rfl
set_option maxRecDepth 20000 in
theorem mc_R_widths : lw_tbl[1176]? = some (.code yX12_widths cX12_widths 2 (some .int)) := by rfl
set_option maxRecDepth 20000 in
theorem mc_R_turns : lw_tbl[1180]? = some (.code yX12_turns cX12_turns 1 (some .int)) := by rfl
set_option maxRecDepth 20000 in
theorem mc_R_closed : lw_tbl[1188]? = some (.code yX12_closed cX12_closed 12 (some .int)) := by rfl
set_option maxRecDepth 20000 in
theorem mc_R_way : lw_tbl[1184]? = some (.code yX12_way cX12_way 3 (some .int)) := by rfl
set_option maxRecDepth 20000 in
theorem mc_R_answer : lw_tbl[1200]? = some (.code yX12_answer cX12_answer 4 (some .int)) := by rfl
set_option maxRecDepth 20000 in
theorem mc_R_bump : lw_tbl[1208]? = some (.code yX12_bump cX12_bump 17 (some .int)) := by rfl
set_option maxRecDepth 20000 in
theorem mc_R_number : lw_tbl[1212]? = some (.code yX12_number cX12_number 3 (some .int)) := by rfl
set_option maxRecDepth 20000 in
theorem mc_R_isPrime : lw_tbl[1219]? = some (.code yX12_isPrime cX12_isPrime 3 (some .boolean)) := by rfl
set_option maxRecDepth 20000 in
theorem mc_R_by : lw_tbl[1228]? = some (.code yX12_by cX12_by 3 (some .int)) := by rfl
set_option maxRecDepth 20000 in
theorem mc_R_weighs : lw_tbl[1225]? = some (.code yX12_weighs cX12_weighs 5 (some .boolean)) := by rfl
set_option maxRecDepth 20000 in
theorem mc_R_rounds : lw_tbl[1232]? = some (.code yX12_rounds cX12_rounds 6 (some .int)) := by rfl
set_option maxRecDepth 20000 in
theorem mc_R_grid : lw_tbl[1216]? = some (.code yX12_grid cX12_grid 6 (some .int)) := by rfl
set_option maxRecDepth 20000 in
theorem mc_R_rows : lw_tbl[1236]? = some (.code yX12_rows cX12_rows 2 (some .int)) := by rfl
set_option maxRecDepth 20000 in
theorem mc_R_after : lw_tbl[1240]? = some (.code yX12_after cX12_after 7 (some .int)) := by rfl
set_option maxRecDepth 20000 in
theorem mc_R_count : lw_tbl[1245]? = some (.code yX12_count cX12_count 2 (some .int)) := by rfl
set_option maxRecDepth 20000 in
theorem mc_Jl_compare : lw_tbl[714]? = some (.code yJ13_compare_74951 cJ13_compare_74951 4 (some .int)) := by rfl
set_option maxRecDepth 20000 in
theorem mc_Jm_floorMod : lw_tbl[828]? = some (.code yJ9_floorMod_7cf53 cJ9_floorMod_7cf53 3 (some .int)) := by rfl
set_option maxRecDepth 20000 in
theorem mc_Jm_abs : lw_tbl[454]? = some (.code yJ9_abs_067f4 cJ9_abs_067f4 2 (some .long)) := by rfl
set_option maxRecDepth 20000 in
theorem mc_Jm_min : lw_tbl[835]? = some (.code yJ9_min_7cf53 cJ9_min_7cf53 2 (some .int)) := by rfl
theorem mc_all : ∀ mid, mid < 172 → lw_tbl[nthN cpL mid]? = some (.code (yOf mid) (byOf mid) (mlOf mid) (retOf mid)) := by
  intro mid h
  match mid, h with
  | 0, _ => exact mc_Fr_init
  | 1, _ => exact mc_Fr_put
  | 2, _ => exact mc_Fr_copy
  | 3, _ => exact mc_Fr_negate
  | 4, _ => exact mc_Fr_isZero
  | 5, _ => exact mc_Fr_compareToWhole
  | 6, _ => exact mc_Fr_side
  | 7, _ => exact mc_La_init
  | 8, _ => exact mc_La_forget
  | 9, _ => exact mc_La_prepare
  | 10, _ => exact mc_La_inverse
  | 11, _ => exact mc_La_next
  | 12, _ => exact mc_La_followAll
  | 13, _ => exact mc_La_follow
  | 14, _ => exact mc_La_noteCycle
  | 15, _ => exact mc_La_fact
  | 16, _ => exact mc_Li_init
  | 17, _ => exact mc_Mo_init
  | 18, _ => exact mc_Mo_put
  | 19, _ => exact mc_Op_init
  | 20, _ => exact mc_Op_isBig
  | 21, _ => exact mc_Op_onlyKick
  | 22, _ => exact mc_Op_lead
  | 23, _ => exact mc_Op_giveKick
  | 24, _ => exact mc_Op_beginTable
  | 25, _ => exact mc_Op_reckonTable
  | 26, _ => exact mc_Op_stability
  | 27, _ => exact mc_Op_roundsUntilBack
  | 28, _ => exact mc_Op_reckonMiddleWidth
  | 29, _ => exact mc_Op_closeWay
  | 30, _ => exact mc_Op_solveClosed
  | 31, _ => exact mc_Op_closeBump
  | 32, _ => exact mc_Op_hasTold
  | 33, _ => exact mc_Op_tell
  | 34, _ => exact mc_Op_tellTable
  | 35, _ => exact mc_Op_tellWidths
  | 36, _ => exact mc_Op_tellWay
  | 37, _ => exact mc_Op_tellWayX
  | 38, _ => exact mc_Op_tellBump
  | 39, _ => exact mc_Pa_init
  | 40, _ => exact mc_Re_init
  | 41, _ => exact mc_Re_findFault
  | 42, _ => exact mc_Re_faultPlace
  | 43, _ => exact mc_Re_lastLine
  | 44, _ => exact mc_Re_take
  | 45, _ => exact mc_Re_takeAlone
  | 46, _ => exact mc_Re_takeLineName
  | 47, _ => exact mc_Re_lineOf
  | 48, _ => exact mc_Re_takeItem
  | 49, _ => exact mc_Re_takeTimes
  | 50, _ => exact mc_Re_takeToldName
  | 51, _ => exact mc_Re_beginPart
  | 52, _ => exact mc_Re_endPart
  | 53, _ => exact mc_Re_takeMinusOrNumber
  | 54, _ => exact mc_Re_takeAbove
  | 55, _ => exact mc_Re_takeBelow
  | 56, _ => exact mc_Re_takeOpen
  | 57, _ => exact mc_Re_closes
  | 58, _ => exact mc_Re_takeClose
  | 59, _ => exact mc_Rk_init
  | 60, _ => exact mc_Rk_begin
  | 61, _ => exact mc_Rk_plus
  | 62, _ => exact mc_Rk_minus
  | 63, _ => exact mc_Rk_times
  | 64, _ => exact mc_Rk_over
  | 65, _ => exact mc_Rk_plusProduct
  | 66, _ => exact mc_Rk_minusProduct
  | 67, _ => exact mc_Rk_settle
  | 68, _ => exact mc_Ri_init
  | 69, _ => exact mc_Ri_hasPart
  | 70, _ => exact mc_Ri_hasKick
  | 71, _ => exact mc_Ri_hasLook
  | 72, _ => exact mc_Ri_strengthAt
  | 73, _ => exact mc_Ri_become
  | 74, _ => exact mc_Ro_init
  | 75, _ => exact mc_Ro_clear
  | 76, _ => exact mc_Ro_add
  | 77, _ => exact mc_Ro_addLine
  | 78, _ => exact mc_Ro_repeat
  | 79, _ => exact mc_Te_init
  | 80, _ => exact mc_Te_append
  | 81, _ => exact mc_Te_empty
  | 82, _ => exact mc_Te_rewind
  | 83, _ => exact mc_Te_advance
  | 84, _ => exact mc_Te_signAt
  | 85, _ => exact mc_Te_skipBlanks
  | 86, _ => exact mc_Te_takeName
  | 87, _ => exact mc_Te_takeNumber
  | 88, _ => exact mc_Te_isName
  | 89, _ => exact mc_Te_isKindLetter
  | 90, _ => exact mc_Te_letterWorth
  | 91, _ => exact mc_Te_isBlank
  | 92, _ => exact mc_Te_isLetter
  | 93, _ => exact mc_Te_isFigure
  | 94, _ => exact mc_Te_standsAlone
  | 95, _ => exact mc_C_init
  | 96, _ => exact mc_C_feed
  | 97, _ => exact mc_C_read
  | 98, _ => exact mc_C_place
  | 99, _ => exact mc_C_part
  | 100, _ => exact mc_C_kick
  | 101, _ => exact mc_C_table
  | 102, _ => exact mc_C_round
  | 103, _ => exact mc_C_widths
  | 104, _ => exact mc_C_turns
  | 105, _ => exact mc_C_way
  | 106, _ => exact mc_C_answer
  | 107, _ => exact mc_C_bump
  | 108, _ => exact mc_C_number
  | 109, _ => exact mc_C_grid
  | 110, _ => exact mc_C_rows
  | 111, _ => exact mc_C_after
  | 112, _ => exact mc_C_count
  | 113, _ => exact mc_C_isPrime
  | 114, _ => exact mc_C_commonDivisor
  | 115, _ => exact mc_R_init
  | 116, _ => exact mc_R_in
  | 117, _ => exact mc_R_feed
  | 118, _ => exact mc_R_isLetter
  | 119, _ => exact mc_R_isFigure
  | 120, _ => exact mc_R_next
  | 121, _ => exact mc_R_isSign
  | 122, _ => exact mc_R_fails
  | 123, _ => exact mc_R_adds
  | 124, _ => exact mc_R_named
  | 125, _ => exact mc_R_isOwn
  | 126, _ => exact mc_R_figure
  | 127, _ => exact mc_R_item
  | 128, _ => exact mc_R_closes
  | 129, _ => exact mc_R_line
  | 130, _ => exact mc_R_read
  | 131, _ => exact mc_R_place
  | 132, _ => exact mc_R_isPart
  | 133, _ => exact mc_R_ahead
  | 134, _ => exact mc_R_partOf
  | 135, _ => exact mc_R_part
  | 136, _ => exact mc_R_kick
  | 137, _ => exact mc_R_common
  | 138, _ => exact mc_R_holds
  | 139, _ => exact mc_R_product
  | 140, _ => exact mc_R_sum
  | 141, _ => exact mc_R_divided
  | 142, _ => exact mc_R_lays
  | 143, _ => exact mc_R_leads
  | 144, _ => exact mc_R_leadsTable
  | 145, _ => exact mc_R_leadsMote
  | 146, _ => exact mc_R_starts
  | 147, _ => exact mc_R_goes
  | 148, _ => exact mc_R_tells
  | 149, _ => exact mc_R_table
  | 150, _ => exact mc_R_tables
  | 151, _ => exact mc_R_kept
  | 152, _ => exact mc_R_round
  | 153, _ => exact mc_R_widths
  | 154, _ => exact mc_R_turns
  | 155, _ => exact mc_R_closed
  | 156, _ => exact mc_R_way
  | 157, _ => exact mc_R_answer
  | 158, _ => exact mc_R_bump
  | 159, _ => exact mc_R_number
  | 160, _ => exact mc_R_isPrime
  | 161, _ => exact mc_R_by
  | 162, _ => exact mc_R_weighs
  | 163, _ => exact mc_R_rounds
  | 164, _ => exact mc_R_grid
  | 165, _ => exact mc_R_rows
  | 166, _ => exact mc_R_after
  | 167, _ => exact mc_R_count
  | 168, _ => exact mc_Jl_compare
  | 169, _ => exact mc_Jm_floorMod
  | 170, _ => exact mc_Jm_abs
  | 171, _ => exact mc_Jm_min
  | n + 172, h => exact absurd h (by omega)
theorem pn_C : plainName "MagnetRing" = true := by decide +kernel
theorem pn_Fr : plainName "MagnetRing$Fraction" = true := by decide +kernel
theorem pn_La : plainName "MagnetRing$Lattice" = true := by decide +kernel
theorem pn_Li : plainName "MagnetRing$Line" = true := by decide +kernel
theorem pn_Mo : plainName "MagnetRing$Mote" = true := by decide +kernel
theorem pn_Op : plainName "MagnetRing$Optics" = true := by decide +kernel
theorem pn_Pa : plainName "MagnetRing$Part" = true := by decide +kernel
theorem pn_Re : plainName "MagnetRing$Reader" = true := by decide +kernel
theorem pn_Rk : plainName "MagnetRing$Reckoner" = true := by decide +kernel
theorem pn_Ri : plainName "MagnetRing$Ring" = true := by decide +kernel
theorem pn_Ro : plainName "MagnetRing$Row" = true := by decide +kernel
theorem pn_Te : plainName "MagnetRing$Text" = true := by decide +kernel
theorem pn_R : plainName "MagnetRingModel" = true := by decide +kernel
theorem pf_Jl_compare : plainFor yJ13_compare_74951 = true := by decide +kernel
theorem pf_Jm_floorMod : plainFor yJ9_floorMod_7cf53 = true := by decide +kernel
theorem pf_Jm_abs : plainFor yJ9_abs_067f4 = true := by decide +kernel
theorem pf_Jm_min : plainFor yJ9_min_7cf53 = true := by decide +kernel
theorem pf_all : ∀ mid, mid < 172 → plainFor (yOf mid) = true := by
  intro mid h
  match mid, h with
  | 0, _ => exact plainFor_of_name pn_Fr
  | 1, _ => exact plainFor_of_name pn_Fr
  | 2, _ => exact plainFor_of_name pn_Fr
  | 3, _ => exact plainFor_of_name pn_Fr
  | 4, _ => exact plainFor_of_name pn_Fr
  | 5, _ => exact plainFor_of_name pn_Fr
  | 6, _ => exact plainFor_of_name pn_Fr
  | 7, _ => exact plainFor_of_name pn_La
  | 8, _ => exact plainFor_of_name pn_La
  | 9, _ => exact plainFor_of_name pn_La
  | 10, _ => exact plainFor_of_name pn_La
  | 11, _ => exact plainFor_of_name pn_La
  | 12, _ => exact plainFor_of_name pn_La
  | 13, _ => exact plainFor_of_name pn_La
  | 14, _ => exact plainFor_of_name pn_La
  | 15, _ => exact plainFor_of_name pn_La
  | 16, _ => exact plainFor_of_name pn_Li
  | 17, _ => exact plainFor_of_name pn_Mo
  | 18, _ => exact plainFor_of_name pn_Mo
  | 19, _ => exact plainFor_of_name pn_Op
  | 20, _ => exact plainFor_of_name pn_Op
  | 21, _ => exact plainFor_of_name pn_Op
  | 22, _ => exact plainFor_of_name pn_Op
  | 23, _ => exact plainFor_of_name pn_Op
  | 24, _ => exact plainFor_of_name pn_Op
  | 25, _ => exact plainFor_of_name pn_Op
  | 26, _ => exact plainFor_of_name pn_Op
  | 27, _ => exact plainFor_of_name pn_Op
  | 28, _ => exact plainFor_of_name pn_Op
  | 29, _ => exact plainFor_of_name pn_Op
  | 30, _ => exact plainFor_of_name pn_Op
  | 31, _ => exact plainFor_of_name pn_Op
  | 32, _ => exact plainFor_of_name pn_Op
  | 33, _ => exact plainFor_of_name pn_Op
  | 34, _ => exact plainFor_of_name pn_Op
  | 35, _ => exact plainFor_of_name pn_Op
  | 36, _ => exact plainFor_of_name pn_Op
  | 37, _ => exact plainFor_of_name pn_Op
  | 38, _ => exact plainFor_of_name pn_Op
  | 39, _ => exact plainFor_of_name pn_Pa
  | 40, _ => exact plainFor_of_name pn_Re
  | 41, _ => exact plainFor_of_name pn_Re
  | 42, _ => exact plainFor_of_name pn_Re
  | 43, _ => exact plainFor_of_name pn_Re
  | 44, _ => exact plainFor_of_name pn_Re
  | 45, _ => exact plainFor_of_name pn_Re
  | 46, _ => exact plainFor_of_name pn_Re
  | 47, _ => exact plainFor_of_name pn_Re
  | 48, _ => exact plainFor_of_name pn_Re
  | 49, _ => exact plainFor_of_name pn_Re
  | 50, _ => exact plainFor_of_name pn_Re
  | 51, _ => exact plainFor_of_name pn_Re
  | 52, _ => exact plainFor_of_name pn_Re
  | 53, _ => exact plainFor_of_name pn_Re
  | 54, _ => exact plainFor_of_name pn_Re
  | 55, _ => exact plainFor_of_name pn_Re
  | 56, _ => exact plainFor_of_name pn_Re
  | 57, _ => exact plainFor_of_name pn_Re
  | 58, _ => exact plainFor_of_name pn_Re
  | 59, _ => exact plainFor_of_name pn_Rk
  | 60, _ => exact plainFor_of_name pn_Rk
  | 61, _ => exact plainFor_of_name pn_Rk
  | 62, _ => exact plainFor_of_name pn_Rk
  | 63, _ => exact plainFor_of_name pn_Rk
  | 64, _ => exact plainFor_of_name pn_Rk
  | 65, _ => exact plainFor_of_name pn_Rk
  | 66, _ => exact plainFor_of_name pn_Rk
  | 67, _ => exact plainFor_of_name pn_Rk
  | 68, _ => exact plainFor_of_name pn_Ri
  | 69, _ => exact plainFor_of_name pn_Ri
  | 70, _ => exact plainFor_of_name pn_Ri
  | 71, _ => exact plainFor_of_name pn_Ri
  | 72, _ => exact plainFor_of_name pn_Ri
  | 73, _ => exact plainFor_of_name pn_Ri
  | 74, _ => exact plainFor_of_name pn_Ro
  | 75, _ => exact plainFor_of_name pn_Ro
  | 76, _ => exact plainFor_of_name pn_Ro
  | 77, _ => exact plainFor_of_name pn_Ro
  | 78, _ => exact plainFor_of_name pn_Ro
  | 79, _ => exact plainFor_of_name pn_Te
  | 80, _ => exact plainFor_of_name pn_Te
  | 81, _ => exact plainFor_of_name pn_Te
  | 82, _ => exact plainFor_of_name pn_Te
  | 83, _ => exact plainFor_of_name pn_Te
  | 84, _ => exact plainFor_of_name pn_Te
  | 85, _ => exact plainFor_of_name pn_Te
  | 86, _ => exact plainFor_of_name pn_Te
  | 87, _ => exact plainFor_of_name pn_Te
  | 88, _ => exact plainFor_of_name pn_Te
  | 89, _ => exact plainFor_of_name pn_Te
  | 90, _ => exact plainFor_of_name pn_Te
  | 91, _ => exact plainFor_of_name pn_Te
  | 92, _ => exact plainFor_of_name pn_Te
  | 93, _ => exact plainFor_of_name pn_Te
  | 94, _ => exact plainFor_of_name pn_Te
  | 95, _ => exact plainFor_of_name pn_C
  | 96, _ => exact plainFor_of_name pn_C
  | 97, _ => exact plainFor_of_name pn_C
  | 98, _ => exact plainFor_of_name pn_C
  | 99, _ => exact plainFor_of_name pn_C
  | 100, _ => exact plainFor_of_name pn_C
  | 101, _ => exact plainFor_of_name pn_C
  | 102, _ => exact plainFor_of_name pn_C
  | 103, _ => exact plainFor_of_name pn_C
  | 104, _ => exact plainFor_of_name pn_C
  | 105, _ => exact plainFor_of_name pn_C
  | 106, _ => exact plainFor_of_name pn_C
  | 107, _ => exact plainFor_of_name pn_C
  | 108, _ => exact plainFor_of_name pn_C
  | 109, _ => exact plainFor_of_name pn_C
  | 110, _ => exact plainFor_of_name pn_C
  | 111, _ => exact plainFor_of_name pn_C
  | 112, _ => exact plainFor_of_name pn_C
  | 113, _ => exact plainFor_of_name pn_C
  | 114, _ => exact plainFor_of_name pn_C
  | 115, _ => exact plainFor_of_name pn_R
  | 116, _ => exact plainFor_of_name pn_R
  | 117, _ => exact plainFor_of_name pn_R
  | 118, _ => exact plainFor_of_name pn_R
  | 119, _ => exact plainFor_of_name pn_R
  | 120, _ => exact plainFor_of_name pn_R
  | 121, _ => exact plainFor_of_name pn_R
  | 122, _ => exact plainFor_of_name pn_R
  | 123, _ => exact plainFor_of_name pn_R
  | 124, _ => exact plainFor_of_name pn_R
  | 125, _ => exact plainFor_of_name pn_R
  | 126, _ => exact plainFor_of_name pn_R
  | 127, _ => exact plainFor_of_name pn_R
  | 128, _ => exact plainFor_of_name pn_R
  | 129, _ => exact plainFor_of_name pn_R
  | 130, _ => exact plainFor_of_name pn_R
  | 131, _ => exact plainFor_of_name pn_R
  | 132, _ => exact plainFor_of_name pn_R
  | 133, _ => exact plainFor_of_name pn_R
  | 134, _ => exact plainFor_of_name pn_R
  | 135, _ => exact plainFor_of_name pn_R
  | 136, _ => exact plainFor_of_name pn_R
  | 137, _ => exact plainFor_of_name pn_R
  | 138, _ => exact plainFor_of_name pn_R
  | 139, _ => exact plainFor_of_name pn_R
  | 140, _ => exact plainFor_of_name pn_R
  | 141, _ => exact plainFor_of_name pn_R
  | 142, _ => exact plainFor_of_name pn_R
  | 143, _ => exact plainFor_of_name pn_R
  | 144, _ => exact plainFor_of_name pn_R
  | 145, _ => exact plainFor_of_name pn_R
  | 146, _ => exact plainFor_of_name pn_R
  | 147, _ => exact plainFor_of_name pn_R
  | 148, _ => exact plainFor_of_name pn_R
  | 149, _ => exact plainFor_of_name pn_R
  | 150, _ => exact plainFor_of_name pn_R
  | 151, _ => exact plainFor_of_name pn_R
  | 152, _ => exact plainFor_of_name pn_R
  | 153, _ => exact plainFor_of_name pn_R
  | 154, _ => exact plainFor_of_name pn_R
  | 155, _ => exact plainFor_of_name pn_R
  | 156, _ => exact plainFor_of_name pn_R
  | 157, _ => exact plainFor_of_name pn_R
  | 158, _ => exact plainFor_of_name pn_R
  | 159, _ => exact plainFor_of_name pn_R
  | 160, _ => exact plainFor_of_name pn_R
  | 161, _ => exact plainFor_of_name pn_R
  | 162, _ => exact plainFor_of_name pn_R
  | 163, _ => exact plainFor_of_name pn_R
  | 164, _ => exact plainFor_of_name pn_R
  | 165, _ => exact plainFor_of_name pn_R
  | 166, _ => exact plainFor_of_name pn_R
  | 167, _ => exact plainFor_of_name pn_R
  | 168, _ => exact pf_Jl_compare
  | 169, _ => exact pf_Jm_floorMod
  | 170, _ => exact pf_Jm_abs
  | 171, _ => exact pf_Jm_min
  | n + 172, h => exact absurd h (by omega)
