def yL : List MethodName := [yX0_init, yX0_put, yX0_copy, yX0_negate, yX0_isZero, yX0_compareToWhole, yX0_side, yX1_init, yX1_forget, yX1_prepare, yX1_inverse, yX1_next, yX1_followAll, yX1_follow, yX1_noteCycle, yX1_fact, yX2_init, yX3_init, yX3_put, yX4_init, yX4_isBig, yX4_onlyKick, yX4_lead, yX4_giveKick, yX4_beginTable, yX4_reckonTable, yX4_stability, yX4_roundsUntilBack, yX4_reckonMiddleWidth, yX4_closeWay, yX4_solveClosed, yX4_closeBump, yX4_hasTold, yX4_tell, yX4_tellTable, yX4_tellWidths, yX4_tellWay, yX4_tellWayX, yX4_tellBump, yX5_init, yX6_init, yX6_findFault, yX6_faultPlace, yX6_lastLine, yX6_take, yX6_takeAlone, yX6_takeLineName, yX6_lineOf, yX6_takeItem, yX6_takeTimes, yX6_takeToldName, yX6_beginPart, yX6_endPart, yX6_takeMinusOrNumber, yX6_takeAbove, yX6_takeBelow, yX6_takeOpen, yX6_closes, yX6_takeClose, yX7_init, yX7_begin, yX7_plus, yX7_minus, yX7_times, yX7_over, yX7_plusProduct, yX7_minusProduct, yX7_settle, yX8_init, yX8_hasPart, yX8_hasKick, yX8_hasLook, yX8_strengthAt, yX8_become, yX9_init, yX9_clear, yX9_add, yX9_addLine, yX9_repeat, yX10_init, yX10_append, yX10_empty, yX10_rewind, yX10_advance, yX10_signAt, yX10_skipBlanks, yX10_takeName, yX10_takeNumber, yX10_isName, yX10_isKindLetter, yX10_letterWorth, yX10_isBlank, yX10_isLetter, yX10_isFigure, yX10_standsAlone, yX11_init, yX11_feed, yX11_read, yX11_place, yX11_part, yX11_kick, yX11_table, yX11_round, yX11_widths, yX11_turns, yX11_way, yX11_answer, yX11_bump, yX11_number, yX11_grid, yX11_rows, yX11_after, yX11_count, yX11_isPrime, yX11_commonDivisor, yX12_init, yX12_in, yX12_feed, yX12_isLetter, yX12_isFigure, yX12_next, yX12_isSign, yX12_fails, yX12_adds, yX12_named, yX12_isOwn, yX12_figure, yX12_item, yX12_closes, yX12_line, yX12_read, yX12_place, yX12_isPart, yX12_ahead, yX12_partOf, yX12_part, yX12_kick, yX12_common, yX12_holds, yX12_product, yX12_sum, yX12_divided, yX12_lays, yX12_leads, yX12_leadsTable, yX12_leadsMote, yX12_starts, yX12_goes, yX12_tells, yX12_table, yX12_tables, yX12_kept, yX12_round, yX12_widths, yX12_turns, yX12_closed, yX12_way, yX12_answer, yX12_bump, yX12_number, yX12_isPrime, yX12_by, yX12_weighs, yX12_rounds, yX12_grid, yX12_rows, yX12_after, yX12_count, yJ13_compare_74951, yJ9_floorMod_7cf53, yJ9_abs_067f4, yJ9_min_7cf53, yL_law]
def byL : List ByteArray := [cX0_init, cX0_put, cX0_copy, cX0_negate, cX0_isZero, cX0_compareToWhole, cX0_side, cX1_init, cX1_forget, cX1_prepare, cX1_inverse, cX1_next, cX1_followAll, cX1_follow, cX1_noteCycle, cX1_fact, cX2_init, cX3_init, cX3_put, cX4_init, cX4_isBig, cX4_onlyKick, cX4_lead, cX4_giveKick, cX4_beginTable, cX4_reckonTable, cX4_stability, cX4_roundsUntilBack, cX4_reckonMiddleWidth, cX4_closeWay, cX4_solveClosed, cX4_closeBump, cX4_hasTold, cX4_tell, cX4_tellTable, cX4_tellWidths, cX4_tellWay, cX4_tellWayX, cX4_tellBump, cX5_init, cX6_init, cX6_findFault, cX6_faultPlace, cX6_lastLine, cX6_take, cX6_takeAlone, cX6_takeLineName, cX6_lineOf, cX6_takeItem, cX6_takeTimes, cX6_takeToldName, cX6_beginPart, cX6_endPart, cX6_takeMinusOrNumber, cX6_takeAbove, cX6_takeBelow, cX6_takeOpen, cX6_closes, cX6_takeClose, cX7_init, cX7_begin, cX7_plus, cX7_minus, cX7_times, cX7_over, cX7_plusProduct, cX7_minusProduct, cX7_settle, cX8_init, cX8_hasPart, cX8_hasKick, cX8_hasLook, cX8_strengthAt, cX8_become, cX9_init, cX9_clear, cX9_add, cX9_addLine, cX9_repeat, cX10_init, cX10_append, cX10_empty, cX10_rewind, cX10_advance, cX10_signAt, cX10_skipBlanks, cX10_takeName, cX10_takeNumber, cX10_isName, cX10_isKindLetter, cX10_letterWorth, cX10_isBlank, cX10_isLetter, cX10_isFigure, cX10_standsAlone, cX11_init, cX11_feed, cX11_read, cX11_place, cX11_part, cX11_kick, cX11_table, cX11_round, cX11_widths, cX11_turns, cX11_way, cX11_answer, cX11_bump, cX11_number, cX11_grid, cX11_rows, cX11_after, cX11_count, cX11_isPrime, cX11_commonDivisor, cX12_init, cX12_in, cX12_feed, cX12_isLetter, cX12_isFigure, cX12_next, cX12_isSign, cX12_fails, cX12_adds, cX12_named, cX12_isOwn, cX12_figure, cX12_item, cX12_closes, cX12_line, cX12_read, cX12_place, cX12_isPart, cX12_ahead, cX12_partOf, cX12_part, cX12_kick, cX12_common, cX12_holds, cX12_product, cX12_sum, cX12_divided, cX12_lays, cX12_leads, cX12_leadsTable, cX12_leadsMote, cX12_starts, cX12_goes, cX12_tells, cX12_table, cX12_tables, cX12_kept, cX12_round, cX12_widths, cX12_turns, cX12_closed, cX12_way, cX12_answer, cX12_bump, cX12_number, cX12_isPrime, cX12_by, cX12_weighs, cX12_rounds, cX12_grid, cX12_rows, cX12_after, cX12_count, cJ13_compare_74951, cJ9_floorMod_7cf53, cJ9_abs_067f4, cJ9_min_7cf53, cL_law]
def retL : List (Option FieldType) := [none, none, none, none, (some .boolean), (some .int), (some .int), none, none, (some .boolean), (some .int), (some .int), none, (some .int), none, (some .int), none, none, none, none, (some .boolean), (some (.array (.object "MagnetRing$Fraction"))), none, none, none, none, (some .int), (some .int), none, (some .int), none, (some .int), (some .boolean), none, (some .int), (some .int), (some .int), (some .int), (some .int), none, none, (some .int), (some .int), (some (.object "MagnetRing$Line")), (some .int), (some .int), (some .int), (some (.object "MagnetRing$Line")), (some .int), (some .int), (some .int), (some .int), (some .int), (some .int), (some .int), (some .int), (some .int), (some .boolean), (some .int), none, none, none, none, none, none, none, none, none, none, (some .boolean), (some .boolean), (some .boolean), (some (.object "MagnetRing$Fraction")), none, none, none, none, none, none, none, none, none, none, none, (some .int), none, none, none, (some .boolean), (some .boolean), (some .int), (some .boolean), (some .boolean), (some .boolean), (some .boolean), none, (some .int), (some .int), (some .int), (some .int), (some .int), (some .int), (some .int), (some .int), (some .int), (some .int), (some .int), (some .int), (some .int), (some .int), (some .int), (some .int), (some .int), (some .boolean), (some .long), none, (some .boolean), (some .int), (some .boolean), (some .boolean), none, (some .boolean), (some .boolean), none, (some .int), (some .boolean), (some .boolean), (some .boolean), (some .boolean), (some .boolean), (some .int), (some .int), (some .boolean), (some .int), (some .int), (some .int), (some .int), (some .long), none, none, none, none, none, none, none, none, none, none, none, (some .int), (some .int), (some .int), (some .int), (some .int), (some .int), (some .int), (some .int), (some .int), (some .int), (some .int), (some .boolean), (some .int), (some .boolean), (some .int), (some .int), (some .int), (some .int), (some .int), (some .int), (some .int), (some .long), (some .int), (some .boolean)]
def nthY : List MethodName → Nat → MethodName
  | [], _ => ⟨"", "", ""⟩
  | v :: _, 0 => v
  | _ :: r, n + 1 => nthY r n
def nthB : List ByteArray → Nat → ByteArray
  | [], _ => ⟨#[]⟩
  | v :: _, 0 => v
  | _ :: r, n + 1 => nthB r n
def nthT : List (Option FieldType) → Nat → Option FieldType
  | [], _ => none
  | v :: _, 0 => v
  | _ :: r, n + 1 => nthT r n
def npL : List Nat := [0, 2, 1, 0, 0, 1, 1, 0, 0, 2, 2, 2, 1, 3, 2, 1, 3, 0, 2, 0, 0, 1, 2, 4, 0, 3, 0, 0, 0, 3, 0, 4, 1, 1, 0, 0, 0, 0, 0, 2, 0, 0, 0, 0, 0, 2, 0, 1, 0, 0, 0, 1, 3, 0, 0, 0, 0, 0, 0, 0, 0, 2, 2, 2, 2, 3, 3, 3, 0, 1, 1, 1, 1, 1, 0, 0, 1, 1, 2, 0, 1, 0, 0, 0, 1, 0, 0, 0, 1, 0, 1, 1, 1, 1, 1, 0, 2, 0, 0, 2, 3, 2, 1, 1, 0, 1, 2, 3, 2, 1, 1, 4, 1, 1, 2, 0, 3, 2, 1, 1, 0, 1, 1, 3, 1, 1, 1, 0, 0, 0, 0, 0, 1, 2, 2, 2, 3, 2, 2, 4, 4, 4, 3, 4, 1, 3, 0, 2, 3, 2, 0, 0, 1, 1, 0, 2, 1, 2, 3, 2, 1, 2, 1, 2, 1, 1, 4, 1, 2, 2, 1, 2, 1]
def yOf (mid : Nat) : MethodName := nthY yL mid
def byOf (mid : Nat) : ByteArray := nthB byL mid
def retOf (mid : Nat) : Option FieldType := nthT retL mid
def tC (ci k : Nat) : String × String × String × Bool := match vwCl[ci]? with
  | some q => q.2.1 k
  | none => ("", "", "", false)
def nmC (ci : Nat) : String := match vwCl[ci]? with
  | some q => q.1
  | none => ""
/-- array tags: what they hold -/
def aTy (t : Nat) : FieldType := match t with
  | 16 => .int
  | 17 => .boolean
  | 18 => .byte
  | 19 => .long
  | 20 => .object RX5
  | _ => .object RX0
def gw (p : Nat) (w : Cond) : Bool := decide (lw_tbl[p]? = some w)
def lenI (i : Instr) (d : Nat) : Nat := match i with
  | .bipush _ => 2
  | .sipush _ => 3
  | .ldc2_w _ => 3
  | .iload _ => 2
  | .lload _ => 2
  | .aload _ => 2
  | .istore _ => 2
  | .lstore _ => 2
  | .astore _ => 2
  | .iinc _ _ => 3
  | .goto _ => 3
  | .ifCond _ _ => 3
  | .if_icmp _ _ => 3
  | .ifnull _ => 3
  | .ifnonnull _ => 3
  | .tableswitch _ _ _ _ => d
  | .getfield _ => 3
  | .putfield _ => 3
  | .getstatic _ => 3
  | .newarray _ => 2
  | .anewarray _ => 3
  | .new _ => 3
  | .invokevirtual _ => 3
  | .invokestatic _ => 3
  | .invokespecial _ => 3
  | _ => 1
def jmp (pc : Nat) (off : Int) (a : Nat) : Bool := decide ((pc : Int) + off = (a : Int))
def nPar (y : MethodName) (n : Nat) : Bool := decide ((parseMethodDescriptor y.desc).map (fun d => d.parameters.length) = some n)
def goodI (own : String) (ini : Bool) (pc : Nat) (e : En) : Bool :=
  let a := e.2.2.1.1
  let b := e.2.2.1.2.1
  let cc := e.2.2.1.2.2.1
  let dd := e.2.2.1.2.2.2
  let w := e.2.2.2.1
  let z := e.2.2.2.2.1
  let ps := e.2.2.2.2.2.2
  match e.1 with
  | .iconst n => decide (Int32.ofInt n = w)
  | .bipush n => decide ((Int8.ofInt n).toInt32 = w)
  | .sipush n => decide ((Int16.ofInt n).toInt32 = w)
  | .lconst n => decide (Int64.ofNat (n : Nat) = z)
  | .ldc2_w i => gw (nthN ps 0) (.constantLong own i z)
  | .iload_n k => decide ((k : Nat) = a)
  | .lload_n k => decide ((k : Nat) = a)
  | .aload_n k => decide ((k : Nat) = a)
  | .istore_n k => decide ((k : Nat) = a)
  | .lstore_n k => decide ((k : Nat) = a)
  | .astore_n k => decide ((k : Nat) = a)
  | .iload k => decide (k = a)
  | .lload k => decide (k = a)
  | .aload k => decide (k = a)
  | .istore k => decide (k = a)
  | .lstore k => decide (k = a)
  | .astore k => decide (k = a)
  | .iinc k n => decide (k = a) && decide (Int32.ofInt n = w)
  | .goto o => jmp pc o a
  | .ifCond _ o => jmp pc o a
  | .if_icmp _ o => jmp pc o a
  | .ifnull o => jmp pc o a
  | .ifnonnull o => jmp pc o a
  | .tableswitch d lo hi offs => jmp pc d a && (decide (0 ≤ lo ∧ lo ≤ hi ∧ hi < 1000) && decide (e.2.2.2.2.2.1.length = offs.size ∧ (offs.size : Int) = hi - lo + 1) && ((List.range offs.size).all fun i => decide ((e.2.2.2.2.2.1.map (fun q => q.1))[i]? = some (Int32.ofInt (lo + i))) && decide (((e.2.2.2.2.2.1.map (fun q => q.2))[i]?).map (fun t => (t : Int)) = (offs[i]?).map (fun o => (pc : Int) + o))))
  | .getfield i => Nat.ble (b + 1) (nF a) && Nat.ble (a + 1) 13 && (match cc with
    | 0 => gw (nthN ps 0) (.fieldLink own i (tC a b).1 (tC a b).2.1 (tC a b).2.2.1)
    | _ => gw (nthN ps 0) (.fieldLinkNest own i (tC a b).1 (tC a b).2.1 (tC a b).2.2.1 "MagnetRing"))
  | .putfield i => Nat.ble (b + 1) (nF a) && Nat.ble (a + 1) 13 && (match cc with
    | 0 => gw (nthN ps 0) (.fieldLink own i (tC a b).1 (tC a b).2.1 (tC a b).2.2.1) && !(tC a b).2.2.2
    | 1 => gw (nthN ps 0) (.fieldLinkNest own i (tC a b).1 (tC a b).2.1 (tC a b).2.2.1 "MagnetRing") && !(tC a b).2.2.2
    | _ => gw (nthN ps 0) (.fieldLink own i (tC a b).1 (tC a b).2.1 (tC a b).2.2.1) && (tC a b).2.2.2 && ini && decide ((tC a b).1 = own))
  | .getstatic i => (match cc with
    | 0 => gw (nthN ps 0) (.fieldLink own i RX11 "PRIMES" "[I")
    | _ => gw (nthN ps 0) (.fieldLinkNest own i RX11 "PRIMES" "[I" "MagnetRing"))
  | .newarray t => decide (newarray.typeOf t = aTy a) && (Nat.ble 16 a && Nat.ble a 19) && gw (nthN ps 0) (.arrayClass (newarray.typeOf t))
  | .anewarray i => (match a with
    | 20 => gw (nthN ps 0) (.classLink own i RX5) && gw (nthN ps 1) (.arrayOver (.object RX5))
    | 21 => gw (nthN ps 0) (.classLink own i RX0) && gw (nthN ps 1) (.arrayOver (.object RX0))
    | _ => false)
  | .new i => Nat.ble (a + 1) 13 && gw (nthN ps 0) (.classLink own i (nmC a)) && gw (nthN ps 1) (.instantiable (nmC a) (nF a)) && gw (nthN ps 2) (.initialized (nmC a))
  | .invokevirtual i => Nat.ble (a + 1) 173 && Nat.ble (dd + 1) 13 && decide (nmC dd = (yOf a).cls) && Nat.beq (nthN npL a + 1) b && gw (nthN ps 1) (.instanceMethod (yOf a)) && gw (nthN ps 2) (.selects (yOf a).cls (yOf a) (yOf a)) && (match cc with
    | 0 => gw (nthN ps 0) (.methodLink own i (yOf a))
    | _ => gw (nthN ps 0) (.methodLinkNest own i (yOf a) "MagnetRing"))
  | .invokestatic i => Nat.ble (a + 1) 173 && Nat.beq (nthN npL a) b && gw (nthN ps 1) (.static (yOf a)) && (match cc with
    | 0 => gw (nthN ps 0) (.methodLink own i (yOf a))
    | _ => gw (nthN ps 0) (.methodLinkNest own i (yOf a) "MagnetRing"))
  | .invokespecial i => (match cc with
    | 6 => gw (nthN ps 0) (.methodLink own i objectInit) && gw (nthN ps 1) (.instanceMethod objectInit) && gw (nthN ps 2) (.code objectInit ⟨#[0xb1]⟩ 1 none)
    | 0 => Nat.ble (a + 1) 173 && Nat.beq (nthN npL a + 1) b && decide ((yOf a).name = "<init>") && gw (nthN ps 1) (.instanceMethod (yOf a)) && gw (nthN ps 0) (.methodLink own i (yOf a)) && Nat.beq (rtOf a) 0
    | _ => Nat.ble (a + 1) 173 && Nat.beq (nthN npL a + 1) b && decide ((yOf a).name = "<init>") && gw (nthN ps 1) (.instanceMethod (yOf a)) && gw (nthN ps 0) (.methodLinkNest own i (yOf a) "MagnetRing") && Nat.beq (rtOf a) 0)
  | _ => true
def goodB (own : String) (ini : Bool) (cb : ByteArray) (pc : Nat) (e : En) : Bool :=
  decide (decode cb pc = .ok (e.1, lenI e.1 (e.2.1 - pc))) && (decide (e.2.1 = pc + lenI e.1 (e.2.1 - pc)) && goodI own ini pc e)
theorem gk_end {f : (Nat × En) → Bool} (l : List (Nat × En)) (n : Nat) (h : l.length ≤ n) : ∀ q ∈ l.drop n, f q = true := by
  rw [List.drop_eq_nil_of_le h]
  intro q hq
  cases hq
theorem gk_step {f : (Nat × En) → Bool} (l : List (Nat × En)) (i n : Nat) (h : ((l.drop i).take n).all f = true) (h2 : ∀ q ∈ l.drop (i + n), f q = true) : ∀ q ∈ l.drop i, f q = true := by
  intro q hq
  rw [← List.take_append_drop n (l.drop i)] at hq
  rcases List.mem_append.mp hq with h1 | h1
  · exact List.all_eq_true.mp h q h1
  · rw [List.drop_drop] at h1
    exact h2 q h1
theorem gk_Fr_init_0 : ((k_Fr_init.drop 0).take 40).all (fun q => goodB RX0 true cX0_init q.1 q.2) = true := by decide +kernel
theorem gk_Fr_init : ∀ q ∈ k_Fr_init, goodB RX0 true cX0_init q.1 q.2 = true := List.all_eq_true.mp gk_Fr_init_0
theorem gk_Fr_put_0 : ((k_Fr_put.drop 0).take 40).all (fun q => goodB RX0 false cX0_put q.1 q.2) = true := by decide +kernel
theorem gk_Fr_put : ∀ q ∈ k_Fr_put, goodB RX0 false cX0_put q.1 q.2 = true := List.all_eq_true.mp gk_Fr_put_0
theorem gk_Fr_copy_0 : ((k_Fr_copy.drop 0).take 40).all (fun q => goodB RX0 false cX0_copy q.1 q.2) = true := by decide +kernel
theorem gk_Fr_copy : ∀ q ∈ k_Fr_copy, goodB RX0 false cX0_copy q.1 q.2 = true := List.all_eq_true.mp gk_Fr_copy_0
theorem gk_Fr_negate_0 : ((k_Fr_negate.drop 0).take 40).all (fun q => goodB RX0 false cX0_negate q.1 q.2) = true := by decide +kernel
theorem gk_Fr_negate : ∀ q ∈ k_Fr_negate, goodB RX0 false cX0_negate q.1 q.2 = true := List.all_eq_true.mp gk_Fr_negate_0
theorem gk_Fr_isZero_0 : ((k_Fr_isZero.drop 0).take 40).all (fun q => goodB RX0 false cX0_isZero q.1 q.2) = true := by decide +kernel
theorem gk_Fr_isZero : ∀ q ∈ k_Fr_isZero, goodB RX0 false cX0_isZero q.1 q.2 = true := List.all_eq_true.mp gk_Fr_isZero_0
theorem gk_Fr_compareToWhole_0 : ((k_Fr_compareToWhole.drop 0).take 40).all (fun q => goodB RX0 false cX0_compareToWhole q.1 q.2) = true := by decide +kernel
theorem gk_Fr_compareToWhole : ∀ q ∈ k_Fr_compareToWhole, goodB RX0 false cX0_compareToWhole q.1 q.2 = true := List.all_eq_true.mp gk_Fr_compareToWhole_0
theorem gk_Fr_side_0 : ((k_Fr_side.drop 0).take 40).all (fun q => goodB RX0 false cX0_side q.1 q.2) = true := by decide +kernel
theorem gk_Fr_side : ∀ q ∈ k_Fr_side, goodB RX0 false cX0_side q.1 q.2 = true := List.all_eq_true.mp gk_Fr_side_0
theorem gk_La_init_0 : ((k_La_init.drop 0).take 40).all (fun q => goodB RX1 true cX1_init q.1 q.2) = true := by decide +kernel
theorem gk_La_init : ∀ q ∈ k_La_init, goodB RX1 true cX1_init q.1 q.2 = true := List.all_eq_true.mp gk_La_init_0
theorem gk_La_forget_0 : ((k_La_forget.drop 0).take 40).all (fun q => goodB RX1 false cX1_forget q.1 q.2) = true := by decide +kernel
theorem gk_La_forget : ∀ q ∈ k_La_forget, goodB RX1 false cX1_forget q.1 q.2 = true := List.all_eq_true.mp gk_La_forget_0
theorem gk_La_prepare_0 : ((k_La_prepare.drop 0).take 40).all (fun q => goodB RX1 false cX1_prepare q.1 q.2) = true := by decide +kernel
theorem gk_La_prepare_1 : ((k_La_prepare.drop 40).take 40).all (fun q => goodB RX1 false cX1_prepare q.1 q.2) = true := by decide +kernel
theorem gk_La_prepare : ∀ q ∈ k_La_prepare, goodB RX1 false cX1_prepare q.1 q.2 = true := fun q hq => (gk_step k_La_prepare 0 40 gk_La_prepare_0 (gk_step k_La_prepare 40 40 gk_La_prepare_1 (gk_end k_La_prepare 80 (by decide +kernel)))) q hq
theorem gk_La_inverse_0 : ((k_La_inverse.drop 0).take 40).all (fun q => goodB RX1 false cX1_inverse q.1 q.2) = true := by decide +kernel
theorem gk_La_inverse : ∀ q ∈ k_La_inverse, goodB RX1 false cX1_inverse q.1 q.2 = true := List.all_eq_true.mp gk_La_inverse_0
theorem gk_La_next_0 : ((k_La_next.drop 0).take 40).all (fun q => goodB RX1 false cX1_next q.1 q.2) = true := by decide +kernel
theorem gk_La_next_1 : ((k_La_next.drop 40).take 40).all (fun q => goodB RX1 false cX1_next q.1 q.2) = true := by decide +kernel
theorem gk_La_next : ∀ q ∈ k_La_next, goodB RX1 false cX1_next q.1 q.2 = true := fun q hq => (gk_step k_La_next 0 40 gk_La_next_0 (gk_step k_La_next 40 40 gk_La_next_1 (gk_end k_La_next 80 (by decide +kernel)))) q hq
theorem gk_La_followAll_0 : ((k_La_followAll.drop 0).take 40).all (fun q => goodB RX1 false cX1_followAll q.1 q.2) = true := by decide +kernel
theorem gk_La_followAll_1 : ((k_La_followAll.drop 40).take 40).all (fun q => goodB RX1 false cX1_followAll q.1 q.2) = true := by decide +kernel
theorem gk_La_followAll : ∀ q ∈ k_La_followAll, goodB RX1 false cX1_followAll q.1 q.2 = true := fun q hq => (gk_step k_La_followAll 0 40 gk_La_followAll_0 (gk_step k_La_followAll 40 40 gk_La_followAll_1 (gk_end k_La_followAll 80 (by decide +kernel)))) q hq
theorem gk_La_follow_0 : ((k_La_follow.drop 0).take 40).all (fun q => goodB RX1 false cX1_follow q.1 q.2) = true := by decide +kernel
theorem gk_La_follow : ∀ q ∈ k_La_follow, goodB RX1 false cX1_follow q.1 q.2 = true := List.all_eq_true.mp gk_La_follow_0
theorem gk_La_noteCycle_0 : ((k_La_noteCycle.drop 0).take 40).all (fun q => goodB RX1 false cX1_noteCycle q.1 q.2) = true := by decide +kernel
theorem gk_La_noteCycle : ∀ q ∈ k_La_noteCycle, goodB RX1 false cX1_noteCycle q.1 q.2 = true := List.all_eq_true.mp gk_La_noteCycle_0
theorem gk_La_fact_0 : ((k_La_fact.drop 0).take 40).all (fun q => goodB RX1 false cX1_fact q.1 q.2) = true := by decide +kernel
theorem gk_La_fact : ∀ q ∈ k_La_fact, goodB RX1 false cX1_fact q.1 q.2 = true := List.all_eq_true.mp gk_La_fact_0
theorem gk_Li_init_0 : ((k_Li_init.drop 0).take 40).all (fun q => goodB RX2 true cX2_init q.1 q.2) = true := by decide +kernel
theorem gk_Li_init : ∀ q ∈ k_Li_init, goodB RX2 true cX2_init q.1 q.2 = true := List.all_eq_true.mp gk_Li_init_0
theorem gk_Mo_init_0 : ((k_Mo_init.drop 0).take 40).all (fun q => goodB RX3 true cX3_init q.1 q.2) = true := by decide +kernel
theorem gk_Mo_init : ∀ q ∈ k_Mo_init, goodB RX3 true cX3_init q.1 q.2 = true := List.all_eq_true.mp gk_Mo_init_0
theorem gk_Mo_put_0 : ((k_Mo_put.drop 0).take 40).all (fun q => goodB RX3 false cX3_put q.1 q.2) = true := by decide +kernel
theorem gk_Mo_put : ∀ q ∈ k_Mo_put, goodB RX3 false cX3_put q.1 q.2 = true := List.all_eq_true.mp gk_Mo_put_0
theorem gk_Op_init_0 : ((k_Op_init.drop 0).take 40).all (fun q => goodB RX4 true cX4_init q.1 q.2) = true := by decide +kernel
theorem gk_Op_init_1 : ((k_Op_init.drop 40).take 40).all (fun q => goodB RX4 true cX4_init q.1 q.2) = true := by decide +kernel
theorem gk_Op_init_2 : ((k_Op_init.drop 80).take 40).all (fun q => goodB RX4 true cX4_init q.1 q.2) = true := by decide +kernel
theorem gk_Op_init : ∀ q ∈ k_Op_init, goodB RX4 true cX4_init q.1 q.2 = true := fun q hq => (gk_step k_Op_init 0 40 gk_Op_init_0 (gk_step k_Op_init 40 40 gk_Op_init_1 (gk_step k_Op_init 80 40 gk_Op_init_2 (gk_end k_Op_init 120 (by decide +kernel))))) q hq
theorem gk_Op_isBig_0 : ((k_Op_isBig.drop 0).take 40).all (fun q => goodB RX4 false cX4_isBig q.1 q.2) = true := by decide +kernel
theorem gk_Op_isBig : ∀ q ∈ k_Op_isBig, goodB RX4 false cX4_isBig q.1 q.2 = true := List.all_eq_true.mp gk_Op_isBig_0
theorem gk_Op_onlyKick_0 : ((k_Op_onlyKick.drop 0).take 40).all (fun q => goodB RX4 false cX4_onlyKick q.1 q.2) = true := by decide +kernel
theorem gk_Op_onlyKick : ∀ q ∈ k_Op_onlyKick, goodB RX4 false cX4_onlyKick q.1 q.2 = true := List.all_eq_true.mp gk_Op_onlyKick_0
theorem gk_Op_lead_0 : ((k_Op_lead.drop 0).take 40).all (fun q => goodB RX4 false cX4_lead q.1 q.2) = true := by decide +kernel
theorem gk_Op_lead : ∀ q ∈ k_Op_lead, goodB RX4 false cX4_lead q.1 q.2 = true := List.all_eq_true.mp gk_Op_lead_0
theorem gk_Op_giveKick_0 : ((k_Op_giveKick.drop 0).take 40).all (fun q => goodB RX4 false cX4_giveKick q.1 q.2) = true := by decide +kernel
theorem gk_Op_giveKick : ∀ q ∈ k_Op_giveKick, goodB RX4 false cX4_giveKick q.1 q.2 = true := List.all_eq_true.mp gk_Op_giveKick_0
theorem gk_Op_beginTable_0 : ((k_Op_beginTable.drop 0).take 40).all (fun q => goodB RX4 false cX4_beginTable q.1 q.2) = true := by decide +kernel
theorem gk_Op_beginTable : ∀ q ∈ k_Op_beginTable, goodB RX4 false cX4_beginTable q.1 q.2 = true := List.all_eq_true.mp gk_Op_beginTable_0
theorem gk_Op_reckonTable_0 : ((k_Op_reckonTable.drop 0).take 40).all (fun q => goodB RX4 false cX4_reckonTable q.1 q.2) = true := by decide +kernel
theorem gk_Op_reckonTable_1 : ((k_Op_reckonTable.drop 40).take 40).all (fun q => goodB RX4 false cX4_reckonTable q.1 q.2) = true := by decide +kernel
theorem gk_Op_reckonTable : ∀ q ∈ k_Op_reckonTable, goodB RX4 false cX4_reckonTable q.1 q.2 = true := fun q hq => (gk_step k_Op_reckonTable 0 40 gk_Op_reckonTable_0 (gk_step k_Op_reckonTable 40 40 gk_Op_reckonTable_1 (gk_end k_Op_reckonTable 80 (by decide +kernel)))) q hq
theorem gk_Op_stability_0 : ((k_Op_stability.drop 0).take 40).all (fun q => goodB RX4 false cX4_stability q.1 q.2) = true := by decide +kernel
theorem gk_Op_stability_1 : ((k_Op_stability.drop 40).take 40).all (fun q => goodB RX4 false cX4_stability q.1 q.2) = true := by decide +kernel
theorem gk_Op_stability : ∀ q ∈ k_Op_stability, goodB RX4 false cX4_stability q.1 q.2 = true := fun q hq => (gk_step k_Op_stability 0 40 gk_Op_stability_0 (gk_step k_Op_stability 40 40 gk_Op_stability_1 (gk_end k_Op_stability 80 (by decide +kernel)))) q hq
theorem gk_Op_roundsUntilBack_0 : ((k_Op_roundsUntilBack.drop 0).take 40).all (fun q => goodB RX4 false cX4_roundsUntilBack q.1 q.2) = true := by decide +kernel
theorem gk_Op_roundsUntilBack : ∀ q ∈ k_Op_roundsUntilBack, goodB RX4 false cX4_roundsUntilBack q.1 q.2 = true := List.all_eq_true.mp gk_Op_roundsUntilBack_0
theorem gk_Op_reckonMiddleWidth_0 : ((k_Op_reckonMiddleWidth.drop 0).take 40).all (fun q => goodB RX4 false cX4_reckonMiddleWidth q.1 q.2) = true := by decide +kernel
theorem gk_Op_reckonMiddleWidth : ∀ q ∈ k_Op_reckonMiddleWidth, goodB RX4 false cX4_reckonMiddleWidth q.1 q.2 = true := List.all_eq_true.mp gk_Op_reckonMiddleWidth_0
theorem gk_Op_closeWay_0 : ((k_Op_closeWay.drop 0).take 40).all (fun q => goodB RX4 false cX4_closeWay q.1 q.2) = true := by decide +kernel
theorem gk_Op_closeWay_1 : ((k_Op_closeWay.drop 40).take 40).all (fun q => goodB RX4 false cX4_closeWay q.1 q.2) = true := by decide +kernel
theorem gk_Op_closeWay_2 : ((k_Op_closeWay.drop 80).take 40).all (fun q => goodB RX4 false cX4_closeWay q.1 q.2) = true := by decide +kernel
theorem gk_Op_closeWay_3 : ((k_Op_closeWay.drop 120).take 40).all (fun q => goodB RX4 false cX4_closeWay q.1 q.2) = true := by decide +kernel
theorem gk_Op_closeWay : ∀ q ∈ k_Op_closeWay, goodB RX4 false cX4_closeWay q.1 q.2 = true := fun q hq => (gk_step k_Op_closeWay 0 40 gk_Op_closeWay_0 (gk_step k_Op_closeWay 40 40 gk_Op_closeWay_1 (gk_step k_Op_closeWay 80 40 gk_Op_closeWay_2 (gk_step k_Op_closeWay 120 40 gk_Op_closeWay_3 (gk_end k_Op_closeWay 160 (by decide +kernel)))))) q hq
theorem gk_Op_solveClosed_0 : ((k_Op_solveClosed.drop 0).take 40).all (fun q => goodB RX4 false cX4_solveClosed q.1 q.2) = true := by decide +kernel
theorem gk_Op_solveClosed_1 : ((k_Op_solveClosed.drop 40).take 40).all (fun q => goodB RX4 false cX4_solveClosed q.1 q.2) = true := by decide +kernel
theorem gk_Op_solveClosed_2 : ((k_Op_solveClosed.drop 80).take 40).all (fun q => goodB RX4 false cX4_solveClosed q.1 q.2) = true := by decide +kernel
theorem gk_Op_solveClosed : ∀ q ∈ k_Op_solveClosed, goodB RX4 false cX4_solveClosed q.1 q.2 = true := fun q hq => (gk_step k_Op_solveClosed 0 40 gk_Op_solveClosed_0 (gk_step k_Op_solveClosed 40 40 gk_Op_solveClosed_1 (gk_step k_Op_solveClosed 80 40 gk_Op_solveClosed_2 (gk_end k_Op_solveClosed 120 (by decide +kernel))))) q hq
theorem gk_Op_closeBump_0 : ((k_Op_closeBump.drop 0).take 40).all (fun q => goodB RX4 false cX4_closeBump q.1 q.2) = true := by decide +kernel
theorem gk_Op_closeBump_1 : ((k_Op_closeBump.drop 40).take 40).all (fun q => goodB RX4 false cX4_closeBump q.1 q.2) = true := by decide +kernel
theorem gk_Op_closeBump : ∀ q ∈ k_Op_closeBump, goodB RX4 false cX4_closeBump q.1 q.2 = true := fun q hq => (gk_step k_Op_closeBump 0 40 gk_Op_closeBump_0 (gk_step k_Op_closeBump 40 40 gk_Op_closeBump_1 (gk_end k_Op_closeBump 80 (by decide +kernel)))) q hq
theorem gk_Op_hasTold_0 : ((k_Op_hasTold.drop 0).take 40).all (fun q => goodB RX4 false cX4_hasTold q.1 q.2) = true := by decide +kernel
theorem gk_Op_hasTold : ∀ q ∈ k_Op_hasTold, goodB RX4 false cX4_hasTold q.1 q.2 = true := List.all_eq_true.mp gk_Op_hasTold_0
theorem gk_Op_tell_0 : ((k_Op_tell.drop 0).take 40).all (fun q => goodB RX4 false cX4_tell q.1 q.2) = true := by decide +kernel
theorem gk_Op_tell : ∀ q ∈ k_Op_tell, goodB RX4 false cX4_tell q.1 q.2 = true := List.all_eq_true.mp gk_Op_tell_0
theorem gk_Op_tellTable_0 : ((k_Op_tellTable.drop 0).take 40).all (fun q => goodB RX4 false cX4_tellTable q.1 q.2) = true := by decide +kernel
theorem gk_Op_tellTable : ∀ q ∈ k_Op_tellTable, goodB RX4 false cX4_tellTable q.1 q.2 = true := List.all_eq_true.mp gk_Op_tellTable_0
theorem gk_Op_tellWidths_0 : ((k_Op_tellWidths.drop 0).take 40).all (fun q => goodB RX4 false cX4_tellWidths q.1 q.2) = true := by decide +kernel
theorem gk_Op_tellWidths : ∀ q ∈ k_Op_tellWidths, goodB RX4 false cX4_tellWidths q.1 q.2 = true := List.all_eq_true.mp gk_Op_tellWidths_0
theorem gk_Op_tellWay_0 : ((k_Op_tellWay.drop 0).take 40).all (fun q => goodB RX4 false cX4_tellWay q.1 q.2) = true := by decide +kernel
theorem gk_Op_tellWay : ∀ q ∈ k_Op_tellWay, goodB RX4 false cX4_tellWay q.1 q.2 = true := List.all_eq_true.mp gk_Op_tellWay_0
theorem gk_Op_tellWayX_0 : ((k_Op_tellWayX.drop 0).take 40).all (fun q => goodB RX4 false cX4_tellWayX q.1 q.2) = true := by decide +kernel
theorem gk_Op_tellWayX : ∀ q ∈ k_Op_tellWayX, goodB RX4 false cX4_tellWayX q.1 q.2 = true := List.all_eq_true.mp gk_Op_tellWayX_0
theorem gk_Op_tellBump_0 : ((k_Op_tellBump.drop 0).take 40).all (fun q => goodB RX4 false cX4_tellBump q.1 q.2) = true := by decide +kernel
theorem gk_Op_tellBump : ∀ q ∈ k_Op_tellBump, goodB RX4 false cX4_tellBump q.1 q.2 = true := List.all_eq_true.mp gk_Op_tellBump_0
theorem gk_Pa_init_0 : ((k_Pa_init.drop 0).take 40).all (fun q => goodB RX5 true cX5_init q.1 q.2) = true := by decide +kernel
theorem gk_Pa_init : ∀ q ∈ k_Pa_init, goodB RX5 true cX5_init q.1 q.2 = true := List.all_eq_true.mp gk_Pa_init_0
theorem gk_Re_init_0 : ((k_Re_init.drop 0).take 40).all (fun q => goodB RX6 true cX6_init q.1 q.2) = true := by decide +kernel
theorem gk_Re_init : ∀ q ∈ k_Re_init, goodB RX6 true cX6_init q.1 q.2 = true := List.all_eq_true.mp gk_Re_init_0
theorem gk_Re_findFault_0 : ((k_Re_findFault.drop 0).take 40).all (fun q => goodB RX6 false cX6_findFault q.1 q.2) = true := by decide +kernel
theorem gk_Re_findFault : ∀ q ∈ k_Re_findFault, goodB RX6 false cX6_findFault q.1 q.2 = true := List.all_eq_true.mp gk_Re_findFault_0
theorem gk_Re_faultPlace_0 : ((k_Re_faultPlace.drop 0).take 40).all (fun q => goodB RX6 false cX6_faultPlace q.1 q.2) = true := by decide +kernel
theorem gk_Re_faultPlace : ∀ q ∈ k_Re_faultPlace, goodB RX6 false cX6_faultPlace q.1 q.2 = true := List.all_eq_true.mp gk_Re_faultPlace_0
theorem gk_Re_lastLine_0 : ((k_Re_lastLine.drop 0).take 40).all (fun q => goodB RX6 false cX6_lastLine q.1 q.2) = true := by decide +kernel
theorem gk_Re_lastLine : ∀ q ∈ k_Re_lastLine, goodB RX6 false cX6_lastLine q.1 q.2 = true := List.all_eq_true.mp gk_Re_lastLine_0
theorem gk_Re_take_0 : ((k_Re_take.drop 0).take 40).all (fun q => goodB RX6 false cX6_take q.1 q.2) = true := by decide +kernel
theorem gk_Re_take_1 : ((k_Re_take.drop 40).take 40).all (fun q => goodB RX6 false cX6_take q.1 q.2) = true := by decide +kernel
theorem gk_Re_take : ∀ q ∈ k_Re_take, goodB RX6 false cX6_take q.1 q.2 = true := fun q hq => (gk_step k_Re_take 0 40 gk_Re_take_0 (gk_step k_Re_take 40 40 gk_Re_take_1 (gk_end k_Re_take 80 (by decide +kernel)))) q hq
theorem gk_Re_takeAlone_0 : ((k_Re_takeAlone.drop 0).take 40).all (fun q => goodB RX6 false cX6_takeAlone q.1 q.2) = true := by decide +kernel
theorem gk_Re_takeAlone : ∀ q ∈ k_Re_takeAlone, goodB RX6 false cX6_takeAlone q.1 q.2 = true := List.all_eq_true.mp gk_Re_takeAlone_0
theorem gk_Re_takeLineName_0 : ((k_Re_takeLineName.drop 0).take 40).all (fun q => goodB RX6 false cX6_takeLineName q.1 q.2) = true := by decide +kernel
theorem gk_Re_takeLineName_1 : ((k_Re_takeLineName.drop 40).take 40).all (fun q => goodB RX6 false cX6_takeLineName q.1 q.2) = true := by decide +kernel
theorem gk_Re_takeLineName : ∀ q ∈ k_Re_takeLineName, goodB RX6 false cX6_takeLineName q.1 q.2 = true := fun q hq => (gk_step k_Re_takeLineName 0 40 gk_Re_takeLineName_0 (gk_step k_Re_takeLineName 40 40 gk_Re_takeLineName_1 (gk_end k_Re_takeLineName 80 (by decide +kernel)))) q hq
theorem gk_Re_lineOf_0 : ((k_Re_lineOf.drop 0).take 40).all (fun q => goodB RX6 false cX6_lineOf q.1 q.2) = true := by decide +kernel
theorem gk_Re_lineOf : ∀ q ∈ k_Re_lineOf, goodB RX6 false cX6_lineOf q.1 q.2 = true := List.all_eq_true.mp gk_Re_lineOf_0
theorem gk_Re_takeItem_0 : ((k_Re_takeItem.drop 0).take 40).all (fun q => goodB RX6 false cX6_takeItem q.1 q.2) = true := by decide +kernel
theorem gk_Re_takeItem_1 : ((k_Re_takeItem.drop 40).take 40).all (fun q => goodB RX6 false cX6_takeItem q.1 q.2) = true := by decide +kernel
theorem gk_Re_takeItem : ∀ q ∈ k_Re_takeItem, goodB RX6 false cX6_takeItem q.1 q.2 = true := fun q hq => (gk_step k_Re_takeItem 0 40 gk_Re_takeItem_0 (gk_step k_Re_takeItem 40 40 gk_Re_takeItem_1 (gk_end k_Re_takeItem 80 (by decide +kernel)))) q hq
theorem gk_Re_takeTimes_0 : ((k_Re_takeTimes.drop 0).take 40).all (fun q => goodB RX6 false cX6_takeTimes q.1 q.2) = true := by decide +kernel
theorem gk_Re_takeTimes : ∀ q ∈ k_Re_takeTimes, goodB RX6 false cX6_takeTimes q.1 q.2 = true := List.all_eq_true.mp gk_Re_takeTimes_0
theorem gk_Re_takeToldName_0 : ((k_Re_takeToldName.drop 0).take 40).all (fun q => goodB RX6 false cX6_takeToldName q.1 q.2) = true := by decide +kernel
theorem gk_Re_takeToldName : ∀ q ∈ k_Re_takeToldName, goodB RX6 false cX6_takeToldName q.1 q.2 = true := List.all_eq_true.mp gk_Re_takeToldName_0
theorem gk_Re_beginPart_0 : ((k_Re_beginPart.drop 0).take 40).all (fun q => goodB RX6 false cX6_beginPart q.1 q.2) = true := by decide +kernel
theorem gk_Re_beginPart : ∀ q ∈ k_Re_beginPart, goodB RX6 false cX6_beginPart q.1 q.2 = true := List.all_eq_true.mp gk_Re_beginPart_0
theorem gk_Re_endPart_0 : ((k_Re_endPart.drop 0).take 40).all (fun q => goodB RX6 false cX6_endPart q.1 q.2) = true := by decide +kernel
theorem gk_Re_endPart : ∀ q ∈ k_Re_endPart, goodB RX6 false cX6_endPart q.1 q.2 = true := List.all_eq_true.mp gk_Re_endPart_0
theorem gk_Re_takeMinusOrNumber_0 : ((k_Re_takeMinusOrNumber.drop 0).take 40).all (fun q => goodB RX6 false cX6_takeMinusOrNumber q.1 q.2) = true := by decide +kernel
theorem gk_Re_takeMinusOrNumber : ∀ q ∈ k_Re_takeMinusOrNumber, goodB RX6 false cX6_takeMinusOrNumber q.1 q.2 = true := List.all_eq_true.mp gk_Re_takeMinusOrNumber_0
theorem gk_Re_takeAbove_0 : ((k_Re_takeAbove.drop 0).take 40).all (fun q => goodB RX6 false cX6_takeAbove q.1 q.2) = true := by decide +kernel
theorem gk_Re_takeAbove : ∀ q ∈ k_Re_takeAbove, goodB RX6 false cX6_takeAbove q.1 q.2 = true := List.all_eq_true.mp gk_Re_takeAbove_0
theorem gk_Re_takeBelow_0 : ((k_Re_takeBelow.drop 0).take 40).all (fun q => goodB RX6 false cX6_takeBelow q.1 q.2) = true := by decide +kernel
theorem gk_Re_takeBelow : ∀ q ∈ k_Re_takeBelow, goodB RX6 false cX6_takeBelow q.1 q.2 = true := List.all_eq_true.mp gk_Re_takeBelow_0
theorem gk_Re_takeOpen_0 : ((k_Re_takeOpen.drop 0).take 40).all (fun q => goodB RX6 false cX6_takeOpen q.1 q.2) = true := by decide +kernel
theorem gk_Re_takeOpen : ∀ q ∈ k_Re_takeOpen, goodB RX6 false cX6_takeOpen q.1 q.2 = true := List.all_eq_true.mp gk_Re_takeOpen_0
theorem gk_Re_closes_0 : ((k_Re_closes.drop 0).take 40).all (fun q => goodB RX6 false cX6_closes q.1 q.2) = true := by decide +kernel
theorem gk_Re_closes : ∀ q ∈ k_Re_closes, goodB RX6 false cX6_closes q.1 q.2 = true := List.all_eq_true.mp gk_Re_closes_0
theorem gk_Re_takeClose_0 : ((k_Re_takeClose.drop 0).take 40).all (fun q => goodB RX6 false cX6_takeClose q.1 q.2) = true := by decide +kernel
theorem gk_Re_takeClose_1 : ((k_Re_takeClose.drop 40).take 40).all (fun q => goodB RX6 false cX6_takeClose q.1 q.2) = true := by decide +kernel
theorem gk_Re_takeClose : ∀ q ∈ k_Re_takeClose, goodB RX6 false cX6_takeClose q.1 q.2 = true := fun q hq => (gk_step k_Re_takeClose 0 40 gk_Re_takeClose_0 (gk_step k_Re_takeClose 40 40 gk_Re_takeClose_1 (gk_end k_Re_takeClose 80 (by decide +kernel)))) q hq
theorem gk_Rk_init_0 : ((k_Rk_init.drop 0).take 40).all (fun q => goodB RX7 true cX7_init q.1 q.2) = true := by decide +kernel
theorem gk_Rk_init : ∀ q ∈ k_Rk_init, goodB RX7 true cX7_init q.1 q.2 = true := List.all_eq_true.mp gk_Rk_init_0
theorem gk_Rk_begin_0 : ((k_Rk_begin.drop 0).take 40).all (fun q => goodB RX7 false cX7_begin q.1 q.2) = true := by decide +kernel
theorem gk_Rk_begin : ∀ q ∈ k_Rk_begin, goodB RX7 false cX7_begin q.1 q.2 = true := List.all_eq_true.mp gk_Rk_begin_0
theorem gk_Rk_plus_0 : ((k_Rk_plus.drop 0).take 40).all (fun q => goodB RX7 false cX7_plus q.1 q.2) = true := by decide +kernel
theorem gk_Rk_plus : ∀ q ∈ k_Rk_plus, goodB RX7 false cX7_plus q.1 q.2 = true := List.all_eq_true.mp gk_Rk_plus_0
theorem gk_Rk_minus_0 : ((k_Rk_minus.drop 0).take 40).all (fun q => goodB RX7 false cX7_minus q.1 q.2) = true := by decide +kernel
theorem gk_Rk_minus : ∀ q ∈ k_Rk_minus, goodB RX7 false cX7_minus q.1 q.2 = true := List.all_eq_true.mp gk_Rk_minus_0
theorem gk_Rk_times_0 : ((k_Rk_times.drop 0).take 40).all (fun q => goodB RX7 false cX7_times q.1 q.2) = true := by decide +kernel
theorem gk_Rk_times : ∀ q ∈ k_Rk_times, goodB RX7 false cX7_times q.1 q.2 = true := List.all_eq_true.mp gk_Rk_times_0
theorem gk_Rk_over_0 : ((k_Rk_over.drop 0).take 40).all (fun q => goodB RX7 false cX7_over q.1 q.2) = true := by decide +kernel
theorem gk_Rk_over : ∀ q ∈ k_Rk_over, goodB RX7 false cX7_over q.1 q.2 = true := List.all_eq_true.mp gk_Rk_over_0
theorem gk_Rk_plusProduct_0 : ((k_Rk_plusProduct.drop 0).take 40).all (fun q => goodB RX7 false cX7_plusProduct q.1 q.2) = true := by decide +kernel
theorem gk_Rk_plusProduct : ∀ q ∈ k_Rk_plusProduct, goodB RX7 false cX7_plusProduct q.1 q.2 = true := List.all_eq_true.mp gk_Rk_plusProduct_0
theorem gk_Rk_minusProduct_0 : ((k_Rk_minusProduct.drop 0).take 40).all (fun q => goodB RX7 false cX7_minusProduct q.1 q.2) = true := by decide +kernel
theorem gk_Rk_minusProduct : ∀ q ∈ k_Rk_minusProduct, goodB RX7 false cX7_minusProduct q.1 q.2 = true := List.all_eq_true.mp gk_Rk_minusProduct_0
theorem gk_Rk_settle_0 : ((k_Rk_settle.drop 0).take 40).all (fun q => goodB RX7 false cX7_settle q.1 q.2) = true := by decide +kernel
theorem gk_Rk_settle : ∀ q ∈ k_Rk_settle, goodB RX7 false cX7_settle q.1 q.2 = true := List.all_eq_true.mp gk_Rk_settle_0
theorem gk_Ri_init_0 : ((k_Ri_init.drop 0).take 40).all (fun q => goodB RX8 true cX8_init q.1 q.2) = true := by decide +kernel
theorem gk_Ri_init : ∀ q ∈ k_Ri_init, goodB RX8 true cX8_init q.1 q.2 = true := List.all_eq_true.mp gk_Ri_init_0
theorem gk_Ri_hasPart_0 : ((k_Ri_hasPart.drop 0).take 40).all (fun q => goodB RX8 false cX8_hasPart q.1 q.2) = true := by decide +kernel
theorem gk_Ri_hasPart : ∀ q ∈ k_Ri_hasPart, goodB RX8 false cX8_hasPart q.1 q.2 = true := List.all_eq_true.mp gk_Ri_hasPart_0
theorem gk_Ri_hasKick_0 : ((k_Ri_hasKick.drop 0).take 40).all (fun q => goodB RX8 false cX8_hasKick q.1 q.2) = true := by decide +kernel
theorem gk_Ri_hasKick : ∀ q ∈ k_Ri_hasKick, goodB RX8 false cX8_hasKick q.1 q.2 = true := List.all_eq_true.mp gk_Ri_hasKick_0
theorem gk_Ri_hasLook_0 : ((k_Ri_hasLook.drop 0).take 40).all (fun q => goodB RX8 false cX8_hasLook q.1 q.2) = true := by decide +kernel
theorem gk_Ri_hasLook : ∀ q ∈ k_Ri_hasLook, goodB RX8 false cX8_hasLook q.1 q.2 = true := List.all_eq_true.mp gk_Ri_hasLook_0
theorem gk_Ri_strengthAt_0 : ((k_Ri_strengthAt.drop 0).take 40).all (fun q => goodB RX8 false cX8_strengthAt q.1 q.2) = true := by decide +kernel
theorem gk_Ri_strengthAt : ∀ q ∈ k_Ri_strengthAt, goodB RX8 false cX8_strengthAt q.1 q.2 = true := List.all_eq_true.mp gk_Ri_strengthAt_0
theorem gk_Ri_become_0 : ((k_Ri_become.drop 0).take 40).all (fun q => goodB RX8 false cX8_become q.1 q.2) = true := by decide +kernel
theorem gk_Ri_become_1 : ((k_Ri_become.drop 40).take 40).all (fun q => goodB RX8 false cX8_become q.1 q.2) = true := by decide +kernel
theorem gk_Ri_become_2 : ((k_Ri_become.drop 80).take 40).all (fun q => goodB RX8 false cX8_become q.1 q.2) = true := by decide +kernel
theorem gk_Ri_become : ∀ q ∈ k_Ri_become, goodB RX8 false cX8_become q.1 q.2 = true := fun q hq => (gk_step k_Ri_become 0 40 gk_Ri_become_0 (gk_step k_Ri_become 40 40 gk_Ri_become_1 (gk_step k_Ri_become 80 40 gk_Ri_become_2 (gk_end k_Ri_become 120 (by decide +kernel))))) q hq
theorem gk_Ro_init_0 : ((k_Ro_init.drop 0).take 40).all (fun q => goodB RX9 true cX9_init q.1 q.2) = true := by decide +kernel
theorem gk_Ro_init : ∀ q ∈ k_Ro_init, goodB RX9 true cX9_init q.1 q.2 = true := List.all_eq_true.mp gk_Ro_init_0
theorem gk_Ro_clear_0 : ((k_Ro_clear.drop 0).take 40).all (fun q => goodB RX9 false cX9_clear q.1 q.2) = true := by decide +kernel
theorem gk_Ro_clear : ∀ q ∈ k_Ro_clear, goodB RX9 false cX9_clear q.1 q.2 = true := List.all_eq_true.mp gk_Ro_clear_0
theorem gk_Ro_add_0 : ((k_Ro_add.drop 0).take 40).all (fun q => goodB RX9 false cX9_add q.1 q.2) = true := by decide +kernel
theorem gk_Ro_add_1 : ((k_Ro_add.drop 40).take 40).all (fun q => goodB RX9 false cX9_add q.1 q.2) = true := by decide +kernel
theorem gk_Ro_add : ∀ q ∈ k_Ro_add, goodB RX9 false cX9_add q.1 q.2 = true := fun q hq => (gk_step k_Ro_add 0 40 gk_Ro_add_0 (gk_step k_Ro_add 40 40 gk_Ro_add_1 (gk_end k_Ro_add 80 (by decide +kernel)))) q hq
theorem gk_Ro_addLine_0 : ((k_Ro_addLine.drop 0).take 40).all (fun q => goodB RX9 false cX9_addLine q.1 q.2) = true := by decide +kernel
theorem gk_Ro_addLine : ∀ q ∈ k_Ro_addLine, goodB RX9 false cX9_addLine q.1 q.2 = true := List.all_eq_true.mp gk_Ro_addLine_0
theorem gk_Ro_repeat_0 : ((k_Ro_repeat.drop 0).take 40).all (fun q => goodB RX9 false cX9_repeat q.1 q.2) = true := by decide +kernel
theorem gk_Ro_repeat : ∀ q ∈ k_Ro_repeat, goodB RX9 false cX9_repeat q.1 q.2 = true := List.all_eq_true.mp gk_Ro_repeat_0
theorem gk_Te_init_0 : ((k_Te_init.drop 0).take 40).all (fun q => goodB RX10 true cX10_init q.1 q.2) = true := by decide +kernel
theorem gk_Te_init : ∀ q ∈ k_Te_init, goodB RX10 true cX10_init q.1 q.2 = true := List.all_eq_true.mp gk_Te_init_0
theorem gk_Te_append_0 : ((k_Te_append.drop 0).take 40).all (fun q => goodB RX10 false cX10_append q.1 q.2) = true := by decide +kernel
theorem gk_Te_append : ∀ q ∈ k_Te_append, goodB RX10 false cX10_append q.1 q.2 = true := List.all_eq_true.mp gk_Te_append_0
theorem gk_Te_empty_0 : ((k_Te_empty.drop 0).take 40).all (fun q => goodB RX10 false cX10_empty q.1 q.2) = true := by decide +kernel
theorem gk_Te_empty : ∀ q ∈ k_Te_empty, goodB RX10 false cX10_empty q.1 q.2 = true := List.all_eq_true.mp gk_Te_empty_0
theorem gk_Te_rewind_0 : ((k_Te_rewind.drop 0).take 40).all (fun q => goodB RX10 false cX10_rewind q.1 q.2) = true := by decide +kernel
theorem gk_Te_rewind : ∀ q ∈ k_Te_rewind, goodB RX10 false cX10_rewind q.1 q.2 = true := List.all_eq_true.mp gk_Te_rewind_0
theorem gk_Te_advance_0 : ((k_Te_advance.drop 0).take 40).all (fun q => goodB RX10 false cX10_advance q.1 q.2) = true := by decide +kernel
theorem gk_Te_advance_1 : ((k_Te_advance.drop 40).take 40).all (fun q => goodB RX10 false cX10_advance q.1 q.2) = true := by decide +kernel
theorem gk_Te_advance : ∀ q ∈ k_Te_advance, goodB RX10 false cX10_advance q.1 q.2 = true := fun q hq => (gk_step k_Te_advance 0 40 gk_Te_advance_0 (gk_step k_Te_advance 40 40 gk_Te_advance_1 (gk_end k_Te_advance 80 (by decide +kernel)))) q hq
theorem gk_Te_signAt_0 : ((k_Te_signAt.drop 0).take 40).all (fun q => goodB RX10 false cX10_signAt q.1 q.2) = true := by decide +kernel
theorem gk_Te_signAt : ∀ q ∈ k_Te_signAt, goodB RX10 false cX10_signAt q.1 q.2 = true := List.all_eq_true.mp gk_Te_signAt_0
theorem gk_Te_skipBlanks_0 : ((k_Te_skipBlanks.drop 0).take 40).all (fun q => goodB RX10 false cX10_skipBlanks q.1 q.2) = true := by decide +kernel
theorem gk_Te_skipBlanks : ∀ q ∈ k_Te_skipBlanks, goodB RX10 false cX10_skipBlanks q.1 q.2 = true := List.all_eq_true.mp gk_Te_skipBlanks_0
theorem gk_Te_takeName_0 : ((k_Te_takeName.drop 0).take 40).all (fun q => goodB RX10 false cX10_takeName q.1 q.2) = true := by decide +kernel
theorem gk_Te_takeName_1 : ((k_Te_takeName.drop 40).take 40).all (fun q => goodB RX10 false cX10_takeName q.1 q.2) = true := by decide +kernel
theorem gk_Te_takeName : ∀ q ∈ k_Te_takeName, goodB RX10 false cX10_takeName q.1 q.2 = true := fun q hq => (gk_step k_Te_takeName 0 40 gk_Te_takeName_0 (gk_step k_Te_takeName 40 40 gk_Te_takeName_1 (gk_end k_Te_takeName 80 (by decide +kernel)))) q hq
theorem gk_Te_takeNumber_0 : ((k_Te_takeNumber.drop 0).take 40).all (fun q => goodB RX10 false cX10_takeNumber q.1 q.2) = true := by decide +kernel
theorem gk_Te_takeNumber_1 : ((k_Te_takeNumber.drop 40).take 40).all (fun q => goodB RX10 false cX10_takeNumber q.1 q.2) = true := by decide +kernel
theorem gk_Te_takeNumber : ∀ q ∈ k_Te_takeNumber, goodB RX10 false cX10_takeNumber q.1 q.2 = true := fun q hq => (gk_step k_Te_takeNumber 0 40 gk_Te_takeNumber_0 (gk_step k_Te_takeNumber 40 40 gk_Te_takeNumber_1 (gk_end k_Te_takeNumber 80 (by decide +kernel)))) q hq
theorem gk_Te_isName_0 : ((k_Te_isName.drop 0).take 40).all (fun q => goodB RX10 false cX10_isName q.1 q.2) = true := by decide +kernel
theorem gk_Te_isName : ∀ q ∈ k_Te_isName, goodB RX10 false cX10_isName q.1 q.2 = true := List.all_eq_true.mp gk_Te_isName_0
theorem gk_Te_isKindLetter_0 : ((k_Te_isKindLetter.drop 0).take 40).all (fun q => goodB RX10 false cX10_isKindLetter q.1 q.2) = true := by decide +kernel
theorem gk_Te_isKindLetter : ∀ q ∈ k_Te_isKindLetter, goodB RX10 false cX10_isKindLetter q.1 q.2 = true := List.all_eq_true.mp gk_Te_isKindLetter_0
theorem gk_Te_letterWorth_0 : ((k_Te_letterWorth.drop 0).take 40).all (fun q => goodB RX10 false cX10_letterWorth q.1 q.2) = true := by decide +kernel
theorem gk_Te_letterWorth : ∀ q ∈ k_Te_letterWorth, goodB RX10 false cX10_letterWorth q.1 q.2 = true := List.all_eq_true.mp gk_Te_letterWorth_0
theorem gk_Te_isBlank_0 : ((k_Te_isBlank.drop 0).take 40).all (fun q => goodB RX10 false cX10_isBlank q.1 q.2) = true := by decide +kernel
theorem gk_Te_isBlank : ∀ q ∈ k_Te_isBlank, goodB RX10 false cX10_isBlank q.1 q.2 = true := List.all_eq_true.mp gk_Te_isBlank_0
theorem gk_Te_isLetter_0 : ((k_Te_isLetter.drop 0).take 40).all (fun q => goodB RX10 false cX10_isLetter q.1 q.2) = true := by decide +kernel
theorem gk_Te_isLetter : ∀ q ∈ k_Te_isLetter, goodB RX10 false cX10_isLetter q.1 q.2 = true := List.all_eq_true.mp gk_Te_isLetter_0
theorem gk_Te_isFigure_0 : ((k_Te_isFigure.drop 0).take 40).all (fun q => goodB RX10 false cX10_isFigure q.1 q.2) = true := by decide +kernel
theorem gk_Te_isFigure : ∀ q ∈ k_Te_isFigure, goodB RX10 false cX10_isFigure q.1 q.2 = true := List.all_eq_true.mp gk_Te_isFigure_0
theorem gk_Te_standsAlone_0 : ((k_Te_standsAlone.drop 0).take 40).all (fun q => goodB RX10 false cX10_standsAlone q.1 q.2) = true := by decide +kernel
theorem gk_Te_standsAlone : ∀ q ∈ k_Te_standsAlone, goodB RX10 false cX10_standsAlone q.1 q.2 = true := List.all_eq_true.mp gk_Te_standsAlone_0
theorem gk_C_init_0 : ((k_C_init.drop 0).take 40).all (fun q => goodB RX11 true cX11_init q.1 q.2) = true := by decide +kernel
theorem gk_C_init : ∀ q ∈ k_C_init, goodB RX11 true cX11_init q.1 q.2 = true := List.all_eq_true.mp gk_C_init_0
theorem gk_C_feed_0 : ((k_C_feed.drop 0).take 40).all (fun q => goodB RX11 false cX11_feed q.1 q.2) = true := by decide +kernel
theorem gk_C_feed_1 : ((k_C_feed.drop 40).take 40).all (fun q => goodB RX11 false cX11_feed q.1 q.2) = true := by decide +kernel
theorem gk_C_feed : ∀ q ∈ k_C_feed, goodB RX11 false cX11_feed q.1 q.2 = true := fun q hq => (gk_step k_C_feed 0 40 gk_C_feed_0 (gk_step k_C_feed 40 40 gk_C_feed_1 (gk_end k_C_feed 80 (by decide +kernel)))) q hq
theorem gk_C_read_0 : ((k_C_read.drop 0).take 40).all (fun q => goodB RX11 false cX11_read q.1 q.2) = true := by decide +kernel
theorem gk_C_read : ∀ q ∈ k_C_read, goodB RX11 false cX11_read q.1 q.2 = true := List.all_eq_true.mp gk_C_read_0
theorem gk_C_place_0 : ((k_C_place.drop 0).take 40).all (fun q => goodB RX11 false cX11_place q.1 q.2) = true := by decide +kernel
theorem gk_C_place : ∀ q ∈ k_C_place, goodB RX11 false cX11_place q.1 q.2 = true := List.all_eq_true.mp gk_C_place_0
theorem gk_C_part_0 : ((k_C_part.drop 0).take 40).all (fun q => goodB RX11 false cX11_part q.1 q.2) = true := by decide +kernel
theorem gk_C_part : ∀ q ∈ k_C_part, goodB RX11 false cX11_part q.1 q.2 = true := List.all_eq_true.mp gk_C_part_0
theorem gk_C_kick_0 : ((k_C_kick.drop 0).take 40).all (fun q => goodB RX11 false cX11_kick q.1 q.2) = true := by decide +kernel
theorem gk_C_kick : ∀ q ∈ k_C_kick, goodB RX11 false cX11_kick q.1 q.2 = true := List.all_eq_true.mp gk_C_kick_0
theorem gk_C_table_0 : ((k_C_table.drop 0).take 40).all (fun q => goodB RX11 false cX11_table q.1 q.2) = true := by decide +kernel
theorem gk_C_table : ∀ q ∈ k_C_table, goodB RX11 false cX11_table q.1 q.2 = true := List.all_eq_true.mp gk_C_table_0
theorem gk_C_round_0 : ((k_C_round.drop 0).take 40).all (fun q => goodB RX11 false cX11_round q.1 q.2) = true := by decide +kernel
theorem gk_C_round : ∀ q ∈ k_C_round, goodB RX11 false cX11_round q.1 q.2 = true := List.all_eq_true.mp gk_C_round_0
theorem gk_C_widths_0 : ((k_C_widths.drop 0).take 40).all (fun q => goodB RX11 false cX11_widths q.1 q.2) = true := by decide +kernel
theorem gk_C_widths_1 : ((k_C_widths.drop 40).take 40).all (fun q => goodB RX11 false cX11_widths q.1 q.2) = true := by decide +kernel
theorem gk_C_widths : ∀ q ∈ k_C_widths, goodB RX11 false cX11_widths q.1 q.2 = true := fun q hq => (gk_step k_C_widths 0 40 gk_C_widths_0 (gk_step k_C_widths 40 40 gk_C_widths_1 (gk_end k_C_widths 80 (by decide +kernel)))) q hq
theorem gk_C_turns_0 : ((k_C_turns.drop 0).take 40).all (fun q => goodB RX11 false cX11_turns q.1 q.2) = true := by decide +kernel
theorem gk_C_turns : ∀ q ∈ k_C_turns, goodB RX11 false cX11_turns q.1 q.2 = true := List.all_eq_true.mp gk_C_turns_0
theorem gk_C_way_0 : ((k_C_way.drop 0).take 40).all (fun q => goodB RX11 false cX11_way q.1 q.2) = true := by decide +kernel
theorem gk_C_way : ∀ q ∈ k_C_way, goodB RX11 false cX11_way q.1 q.2 = true := List.all_eq_true.mp gk_C_way_0
theorem gk_C_answer_0 : ((k_C_answer.drop 0).take 40).all (fun q => goodB RX11 false cX11_answer q.1 q.2) = true := by decide +kernel
theorem gk_C_answer : ∀ q ∈ k_C_answer, goodB RX11 false cX11_answer q.1 q.2 = true := List.all_eq_true.mp gk_C_answer_0
theorem gk_C_bump_0 : ((k_C_bump.drop 0).take 40).all (fun q => goodB RX11 false cX11_bump q.1 q.2) = true := by decide +kernel
theorem gk_C_bump_1 : ((k_C_bump.drop 40).take 40).all (fun q => goodB RX11 false cX11_bump q.1 q.2) = true := by decide +kernel
theorem gk_C_bump : ∀ q ∈ k_C_bump, goodB RX11 false cX11_bump q.1 q.2 = true := fun q hq => (gk_step k_C_bump 0 40 gk_C_bump_0 (gk_step k_C_bump 40 40 gk_C_bump_1 (gk_end k_C_bump 80 (by decide +kernel)))) q hq
theorem gk_C_number_0 : ((k_C_number.drop 0).take 40).all (fun q => goodB RX11 false cX11_number q.1 q.2) = true := by decide +kernel
theorem gk_C_number : ∀ q ∈ k_C_number, goodB RX11 false cX11_number q.1 q.2 = true := List.all_eq_true.mp gk_C_number_0
theorem gk_C_grid_0 : ((k_C_grid.drop 0).take 40).all (fun q => goodB RX11 false cX11_grid q.1 q.2) = true := by decide +kernel
theorem gk_C_grid : ∀ q ∈ k_C_grid, goodB RX11 false cX11_grid q.1 q.2 = true := List.all_eq_true.mp gk_C_grid_0
theorem gk_C_rows_0 : ((k_C_rows.drop 0).take 40).all (fun q => goodB RX11 false cX11_rows q.1 q.2) = true := by decide +kernel
theorem gk_C_rows : ∀ q ∈ k_C_rows, goodB RX11 false cX11_rows q.1 q.2 = true := List.all_eq_true.mp gk_C_rows_0
theorem gk_C_after_0 : ((k_C_after.drop 0).take 40).all (fun q => goodB RX11 false cX11_after q.1 q.2) = true := by decide +kernel
theorem gk_C_after_1 : ((k_C_after.drop 40).take 40).all (fun q => goodB RX11 false cX11_after q.1 q.2) = true := by decide +kernel
theorem gk_C_after : ∀ q ∈ k_C_after, goodB RX11 false cX11_after q.1 q.2 = true := fun q hq => (gk_step k_C_after 0 40 gk_C_after_0 (gk_step k_C_after 40 40 gk_C_after_1 (gk_end k_C_after 80 (by decide +kernel)))) q hq
theorem gk_C_count_0 : ((k_C_count.drop 0).take 40).all (fun q => goodB RX11 false cX11_count q.1 q.2) = true := by decide +kernel
theorem gk_C_count : ∀ q ∈ k_C_count, goodB RX11 false cX11_count q.1 q.2 = true := List.all_eq_true.mp gk_C_count_0
theorem gk_C_isPrime_0 : ((k_C_isPrime.drop 0).take 40).all (fun q => goodB RX11 false cX11_isPrime q.1 q.2) = true := by decide +kernel
theorem gk_C_isPrime : ∀ q ∈ k_C_isPrime, goodB RX11 false cX11_isPrime q.1 q.2 = true := List.all_eq_true.mp gk_C_isPrime_0
theorem gk_C_commonDivisor_0 : ((k_C_commonDivisor.drop 0).take 40).all (fun q => goodB RX11 false cX11_commonDivisor q.1 q.2) = true := by decide +kernel
theorem gk_C_commonDivisor : ∀ q ∈ k_C_commonDivisor, goodB RX11 false cX11_commonDivisor q.1 q.2 = true := List.all_eq_true.mp gk_C_commonDivisor_0
theorem gk_R_init_0 : ((k_R_init.drop 0).take 40).all (fun q => goodB RX12 true cX12_init q.1 q.2) = true := by decide +kernel
theorem gk_R_init_1 : ((k_R_init.drop 40).take 40).all (fun q => goodB RX12 true cX12_init q.1 q.2) = true := by decide +kernel
theorem gk_R_init_2 : ((k_R_init.drop 80).take 40).all (fun q => goodB RX12 true cX12_init q.1 q.2) = true := by decide +kernel
theorem gk_R_init : ∀ q ∈ k_R_init, goodB RX12 true cX12_init q.1 q.2 = true := fun q hq => (gk_step k_R_init 0 40 gk_R_init_0 (gk_step k_R_init 40 40 gk_R_init_1 (gk_step k_R_init 80 40 gk_R_init_2 (gk_end k_R_init 120 (by decide +kernel))))) q hq
theorem gk_R_in_0 : ((k_R_in.drop 0).take 40).all (fun q => goodB RX12 false cX12_in q.1 q.2) = true := by decide +kernel
theorem gk_R_in : ∀ q ∈ k_R_in, goodB RX12 false cX12_in q.1 q.2 = true := List.all_eq_true.mp gk_R_in_0
theorem gk_R_feed_0 : ((k_R_feed.drop 0).take 40).all (fun q => goodB RX12 false cX12_feed q.1 q.2) = true := by decide +kernel
theorem gk_R_feed_1 : ((k_R_feed.drop 40).take 40).all (fun q => goodB RX12 false cX12_feed q.1 q.2) = true := by decide +kernel
theorem gk_R_feed : ∀ q ∈ k_R_feed, goodB RX12 false cX12_feed q.1 q.2 = true := fun q hq => (gk_step k_R_feed 0 40 gk_R_feed_0 (gk_step k_R_feed 40 40 gk_R_feed_1 (gk_end k_R_feed 80 (by decide +kernel)))) q hq
theorem gk_R_isLetter_0 : ((k_R_isLetter.drop 0).take 40).all (fun q => goodB RX12 false cX12_isLetter q.1 q.2) = true := by decide +kernel
theorem gk_R_isLetter : ∀ q ∈ k_R_isLetter, goodB RX12 false cX12_isLetter q.1 q.2 = true := List.all_eq_true.mp gk_R_isLetter_0
theorem gk_R_isFigure_0 : ((k_R_isFigure.drop 0).take 40).all (fun q => goodB RX12 false cX12_isFigure q.1 q.2) = true := by decide +kernel
theorem gk_R_isFigure : ∀ q ∈ k_R_isFigure, goodB RX12 false cX12_isFigure q.1 q.2 = true := List.all_eq_true.mp gk_R_isFigure_0
theorem gk_R_next_0 : ((k_R_next.drop 0).take 40).all (fun q => goodB RX12 false cX12_next q.1 q.2) = true := by decide +kernel
theorem gk_R_next_1 : ((k_R_next.drop 40).take 40).all (fun q => goodB RX12 false cX12_next q.1 q.2) = true := by decide +kernel
theorem gk_R_next_2 : ((k_R_next.drop 80).take 40).all (fun q => goodB RX12 false cX12_next q.1 q.2) = true := by decide +kernel
theorem gk_R_next_3 : ((k_R_next.drop 120).take 40).all (fun q => goodB RX12 false cX12_next q.1 q.2) = true := by decide +kernel
theorem gk_R_next_4 : ((k_R_next.drop 160).take 40).all (fun q => goodB RX12 false cX12_next q.1 q.2) = true := by decide +kernel
theorem gk_R_next_5 : ((k_R_next.drop 200).take 40).all (fun q => goodB RX12 false cX12_next q.1 q.2) = true := by decide +kernel
theorem gk_R_next : ∀ q ∈ k_R_next, goodB RX12 false cX12_next q.1 q.2 = true := fun q hq => (gk_step k_R_next 0 40 gk_R_next_0 (gk_step k_R_next 40 40 gk_R_next_1 (gk_step k_R_next 80 40 gk_R_next_2 (gk_step k_R_next 120 40 gk_R_next_3 (gk_step k_R_next 160 40 gk_R_next_4 (gk_step k_R_next 200 40 gk_R_next_5 (gk_end k_R_next 240 (by decide +kernel)))))))) q hq
theorem gk_R_isSign_0 : ((k_R_isSign.drop 0).take 40).all (fun q => goodB RX12 false cX12_isSign q.1 q.2) = true := by decide +kernel
theorem gk_R_isSign : ∀ q ∈ k_R_isSign, goodB RX12 false cX12_isSign q.1 q.2 = true := List.all_eq_true.mp gk_R_isSign_0
theorem gk_R_fails_0 : ((k_R_fails.drop 0).take 40).all (fun q => goodB RX12 false cX12_fails q.1 q.2) = true := by decide +kernel
theorem gk_R_fails : ∀ q ∈ k_R_fails, goodB RX12 false cX12_fails q.1 q.2 = true := List.all_eq_true.mp gk_R_fails_0
theorem gk_R_adds_0 : ((k_R_adds.drop 0).take 40).all (fun q => goodB RX12 false cX12_adds q.1 q.2) = true := by decide +kernel
theorem gk_R_adds_1 : ((k_R_adds.drop 40).take 40).all (fun q => goodB RX12 false cX12_adds q.1 q.2) = true := by decide +kernel
theorem gk_R_adds : ∀ q ∈ k_R_adds, goodB RX12 false cX12_adds q.1 q.2 = true := fun q hq => (gk_step k_R_adds 0 40 gk_R_adds_0 (gk_step k_R_adds 40 40 gk_R_adds_1 (gk_end k_R_adds 80 (by decide +kernel)))) q hq
theorem gk_R_named_0 : ((k_R_named.drop 0).take 40).all (fun q => goodB RX12 false cX12_named q.1 q.2) = true := by decide +kernel
theorem gk_R_named : ∀ q ∈ k_R_named, goodB RX12 false cX12_named q.1 q.2 = true := List.all_eq_true.mp gk_R_named_0
theorem gk_R_isOwn_0 : ((k_R_isOwn.drop 0).take 40).all (fun q => goodB RX12 false cX12_isOwn q.1 q.2) = true := by decide +kernel
theorem gk_R_isOwn : ∀ q ∈ k_R_isOwn, goodB RX12 false cX12_isOwn q.1 q.2 = true := List.all_eq_true.mp gk_R_isOwn_0
theorem gk_R_figure_0 : ((k_R_figure.drop 0).take 40).all (fun q => goodB RX12 false cX12_figure q.1 q.2) = true := by decide +kernel
theorem gk_R_figure_1 : ((k_R_figure.drop 40).take 40).all (fun q => goodB RX12 false cX12_figure q.1 q.2) = true := by decide +kernel
theorem gk_R_figure : ∀ q ∈ k_R_figure, goodB RX12 false cX12_figure q.1 q.2 = true := fun q hq => (gk_step k_R_figure 0 40 gk_R_figure_0 (gk_step k_R_figure 40 40 gk_R_figure_1 (gk_end k_R_figure 80 (by decide +kernel)))) q hq
theorem gk_R_item_0 : ((k_R_item.drop 0).take 40).all (fun q => goodB RX12 false cX12_item q.1 q.2) = true := by decide +kernel
theorem gk_R_item_1 : ((k_R_item.drop 40).take 40).all (fun q => goodB RX12 false cX12_item q.1 q.2) = true := by decide +kernel
theorem gk_R_item_2 : ((k_R_item.drop 80).take 40).all (fun q => goodB RX12 false cX12_item q.1 q.2) = true := by decide +kernel
theorem gk_R_item_3 : ((k_R_item.drop 120).take 40).all (fun q => goodB RX12 false cX12_item q.1 q.2) = true := by decide +kernel
theorem gk_R_item_4 : ((k_R_item.drop 160).take 40).all (fun q => goodB RX12 false cX12_item q.1 q.2) = true := by decide +kernel
theorem gk_R_item_5 : ((k_R_item.drop 200).take 40).all (fun q => goodB RX12 false cX12_item q.1 q.2) = true := by decide +kernel
theorem gk_R_item : ∀ q ∈ k_R_item, goodB RX12 false cX12_item q.1 q.2 = true := fun q hq => (gk_step k_R_item 0 40 gk_R_item_0 (gk_step k_R_item 40 40 gk_R_item_1 (gk_step k_R_item 80 40 gk_R_item_2 (gk_step k_R_item 120 40 gk_R_item_3 (gk_step k_R_item 160 40 gk_R_item_4 (gk_step k_R_item 200 40 gk_R_item_5 (gk_end k_R_item 240 (by decide +kernel)))))))) q hq
theorem gk_R_closes_0 : ((k_R_closes.drop 0).take 40).all (fun q => goodB RX12 false cX12_closes q.1 q.2) = true := by decide +kernel
theorem gk_R_closes_1 : ((k_R_closes.drop 40).take 40).all (fun q => goodB RX12 false cX12_closes q.1 q.2) = true := by decide +kernel
theorem gk_R_closes : ∀ q ∈ k_R_closes, goodB RX12 false cX12_closes q.1 q.2 = true := fun q hq => (gk_step k_R_closes 0 40 gk_R_closes_0 (gk_step k_R_closes 40 40 gk_R_closes_1 (gk_end k_R_closes 80 (by decide +kernel)))) q hq
theorem gk_R_line_0 : ((k_R_line.drop 0).take 40).all (fun q => goodB RX12 false cX12_line q.1 q.2) = true := by decide +kernel
theorem gk_R_line_1 : ((k_R_line.drop 40).take 40).all (fun q => goodB RX12 false cX12_line q.1 q.2) = true := by decide +kernel
theorem gk_R_line_2 : ((k_R_line.drop 80).take 40).all (fun q => goodB RX12 false cX12_line q.1 q.2) = true := by decide +kernel
theorem gk_R_line_3 : ((k_R_line.drop 120).take 40).all (fun q => goodB RX12 false cX12_line q.1 q.2) = true := by decide +kernel
theorem gk_R_line_4 : ((k_R_line.drop 160).take 40).all (fun q => goodB RX12 false cX12_line q.1 q.2) = true := by decide +kernel
theorem gk_R_line : ∀ q ∈ k_R_line, goodB RX12 false cX12_line q.1 q.2 = true := fun q hq => (gk_step k_R_line 0 40 gk_R_line_0 (gk_step k_R_line 40 40 gk_R_line_1 (gk_step k_R_line 80 40 gk_R_line_2 (gk_step k_R_line 120 40 gk_R_line_3 (gk_step k_R_line 160 40 gk_R_line_4 (gk_end k_R_line 200 (by decide +kernel))))))) q hq
theorem gk_R_read_0 : ((k_R_read.drop 0).take 40).all (fun q => goodB RX12 false cX12_read q.1 q.2) = true := by decide +kernel
theorem gk_R_read_1 : ((k_R_read.drop 40).take 40).all (fun q => goodB RX12 false cX12_read q.1 q.2) = true := by decide +kernel
theorem gk_R_read_2 : ((k_R_read.drop 80).take 40).all (fun q => goodB RX12 false cX12_read q.1 q.2) = true := by decide +kernel
theorem gk_R_read : ∀ q ∈ k_R_read, goodB RX12 false cX12_read q.1 q.2 = true := fun q hq => (gk_step k_R_read 0 40 gk_R_read_0 (gk_step k_R_read 40 40 gk_R_read_1 (gk_step k_R_read 80 40 gk_R_read_2 (gk_end k_R_read 120 (by decide +kernel))))) q hq
theorem gk_R_place_0 : ((k_R_place.drop 0).take 40).all (fun q => goodB RX12 false cX12_place q.1 q.2) = true := by decide +kernel
theorem gk_R_place : ∀ q ∈ k_R_place, goodB RX12 false cX12_place q.1 q.2 = true := List.all_eq_true.mp gk_R_place_0
theorem gk_R_isPart_0 : ((k_R_isPart.drop 0).take 40).all (fun q => goodB RX12 false cX12_isPart q.1 q.2) = true := by decide +kernel
theorem gk_R_isPart : ∀ q ∈ k_R_isPart, goodB RX12 false cX12_isPart q.1 q.2 = true := List.all_eq_true.mp gk_R_isPart_0
theorem gk_R_ahead_0 : ((k_R_ahead.drop 0).take 40).all (fun q => goodB RX12 false cX12_ahead q.1 q.2) = true := by decide +kernel
theorem gk_R_ahead : ∀ q ∈ k_R_ahead, goodB RX12 false cX12_ahead q.1 q.2 = true := List.all_eq_true.mp gk_R_ahead_0
theorem gk_R_partOf_0 : ((k_R_partOf.drop 0).take 40).all (fun q => goodB RX12 false cX12_partOf q.1 q.2) = true := by decide +kernel
theorem gk_R_partOf : ∀ q ∈ k_R_partOf, goodB RX12 false cX12_partOf q.1 q.2 = true := List.all_eq_true.mp gk_R_partOf_0
theorem gk_R_part_0 : ((k_R_part.drop 0).take 40).all (fun q => goodB RX12 false cX12_part q.1 q.2) = true := by decide +kernel
theorem gk_R_part_1 : ((k_R_part.drop 40).take 40).all (fun q => goodB RX12 false cX12_part q.1 q.2) = true := by decide +kernel
theorem gk_R_part : ∀ q ∈ k_R_part, goodB RX12 false cX12_part q.1 q.2 = true := fun q hq => (gk_step k_R_part 0 40 gk_R_part_0 (gk_step k_R_part 40 40 gk_R_part_1 (gk_end k_R_part 80 (by decide +kernel)))) q hq
theorem gk_R_kick_0 : ((k_R_kick.drop 0).take 40).all (fun q => goodB RX12 false cX12_kick q.1 q.2) = true := by decide +kernel
theorem gk_R_kick_1 : ((k_R_kick.drop 40).take 40).all (fun q => goodB RX12 false cX12_kick q.1 q.2) = true := by decide +kernel
theorem gk_R_kick : ∀ q ∈ k_R_kick, goodB RX12 false cX12_kick q.1 q.2 = true := fun q hq => (gk_step k_R_kick 0 40 gk_R_kick_0 (gk_step k_R_kick 40 40 gk_R_kick_1 (gk_end k_R_kick 80 (by decide +kernel)))) q hq
theorem gk_R_common_0 : ((k_R_common.drop 0).take 40).all (fun q => goodB RX12 false cX12_common q.1 q.2) = true := by decide +kernel
theorem gk_R_common : ∀ q ∈ k_R_common, goodB RX12 false cX12_common q.1 q.2 = true := List.all_eq_true.mp gk_R_common_0
theorem gk_R_holds_0 : ((k_R_holds.drop 0).take 40).all (fun q => goodB RX12 false cX12_holds q.1 q.2) = true := by decide +kernel
theorem gk_R_holds : ∀ q ∈ k_R_holds, goodB RX12 false cX12_holds q.1 q.2 = true := List.all_eq_true.mp gk_R_holds_0
theorem gk_R_product_0 : ((k_R_product.drop 0).take 40).all (fun q => goodB RX12 false cX12_product q.1 q.2) = true := by decide +kernel
theorem gk_R_product : ∀ q ∈ k_R_product, goodB RX12 false cX12_product q.1 q.2 = true := List.all_eq_true.mp gk_R_product_0
theorem gk_R_sum_0 : ((k_R_sum.drop 0).take 40).all (fun q => goodB RX12 false cX12_sum q.1 q.2) = true := by decide +kernel
theorem gk_R_sum : ∀ q ∈ k_R_sum, goodB RX12 false cX12_sum q.1 q.2 = true := List.all_eq_true.mp gk_R_sum_0
theorem gk_R_divided_0 : ((k_R_divided.drop 0).take 40).all (fun q => goodB RX12 false cX12_divided q.1 q.2) = true := by decide +kernel
theorem gk_R_divided : ∀ q ∈ k_R_divided, goodB RX12 false cX12_divided q.1 q.2 = true := List.all_eq_true.mp gk_R_divided_0
theorem gk_R_lays_0 : ((k_R_lays.drop 0).take 40).all (fun q => goodB RX12 false cX12_lays q.1 q.2) = true := by decide +kernel
theorem gk_R_lays : ∀ q ∈ k_R_lays, goodB RX12 false cX12_lays q.1 q.2 = true := List.all_eq_true.mp gk_R_lays_0
theorem gk_R_leads_0 : ((k_R_leads.drop 0).take 40).all (fun q => goodB RX12 false cX12_leads q.1 q.2) = true := by decide +kernel
theorem gk_R_leads : ∀ q ∈ k_R_leads, goodB RX12 false cX12_leads q.1 q.2 = true := List.all_eq_true.mp gk_R_leads_0
theorem gk_R_leadsTable_0 : ((k_R_leadsTable.drop 0).take 40).all (fun q => goodB RX12 false cX12_leadsTable q.1 q.2) = true := by decide +kernel
theorem gk_R_leadsTable_1 : ((k_R_leadsTable.drop 40).take 40).all (fun q => goodB RX12 false cX12_leadsTable q.1 q.2) = true := by decide +kernel
theorem gk_R_leadsTable : ∀ q ∈ k_R_leadsTable, goodB RX12 false cX12_leadsTable q.1 q.2 = true := fun q hq => (gk_step k_R_leadsTable 0 40 gk_R_leadsTable_0 (gk_step k_R_leadsTable 40 40 gk_R_leadsTable_1 (gk_end k_R_leadsTable 80 (by decide +kernel)))) q hq
theorem gk_R_leadsMote_0 : ((k_R_leadsMote.drop 0).take 40).all (fun q => goodB RX12 false cX12_leadsMote q.1 q.2) = true := by decide +kernel
theorem gk_R_leadsMote_1 : ((k_R_leadsMote.drop 40).take 40).all (fun q => goodB RX12 false cX12_leadsMote q.1 q.2) = true := by decide +kernel
theorem gk_R_leadsMote_2 : ((k_R_leadsMote.drop 80).take 40).all (fun q => goodB RX12 false cX12_leadsMote q.1 q.2) = true := by decide +kernel
theorem gk_R_leadsMote : ∀ q ∈ k_R_leadsMote, goodB RX12 false cX12_leadsMote q.1 q.2 = true := fun q hq => (gk_step k_R_leadsMote 0 40 gk_R_leadsMote_0 (gk_step k_R_leadsMote 40 40 gk_R_leadsMote_1 (gk_step k_R_leadsMote 80 40 gk_R_leadsMote_2 (gk_end k_R_leadsMote 120 (by decide +kernel))))) q hq
theorem gk_R_starts_0 : ((k_R_starts.drop 0).take 40).all (fun q => goodB RX12 false cX12_starts q.1 q.2) = true := by decide +kernel
theorem gk_R_starts : ∀ q ∈ k_R_starts, goodB RX12 false cX12_starts q.1 q.2 = true := List.all_eq_true.mp gk_R_starts_0
theorem gk_R_goes_0 : ((k_R_goes.drop 0).take 40).all (fun q => goodB RX12 false cX12_goes q.1 q.2) = true := by decide +kernel
theorem gk_R_goes : ∀ q ∈ k_R_goes, goodB RX12 false cX12_goes q.1 q.2 = true := List.all_eq_true.mp gk_R_goes_0
theorem gk_R_tells_0 : ((k_R_tells.drop 0).take 40).all (fun q => goodB RX12 false cX12_tells q.1 q.2) = true := by decide +kernel
theorem gk_R_tells : ∀ q ∈ k_R_tells, goodB RX12 false cX12_tells q.1 q.2 = true := List.all_eq_true.mp gk_R_tells_0
theorem gk_R_table_0 : ((k_R_table.drop 0).take 40).all (fun q => goodB RX12 false cX12_table q.1 q.2) = true := by decide +kernel
theorem gk_R_table : ∀ q ∈ k_R_table, goodB RX12 false cX12_table q.1 q.2 = true := List.all_eq_true.mp gk_R_table_0
theorem gk_R_tables_0 : ((k_R_tables.drop 0).take 40).all (fun q => goodB RX12 false cX12_tables q.1 q.2) = true := by decide +kernel
theorem gk_R_tables : ∀ q ∈ k_R_tables, goodB RX12 false cX12_tables q.1 q.2 = true := List.all_eq_true.mp gk_R_tables_0
theorem gk_R_kept_0 : ((k_R_kept.drop 0).take 40).all (fun q => goodB RX12 false cX12_kept q.1 q.2) = true := by decide +kernel
theorem gk_R_kept : ∀ q ∈ k_R_kept, goodB RX12 false cX12_kept q.1 q.2 = true := List.all_eq_true.mp gk_R_kept_0
theorem gk_R_round_0 : ((k_R_round.drop 0).take 40).all (fun q => goodB RX12 false cX12_round q.1 q.2) = true := by decide +kernel
theorem gk_R_round_1 : ((k_R_round.drop 40).take 40).all (fun q => goodB RX12 false cX12_round q.1 q.2) = true := by decide +kernel
theorem gk_R_round : ∀ q ∈ k_R_round, goodB RX12 false cX12_round q.1 q.2 = true := fun q hq => (gk_step k_R_round 0 40 gk_R_round_0 (gk_step k_R_round 40 40 gk_R_round_1 (gk_end k_R_round 80 (by decide +kernel)))) q hq
theorem gk_R_widths_0 : ((k_R_widths.drop 0).take 40).all (fun q => goodB RX12 false cX12_widths q.1 q.2) = true := by decide +kernel
theorem gk_R_widths_1 : ((k_R_widths.drop 40).take 40).all (fun q => goodB RX12 false cX12_widths q.1 q.2) = true := by decide +kernel
theorem gk_R_widths_2 : ((k_R_widths.drop 80).take 40).all (fun q => goodB RX12 false cX12_widths q.1 q.2) = true := by decide +kernel
theorem gk_R_widths : ∀ q ∈ k_R_widths, goodB RX12 false cX12_widths q.1 q.2 = true := fun q hq => (gk_step k_R_widths 0 40 gk_R_widths_0 (gk_step k_R_widths 40 40 gk_R_widths_1 (gk_step k_R_widths 80 40 gk_R_widths_2 (gk_end k_R_widths 120 (by decide +kernel))))) q hq
theorem gk_R_turns_0 : ((k_R_turns.drop 0).take 40).all (fun q => goodB RX12 false cX12_turns q.1 q.2) = true := by decide +kernel
theorem gk_R_turns_1 : ((k_R_turns.drop 40).take 40).all (fun q => goodB RX12 false cX12_turns q.1 q.2) = true := by decide +kernel
theorem gk_R_turns : ∀ q ∈ k_R_turns, goodB RX12 false cX12_turns q.1 q.2 = true := fun q hq => (gk_step k_R_turns 0 40 gk_R_turns_0 (gk_step k_R_turns 40 40 gk_R_turns_1 (gk_end k_R_turns 80 (by decide +kernel)))) q hq
theorem gk_R_closed_0 : ((k_R_closed.drop 0).take 40).all (fun q => goodB RX12 false cX12_closed q.1 q.2) = true := by decide +kernel
theorem gk_R_closed_1 : ((k_R_closed.drop 40).take 40).all (fun q => goodB RX12 false cX12_closed q.1 q.2) = true := by decide +kernel
theorem gk_R_closed_2 : ((k_R_closed.drop 80).take 40).all (fun q => goodB RX12 false cX12_closed q.1 q.2) = true := by decide +kernel
theorem gk_R_closed_3 : ((k_R_closed.drop 120).take 40).all (fun q => goodB RX12 false cX12_closed q.1 q.2) = true := by decide +kernel
theorem gk_R_closed_4 : ((k_R_closed.drop 160).take 40).all (fun q => goodB RX12 false cX12_closed q.1 q.2) = true := by decide +kernel
theorem gk_R_closed_5 : ((k_R_closed.drop 200).take 40).all (fun q => goodB RX12 false cX12_closed q.1 q.2) = true := by decide +kernel
theorem gk_R_closed_6 : ((k_R_closed.drop 240).take 40).all (fun q => goodB RX12 false cX12_closed q.1 q.2) = true := by decide +kernel
theorem gk_R_closed : ∀ q ∈ k_R_closed, goodB RX12 false cX12_closed q.1 q.2 = true := fun q hq => (gk_step k_R_closed 0 40 gk_R_closed_0 (gk_step k_R_closed 40 40 gk_R_closed_1 (gk_step k_R_closed 80 40 gk_R_closed_2 (gk_step k_R_closed 120 40 gk_R_closed_3 (gk_step k_R_closed 160 40 gk_R_closed_4 (gk_step k_R_closed 200 40 gk_R_closed_5 (gk_step k_R_closed 240 40 gk_R_closed_6 (gk_end k_R_closed 280 (by decide +kernel))))))))) q hq
theorem gk_R_way_0 : ((k_R_way.drop 0).take 40).all (fun q => goodB RX12 false cX12_way q.1 q.2) = true := by decide +kernel
theorem gk_R_way_1 : ((k_R_way.drop 40).take 40).all (fun q => goodB RX12 false cX12_way q.1 q.2) = true := by decide +kernel
theorem gk_R_way : ∀ q ∈ k_R_way, goodB RX12 false cX12_way q.1 q.2 = true := fun q hq => (gk_step k_R_way 0 40 gk_R_way_0 (gk_step k_R_way 40 40 gk_R_way_1 (gk_end k_R_way 80 (by decide +kernel)))) q hq
theorem gk_R_answer_0 : ((k_R_answer.drop 0).take 40).all (fun q => goodB RX12 false cX12_answer q.1 q.2) = true := by decide +kernel
theorem gk_R_answer_1 : ((k_R_answer.drop 40).take 40).all (fun q => goodB RX12 false cX12_answer q.1 q.2) = true := by decide +kernel
theorem gk_R_answer : ∀ q ∈ k_R_answer, goodB RX12 false cX12_answer q.1 q.2 = true := fun q hq => (gk_step k_R_answer 0 40 gk_R_answer_0 (gk_step k_R_answer 40 40 gk_R_answer_1 (gk_end k_R_answer 80 (by decide +kernel)))) q hq
theorem gk_R_bump_0 : ((k_R_bump.drop 0).take 40).all (fun q => goodB RX12 false cX12_bump q.1 q.2) = true := by decide +kernel
theorem gk_R_bump_1 : ((k_R_bump.drop 40).take 40).all (fun q => goodB RX12 false cX12_bump q.1 q.2) = true := by decide +kernel
theorem gk_R_bump_2 : ((k_R_bump.drop 80).take 40).all (fun q => goodB RX12 false cX12_bump q.1 q.2) = true := by decide +kernel
theorem gk_R_bump_3 : ((k_R_bump.drop 120).take 40).all (fun q => goodB RX12 false cX12_bump q.1 q.2) = true := by decide +kernel
theorem gk_R_bump_4 : ((k_R_bump.drop 160).take 40).all (fun q => goodB RX12 false cX12_bump q.1 q.2) = true := by decide +kernel
theorem gk_R_bump : ∀ q ∈ k_R_bump, goodB RX12 false cX12_bump q.1 q.2 = true := fun q hq => (gk_step k_R_bump 0 40 gk_R_bump_0 (gk_step k_R_bump 40 40 gk_R_bump_1 (gk_step k_R_bump 80 40 gk_R_bump_2 (gk_step k_R_bump 120 40 gk_R_bump_3 (gk_step k_R_bump 160 40 gk_R_bump_4 (gk_end k_R_bump 200 (by decide +kernel))))))) q hq
theorem gk_R_number_0 : ((k_R_number.drop 0).take 40).all (fun q => goodB RX12 false cX12_number q.1 q.2) = true := by decide +kernel
theorem gk_R_number : ∀ q ∈ k_R_number, goodB RX12 false cX12_number q.1 q.2 = true := List.all_eq_true.mp gk_R_number_0
theorem gk_R_isPrime_0 : ((k_R_isPrime.drop 0).take 40).all (fun q => goodB RX12 false cX12_isPrime q.1 q.2) = true := by decide +kernel
theorem gk_R_isPrime : ∀ q ∈ k_R_isPrime, goodB RX12 false cX12_isPrime q.1 q.2 = true := List.all_eq_true.mp gk_R_isPrime_0
theorem gk_R_by_0 : ((k_R_by.drop 0).take 40).all (fun q => goodB RX12 false cX12_by q.1 q.2) = true := by decide +kernel
theorem gk_R_by : ∀ q ∈ k_R_by, goodB RX12 false cX12_by q.1 q.2 = true := List.all_eq_true.mp gk_R_by_0
theorem gk_R_weighs_0 : ((k_R_weighs.drop 0).take 40).all (fun q => goodB RX12 false cX12_weighs q.1 q.2) = true := by decide +kernel
theorem gk_R_weighs_1 : ((k_R_weighs.drop 40).take 40).all (fun q => goodB RX12 false cX12_weighs q.1 q.2) = true := by decide +kernel
theorem gk_R_weighs : ∀ q ∈ k_R_weighs, goodB RX12 false cX12_weighs q.1 q.2 = true := fun q hq => (gk_step k_R_weighs 0 40 gk_R_weighs_0 (gk_step k_R_weighs 40 40 gk_R_weighs_1 (gk_end k_R_weighs 80 (by decide +kernel)))) q hq
theorem gk_R_rounds_0 : ((k_R_rounds.drop 0).take 40).all (fun q => goodB RX12 false cX12_rounds q.1 q.2) = true := by decide +kernel
theorem gk_R_rounds_1 : ((k_R_rounds.drop 40).take 40).all (fun q => goodB RX12 false cX12_rounds q.1 q.2) = true := by decide +kernel
theorem gk_R_rounds : ∀ q ∈ k_R_rounds, goodB RX12 false cX12_rounds q.1 q.2 = true := fun q hq => (gk_step k_R_rounds 0 40 gk_R_rounds_0 (gk_step k_R_rounds 40 40 gk_R_rounds_1 (gk_end k_R_rounds 80 (by decide +kernel)))) q hq
theorem gk_R_grid_0 : ((k_R_grid.drop 0).take 40).all (fun q => goodB RX12 false cX12_grid q.1 q.2) = true := by decide +kernel
theorem gk_R_grid_1 : ((k_R_grid.drop 40).take 40).all (fun q => goodB RX12 false cX12_grid q.1 q.2) = true := by decide +kernel
theorem gk_R_grid_2 : ((k_R_grid.drop 80).take 40).all (fun q => goodB RX12 false cX12_grid q.1 q.2) = true := by decide +kernel
theorem gk_R_grid : ∀ q ∈ k_R_grid, goodB RX12 false cX12_grid q.1 q.2 = true := fun q hq => (gk_step k_R_grid 0 40 gk_R_grid_0 (gk_step k_R_grid 40 40 gk_R_grid_1 (gk_step k_R_grid 80 40 gk_R_grid_2 (gk_end k_R_grid 120 (by decide +kernel))))) q hq
theorem gk_R_rows_0 : ((k_R_rows.drop 0).take 40).all (fun q => goodB RX12 false cX12_rows q.1 q.2) = true := by decide +kernel
theorem gk_R_rows : ∀ q ∈ k_R_rows, goodB RX12 false cX12_rows q.1 q.2 = true := List.all_eq_true.mp gk_R_rows_0
theorem gk_R_after_0 : ((k_R_after.drop 0).take 40).all (fun q => goodB RX12 false cX12_after q.1 q.2) = true := by decide +kernel
theorem gk_R_after_1 : ((k_R_after.drop 40).take 40).all (fun q => goodB RX12 false cX12_after q.1 q.2) = true := by decide +kernel
theorem gk_R_after : ∀ q ∈ k_R_after, goodB RX12 false cX12_after q.1 q.2 = true := fun q hq => (gk_step k_R_after 0 40 gk_R_after_0 (gk_step k_R_after 40 40 gk_R_after_1 (gk_end k_R_after 80 (by decide +kernel)))) q hq
theorem gk_R_count_0 : ((k_R_count.drop 0).take 40).all (fun q => goodB RX12 false cX12_count q.1 q.2) = true := by decide +kernel
theorem gk_R_count : ∀ q ∈ k_R_count, goodB RX12 false cX12_count q.1 q.2 = true := List.all_eq_true.mp gk_R_count_0
theorem gk_Jl_compare_0 : ((k_Jl_compare.drop 0).take 40).all (fun q => goodB RJ13 false cJ13_compare_74951 q.1 q.2) = true := by decide +kernel
theorem gk_Jl_compare : ∀ q ∈ k_Jl_compare, goodB RJ13 false cJ13_compare_74951 q.1 q.2 = true := List.all_eq_true.mp gk_Jl_compare_0
theorem gk_Jm_floorMod_0 : ((k_Jm_floorMod.drop 0).take 40).all (fun q => goodB RJ9 false cJ9_floorMod_7cf53 q.1 q.2) = true := by decide +kernel
theorem gk_Jm_floorMod : ∀ q ∈ k_Jm_floorMod, goodB RJ9 false cJ9_floorMod_7cf53 q.1 q.2 = true := List.all_eq_true.mp gk_Jm_floorMod_0
theorem gk_Jm_abs_0 : ((k_Jm_abs.drop 0).take 40).all (fun q => goodB RJ9 false cJ9_abs_067f4 q.1 q.2) = true := by decide +kernel
theorem gk_Jm_abs : ∀ q ∈ k_Jm_abs, goodB RJ9 false cJ9_abs_067f4 q.1 q.2 = true := List.all_eq_true.mp gk_Jm_abs_0
theorem gk_Jm_min_0 : ((k_Jm_min.drop 0).take 40).all (fun q => goodB RJ9 false cJ9_min_7cf53 q.1 q.2) = true := by decide +kernel
theorem gk_Jm_min : ∀ q ∈ k_Jm_min, goodB RJ9 false cJ9_min_7cf53 q.1 q.2 = true := List.all_eq_true.mp gk_Jm_min_0
theorem gk_Law_law_0 : ((k_Law_law.drop 0).take 40).all (fun q => goodB RL false cL_law q.1 q.2) = true := by decide +kernel
theorem gk_Law_law_1 : ((k_Law_law.drop 40).take 40).all (fun q => goodB RL false cL_law q.1 q.2) = true := by decide +kernel
theorem gk_Law_law_2 : ((k_Law_law.drop 80).take 40).all (fun q => goodB RL false cL_law q.1 q.2) = true := by decide +kernel
theorem gk_Law_law_3 : ((k_Law_law.drop 120).take 40).all (fun q => goodB RL false cL_law q.1 q.2) = true := by decide +kernel
theorem gk_Law_law_4 : ((k_Law_law.drop 160).take 40).all (fun q => goodB RL false cL_law q.1 q.2) = true := by decide +kernel
theorem gk_Law_law_5 : ((k_Law_law.drop 200).take 40).all (fun q => goodB RL false cL_law q.1 q.2) = true := by decide +kernel
theorem gk_Law_law_6 : ((k_Law_law.drop 240).take 40).all (fun q => goodB RL false cL_law q.1 q.2) = true := by decide +kernel
theorem gk_Law_law_7 : ((k_Law_law.drop 280).take 40).all (fun q => goodB RL false cL_law q.1 q.2) = true := by decide +kernel
theorem gk_Law_law_8 : ((k_Law_law.drop 320).take 40).all (fun q => goodB RL false cL_law q.1 q.2) = true := by decide +kernel
theorem gk_Law_law_9 : ((k_Law_law.drop 360).take 40).all (fun q => goodB RL false cL_law q.1 q.2) = true := by decide +kernel
theorem gk_Law_law_10 : ((k_Law_law.drop 400).take 40).all (fun q => goodB RL false cL_law q.1 q.2) = true := by decide +kernel
theorem gk_Law_law : ∀ q ∈ k_Law_law, goodB RL false cL_law q.1 q.2 = true := fun q hq => (gk_step k_Law_law 0 40 gk_Law_law_0 (gk_step k_Law_law 40 40 gk_Law_law_1 (gk_step k_Law_law 80 40 gk_Law_law_2 (gk_step k_Law_law 120 40 gk_Law_law_3 (gk_step k_Law_law 160 40 gk_Law_law_4 (gk_step k_Law_law 200 40 gk_Law_law_5 (gk_step k_Law_law 240 40 gk_Law_law_6 (gk_step k_Law_law 280 40 gk_Law_law_7 (gk_step k_Law_law 320 40 gk_Law_law_8 (gk_step k_Law_law 360 40 gk_Law_law_9 (gk_step k_Law_law 400 40 gk_Law_law_10 (gk_end k_Law_law 440 (by decide +kernel))))))))))))) q hq
