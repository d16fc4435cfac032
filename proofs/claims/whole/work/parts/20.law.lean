/-! THE CLAIM OUT OF ONE WALK OF THE LAW'S BODY. Your part is whole_start (and what it stands on); all else here is the same for every law, but numbers. -/
def R_law : String := "MagnetRingLaw"
def lw_P (b : Addr) (xs : List Int32) (args : Array Value) (s : State) : Prop := args = #[.ref b] ∧ s.IntsAt b xs ∧ xs.length ≤ 2560 ∧ (Jvm.Cond.and given_1 narrow_1).before args s = true
def lw_Q (_ : Array Value) (s : State) (o : Outcome) (t : State) : Prop := o = .returned (some (.int 1)) ∧ Framed s o t [] 600000 7302250
def lw_Z (below : List Frame) (a : Array Value) (s : State) : State → Prop := fun t => ∃ o, t.status = .running ∧ Ended t below o ∧ lw_Q a s o t
/-- the law's own end, with 1 on the stack, nothing written that was there before, its room as the claim has it -/
theorem lw_ret {p : Program} {l : Launch} {e : Env} {s : State} {m : MethodId} {below : List Frame} {meth : Method} {c : Code} {b : Nat} (hx : p.tables.exec = Jvm.exec) (hb : c.code = code) (hr : meth.sig.returnType = ret) (hlocks : meth.locks = false) {pc : Nat} {H : Heap} {ls : Array Slot} (hdg : decode code pc = .ok (.ireturn, 1)) : W p l e room_1 s m #[Value.ref b] below meth c H [] 600000 7302250 (lw_Z below #[Value.ref b] s) (F0 m pc ls [.int 1]) := by
  intro T hT X
  obtain ⟨fs, hret, hrun, hended, hW, hframe⟩ := X.leave (v := some (.int 1)) (hlocks := hlocks) (fun h => by rw [hr] at h; cases h)
  have hmeth' : T.vm.method? m = some meth := X.method'
  refine ⟨T.setFrames fs, ?_, .returned (some (.int 1)), hrun, hended, rfl, ⟨_, rfl⟩, hW, hframe⟩
  jvm_step X.here [X.here.top, hx, hb, hdg, hmeth', hr, ret, narrow_b1]
  (try refine ⟨rfl, ?_⟩); (try refine ⟨rfl, ?_⟩)
  first | (intro acts; rw [hret _ acts rfl rfl rfl]) | rw [hret _ _ rfl rfl rfl]
  exact Steps.refl _
/-- what holds at the law's entry: the machine, the code, the tables' words (any of lw_tbl by 'hts w (by decide +kernel)'), the script of L ints xs at the cell b, what the Statement gives of the start (any of its parts by flat_of_before) -/
def lw_At (p : Program) (s : State) (m : MethodId) (meth : Method) (c : Code) (b L : Nat) (xs : Nat → Int32) : Prop :=
  p.tables.exec = Jvm.exec ∧ c.code = code ∧ meth.sig.returnType = ret ∧ c.maxLocals = 4 ∧ s.vm.findClass R_law = some m.cls ∧ (∀ w ∈ lw_tbl, w.before #[Value.ref b] s = true) ∧ va_X b L xs s s.heap ∧ b < s.heap.size ∧ meth.locks = false ∧ (Jvm.Cond.and given_1 narrow_1).before #[Value.ref b] s = true

/-! ===== the law's walk out of the abstract machine ===== -/
def ivL : List Nat := [191, 329, 543, 265, 243, 459, 80, 249, 183, 116, 86, 72, 866]
theorem inst_ok : ∀ ci, ci < 13 → gw (nthN ivL ci) (.instantiable (nmC ci) (nF ci)) = true := by decide +kernel
def prm (j : Nat) : Int32 := match j with
  | 0 => 3
  | 1 => 5
  | 2 => 7
  | 3 => 11
  | 4 => 13
  | 5 => 17
  | 6 => 19
  | 7 => 23
  | 8 => 29
  | _ => 31
/-- the state with which the law begins: nothing made yet -/
def st0 (L : Nat) (xs : Nat → Int32) : St := (3, 0, (fun _ => 0), (fun a => if a = 1 then L else 10), (fun a b => if a = 1 then xs b else prm b), (fun _ _ => 0), (fun _ _ => 0))
def lay0 : Nat → Nat → Nat := fun _ _ => 0
def LyOK (lay : Nat → Nat → Nat) (L1 : Nat) (σ : St) : Prop := L1 ≤ sN σ ∧ ∀ j k, lay j k ≠ 0 → gR σ j k = lay j k
/-- the law's end: true, within the room -/
def QL (v : Option AV) (σ : St) : Prop := v = some (aI 1) ∧ sN σ ≤ 600003 ∧ sS σ ≤ 7302250
theorem run_mono {lay : Nat → Nat → Nat} {rtm : Nat → Nat} {cl : CLT} (hm : Mono cl) {cd : List (Nat × En)} {rt : Nat} {Q : Option AV → St → Prop} {stops : List Nat} {P P' : S4 → Prop} (hP : ∀ s, P s → P' s) : ∀ (k : Nat) (s : S4), run lay rtm cl cd rt Q stops P k s → run lay rtm cl cd rt Q stops P' k s
  | 0, s, h => hP s h
  | k + 1, s, h => stepS_mono hm (fun _ _ q => q) (fun s' h' => by
      cases hb : mem s'.1 stops with
      | true => rw [hb] at h'; exact hP s' h'
      | false => rw [hb] at h'; exact run_mono hm hP k s' h') h
/-- the world at the law's entry -/
theorem law_world {p : Program} {s : State} {m : MethodId} {meth : Method} {c : Code} {b L : Nat} {xs : Nat → Int32} (C0 : lw_At p s m meth c b L xs) : ∃ X : Cx, X.1 = s.heap.size ∧ X.2.1 = b ∧ TW X s ∧ HW lay0 0 X (st0 L xs) s s.heap := by
  obtain ⟨hx, hb, hr, hml, hown, hts, hX, hbl, hlocks, hgv⟩ := C0
  have hKW : KW s := KW.of hts
  have hcls : ∀ ci : Nat, ∃ (cC : ClassId) (iS : Nat → Nat), ∀ q : vw_C, vwCl[ci]? = some q → u_Kn s q.1 q.2.1 q.2.2 cC iS := by
    intro ci
    by_cases h : ci < 13
    · obtain ⟨T, ty, hvw, hTk, hin, hty, hnm⟩ := cls_ok ci h
      obtain ⟨cC, iS, hK⟩ := u_known (C := nmC ci) (T := T) (N := nF ci) (n := nF ci) hts hin (hts _ (gw_mem (inst_ok ci h)))
      exact ⟨cC, iS, fun q hq => by rw [hvw] at hq; cases hq; exact hK⟩
    · exact ⟨0, fun _ => 0, fun q hq => by
        rw [List.getElem?_eq_none (by show 13 ≤ ci; omega)] at hq
        cases hq⟩
  have harr : ∀ (ty : FieldType), (Cond.arrayClass ty) ∈ lw_tbl → (∃ a, newarray.typeOf a = ty) → ∃ cA : ClassId, ArrOfT s cA ty ∧ va_RA s cA ty := by
    intro ty hw ha
    obtain ⟨cA, kA, comp, h1, h2, h3⟩ := Cond.arrayClass_spec (hts _ hw)
    obtain ⟨a, rfl⟩ := ha
    exact ⟨cA, fun n z => ⟨fun k h => (by cases h), kA, h2, comp, h3⟩, by cases a <;> exact h1⟩
  have harq : ∀ (C : String), (Cond.arrayOver (.object C)) ∈ lw_tbl → ∃ cA : ClassId, ArrOfT s cA (.object C) ∧ va_RA s cA (.object C) := by
    intro C hw
    obtain ⟨comp, cA, kA, h1, h2, h3, h4, h5⟩ := Cond.arrayOver_spec (hts _ hw)
    exact ⟨cA, fun n z => ⟨fun k h => (by cases h), kA, h3, comp, h4⟩, kA, comp, h3, h4, h1, h5⟩
  obtain ⟨c16, k16⟩ := harr .int (gw_mem (p := 181) (by decide +kernel)) ⟨.int, rfl⟩
  obtain ⟨c17, k17⟩ := harr .boolean (gw_mem (p := 364) (by decide +kernel)) ⟨.boolean, rfl⟩
  obtain ⟨c18, k18⟩ := harr .byte (gw_mem (p := 114) (by decide +kernel)) ⟨.byte, rfl⟩
  obtain ⟨c19, k19⟩ := harr .long (gw_mem (p := 1022) (by decide +kernel)) ⟨.long, rfl⟩
  obtain ⟨c20, k20⟩ := harq RX5 (gw_mem (p := 122) (by decide +kernel))
  obtain ⟨c21, k21⟩ := harq RX0 (gw_mem (p := 190) (by decide +kernel))
  have hs := flat_of_before _ hgv
  have hel : ∀ j : Nat, j < 10 → (Term.elem (.static "MagnetRing" "PRIMES" "[I") (.int (Int32.ofNat j))).eval #[Value.ref b] s none [] s = some (.int (prm j)) := by
    intro j hj
    match j, hj with
    | 0, _ => exact va_eqt (hs _ (by decide +kernel))
    | 1, _ => exact va_eqt (hs _ (by decide +kernel))
    | 2, _ => exact va_eqt (hs _ (by decide +kernel))
    | 3, _ => exact va_eqt (hs _ (by decide +kernel))
    | 4, _ => exact va_eqt (hs _ (by decide +kernel))
    | 5, _ => exact va_eqt (hs _ (by decide +kernel))
    | 6, _ => exact va_eqt (hs _ (by decide +kernel))
    | 7, _ => exact va_eqt (hs _ (by decide +kernel))
    | 8, _ => exact va_eqt (hs _ (by decide +kernel))
    | 9, _ => exact va_eqt (hs _ (by decide +kernel))
    | n + 10, h => exact absurd h (by omega)
  obtain ⟨pr, hpr, hT⟩ := va_Tof (args := #[Value.ref b]) (s := s) (tm := .static "MagnetRing" "PRIMES" "[I") (ty := .int) (N := 10) (f := fun j => .int (prm j)) (A := fun q => s.heap.size ≤ q) (by decide) (hs _ (by decide +kernel)) (va_eqt (hs _ (by decide +kernel))) hel (fun a ha => Nat.not_le.mpr ha)
  have hZ : va_Z RX11 "PRIMES" "[I" (.ref pr) (fun q => s.heap.size ≤ q) s s.heap := va_Zof (hts _ (gw_mem (p := 817) (w := .laysStatic RX11 "PRIMES" "[I") (by decide +kernel))) (hts _ (gw_mem (p := 56) (w := .initialized RX11) (by decide +kernel))) hpr (fun a ha => Nat.not_le.mpr ha)
  have hprl : pr < s.heap.size := by
    obtain ⟨cell, h1, -⟩ := hT
    exact (Array.getElem?_eq_some_iff.mp h1).1
  refine ⟨(s.heap.size, b, pr, (fun ci => (hcls ci).choose, fun ci => (hcls ci).choose_spec.choose), fun t => if t = 16 then c16 else if t = 17 then c17 else if t = 18 then c18 else if t = 19 then c19 else if t = 20 then c20 else c21), rfl, rfl, ⟨⟨fun ci q hq => (hcls ci).choose_spec.choose_spec q hq, fun k q hk => ?_⟩, hKW⟩, ?_⟩
  · match k, hk with
    | 0, hk => cases hk; exact k16
    | 1, hk => cases hk; exact k17
    | 2, hk => cases hk; exact k18
    | 3, hk => cases hk; exact k19
    | 4, hk => cases hk; exact k20
    | 5, hk => cases hk; exact k21
  · refine ⟨fun k q hk => ?_, rfl, Nat.le_refl 3, ⟨fun j h1 h2 => ?_, fun j k t h1 h2 => ?_⟩, ⟨Nat.zero_le _, fun j k h => absurd rfl h⟩, ⟨hbl, hprl⟩, hX, hT, hZ⟩
    · cases hk
    · have : j < 3 := h2
      omega
    · have : j < 3 := h2
      omega
set_option maxHeartbeats 4000000 in
/-- THE LAW OUT OF THE ABSTRACT MACHINE: constructors with no layout, then the loop with the layout -/
theorem law_sound {p : Program} {e : Env} {s : State} {m : MethodId} {below : List Frame} {meth : Method} {c : Code} (l : Launch) {b L : Nat} {xs : Nat → Int32} (C0 : lw_At p s m meth c b L xs) (lay1 : Nat → Nat → Nat) (L1 : Nat) (hz1 : LZ lay1 L1) (stops : List Nat) (k : Nat)
    (hp : run lay0 rtOf (Cl lay0 9) k_Law_law 2 QL stops (fun q => LyOK lay1 L1 q.2.2.2 ∧ Wp lay1 rtOf (Cl lay1 9) k_Law_law 2 QL q) k (0, [aO 22 1, aZ, aZ, aZ], [], st0 L xs)) :
    W p l e room_1 s m #[Value.ref b] below meth c s.heap [] 0 0 (lw_Z below #[Value.ref b] s) (entryFrame m ([Value.ref b] : List Value).toArray 4) := by
  obtain ⟨X, hX1, hX2, hT, hH⟩ := law_world C0
  obtain ⟨hx, hb, hr, hml, hown, hts, hX, hbl, hlocks, hgv⟩ := C0
  have F : FX p s m meth c X 172 := ⟨hx, hb, hml, hown, hlocks, hr, fun hi => absurd hi (by decide +kernel), hT⟩
  have hsz : X.1 ≤ s.heap.size := by rw [hX1]; exact Nat.le_refl _
  have hret : ∀ (lay : Nat → Nat → Nat) (L0 : Nat) (K : S4 → Prop) (ins : Instr) (pc nx a b' k dd : Nat) (w : Int32) (z : Int64) (tb : List (Int32 × Nat)) (ps : List Nat) (ls st : List AV) (σ : St) (A : Act), (ins = .ireturn ∨ ins = .lreturn ∨ ins = .areturn ∨ ins = .return_) → decode (byOf 172) pc = .ok (ins, 1) → act lay (rtOf 172) (ins, nx, (a, b', k, dd), w, z, tb, ps) ls st σ = some A → stepP rtOf (Cl lay 9) QL K nx ls σ A → BS p l e room_1 s m #[Value.ref b] below meth c (lw_Z below #[Value.ref b] s) lay L0 X 172 3 0 600003 7302250 (pc, ls, st, σ) := by
    intro lay L0 K ins pc nx a b' k dd w z tb ps ls st σ A hins hd hA h
    rcases hins with rfl | rfl | rfl | rfl
    · obtain ⟨x, r, rfl, hA1⟩ := qI_some hA
      obtain ⟨rfl, hA2⟩ := endS_some hA1
      have hA2 : a7 (x = 0 ∨ x = 1) (some (aI x)) = some A := hA2
      cases hA2
      obtain ⟨-, hv, h1, h2⟩ : (x = 0 ∨ x = 1) ∧ some (aI x) = some (aI 1) ∧ sN σ ≤ 600003 ∧ sS σ ≤ 7302250 := h
      cases hv
      refine ⟨⟨h1, h2⟩, fun n1 n2 H locs Lx hH hVS hL hv1 hv2 => ?_⟩
      refine va_forget (fun q hq => by have := hVS.2.2 q hq; rw [hX1] at this; exact this) ?_
      refine W.widen (k := 600000) (n := 7302250) (show sN σ - 3 ≤ 600000 by omega) (show sS σ - 0 ≤ 7302250 by omega) ?_
      exact lw_ret hx hb hr hlocks hd
    · obtain ⟨x, r, rfl, hA1⟩ := qJ_some hA
      obtain ⟨rfl, hA2⟩ := endS_some hA1
      have hA2 : (none : Option Act) = some A := hA2
      cases hA2
    · obtain ⟨t, j, r, rfl, hA1⟩ := qR_some hA
      obtain ⟨rfl, hA2⟩ := endS_some hA1
      have hA2 : (none : Option Act) = some A := hA2
      cases hA2
    · obtain ⟨rfl, hA2⟩ := endS_some hA
      have hA2 : (none : Option Act) = some A := hA2
      cases hA2
  have hR : 9 + 1 ≤ room_1.frames ∧ 39 * (9 + 1) ≤ room_1.locals := ⟨by decide, by decide⟩
  have hRc : 600003 - 3 ≤ room_1.cells ∧ 7302250 - 0 ≤ room_1.slots := ⟨by decide, by decide⟩
  have cl1 : ∀ q, Wp lay1 rtOf (Cl lay1 9) k_Law_law 2 QL q → BS p l e room_1 s m #[Value.ref b] below meth c (lw_Z below #[Value.ref b] s) lay1 L1 X 172 3 0 600003 7302250 q := fun q h => h _ (fun q hq => sim_step (mid := 172) (d := 9) F (by decide) hsz hz1 hR hRc (cs_all l lay1 L1 X hz1 9) (fun _ h => h) (hret lay1 L1 _) hq)
  have hz0 : LZ lay0 0 := fun _ _ _ => rfl
  have cl0 : ∀ q, stepS lay0 rtOf (Cl lay0 9) k_Law_law 2 QL (BS p l e room_1 s m #[Value.ref b] below meth c (lw_Z below #[Value.ref b] s) lay0 0 X 172 3 0 600003 7302250) q → BS p l e room_1 s m #[Value.ref b] below meth c (lw_Z below #[Value.ref b] s) lay0 0 X 172 3 0 600003 7302250 q := fun q hq => sim_step (mid := 172) (d := 9) F (by decide) hsz hz0 hR hRc (cs_all l lay0 0 X hz0 9) (fun _ h => h) (hret lay0 0 _) hq
  have key := run_to (Cl_mono lay0 9) cl0 k _ (run_mono (Cl_mono lay0 9) (P' := BS p l e room_1 s m #[Value.ref b] below meth c (lw_Z below #[Value.ref b] s) lay0 0 X 172 3 0 600003 7302250) (fun q h => by
    obtain ⟨hly, hw⟩ := h
    obtain ⟨h1, h2⟩ := cl1 q hw
    refine ⟨h1, fun n1 n2 H locs Lx hH hVS hL hv1 hv2 => h2 n1 n2 H locs Lx ?_ hVS hL hv1 hv2⟩
    obtain ⟨g1, g2, g3, g4, g5, g6⟩ := hH
    exact ⟨g1, g2, g3, g4, hly, g6⟩) k _ hp)
  have hcv : ([aO 22 1] : List AV).map (cvV X) = [Value.ref b] := by
    show [cvt X 1] = _
    unfold cvt
    rw [if_neg (by decide), if_pos rfl, hX2]
  have hL := Lc_entry X (n := 4) (args := [aO 22 1]) (by decide)
  rw [hcv] at hL
  have hw := key.2 (Nat.le_refl 3) (Nat.le_refl 0) s.heap [] _ hH va_S.rf hL (fun v hv => by
    rcases List.mem_cons.mp hv with rfl | hv
    · exact Or.inr (Or.inl ⟨rfl, Or.inl rfl⟩)
    · rcases List.mem_cons.mp hv with rfl | hv
      · trivial
      · rcases List.mem_cons.mp hv with rfl | hv
        · trivial
        · rcases List.mem_cons.mp hv with rfl | hv
          · trivial
          · cases hv) (fun v hv => by cases hv)
  rw [lg_entry_eq]
  exact hw
