/-! ===== calls ===== -/
def QmC (lay : Nat → Nat → Nat) (L0 : Nat) (X : Cx) (v : Option AV) (τ : St) : Array Value → State → Outcome → State → Prop := fun _ st oc t => (oc = .returned (v.map (cvV X)) ∧ HW lay L0 X τ t t.heap ∧ ∀ w, v = some w → vOK τ w) ∧ va_F (fun q => X.1 ≤ q) st t
def PcC (lay : Nat → Nat → Nat) (L0 : Nat) (X : Cx) (σ : St) (args : List AV) : Array Value → State → Prop := va_Pc (args.map (cvV X)) (fun U => HW lay L0 X σ U U.heap ∧ TW X U)
abbrev rmD (d c s : Nat) : Room := { frames := d, cells := c, slots := s, locals := 39 * d }
abbrev wsM (mid : Nat) : List Cond := [.code (yOf mid) (byOf mid) (mlOf mid) (retOf mid)]
def CS (l : Launch) (lay : Nat → Nat → Nat) (L0 : Nat) (X : Cx) (d : Nat) : Prop := ∀ mid, mid < 172 → ∀ (args : List AV) (σ τ : St) (v : Option AV), Cl lay d mid args σ (eqQ v τ) → (∀ a ∈ args, vOK σ a) →
  Met l (yOf mid) (wsM mid) (rmD d (sN τ - sN σ) (sS τ - sS σ)) (PcC lay L0 X σ args) (QmC lay L0 X v τ) (sN τ - sN σ) (sS τ - sS σ) (fun q => X.1 ≤ q)
theorem PcC.blind {lay : Nat → Nat → Nat} {L0 : Nat} {X : Cx} {σ : St} {args : List AV} : FrameBlind (PcC lay L0 X σ args) := by
  intro a U g mk h
  obtain ⟨h1, h2, h3⟩ := h
  exact ⟨h1, HW.alike (u := U) (U := U.calling g mk a) (Vm.Alike.refl U.vm) h2, TW.warm (s := U) (U := U.calling g mk a) h3 (State.WarmedH.refl U)⟩
section CALLS
variable {p : Program} {l : Launch} {e : Env} {R : Room} {s : State} {m : MethodId} {args : Array Value} {below : List Frame} {meth : Method} {c : Code} {H : Heap} {locs : List Loc} {cells slots : Nat} {Q : State → Prop}
variable {pc : Nat} {L : Array Slot} {rest st0 : List Value} {X : Cx} {lay : Nat → Nat → Nat} {L0 : Nat} {σ τ : St} {mc ms : Nat} {a : Array Value} {v : Option AV}
theorem calG (hr : va_Run p l e R s m args below meth c H locs cells slots mc ms (F0 m pc L st0) rest (QmC lay L0 X v τ a) (fun q => X.1 ≤ q)) (hS : va_S (fun q => X.1 ≤ q) s.heap H locs)
    (kk : ∀ (H1 : Heap) (locs1 : List Loc), HW lay L0 X τ s H1 → (∀ w, v = some w → vOK τ w) → va_S (fun q => X.1 ≤ q) s.heap H1 locs1 → W p l e R s m args below meth c H1 locs1 (cells + mc) (slots + ms) Q (F0 m (pc + 3) L ((v.map (cvV X)).toList ++ rest))) : W p l e R s m args below meth c H locs cells slots Q (F0 m pc L st0) := by
  intro T hT Xs
  obtain ⟨v', st₀, t, T', Lo, h0, X', hL, e1, e2, ⟨⟨hv, hH, hvo⟩, hz, hk⟩, st⟩ := hr T hT Xs
  cases hv
  rw [h0] at hz hk
  have hal : t.vm.Alike s.vm := by rw [← e2]; exact X'.warmed.alike.symm
  obtain ⟨t2, a1, b1⟩ := kk T'.heap (locs ++ Lo) (by rw [e1]; exact hH.alike hal) hvo
    ⟨Nat.le_trans hS.1 (by rw [e1]; exact hz), fun q h1 h2 => by rw [e1, hk q (Nat.lt_of_lt_of_le h1 hS.1) h2]; exact hS.2.1 q h1 h2, fun q hq => by
      rcases List.mem_append.mp hq with h | h
      · exact hS.2.2 q h
      · exact hL q h⟩ T' rfl X'
  exact ⟨t2, st t2 a1, b1⟩
end CALLS
/-- what the tables say of a callee -/
theorem mChk_get {mid : Nat} (h : mid < 172) : ((yOf mid).cls ≠ "java/lang/invoke/MethodHandle" ∧ (yOf mid).cls ≠ "java/lang/invoke/VarHandle") ∧ (parseMethodDescriptor (yOf mid).desc).map (fun d => d.parameters.length) = some (nthN npL mid) ∧ gw (nthN ipL mid) (.initialized (yOf mid).cls) = true ∧ retOK (rtOf mid) (retOf mid) = true ∧ mlOf mid ≤ 20 := by
  have h1 := mChk_ok mid h
  unfold mChk at h1
  obtain ⟨a1, h1⟩ := Bool.and_eq_true_iff.mp h1
  obtain ⟨a2, h1⟩ := Bool.and_eq_true_iff.mp h1
  obtain ⟨a3, h1⟩ := Bool.and_eq_true_iff.mp h1
  obtain ⟨a4, a5⟩ := Bool.and_eq_true_iff.mp h1
  exact ⟨of_decide_eq_true a1, of_decide_eq_true a2, a3, a4, Nat.le_of_ble_eq_true a5⟩
theorem codeW {mid : Nat} (h : mid < 172) : (Cond.code (yOf mid) (byOf mid) (mlOf mid) (retOf mid)) ∈ lw_tbl := List.mem_of_getElem? (mc_all mid h)
theorem callB_of2 {R : Room} {s : State} {args : Array Value} {mid d mc ms : Nat} (hm : mid < 172) (hK : KW s) (hR : d + 1 ≤ R.frames ∧ 39 * (d + 1) ≤ R.locals) :
    (rmD d mc ms).cells = mc ∧ (rmD d mc ms).slots = ms ∧ (rmD d mc ms).frames + 1 ≤ R.frames ∧ 8 + (mlOf mid + 11) + (rmD d mc ms).locals ≤ R.locals ∧ (∀ w ∈ wsM mid, ∀ (a' : Array Value) (U : State), s.WarmedH U.vm → w.before a' U = true) ∧ Cond.code (yOf mid) (byOf mid) (mlOf mid) (retOf mid) ∈ wsM mid := by
  have hml := (mChk_get hm).2.2.2.2
  refine ⟨rfl, rfl, hR.1, ?_, fun w hw a' U hW => ?_, List.mem_cons_self⟩
  · show 8 + (mlOf mid + 11) + 39 * d ≤ R.locals
    have := hR.2
    omega
  · rcases List.mem_singleton.mp hw with rfl
    exact hK.warm hW _ (codeW hm) rfl a'
theorem sig_len {mid n : Nat} (hm : mid < 172) (hn : nthN npL mid = n) : ∀ sig, parseMethodDescriptor (yOf mid).desc = some sig → n = sig.parameters.length := by
  intro sig h
  have h2 := (mChk_get hm).2.1
  rw [h] at h2
  rw [← hn]
  exact (Option.some.inj h2).symm
section SIM4
variable {p : Program} {l : Launch} {e : Env} {R : Room} {s : State} {m : MethodId} {args : Array Value} {below : List Frame} {meth : Method} {c : Code} {Qm : State → Prop} {lay : Nat → Nat → Nat} {L0 : Nat} {X : Cx} {mid n0 s0 NT ST d rt : Nat} {Q : Option AV → St → Prop} {K : S4 → Prop}
variable {pc nx a b k dd : Nat} {w : Int32} {z : Int64} {tb : List (Int32 × Nat)} {ps : List Nat} {ls st : List AV} {σ : St} {A : Act}
/-- behind a call -/
theorem sim_call (F : FX p s m meth c X mid) (hRc : NT - n0 ≤ R.cells ∧ ST - s0 ≤ R.slots) (hCS : CS l lay L0 X d) (hKS : ∀ q, K q → BS p l e R s m args below meth c Qm lay L0 X mid n0 s0 NT ST q) (ha : a < 172) {as r : List AV} (hc : Cl lay d a as σ (ctn (rtOf a) (pc + 3) ls r K))
    (hrun : ∀ (τ : St) (v : Option AV) (H : Heap) (locs : List Loc) (L : Array Slot), Met l (yOf a) (wsM a) (rmD d (sN τ - sN σ) (sS τ - sS σ)) (PcC lay L0 X σ as) (QmC lay L0 X v τ) (sN τ - sN σ) (sS τ - sS σ) (fun q => X.1 ≤ q) → HW lay L0 X σ s H → Lc X (mlOf mid) ls L → (∀ v ∈ st, vOK σ v) → (sN σ - n0) + (sN τ - sN σ) ≤ R.cells ∧ (sS σ - s0) + (sS τ - sS σ) ≤ R.slots →
      va_Run p l e R s m args below meth c H locs (sN σ - n0) (sS σ - s0) (sN τ - sN σ) (sS τ - sS σ) (F0 m pc L (st.map (cvV X))) (r.map (cvV X)) (QmC lay L0 X v τ (as.map (cvV X)).toArray) (fun q => X.1 ≤ q)) (hst : ∃ x, st = x ++ r ∧ ∀ v ∈ as, v ∈ x) : BS p l e R s m args below meth c Qm lay L0 X mid n0 s0 NT ST (pc, ls, st, σ) := by
  obtain ⟨v, τ, hk, hx, hc1⟩ := Cl_det lay d _ _ _ _ hc
  obtain ⟨st', hK, -, rfl⟩ := ctn_det hk
  obtain ⟨hB, hS⟩ := hKS _ hK
  have hB1 : sN τ ≤ NT := hB.1
  have hB2 : sS τ ≤ ST := hB.2
  refine ⟨⟨Nat.le_trans hx.1 hB1, Nat.le_trans hx.2.1 hB2⟩, fun n1 n2 H locs L hH hVS hL hv1 hv2 => ?_⟩
  have n1 : n0 ≤ sN σ := n1
  have n2 : s0 ≤ sS σ := n2
  obtain ⟨x, rfl, hxa⟩ := hst
  have hv2 : ∀ v ∈ x ++ r, vOK σ v := hv2
  have hM := hCS a ha as σ τ v hc1 (fun v hv => hv2 v (List.mem_append_left _ (hxa v hv)))
  have e1 := hx.1
  have e2 := hx.2.1
  refine calG (hrun τ v H locs L hM hH hL hv2 ⟨by have := hRc.1; omega, by have := hRc.2; omega⟩) hVS (fun H1 locs1 hH1 hvo hS1 => ?_)
  have hk2 := hS (Nat.le_trans n1 hx.1) (Nat.le_trans n2 hx.2.1) H1 locs1 L hH1 hS1 hL (fun u hu => (hv1 u hu).ext hx) (fun u hu => by
    rcases List.mem_append.mp hu with q | q
    · exact hvo u (by simpa using q)
    · exact (hv2 u (List.mem_append_right _ q)).ext hx)
  have f1 : sN τ - n0 = sN σ - n0 + (sN τ - sN σ) := by omega
  have f2 : sS τ - s0 = sS σ - s0 + (sS τ - sS σ) := by omega
  have hk2 : W p l e R s m args below meth c H1 locs1 (sN τ - n0) (sS τ - s0) Qm (F0 m (pc + 3) L ((v.toList ++ r).map (cvV X))) := hk2
  rw [f1, f2, List.map_append] at hk2
  cases v with
  | none => exact hk2
  | some w => exact hk2
theorem si_invokestatic (F : FX p s m meth c X mid) (hR : d + 1 ≤ R.frames ∧ 39 * (d + 1) ≤ R.locals) (hRc : NT - n0 ≤ R.cells ∧ ST - s0 ≤ R.slots) (hCS : CS l lay L0 X d) (hKS : ∀ q, K q → BS p l e R s m args below meth c Qm lay L0 X mid n0 s0 NT ST q) (hlaw : a ≠ 172) {n : Nat} (hd : decode (byOf mid) pc = .ok (.invokestatic n, 3)) (hg : goodI (yOf mid).cls (iniOf mid) pc (.invokestatic n, pc + 3, (a, b, k, dd), w, z, tb, ps) = true) (hA : act lay rt (.invokestatic n, pc + 3, (a, b, k, dd), w, z, tb, ps) ls st σ = some A) (h : stepP rtOf (Cl lay d) Q K (pc + 3) ls σ A) : BS p l e R s m args below meth c Qm lay L0 X mid n0 s0 NT ST (pc, ls, st, σ) := by
  obtain ⟨as, r, rfl, hlen, hA1⟩ := pops_some _ _ _ hA
  obtain ⟨hcat, hA2⟩ := bif_some hA1
  cases hA2
  obtain ⟨g123, g4⟩ := Bool.and_eq_true_iff.mp hg
  obtain ⟨g12, g3⟩ := Bool.and_eq_true_iff.mp g123
  obtain ⟨g1, g2⟩ := Bool.and_eq_true_iff.mp g12
  have ha : a < 172 := by have : a + 1 ≤ 173 := Nat.le_of_ble_eq_true g1; omega
  have hnp : nthN npL a = b := Nat.eq_of_beq_eq_true g2
  have hlen : as.length = b := hlen
  have h : Cl lay d a (as.reverse ++ []) σ (ctn (rtOf a) (pc + 3) ls r K) := h
  rw [List.append_nil] at h
  have hKW := F.2.2.2.2.2.2.2.2
  refine sim_call F hRc hCS hKS ha h (fun τ v H locs L hM hH hL hv2 hf => ?_) ⟨as, rfl, fun v hv => List.mem_reverse.mp hv⟩
  obtain ⟨c1, c2, c3, c4, c5, c6⟩ := callB_of2 (args := args) (mc := sN τ - sN σ) (ms := sS τ - sS σ) ha hKW hR
  have hp : PreS s H (PcC lay L0 X σ as.reverse) (as.reverse.map (cvV X)) := ⟨PcC.blind, fun U hU hW => ⟨rfl, by rw [hU]; exact hH.alike hW.alike, F.2.2.2.2.2.2.2.warm hW⟩⟩
  have hstk : (F0 m pc L ((as ++ r).map (cvV X))).stack = (as.reverse.map (cvV X)).reverse ++ r.map (cvV X) := by simp
  have hroom : 2 * (F0 m pc L ((as ++ r).map (cvV X))).monitorRoom + ((r.map (cvV X)).map fun v => v.category).sum ≤ 8 := lv_room (by rw [catS_eq]; exact Nat.le_of_ble_eq_true hcat)
  have hn : (as.reverse.map (cvV X)).length = b := by simp [hlen]
  match k, g4 with
  | 0, g4 => exact va_runS (own := (yOf mid).cls) (nL := mlOf mid) (Ts := []) ⟨F.1, F.2.1, F.2.2.1, F.2.2.2.1, fun w hw => by cases hw⟩ hM ⟨⟨c1, c2, c3, c4, c5, c6, hKW _ (codeW ha) rfl args, hKW.get (mChk_get ha).2.2.1 rfl args, (mChk_get ha).1, sig_len ha hnp, hKW.get g4 rfl args⟩, hKW.get g3 rfl args⟩ hp rfl hn hL.1 hstk hroom hd hf
  | k + 1, g4 => exact va_runSN (own := (yOf mid).cls) (nL := mlOf mid) (Ts := []) (host := "MagnetRing") ⟨F.1, F.2.1, F.2.2.1, F.2.2.2.1, fun w hw => by cases hw⟩ hM ⟨⟨⟨c1, c2, c3, c4, c5, c6⟩, hKW _ (codeW ha) rfl args, hKW.get (mChk_get ha).2.2.1 rfl args, (mChk_get ha).1, sig_len ha hnp, hKW.get g4 rfl args⟩, hKW.get g3 rfl args, trivial⟩ hp rfl hn hL.1 hstk hroom hd hf
theorem si_invokevirtual (F : FX p s m meth c X mid) (hR : d + 1 ≤ R.frames ∧ 39 * (d + 1) ≤ R.locals) (hRc : NT - n0 ≤ R.cells ∧ ST - s0 ≤ R.slots) (hCS : CS l lay L0 X d) (hKS : ∀ q, K q → BS p l e R s m args below meth c Qm lay L0 X mid n0 s0 NT ST q) (hlaw : a ≠ 172) {n : Nat} (hd : decode (byOf mid) pc = .ok (.invokevirtual n, 3)) (hg : goodI (yOf mid).cls (iniOf mid) pc (.invokevirtual n, pc + 3, (a, b, k, dd), w, z, tb, ps) = true) (hA : act lay rt (.invokevirtual n, pc + 3, (a, b, k, dd), w, z, tb, ps) ls st σ = some A) (h : stepP rtOf (Cl lay d) Q K (pc + 3) ls σ A) : BS p l e R s m args below meth c Qm lay L0 X mid n0 s0 NT ST (pc, ls, st, σ) := by
  obtain ⟨as, r, rfl, hlen, hA1⟩ := pops_some _ _ _ hA
  rw [List.append_nil] at hA1
  obtain ⟨t, j, As, hrev, hA2⟩ : ∃ t j As, as.reverse = aO t j :: As ∧ (bif Nat.beq t dd && Nat.ble (catS r) 8 then a5 j a as.reverse r else none) = some A := by
    generalize hr : as.reverse = ar at hA1 ⊢
    match ar, hA1 with
    | .inr (.inr (.inr (t, j))) :: As, hA1 => exact ⟨t, j, As, rfl, hA1⟩
  obtain ⟨hcat, hA3⟩ := bif_some hA2
  cases hA3
  obtain ⟨htd, hcat⟩ := Bool.and_eq_true_iff.mp hcat
  have htd : t = dd := Nat.eq_of_beq_eq_true htd
  obtain ⟨g12345, g7⟩ := Bool.and_eq_true_iff.mp hg
  obtain ⟨g12345, g6⟩ := Bool.and_eq_true_iff.mp g12345
  obtain ⟨g1234, g5⟩ := Bool.and_eq_true_iff.mp g12345
  obtain ⟨g123, g4⟩ := Bool.and_eq_true_iff.mp g1234
  obtain ⟨g12, g3⟩ := Bool.and_eq_true_iff.mp g123
  obtain ⟨g1, g2⟩ := Bool.and_eq_true_iff.mp g12
  have ha : a < 172 := by have : a + 1 ≤ 173 := Nat.le_of_ble_eq_true g1; omega
  have hdd : dd < 13 := Nat.le_of_ble_eq_true g2
  have hnm : nmC dd = (yOf a).cls := of_decide_eq_true g3
  have hnp : nthN npL a + 1 = b := Nat.eq_of_beq_eq_true g4
  have hlen : as.length = b := hlen
  have h : nn j (Cl lay d a as.reverse σ (ctn (rtOf a) (pc + 3) ls r K)) := h
  obtain ⟨hj, h⟩ := nn_to h
  rw [hrev] at h
  have hKW := F.2.2.2.2.2.2.2.2
  have has : as = As.reverse ++ [aO t j] := by
    have := congrArg List.reverse hrev
    simpa using this
  refine sim_call F hRc hCS hKS ha h (fun τ v H locs L hM hH hL hv2 hf => ?_) ⟨as, rfl, fun v hv => List.mem_reverse.mp (by rw [hrev]; exact hv)⟩
  obtain ⟨r1, r2, r3⟩ := ref_of (σ := σ) (t := t) (hv2 (aO t j) (List.mem_append_left _ (by rw [has]; simp))) hj (by omega)
  obtain ⟨c1, c2, c3, c4, c5, c6⟩ := callB_of2 (args := args) (mc := sN τ - sN σ) (ms := sS τ - sS σ) ha hKW hR
  obtain ⟨T, ty, hvw, -⟩ := cls_ok dd hdd
  have he := conc_get (X := X) r1 r2
  rw [entO_obj (r3.trans htd) hdd] at he
  have hrecv := va_recv F.2.2.2.2.2.2.2.1 hH.1 hvw he
  have hmap : (aO t j :: As).map (cvV X) = .ref (X.1 + (j - 3)) :: As.map (cvV X) := by
    show cvt X j :: _ = _
    rw [cvt_ge r1]
  have hp : PreV s H (nmC dd) (X.1 + (j - 3)) (PcC lay L0 X σ (aO t j :: As)) (As.map (cvV X)) := ⟨PcC.blind, hrecv, fun U hU hW => ⟨by rw [hmap], by rw [hU]; exact hH.alike hW.alike, F.2.2.2.2.2.2.2.warm hW⟩⟩
  have hstk : (F0 m pc L ((as ++ r).map (cvV X))).stack = (As.map (cvV X)).reverse ++ .ref (X.1 + (j - 3)) :: r.map (cvV X) := by
    show (as ++ r).map (cvV X) = _
    rw [has]
    simp only [List.map_append, List.map_reverse, List.map_cons, List.map_nil, List.append_assoc, List.cons_append, List.nil_append]
    show _ ++ cvt X j :: _ = _
    rw [cvt_ge r1]
  have hroom : 2 * (F0 m pc L ((as ++ r).map (cvV X))).monitorRoom + ((r.map (cvV X)).map fun v => v.category).sum ≤ 8 := lv_room (by rw [catS_eq]; exact Nat.le_of_ble_eq_true hcat)
  have hn : (As.map (cvV X)).length = nthN npL a := by
    have h1 : as.length = As.length + 1 := by rw [has]; simp
    simp
    omega
  rw [hmap]
  match k, g7 with
  | 0, g7 => exact va_runV (own := (yOf mid).cls) (C := nmC dd) (nL := mlOf mid) (Ts := []) ⟨F.1, F.2.1, F.2.2.1, F.2.2.2.1, fun w hw => by cases hw⟩ hM ⟨⟨c1, c2, c3, c4, c5, c6, hKW _ (codeW ha) rfl args, hKW.get (mChk_get ha).2.2.1 rfl args, (mChk_get ha).1, sig_len ha rfl, hKW.get g7 rfl args⟩, hKW.get g5 rfl args, by rw [hnm]; exact hKW.get g6 rfl args⟩ hp rfl hn hL.1 hstk hroom hd hf
  | k + 1, g7 => exact va_runVN (own := (yOf mid).cls) (C := nmC dd) (nL := mlOf mid) (Ts := []) (host := "MagnetRing") ⟨F.1, F.2.1, F.2.2.1, F.2.2.2.1, fun w hw => by cases hw⟩ hM ⟨⟨⟨c1, c2, c3, c4, c5, c6⟩, hKW _ (codeW ha) rfl args, hKW.get (mChk_get ha).2.2.1 rfl args, (mChk_get ha).1, sig_len ha rfl, hKW.get g7 rfl args⟩, hKW.get g5 rfl args, by rw [hnm]; exact hKW.get g6 rfl args⟩ hp rfl hn hL.1 hstk hroom hd hf
theorem si_invokespecial (F : FX p s m meth c X mid) (hR : d + 1 ≤ R.frames ∧ 39 * (d + 1) ≤ R.locals) (hRc : NT - n0 ≤ R.cells ∧ ST - s0 ≤ R.slots) (hCS : CS l lay L0 X d) (hKS : ∀ q, K q → BS p l e R s m args below meth c Qm lay L0 X mid n0 s0 NT ST q) (hlaw : a ≠ 172) {n : Nat} (hd : decode (byOf mid) pc = .ok (.invokespecial n, 3)) (hg : goodI (yOf mid).cls (iniOf mid) pc (.invokespecial n, pc + 3, (a, b, k, dd), w, z, tb, ps) = true) (hA : act lay rt (.invokespecial n, pc + 3, (a, b, k, dd), w, z, tb, ps) ls st σ = some A) (h : stepP rtOf (Cl lay d) Q K (pc + 3) ls σ A) : BS p l e R s m args below meth c Qm lay L0 X mid n0 s0 NT ST (pc, ls, st, σ) := by
  have hKW := F.2.2.2.2.2.2.2.2
  by_cases hk6 : k = 6
  · subst hk6
    obtain ⟨t, j, r, rfl, hA1⟩ := qR_some hA
    obtain ⟨hcat, hA2⟩ := bif_some hA1
    cases hA2
    have h : nn j (K (pc + 3, ls, r, σ)) := h
    obtain ⟨hj, h⟩ := nn_to h
    obtain ⟨hB, hS⟩ := hKS _ h
    obtain ⟨g12, g3⟩ := Bool.and_eq_true_iff.mp hg
    obtain ⟨g1, g2⟩ := Bool.and_eq_true_iff.mp g12
    refine ⟨hB, fun n1 n2 H locs L hH hVS hL hv1 hv2 => ?_⟩
    have hk2 := hS n1 n2 H locs L hH hVS hL hv1 (vt hv2)
    show W p l e R s m args below meth c H locs (sN σ - n0) (sS σ - s0) Qm (F0 m pc L (cvt X j :: r.map (cvV X)))
    obtain ⟨q, hq⟩ := cvt_ne X hj
    rw [hq]
    have hcs : ((r.map (cvV X)).map fun v => v.category).sum ≤ 8 := by rw [catS_eq]; exact Nat.le_of_ble_eq_true hcat
    exact W.objInit F.1 F.2.1 F.2.2.2.1 (hKW.get g1 rfl args) (hKW.get g2 rfl args) (hKW.get g3 rfl args) rfl (by rw [F.2.2.1]; exact hL.1) rfl hd (by have := hR.1; omega) (by show 2 * 0 + _ + 12 ≤ _; have := hR.2; omega) hk2
  · have hA : (pops b [] st fun args st => (match args with
      | .inr (.inr (.inr (t, j))) :: _ => bif Nat.beq t dd && Nat.ble (catS st) 8 then a5 j a args st else none
      | _ => none)) = some A := by
      unfold act at hA
      dsimp only at hA
      split at hA
      · exact absurd rfl hk6
      · exact hA
    obtain ⟨as, r, rfl, hlen, hA1⟩ := pops_some _ _ _ hA
    rw [List.append_nil] at hA1
    obtain ⟨t, j, As, hrev, hA2⟩ : ∃ t j As, as.reverse = aO t j :: As ∧ (bif Nat.beq t dd && Nat.ble (catS r) 8 then a5 j a as.reverse r else none) = some A := by
      generalize hr : as.reverse = ar at hA1 ⊢
      match ar, hA1 with
      | .inr (.inr (.inr (t, j))) :: As, hA1 => exact ⟨t, j, As, rfl, hA1⟩
    obtain ⟨hcat, hA3⟩ := bif_some hA2
    cases hA3
    obtain ⟨htd, hcat⟩ := Bool.and_eq_true_iff.mp hcat
    obtain ⟨ga, gb, gc, gd, gf, glink⟩ : Nat.ble (a + 1) 173 = true ∧ Nat.beq (nthN npL a + 1) b = true ∧ decide ((yOf a).name = "<init>") = true ∧ gw (nthN ps 1) (.instanceMethod (yOf a)) = true ∧ Nat.beq (rtOf a) 0 = true ∧ (gw (nthN ps 0) (.methodLink (yOf mid).cls n (yOf a)) = true ∨ gw (nthN ps 0) (.methodLinkNest (yOf mid).cls n (yOf a) "MagnetRing") = true) := by
      unfold goodI at hg
      dsimp only at hg
      split at hg
      · exact absurd rfl hk6
      · obtain ⟨g12345, g6⟩ := Bool.and_eq_true_iff.mp hg
        obtain ⟨g1234, g5⟩ := Bool.and_eq_true_iff.mp g12345
        obtain ⟨g123, g4⟩ := Bool.and_eq_true_iff.mp g1234
        obtain ⟨g12, g3⟩ := Bool.and_eq_true_iff.mp g123
        obtain ⟨g1, g2⟩ := Bool.and_eq_true_iff.mp g12
        exact ⟨g1, g2, g3, g4, g6, Or.inl g5⟩
      · obtain ⟨g12345, g6⟩ := Bool.and_eq_true_iff.mp hg
        obtain ⟨g1234, g5⟩ := Bool.and_eq_true_iff.mp g12345
        obtain ⟨g123, g4⟩ := Bool.and_eq_true_iff.mp g1234
        obtain ⟨g12, g3⟩ := Bool.and_eq_true_iff.mp g123
        obtain ⟨g1, g2⟩ := Bool.and_eq_true_iff.mp g12
        exact ⟨g1, g2, g3, g4, g6, Or.inr g5⟩
    have ha : a < 172 := by have : a + 1 ≤ 173 := Nat.le_of_ble_eq_true ga; omega
    have hnp : nthN npL a + 1 = b := Nat.eq_of_beq_eq_true gb
    have hlen : as.length = b := hlen
    have h : nn j (Cl lay d a as.reverse σ (ctn (rtOf a) (pc + 3) ls r K)) := h
    obtain ⟨hj, h⟩ := nn_to h
    rw [hrev] at h
    have has : as = As.reverse ++ [aO t j] := by
      have := congrArg List.reverse hrev
      simpa using this
    have hret : retOf a = none := by
      have h1 := (mChk_get ha).2.2.2.1
      rw [Nat.eq_of_beq_eq_true gf] at h1
      exact of_decide_eq_true h1
    refine sim_call F hRc hCS hKS ha h (fun τ v H locs L hM hH hL hv2 hf => ?_) ⟨as, rfl, fun v hv => List.mem_reverse.mp (by rw [hrev]; exact hv)⟩
    obtain ⟨q, hq⟩ := cvt_ne X hj
    obtain ⟨c1, c2, c3, c4, c5, c6⟩ := callB_of2 (args := args) (mc := sN τ - sN σ) (ms := sS τ - sS σ) ha hKW hR
    have hmap : (aO t j :: As).map (cvV X) = .ref q :: As.map (cvV X) := by
      show cvt X j :: _ = _
      rw [hq]
    have hp : PreS s H (PcC lay L0 X σ (aO t j :: As)) (.ref q :: As.map (cvV X)) := ⟨PcC.blind, fun U hU hW => ⟨by rw [hmap], by rw [hU]; exact hH.alike hW.alike, F.2.2.2.2.2.2.2.warm hW⟩⟩
    have hstk : (F0 m pc L ((as ++ r).map (cvV X))).stack = (As.map (cvV X)).reverse ++ .ref q :: r.map (cvV X) := by
      show (as ++ r).map (cvV X) = _
      rw [has]
      simp only [List.map_append, List.map_reverse, List.map_cons, List.map_nil, List.append_assoc, List.cons_append, List.nil_append]
      show _ ++ cvt X j :: _ = _
      rw [hq]
    have hroom : 2 * (F0 m pc L ((as ++ r).map (cvV X))).monitorRoom + ((r.map (cvV X)).map fun v => v.category).sum ≤ 8 := lv_room (by rw [catS_eq]; exact Nat.le_of_ble_eq_true hcat)
    have hn : (As.map (cvV X)).length = nthN npL a := by
      have h1 : as.length = As.length + 1 := by rw [has]; simp
      simp
      omega
    rw [hmap]
    have hcode : (Cond.code (yOf a) (byOf a) (mlOf a) none).before args s = true := by
      have := hKW _ (codeW ha) rfl args
      rwa [hret] at this
    rw [hret] at c6
    rcases glink with g5 | g5
    · exact va_runI (own := (yOf mid).cls) (nL := mlOf mid) (Ts := []) ⟨F.1, F.2.1, F.2.2.1, F.2.2.2.1, fun w hw => by cases hw⟩ hM ⟨⟨c1, c2, c3, c4, c5, c6, hcode, hKW.get (mChk_get ha).2.2.1 rfl args, (mChk_get ha).1, sig_len ha rfl, hKW.get g5 rfl args⟩, of_decide_eq_true gc, hKW.get gd rfl args⟩ hp rfl hn hL.1 hstk hroom hd hf
    · exact va_runIN (own := (yOf mid).cls) (nL := mlOf mid) (Ts := []) (host := "MagnetRing") ⟨F.1, F.2.1, F.2.2.1, F.2.2.2.1, fun w hw => by cases hw⟩ hM ⟨⟨⟨c1, c2, c3, c4, c5, c6⟩, hcode, hKW.get (mChk_get ha).2.2.1 rfl args, (mChk_get ha).1, sig_len ha rfl, hKW.get g5 rfl args⟩, of_decide_eq_true gc, hKW.get gd rfl args⟩ hp rfl hn hL.1 hstk hroom hd hf
end SIM4
