/-! ===== simulation: arrays, new cells, switches ===== -/
section SIM3
variable {p : Program} {l : Launch} {e : Env} {R : Room} {s : State} {m : MethodId} {args : Array Value} {below : List Frame} {meth : Method} {c : Code} {Qm : State → Prop} {lay : Nat → Nat → Nat} {L0 : Nat} {X : Cx} {mid n0 s0 NT ST d rt : Nat} {Q : Option AV → St → Prop} {K : S4 → Prop} {cl : CLT}
variable {pc nx a b k dd : Nat} {w : Int32} {z : Int64} {tb : List (Int32 × Nat)} {ps : List Nat} {ls st : List AV} {σ : St} {A : Act}
theorem si_iaload (F : FX p s m meth c X mid) (hsz : X.1 ≤ s.heap.size) (hz0 : LZ lay L0) (hRc : NT - n0 ≤ R.cells ∧ ST - s0 ≤ R.slots) (hKS : ∀ q, K q → BS p l e R s m args below meth c Qm lay L0 X mid n0 s0 NT ST q)  (hd : decode (byOf mid) pc = .ok (.iaload, 1)) (hA : act lay rt (.iaload, pc + 1, (a, b, k, dd), w, z, tb, ps) ls st σ = some A) (h : stepP rtOf cl Q K (pc + 1) ls σ A) : BS p l e R s m args below meth c Qm lay L0 X mid n0 s0 NT ST (pc, ls, st, σ) := by
  obtain ⟨i, st, rfl, hA1⟩ := qI_some hA
  obtain ⟨t, j, st, rfl, hA2⟩ := qR_some hA1
  match t, hA2 with
  | 16, hA2 =>
    cases hA2
    have h : nn j (inb i (gN σ j) ∧ K (pc + 1, ls, aI (gI σ j (ix i)) :: st, σ)) := h
    obtain ⟨hj, hi, h⟩ := nn_to h
    obtain ⟨hB, hS⟩ := hKS _ h
    refine ⟨hB, fun n1 n2 H locs L hH hVS hL hv1 hv2 => ?_⟩
    obtain ⟨r1, r2, r3⟩ := ref_of (σ := σ) (t := 16) (vh (vt hv2)) hj (by decide)
    have hk2 := hS n1 n2 H locs L hH hVS hL hv1 (vc trivial (vt (vt hv2)))
    show W p l e R s m args below meth c H locs (sN σ - n0) (sS σ - s0) Qm (F0 m (pc) L (.int i :: cvt X j :: st.map (cvV X)))
    rw [cvt_ge r1]
    exact h_iald F.1 F.2.1 F.2.2.2.2.2.2.2 hH r1 r2 r3 hi hd hk2
  | 22, hA2 =>
    cases hA2
    have h : nn j (inb i (gN σ j) ∧ K (pc + 1, ls, aI (gI σ j (ix i)) :: st, σ)) := h
    obtain ⟨hj, hi, h⟩ := nn_to h
    obtain ⟨hB, hS⟩ := hKS _ h
    refine ⟨hB, fun n1 n2 H locs L hH hVS hL hv1 hv2 => ?_⟩
    rcases (vh (vt hv2) : vOK σ (aO 22 j)) with q | ⟨-, q | q⟩ | ⟨q, -⟩
    · exact absurd q hj
    · subst q
      exact h_xald F.1 F.2.1 hH.2.2.2.2.2.2.1 hi hd (hS n1 n2 H locs L hH hVS hL hv1 (vc trivial (vt (vt hv2))))
    · subst q
      exact h_tald F.1 F.2.1 hH.2.2.2.2.2.2.2.1 hi hd (hS n1 n2 H locs L hH hVS hL hv1 (vc trivial (vt (vt hv2))))
    · exact absurd rfl q
theorem si_baload (F : FX p s m meth c X mid) (hsz : X.1 ≤ s.heap.size) (hz0 : LZ lay L0) (hRc : NT - n0 ≤ R.cells ∧ ST - s0 ≤ R.slots) (hKS : ∀ q, K q → BS p l e R s m args below meth c Qm lay L0 X mid n0 s0 NT ST q)  (hd : decode (byOf mid) pc = .ok (.baload, 1)) (hA : act lay rt (.baload, pc + 1, (a, b, k, dd), w, z, tb, ps) ls st σ = some A) (h : stepP rtOf cl Q K (pc + 1) ls σ A) : BS p l e R s m args below meth c Qm lay L0 X mid n0 s0 NT ST (pc, ls, st, σ) := by
  obtain ⟨i, st, rfl, hA1⟩ := qI_some hA
  obtain ⟨t, j, st, rfl, hA2⟩ := qR_some hA1
  match t, hA2 with
  | 17, hA2 =>
    cases hA2
    have h : nn j (inb i (gN σ j) ∧ K (pc + 1, ls, aI (gI σ j (ix i)) :: st, σ)) := h
    obtain ⟨hj, hi, h⟩ := nn_to h
    obtain ⟨hB, hS⟩ := hKS _ h
    refine ⟨hB, fun n1 n2 H locs L hH hVS hL hv1 hv2 => ?_⟩
    obtain ⟨r1, r2, r3⟩ := ref_of (σ := σ) (t := 17) (vh (vt hv2)) hj (by decide)
    have hk2 := hS n1 n2 H locs L hH hVS hL hv1 (vc trivial (vt (vt hv2)))
    show W p l e R s m args below meth c H locs (sN σ - n0) (sS σ - s0) Qm (F0 m (pc) L (.int i :: cvt X j :: st.map (cvV X)))
    rw [cvt_ge r1]
    exact h_zald F.1 F.2.1 F.2.2.2.2.2.2.2 hH r1 r2 r3 hi hd hk2
  | 18, hA2 =>
    cases hA2
    have h : nn j (inb i (gN σ j) ∧ K (pc + 1, ls, aI (gI σ j (ix i)) :: st, σ)) := h
    obtain ⟨hj, hi, h⟩ := nn_to h
    obtain ⟨hB, hS⟩ := hKS _ h
    refine ⟨hB, fun n1 n2 H locs L hH hVS hL hv1 hv2 => ?_⟩
    obtain ⟨r1, r2, r3⟩ := ref_of (σ := σ) (t := 18) (vh (vt hv2)) hj (by decide)
    have hk2 := hS n1 n2 H locs L hH hVS hL hv1 (vc trivial (vt (vt hv2)))
    show W p l e R s m args below meth c H locs (sN σ - n0) (sS σ - s0) Qm (F0 m (pc) L (.int i :: cvt X j :: st.map (cvV X)))
    rw [cvt_ge r1]
    exact h_bald F.1 F.2.1 F.2.2.2.2.2.2.2 hH r1 r2 r3 hi hd hk2
theorem si_aaload (F : FX p s m meth c X mid) (hsz : X.1 ≤ s.heap.size) (hz0 : LZ lay L0) (hRc : NT - n0 ≤ R.cells ∧ ST - s0 ≤ R.slots) (hKS : ∀ q, K q → BS p l e R s m args below meth c Qm lay L0 X mid n0 s0 NT ST q)  (hd : decode (byOf mid) pc = .ok (.aaload, 1)) (hA : act lay rt (.aaload, pc + 1, (a, b, k, dd), w, z, tb, ps) ls st σ = some A) (h : stepP rtOf cl Q K (pc + 1) ls σ A) : BS p l e R s m args below meth c Qm lay L0 X mid n0 s0 NT ST (pc, ls, st, σ) := by
  obtain ⟨i, st, rfl, hA1⟩ := qI_some hA
  obtain ⟨t, j, st, rfl, hA2⟩ := qR_some hA1
  match t, hA2 with
  | 20, hA2 =>
    cases hA2
    have h : nn j (inb i (gN σ j) ∧ K (pc + 1, ls, aO 5 (gR σ j (ix i)) :: st, σ)) := h
    obtain ⟨hj, hi, h⟩ := nn_to h
    obtain ⟨hB, hS⟩ := hKS _ h
    refine ⟨hB, fun n1 n2 H locs L hH hVS hL hv1 hv2 => ?_⟩
    obtain ⟨r1, r2, r3⟩ := ref_of (σ := σ) (t := 20) (vh (vt hv2)) hj (by decide)
    have hok := hH.2.2.2.1.2 j (ix i) 5 r1 r2 (by rw [r3]; rfl)
    have hk2 := hS n1 n2 H locs L hH hVS hL hv1 (vc (aO_ok hH.2.2.2.1 hok) (vt (vt hv2)))
    have hk2 : W p l e R s m args below meth c H locs (sN σ - n0) (sS σ - s0) Qm (F0 m (pc + 1) L (cvt X (gR σ j (ix i)) :: st.map (cvV X))) := hk2
    rw [cvt_rf hok] at hk2
    show W p l e R s m args below meth c H locs (sN σ - n0) (sS σ - s0) Qm (F0 m (pc) L (.int i :: cvt X j :: st.map (cvV X)))
    rw [cvt_ge r1]
    exact h_aald F.1 F.2.1 F.2.2.2.2.2.2.2 hH r1 r2 r3 (by decide) hi hd hk2
  | 21, hA2 =>
    cases hA2
    have h : nn j (inb i (gN σ j) ∧ K (pc + 1, ls, aO 0 (gR σ j (ix i)) :: st, σ)) := h
    obtain ⟨hj, hi, h⟩ := nn_to h
    obtain ⟨hB, hS⟩ := hKS _ h
    refine ⟨hB, fun n1 n2 H locs L hH hVS hL hv1 hv2 => ?_⟩
    obtain ⟨r1, r2, r3⟩ := ref_of (σ := σ) (t := 21) (vh (vt hv2)) hj (by decide)
    have hok := hH.2.2.2.1.2 j (ix i) 0 r1 r2 (by rw [r3]; rfl)
    have hk2 := hS n1 n2 H locs L hH hVS hL hv1 (vc (aO_ok hH.2.2.2.1 hok) (vt (vt hv2)))
    have hk2 : W p l e R s m args below meth c H locs (sN σ - n0) (sS σ - s0) Qm (F0 m (pc + 1) L (cvt X (gR σ j (ix i)) :: st.map (cvV X))) := hk2
    rw [cvt_rf hok] at hk2
    show W p l e R s m args below meth c H locs (sN σ - n0) (sS σ - s0) Qm (F0 m (pc) L (.int i :: cvt X j :: st.map (cvV X)))
    rw [cvt_ge r1]
    exact h_aald F.1 F.2.1 F.2.2.2.2.2.2.2 hH r1 r2 r3 (by decide) hi hd hk2
theorem si_laload (F : FX p s m meth c X mid) (hsz : X.1 ≤ s.heap.size) (hz0 : LZ lay L0) (hRc : NT - n0 ≤ R.cells ∧ ST - s0 ≤ R.slots) (hKS : ∀ q, K q → BS p l e R s m args below meth c Qm lay L0 X mid n0 s0 NT ST q)  (hd : decode (byOf mid) pc = .ok (.laload, 1)) (hA : act lay rt (.laload, pc + 1, (a, b, k, dd), w, z, tb, ps) ls st σ = some A) (h : stepP rtOf cl Q K (pc + 1) ls σ A) : BS p l e R s m args below meth c Qm lay L0 X mid n0 s0 NT ST (pc, ls, st, σ) := by
  obtain ⟨i, st, rfl, hA1⟩ := qI_some hA
  obtain ⟨j, st, rfl, hA2⟩ := qO_some hA1
  cases hA2
  have h : nn j (inb i (gN σ j) ∧ K (pc + 1, ls, aJ (gL σ j (ix i)) :: st, σ)) := h
  obtain ⟨hj, hi, h⟩ := nn_to h
  obtain ⟨hB, hS⟩ := hKS _ h
  refine ⟨hB, fun n1 n2 H locs L hH hVS hL hv1 hv2 => ?_⟩
  obtain ⟨r1, r2, r3⟩ := ref_of (σ := σ) (t := 19) (vh (vt hv2)) hj (by decide)
  have hk2 := hS n1 n2 H locs L hH hVS hL hv1 (vc trivial (vt (vt hv2)))
  show W p l e R s m args below meth c H locs (sN σ - n0) (sS σ - s0) Qm (F0 m (pc) L (.int i :: cvt X j :: st.map (cvV X)))
  rw [cvt_ge r1]
  exact h_lald F.1 F.2.1 F.2.2.2.2.2.2.2 hH r1 r2 r3 hi hd hk2
theorem si_iastore (F : FX p s m meth c X mid) (hsz : X.1 ≤ s.heap.size) (hz0 : LZ lay L0) (hRc : NT - n0 ≤ R.cells ∧ ST - s0 ≤ R.slots) (hKS : ∀ q, K q → BS p l e R s m args below meth c Qm lay L0 X mid n0 s0 NT ST q)  (hd : decode (byOf mid) pc = .ok (.iastore, 1)) (hA : act lay rt (.iastore, pc + 1, (a, b, k, dd), w, z, tb, ps) ls st σ = some A) (h : stepP rtOf cl Q K (pc + 1) ls σ A) : BS p l e R s m args below meth c Qm lay L0 X mid n0 s0 NT ST (pc, ls, st, σ) := by
  obtain ⟨x, st, rfl, hA1⟩ := qI_some hA
  obtain ⟨i, st, rfl, hA2⟩ := qI_some hA1
  obtain ⟨j, st, rfl, hA3⟩ := qO_some hA2
  cases hA3
  have h : nn j (inb i (gN σ j) ∧ K (pc + 1, ls, st, pI σ j (ix i) x)) := h
  obtain ⟨hj, hi, h⟩ := nn_to h
  obtain ⟨hB, hS⟩ := hKS _ h
  refine ⟨hB, fun n1 n2 H locs L hH hVS hL hv1 hv2 => ?_⟩
  obtain ⟨r1, r2, r3⟩ := ref_of (σ := σ) (t := 16) (vh (vt (vt hv2))) hj (by decide)
  show W p l e R s m args below meth c H locs (sN σ - n0) (sS σ - s0) Qm (F0 m (pc) L (.int x :: .int i :: cvt X j :: st.map (cvV X)))
  rw [cvt_ge r1]
  exact h_iast F.1 F.2.1 F.2.2.2.2.2.2.2 hH hVS hsz r1 r2 r3 hi hd (fun H1 locs1 hH1 hS1 => hS n1 n2 H1 locs1 L hH1 hS1 hL hv1 (vt (vt (vt hv2))))
theorem si_lastore (F : FX p s m meth c X mid) (hsz : X.1 ≤ s.heap.size) (hz0 : LZ lay L0) (hRc : NT - n0 ≤ R.cells ∧ ST - s0 ≤ R.slots) (hKS : ∀ q, K q → BS p l e R s m args below meth c Qm lay L0 X mid n0 s0 NT ST q)  (hd : decode (byOf mid) pc = .ok (.lastore, 1)) (hA : act lay rt (.lastore, pc + 1, (a, b, k, dd), w, z, tb, ps) ls st σ = some A) (h : stepP rtOf cl Q K (pc + 1) ls σ A) : BS p l e R s m args below meth c Qm lay L0 X mid n0 s0 NT ST (pc, ls, st, σ) := by
  obtain ⟨x, st, rfl, hA1⟩ := qJ_some hA
  obtain ⟨i, st, rfl, hA2⟩ := qI_some hA1
  obtain ⟨j, st, rfl, hA3⟩ := qO_some hA2
  cases hA3
  have h : nn j (inb i (gN σ j) ∧ K (pc + 1, ls, st, pL σ j (ix i) x)) := h
  obtain ⟨hj, hi, h⟩ := nn_to h
  obtain ⟨hB, hS⟩ := hKS _ h
  refine ⟨hB, fun n1 n2 H locs L hH hVS hL hv1 hv2 => ?_⟩
  obtain ⟨r1, r2, r3⟩ := ref_of (σ := σ) (t := 19) (vh (vt (vt hv2))) hj (by decide)
  show W p l e R s m args below meth c H locs (sN σ - n0) (sS σ - s0) Qm (F0 m (pc) L (.long x :: .int i :: cvt X j :: st.map (cvV X)))
  rw [cvt_ge r1]
  exact h_last F.1 F.2.1 F.2.2.2.2.2.2.2 hH hVS hsz r1 r2 r3 hi hd (fun H1 locs1 hH1 hS1 => hS n1 n2 H1 locs1 L hH1 hS1 hL hv1 (vt (vt (vt hv2))))
theorem si_bastore (F : FX p s m meth c X mid) (hsz : X.1 ≤ s.heap.size) (hz0 : LZ lay L0) (hRc : NT - n0 ≤ R.cells ∧ ST - s0 ≤ R.slots) (hKS : ∀ q, K q → BS p l e R s m args below meth c Qm lay L0 X mid n0 s0 NT ST q)  (hd : decode (byOf mid) pc = .ok (.bastore, 1)) (hA : act lay rt (.bastore, pc + 1, (a, b, k, dd), w, z, tb, ps) ls st σ = some A) (h : stepP rtOf cl Q K (pc + 1) ls σ A) : BS p l e R s m args below meth c Qm lay L0 X mid n0 s0 NT ST (pc, ls, st, σ) := by
  obtain ⟨x, st, rfl, hA1⟩ := qI_some hA
  obtain ⟨i, st, rfl, hA2⟩ := qI_some hA1
  obtain ⟨t, j, st, rfl, hA3⟩ := qR_some hA2
  match t, hA3 with
  | 17, hA3 =>
    cases hA3
    have h : nn j (inb i (gN σ j) ∧ K (pc + 1, ls, st, pI σ j (ix i) (vp_nar .boolean x))) := h
    obtain ⟨hj, hi, h⟩ := nn_to h
    obtain ⟨hB, hS⟩ := hKS _ h
    refine ⟨hB, fun n1 n2 H locs L hH hVS hL hv1 hv2 => ?_⟩
    obtain ⟨r1, r2, r3⟩ := ref_of (σ := σ) (t := 17) (vh (vt (vt hv2))) hj (by decide)
    show W p l e R s m args below meth c H locs (sN σ - n0) (sS σ - s0) Qm (F0 m (pc) L (.int x :: .int i :: cvt X j :: st.map (cvV X)))
    rw [cvt_ge r1]
    exact h_zast F.1 F.2.1 F.2.2.2.2.2.2.2 hH hVS hsz r1 r2 r3 hi hd (fun H1 locs1 hH1 hS1 => hS n1 n2 H1 locs1 L hH1 hS1 hL hv1 (vt (vt (vt hv2))))
  | 18, hA3 =>
    cases hA3
    have h : nn j (inb i (gN σ j) ∧ K (pc + 1, ls, st, pI σ j (ix i) (vp_nar .byte x))) := h
    obtain ⟨hj, hi, h⟩ := nn_to h
    obtain ⟨hB, hS⟩ := hKS _ h
    refine ⟨hB, fun n1 n2 H locs L hH hVS hL hv1 hv2 => ?_⟩
    obtain ⟨r1, r2, r3⟩ := ref_of (σ := σ) (t := 18) (vh (vt (vt hv2))) hj (by decide)
    show W p l e R s m args below meth c H locs (sN σ - n0) (sS σ - s0) Qm (F0 m (pc) L (.int x :: .int i :: cvt X j :: st.map (cvV X)))
    rw [cvt_ge r1]
    exact h_bast F.1 F.2.1 F.2.2.2.2.2.2.2 hH hVS hsz r1 r2 r3 hi hd (fun H1 locs1 hH1 hS1 => hS n1 n2 H1 locs1 L hH1 hS1 hL hv1 (vt (vt (vt hv2))))
theorem si_aastore (F : FX p s m meth c X mid) (hsz : X.1 ≤ s.heap.size) (hz0 : LZ lay L0) (hRc : NT - n0 ≤ R.cells ∧ ST - s0 ≤ R.slots) (hKS : ∀ q, K q → BS p l e R s m args below meth c Qm lay L0 X mid n0 s0 NT ST q)  (hd : decode (byOf mid) pc = .ok (.aastore, 1)) (hA : act lay rt (.aastore, pc + 1, (a, b, k, dd), w, z, tb, ps) ls st σ = some A) (h : stepP rtOf cl Q K (pc + 1) ls σ A) : BS p l e R s m args below meth c Qm lay L0 X mid n0 s0 NT ST (pc, ls, st, σ) := by
  obtain ⟨tv, v, st, rfl, hA1⟩ := qR_some hA
  obtain ⟨i, st, rfl, hA2⟩ := qI_some hA1
  obtain ⟨t, j, st, rfl, hA3⟩ := qR_some hA2
  obtain ⟨hb, hA4⟩ := bif_some hA3
  obtain ⟨b12, b3⟩ := Bool.and_eq_true_iff.mp hb
  obtain ⟨b1, b2⟩ := Bool.and_eq_true_iff.mp b12
  have ht1 : 20 ≤ t := Nat.le_of_ble_eq_true b1
  have ht2 : t ≤ 21 := Nat.le_of_ble_eq_true b2
  have hel : elT t = tv := Nat.eq_of_beq_eq_true b3
  have ht : t = 20 ∨ t = 21 := by omega
  have htv : tv ≠ 22 := by
    rw [← hel]
    rcases ht with rfl | rfl <;> decide
  cases hA4
  have h : nn j ((inb i (gN σ j) ∧ layC lay j (ix i) v) ∧ K (pc + 1, ls, st, pR σ j (ix i) v)) := h
  obtain ⟨hj, ⟨hi, hlc⟩, h⟩ := nn_to h
  obtain ⟨hB, hS⟩ := hKS _ h
  refine ⟨hB, fun n1 n2 H locs L hH hVS hL hv1 hv2 => ?_⟩
  have hrv : rOK σ tv v := rOK_of (vh hv2) htv
  obtain ⟨r1, r2, r3⟩ := ref_of (σ := σ) (t := t) (vh (vt (vt hv2))) hj (by omega)
  show W p l e R s m args below meth c H locs (sN σ - n0) (sS σ - s0) Qm (F0 m (pc) L (cvt X v :: .int i :: cvt X j :: st.map (cvV X)))
  rw [cvt_ge r1, cvt_rf hrv]
  exact h_aast F.1 F.2.1 F.2.2.2.2.2.2.2 hH hVS hsz r1 r2 r3 ht (by rw [hel]; exact hrv) hlc hi hd (fun H1 locs1 hH1 hS1 => hS n1 n2 H1 locs1 L hH1 hS1 hL hv1 (vt (vt (vt hv2))))
theorem si_arraylength (F : FX p s m meth c X mid) (hsz : X.1 ≤ s.heap.size) (hz0 : LZ lay L0) (hRc : NT - n0 ≤ R.cells ∧ ST - s0 ≤ R.slots) (hKS : ∀ q, K q → BS p l e R s m args below meth c Qm lay L0 X mid n0 s0 NT ST q)  (hd : decode (byOf mid) pc = .ok (.arraylength, 1)) (hA : act lay rt (.arraylength, pc + 1, (a, b, k, dd), w, z, tb, ps) ls st σ = some A) (h : stepP rtOf cl Q K (pc + 1) ls σ A) : BS p l e R s m args below meth c Qm lay L0 X mid n0 s0 NT ST (pc, ls, st, σ) := by
  obtain ⟨t, j, st, rfl, hA1⟩ := qR_some hA
  obtain ⟨hb, hA2⟩ := bif_some hA1
  have ht1 : 16 ≤ t := Nat.le_of_ble_eq_true hb
  cases hA2
  have h : nn j (K (pc + 1, ls, aI (Int32.ofNat (gN σ j)) :: st, σ)) := h
  obtain ⟨hj, h⟩ := nn_to h
  obtain ⟨hB, hS⟩ := hKS _ h
  refine ⟨hB, fun n1 n2 H locs L hH hVS hL hv1 hv2 => ?_⟩
  have hk2 := hS n1 n2 H locs L hH hVS hL hv1 (vc trivial (vt hv2))
  show W p l e R s m args below meth c H locs (sN σ - n0) (sS σ - s0) Qm (F0 m (pc) L (cvt X j :: st.map (cvV X)))
  rcases (vh hv2 : vOK σ (aO t j)) with q | ⟨-, q | q⟩ | ⟨q, r1, r2, r3⟩
  · exact absurd q hj
  · subst q
    exact h_xlen F.1 F.2.1 hH.2.2.2.2.2.2.1 hd hk2
  · subst q
    exact h_tlen F.1 F.2.1 hH.2.2.2.2.2.2.2.1 hd hk2
  · have ht2 : gT σ j < 13 ∨ (16 ≤ gT σ j ∧ gT σ j ≤ 21) := hH.2.2.2.1.1 j r1 r2
    have r3 : gT σ j = t := r3
    rw [cvt_ge r1]
    exact h_alen F.1 F.2.1 F.2.2.2.2.2.2.2 hH r1 r2 r3 (by omega) hd hk2
theorem si_new (F : FX p s m meth c X mid) (hsz : X.1 ≤ s.heap.size) (hz0 : LZ lay L0) (hRc : NT - n0 ≤ R.cells ∧ ST - s0 ≤ R.slots) (hKS : ∀ q, K q → BS p l e R s m args below meth c Qm lay L0 X mid n0 s0 NT ST q) {n : Nat} (hd : decode (byOf mid) pc = .ok (.new n, 3)) (hg : goodI (yOf mid).cls (iniOf mid) pc (.new n, pc + 3, (a, b, k, dd), w, z, tb, ps) = true) (hA : act lay rt (.new n, pc + 3, (a, b, k, dd), w, z, tb, ps) ls st σ = some A) (h : stepP rtOf cl Q K (pc + 3) ls σ A) : BS p l e R s m args below meth c Qm lay L0 X mid n0 s0 NT ST (pc, ls, st, σ) := by
  cases hA
  have h : K (pc + 3, ls, aO a (sN σ) :: st, nw σ a (nF a)) := h
  obtain ⟨hB, hS⟩ := hKS _ h
  obtain ⟨g123, w2⟩ := Bool.and_eq_true_iff.mp hg
  obtain ⟨g12, w1⟩ := Bool.and_eq_true_iff.mp g123
  obtain ⟨g1, w0⟩ := Bool.and_eq_true_iff.mp g12
  have ha : a < 13 := Nat.le_of_ble_eq_true g1
  refine ⟨⟨Nat.le_trans (Nat.le_succ _) hB.1, Nat.le_trans (Nat.le_add_right _ _) hB.2⟩, fun n1 n2 H locs L hH hVS hL hv1 hv2 => ?_⟩
  have hc1 : sN σ - n0 + 1 ≤ R.cells := by
    have := hB.1
    have e : sN (nw σ a (nF a)) = sN σ + 1 := rfl
    have hB1 : sN (nw σ a (nF a)) ≤ NT := this
    have n1 : n0 ≤ sN σ := n1
    omega
  have hc2 : sS σ - s0 + nF a ≤ R.slots := by
    have hB2 : sS (nw σ a (nF a)) ≤ ST := hB.2
    have e : sS (nw σ a (nF a)) = sS σ + nF a := rfl
    have n2 : s0 ≤ sS σ := n2
    omega
  refine h_new F.1 F.2.1 F.2.2.2.2.2.2.2 F.2.2.2.1 hH hz0 hVS hsz ha w0 w1 w2 hc1 hc2 hd ?_
  intro H1 hH1 hS1
  have hx : Ext σ (nw σ a (nF a)) := Ext_nw _ _ _
  have n1a : n0 ≤ sN σ := n1
  have n2a : s0 ≤ sS σ := n2
  have hk2 := hS (Nat.le_trans n1a (Nat.le_succ _)) (Nat.le_trans n2a (Nat.le_add_right _ _)) H1 locs L hH1 hS1 hL (fun v hv => (hv1 v hv).ext hx) (vc (Or.inr (Or.inr ⟨by omega, hH.2.2.1, Nat.lt_succ_self _, by rw [gT_nw, if_pos rfl]⟩)) (fun v hv => (hv2 v hv).ext hx))
  have e1 : sN (nw σ a (nF a)) - n0 = sN σ - n0 + 1 := by rw [sN_nw]; omega
  have e2 : sS (nw σ a (nF a)) - s0 = sS σ - s0 + nF a := by rw [sS_nw]; omega
  have hk2 : W p l e R s m args below meth c H1 locs (sN (nw σ a (nF a)) - n0) (sS (nw σ a (nF a)) - s0) Qm (F0 m (pc + 3) L (cvt X (sN σ) :: st.map (cvV X))) := hk2
  rw [cvt_ge hH.2.2.1, e1, e2] at hk2
  exact hk2
theorem si_newarray (F : FX p s m meth c X mid) (hsz : X.1 ≤ s.heap.size) (hz0 : LZ lay L0) (hRc : NT - n0 ≤ R.cells ∧ ST - s0 ≤ R.slots) (hKS : ∀ q, K q → BS p l e R s m args below meth c Qm lay L0 X mid n0 s0 NT ST q) {n : ArrayType} (hd : decode (byOf mid) pc = .ok (.newarray n, 2)) (hg : goodI (yOf mid).cls (iniOf mid) pc (.newarray n, pc + 2, (a, b, k, dd), w, z, tb, ps) = true) (hA : act lay rt (.newarray n, pc + 2, (a, b, k, dd), w, z, tb, ps) ls st σ = some A) (h : stepP rtOf cl Q K (pc + 2) ls σ A) : BS p l e R s m args below meth c Qm lay L0 X mid n0 s0 NT ST (pc, ls, st, σ) := by
  obtain ⟨nn, st, rfl, hA1⟩ := qI_some hA
  cases hA1
  have h : (0 ≤ nn.toInt ∧ nn.toInt ≤ 40000) ∧ K (pc + 2, ls, aO a (sN σ) :: st, nw σ a (ix nn)) := h
  obtain ⟨hn, h⟩ := h
  obtain ⟨hB, hS⟩ := hKS _ h
  obtain ⟨g12, w0⟩ := Bool.and_eq_true_iff.mp hg
  obtain ⟨g1, g2⟩ := Bool.and_eq_true_iff.mp g12
  obtain ⟨g3, g4⟩ := Bool.and_eq_true_iff.mp g2
  have ha : 16 ≤ a ∧ a ≤ 19 := ⟨Nat.le_of_ble_eq_true g3, Nat.le_of_ble_eq_true g4⟩
  refine ⟨⟨Nat.le_trans (Nat.le_succ _) hB.1, Nat.le_trans (Nat.le_add_right _ _) hB.2⟩, fun n1 n2 H locs L hH hVS hL hv1 hv2 => ?_⟩
  have hc1 : sN σ - n0 + 1 ≤ R.cells := by
    have := hB.1
    have e : sN (nw σ a (ix nn)) = sN σ + 1 := rfl
    have hB1 : sN (nw σ a (ix nn)) ≤ NT := this
    have n1 : n0 ≤ sN σ := n1
    omega
  have hc2 : sS σ - s0 + ix nn ≤ R.slots := by
    have hB2 : sS (nw σ a (ix nn)) ≤ ST := hB.2
    have e : sS (nw σ a (ix nn)) = sS σ + ix nn := rfl
    have n2 : s0 ≤ sS σ := n2
    omega
  refine h_newa F.1 F.2.1 F.2.2.2.2.2.2.2 hH hz0 hVS hsz (of_decide_eq_true g1) ha w0 hn hc1 hc2 hd ?_
  intro H1 hH1 hS1
  have hx : Ext σ (nw σ a (ix nn)) := Ext_nw _ _ _
  have n1a : n0 ≤ sN σ := n1
  have n2a : s0 ≤ sS σ := n2
  have hk2 := hS (Nat.le_trans n1a (Nat.le_succ _)) (Nat.le_trans n2a (Nat.le_add_right _ _)) H1 locs L hH1 hS1 hL (fun v hv => (hv1 v hv).ext hx) (vc (Or.inr (Or.inr ⟨by omega, hH.2.2.1, Nat.lt_succ_self _, by rw [gT_nw, if_pos rfl]⟩)) (fun v hv => ((vt hv2) v hv).ext hx))
  have e1 : sN (nw σ a (ix nn)) - n0 = sN σ - n0 + 1 := by rw [sN_nw]; omega
  have e2 : sS (nw σ a (ix nn)) - s0 = sS σ - s0 + ix nn := by rw [sS_nw]; omega
  have hk2 : W p l e R s m args below meth c H1 locs (sN (nw σ a (ix nn)) - n0) (sS (nw σ a (ix nn)) - s0) Qm (F0 m (pc + 2) L (cvt X (sN σ) :: st.map (cvV X))) := hk2
  rw [cvt_ge hH.2.2.1, e1, e2] at hk2
  exact hk2
theorem si_anewarray (F : FX p s m meth c X mid) (hsz : X.1 ≤ s.heap.size) (hz0 : LZ lay L0) (hRc : NT - n0 ≤ R.cells ∧ ST - s0 ≤ R.slots) (hKS : ∀ q, K q → BS p l e R s m args below meth c Qm lay L0 X mid n0 s0 NT ST q) {n : Nat} (hd : decode (byOf mid) pc = .ok (.anewarray n, 3)) (hg : goodI (yOf mid).cls (iniOf mid) pc (.anewarray n, pc + 3, (a, b, k, dd), w, z, tb, ps) = true) (hA : act lay rt (.anewarray n, pc + 3, (a, b, k, dd), w, z, tb, ps) ls st σ = some A) (h : stepP rtOf cl Q K (pc + 3) ls σ A) : BS p l e R s m args below meth c Qm lay L0 X mid n0 s0 NT ST (pc, ls, st, σ) := by
  obtain ⟨nn, st, rfl, hA1⟩ := qI_some hA
  cases hA1
  have h : (0 ≤ nn.toInt ∧ nn.toInt ≤ 40000) ∧ K (pc + 3, ls, aO a (sN σ) :: st, nw σ a (ix nn)) := h
  obtain ⟨hn, h⟩ := h
  obtain ⟨hB, hS⟩ := hKS _ h
  obtain ⟨C, hC, w0, w1⟩ : ∃ C, (a = 20 ∧ C = RX5 ∨ a = 21 ∧ C = RX0) ∧ gw (nthN ps 0) (.classLink (yOf mid).cls n C) = true ∧ gw (nthN ps 1) (.arrayOver (.object C)) = true := by
    match a, hg with
    | 20, hg => exact ⟨RX5, Or.inl ⟨rfl, rfl⟩, (Bool.and_eq_true_iff.mp hg).1, (Bool.and_eq_true_iff.mp hg).2⟩
    | 21, hg => exact ⟨RX0, Or.inr ⟨rfl, rfl⟩, (Bool.and_eq_true_iff.mp hg).1, (Bool.and_eq_true_iff.mp hg).2⟩
  have ha : a = 20 ∨ a = 21 := hC.elim (fun q => Or.inl q.1) (fun q => Or.inr q.1)
  refine ⟨⟨Nat.le_trans (Nat.le_succ _) hB.1, Nat.le_trans (Nat.le_add_right _ _) hB.2⟩, fun n1 n2 H locs L hH hVS hL hv1 hv2 => ?_⟩
  have hc1 : sN σ - n0 + 1 ≤ R.cells := by
    have := hB.1
    have e : sN (nw σ a (ix nn)) = sN σ + 1 := rfl
    have hB1 : sN (nw σ a (ix nn)) ≤ NT := this
    have n1 : n0 ≤ sN σ := n1
    omega
  have hc2 : sS σ - s0 + ix nn ≤ R.slots := by
    have hB2 : sS (nw σ a (ix nn)) ≤ ST := hB.2
    have e : sS (nw σ a (ix nn)) = sS σ + ix nn := rfl
    have n2 : s0 ≤ sS σ := n2
    omega
  refine h_newq F.1 F.2.1 F.2.2.2.2.2.2.2 F.2.2.2.1 hH hz0 hVS hsz hC w0 w1 hn hc1 hc2 hd ?_
  intro H1 hH1 hS1
  have hx : Ext σ (nw σ a (ix nn)) := Ext_nw _ _ _
  have n1a : n0 ≤ sN σ := n1
  have n2a : s0 ≤ sS σ := n2
  have hk2 := hS (Nat.le_trans n1a (Nat.le_succ _)) (Nat.le_trans n2a (Nat.le_add_right _ _)) H1 locs L hH1 hS1 hL (fun v hv => (hv1 v hv).ext hx) (vc (Or.inr (Or.inr ⟨by omega, hH.2.2.1, Nat.lt_succ_self _, by rw [gT_nw, if_pos rfl]⟩)) (fun v hv => ((vt hv2) v hv).ext hx))
  have e1 : sN (nw σ a (ix nn)) - n0 = sN σ - n0 + 1 := by rw [sN_nw]; omega
  have e2 : sS (nw σ a (ix nn)) - s0 = sS σ - s0 + ix nn := by rw [sS_nw]; omega
  have hk2 : W p l e R s m args below meth c H1 locs (sN (nw σ a (ix nn)) - n0) (sS (nw σ a (ix nn)) - s0) Qm (F0 m (pc + 3) L (cvt X (sN σ) :: st.map (cvV X))) := hk2
  rw [cvt_ge hH.2.2.1, e1, e2] at hk2
  exact hk2
end SIM3
