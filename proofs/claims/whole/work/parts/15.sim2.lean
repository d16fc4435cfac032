/-! ===== simulation: fields, arrays, new cells, switches ===== -/
theorem ldV_cv {lay : Nat → Nat → Nat} {L0 : Nat} {X : Cx} {σ : St} {s : State} {H : Heap} (hH : HW lay L0 X σ s H) {a b j : Nat} (h3 : 3 ≤ j) (hn : j < sN σ) (ht : gT σ j = a) (ha : a < 13) : cvV X (ldV lay σ (fty a b) j b) = slV X σ (fty a b) j b ∧ vOK σ (ldV lay σ (fty a b) j b) := by
  have hs : sty (gT σ j) b = fty a b := by rw [ht]; unfold sty; rw [if_pos ha]
  have hwt := hH.2.2.2.1
  have hlay := hH.2.2.2.2.1.2
  generalize fty a b = f at hs ⊢
  match f, hs with
  | 0, _ => exact ⟨rfl, trivial⟩
  | 1, _ => exact ⟨rfl, trivial⟩
  | 2, _ => exact ⟨rfl, trivial⟩
  | 3, _ => exact ⟨rfl, trivial⟩
  | t + 4, hs =>
    have hr : ldR lay σ j b = gR σ j b := by
      unfold ldR
      cases hl : lay j b with
      | zero => rfl
      | succ q =>
        have := hlay j b (by rw [hl]; exact Nat.succ_ne_zero q)
        rw [this, hl]
    have hok := hwt.2 j b t h3 hn hs
    show cvt X (ldR lay σ j b) = va_rf (rfO X (gR σ j b)) ∧ vOK σ (aO t (ldR lay σ j b))
    rw [hr]
    refine ⟨cvt_rf hok, ?_⟩
    rcases hok with h0 | ⟨h1, h2, h4⟩
    · exact Or.inl h0
    · refine Or.inr (Or.inr ⟨?_, h1, h2, h4⟩)
      have := hwt.1 _ h1 h2
      omega
theorem rOK_of {σ : St} {t v : Nat} (h : vOK σ (aO t v)) (ht : t ≠ 22) : rOK σ t v := by
  rcases h with h | ⟨h, -⟩ | ⟨-, h⟩
  · exact Or.inl h
  · exact absurd h ht
  · exact Or.inr h
theorem aO_ok {σ : St} {t r : Nat} (hwt : wt σ) (h : rOK σ t r) : vOK σ (aO t r) := by
  rcases h with h0 | ⟨h1, h2, h4⟩
  · exact Or.inl h0
  · refine Or.inr (Or.inr ⟨?_, h1, h2, h4⟩)
    have := hwt.1 _ h1 h2
    omega
section SIM2
variable {p : Program} {l : Launch} {e : Env} {R : Room} {s : State} {m : MethodId} {args : Array Value} {below : List Frame} {meth : Method} {c : Code} {Qm : State → Prop} {lay : Nat → Nat → Nat} {L0 : Nat} {X : Cx} {mid n0 s0 NT ST d rt : Nat} {Q : Option AV → St → Prop} {K : S4 → Prop} {cl : CLT}
variable {pc nx a b k dd : Nat} {w : Int32} {z : Int64} {tb : List (Int32 × Nat)} {ps : List Nat} {ls st : List AV} {σ : St} {A : Act}
theorem si_getfield (F : FX p s m meth c X mid) (hKS : ∀ q, K q → BS p l e R s m args below meth c Qm lay L0 X mid n0 s0 NT ST q) {n : Nat} (hd : decode (byOf mid) pc = .ok (.getfield n, 3)) (hg : goodI (yOf mid).cls (iniOf mid) pc (.getfield n, pc + 3, (a, b, k, dd), w, z, tb, ps) = true) (hA : act lay rt (.getfield n, pc + 3, (a, b, k, dd), w, z, tb, ps) ls st σ = some A) (h : stepP rtOf cl Q K (pc + 3) ls σ A) : BS p l e R s m args below meth c Qm lay L0 X mid n0 s0 NT ST (pc, ls, st, σ) := by
  obtain ⟨j, st, rfl, hA1⟩ := qO_some hA
  cases hA1
  have h : nn j (K (pc + 3, ls, ldV lay σ (fty a b) j b :: st, σ)) := h
  obtain ⟨hj, h⟩ := nn_to h
  obtain ⟨hB, hS⟩ := hKS _ h
  obtain ⟨g12, g3⟩ := Bool.and_eq_true_iff.mp hg
  obtain ⟨g1, g2⟩ := Bool.and_eq_true_iff.mp g12
  have hk : b < nF a := Nat.le_of_ble_eq_true g1
  have ha : a < 13 := Nat.le_of_ble_eq_true g2
  refine ⟨hB, fun n1 n2 H locs L hH hVS hL hv1 hv2 => ?_⟩
  obtain ⟨r1, r2, r3⟩ := ref_of (σ := σ) (t := a) (vh hv2) hj (by omega)
  obtain ⟨c1, c2⟩ := ldV_cv (b := b) hH r1 r2 r3 ha
  have hk2 := hS n1 n2 H locs L hH hVS hL hv1 (vc c2 (vt hv2))
  have hk2 : W p l e R s m args below meth c H locs (sN σ - n0) (sS σ - s0) Qm (F0 m (pc + 3) L (cvV X (ldV lay σ (fty a b) j b) :: st.map (cvV X))) := hk2
  rw [c1] at hk2
  show W p l e R s m args below meth c H locs (sN σ - n0) (sS σ - s0) Qm (F0 m pc L (cvt X j :: st.map (cvV X)))
  rw [cvt_ge r1]
  match k, g3 with
  | 0, g3 => exact h_get (nest := false) F.1 F.2.1 F.2.2.2.2.2.2.2 F.2.2.2.1 hH ha hk r1 r2 r3 g3 hd hk2
  | k + 1, g3 => exact h_get (nest := true) F.1 F.2.1 F.2.2.2.2.2.2.2 F.2.2.2.1 hH ha hk r1 r2 r3 g3 hd hk2
theorem si_putfield (F : FX p s m meth c X mid) (hsz : X.1 ≤ s.heap.size) (hKS : ∀ q, K q → BS p l e R s m args below meth c Qm lay L0 X mid n0 s0 NT ST q) {n : Nat} (hd : decode (byOf mid) pc = .ok (.putfield n, 3)) (hg : goodI (yOf mid).cls (iniOf mid) pc (.putfield n, pc + 3, (a, b, k, dd), w, z, tb, ps) = true) (hA : act lay rt (.putfield n, pc + 3, (a, b, k, dd), w, z, tb, ps) ls st σ = some A) (h : stepP rtOf cl Q K (pc + 3) ls σ A) : BS p l e R s m args below meth c Qm lay L0 X mid n0 s0 NT ST (pc, ls, st, σ) := by
  obtain ⟨g12, g3⟩ := Bool.and_eq_true_iff.mp hg
  obtain ⟨g1, g2⟩ := Bool.and_eq_true_iff.mp g12
  have hk : b < nF a := Nat.le_of_ble_eq_true g1
  have ha : a < 13 := Nat.le_of_ble_eq_true g2
  have hlk : putL (nthN ps 0) n a b k (yOf mid).cls (decide (meth.name = "<init>")) = true := by
    match k, g3 with
    | 0, g3 => exact g3
    | 1, g3 => exact g3
    | k + 2, g3 =>
      obtain ⟨l123, l4⟩ := Bool.and_eq_true_iff.mp g3
      obtain ⟨l12, l3⟩ := Bool.and_eq_true_iff.mp l123
      exact Bool.and_eq_true_iff.mpr ⟨Bool.and_eq_true_iff.mpr ⟨l12, decide_eq_true (F.2.2.2.2.2.2.1 l3)⟩, l4⟩
  have hty := tyM_ok a ha b hk
  have hA : (match fty a b with
    | 0 => qI st fun x st => qO a st fun j st => a1 j (pc + 3, ls, st, pI σ j b x)
    | 1 => qI st fun x st => qO a st fun j st => a2 j (x = 0 ∨ x = 1) (pc + 3, ls, st, pI σ j b x)
    | 2 => none
    | 3 => qJ st fun x st => qO a st fun j st => a1 j (pc + 3, ls, st, pL σ j b x)
    | t + 4 => qO t st fun v st => qO a st fun j st => a2 j (layC lay j b v) (pc + 3, ls, st, pR σ j b v)) = some A := hA
  cases hp : parseFieldDescriptor (tC a b).2.2.1 with
  | none =>
    rw [hp] at hty
    generalize fty a b = f at hty
    match f, hty with
    | 0, q => cases q
    | 1, q => cases q
    | 3, q => cases q
    | n + 4, q => cases q
  | some fy =>
  rw [hp] at hty
  generalize hf : fty a b = f at hty hA
  match f, hty, hA, hf with
  | 0, hty, hA, hf =>
    obtain ⟨x, st, rfl, hA1⟩ := qI_some hA
    obtain ⟨j, st, rfl, hA2⟩ := qO_some hA1
    cases hA2
    have h : nn j (K (pc + 3, ls, st, pI σ j b x)) := h
    obtain ⟨hj, h⟩ := nn_to h
    obtain ⟨hB, hS⟩ := hKS _ h
    cases Option.some.inj (of_decide_eq_true hty)
    refine ⟨hB, fun n1 n2 H locs L hH hVS hL hv1 hv2 => ?_⟩
    obtain ⟨r1, r2, r3⟩ := ref_of (σ := σ) (t := a) (vh (vt hv2)) hj (by omega)
    show W p l e R s m args below meth c H locs (sN σ - n0) (sS σ - s0) Qm (F0 m pc L (.int x :: cvt X j :: st.map (cvV X)))
    rw [cvt_ge r1]
    exact h_put F.1 F.2.1 F.2.2.2.2.2.2.2 F.2.2.2.1 hH hVS hsz ha hk r1 r2 r3 hlk hp rfl rfl (UpdAt_pI r1 hH.2.2.2.1 hH.2.2.2.2.1.2) r3 (by rw [hf]; show Value.int (gI (pI σ j b x) j b) = _; rw [gI_pI, if_pos ⟨rfl, rfl⟩]) (fun b' hb' => slV_pI _ _ _ (fun q => hb' q.2)) hd (fun H1 locs1 hH1 hS1 => hS n1 n2 H1 locs1 L hH1 hS1 hL hv1 (vt (vt hv2)))
  | 1, hty, hA, hf =>
    obtain ⟨x, st, rfl, hA1⟩ := qI_some hA
    obtain ⟨j, st, rfl, hA2⟩ := qO_some hA1
    cases hA2
    have h : nn j ((x = 0 ∨ x = 1) ∧ K (pc + 3, ls, st, pI σ j b x)) := h
    obtain ⟨hj, hx01, h⟩ := nn_to h
    obtain ⟨hB, hS⟩ := hKS _ h
    cases Option.some.inj (of_decide_eq_true hty)
    refine ⟨hB, fun n1 n2 H locs L hH hVS hL hv1 hv2 => ?_⟩
    obtain ⟨r1, r2, r3⟩ := ref_of (σ := σ) (t := a) (vh (vt hv2)) hj (by omega)
    show W p l e R s m args below meth c H locs (sN σ - n0) (sS σ - s0) Qm (F0 m pc L (.int x :: cvt X j :: st.map (cvV X)))
    rw [cvt_ge r1]
    exact h_put (ty := .boolean) (v := .int x) F.1 F.2.1 F.2.2.2.2.2.2.2 F.2.2.2.1 hH hVS hsz ha hk r1 r2 r3 hlk hp (by rcases hx01 with rfl | rfl <;> rfl) (by rcases hx01 with rfl | rfl <;> rfl) (UpdAt_pI r1 hH.2.2.2.1 hH.2.2.2.2.1.2) r3 (by rw [hf]; show Value.int (gI (pI σ j b x) j b) = _; rw [gI_pI, if_pos ⟨rfl, rfl⟩]) (fun b' hb' => slV_pI _ _ _ (fun q => hb' q.2)) hd (fun H1 locs1 hH1 hS1 => hS n1 n2 H1 locs1 L hH1 hS1 hL hv1 (vt (vt hv2)))
  | 3, hty, hA, hf =>
    obtain ⟨x, st, rfl, hA1⟩ := qJ_some hA
    obtain ⟨j, st, rfl, hA2⟩ := qO_some hA1
    cases hA2
    have h : nn j (K (pc + 3, ls, st, pL σ j b x)) := h
    obtain ⟨hj, h⟩ := nn_to h
    obtain ⟨hB, hS⟩ := hKS _ h
    cases Option.some.inj (of_decide_eq_true hty)
    refine ⟨hB, fun n1 n2 H locs L hH hVS hL hv1 hv2 => ?_⟩
    obtain ⟨r1, r2, r3⟩ := ref_of (σ := σ) (t := a) (vh (vt hv2)) hj (by omega)
    show W p l e R s m args below meth c H locs (sN σ - n0) (sS σ - s0) Qm (F0 m pc L (.long x :: cvt X j :: st.map (cvV X)))
    rw [cvt_ge r1]
    exact h_put F.1 F.2.1 F.2.2.2.2.2.2.2 F.2.2.2.1 hH hVS hsz ha hk r1 r2 r3 hlk hp rfl rfl (UpdAt_pL hH.2.2.2.1 hH.2.2.2.2.1.2) r3 (by rw [hf]; show Value.long (gL (pL σ j b x) j b) = _; rw [gL_pL, if_pos ⟨rfl, rfl⟩]) (fun b' hb' => slV_pL _ _ _ (fun q => hb' q.2)) hd (fun H1 locs1 hH1 hS1 => hS n1 n2 H1 locs1 L hH1 hS1 hL hv1 (vt (vt hv2)))
  | t + 4, hty, hA, hf =>
    obtain ⟨v, st, rfl, hA1⟩ := qO_some hA
    obtain ⟨j, st, rfl, hA2⟩ := qO_some hA1
    cases hA2
    have h : nn j (layC lay j b v ∧ K (pc + 3, ls, st, pR σ j b v)) := h
    obtain ⟨hj, hlc, h⟩ := nn_to h
    obtain ⟨hB, hS⟩ := hKS _ h
    refine ⟨hB, fun n1 n2 H locs L hH hVS hL hv1 hv2 => ?_⟩
    obtain ⟨r1, r2, r3⟩ := ref_of (σ := σ) (t := a) (vh (vt hv2)) hj (by omega)
    have ht22 : t ≠ 22 := by
      have : ∀ ci, ci < 13 → ∀ k, k < nF ci → fty ci k ≤ 25 := by decide +kernel
      have := this a ha b hk
      omega
    have hrv := rOK_of (vh hv2) ht22
    have hcv : cvV X (aO t v) = va_rf (rfO X v) := cvt_rf hrv
    show W p l e R s m args below meth c H locs (sN σ - n0) (sS σ - s0) Qm (F0 m pc L (cvV X (aO t v) :: cvt X j :: st.map (cvV X)))
    rw [cvt_ge r1, hcv]
    have hsty : sty (gT σ j) b = fty a b := by rw [r3]; unfold sty; rw [if_pos ha]
    have hn1 : narrow fy (va_rf (rfO X v)) = va_rf (rfO X v) := by
      match fy, hty with
      | .object _, _ => rfl
      | .array _, _ => rfl
    have hn2 : fits fy (va_rf (rfO X v)) = true := by
      unfold rfO
      match fy, hty with
      | .object _, _ => split <;> rfl
      | .array _, _ => split <;> rfl
    exact h_put F.1 F.2.1 F.2.2.2.2.2.2.2 F.2.2.2.1 hH hVS hsz ha hk r1 r2 r3 hlk hp hn1 hn2 (UpdAt_pR hH.2.2.2.1 hH.2.2.2.2.1.2 hlc (fun t' h' => by
      rw [hsty, hf] at h'
      have : t = t' := by omega
      rw [← this]; exact hrv)) r3 (by rw [hf]; show va_rf (rfO X (gR (pR σ j b v) j b)) = _; rw [gR_pR, if_pos ⟨rfl, rfl⟩]) (fun b' hb' => slV_pR _ _ _ (fun q => hb' q.2)) hd (fun H1 locs1 hH1 hS1 => hS n1 n2 H1 locs1 L hH1 hS1 hL hv1 (vt (vt hv2)))
theorem si_getstatic (F : FX p s m meth c X mid) (hsz : X.1 ≤ s.heap.size) (hKS : ∀ q, K q → BS p l e R s m args below meth c Qm lay L0 X mid n0 s0 NT ST q) {n : Nat} (hd : decode (byOf mid) pc = .ok (.getstatic n, 3)) (hg : goodI (yOf mid).cls (iniOf mid) pc (.getstatic n, pc + 3, (a, b, k, dd), w, z, tb, ps) = true) (hA : act lay rt (.getstatic n, pc + 3, (a, b, k, dd), w, z, tb, ps) ls st σ = some A) (h : stepP rtOf cl Q K (pc + 3) ls σ A) : BS p l e R s m args below meth c Qm lay L0 X mid n0 s0 NT ST (pc, ls, st, σ) := by
  cases hA
  obtain ⟨hB, hS⟩ := hKS _ h
  refine ⟨hB, fun n1 n2 H locs L hH hVS hL hv1 hv2 => ?_⟩
  have hk2 := hS n1 n2 H locs L hH hVS hL hv1 (vc (Or.inr (Or.inl ⟨rfl, Or.inr rfl⟩)) hv2)
  have hZ : va_Z RX11 "PRIMES" "[I" (.ref X.2.2.1) (fun q => X.1 ≤ q) s s.heap := hH.2.2.2.2.2.2.2.2.kept (fun q _ hq => (hVS.2.1 q (Nat.lt_of_lt_of_le (Nat.not_le.mp hq) hsz) hq).symm)
  match k, hg with
  | 0, hg => exact va_gets F.1 F.2.1 hZ hVS F.2.2.2.1 (F.2.2.2.2.2.2.2.2.get hg rfl args) (fun _ q => q) hd hk2
  | k + 1, hg => exact va_getsN F.1 F.2.1 hZ hVS F.2.2.2.1 (F.2.2.2.2.2.2.2.2.get hg rfl args) (fun _ q => q) hd hk2
end SIM2
