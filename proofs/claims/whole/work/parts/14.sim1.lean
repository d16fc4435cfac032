/-! ===== simulation, instruction by instruction ===== -/
def FX (p : Program) (s : State) (m : MethodId) (meth : Method) (c : Code) (X : Cx) (mid : Nat) : Prop := p.tables.exec = Jvm.exec ∧ c.code = byOf mid ∧ c.maxLocals = mlOf mid ∧ s.vm.findClass (yOf mid).cls = some m.cls ∧ meth.locks = false ∧ meth.sig.returnType = retOf mid ∧ (iniOf mid = true → meth.name = "<init>") ∧ TW X s
def SM (p : Program) (l : Launch) (e : Env) (R : Room) (s : State) (m : MethodId) (args : Array Value) (below : List Frame) (meth : Method) (c : Code) (Qm : State → Prop) (lay : Nat → Nat → Nat) (L0 : Nat) (X : Cx) (mid n0 s0 : Nat) (q : S4) : Prop := n0 ≤ sN q.2.2.2 → s0 ≤ sS q.2.2.2 → ∀ (H : Heap) (locs : List Loc) (L : Array Slot), HW lay L0 X q.2.2.2 s H → va_S (fun a => X.1 ≤ a) s.heap H locs → Lc X (mlOf mid) q.2.1 L → (∀ v ∈ q.2.1, vOK q.2.2.2 v) → (∀ v ∈ q.2.2.1, vOK q.2.2.2 v) → W p l e R s m args below meth c H locs (sN q.2.2.2 - n0) (sS q.2.2.2 - s0) Qm (F0 m q.1 L (q.2.2.1.map (cvV X)))
def BS (p : Program) (l : Launch) (e : Env) (R : Room) (s : State) (m : MethodId) (args : Array Value) (below : List Frame) (meth : Method) (c : Code) (Qm : State → Prop) (lay : Nat → Nat → Nat) (L0 : Nat) (X : Cx) (mid n0 s0 NT ST : Nat) (q : S4) : Prop := (sN q.2.2.2 ≤ NT ∧ sS q.2.2.2 ≤ ST) ∧ SM p l e R s m args below meth c Qm lay L0 X mid n0 s0 q
theorem vt {P : AV → Prop} {a : AV} {l : List AV} (h : ∀ v ∈ a :: l, P v) : ∀ v ∈ l, P v := fun v hv => h v (List.mem_cons_of_mem _ hv)
theorem vh {P : AV → Prop} {a : AV} {l : List AV} (h : ∀ v ∈ a :: l, P v) : P a := h a List.mem_cons_self
theorem vc {P : AV → Prop} {a : AV} {l : List AV} (ha : P a) (h : ∀ v ∈ l, P v) : ∀ v ∈ a :: l, P v := fun v hv => (List.mem_cons.mp hv).elim (fun e => e ▸ ha) (h v)
theorem cvt_cases (X : Cx) (j : Nat) : cvt X j = .null ∨ ∃ q, cvt X j = .ref q := by
  unfold cvt
  split
  · exact Or.inl rfl
  · split
    · exact Or.inr ⟨_, rfl⟩
    · split
      · exact Or.inr ⟨_, rfl⟩
      · exact Or.inr ⟨_, rfl⟩
theorem cvt_ne (X : Cx) {j : Nat} (h : j ≠ 0) : ∃ q, cvt X j = .ref q := by
  unfold cvt
  rw [if_neg h]
  split
  · exact ⟨_, rfl⟩
  · split
    · exact ⟨_, rfl⟩
    · exact ⟨_, rfl⟩
theorem sto2_mem {P : AV → Prop} (hz : P aZ) (ls : List AV) (i : Nat) (v : AV) (hv : P v) (h : ∀ x ∈ ls, P x) : ∀ x ∈ sto2 ls i v, P x := by
  intro x hx
  rcases List.mem_or_eq_of_mem_set hx with h1 | h1
  · exact sto_mem hz ls i v hv h x h1
  · rw [h1]; exact hz
section SIM
variable {p : Program} {l : Launch} {e : Env} {R : Room} {s : State} {m : MethodId} {args : Array Value} {below : List Frame} {meth : Method} {c : Code} {Qm : State → Prop} {lay : Nat → Nat → Nat} {L0 : Nat} {X : Cx} {mid n0 s0 NT ST d rt : Nat} {Q : Option AV → St → Prop} {K : S4 → Prop} {cl : CLT}
variable {pc nx a b k dd : Nat} {w : Int32} {z : Int64} {tb : List (Int32 × Nat)} {ps : List Nat} {ls st : List AV} {σ : St} {A : Act}
theorem si_iconst (F : FX p s m meth c X mid) (hKS : ∀ q, K q → BS p l e R s m args below meth c Qm lay L0 X mid n0 s0 NT ST q) {n : Int} (hd : decode (byOf mid) pc = .ok (.iconst n, 1)) (hv : Int32.ofInt n = w) (hA : act lay rt (.iconst n, pc + 1, (a, b, k, dd), w, z, tb, ps) ls st σ = some A) (h : stepP rtOf cl Q K (pc + 1) ls σ A) : BS p l e R s m args below meth c Qm lay L0 X mid n0 s0 NT ST (pc, ls, st, σ) := by
  cases hA
  obtain ⟨hB, hS⟩ := hKS _ h
  refine ⟨hB, fun n1 n2 H locs L hH hVS hL hv1 hv2 => ?_⟩
  exact lv_iconst F.1 F.2.1 hd hv (hS n1 n2 H locs L hH hVS hL hv1 (vc trivial hv2))
theorem si_bipush (F : FX p s m meth c X mid) (hKS : ∀ q, K q → BS p l e R s m args below meth c Qm lay L0 X mid n0 s0 NT ST q) {n : Int} (hd : decode (byOf mid) pc = .ok (.bipush n, 2)) (hv : (Int8.ofInt n).toInt32 = w) (hA : act lay rt (.bipush n, pc + 2, (a, b, k, dd), w, z, tb, ps) ls st σ = some A) (h : stepP rtOf cl Q K (pc + 2) ls σ A) : BS p l e R s m args below meth c Qm lay L0 X mid n0 s0 NT ST (pc, ls, st, σ) := by
  cases hA
  obtain ⟨hB, hS⟩ := hKS _ h
  refine ⟨hB, fun n1 n2 H locs L hH hVS hL hv1 hv2 => ?_⟩
  exact lv_bipush F.1 F.2.1 hd hv (hS n1 n2 H locs L hH hVS hL hv1 (vc trivial hv2))
theorem si_sipush (F : FX p s m meth c X mid) (hKS : ∀ q, K q → BS p l e R s m args below meth c Qm lay L0 X mid n0 s0 NT ST q) {n : Int} (hd : decode (byOf mid) pc = .ok (.sipush n, 3)) (hv : (Int16.ofInt n).toInt32 = w) (hA : act lay rt (.sipush n, pc + 3, (a, b, k, dd), w, z, tb, ps) ls st σ = some A) (h : stepP rtOf cl Q K (pc + 3) ls σ A) : BS p l e R s m args below meth c Qm lay L0 X mid n0 s0 NT ST (pc, ls, st, σ) := by
  cases hA
  obtain ⟨hB, hS⟩ := hKS _ h
  refine ⟨hB, fun n1 n2 H locs L hH hVS hL hv1 hv2 => ?_⟩
  exact lv_sipush F.1 F.2.1 hd hv (hS n1 n2 H locs L hH hVS hL hv1 (vc trivial hv2))
theorem si_lconst (F : FX p s m meth c X mid) (hKS : ∀ q, K q → BS p l e R s m args below meth c Qm lay L0 X mid n0 s0 NT ST q) {n : Fin 2} (hd : decode (byOf mid) pc = .ok (.lconst n, 1)) (hv : Int64.ofNat (n : Nat) = z) (hA : act lay rt (.lconst n, pc + 1, (a, b, k, dd), w, z, tb, ps) ls st σ = some A) (h : stepP rtOf cl Q K (pc + 1) ls σ A) : BS p l e R s m args below meth c Qm lay L0 X mid n0 s0 NT ST (pc, ls, st, σ) := by
  cases hA
  obtain ⟨hB, hS⟩ := hKS _ h
  refine ⟨hB, fun n1 n2 H locs L hH hVS hL hv1 hv2 => ?_⟩
  exact lv_lconst F.1 F.2.1 hd hv (hS n1 n2 H locs L hH hVS hL hv1 (vc trivial hv2))
theorem si_ldc2 (F : FX p s m meth c X mid) (hKS : ∀ q, K q → BS p l e R s m args below meth c Qm lay L0 X mid n0 s0 NT ST q) {n : Nat} (hd : decode (byOf mid) pc = .ok (.ldc2_w n, 3)) (hg : gw (nthN ps 0) (.constantLong (yOf mid).cls n z) = true) (hA : act lay rt (.ldc2_w n, pc + 3, (a, b, k, dd), w, z, tb, ps) ls st σ = some A) (h : stepP rtOf cl Q K (pc + 3) ls σ A) : BS p l e R s m args below meth c Qm lay L0 X mid n0 s0 NT ST (pc, ls, st, σ) := by
  cases hA
  obtain ⟨hB, hS⟩ := hKS _ h
  refine ⟨hB, fun n1 n2 H locs L hH hVS hL hv1 hv2 => ?_⟩
  exact lv_ldc2 F.1 F.2.1 F.2.2.2.1 (F.2.2.2.2.2.2.2.2.get hg rfl args) hd (hS n1 n2 H locs L hH hVS hL hv1 (vc trivial hv2))
theorem si_aconst (F : FX p s m meth c X mid) (hKS : ∀ q, K q → BS p l e R s m args below meth c Qm lay L0 X mid n0 s0 NT ST q)  (hd : decode (byOf mid) pc = .ok (.aconst_null, 1)) (hA : act lay rt (.aconst_null, pc + 1, (a, b, k, dd), w, z, tb, ps) ls st σ = some A) (h : stepP rtOf cl Q K (pc + 1) ls σ A) : BS p l e R s m args below meth c Qm lay L0 X mid n0 s0 NT ST (pc, ls, st, σ) := by
  cases hA
  obtain ⟨hB, hS⟩ := hKS _ h
  refine ⟨hB, fun n1 n2 H locs L hH hVS hL hv1 hv2 => ?_⟩
  exact lv_null F.1 F.2.1 hd (hS n1 n2 H locs L hH hVS hL hv1 (vc (Or.inl rfl) hv2))
theorem si_iload_n (F : FX p s m meth c X mid) (hKS : ∀ q, K q → BS p l e R s m args below meth c Qm lay L0 X mid n0 s0 NT ST q) {n : Fin 4} (hd : decode (byOf mid) pc = .ok (.iload_n n, 1)) (hv : (n : Nat) = a) (hA : act lay rt (.iload_n n, pc + 1, (a, b, k, dd), w, z, tb, ps) ls st σ = some A) (h : stepP rtOf cl Q K (pc + 1) ls σ A) : BS p l e R s m args below meth c Qm lay L0 X mid n0 s0 NT ST (pc, ls, st, σ) := by
  obtain ⟨x, r, hx, hA⟩ := qI_some hA
  have hx : nthA ls a = aI x := (List.cons.inj hx).1
  cases hA
  obtain ⟨hB, hS⟩ := hKS _ h
  refine ⟨hB, fun n1 n2 H locs L hH hVS hL hv1 hv2 => ?_⟩
  have hl := hL.2.2.2 a (by rw [hx]; exact fun z => by cases z)
  rw [hx] at hl
  exact lv_iload_n F.1 F.2.1 hd hv hl (hS n1 n2 H locs L hH hVS hL hv1 (vc trivial hv2))
theorem si_iload (F : FX p s m meth c X mid) (hKS : ∀ q, K q → BS p l e R s m args below meth c Qm lay L0 X mid n0 s0 NT ST q) {n : Nat} (hd : decode (byOf mid) pc = .ok (.iload n, 2)) (hv : (n : Nat) = a) (hA : act lay rt (.iload n, pc + 2, (a, b, k, dd), w, z, tb, ps) ls st σ = some A) (h : stepP rtOf cl Q K (pc + 2) ls σ A) : BS p l e R s m args below meth c Qm lay L0 X mid n0 s0 NT ST (pc, ls, st, σ) := by
  obtain ⟨x, r, hx, hA⟩ := qI_some hA
  have hx : nthA ls a = aI x := (List.cons.inj hx).1
  cases hA
  obtain ⟨hB, hS⟩ := hKS _ h
  refine ⟨hB, fun n1 n2 H locs L hH hVS hL hv1 hv2 => ?_⟩
  have hl := hL.2.2.2 a (by rw [hx]; exact fun z => by cases z)
  rw [hx] at hl
  subst hv
  exact lv_iload F.1 F.2.1 hd hl (hS n1 n2 H locs L hH hVS hL hv1 (vc trivial hv2))
theorem si_lload_n (F : FX p s m meth c X mid) (hKS : ∀ q, K q → BS p l e R s m args below meth c Qm lay L0 X mid n0 s0 NT ST q) {n : Fin 4} (hd : decode (byOf mid) pc = .ok (.lload_n n, 1)) (hv : (n : Nat) = a) (hA : act lay rt (.lload_n n, pc + 1, (a, b, k, dd), w, z, tb, ps) ls st σ = some A) (h : stepP rtOf cl Q K (pc + 1) ls σ A) : BS p l e R s m args below meth c Qm lay L0 X mid n0 s0 NT ST (pc, ls, st, σ) := by
  obtain ⟨x, r, hx, hA⟩ := qJ_some hA
  have hx : nthA ls a = aJ x := (List.cons.inj hx).1
  cases hA
  obtain ⟨hB, hS⟩ := hKS _ h
  refine ⟨hB, fun n1 n2 H locs L hH hVS hL hv1 hv2 => ?_⟩
  have hl := hL.2.2.2 a (by rw [hx]; exact fun z => by cases z)
  rw [hx] at hl
  exact lv_lload_n F.1 F.2.1 hd hv hl (hS n1 n2 H locs L hH hVS hL hv1 (vc trivial hv2))
theorem si_lload (F : FX p s m meth c X mid) (hKS : ∀ q, K q → BS p l e R s m args below meth c Qm lay L0 X mid n0 s0 NT ST q) {n : Nat} (hd : decode (byOf mid) pc = .ok (.lload n, 2)) (hv : (n : Nat) = a) (hA : act lay rt (.lload n, pc + 2, (a, b, k, dd), w, z, tb, ps) ls st σ = some A) (h : stepP rtOf cl Q K (pc + 2) ls σ A) : BS p l e R s m args below meth c Qm lay L0 X mid n0 s0 NT ST (pc, ls, st, σ) := by
  obtain ⟨x, r, hx, hA⟩ := qJ_some hA
  have hx : nthA ls a = aJ x := (List.cons.inj hx).1
  cases hA
  obtain ⟨hB, hS⟩ := hKS _ h
  refine ⟨hB, fun n1 n2 H locs L hH hVS hL hv1 hv2 => ?_⟩
  have hl := hL.2.2.2 a (by rw [hx]; exact fun z => by cases z)
  rw [hx] at hl
  subst hv
  exact lv_lload F.1 F.2.1 hd hl (hS n1 n2 H locs L hH hVS hL hv1 (vc trivial hv2))
theorem si_aload_n (F : FX p s m meth c X mid) (hKS : ∀ q, K q → BS p l e R s m args below meth c Qm lay L0 X mid n0 s0 NT ST q) {n : Fin 4} (hd : decode (byOf mid) pc = .ok (.aload_n n, 1)) (hv : (n : Nat) = a) (hA : act lay rt (.aload_n n, pc + 1, (a, b, k, dd), w, z, tb, ps) ls st σ = some A) (h : stepP rtOf cl Q K (pc + 1) ls σ A) : BS p l e R s m args below meth c Qm lay L0 X mid n0 s0 NT ST (pc, ls, st, σ) := by
  obtain ⟨t, j, r, hx, hA⟩ := qR_some hA
  have hx : nthA ls a = aO t j := (List.cons.inj hx).1
  cases hA
  obtain ⟨hB, hS⟩ := hKS _ h
  refine ⟨hB, fun n1 n2 H locs L hH hVS hL hv1 hv2 => ?_⟩
  have hl := hL.2.2.2 a (by rw [hx]; exact fun z => by cases z)
  have hvo := nthA_mem (P := vOK σ) trivial hv1 a
  rw [hx] at hl hvo
  have hk := hS n1 n2 H locs L hH hVS hL hv1 (vc hvo hv2)
  have hk : W p l e R s m args below meth c H locs (sN σ - n0) (sS σ - s0) Qm (F0 m (pc + 1) L (cvt X j :: st.map (cvV X))) := hk
  have hl : L[a]? = some (.val (cvt X j)) := hl
  rcases cvt_cases X j with e | ⟨q, e⟩
  · rw [e] at hk hl; exact lv_aload_nN F.1 F.2.1 hd hv hl hk
  · rw [e] at hk hl; exact lv_aload_n F.1 F.2.1 hd hv hl hk
theorem si_aload (F : FX p s m meth c X mid) (hKS : ∀ q, K q → BS p l e R s m args below meth c Qm lay L0 X mid n0 s0 NT ST q) {n : Nat} (hd : decode (byOf mid) pc = .ok (.aload n, 2)) (hv : (n : Nat) = a) (hA : act lay rt (.aload n, pc + 2, (a, b, k, dd), w, z, tb, ps) ls st σ = some A) (h : stepP rtOf cl Q K (pc + 2) ls σ A) : BS p l e R s m args below meth c Qm lay L0 X mid n0 s0 NT ST (pc, ls, st, σ) := by
  obtain ⟨t, j, r, hx, hA⟩ := qR_some hA
  have hx : nthA ls a = aO t j := (List.cons.inj hx).1
  cases hA
  obtain ⟨hB, hS⟩ := hKS _ h
  refine ⟨hB, fun n1 n2 H locs L hH hVS hL hv1 hv2 => ?_⟩
  have hl := hL.2.2.2 a (by rw [hx]; exact fun z => by cases z)
  have hvo := nthA_mem (P := vOK σ) trivial hv1 a
  rw [hx] at hl hvo
  subst hv
  have hk := hS n1 n2 H locs L hH hVS hL hv1 (vc hvo hv2)
  have hk : W p l e R s m args below meth c H locs (sN σ - n0) (sS σ - s0) Qm (F0 m (pc + 2) L (cvt X j :: st.map (cvV X))) := hk
  have hl : L[n]? = some (.val (cvt X j)) := hl
  rcases cvt_cases X j with e | ⟨q, e⟩
  · rw [e] at hk hl; exact lv_aloadN F.1 F.2.1 hd hl hk
  · rw [e] at hk hl; exact lv_aload F.1 F.2.1 hd hl hk
theorem si_istore_n (F : FX p s m meth c X mid) (hKS : ∀ q, K q → BS p l e R s m args below meth c Qm lay L0 X mid n0 s0 NT ST q) {n : Fin 4} (hd : decode (byOf mid) pc = .ok (.istore_n n, 1)) (hv : (n : Nat) = a) (hst : a < mlOf mid) (hA : act lay rt (.istore_n n, pc + 1, (a, b, k, dd), w, z, tb, ps) ls st σ = some A) (h : stepP rtOf cl Q K (pc + 1) ls σ A) : BS p l e R s m args below meth c Qm lay L0 X mid n0 s0 NT ST (pc, ls, st, σ) := by
  obtain ⟨x, st, rfl, hA⟩ := qI_some hA
  cases hA
  obtain ⟨hB, hS⟩ := hKS _ h
  refine ⟨hB, fun n1 n2 H locs L hH hVS hL hv1 hv2 => ?_⟩
  refine lv_istore_n F.1 F.2.1 hd hv (hL.has) hst rfl (fun L' hl => ?_)
  exact hS n1 n2 H locs L' hH hVS (Lc_sto1 hL hst (fun z => by cases z) hl) (sto_mem (P := vOK σ) trivial ls a _ trivial hv1) (vt hv2)
theorem si_istore (F : FX p s m meth c X mid) (hKS : ∀ q, K q → BS p l e R s m args below meth c Qm lay L0 X mid n0 s0 NT ST q) {n : Nat} (hd : decode (byOf mid) pc = .ok (.istore n, 2)) (hv : (n : Nat) = a) (hst : a < mlOf mid) (hA : act lay rt (.istore n, pc + 2, (a, b, k, dd), w, z, tb, ps) ls st σ = some A) (h : stepP rtOf cl Q K (pc + 2) ls σ A) : BS p l e R s m args below meth c Qm lay L0 X mid n0 s0 NT ST (pc, ls, st, σ) := by
  obtain ⟨x, st, rfl, hA⟩ := qI_some hA
  cases hA
  obtain ⟨hB, hS⟩ := hKS _ h
  refine ⟨hB, fun n1 n2 H locs L hH hVS hL hv1 hv2 => ?_⟩
  subst hv
  refine lv_istore F.1 F.2.1 hd (hL.has) hst rfl (fun L' hl => ?_)
  exact hS n1 n2 H locs L' hH hVS (Lc_sto1 hL hst (fun z => by cases z) hl) (sto_mem (P := vOK σ) trivial ls n _ trivial hv1) (vt hv2)
theorem si_lstore_n (F : FX p s m meth c X mid) (hKS : ∀ q, K q → BS p l e R s m args below meth c Qm lay L0 X mid n0 s0 NT ST q) {n : Fin 4} (hd : decode (byOf mid) pc = .ok (.lstore_n n, 1)) (hv : (n : Nat) = a) (hst : a + 1 < mlOf mid) (hA : act lay rt (.lstore_n n, pc + 1, (a, b, k, dd), w, z, tb, ps) ls st σ = some A) (h : stepP rtOf cl Q K (pc + 1) ls σ A) : BS p l e R s m args below meth c Qm lay L0 X mid n0 s0 NT ST (pc, ls, st, σ) := by
  obtain ⟨x, st, rfl, hA⟩ := qJ_some hA
  cases hA
  obtain ⟨hB, hS⟩ := hKS _ h
  refine ⟨hB, fun n1 n2 H locs L hH hVS hL hv1 hv2 => ?_⟩
  refine lv_lstore_n F.1 F.2.1 hd hv (hL.has) hst rfl (fun L' hl => ?_)
  exact hS n1 n2 H locs L' hH hVS (Lc_sto2 hL hst (fun z => by cases z) hl) (sto2_mem (P := vOK σ) trivial ls a _ trivial hv1) (vt hv2)
theorem si_lstore (F : FX p s m meth c X mid) (hKS : ∀ q, K q → BS p l e R s m args below meth c Qm lay L0 X mid n0 s0 NT ST q) {n : Nat} (hd : decode (byOf mid) pc = .ok (.lstore n, 2)) (hv : (n : Nat) = a) (hst : a + 1 < mlOf mid) (hA : act lay rt (.lstore n, pc + 2, (a, b, k, dd), w, z, tb, ps) ls st σ = some A) (h : stepP rtOf cl Q K (pc + 2) ls σ A) : BS p l e R s m args below meth c Qm lay L0 X mid n0 s0 NT ST (pc, ls, st, σ) := by
  obtain ⟨x, st, rfl, hA⟩ := qJ_some hA
  cases hA
  obtain ⟨hB, hS⟩ := hKS _ h
  refine ⟨hB, fun n1 n2 H locs L hH hVS hL hv1 hv2 => ?_⟩
  subst hv
  refine lv_lstore F.1 F.2.1 hd (hL.has) hst rfl (fun L' hl => ?_)
  exact hS n1 n2 H locs L' hH hVS (Lc_sto2 hL hst (fun z => by cases z) hl) (sto2_mem (P := vOK σ) trivial ls n _ trivial hv1) (vt hv2)
theorem si_astore_n (F : FX p s m meth c X mid) (hKS : ∀ q, K q → BS p l e R s m args below meth c Qm lay L0 X mid n0 s0 NT ST q) {n : Fin 4} (hd : decode (byOf mid) pc = .ok (.astore_n n, 1)) (hv : (n : Nat) = a) (hst : a < mlOf mid) (hA : act lay rt (.astore_n n, pc + 1, (a, b, k, dd), w, z, tb, ps) ls st σ = some A) (h : stepP rtOf cl Q K (pc + 1) ls σ A) : BS p l e R s m args below meth c Qm lay L0 X mid n0 s0 NT ST (pc, ls, st, σ) := by
  obtain ⟨t, j, st, rfl, hA⟩ := qR_some hA
  cases hA
  obtain ⟨hB, hS⟩ := hKS _ h
  refine ⟨hB, fun n1 n2 H locs L hH hVS hL hv1 hv2 => ?_⟩
  have fin : ∀ L' : Array Slot, lv_has L' (mlOf mid) ((a, cvt X j) :: (lp X (mlOf mid) ls).filter (fun q => !(q.1 == a) && !(q.1 + 1 == a && q.2.category == 2))) → W p l e R s m args below meth c H locs (sN σ - n0) (sS σ - s0) Qm (F0 m (pc + 1) L' (st.map (cvV X))) := fun L' hl => hS n1 n2 H locs L' hH hVS (Lc_sto1 (v := aO t j) hL hst (fun z => by cases z) hl) (sto_mem (P := vOK σ) trivial ls a _ (vh hv2) hv1) (vt hv2)
  show W p l e R s m args below meth c H locs (sN σ - n0) (sS σ - s0) Qm (F0 m pc L (cvt X j :: st.map (cvV X)))
  rcases cvt_cases X j with e | ⟨q, e⟩
  · rw [e] at fin ⊢; exact lv_astore_nN F.1 F.2.1 hd hv (hL.has) hst rfl fin
  · rw [e] at fin ⊢; exact lv_astore_n F.1 F.2.1 hd hv (hL.has) hst rfl fin
theorem si_astore (F : FX p s m meth c X mid) (hKS : ∀ q, K q → BS p l e R s m args below meth c Qm lay L0 X mid n0 s0 NT ST q) {n : Nat} (hd : decode (byOf mid) pc = .ok (.astore n, 2)) (hv : (n : Nat) = a) (hst : a < mlOf mid) (hA : act lay rt (.astore n, pc + 2, (a, b, k, dd), w, z, tb, ps) ls st σ = some A) (h : stepP rtOf cl Q K (pc + 2) ls σ A) : BS p l e R s m args below meth c Qm lay L0 X mid n0 s0 NT ST (pc, ls, st, σ) := by
  obtain ⟨t, j, st, rfl, hA⟩ := qR_some hA
  cases hA
  obtain ⟨hB, hS⟩ := hKS _ h
  refine ⟨hB, fun n1 n2 H locs L hH hVS hL hv1 hv2 => ?_⟩
  subst hv
  have fin : ∀ L' : Array Slot, lv_has L' (mlOf mid) ((n, cvt X j) :: (lp X (mlOf mid) ls).filter (fun q => !(q.1 == n) && !(q.1 + 1 == n && q.2.category == 2))) → W p l e R s m args below meth c H locs (sN σ - n0) (sS σ - s0) Qm (F0 m (pc + 2) L' (st.map (cvV X))) := fun L' hl => hS n1 n2 H locs L' hH hVS (Lc_sto1 (v := aO t j) hL hst (fun z => by cases z) hl) (sto_mem (P := vOK σ) trivial ls n _ (vh hv2) hv1) (vt hv2)
  show W p l e R s m args below meth c H locs (sN σ - n0) (sS σ - s0) Qm (F0 m pc L (cvt X j :: st.map (cvV X)))
  rcases cvt_cases X j with e | ⟨q, e⟩
  · rw [e] at fin ⊢; exact lv_astoreN F.1 F.2.1 hd (hL.has) hst rfl fin
  · rw [e] at fin ⊢; exact lv_astore F.1 F.2.1 hd (hL.has) hst rfl fin
theorem si_iinc (F : FX p s m meth c X mid) (hKS : ∀ q, K q → BS p l e R s m args below meth c Qm lay L0 X mid n0 s0 NT ST q) {n : Nat} {n2 : Int} (hd : decode (byOf mid) pc = .ok (.iinc n n2, 3)) (hv : n = a) (hw : Int32.ofInt n2 = w) (hst : a < mlOf mid) (hA : act lay rt (.iinc n n2, pc + 3, (a, b, k, dd), w, z, tb, ps) ls st σ = some A) (h : stepP rtOf cl Q K (pc + 3) ls σ A) : BS p l e R s m args below meth c Qm lay L0 X mid n0 s0 NT ST (pc, ls, st, σ) := by
  obtain ⟨x, r, hx, hA⟩ := qI_some hA
  have hx : nthA ls a = aI x := (List.cons.inj hx).1
  cases hA
  obtain ⟨hB, hS⟩ := hKS _ h
  refine ⟨hB, fun n1 n2 H locs L hH hVS hL hv1 hv2 => ?_⟩
  have hq : (a, cvV X (aI x)) ∈ lp X (mlOf mid) ls := lp_mem.mpr ⟨hst, (by rw [hx]; exact fun z => by cases z), (by rw [hx])⟩
  obtain ⟨kk, hkk⟩ := List.getElem?_of_mem hq
  subst hv
  subst hw
  refine lv_iinc F.1 F.2.1 hd hL.has (k := kk) hkk rfl hst rfl (fun L' hl => ?_)
  exact hS n1 n2 H locs L' hH hVS (Lc_sto1 hL hst (fun z => by cases z) hl) (sto_mem (P := vOK σ) trivial ls n _ trivial hv1) hv2
theorem si_iadd (F : FX p s m meth c X mid) (hKS : ∀ q, K q → BS p l e R s m args below meth c Qm lay L0 X mid n0 s0 NT ST q)  (hd : decode (byOf mid) pc = .ok (.iadd, 1)) (hA : act lay rt (.iadd, pc + 1, (a, b, k, dd), w, z, tb, ps) ls st σ = some A) (h : stepP rtOf cl Q K (pc + 1) ls σ A) : BS p l e R s m args below meth c Qm lay L0 X mid n0 s0 NT ST (pc, ls, st, σ) := by
  obtain ⟨y, st, rfl, hA⟩ := qI_some hA
  obtain ⟨x, st, rfl, hA⟩ := qI_some hA
  cases hA
  obtain ⟨hB, hS⟩ := hKS _ h
  refine ⟨hB, fun n1 n2 H locs L hH hVS hL hv1 hv2 => ?_⟩
  exact lv_iadd F.1 F.2.1 hd (hS n1 n2 H locs L hH hVS hL hv1 (vc trivial (vt (vt hv2))))
theorem si_isub (F : FX p s m meth c X mid) (hKS : ∀ q, K q → BS p l e R s m args below meth c Qm lay L0 X mid n0 s0 NT ST q)  (hd : decode (byOf mid) pc = .ok (.isub, 1)) (hA : act lay rt (.isub, pc + 1, (a, b, k, dd), w, z, tb, ps) ls st σ = some A) (h : stepP rtOf cl Q K (pc + 1) ls σ A) : BS p l e R s m args below meth c Qm lay L0 X mid n0 s0 NT ST (pc, ls, st, σ) := by
  obtain ⟨y, st, rfl, hA⟩ := qI_some hA
  obtain ⟨x, st, rfl, hA⟩ := qI_some hA
  cases hA
  obtain ⟨hB, hS⟩ := hKS _ h
  refine ⟨hB, fun n1 n2 H locs L hH hVS hL hv1 hv2 => ?_⟩
  exact lv_isub F.1 F.2.1 hd (hS n1 n2 H locs L hH hVS hL hv1 (vc trivial (vt (vt hv2))))
theorem si_imul (F : FX p s m meth c X mid) (hKS : ∀ q, K q → BS p l e R s m args below meth c Qm lay L0 X mid n0 s0 NT ST q)  (hd : decode (byOf mid) pc = .ok (.imul, 1)) (hA : act lay rt (.imul, pc + 1, (a, b, k, dd), w, z, tb, ps) ls st σ = some A) (h : stepP rtOf cl Q K (pc + 1) ls σ A) : BS p l e R s m args below meth c Qm lay L0 X mid n0 s0 NT ST (pc, ls, st, σ) := by
  obtain ⟨y, st, rfl, hA⟩ := qI_some hA
  obtain ⟨x, st, rfl, hA⟩ := qI_some hA
  cases hA
  obtain ⟨hB, hS⟩ := hKS _ h
  refine ⟨hB, fun n1 n2 H locs L hH hVS hL hv1 hv2 => ?_⟩
  exact lv_imul F.1 F.2.1 hd (hS n1 n2 H locs L hH hVS hL hv1 (vc trivial (vt (vt hv2))))
theorem si_iand (F : FX p s m meth c X mid) (hKS : ∀ q, K q → BS p l e R s m args below meth c Qm lay L0 X mid n0 s0 NT ST q)  (hd : decode (byOf mid) pc = .ok (.iand, 1)) (hA : act lay rt (.iand, pc + 1, (a, b, k, dd), w, z, tb, ps) ls st σ = some A) (h : stepP rtOf cl Q K (pc + 1) ls σ A) : BS p l e R s m args below meth c Qm lay L0 X mid n0 s0 NT ST (pc, ls, st, σ) := by
  obtain ⟨y, st, rfl, hA⟩ := qI_some hA
  obtain ⟨x, st, rfl, hA⟩ := qI_some hA
  cases hA
  obtain ⟨hB, hS⟩ := hKS _ h
  refine ⟨hB, fun n1 n2 H locs L hH hVS hL hv1 hv2 => ?_⟩
  exact lv_iand F.1 F.2.1 hd (hS n1 n2 H locs L hH hVS hL hv1 (vc trivial (vt (vt hv2))))
theorem si_ixor (F : FX p s m meth c X mid) (hKS : ∀ q, K q → BS p l e R s m args below meth c Qm lay L0 X mid n0 s0 NT ST q)  (hd : decode (byOf mid) pc = .ok (.ixor, 1)) (hA : act lay rt (.ixor, pc + 1, (a, b, k, dd), w, z, tb, ps) ls st σ = some A) (h : stepP rtOf cl Q K (pc + 1) ls σ A) : BS p l e R s m args below meth c Qm lay L0 X mid n0 s0 NT ST (pc, ls, st, σ) := by
  obtain ⟨y, st, rfl, hA⟩ := qI_some hA
  obtain ⟨x, st, rfl, hA⟩ := qI_some hA
  cases hA
  obtain ⟨hB, hS⟩ := hKS _ h
  refine ⟨hB, fun n1 n2 H locs L hH hVS hL hv1 hv2 => ?_⟩
  exact lv_ixor F.1 F.2.1 hd (hS n1 n2 H locs L hH hVS hL hv1 (vc trivial (vt (vt hv2))))
theorem si_ladd (F : FX p s m meth c X mid) (hKS : ∀ q, K q → BS p l e R s m args below meth c Qm lay L0 X mid n0 s0 NT ST q)  (hd : decode (byOf mid) pc = .ok (.ladd, 1)) (hA : act lay rt (.ladd, pc + 1, (a, b, k, dd), w, z, tb, ps) ls st σ = some A) (h : stepP rtOf cl Q K (pc + 1) ls σ A) : BS p l e R s m args below meth c Qm lay L0 X mid n0 s0 NT ST (pc, ls, st, σ) := by
  obtain ⟨y, st, rfl, hA⟩ := qJ_some hA
  obtain ⟨x, st, rfl, hA⟩ := qJ_some hA
  cases hA
  obtain ⟨hB, hS⟩ := hKS _ h
  refine ⟨hB, fun n1 n2 H locs L hH hVS hL hv1 hv2 => ?_⟩
  exact lv_ladd F.1 F.2.1 hd (hS n1 n2 H locs L hH hVS hL hv1 (vc trivial (vt (vt hv2))))
theorem si_lsub (F : FX p s m meth c X mid) (hKS : ∀ q, K q → BS p l e R s m args below meth c Qm lay L0 X mid n0 s0 NT ST q)  (hd : decode (byOf mid) pc = .ok (.lsub, 1)) (hA : act lay rt (.lsub, pc + 1, (a, b, k, dd), w, z, tb, ps) ls st σ = some A) (h : stepP rtOf cl Q K (pc + 1) ls σ A) : BS p l e R s m args below meth c Qm lay L0 X mid n0 s0 NT ST (pc, ls, st, σ) := by
  obtain ⟨y, st, rfl, hA⟩ := qJ_some hA
  obtain ⟨x, st, rfl, hA⟩ := qJ_some hA
  cases hA
  obtain ⟨hB, hS⟩ := hKS _ h
  refine ⟨hB, fun n1 n2 H locs L hH hVS hL hv1 hv2 => ?_⟩
  exact lv_lsub F.1 F.2.1 hd (hS n1 n2 H locs L hH hVS hL hv1 (vc trivial (vt (vt hv2))))
theorem si_lmul (F : FX p s m meth c X mid) (hKS : ∀ q, K q → BS p l e R s m args below meth c Qm lay L0 X mid n0 s0 NT ST q)  (hd : decode (byOf mid) pc = .ok (.lmul, 1)) (hA : act lay rt (.lmul, pc + 1, (a, b, k, dd), w, z, tb, ps) ls st σ = some A) (h : stepP rtOf cl Q K (pc + 1) ls σ A) : BS p l e R s m args below meth c Qm lay L0 X mid n0 s0 NT ST (pc, ls, st, σ) := by
  obtain ⟨y, st, rfl, hA⟩ := qJ_some hA
  obtain ⟨x, st, rfl, hA⟩ := qJ_some hA
  cases hA
  obtain ⟨hB, hS⟩ := hKS _ h
  refine ⟨hB, fun n1 n2 H locs L hH hVS hL hv1 hv2 => ?_⟩
  exact lv_lmul F.1 F.2.1 hd (hS n1 n2 H locs L hH hVS hL hv1 (vc trivial (vt (vt hv2))))
theorem si_land (F : FX p s m meth c X mid) (hKS : ∀ q, K q → BS p l e R s m args below meth c Qm lay L0 X mid n0 s0 NT ST q)  (hd : decode (byOf mid) pc = .ok (.land, 1)) (hA : act lay rt (.land, pc + 1, (a, b, k, dd), w, z, tb, ps) ls st σ = some A) (h : stepP rtOf cl Q K (pc + 1) ls σ A) : BS p l e R s m args below meth c Qm lay L0 X mid n0 s0 NT ST (pc, ls, st, σ) := by
  obtain ⟨y, st, rfl, hA⟩ := qJ_some hA
  obtain ⟨x, st, rfl, hA⟩ := qJ_some hA
  cases hA
  obtain ⟨hB, hS⟩ := hKS _ h
  refine ⟨hB, fun n1 n2 H locs L hH hVS hL hv1 hv2 => ?_⟩
  exact lv_land F.1 F.2.1 hd (hS n1 n2 H locs L hH hVS hL hv1 (vc trivial (vt (vt hv2))))
theorem si_lor (F : FX p s m meth c X mid) (hKS : ∀ q, K q → BS p l e R s m args below meth c Qm lay L0 X mid n0 s0 NT ST q)  (hd : decode (byOf mid) pc = .ok (.lor, 1)) (hA : act lay rt (.lor, pc + 1, (a, b, k, dd), w, z, tb, ps) ls st σ = some A) (h : stepP rtOf cl Q K (pc + 1) ls σ A) : BS p l e R s m args below meth c Qm lay L0 X mid n0 s0 NT ST (pc, ls, st, σ) := by
  obtain ⟨y, st, rfl, hA⟩ := qJ_some hA
  obtain ⟨x, st, rfl, hA⟩ := qJ_some hA
  cases hA
  obtain ⟨hB, hS⟩ := hKS _ h
  refine ⟨hB, fun n1 n2 H locs L hH hVS hL hv1 hv2 => ?_⟩
  exact lv_lor F.1 F.2.1 hd (hS n1 n2 H locs L hH hVS hL hv1 (vc trivial (vt (vt hv2))))
theorem si_idiv (F : FX p s m meth c X mid) (hKS : ∀ q, K q → BS p l e R s m args below meth c Qm lay L0 X mid n0 s0 NT ST q)  (hd : decode (byOf mid) pc = .ok (.idiv, 1)) (hA : act lay rt (.idiv, pc + 1, (a, b, k, dd), w, z, tb, ps) ls st σ = some A) (h : stepP rtOf cl Q K (pc + 1) ls σ A) : BS p l e R s m args below meth c Qm lay L0 X mid n0 s0 NT ST (pc, ls, st, σ) := by
  obtain ⟨y, st, rfl, hA⟩ := qI_some hA
  obtain ⟨x, st, rfl, hA⟩ := qI_some hA
  cases hA
  have h : ¬ y = 0 ∧ K (pc + 1, ls, aI (x / y) :: st, σ) := h
  obtain ⟨hne, h⟩ := h
  obtain ⟨hB, hS⟩ := hKS _ h
  refine ⟨hB, fun n1 n2 H locs L hH hVS hL hv1 hv2 => ?_⟩
  exact lv_idiv F.1 F.2.1 hd hne (hS n1 n2 H locs L hH hVS hL hv1 (vc trivial (vt (vt hv2))))
theorem si_irem (F : FX p s m meth c X mid) (hKS : ∀ q, K q → BS p l e R s m args below meth c Qm lay L0 X mid n0 s0 NT ST q)  (hd : decode (byOf mid) pc = .ok (.irem, 1)) (hA : act lay rt (.irem, pc + 1, (a, b, k, dd), w, z, tb, ps) ls st σ = some A) (h : stepP rtOf cl Q K (pc + 1) ls σ A) : BS p l e R s m args below meth c Qm lay L0 X mid n0 s0 NT ST (pc, ls, st, σ) := by
  obtain ⟨y, st, rfl, hA⟩ := qI_some hA
  obtain ⟨x, st, rfl, hA⟩ := qI_some hA
  cases hA
  have h : ¬ y = 0 ∧ K (pc + 1, ls, aI (x - x / y * y) :: st, σ) := h
  obtain ⟨hne, h⟩ := h
  obtain ⟨hB, hS⟩ := hKS _ h
  refine ⟨hB, fun n1 n2 H locs L hH hVS hL hv1 hv2 => ?_⟩
  exact lv_irem F.1 F.2.1 hd hne (hS n1 n2 H locs L hH hVS hL hv1 (vc trivial (vt (vt hv2))))
theorem si_ldiv (F : FX p s m meth c X mid) (hKS : ∀ q, K q → BS p l e R s m args below meth c Qm lay L0 X mid n0 s0 NT ST q)  (hd : decode (byOf mid) pc = .ok (.ldiv, 1)) (hA : act lay rt (.ldiv, pc + 1, (a, b, k, dd), w, z, tb, ps) ls st σ = some A) (h : stepP rtOf cl Q K (pc + 1) ls σ A) : BS p l e R s m args below meth c Qm lay L0 X mid n0 s0 NT ST (pc, ls, st, σ) := by
  obtain ⟨y, st, rfl, hA⟩ := qJ_some hA
  obtain ⟨x, st, rfl, hA⟩ := qJ_some hA
  cases hA
  have h : ¬ y = 0 ∧ K (pc + 1, ls, aJ (x / y) :: st, σ) := h
  obtain ⟨hne, h⟩ := h
  obtain ⟨hB, hS⟩ := hKS _ h
  refine ⟨hB, fun n1 n2 H locs L hH hVS hL hv1 hv2 => ?_⟩
  exact lv_ldiv F.1 F.2.1 hd hne (hS n1 n2 H locs L hH hVS hL hv1 (vc trivial (vt (vt hv2))))
theorem si_lrem (F : FX p s m meth c X mid) (hKS : ∀ q, K q → BS p l e R s m args below meth c Qm lay L0 X mid n0 s0 NT ST q)  (hd : decode (byOf mid) pc = .ok (.lrem, 1)) (hA : act lay rt (.lrem, pc + 1, (a, b, k, dd), w, z, tb, ps) ls st σ = some A) (h : stepP rtOf cl Q K (pc + 1) ls σ A) : BS p l e R s m args below meth c Qm lay L0 X mid n0 s0 NT ST (pc, ls, st, σ) := by
  obtain ⟨y, st, rfl, hA⟩ := qJ_some hA
  obtain ⟨x, st, rfl, hA⟩ := qJ_some hA
  cases hA
  have h : ¬ y = 0 ∧ K (pc + 1, ls, aJ (x - x / y * y) :: st, σ) := h
  obtain ⟨hne, h⟩ := h
  obtain ⟨hB, hS⟩ := hKS _ h
  refine ⟨hB, fun n1 n2 H locs L hH hVS hL hv1 hv2 => ?_⟩
  exact lv_lrem F.1 F.2.1 hd hne (hS n1 n2 H locs L hH hVS hL hv1 (vc trivial (vt (vt hv2))))
theorem si_lcmp (F : FX p s m meth c X mid) (hKS : ∀ q, K q → BS p l e R s m args below meth c Qm lay L0 X mid n0 s0 NT ST q)  (hd : decode (byOf mid) pc = .ok (.lcmp, 1)) (hA : act lay rt (.lcmp, pc + 1, (a, b, k, dd), w, z, tb, ps) ls st σ = some A) (h : stepP rtOf cl Q K (pc + 1) ls σ A) : BS p l e R s m args below meth c Qm lay L0 X mid n0 s0 NT ST (pc, ls, st, σ) := by
  obtain ⟨y, st, rfl, hA⟩ := qJ_some hA
  obtain ⟨x, st, rfl, hA⟩ := qJ_some hA
  cases hA
  obtain ⟨hB, hS⟩ := hKS _ h
  refine ⟨hB, fun n1 n2 H locs L hH hVS hL hv1 hv2 => ?_⟩
  exact W.lcmp F.1 F.2.1 hd (hS n1 n2 H locs L hH hVS hL hv1 (vc trivial (vt (vt hv2))))
theorem si_lshl (F : FX p s m meth c X mid) (hKS : ∀ q, K q → BS p l e R s m args below meth c Qm lay L0 X mid n0 s0 NT ST q)  (hd : decode (byOf mid) pc = .ok (.lshl, 1)) (hA : act lay rt (.lshl, pc + 1, (a, b, k, dd), w, z, tb, ps) ls st σ = some A) (h : stepP rtOf cl Q K (pc + 1) ls σ A) : BS p l e R s m args below meth c Qm lay L0 X mid n0 s0 NT ST (pc, ls, st, σ) := by
  obtain ⟨y, st, rfl, hA⟩ := qI_some hA
  obtain ⟨x, st, rfl, hA⟩ := qJ_some hA
  cases hA
  obtain ⟨hB, hS⟩ := hKS _ h
  refine ⟨hB, fun n1 n2 H locs L hH hVS hL hv1 hv2 => ?_⟩
  exact lv_lshl F.1 F.2.1 hd rfl (hS n1 n2 H locs L hH hVS hL hv1 (vc trivial (vt (vt hv2))))
theorem si_lshr (F : FX p s m meth c X mid) (hKS : ∀ q, K q → BS p l e R s m args below meth c Qm lay L0 X mid n0 s0 NT ST q)  (hd : decode (byOf mid) pc = .ok (.lshr, 1)) (hA : act lay rt (.lshr, pc + 1, (a, b, k, dd), w, z, tb, ps) ls st σ = some A) (h : stepP rtOf cl Q K (pc + 1) ls σ A) : BS p l e R s m args below meth c Qm lay L0 X mid n0 s0 NT ST (pc, ls, st, σ) := by
  obtain ⟨y, st, rfl, hA⟩ := qI_some hA
  obtain ⟨x, st, rfl, hA⟩ := qJ_some hA
  cases hA
  obtain ⟨hB, hS⟩ := hKS _ h
  refine ⟨hB, fun n1 n2 H locs L hH hVS hL hv1 hv2 => ?_⟩
  exact lv_lshr F.1 F.2.1 hd rfl (hS n1 n2 H locs L hH hVS hL hv1 (vc trivial (vt (vt hv2))))
theorem si_lushr (F : FX p s m meth c X mid) (hKS : ∀ q, K q → BS p l e R s m args below meth c Qm lay L0 X mid n0 s0 NT ST q)  (hd : decode (byOf mid) pc = .ok (.lushr, 1)) (hA : act lay rt (.lushr, pc + 1, (a, b, k, dd), w, z, tb, ps) ls st σ = some A) (h : stepP rtOf cl Q K (pc + 1) ls σ A) : BS p l e R s m args below meth c Qm lay L0 X mid n0 s0 NT ST (pc, ls, st, σ) := by
  obtain ⟨y, st, rfl, hA⟩ := qI_some hA
  obtain ⟨x, st, rfl, hA⟩ := qJ_some hA
  cases hA
  obtain ⟨hB, hS⟩ := hKS _ h
  refine ⟨hB, fun n1 n2 H locs L hH hVS hL hv1 hv2 => ?_⟩
  exact lv_lushr F.1 F.2.1 hd rfl (hS n1 n2 H locs L hH hVS hL hv1 (vc trivial (vt (vt hv2))))
theorem si_lneg (F : FX p s m meth c X mid) (hKS : ∀ q, K q → BS p l e R s m args below meth c Qm lay L0 X mid n0 s0 NT ST q)  (hd : decode (byOf mid) pc = .ok (.lneg, 1)) (hA : act lay rt (.lneg, pc + 1, (a, b, k, dd), w, z, tb, ps) ls st σ = some A) (h : stepP rtOf cl Q K (pc + 1) ls σ A) : BS p l e R s m args below meth c Qm lay L0 X mid n0 s0 NT ST (pc, ls, st, σ) := by
  obtain ⟨x, st, rfl, hA⟩ := qJ_some hA
  cases hA
  obtain ⟨hB, hS⟩ := hKS _ h
  refine ⟨hB, fun n1 n2 H locs L hH hVS hL hv1 hv2 => ?_⟩
  exact lv_lneg F.1 F.2.1 hd (hS n1 n2 H locs L hH hVS hL hv1 (vc trivial (vt hv2)))
theorem si_i2l (F : FX p s m meth c X mid) (hKS : ∀ q, K q → BS p l e R s m args below meth c Qm lay L0 X mid n0 s0 NT ST q)  (hd : decode (byOf mid) pc = .ok (.i2l, 1)) (hA : act lay rt (.i2l, pc + 1, (a, b, k, dd), w, z, tb, ps) ls st σ = some A) (h : stepP rtOf cl Q K (pc + 1) ls σ A) : BS p l e R s m args below meth c Qm lay L0 X mid n0 s0 NT ST (pc, ls, st, σ) := by
  obtain ⟨x, st, rfl, hA⟩ := qI_some hA
  cases hA
  obtain ⟨hB, hS⟩ := hKS _ h
  refine ⟨hB, fun n1 n2 H locs L hH hVS hL hv1 hv2 => ?_⟩
  exact lv_i2l F.1 F.2.1 hd rfl (hS n1 n2 H locs L hH hVS hL hv1 (vc trivial (vt hv2)))
theorem si_l2i (F : FX p s m meth c X mid) (hKS : ∀ q, K q → BS p l e R s m args below meth c Qm lay L0 X mid n0 s0 NT ST q)  (hd : decode (byOf mid) pc = .ok (.l2i, 1)) (hA : act lay rt (.l2i, pc + 1, (a, b, k, dd), w, z, tb, ps) ls st σ = some A) (h : stepP rtOf cl Q K (pc + 1) ls σ A) : BS p l e R s m args below meth c Qm lay L0 X mid n0 s0 NT ST (pc, ls, st, σ) := by
  obtain ⟨x, st, rfl, hA⟩ := qJ_some hA
  cases hA
  obtain ⟨hB, hS⟩ := hKS _ h
  refine ⟨hB, fun n1 n2 H locs L hH hVS hL hv1 hv2 => ?_⟩
  exact lv_l2i F.1 F.2.1 hd rfl (hS n1 n2 H locs L hH hVS hL hv1 (vc trivial (vt hv2)))
theorem si_i2b (F : FX p s m meth c X mid) (hKS : ∀ q, K q → BS p l e R s m args below meth c Qm lay L0 X mid n0 s0 NT ST q)  (hd : decode (byOf mid) pc = .ok (.i2b, 1)) (hA : act lay rt (.i2b, pc + 1, (a, b, k, dd), w, z, tb, ps) ls st σ = some A) (h : stepP rtOf cl Q K (pc + 1) ls σ A) : BS p l e R s m args below meth c Qm lay L0 X mid n0 s0 NT ST (pc, ls, st, σ) := by
  obtain ⟨x, st, rfl, hA⟩ := qI_some hA
  cases hA
  obtain ⟨hB, hS⟩ := hKS _ h
  refine ⟨hB, fun n1 n2 H locs L hH hVS hL hv1 hv2 => ?_⟩
  exact lv_i2b F.1 F.2.1 hd rfl (hS n1 n2 H locs L hH hVS hL hv1 (vc trivial (vt hv2)))
theorem si_dup (F : FX p s m meth c X mid) (hKS : ∀ q, K q → BS p l e R s m args below meth c Qm lay L0 X mid n0 s0 NT ST q)  (hd : decode (byOf mid) pc = .ok (.dup, 1)) (hA : act lay rt (.dup, pc + 1, (a, b, k, dd), w, z, tb, ps) ls st σ = some A) (h : stepP rtOf cl Q K (pc + 1) ls σ A) : BS p l e R s m args below meth c Qm lay L0 X mid n0 s0 NT ST (pc, ls, st, σ) := by
  match st, hA with
  | v :: r, hA =>
    obtain ⟨hc, hA⟩ := bif_some hA
    cases hA
    obtain ⟨hB, hS⟩ := hKS _ h
    refine ⟨hB, fun n1 n2 H locs L hH hVS hL hv1 hv2 => ?_⟩
    exact lv_dup F.1 F.2.1 hd (by rw [cat_cv]; exact Nat.eq_of_beq_eq_true hc) (hS n1 n2 H locs L hH hVS hL hv1 (vc (vh hv2) hv2))
theorem si_pop (F : FX p s m meth c X mid) (hKS : ∀ q, K q → BS p l e R s m args below meth c Qm lay L0 X mid n0 s0 NT ST q)  (hd : decode (byOf mid) pc = .ok (.pop, 1)) (hA : act lay rt (.pop, pc + 1, (a, b, k, dd), w, z, tb, ps) ls st σ = some A) (h : stepP rtOf cl Q K (pc + 1) ls σ A) : BS p l e R s m args below meth c Qm lay L0 X mid n0 s0 NT ST (pc, ls, st, σ) := by
  match st, hA with
  | v :: r, hA =>
    obtain ⟨hc, hA⟩ := bif_some hA
    cases hA
    obtain ⟨hB, hS⟩ := hKS _ h
    refine ⟨hB, fun n1 n2 H locs L hH hVS hL hv1 hv2 => ?_⟩
    exact lv_pop F.1 F.2.1 hd (by rw [cat_cv]; exact Nat.eq_of_beq_eq_true hc) (hS n1 n2 H locs L hH hVS hL hv1 (vt hv2))
theorem si_goto (F : FX p s m meth c X mid) (hKS : ∀ q, K q → BS p l e R s m args below meth c Qm lay L0 X mid n0 s0 NT ST q) {o : Int} (hd : decode (byOf mid) pc = .ok (.goto o, 3)) (hj : (pc : Int) + o = (a : Int)) (hA : act lay rt (.goto o, pc + 3, (a, b, k, dd), w, z, tb, ps) ls st σ = some A) (h : stepP rtOf cl Q K (pc + 3) ls σ A) : BS p l e R s m args below meth c Qm lay L0 X mid n0 s0 NT ST (pc, ls, st, σ) := by
  cases hA
  obtain ⟨hB, hS⟩ := hKS _ h
  refine ⟨hB, fun n1 n2 H locs L hH hVS hL hv1 hv2 => ?_⟩
  exact lv_goto F.1 F.2.1 hd hj (hS n1 n2 H locs L hH hVS hL hv1 hv2)
theorem si_if_eq (F : FX p s m meth c X mid) (hKS : ∀ q, K q → BS p l e R s m args below meth c Qm lay L0 X mid n0 s0 NT ST q) {o : Int} (hd : decode (byOf mid) pc = .ok (.ifCond .eq o, 3)) (hj : (pc : Int) + o = (a : Int)) (hA : act lay rt (.ifCond .eq o, pc + 3, (a, b, k, dd), w, z, tb, ps) ls st σ = some A) (h : stepP rtOf cl Q K (pc + 3) ls σ A) : BS p l e R s m args below meth c Qm lay L0 X mid n0 s0 NT ST (pc, ls, st, σ) := by
  obtain ⟨x, st, rfl, hA⟩ := qI_some hA
  cases hA
  obtain ⟨h1, h2⟩ := h
  refine ⟨?_, fun n1 n2 H locs L hH hVS hL hv1 hv2 => ?_⟩
  · by_cases hc : x = 0
    · exact (hKS _ (h1 hc)).1
    · exact (hKS _ (h2 hc)).1
  · exact lv_if_eq F.1 F.2.1 hd hj (fun q => (hKS _ (h1 q)).2 n1 n2 H locs L hH hVS hL hv1 (vt hv2)) (fun q => (hKS _ (h2 q)).2 n1 n2 H locs L hH hVS hL hv1 (vt hv2))
theorem si_if_ne (F : FX p s m meth c X mid) (hKS : ∀ q, K q → BS p l e R s m args below meth c Qm lay L0 X mid n0 s0 NT ST q) {o : Int} (hd : decode (byOf mid) pc = .ok (.ifCond .ne o, 3)) (hj : (pc : Int) + o = (a : Int)) (hA : act lay rt (.ifCond .ne o, pc + 3, (a, b, k, dd), w, z, tb, ps) ls st σ = some A) (h : stepP rtOf cl Q K (pc + 3) ls σ A) : BS p l e R s m args below meth c Qm lay L0 X mid n0 s0 NT ST (pc, ls, st, σ) := by
  obtain ⟨x, st, rfl, hA⟩ := qI_some hA
  cases hA
  obtain ⟨h1, h2⟩ := h
  refine ⟨?_, fun n1 n2 H locs L hH hVS hL hv1 hv2 => ?_⟩
  · by_cases hc : x = 0
    · exact (hKS _ (h1 hc)).1
    · exact (hKS _ (h2 hc)).1
  · exact lv_if_ne F.1 F.2.1 hd hj (fun q => (hKS _ (h2 q)).2 n1 n2 H locs L hH hVS hL hv1 (vt hv2)) (fun q => (hKS _ (h1 q)).2 n1 n2 H locs L hH hVS hL hv1 (vt hv2))
theorem si_if_lt (F : FX p s m meth c X mid) (hKS : ∀ q, K q → BS p l e R s m args below meth c Qm lay L0 X mid n0 s0 NT ST q) {o : Int} (hd : decode (byOf mid) pc = .ok (.ifCond .lt o, 3)) (hj : (pc : Int) + o = (a : Int)) (hA : act lay rt (.ifCond .lt o, pc + 3, (a, b, k, dd), w, z, tb, ps) ls st σ = some A) (h : stepP rtOf cl Q K (pc + 3) ls σ A) : BS p l e R s m args below meth c Qm lay L0 X mid n0 s0 NT ST (pc, ls, st, σ) := by
  obtain ⟨x, st, rfl, hA⟩ := qI_some hA
  cases hA
  obtain ⟨h1, h2⟩ := h
  refine ⟨?_, fun n1 n2 H locs L hH hVS hL hv1 hv2 => ?_⟩
  · by_cases hc : x < 0
    · exact (hKS _ (h1 hc)).1
    · exact (hKS _ (h2 hc)).1
  · exact lv_if_lt F.1 F.2.1 hd hj (fun q => (hKS _ (h1 q)).2 n1 n2 H locs L hH hVS hL hv1 (vt hv2)) (fun q => (hKS _ (h2 q)).2 n1 n2 H locs L hH hVS hL hv1 (vt hv2))
theorem si_if_ge (F : FX p s m meth c X mid) (hKS : ∀ q, K q → BS p l e R s m args below meth c Qm lay L0 X mid n0 s0 NT ST q) {o : Int} (hd : decode (byOf mid) pc = .ok (.ifCond .ge o, 3)) (hj : (pc : Int) + o = (a : Int)) (hA : act lay rt (.ifCond .ge o, pc + 3, (a, b, k, dd), w, z, tb, ps) ls st σ = some A) (h : stepP rtOf cl Q K (pc + 3) ls σ A) : BS p l e R s m args below meth c Qm lay L0 X mid n0 s0 NT ST (pc, ls, st, σ) := by
  obtain ⟨x, st, rfl, hA⟩ := qI_some hA
  cases hA
  obtain ⟨h1, h2⟩ := h
  refine ⟨?_, fun n1 n2 H locs L hH hVS hL hv1 hv2 => ?_⟩
  · by_cases hc : 0 ≤ x
    · exact (hKS _ (h1 hc)).1
    · exact (hKS _ (h2 hc)).1
  · exact lv_if_ge F.1 F.2.1 hd hj (fun q => (hKS _ (h1 q)).2 n1 n2 H locs L hH hVS hL hv1 (vt hv2)) (fun q => (hKS _ (h2 q)).2 n1 n2 H locs L hH hVS hL hv1 (vt hv2))
theorem si_if_gt (F : FX p s m meth c X mid) (hKS : ∀ q, K q → BS p l e R s m args below meth c Qm lay L0 X mid n0 s0 NT ST q) {o : Int} (hd : decode (byOf mid) pc = .ok (.ifCond .gt o, 3)) (hj : (pc : Int) + o = (a : Int)) (hA : act lay rt (.ifCond .gt o, pc + 3, (a, b, k, dd), w, z, tb, ps) ls st σ = some A) (h : stepP rtOf cl Q K (pc + 3) ls σ A) : BS p l e R s m args below meth c Qm lay L0 X mid n0 s0 NT ST (pc, ls, st, σ) := by
  obtain ⟨x, st, rfl, hA⟩ := qI_some hA
  cases hA
  obtain ⟨h1, h2⟩ := h
  refine ⟨?_, fun n1 n2 H locs L hH hVS hL hv1 hv2 => ?_⟩
  · by_cases hc : 0 < x
    · exact (hKS _ (h1 hc)).1
    · exact (hKS _ (h2 hc)).1
  · exact lv_if_gt F.1 F.2.1 hd hj (fun q => (hKS _ (h1 q)).2 n1 n2 H locs L hH hVS hL hv1 (vt hv2)) (fun q => (hKS _ (h2 q)).2 n1 n2 H locs L hH hVS hL hv1 (vt hv2))
theorem si_if_le (F : FX p s m meth c X mid) (hKS : ∀ q, K q → BS p l e R s m args below meth c Qm lay L0 X mid n0 s0 NT ST q) {o : Int} (hd : decode (byOf mid) pc = .ok (.ifCond .le o, 3)) (hj : (pc : Int) + o = (a : Int)) (hA : act lay rt (.ifCond .le o, pc + 3, (a, b, k, dd), w, z, tb, ps) ls st σ = some A) (h : stepP rtOf cl Q K (pc + 3) ls σ A) : BS p l e R s m args below meth c Qm lay L0 X mid n0 s0 NT ST (pc, ls, st, σ) := by
  obtain ⟨x, st, rfl, hA⟩ := qI_some hA
  cases hA
  obtain ⟨h1, h2⟩ := h
  refine ⟨?_, fun n1 n2 H locs L hH hVS hL hv1 hv2 => ?_⟩
  · by_cases hc : x ≤ 0
    · exact (hKS _ (h1 hc)).1
    · exact (hKS _ (h2 hc)).1
  · exact lv_if_le F.1 F.2.1 hd hj (fun q => (hKS _ (h1 q)).2 n1 n2 H locs L hH hVS hL hv1 (vt hv2)) (fun q => (hKS _ (h2 q)).2 n1 n2 H locs L hH hVS hL hv1 (vt hv2))
theorem si_icmp_eq (F : FX p s m meth c X mid) (hKS : ∀ q, K q → BS p l e R s m args below meth c Qm lay L0 X mid n0 s0 NT ST q) {o : Int} (hd : decode (byOf mid) pc = .ok (.if_icmp .eq o, 3)) (hj : (pc : Int) + o = (a : Int)) (hA : act lay rt (.if_icmp .eq o, pc + 3, (a, b, k, dd), w, z, tb, ps) ls st σ = some A) (h : stepP rtOf cl Q K (pc + 3) ls σ A) : BS p l e R s m args below meth c Qm lay L0 X mid n0 s0 NT ST (pc, ls, st, σ) := by
  obtain ⟨y, st, rfl, hA⟩ := qI_some hA
  obtain ⟨x, st, rfl, hA⟩ := qI_some hA
  cases hA
  obtain ⟨h1, h2⟩ := h
  refine ⟨?_, fun n1 n2 H locs L hH hVS hL hv1 hv2 => ?_⟩
  · by_cases hc : x = y
    · exact (hKS _ (h1 hc)).1
    · exact (hKS _ (h2 hc)).1
  · exact lv_icmp_eq F.1 F.2.1 hd hj (fun q => (hKS _ (h1 q)).2 n1 n2 H locs L hH hVS hL hv1 (vt (vt hv2))) (fun q => (hKS _ (h2 q)).2 n1 n2 H locs L hH hVS hL hv1 (vt (vt hv2)))
theorem si_icmp_ne (F : FX p s m meth c X mid) (hKS : ∀ q, K q → BS p l e R s m args below meth c Qm lay L0 X mid n0 s0 NT ST q) {o : Int} (hd : decode (byOf mid) pc = .ok (.if_icmp .ne o, 3)) (hj : (pc : Int) + o = (a : Int)) (hA : act lay rt (.if_icmp .ne o, pc + 3, (a, b, k, dd), w, z, tb, ps) ls st σ = some A) (h : stepP rtOf cl Q K (pc + 3) ls σ A) : BS p l e R s m args below meth c Qm lay L0 X mid n0 s0 NT ST (pc, ls, st, σ) := by
  obtain ⟨y, st, rfl, hA⟩ := qI_some hA
  obtain ⟨x, st, rfl, hA⟩ := qI_some hA
  cases hA
  obtain ⟨h1, h2⟩ := h
  refine ⟨?_, fun n1 n2 H locs L hH hVS hL hv1 hv2 => ?_⟩
  · by_cases hc : x = y
    · exact (hKS _ (h1 hc)).1
    · exact (hKS _ (h2 hc)).1
  · exact lv_icmp_ne F.1 F.2.1 hd hj (fun q => (hKS _ (h2 q)).2 n1 n2 H locs L hH hVS hL hv1 (vt (vt hv2))) (fun q => (hKS _ (h1 q)).2 n1 n2 H locs L hH hVS hL hv1 (vt (vt hv2)))
theorem si_icmp_lt (F : FX p s m meth c X mid) (hKS : ∀ q, K q → BS p l e R s m args below meth c Qm lay L0 X mid n0 s0 NT ST q) {o : Int} (hd : decode (byOf mid) pc = .ok (.if_icmp .lt o, 3)) (hj : (pc : Int) + o = (a : Int)) (hA : act lay rt (.if_icmp .lt o, pc + 3, (a, b, k, dd), w, z, tb, ps) ls st σ = some A) (h : stepP rtOf cl Q K (pc + 3) ls σ A) : BS p l e R s m args below meth c Qm lay L0 X mid n0 s0 NT ST (pc, ls, st, σ) := by
  obtain ⟨y, st, rfl, hA⟩ := qI_some hA
  obtain ⟨x, st, rfl, hA⟩ := qI_some hA
  cases hA
  obtain ⟨h1, h2⟩ := h
  refine ⟨?_, fun n1 n2 H locs L hH hVS hL hv1 hv2 => ?_⟩
  · by_cases hc : x < y
    · exact (hKS _ (h1 hc)).1
    · exact (hKS _ (h2 hc)).1
  · exact lv_icmp_lt F.1 F.2.1 hd hj (fun q => (hKS _ (h1 q)).2 n1 n2 H locs L hH hVS hL hv1 (vt (vt hv2))) (fun q => (hKS _ (h2 q)).2 n1 n2 H locs L hH hVS hL hv1 (vt (vt hv2)))
theorem si_icmp_ge (F : FX p s m meth c X mid) (hKS : ∀ q, K q → BS p l e R s m args below meth c Qm lay L0 X mid n0 s0 NT ST q) {o : Int} (hd : decode (byOf mid) pc = .ok (.if_icmp .ge o, 3)) (hj : (pc : Int) + o = (a : Int)) (hA : act lay rt (.if_icmp .ge o, pc + 3, (a, b, k, dd), w, z, tb, ps) ls st σ = some A) (h : stepP rtOf cl Q K (pc + 3) ls σ A) : BS p l e R s m args below meth c Qm lay L0 X mid n0 s0 NT ST (pc, ls, st, σ) := by
  obtain ⟨y, st, rfl, hA⟩ := qI_some hA
  obtain ⟨x, st, rfl, hA⟩ := qI_some hA
  cases hA
  obtain ⟨h1, h2⟩ := h
  refine ⟨?_, fun n1 n2 H locs L hH hVS hL hv1 hv2 => ?_⟩
  · by_cases hc : y ≤ x
    · exact (hKS _ (h1 hc)).1
    · exact (hKS _ (h2 hc)).1
  · exact lv_icmp_ge F.1 F.2.1 hd hj (fun q => (hKS _ (h1 q)).2 n1 n2 H locs L hH hVS hL hv1 (vt (vt hv2))) (fun q => (hKS _ (h2 q)).2 n1 n2 H locs L hH hVS hL hv1 (vt (vt hv2)))
theorem si_icmp_gt (F : FX p s m meth c X mid) (hKS : ∀ q, K q → BS p l e R s m args below meth c Qm lay L0 X mid n0 s0 NT ST q) {o : Int} (hd : decode (byOf mid) pc = .ok (.if_icmp .gt o, 3)) (hj : (pc : Int) + o = (a : Int)) (hA : act lay rt (.if_icmp .gt o, pc + 3, (a, b, k, dd), w, z, tb, ps) ls st σ = some A) (h : stepP rtOf cl Q K (pc + 3) ls σ A) : BS p l e R s m args below meth c Qm lay L0 X mid n0 s0 NT ST (pc, ls, st, σ) := by
  obtain ⟨y, st, rfl, hA⟩ := qI_some hA
  obtain ⟨x, st, rfl, hA⟩ := qI_some hA
  cases hA
  obtain ⟨h1, h2⟩ := h
  refine ⟨?_, fun n1 n2 H locs L hH hVS hL hv1 hv2 => ?_⟩
  · by_cases hc : y < x
    · exact (hKS _ (h1 hc)).1
    · exact (hKS _ (h2 hc)).1
  · exact lv_icmp_gt F.1 F.2.1 hd hj (fun q => (hKS _ (h1 q)).2 n1 n2 H locs L hH hVS hL hv1 (vt (vt hv2))) (fun q => (hKS _ (h2 q)).2 n1 n2 H locs L hH hVS hL hv1 (vt (vt hv2)))
theorem si_icmp_le (F : FX p s m meth c X mid) (hKS : ∀ q, K q → BS p l e R s m args below meth c Qm lay L0 X mid n0 s0 NT ST q) {o : Int} (hd : decode (byOf mid) pc = .ok (.if_icmp .le o, 3)) (hj : (pc : Int) + o = (a : Int)) (hA : act lay rt (.if_icmp .le o, pc + 3, (a, b, k, dd), w, z, tb, ps) ls st σ = some A) (h : stepP rtOf cl Q K (pc + 3) ls σ A) : BS p l e R s m args below meth c Qm lay L0 X mid n0 s0 NT ST (pc, ls, st, σ) := by
  obtain ⟨y, st, rfl, hA⟩ := qI_some hA
  obtain ⟨x, st, rfl, hA⟩ := qI_some hA
  cases hA
  obtain ⟨h1, h2⟩ := h
  refine ⟨?_, fun n1 n2 H locs L hH hVS hL hv1 hv2 => ?_⟩
  · by_cases hc : x ≤ y
    · exact (hKS _ (h1 hc)).1
    · exact (hKS _ (h2 hc)).1
  · exact lv_icmp_le F.1 F.2.1 hd hj (fun q => (hKS _ (h1 q)).2 n1 n2 H locs L hH hVS hL hv1 (vt (vt hv2))) (fun q => (hKS _ (h2 q)).2 n1 n2 H locs L hH hVS hL hv1 (vt (vt hv2)))
theorem si_ifnull (F : FX p s m meth c X mid) (hKS : ∀ q, K q → BS p l e R s m args below meth c Qm lay L0 X mid n0 s0 NT ST q) {o : Int} (hd : decode (byOf mid) pc = .ok (.ifnull o, 3)) (hj : (pc : Int) + o = (a : Int)) (hA : act lay rt (.ifnull o, pc + 3, (a, b, k, dd), w, z, tb, ps) ls st σ = some A) (h : stepP rtOf cl Q K (pc + 3) ls σ A) : BS p l e R s m args below meth c Qm lay L0 X mid n0 s0 NT ST (pc, ls, st, σ) := by
  obtain ⟨t, j, st, rfl, hA⟩ := qR_some hA
  cases hA
  obtain ⟨h1, h2⟩ := h
  refine ⟨?_, fun n1 n2 H locs L hH hVS hL hv1 hv2 => ?_⟩
  · by_cases hc : j = 0
    · exact (hKS _ (h1 hc)).1
    · exact (hKS _ (h2 hc)).1
  · show W p l e R s m args below meth c H locs (sN σ - n0) (sS σ - s0) Qm (F0 m pc L (cvt X j :: st.map (cvV X)))
    by_cases hc : j = 0
    · have hk := (hKS _ (h1 hc)).2 n1 n2 H locs L hH hVS hL hv1 (vt hv2)
      rw [hc]
      exact lv_ifnullN F.1 F.2.1 hd hj hk
    · have hk := (hKS _ (h2 hc)).2 n1 n2 H locs L hH hVS hL hv1 (vt hv2)
      obtain ⟨q, eq⟩ := cvt_ne X hc
      rw [eq]
      exact lv_ifnull F.1 F.2.1 hd hk
theorem si_ifnonnull (F : FX p s m meth c X mid) (hKS : ∀ q, K q → BS p l e R s m args below meth c Qm lay L0 X mid n0 s0 NT ST q) {o : Int} (hd : decode (byOf mid) pc = .ok (.ifnonnull o, 3)) (hj : (pc : Int) + o = (a : Int)) (hA : act lay rt (.ifnonnull o, pc + 3, (a, b, k, dd), w, z, tb, ps) ls st σ = some A) (h : stepP rtOf cl Q K (pc + 3) ls σ A) : BS p l e R s m args below meth c Qm lay L0 X mid n0 s0 NT ST (pc, ls, st, σ) := by
  obtain ⟨t, j, st, rfl, hA⟩ := qR_some hA
  cases hA
  obtain ⟨h1, h2⟩ := h
  refine ⟨?_, fun n1 n2 H locs L hH hVS hL hv1 hv2 => ?_⟩
  · by_cases hc : j = 0
    · exact (hKS _ (h1 hc)).1
    · exact (hKS _ (h2 hc)).1
  · show W p l e R s m args below meth c H locs (sN σ - n0) (sS σ - s0) Qm (F0 m pc L (cvt X j :: st.map (cvV X)))
    by_cases hc : j = 0
    · have hk := (hKS _ (h1 hc)).2 n1 n2 H locs L hH hVS hL hv1 (vt hv2)
      rw [hc]
      exact lv_ifnonnullN F.1 F.2.1 hd hk
    · have hk := (hKS _ (h2 hc)).2 n1 n2 H locs L hH hVS hL hv1 (vt hv2)
      obtain ⟨q, eq⟩ := cvt_ne X hc
      rw [eq]
      exact lv_ifnonnull F.1 F.2.1 hd hj hk
end SIM
