/-! ===== the words, at every state of the run ===== -/
def wOK (w : Cond) : Bool := goodWord w || (match w with
  | .fieldLinkNest _ _ _ _ _ _ => true
  | .methodLinkNest _ _ _ _ => true
  | .arrayOver (.object _) => true
  | _ => false)
def KW (s : State) : Prop := ∀ w ∈ lw_tbl, wOK w = true → ∀ A : Array Value, w.before A s = true
theorem kw_at {s U : State} {w : Cond} (h1 : wOK w = true) {A : Array Value} (h : w.before A s = true) (hW : s.WarmedH U.vm) (a' : Array Value) : w.before a' U = true := by
  unfold wOK at h1
  rcases Bool.or_eq_true_iff.mp h1 with h2 | h2
  · exact word_at hW (good_of_word h2) h
  · split at h2
    · exact va_Nw.use rfl (va_Nw.warmF hW (va_Nw.of rfl h))
    · exact va_Nw.use rfl (va_Nw.warmM hW (va_Nw.of rfl h))
    · exact va_AO.use (va_AO.moved hW.alike (va_AO.of h))
    · cases h2
theorem KW.of {s : State} {A : Array Value} (h : ∀ w ∈ lw_tbl, w.before A s = true) : KW s := fun w hw hk a' => kw_at hk (h w hw) (State.WarmedH.refl s) a'
theorem KW.warm {s U : State} (h : KW s) (hW : s.WarmedH U.vm) : KW U := fun w hw hk a' => kw_at hk (h w hw hk #[]) hW a'
theorem KW.get {s : State} (h : KW s) {p : Nat} {w : Cond} (hw : gw p w = true) (hk : wOK w = true) (A : Array Value) : w.before A s = true := h w (List.mem_of_getElem? (of_decide_eq_true hw)) hk A
theorem gw_mem {p : Nat} {w : Cond} (h : gw p w = true) : w ∈ lw_tbl := List.mem_of_getElem? (of_decide_eq_true h)
/-! ===== the heap that an abstract state stands for ===== -/
/-- base of our cells, the script's cell, the primes' cell, the classes' numbers, the array classes' numbers -/
abbrev Cx : Type := Nat × Nat × Nat × va_G × (Nat → ClassId)
def cvt (X : Cx) (j : Nat) : Value := if j = 0 then .null else if j = 1 then .ref X.2.1 else if j = 2 then .ref X.2.2.1 else .ref (X.1 + (j - 3))
def cvV (X : Cx) (v : AV) : Value := match v with
  | .inl _ => .null
  | .inr (.inl x) => .int x
  | .inr (.inr (.inl x)) => .long x
  | .inr (.inr (.inr (_, j))) => cvt X j
def rfO (X : Cx) (r : Nat) : Option Nat := if r = 0 then none else some (X.1 + (r - 3))
def slV (X : Cx) (σ : St) (ty j k : Nat) : Value := match ty with
  | 0 => .int (gI σ j k)
  | 1 => .int (gI σ j k)
  | 2 => .int (gI σ j k)
  | 3 => .long (gL σ j k)
  | _ + 4 => va_rf (rfO X (gR σ j k))
def entA (X : Cx) (σ : St) (t j : Nat) : vp_A := (gN σ j, if t < 19 then .inl (fun k => gI σ j k) else if t = 19 then .inr (.inl (fun k => gL σ j k)) else .inr (.inr (.inr (.inr (fun k => rfO X (gR σ j k))))))
def entO (X : Cx) (σ : St) (j : Nat) : va_E := if gT σ j < 13 then .inr (gT σ j, (List.range (nF (gT σ j))).map (fun k => slV X σ (fty (gT σ j) k) j k)) else .inl (X.2.2.2.2 (gT σ j), entA X σ (gT σ j) j)
def conc (X : Cx) (σ : St) : va_W := (List.range (sN σ - 3)).map (fun i => (X.1 + i, entO X σ (i + 3)))
theorem conc_get {X : Cx} {σ : St} {j : Nat} (h3 : 3 ≤ j) (hn : j < sN σ) : (conc X σ)[j - 3]? = some (X.1 + (j - 3), entO X σ j) := by
  have h : j - 3 < sN σ - 3 := by omega
  simp [conc, h, show j - 3 + 3 = j by omega]
theorem conc_len (X : Cx) (σ : St) : (conc X σ).length = sN σ - 3 := by simp [conc]
theorem conc_set {X : Cx} {σ τ : St} {j : Nat} (h3 : 3 ≤ j) (hs : sN τ = sN σ) (ho : ∀ i, i ≠ j → entO X τ i = entO X σ i) : (conc X σ).set (j - 3) (X.1 + (j - 3), entO X τ j) = conc X τ := by
  apply List.ext_getElem?
  intro i
  by_cases hi : i < sN σ - 3
  · by_cases e : j - 3 = i
    · subst e
      rw [List.getElem?_set_self (by rw [conc_len]; exact hi), conc_get h3 (by rw [hs]; omega)]
    · rw [List.getElem?_set_ne e]
      have hj : i + 3 ≠ j := by omega
      have e1 := conc_get (X := X) (σ := σ) (j := i + 3) (by omega) (by omega)
      have e2 := conc_get (X := X) (σ := τ) (j := i + 3) (by omega) (by rw [hs]; omega)
      rw [show i + 3 - 3 = i by omega] at e1 e2
      rw [e1, e2, ho _ hj]
  · rw [List.getElem?_eq_none (by rw [List.length_set, conc_len]; omega), List.getElem?_eq_none (by rw [conc_len, hs]; omega)]
theorem conc_push {X : Cx} {σ τ : St} (h3 : 3 ≤ sN σ) (hs : sN τ = sN σ + 1) (ho : ∀ i, i < sN σ → entO X τ i = entO X σ i) : conc X σ ++ [(X.1 + (sN σ - 3), entO X τ (sN σ))] = conc X τ := by
  apply List.ext_getElem?
  intro i
  by_cases hi : i < sN σ - 3
  · rw [List.getElem?_append_left (by rw [conc_len]; exact hi)]
    have e1 := conc_get (X := X) (σ := σ) (j := i + 3) (by omega) (by omega)
    have e2 := conc_get (X := X) (σ := τ) (j := i + 3) (by omega) (by omega)
    rw [show i + 3 - 3 = i by omega] at e1 e2
    rw [e1, e2, ho _ (by omega)]
  · by_cases e : i = sN σ - 3
    · subst e
      rw [List.getElem?_append_right (by rw [conc_len]; exact Nat.le_refl _), conc_len, Nat.sub_self, conc_get h3 (by omega)]
      rfl
    · rw [List.getElem?_eq_none (by rw [List.length_append, conc_len]; simp; omega), List.getElem?_eq_none (by rw [conc_len, hs]; omega)]
theorem conc_D (X : Cx) (σ : St) : va_D (fun q => X.1 ≤ q) (conc X σ) := by
  have key : ∀ (i : Nat) (p : Nat × va_E), (conc X σ)[i]? = some p → p.1 = X.1 + i := by
    intro i p h
    have hl : i < sN σ - 3 := by
      have := (List.getElem?_eq_some_iff.mp h).1
      rwa [conc_len] at this
    have e1 := conc_get (X := X) (σ := σ) (j := i + 3) (by omega) (by omega)
    rw [show i + 3 - 3 = i by omega, h] at e1
    rw [Option.some.inj e1]
  refine ⟨fun i j p q hi hj hpq => ?_, fun k q hk => ?_⟩
  · have := key i p hi
    have := key j q hj
    omega
  · have := key k q hk
    show X.1 ≤ q.1
    omega
theorem map_set_range {α : Type} (f g : Nat → α) (n k : Nat) (hk : k < n) (ho : ∀ i, i ≠ k → g i = f i) : ((List.range n).map f).set k (g k) = (List.range n).map g := by
  apply List.ext_getElem?
  intro i
  by_cases e : k = i
  · subst e
    rw [List.getElem?_set_self (by simpa using hk)]
    simp [hk]
  · rw [List.getElem?_set_ne e]
    by_cases hi : i < n
    · simp [hi, ho i (Ne.symm e)]
    · simp [hi]
/-- the type of a slot, by the tag of its cell -/
def sty (t k : Nat) : Nat := if t < 13 then fty t k else if t = 19 then 3 else if t = 20 then 9 else if t = 21 then 4 else 0
def rOK (σ : St) (t r : Nat) : Prop := r = 0 ∨ (3 ≤ r ∧ r < sN σ ∧ gT σ r = t)
def vOK (σ : St) (v : AV) : Prop := match v with
  | .inr (.inr (.inr (t, j))) => j = 0 ∨ (t = 22 ∧ (j = 1 ∨ j = 2)) ∨ (t ≠ 22 ∧ 3 ≤ j ∧ j < sN σ ∧ gT σ j = t)
  | _ => True
def wt (σ : St) : Prop := (∀ j, 3 ≤ j → j < sN σ → gT σ j < 13 ∨ (16 ≤ gT σ j ∧ gT σ j ≤ 21)) ∧ ∀ j k t, 3 ≤ j → j < sN σ → sty (gT σ j) k = t + 4 → rOK σ t (gR σ j k)
def tysL (X : Cx) : List (ClassId × FieldType) := [(X.2.2.2.2 16, .int), (X.2.2.2.2 17, .boolean), (X.2.2.2.2 18, .byte), (X.2.2.2.2 19, .long), (X.2.2.2.2 20, .object RX5), (X.2.2.2.2 21, .object RX0)]
theorem rOK.ext {σ τ : St} (h : Ext σ τ) {t r : Nat} (hr : rOK σ t r) : rOK τ t r := by
  rcases hr with h0 | ⟨h1, h2, h3⟩
  · exact Or.inl h0
  · exact Or.inr ⟨h1, Nat.lt_of_lt_of_le h2 h.1, (h.2.2 r h2).trans h3⟩
theorem vOK.ext {σ τ : St} (h : Ext σ τ) {v : AV} (hv : vOK σ v) : vOK τ v := by
  match v, hv with
  | .inl _, _ => trivial
  | .inr (.inl _), _ => trivial
  | .inr (.inr (.inl _)), _ => trivial
  | .inr (.inr (.inr (t, j))), hv =>
    rcases hv with h0 | h0 | ⟨h0, h1, h2, h3⟩
    · exact Or.inl h0
    · exact Or.inr (Or.inl h0)
    · exact Or.inr (Or.inr ⟨h0, h1, Nat.lt_of_lt_of_le h2 h.1, (h.2.2 j h2).trans h3⟩)
/-- tables' part of the world -/
def TW (X : Cx) (U : State) : Prop := va_K X.2.2.2.1 vwCl (tysL X) U ∧ KW U
/-- heap's part -/
def HW (lay : Nat → Nat → Nat) (L0 : Nat) (X : Cx) (σ : St) (U : State) (H : Heap) : Prop :=
  va_P X.2.2.2.1 vwCl (conc X σ) H ∧ H.size = X.1 + (sN σ - 3) ∧ 3 ≤ sN σ ∧ wt σ ∧ (L0 ≤ sN σ ∧ ∀ j k, lay j k ≠ 0 → gR σ j k = lay j k) ∧ (X.2.1 < X.1 ∧ X.2.2.1 < X.1) ∧ va_X X.2.1 (gN σ 1) (gI σ 1) U H ∧ va_T .int X.2.2.1 (gN σ 2) (fun k => .int (gI σ 2 k)) (fun q => X.1 ≤ q) U H ∧ va_Z RX11 "PRIMES" "[I" (.ref X.2.2.1) (fun q => X.1 ≤ q) U H
theorem TW.warm {X : Cx} {s U : State} (h : TW X s) (hW : s.WarmedH U.vm) : TW X U := ⟨va_K.moved hW.alike h.1, h.2.warm hW⟩
theorem HW.alike {lay : Nat → Nat → Nat} {L0 : Nat} {X : Cx} {σ : St} {u U : State} {H : Heap} (hvm : u.vm.Alike U.vm) (h : HW lay L0 X σ u H) : HW lay L0 X σ U H := by
  obtain ⟨h1, h2, h3, h4, h5, h6, h7, h8, h9⟩ := h
  exact ⟨h1, h2, h3, h4, h5, h6, h7.moved hvm, h8.moved hvm, h9.moved hvm⟩
