/-! ===== every instruction of the machine keeps to the abstract one ===== -/
theorem qI_some {st : List AV} {f : Int32 → List AV → Option Act} {A : Act} (h : qI st f = some A) : ∃ x r, st = aI x :: r ∧ f x r = some A := by
  unfold qI at h
  split at h
  · exact ⟨_, _, rfl, h⟩
  · cases h
theorem qJ_some {st : List AV} {f : Int64 → List AV → Option Act} {A : Act} (h : qJ st f = some A) : ∃ x r, st = aJ x :: r ∧ f x r = some A := by
  unfold qJ at h
  split at h
  · exact ⟨_, _, rfl, h⟩
  · cases h
theorem qR_some {st : List AV} {f : Nat → Nat → List AV → Option Act} {A : Act} (h : qR st f = some A) : ∃ t j r, st = aO t j :: r ∧ f t j r = some A := by
  unfold qR at h
  split at h
  · exact ⟨_, _, _, rfl, h⟩
  · cases h
theorem bif_some {b : Bool} {x : Option Act} {A : Act} (h : (bif b then x else none) = some A) : b = true ∧ x = some A := by
  cases b
  · cases h
  · exact ⟨rfl, h⟩
theorem qO_some {t : Nat} {st : List AV} {f : Nat → List AV → Option Act} {A : Act} (h : qO t st f = some A) : ∃ j r, st = aO t j :: r ∧ f j r = some A := by
  unfold qO at h
  split at h
  · obtain ⟨h1, h2⟩ := bif_some h
    cases Nat.eq_of_beq_eq_true h1
    exact ⟨_, _, rfl, h2⟩
  · cases h
theorem pops_some {f : List AV → List AV → Option Act} {A : Act} : ∀ (n : Nat) (acc st : List AV), pops n acc st f = some A → ∃ as r, st = as ++ r ∧ as.length = n ∧ f (as.reverse ++ acc) r = some A
  | 0, acc, st, h => ⟨[], st, rfl, rfl, h⟩
  | _ + 1, _, [], h => by cases h
  | n + 1, acc, v :: st, h => by
    obtain ⟨as, r, h1, h2, h3⟩ := pops_some n (v :: acc) st h
    exact ⟨v :: as, r, by rw [h1]; rfl, by rw [← h2]; rfl, by simpa using h3⟩
theorem catS_eq (X : Cx) : ∀ st : List AV, ((st.map (cvV X)).map fun v => v.category).sum = catS st
  | [] => rfl
  | v :: r => by
    have h := catS_eq X r
    have hv : (cvV X v).category = cat v := by
      match v with
      | .inl _ => rfl
      | .inr (.inl _) => rfl
      | .inr (.inr (.inl _)) => rfl
      | .inr (.inr (.inr (t, j))) =>
        show (cvt X j).category = 1
        unfold cvt
        split
        · rfl
        · split
          · rfl
          · split <;> rfl
    simp only [List.map_cons, List.sum_cons, h, hv, catS]
theorem cat_cv (X : Cx) (v : AV) : (cvV X v).category = cat v := by
  have := catS_eq X [v]
  simpa [catS] using this
/-- locals -/
def Lc (X : Cx) (n : Nat) (ls : List AV) (L : Array Slot) : Prop := L.size = n ∧ lv_wf L ∧ ls.length = n ∧ ∀ i, nthA ls i ≠ aZ → L[i]? = some (.val (cvV X (nthA ls i)))
def lp (X : Cx) (n : Nat) (ls : List AV) : List (Nat × Value) := (List.range n).filterMap (fun i => match nthA ls i with
  | .inl _ => none
  | v => some (i, cvV X v))
theorem nthA_ge : ∀ {ls : List AV} {i : Nat}, ls.length ≤ i → nthA ls i = aZ
  | [], _, _ => rfl
  | _ :: _, 0, h => absurd h (by simp)
  | _ :: r, n + 1, h => nthA_ge (ls := r) (Nat.le_of_succ_le_succ h)
theorem aZ_of {v : AV} (h : ∀ u, v ≠ .inl u) : v ≠ aZ := h ()
theorem lp_mem {X : Cx} {n : Nat} {ls : List AV} {q : Nat × Value} : q ∈ lp X n ls ↔ q.1 < n ∧ nthA ls q.1 ≠ aZ ∧ q.2 = cvV X (nthA ls q.1) := by
  unfold lp
  rw [List.mem_filterMap]
  constructor
  · rintro ⟨i, hi, h⟩
    split at h
    · cases h
    · next hz =>
      cases h
      exact ⟨List.mem_range.mp hi, fun z => hz () z, rfl⟩
  · rintro ⟨h1, h2, h3⟩
    refine ⟨q.1, List.mem_range.mpr h1, ?_⟩
    split
    · next u e => exact absurd e h2
    · rw [← h3]
theorem Lc.has {X : Cx} {n : Nat} {ls : List AV} {L : Array Slot} (h : Lc X n ls L) : lv_has L n (lp X n ls) := by
  refine ⟨h.1, h.2.1, fun q hq => ?_⟩
  obtain ⟨h1, h2, h3⟩ := lp_mem.mp hq
  rw [h.2.2.2 q.1 h2, h3]
theorem nthA_sto : ∀ (ls : List AV) (i : Nat) (v : AV) (k : Nat), i < ls.length → nthA (sto ls i v) k = if k = i then v else if k + 1 = i then unJ (nthA ls k) else nthA ls k
  | [], _, _, _, h => absurd h (by simp)
  | x :: r, 0, v, k, _ => by
    cases k with
    | zero => rfl
    | succ k => simp [sto, nthA]
  | x :: r, n + 1, v, k, h => by
    have h' : n < r.length := Nat.lt_of_succ_lt_succ h
    cases k with
    | zero =>
      show (bif Nat.beq n 0 then unJ x else x) = _
      cases n with
      | zero => simp [nthA]
      | succ n =>
        show x = _
        simp [nthA]
    | succ k =>
      show nthA (sto r n v) k = _
      rw [nthA_sto r n v k h']
      simp [nthA]
theorem sto_len : ∀ (ls : List AV) (i : Nat) (v : AV), (sto ls i v).length = ls.length
  | [], _, _ => rfl
  | _ :: _, 0, _ => rfl
  | _ :: r, n + 1, v => by simp [sto, sto_len r n v]
theorem sto_mem {P : AV → Prop} (hz : P aZ) : ∀ (ls : List AV) (i : Nat) (v : AV), P v → (∀ x ∈ ls, P x) → ∀ x ∈ sto ls i v, P x
  | [], _, _, _, _, x, hx => by cases hx
  | y :: r, 0, v, hv, h, x, hx => by
    rcases List.mem_cons.mp hx with rfl | hx
    · exact hv
    · exact h x (List.mem_cons_of_mem _ hx)
  | y :: r, n + 1, v, hv, h, x, hx => by
    rcases List.mem_cons.mp hx with rfl | hx
    · cases Nat.beq n 0
      · exact h y List.mem_cons_self
      · show P (unJ y)
        match y, h y List.mem_cons_self with
        | .inl _, h => exact h
        | .inr (.inl _), h => exact h
        | .inr (.inr (.inl _)), _ => exact hz
        | .inr (.inr (.inr _)), h => exact h
    · exact sto_mem hz r n v hv (fun x hx => h x (List.mem_cons_of_mem _ hx)) x hx
theorem nthA_set : ∀ (ls : List AV) (i k : Nat) (v : AV), nthA (ls.set i v) k = if k = i ∧ i < ls.length then v else nthA ls k
  | [], _, _, _ => by simp [nthA]
  | _ :: _, 0, 0, _ => by simp [nthA]
  | _ :: _, 0, k + 1, _ => by simp [nthA]
  | _ :: _, _ + 1, 0, _ => by simp [nthA]
  | _ :: r, i + 1, k + 1, v => by
    simp only [List.set_cons_succ, nthA]
    rw [nthA_set r i k v]
    simp
theorem unJ_cat {v : AV} (h : unJ v ≠ aZ) : unJ v = v ∧ cat v ≠ 2 := by
  match v, h with
  | .inl _, _ => exact ⟨rfl, by simp [cat]⟩
  | .inr (.inl _), _ => exact ⟨rfl, by simp [cat]⟩
  | .inr (.inr (.inl _)), h => exact absurd rfl h
  | .inr (.inr (.inr _)), _ => exact ⟨rfl, by simp [cat]⟩
/-- behind a store of one place -/
theorem Lc_sto1 {X : Cx} {n i : Nat} {ls : List AV} {L L' : Array Slot} {v : AV} (h : Lc X n ls L) (hi : i < n) (hv : v ≠ aZ) (hl : lv_has L' n ((i, cvV X v) :: (lp X n ls).filter (fun q => !(q.1 == i) && !(q.1 + 1 == i && q.2.category == 2)))) : Lc X n (sto ls i v) L' := by
  refine ⟨hl.1, hl.2.1, by rw [sto_len]; exact h.2.2.1, fun k hk => ?_⟩
  have hil : i < ls.length := by rw [h.2.2.1]; exact hi
  rw [nthA_sto ls i v k hil] at hk ⊢
  by_cases e : k = i
  · rw [if_pos e]
    subst e
    exact hl.2.2 (k, cvV X v) List.mem_cons_self
  · rw [if_neg e] at hk ⊢
    by_cases e2 : k + 1 = i
    · rw [if_pos e2] at hk ⊢
      obtain ⟨h1, h2⟩ := unJ_cat hk
      rw [h1] at hk ⊢
      refine hl.2.2 (k, cvV X (nthA ls k)) (List.mem_cons_of_mem _ (List.mem_filter.mpr ⟨lp_mem.mpr ⟨by show k < n; omega, hk, rfl⟩, ?_⟩))
      have : ¬ (cvV X (nthA ls k)).category = 2 := by rw [cat_cv]; exact h2
      simp [e, this]
    · rw [if_neg e2] at hk ⊢
      have hkn : k < n := by
        rcases Nat.lt_or_ge k n with q | q
        · exact q
        · exact absurd (nthA_ge (by rw [h.2.2.1]; exact q)) hk
      refine hl.2.2 (k, cvV X (nthA ls k)) (List.mem_cons_of_mem _ (List.mem_filter.mpr ⟨lp_mem.mpr ⟨hkn, hk, rfl⟩, ?_⟩))
      simp [e, e2]
theorem Lc_sto2 {X : Cx} {n i : Nat} {ls : List AV} {L L' : Array Slot} {v : AV} (h : Lc X n ls L) (hi : i + 1 < n) (hv : v ≠ aZ) (hl : lv_has L' n ((i, cvV X v) :: (lp X n ls).filter (fun q => !(q.1 == i) && (!(q.1 == i + 1) && !(q.1 + 1 == i && q.2.category == 2))))) : Lc X n (sto2 ls i v) L' := by
  refine ⟨hl.1, hl.2.1, by unfold sto2; rw [List.length_set, sto_len]; exact h.2.2.1, fun k hk => ?_⟩
  have hil : i < ls.length := by rw [h.2.2.1]; omega
  unfold sto2 at hk ⊢
  rw [nthA_set] at hk ⊢
  by_cases e0 : k = i + 1
  · rw [if_pos ⟨e0, by rw [sto_len, h.2.2.1]; exact hi⟩] at hk
    exact absurd rfl hk
  · rw [if_neg (fun q => e0 q.1)] at hk ⊢
    rw [nthA_sto ls i v k hil] at hk ⊢
    by_cases e : k = i
    · rw [if_pos e]
      subst e
      exact hl.2.2 (k, cvV X v) List.mem_cons_self
    · rw [if_neg e] at hk ⊢
      by_cases e2 : k + 1 = i
      · rw [if_pos e2] at hk ⊢
        obtain ⟨h1, h2⟩ := unJ_cat hk
        rw [h1] at hk ⊢
        refine hl.2.2 (k, cvV X (nthA ls k)) (List.mem_cons_of_mem _ (List.mem_filter.mpr ⟨lp_mem.mpr ⟨by show k < n; omega, hk, rfl⟩, ?_⟩))
        have : ¬ (cvV X (nthA ls k)).category = 2 := by rw [cat_cv]; exact h2
        simp [e, e0, this]
      · rw [if_neg e2] at hk ⊢
        have hkn : k < n := by
          rcases Nat.lt_or_ge k n with q | q
          · exact q
          · exact absurd (nthA_ge (by rw [h.2.2.1]; exact q)) hk
        refine hl.2.2 (k, cvV X (nthA ls k)) (List.mem_cons_of_mem _ (List.mem_filter.mpr ⟨lp_mem.mpr ⟨hkn, hk, rfl⟩, ?_⟩))
        simp [e, e0, e2]
theorem nthA_mem {P : AV → Prop} (hz : P aZ) : ∀ {ls : List AV} (_ : ∀ x ∈ ls, P x) (i : Nat), P (nthA ls i)
  | [], _, _ => hz
  | v :: _, h, 0 => h v List.mem_cons_self
  | _ :: r, h, n + 1 => nthA_mem hz (ls := r) (fun x hx => h x (List.mem_cons_of_mem _ hx)) n
theorem cvt_rf {X : Cx} {σ : St} {t r : Nat} (h : rOK σ t r) : cvt X r = va_rf (rfO X r) := by
  rcases h with rfl | ⟨h1, -⟩
  · rfl
  · unfold cvt rfO
    rw [if_neg (by omega), if_neg (by omega), if_neg (by omega), if_neg (by omega)]
    rfl
