/-! ===== LAYER 3, H: what stays between the calls ===== -/
def oC (σ τ : St) : Prop := sN τ = sN σ ∧ sS τ = sS σ ∧ gN τ = gN σ ∧ gR τ = gR σ ∧ (∀ j k, (j < 71 ∨ 95 ≤ j) → gI τ j k = gI σ j k) ∧ ∀ j k, (j < 71 ∨ 95 ≤ j) → gL τ j k = gL σ j k
theorem oC.rf (σ : St) : oC σ σ := ⟨rfl, rfl, rfl, rfl, fun _ _ _ => rfl, fun _ _ _ => rfl⟩
/-- the component's side, piece by piece -/
theorem CIn.of {σ τ : St} {s : Sa} (ho : SOK s) (h : CIn σ s) (eN : gN τ = gN σ) (eR : gR τ = gR σ) (es : sN τ = sN σ) (eI : ∀ j k, j ≠ 5 → j ≠ 6 → ¬ (j = 29 ∧ k = 13) → ¬ (j = 30 ∧ k = 0) → (j < 68 ∨ 95 ≤ j) → gI τ j k = gI σ j k) (eL : ∀ j k, (j < 14 ∨ 95 ≤ j) → gL τ j k = gL σ j k) {t' : Tx} {K' : Kk} {l' : List (Int × Nat)} {G' : Gd} (h1 : txC τ t') (h2 : kF τ 14 s.2.1 K') (h3 : toldC τ l') (h4 : gDC τ G') : CIn τ (t', s.2.1, K', l', G', s.2.2.2.2.2) := by
  obtain ⟨q1, q2, q3, q4, q5, q6, q7, q8, q9, q10⟩ := h
  have hk := ho.2.2.1.1
  refine ⟨q1.of eR, fun k hk => (eI 2 k (by omega) (by omega) (by omega) (by omega) (by omega)).trans (q2 k hk), h1, ?_, ?_, ?_, h2, h3, h4, (eI 3 4 (by omega) (by omega) (by omega) (by omega) (by omega)).trans q10⟩
  · obtain ⟨a1, a2, a3, a4⟩ := q4
    refine ⟨(eI 11 1 (by omega) (by omega) (by omega) (by omega) (by omega)).trans a1, by rw [eR]; exact a2, by rw [eR, eN]; exact a3, fun i hi => ?_⟩
    obtain ⟨b1, b2, b3, b4⟩ := a4 i hi
    rw [eR]
    exact ⟨b1, (eI _ 0 (by omega) (by omega) (by omega) (by omega) (by omega)).trans b2, b3, (eL _ 0 (by omega)).trans b4.1, (eL _ 1 (by omega)).trans b4.2⟩
  · unfold rgC
    rw [eR, es]
    exact q5
  · obtain ⟨a1, a2, a3⟩ := q6
    exact ⟨(eI 11 6 (by omega) (by omega) (by omega) (by omega) (by omega)).trans a1, (eI 11 7 (by omega) (by omega) (by omega) (by omega) (by omega)).trans a2, fun i hi => ⟨fun z => ⟨(eI 28 _ (by omega) (by omega) (by omega) (by omega) (by omega)).trans ((a3 i hi).1 z).1, (eI 26 _ (by omega) (by omega) (by omega) (by omega) (by omega)).trans ((a3 i hi).1 z).2⟩, fun z => (eI 27 _ (by omega) (by omega) (by omega) (by omega) (by omega)).trans ((a3 i hi).2 z)⟩⟩
theorem oC.C {σ τ : St} (a : oC σ τ) {s : Sa} (ho : SOK s) (h : CIn σ s) : CIn τ s := by
  have hk12 := ho.2.2.1.1
  have hl4 := ho.2.2.2.2
  have eI := a.2.2.2.2.1
  have eL := a.2.2.2.2.2
  obtain ⟨q1, q2, q3, q4, q5, q6, q7, q8, q9, q10⟩ := id h
  exact CIn.of ho h a.2.2.1 a.2.2.2.1 a.1 (fun j k _ _ _ _ q => eI j k (by omega)) (fun j k q => eL j k (by omega)) ⟨(eI 5 1 (by omega)).trans q3.1, fun i hi => (eI 6 i (by omega)).trans (q3.2 i hi)⟩ (fun k hk => ⟨(eL (14 + k) 0 (by omega)).trans (q7 k hk).1, (eL (14 + k) 1 (by omega)).trans (q7 k hk).2⟩) ⟨(eI 29 13 (by omega)).trans q8.1, fun k f hk => by have hlt : k < s.2.2.2.1.length := (List.getElem?_eq_some_iff.mp hk).1; exact ⟨(eL (64 + k) 0 (by omega)).trans (q8.2 k f hk).1, (eL (64 + k) 1 (by omega)).trans (q8.2 k f hk).2⟩⟩ (q9.of (fun j _ => eI 68 j (by omega)))
/-- the reference's side, piece by piece -/
theorem RIn.of {σ τ : St} {s : Sa} (h : RIn σ s) (eI : ∀ j k, ¬ (j = 71 ∧ (k = 1 ∨ k = 39 ∨ k = 42 ∨ 44 ≤ k)) → j ≠ 72 → j < 93 → gI τ j k = gI σ j k) (eL : ∀ j k, 85 ≤ j → j ≤ 87 → gL τ j k = gL σ j k) {t' : Tx} {K' : Kk} {l' : List (Int × Nat)} {G' : Gd} (h1 : txR τ t') (h2 : rkF τ s.2.1 K') (h3 : toldR τ l') (h4 : gDR τ G') : RIn τ (t', s.2.1, K', l', G', s.2.2.2.2.2) := by
  obtain ⟨q1, q2, q3, q4, q5, q6, q7, q8⟩ := h
  exact ⟨h1, ⟨(eI 71 29 (by omega) (by omega) (by omega)).trans q2.1, fun i hi => ⟨(eI 85 i (by omega) (by omega) (by omega)).trans (q2.2 i hi).1, (eL 86 i (by omega) (by omega)).trans (q2.2 i hi).2.1, (eL 87 i (by omega) (by omega)).trans (q2.2 i hi).2.2⟩⟩, (eI 71 30 (by omega) (by omega) (by omega)).trans q3, (eI 71 31 (by omega) (by omega) (by omega)).trans q4, h2, h3, h4, (eI 71 7 (by omega) (by omega) (by omega)).trans q8⟩
/-- between the calls: c calls done -/
def Iv (L : Nat) (σ : St) (c : Nat) (s : Sa) : Prop := LN σ ∧ 95 ≤ sN σ ∧ SOK s ∧ CIn σ s ∧ RIn σ s ∧ gN σ 1 = L ∧ sN σ + 4 * s.1.1 ≤ 95 + 36 * c ∧ sS σ + 87 * s.1.1 ≤ 103269 + 783 * c
/-- what a call of the component leaves alone -/
def cfr (σ τ : St) : Prop := LN τ ∧ oR σ τ ∧ gN τ 1 = gN σ 1 ∧ ∀ k, gI τ 1 k = gI σ 1 k
theorem l4_table {r : Rg} {l : List (Int × Nat)} {i n : Int32} (h : l.length ≤ 4) : (spTable r l i n).2.length ≤ 4 := by
  unfold spTable
  repeat' split
  all_goals first | exact h | simp
theorem l4_round {r : Rg} {l : List (Int × Nat)} {i : Int32} (h : l.length ≤ 4) : (spRound r l i).2.length ≤ 4 := by
  unfold spRound
  repeat' split
  all_goals first | exact h | simp
theorem l4_widths {r : Rg} {l : List (Int × Nat)} {i : Int32} (h : l.length ≤ 4) : (spWidths r l i).2.length ≤ 4 := by
  unfold spWidths
  repeat' split
  all_goals first | exact h | simp
theorem l4_way {r : Rg} {K : Kk} {l : List (Int × Nat)} {i : Int32} (h : l.length ≤ 4) : (spWay r K l i).2.length ≤ 4 := by
  unfold spWay
  repeat' split
  all_goals first | exact h | simp
theorem l4_answer {r : Rg} {l : List (Int × Nat)} {m k : Int32} (h : l.length ≤ 4) : (spAnswer r l m k).2.length ≤ 4 := by
  unfold spAnswer
  repeat' split
  all_goals first | exact h | simp
theorem l4_bump {r : Rg} {l : List (Int × Nat)} {a b c : Int32} (h : l.length ≤ 4) : (spBump r l a b c).2.length ≤ 4 := by
  unfold spBump
  repeat' split
  all_goals first | exact h | simp
section INV
variable {L : Nat} {σ : St} {c : Nat} {s : Sa}
/-- a call that tells: the component's step -/
theorem cn_step (h : Iv L σ c s) {τ : St} {l' : List (Int × Nat)} (a : cn σ τ) (hl : toldC τ l') : cfr σ τ ∧ CIn τ (s.1, s.2.1, s.2.2.1, l', s.2.2.2.2.1, s.2.2.2.2.2) ∧ sN τ = sN σ ∧ sS τ = sS σ := by
  obtain ⟨h1, h2, h3, h4, h5, h6, -, -⟩ := h
  have hk12 := h3.2.2.1.1
  have eI := a.2.2.2.2.1
  have eL := a.2.2.2.2.2
  obtain ⟨q1, q2, q3, q4, q5, q6, q7, q8, q9, q10⟩ := id h4
  refine ⟨⟨h1.of a.2.2.1, fun j x1 x2 => ⟨fun k => eI j k (by omega) (by omega), fun k => eL j (by omega) k⟩, by rw [a.2.2.1], fun k => eI 1 k (by omega) (by omega)⟩, CIn.of h3 h4 a.2.2.1 a.2.2.2.1 a.1 (fun j k _ _ x1 x2 _ => eI j k x2 x1) (fun j k q => eL j (by omega) k) ⟨(eI 5 1 (by omega) (by omega)).trans q3.1, fun i hi => (eI 6 i (by omega) (by omega)).trans (q3.2 i hi)⟩ (fun k hk => ⟨(eL (14 + k) (by omega) 0).trans (q7 k hk).1, (eL (14 + k) (by omega) 1).trans (q7 k hk).2⟩) hl (q9.of (fun j _ => eI 68 j (by omega) (by omega))), a.1, a.2.1⟩
theorem rn_step (h : RIn σ s) {τ : St} {l' : List (Int × Nat)} (a : rn σ τ) (hl : toldR τ l') : RIn τ (s.1, s.2.1, s.2.2.1, l', s.2.2.2.2.1, s.2.2.2.2.2) ∧ oC σ τ := by
  have eI := a.2.2.2.2.1
  have eL := a.2.2.2.2.2
  obtain ⟨q1, q2, q3, q4, q5, q6, q7, q8⟩ := id h
  exact ⟨RIn.of h (fun j k x1 x2 _ => eI j k (by omega)) (fun j k x1 x2 => eL j k (by omega) (by omega)) ⟨(eI 71 1 (by omega)).trans q1.1, fun i hi => (eI 72 i (by omega)).trans (q1.2 i hi)⟩ (fun k hk => ⟨(eL 88 k (by omega) (by omega)).trans (q5 k hk).1, (eL 89 k (by omega) (by omega)).trans (q5 k hk).2⟩) hl (q7.of (fun j hj => eI 71 j (by omega))), ⟨a.1, a.2.1, a.2.2.1, a.2.2.2.1, fun j k q => eI j k (by omega), fun j k q => eL j k (by omega) (by omega)⟩⟩
/-- both sides done -/
theorem Iv.next (h : Iv L σ c s) {τ υ : St} {s' : Sa} (ho : SOK s') (hc : CIn τ s') (hln : LN τ) (hg1 : gN τ 1 = gN σ 1) (hn0 : 95 ≤ sN τ) (hn : sN τ + 4 * s'.1.1 ≤ sN σ + 4 * s.1.1 + 36) (hS : sS τ + 87 * s'.1.1 ≤ sS σ + 87 * s.1.1 + 783) (hr : RIn υ s') (a : oC τ υ) : Iv L υ (c + 1) s' := by
  obtain ⟨h1, h2, h3, h4, h5, h6, h7, h8⟩ := h
  refine ⟨hln.of a.2.2.1, by rw [a.1]; exact hn0, ho, a.C ho hc, hr, (congrFun a.2.2.1 1).trans (hg1.trans h6), ?_, ?_⟩
  · have e := a.1
    omega
  · have e := a.2.1
    omega
end INV
