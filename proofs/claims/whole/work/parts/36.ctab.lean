/-! ===== LAYER 3, C: tables, the component ===== -/
theorem lkl_none : ∀ (l : List (Nat × Nat × Nat)) (j k : Nat), (∀ q ∈ l, q.1 ≠ j) → lkl l j k = 0
  | [], _, _, _ => rfl
  | q :: r, j, k, h => by
    unfold lkl
    have h1 : Nat.beq q.1 j = false := by
      cases hb : Nat.beq q.1 j with
      | false => rfl
      | true => exact absurd (Nat.eq_of_beq_eq_true hb) (h q List.mem_cons_self)
    rw [h1]
    exact lkl_none r j k (fun q hq => h q (List.mem_cons_of_mem _ hq))
theorem lay1_hi : LZ lay1 95 := by
  intro j k hj
  refine lkl_none layL j k (fun q hq => ?_)
  have h : layL.all (fun q => decide (q.1 < 95)) = true := by decide +kernel
  have := of_decide_eq_true (List.all_eq_true.mp h q hq)
  omega
theorem ldR_hi (σ : St) {j : Nat} (k : Nat) (h : 95 ≤ j) : ldR lay1 σ j k = gR σ j k := by
  unfold ldR
  rw [lay1_hi j k h]
/-- the component's ring -/
def RC (σ : St) (r : Rg) : Prop := gI σ 11 1 = nI r.1 ∧ gR σ 11 0 ≠ 0 ∧ gN σ (gR σ 11 0) = r.1 ∧ ∀ i, i < r.1 → 95 ≤ gR σ (gR σ 11 0) i ∧ gI σ (gR σ (gR σ 11 0) i) 0 = nI (r.2.1 i) ∧ 95 ≤ gR σ (gR σ (gR σ 11 0) i) 1 ∧ isF σ (gR σ (gR σ (gR σ 11 0) i) 1) (r.2.2 i)
theorem ar.RC {S : List Nat} {σ τ : St} (h : ar S σ τ) (hS : ∀ j ∈ S, j < 95) {r : Rg} (hr : RC σ r) : RC τ r := by
  obtain ⟨h1, h2, h3, h4⟩ := hr
  have eR := h.2.2.2.1
  refine ⟨(h.2.2.2.2.1 11 1 (by omega)).trans h1, by rw [eR]; exact h2, by rw [eR, h.2.2.1]; exact h3, fun i hi => ?_⟩
  obtain ⟨a1, a2, a3, a4⟩ := h4 i hi
  rw [eR]
  exact ⟨a1, (h.2.2.2.2.1 _ 0 (by omega)).trans a2, a3, h.F (fun z => by have := hS _ z; omega) a4⟩
def opQ (S : List Nat) (σ : St) (t : Nat) (r : Option (Int × Nat)) (τ : St) : Prop := ar S σ τ ∧ ∃ f, isF τ t f ∧ fOK f ∧ (r = some f ∧ gI τ 30 0 = gI σ 30 0 ∨ r = none ∧ gI τ 30 0 = 1)
theorem opP.q {S : List Nat} {σ τ : St} {t : Nat} {r : Option (Int × Nat)} (h : opP S σ t r τ) (hr : ∀ f, r = some f → fOK f) : opQ S σ t r τ := by
  obtain ⟨h1, ⟨f, h2, h3⟩, h4⟩ := h
  cases r with
  | none => exact ⟨h1, f, h2, h3, Or.inr ⟨rfl, h4⟩⟩
  | some g => exact ⟨h1, g, h4.1, hr g rfl, Or.inl ⟨rfl, h4.2⟩⟩
theorem lens_ok {x y f g : Int × Nat} (hf : fOK f) (hx : fOK x) (hy : fOK y) (h : (fmul f y).bind (fsub x) = some g) : fOK g := by
  cases h1 : fmul f y with
  | none => rw [h1] at h; cases h
  | some p => rw [h1] at h; exact fsub_ok hx (fmul_ok hf hy h1) h
/-- a mote in the cells z and z + 1 -/
def isM (σ : St) (z : Nat) (m : (Int × Nat) × (Int × Nat)) : Prop := isF σ z m.1 ∧ isF σ (z + 1) m.2
def moP (z : Nat) (σ : St) (r : Option ((Int × Nat) × (Int × Nat))) (τ : St) : Prop := ar [z, z + 1, 31] σ τ ∧ ∃ m, isM τ z m ∧ mOK m ∧ (r = some m ∧ gI τ 30 0 = gI σ 30 0 ∨ r = none ∧ gI τ 30 0 = 1)
section CTAB
variable {d : Nat} {σ : St} {Q : Option AV → St → Prop}
theorem sp_lead {c z p : Nat} {k : Nat} {f : Int × Nat} {m : (Int × Nat) × (Int × Nat)} (hc0 : ldR lay1 σ (c + 1) 0 = z + 1) (hc1 : ldR lay1 σ (c + 1) 1 = z + 2) (hz : 31 < z) (hz2 : z < 90) (hp : 95 ≤ p) (hk : gI σ p 0 = nI k) (hk4 : k ≤ 4) (hg : 95 ≤ gR σ p 1) (hf : isF σ (gR σ p 1) f) (hfo : fOK f) (hm : isM σ (z + 1) m) (hmo : mOK m) (h : ∀ τ, moP (z + 1) σ (mstep k f m) τ → Q none τ) : Cl lay1 (d + 5) M_Op_lead [aO 4 29, aO 3 (c + 1), aO 5 p] σ Q := by
  obtain ⟨p, rfl⟩ : ∃ q, p = q + 1 := ⟨p - 1, by omega⟩
  obtain ⟨q0, q1, -⟩ := nIk hk4
  obtain ⟨g, hge⟩ : ∃ q, gR σ (p + 1) 1 = q + 1 := ⟨gR σ (p + 1) 1 - 1, by omega⟩
  rw [hge] at hf
  have hg95 : 95 ≤ g + 1 := by omega
  refine bk_Op_lead_0 _ _ ⟨fun c1 => ?_, fun c1 => ⟨fun c2 => ?_, fun c2 => ?_⟩⟩
  · rw [hk, q0] at c1
    rw [hc0, hc1, ldR_hi σ 1 (by omega), hge]
    refine sp_plusProduct (t := z) (u := g) (w := z + 1) hm.1 hmo.1 hf hfo hm.2 hmo.2 (by omega) (by omega) (fun τ pp => h τ ?_)
    obtain ⟨a, x, hx, hxo, rr⟩ := pp.q (fun f' hf' => lead_ok hfo hmo.1 hmo.2 hf')
    refine ⟨a.mono (by simp), (x, m.2), ⟨hx, a.F (by simp; omega) hm.2⟩, ⟨hxo, hmo.2⟩, ?_⟩
    unfold mstep
    rw [if_pos c1]
    rcases rr with ⟨e, b⟩ | ⟨e, b⟩
    · rw [e]; exact Or.inl ⟨rfl, b⟩
    · rw [e]; exact Or.inr ⟨rfl, b⟩
  · rw [hk, q1] at c2
    rw [hc0, hc1, ldR_hi σ 1 (by omega), hge]
    refine sp_minusProduct (t := z + 1) (u := g) (w := z) hm.2 hmo.2 hf hfo hm.1 hmo.1 (by omega) (by omega) (fun τ pp => h τ ?_)
    obtain ⟨a, x, hx, hxo, rr⟩ := pp.q (fun f' hf' => lens_ok hfo hmo.2 hmo.1 hf')
    refine ⟨a.mono (by simp), (m.1, x), ⟨a.F (by simp; omega) hm.1, hx⟩, ⟨hmo.1, hxo⟩, ?_⟩
    unfold mstep
    rw [if_neg (by omega), if_pos c2]
    rcases rr with ⟨e, b⟩ | ⟨e, b⟩
    · rw [e]; exact Or.inl ⟨rfl, b⟩
    · rw [e]; exact Or.inr ⟨rfl, b⟩
  · rw [hk, q0] at c1
    rw [hk, q1] at c2
    refine h σ ⟨ar.rf _ _, m, hm, hmo, Or.inl ⟨?_, rfl⟩⟩
    unfold mstep
    rw [if_neg c1, if_neg c2]
end CTAB
