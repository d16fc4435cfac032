/-! ===== LAYER 3, D: round() ===== -/
def stab (s : Int × Nat) : Int32 := if s.1 = -2 * s.2 ∨ s.1 = 2 * s.2 then 1 else if -2 * (s.2 : Int) < s.1 ∧ s.1 < 2 * s.2 then 2 else 0
/-- THE ROUND with its a + d; nothing where it is BIG -/
def rnd (r : Rg) (i : Nat) : Option (Tb × (Int × Nat)) := (tgo r i r.1).bind fun t => (fadd t.1.1 t.2.2).map fun s => (t, s)
def spRound (r : Rg) (l : List (Int × Nat)) (i : Int32) : Int32 × List (Int × Nat) := if 0 ≤ i.toInt ∧ i.toInt < r.1 then (match rnd r i.toInt.toNat with
  | some q => (stab q.2, [q.1.1.1, q.1.2.1, q.1.1.2, q.1.2.2])
  | none => (-5, l)) else (-1, l)
section ROUND
variable {d : Nat} {σ : St} {Q : Option AV → St → Prop}
theorem sp_compare {a b : Int} (h1 : -9223372036854775808 ≤ a) (h2 : a < 9223372036854775808) (h3 : -9223372036854775808 ≤ b) (h4 : b < 9223372036854775808) (h : ∀ r : Int32, (r = 0 ↔ a = b) ∧ (r ≤ 0 ↔ a ≤ b) ∧ (0 ≤ r ↔ b ≤ a) → Q (some (aI r)) σ) : Cl lay1 (d + 1) M_Jl_compare [aJ (L64 a), aJ (L64 b)] σ Q := by
  refine bk_Jl_compare_0 _ _ ⟨fun c => ⟨fun c2 => h 0 ?_, fun c2 => h 1 ?_⟩, fun c => h (-1) ?_⟩
  · rw [cmpL_eq h1 h2 h3 h4] at c2
    exact ⟨by simp [c2], by simp [c2], by simp [c2]⟩
  · rw [cmpL_ge h1 h2 h3 h4] at c
    rw [cmpL_eq h1 h2 h3 h4] at c2
    exact ⟨⟨fun z => absurd z (by decide), fun z => absurd z c2⟩, ⟨fun z => absurd z (by decide), fun z => absurd (by omega : a = b) c2⟩, ⟨fun _ => c, fun _ => by decide⟩⟩
  · rw [cmpL_ge h1 h2 h3 h4] at c
    exact ⟨⟨fun z => absurd z (by decide), fun z => absurd (by omega) c⟩, ⟨fun _ => by omega, fun _ => by decide⟩, ⟨fun z => absurd z (by decide), fun z => absurd z c⟩⟩
theorem sp_ctw {t : Nat} {f : Int × Nat} {w : Int} (hf : isF σ (t + 1) f) (hfo : fOK f) (hw : w.natAbs ≤ 2) (h : ∀ r : Int32, (r = 0 ↔ f.1 = w * f.2) ∧ (r ≤ 0 ↔ f.1 ≤ w * f.2) ∧ (0 ≤ r ↔ w * f.2 ≤ f.1) → Q (some (aI r)) σ) : Cl lay1 (d + 2) M_Fr_compareToWhole [aO 0 (t + 1), aJ (L64 w)] σ Q := by
  have h1 := hfo.1
  have h2 := hfo.2.2
  have hb : (w * (f.2 : Int)).natAbs ≤ 2 * 1000000000 := by
    rw [Int.natAbs_mul]
    exact Nat.mul_le_mul hw h2
  refine bk_Fr_compareToWhole_0 _ _ ?_
  rw [hf.1, hf.2, L64_mul]
  exact sp_compare (by omega) (by omega) (by omega) (by omega) h
/-- stability of the table that stands in the columns -/
theorem sp_stability {t : Tb} (ht : ctab σ t) (hto : tOK t) (hb : gI σ 30 0 = 0 ∨ gI σ 30 0 = 1) (h : ∀ τ v, ar [44] σ τ → (gI τ 30 0 = 0 ∨ gI τ 30 0 = 1) → (gI σ 30 0 = 0 ∧ (∃ s, fadd t.1.1 t.2.2 = some s ∧ v = stab s ∧ isF τ 44 s ∧ fOK s ∧ gI τ 30 0 = 0) ∨ (gI σ 30 0 = 1 ∨ fadd t.1.1 t.2.2 = none) ∧ v = -5 ∧ gI τ 30 0 = 1) → Q (some (aI v)) τ) : Cl lay1 (d + 4) M_Op_stability [aO 4 29] σ Q := by
  refine bk_Op_stability_0 ?_
  refine sp_copy (t := 43) (u := 32) ht.1.1 (fun τ1 a1 f1 b1 => ?_)
  refine sp_plus (t := 43) (u := 36) f1 hto.1.1 (a1.F (by decide) ht.2.2) hto.2.2 (fun τ2 p2 => ?_)
  obtain ⟨a2, s, hs, hso, rr⟩ := p2.q (fun f hf => fadd_ok hto.1.1 hto.2.2 hf)
  have a12 : ar [44] σ τ2 := a1.trans a2
  rw [b1] at rr
  have hb2 : gI τ2 30 0 = 0 ∨ gI τ2 30 0 = 1 := by
    rcases rr with ⟨-, q⟩ | ⟨-, q⟩
    · rw [q]; exact hb
    · exact Or.inr q
  have hs2 := hso.2.1
  refine ⟨fun c => ?_, fun c => ?_⟩
  · obtain ⟨e, q⟩ : fadd t.1.1 t.2.2 = some s ∧ gI τ2 30 0 = gI σ 30 0 := by
      rcases rr with q | ⟨-, q⟩
      · exact q
      · rw [q] at c; exact absurd c (by decide)
    have fin : ∀ v, v = stab s → Q (some (aI v)) τ2 := fun v hv => h τ2 v a12 hb2 (Or.inl ⟨q.symm.trans c, s, e, hv, hs, hso, c⟩)
    rw [show (-2 : Int64) = L64 (-2) by decide, show (2 : Int64) = L64 2 by decide]
    refine sp_ctw hs hso (by decide) (fun r4 h4 => ?_)
    refine sp_ctw hs hso (by decide) (fun r6 h6 => ?_)
    obtain ⟨p1, p2, p3⟩ := h4
    obtain ⟨q1, q2, q3⟩ := h6
    refine ⟨fun z => fin _ ?_, fun z => ⟨fun z2 => fin _ ?_, fun z2 => ⟨fun z3 => fin _ ?_, fun z3 => ⟨fun z4 => fin _ ?_, fun z4 => fin _ ?_⟩⟩⟩⟩
    · unfold stab; rw [if_pos (Or.inl (p1.mp z))]
    · unfold stab; rw [if_pos (Or.inr (q1.mp z2))]
    · have := p2.mp z3
      have n1 : ¬ s.1 = -2 * s.2 := fun y => z (p1.mpr y)
      have n2 : ¬ s.1 = 2 * s.2 := fun y => z2 (q1.mpr y)
      unfold stab
      rw [if_neg (by omega), if_neg (by omega)]
    · have := q3.mp z4
      have n1 : ¬ s.1 = -2 * s.2 := fun y => z (p1.mpr y)
      have n2 : ¬ s.1 = 2 * s.2 := fun y => z2 (q1.mpr y)
      unfold stab
      rw [if_neg (by omega), if_neg (by omega)]
    · have m1 : ¬ s.1 ≤ -2 * s.2 := fun y => z3 (p2.mpr y)
      have m2 : ¬ 2 * (s.2 : Int) ≤ s.1 := fun y => z4 (q3.mpr y)
      unfold stab
      rw [if_neg (by omega), if_pos (by omega)]
  · have c1 : gI τ2 30 0 = 1 := hb2.resolve_left c
    refine h τ2 (-5) a12 hb2 (Or.inr ⟨?_, rfl, c1⟩)
    rcases rr with ⟨-, q⟩ | ⟨q, -⟩
    · exact Or.inl (q.symm.trans c1)
    · exact Or.inr q
/-- the same of the reference's register -/
theorem sp_kept {s : Int × Nat} (hs : atF σ s) (hso : fOK s) (h : Q (some (aI (stab s))) σ) : Cl lay1 (d + 1) M_R_kept [aO 12 71] σ Q := by
  have h1 := hso.1
  have h2 := hso.2.2
  have h3 := hso.2.1
  have fin : ∀ v, v = stab s → Q (some (aI v)) σ := fun v hv => by rw [hv]; exact h
  have e2 : (2 : Int64) * gL σ 71 38 = L64 (2 * s.2) := by rw [hs.2, show (2 : Int64) = L64 2 by decide, L64_mul]
  refine bk_R_kept_0 ?_
  rw [e2, hs.1, L64_neg, L64_0]
  simp only [cmpL_ge (a := s.1) (b := 0) (by omega) (by omega) (by omega) (by omega), cmpL_ge (a := s.1) (b := 2 * s.2) (by omega) (by omega) (by omega) (by omega), cmpL_eq (a := s.1) (b := 2 * s.2) (by omega) (by omega) (by omega) (by omega), cmpL_ge (a := -s.1) (b := 2 * s.2) (by omega) (by omega) (by omega) (by omega), cmpL_eq (a := -s.1) (b := 2 * s.2) (by omega) (by omega) (by omega) (by omega)]
  refine ⟨fun c => ⟨fun c2 => ⟨fun c3 => fin _ ?_, fun c3 => fin _ ?_⟩, fun c2 => fin _ ?_⟩, fun c => ⟨fun c2 => ⟨fun c3 => fin _ ?_, fun c3 => fin _ ?_⟩, fun c2 => fin _ ?_⟩⟩
  · unfold stab; rw [if_pos (by omega)]
  · unfold stab; rw [if_neg (by omega), if_neg (by omega)]
  · unfold stab; rw [if_neg (by omega), if_pos (by omega)]
  · unfold stab; rw [if_pos (by omega)]
  · unfold stab; rw [if_neg (by omega), if_neg (by omega)]
  · unfold stab; rw [if_neg (by omega), if_pos (by omega)]
end ROUND
