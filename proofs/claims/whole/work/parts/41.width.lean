/-! ===== LAYER 3, D: round(), widths(), turns() ===== -/
theorem ixl0 : ix (0 : Int32) = 0 := by decide
theorem ixl1 : ix (1 : Int32) = 1 := by decide
theorem ixl2 : ix (2 : Int32) = 2 := by decide
theorem ixl3 : ix (3 : Int32) = 3 := by decide
theorem ixl4 : ix (4 : Int32) = 4 := by decide
theorem ixl5 : ix (5 : Int32) = 5 := by decide
theorem ixl6 : ix (6 : Int32) = 6 := by decide
theorem ixl7 : ix (7 : Int32) = 7 := by decide
theorem LN.b90 {σ : St} (h : LN σ) (k : Nat) (hk : k < 8) : inb (nI k) (gN σ 90) := by rw [h.at 90 8 (by decide)]; exact inb_nI hk (by omega)
theorem LN.b91 {σ : St} (h : LN σ) (k : Nat) (hk : k < 8) : inb (nI k) (gN σ 91) := by rw [h.at 91 8 (by decide)]; exact inb_nI hk (by omega)
theorem fnm_cop {a : Int} {b : Nat} {f : Int × Nat} (hb : 0 < b) (h : fnm a b = some f) : Nat.gcd f.1.natAbs f.2 = 1 := by
  unfold fnm at h
  split at h
  · cases h
    show Nat.gcd (a.tdiv (Nat.gcd a.natAbs b : Nat)).natAbs (b / Nat.gcd a.natAbs b) = 1
    rw [Int.natAbs_tdiv, Int.natAbs_natCast]
    exact Nat.gcd_div_gcd_div_gcd_of_pos_right hb
  · cases h
theorem rnd_cop {r : Rg} {i : Nat} {q : Tb × (Int × Nat)} (h : rnd r i = some q) (ho : tOK q.1) : Nat.gcd q.2.1.natAbs q.2.2 = 1 := by
  unfold rnd at h
  cases h1 : tgo r i r.1 with
  | none => rw [h1] at h; cases h
  | some t =>
    rw [h1] at h
    cases h2 : fadd t.1.1 t.2.2 with
    | none => rw [show (some t).bind (fun t => (fadd t.1.1 t.2.2).map fun s => (t, s)) = (fadd t.1.1 t.2.2).map fun s => (t, s) from rfl, h2] at h; cases h
    | some s =>
      rw [show (some t).bind (fun t => (fadd t.1.1 t.2.2).map fun s => (t, s)) = (fadd t.1.1 t.2.2).map fun s => (t, s) from rfl, h2] at h
      cases h
      exact fnm_cop (Nat.mul_pos ho.1.1.2.1 ho.2.2.2.1) h2
def spWidths (r : Rg) (l : List (Int × Nat)) (i : Int32) : Int32 × List (Int × Nat) := if 0 ≤ i.toInt ∧ i.toInt < r.1 then (match rnd r i.toInt.toNat with
  | some q => if stab q.2 = 2 then (match (fsub q.1.1.1 q.1.2.2).bind (fun m => fmul m (1, 2)) with
    | some w => (3, [q.1.2.1, w, (-q.1.1.2.1, q.1.1.2.2)])
    | none => (-5, l)) else (-2, l)
  | none => (-5, l)) else (-1, l)
def spTurns (r : Rg) : Int32 := if r.1 = 0 then -1 else (match rnd r 0 with
  | some q => if stab q.2 = 2 then (if q.2.1 = -1 * q.2.2 then 3 else if q.2.1 = 0 * q.2.2 then 4 else if q.2.1 = 1 * q.2.2 then 6 else 0) else -2
  | none => -5)
theorem stab_ne (s : Int × Nat) : ¬ stab s = -5 := by
  unfold stab
  split
  · decide
  · split <;> decide
theorem stab_two (s : Int × Nat) : (2 : Int32) ≤ stab s ↔ stab s = 2 := by
  unfold stab
  split
  · decide
  · split <;> decide
section WIDTH
variable {d : Nat} {σ : St} {Q : Option AV → St → Prop}
/-- the component's ROUND and its stability -/
theorem sp_C_rnd {r : Rg} {i : Nat} {K : Int32 → St → Prop} (hr : RC σ r) (hro : rgOK r) (hi : i < r.1) (hs : ∀ τ t s, ar [33, 34, 36, 37, 31, 44] σ τ → ctab τ t → tOK t → isF τ 44 s → fOK s → gI τ 30 0 = 0 → rnd r i = some (t, s) → K (stab s) τ) (hn : ∀ τ, ar [33, 34, 36, 37, 31, 44] σ τ → rnd r i = none → K (-5) τ) : Cl lay1 (d + 6) M_Op_reckonTable [aO 4 29, aO 8 11, aI (nI i), aI (gI σ 11 1)] σ (rV fun σ3 => Cl lay1 (d + 6) M_Op_stability [aO 4 29] σ3 (rI fun r5 σ4 => K r5 σ4)) := by
  have h80 := hro.1
  rw [hr.1]
  refine sp_reckonTable hr hro hi (by omega) (fun τ p => ?_)
  obtain ⟨a, t, ht, hto, rr⟩ := p
  refine sp_stability (d := d + 2) ht hto (by rcases rr with ⟨-, q⟩ | ⟨-, q⟩ <;> simp [q]) (fun υ v b1 b2 b3 => ?_)
  have a2 : ar [33, 34, 36, 37, 31, 44] σ υ := (a.mono (by simp)).trans (b1.mono (by simp))
  rcases b3 with ⟨c0, s, e, ev, hs44, hso, cb⟩ | ⟨c0, ev, cb⟩
  · rcases rr with ⟨q, -⟩ | ⟨-, q⟩
    · subst ev
      refine hs υ t s a2 ⟨⟨b1.F (by decide) ht.1.1, b1.F (by decide) ht.1.2⟩, ⟨b1.F (by decide) ht.2.1, b1.F (by decide) ht.2.2⟩⟩ hto hs44 hso cb ?_
      unfold rnd
      rw [q]
      show (fadd t.1.1 t.2.2).map _ = _
      rw [e]
      rfl
    · rw [q] at c0; exact absurd c0 (by decide)
  · subst ev
    refine hn υ a2 ?_
    unfold rnd
    rcases rr with ⟨q, q0⟩ | ⟨q, -⟩
    · rcases c0 with c0 | c0
      · rw [q0] at c0; exact absurd c0 (by decide)
      · rw [q]
        show (fadd t.1.1 t.2.2).map _ = _
        rw [c0]
        rfl
    · rw [q]; rfl
/-- the reference's -/
theorem sp_R_rnd {r : Rg} {i : Nat} {A A' B : St → Prop} (hln : LN σ) (hr : RR σ r) (hro : rgOK r) (hi : i < r.1) (hs : ∀ τ t s, tR [0, 1, 2, 3, 4, 5, 6, 7] σ τ → tab τ t → tOK t → atF τ s → fOK s → gI τ 71 39 = 0 → rnd r i = some (t, s) → A τ) (hn : ∀ τ, tR [0, 1, 2, 3, 4, 5, 6, 7] σ τ → rnd r i = none → B τ) : Cl lay1 (d + 6) M_R_goes [aO 12 71, aI (nI i), aI (gI σ 71 29)] σ (rV fun σ3 => ((gI σ3 71 39) = 0 → inb (0 : Int32) (gN σ3 90) ∧ (inb (0 : Int32) (gN σ3 91) ∧ (inb (3 : Int32) (gN σ3 90) ∧ (inb (3 : Int32) (gN σ3 91) ∧ (Cl lay1 (d + 6) M_R_sum [aO 12 71, aJ (gL σ3 90 (ix (0 : Int32))), aJ (gL σ3 91 (ix (0 : Int32))), aJ (gL σ3 90 (ix (3 : Int32))), aJ (gL σ3 91 (ix (3 : Int32)))] σ3 (rV fun σ4 => ((gI σ4 71 39) = 0 → A σ4) ∧ (¬ (gI σ4 71 39) = 0 → B σ4))))))) ∧ (¬ (gI σ3 71 39) = 0 → ((gI σ3 71 39) = 0 → A' σ3) ∧ (¬ (gI σ3 71 39) = 0 → B σ3))) := by
  have h80 := hro.1
  rw [hr.1]
  refine sp_goes hln hr hro (by omega) (by omega) (by omega) (fun τ p => ?_)
  obtain ⟨a, t, ht, hto, rr⟩ := p
  have hln1 := hln.of a.2.2.1
  refine ⟨fun c => ⟨hln1.b90 0 (by omega), hln1.b91 0 (by omega), hln1.b90 3 (by omega), hln1.b91 3 (by omega), ?_⟩, fun c => ⟨fun c2 => absurd c2 c, fun _ => hn τ a ?_⟩⟩
  · have q : tgo r i r.1 = some t := by
      rcases rr with ⟨q, -⟩ | ⟨-, q⟩
      · exact q
      · rw [q] at c; exact absurd c (by decide)
    rw [ixl0, ixl3, ht.1.1, ht.1.2, ht.2.2.2.1, ht.2.2.2.2]
    refine sp_sum (d := d + 3) hto.1.1 hto.2.2 (fun υ p2 => ?_)
    obtain ⟨a2, e2, r2⟩ := p2
    have a12 : tR [0, 1, 2, 3, 4, 5, 6, 7] σ υ := a.trans (a2.t _)
    cases hf : fadd t.1.1 t.2.2 with
    | none =>
      rw [hf] at r2
      have r2 : gI υ 71 39 = 1 := r2
      have hq : rnd r i = none := by
        unfold rnd; rw [q]; show (fadd t.1.1 t.2.2).map _ = _; rw [hf]; rfl
      exact ⟨fun z => by rw [r2] at z; exact absurd z (by decide), fun _ => hn υ a12 hq⟩
    | some s =>
      rw [hf] at r2
      have r2 : atF υ s ∧ gI υ 71 39 = gI τ 71 39 := r2
      have hq : rnd r i = some (t, s) := by
        unfold rnd; rw [q]; show (fadd t.1.1 t.2.2).map _ = _; rw [hf]; rfl
      refine ⟨fun z => hs υ t s a12 ?_ hto r2.1 (fadd_ok hto.1.1 hto.2.2 hf) z hq, fun z => absurd (r2.2.trans c) z⟩
      exact ⟨(a2.t []).F (by simp) ht.1, (a2.t []).F (by simp) ht.2.1, (a2.t []).F (by simp) ht.2.2.1, (a2.t []).F (by simp) ht.2.2.2⟩
  · unfold rnd
    rcases rr with ⟨-, q⟩ | ⟨q, -⟩
    · exact absurd q c
    · rw [q]; rfl
theorem sp_C_round {r : Rg} {l : List (Int × Nat)} {i : Int32} (hln : LN σ) (hla : LA σ) (hr : RC σ r) (hro : rgOK r) (hl : toldC σ l) (h : ∀ τ, cn σ τ → toldC τ (spRound r l i).2 → Q (some (aI (spRound r l i).1)) τ) : Cl lay1 (d + 7) M_C_round [aO 11 3, aI i] σ Q := by
  have h80 := hro.1
  refine bk_C_round_0 _ ?_
  refine sp_hasPart hr.1 h80 (fun c => ⟨fun z => absurd z (by decide), fun _ => ?_⟩) (fun c => ⟨fun _ => ?_, fun z => absurd rfl z⟩)
  · have ei := nI_self (x := i) (by omega)
    have es : spRound r l i = (match rnd r i.toInt.toNat with
      | some q => (stab q.2, [q.1.1.1, q.1.2.1, q.1.1.2, q.1.2.2])
      | none => (-5, l)) := if_pos c
    rw [ei]
    refine sp_C_rnd hr hro (by omega) (fun τ t s a ht hto hs hso hb e => ?_) (fun τ a e => ?_)
    · rw [e] at es
      refine ⟨fun z => absurd z (stab_ne s), fun _ => ?_⟩
      refine sp_tellTable (hln.of a.2.2.1) (hla.of a.2.2.2.1) ht (fun υ b1 b2 => ?_)
      have := h υ ((a.cn (by simp)).trans b1.cn) (by rw [es]; exact b2)
      rw [es] at this
      exact this
    · rw [e] at es
      have := h τ (a.cn (by simp)) (by rw [es]; exact a.told (by simp) hl)
      rw [es] at this
      exact ⟨fun _ => this, fun z => absurd rfl z⟩
  · have es : spRound r l i = (-1, l) := by unfold spRound; rw [if_neg c]
    have := h σ (cn.rf σ) (by rw [es]; exact hl)
    rw [es] at this
    exact this
theorem sp_R_round {r : Rg} {l : List (Int × Nat)} {i : Int32} (hln : LN σ) (hr : RR σ r) (hro : rgOK r) (hl : toldR σ l) (h : ∀ τ, rn σ τ → toldR τ (spRound r l i).2 → Q (some (aI (spRound r l i).1)) τ) : Cl lay1 (d + 7) M_R_round [aO 12 71, aI i] σ Q := by
  have h80 := hro.1
  refine bk_R_round_0 _ ?_
  refine sp_isPart hr.1 h80 (fun c => ⟨fun z => absurd z (by decide), fun _ => ?_⟩) (fun c => ⟨fun _ => ?_, fun z => absurd rfl z⟩)
  · have ei := nI_self (x := i) (by omega)
    have es : spRound r l i = (match rnd r i.toInt.toNat with
      | some q => (stab q.2, [q.1.1.1, q.1.2.1, q.1.1.2, q.1.2.2])
      | none => (-5, l)) := if_pos c
    rw [ei]
    refine sp_R_rnd hln hr hro (by omega) (fun τ t s a ht hto hs hso hb e => ?_) (fun τ a e => ?_)
    · rw [e] at es
      refine sp_kept hs hso ?_
      refine sp_tables (hln.of a.2.2.1) ht (fun υ b1 b2 => ?_)
      have := h υ (a.n.trans b1.n) (by rw [es]; exact b2)
      rw [es] at this
      exact this
    · rw [e] at es
      have := h τ a.n (by rw [es]; exact a.told hl)
      rw [es] at this
      exact this
  · have es : spRound r l i = (-1, l) := by unfold spRound; rw [if_neg c]
    have := h σ (rn.rf σ) (by rw [es]; exact hl)
    rw [es] at this
    exact this
theorem sp_C_turns {r : Rg} (hr : RC σ r) (hro : rgOK r) (h : ∀ τ, cn σ τ → (∀ l, toldC σ l → toldC τ l) → Q (some (aI (spTurns r))) τ) : Cl lay1 (d + 7) M_C_turns [aO 11 3] σ Q := by
  have h80 := hro.1
  refine bk_C_turns_0 ?_
  refine sp_hasPart hr.1 h80 (fun c => ⟨fun z => absurd z (by decide), fun _ => ?_⟩) (fun c => ⟨fun _ => ?_, fun z => absurd rfl z⟩)
  · have h0 : 0 < r.1 := by
      have := c.2
      rw [show (0 : Int32).toInt = 0 by decide] at this
      omega
    have es : spTurns r = (match rnd r 0 with
      | some q => if stab q.2 = 2 then (if q.2.1 = -1 * q.2.2 then 3 else if q.2.1 = 0 * q.2.2 then 4 else if q.2.1 = 1 * q.2.2 then 6 else 0) else -2
      | none => -5) := by unfold spTurns; rw [if_neg (by omega)]
    refine sp_C_rnd (i := 0) hr hro h0 (fun τ t s a ht hto hs hso hb e => ?_) (fun τ a e => ?_)
    · rw [e] at es
      have fin := h τ (a.cn (by simp)) (fun l hl => a.told (by simp) hl)
      rw [es] at fin
      refine ⟨fun z => absurd z (stab_ne s), fun _ => ⟨fun c2 => ?_, fun c2 => ?_⟩⟩
      · replace fin : Q (some (aI (if s.1 = -1 * s.2 then 3 else if s.1 = 0 * s.2 then 4 else if s.1 = 1 * s.2 then 6 else 0))) τ := by
          have e2 : (if stab s = 2 then (if s.1 = -1 * s.2 then (3 : Int32) else if s.1 = 0 * s.2 then 4 else if s.1 = 1 * s.2 then 6 else 0) else -2) = (if s.1 = -1 * s.2 then (3 : Int32) else if s.1 = 0 * s.2 then 4 else if s.1 = 1 * s.2 then 6 else 0) := if_pos c2
          rw [← e2]
          exact fin
        refine bk_Op_roundsUntilBack_0 ?_
        rw [show (-1 : Int64) = L64 (-1) by decide, show (1 : Int64) = L64 1 by decide, show (0 : Int64) = L64 0 by decide]
        refine sp_ctw (d := d + 3) hs hso (by decide) (fun r1 p1 => ⟨fun z => ?_, fun z => ?_⟩)
        · rw [if_pos (p1.1.mp z)] at fin; exact fin
        rw [if_neg (fun y => z (p1.1.mpr y))] at fin
        refine sp_ctw (d := d + 3) hs hso (by decide) (fun r2 p2 => ⟨fun z => ?_, fun z => ?_⟩)
        · rw [if_pos (p2.1.mp z)] at fin; exact fin
        rw [if_neg (fun y => z (p2.1.mpr y))] at fin
        refine sp_ctw (d := d + 3) hs hso (by decide) (fun r3 p3 => ⟨fun z => ?_, fun z => ?_⟩)
        · rw [if_pos (p3.1.mp z)] at fin; exact fin
        rw [if_neg (fun y => z (p3.1.mpr y))] at fin
        exact fin
      · have e2 : (if stab s = 2 then (if s.1 = -1 * s.2 then (3 : Int32) else if s.1 = 0 * s.2 then 4 else if s.1 = 1 * s.2 then 6 else 0) else -2) = -2 := if_neg c2
        rw [← e2]
        exact fin
    · rw [e] at es
      have fin := h τ (a.cn (by simp)) (fun l hl => a.told (by simp) hl)
      rw [es] at fin
      exact ⟨fun _ => fin, fun z => absurd rfl z⟩
  · have h0 : r.1 = 0 := by
      rw [show (0 : Int32).toInt = 0 by decide] at c
      omega
    have es : spTurns r = -1 := by unfold spTurns; rw [if_pos h0]
    have fin := h σ (cn.rf σ) (fun l hl => hl)
    rw [es] at fin
    exact fin
theorem sp_R_turns {r : Rg} (hln : LN σ) (hr : RR σ r) (hro : rgOK r) (h : ∀ τ, rn σ τ → (∀ l, toldR σ l → toldR τ l) → Q (some (aI (spTurns r))) τ) : Cl lay1 (d + 7) M_R_turns [aO 12 71] σ Q := by
  have h80 := hro.1
  have hz : gI σ 71 29 = 0 ↔ r.1 = 0 := by rw [hr.1, show (0 : Int32) = nI 0 from rfl, nI_eq (by omega) (by omega)]
  refine bk_R_turns_0 ⟨fun c => ?_, fun c => ?_⟩
  · have es : spTurns r = -1 := by unfold spTurns; rw [if_pos (hz.mp c)]
    have fin := h σ (rn.rf σ) (fun l hl => hl)
    rw [es] at fin
    exact fin
  · have h0 : 0 < r.1 := Nat.pos_of_ne_zero (fun z => c (hz.mpr z))
    have es : spTurns r = (match rnd r 0 with
      | some q => if stab q.2 = 2 then (if q.2.1 = -1 * q.2.2 then 3 else if q.2.1 = 0 * q.2.2 then 4 else if q.2.1 = 1 * q.2.2 then 6 else 0) else -2
      | none => -5) := by unfold spTurns; rw [if_neg (by omega)]
    refine sp_R_rnd (i := 0) hln hr hro h0 (fun τ t s a ht hto hs hso hb e => ?_) (fun τ a e => ?_)
    · have hc := rnd_cop e hto
      rw [e] at es
      have fin := h τ a.n (fun l hl => a.told hl)
      rw [es] at fin
      have fin : Q (some (aI (if stab s = 2 then (if s.1 = -1 * s.2 then (3 : Int32) else if s.1 = 0 * s.2 then 4 else if s.1 = 1 * s.2 then 6 else 0) else -2))) τ := fin
      have hc : Nat.gcd s.1.natAbs s.2 = 1 := hc
      have s1 := hso.1
      have s2 := hso.2.1
      have s3 := hso.2.2
      refine sp_kept hs hso ⟨fun c2 => ?_, fun c2 => ?_⟩
      · rw [stab_two] at c2
        rw [if_pos c2] at fin
        have hin : -2 * (s.2 : Int) < s.1 ∧ s.1 < 2 * s.2 := by
          unfold stab at c2
          split at c2
          · exact absurd c2 (by decide)
          · split at c2
            · assumption
            · exact absurd c2 (by decide)
        rw [hs.1, hs.2, show (-1 : Int64) = L64 (-1) by decide, show (1 : Int64) = L64 1 by decide, show (0 : Int64) = L64 0 by decide]
        rw [cmpL_le (by omega) (by omega) (by omega) (by omega), cmpL_eq (by omega) (by omega) (by omega) (by omega), cmpL_eq (by omega) (by omega) (by omega) (by omega)]
        refine ⟨fun c3 => ⟨fun c4 => ?_, fun c4 => ⟨fun c5 => ?_, fun c5 => ?_⟩⟩, fun c3 => ?_⟩
        · rw [if_pos (by omega)] at fin; exact fin
        · rw [if_neg (by omega), if_pos (by omega)] at fin; exact fin
        · rw [if_neg (by omega), if_neg (by omega), if_pos (by omega)] at fin; exact fin
        · have n1 : ∀ w : Int, w.natAbs ≤ 1 → s.1 = w * s.2 → False := fun w hw z => by
            rw [z, Int.natAbs_mul, Int.natAbs_natCast, Nat.gcd_mul_left_left] at hc
            omega
          rw [if_neg (n1 _ (by decide)), if_neg (n1 _ (by decide)), if_neg (n1 _ (by decide))] at fin
          exact fin
      · rw [stab_two] at c2
        rw [if_neg c2] at fin
        exact fin
    · rw [e] at es
      have fin := h τ a.n (fun l hl => a.told hl)
      rw [es] at fin
      exact fin
theorem sp_C_widths {r : Rg} {l : List (Int × Nat)} {i : Int32} (hln : LN σ) (hla : LA σ) (hr : RC σ r) (hro : rgOK r) (hl : toldC σ l) (h : ∀ τ, cn σ τ → toldC τ (spWidths r l i).2 → Q (some (aI (spWidths r l i).1)) τ) : Cl lay1 (d + 7) M_C_widths [aO 11 3, aI i] σ Q := by
  have h80 := hro.1
  refine bk_C_widths_0 _ ?_
  refine sp_hasPart hr.1 h80 (fun c => ⟨fun z => absurd z (by decide), fun _ => ?_⟩) (fun c => ⟨fun _ => ?_, fun z => absurd rfl z⟩)
  · have ei := nI_self (x := i) (by omega)
    have es : spWidths r l i = (match rnd r i.toInt.toNat with
      | some q => if stab q.2 = 2 then (match (fsub q.1.1.1 q.1.2.2).bind (fun m => fmul m (1, 2)) with
        | some w => (3, [q.1.2.1, w, (-q.1.1.2.1, q.1.1.2.2)])
        | none => (-5, l)) else (-2, l)
      | none => (-5, l)) := if_pos c
    rw [ei]
    refine sp_C_rnd hr hro (by omega) (fun τ t s a ht hto hs hso hb e => ?_) (fun τ a e => ?_)
    · rw [e] at es
      refine ⟨fun z => absurd z (stab_ne s), fun _ => ⟨fun c2 => ?_, fun c2 => ?_⟩⟩
      · replace es : spWidths r l i = (match (fsub t.1.1 t.2.2).bind (fun m => fmul m (1, 2)) with
          | some w => (3, [t.2.1, w, (-t.1.2.1, t.1.2.2)])
          | none => (-5, l)) := es.trans (if_pos c2)
        refine bk_Op_reckonMiddleWidth_0 ?_
        refine sp_copy (d := d + 4) (t := 46) (u := 32) ht.1.1 (fun τ1 a1 f1 b1 => ?_)
        refine sp_minus (d := d + 2) (t := 46) (u := 36) f1 hto.1.1 (a1.F (by decide) ht.2.2) hto.2.2 (fun τ2 p2 => ?_)
        obtain ⟨a2, g2, hg2, og2, r2⟩ := p2.q (fun f hf => fsub_ok hto.1.1 hto.2.2 hf)
        refine sp_put (d := d + 3) (t := 45) (a := 1) (b := 2) (by decide) (by decide) (by decide) ?_
        show Cl lay1 (d + 5) M_Rk_times [aO 7 30, aO 0 (46 + 1), aO 0 (45 + 1)] (stF τ2 46 (1, 2)) _
        have a3 := stF_ar τ2 46 (1, 2)
        have f3 := stF_is τ2 46 (1, 2)
        have b3 : gI (stF τ2 46 (1, 2)) 30 0 = gI τ2 30 0 := rfl
        generalize stF τ2 46 (1, 2) = τ3 at a3 f3 b3 ⊢
        have o12 : fOK (1, 2) := ⟨by decide, by decide, by decide⟩
        refine sp_times (d := d + 2) (t := 46) (u := 45) (a3.F (by decide) hg2) og2 f3 o12 (fun τ4 p4 => ?_)
        obtain ⟨a4, g4, hg4, og4, r4⟩ := p4.q (fun f hf => fmul_ok og2 o12 hf)
        have a14 : ar [33, 34, 36, 37, 31, 44, 46, 47] σ τ4 := ((((a.mono (by simp)).trans (a1.mono (by simp))).trans (a2.mono (by simp))).trans (a3.mono (by simp))).trans (a4.mono (by simp))
        have kF : ∀ {j f}, j ≠ 46 → j ≠ 47 → isF τ j f → isF τ4 j f := fun h1 h2 hf => a4.F (by simpa using h2) (a3.F (by simpa using h1) (a2.F (by simpa using h2) (a1.F (by simpa using h2) hf)))
        have hw : (fsub t.1.1 t.2.2).bind (fun m => fmul m (1, 2)) = some g4 ∧ gI τ4 30 0 = 0 ∨ (fsub t.1.1 t.2.2).bind (fun m => fmul m (1, 2)) = none ∧ gI τ4 30 0 = 1 := by
          rcases r2 with ⟨r2, q2⟩ | ⟨r2, q2⟩
          · rw [r2]
            show (fmul g2 (1, 2) = _ ∧ _) ∨ (fmul g2 (1, 2) = _ ∧ _)
            rcases r4 with ⟨r4, q4⟩ | ⟨r4, q4⟩
            · exact Or.inl ⟨r4, q4.trans (b3.trans (q2.trans (b1.trans hb)))⟩
            · exact Or.inr ⟨r4, q4⟩
          · rw [r2]
            refine Or.inr ⟨rfl, ?_⟩
            rcases r4 with ⟨r4, q4⟩ | ⟨r4, q4⟩
            · exact q4.trans (b3.trans q2)
            · exact q4
        refine sp_isBig (d := d + 5) (by rcases hw with ⟨-, q⟩ | ⟨-, q⟩ <;> simp [q]) ⟨fun z => ?_, fun z => ?_⟩
        · rcases hw with ⟨hw, -⟩ | ⟨-, q⟩
          · rw [hw] at es
            refine bk_Op_tellWidths_0 ?_
            refine bk_Fr_negate_0 _ ?_
            show Cl lay1 (d + 5) M_Op_tell [aO 4 29, aO 0 36] (pI (pL τ4 34 0 (-(gL τ4 34 0))) 29 13 0) _
            have f34 := kF (by omega) (by omega) ht.1.2
            have c0 : pL τ4 34 0 (-(gL τ4 34 0)) = stF τ4 34 (-t.1.2.1, t.1.2.2) := by
              unfold stF
              rw [f34.1, L64_neg]
              have : pL (pL τ4 34 0 (L64 (-t.1.2.1))) 34 1 (L64 t.1.2.2) = pL τ4 34 0 (L64 (-t.1.2.1)) := by
                have e1 : up2 (up2 τ4.2.2.2.2.2.1 34 0 (L64 (-t.1.2.1))) 34 1 (L64 t.1.2.2) = up2 τ4.2.2.2.2.2.1 34 0 (L64 (-t.1.2.1)) := by
                  funext a b
                  unfold up2
                  by_cases hh : a = 34 ∧ b = 1
                  · rw [if_pos hh, if_neg (by omega), hh.1, hh.2]
                    exact f34.2.symm
                  · rw [if_neg hh]
                unfold pL
                rw [e1]
              exact this.symm
            rw [c0]
            have a5 := stF_ar τ4 34 (-t.1.2.1, t.1.2.2)
            have f5 := stF_is τ4 34 (-t.1.2.1, t.1.2.2)
            generalize stF τ4 34 (-t.1.2.1, t.1.2.2) = τ5 at a5 f5 ⊢
            have a15 : ar [33, 34, 36, 37, 31, 44, 46, 47] σ τ5 := a14.trans (a5.mono (by simp))
            have c0 := cT_0 τ5
            have hln5 := hln.of a15.2.2.1
            have hla5 := hla.of a15.2.2.2.1
            refine sp_tell (d := d + 3) (u := 35) (l := []) (f := t.2.1) (hln5.of c0.2.2.1) (hla5.of c0.2.2.2.1) (toldC_0 τ5) (by decide) (c0.F (by omega) (a5.F (by decide) (kF (by omega) (by omega) ht.2.1))) (fun υ1 c1 l1 => ?_)
            have c01 := c0.trans c1
            refine sp_tell (d := d + 3) (u := 46) (f := g4) (hln5.of c01.2.2.1) (hla5.of c01.2.2.2.1) l1 (by simp) (c01.F (by omega) (a5.F (by decide) hg4)) (fun υ2 c2 l2 => ?_)
            have c02 := c01.trans c2
            refine sp_tell (d := d + 3) (u := 33) (f := (-t.1.2.1, t.1.2.2)) (hln5.of c02.2.2.1) (hla5.of c02.2.2.2.1) l2 (by simp) (c02.F (by omega) f5) (fun υ3 c3 l3 => ?_)
            have c03 := c02.trans c3
            show Q (some (aI (gI υ3 29 13))) υ3
            have e3 : gI υ3 29 13 = 3 := l3.1
            rw [e3]
            have := h υ3 ((a15.cn (by simp)).trans c03.cn) (by rw [es]; exact l3)
            rw [es] at this
            exact this
          · rw [q] at z; exact absurd z (by decide)
        · rcases hw with ⟨-, q⟩ | ⟨hw, -⟩
          · exact absurd q z
          · rw [hw] at es
            have := h τ4 (a14.cn (by simp)) (by rw [es]; exact a14.told (by simp) hl)
            rw [es] at this
            exact this
      · replace es : spWidths r l i = (-2, l) := es.trans (if_neg c2)
        have := h τ (a.cn (by simp)) (by rw [es]; exact a.told (by simp) hl)
        rw [es] at this
        exact this
    · rw [e] at es
      have := h τ (a.cn (by simp)) (by rw [es]; exact a.told (by simp) hl)
      rw [es] at this
      exact ⟨fun _ => this, fun z => absurd rfl z⟩
  · have es : spWidths r l i = (-1, l) := if_neg c
    have := h σ (cn.rf σ) (by rw [es]; exact hl)
    rw [es] at this
    exact this
/-- some numbers told one after another -/
theorem sp_R_widths {r : Rg} {l : List (Int × Nat)} {i : Int32} (hln : LN σ) (hr : RR σ r) (hro : rgOK r) (hl : toldR σ l) (h : ∀ τ, rn σ τ → toldR τ (spWidths r l i).2 → Q (some (aI (spWidths r l i).1)) τ) : Cl lay1 (d + 7) M_R_widths [aO 12 71, aI i] σ Q := by
  have h80 := hro.1
  refine bk_R_widths_0 _ ?_
  refine sp_isPart hr.1 h80 (fun c => ⟨fun z => absurd z (by decide), fun _ => ?_⟩) (fun c => ⟨fun _ => ?_, fun z => absurd rfl z⟩)
  · have ei := nI_self (x := i) (by omega)
    have es : spWidths r l i = (match rnd r i.toInt.toNat with
      | some q => if stab q.2 = 2 then (match (fsub q.1.1.1 q.1.2.2).bind (fun m => fmul m (1, 2)) with
        | some w => (3, [q.1.2.1, w, (-q.1.1.2.1, q.1.1.2.2)])
        | none => (-5, l)) else (-2, l)
      | none => (-5, l)) := if_pos c
    rw [ei]
    refine sp_R_rnd hln hr hro (by omega) (fun τ t s a ht hto hs hso hb e => ?_) (fun τ a e => ?_)
    · rw [e] at es
      have hln1 := hln.of a.2.2.1
      refine sp_kept hs hso ⟨fun c2 => ?_, fun c2 => ?_⟩
      · rw [stab_two] at c2
        replace es : spWidths r l i = (match (fsub t.1.1 t.2.2).bind (fun m => fmul m (1, 2)) with
          | some w => (3, [t.2.1, w, (-t.1.2.1, t.1.2.2)])
          | none => (-5, l)) := es.trans (if_pos c2)
        refine ⟨hln1.b90 0 (by omega), hln1.b91 0 (by omega), hln1.b90 3 (by omega), hln1.b91 3 (by omega), ?_⟩
        simp only [ixl0, ixl1, ixl2, ixl3]
        rw [ht.1.1, ht.1.2, ht.2.2.2.1, ht.2.2.2.2, L64_neg]
        refine sp_sum (d := d + 3) (y := (-t.2.2.1, t.2.2.2)) hto.1.1 (fneg_ok hto.2.2) (fun τ2 p2 => ?_)
        obtain ⟨a2, ⟨g2, hg2, og2⟩, r2⟩ := p2
        rw [fadd_neg] at r2
        have o12 : fOK (1, 2) := ⟨by decide, by decide, by decide⟩
        have mid : ∃ g, atF τ2 g ∧ fOK g ∧ (fsub t.1.1 t.2.2 = some g ∧ gI τ2 71 39 = 0 ∨ fsub t.1.1 t.2.2 = none ∧ gI τ2 71 39 = 1) := by
          cases hf : fsub t.1.1 t.2.2 with
          | none => rw [hf] at r2; exact ⟨g2, hg2, og2, Or.inr ⟨rfl, r2⟩⟩
          | some g => rw [hf] at r2; exact ⟨g, r2.1, fsub_ok hto.1.1 hto.2.2 hf, Or.inl ⟨rfl, r2.2.trans hb⟩⟩
        obtain ⟨g, hg, og, rg⟩ := mid
        show Cl lay1 (d + 6) M_R_product [aO 12 71, aJ (gL τ2 71 37), aJ (gL τ2 71 38), aJ (1 : Int64), aJ (2 : Int64)] τ2 _
        rw [hg.1, hg.2]
        refine sp_product (d := d + 3) (y := (1, 2)) og o12 (fun τ3 p3 => ?_)
        obtain ⟨a3, ⟨g3, hg3, og3⟩, r3⟩ := p3
        have hw : ∃ w, atF τ3 w ∧ fOK w ∧ ((fsub t.1.1 t.2.2).bind (fun m => fmul m (1, 2)) = some w ∧ gI τ3 71 39 = 0 ∨ (fsub t.1.1 t.2.2).bind (fun m => fmul m (1, 2)) = none ∧ gI τ3 71 39 = 1) := by
          rcases rg with ⟨rg, q⟩ | ⟨rg, q⟩
          · rw [rg]
            cases hf : fmul g (1, 2) with
            | none => rw [hf] at r3; exact ⟨g3, hg3, og3, Or.inr ⟨hf, r3⟩⟩
            | some w => rw [hf] at r3; exact ⟨w, r3.1, fmul_ok og o12 hf, Or.inl ⟨hf, r3.2.trans q⟩⟩
          · rw [rg]
            refine ⟨g3, hg3, og3, Or.inr ⟨rfl, ?_⟩⟩
            cases hf : fmul g (1, 2) with
            | none => rw [hf] at r3; exact r3
            | some w => rw [hf] at r3; exact r3.2.trans q
        obtain ⟨w, hw3, ow, rw3⟩ := hw
        have a13 : tR [0, 1, 2, 3, 4, 5, 6, 7] σ τ3 := (a.trans (a2.t _)).trans (a3.t _)
        have kF : ∀ {k f}, tF τ k f → tF τ3 k f := fun hf => (a3.t []).F (by simp) ((a2.t []).F (by simp) hf)
        have hln3 := hln.of a13.2.2.1
        refine ⟨fun z => ?_, fun z => ?_⟩
        · rcases rw3 with ⟨q, -⟩ | ⟨-, q⟩
          · rw [q] at es
            refine ⟨hln3.b90 1 (by omega), hln3.b91 1 (by omega), ?_⟩
            rw [(kF ht.2.1).1, (kF ht.2.1).2]
            refine sp_tells (d := d + 5) (k := 0) hln3 (by omega) (fun υ1 c1 _ n1 o1 => ?_)
            have w1 : atF υ1 w := ⟨(c1.2.2.2.2.2 71 (by omega) 37).trans hw3.1, (c1.2.2.2.2.2 71 (by omega) 38).trans hw3.2⟩
            show Cl lay1 (d + 6) M_R_tells [aO 12 71, aI (1 : Int32), aJ (gL υ1 71 37), aJ (gL υ1 71 38)] υ1 _
            rw [w1.1, w1.2]
            refine sp_tells (d := d + 5) (k := 1) (hln3.of c1.2.2.1) (by omega) (fun υ2 c2 _ n2 o2 => ?_)
            have c12 := c1.trans c2
            have hln5 := hln3.of c12.2.2.1
            refine ⟨hln5.b90 2 (by omega), hln5.b91 2 (by omega), ?_⟩
            have f2 := c12.t (kF ht.2.2.1)
            rw [f2.1, f2.2, L64_neg]
            refine sp_tells (d := d + 5) (k := 2) (f := (-t.1.2.1, t.1.2.2)) hln5 (by omega) (fun υ3 c3 _ n3 o3 => ?_)
            have fin : rn σ (pI υ3 71 42 3) := a13.n.trans ((c12.trans c3).n.trans ⟨rfl, rfl, rfl, rfl, fun j k q => by rw [gI_pI, if_neg (by omega)], fun _ _ _ _ => rfl⟩)
            have := h (pI υ3 71 42 3) fin (by
              rw [es]
              refine ⟨by rw [gI_pI, if_pos ⟨rfl, rfl⟩]; rfl, fun k f hk => ?_⟩
              have hl3 : k < 3 := (List.getElem?_eq_some_iff.mp hk).1
              rcases (show k = 0 ∨ k = 1 ∨ k = 2 by omega) with rfl | rfl | rfl
              · cases hk; exact o3 0 _ (by omega) (o2 0 _ (by omega) n1)
              · cases hk; exact o3 1 _ (by omega) n2
              · cases hk; exact n3)
            rw [es] at this
            exact this
          · rw [q] at z; exact absurd z (by decide)
        · rcases rw3 with ⟨-, q⟩ | ⟨q, -⟩
          · exact absurd q z
          · rw [q] at es
            have := h τ3 a13.n (by rw [es]; exact a13.told hl)
            rw [es] at this
            exact this
      · rw [stab_two] at c2
        replace es : spWidths r l i = (-2, l) := es.trans (if_neg c2)
        have := h τ a.n (by rw [es]; exact a.told hl)
        rw [es] at this
        exact this
    · rw [e] at es
      have := h τ a.n (by rw [es]; exact a.told hl)
      rw [es] at this
      exact this
  · have es : spWidths r l i = (-1, l) := if_neg c
    have := h σ (rn.rf σ) (by rw [es]; exact hl)
    rw [es] at this
    exact this
end WIDTH
