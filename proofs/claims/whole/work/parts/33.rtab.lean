/-! ===== LAYER 3, C: tables, the reference ===== -/
/-- the lengths of the fixed rows -/
def lnL : List (Nat × Nat) := [(6, 1500), (8, 80), (9, 6), (10, 6), (13, 12), (26, 12), (27, 12), (28, 80), (50, 12), (51, 4), (69, 80), (70, 961), (72, 1500), (73, 400), (74, 400), (75, 400), (76, 32000), (77, 32000), (78, 32000), (79, 82), (80, 82), (81, 82), (82, 8), (83, 8), (84, 8), (85, 80), (86, 80), (87, 80), (88, 12), (89, 12), (90, 8), (91, 8), (92, 8), (93, 80), (94, 961), (2, 10)]
def LN (σ : St) : Prop := ∀ q ∈ lnL, gN σ q.1 = q.2
theorem LN.at {σ : St} (h : LN σ) (j n : Nat) (hm : (j, n) ∈ lnL) : gN σ j = n := h (j, n) hm
theorem LN.of {σ τ : St} (h : LN σ) (e : gN τ = gN σ) : LN τ := fun q hq => by rw [e]; exact h q hq
theorem ix_nI {n : Nat} (h : n < 2147483648) : ix (nI n) = n := nI_clamp (by omega)
theorem inb_nI {n N : Nat} (h : n < N) (hN : N < 2147483648) : inb (nI n) N := by
  unfold inb
  rw [nI_toInt (by omega)]
  omega
/-- a ring: how many PARTS, their kinds, their FRACTIONS -/
abbrev Rg : Type := Nat × (Nat → Nat) × (Nat → Int × Nat)
def rgOK (r : Rg) : Prop := r.1 ≤ 80 ∧ ∀ i, i < r.1 → r.2.1 i ≤ 4 ∧ fOK (r.2.2 i)
/-- a mote through a PART -/
def mstep (k : Nat) (f : Int × Nat) (m : (Int × Nat) × (Int × Nat)) : Option ((Int × Nat) × (Int × Nat)) := if k = 0 then ((fmul f m.2).bind (fadd m.1)).map (fun x => (x, m.2)) else if k = 1 then ((fmul f m.1).bind (fsub m.2)).map (fun y => (m.1, y)) else some m
def mOK (m : (Int × Nat) × (Int × Nat)) : Prop := fOK m.1 ∧ fOK m.2
theorem fadd_ok {x y f : Int × Nat} (hx : fOK x) (hy : fOK y) (h : fadd x y = some f) : fOK f := fnm_ok (Nat.mul_pos hx.2.1 hy.2.1) h
theorem fsub_ok {x y f : Int × Nat} (hx : fOK x) (hy : fOK y) (h : fsub x y = some f) : fOK f := fnm_ok (Nat.mul_pos hx.2.1 hy.2.1) h
theorem fmul_ok {x y f : Int × Nat} (hx : fOK x) (hy : fOK y) (h : fmul x y = some f) : fOK f := fnm_ok (Nat.mul_pos hx.2.1 hy.2.1) h
def RR (σ : St) (r : Rg) : Prop := gI σ 71 29 = nI r.1 ∧ ∀ i, i < r.1 → gI σ 85 i = nI (r.2.1 i) ∧ gL σ 86 i = L64 (r.2.2 i).1 ∧ gL σ 87 i = L64 (r.2.2 i).2
def tF (σ : St) (k : Nat) (f : Int × Nat) : Prop := gL σ 90 k = L64 f.1 ∧ gL σ 91 k = L64 f.2
/-- what the reference's tables may change: register, flag, places S of its rows -/
def tR (S : List Nat) (σ τ : St) : Prop := sN τ = sN σ ∧ sS τ = sS σ ∧ gN τ = gN σ ∧ gR τ = gR σ ∧ (∀ j k, ¬ (j = 71 ∧ k = 39) → gI τ j k = gI σ j k) ∧ ∀ j k, ¬ (j = 71 ∧ (k = 37 ∨ k = 38)) → ¬ ((j = 90 ∨ j = 91) ∧ k ∈ S) → gL τ j k = gL σ j k
theorem tR.rf (S : List Nat) (σ : St) : tR S σ σ := ⟨rfl, rfl, rfl, rfl, fun _ _ _ => rfl, fun _ _ _ _ => rfl⟩
theorem tR.trans {S : List Nat} {σ τ υ : St} (h : tR S σ τ) (g : tR S τ υ) : tR S σ υ :=
  ⟨g.1.trans h.1, g.2.1.trans h.2.1, g.2.2.1.trans h.2.2.1, g.2.2.2.1.trans h.2.2.2.1, fun j k q => (g.2.2.2.2.1 j k q).trans (h.2.2.2.2.1 j k q), fun j k q q2 => (g.2.2.2.2.2 j k q q2).trans (h.2.2.2.2.2 j k q q2)⟩
theorem tR.mono {S T : List Nat} {σ τ : St} (h : tR S σ τ) (hs : ∀ j ∈ S, j ∈ T) : tR T σ τ :=
  ⟨h.1, h.2.1, h.2.2.1, h.2.2.2.1, h.2.2.2.2.1, fun j k q q2 => h.2.2.2.2.2 j k q (fun z => q2 ⟨z.1, hs k z.2⟩)⟩
theorem hR.t {σ τ : St} (h : hR σ τ) (S : List Nat) : tR S σ τ := ⟨h.1, h.2.1, h.2.2.1, h.2.2.2.1, h.2.2.2.2.1, fun j k q _ => h.2.2.2.2.2 j k q⟩
theorem tR.F {S : List Nat} {σ τ : St} (h : tR S σ τ) {k : Nat} {f : Int × Nat} (hk : k ∉ S) (hf : tF σ k f) : tF τ k f := ⟨(h.2.2.2.2.2 90 k (by omega) (fun z => hk z.2)).trans hf.1, (h.2.2.2.2.2 91 k (by omega) (fun z => hk z.2)).trans hf.2⟩
theorem tR.R {S : List Nat} {σ τ : St} (h : tR S σ τ) {r : Rg} (hr : RR σ r) : RR τ r := ⟨(h.2.2.2.2.1 71 29 (by omega)).trans hr.1, fun i hi => ⟨(h.2.2.2.2.1 85 i (by omega)).trans (hr.2 i hi).1, (h.2.2.2.2.2 86 i (by omega) (by omega)).trans (hr.2 i hi).2.1, (h.2.2.2.2.2 87 i (by omega) (by omega)).trans (hr.2 i hi).2.2⟩⟩
def tP (S : List Nat) (σ : St) (o : Nat) (r : Option (Int × Nat)) (τ : St) : Prop := tR S σ τ ∧ (∃ f, tF τ o f ∧ fOK f) ∧ match r with
  | some f => tF τ o f ∧ gI τ 71 39 = gI σ 71 39
  | none => gI τ 71 39 = 1
section RTAB
variable {d : Nat} {σ : St} {Q : Option AV → St → Prop}
theorem sp_lays {o : Nat} {f : Int × Nat} (hln : LN σ) (ho : o < 8) (h : ∀ τ, tR [o] σ τ → tF τ o f → gI τ 71 39 = gI σ 71 39 → Q none τ) : Cl lay1 (d + 1) M_R_lays [aO 12 71, aI (nI o), aJ (L64 f.1), aJ (L64 f.2)] σ Q := by
  have e90 := hln.at 90 8 (by decide)
  have e91 := hln.at 91 8 (by decide)
  refine bk_R_lays_0 _ _ _ ⟨by rw [e90]; exact inb_nI ho (by omega), ?_, ?_⟩
  · show inb (nI o) (gN σ 91)
    rw [e91]
    exact inb_nI ho (by omega)
  · rw [ix_nI (by omega)]
    refine h _ ⟨rfl, rfl, rfl, rfl, fun _ _ _ => rfl, fun j k _ q => ?_⟩ ⟨?_, ?_⟩ rfl
    · rw [gL_pL, if_neg (fun z => q ⟨Or.inr z.1, by rw [z.2]; exact List.mem_singleton.mpr rfl⟩), gL_pL, if_neg (fun z => q ⟨Or.inl z.1, by rw [z.2]; exact List.mem_singleton.mpr rfl⟩)]
    · rw [gL_pL, if_neg (by omega), gL_pL, if_pos ⟨rfl, rfl⟩]
    · rw [gL_pL, if_pos ⟨rfl, rfl⟩]
/-- one place: it and f times another -/
theorem sp_leads {o u : Nat} {f x y : Int × Nat} (hln : LN σ) (ho : o < 8) (hu : u < 8) (hf : fOK f) (hx : tF σ o x) (hxo : fOK x) (hy : tF σ u y) (hyo : fOK y) (h : ∀ τ, tP [o] σ o ((fmul f y).bind (fadd x)) τ → Q none τ) : Cl lay1 (d + 4) M_R_leads [aO 12 71, aI (nI o), aJ (L64 f.1), aJ (L64 f.2), aI (nI u)] σ Q := by
  have e90 := hln.at 90 8 (by decide)
  have e91 := hln.at 91 8 (by decide)
  refine bk_R_leads_0 _ _ _ _ ⟨by rw [e90]; exact inb_nI hu (by omega), by rw [e91]; exact inb_nI hu (by omega), ?_⟩
  rw [ix_nI (by omega), hy.1, hy.2]
  refine sp_product hf hyo (fun τ1 p1 => ?_)
  obtain ⟨a1, ⟨g, hg, hgo⟩, r1⟩ := p1
  have hln1 : LN τ1 := hln.of a1.2.2.1
  have hx1 : tF τ1 o x := (a1.t [o + 1]).F (by simp) hx
  refine ⟨by rw [hln1.at 90 8 (by decide)]; exact inb_nI ho (by omega), by rw [hln1.at 91 8 (by decide)]; exact inb_nI ho (by omega), ?_⟩
  rw [ix_nI (by omega), hx1.1, hx1.2]
  have fin : ∀ (τ2 : St) (r : Option (Int × Nat)) (z : Int × Nat), atF τ1 z → hP τ1 (fadd x z) τ2 → (∀ τ3 f3, fOK f3 → tR [o] τ2 τ3 → tF τ3 o f3 → gI τ3 71 39 = gI τ2 71 39 → (∀ q, fadd x z = some q → f3 = q) → tP [o] σ o r τ3) → Cl lay1 (d + 3) M_R_lays [aO 12 71, aI (nI o), aJ (gL τ2 71 37), aJ (gL τ2 71 38)] τ2 (rV fun σ3 => Q none σ3) → True := fun _ _ _ _ _ _ _ => trivial
  cases hm : fmul f y with
  | none =>
    rw [hm] at r1
    rw [hg.1, hg.2]
    refine sp_sum hxo hgo (fun τ2 p2 => ?_)
    obtain ⟨a2, ⟨g2, hg2, hg2o⟩, r2⟩ := p2
    show Cl lay1 (d + 3) M_R_lays [aO 12 71, aI (nI o), aJ (gL τ2 71 37), aJ (gL τ2 71 38)] τ2 (rV fun σ3 => Q none σ3)
    rw [hg2.1, hg2.2]
    refine sp_lays (hln1.of a2.2.2.1) ho (fun τ3 a3 f3 b3 => h τ3 ?_)
    refine ⟨((a1.t [o]).trans (a2.t [o])).trans a3, ⟨g2, f3, hg2o⟩, ?_⟩
    rw [hm]
    show gI τ3 71 39 = 1
    rw [b3]
    cases hq : fadd x g with
    | none => rw [hq] at r2; exact r2
    | some q => rw [hq] at r2; exact r2.2.trans r1
  | some p =>
    rw [hm] at r1
    have hpo : fOK p := fmul_ok hf hyo hm
    rw [r1.1.1, r1.1.2]
    refine sp_sum hxo hpo (fun τ2 p2 => ?_)
    obtain ⟨a2, ⟨g2, hg2, hg2o⟩, r2⟩ := p2
    show Cl lay1 (d + 3) M_R_lays [aO 12 71, aI (nI o), aJ (gL τ2 71 37), aJ (gL τ2 71 38)] τ2 (rV fun σ3 => Q none σ3)
    cases hq : fadd x p with
    | none =>
      rw [hq] at r2
      rw [hg2.1, hg2.2]
      refine sp_lays (hln1.of a2.2.2.1) ho (fun τ3 a3 f3 b3 => h τ3 ?_)
      refine ⟨((a1.t [o]).trans (a2.t [o])).trans a3, ⟨g2, f3, hg2o⟩, ?_⟩
      rw [hm]
      show (match fadd x p with
        | some f => tF τ3 o f ∧ gI τ3 71 39 = gI σ 71 39
        | none => gI τ3 71 39 = 1)
      rw [hq]
      exact b3.trans r2
    | some q =>
      rw [hq] at r2
      rw [r2.1.1, r2.1.2]
      refine sp_lays (hln1.of a2.2.2.1) ho (fun τ3 a3 f3 b3 => h τ3 ?_)
      refine ⟨((a1.t [o]).trans (a2.t [o])).trans a3, ⟨q, f3, fadd_ok hxo hpo hq⟩, ?_⟩
      rw [hm]
      show (match fadd x p with
        | some f => tF τ3 o f ∧ gI τ3 71 39 = gI σ 71 39
        | none => gI τ3 71 39 = 1)
      rw [hq]
      exact ⟨f3, b3.trans (r2.2.trans r1.2)⟩
end RTAB
