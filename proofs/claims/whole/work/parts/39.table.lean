/-! ===== LAYER 3, D: table() ===== -/
/-- what the component's reckoning may change -/
def cn (σ τ : St) : Prop := sN τ = sN σ ∧ sS τ = sS σ ∧ gN τ = gN σ ∧ gR τ = gR σ ∧ (∀ j k, ¬ (j = 30 ∧ k = 0) → ¬ (j = 29 ∧ k = 13) → gI τ j k = gI σ j k) ∧ ∀ j, (j < 31 ∨ 67 < j) → ∀ k, gL τ j k = gL σ j k
theorem cn.rf (σ : St) : cn σ σ := ⟨rfl, rfl, rfl, rfl, fun _ _ _ _ => rfl, fun _ _ _ => rfl⟩
theorem cn.trans {σ τ υ : St} (h : cn σ τ) (g : cn τ υ) : cn σ υ :=
  ⟨g.1.trans h.1, g.2.1.trans h.2.1, g.2.2.1.trans h.2.2.1, g.2.2.2.1.trans h.2.2.2.1, fun j k q q2 => (g.2.2.2.2.1 j k q q2).trans (h.2.2.2.2.1 j k q q2), fun j q k => (g.2.2.2.2.2 j q k).trans (h.2.2.2.2.2 j q k)⟩
theorem ar.cn {S : List Nat} {σ τ : St} (h : ar S σ τ) (hS : ∀ j ∈ S, 31 ≤ j ∧ j ≤ 67) : cn σ τ :=
  ⟨h.1, h.2.1, h.2.2.1, h.2.2.2.1, fun j k q _ => h.2.2.2.2.1 j k q, fun j q k => h.2.2.2.2.2 j (fun z => by have := hS j z; omega) k⟩
theorem cT.cn {σ τ : St} (h : cT σ τ) : cn σ τ := ⟨h.1, h.2.1, h.2.2.1, h.2.2.2.1, fun j k _ q => h.2.2.2.2.1 j k q, fun j q k => h.2.2.2.2.2 j (by omega) k⟩
/-- what the reference's reckoning may change -/
def rn (σ τ : St) : Prop := sN τ = sN σ ∧ sS τ = sS σ ∧ gN τ = gN σ ∧ gR τ = gR σ ∧ (∀ j k, ¬ (j = 71 ∧ (k = 39 ∨ k = 42)) → gI τ j k = gI σ j k) ∧ ∀ j k, ¬ (j = 71 ∧ (k = 37 ∨ k = 38)) → ¬ (90 ≤ j ∧ j ≤ 92) → gL τ j k = gL σ j k
theorem rn.rf (σ : St) : rn σ σ := ⟨rfl, rfl, rfl, rfl, fun _ _ _ => rfl, fun _ _ _ _ => rfl⟩
theorem rn.trans {σ τ υ : St} (h : rn σ τ) (g : rn τ υ) : rn σ υ :=
  ⟨g.1.trans h.1, g.2.1.trans h.2.1, g.2.2.1.trans h.2.2.1, g.2.2.2.1.trans h.2.2.2.1, fun j k q => (g.2.2.2.2.1 j k q).trans (h.2.2.2.2.1 j k q), fun j k q q2 => (g.2.2.2.2.2 j k q q2).trans (h.2.2.2.2.2 j k q q2)⟩
theorem tR.n {S : List Nat} {σ τ : St} (h : tR S σ τ) : rn σ τ := ⟨h.1, h.2.1, h.2.2.1, h.2.2.2.1, fun j k q => h.2.2.2.2.1 j k (by omega), fun j k q q2 => h.2.2.2.2.2 j k q (by omega)⟩
theorem hR.n {σ τ : St} (h : hR σ τ) : rn σ τ := (h.t []).n
theorem rT.n {σ τ : St} (h : rT σ τ) : rn σ τ := ⟨h.1, h.2.1, h.2.2.1, h.2.2.2.1, fun j k q => h.2.2.2.2.1 j k (by omega), fun j k q q2 => h.2.2.2.2.2 j (by omega) k⟩
theorem ar.told {S : List Nat} {σ τ : St} (h : ar S σ τ) (hS : ∀ j ∈ S, j < 64) {l : List (Int × Nat)} (hl : toldC σ l) : toldC τ l := ⟨(h.2.2.2.2.1 29 13 (by omega)).trans hl.1, fun k f hk => h.F (fun z => by have := hS _ z; omega) (hl.2 k f hk)⟩
theorem tR.told {S : List Nat} {σ τ : St} (h : tR S σ τ) {l : List (Int × Nat)} (hl : toldR σ l) : toldR τ l := ⟨(h.2.2.2.2.1 71 42 (by omega)).trans hl.1, fun k f hk => ⟨(h.2.2.2.2.2 92 _ (by omega) (by omega)).trans (hl.2 k f hk).1, (h.2.2.2.2.2 92 _ (by omega) (by omega)).trans (hl.2 k f hk).2⟩⟩
/-- THE TABLE from PART i on of n PARTS, as told -/
def spTable (r : Rg) (l : List (Int × Nat)) (i n : Int32) : Int32 × List (Int × Nat) := if 0 ≤ i.toInt ∧ i.toInt < r.1 ∧ 0 ≤ n.toInt ∧ n.toInt ≤ 200 then (match tgo r i.toInt.toNat n.toInt.toNat with
  | some t => (4, [t.1.1, t.2.1, t.1.2, t.2.2])
  | none => (-5, l)) else (-1, l)
theorem nI_self {x : Int32} (h : 0 ≤ x.toInt) : x = nI x.toInt.toNat := by
  apply Int32.toInt_inj.mp
  have h2 := Int32.toInt_lt x
  rw [nI_toInt (by omega)]
  omega
theorem i64_self (x : Int32) : x.toInt64 = L64 x.toInt := by
  apply Int64.toInt_inj.mp
  have h1 := Int32.toInt_lt x
  have h2 := Int32.le_toInt x
  rw [Int32.toInt_toInt64, L64_i (by omega) (by omega)]
theorem z_lt (x : Int32) : x < 0 ↔ x.toInt < 0 := Int32.lt_iff_toInt_lt
section TABLE
variable {d : Nat} {σ : St} {Q : Option AV → St → Prop}
theorem sp_hasPart {r : Rg} {x : Int32} (hr : gI σ 11 1 = nI r.1) (hro : r.1 ≤ 80) (hy : 0 ≤ x.toInt ∧ x.toInt < r.1 → Q (some (aI 1)) σ) (hn : ¬ (0 ≤ x.toInt ∧ x.toInt < r.1) → Q (some (aI 0)) σ) : Cl lay1 (d + 1) M_Ri_hasPart [aO 8 11, aI x] σ Q := by
  refine bk_Ri_hasPart_0 _ ⟨fun c => ⟨b01, hn ?_⟩, fun c => ⟨fun c2 => ⟨b01, hn ?_⟩, fun c2 => ⟨b11, hy ?_⟩⟩⟩
  · rw [z_lt] at c; omega
  · rw [hr, Int32.le_iff_toInt_le, nI_toInt (by omega)] at c2; omega
  · rw [z_lt] at c
    rw [hr, Int32.le_iff_toInt_le, nI_toInt (by omega)] at c2
    omega
theorem sp_isPart {r : Rg} {x : Int32} (hr : gI σ 71 29 = nI r.1) (hro : r.1 ≤ 80) (hy : 0 ≤ x.toInt ∧ x.toInt < r.1 → Q (some (aI 1)) σ) (hn : ¬ (0 ≤ x.toInt ∧ x.toInt < r.1) → Q (some (aI 0)) σ) : Cl lay1 (d + 2) M_R_isPart [aO 12 71, aI x] σ Q := by
  have e : (gI σ 71 29 - 1).toInt64 = L64 ((r.1 : Int) - 1) := by
    rw [hr, i64_self, Int32.toInt_sub, nI_toInt (by omega), show (1 : Int32).toInt = 1 by decide]
    congr 1
    exact Int.bmod_eq_of_le (by omega) (by omega)
  have h1 := Int32.toInt_lt x
  have h2 := Int32.le_toInt x
  refine bk_R_isPart_0 _ ?_
  rw [e, i64_self, L64_0]
  refine sp_in (by omega) (by omega) (by omega) (by omega) (by omega) (by omega) (fun c => ⟨b11, hy (by omega)⟩) (fun c => ⟨b01, hn (by omega)⟩)
theorem sp_isBig (hb : gI σ 30 0 = 0 ∨ gI σ 30 0 = 1) (h : Q (some (aI (gI σ 30 0))) σ) : Cl lay1 (d + 1) M_Op_isBig [aO 4 29] σ Q := bk_Op_isBig_0 ⟨hb, h⟩
theorem sp_C_table {r : Rg} {l : List (Int × Nat)} {i n : Int32} (hln : LN σ) (hla : LA σ) (hr : RC σ r) (hro : rgOK r) (hl : toldC σ l) (h : ∀ τ, cn σ τ → toldC τ (spTable r l i n).2 → Q (some (aI (spTable r l i n).1)) τ) : Cl lay1 (d + 7) M_C_table [aO 11 3, aI i, aI n] σ Q := by
  have h80 := hro.1
  have bad : ¬ (0 ≤ i.toInt ∧ i.toInt < r.1 ∧ 0 ≤ n.toInt ∧ n.toInt ≤ 200) → Q (some (aI (-1))) σ := by
    intro q
    have e : spTable r l i n = (-1, l) := by unfold spTable; rw [if_neg q]
    have := h σ (cn.rf σ) (by rw [e]; exact hl)
    rw [e] at this
    exact this
  refine bk_C_table_0 _ _ ?_
  refine sp_hasPart hr.1 h80 (fun c => ⟨fun z => absurd z (by decide), fun _ => ⟨fun c2 => bad ?_, fun c2 => ⟨fun c3 => ?_, fun c3 => bad ?_⟩⟩⟩) (fun c => ⟨fun _ => bad (by omega), fun z => absurd rfl z⟩)
  · rw [z_lt] at c2; omega
  · rw [z_lt] at c2
    rw [Int32.le_iff_toInt_le, show (200 : Int32).toInt = 200 by decide] at c3
    have ei := nI_self (x := i) (by omega)
    have en := nI_self (x := n) (by omega)
    have es : spTable r l i n = (match tgo r i.toInt.toNat n.toInt.toNat with
      | some t => (4, [t.1.1, t.2.1, t.1.2, t.2.2])
      | none => (-5, l)) := by unfold spTable; rw [if_pos ⟨c.1, c.2, by omega, c3⟩]
    rw [ei, en]
    refine sp_reckonTable hr hro (by omega) (by omega) (fun τ p => ?_)
    obtain ⟨a, t, ht, hto, rr⟩ := p
    have ha := a.cn (by simp)
    have hlt := a.told (by simp) hl
    refine sp_isBig (by rcases rr with ⟨-, q⟩ | ⟨-, q⟩ <;> simp [q]) ⟨fun z => ?_, fun z => ?_⟩
    · rcases rr with ⟨q, -⟩ | ⟨-, q⟩
      · rw [q] at es
        refine sp_tellTable (hln.of a.2.2.1) (hla.of a.2.2.2.1) ht (fun υ b1 b2 => ?_)
        have := h υ (ha.trans b1.cn) (by rw [es]; exact b2)
        rw [es] at this
        exact this
      · rw [q] at z; exact absurd z (by decide)
    · rcases rr with ⟨-, q⟩ | ⟨q, -⟩
      · exact absurd q z
      · rw [q] at es
        have := h τ ha (by rw [es]; exact hlt)
        rw [es] at this
        exact this
  · rw [Int32.le_iff_toInt_le, show (200 : Int32).toInt = 200 by decide] at c3; omega
theorem sp_R_table {r : Rg} {l : List (Int × Nat)} {i n : Int32} (hln : LN σ) (hr : RR σ r) (hro : rgOK r) (hl : toldR σ l) (h : ∀ τ, rn σ τ → toldR τ (spTable r l i n).2 → Q (some (aI (spTable r l i n).1)) τ) : Cl lay1 (d + 7) M_R_table [aO 12 71, aI i, aI n] σ Q := by
  have h80 := hro.1
  have bad : ¬ (0 ≤ i.toInt ∧ i.toInt < r.1 ∧ 0 ≤ n.toInt ∧ n.toInt ≤ 200) → Q (some (aI (-1))) σ := by
    intro q
    have e : spTable r l i n = (-1, l) := by unfold spTable; rw [if_neg q]
    have := h σ (rn.rf σ) (by rw [e]; exact hl)
    rw [e] at this
    exact this
  have hn1 := Int32.toInt_lt n
  have hn2 := Int32.le_toInt n
  refine bk_R_table_0 _ _ ?_
  refine sp_isPart hr.1 h80 (fun c => ⟨fun z => absurd z (by decide), fun _ => ?_⟩) (fun c => ⟨fun _ => bad (by omega), fun z => absurd rfl z⟩)
  rw [i64_self, L64_0, show (200 : Int64) = L64 200 from rfl]
  refine sp_in (by omega) (by omega) (by omega) (by omega) (by omega) (by omega) (fun c2 => ⟨fun z => absurd z (by decide), fun _ => ?_⟩) (fun c2 => ⟨fun _ => bad (by omega), fun z => absurd rfl z⟩)
  have ei := nI_self (x := i) (by omega)
  have en := nI_self (x := n) (by omega)
  have es : spTable r l i n = (match tgo r i.toInt.toNat n.toInt.toNat with
    | some t => (4, [t.1.1, t.2.1, t.1.2, t.2.2])
    | none => (-5, l)) := by unfold spTable; rw [if_pos ⟨c.1, c.2, by omega, by omega⟩]
  rw [ei, en]
  refine sp_goes hln hr hro (by omega) (by omega) (by omega) (fun τ p => ?_)
  obtain ⟨a, t, ht, hto, rr⟩ := p
  refine ⟨fun z => ?_, fun z => ?_⟩
  · rcases rr with ⟨q, -⟩ | ⟨-, q⟩
    · rw [q] at es
      refine sp_tables (hln.of a.2.2.1) ht (fun υ b1 b2 => ?_)
      have := h υ (a.n.trans b1.n) (by rw [es]; exact b2)
      rw [es] at this
      exact this
    · rw [q] at z; exact absurd z (by decide)
  · rcases rr with ⟨-, q⟩ | ⟨q, -⟩
    · exact absurd q z
    · rw [q] at es
      have := h τ a.n (by rw [es]; exact a.told hl)
      rw [es] at this
      exact this
end TABLE
