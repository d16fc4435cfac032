/-! ===== LAYER 3, D: what is told ===== -/
/-- the rows of fixed fractions -/
def LA (σ : St) : Prop := (∀ k, k < 4 → gR σ 51 k = 64 + k) ∧ (∀ k, k < 12 → gR σ 50 k = 52 + k) ∧ ∀ k, k < 12 → gR σ 13 k = 14 + k
theorem LA.of {σ τ : St} (h : LA σ) (e : gR τ = gR σ) : LA τ := ⟨fun k hk => by rw [e]; exact h.1 k hk, fun k hk => by rw [e]; exact h.2.1 k hk, fun k hk => by rw [e]; exact h.2.2 k hk⟩
def toldC (σ : St) (l : List (Int × Nat)) : Prop := gI σ 29 13 = nI l.length ∧ ∀ k f, l[k]? = some f → isF σ (64 + k) f
/-- what telling changes, in the component -/
def cT (σ τ : St) : Prop := sN τ = sN σ ∧ sS τ = sS σ ∧ gN τ = gN σ ∧ gR τ = gR σ ∧ (∀ j k, ¬ (j = 29 ∧ k = 13) → gI τ j k = gI σ j k) ∧ ∀ j, (j < 64 ∨ 67 < j) → ∀ k, gL τ j k = gL σ j k
theorem cT.trans {σ τ υ : St} (h : cT σ τ) (g : cT τ υ) : cT σ υ :=
  ⟨g.1.trans h.1, g.2.1.trans h.2.1, g.2.2.1.trans h.2.2.1, g.2.2.2.1.trans h.2.2.2.1, fun j k q => (g.2.2.2.2.1 j k q).trans (h.2.2.2.2.1 j k q), fun j q k => (g.2.2.2.2.2 j q k).trans (h.2.2.2.2.2 j q k)⟩
theorem cT.F {σ τ : St} (h : cT σ τ) {j : Nat} {f : Int × Nat} (hj : j < 64 ∨ 67 < j) (hf : isF σ j f) : isF τ j f := ⟨(h.2.2.2.2.2 j hj 0).trans hf.1, (h.2.2.2.2.2 j hj 1).trans hf.2⟩
theorem cT_0 (σ : St) : cT σ (pI σ 29 13 0) := ⟨rfl, rfl, rfl, rfl, fun j k q => by rw [gI_pI, if_neg q], fun _ _ _ => rfl⟩
theorem toldC_0 (σ : St) : toldC (pI σ 29 13 0) [] := ⟨by rw [gI_pI, if_pos ⟨rfl, rfl⟩]; rfl, fun k f h => by simp at h⟩
def nF2 (σ : St) (k : Nat) (f : Int × Nat) : Prop := gL σ 92 (2 * k) = L64 f.1 ∧ gL σ 92 (2 * k + 1) = L64 f.2
def toldR (σ : St) (l : List (Int × Nat)) : Prop := gI σ 71 42 = nI l.length ∧ ∀ k f, l[k]? = some f → nF2 σ k f
/-- what telling changes, in the reference -/
def rT (σ τ : St) : Prop := sN τ = sN σ ∧ sS τ = sS σ ∧ gN τ = gN σ ∧ gR τ = gR σ ∧ (∀ j k, ¬ (j = 71 ∧ k = 42) → gI τ j k = gI σ j k) ∧ ∀ j, j ≠ 92 → ∀ k, gL τ j k = gL σ j k
theorem rT.rf (σ : St) : rT σ σ := ⟨rfl, rfl, rfl, rfl, fun _ _ _ => rfl, fun _ _ _ => rfl⟩
theorem rT.trans {σ τ υ : St} (h : rT σ τ) (g : rT τ υ) : rT σ υ :=
  ⟨g.1.trans h.1, g.2.1.trans h.2.1, g.2.2.1.trans h.2.2.1, g.2.2.2.1.trans h.2.2.2.1, fun j k q => (g.2.2.2.2.1 j k q).trans (h.2.2.2.2.1 j k q), fun j q k => (g.2.2.2.2.2 j q k).trans (h.2.2.2.2.2 j q k)⟩
theorem rT.t {σ τ : St} (h : rT σ τ) {k : Nat} {f : Int × Nat} (hf : tF σ k f) : tF τ k f := ⟨(h.2.2.2.2.2 90 (by omega) k).trans hf.1, (h.2.2.2.2.2 91 (by omega) k).trans hf.2⟩
section TOLD
variable {d : Nat} {σ : St} {Q : Option AV → St → Prop}
theorem sp_tell {u : Nat} {f : Int × Nat} {l : List (Int × Nat)} (hln : LN σ) (hla : LA σ) (hl : toldC σ l) (h4 : l.length < 4) (hf : isF σ (u + 1) f) (h : ∀ τ, cT σ τ → toldC τ (l ++ [f]) → Q none τ) : Cl lay1 (d + 2) M_Op_tell [aO 4 29, aO 0 (u + 1)] σ Q := by
  have e51 := hln.at 51 4 (by decide)
  have eR := hla.1 l.length h4
  refine bk_Op_tell_0 _ ⟨fun c => absurd c ?_, fun _ => ⟨by rw [hl.1, e51]; exact inb_nI h4 (by omega), nn_of (by rw [hl.1, ix_nI (by omega), eR]; omega) ?_⟩⟩
  · rw [hl.1, show (4 : Int32) = nI 4 from rfl, nI_leI (by omega) (by omega)]
    omega
  rw [hl.1, ix_nI (by omega), eR, show 64 + l.length = (63 + l.length) + 1 by omega]
  refine sp_copy hf (fun τ a g b => ?_)
  have e1 : gI τ 29 13 = nI l.length := (a.2.2.2.2.1 29 13 (by omega)).trans hl.1
  show Q none (pI τ 29 13 (gI τ 29 13 + 1))
  rw [e1, nI_1]
  refine h _ ⟨a.1, a.2.1, a.2.2.1, a.2.2.2.1, fun j k q => ?_, fun j q k => a.2.2.2.2.2 j (by simp; omega) k⟩ ⟨?_, fun k f' hk => ?_⟩
  · rw [gI_pI, if_neg q]
    by_cases e : j = 30 ∧ k = 0
    · obtain ⟨rfl, rfl⟩ := e
      exact b
    · exact a.2.2.2.2.1 j k e
  · rw [gI_pI, if_pos ⟨rfl, rfl⟩]
    simp
  · by_cases e : k < l.length
    · rw [List.getElem?_append_left e] at hk
      exact a.F (by simp; omega) (hl.2 k f' hk)
    · have hkl : k = l.length := by
        have := (List.getElem?_eq_some_iff.mp hk).1
        simp at this
        omega
      subst hkl
      rw [List.getElem?_append_right (Nat.le_refl _), Nat.sub_self] at hk
      cases hk
      rw [show 64 + l.length = (63 + l.length) + 1 by omega]
      exact g
theorem sp_tellTable {t : Tb} (hln : LN σ) (hla : LA σ) (ht : ctab σ t) (h : ∀ τ, cT σ τ → toldC τ [t.1.1, t.2.1, t.1.2, t.2.2] → Q (some (aI 4)) τ) : Cl lay1 (d + 3) M_Op_tellTable [aO 4 29] σ Q := by
  refine bk_Op_tellTable_0 ?_
  have c0 := cT_0 σ
  refine sp_tell (u := 32) (l := []) (f := t.1.1) hln hla (toldC_0 σ) (by decide) (c0.F (by omega) ht.1.1) (fun τ1 c1 l1 => ?_)
  have c01 := c0.trans c1
  refine sp_tell (u := 35) (f := t.2.1) (hln.of c01.2.2.1) (hla.of c01.2.2.2.1) l1 (by simp) (c01.F (by omega) ht.2.1) (fun τ2 c2 l2 => ?_)
  have c02 := c01.trans c2
  refine sp_tell (u := 33) (f := t.1.2) (hln.of c02.2.2.1) (hla.of c02.2.2.2.1) l2 (by simp) (c02.F (by omega) ht.1.2) (fun τ3 c3 l3 => ?_)
  have c03 := c02.trans c3
  refine sp_tell (u := 36) (f := t.2.2) (hln.of c03.2.2.1) (hla.of c03.2.2.2.1) l3 (by simp) (c03.F (by omega) ht.2.2) (fun τ4 c4 l4 => ?_)
  have e : gI τ4 29 13 = 4 := l4.1
  show Q (some (aI (gI τ4 29 13))) τ4
  rw [e]
  exact h τ4 (c03.trans c4) l4
theorem sp_tells {k : Nat} {f : Int × Nat} (hln : LN σ) (hk : k < 4) (h : ∀ τ, rT σ τ → gI τ 71 42 = gI σ 71 42 → nF2 τ k f → (∀ i g, i ≠ k → nF2 σ i g → nF2 τ i g) → Q none τ) : Cl lay1 (d + 1) M_R_tells [aO 12 71, aI (nI k), aJ (L64 f.1), aJ (L64 f.2)] σ Q := by
  have e92 := hln.at 92 8 (by decide)
  have m2 : (2 : Int32) * nI k = nI (2 * k) := (Int32.ofNat_mul 2 k).symm
  refine bk_R_tells_0 _ _ _ ?_
  rw [m2, nI_1, ix_nI (by omega), ix_nI (by omega)]
  refine ⟨by rw [e92]; exact inb_nI (by omega) (by omega), ?_, ?_⟩
  · show inb (nI (2 * k + 1)) (gN σ 92)
    rw [e92]; exact inb_nI (by omega) (by omega)
  · refine h _ ⟨rfl, rfl, rfl, rfl, fun _ _ _ => rfl, fun j q i => ?_⟩ rfl ⟨?_, ?_⟩ (fun i g q hg => ⟨?_, ?_⟩)
    · rw [gL_pL, if_neg (fun z => q z.1), gL_pL, if_neg (fun z => q z.1)]
    · rw [gL_pL, if_neg (by omega), gL_pL, if_pos ⟨rfl, rfl⟩]
    · rw [gL_pL, if_pos ⟨rfl, rfl⟩]
    · rw [gL_pL, if_neg (by omega), gL_pL, if_neg (by omega)]; exact hg.1
    · rw [gL_pL, if_neg (by omega), gL_pL, if_neg (by omega)]; exact hg.2
theorem sp_tables_loop {t : Nat → Int × Nat} : ∀ (m k : Nat) (σ : St) (Q : Option AV → St → Prop), k + m = 4 → LN σ → (∀ i, i < 4 → tF σ i (t i)) → (∀ i, i < k → nF2 σ i (t i)) → (∀ τ, rT σ τ → toldR τ [t 0, t 1, t 2, t 3] → Q (some (aI 4)) τ) → Wp lay1 rtOf (Cl lay1 (d + 1)) k_R_tables 1 Q (2, [aO 12 71, aI (nI k)], [], σ) := by
  intro m
  induction m with
  | zero =>
    intro k σ Q hk hln ht hn h
    refine bk_R_tables_2 _ ⟨fun _ => h _ ⟨rfl, rfl, rfl, rfl, fun j k q => by rw [gI_pI, if_neg q], fun _ _ _ => rfl⟩ ⟨by rw [gI_pI, if_pos ⟨rfl, rfl⟩]; rfl, fun i f hi => ?_⟩, fun c => absurd ?_ c⟩
    · have hl : i < 4 := (List.getElem?_eq_some_iff.mp hi).1
      rcases (show i = 0 ∨ i = 1 ∨ i = 2 ∨ i = 3 by omega) with rfl | rfl | rfl | rfl <;> (cases hi; exact hn _ (by omega))
    · rw [show k = 4 by omega]; decide
  | succ m ih =>
    intro k σ Q hk hln ht hn h
    refine bk_R_tables_2 _ ⟨fun c => absurd c ?_, fun _ => ⟨by rw [hln.at 90 8 (by decide)]; exact inb_nI (by omega) (by omega), by rw [hln.at 91 8 (by decide)]; exact inb_nI (by omega) (by omega), ?_⟩⟩
    · rw [show (4 : Int32) = nI 4 from rfl, nI_leI (by omega) (by omega)]; omega
    rw [ix_nI (by omega), (ht k (by omega)).1, (ht k (by omega)).2]
    refine sp_tells hln (by omega) (fun τ a b g o => ?_)
    show Wp lay1 rtOf (Cl lay1 (d + 1)) k_R_tables 1 Q (2, [aO 12 71, aI (nI k + 1)], [], τ)
    rw [nI_1]
    refine ih (k + 1) τ Q (by omega) (hln.of a.2.2.1) (fun i hi => a.t (ht i hi)) (fun i hi => ?_) (fun υ b1 b2 => h υ (a.trans b1) b2)
    by_cases e : i = k
    · rw [e]; exact g
    · exact o i _ e (hn i (by omega))
theorem sp_tables {t : Tb} (hln : LN σ) (ht : tab σ t) (h : ∀ τ, rT σ τ → toldR τ [t.1.1, t.2.1, t.1.2, t.2.2] → Q (some (aI 4)) τ) : Cl lay1 (d + 2) M_R_tables [aO 12 71] σ Q := by
  refine bk_R_tables_0 ?_
  refine sp_tables_loop (t := fun i => if i = 0 then t.1.1 else if i = 1 then t.2.1 else if i = 2 then t.1.2 else t.2.2) 4 0 σ Q (by omega) hln (fun i hi => ?_) (fun i hi => absurd hi (by omega)) h
  obtain ⟨t0, t1, t2, t3⟩ := ht
  rcases (show i = 0 ∨ i = 1 ∨ i = 2 ∨ i = 3 by omega) with rfl | rfl | rfl | rfl
  · exact t0
  · exact t1
  · exact t2
  · exact t3
end TOLD
