/-! ===== LAYER 3, F: the reference's reading: lines ===== -/
def RLn (σ : St) (t : Tx) (a : Nat) (b : Ba) : Prop := LN σ ∧ txR σ t ∧ (gI σ 71 6 = 0 ∧ gI σ 71 7 = -4) ∧ linesR σ b.1 ∧ tkR σ (tok t a) ∧ a ≤ t.1
/-- what the laying of a line's PARTS into the pool changes -/
def fP (P : Nat) (σ τ : St) : Prop := sN τ = sN σ ∧ sS τ = sS σ ∧ gN τ = gN σ ∧ gR τ = gR σ ∧ (∀ j k, ¬ (j = 71 ∧ k = 12) → ¬ (j = 76 ∧ P ≤ k) → gI τ j k = gI σ j k) ∧ ∀ j k, ¬ (j = 77 ∧ P ≤ k) → ¬ (j = 78 ∧ P ≤ k) → gL τ j k = gL σ j k
theorem fP.rf (P : Nat) (σ : St) : fP P σ σ := ⟨rfl, rfl, rfl, rfl, fun _ _ _ _ => rfl, fun _ _ _ _ => rfl⟩
theorem fP.trans {P : Nat} {σ τ υ : St} (h : fP P σ τ) (g : fP P τ υ) : fP P σ υ := ⟨g.1.trans h.1, g.2.1.trans h.2.1, g.2.2.1.trans h.2.2.1, g.2.2.2.1.trans h.2.2.2.1, fun j k a b => (g.2.2.2.2.1 j k a b).trans (h.2.2.2.2.1 j k a b), fun j k a b => (g.2.2.2.2.2 j k a b).trans (h.2.2.2.2.2 j k a b)⟩
theorem fP.f {P : Nat} {σ τ : St} (h : fP P σ τ) : fR σ τ := ⟨h.1, h.2.1, h.2.2.1, h.2.2.2.1, fun j k a b _ _ => h.2.2.2.2.1 j k (by omega) (by omega), fun j k _ _ a b _ _ => h.2.2.2.2.2 j k (by omega) (by omega)⟩
section RLINE
variable {d : Nat}
theorem sp_regcopy {ps : List Pt} {P : Nat} {u1 u2 : AV} (hP : P + ps.length ≤ 32000) (h80 : ps.length ≤ 80) : ∀ (m i : Nat) (u3 : AV) (σ : St) (Q : Option AV → St → Prop), i + m = ps.length → LN σ → gI σ 71 17 = nI ps.length → gI σ 71 12 = nI (P + i) → (∀ j q, ps[j]? = some q → gI σ 79 j = nI q.1 ∧ gL σ 80 j = L64 q.2.1 ∧ gL σ 81 j = L64 q.2.2) → (∀ j q, j < i → ps[j]? = some q → gI σ 76 (P + j) = nI q.1 ∧ gL σ 77 (P + j) = L64 q.2.1 ∧ gL σ 78 (P + j) = L64 q.2.2) → (∀ τ, fP P σ τ → gI τ 71 12 = nI (P + ps.length) → (∀ j q, ps[j]? = some q → gI τ 76 (P + j) = nI q.1 ∧ gL τ 77 (P + j) = L64 q.2.1 ∧ gL τ 78 (P + j) = L64 q.2.2) → Cl lay1 (d + 2) M_R_next [aO 12 71] (pI τ 71 8 ((gI τ 71 8) + (1 : Int32))) (rV fun σ1 => ((1 : Int32) = 0 ∨ (1 : Int32) = 1) ∧ Q (some (aI (1 : Int32))) σ1)) → Wp lay1 rtOf (Cl lay1 (d + 2)) k_R_line 2 Q (208, [aO 12 71, u1, u2, u3, aI (nI i)], [], σ) := by
  intro m
  induction m with
  | zero =>
    intro i u3 σ Q hi hln h17 h12 hw hc h
    have e : i = ps.length := by omega
    subst e
    refine bk_R_line_208 _ _ _ _ ⟨fun _ => h σ (fP.rf _ _) h12 (fun j q hq => hc j q (List.getElem?_eq_some_iff.mp hq).1 hq), fun c => absurd ?_ c⟩
    rw [h17]
    exact (nI_leI (by omega) (by omega)).mpr (Nat.le_refl _)
  | succ m ih =>
    intro i u3 σ Q hi hln h17 h12 hw hc h
    have hlt : i < ps.length := by omega
    have eq := List.getElem?_eq_getElem hlt
    obtain ⟨w1, w2, w3⟩ := hw i _ eq
    generalize ps[i] = q at eq w1 w2 w3
    refine bk_R_line_208 _ _ _ _ ⟨fun c => absurd c ?_, fun _ => ?_⟩
    · rw [h17, nI_leI (by omega) (by omega)]; omega
    rw [h12, ix_nI (show i < 2147483648 by omega), ix_nI (show P + i < 2147483648 by omega), w1]
    have g1 : gI (pI σ 76 (P + i) (nI q.1)) 71 12 = nI (P + i) := by rw [gI_pI, if_neg (by omega)]; exact h12
    have g2 : gL (pI σ 76 (P + i) (nI q.1)) 80 i = L64 q.2.1 := w2
    rw [g1, g2, ix_nI (by omega)]
    have g3 : gI (pL (pI σ 76 (P + i) (nI q.1)) 77 (P + i) (L64 q.2.1)) 71 12 = nI (P + i) := g1
    have g4 : gL (pL (pI σ 76 (P + i) (nI q.1)) 77 (P + i) (L64 q.2.1)) 81 i = L64 q.2.2 := by rw [gL_pL, if_neg (by omega)]; exact w3
    rw [g3, g4, ix_nI (by omega)]
    have g5 : gI (pL (pL (pI σ 76 (P + i) (nI q.1)) 77 (P + i) (L64 q.2.1)) 78 (P + i) (L64 q.2.2)) 71 12 = nI (P + i) := g1
    rw [g5, nI_1, nI_1]
    have b82 : ∀ j, (j, 82) ∈ lnL → inb (nI i) (gN σ j) := fun j hj => by rw [hln.at j 82 hj]; exact inb_nI (by omega) (by omega)
    have b32 : ∀ j, (j, 32000) ∈ lnL → inb (nI (P + i)) (gN σ j) := fun j hj => by rw [hln.at j 32000 hj]; exact inb_nI (by omega) (by omega)
    refine ⟨b82 79 (by decide), b32 76 (by decide), b82 80 (by decide), b32 77 (by decide), b82 81 (by decide), b32 78 (by decide), ?_⟩
    have eI : ∀ j k, ¬ (j = 71 ∧ k = 12) → ¬ (j = 76 ∧ k = P + i) → gI (pI (pL (pL (pI σ 76 (P + i) (nI q.1)) 77 (P + i) (L64 q.2.1)) 78 (P + i) (L64 q.2.2)) 71 12 (nI (P + i + 1))) j k = gI σ j k := fun j k x1 x2 => by
      rw [gI_pI, if_neg x1]
      show gI (pI σ 76 (P + i) (nI q.1)) j k = _
      rw [gI_pI, if_neg x2]
    have eL : ∀ j k, ¬ (j = 77 ∧ k = P + i) → ¬ (j = 78 ∧ k = P + i) → gL (pI (pL (pL (pI σ 76 (P + i) (nI q.1)) 77 (P + i) (L64 q.2.1)) 78 (P + i) (L64 q.2.2)) 71 12 (nI (P + i + 1))) j k = gL σ j k := fun j k x1 x2 => by
      show gL (pL (pL (pI σ 76 (P + i) (nI q.1)) 77 (P + i) (L64 q.2.1)) 78 (P + i) (L64 q.2.2)) j k = _
      rw [gL_pL, if_neg x2, gL_pL, if_neg x1]; rfl
    have v12 : gI (pI (pL (pL (pI σ 76 (P + i) (nI q.1)) 77 (P + i) (L64 q.2.1)) 78 (P + i) (L64 q.2.2)) 71 12 (nI (P + i + 1))) 71 12 = nI (P + (i + 1)) := by rw [gI_pI, if_pos ⟨rfl, rfl⟩]; rfl
    have v76 : gI (pI (pL (pL (pI σ 76 (P + i) (nI q.1)) 77 (P + i) (L64 q.2.1)) 78 (P + i) (L64 q.2.2)) 71 12 (nI (P + i + 1))) 76 (P + i) = nI q.1 := by
      rw [gI_pI, if_neg (by omega)]
      show gI (pI σ 76 (P + i) (nI q.1)) 76 (P + i) = _
      rw [gI_pI, if_pos ⟨rfl, rfl⟩]
    have v77 : gL (pI (pL (pL (pI σ 76 (P + i) (nI q.1)) 77 (P + i) (L64 q.2.1)) 78 (P + i) (L64 q.2.2)) 71 12 (nI (P + i + 1))) 77 (P + i) = L64 q.2.1 := by
      show gL (pL (pL (pI σ 76 (P + i) (nI q.1)) 77 (P + i) (L64 q.2.1)) 78 (P + i) (L64 q.2.2)) 77 (P + i) = _
      rw [gL_pL, if_neg (by omega), gL_pL, if_pos ⟨rfl, rfl⟩]
    have v78 : gL (pI (pL (pL (pI σ 76 (P + i) (nI q.1)) 77 (P + i) (L64 q.2.1)) 78 (P + i) (L64 q.2.2)) 71 12 (nI (P + i + 1))) 78 (P + i) = L64 q.2.2 := by
      show gL (pL (pL (pI σ 76 (P + i) (nI q.1)) 77 (P + i) (L64 q.2.1)) 78 (P + i) (L64 q.2.2)) 78 (P + i) = _
      rw [gL_pL, if_pos ⟨rfl, rfl⟩]
    have a1 : fP P σ (pI (pL (pL (pI σ 76 (P + i) (nI q.1)) 77 (P + i) (L64 q.2.1)) 78 (P + i) (L64 q.2.2)) 71 12 (nI (P + i + 1))) := ⟨rfl, rfl, rfl, rfl, fun j k x1 x2 => eI j k x1 (by omega), fun j k x1 x2 => eL j k (by omega) (by omega)⟩
    generalize pI (pL (pL (pI σ 76 (P + i) (nI q.1)) 77 (P + i) (L64 q.2.1)) 78 (P + i) (L64 q.2.2)) 71 12 (nI (P + i + 1)) = σ1 at eI eL v12 v76 v77 v78 a1
    refine ih (i + 1) _ σ1 Q (by omega) (hln.of a1.2.2.1) ((eI 71 17 (by omega) (by omega)).trans h17) v12 (fun j x hx => ?_) (fun j x hj hx => ?_) (fun τ b1 b2 b3 => h τ (a1.trans b1) b2 b3)
    · rw [eI 79 j (by omega) (by omega), eL 80 j (by omega) (by omega), eL 81 j (by omega) (by omega)]
      exact hw j x hx
    · by_cases z : j = i
      · subst z
        rw [eq] at hx
        cases hx
        exact ⟨v76, v77, v78⟩
      · rw [eI 76 (P + j) (by omega) (by omega), eL 77 (P + j) (by omega) (by omega), eL 78 (P + j) (by omega) (by omega)]
        exact hc j x (by omega) hx
/-- the end of a line -/
def lnEnd (t : Tx) (a : Nat) (b : Ba) (m : Nat) (σ : St) (Q : Option AV → St → Prop) : Prop := ∀ τ a' b', fR σ τ → RLn τ t a' b' → rowR τ b'.2.1 → b'.2.1.2 = false → liOK b'.1 → ndL b'.1 → 4 * b'.1.length ≤ a' → a < a' → (∃ nm r, b'.1 = (nm, b'.2.1.1) :: r) → prP t a (b, m, 0, 0, 0, 0) = prP t a' (b', 0, 0, 0, 0, 0) → Q (some (aI 1)) τ
def lnBad (t : Tx) (a : Nat) (b : Ba) (m : Nat) (σ : St) (Q : Option AV → St → Prop) : Prop := ∀ τ c pl, flP σ c pl τ → 1 ≤ c ∧ c ≤ 4 → prP t a (b, m, 0, 0, 0, 0) = .inl (c, pl) → Q (some (aI 0)) τ
theorem sp_reg {σ : St} {Q : Option AV → St → Prop} {t : Tx} {b : Ba} {a : Nat} {x3 : Int32} (hto : txOK t) (hr : RI σ t a b 3) (hbo : baOK b) (hnd : ndL b.1) (hnew : ∀ l ∈ b.1, l.1 ≠ b.2.2.2) (h4 : 4 * b.1.length + 3 ≤ a) (h59 : isS (tok t a) 59) (ho : b.2.2.1 = []) (hm : b.2.1.2 = false) (hs : lnEnd t a b 3 σ Q) : inb (gI σ 71 8) (gN σ 73) ∧ (inb (gI (pL σ 73 (ix (gI σ 71 8)) (L64 (encL 27 b.2.2.2 : Nat))) 71 8) (gN (pL σ 73 (ix (gI σ 71 8)) (L64 (encL 27 b.2.2.2 : Nat))) 74) ∧ (inb (gI (pI (pL σ 73 (ix (gI σ 71 8)) (L64 (encL 27 b.2.2.2 : Nat))) 74 (ix (gI (pL σ 73 (ix (gI σ 71 8)) (L64 (encL 27 b.2.2.2 : Nat))) 71 8)) (gI (pL σ 73 (ix (gI σ 71 8)) (L64 (encL 27 b.2.2.2 : Nat))) 71 12)) 71 8) (gN (pI (pL σ 73 (ix (gI σ 71 8)) (L64 (encL 27 b.2.2.2 : Nat))) 74 (ix (gI (pL σ 73 (ix (gI σ 71 8)) (L64 (encL 27 b.2.2.2 : Nat))) 71 8)) (gI (pL σ 73 (ix (gI σ 71 8)) (L64 (encL 27 b.2.2.2 : Nat))) 71 12)) 75) ∧ (Wp lay1 rtOf (Cl lay1 (d + 2)) k_R_line 2 Q (208, [aO 12 71, aJ (L64 (encL 27 b.2.2.2 : Nat)), aZ, aI x3, aI (0 : Int32)], [], (pI (pI (pL σ 73 (ix (gI σ 71 8)) (L64 (encL 27 b.2.2.2 : Nat))) 74 (ix (gI (pL σ 73 (ix (gI σ 71 8)) (L64 (encL 27 b.2.2.2 : Nat))) 71 8)) (gI (pL σ 73 (ix (gI σ 71 8)) (L64 (encL 27 b.2.2.2 : Nat))) 71 12)) 75 (ix (gI (pI (pL σ 73 (ix (gI σ 71 8)) (L64 (encL 27 b.2.2.2 : Nat))) 74 (ix (gI (pL σ 73 (ix (gI σ 71 8)) (L64 (encL 27 b.2.2.2 : Nat))) 71 8)) (gI (pL σ 73 (ix (gI σ 71 8)) (L64 (encL 27 b.2.2.2 : Nat))) 71 12)) 71 8)) (gI (pI (pL σ 73 (ix (gI σ 71 8)) (L64 (encL 27 b.2.2.2 : Nat))) 74 (ix (gI (pL σ 73 (ix (gI σ 71 8)) (L64 (encL 27 b.2.2.2 : Nat))) 71 8)) (gI (pL σ 73 (ix (gI σ 71 8)) (L64 (encL 27 b.2.2.2 : Nat))) 71 12)) 71 17)))))) := by
  obtain ⟨⟨ln, tx, f6, li, rw1, op⟩, hk, ha, h84⟩ := hr
  have hpos := tok_pos ha
  have h15 := hto.1
  have c3 := h59.1
  have hlt := hpos.2.2.2.1 (by omega)
  obtain ⟨l1, P, l2, l3, l4⟩ := li
  have h80 := hbo.2.1.1
  have hn : b.1.length ≤ 375 := by omega
  rw [l1, ix_nI (by omega)]
  have e1 : ∀ v, gI (pL σ 73 b.1.length v) 71 8 = nI b.1.length := fun v => l1
  have e2 : ∀ v, gI (pL σ 73 b.1.length v) 71 12 = nI P := fun v => l2
  rw [e1, e2, ix_nI (by omega)]
  have e3 : gI (pI (pL σ 73 b.1.length (L64 (encL 27 b.2.2.2 : Nat))) 74 b.1.length (nI P)) 71 8 = nI b.1.length := by rw [gI_pI, if_neg (by omega)]; exact e1 _
  have e4 : gI (pI (pL σ 73 b.1.length (L64 (encL 27 b.2.2.2 : Nat))) 74 b.1.length (nI P)) 71 17 = nI b.2.1.1.length := by rw [gI_pI, if_neg (by omega)]; exact rw1.1
  rw [e3, e4, ix_nI (by omega)]
  have b4 : ∀ j, (j, 400) ∈ lnL → inb (nI b.1.length) (gN σ j) := fun j hj => by rw [ln.at j 400 hj]; exact inb_nI (by omega) (by omega)
  refine ⟨b4 73 (by decide), b4 74 (by decide), b4 75 (by decide), ?_⟩
  have a1 : fR σ (pI (pI (pL σ 73 b.1.length (L64 (encL 27 b.2.2.2 : Nat))) 74 b.1.length (nI P)) 75 b.1.length (nI b.2.1.1.length)) := ((fR_pL (j := 73) _ _ (by omega)).trans (fR_pI (j := 74) _ (by omega))).trans (fR_pI (j := 75) _ (by omega))
  have eI : ∀ j k, ¬ (j = 74 ∧ k = b.1.length) → ¬ (j = 75 ∧ k = b.1.length) → gI (pI (pI (pL σ 73 b.1.length (L64 (encL 27 b.2.2.2 : Nat))) 74 b.1.length (nI P)) 75 b.1.length (nI b.2.1.1.length)) j k = gI σ j k := fun j k x1 x2 => by rw [gI_pI, if_neg x2, gI_pI, if_neg x1]; rfl
  have eL : ∀ j k, ¬ (j = 73 ∧ k = b.1.length) → gL (pI (pI (pL σ 73 b.1.length (L64 (encL 27 b.2.2.2 : Nat))) 74 b.1.length (nI P)) 75 b.1.length (nI b.2.1.1.length)) j k = gL σ j k := fun j k x1 => by
    show gL (pL σ 73 b.1.length (L64 (encL 27 b.2.2.2 : Nat))) j k = _
    rw [gL_pL, if_neg x1]
  have v73 : gL (pI (pI (pL σ 73 b.1.length (L64 (encL 27 b.2.2.2 : Nat))) 74 b.1.length (nI P)) 75 b.1.length (nI b.2.1.1.length)) 73 b.1.length = L64 (encL 27 b.2.2.2 : Nat) := by
    show gL (pL σ 73 b.1.length (L64 (encL 27 b.2.2.2 : Nat))) 73 b.1.length = _
    rw [gL_pL, if_pos ⟨rfl, rfl⟩]
  have v74 : gI (pI (pI (pL σ 73 b.1.length (L64 (encL 27 b.2.2.2 : Nat))) 74 b.1.length (nI P)) 75 b.1.length (nI b.2.1.1.length)) 74 b.1.length = nI P := by rw [gI_pI, if_neg (by omega), gI_pI, if_pos ⟨rfl, rfl⟩]
  have v75 : gI (pI (pI (pL σ 73 b.1.length (L64 (encL 27 b.2.2.2 : Nat))) 74 b.1.length (nI P)) 75 b.1.length (nI b.2.1.1.length)) 75 b.1.length = nI b.2.1.1.length := by rw [gI_pI, if_pos ⟨rfl, rfl⟩]
  generalize pI (pI (pL σ 73 b.1.length (L64 (encL 27 b.2.2.2 : Nat))) 74 b.1.length (nI P)) 75 b.1.length (nI b.2.1.1.length) = σ1 at a1 eI eL v73 v74 v75
  have ln1 := ln.of a1.2.2.1
  refine sp_regcopy (d := d) (ps := b.2.1.1) (P := P) (by omega) h80 b.2.1.1.length 0 _ σ1 Q (by omega) ln1 ((eI 71 17 (by omega) (by omega)).trans rw1.1) ((eI 71 12 (by omega) (by omega)).trans l2) (fun j q hq => ?_) (fun j q hj => absurd hj (by omega)) (fun σ2 a2 p12 pc => ?_)
  · rw [eI 79 j (by omega) (by omega), eL 80 j (by omega), eL 81 j (by omega)]
    exact rw1.2.2.2.2 j q hq
  have jI : ∀ j k, ¬ (j = 71 ∧ k = 12) → ¬ (j = 76 ∧ P ≤ k) → ¬ (j = 74 ∧ k = b.1.length) → ¬ (j = 75 ∧ k = b.1.length) → gI σ2 j k = gI σ j k := fun j k x1 x2 x3 x4 => (a2.2.2.2.2.1 j k x1 x2).trans (eI j k x3 x4)
  have jL : ∀ j k, ¬ (j = 77 ∧ P ≤ k) → ¬ (j = 78 ∧ P ≤ k) → ¬ (j = 73 ∧ k = b.1.length) → gL σ2 j k = gL σ j k := fun j k x1 x2 x3 => (a2.2.2.2.2.2 j k x1 x2).trans (eL j k x3)
  have w74 : gI σ2 74 b.1.length = nI P := (a2.2.2.2.2.1 74 _ (by omega) (by omega)).trans v74
  have w75 : gI σ2 75 b.1.length = nI b.2.1.1.length := (a2.2.2.2.2.1 75 _ (by omega) (by omega)).trans v75
  have w73 : gL σ2 73 b.1.length = L64 (encL 27 b.2.2.2 : Nat) := (a2.2.2.2.2.2 73 _ (by omega) (by omega)).trans v73
  rw [jI 71 8 (by omega) (by omega) (by omega) (by omega), l1, nI_1]
  have a3 : fR σ (pI σ2 71 8 (nI (b.1.length + 1))) := (a1.trans a2.f).trans (fR_pI (j := 71) (k := 8) _ (by omega))
  have kI : ∀ j k, ¬ (j = 71 ∧ k = 8) → gI (pI σ2 71 8 (nI (b.1.length + 1))) j k = gI σ2 j k := fun j k x => by rw [gI_pI, if_neg x]
  have k8 : gI (pI σ2 71 8 (nI (b.1.length + 1))) 71 8 = nI (b.1.length + 1) := by rw [gI_pI, if_pos ⟨rfl, rfl⟩]
  have kL : gL (pI σ2 71 8 (nI (b.1.length + 1))) = gL σ2 := rfl
  generalize pI σ2 71 8 (nI (b.1.length + 1)) = σ3 at a3 kI k8 kL
  have ln3 := ln.of a3.2.2.1
  have tx3 : txR σ3 t := ⟨(kI 71 1 (by omega)).trans ((jI 71 1 (by omega) (by omega) (by omega) (by omega)).trans tx.1), fun i hi => (kI 72 i (by omega)).trans ((jI 72 i (by omega) (by omega) (by omega) (by omega)).trans (tx.2 i hi))⟩
  have n3 : gI σ3 71 2 = nI (tok t a).2.2.2.2 := (kI 71 2 (by omega)).trans ((jI 71 2 (by omega) (by omega) (by omega) (by omega)).trans hk.2.2.1)
  have li3 : linesR σ3 ((b.2.2.2, b.2.1.1) :: b.1) := by
    refine ⟨k8, P + b.2.1.1.length, (kI 71 12 (by omega)).trans p12, by show P + b.2.1.1.length ≤ 80 * (b.1.length + 1); omega, fun k l hkl => ?_⟩
    rw [List.reverse_cons] at hkl
    by_cases z : k < b.1.length
    · rw [List.getElem?_append_left (by rw [List.length_reverse]; exact z)] at hkl
      obtain ⟨q1, B, q2, q3, q4, q5⟩ := l4 k l hkl
      refine ⟨by rw [kL, jL 73 k (by omega) (by omega) (by omega)]; exact q1, B, by rw [kI 74 k (by omega), jI 74 k (by omega) (by omega) (by omega) (by omega)]; exact q2, by rw [kI 75 k (by omega), jI 75 k (by omega) (by omega) (by omega) (by omega)]; exact q3, by omega, fun i q hq => ?_⟩
      have hi := (List.getElem?_eq_some_iff.mp hq).1
      obtain ⟨y1, y2, y3⟩ := q5 i q hq
      rw [kI 76 _ (by omega), jI 76 _ (by omega) (by omega) (by omega) (by omega), kL, jL 77 _ (by omega) (by omega) (by omega), jL 78 _ (by omega) (by omega) (by omega)]
      exact ⟨y1, y2, y3⟩
    · have hlen := (List.getElem?_eq_some_iff.mp hkl).1
      rw [List.length_append, List.length_reverse] at hlen
      have hk' : k = b.1.length := by
        have : [(b.2.2.2, b.2.1.1)].length = 1 := rfl
        omega
      subst hk'
      rw [List.getElem?_append_right (by rw [List.length_reverse]; exact Nat.le_refl _), List.length_reverse, Nat.sub_self] at hkl
      have hkl : some (b.2.2.2, b.2.1.1) = some l := hkl
      cases hkl
      refine ⟨by rw [kL]; exact w73, P, by rw [kI 74 _ (by omega)]; exact w74, by rw [kI 75 _ (by omega)]; exact w75, Nat.le_refl _, fun i q hq => ?_⟩
      rw [kI 76 _ (by omega), kL]
      exact pc i q hq
  have rw3 : rowR σ3 b.2.1 := rw1.of (fun k _ _ => (kI 71 k (by omega)).trans (jI 71 k (by omega) (by omega) (by omega) (by omega))) (fun k => (kI 79 k (by omega)).trans (jI 79 k (by omega) (by omega) (by omega) (by omega))) (fun k => by rw [kL]; exact jL 80 k (by omega) (by omega) (by omega)) (fun k => by rw [kL]; exact jL 81 k (by omega) (by omega) (by omega))
  have st : stp (b, 3, 0, 0, 0, 0) (tok t a) = .inr (((b.2.2.2, b.2.1.1) :: b.1, b.2.1, [], b.2.2.2), 0, 0, 0, 0, 0) := by
    have e1 : stp (b, 3, 0, 0, 0, 0) (tok t a) = stIC b (tok t a) := cite_neg (by omega)
    rw [e1]
    unfold stIC
    rw [cite_pos (show clo b (tok t a) from Or.inr ⟨ho, h59⟩)]
    unfold stClose
    rw [ho]
    show cite (b.2.1.2 = true) _ _ = _
    rw [cite_neg (by rw [hm]; decide)]
  have es := prP_s ha st (by omega)
  refine sp_rnext (d := d) ln3 tx3 hto hpos.1 n3 (fun υ v1 v2 => ⟨b11, ?_⟩)
  refine hs υ _ ((b.2.2.2, b.2.1.1) :: b.1, b.2.1, [], b.2.2.2) (a3.trans v1.f) ⟨ln3.of v1.2.2.1, v1.tx tx3, ?_, v1.lines li3, v2, hpos.1⟩ (v1.row rw3) hm (fun l hl => ?_) ?_ ?_ hlt ⟨_, _, rfl⟩ es
  · rw [v1.2.2.2.2.1 71 6 (by omega), kI 71 6 (by omega), jI 71 6 (by omega) (by omega) (by omega) (by omega), v1.2.2.2.2.1 71 7 (by omega), kI 71 7 (by omega), jI 71 7 (by omega) (by omega) (by omega) (by omega)]
    exact f6
  · rcases List.mem_cons.mp hl with z | z
    · rw [z]; exact ⟨hbo.2.1, hbo.2.2.2⟩
    · exact hbo.1 l z
  · show (((b.2.2.2, b.2.1.1) :: b.1).map (fun x => x.1)).Nodup
    rw [List.map_cons, List.nodup_cons]
    refine ⟨fun z => ?_, hnd⟩
    obtain ⟨l, hl, e⟩ := List.mem_map.mp z
    exact hnew l hl e
  · show 4 * (b.1.length + 1) ≤ _
    omega
end RLINE
