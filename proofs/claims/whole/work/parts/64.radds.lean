/-! ===== LAYER 3, F: the reference's reading: rows, names, faults ===== -/
/-- what the reference's reading changes -/
def fR (σ τ : St) : Prop := sN τ = sN σ ∧ sS τ = sS σ ∧ gN τ = gN σ ∧ gR τ = gR σ ∧ (∀ j k, ¬ (j = 71 ∧ 2 ≤ k ∧ k < 29) → ¬ (74 ≤ j ∧ j ≤ 76) → j ≠ 79 → ¬ (82 ≤ j ∧ j ≤ 84) → gI τ j k = gI σ j k) ∧ ∀ j k, j ≠ 71 → j ≠ 73 → j ≠ 77 → j ≠ 78 → j ≠ 80 → j ≠ 81 → gL τ j k = gL σ j k
theorem fR.rf (σ : St) : fR σ σ := ⟨rfl, rfl, rfl, rfl, fun _ _ _ _ _ _ => rfl, fun _ _ _ _ _ _ _ _ => rfl⟩
theorem fR.trans {σ τ υ : St} (h : fR σ τ) (g : fR τ υ) : fR σ υ := ⟨g.1.trans h.1, g.2.1.trans h.2.1, g.2.2.1.trans h.2.2.1, g.2.2.2.1.trans h.2.2.2.1, fun j k a b c e => (g.2.2.2.2.1 j k a b c e).trans (h.2.2.2.2.1 j k a b c e), fun j k a b c e f i => (g.2.2.2.2.2 j k a b c e f i).trans (h.2.2.2.2.2 j k a b c e f i)⟩
theorem rc.f {σ τ : St} (h : rc σ τ) : fR σ τ := ⟨h.1, h.2.1, h.2.2.1, h.2.2.2.1, fun j k a _ _ _ => h.2.2.2.2.1 j k (by omega), fun j k a _ _ _ _ _ => h.2.2.2.2.2 j k (by omega)⟩
theorem fR_pI {σ : St} {j k : Nat} (v : Int32) (h : (j = 71 ∧ 2 ≤ k ∧ k < 29) ∨ (74 ≤ j ∧ j ≤ 76) ∨ j = 79 ∨ (82 ≤ j ∧ j ≤ 84)) : fR σ (pI σ j k v) := ⟨rfl, rfl, rfl, rfl, fun a b _ _ _ _ => by rw [gI_pI, if_neg (by omega)], fun _ _ _ _ _ _ _ _ => rfl⟩
theorem fR_pL {σ : St} {j : Nat} (k : Nat) (v : Int64) (h : j = 71 ∨ j = 73 ∨ j = 77 ∨ j = 78 ∨ j = 80 ∨ j = 81) : fR σ (pL σ j k v) := ⟨rfl, rfl, rfl, rfl, fun _ _ _ _ _ _ => rfl, fun a b _ _ _ _ _ _ => by rw [gL_pL, if_neg (by omega)]⟩
/-- what adding a PART changes -/
def fB (σ τ : St) : Prop := sN τ = sN σ ∧ sS τ = sS σ ∧ gN τ = gN σ ∧ gR τ = gR σ ∧ (∀ j k, ¬ (j = 71 ∧ 16 ≤ k ∧ k ≤ 19) → j ≠ 79 → gI τ j k = gI σ j k) ∧ ∀ j k, j ≠ 80 → j ≠ 81 → gL τ j k = gL σ j k
theorem fB.rf (σ : St) : fB σ σ := ⟨rfl, rfl, rfl, rfl, fun _ _ _ _ => rfl, fun _ _ _ _ => rfl⟩
theorem fB.trans {σ τ υ : St} (h : fB σ τ) (g : fB τ υ) : fB σ υ := ⟨g.1.trans h.1, g.2.1.trans h.2.1, g.2.2.1.trans h.2.2.1, g.2.2.2.1.trans h.2.2.2.1, fun j k a b => (g.2.2.2.2.1 j k a b).trans (h.2.2.2.2.1 j k a b), fun j k a b => (g.2.2.2.2.2 j k a b).trans (h.2.2.2.2.2 j k a b)⟩
theorem fB.f {σ τ : St} (h : fB σ τ) : fR σ τ := ⟨h.1, h.2.1, h.2.2.1, h.2.2.2.1, fun j k a _ b _ => h.2.2.2.2.1 j k (by omega) b, fun j k _ _ _ _ a b => h.2.2.2.2.2 j k a b⟩
theorem fB_pI {σ : St} {j k : Nat} (v : Int32) (h : (j = 71 ∧ 16 ≤ k ∧ k ≤ 19) ∨ j = 79) : fB σ (pI σ j k v) := ⟨rfl, rfl, rfl, rfl, fun a b _ _ => by rw [gI_pI, if_neg (by omega)], fun _ _ _ _ => rfl⟩
theorem fB_pL {σ : St} {j : Nat} (k : Nat) (v : Int64) (h : j = 80 ∨ j = 81) : fB σ (pL σ j k v) := ⟨rfl, rfl, rfl, rfl, fun _ _ _ _ => rfl, fun a b _ _ => by rw [gL_pL, if_neg (by omega)]⟩
def rowR (σ : St) (w : Rw) : Prop := gI σ 71 17 = nI w.1.length ∧ gI σ 71 16 = (if w.2 = true then 1 else 0) ∧ gI σ 71 18 = nI (cntK 3 w.1) ∧ gI σ 71 19 = nI (cntK 4 w.1) ∧ ∀ i q, w.1[i]? = some q → gI σ 79 i = nI q.1 ∧ gL σ 80 i = L64 q.2.1 ∧ gL σ 81 i = L64 q.2.2
def linesR (σ : St) (ls : List Ln) : Prop := gI σ 71 8 = nI ls.length ∧ ∃ P, gI σ 71 12 = nI P ∧ P ≤ 80 * ls.length ∧ ∀ k l, ls.reverse[k]? = some l → gL σ 73 k = L64 (encL 27 l.1 : Nat) ∧ ∃ B, gI σ 74 k = nI B ∧ gI σ 75 k = nI l.2.length ∧ B + l.2.length ≤ P ∧ ∀ i q, l.2[i]? = some q → gI σ 76 (B + i) = nI q.1 ∧ gL σ 77 (B + i) = L64 q.2.1 ∧ gL σ 78 (B + i) = L64 q.2.2
theorem linesR.of {σ τ : St} {ls : List Ln} (h : linesR σ ls) (e8 : gI τ 71 8 = gI σ 71 8) (e12 : gI τ 71 12 = gI σ 71 12) (e73 : ∀ k, gL τ 73 k = gL σ 73 k) (e74 : ∀ k, gI τ 74 k = gI σ 74 k) (e75 : ∀ k, gI τ 75 k = gI σ 75 k) (e76 : ∀ k, gI τ 76 k = gI σ 76 k) (e77 : ∀ k, gL τ 77 k = gL σ 77 k) (e78 : ∀ k, gL τ 78 k = gL σ 78 k) : linesR τ ls := by
  obtain ⟨h1, P, h2, h3, h4⟩ := h
  refine ⟨e8.trans h1, P, e12.trans h2, h3, fun k l hk => ?_⟩
  obtain ⟨a1, B, a2, a3, a4, a5⟩ := h4 k l hk
  exact ⟨(e73 k).trans a1, B, (e74 k).trans a2, (e75 k).trans a3, a4, fun i q hq => ⟨(e76 _).trans (a5 i q hq).1, (e77 _).trans (a5 i q hq).2.1, (e78 _).trans (a5 i q hq).2.2⟩⟩
theorem rc.lines {σ τ : St} (h : rc σ τ) {ls : List Ln} (hl : linesR σ ls) : linesR τ ls := hl.of (h.2.2.2.2.1 _ _ (by omega)) (h.2.2.2.2.1 _ _ (by omega)) (fun k => h.2.2.2.2.2 _ k (by omega)) (fun k => h.2.2.2.2.1 _ k (by omega)) (fun k => h.2.2.2.2.1 _ k (by omega)) (fun k => h.2.2.2.2.1 _ k (by omega)) (fun k => h.2.2.2.2.2 _ k (by omega)) (fun k => h.2.2.2.2.2 _ k (by omega))
theorem fB.lines {σ τ : St} (h : fB σ τ) {ls : List Ln} (hl : linesR σ ls) : linesR τ ls := hl.of (h.2.2.2.2.1 _ _ (by omega) (by omega)) (h.2.2.2.2.1 _ _ (by omega) (by omega)) (fun k => h.2.2.2.2.2 _ k (by omega) (by omega)) (fun k => h.2.2.2.2.1 _ k (by omega) (by omega)) (fun k => h.2.2.2.2.1 _ k (by omega) (by omega)) (fun k => h.2.2.2.2.1 _ k (by omega) (by omega)) (fun k => h.2.2.2.2.2 _ k (by omega) (by omega)) (fun k => h.2.2.2.2.2 _ k (by omega) (by omega))
theorem rowR.of {σ τ : St} {w : Rw} (h : rowR σ w) (e : ∀ k, 16 ≤ k → k ≤ 19 → gI τ 71 k = gI σ 71 k) (e79 : ∀ k, gI τ 79 k = gI σ 79 k) (e80 : ∀ k, gL τ 80 k = gL σ 80 k) (e81 : ∀ k, gL τ 81 k = gL σ 81 k) : rowR τ w := ⟨(e 17 (by omega) (by omega)).trans h.1, (e 16 (by omega) (by omega)).trans h.2.1, (e 18 (by omega) (by omega)).trans h.2.2.1, (e 19 (by omega) (by omega)).trans h.2.2.2.1, fun i q hq => ⟨(e79 i).trans (h.2.2.2.2 i q hq).1, (e80 i).trans (h.2.2.2.2 i q hq).2.1, (e81 i).trans (h.2.2.2.2 i q hq).2.2⟩⟩
theorem rc.row {σ τ : St} (h : rc σ τ) {w : Rw} (hw : rowR σ w) : rowR τ w := hw.of (fun k _ _ => h.2.2.2.2.1 _ k (by omega)) (fun k => h.2.2.2.2.1 _ k (by omega)) (fun k => h.2.2.2.2.2 _ k (by omega)) (fun k => h.2.2.2.2.2 _ k (by omega))
theorem fB.tk {σ τ : St} (h : fB σ τ) {k : Tk} (hk : tkR σ k) : tkR τ k := by
  obtain ⟨h1, h2, h3, h4, h5, h6⟩ := hk
  have e : ∀ i, i < 16 → gI τ 71 i = gI σ 71 i := fun i hi => h.2.2.2.2.1 71 i (by omega) (by omega)
  have e5 : gL τ 71 5 = gL σ 71 5 := h.2.2.2.2.2 71 5 (by omega) (by omega)
  exact ⟨(e 4 (by omega)).trans h1, (e 3 (by omega)).trans h2, (e 2 (by omega)).trans h3, fun z => e5.trans (h4 z), fun z => e5.trans (h5 z), fun z => e5.trans (h6 z)⟩
theorem fB.tx {σ τ : St} (h : fB σ τ) {t : Tx} (ht : txR σ t) : txR τ t := ⟨(h.2.2.2.2.1 71 1 (by omega) (by omega)).trans ht.1, fun i hi => (h.2.2.2.2.1 72 i (by omega) (by omega)).trans (ht.2 i hi)⟩
theorem lowF_id {f : Int × Nat} (h : Nat.gcd f.1.natAbs f.2 = 1) : lowF f.1 f.2 = f := by
  unfold lowF
  rw [h]
  simp
section RADDS
variable {d : Nat}
theorem sp_adds {σ : St} {Q : Option AV → St → Prop} {w : Rw} {k : Nat} {a : Int} {c : Nat} (hln : LN σ) (hw : rowR σ w) (hwo : rwOK w) (hk : k ≤ 4) (ha : a.natAbs ≤ 1000000000) (hc : 1 ≤ c ∧ c ≤ 1000000000) (h : ∀ τ, fB σ τ → rowR τ (radd w (k, lowF a c)) → Q none τ) : Cl lay1 (d + 2) M_R_adds [aO 12 71, aI (nI k), aJ (L64 a), aJ (L64 c)] σ Q := by
  obtain ⟨w1, w2, w3, w4, w5⟩ := id hw
  obtain ⟨o1, o2, o3, o4⟩ := hwo
  obtain ⟨-, -, q3, -, q4⟩ := nIk hk
  obtain ⟨g1, g2, g3⟩ := gcd_facts (a := a) (show 0 < c by omega)
  have stay : ∀ u6 u7, gI σ 71 16 = 1 → Wp lay1 rtOf (Cl lay1 (d + 1)) k_R_adds 0 Q (42, [aO 12 71, aI (nI k), aJ (L64 a), aZ, aJ (L64 c), aZ, u6, u7], [], σ) := by
    intro u6 u7 e
    have hm : w.2 = true := by
      cases z : w.2 with
      | true => rfl
      | false => rw [w2, z] at e; exact absurd e (by decide)
    refine bk_R_adds_42 _ _ _ _ _ ⟨fun z => by rw [e] at z; exact absurd z (by decide), fun _ => h σ (fB.rf _) ?_⟩
    rw [radd_m hm]
    exact hw
  have over : ∀ u6 u7, rfull w.1 k → Wp lay1 rtOf (Cl lay1 (d + 1)) k_R_adds 0 Q (37, [aO 12 71, aI (nI k), aJ (L64 a), aZ, aJ (L64 c), aZ, u6, u7], [], σ) := by
    intro u6 u7 hf
    refine bk_R_adds_37 _ _ _ _ _ ⟨b11, bk_R_adds_42 _ _ _ _ _ ⟨fun z => by rw [gI_pI, if_pos ⟨rfl, rfl⟩] at z; exact absurd z (by decide), fun _ => ?_⟩⟩
    have a1 := fB_pI (σ := σ) (j := 71) (k := 16) 1 (by omega)
    refine h _ a1 ?_
    have e : radd w (k, lowF a c) = (w.1, true) := by
      cases z : w.2 with
      | true => rw [radd_m z]; exact Prod.ext rfl z
      | false => exact radd_f z hf
    rw [e]
    refine ⟨by rw [gI_pI, if_neg (by omega)]; exact w1, by rw [gI_pI, if_pos ⟨rfl, rfl⟩]; rfl, by rw [gI_pI, if_neg (by omega)]; exact w3, by rw [gI_pI, if_neg (by omega)]; exact w4, fun i q hq => ?_⟩
    rw [gI_pI, if_neg (by omega)]
    exact w5 i q hq
  have fine : ∀ u6 u7, ¬ rfull w.1 k → Wp lay1 rtOf (Cl lay1 (d + 1)) k_R_adds 0 Q (42, [aO 12 71, aI (nI k), aJ (L64 a), aZ, aJ (L64 c), aZ, u6, u7], [], σ) := by
    intro u6 u7 hf
    cases hm : w.2 with
    | true => exact stay u6 u7 (by rw [w2, hm]; rfl)
    | false =>
    have hlen : w.1.length < 80 := by unfold rfull at hf; omega
    have e16 : gI σ 71 16 = 0 := by rw [w2, hm]; rfl
    refine bk_R_adds_42 _ _ _ _ _ ⟨fun _ => ?_, fun z => absurd e16 z⟩
    refine sp_common (by omega) (by omega) (by omega) ?_
    have n0 : ¬ L64 ((Nat.gcd a.natAbs c : Nat) : Int) = 0 := L64_ne0 (by omega) (by omega) (by omega)
    show inb (gI σ 71 17) (gN σ 79) ∧ _
    rw [w1, ix_nI (by omega)]
    have f1 : gI (pI σ 79 w.1.length (nI k)) 71 17 = nI w.1.length := by rw [gI_pI, if_neg (by omega)]; exact w1
    rw [f1, ix_nI (by omega), L64_div (by omega) (by omega) (by omega) (by omega), L64_div (by omega) (by omega) (by omega) (by omega), tdivN]
    have f2 : ∀ v, gI (pL (pI σ 79 w.1.length (nI k)) 80 w.1.length v) 71 17 = nI w.1.length := fun v => f1
    rw [f2, ix_nI (by omega)]
    have f3 : ∀ v v', gI (pL (pL (pI σ 79 w.1.length (nI k)) 80 w.1.length v) 81 w.1.length v') 71 17 = nI w.1.length := fun v v' => f1
    rw [f3, nI_1]
    have f4 : ∀ v v', gI (pI (pL (pL (pI σ 79 w.1.length (nI k)) 80 w.1.length v) 81 w.1.length v') 71 17 (nI (w.1.length + 1))) 71 18 = nI (cntK 3 w.1) := fun v v' => by
      rw [gI_pI, if_neg (by omega)]
      show gI (pI σ 79 w.1.length (nI k)) 71 18 = _
      rw [gI_pI, if_neg (by omega)]; exact w3
    rw [f4]
    have b79 : inb (nI w.1.length) (gN σ 79) := by rw [hln.at 79 82 (by decide)]; exact inb_nI (by omega) (by omega)
    have b80 : inb (nI w.1.length) (gN σ 80) := by rw [hln.at 80 82 (by decide)]; exact inb_nI (by omega) (by omega)
    have b81 : inb (nI w.1.length) (gN σ 81) := by rw [hln.at 81 82 (by decide)]; exact inb_nI (by omega) (by omega)
    have fin : ∀ (n3 n4 : Nat), n3 = cntK 3 (w.1 ++ [(k, lowF a c)]) → n4 = cntK 4 (w.1 ++ [(k, lowF a c)]) → Q none (pI (pI (pI (pL (pL (pI σ 79 w.1.length (nI k)) 80 w.1.length (L64 (a.tdiv (Nat.gcd a.natAbs c : Nat)))) 81 w.1.length (L64 (c / Nat.gcd a.natAbs c : Nat))) 71 17 (nI (w.1.length + 1))) 71 18 (nI n3)) 71 19 (nI n4)) := by
      intro n3 n4 e3 e4
      have a1 : fB σ (pI (pI (pI (pL (pL (pI σ 79 w.1.length (nI k)) 80 w.1.length (L64 (a.tdiv (Nat.gcd a.natAbs c : Nat)))) 81 w.1.length (L64 (c / Nat.gcd a.natAbs c : Nat))) 71 17 (nI (w.1.length + 1))) 71 18 (nI n3)) 71 19 (nI n4)) := (((((fB_pI (j := 79) (k := w.1.length) (nI k) (by omega)).trans (fB_pL (j := 80) w.1.length _ (by omega))).trans (fB_pL (j := 81) w.1.length _ (by omega))).trans (fB_pI (j := 71) (k := 17) _ (by omega))).trans (fB_pI (j := 71) (k := 18) _ (by omega))).trans (fB_pI (j := 71) (k := 19) _ (by omega))
      refine h _ a1 ?_
      rw [radd_a hm hf]
      refine ⟨?_, ?_, ?_, ?_, fun i q hq => ?_⟩
      · rw [gI_pI, if_neg (by omega), gI_pI, if_neg (by omega), gI_pI, if_pos ⟨rfl, rfl⟩, List.length_append]; rfl
      · rw [gI_pI, if_neg (by omega), gI_pI, if_neg (by omega), gI_pI, if_neg (by omega)]
        show gI (pI σ 79 w.1.length (nI k)) 71 16 = 0
        rw [gI_pI, if_neg (by omega)]; exact e16
      · rw [gI_pI, if_neg (by omega), gI_pI, if_pos ⟨rfl, rfl⟩, e3]
      · rw [gI_pI, if_pos ⟨rfl, rfl⟩, e4]
      · have hq : (w.1 ++ [(k, lowF a c)])[i]? = some q := hq
        have v79 : gI (pI (pI (pI (pL (pL (pI σ 79 w.1.length (nI k)) 80 w.1.length (L64 (a.tdiv (Nat.gcd a.natAbs c : Nat)))) 81 w.1.length (L64 (c / Nat.gcd a.natAbs c : Nat))) 71 17 (nI (w.1.length + 1))) 71 18 (nI n3)) 71 19 (nI n4)) 79 i = if i = w.1.length then nI k else gI σ 79 i := by
          rw [gI_pI, if_neg (by omega), gI_pI, if_neg (by omega), gI_pI, if_neg (by omega)]
          show gI (pI σ 79 w.1.length (nI k)) 79 i = _
          rw [gI_pI]
          by_cases z : i = w.1.length
          · rw [if_pos ⟨rfl, z⟩, if_pos z]
          · rw [if_neg (by omega), if_neg z]
        have v80 : gL (pI (pI (pI (pL (pL (pI σ 79 w.1.length (nI k)) 80 w.1.length (L64 (a.tdiv (Nat.gcd a.natAbs c : Nat)))) 81 w.1.length (L64 (c / Nat.gcd a.natAbs c : Nat))) 71 17 (nI (w.1.length + 1))) 71 18 (nI n3)) 71 19 (nI n4)) 80 i = if i = w.1.length then L64 (a.tdiv (Nat.gcd a.natAbs c : Nat)) else gL σ 80 i := by
          show gL (pL (pL (pI σ 79 w.1.length (nI k)) 80 w.1.length _) 81 w.1.length _) 80 i = _
          rw [gL_pL, if_neg (by omega), gL_pL]
          by_cases z : i = w.1.length
          · rw [if_pos ⟨rfl, z⟩, if_pos z]
          · rw [if_neg (by omega), if_neg z]; rfl
        have v81 : gL (pI (pI (pI (pL (pL (pI σ 79 w.1.length (nI k)) 80 w.1.length (L64 (a.tdiv (Nat.gcd a.natAbs c : Nat)))) 81 w.1.length (L64 (c / Nat.gcd a.natAbs c : Nat))) 71 17 (nI (w.1.length + 1))) 71 18 (nI n3)) 71 19 (nI n4)) 81 i = if i = w.1.length then L64 (c / Nat.gcd a.natAbs c : Nat) else gL σ 81 i := by
          show gL (pL (pL (pI σ 79 w.1.length (nI k)) 80 w.1.length _) 81 w.1.length _) 81 i = _
          rw [gL_pL]
          by_cases z : i = w.1.length
          · rw [if_pos ⟨rfl, z⟩, if_pos z]
          · rw [if_neg (by omega), if_neg z, gL_pL, if_neg (by omega)]; rfl
        rw [v79, v80, v81]
        by_cases z : i < w.1.length
        · rw [if_neg (by omega), if_neg (by omega), if_neg (by omega)]
          rw [List.getElem?_append_left z] at hq
          exact w5 i q hq
        · have hl := (List.getElem?_eq_some_iff.mp hq).1
          rw [List.length_append] at hl
          have hi : i = w.1.length := by
            have : [(k, lowF a c)].length = 1 := rfl
            omega
          rw [if_pos hi, if_pos hi, if_pos hi]
          rw [List.getElem?_append_right (by omega), hi, Nat.sub_self] at hq
          have hq : some (k, lowF a c) = some q := hq
          cases hq
          exact ⟨rfl, rfl, rfl⟩
    have e19 : ∀ v, gI (pI (pI (pL (pL (pI σ 79 w.1.length (nI k)) 80 w.1.length (L64 (a.tdiv (Nat.gcd a.natAbs c : Nat)))) 81 w.1.length (L64 (c / Nat.gcd a.natAbs c : Nat))) 71 17 (nI (w.1.length + 1))) 71 18 v) 71 19 = nI (cntK 4 w.1) := fun v => by
      rw [gI_pI, if_neg (by omega), gI_pI, if_neg (by omega)]
      show gI (pI σ 79 w.1.length (nI k)) 71 19 = _
      rw [gI_pI, if_neg (by omega)]; exact w4
    refine ⟨b79, n0, b80, n0, b81, fun z3 => ?_, fun z3 => ?_⟩
    · rw [q3] at z3
      refine bk_R_adds_120 _ _ _ _ _ _ _ _ _ ?_
      rw [e19, nI_1, q4]
      refine ⟨fun z4 => absurd z4 (by omega), fun z4 => ?_⟩
      rw [Int32.add_zero]
      exact fin _ _ (by rw [cntK_app, if_pos z3]) (by rw [cntK_app, if_neg z4]; omega)
    · rw [q3] at z3
      refine bk_R_adds_120 _ _ _ _ _ _ _ _ _ ?_
      rw [e19, nI_1, q4, Int32.add_zero, Int32.add_zero]
      refine ⟨fun z4 => ?_, fun z4 => ?_⟩
      · exact fin _ _ (by rw [cntK_app, if_neg z3]; omega) (by rw [cntK_app, if_pos z4])
      · exact fin _ _ (by rw [cntK_app, if_neg z3]; omega) (by rw [cntK_app, if_neg z4]; omega)
  refine bk_R_adds_0 _ _ _ ?_
  have e80 : gI σ 71 17 = 80 ↔ w.1.length = 80 := by rw [w1, show (80 : Int32) = nI 80 from rfl, nI_eq (by omega) (by omega)]
  have e12 : gI σ 71 18 = 12 ↔ cntK 3 w.1 = 12 := by rw [w3, show (12 : Int32) = nI 12 from rfl, nI_eq (by omega) (by omega)]
  have e12' : gI σ 71 19 = 12 ↔ cntK 4 w.1 = 12 := by rw [w4, show (12 : Int32) = nI 12 from rfl, nI_eq (by omega) (by omega)]
  have t23 : w.1.length ≠ 80 → ¬ (k = 3 ∧ cntK 3 w.1 = 12) → Wp lay1 rtOf (Cl lay1 (d + 1)) k_R_adds 0 Q (23, [aO 12 71, aI (nI k), aJ (L64 a), aZ, aJ (L64 c), aZ, aZ, aZ], [], σ) := by
    intro n1 n2
    refine bk_R_adds_23 _ _ _ _ _ ?_
    rw [e12', q4]
    refine ⟨fun z => ⟨fun z2 => over _ _ (by unfold rfull; omega), fun z2 => fine _ _ (by unfold rfull; omega)⟩, fun z => fine _ _ (by unfold rfull; omega)⟩
  rw [e80, e12, q3]
  exact ⟨fun z => over _ _ (by unfold rfull; omega), fun z => ⟨fun z3 => ⟨fun z2 => over _ _ (by unfold rfull; omega), fun z2 => t23 z (by omega)⟩, fun z3 => t23 z (by omega)⟩⟩
theorem sp_isSign {σ : St} {Q : Option AV → St → Prop} {k : Tk} {c : Nat} (hk : tkR σ k) (hko : tkOK k) (hc : c < 256) (hy : isS k c → Q (some (aI 1)) σ) (hn : ¬ isS k c → Q (some (aI 0)) σ) : Cl lay1 (d + 1) M_R_isSign [aO 12 71, aI (nI c)] σ Q := by
  have h4 := hko.1
  refine bk_R_isSign_0 _ ?_
  have e3 : gI σ 71 4 = 3 ↔ k.1 = 3 := by rw [hk.1, show (3 : Int32) = nI 3 from rfl, nI_eq (by omega) (by omega)]
  rw [e3]
  refine ⟨fun z => ?_, fun z => ⟨b01, hn (fun y => z y.1)⟩⟩
  have hv := hko.2.2.2 z
  rw [hk.2.2.2.2.2 z, i64_nI (by omega), cmpL_eq (by omega) (by omega) (by omega) (by omega)]
  exact ⟨fun y => ⟨b11, hy ⟨z, by omega⟩⟩, fun y => ⟨b01, hn (fun x => y (by rw [x.2]))⟩⟩
/-- a fault with its place -/
def flP (σ : St) (c pl : Nat) (τ : St) : Prop := fR σ τ ∧ gI τ 71 6 = nI c ∧ gI τ 71 7 = nI pl
theorem sp_fails {σ : St} {Q : Option AV → St → Prop} {k : Tk} {c : Nat} (hk : tkR σ k) (hko : tkOK k) (h6 : gI σ 71 6 = 0) (h : ∀ τ, flP σ (if k.1 = 4 then 1 else c) k.2.2.2.1 τ → Q (some (aI 0)) τ) : Cl lay1 (d + 1) M_R_fails [aO 12 71, aI (nI c)] σ Q := by
  have h4 := hko.1
  refine bk_R_fails_0 _ ?_
  have e4 : gI σ 71 4 = 4 ↔ k.1 = 4 := by rw [hk.1, show (4 : Int32) = nI 4 from rfl, nI_eq (by omega) (by omega)]
  rw [e4]
  have e3 : ∀ v, gI (pI σ 71 6 v) 71 3 = nI k.2.2.2.1 := fun v => by rw [gI_pI, if_neg (by omega)]; exact hk.2.1
  rw [e3, e3]
  have go : ∀ v, v = (if k.1 = 4 then 1 else c) → Q (some (aI 0)) (pI (pI σ 71 6 (nI v)) 71 7 (nI k.2.2.2.1)) := fun v hv => h _ ⟨(fR_pI _ (by omega)).trans (fR_pI _ (by omega)), by rw [gI_pI, if_neg (by omega), gI_pI, if_pos ⟨rfl, rfl⟩, hv], by rw [gI_pI, if_pos ⟨rfl, rfl⟩]⟩
  exact ⟨fun _ => ⟨fun z => ⟨b01, go 1 (if_pos z).symm⟩, fun z => ⟨b01, go c (if_neg z).symm⟩⟩, fun z => absurd h6 z⟩
/-- a name looked for from the first on -/
theorem sp_named_loop {σ : St} {Q : Option AV → St → Prop} {ls : List Ln} {nm : List Nat} (hln : LN σ) (hl : linesR σ ls) (hlo : liOK ls) (hle : ls.length ≤ 399) (hnm : lettersOK nm) (hn : (∀ l ∈ ls, l.1 ≠ nm) → Q (some (aI (-1))) σ) (hy : ∀ k l, ls.reverse[k]? = some l → l.1 = nm → Q (some (aI (nI k))) σ) : ∀ (m k : Nat), k + m = ls.length → (∀ j l, j < k → ls.reverse[j]? = some l → l.1 ≠ nm) → Wp lay1 rtOf (Cl lay1 d) k_R_named 1 Q (2, [aO 12 71, aJ (L64 (encL 27 nm : Nat)), aZ, aI (nI k)], [], σ) := by
  intro m
  induction m with
  | zero =>
    intro k hk hs
    refine bk_R_named_2 _ _ ⟨fun _ => hn (fun l hl' e => ?_), fun c => absurd ?_ c⟩
    · obtain ⟨j, hj, ej⟩ := List.getElem_of_mem (List.mem_reverse.mpr hl')
      have hj' := hj
      rw [List.length_reverse] at hj'
      exact hs j l (by omega) (by rw [List.getElem?_eq_getElem hj, ej]) e
    · rw [hl.1]
      exact (nI_leI (by omega) (by omega)).mpr (by omega)
  | succ m ih =>
    intro k hk hs
    have hlt : k < ls.reverse.length := by rw [List.length_reverse]; omega
    have e := List.getElem?_eq_getElem hlt
    obtain ⟨P, -, -, hP⟩ := hl.2
    obtain ⟨e73, -⟩ := hP k _ e
    have hmem := List.mem_reverse.mp (List.getElem_mem hlt)
    have hlet := (hlo _ hmem).2
    refine bk_R_named_2 _ _ ⟨fun c => absurd c ?_, fun _ => ⟨by rw [hln.at 73 400 (by decide)]; exact inb_nI (by omega) (by omega), ?_⟩⟩
    · rw [hl.1, nI_leI (by omega) (by omega)]; omega
    rw [ix_nI (by omega), e73, lg_cmp_eq, enc_eq (by omega) (by omega) hlet hnm]
    refine ⟨fun c => hy k _ e c, fun c => ?_⟩
    rw [nI_1]
    refine ih (k + 1) (by omega) (fun j l hj hl' => ?_)
    by_cases z : j = k
    · rw [z, e] at hl'
      cases hl'
      exact c
    · exact hs j l (by omega) hl'
theorem sp_named {σ : St} {Q : Option AV → St → Prop} {ls : List Ln} {nm : List Nat} (hln : LN σ) (hl : linesR σ ls) (hlo : liOK ls) (hle : ls.length ≤ 399) (hnm : lettersOK nm) (hn : (∀ l ∈ ls, l.1 ≠ nm) → Q (some (aI (-1))) σ) (hy : ∀ k l, ls.reverse[k]? = some l → l.1 = nm → Q (some (aI (nI k))) σ) : Cl lay1 (d + 1) M_R_named [aO 12 71, aJ (L64 (encL 27 nm : Nat))] σ Q :=
  bk_R_named_0 _ (sp_named_loop hln hl hlo hle hnm hn hy ls.length 0 (by omega) (fun j l hj => absurd hj (by omega)))
end RADDS
