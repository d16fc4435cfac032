/-! ===== LAYER 3, E: grid(), after(), rows() ===== -/
noncomputable def cite {α : Type} (P : Prop) (a b : α) : α := @ite α P (Classical.propDecidable P) a b
theorem cite_pos {α : Type} {P : Prop} {a b : α} (h : P) : cite P a b = a := @if_pos P (Classical.propDecidable P) h α a b
theorem cite_neg {α : Type} {P : Prop} {a b : α} (h : ¬ P) : cite P a b = b := @if_neg P (Classical.propDecidable P) h α a b
abbrev Gd : Type := Option (Nat × Nat × Nat × Nat)
noncomputable def spGrid (r : Rg) (G : Gd) (x : Int32) : Int32 × Gd := cite (isP x ∧ r.1 ≠ 0) (cite (gok r x.toInt.toNat) (nI (grun (gnx r x.toInt.toNat) (x.toInt.toNat * x.toInt.toNat) (x.toInt.toNat * x.toInt.toNat)).2.2.1, some (x.toInt.toNat, (grun (gnx r x.toInt.toNat) (x.toInt.toNat * x.toInt.toNat) (x.toInt.toNat * x.toInt.toNat)).2.1, (grun (gnx r x.toInt.toNat) (x.toInt.toNat * x.toInt.toNat) (x.toInt.toNat * x.toInt.toNat)).2.2.2.1, (grun (gnx r x.toInt.toNat) (x.toInt.toNat * x.toInt.toNat) (x.toInt.toNat * x.toInt.toNat)).2.2.2.2)) (-2, G)) (-1, G)
def git (r : Rg) (p : Nat) : Nat → Nat → Nat
  | 0, q => q
  | n + 1, q => gnx r p (git r p n q)
theorem git_lt {r : Rg} {p q : Nat} (hp : 0 < p) (h : q < p * p) : ∀ n, git r p n q < p * p
  | 0 => h
  | n + 1 => gnx_lt hp (git_lt hp h n)
noncomputable def spAfter (r : Rg) (p x y n : Int32) : Int32 := cite (isP p ∧ r.1 ≠ 0 ∧ (0 ≤ x.toInt ∧ x.toInt < p.toInt) ∧ (0 ≤ y.toInt ∧ y.toInt < p.toInt) ∧ (0 ≤ n.toInt ∧ n.toInt ≤ 1000)) (cite (gok r p.toInt.toNat) (nI (git r p.toInt.toNat n.toInt.toNat (x.toInt.toNat * p.toInt.toNat + y.toInt.toNat))) (-2)) (-1)
def spRows (G : Gd) (w : Int32) : Int32 := if 0 ≤ w.toInt ∧ w.toInt ≤ 3 then (match G with
  | none => -4
  | some g => if w = 0 then nI g.1 else if w = 1 then nI g.2.1 else if w = 2 then nI g.2.2.1 else nI g.2.2.2) else -1
def gDC (σ : St) : Gd → Prop
  | none => gI σ 68 3 = 0
  | some g => gI σ 68 3 = 1 ∧ gI σ 68 4 = nI g.1 ∧ gI σ 68 6 = nI g.2.1 ∧ gI σ 68 7 = nI g.2.2.1 ∧ gI σ 68 8 = nI g.2.2.2
def gDR (σ : St) : Gd → Prop
  | none => gI σ 71 44 = 0
  | some g => (3 ≤ g.1 ∧ g.1 ≤ 31) ∧ gI σ 71 44 = nI g.1 ∧ gI σ 71 45 = nI g.2.1 ∧ gI σ 71 46 = nI g.2.2.1 ∧ gI σ 71 47 = nI g.2.2.2
theorem gDC.of {σ τ : St} {G : Gd} (h : gDC σ G) (e : ∀ j, j ≠ 0 → gI τ 68 j = gI σ 68 j) : gDC τ G := by
  cases G with
  | none => exact (e 3 (by omega)).trans h
  | some g => exact ⟨(e 3 (by omega)).trans h.1, (e 4 (by omega)).trans h.2.1, (e 6 (by omega)).trans h.2.2.1, (e 7 (by omega)).trans h.2.2.2.1, (e 8 (by omega)).trans h.2.2.2.2⟩
theorem gDR.of {σ τ : St} {G : Gd} (h : gDR σ G) (e : ∀ j, 44 ≤ j → gI τ 71 j = gI σ 71 j) : gDR τ G := by
  cases G with
  | none => exact (e 44 (by omega)).trans h
  | some g => exact ⟨h.1, (e 44 (by omega)).trans h.2.1, (e 45 (by omega)).trans h.2.2.1, (e 46 (by omega)).trans h.2.2.2.1, (e 47 (by omega)).trans h.2.2.2.2⟩
def sC (j : Nat) (σ : St) (S : Nat → Bool) (N : Nat) : Prop := ∀ i, i < N → gI σ j i = if S i then 1 else 0
theorem sC_ups {j : Nat} {σ : St} {S : Nat → Bool} {N q : Nat} (h : sC j σ S N) : sC j (pI σ j q 1) (ups S q) N := fun i hi => by
  rw [gI_pI]
  unfold ups
  by_cases e : i = q
  · rw [if_pos ⟨rfl, e⟩, if_pos e]; rfl
  · rw [if_neg (fun z => e z.2), if_neg e]; exact h i hi
theorem sC_t {j : Nat} {σ : St} {S : Nat → Bool} {N i : Nat} (h : sC j σ S N) (hi : i < N) : gI σ j i = 0 ↔ S i = false := by
  rw [h i hi]
  cases S i <;> decide
section GRID
variable {d : Nat}
/-- what stays as rows are followed -/
def flI (σ : St) (r : Rg) (p : Nat) : Prop := LN σ ∧ RC σ r ∧ gI σ 68 0 = nI p ∧ wC σ r p r.1
theorem flI.of {σ τ : St} {r : Rg} {p : Nat} (h : flI σ r p) (a : cg σ τ) (e0 : gI τ 68 0 = gI σ 68 0) (e9 : ∀ k, gI τ 69 k = gI σ 69 k) : flI τ r p := ⟨h.1.of a.2.2.1, a.RC h.2.1, e0.trans h.2.2.1, fun i hi => (e9 i).trans (h.2.2.2 i hi)⟩
theorem sp_follow_loop {r : Rg} {p N : Nat} (hro : rgOK r) (hp : 0 < p ∧ p ≤ 31) (hN : N = p * p) : ∀ (f : Nat) (S : Nat → Bool) (q n : Nat) (u2 : AV) (σ : St) (Q : Option AV → St → Prop), cnt S N ≤ f → n + cnt S N ≤ N → q < N → flI σ r p → sC 70 σ S N → (∀ τ, cg σ τ → (∀ j, j ≠ 70 → ∀ k, gI τ j k = gI σ j k) → sC 70 τ (fol (gnx r p) f S q n).1 N → Q (some (aI (nI (fol (gnx r p) f S q n).2))) τ) → Wp lay1 rtOf (Cl lay1 (d + 2)) k_La_follow 1 Q (6, [aO 1 68, aO 8 11, u2, aI (nI N), aI (nI n), aI (nI q)], [], σ) := by
  have hpp : N ≤ 31 * 31 := by rw [hN]; exact Nat.mul_le_mul hp.2 hp.2
  intro f
  induction f with
  | zero =>
    intro S q n u2 σ Q hc hn hq hI hs h
    have hS : S q = true := by
      cases e : S q with
      | true => rfl
      | false => have := cnt_ups e hq; omega
    have fin := h σ (cg.rf _) (fun _ _ _ => rfl) hs
    refine bk_La_follow_6 _ _ _ _ ⟨fun _ => fin, fun _ => ⟨by rw [hI.1.at 70 961 (by decide)]; exact inb_nI (by omega) (by omega), fun c => ?_, fun _ => fin⟩⟩
    rw [ix_nI (by omega), sC_t hs hq, hS] at c
    cases c
  | succ f ih =>
    intro S q n u2 σ Q hc hn hq hI hs h
    have b70 : inb (nI q) (gN σ 70) := by rw [hI.1.at 70 961 (by decide)]; exact inb_nI (by omega) (by omega)
    cases hS : S q with
    | true =>
      have e : fol (gnx r p) (f + 1) S q n = (S, n) := by unfold fol; rw [if_pos hS]
      rw [e] at h
      have fin := h σ (cg.rf _) (fun _ _ _ => rfl) hs
      refine bk_La_follow_6 _ _ _ _ ⟨fun _ => fin, fun _ => ⟨b70, fun c => ?_, fun _ => fin⟩⟩
      rw [ix_nI (by omega), sC_t hs hq, hS] at c
      cases c
    | false =>
      have hcu := cnt_ups hS hq
      have e : fol (gnx r p) (f + 1) S q n = fol (gnx r p) f (ups S q) (gnx r p q) (n + 1) := by
        show (if S q then _ else _) = _
        rw [if_neg (by rw [hS]; decide)]
      rw [e] at h
      refine bk_La_follow_6 _ _ _ _ ⟨fun c => absurd c ?_, fun _ => ⟨b70, fun _ => ⟨b70, ?_⟩, fun c => absurd ?_ c⟩⟩
      · rw [nI_leI (by omega) (by omega)]; omega
      · rw [ix_nI (by omega)]
        have a := cg_pI (σ := σ) (j := 70) q 1 (by omega)
        have eo : ∀ j, j ≠ 70 → ∀ k, gI (pI σ 70 q 1) j k = gI σ j k := fun j hj k => by rw [gI_pI, if_neg (by omega)]
        have hI1 : flI (pI σ 70 q 1) r p := hI.of a (eo 68 (by omega) 0) (eo 69 (by omega))
        show Cl lay1 (d + 2) M_La_next [aO 1 68, aO 8 11, aI (nI q)] (pI σ 70 q 1) _
        refine sp_next hro hp hI1.1 hI1.2.1 hI1.2.2.1 hI1.2.2.2 (by rw [← hN]; exact hq) ?_
        show Wp lay1 rtOf (Cl lay1 (d + 2)) k_La_follow 1 Q (6, [aO 1 68, aO 8 11, u2, aI (nI N), aI (nI n + 1), aI (nI (gnx r p q))], [], pI σ 70 q 1)
        rw [nI_1]
        exact ih (ups S q) (gnx r p q) (n + 1) u2 _ Q (by omega) (by omega) (by rw [hN]; exact gnx_lt hp.1 (by rw [← hN]; exact hq)) hI1 (sC_ups hs) (fun τ b1 b2 b3 => h τ (a.trans b1) (fun j hj k => (b2 j hj k).trans (eo j hj k)) b3)
      · rw [ix_nI (by omega), sC_t hs hq]
        exact hS
def gC (σ : St) (g : Nat × Nat × Nat × Nat) : Prop := gI σ 68 6 = nI g.1 ∧ gI σ 68 5 = nI g.2.1 ∧ gI σ 68 7 = nI g.2.2.1 ∧ gI σ 68 8 = nI g.2.2.2
theorem sp_note {σ : St} {Q : Option AV → St → Prop} {g : Nat × Nat × Nat × Nat} {k n : Nat} (hg : gC σ g) (hn : n ≤ 961) (hl : g.2.2.1 ≤ 961) (h : ∀ τ, cg σ τ → (∀ j, j ≠ 68 → ∀ k, gI τ j k = gI σ j k) → (∀ j, j < 5 → gI τ 68 j = gI σ 68 j) → gC τ (gnote k n g) → Q none τ) : Cl lay1 (d + 1) M_La_noteCycle [aO 1 68, aI (nI k), aI (nI n)] σ Q := by
  obtain ⟨g6, g5, g7, g8⟩ := hg
  have step : ∀ {a : St}, cg σ a ∧ (∀ j, j ≠ 68 → ∀ k, gI a j k = gI σ j k) ∧ (∀ j, j < 5 → gI a 68 j = gI σ 68 j) → ∀ (i : Nat) (v : Int32), 5 ≤ i → cg σ (pI a 68 i v) ∧ (∀ j, j ≠ 68 → ∀ k, gI (pI a 68 i v) j k = gI σ j k) ∧ (∀ j, j < 5 → gI (pI a 68 i v) 68 j = gI σ 68 j) := by
    intro a ha i v hi
    exact ⟨ha.1.trans (cg_pI i v (by omega)), fun j hj k => by rw [gI_pI, if_neg (by omega)]; exact ha.2.1 j hj k, fun j hj => by rw [gI_pI, if_neg (by omega)]; exact ha.2.2 j hj⟩
  have s0 : cg σ σ ∧ (∀ j, j ≠ 68 → ∀ k, gI σ j k = gI σ j k) ∧ (∀ j, j < 5 → gI σ 68 j = gI σ 68 j) := ⟨cg.rf σ, fun _ _ _ => rfl, fun _ _ => rfl⟩
  have e1 : nI n = (1 : Int32) ↔ n = 1 := by rw [show (1 : Int32) = nI 1 from rfl, nI_eq (by omega) (by omega)]
  have e7 : nI n ≤ nI g.2.2.1 ↔ n ≤ g.2.2.1 := nI_leI (by omega) (by omega)
  refine bk_La_noteCycle_0 _ _ ⟨fun c => ⟨fun c2 => ?_, fun c2 => ?_⟩, fun c => ⟨fun c2 => ?_, fun c2 => ?_⟩⟩
  · rw [gI_pI, if_neg (by omega), gI_pI, if_neg (by omega), g7, e7] at c2
    rw [e1] at c
    have s2 := step (step s0 6 (gI σ 68 6 + 1) (by omega)) 5 (gI (pI σ 68 6 (gI σ 68 6 + 1)) 68 5 + 1) (by omega)
    refine h _ s2.1 s2.2.1 s2.2.2 ?_
    unfold gnote gC
    rw [if_pos c, if_neg (by omega), if_neg (by omega)]
    refine ⟨?_, ?_, ?_, ?_⟩
    · rw [gI_pI, if_neg (by omega), gI_pI, if_pos ⟨rfl, rfl⟩, g6, nI_1]
    · rw [gI_pI, if_pos ⟨rfl, rfl⟩, gI_pI, if_neg (by omega), g5, nI_1]
    · rw [gI_pI, if_neg (by omega), gI_pI, if_neg (by omega), g7]
    · rw [gI_pI, if_neg (by omega), gI_pI, if_neg (by omega), g8]
  · rw [gI_pI, if_neg (by omega), gI_pI, if_neg (by omega), g7, e7] at c2
    rw [e1] at c
    have s2 := step (step (step (step s0 6 (gI σ 68 6 + 1) (by omega)) 5 (gI (pI σ 68 6 (gI σ 68 6 + 1)) 68 5 + 1) (by omega)) 7 (nI n) (by omega)) 8 (nI k) (by omega)
    refine h _ s2.1 s2.2.1 s2.2.2 ?_
    unfold gnote gC
    rw [if_pos c, if_pos (by omega), if_pos (by omega)]
    refine ⟨?_, ?_, ?_, ?_⟩
    · rw [gI_pI, if_neg (by omega), gI_pI, if_neg (by omega), gI_pI, if_neg (by omega), gI_pI, if_pos ⟨rfl, rfl⟩, g6, nI_1]
    · rw [gI_pI, if_neg (by omega), gI_pI, if_neg (by omega), gI_pI, if_pos ⟨rfl, rfl⟩, gI_pI, if_neg (by omega), g5, nI_1]
    · rw [gI_pI, if_neg (by omega), gI_pI, if_pos ⟨rfl, rfl⟩]
    · rw [gI_pI, if_pos ⟨rfl, rfl⟩]
  · rw [gI_pI, if_neg (by omega), g7, e7] at c2
    rw [e1] at c
    have s2 := step s0 6 (gI σ 68 6 + 1) (by omega)
    refine h _ s2.1 s2.2.1 s2.2.2 ?_
    unfold gnote gC
    rw [if_neg c, if_neg (by omega), if_neg (by omega)]
    refine ⟨?_, ?_, ?_, ?_⟩
    · rw [gI_pI, if_pos ⟨rfl, rfl⟩, g6, nI_1]
    · rw [gI_pI, if_neg (by omega), g5]
    · rw [gI_pI, if_neg (by omega), g7]
    · rw [gI_pI, if_neg (by omega), g8]
  · rw [gI_pI, if_neg (by omega), g7, e7] at c2
    rw [e1] at c
    have s2 := step (step (step s0 6 (gI σ 68 6 + 1) (by omega)) 7 (nI n) (by omega)) 8 (nI k) (by omega)
    refine h _ s2.1 s2.2.1 s2.2.2 ?_
    unfold gnote gC
    rw [if_neg c, if_pos (by omega), if_pos (by omega)]
    refine ⟨?_, ?_, ?_, ?_⟩
    · rw [gI_pI, if_neg (by omega), gI_pI, if_neg (by omega), gI_pI, if_pos ⟨rfl, rfl⟩, g6, nI_1]
    · rw [gI_pI, if_neg (by omega), gI_pI, if_neg (by omega), gI_pI, if_neg (by omega), g5]
    · rw [gI_pI, if_neg (by omega), gI_pI, if_pos ⟨rfl, rfl⟩]
    · rw [gI_pI, if_pos ⟨rfl, rfl⟩]
theorem sp_all_loop {r : Rg} {p N : Nat} (hro : rgOK r) (hp : 0 < p ∧ p ≤ 31) (hN : N = p * p) : ∀ (m k : Nat) (σ : St) (Q : Option AV → St → Prop), k + m = N → flI σ r p → sC 70 σ (grun (gnx r p) N k).1 N → gC σ (grun (gnx r p) N k).2 → (∀ τ, cg σ τ → (∀ j, j < 5 → gI τ 68 j = gI σ 68 j) → gC τ (grun (gnx r p) N N).2 → Q none τ) → Wp lay1 rtOf (Cl lay1 (d + 3)) k_La_followAll 0 Q (71, [aO 1 68, aO 8 11, aI (nI N), aI (nI k)], [], σ) := by
  have hpp : N ≤ 31 * 31 := by rw [hN]; exact Nat.mul_le_mul hp.2 hp.2
  have hnx : ∀ q, q < N → gnx r p q < N := fun q hq => by rw [hN] at hq ⊢; exact gnx_lt hp.1 hq
  intro m
  induction m with
  | zero =>
    intro k σ Q hk hI hs hg h
    rw [show k = N by omega] at hg
    refine bk_La_followAll_71 _ _ ⟨fun _ => h σ (cg.rf _) (fun _ _ => rfl) hg, fun c => absurd ((nI_leI (by omega) (by omega)).mpr (by omega)) c⟩
  | succ m ih =>
    intro k σ Q hk hI hs hg h
    have hlt : k < N := by omega
    have hcl := cnt_le (grun (gnx r p) N k).1 N
    refine bk_La_followAll_71 _ _ ⟨fun c => absurd ((nI_leI (by omega) (by omega)).mp c) (by omega), fun _ => ⟨by rw [hI.1.at 70 961 (by decide)]; exact inb_nI (by omega) (by omega), fun c => ?_, fun c => ?_⟩⟩
    · rw [ix_nI (by omega), sC_t hs hlt] at c
      have eg := grun_f c
      refine bk_La_follow_0 _ _ ?_
      refine sp_follow_loop hro hp hN N (grun (gnx r p) N k).1 k 0 _ σ _ (by omega) (by omega) hlt hI hs (fun τ a b s => ?_)
      have fl := fol_le hnx N (grun (gnx r p) N k).1 k 0 hlt (by omega)
      have gl := grun_le hnx k (by omega)
      have hgt : gC τ (grun (gnx r p) N k).2 := ⟨(b 68 (by omega) 6).trans hg.1, (b 68 (by omega) 5).trans hg.2.1, (b 68 (by omega) 7).trans hg.2.2.1, (b 68 (by omega) 8).trans hg.2.2.2⟩
      refine sp_note hgt (by omega) (by omega) (fun υ a2 b2 c2 g2 => ?_)
      show Wp lay1 rtOf (Cl lay1 (d + 3)) k_La_followAll 0 Q (71, [aO 1 68, aO 8 11, aI (nI N), aI (nI k + 1)], [], υ)
      rw [nI_1]
      have aa := a.trans a2
      refine ih (k + 1) υ Q (by omega) (hI.of aa ((c2 0 (by omega)).trans (b 68 (by omega) 0)) (fun j => (b2 69 (by omega) j).trans (b 69 (by omega) j))) ?_ ?_ (fun ω q1 q2 q3 => h ω (aa.trans q1) (fun j hj => (q2 j hj).trans ((c2 j hj).trans (b 68 (by omega) j))) q3)
      · rw [eg]
        exact fun i hi => (b2 70 (by omega) i).trans (s i hi)
      · rw [eg]
        exact g2
    · rw [ix_nI (by omega), sC_t hs hlt] at c
      have c' : (grun (gnx r p) N k).1 k = true := by
        cases e : (grun (gnx r p) N k).1 k with
        | true => rfl
        | false => exact absurd e c
      have eg := grun_t c'
      rw [nI_1]
      exact ih (k + 1) σ Q (by omega) hI (by rw [eg]; exact hs) (by rw [eg]; exact hg) h
theorem sp_clear_loop {N : Nat} (hN : N ≤ 961) : ∀ (m k : Nat) (σ : St) (Q : Option AV → St → Prop), k + m = N → LN σ → sC 70 σ (fun _ => false) k → (∀ τ, cg σ τ → (∀ j, j ≠ 70 → ∀ k, gI τ j k = gI σ j k) → sC 70 τ (fun _ => false) N → Wp lay1 rtOf (Cl lay1 (d + 3)) k_La_followAll 0 Q (18, [aO 1 68, aO 8 11, aI (nI N), aI (nI N)], [], τ)) → Wp lay1 rtOf (Cl lay1 (d + 3)) k_La_followAll 0 Q (18, [aO 1 68, aO 8 11, aI (nI N), aI (nI k)], [], σ) := by
  intro m
  induction m with
  | zero =>
    intro k σ Q hk hln hs h
    have e : k = N := by omega
    subst e
    exact h σ (cg.rf _) (fun _ _ _ => rfl) hs
  | succ m ih =>
    intro k σ Q hk hln hs h
    refine bk_La_followAll_18 _ _ ⟨fun c => absurd ((nI_leI (by omega) (by omega)).mp c) (by omega), fun _ => ⟨by rw [hln.at 70 961 (by decide)]; exact inb_nI (by omega) (by omega), ?_⟩⟩
    rw [ix_nI (by omega), nI_1]
    have a := cg_pI (σ := σ) (j := 70) k 0 (by omega)
    show Wp lay1 rtOf (Cl lay1 (d + 3)) k_La_followAll 0 Q (18, [aO 1 68, aO 8 11, aI (nI N), aI (nI (k + 1))], [], pI σ 70 k 0)
    refine ih (k + 1) _ Q (by omega) (hln.of rfl) (fun i hi => ?_) (fun τ b1 b2 b3 => h τ (a.trans b1) (fun j hj i => (b2 j hj i).trans (by rw [gI_pI, if_neg (by omega)])) b3)
    rw [gI_pI]
    by_cases e : i = k
    · rw [if_pos ⟨rfl, e⟩]; rfl
    · rw [if_neg (by omega)]; exact hs i (by omega)
theorem sp_followAll {σ : St} {Q : Option AV → St → Prop} {r : Rg} {p : Nat} (hro : rgOK r) (hp : 0 < p ∧ p ≤ 31) (hI : flI σ r p) (h : ∀ τ, cg σ τ → gI τ 68 3 = 1 → gI τ 68 4 = nI p → gC τ (grun (gnx r p) (p * p) (p * p)).2 → Q none τ) : Cl lay1 (d + 4) M_La_followAll [aO 1 68, aO 8 11] σ Q := by
  have hpp : p * p ≤ 31 * 31 := Nat.mul_le_mul hp.2 hp.2
  refine bk_La_followAll_0 ?_
  rw [hI.2.2.1, pk_mul]
  refine bk_Jm_min_0 _ _ ⟨fun c => absurd c ?_, fun _ => ?_⟩
  · rw [show (961 : Int32) = nI 961 from rfl, nI_ltI (by omega) (by omega)]; omega
  refine sp_clear_loop (by omega) (p * p) 0 σ Q (by omega) hI.1 (fun i hi => absurd hi (by omega)) (fun τ a b s => ?_)
  refine bk_La_followAll_18 _ _ ⟨fun _ => ⟨b11, ?_⟩, fun c => absurd ((nI_leI (by omega) (by omega)).mpr (by omega)) c⟩
  have e0 : gI τ 68 0 = nI p := (b 68 (by omega) 0).trans hI.2.2.1
  rw [show gI (pI τ 68 3 1) 68 0 = nI p by rw [gI_pI, if_neg (by omega)]; exact e0]
  have a1 : cg τ (pI (pI (pI (pI (pI (pI τ 68 3 1) 68 4 (nI p)) 68 5 0) 68 6 0) 68 7 0) 68 8 0) := (((((cg_pI 3 1 (by omega)).trans (cg_pI 4 (nI p) (by omega))).trans (cg_pI 5 0 (by omega))).trans (cg_pI 6 0 (by omega))).trans (cg_pI 7 0 (by omega))).trans (cg_pI 8 0 (by omega))
  have eo : ∀ j, j ≠ 68 → ∀ k, gI (pI (pI (pI (pI (pI (pI τ 68 3 1) 68 4 (nI p)) 68 5 0) 68 6 0) 68 7 0) 68 8 0) j k = gI τ j k := fun j hj k => by
    rw [gI_pI, if_neg (by omega), gI_pI, if_neg (by omega), gI_pI, if_neg (by omega), gI_pI, if_neg (by omega), gI_pI, if_neg (by omega), gI_pI, if_neg (by omega)]
  have f0 : gI (pI (pI (pI (pI (pI (pI τ 68 3 1) 68 4 (nI p)) 68 5 0) 68 6 0) 68 7 0) 68 8 0) 68 0 = nI p := by
    rw [gI_pI, if_neg (by omega), gI_pI, if_neg (by omega), gI_pI, if_neg (by omega), gI_pI, if_neg (by omega), gI_pI, if_neg (by omega), gI_pI, if_neg (by omega)]; exact e0
  have f3 : gI (pI (pI (pI (pI (pI (pI τ 68 3 1) 68 4 (nI p)) 68 5 0) 68 6 0) 68 7 0) 68 8 0) 68 3 = 1 := by
    rw [gI_pI, if_neg (by omega), gI_pI, if_neg (by omega), gI_pI, if_neg (by omega), gI_pI, if_neg (by omega), gI_pI, if_neg (by omega), gI_pI, if_pos ⟨rfl, rfl⟩]
  have f4 : gI (pI (pI (pI (pI (pI (pI τ 68 3 1) 68 4 (nI p)) 68 5 0) 68 6 0) 68 7 0) 68 8 0) 68 4 = nI p := by
    rw [gI_pI, if_neg (by omega), gI_pI, if_neg (by omega), gI_pI, if_neg (by omega), gI_pI, if_neg (by omega), gI_pI, if_pos ⟨rfl, rfl⟩]
  have fg : gC (pI (pI (pI (pI (pI (pI τ 68 3 1) 68 4 (nI p)) 68 5 0) 68 6 0) 68 7 0) 68 8 0) (0, 0, 0, 0) := by
    refine ⟨?_, ?_, ?_, ?_⟩
    · rw [gI_pI, if_neg (by omega), gI_pI, if_neg (by omega), gI_pI, if_pos ⟨rfl, rfl⟩]; rfl
    · rw [gI_pI, if_neg (by omega), gI_pI, if_neg (by omega), gI_pI, if_neg (by omega), gI_pI, if_pos ⟨rfl, rfl⟩]; rfl
    · rw [gI_pI, if_neg (by omega), gI_pI, if_pos ⟨rfl, rfl⟩]; rfl
    · rw [gI_pI, if_pos ⟨rfl, rfl⟩]; rfl
  generalize pI (pI (pI (pI (pI (pI τ 68 3 1) 68 4 (nI p)) 68 5 0) 68 6 0) 68 7 0) 68 8 0 = τ1 at a1 eo f0 f3 f4 fg
  have aa := a.trans a1
  have hI1 : flI τ1 r p := hI.of aa (f0.trans hI.2.2.1.symm) (fun k => (eo 69 (by omega) k).trans (b 69 (by omega) k))
  refine sp_all_loop hro hp rfl (p * p) 0 τ1 Q (by omega) hI1 (fun i hi => (eo 70 (by omega) i).trans (s i hi)) fg (fun υ q1 q2 q3 => h υ (aa.trans q1) ((q2 3 (by omega)).trans f3) ((q2 4 (by omega)).trans f4) q3)
theorem isP_nI {x : Int32} (h : isP x) : x.toInt.toNat ∈ prmL ∧ x = nI x.toInt.toNat ∧ 3 ≤ x.toInt ∧ x.toInt ≤ 31 := by
  obtain ⟨n, hn, rfl⟩ := h
  have hb := prm_b hn
  rw [nI_toInt (by omega)]
  refine ⟨hn, ?_, by omega, by omega⟩
  congr 1
theorem sp_C_grid {σ : St} {Q : Option AV → St → Prop} {r : Rg} {G : Gd} {x : Int32} (hln : LN σ) (hpm : PRM σ) (hr : RC σ r) (hro : rgOK r) (hG : gDC σ G) (h : ∀ τ, cg σ τ → gDC τ (spGrid r G x).2 → Q (some (aI (spGrid r G x).1)) τ) : Cl lay1 (d + 7) M_C_grid [aO 11 3, aI x] σ Q := by
  have h80 := hro.1
  have bad : ¬ (isP x ∧ r.1 ≠ 0) → Q (some (aI (-1))) σ := fun c => by
    have e : spGrid r G x = (-1, G) := cite_neg c
    have := h σ (cg.rf _) (by rw [e]; exact hG)
    rw [e] at this
    exact this
  refine bk_C_grid_0 _ ?_
  refine sp_C_isPrime hln hpm (fun c => ⟨fun z => absurd z (by decide), fun _ => ?_⟩) (fun c => ⟨fun _ => bad (fun z => c z.1), fun z => absurd rfl z⟩)
  refine sp_hasPart hr.1 h80 (fun c2 => ⟨fun z => absurd z (by decide), fun _ => ?_⟩) (fun c2 => ⟨fun _ => bad (fun z => c2 ⟨by decide, by have := z.2; show (0 : Int) < r.1; omega⟩), fun z => absurd rfl z⟩)
  obtain ⟨hp, e, h3, h31⟩ := isP_nI c
  have hr0 : r.1 ≠ 0 := by
    have := c2.2
    intro z
    rw [z] at this
    exact absurd this (by decide)
  have es : spGrid r G x = _ := cite_pos ⟨c, hr0⟩
  rw [e]
  generalize x.toInt.toNat = p at hp es
  have hb := prm_b hp
  refine sp_prepare (d := d + 4) hro hp hln hr (fun τ a b0 b1 b2 b3 => ⟨fun z => absurd z (by decide), fun _ => ?_⟩) (fun τ a b0 b2 => ⟨fun _ => ?_, fun z => absurd rfl z⟩)
  · have es2 := es.trans (cite_pos b2)
    refine sp_followAll (d := d + 2) hro (by omega) ⟨hln.of a.2.2.1, a.RC hr, b1, b3⟩ (fun υ q1 q2 q3 q4 => ?_)
    have := h υ (a.trans q1) (by rw [es2]; exact ⟨q2, q3, q4.1, q4.2.2.1, q4.2.2.2⟩)
    rw [es2] at this
    show Q (some (aI (gI υ 68 5))) υ
    rw [q4.2.1]
    exact this
  · have es2 := es.trans (cite_neg b2)
    have := h τ a (by rw [es2]; exact hG.of b0)
    rw [es2] at this
    exact this
theorem sp_C_after_loop {r : Rg} {p q n : Nat} (hro : rgOK r) (hp : 0 < p ∧ p ≤ 31) (hq : q < p * p) (hn : n ≤ 1000) {σ : St} {Q : Option AV → St → Prop} (hI : flI σ r p) (h : Q (some (aI (nI (git r p n q)))) σ) : ∀ (m k : Nat) (u1 u2 u3 : AV), k + m = n → Wp lay1 rtOf (Cl lay1 (d + 2)) k_C_after 1 Q (81, [aO 11 3, u1, u2, u3, aI (nI n), aI (nI (git r p k q)), aI (nI k)], [], σ) := by
  intro m
  induction m with
  | zero =>
    intro k u1 u2 u3 hk
    have e : k = n := by omega
    subst e
    exact bk_C_after_81 _ _ _ _ _ _ ⟨fun _ => h, fun c => absurd ((nI_leI (by omega) (by omega)).mpr (by omega)) c⟩
  | succ m ih =>
    intro k u1 u2 u3 hk
    refine bk_C_after_81 _ _ _ _ _ _ ⟨fun c => absurd ((nI_leI (by omega) (by omega)).mp c) (by omega), fun _ => ?_⟩
    refine sp_next hro hp hI.1 hI.2.1 hI.2.2.1 hI.2.2.2 (git_lt hp.1 hq k) ?_
    show Wp lay1 rtOf (Cl lay1 (d + 2)) k_C_after 1 Q (81, [aO 11 3, u1, u2, u3, aI (nI n), aI (nI (gnx r p (git r p k q))), aI (nI k + 1)], [], σ)
    rw [nI_1]
    exact ih (k + 1) u1 u2 u3 (by omega)
theorem sp_C_after {σ : St} {Q : Option AV → St → Prop} {r : Rg} {p x y n : Int32} (hln : LN σ) (hpm : PRM σ) (hr : RC σ r) (hro : rgOK r) (h : ∀ τ, cg σ τ → (∀ j, j ≠ 0 → gI τ 68 j = gI σ 68 j) → Q (some (aI (spAfter r p x y n))) τ) : Cl lay1 (d + 7) M_C_after [aO 11 3, aI p, aI x, aI y, aI n] σ Q := by
  have h80 := hro.1
  have bad : ¬ (isP p ∧ r.1 ≠ 0 ∧ (0 ≤ x.toInt ∧ x.toInt < p.toInt) ∧ (0 ≤ y.toInt ∧ y.toInt < p.toInt) ∧ (0 ≤ n.toInt ∧ n.toInt ≤ 1000)) → Q (some (aI (-1))) σ := fun c => by
    have e : spAfter r p x y n = -1 := cite_neg c
    have := h σ (cg.rf _) (fun _ _ => rfl)
    rw [e] at this
    exact this
  refine bk_C_after_0 _ _ _ _ ?_
  refine sp_C_isPrime hln hpm (fun c => ⟨fun z => absurd z (by decide), fun _ => ?_⟩) (fun c => ⟨fun _ => bad (fun z => c z.1), fun z => absurd rfl z⟩)
  refine sp_hasPart hr.1 h80 (fun c2 => ⟨fun z => absurd z (by decide), fun _ => ?_⟩) (fun c2 => ⟨fun _ => bad (fun z => c2 ⟨by decide, by have := z.2.1; show (0 : Int) < r.1; omega⟩), fun z => absurd rfl z⟩)
  have hr0 : r.1 ≠ 0 := by
    have := c2.2
    intro z
    rw [z] at this
    exact absurd this (by decide)
  obtain ⟨hp, e, h3, h31⟩ := isP_nI c
  simp only [z_lt, Int32.le_iff_toInt_le, show (1000 : Int32).toInt = 1000 by decide]
  refine ⟨fun z => bad (by omega), fun z1 => ⟨fun z => bad (by omega), fun z2 => ⟨fun z => bad (by omega), fun z3 => ⟨fun z => bad (by omega), fun z4 => ⟨fun z => bad (by omega), fun z5 => ⟨fun z6 => ?_, fun z => bad (by omega)⟩⟩⟩⟩⟩⟩
  have es : spAfter r p x y n = _ := cite_pos ⟨c, hr0, by omega, by omega, by omega⟩
  have ex := nI_self (x := x) (by omega)
  have ey := nI_self (x := y) (by omega)
  have en := nI_self (x := n) (by omega)
  have hxp : x.toInt.toNat < p.toInt.toNat := by omega
  have hyp : y.toInt.toNat < p.toInt.toNat := by omega
  have hn : n.toInt.toNat ≤ 1000 := by omega
  rw [e, ex, ey, en]
  generalize p.toInt.toNat = P at hp es hxp hyp
  generalize x.toInt.toNat = X at es hxp
  generalize y.toInt.toNat = Y at es hyp
  generalize n.toInt.toNat = N at es hn
  have hb := prm_b hp
  refine sp_prepare (d := d + 4) hro hp hln hr (fun τ a b0 b1 b2 b3 => ⟨fun z => absurd z (by decide), fun _ => ?_⟩) (fun τ a b0 b2 => ⟨fun _ => ?_, fun z => absurd rfl z⟩)
  · have es2 := es.trans (cite_pos b2)
    have := h τ a b0
    rw [es2] at this
    show Wp lay1 rtOf (Cl lay1 (d + 6)) k_C_after 1 Q (81, [aO 11 3, aI (nI P), aI (nI X), aI (nI Y), aI (nI N), aI (nI X * nI P + nI Y), aI (nI 0)], [], τ)
    rw [pk_mul, nI_add]
    exact sp_C_after_loop (d := d + 4) (q := X * P + Y) hro (by omega) (pt_lt hxp hyp) hn ⟨hln.of a.2.2.1, a.RC hr, b1, b3⟩ this N 0 _ _ _ (by omega)
  · have es2 := es.trans (cite_neg b2)
    have := h τ a b0
    rw [es2] at this
    exact this
theorem sp_C_rows {σ : St} {Q : Option AV → St → Prop} {G : Gd} {w : Int32} (hG : gDC σ G) (h : Q (some (aI (spRows G w))) σ) : Cl lay1 (d + 2) M_C_rows [aO 11 3, aI w] σ Q := by
  refine bk_C_rows_0 _ ?_
  simp only [z_lt, Int32.le_iff_toInt_le, show (3 : Int32).toInt = 3 by decide]
  refine ⟨fun z => ?_, fun z1 => ⟨fun z2 => ⟨fun c => ?_, fun c => ?_⟩, fun z => ?_⟩⟩
  · rw [show spRows G w = -1 from if_neg (by omega)] at h
    exact h
  · have es : spRows G w = _ := if_pos ⟨by omega, z2⟩
    cases G with
    | none => rw [es] at h; exact h
    | some g => rw [hG.1] at c; exact absurd c (by decide)
  · cases G with
    | none => exact absurd hG c
    | some g =>
      obtain ⟨-, g4, g6, g7, g8⟩ := hG
      have es : spRows (some g) w = if w = 0 then nI g.1 else if w = 1 then nI g.2.1 else if w = 2 then nI g.2.2.1 else nI g.2.2.2 := if_pos ⟨by omega, z2⟩
      refine bk_La_fact_0 _ ⟨fun q => ?_, fun q => ⟨fun q2 => ?_, fun q2 => ⟨fun q3 => ?_, fun q3 => ?_⟩⟩⟩
      · rw [g4]; rw [es.trans (if_pos q)] at h; exact h
      · rw [g6]; rw [es.trans ((if_neg q).trans (if_pos q2))] at h; exact h
      · rw [g7]; rw [es.trans (((if_neg q).trans (if_neg q2)).trans (if_pos q3))] at h; exact h
      · rw [g8]; rw [es.trans (((if_neg q).trans (if_neg q2)).trans (if_neg q3))] at h; exact h
  · rw [show spRows G w = -1 from if_neg (by omega)] at h
    exact h
end GRID
