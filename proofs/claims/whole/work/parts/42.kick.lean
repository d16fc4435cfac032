/-! ===== LAYER 3, D: kicks and looks; closed ways, the component ===== -/
abbrev Mt : Type := (Int × Nat) × (Int × Nat)
/-- a reckoning with a flag that stays: r is told as g with the flag as it was, or BIG with the flag up -/
def stk {α : Type} (b b' : Int32) (r : Option α) (g : α) : Prop := r = some g ∧ b' = b ∨ r = none ∧ b' = 1
theorem stk.bind {α β : Type} {b b1 b2 : Int32} {r1 : Option α} {g1 : α} {f : α → Option β} {g2 : β} (h : stk b b1 r1 g1) (k : stk b1 b2 (f g1) g2) : stk b b2 (r1.bind f) g2 := by
  rcases h with ⟨h, q⟩ | ⟨h, q⟩
  · subst h; subst q; exact k
  · subst h
    refine Or.inr ⟨rfl, ?_⟩
    rcases k with ⟨-, q2⟩ | ⟨-, q2⟩
    · exact q2.trans q
    · exact q2
theorem stk.map {α β : Type} {b b1 : Int32} {r : Option α} {g : α} (h : stk b b1 r g) (f : α → β) : stk b b1 (r.map f) (f g) := by
  rcases h with ⟨h, q⟩ | ⟨h, q⟩
  · subst h; exact Or.inl ⟨rfl, q⟩
  · subst h; exact Or.inr ⟨rfl, q⟩
theorem stk.b {α : Type} {b b' : Int32} {r : Option α} {g : α} (h : stk b b' r g) (hb : b = 0 ∨ b = 1) : b' = 0 ∨ b' = 1 := by
  rcases h with ⟨-, q⟩ | ⟨-, q⟩
  · rw [q]; exact hb
  · exact Or.inr q
theorem stk.zero {α : Type} {b b' : Int32} {r : Option α} {g : α} (h : stk b b' r g) (h0 : b' = 0) : r = some g ∧ b = 0 := by
  rcases h with ⟨h, q⟩ | ⟨-, q⟩
  · exact ⟨h, q.symm.trans h0⟩
  · rw [q] at h0; exact absurd h0 (by decide)
theorem stk.one {α : Type} {b' : Int32} {r : Option α} {g : α} (h : stk 0 b' r g) (h1 : ¬ b' = 0) : r = none := by
  rcases h with ⟨-, q⟩ | ⟨h, -⟩
  · exact absurd q h1
  · exact h
theorem stk.here {α : Type} (b : Int32) (g : α) : stk b b (some g) g := Or.inl ⟨rfl, rfl⟩
/-- how many PARTS of kind c stand ahead -/
def ahd (r : Rg) (c : Nat) : Nat → Nat
  | 0 => 0
  | n + 1 => if r.2.1 n = c then ahd r c n + 1 else ahd r c n
theorem ahd_step (r : Rg) (c n : Nat) : ahd r c (n + 1) = ahd r c n + 1 ∧ r.2.1 n = c ∨ ahd r c (n + 1) = ahd r c n ∧ r.2.1 n ≠ c := by
  by_cases h : r.2.1 n = c
  · exact Or.inl ⟨by show (if _ then _ else _) = _; rw [if_pos h], h⟩
  · exact Or.inr ⟨by show (if _ then _ else _) = _; rw [if_neg h], h⟩
theorem ahd_mono {r : Rg} {c i : Nat} : ∀ {j : Nat}, i ≤ j → ahd r c i ≤ ahd r c j := by
  intro j
  induction j with
  | zero => intro h; rw [show i = 0 by omega]; exact Nat.le_refl _
  | succ j ih =>
    intro h
    by_cases e : i = j + 1
    · rw [e]; exact Nat.le_refl _
    · have := ih (by omega)
      rcases ahd_step r c j with ⟨q, -⟩ | ⟨q, -⟩ <;> omega
theorem ahd_lt {r : Rg} {c i j : Nat} (h : r.2.1 i = c) (hj : i < j) : ahd r c i < ahd r c j := by
  have h1 := ahd_mono (r := r) (c := c) (show i + 1 ≤ j from hj)
  rcases ahd_step r c i with ⟨q, -⟩ | ⟨-, q⟩
  · omega
  · exact absurd h q
theorem ahd_ex {r : Rg} {c n : Nat} : ∀ {j : Nat}, n < ahd r c j → ∃ i, i < j ∧ r.2.1 i = c ∧ ahd r c i = n := by
  intro j
  induction j with
  | zero => intro h; exact absurd h (Nat.not_lt_zero _)
  | succ j ih =>
    intro h
    rcases ahd_step r c j with ⟨q, q2⟩ | ⟨q, -⟩
    · by_cases e : n = ahd r c j
      · exact ⟨j, by omega, q2, e.symm⟩
      · obtain ⟨i, h1, h2⟩ := ih (by omega)
        exact ⟨i, by omega, h2⟩
    · obtain ⟨i, h1, h2⟩ := ih (by omega)
      exact ⟨i, by omega, h2⟩
theorem ahd_inj {r : Rg} {c i j : Nat} (hi : r.2.1 i = c) (hj : r.2.1 j = c) (h : ahd r c i = ahd r c j) : i = j := by
  rcases Nat.lt_trichotomy i j with q | q | q
  · have := ahd_lt hi q; omega
  · exact q
  · have := ahd_lt hj q; omega
theorem ahd_le (r : Rg) (c : Nat) : ∀ i, ahd r c i ≤ i
  | 0 => Nat.le_refl _
  | i + 1 => by
    have := ahd_le r c i
    rcases ahd_step r c i with ⟨q, -⟩ | ⟨q, -⟩ <;> omega
/-- the PART that is the n-th of its kind -/
def pos (r : Rg) (c n : Nat) : Nat := ((List.range r.1).find? (fun i => decide (r.2.1 i = c ∧ ahd r c i = n))).getD 0
theorem pos_eq {r : Rg} {c n i : Nat} (hi : i < r.1) (hk : r.2.1 i = c) (ha : ahd r c i = n) : pos r c n = i := by
  unfold pos
  cases h : (List.range r.1).find? (fun i => decide (r.2.1 i = c ∧ ahd r c i = n)) with
  | none =>
    have := List.find?_eq_none.mp h i (List.mem_range.mpr hi)
    exact absurd (decide_eq_true ⟨hk, ha⟩) this
  | some j =>
    have := of_decide_eq_true (p := r.2.1 j = c ∧ ahd r c j = n) (List.find?_some (p := fun i => decide (r.2.1 i = c ∧ ahd r c i = n)) h)
    exact ahd_inj this.1 hk (this.2.trans ha.symm)
theorem pos_ok {r : Rg} {c n : Nat} (h : n < ahd r c r.1) : pos r c n < r.1 ∧ r.2.1 (pos r c n) = c ∧ ahd r c (pos r c n) = n := by
  obtain ⟨i, h1, h2, h3⟩ := ahd_ex h
  rw [pos_eq h1 h2 h3]
  exact ⟨h1, h2, h3⟩
abbrev Kk : Type := Nat → Int × Nat
def kOK (r : Rg) (K : Kk) : Prop := ∀ k, k < ahd r 3 r.1 → fOK (K k)
def rkOK (r : Rg) : Prop := ahd r 3 r.1 ≤ 12 ∧ ahd r 4 r.1 ≤ 12
/-- the component's rows of KICKS and LOOKS -/
def CK (σ : St) (r : Rg) : Prop := gI σ 11 6 = nI (ahd r 3 r.1) ∧ gI σ 11 7 = nI (ahd r 4 r.1) ∧ ∀ i, i < r.1 → (r.2.1 i = 3 → gI σ 28 i = nI (ahd r 3 i) ∧ gI σ 26 (ahd r 3 i) = nI i) ∧ (r.2.1 i = 4 → gI σ 27 (ahd r 4 i) = nI i)
def kF (σ : St) (B : Nat) (r : Rg) (K : Kk) : Prop := ∀ k, k < ahd r 3 r.1 → isF σ (B + k) (K k)
theorem ar.CK {S : List Nat} {σ τ : St} (h : ar S σ τ) {r : Rg} (hr : CK σ r) : CK τ r := by
  have e := h.2.2.2.2.1
  refine ⟨(e 11 6 (by omega)).trans hr.1, (e 11 7 (by omega)).trans hr.2.1, fun i hi => ⟨fun k => ⟨(e 28 _ (by omega)).trans ((hr.2.2 i hi).1 k).1, (e 26 _ (by omega)).trans ((hr.2.2 i hi).1 k).2⟩, fun k => (e 27 _ (by omega)).trans ((hr.2.2 i hi).2 k)⟩⟩
theorem ar.kF {S : List Nat} {σ τ : St} (h : ar S σ τ) {B : Nat} {r : Rg} {K : Kk} (hS : ∀ j ∈ S, j < B ∨ B + 12 ≤ j) (h12 : ahd r 3 r.1 ≤ 12) (hk : kF σ B r K) : kF τ B r K := fun k hk' => h.F (fun z => by have := hS _ z; omega) (hk k hk')
def kgive (r : Rg) (K : Kk) (i : Nat) (m : Mt) : Option Mt := if r.2.1 i = 3 then (fadd m.2 (K (ahd r 3 i))).map (fun y => (m.1, y)) else some m
def kstep (r : Rg) (K : Kk) (i : Nat) (m : Mt) : Option Mt := (mstep (r.2.1 i) (r.2.2 i) m).bind (kgive r K i)
/-- the table and the kicked mote behind n PARTS from the first on -/
def wgo (r : Rg) (K : Kk) : Nat → Option (Tb × Mt)
  | 0 => some ((((1, 1), (0, 1)), ((0, 1), (1, 1))), ((0, 1), (0, 1)))
  | n + 1 => (wgo r K n).bind fun q => (tstep (r.2.1 n) (r.2.2 n) q.1).bind fun t => (kstep r K n q.2).map fun m => (t, m)
theorem wgo_none {r : Rg} {K : Kk} {k : Nat} (h : wgo r K k = none) : ∀ n, k ≤ n → wgo r K n = none := by
  intro n
  induction n with
  | zero => intro hk; rw [show k = 0 by omega] at h; exact h
  | succ n ih =>
    intro hk
    by_cases e : k = n + 1
    · rw [← e]; exact h
    · show (wgo r K n).bind _ = none
      rw [ih (by omega)]
      rfl
/-- a mote through the first n PARTS -/
def cgo (r : Rg) (K : Kk) (c : Mt) : Nat → Option Mt
  | 0 => some c
  | n + 1 => (cgo r K c n).bind (kstep r K n)
theorem cgo_none {r : Rg} {K : Kk} {c : Mt} {k : Nat} (h : cgo r K c k = none) : ∀ n, k ≤ n → cgo r K c n = none := by
  intro n
  induction n with
  | zero => intro hk; rw [show k = 0 by omega] at h; exact h
  | succ n ih =>
    intro hk
    by_cases e : k = n + 1
    · rw [← e]; exact h
    · show (cgo r K c n).bind _ = none
      rw [ih (by omega)]
      rfl
def solX (t : Tb) (m : Mt) (e : Int × Nat) : Option (Int × Nat) := (fsub (1, 1) t.2.2).bind fun p => (fmul p m.1).bind fun q => ((fmul t.2.1 m.2).bind (fadd q)).bind fun z => fdiv z e
def solY (t : Tb) (m : Mt) (e : Int × Nat) : Option (Int × Nat) := (fsub (1, 1) t.1.1).bind fun p => (fmul t.1.2 m.1).bind fun q => ((fmul p m.2).bind (fadd q)).bind fun z => fdiv z e
def gapF (t : Tb) : Option (Int × Nat) := (fsub (2, 1) t.1.1).bind fun g => fsub g t.2.2
/-- the closed way at PART n, or why there is none -/
def wres (r : Rg) (K : Kk) (n : Nat) : Int32 ⊕ Mt := match (wgo r K r.1).bind fun q => (gapF q.1).map fun e => (q, e) with
  | none => .inl (-5)
  | some (q, e) => if e.1 = 0 then .inl (-2) else (match ((solX q.1 q.2 e).bind fun x => (solY q.1 q.2 e).map fun y => (x, y)).bind fun c => cgo r K c n with
    | none => .inl (-5)
    | some c => .inr c)
theorem fdiv_ok {x y f : Int × Nat} (hx : fOK x) (hy : fOK y) (hy0 : y.1 ≠ 0) (h : fdiv x y = some f) : fOK f := by
  unfold fdiv at h
  split at h
  · exact fnm_ok (Nat.mul_pos hx.2.1 (by omega)) h
  · exact fnm_ok (Nat.mul_pos hx.2.1 (by omega)) h
section KICK
variable {d : Nat} {σ : St} {Q : Option AV → St → Prop}
theorem sp_giveKick {c z A B i : Nat} {r : Rg} {K : Kk} {m : Mt} (hc1 : ldR lay1 σ (c + 1) 1 = z + 2) (hln : LN σ) (hA : gN σ (A + 1) = 12) (hAr : ∀ k, k < 12 → gR σ (A + 1) k = B + 1 + k) (hr : RC σ r) (hro : rgOK r) (hck : CK σ r) (hrk : rkOK r) (hko : kOK r K) (hkf : kF σ (B + 1) r K) (hi : i < r.1) (hm : isM σ (z + 1) m) (hmo : mOK m) (h : ∀ τ, moP (z + 1) σ (kgive r K i m) τ → Q none τ) : Cl lay1 (d + 4) M_Op_giveKick [aO 4 29, aO 3 (c + 1), aO 8 11, aI (nI i), aO 21 (A + 1)] σ Q := by
  have h80 := hro.1
  have h12 := hrk.1
  obtain ⟨g1, g2, g3, g4⟩ := hr
  obtain ⟨p1, p2, -, -⟩ := g4 i hi
  obtain ⟨hk4, -⟩ := hro.2 i hi
  obtain ⟨-, -, q3, -⟩ := nIk hk4
  refine bk_Op_giveKick_0 _ _ _ (nn_of g2 ⟨by rw [g3]; exact inb_nI hi (by omega), nn_of (by rw [ix_nI (by omega)]; omega) ⟨fun c3 => ?_, fun c3 => ?_⟩⟩)
  · rw [ix_nI (by omega), p2, q3] at c3
    obtain ⟨e28, -⟩ := (hck.2.2 i hi).1 c3
    have hlt := ahd_lt c3 hi
    rw [ix_nI (by omega), e28, ix_nI (by omega), hA, hAr _ (by omega), hc1]
    refine ⟨by rw [hln.at 28 80 (by decide)]; exact inb_nI (by omega) (by omega), inb_nI (by omega) (by omega), ?_⟩
    rw [show B + 1 + ahd r 3 i = (B + ahd r 3 i) + 1 by omega]
    have hf : isF σ (B + ahd r 3 i + 1) (K (ahd r 3 i)) := by
      have := hkf _ hlt
      rw [show B + 1 + ahd r 3 i = (B + ahd r 3 i) + 1 by omega] at this
      exact this
    refine sp_plus (t := z + 1) hm.2 hmo.2 hf (hko _ hlt) (fun τ p => h τ ?_)
    obtain ⟨a, y, hy, oy, rr⟩ := p.q (fun f hf => fadd_ok hmo.2 (hko _ hlt) hf)
    refine ⟨a.mono (by simp), (m.1, y), ⟨a.F (by simp) hm.1, hy⟩, ⟨hmo.1, oy⟩, ?_⟩
    unfold kgive
    rw [if_pos c3]
    exact stk.map rr (fun y => (m.1, y))
  · rw [ix_nI (by omega), p2, q3] at c3
    refine h σ ⟨ar.rf _ _, m, hm, hmo, Or.inl ⟨?_, rfl⟩⟩
    unfold kgive
    rw [if_neg c3]
/-- all that stays as the ways are reckoned -/
def wyI (σ : St) (A B : Nat) (r : Rg) (K : Kk) : Prop := LN σ ∧ LA σ ∧ gN σ (A + 1) = 12 ∧ (∀ k, k < 12 → gR σ (A + 1) k = B + 1 + k) ∧ RC σ r ∧ CK σ r ∧ kF σ (B + 1) r K
def wyS : List Nat := [31, 33, 34, 36, 37, 39, 40, 42, 43, 45, 46]
theorem wyI.of {σ τ : St} {A B : Nat} {r : Rg} {K : Kk} {S : List Nat} (h : wyI σ A B r K) (a : ar S σ τ) (hS : ∀ j ∈ S, j ∈ wyS) (hB : B = 13 ∨ B = 51) (h12 : ahd r 3 r.1 ≤ 12) : wyI τ A B r K := by
  obtain ⟨h1, h2, h3, h4, h5, h6, h7⟩ := h
  have a' : ar wyS σ τ := a.mono hS
  refine ⟨h1.of a'.2.2.1, h2.of a'.2.2.2.1, by rw [a'.2.2.1]; exact h3, fun k hk => by rw [a'.2.2.2.1]; exact h4 k hk, a'.RC (by decide) h5, a'.CK h6, a'.kF ?_ h12 h7⟩
  intro j hj
  have : j ∈ [31, 33, 34, 36, 37, 39, 40, 42, 43, 45, 46] := hj
  simp at this
  omega
def wyEnd (d : Nat) (Q : Option AV → St → Prop) (A : Nat) (x3 : Int32) (τ : St) : Prop := Cl lay1 (d + 5) M_Fr_put [aO 0 45, aJ (2 : Int64), aJ (1 : Int64)] τ (rV fun σ1 => Cl lay1 (d + 5) M_Rk_minus [aO 7 30, aO 0 45, aO 0 33] σ1 (rV fun σ2 => Cl lay1 (d + 5) M_Rk_minus [aO 7 30, aO 0 45, aO 0 37] σ2 (rV fun σ3 => ((gI σ3 30 0) = 0 → Cl lay1 (d + 5) M_Fr_isZero [aO 0 45] σ3 (rI fun r5 σ4 => (r5 = 0 → Cl lay1 (d + 5) M_Op_solveClosed [aO 4 29] σ4 (rV fun σ6 => Wp lay1 rtOf (Cl lay1 (d + 5)) k_Op_closeWay 1 Q (178, [aO 4 29, aO 8 11, aO 21 (A + 1), aI x3, aI (0 : Int32)], [], σ6))) ∧ (¬ r5 = 0 → Q (some (aI (-2 : Int32))) σ4))) ∧ (¬ (gI σ3 30 0) = 0 → Q (some (aI (-5 : Int32))) σ3))))
theorem wy_loop1 {A B : Nat} {r : Rg} {K : Kk} {x3 : Int32} (hro : rgOK r) (hrk : rkOK r) (hko : kOK r K) (hB : B = 13 ∨ B = 51) : ∀ (n k : Nat) (σ : St) (Q : Option AV → St → Prop), k + n = r.1 → wyI σ A B r K → ∀ t m, ctab σ t → tOK t → isM σ 39 m → mOK m → stk 0 (gI σ 30 0) (wgo r K k) (t, m) → (∀ τ t m, ar wyS σ τ → ctab τ t → tOK t → isM τ 39 m → mOK m → stk 0 (gI τ 30 0) (wgo r K r.1) (t, m) → wyEnd d Q A x3 τ) → Wp lay1 rtOf (Cl lay1 (d + 5)) k_Op_closeWay 1 Q (16, [aO 4 29, aO 8 11, aO 21 (A + 1), aI x3, aI (nI k)], [], σ) := by
  have h80 := hro.1
  intro n
  induction n with
  | zero =>
    intro k σ Q hk hI t m ht hto hm hmo hs h
    have e11 := hI.2.2.2.2.1.1
    have hh := h σ t m (ar.rf _ _) ht hto hm hmo (by rw [show r.1 = k by omega]; exact hs)
    refine bk_Op_closeWay_16 _ _ _ ⟨fun _ => hh, fun c => absurd ?_ c⟩
    rw [e11]
    exact (nI_leI (by omega) (by omega)).mpr (by omega)
  | succ n ih =>
    intro k σ Q hk hI t m ht hto hm hmo hs h
    have e11 := hI.2.2.2.2.1.1
    have hlt : k < r.1 := by omega
    by_cases hb : gI σ 30 0 = 0
    · refine bk_Op_closeWay_16 _ _ _ ⟨fun c => absurd c ?_, fun _ => ⟨fun _ => ?_, fun c => absurd hb c⟩⟩
      · rw [e11, nI_leI (by omega) (by omega)]; omega
      obtain ⟨hs, -⟩ := hs.zero hb
      obtain ⟨hk4, hfo⟩ := hro.2 k hlt
      obtain ⟨g1, g2, g3, g4⟩ := hI.2.2.2.2.1
      obtain ⟨p1, p2, p3, p4⟩ := g4 k hlt
      refine nn_of g2 ⟨by rw [g3]; exact inb_nI hlt (by omega), ?_⟩
      rw [ix_nI (by omega)]
      refine sp_lead (c := 31) (z := 32) rfl rfl (by omega) (by omega) p1 p2 hk4 p3 p4 hfo ht.1 hto.1 (fun τ1 q1 => ?_)
      obtain ⟨a1, m1, hm1, om1, r1⟩ := q1
      have hI1 := hI.of a1 (by decide) hB hrk.1
      obtain ⟨g1', g2', g3', g4'⟩ := hI1.2.2.2.2.1
      obtain ⟨p1', p2', p3', p4'⟩ := g4' k hlt
      refine nn_of g2' ⟨by rw [g3']; exact inb_nI hlt (by omega), ?_⟩
      have ht2 : isM τ1 36 t.2 := ⟨a1.F (by decide) ht.2.1, a1.F (by decide) ht.2.2⟩
      refine sp_lead (c := 34) (z := 35) rfl rfl (by omega) (by omega) p1' p2' hk4 p3' p4' hfo ht2 hto.2 (fun τ2 q2 => ?_)
      obtain ⟨a2, m2, hm2, om2, r2⟩ := q2
      have hI2 := hI1.of a2 (by decide) hB hrk.1
      obtain ⟨g1'', g2'', g3'', g4''⟩ := hI2.2.2.2.2.1
      obtain ⟨p1'', p2'', p3'', p4''⟩ := g4'' k hlt
      refine nn_of g2'' ⟨by rw [g3'']; exact inb_nI hlt (by omega), ?_⟩
      have hm3 : isM τ2 39 m := ⟨a2.F (by decide) (a1.F (by decide) hm.1), a2.F (by decide) (a1.F (by decide) hm.2)⟩
      refine sp_lead (c := 37) (z := 38) rfl rfl (by omega) (by omega) p1'' p2'' hk4 p3'' p4'' hfo hm3 hmo (fun τ3 q3 => ?_)
      obtain ⟨a3, m3, hm3, om3, r3⟩ := q3
      have hI3 := hI2.of a3 (by decide) hB hrk.1
      refine sp_giveKick (d := d + 1) (c := 37) (z := 38) (A := A) (B := B) rfl hI3.1 hI3.2.2.1 hI3.2.2.2.1 hI3.2.2.2.2.1 hro hI3.2.2.2.2.2.1 hrk hko hI3.2.2.2.2.2.2 hlt hm3 om3 (fun τ4 q4 => ?_)
      obtain ⟨a4, m4, hm4, om4, r4⟩ := q4
      have hI4 := hI3.of a4 (by decide) hB hrk.1
      show Wp lay1 rtOf (Cl lay1 (d + 5)) k_Op_closeWay 1 Q (16, [aO 4 29, aO 8 11, aO 21 (A + 1), aI x3, aI (nI k + 1)], [], τ4)
      rw [nI_1]
      have a14 : ar wyS σ τ4 := (((a1.mono (by decide)).trans (a2.mono (by decide))).trans (a3.mono (by decide))).trans (a4.mono (by decide))
      have hct : ctab τ4 (m1, m2) := ⟨⟨a4.F (by decide) (a3.F (by decide) (a2.F (by decide) hm1.1)), a4.F (by decide) (a3.F (by decide) (a2.F (by decide) hm1.2))⟩, ⟨a4.F (by decide) (a3.F (by decide) hm2.1), a4.F (by decide) (a3.F (by decide) hm2.2)⟩⟩
      have hgo : stk 0 (gI τ4 30 0) (wgo r K (k + 1)) ((m1, m2), m4) := by
        show stk 0 _ ((wgo r K k).bind _) _
        rw [hs]
        show stk 0 _ ((tstep _ _ t).bind _) _
        have r1 : stk 0 (gI τ1 30 0) (mstep (r.2.1 k) (r.2.2 k) t.1) m1 := by rw [← hb]; exact r1
        have r2 : stk (gI τ1 30 0) (gI τ2 30 0) (mstep (r.2.1 k) (r.2.2 k) t.2) m2 := r2
        have r3 : stk (gI τ2 30 0) (gI τ3 30 0) (mstep (r.2.1 k) (r.2.2 k) m) m3 := r3
        have r4 : stk (gI τ3 30 0) (gI τ4 30 0) (kgive r K k m3) m4 := r4
        have r12 : stk 0 (gI τ2 30 0) (tstep (r.2.1 k) (r.2.2 k) t) (m1, m2) := r1.bind (r2.map (fun m2 => (m1, m2)))
        have r34 : stk (gI τ2 30 0) (gI τ4 30 0) (kstep r K k m) m4 := r3.bind r4
        exact r12.bind (r34.map (fun m => ((m1, m2), m)))
      refine ih (k + 1) τ4 Q (by omega) hI4 (m1, m2) m4 hct ⟨om1, om2⟩ hm4 om4 hgo (fun υ t' m' b1 b2 b3 b4 b5 b6 => h υ t' m' (a14.trans b1) b2 b3 b4 b5 b6)
    · have q1 : gI σ 30 0 = 1 := by
        rcases hs with ⟨-, q⟩ | ⟨-, q⟩
        · exact absurd q hb
        · exact q
      have hh := h σ t m (ar.rf _ _) ht hto hm hmo (Or.inr ⟨wgo_none (hs.one hb) _ (by omega), q1⟩)
      exact bk_Op_closeWay_16 _ _ _ ⟨fun _ => hh, fun _ => ⟨fun c => absurd c hb, fun _ => hh⟩⟩
end KICK
