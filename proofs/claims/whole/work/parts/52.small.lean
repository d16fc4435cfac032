/-! ===== LAYER 3, G: part(), kick(), number(), count(), place() ===== -/
def ptF (r : Rg) (K : Kk) (i : Nat) : Int × Nat := if r.2.1 i = 3 then K (ahd r 3 i) else r.2.2 i
def spPart (r : Rg) (K : Kk) (i w : Int32) : Int32 := if (0 ≤ i.toInt ∧ i.toInt < r.1) ∧ 0 ≤ w.toInt ∧ w.toInt ≤ 2 then (if w = 0 then nI (r.2.1 i.toInt.toNat) else if w = 1 then I32 (ptF r K i.toInt.toNat).1 else I32 (ptF r K i.toInt.toNat).2) else -1
def lowF (a : Int) (b : Nat) : Int × Nat := (a.tdiv (Nat.gcd a.natAbs b : Nat), b / Nat.gcd a.natAbs b)
def spKick (r : Rg) (K : Kk) (k a b : Int32) : Int32 × Kk := if (0 ≤ k.toInt ∧ k.toInt < ahd r 3 r.1) ∧ (-10000 ≤ a.toInt ∧ a.toInt ≤ 10000) ∧ 1 ≤ b.toInt ∧ b.toInt ≤ 10000 then (0, fun j => if j = k.toInt.toNat then lowF a.toInt b.toInt.toNat else K j) else (-1, K)
def spNumber (l : List (Int × Nat)) (i w : Int32) : Int32 := if 0 ≤ i.toInt ∧ 0 ≤ w.toInt ∧ w.toInt ≤ 1 then (match l[i.toInt.toNat]? with
  | some f => if w = 0 then I32 f.1 else I32 f.2
  | none => -4) else -1
def spCount (t : Tx) (r : Rg) (l : List (Int × Nat)) (w : Int32) : Int32 := if w = 0 then nI t.1 else if w = 1 then nI r.1 else if w = 2 then nI (ahd r 3 r.1) else if w = 3 then nI (ahd r 4 r.1) else if w = 4 then nI l.length else -1
theorem lowF_ok {a : Int} {b : Nat} (ha : a.natAbs ≤ 1000000000) (hb0 : 0 < b) (hb : b ≤ 1000000000) : fOK (lowF a b) := by
  obtain ⟨g1, g2, g3⟩ := gcd_facts (a := a) hb0
  refine ⟨?_, Nat.div_pos (Nat.le_of_dvd hb0 (Nat.gcd_dvd_right _ _)) g1, ?_⟩
  · show (a.tdiv (Nat.gcd a.natAbs b : Nat)).natAbs ≤ _
    omega
  · have : b / Nat.gcd a.natAbs b ≤ b := Nat.div_le_self _ _
    show b / Nat.gcd a.natAbs b ≤ _
    omega
theorem spKick_ok {r : Rg} {K : Kk} {k a b : Int32} (h : kOK r K) : kOK r (spKick r K k a b).2 := by
  unfold spKick
  split
  · next hc =>
    intro j hj
    show fOK (if j = k.toInt.toNat then _ else _)
    split
    · exact lowF_ok (by omega) (by omega) (by omega)
    · exact h j hj
  · exact h
/-- what the reference's kick changes -/
def rk (σ τ : St) : Prop := sN τ = sN σ ∧ sS τ = sS σ ∧ gN τ = gN σ ∧ gR τ = gR σ ∧ gI τ = gI σ ∧ ∀ j k, j ≠ 88 → j ≠ 89 → gL τ j k = gL σ j k
theorem rk.rf (σ : St) : rk σ σ := ⟨rfl, rfl, rfl, rfl, rfl, fun _ _ _ _ => rfl⟩
section SMALL
variable {d : Nat} {σ : St} {Q : Option AV → St → Prop}
theorem w3 {w : Int32} (h0 : 0 ≤ w.toInt) (h2 : w.toInt ≤ 2) : w = 0 ∨ w = 1 ∨ w = 2 := by
  have e := nI_self (x := w) h0
  rcases (show w.toInt.toNat = 0 ∨ w.toInt.toNat = 1 ∨ w.toInt.toNat = 2 by omega) with q | q | q <;> rw [q] at e
  · exact Or.inl e
  · exact Or.inr (Or.inl e)
  · exact Or.inr (Or.inr e)
theorem sp_C_part {r : Rg} {K : Kk} {i w : Int32} (hln : LN σ) (hla : LA σ) (hr : RC σ r) (hro : rgOK r) (hck : CK σ r) (hrk : rkOK r) (hkf : kF σ 14 r K) (h : Q (some (aI (spPart r K i w))) σ) : Cl lay1 (d + 2) M_C_part [aO 11 3, aI i, aI w] σ Q := by
  have h80 := hro.1
  have h12 := hrk.1
  have bad : ¬ ((0 ≤ i.toInt ∧ i.toInt < r.1) ∧ 0 ≤ w.toInt ∧ w.toInt ≤ 2) → Q (some (aI (-1))) σ := fun c => by
    rw [show spPart r K i w = -1 from if_neg c] at h
    exact h
  refine bk_C_part_0 _ _ ?_
  refine sp_hasPart hr.1 h80 (fun c => ⟨fun z => absurd z (by decide), fun _ => ?_⟩) (fun c => ⟨fun _ => bad (fun z => c z.1), fun z => absurd rfl z⟩)
  simp only [z_lt, Int32.le_iff_toInt_le, show (2 : Int32).toInt = 2 by decide]
  refine ⟨fun z => bad (by omega), fun c1 => ⟨fun c2 => ?_, fun z => bad (by omega)⟩⟩
  have es : spPart r K i w = _ := if_pos ⟨c, by omega, c2⟩
  rw [es] at h
  have ei := nI_self (x := i) (by omega)
  rw [ei]
  have hI : i.toInt.toNat < r.1 := by omega
  generalize i.toInt.toNat = I at h hI
  obtain ⟨g1, g2, g3, g4⟩ := hr
  obtain ⟨p1, p2, p3, p4⟩ := g4 I hI
  obtain ⟨hk4, hfo⟩ := hro.2 I hI
  obtain ⟨-, -, q3, -⟩ := nIk hk4
  have b11 : inb (nI I) (gN σ (gR σ 11 0)) := by rw [g3]; exact inb_nI hI (by omega)
  refine ⟨fun z => ?_, fun z => ?_⟩
  · rw [show _ = nI (r.2.1 I) from if_pos z] at h
    refine nn_of g2 ⟨b11, nn_of (by rw [ix_nI (by omega)]; omega) ?_⟩
    rw [ix_nI (by omega), p2]
    exact h
  · have fin : ∀ g f, isF σ (g + 1) f → ptF r K I = f → Cl lay1 (d + 1) M_Fr_side [aO 0 (g + 1), aI (w - 1)] σ (rI fun r6 σ5 => Q (some (aI r6)) σ5) := by
      intro g f hf e
      rw [show _ = if w = 1 then I32 (ptF r K I).1 else I32 (ptF r K I).2 from if_neg z, e] at h
      refine bk_Fr_side_0 _ _ ⟨fun y => ?_, fun y => ?_⟩
      · rw [hf.1, L64_I32]
        rcases w3 (by omega) c2 with q | q | q
        · exact absurd q z
        · rw [if_pos q] at h; exact h
        · rw [q] at y; exact absurd y (by decide)
      · rw [hf.2, L64_I32]
        rcases w3 (by omega) c2 with q | q | q
        · exact absurd q z
        · rw [q] at y; exact absurd (by decide) y
        · rw [if_neg (by rw [q]; decide)] at h; exact h
    refine bk_Ri_strengthAt_0 _ (nn_of g2 ⟨b11, nn_of (by rw [ix_nI (by omega)]; omega) ⟨fun c3 => ?_, fun c3 => nn_of g2 ⟨b11, nn_of (by rw [ix_nI (by omega)]; omega) ?_⟩⟩⟩)
    · rw [ix_nI (by omega), p2, q3] at c3
      obtain ⟨e28, -⟩ := (hck.2.2 I hI).1 c3
      have hlt := ahd_lt c3 hI
      rw [ix_nI (by omega), e28, ix_nI (by omega), hla.2.2 _ (by omega)]
      refine ⟨by rw [hln.at 28 80 (by decide)]; exact inb_nI (by omega) (by omega), by rw [hln.at 13 12 (by decide)]; exact inb_nI (by omega) (by omega), rfl, nn_of (by omega) ?_⟩
      have hf := hkf _ hlt
      rw [show 14 + ahd r 3 I = (13 + ahd r 3 I) + 1 by omega] at hf ⊢
      exact fin _ _ hf (if_pos c3)
    · rw [ix_nI (by omega), p2, q3] at c3
      rw [ix_nI (by omega), ldR_hi σ 1 p1]
      refine ⟨rfl, nn_of (by omega) ?_⟩
      obtain ⟨g, hge⟩ : ∃ q, gR σ (gR σ (gR σ 11 0) I) 1 = q + 1 := ⟨gR σ (gR σ (gR σ 11 0) I) 1 - 1, by omega⟩
      rw [hge] at p4 ⊢
      exact fin _ _ p4 (if_neg c3)
theorem sp_R_part {r : Rg} {K : Kk} {i w : Int32} (hln : LN σ) (hr : RR σ r) (hro : rgOK r) (hrk : rkOK r) (hkf : rkF σ r K) (h : Q (some (aI (spPart r K i w))) σ) : Cl lay1 (d + 3) M_R_part [aO 12 71, aI i, aI w] σ Q := by
  have h80 := hro.1
  have h12 := hrk.1
  have x1 := Int32.toInt_lt w
  have x2 := Int32.le_toInt w
  have bad : ¬ ((0 ≤ i.toInt ∧ i.toInt < r.1) ∧ 0 ≤ w.toInt ∧ w.toInt ≤ 2) → Q (some (aI (-1))) σ := fun c => by
    rw [show spPart r K i w = -1 from if_neg c] at h
    exact h
  refine bk_R_part_0 _ _ ?_
  refine sp_isPart hr.1 h80 (fun c => ⟨fun z => absurd z (by decide), fun _ => ?_⟩) (fun c => ⟨fun _ => bad (fun z => c z.1), fun z => absurd rfl z⟩)
  rw [i64_self, L64_0, show (2 : Int64) = L64 2 by decide]
  refine sp_in (by omega) (by omega) (by omega) (by omega) (by omega) (by omega) (fun c2 => ⟨fun z => absurd z (by decide), fun _ => ?_⟩) (fun c2 => ⟨fun _ => bad (fun z => c2 z.2), fun z => absurd rfl z⟩)
  have es : spPart r K i w = _ := if_pos ⟨c, c2⟩
  rw [es] at h
  have ei := nI_self (x := i) (by omega)
  rw [ei]
  have hI : i.toInt.toNat < r.1 := by omega
  generalize i.toInt.toNat = I at h hI
  obtain ⟨k1, k2, k3⟩ := hr.2 I hI
  obtain ⟨hk4, hfo⟩ := hro.2 I hI
  obtain ⟨-, -, q3, -⟩ := nIk hk4
  have bI : ∀ j, (j, 80) ∈ lnL → inb (nI I) (gN σ j) := fun j hj => by rw [hln.at j 80 hj]; exact inb_nI (by omega) (by omega)
  refine ⟨fun z => ⟨bI 85 (by decide), ?_⟩, fun z => ⟨bI 85 (by decide), fun c3 => ?_, fun c3 => ?_⟩⟩
  · rw [show _ = nI (r.2.1 I) from if_pos z] at h
    rw [ix_nI (by omega), k1]
    exact h
  · rw [ix_nI (by omega), k1, q3] at c3
    have hlt := ahd_lt c3 hI
    obtain ⟨v1, v2⟩ := hkf _ hlt
    rw [show _ = if w = 1 then I32 (ptF r K I).1 else I32 (ptF r K I).2 from if_neg z, show ptF r K I = K (ahd r 3 I) from if_pos c3] at h
    refine ⟨fun y => ?_, fun y => ?_⟩
    · refine sp_ahead (c := 3) hln hr hro (by omega) (by omega) ⟨by rw [hln.at 88 12 (by decide)]; exact inb_nI (by omega) (by omega), ?_⟩
      rw [ix_nI (by omega), v1, L64_I32]
      rw [if_pos y] at h
      exact h
    · refine sp_ahead (c := 3) hln hr hro (by omega) (by omega) ⟨by rw [hln.at 89 12 (by decide)]; exact inb_nI (by omega) (by omega), ?_⟩
      rw [ix_nI (by omega), v2, L64_I32]
      rw [if_neg y] at h
      exact h
  · rw [ix_nI (by omega), k1, q3] at c3
    rw [show _ = if w = 1 then I32 (ptF r K I).1 else I32 (ptF r K I).2 from if_neg z, show ptF r K I = r.2.2 I from if_neg c3] at h
    refine ⟨fun y => ⟨bI 86 (by decide), ?_⟩, fun y => ⟨bI 87 (by decide), ?_⟩⟩
    · rw [ix_nI (by omega), k2, L64_I32]
      rw [if_pos y] at h
      exact h
    · rw [ix_nI (by omega), k3, L64_I32]
      rw [if_neg y] at h
      exact h
theorem sp_C_kick {r : Rg} {K : Kk} {k a b : Int32} (hln : LN σ) (hla : LA σ) (hck : CK σ r) (hrk : rkOK r) (hkf : kF σ 14 r K) (h : ∀ τ S, ar S σ τ → (∀ j ∈ S, 14 ≤ j ∧ j < 26) → gI τ = gI σ → kF τ 14 r (spKick r K k a b).2 → Q (some (aI (spKick r K k a b).1)) τ) : Cl lay1 (d + 3) M_C_kick [aO 11 3, aI k, aI a, aI b] σ Q := by
  have h12 := hrk.1
  have bad : ¬ ((0 ≤ k.toInt ∧ k.toInt < ahd r 3 r.1) ∧ (-10000 ≤ a.toInt ∧ a.toInt ≤ 10000) ∧ 1 ≤ b.toInt ∧ b.toInt ≤ 10000) → Q (some (aI (-1))) σ := fun c => by
    have e : spKick r K k a b = (-1, K) := if_neg c
    have := h σ [] (ar.rf _ _) (fun j hj => by simp at hj) rfl (by rw [e]; exact hkf)
    rw [e] at this
    exact this
  refine bk_C_kick_0 _ _ _ ?_
  refine sp_hasKick hck.1 (by omega) (fun c => ⟨fun z => absurd z (by decide), fun _ => ?_⟩) (fun c => ⟨fun _ => bad (fun z => c z.1), fun z => absurd rfl z⟩)
  simp only [Int32.lt_iff_toInt_lt, Int32.le_iff_toInt_le, show (-10000 : Int32).toInt = -10000 by decide, show (10000 : Int32).toInt = 10000 by decide, show (1 : Int32).toInt = 1 by decide]
  refine ⟨fun z => bad (by omega), fun c1 => ⟨fun z => bad (by omega), fun c2 => ⟨fun z => bad (by omega), fun c3 => ⟨fun c4 => ?_, fun z => bad (by omega)⟩⟩⟩⟩
  have e : spKick r K k a b = _ := if_pos ⟨c, by omega, by omega⟩
  rw [e] at h
  have ek := nI_self (x := k) (by omega)
  rw [ek]
  have hK : k.toInt.toNat < ahd r 3 r.1 := by omega
  generalize k.toInt.toNat = k' at h hK
  refine ⟨by rw [hln.at 13 12 (by decide)]; exact inb_nI (by omega) (by omega), nn_of (by rw [ix_nI (by omega), hla.2.2 _ (by omega)]; omega) ?_⟩
  rw [ix_nI (by omega), hla.2.2 _ (by omega), i64_self, i64_self, show (b.toInt : Int) = (b.toInt.toNat : Nat) by omega, show 14 + k' = (13 + k') + 1 by omega]
  refine sp_put (by omega) (by omega) (by omega) ?_
  have a1 := stF_ar σ (13 + k' + 1) (lowF a.toInt b.toInt.toNat)
  have i1 := stF_is σ (13 + k' + 1) (lowF a.toInt b.toInt.toNat)
  refine h _ _ a1 (fun j hj => by have := List.mem_singleton.mp hj; omega) rfl (fun j hj => ?_)
  show isF _ (14 + j) (if j = k' then lowF a.toInt b.toInt.toNat else K j)
  by_cases q : j = k'
  · rw [if_pos q, q, show 14 + k' = 13 + k' + 1 by omega]
    exact i1
  · rw [if_neg q]
    exact a1.F (fun z => by have := List.mem_singleton.mp z; omega) (hkf j hj)
theorem sp_R_kick {r : Rg} {K : Kk} {k a b : Int32} (hln : LN σ) (hrk : rkOK r) (h30 : gI σ 71 30 = nI (ahd r 3 r.1)) (hkf : rkF σ r K) (h : ∀ τ, rk σ τ → rkF τ r (spKick r K k a b).2 → Q (some (aI (spKick r K k a b).1)) τ) : Cl lay1 (d + 3) M_R_kick [aO 12 71, aI k, aI a, aI b] σ Q := by
  have h12 := hrk.1
  have x1 := Int32.toInt_lt a
  have x2 := Int32.le_toInt a
  have x3 := Int32.toInt_lt b
  have x4 := Int32.le_toInt b
  have bad : ¬ ((0 ≤ k.toInt ∧ k.toInt < ahd r 3 r.1) ∧ (-10000 ≤ a.toInt ∧ a.toInt ≤ 10000) ∧ 1 ≤ b.toInt ∧ b.toInt ≤ 10000) → Q (some (aI (-1))) σ := fun c => by
    have e : spKick r K k a b = (-1, K) := if_neg c
    have := h σ (rk.rf _) (by rw [e]; exact hkf)
    rw [e] at this
    exact this
  refine bk_R_kick_0 _ _ _ ?_
  refine sp_inI h30 (by omega) (fun c => ⟨fun z => absurd z (by decide), fun _ => ?_⟩) (fun c => ⟨fun _ => bad (fun z => c z.1), fun z => absurd rfl z⟩)
  rw [i64_self a, i64_self b, show (-10000 : Int64) = L64 (-10000) by decide, show (10000 : Int64) = L64 10000 by decide, L64_1]
  refine sp_in (by omega) (by omega) (by omega) (by omega) (by omega) (by omega) (fun c1 => ⟨fun z => absurd z (by decide), fun _ => ?_⟩) (fun c1 => ⟨fun _ => bad (fun z => c1 z.2.1), fun z => absurd rfl z⟩)
  refine sp_in (by omega) (by omega) (by omega) (by omega) (by omega) (by omega) (fun c2 => ⟨fun z => absurd z (by decide), fun _ => ?_⟩) (fun c2 => ⟨fun _ => bad (fun z => c2 z.2.2), fun z => absurd rfl z⟩)
  have e : spKick r K k a b = _ := if_pos ⟨c, c1, c2⟩
  rw [e] at h
  have ek := nI_self (x := k) (by omega)
  rw [ek]
  have hK : k.toInt.toNat < ahd r 3 r.1 := by omega
  generalize k.toInt.toNat = k' at h hK
  have eb : (b.toInt : Int) = (b.toInt.toNat : Nat) := by omega
  generalize b.toInt.toNat = B at h eb
  rw [eb]
  obtain ⟨g1, g2, g3⟩ := gcd_facts (a := a.toInt) (show 0 < B by omega)
  refine sp_common (by omega) (by omega) (by omega) ?_
  have n0 : ¬ L64 ((Nat.gcd a.toInt.natAbs B : Nat) : Int) = 0 := L64_ne0 (by omega) (by omega) (by omega)
  refine ⟨n0, by rw [hln.at 88 12 (by decide)]; exact inb_nI (by omega) (by omega), n0, ?_, ?_⟩
  · show inb (nI k') (gN σ 89)
    rw [hln.at 89 12 (by decide)]; exact inb_nI (by omega) (by omega)
  rw [ix_nI (by omega), L64_div (by omega) (by omega) (by omega) (by omega), L64_div (by omega) (by omega) (by omega) (by omega), tdivN]
  refine h _ ⟨rfl, rfl, rfl, rfl, rfl, fun j i h8 h9 => by rw [gL_pL, if_neg (by omega), gL_pL, if_neg (by omega)]⟩ (fun j hj => ?_)
  show gL _ 88 j = L64 (if j = k' then lowF a.toInt B else K j).1 ∧ gL _ 89 j = L64 (if j = k' then lowF a.toInt B else K j).2
  by_cases q : j = k'
  · rw [if_pos q]
    refine ⟨?_, ?_⟩
    · rw [gL_pL, if_neg (by omega), gL_pL, if_pos ⟨rfl, q⟩]; rfl
    · rw [gL_pL, if_pos ⟨rfl, q⟩]; rfl
  · rw [if_neg q]
    refine ⟨?_, ?_⟩
    · rw [gL_pL, if_neg (by omega), gL_pL, if_neg (by omega)]; exact (hkf j hj).1
    · rw [gL_pL, if_neg (by omega), gL_pL, if_neg (by omega)]; exact (hkf j hj).2
theorem w2 {w : Int32} (h0 : 0 ≤ w.toInt) (h2 : w.toInt ≤ 1) : w = 0 ∨ w = 1 := by
  rcases w3 h0 (by omega) with q | q | q
  · exact Or.inl q
  · exact Or.inr q
  · rw [q] at h2; exact absurd h2 (by decide)
theorem sp_C_number {l : List (Int × Nat)} {i w : Int32} (hln : LN σ) (hla : LA σ) (hl : toldC σ l) (hl4 : l.length ≤ 4) (h : Q (some (aI (spNumber l i w))) σ) : Cl lay1 (d + 2) M_C_number [aO 11 3, aI i, aI w] σ Q := by
  have bad : ¬ (0 ≤ i.toInt ∧ 0 ≤ w.toInt ∧ w.toInt ≤ 1) → Q (some (aI (-1))) σ := fun c => by
    rw [show spNumber l i w = -1 from if_neg c] at h
    exact h
  refine bk_C_number_0 _ _ ?_
  simp only [z_lt, Int32.le_iff_toInt_le, show (1 : Int32).toInt = 1 by decide]
  refine ⟨fun z => bad (by omega), fun c1 => ⟨fun z => bad (by omega), fun c2 => ⟨fun c3 => ?_, fun z => bad (by omega)⟩⟩⟩
  have es : spNumber l i w = _ := if_pos ⟨by omega, by omega, c3⟩
  rw [es] at h
  have ei := nI_self (x := i) (by omega)
  have hi31 := Int32.toInt_lt i
  rw [ei]
  have hI : i.toInt.toNat < 2147483648 := by omega
  generalize i.toInt.toNat = I at h hI
  refine bk_Op_hasTold_0 _ ⟨fun z => absurd z (nI_pos (by omega)), fun _ => ⟨fun z => ⟨b01, fun _ => ?_, fun y => absurd rfl y⟩, fun z => ⟨b11, fun y => absurd y (by decide), fun _ => ?_⟩⟩⟩
  · rw [hl.1, nI_leI (by omega) (by omega)] at z
    rw [List.getElem?_eq_none z] at h
    exact h
  · rw [hl.1, nI_leI (by omega) (by omega)] at z
    have hlt : I < l.length := by omega
    have eg := List.getElem?_eq_getElem hlt
    have hf := hl.2 I _ eg
    rw [eg] at h
    generalize l[I] = f at h hf
    refine ⟨by rw [hln.at 51 4 (by decide)]; exact inb_nI (by omega) (by omega), nn_of (by rw [ix_nI (by omega), hla.1 I (by omega)]; omega) ?_⟩
    rw [ix_nI (by omega), hla.1 I (by omega)]
    rw [show 64 + I = (63 + I) + 1 by omega] at hf ⊢
    refine bk_Fr_side_0 _ _ ⟨fun y => ?_, fun y => ?_⟩
    · rw [hf.1, L64_I32]
      have h : Q (some (aI (if w = 0 then I32 f.1 else I32 f.2))) σ := h
      rw [if_pos y] at h
      exact h
    · rw [hf.2, L64_I32]
      have h : Q (some (aI (if w = 0 then I32 f.1 else I32 f.2))) σ := h
      rw [if_neg y] at h
      exact h
theorem sp_R_number {l : List (Int × Nat)} {i w : Int32} (hln : LN σ) (hl : toldR σ l) (hl4 : l.length ≤ 4) (h : Q (some (aI (spNumber l i w))) σ) : Cl lay1 (d + 2) M_R_number [aO 12 71, aI i, aI w] σ Q := by
  have x1 := Int32.toInt_lt w
  have x2 := Int32.le_toInt w
  have bad : ¬ (0 ≤ i.toInt ∧ 0 ≤ w.toInt ∧ w.toInt ≤ 1) → Q (some (aI (-1))) σ := fun c => by
    rw [show spNumber l i w = -1 from if_neg c] at h
    exact h
  refine bk_R_number_0 _ _ ?_
  rw [z_lt, i64_self, L64_0, L64_1]
  refine ⟨fun z => bad (by omega), fun c1 => ?_⟩
  refine sp_in (by omega) (by omega) (by omega) (by omega) (by omega) (by omega) (fun c2 => ⟨fun z => absurd z (by decide), fun _ => ?_⟩) (fun c2 => ⟨fun _ => bad (fun z => c2 z.2), fun z => absurd rfl z⟩)
  have es : spNumber l i w = _ := if_pos ⟨by omega, c2⟩
  rw [es] at h
  have ei := nI_self (x := i) (by omega)
  have hi31 := Int32.toInt_lt i
  rw [ei]
  have hI : i.toInt.toNat < 2147483648 := by omega
  generalize i.toInt.toNat = I at h hI
  refine ⟨fun z => ?_, fun z => ?_⟩
  · rw [hl.1, nI_leI (by omega) (by omega)] at z
    rw [List.getElem?_eq_none z] at h
    exact h
  · rw [hl.1, nI_leI (by omega) (by omega)] at z
    have hlt : I < l.length := by omega
    have eg := List.getElem?_eq_getElem hlt
    have hf := hl.2 I _ eg
    rw [eg] at h
    generalize l[I] = f at h hf
    have h : Q (some (aI (if w = 0 then I32 f.1 else I32 f.2))) σ := h
    have b92 : ∀ n, n < 8 → inb (nI n) (gN σ 92) := fun n hn => by rw [hln.at 92 8 (by decide)]; exact inb_nI hn (by omega)
    rcases w2 c2.1 c2.2 with q | q
    · subst q
      rw [if_pos rfl] at h
      rw [show (2 : Int32) * nI I + 0 = nI (2 * I) by rw [show (2 : Int32) = nI 2 from rfl, pk_mul, Int32.add_zero]]
      refine ⟨b92 _ (by omega), ?_⟩
      rw [ix_nI (by omega), hf.1, L64_I32]
      exact h
    · subst q
      rw [if_neg (by decide)] at h
      rw [show (2 : Int32) * nI I + 1 = nI (2 * I + 1) by rw [show (2 : Int32) = nI 2 from rfl, pk_mul, nI_1]]
      refine ⟨b92 _ (by omega), ?_⟩
      rw [ix_nI (by omega), hf.2, L64_I32]
      exact h
theorem sp_C_count {t : Tx} {r : Rg} {l : List (Int × Nat)} {w : Int32} (ht : txC σ t) (hr : RC σ r) (hck : CK σ r) (hl : toldC σ l) (h : Q (some (aI (spCount t r l w))) σ) : Cl lay1 (d + 1) M_C_count [aO 11 3, aI w] σ Q := by
  refine bk_C_count_0 _ ?_
  rw [ht.1, hr.1, hck.1, hck.2.1, hl.1]
  unfold spCount at h
  refine ⟨fun c => ?_, fun c => ⟨fun c1 => ?_, fun c1 => ⟨fun c2 => ?_, fun c2 => ⟨fun c3 => ?_, fun c3 => ⟨fun c4 => ?_, fun c4 => ?_⟩⟩⟩⟩⟩
  · rw [if_pos c] at h; exact h
  · rw [if_neg c, if_pos c1] at h; exact h
  · rw [if_neg c, if_neg c1, if_pos c2] at h; exact h
  · rw [if_neg c, if_neg c1, if_neg c2, if_pos c3] at h; exact h
  · rw [if_neg c, if_neg c1, if_neg c2, if_neg c3, if_pos c4] at h; exact h
  · rw [if_neg c, if_neg c1, if_neg c2, if_neg c3, if_neg c4] at h; exact h
theorem sp_R_count {t : Tx} {r : Rg} {l : List (Int × Nat)} {w : Int32} (ht : txR σ t) (hr : RR σ r) (h30 : gI σ 71 30 = nI (ahd r 3 r.1)) (h31 : gI σ 71 31 = nI (ahd r 4 r.1)) (hl : toldR σ l) (h : Q (some (aI (spCount t r l w))) σ) : Cl lay1 (d + 1) M_R_count [aO 12 71, aI w] σ Q := by
  refine bk_R_count_0 _ ?_
  rw [ht.1, hr.1, h30, h31, hl.1]
  unfold spCount at h
  refine ⟨fun c => ?_, fun c => ⟨fun c1 => ?_, fun c1 => ⟨fun c2 => ?_, fun c2 => ⟨fun c3 => ?_, fun c3 => ⟨fun c4 => ?_, fun c4 => ?_⟩⟩⟩⟩⟩
  · rw [if_pos c] at h; exact h
  · rw [if_neg c, if_pos c1] at h; exact h
  · rw [if_neg c, if_neg c1, if_pos c2] at h; exact h
  · rw [if_neg c, if_neg c1, if_neg c2, if_pos c3] at h; exact h
  · rw [if_neg c, if_neg c1, if_neg c2, if_neg c3, if_pos c4] at h; exact h
  · rw [if_neg c, if_neg c1, if_neg c2, if_neg c3, if_neg c4] at h; exact h
end SMALL
