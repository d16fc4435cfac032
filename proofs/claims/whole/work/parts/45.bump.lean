/-! ===== LAYER 3, D: bump() ===== -/
def fneg (x : Int × Nat) : Int × Nat := (-x.1, x.2)
def bres (r : Rg) (i j k : Nat) : Int32 ⊕ Mt := match tgo r i (k - i) with
  | none => .inl (-5)
  | some t => match tgo r j (k - j) with
    | none => .inl (-5)
    | some s => if s.2.1.1 = 0 then .inl (-2) else match (fdiv (fneg t.2.1) s.2.1).bind fun x => ((fmul x s.2.2).bind (fsub (fneg t.2.2))).map fun y => (x, y) with
      | none => .inl (-5)
      | some c => .inr c
def spBump (r : Rg) (l : List (Int × Nat)) (a b c : Int32) : Int32 × List (Int × Nat) := if 0 ≤ a.toInt ∧ a.toInt < b.toInt ∧ b.toInt < c.toInt ∧ c.toInt < ahd r 3 r.1 then (match bres r (pos r 3 a.toInt.toNat) (pos r 3 b.toInt.toNat) (pos r 3 c.toInt.toNat) with
  | .inr q => (2, [q.1, q.2])
  | .inl v => (v, l)) else (-1, l)
theorem bres_a {r : Rg} {i j k : Nat} (h : tgo r i (k - i) = none) : bres r i j k = .inl (-5) := by
  unfold bres; rw [h]
theorem bres_b {r : Rg} {i j k : Nat} {t : Tb} (h : tgo r i (k - i) = some t) (h2 : tgo r j (k - j) = none) : bres r i j k = .inl (-5) := by
  unfold bres; rw [h, h2]
theorem bres_z {r : Rg} {i j k : Nat} {t s : Tb} (h : tgo r i (k - i) = some t) (h2 : tgo r j (k - j) = some s) (h3 : s.2.1.1 = 0) : bres r i j k = .inl (-2) := by
  unfold bres; rw [h, h2]
  exact if_pos h3
theorem bres_n {r : Rg} {i j k : Nat} {t s : Tb} (h : tgo r i (k - i) = some t) (h2 : tgo r j (k - j) = some s) (h3 : ¬ s.2.1.1 = 0) (h4 : ((fdiv (fneg t.2.1) s.2.1).bind fun x => ((fmul x s.2.2).bind (fsub (fneg t.2.2))).map fun y => (x, y)) = none) : bres r i j k = .inl (-5) := by
  unfold bres; rw [h, h2]
  show (if s.2.1.1 = 0 then _ else _) = _
  rw [if_neg h3, h4]
theorem bres_s {r : Rg} {i j k : Nat} {t s : Tb} {c : Mt} (h : tgo r i (k - i) = some t) (h2 : tgo r j (k - j) = some s) (h3 : ¬ s.2.1.1 = 0) (h4 : ((fdiv (fneg t.2.1) s.2.1).bind fun x => ((fmul x s.2.2).bind (fsub (fneg t.2.2))).map fun y => (x, y)) = some c) : bres r i j k = .inr c := by
  unfold bres; rw [h, h2]
  show (if s.2.1.1 = 0 then _ else _) = _
  rw [if_neg h3, h4]
theorem nI_subN {a b : Nat} (h : b ≤ a) : nI a - nI b = nI (a - b) := by
  have : nI (a - b) + nI b = nI a := by rw [nI_add, Nat.sub_add_cancel h]
  rw [← this, Int32.add_sub_cancel]
theorem pos_lt {r : Rg} {c a b : Nat} (hab : a < b) (hb : b < ahd r c r.1) : pos r c a < pos r c b := by
  obtain ⟨a1, a2, a3⟩ := pos_ok (show a < ahd r c r.1 by omega)
  obtain ⟨b1, b2, b3⟩ := pos_ok hb
  rcases Nat.lt_or_ge (pos r c a) (pos r c b) with h | h
  · exact h
  · have := ahd_mono (r := r) (c := c) h
    omega
section BUMP
variable {d : Nat} {σ : St} {Q : Option AV → St → Prop}
theorem sp_negate {t : Nat} {f : Int × Nat} (hf : isF σ (t + 1) f) (h : ∀ τ, ar [t + 1] σ τ → isF τ (t + 1) (fneg f) → gI τ 30 0 = gI σ 30 0 → Q none τ) : Cl lay1 (d + 1) M_Fr_negate [aO 0 (t + 1)] σ Q := by
  refine bk_Fr_negate_0 _ (h _ ⟨rfl, rfl, rfl, rfl, fun _ _ _ => rfl, fun j hj k => ?_⟩ ⟨?_, ?_⟩ rfl)
  · rw [gL_pL, if_neg (fun z => hj (by rw [z.1]; exact List.mem_singleton.mpr rfl))]
  · rw [gL_pL, if_pos ⟨rfl, rfl⟩, hf.1, L64_neg]
    rfl
  · rw [gL_pL, if_neg (by omega)]
    exact hf.2
abbrev buS : List Nat := [33, 34, 36, 37, 31, 48, 49]
theorem rt_stk {r : Rg} {i n : Nat} {τ : St} {t : Tb} (rr : tgo r i n = some t ∧ gI τ 30 0 = 0 ∨ tgo r i n = none ∧ gI τ 30 0 = 1) : stk 0 (gI τ 30 0) (tgo r i n) t := rr
theorem sp_closeBump {r : Rg} {i j k : Nat} (hr : RC σ r) (hro : rgOK r) (hij : i < j) (hjk : j < k) (hk : k < r.1) (hs : ∀ τ c, ar buS σ τ → bres r i j k = .inr c → isF τ 48 c.1 → isF τ 49 c.2 → Q (some (aI 0)) τ) (hn : ∀ τ v, ar buS σ τ → bres r i j k = .inl v → (v = -5 ∨ v = -2) → Q (some (aI v)) τ) : Cl lay1 (d + 6 + 1) M_Op_closeBump [aO 4 29, aO 8 11, aI (nI i), aI (nI j), aI (nI k)] σ Q := by
  have h80 := hro.1
  refine bk_Op_closeBump_0 _ _ _ ?_
  rw [nI_subN (by omega), nI_subN (by omega)]
  refine sp_reckonTable hr hro (by omega) (by omega) (fun τ1 p => ?_)
  obtain ⟨a1, t, ht, hto, rr⟩ := p
  have rr := rt_stk rr
  refine ⟨fun c => ?_, fun c => hn τ1 _ (a1.mono (by decide)) (bres_a (rr.one c)) (Or.inl rfl)⟩
  obtain ⟨e1, -⟩ := rr.zero c
  refine sp_copy (d := d + 5) (t := 47) (u := 35) ht.2.1 (fun τ2 a2 i2 g2 => ?_)
  refine sp_copy (d := d + 5) (t := 48) (u := 36) (a2.F (by decide) ht.2.2) (fun τ3 a3 i3 g3 => ?_)
  have w3 : ar buS σ τ3 := ((a1.mono (by decide)).trans (a2.mono (by decide))).trans (a3.mono (by decide))
  refine sp_reckonTable (w3.RC (by decide) hr) hro (by omega) (by omega) (fun τ4 p => ?_)
  obtain ⟨a4, s, hs4, hso, rr⟩ := p
  have rr := rt_stk rr
  have w4 : ar buS σ τ4 := w3.trans (a4.mono (by decide))
  refine ⟨fun c => ?_, fun c => hn τ4 _ w4 (bres_b e1 (rr.one c)) (Or.inl rfl)⟩
  obtain ⟨e2, -⟩ := rr.zero c
  refine sp_isZero (d := d + 5) (t := 35) hs4.2.1 hso.2.1 (fun z => ⟨fun y => absurd y (by decide), fun _ => hn τ4 _ w4 (bres_z e1 e2 z) (Or.inr rfl)⟩) (fun z => ⟨fun _ => ?_, fun y => absurd rfl y⟩)
  have f48 : isF τ4 48 t.2.1 := a4.F (by decide) (a3.F (by decide) i2)
  have f49 : isF τ4 49 t.2.2 := a4.F (by decide) i3
  refine sp_negate (d := d + 5) (t := 47) f48 (fun τ5 a5 i5 g5 => ?_)
  refine sp_over (d := d + 3) (t := 47) (u := 35) i5 (fneg_ok hto.2.1) (a5.F (by decide) hs4.2.1) hso.2.1 z (fun τ6 p => ?_)
  obtain ⟨a6, x, hx, xo, s6⟩ := p.q (fun f hf => fdiv_ok (fneg_ok hto.2.1) hso.2.1 z hf)
  refine sp_negate (d := d + 5) (t := 48) (a6.F (by decide) (a5.F (by decide) f49)) (fun τ7 a7 i7 g7 => ?_)
  refine sp_minusProduct (d := d + 2) (t := 48) (u := 47) (w := 36) i7 (fneg_ok hto.2.2) (a7.F (by decide) hx) xo (a7.F (by decide) (a6.F (by decide) (a5.F (by decide) hs4.2.2))) hso.2.2 (by omega) (by omega) (fun τ8 p => ?_)
  obtain ⟨a8, y, hy, yo, s8⟩ := p.q (fun f hf => lens_ok xo (fneg_ok hto.2.2) hso.2.2 hf)
  have w8 : ar buS σ τ8 := (((w4.trans (a5.mono (by decide))).trans (a6.mono (by decide))).trans (a7.mono (by decide))).trans (a8.mono (by decide))
  have sc : stk 0 (gI τ8 30 0) ((fdiv (fneg t.2.1) s.2.1).bind fun x => ((fmul x s.2.2).bind (fsub (fneg t.2.2))).map fun y => (x, y)) (x, y) := by
    rw [g5, c] at s6
    rw [g7] at s8
    exact stk.bind s6 (stk.map s8 (fun y => (x, y)))
  refine ⟨fun c8 => ?_, fun c8 => hn τ8 _ w8 (bres_n e1 e2 z (sc.one c8)) (Or.inl rfl)⟩
  exact hs τ8 (x, y) w8 (bres_s e1 e2 z (sc.zero c8).1) (a8.F (by decide) (a7.F (by decide) hx)) hy
theorem sp_tellBump {c : Mt} (hln : LN σ) (hla : LA σ) (h1 : isF σ 48 c.1) (h2 : isF σ 49 c.2) (h : ∀ τ, cT σ τ → toldC τ [c.1, c.2] → Q (some (aI 2)) τ) : Cl lay1 (d + 3) M_Op_tellBump [aO 4 29] σ Q := by
  refine bk_Op_tellBump_0 ?_
  refine sp_tell (l := []) (u := 47) (f := c.1) hln hla (toldC_0 σ) (by decide) h1 (fun τ1 a1 t1 => ?_)
  refine sp_tell (l := [c.1]) (u := 48) (f := c.2) (hln.of a1.2.2.1) (hla.of a1.2.2.2.1) t1 (by simp) (a1.F (by omega) h2) (fun τ2 a2 t2 => ?_)
  have e : gI τ2 29 13 = 2 := t2.1
  have := h τ2 (((cT_0 σ).trans a1).trans a2) t2
  show Q (some (aI (gI τ2 29 13))) τ2
  rw [e]
  exact this
theorem sp_C_bump {r : Rg} {l : List (Int × Nat)} {a b c : Int32} (hln : LN σ) (hla : LA σ) (hr : RC σ r) (hro : rgOK r) (hck : CK σ r) (hrk : rkOK r) (hl : toldC σ l) (h : ∀ τ, cn σ τ → toldC τ (spBump r l a b c).2 → Q (some (aI (spBump r l a b c).1)) τ) : Cl lay1 (d + 8) M_C_bump [aO 11 3, aI a, aI b, aI c] σ Q := by
  have h80 := hro.1
  obtain ⟨hk12, hl12⟩ := hrk
  have bad : ¬ (0 ≤ a.toInt ∧ a.toInt < b.toInt ∧ b.toInt < c.toInt ∧ c.toInt < ahd r 3 r.1) → Q (some (aI (-1))) σ := by
    intro q
    have e : spBump r l a b c = (-1, l) := by unfold spBump; rw [if_neg q]
    have := h σ (cn.rf σ) (by rw [e]; exact hl)
    rw [e] at this
    exact this
  refine bk_C_bump_0 _ _ _ ?_
  refine sp_hasKick hck.1 (by omega) (fun c1 => ⟨fun z => absurd z (by decide), fun _ => ?_⟩) (fun c1 => ⟨fun _ => bad (by omega), fun z => absurd rfl z⟩)
  refine sp_hasKick hck.1 (by omega) (fun c2 => ⟨fun z => absurd z (by decide), fun _ => ?_⟩) (fun c2 => ⟨fun _ => bad (by omega), fun z => absurd rfl z⟩)
  refine ⟨fun z => bad ?_, fun z1 => ⟨fun z2 => ?_, fun z2 => bad ?_⟩⟩
  · rw [Int32.le_iff_toInt_le] at z; omega
  · rw [Int32.le_iff_toInt_le] at z1
    rw [Int32.lt_iff_toInt_lt] at z2
    have ok : 0 ≤ a.toInt ∧ a.toInt < b.toInt ∧ b.toInt < c.toInt ∧ c.toInt < ahd r 3 r.1 := by omega
    have es : spBump r l a b c = (match bres r (pos r 3 a.toInt.toNat) (pos r 3 b.toInt.toNat) (pos r 3 c.toInt.toNat) with
      | .inr q => (2, [q.1, q.2])
      | .inl v => (v, l)) := if_pos ok
    have ea := nI_self (x := a) (by omega)
    have eb := nI_self (x := b) (by omega)
    have ec := nI_self (x := c) (by omega)
    rw [ea, eb, ec]
    generalize hA : a.toInt.toNat = A at es ⊢
    generalize hB : b.toInt.toNat = B at es ⊢
    generalize hC : c.toInt.toNat = C at es ⊢
    have hC3 : C < ahd r 3 r.1 := by omega
    obtain ⟨p1, p2, p3⟩ := pos_ok (show A < ahd r 3 r.1 by omega)
    obtain ⟨q1, q2, q3⟩ := pos_ok (show B < ahd r 3 r.1 by omega)
    obtain ⟨s1, s2, s3⟩ := pos_ok hC3
    have eA := ((hck.2.2 _ p1).1 p2).2
    have eB := ((hck.2.2 _ q1).1 q2).2
    have eC := ((hck.2.2 _ s1).1 s2).2
    rw [p3] at eA
    rw [q3] at eB
    rw [s3] at eC
    have b26 : ∀ n, n < 12 → inb (nI n) (gN σ 26) := fun n hn => by rw [hln.at 26 12 (by decide)]; exact inb_nI hn (by omega)
    refine ⟨b26 A (by omega), b26 B (by omega), b26 C (by omega), ?_⟩
    rw [ix_nI (by omega), ix_nI (by omega), ix_nI (by omega), eA, eB, eC]
    refine sp_closeBump hr hro (pos_lt (by omega) (by omega)) (pos_lt (by omega) (by omega)) s1 (fun τ q a e h1 h2 => ?_) (fun τ v a e hv => ?_)
    · rw [e] at es
      refine ⟨fun _ => ?_, fun z => absurd rfl z⟩
      refine sp_tellBump (hln.of a.2.2.1) (hla.of a.2.2.2.1) h1 h2 (fun υ b1 b2 => ?_)
      have := h υ ((a.cn (by decide)).trans b1.cn) (by rw [es]; exact b2)
      rw [es] at this
      exact this
    · rw [e] at es
      have := h τ (a.cn (by decide)) (by rw [es]; exact a.told (by decide) hl)
      rw [es] at this
      exact ⟨fun z => (by rcases hv with hv | hv <;> rw [hv] at z <;> exact absurd z (by decide)), fun _ => this⟩
  · rw [Int32.lt_iff_toInt_lt] at z2; omega
/-- the bound of a range, one more than a small number -/
theorem sp_inJ {n : Nat} {x w y : Int32} (hy' : y = nI n) (hn' : n ≤ 80) (hw : 0 ≤ w.toInt ∧ w.toInt < 80) (hy : w.toInt < x.toInt ∧ x.toInt < n → Q (some (aI 1)) σ) (hn : ¬ (w.toInt < x.toInt ∧ x.toInt < n) → Q (some (aI 0)) σ) : Cl lay1 (d + 1) M_R_in [aJ x.toInt64, aJ (w + (1 : Int32)).toInt64, aJ (y - (1 : Int32)).toInt64] σ Q := by
  have e : (y - 1).toInt64 = L64 ((n : Int) - 1) := by
    rw [hy', i64_self, Int32.toInt_sub, nI_toInt (by omega), show (1 : Int32).toInt = 1 by decide]
    congr 1
    exact Int.bmod_eq_of_le (by omega) (by omega)
  have e2 : (w + 1).toInt64 = L64 (w.toInt + 1) := by
    rw [i64_self, Int32.toInt_add, show (1 : Int32).toInt = 1 by decide]
    congr 1
    exact Int.bmod_eq_of_le (by omega) (by omega)
  have h1 := Int32.toInt_lt x
  have h2 := Int32.le_toInt x
  rw [e, e2, i64_self]
  exact sp_in (by omega) (by omega) (by omega) (by omega) (by omega) (by omega) (fun c => hy (by omega)) (fun c => hn (by omega))
theorem go_stk {r : Rg} {i n : Nat} {τ : St} {t : Tb} (rr : tgo r i n = some t ∧ gI τ 71 39 = 0 ∨ tgo r i n = none ∧ gI τ 71 39 = 1) : stk 0 (gI τ 71 39) (tgo r i n) t := rr
theorem sp_R_bump {r : Rg} {l : List (Int × Nat)} {a b c : Int32} (hln : LN σ) (hr : RR σ r) (hro : rgOK r) (hrk : rkOK r) (h30 : gI σ 71 30 = nI (ahd r 3 r.1)) (hl : toldR σ l) (h : ∀ τ, rn σ τ → toldR τ (spBump r l a b c).2 → Q (some (aI (spBump r l a b c).1)) τ) : Cl lay1 (d + 7) M_R_bump [aO 12 71, aI a, aI b, aI c] σ Q := by
  have h80 := hro.1
  obtain ⟨hk12, hl12⟩ := hrk
  have bad : ¬ (0 ≤ a.toInt ∧ a.toInt < b.toInt ∧ b.toInt < c.toInt ∧ c.toInt < ahd r 3 r.1) → Q (some (aI (-1))) σ := by
    intro q
    have e : spBump r l a b c = (-1, l) := by unfold spBump; rw [if_neg q]
    have := h σ (rn.rf σ) (by rw [e]; exact hl)
    rw [e] at this
    exact this
  refine bk_R_bump_0 _ _ _ ?_
  refine sp_inI (d := d + 5) h30 (by omega) (fun c1 => ⟨fun z => absurd z (by decide), fun _ => ?_⟩) (fun c1 => ⟨fun _ => bad (by omega), fun z => absurd rfl z⟩)
  refine sp_inJ (d := d + 5) h30 (by omega) (by omega) (fun c2 => ⟨fun z => absurd z (by decide), fun _ => ?_⟩) (fun c2 => ⟨fun _ => bad (by omega), fun z => absurd rfl z⟩)
  refine bk_R_bump_35 _ _ _ _ _ _ _ _ _ _ _ _ _ _ _ _ ?_
  refine sp_inJ (d := d + 5) h30 (by omega) (by omega) (fun c3 => ⟨fun z => absurd z (by decide), fun _ => ?_⟩) (fun c3 => ⟨fun _ => bad (by omega), fun z => absurd rfl z⟩)
  have ok : 0 ≤ a.toInt ∧ a.toInt < b.toInt ∧ b.toInt < c.toInt ∧ c.toInt < ahd r 3 r.1 := by omega
  have es : spBump r l a b c = (match bres r (pos r 3 a.toInt.toNat) (pos r 3 b.toInt.toNat) (pos r 3 c.toInt.toNat) with
    | .inr q => (2, [q.1, q.2])
    | .inl v => (v, l)) := if_pos ok
  have ea := nI_self (x := a) (by omega)
  have eb := nI_self (x := b) (by omega)
  have ec := nI_self (x := c) (by omega)
  rw [ea, eb, ec]
  generalize hA : a.toInt.toNat = A at es ⊢
  generalize hB : b.toInt.toNat = B at es ⊢
  generalize hC : c.toInt.toNat = C at es ⊢
  have hA3 : A < ahd r 3 r.1 := by omega
  have hB3 : B < ahd r 3 r.1 := by omega
  have hC3 : C < ahd r 3 r.1 := by omega
  have lAB : pos r 3 A < pos r 3 B := pos_lt (by omega) hB3
  have lBC : pos r 3 B < pos r 3 C := pos_lt (by omega) hC3
  obtain ⟨pC, -, -⟩ := pos_ok hC3
  refine sp_partOf (d := d + 5) (c := 3) hln hr hro (by omega) hC3 ?_
  refine bk_R_bump_64 _ _ _ _ _ _ _ _ _ _ _ _ _ _ _ _ ?_
  refine sp_partOf (d := d + 5) (c := 3) hln hr hro (by omega) hA3 ?_
  refine sp_partOf (d := d + 5) (c := 3) hln hr hro (by omega) hA3 ?_
  show Cl lay1 (d + 6) M_R_goes [aO 12 71, aI (nI (pos r 3 A)), aI (nI (pos r 3 C) - nI (pos r 3 A))] σ _
  rw [nI_subN (by omega)]
  refine sp_goes hln hr hro (by omega) (by omega) (by omega) (fun τ1 p => ?_)
  obtain ⟨a1, t, ht, hto, rr⟩ := p
  have rr := go_stk rr
  have fin : ∀ τ v, tR t8 σ τ → bres r (pos r 3 A) (pos r 3 B) (pos r 3 C) = .inl v → Q (some (aI v)) τ := by
    intro τ v w e
    rw [e] at es
    have := h τ w.n (by rw [es]; exact w.told hl)
    rw [es] at this
    exact this
  have ln1 := hln.of a1.2.2.1
  refine ⟨fun c => ⟨ln1.b90 1 (by omega), ?_⟩, fun c => fin τ1 _ a1 (bres_a (rr.one c))⟩
  obtain ⟨e1, -⟩ := rr.zero c
  simp only [ixl1]
  refine bk_R_bump_101 _ _ _ _ _ _ _ _ _ _ _ _ _ _ _ ⟨ln1.b91 1 (by omega), ln1.b90 3 (by omega), ln1.b91 3 (by omega), ?_⟩
  simp only [ixl1, ixl3]
  rw [ht.2.1.1, ht.2.1.2, ht.2.2.2.1, ht.2.2.2.2]
  have hr1 := a1.R hr
  refine sp_partOf (d := d + 5) (c := 3) ln1 hr1 hro (by omega) hB3 ?_
  refine sp_partOf (d := d + 5) (c := 3) ln1 hr1 hro (by omega) hB3 ?_
  show Cl lay1 (d + 6) M_R_goes [aO 12 71, aI (nI (pos r 3 B)), aI (nI (pos r 3 C) - nI (pos r 3 B))] τ1 _
  rw [nI_subN (by omega)]
  refine sp_goes ln1 hr1 hro (by omega) (by omega) (by omega) (fun τ2 p => ?_)
  obtain ⟨a2, s, hs2, hso, rr⟩ := p
  have rr := go_stk rr
  have w2 := a1.trans a2
  have ln2 := hln.of w2.2.2.1
  refine bk_R_bump_144 _ _ _ _ _ _ _ _ _ _ _ _ ⟨fun c => ⟨ln2.b90 1 (by omega), ?_⟩, fun c => fin τ2 _ w2 (bres_b e1 (rr.one c))⟩
  obtain ⟨e2, -⟩ := rr.zero c
  have s1 := hso.2.1.1
  simp only [ixl1]
  rw [hs2.2.1.1, hs2.2.1.2, L64_0, cmpL_eq (by omega) (by omega) (by omega) (by omega), L64_neg]
  refine ⟨fun z => fin τ2 _ w2 (bres_z e1 e2 z), fun z => ⟨ln2.b90 1 (by omega), ln2.b91 1 (by omega), ?_⟩⟩
  refine sp_divided (d := d + 2) (x := fneg t.2.1) (y := s.2.1) (fneg_ok hto.2.1) hso.2.1 z (fun τ3 p => ?_)
  obtain ⟨a3, x, hx, xo, s3⟩ := p.q (fun f hf => fdiv_ok (fneg_ok hto.2.1) hso.2.1 z hf)
  have w3 : tR t8 σ τ3 := w2.trans (a3.t _)
  have ln3 := hln.of w3.2.2.1
  refine bk_R_bump_189 _ _ _ _ _ _ _ _ _ _ _ _ _ _ ⟨ln3.b90 3 (by omega), ln3.b91 3 (by omega), ?_⟩
  simp only [ixl3]
  have f3 := a3.F hs2.2.2.2
  rw [hx.1, hx.2, f3.1, f3.2]
  refine sp_product (d := d + 3) (x := x) (y := s.2.2) xo hso.2.2 (fun τ4 p => ?_)
  obtain ⟨a4, q, hq, qo, s4⟩ := p.q (fun f hf => fmul_ok xo hso.2.2 hf)
  have w4 : tR t8 σ τ4 := w3.trans (a4.t _)
  refine bk_R_bump_221 _ _ _ _ _ _ _ _ _ _ _ _ ?_
  rw [hq.1, hq.2, L64_neg, L64_neg]
  refine sp_sum (d := d + 3) (x := fneg t.2.2) (y := (-q.1, q.2)) (fneg_ok hto.2.2) (fneg_ok qo) (fun τ5 p => ?_)
  obtain ⟨a5, y, hy, yo, s5⟩ := p.q (fun f hf => fadd_ok (fneg_ok hto.2.2) (fneg_ok qo) hf)
  rw [fadd_neg] at s5
  have w5 : tR t8 σ τ5 := w4.trans (a5.t _)
  have ln5 := hln.of w5.2.2.1
  have sc : stk 0 (gI τ5 71 39) ((fdiv (fneg t.2.1) s.2.1).bind fun x => ((fmul x s.2.2).bind (fsub (fneg t.2.2))).map fun y => (x, y)) (x, y) := by
    rw [c] at s3
    exact stk.bind s3 (stk.map (stk.bind s4 s5) (fun y => (x, y)))
  refine ⟨fun c5 => ?_, fun c5 => fin τ5 _ w5 (bres_n e1 e2 z (sc.one c5))⟩
  have ee := bres_s e1 e2 z (sc.zero c5).1
  rw [ee] at es
  refine sp_tells (d := d + 5) (k := 0) (f := x) ln5 (by omega) (fun υ1 c1 _ n1 o1 => ?_)
  refine bk_R_bump_258 _ _ _ _ _ _ _ _ _ _ _ _ _ _ _ _ ?_
  have y1 : atF υ1 y := ⟨(c1.2.2.2.2.2 71 (by omega) 37).trans hy.1, (c1.2.2.2.2.2 71 (by omega) 38).trans hy.2⟩
  rw [y1.1, y1.2]
  refine sp_tells (d := d + 5) (k := 1) (ln5.of c1.2.2.1) (by omega) (fun υ2 c2 _ n2 o2 => ?_)
  have fin : rn σ (pI υ2 71 42 2) := w5.n.trans ((c1.trans c2).n.trans ⟨rfl, rfl, rfl, rfl, fun j k q => by rw [gI_pI, if_neg (by omega)], fun _ _ _ _ => rfl⟩)
  have := h (pI υ2 71 42 2) fin (by
    rw [es]
    refine ⟨by rw [gI_pI, if_pos ⟨rfl, rfl⟩]; rfl, fun k f hk => ?_⟩
    have hl3 : k < 2 := (List.getElem?_eq_some_iff.mp hk).1
    rcases (show k = 0 ∨ k = 1 by omega) with rfl | rfl
    · cases hk; exact o2 0 _ (by omega) n1
    · cases hk; exact n2)
  rw [es] at this
  exact this
end BUMP
