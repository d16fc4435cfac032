/-! ===== LAYER 3: all that is between the calls; the component's read() ===== -/
/-- THE TEXT, THE RING, its KICKS, what is told, the grid told, the fault's place -/
abbrev Sa : Type := Tx × Rg × Kk × List (Int × Nat) × Gd × Int32
def SOK (s : Sa) : Prop := txOK s.1 ∧ rgOK s.2.1 ∧ rkOK s.2.1 ∧ kOK s.2.1 s.2.2.1 ∧ s.2.2.2.1.length ≤ 4
/-- the ring's cells are made -/
def rgC (σ : St) (r : Rg) : Prop := gR σ 11 0 < sN σ ∧ (95 ≤ gR σ 11 0 ∨ r.1 = 0) ∧ ∀ i, i < r.1 → gR σ (gR σ 11 0) i < sN σ ∧ gR σ (gR σ (gR σ 11 0) i) 1 < sN σ
def CIn (σ : St) (s : Sa) : Prop := LA σ ∧ PRM σ ∧ txC σ s.1 ∧ RC σ s.2.1 ∧ rgC σ s.2.1 ∧ CK σ s.2.1 ∧ kF σ 14 s.2.1 s.2.2.1 ∧ toldC σ s.2.2.2.1 ∧ gDC σ s.2.2.2.2.1 ∧ gI σ 3 4 = s.2.2.2.2.2
def RIn (σ : St) (s : Sa) : Prop := txR σ s.1 ∧ RR σ s.2.1 ∧ gI σ 71 30 = nI (ahd s.2.1 3 s.2.1.1) ∧ gI σ 71 31 = nI (ahd s.2.1 4 s.2.1.1) ∧ rkF σ s.2.1 s.2.2.1 ∧ toldR σ s.2.2.2.1 ∧ gDR σ s.2.2.2.2.1 ∧ gI σ 71 7 = s.2.2.2.2.2
def oR (σ τ : St) : Prop := ∀ j, 71 ≤ j → j < 95 → (∀ k, gI τ j k = gI σ j k) ∧ ∀ k, gL τ j k = gL σ j k
theorem oR.R {σ τ : St} (h : oR σ τ) {s : Sa} (hr : RIn σ s) : RIn τ s := by
  obtain ⟨h1, h2, h3, h4, h5, h6, h7, h8⟩ := hr
  have i71 := fun k => (h 71 (by omega) (by omega)).1 k
  refine ⟨⟨(i71 1).trans h1.1, fun i hi => ((h 72 (by omega) (by omega)).1 i).trans (h1.2 i hi)⟩, ⟨(i71 29).trans h2.1, fun i hi => ⟨((h 85 (by omega) (by omega)).1 i).trans (h2.2 i hi).1, ((h 86 (by omega) (by omega)).2 i).trans (h2.2 i hi).2.1, ((h 87 (by omega) (by omega)).2 i).trans (h2.2 i hi).2.2⟩⟩, (i71 30).trans h3, (i71 31).trans h4, fun k hk => ⟨((h 88 (by omega) (by omega)).2 k).trans (h5 k hk).1, ((h 89 (by omega) (by omega)).2 k).trans (h5 k hk).2⟩, ⟨(i71 42).trans h6.1, fun k f hk => ⟨((h 92 (by omega) (by omega)).2 _).trans (h6.2 k f hk).1, ((h 92 (by omega) (by omega)).2 _).trans (h6.2 k f hk).2⟩⟩, h7.of (fun j _ => i71 j), (i71 7).trans h8⟩
noncomputable def spRead (s : Sa) : Int32 × Sa := match prP s.1 0 p0 with
  | .inl q => ((-10 : Int32) - nI q.1, ((0, s.1.2), s.2.1, s.2.2.1, s.2.2.2.1, s.2.2.2.2.1, nI q.2))
  | .inr p => match p.1.1 with
    | [] => (0, s)
    | l :: _ => (nI l.2.length, ((0, s.1.2), rgL l.2, (fun _ => (0, 1)), s.2.2.2.1, none, -4))
theorem spRead_l {s : Sa} {c pl : Nat} (h : prP s.1 0 p0 = .inl (c, pl)) : spRead s = ((-10 : Int32) - nI c, ((0, s.1.2), s.2.1, s.2.2.1, s.2.2.2.1, s.2.2.2.2.1, nI pl)) := by
  unfold spRead
  rw [h]
theorem spRead_r {s : Sa} {p : Ps} {l : Ln} {r : List Ln} (h : prP s.1 0 p0 = .inr p) (hl : p.1.1 = l :: r) : spRead s = (nI l.2.length, ((0, s.1.2), rgL l.2, (fun _ => (0, 1)), s.2.2.2.1, none, -4)) := by
  unfold spRead
  rw [h]
  show (match p.1.1 with
    | [] => (0, s)
    | l :: _ => (nI l.2.length, ((0, s.1.2), rgL l.2, (fun _ => (0, 1)), s.2.2.2.1, none, -4))) = _
  rw [hl]
theorem spRead_ok {s : Sa} (h : SOK s) : SOK (spRead s).2 := by
  obtain ⟨h1, h2, h3, h4, h5⟩ := h
  have e0 : txOK (0, s.1.2) := ⟨by show 0 ≤ 1500; omega, fun i hi => absurd hi (by show ¬ i < 0; omega)⟩
  cases e : prP s.1 0 p0 with
  | inl q =>
    rw [spRead_l (c := q.1) (pl := q.2) e]
    exact ⟨e0, h2, h3, h4, h5⟩
  | inr p =>
    obtain ⟨q1, q2⟩ := prP_end h1 _ 0 p0 p rfl (Nat.zero_le _) p0_ok e
    cases el : p.1.1 with
    | nil => exact absurd el q1
    | cons l r =>
      rw [spRead_r e el]
      have hl := (q2.1 l (by rw [el]; exact List.mem_cons_self)).1
      exact ⟨e0, rgL_ok hl, rgL_k hl, fun k _ => f01, h5⟩
section CREAD2
variable {d : Nat}
/-- the ring as cells are made -/
theorem he_ring {σ τ : St} (a : he σ τ) (e0 : gR τ 11 0 = gR σ 11 0) (e1 : gI τ 11 1 = gI σ 11 1) (eN : ∀ j, j < 95 → gN τ j = gN σ j) {r : Rg} (hr : RC σ r) (hc : rgC σ r) : RC τ r ∧ rgC τ r := by
  obtain ⟨h1, h2, h3, h4⟩ := hr
  obtain ⟨c1, c2, c3⟩ := hc
  have sN' := a.1
  have hN : gN τ (gR σ 11 0) = gN σ (gR σ 11 0) := by
    by_cases z : 95 ≤ gR σ 11 0
    · exact (a.2 _ z c1).2.2.2
    · exact eN _ (by omega)
  have hP : ∀ i, i < r.1 → gR τ (gR σ 11 0) i = gR σ (gR σ 11 0) i := fun i hi => (a.2 _ (by omega) c1).2.2.1 i
  refine ⟨⟨e1.trans h1, by rw [e0]; exact h2, by rw [e0, hN]; exact h3, fun i hi => ?_⟩, by rw [e0]; omega, by rw [e0]; exact c2, fun i hi => ?_⟩
  · obtain ⟨a1, a2, a3, a4⟩ := h4 i hi
    obtain ⟨b1, b2⟩ := c3 i hi
    obtain ⟨x1, -, x3, -⟩ := a.2 _ a1 b1
    obtain ⟨-, y2, -, -⟩ := a.2 _ a3 b2
    rw [e0, hP i hi, x1, x3]
    unfold isF
    rw [y2, y2]
    exact ⟨a1, a2, a3, a4⟩
  · obtain ⟨a1, a2, a3, a4⟩ := h4 i hi
    obtain ⟨b1, b2⟩ := c3 i hi
    obtain ⟨-, -, x3, -⟩ := a.2 _ a1 b1
    rw [e0, hP i hi, x3]
    exact ⟨by omega, by omega⟩
/-- the component's other rows as the text is read -/
theorem rdC.keep {σ τ : St} (a : rdC σ τ) {s : Sa} (ho : SOK s) (h : CIn σ s) : LA τ ∧ PRM τ ∧ RC τ s.2.1 ∧ rgC τ s.2.1 ∧ CK τ s.2.1 ∧ kF τ 14 s.2.1 s.2.2.1 ∧ toldC τ s.2.2.2.1 ∧ gDC τ s.2.2.2.2.1 := by
  obtain ⟨h1, h2, h3, h4, h4b, h5, h6, h7, h8, h9⟩ := h
  have eR := a.2.2.1
  have eI : ∀ j k, j < 95 → j ≠ 4 → j ≠ 5 → j ≠ 7 → j ≠ 9 → j ≠ 10 → gI τ j k = gI σ j k := fun j k q1 q2 q3 q4 q5 q6 => a.2.2.2.1 j k q1 (by omega) (by omega) q4 q5 q6
  have eL : ∀ j k, j < 95 → j ≠ 4 → j ≠ 5 → gL τ j k = gL σ j k := fun j k q1 q2 q3 => a.2.2.2.2 j k q1 (by omega) (by omega)
  have hk12 := ho.2.2.1.1
  have hl4 := ho.2.2.2.2
  obtain ⟨r1, r2⟩ := he_ring a.1 (eR 11 0 (by omega) (by omega) (by omega)) (eI 11 1 (by omega) (by omega) (by omega) (by omega) (by omega) (by omega)) a.2.1 h4 h4b
  refine ⟨⟨fun k hk => (eR 51 k (by omega) (by omega) (by omega)).trans (h1.1 k hk), fun k hk => (eR 50 k (by omega) (by omega) (by omega)).trans (h1.2.1 k hk), fun k hk => (eR 13 k (by omega) (by omega) (by omega)).trans (h1.2.2 k hk)⟩, fun k hk => (eI 2 k (by omega) (by omega) (by omega) (by omega) (by omega) (by omega)).trans (h2 k hk), r1, r2, ⟨?_, ?_, fun i hi => ⟨fun z => ⟨?_, ?_⟩, fun z => ?_⟩⟩, fun k hk => ?_, ⟨?_, fun k f hk => ?_⟩, h8.of (fun j _ => eI 68 j (by omega) (by omega) (by omega) (by omega) (by omega) (by omega))⟩
  · rw [eI 11 6 (by omega) (by omega) (by omega) (by omega) (by omega) (by omega)]; exact h5.1
  · rw [eI 11 7 (by omega) (by omega) (by omega) (by omega) (by omega) (by omega)]; exact h5.2.1
  · rw [eI 28 i (by omega) (by omega) (by omega) (by omega) (by omega) (by omega)]; exact ((h5.2.2 i hi).1 z).1
  · rw [eI 26 _ (by omega) (by omega) (by omega) (by omega) (by omega) (by omega)]; exact ((h5.2.2 i hi).1 z).2
  · rw [eI 27 _ (by omega) (by omega) (by omega) (by omega) (by omega) (by omega)]; exact (h5.2.2 i hi).2 z
  · exact ⟨(eL (14 + k) 0 (by omega) (by omega) (by omega)).trans (h6 k hk).1, (eL (14 + k) 1 (by omega) (by omega) (by omega)).trans (h6 k hk).2⟩
  · rw [eI 29 13 (by omega) (by omega) (by omega) (by omega) (by omega) (by omega)]; exact h7.1
  · have hlt := (List.getElem?_eq_some_iff.mp hk).1
    exact ⟨(eL (64 + k) 0 (by omega) (by omega) (by omega)).trans (h7.2 k f hk).1, (eL (64 + k) 1 (by omega) (by omega) (by omega)).trans (h7.2 k f hk).2⟩
theorem rdC.oR {σ τ : St} (a : rdC σ τ) : oR σ τ := fun j h1 h2 => ⟨fun k => a.2.2.2.1 j k h2 (by omega) (by omega) (by omega) (by omega) (by omega), fun k => a.2.2.2.2 j k h2 (by omega) (by omega)⟩
theorem sp_C_read {σ : St} {Q : Option AV → St → Prop} {s : Sa} (hln : LN σ) (h95 : 95 ≤ sN σ) (ho : SOK s) (hc : CIn σ s) (h : ∀ τ, LN τ → gN τ 1 = gN σ 1 → oR σ τ → sN σ ≤ sN τ → sN τ ≤ sN σ + 4 * (s.1.1 + 1) → sS τ ≤ sS σ + 87 * (s.1.1 + 1) → CIn τ (spRead s).2 → Q (some (aI (spRead s).1)) τ) : Cl lay1 (d + 8) M_C_read [aO 11 3] σ Q := by
  have hto := ho.1
  have htx := hc.2.2.1
  refine bk_C_read_0 ?_
  refine bk_Re_findFault_0 ?_
  refine bk_Te_rewind_0 ⟨Or.inl (by decide), ?_⟩
  have a0 : rdC σ (pI (pR (pI σ 5 4 0) 4 5 0) 4 6 0) := by
    refine ⟨⟨Nat.le_refl _, fun j h1 _ => ⟨fun k => ?_, fun _ => rfl, fun k => ?_, rfl⟩⟩, fun _ _ => rfl, fun j k h1 h2 h3 => ?_, fun j k h1 h2 h3 h4 h5 h6 => ?_, fun _ _ _ _ _ => rfl⟩
    · rw [gI_pI, if_neg (by omega)]; show gI (pI σ 5 4 0) j k = _; rw [gI_pI, if_neg (by omega)]
    · show gR (pR (pI σ 5 4 0) 4 5 0) j k = _; rw [gR_pR, if_neg (by omega)]; rfl
    · show gR (pR (pI σ 5 4 0) 4 5 0) j k = _; rw [gR_pR, if_neg h2]; rfl
    · rw [gI_pI, if_neg (by omega)]; show gI (pI σ 5 4 0) j k = _; rw [gI_pI, if_neg (by omega)]
  have t0 : txC (pI (pR (pI σ 5 4 0) 4 5 0) 4 6 0) s.1 := by
    refine ⟨?_, fun i hi => ?_⟩
    · rw [gI_pI, if_neg (by omega)]; show gI (pI σ 5 4 0) 5 1 = _; rw [gI_pI, if_neg (by omega)]; exact htx.1
    · rw [gI_pI, if_neg (by omega)]; show gI (pI σ 5 4 0) 6 i = _; rw [gI_pI, if_neg (by omega)]; exact htx.2 i hi
  have ps0 : psC (pI (pR (pI σ 5 4 0) 4 5 0) 4 6 0) p0 := by
    refine ⟨by rw [gI_pI, if_pos ⟨rfl, rfl⟩]; rfl, ?_, fun z => absurd rfl z, fun z => absurd z (by show ¬ (0 = 4 ∨ 0 = 5); omega), fun z => absurd z (by show ¬ (0 = 6 ∨ 0 = 7); omega), fun z => absurd z (by show ¬ (0 = 8 ∨ 0 = 9); omega)⟩
    show gR (pR (pI σ 5 4 0) 4 5 0) 4 5 = 0
    rw [gR_pR, if_pos ⟨rfl, rfl⟩]
  have i0 : gI (pI (pR (pI σ 5 4 0) 4 5 0) 4 6 0) 5 4 = nI 0 := by
    rw [gI_pI, if_neg (by omega)]; show gI (pI σ 5 4 0) 5 4 = _; rw [gI_pI, if_pos ⟨rfl, rfl⟩]; rfl
  have s0 : sN (pI (pR (pI σ 5 4 0) 4 5 0) 4 6 0) = sN σ := rfl
  have u0 : sS (pI (pR (pI σ 5 4 0) 4 5 0) 4 6 0) = sS σ := rfl
  generalize pI (pR (pI σ 5 4 0) 4 5 0) 4 6 0 = σ0 at a0 t0 ps0 i0 s0 u0
  refine sp_find_loop (d := d) hto (s.1.1 + 1) 0 p0 0 _ σ0 _ rfl (Nat.zero_le _) (Nat.zero_le _) (hln.lo a0.2.1) (by omega) t0 ps0 p0_ok i0 (fun τ c pl b1 b2 b3 b4 b5 b6 => ?_) (fun τ p b1 b2 b3 b4 b5 b6 => ?_)
  · have aa := a0.trans b1
    obtain ⟨k1, k2, k3, k4, k5, k6, k7, k8⟩ := aa.keep ho hc
    refine bk_Te_empty_0 ?_
    refine ⟨fun z => absurd z (nI_ne0 (by omega) (by omega)), fun _ => bk_Re_faultPlace_0 ?_⟩
    have e53 : gI (pI τ 5 1 0) 5 3 = nI pl := by rw [gI_pI, if_neg (by omega)]; exact b6
    have eI : ∀ j k, ¬ (j = 5 ∧ k = 1) → ¬ (j = 3 ∧ k = 4) → gI (pI (pI τ 5 1 0) 3 4 (nI pl)) j k = gI τ j k := fun j k q1 q2 => by rw [gI_pI, if_neg q2, gI_pI, if_neg q1]
    have := h (pI (pI τ 5 1 0) 3 4 (nI pl)) ((hln.lo aa.2.1).of rfl) (aa.2.1 1 (by omega)) (fun j h1 h2 => ⟨fun k => (eI j k (by omega) (by omega)).trans ((aa.oR j h1 h2).1 k), (aa.oR j h1 h2).2⟩) aa.1.1 (by show sN τ ≤ _; omega) (by show sS τ ≤ _; omega)
    rw [spRead_l b4] at this
    show Q (some (aI ((-10 : Int32) - nI c))) (pI (pI τ 5 1 0) 3 4 (gI (pI τ 5 1 0) 5 3))
    rw [e53]
    refine this ⟨k1, fun k hk => (eI 2 k (by omega) (by omega)).trans (k2 k hk), ⟨?_, fun i hi => absurd hi (by show ¬ i < 0; omega)⟩, ?_, k4, ⟨(eI 11 6 (by omega) (by omega)).trans k5.1, (eI 11 7 (by omega) (by omega)).trans k5.2.1, fun i hi => ⟨fun z => ⟨(eI 28 _ (by omega) (by omega)).trans ((k5.2.2 i hi).1 z).1, (eI 26 _ (by omega) (by omega)).trans ((k5.2.2 i hi).1 z).2⟩, fun z => (eI 27 _ (by omega) (by omega)).trans ((k5.2.2 i hi).2 z)⟩⟩, k6, ⟨(eI 29 13 (by omega) (by omega)).trans k7.1, k7.2⟩, k8.of (fun j _ => eI 68 j (by omega) (by omega)), by rw [gI_pI, if_pos ⟨rfl, rfl⟩]⟩
    · rw [gI_pI, if_neg (by omega), gI_pI, if_pos ⟨rfl, rfl⟩]; rfl
    · obtain ⟨x1, x2, x3, x4⟩ := k3
      refine ⟨(eI 11 1 (by omega) (by omega)).trans x1, x2, x3, fun i hi => ?_⟩
      obtain ⟨y1, y2, y3, y4⟩ := x4 i hi
      have y1 : 95 ≤ gR τ (gR τ 11 0) i := y1
      exact ⟨y1, (eI _ 0 (by omega) (by omega)).trans y2, y3, y4⟩
  · have aa := a0.trans b1
    obtain ⟨k1, k2, k3, k4, k5, k6, k7, k8⟩ := aa.keep ho hc
    obtain ⟨q1, -⟩ := prP_end hto _ 0 p0 p rfl (Nat.zero_le _) p0_ok b4
    cases el : p.1.1 with
    | nil => exact absurd el q1
    | cons l r =>
    have hlines := b5.2.1
    rw [el] at hlines
    obtain ⟨l1, l2, l3, l4, l5, l6, l7, l8⟩ := hlines
    obtain ⟨hlo, -⟩ := b6.1 l (by rw [el]; exact List.mem_cons_self)
    rw [spRead_r b4 el] at h
    have hro := rgL_ok hlo
    have hrk := rgL_k hlo
    have hl80 : l.2.length ≤ 80 := hlo.1
    refine bk_Te_empty_0 ⟨fun _ => bk_Re_lastLine_0 ⟨rfl, ?_⟩, fun z => absurd rfl z⟩
    have eI : ∀ j k, ¬ (j = 5 ∧ k = 1) → ¬ (j = 3 ∧ k = 4) → gI (pI (pI τ 5 1 0) 3 4 (-4)) j k = gI τ j k := fun j k q1 q2 => by rw [gI_pI, if_neg q2, gI_pI, if_neg q1]
    have e51 : gI (pI (pI τ 5 1 0) 3 4 (-4)) 5 1 = 0 := by rw [gI_pI, if_neg (by omega), gI_pI, if_pos ⟨rfl, rfl⟩]
    have e34 : gI (pI (pI τ 5 1 0) 3 4 (-4)) 3 4 = -4 := by rw [gI_pI, if_pos ⟨rfl, rfl⟩]
    have eR : gR (pI (pI τ 5 1 0) 3 4 (-4)) = gR τ := rfl
    have eL : gL (pI (pI τ 5 1 0) 3 4 (-4)) = gL τ := rfl
    have eN : gN (pI (pI τ 5 1 0) 3 4 (-4)) = gN τ := rfl
    have es : sN (pI (pI τ 5 1 0) 3 4 (-4)) = sN τ := rfl
    have eu : sS (pI (pI τ 5 1 0) 3 4 (-4)) = sS τ := rfl
    generalize pI (pI τ 5 1 0) 3 4 (-4) = υ at eI e51 e34 eR eL eN es eu
    rw [eR]
    refine bk_Ri_become_0 _ ⟨fun z => absurd z (by omega), fun _ => nn_of (by omega) ?_⟩
    rw [ldR_hi υ 1 l1, eR]
    refine ⟨Or.inl (by decide), nn_of (by omega) ?_⟩
    have ed : ldR lay1 (pR υ 11 0 (gR τ (gR τ 4 5) 1)) (gR τ 4 5) 1 = gR τ (gR τ 4 5) 1 := by
      rw [ldR_hi _ 1 l1, gR_pR, if_neg (by omega), eR]
    rw [ed]
    refine nn_of (by omega) ?_
    have en : Int32.ofNat (gN (pR υ 11 0 (gR τ (gR τ 4 5) 1)) (gR τ (gR τ 4 5) 1)) = nI l.2.length := by
      show Int32.ofNat (gN υ (gR τ (gR τ 4 5) 1)) = _
      rw [eN, l6]
      rfl
    rw [en]
    have g11 : gR (pI (pI (pI (pR υ 11 0 (gR τ (gR τ 4 5) 1)) 11 1 (nI l.2.length)) 11 6 0) 11 7 0) 11 0 = gR τ (gR τ 4 5) 1 := by
      show gR (pR υ 11 0 (gR τ (gR τ 4 5) 1)) 11 0 = _
      rw [gR_pR, if_pos ⟨rfl, rfl⟩]
    have gO : ∀ j k, ¬ (j = 11 ∧ k = 0) → gR (pI (pI (pI (pR υ 11 0 (gR τ (gR τ 4 5) 1)) 11 1 (nI l.2.length)) 11 6 0) 11 7 0) j k = gR τ j k := fun j k q => by
      show gR (pR υ 11 0 (gR τ (gR τ 4 5) 1)) j k = _
      rw [gR_pR, if_neg q, eR]
    have gJ : ∀ j k, j ≠ 11 → gI (pI (pI (pI (pR υ 11 0 (gR τ (gR τ 4 5) 1)) 11 1 (nI l.2.length)) 11 6 0) 11 7 0) j k = gI υ j k := fun j k q => by
      rw [gI_pI, if_neg (by omega), gI_pI, if_neg (by omega), gI_pI, if_neg (by omega)]; rfl
    have g1 : gI (pI (pI (pI (pR υ 11 0 (gR τ (gR τ 4 5) 1)) 11 1 (nI l.2.length)) 11 6 0) 11 7 0) 11 1 = nI l.2.length := by rw [gI_pI, if_neg (by omega), gI_pI, if_neg (by omega), gI_pI, if_pos ⟨rfl, rfl⟩]
    have g6 : gI (pI (pI (pI (pR υ 11 0 (gR τ (gR τ 4 5) 1)) 11 1 (nI l.2.length)) 11 6 0) 11 7 0) 11 6 = 0 := by rw [gI_pI, if_neg (by omega), gI_pI, if_pos ⟨rfl, rfl⟩]
    have g7 : gI (pI (pI (pI (pR υ 11 0 (gR τ (gR τ 4 5) 1)) 11 1 (nI l.2.length)) 11 6 0) 11 7 0) 11 7 = 0 := by rw [gI_pI, if_pos ⟨rfl, rfl⟩]
    have gLL : gL (pI (pI (pI (pR υ 11 0 (gR τ (gR τ 4 5) 1)) 11 1 (nI l.2.length)) 11 6 0) 11 7 0) = gL τ := eL
    have gNN : gN (pI (pI (pI (pR υ 11 0 (gR τ (gR τ 4 5) 1)) 11 1 (nI l.2.length)) 11 6 0) 11 7 0) = gN τ := eN
    have gsN : sN (pI (pI (pI (pR υ 11 0 (gR τ (gR τ 4 5) 1)) 11 1 (nI l.2.length)) 11 6 0) 11 7 0) = sN τ := es
    have gsS : sS (pI (pI (pI (pR υ 11 0 (gR τ (gR τ 4 5) 1)) 11 1 (nI l.2.length)) 11 6 0) 11 7 0) = sS τ := eu
    generalize pI (pI (pI (pR υ 11 0 (gR τ (gR τ 4 5) 1)) 11 1 (nI l.2.length)) 11 6 0) 11 7 0 = ω at g11 gO gJ g1 g6 g7 gLL gNN gsN gsS
    have hpt : ∀ i, i < (rgL l.2).1 → ptC τ (gR τ (gR τ (gR τ 4 5) 1) i) ((rgL l.2).2.1 i, (rgL l.2).2.2 i) := fun i hi => by
      have e := List.getElem?_eq_getElem (show i < l.2.length from hi)
      have := l7 i _ e
      rw [(rgL_at e).1, (rgL_at e).2]
      exact this
    have hP : ∀ i, gR ω (gR τ (gR τ 4 5) 1) i = gR τ (gR τ (gR τ 4 5) 1) i := fun i => gO _ i (by omega)
    have hrc : RC ω (rgL l.2) := by
      refine ⟨g1, by rw [g11]; omega, by rw [g11, gNN]; exact l6, fun i hi => ?_⟩
      obtain ⟨z1, z2, z3, z4, z5, z6⟩ := hpt i hi
      rw [g11, hP]
      have eo : gR ω (gR τ (gR τ (gR τ 4 5) 1) i) 1 = gR τ (gR τ (gR τ (gR τ 4 5) 1) i) 1 := gO _ 1 (by omega)
      rw [eo]
      refine ⟨z1, by rw [gJ _ 0 (by omega), eI _ 0 (by omega) (by omega)]; exact z3, z4, ?_⟩
      unfold isF
      rw [gLL]
      exact z6
    have hla : LA ω := ⟨fun k hk => (gO 51 k (by omega)).trans (k1.1 k hk), fun k hk => (gO 50 k (by omega)).trans (k1.2.1 k hk), fun k hk => (gO 13 k (by omega)).trans (k1.2.2 k hk)⟩
    have hlnw : LN ω := (hln.lo aa.2.1).of gNN
    refine sp_become_loop (d := d + 4) hro hrk (rgL l.2).1 0 _ ω _ (Nat.zero_add _) hlnw hla hrc ⟨by rw [g6]; rfl, by rw [g7]; rfl, fun j hj => absurd hj (by omega), fun k hk => absurd hk (by show ¬ k < 0; omega)⟩ (fun ψ c1 c2 c3 c4 => ?_)
    refine bk_La_forget_0 ⟨b01, ?_⟩
    have cI : ∀ j k, j ≠ 11 → j ≠ 26 → j ≠ 27 → j ≠ 28 → ¬ (j = 68 ∧ k = 3) → gI (pI ψ 68 3 0) j k = gI υ j k := fun j k q1 q2 q3 q4 q5 => by rw [gI_pI, if_neg q5, c1.2.2.2.2.1 j k q1 q2 q3 q4]; exact gJ j k q1
    have c68 : gI (pI ψ 68 3 0) 68 3 = 0 := by rw [gI_pI, if_pos ⟨rfl, rfl⟩]
    have c11 : ∀ k, gI (pI ψ 68 3 0) 11 k = gI ψ 11 k := fun k => by rw [gI_pI, if_neg (by omega)]
    have cRR : ∀ j k, ¬ (j = 11 ∧ k = 0) → gR ψ j k = gR τ j k := fun j k q => (c1.2.2.2.1 j k q).trans (gO j k q)
    have cL : ∀ j k, (j < 14 ∨ 25 < j) → gL ψ j k = gL τ j k := fun j k q => by rw [c1.2.2.2.2.2 j k q, gLL]
    have := h (pI ψ 68 3 0) (hlnw.of c1.2.2.1) (by show gN ψ 1 = gN σ 1; rw [c1.2.2.1, gNN]; exact aa.2.1 1 (by omega)) (fun j h1 h2 => ⟨fun k => ?_, fun k => ?_⟩) (by show sN σ ≤ sN ψ; rw [c1.1, gsN]; exact aa.1.1) (by show sN ψ ≤ _; rw [c1.1, gsN]; omega) (by show sS ψ ≤ _; rw [c1.2.1, gsS]; omega)
    · show Q (some (aI (gI (pI ψ 68 3 0) 11 1))) (pI ψ 68 3 0)
      rw [c11 1, c3.1]
      refine this ⟨⟨fun k hk => (cRR 51 k (by omega)).trans (k1.1 k hk), fun k hk => (cRR 50 k (by omega)).trans (k1.2.1 k hk), fun k hk => (cRR 13 k (by omega)).trans (k1.2.2 k hk)⟩, fun k hk => ?_, ⟨?_, fun i hi => absurd hi (by show ¬ i < 0; omega)⟩, ?_, ?_, ⟨(c11 6).trans c4.1, (c11 7).trans c4.2.1, fun i hi => ?_⟩, c4.2.2.2, ⟨?_, fun k f hk => ?_⟩, c68, ?_⟩
      · rw [cI 2 k (by omega) (by omega) (by omega) (by omega) (by omega), eI 2 k (by omega) (by omega)]; exact k2 k hk
      · rw [cI 5 1 (by omega) (by omega) (by omega) (by omega) (by omega), e51]; rfl
      · obtain ⟨x1, x2, x3, x4⟩ := c3
        refine ⟨(c11 1).trans x1, x2, x3, fun i hi => ?_⟩
        obtain ⟨y1, y2, y3, y4⟩ := x4 i hi
        have y1 : 95 ≤ gR ψ (gR ψ 11 0) i := y1
        exact ⟨y1, by show gI (pI ψ 68 3 0) (gR ψ (gR ψ 11 0) i) 0 = _; rw [gI_pI, if_neg (by omega)]; exact y2, y3, y4⟩
      · have eP : gR ψ 11 0 = gR τ (gR τ 4 5) 1 := c2.trans g11
        refine ⟨by show gR ψ 11 0 < sN ψ; rw [eP, c1.1, gsN]; exact l5, Or.inl (by show 95 ≤ gR ψ 11 0; rw [eP]; exact l4), fun i hi => ?_⟩
        obtain ⟨z1, z2, z3, z4, z5, z6⟩ := hpt i hi
        show gR ψ (gR ψ 11 0) i < sN ψ ∧ gR ψ (gR ψ (gR ψ 11 0) i) 1 < sN ψ
        rw [eP, cRR (gR τ (gR τ 4 5) 1) i (by omega), cRR _ 1 (by omega), c1.1, gsN]
        exact ⟨z2, z5⟩
      · obtain ⟨w1, w2⟩ := c4.2.2.1 i hi
        refine ⟨fun z => ⟨?_, ?_⟩, fun z => ?_⟩
        · rw [gI_pI, if_neg (by omega)]; exact (w1 z).1
        · rw [gI_pI, if_neg (by omega)]; exact (w1 z).2
        · rw [gI_pI, if_neg (by omega)]; exact w2 z
      · rw [cI 29 13 (by omega) (by omega) (by omega) (by omega) (by omega), eI 29 13 (by omega) (by omega)]; exact k7.1
      · have hlt := (List.getElem?_eq_some_iff.mp hk).1
        have hl4 := ho.2.2.2.2
        exact ⟨(cL (64 + k) 0 (by omega)).trans (k7.2 k f hk).1, (cL (64 + k) 1 (by omega)).trans (k7.2 k f hk).2⟩
      · rw [cI 3 4 (by omega) (by omega) (by omega) (by omega) (by omega), e34]
    · rw [cI j k (by omega) (by omega) (by omega) (by omega) (by omega), eI j k (by omega) (by omega)]; exact (aa.oR j h1 h2).1 k
    · show gL ψ j k = _
      rw [cL j k (by omega)]; exact (aa.oR j h1 h2).2 k
end CREAD2
