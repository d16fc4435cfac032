/-! ===== LAYER 3, F: the reference's read() ===== -/
theorem ahd_all (ps : List Pt) (c : Nat) : ahd (rgL ps) c (rgL ps).1 = cntK c ps := by
  show ahd (rgL ps) c ps.length = _
  rw [ahd_cnt ps c _ (Nat.le_refl _), List.take_length]
/-- the last steps of a reading that went well -/
def rdF (ps : List Pt) (σ : St) : Prop := gI σ 71 17 = nI ps.length ∧ gI σ 71 18 = nI (cntK 3 ps) ∧ gI σ 71 19 = nI (cntK 4 ps) ∧ ∀ i q, ps[i]? = some q → gI σ 79 i = nI q.1 ∧ gL σ 80 i = L64 q.2.1 ∧ gL σ 81 i = L64 q.2.2
/-- what these change -/
def fC (σ τ : St) : Prop := sN τ = sN σ ∧ sS τ = sS σ ∧ gN τ = gN σ ∧ gR τ = gR σ ∧ (∀ j k, ¬ (j = 71 ∧ (k = 1 ∨ 29 ≤ k ∧ k ≤ 31 ∨ k = 44)) → j ≠ 85 → gI τ j k = gI σ j k) ∧ ∀ j k, ¬ (86 ≤ j ∧ j ≤ 89) → gL τ j k = gL σ j k
theorem fC.rf (σ : St) : fC σ σ := ⟨rfl, rfl, rfl, rfl, fun _ _ _ _ => rfl, fun _ _ _ => rfl⟩
theorem fC.trans {σ τ υ : St} (h : fC σ τ) (g : fC τ υ) : fC σ υ := ⟨g.1.trans h.1, g.2.1.trans h.2.1, g.2.2.1.trans h.2.2.1, g.2.2.2.1.trans h.2.2.2.1, fun j k a b => (g.2.2.2.2.1 j k a b).trans (h.2.2.2.2.1 j k a b), fun j k a => (g.2.2.2.2.2 j k a).trans (h.2.2.2.2.2 j k a)⟩
theorem fC_pI {σ : St} {j k : Nat} (v : Int32) (h : (j = 71 ∧ (k = 1 ∨ 29 ≤ k ∧ k ≤ 31 ∨ k = 44)) ∨ j = 85) : fC σ (pI σ j k v) := ⟨rfl, rfl, rfl, rfl, fun a b _ _ => by rw [gI_pI, if_neg (by omega)], fun _ _ _ => rfl⟩
theorem fC_pL {σ : St} {j : Nat} (k : Nat) (v : Int64) (h : 86 ≤ j ∧ j ≤ 89) : fC σ (pL σ j k v) := ⟨rfl, rfl, rfl, rfl, fun _ _ _ _ => rfl, fun a b _ => by rw [gL_pL, if_neg (by omega)]⟩
section RREAD2
variable {d : Nat}
theorem sp_fin2 : ∀ (m k : Nat) (σ : St) (Q : Option AV → St → Prop), k + m = 12 → LN σ → (∀ j, j < k → gL σ 88 j = L64 0 ∧ gL σ 89 j = L64 1) → (∀ τ, fC σ τ → (∀ j k', j ≠ 88 → j ≠ 89 → gL τ j k' = gL σ j k') → (∀ j k', ¬ (j = 71 ∧ k' = 44) → gI τ j k' = gI σ j k') → gI τ 71 44 = 0 → (∀ j, j < 12 → gL τ 88 j = L64 0 ∧ gL τ 89 j = L64 1) → Q (some (aI (gI τ 71 29))) τ) → Wp lay1 rtOf (Cl lay1 d) k_R_read 1 Q (163, [aO 12 71, aI (nI k)], [], σ) := by
  intro m
  induction m with
  | zero =>
    intro k σ Q hk hln hc h
    have e : k = 12 := by omega
    subst e
    refine bk_R_read_163 _ ⟨fun _ => ?_, fun c => absurd (by decide) c⟩
    exact h _ (fC_pI (j := 71) (k := 44) _ (by omega)) (fun _ _ _ _ => rfl) (fun j k' x => by rw [gI_pI, if_neg x]) (by rw [gI_pI, if_pos ⟨rfl, rfl⟩]) hc
  | succ m ih =>
    intro k σ Q hk hln hc h
    have b12 : ∀ j, (j, 12) ∈ lnL → inb (nI k) (gN σ j) := fun j hj => by rw [hln.at j 12 hj]; exact inb_nI (by omega) (by omega)
    refine bk_R_read_163 _ ⟨fun c => absurd c ?_, fun _ => ⟨b12 88 (by decide), b12 89 (by decide), ?_⟩⟩
    · rw [show (12 : Int32) = nI 12 from rfl, nI_leI (by omega) (by omega)]; omega
    rw [ix_nI (by omega), nI_1]
    have a1 : fC σ (pL (pL σ 88 k 0) 89 k 1) := (fC_pL (j := 88) _ _ (by omega)).trans (fC_pL (j := 89) _ _ (by omega))
    have eL : ∀ j i, ¬ (j = 88 ∧ i = k) → ¬ (j = 89 ∧ i = k) → gL (pL (pL σ 88 k 0) 89 k 1) j i = gL σ j i := fun j i x1 x2 => by rw [gL_pL, if_neg x2, gL_pL, if_neg x1]
    refine ih (k + 1) _ Q (by omega) (hln.of rfl) (fun j hj => ?_) (fun τ b1 b2 b3 b4 b5 => h τ (a1.trans b1) (fun j i x1 x2 => (b2 j i x1 x2).trans (eL j i (by omega) (by omega))) b3 b4 b5)
    by_cases z : j = k
    · subst z
      refine ⟨by rw [gL_pL, if_neg (by omega), gL_pL, if_pos ⟨rfl, rfl⟩]; rfl, by rw [gL_pL, if_pos ⟨rfl, rfl⟩]; rfl⟩
    · rw [eL 88 j (by omega) (by omega), eL 89 j (by omega) (by omega)]
      exact hc j (by omega)
theorem sp_fin1 {ps : List Pt} (h80 : ps.length ≤ 80) : ∀ (m i : Nat) (σ : St) (Q : Option AV → St → Prop), i + m = ps.length → LN σ → rdF ps σ → (∀ j q, j < i → ps[j]? = some q → gI σ 85 j = nI q.1 ∧ gL σ 86 j = L64 q.2.1 ∧ gL σ 87 j = L64 q.2.2) → (∀ τ, fC σ τ → (∀ k', gI τ 71 k' = gI σ 71 k') → (∀ j q, ps[j]? = some q → gI τ 85 j = nI q.1 ∧ gL τ 86 j = L64 q.2.1 ∧ gL τ 87 j = L64 q.2.2) → Wp lay1 rtOf (Cl lay1 d) k_R_read 1 Q (163, [aO 12 71, aI (0 : Int32)], [], τ)) → Wp lay1 rtOf (Cl lay1 d) k_R_read 1 Q (111, [aO 12 71, aI (nI i)], [], σ) := by
  intro m
  induction m with
  | zero =>
    intro i σ Q hi hln hF hc h
    refine bk_R_read_111 _ ⟨fun _ => h σ (fC.rf _) (fun _ => rfl) (fun j q hq => hc j q (by have := (List.getElem?_eq_some_iff.mp hq).1; omega) hq), fun c => absurd ?_ c⟩
    rw [hF.1]
    exact (nI_leI (by omega) (by omega)).mpr (by omega)
  | succ m ih =>
    intro i σ Q hi hln hF hc h
    have hlt : i < ps.length := by omega
    have eq := List.getElem?_eq_getElem hlt
    obtain ⟨w1, w2, w3⟩ := hF.2.2.2 i _ eq
    generalize ps[i] = q at eq w1 w2 w3
    have b82 : ∀ j, (j, 82) ∈ lnL → inb (nI i) (gN σ j) := fun j hj => by rw [hln.at j 82 hj]; exact inb_nI (by omega) (by omega)
    have b80 : ∀ j, (j, 80) ∈ lnL → inb (nI i) (gN σ j) := fun j hj => by rw [hln.at j 80 hj]; exact inb_nI (by omega) (by omega)
    refine bk_R_read_111 _ ⟨fun c => absurd c ?_, fun _ => ⟨b82 79 (by decide), b80 85 (by decide), b82 80 (by decide), b80 86 (by decide), b82 81 (by decide), b80 87 (by decide), ?_⟩⟩
    · rw [hF.1, nI_leI (by omega) (by omega)]; omega
    rw [ix_nI (by omega), nI_1, w1]
    have g2 : gL (pI σ 85 i (nI q.1)) 80 i = L64 q.2.1 := w2
    have g3 : gL (pL (pI σ 85 i (nI q.1)) 86 i (L64 q.2.1)) 81 i = L64 q.2.2 := by rw [gL_pL, if_neg (by omega)]; exact w3
    rw [g2, g3]
    have a1 : fC σ (pL (pL (pI σ 85 i (nI q.1)) 86 i (L64 q.2.1)) 87 i (L64 q.2.2)) := ((fC_pI (j := 85) _ (by omega)).trans (fC_pL (j := 86) _ _ (by omega))).trans (fC_pL (j := 87) _ _ (by omega))
    have eI : ∀ j k, ¬ (j = 85 ∧ k = i) → gI (pL (pL (pI σ 85 i (nI q.1)) 86 i (L64 q.2.1)) 87 i (L64 q.2.2)) j k = gI σ j k := fun j k x => by
      show gI (pI σ 85 i (nI q.1)) j k = _
      rw [gI_pI, if_neg x]
    have eL : ∀ j k, ¬ (j = 86 ∧ k = i) → ¬ (j = 87 ∧ k = i) → gL (pL (pL (pI σ 85 i (nI q.1)) 86 i (L64 q.2.1)) 87 i (L64 q.2.2)) j k = gL σ j k := fun j k x1 x2 => by rw [gL_pL, if_neg x2, gL_pL, if_neg x1]; rfl
    have v85 : gI (pL (pL (pI σ 85 i (nI q.1)) 86 i (L64 q.2.1)) 87 i (L64 q.2.2)) 85 i = nI q.1 := by
      show gI (pI σ 85 i (nI q.1)) 85 i = _
      rw [gI_pI, if_pos ⟨rfl, rfl⟩]
    have v86 : gL (pL (pL (pI σ 85 i (nI q.1)) 86 i (L64 q.2.1)) 87 i (L64 q.2.2)) 86 i = L64 q.2.1 := by rw [gL_pL, if_neg (by omega), gL_pL, if_pos ⟨rfl, rfl⟩]
    have v87 : gL (pL (pL (pI σ 85 i (nI q.1)) 86 i (L64 q.2.1)) 87 i (L64 q.2.2)) 87 i = L64 q.2.2 := by rw [gL_pL, if_pos ⟨rfl, rfl⟩]
    generalize pL (pL (pI σ 85 i (nI q.1)) 86 i (L64 q.2.1)) 87 i (L64 q.2.2) = σ1 at a1 eI eL v85 v86 v87
    refine ih (i + 1) σ1 Q (by omega) (hln.of a1.2.2.1) ⟨(eI 71 17 (by omega)).trans hF.1, (eI 71 18 (by omega)).trans hF.2.1, (eI 71 19 (by omega)).trans hF.2.2.1, fun j x hx => ?_⟩ (fun j x hj hx => ?_) (fun τ b1 b2 b3 => h τ (a1.trans b1) (fun k' => (b2 k').trans (eI 71 k' (by omega))) b3)
    · rw [eI 79 j (by omega), eL 80 j (by omega) (by omega), eL 81 j (by omega) (by omega)]
      exact hF.2.2.2 j x hx
    · by_cases z : j = i
      · subst z
        rw [eq] at hx
        cases hx
        exact ⟨v85, v86, v87⟩
      · rw [eI 85 j (by omega), eL 86 j (by omega) (by omega), eL 87 j (by omega) (by omega)]
        exact hc j x (by omega) hx
/-- the lines, one after the other -/
theorem read_loop {t : Tx} (hto : txOK t) : ∀ (n a : Nat) (b : Ba) (u1 : AV) (σ : St) (Q : Option AV → St → Prop), t.1 + 1 - a = n → RLn σ t a b → liOK b.1 → ndL b.1 → 4 * b.1.length ≤ a → ((tok t a).1 = 0 → rowR σ b.2.1 ∧ b.2.1.2 = false ∧ ∃ nm r, b.1 = (nm, b.2.1.1) :: r) → (∀ τ c pl, flP σ c pl τ → 1 ≤ c ∧ c ≤ 4 → prP t a (b, 0, 0, 0, 0, 0) = .inl (c, pl) → Q (some (aI ((-10 : Int32) - nI c))) (pI τ 71 1 0)) → (∀ τ (b' : Ba), fR σ τ → LN τ → gI τ 71 7 = -4 → rowR τ b'.2.1 → liOK b'.1 → (∃ nm r, b'.1 = (nm, b'.2.1.1) :: r) → prP t a (b, 0, 0, 0, 0, 0) = .inr (b', 0, 0, 0, 0, 0) → Wp lay1 rtOf (Cl lay1 (d + 5)) k_R_read 1 Q (111, [aO 12 71, aI (0 : Int32)], [], (pI (pI (pI (pI τ 71 1 (0 : Int32)) 71 29 (gI τ 71 17)) 71 30 (gI τ 71 18)) 71 31 (gI τ 71 19)))) → Wp lay1 rtOf (Cl lay1 (d + 5)) k_R_read 1 Q (43, [aO 12 71, u1], [], σ) := by
  intro n
  induction n using Nat.strongRecOn with
  | ind n ih =>
    intro a b u1 σ Q hn hr hlo hnd h4 h0 hf hs
    obtain ⟨ln, tx, f6, li, hk, ha⟩ := id hr
    have hko := tok_ok hto ha
    have hle4 := hko.1
    have e40 : gI σ 71 4 = 0 ↔ (tok t a).1 = 0 := by rw [hk.1, show (0 : Int32) = nI 0 from rfl, nI_eq (by omega) (by omega)]
    refine bk_R_read_43 _ ⟨fun _ => ?_, fun z => absurd f6.1 z⟩
    rw [e40]
    refine ⟨fun z => ?_, fun z => ?_⟩
    · obtain ⟨q1, q2, nm, r, q3⟩ := h0 z
      have e6 : gI (pI σ 71 1 0) 71 6 = 0 := by rw [gI_pI, if_neg (by omega)]; exact f6.1
      have g17 : gI (pI σ 71 1 0) 71 17 = gI σ 71 17 := by rw [gI_pI, if_neg (by omega)]
      have g18 : ∀ v, gI (pI (pI σ 71 1 0) 71 29 v) 71 18 = gI σ 71 18 := fun v => by rw [gI_pI, if_neg (by omega), gI_pI, if_neg (by omega)]
      have g19 : ∀ v v', gI (pI (pI (pI σ 71 1 0) 71 29 v) 71 30 v') 71 19 = gI σ 71 19 := fun v v' => by rw [gI_pI, if_neg (by omega), gI_pI, if_neg (by omega), gI_pI, if_neg (by omega)]
      rw [e6, g17, g18, g19]
      refine ⟨fun _ => hs σ b (fR.rf _) ln f6.2 q1 hlo ⟨nm, r, q3⟩ ?_, fun y => absurd (by decide) y⟩
      refine prP_e ha ?_ z
      have e : stp (b, 0, 0, 0, 0, 0) (tok t a) = cite ((tok t a).1 = 0) (match b.1 with
        | [] => .inl 2
        | _ :: _ => .inr (b, 0, 0, 0, 0, 0)) (cite ((tok t a).1 = 1 ∧ ¬ own (tok t a).2.2.1 ∧ fnd b.1 (tok t a).2.2.1 = none) (.inr ((b.1, ([], false), [], (tok t a).2.2.1), 1, 0, 0, 0, 0)) (.inl 2)) := cite_neg (by omega)
      rw [e, cite_pos z, q3]
    · refine sp_line (d := d) hto hr hlo hnd h4 z (fun τ a' b' g1 g2 g3 g4 g5 g6 g7 g8 g9 g10 => ?_) (fun τ c pl g1 g2 g3 => ?_)
      · have ha' := g2.2.2.2.2.2
        exact ih (t.1 + 1 - a') (by omega) a' b' _ τ Q rfl g2 g5 g6 g7 (fun _ => ⟨g3, g4, g9⟩) (fun υ c pl x1 x2 x3 => hf υ c pl ⟨g1.trans x1.1, x1.2⟩ x2 (g10.trans x3)) (fun υ b'' x1 x2 x3 x4 x5 x6 x7 => hs υ b'' (g1.trans x1) x2 x3 x4 x5 x6 (g10.trans x7))
      · have ef := hf τ c pl g1 g2 g3
        have n6 : gI τ 71 6 = nI c := g1.2.1
        have n0 : ¬ gI τ 71 6 = 0 := by rw [n6]; exact nI_ne0 (by omega) (by omega)
        refine bk_R_read_43 _ ⟨fun y => absurd y n0, fun _ => ?_⟩
        have e6 : gI (pI τ 71 1 0) 71 6 = nI c := by rw [gI_pI, if_neg (by omega)]; exact n6
        rw [e6]
        exact ⟨fun y => absurd y (nI_nle (by omega) (by omega)), fun _ => ef⟩
theorem sp_R_read {σ : St} {Q : Option AV → St → Prop} {s : Sa} (hln : LN σ) (ho : SOK s) (hr : RIn σ s) (h : ∀ τ, sN τ = sN σ → sS τ = sS σ → gN τ = gN σ → gR τ = gR σ → (∀ j k, (j < 71 ∨ 95 ≤ j) → gI τ j k = gI σ j k) → (∀ j k, (j < 71 ∨ 95 ≤ j) → gL τ j k = gL σ j k) → RIn τ (spRead s).2 → Q (some (aI (spRead s).1)) τ) : Cl lay1 (d + 6) M_R_read [aO 12 71] σ Q := by
  have hto := ho.1
  obtain ⟨i1, i2, i3, i4, i5, i6, i7, i8⟩ := hr
  refine bk_R_read_0 ?_
  have a0 : fR σ (pI (pI (pI (pI (pI σ 71 2 0) 71 6 0) 71 7 (-4)) 71 8 0) 71 12 0) := ((((fR_pI (j := 71) (k := 2) _ (by omega)).trans (fR_pI (j := 71) (k := 6) _ (by omega))).trans (fR_pI (j := 71) (k := 7) _ (by omega))).trans (fR_pI (j := 71) (k := 8) _ (by omega))).trans (fR_pI (j := 71) (k := 12) _ (by omega))
  have v2 : gI (pI (pI (pI (pI (pI σ 71 2 0) 71 6 0) 71 7 (-4)) 71 8 0) 71 12 0) 71 2 = nI 0 := by rw [gI_pI, if_neg (by omega), gI_pI, if_neg (by omega), gI_pI, if_neg (by omega), gI_pI, if_neg (by omega), gI_pI, if_pos ⟨rfl, rfl⟩]; rfl
  have v6 : gI (pI (pI (pI (pI (pI σ 71 2 0) 71 6 0) 71 7 (-4)) 71 8 0) 71 12 0) 71 6 = 0 := by rw [gI_pI, if_neg (by omega), gI_pI, if_neg (by omega), gI_pI, if_neg (by omega), gI_pI, if_pos ⟨rfl, rfl⟩]
  have v7 : gI (pI (pI (pI (pI (pI σ 71 2 0) 71 6 0) 71 7 (-4)) 71 8 0) 71 12 0) 71 7 = -4 := by rw [gI_pI, if_neg (by omega), gI_pI, if_neg (by omega), gI_pI, if_pos ⟨rfl, rfl⟩]
  have v8 : gI (pI (pI (pI (pI (pI σ 71 2 0) 71 6 0) 71 7 (-4)) 71 8 0) 71 12 0) 71 8 = 0 := by rw [gI_pI, if_neg (by omega), gI_pI, if_pos ⟨rfl, rfl⟩]
  have v12 : gI (pI (pI (pI (pI (pI σ 71 2 0) 71 6 0) 71 7 (-4)) 71 8 0) 71 12 0) 71 12 = 0 := by rw [gI_pI, if_pos ⟨rfl, rfl⟩]
  generalize pI (pI (pI (pI (pI σ 71 2 0) 71 6 0) 71 7 (-4)) 71 8 0) 71 12 0 = σ0 at a0 v2 v6 v7 v8 v12
  have tx0 : txR σ0 s.1 := ⟨(a0.2.2.2.2.1 71 1 (by omega) (by omega) (by omega) (by omega)).trans i1.1, fun i hi => (a0.2.2.2.2.1 72 i (by omega) (by omega) (by omega) (by omega)).trans (i1.2 i hi)⟩
  have ln0 := hln.of a0.2.2.1
  -- the state as it was, for what a fault leaves
  have keep : ∀ τ, fR σ τ → (∀ j k, (j < 71 ∨ 95 ≤ j) → gI τ j k = gI σ j k) ∧ (∀ j k, (j < 71 ∨ 95 ≤ j) → gL τ j k = gL σ j k) := fun τ a => ⟨fun j k q => a.2.2.2.2.1 j k (by omega) (by omega) (by omega) (by omega), fun j k q => a.2.2.2.2.2 j k (by omega) (by omega) (by omega) (by omega) (by omega) (by omega)⟩
  have fault : ∀ τ c pl, flP σ c pl τ → prP s.1 0 p0 = .inl (c, pl) → Q (some (aI ((-10 : Int32) - nI c))) (pI τ 71 1 0) := by
    intro τ c pl g1 g2
    obtain ⟨f, g6, g7⟩ := g1
    have eI : ∀ j k, ¬ (j = 71 ∧ 1 ≤ k ∧ k < 29) → ¬ (74 ≤ j ∧ j ≤ 76) → j ≠ 79 → ¬ (82 ≤ j ∧ j ≤ 84) → gI (pI τ 71 1 0) j k = gI σ j k := fun j k x1 x2 x3 x4 => by rw [gI_pI, if_neg (by omega)]; exact f.2.2.2.2.1 j k (by omega) x2 x3 x4
    have eL : ∀ j k, j ≠ 71 → j ≠ 73 → j ≠ 77 → j ≠ 78 → j ≠ 80 → j ≠ 81 → gL (pI τ 71 1 0) j k = gL σ j k := f.2.2.2.2.2
    have := h (pI τ 71 1 0) f.1 f.2.1 f.2.2.1 f.2.2.2.1 (fun j k q => by rw [gI_pI, if_neg (by omega)]; exact (keep τ f).1 j k q) (keep τ f).2
    rw [spRead_l g2] at this
    refine this ⟨⟨by rw [gI_pI, if_pos ⟨rfl, rfl⟩]; rfl, fun i hi => absurd hi (by show ¬ i < 0; omega)⟩, ⟨(eI 71 29 (by omega) (by omega) (by omega) (by omega)).trans i2.1, fun i hi => ⟨(eI 85 i (by omega) (by omega) (by omega) (by omega)).trans (i2.2 i hi).1, (eL 86 i (by omega) (by omega) (by omega) (by omega) (by omega) (by omega)).trans (i2.2 i hi).2.1, (eL 87 i (by omega) (by omega) (by omega) (by omega) (by omega) (by omega)).trans (i2.2 i hi).2.2⟩⟩, (eI 71 30 (by omega) (by omega) (by omega) (by omega)).trans i3, (eI 71 31 (by omega) (by omega) (by omega) (by omega)).trans i4, fun k hk => ⟨(eL 88 k (by omega) (by omega) (by omega) (by omega) (by omega) (by omega)).trans (i5 k hk).1, (eL 89 k (by omega) (by omega) (by omega) (by omega) (by omega) (by omega)).trans (i5 k hk).2⟩, ⟨(eI 71 42 (by omega) (by omega) (by omega) (by omega)).trans i6.1, fun k f' hk => ⟨(eL 92 _ (by omega) (by omega) (by omega) (by omega) (by omega) (by omega)).trans (i6.2 k f' hk).1, (eL 92 _ (by omega) (by omega) (by omega) (by omega) (by omega) (by omega)).trans (i6.2 k f' hk).2⟩⟩, i7.of (fun j hj => eI 71 j (by omega) (by omega) (by omega) (by omega)), ?_⟩
    rw [gI_pI, if_neg (by omega)]
    exact g7
  refine sp_rnext (d := d + 3) ln0 tx0 hto (Nat.zero_le _) v2 (fun σ1 b1 k1 => ?_)
  have a1 := a0.trans b1.f
  have hko := tok_ok hto (Nat.zero_le s.1.1)
  have hle4 := hko.1
  have f61 : gI σ1 71 6 = 0 ∧ gI σ1 71 7 = -4 := ⟨(b1.2.2.2.2.1 71 6 (by omega)).trans v6, (b1.2.2.2.2.1 71 7 (by omega)).trans v7⟩
  have r1 : RLn σ1 s.1 0 p0.1 := by
    refine ⟨ln0.of b1.2.2.1, b1.tx tx0, f61, ⟨(b1.2.2.2.2.1 71 8 (by omega)).trans v8, 0, (b1.2.2.2.2.1 71 12 (by omega)).trans v12, Nat.zero_le _, fun k l hk => ?_⟩, k1, Nat.zero_le _⟩
    have hk : ([] : List Ln).reverse[k]? = some l := hk
    simp at hk
  have e40 : gI σ1 71 4 = 0 ↔ (tok s.1 0).1 = 0 := by rw [k1.1, show (0 : Int32) = nI 0 from rfl, nI_eq (by omega) (by omega)]
  show (gI σ1 71 4 = 0 → _) ∧ (¬ gI σ1 71 4 = 0 → _)
  rw [e40]
  refine ⟨fun z => ?_, fun z => ?_⟩
  · refine sp_fails (d := d + 4) (c := 2) k1 hko f61.1 (fun τ ff => ?_)
    rw [if_neg (by omega)] at ff
    have n6 : gI τ 71 6 = nI 2 := ff.2.1
    have e6 : gI (pI τ 71 1 0) 71 6 = nI 2 := by rw [gI_pI, if_neg (by omega)]; exact n6
    refine bk_R_read_43 _ ⟨fun y => by rw [n6] at y; exact absurd y (by decide), fun _ => ?_⟩
    rw [e6]
    refine ⟨fun y => absurd y (by decide), fun _ => fault τ 2 _ ⟨a1.trans ff.1, ff.2⟩ ?_⟩
    refine prP_l (Nat.zero_le _) ?_
    have e : stp p0 (tok s.1 0) = cite ((tok s.1 0).1 = 0) (.inl 2) (cite ((tok s.1 0).1 = 1 ∧ ¬ own (tok s.1 0).2.2.1 ∧ fnd [] (tok s.1 0).2.2.1 = none) (.inr (([], ([], false), [], (tok s.1 0).2.2.1), 1, 0, 0, 0, 0)) (.inl 2)) := cite_neg (by omega)
    rw [e, cite_pos z]
  · refine read_loop (d := d) hto _ 0 p0.1 _ σ1 Q rfl r1 (fun l hl => absurd hl (by show ¬ l ∈ ([] : List Ln); simp)) List.nodup_nil (by show 4 * 0 ≤ 0; omega) (fun y => absurd y z) (fun τ c pl g1 _ g3 => fault τ c pl ⟨a1.trans g1.1, g1.2⟩ g3) (fun τ b' g1 g2 g3 g4 g5 g6 g7 => ?_)
    obtain ⟨nm, rr, el⟩ := g6
    have f := a1.trans g1
    have hsp := spRead_r g7 el
    have hlo := (g5 (nm, b'.2.1.1) (by rw [el]; exact List.mem_cons_self)).1
    have h80 : b'.2.1.1.length ≤ 80 := hlo.1
    have aF : fC τ (pI (pI (pI (pI τ 71 1 0) 71 29 (gI τ 71 17)) 71 30 (gI τ 71 18)) 71 31 (gI τ 71 19)) := (((fC_pI (j := 71) (k := 1) _ (by omega)).trans (fC_pI (j := 71) (k := 29) _ (by omega))).trans (fC_pI (j := 71) (k := 30) _ (by omega))).trans (fC_pI (j := 71) (k := 31) _ (by omega))
    have x1 : gI (pI (pI (pI (pI τ 71 1 0) 71 29 (gI τ 71 17)) 71 30 (gI τ 71 18)) 71 31 (gI τ 71 19)) 71 1 = 0 := by rw [gI_pI, if_neg (by omega), gI_pI, if_neg (by omega), gI_pI, if_neg (by omega), gI_pI, if_pos ⟨rfl, rfl⟩]
    have x29 : gI (pI (pI (pI (pI τ 71 1 0) 71 29 (gI τ 71 17)) 71 30 (gI τ 71 18)) 71 31 (gI τ 71 19)) 71 29 = gI τ 71 17 := by rw [gI_pI, if_neg (by omega), gI_pI, if_neg (by omega), gI_pI, if_pos ⟨rfl, rfl⟩]
    have x30 : gI (pI (pI (pI (pI τ 71 1 0) 71 29 (gI τ 71 17)) 71 30 (gI τ 71 18)) 71 31 (gI τ 71 19)) 71 30 = gI τ 71 18 := by rw [gI_pI, if_neg (by omega), gI_pI, if_pos ⟨rfl, rfl⟩]
    have x31 : gI (pI (pI (pI (pI τ 71 1 0) 71 29 (gI τ 71 17)) 71 30 (gI τ 71 18)) 71 31 (gI τ 71 19)) 71 31 = gI τ 71 19 := by rw [gI_pI, if_pos ⟨rfl, rfl⟩]
    generalize pI (pI (pI (pI τ 71 1 0) 71 29 (gI τ 71 17)) 71 30 (gI τ 71 18)) 71 31 (gI τ 71 19) = τ1 at aF x1 x29 x30 x31
    have eI1 := aF.2.2.2.2.1
    refine sp_fin1 (d := d + 5) (ps := b'.2.1.1) h80 b'.2.1.1.length 0 τ1 Q (by omega) (g2.of aF.2.2.1) ⟨(eI1 71 17 (by omega) (by omega)).trans g4.1, (eI1 71 18 (by omega) (by omega)).trans g4.2.2.1, (eI1 71 19 (by omega) (by omega)).trans g4.2.2.2.1, fun i q hq => ?_⟩ (fun j q hj => absurd hj (by omega)) (fun τ2 c1 c2 c3 => ?_)
    · rw [eI1 79 i (by omega) (by omega), aF.2.2.2.2.2 80 i (by omega), aF.2.2.2.2.2 81 i (by omega)]
      exact g4.2.2.2.2 i q hq
    refine sp_fin2 (d := d + 5) 12 0 τ2 Q (by omega) ((g2.of aF.2.2.1).of c1.2.2.1) (fun j hj => absurd hj (by omega)) (fun τ3 d1 d2 d3 d4 d5 => ?_)
    have c := (aF.trans c1).trans d1
    have k71 : ∀ k, k ≠ 44 → gI τ3 71 k = gI τ1 71 k := fun k hk => (d3 71 k (by omega)).trans (c2 k)
    have e29 : gI τ3 71 29 = nI b'.2.1.1.length := (k71 29 (by omega)).trans (x29.trans g4.1)
    have := h τ3 (c.1.trans f.1) (c.2.1.trans f.2.1) (c.2.2.1.trans f.2.2.1) (c.2.2.2.1.trans f.2.2.2.1) (fun j k q => (c.2.2.2.2.1 j k (by omega) (by omega)).trans ((keep τ f).1 j k q)) (fun j k q => (c.2.2.2.2.2 j k (by omega)).trans ((keep τ f).2 j k q))
    rw [hsp] at this
    rw [e29]
    have c85 : ∀ j q, b'.2.1.1[j]? = some q → gI τ3 85 j = nI q.1 ∧ gL τ3 86 j = L64 q.2.1 ∧ gL τ3 87 j = L64 q.2.2 := fun j q hq => by
      rw [d3 85 j (by omega), d2 86 j (by omega) (by omega), d2 87 j (by omega) (by omega)]
      exact c3 j q hq
    refine this ⟨⟨(k71 1 (by omega)).trans x1, fun i hi => absurd hi (by show ¬ i < 0; omega)⟩, ⟨e29, fun i hi => ?_⟩, ?_, ?_, fun k hk => ?_, ⟨?_, fun k f' hk => ?_⟩, d4, ?_⟩
    · have e := List.getElem?_eq_getElem (show i < b'.2.1.1.length from hi)
      obtain ⟨e1, e2⟩ := rgL_at e
      rw [e1, e2]
      exact c85 i _ e
    · rw [k71 30 (by omega), x30, g4.2.2.1]
      show _ = nI (ahd (rgL b'.2.1.1) 3 (rgL b'.2.1.1).1)
      rw [ahd_all]
    · rw [k71 31 (by omega), x31, g4.2.2.2.1]
      show _ = nI (ahd (rgL b'.2.1.1) 4 (rgL b'.2.1.1).1)
      rw [ahd_all]
    · have hk : k < ahd (rgL b'.2.1.1) 3 (rgL b'.2.1.1).1 := hk
      have hk12 := (rgL_k hlo).1
      have hk12 : ahd (rgL b'.2.1.1) 3 (rgL b'.2.1.1).1 ≤ 12 := hk12
      exact d5 k (by omega)
    · rw [c.2.2.2.2.1 71 42 (by omega) (by omega), f.2.2.2.2.1 71 42 (by omega) (by omega) (by omega) (by omega)]
      exact i6.1
    · have e92 : ∀ i, gL τ3 92 i = gL σ 92 i := fun i => (c.2.2.2.2.2 92 i (by omega)).trans (f.2.2.2.2.2 92 i (by omega) (by omega) (by omega) (by omega) (by omega) (by omega))
      exact ⟨(e92 _).trans (i6.2 k f' hk).1, (e92 _).trans (i6.2 k f' hk).2⟩
    · rw [c.2.2.2.2.1 71 7 (by omega) (by omega)]
      exact g3
end RREAD2
