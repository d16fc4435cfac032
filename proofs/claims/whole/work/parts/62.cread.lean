/-! ===== LAYER 3, F: the component: become, read() ===== -/
def p0 : Ps := (([], ([], false), [], []), 0, 0, 0, 0, 0)
theorem p0_ok : psOK p0 := ⟨fun l hl => absurd hl (by show ¬ l ∈ ([] : List Ln); simp), by show 0 ≤ 9; omega, fun z => absurd rfl z, fun z => absurd z (by show ¬ (0 = 4 ∨ 0 = 5); omega), fun z => absurd z (by show ¬ (0 = 6 ∨ 0 = 7); omega), fun z => absurd z (by show ¬ (0 = 8 ∨ 0 = 9); omega)⟩
theorem stIC_end {b : Ba} {k : Tk} {p' : Ps} (h0 : k.1 = 0) (h : stIC b k = .inr p') : False := by
  unfold stIC at h
  have nc : ¬ clo b k := by
    rintro (⟨-, z⟩ | ⟨-, z⟩)
    · have := z.1; omega
    · have := z.1; omega
  rw [cite_neg nc] at h
  unfold stItem at h
  rw [cite_neg (by omega), cite_neg (by omega)] at h
  cases h
theorem stp_end {p p' : Ps} {k : Tk} (hp : psOK p) (h0 : k.1 = 0) (h : stp p k = .inr p') : p.2.1 = 0 ∧ p' = p ∧ p.1.1 ≠ [] := by
  unfold stp at h
  rw [cite_neg (by omega)] at h
  obtain ⟨b, m, kd, sg, ab, tm⟩ := p
  have h9 : m ≤ 9 := hp.2.1
  have ns : ∀ c, ¬ isS k c := fun c z => by have := z.1; omega
  rcases (show m = 0 ∨ m = 1 ∨ m = 2 ∨ m = 3 ∨ m = 4 ∨ m = 5 ∨ m = 6 ∨ m = 7 ∨ m = 8 ∨ m = 9 by omega) with rfl | rfl | rfl | rfl | rfl | rfl | rfl | rfl | rfl | rfl
  · have h : cite (k.1 = 0) (match b.1 with
      | [] => .inl 2
      | _ :: _ => .inr (b, 0, kd, sg, ab, tm)) (cite (k.1 = 1 ∧ ¬ own k.2.2.1 ∧ fnd b.1 k.2.2.1 = none) (.inr ((b.1, ([], false), [], k.2.2.1), 1, 0, 0, 0, 0)) (.inl 2)) = (.inr p' : Nat ⊕ Ps) := h
    rw [cite_pos h0] at h
    cases e : b.1 with
    | nil => rw [e] at h; cases h
    | cons x r =>
      rw [e] at h
      have h : (.inr (b, 0, kd, sg, ab, tm) : Nat ⊕ Ps) = .inr p' := h
      cases h
      exact ⟨rfl, rfl, by simp⟩
  · have h : cite (isS k 61) (.inr (b, 2, 0, 0, 0, 0)) (.inl 2) = (.inr p' : Nat ⊕ Ps) := h
    rw [cite_neg (ns 61)] at h; cases h
  · have h : stItem b k = .inr p' := h
    unfold stItem at h
    rw [cite_neg (by omega), cite_neg (by omega)] at h
    cases h
  · exact absurd h (fun z => stIC_end h0 z)
  · have h : cite (isS k 45) (.inr (b, 5, kd, -1, 0, 0)) (stAb b kd sg k) = (.inr p' : Nat ⊕ Ps) := h
    rw [cite_neg (ns 45)] at h
    unfold stAb at h
    rw [cite_neg (by omega)] at h
    cases h
  · have h : stAb b kd sg k = .inr p' := h
    unfold stAb at h
    rw [cite_neg (by omega)] at h
    cases h
  · have h : cite (isS k 47) (.inr (b, 7, kd, 0, ab, 0)) (stIC (endP b kd ab 1) k) = (.inr p' : Nat ⊕ Ps) := h
    rw [cite_neg (ns 47)] at h
    exact absurd h (fun z => stIC_end h0 z)
  · have h : cite (k.1 = 2 ∧ k.2.1 ≠ 0) (.inr (endP b kd ab k.2.1, 3, 0, 0, 0, 0)) (.inl 2) = (.inr p' : Nat ⊕ Ps) := h
    rw [cite_neg (fun z => by have := z.1; omega)] at h; cases h
  · have h : cite (isS k 42) (.inr (b, 9, 0, 0, 0, tm)) (.inl 2) = (.inr p' : Nat ⊕ Ps) := h
    rw [cite_neg (ns 42)] at h; cases h
  · have h : cite (isS k 40) (cite (6 ≤ b.2.2.1.length) (.inl 3) (.inr ((b.1, b.2.1, (b.2.1.1.length, tm) :: b.2.2.1, b.2.2.2), 2, 0, 0, 0, 0))) (.inl 2) = (.inr p' : Nat ⊕ Ps) := h
    rw [cite_neg (ns 40)] at h; cases h
theorem prP_end {t : Tx} (hto : txOK t) : ∀ (m a : Nat) (p p' : Ps), t.1 + 1 - a = m → a ≤ t.1 → psOK p → prP t a p = .inr p' → p'.1.1 ≠ [] ∧ psOK p' := by
  intro m
  induction m using Nat.strongRecOn with
  | ind m ih =>
    intro a p p' hm ha hpo h
    have hko := tok_ok hto ha
    have hpos := tok_pos ha
    cases e : stp p (tok t a) with
    | inl c => rw [prP_l ha e] at h; cases h
    | inr q =>
      by_cases z : (tok t a).1 = 0
      · rw [prP_e ha e z] at h
        cases h
        obtain ⟨-, h2, h3⟩ := stp_end hpo z e
        rw [h2]
        exact ⟨h3, hpo⟩
      · rw [prP_s ha e z] at h
        have hlt := hpos.2.2.2.1 z
        exact ih _ (by omega) _ q p' rfl hpos.1 (stp_ok hpo hko e) h
/-- a line's PARTS as a ring -/
def rgL (ps : List Pt) : Rg := (ps.length, (fun i => (ps.getD i (0, (0, 1))).1), (fun i => (ps.getD i (0, (0, 1))).2))
theorem rgL_at {ps : List Pt} {i : Nat} {q : Pt} (h : ps[i]? = some q) : (rgL ps).2.1 i = q.1 ∧ (rgL ps).2.2 i = q.2 := by
  have e : ps.getD i (0, (0, 1)) = q := by rw [List.getD_eq_getElem?_getD, h]; rfl
  exact ⟨by show (ps.getD i (0, (0, 1))).1 = _; rw [e], by show (ps.getD i (0, (0, 1))).2 = _; rw [e]⟩
theorem rgL_ok {ps : List Pt} (h : rwOK (ps, false)) : rgOK (rgL ps) := by
  refine ⟨h.1, fun i hi => ?_⟩
  have hi : i < ps.length := hi
  have e := List.getElem?_eq_getElem hi
  obtain ⟨e1, e2⟩ := rgL_at e
  rw [e1, e2]
  have := h.2.2.2 _ (List.getElem_mem hi)
  exact ⟨this.1, this.2.1⟩
theorem ahd_cnt (ps : List Pt) (c : Nat) : ∀ n, n ≤ ps.length → ahd (rgL ps) c n = cntK c (ps.take n)
  | 0, _ => rfl
  | n + 1, h => by
    have hn : n < ps.length := h
    have e := List.getElem?_eq_getElem hn
    rw [List.take_succ_eq_append_getElem hn, cntK_app, ← ahd_cnt ps c n (by omega)]
    show (if (rgL ps).2.1 n = c then ahd (rgL ps) c n + 1 else ahd (rgL ps) c n) = _
    rw [(rgL_at e).1]
    split <;> omega
theorem rgL_k {ps : List Pt} (h : rwOK (ps, false)) : rkOK (rgL ps) := by
  have e : ∀ c, ahd (rgL ps) c (rgL ps).1 = cntK c ps := fun c => by
    show ahd (rgL ps) c ps.length = _
    rw [ahd_cnt ps c _ (Nat.le_refl _), List.take_length]
  unfold rkOK
  rw [e, e]
  exact ⟨h.2.1, h.2.2.1⟩
/-- what becoming changes -/
def be (σ τ : St) : Prop := sN τ = sN σ ∧ sS τ = sS σ ∧ gN τ = gN σ ∧ (∀ j k, ¬ (j = 11 ∧ k = 0) → gR τ j k = gR σ j k) ∧ (∀ j k, j ≠ 11 → j ≠ 26 → j ≠ 27 → j ≠ 28 → gI τ j k = gI σ j k) ∧ ∀ j k, (j < 14 ∨ 25 < j) → gL τ j k = gL σ j k
theorem be.rf (σ : St) : be σ σ := ⟨rfl, rfl, rfl, fun _ _ _ => rfl, fun _ _ _ _ _ _ => rfl, fun _ _ _ => rfl⟩
theorem be.trans {σ τ υ : St} (h : be σ τ) (g : be τ υ) : be σ υ := ⟨g.1.trans h.1, g.2.1.trans h.2.1, g.2.2.1.trans h.2.2.1, fun j k q => (g.2.2.2.1 j k q).trans (h.2.2.2.1 j k q), fun j k a b c e => (g.2.2.2.2.1 j k a b c e).trans (h.2.2.2.2.1 j k a b c e), fun j k q => (g.2.2.2.2.2 j k q).trans (h.2.2.2.2.2 j k q)⟩
theorem be_pI {σ : St} {j : Nat} (k : Nat) (v : Int32) (h : j = 11 ∨ j = 26 ∨ j = 27 ∨ j = 28) : be σ (pI σ j k v) := ⟨rfl, rfl, rfl, fun _ _ _ => rfl, fun a b _ _ _ _ => by rw [gI_pI, if_neg (by omega)], fun _ _ _ => rfl⟩
theorem be_stF {σ : St} {j : Nat} (f : Int × Nat) (h : 14 ≤ j ∧ j ≤ 25) : be σ (stF σ j f) := ⟨rfl, rfl, rfl, fun _ _ _ => rfl, fun _ _ _ _ _ _ => rfl, fun a b q => (stF_ar σ j f).2.2.2.2.2 a (fun z => by have := List.mem_singleton.mp z; omega) b⟩
/-- how far the ring's rows are laid -/
def beI (σ : St) (r : Rg) (i : Nat) : Prop := gI σ 11 6 = nI (ahd r 3 i) ∧ gI σ 11 7 = nI (ahd r 4 i) ∧ (∀ j, j < i → (r.2.1 j = 3 → gI σ 28 j = nI (ahd r 3 j) ∧ gI σ 26 (ahd r 3 j) = nI j) ∧ (r.2.1 j = 4 → gI σ 27 (ahd r 4 j) = nI j)) ∧ ∀ k, k < ahd r 3 i → isF σ (14 + k) (0, 1)
theorem be.RC {σ τ : St} {r : Rg} (h : be σ τ) (e0 : gR τ 11 0 = gR σ 11 0) (e1 : gI τ 11 1 = gI σ 11 1) (hr : RC σ r) : RC τ r := by
  obtain ⟨h1, h2, h3, h4⟩ := hr
  refine ⟨e1.trans h1, by rw [e0]; exact h2, by rw [e0, h.2.2.1]; exact h3, fun i hi => ?_⟩
  obtain ⟨a1, a2, a3, a4⟩ := h4 i hi
  have hP := h.2.2.2.1
  rw [e0]
  by_cases z : gR σ 11 0 = 11 ∧ i = 0
  · exfalso
    rw [z.1, z.2] at a1
    rw [z.1] at a1
    omega
  rw [hP _ _ z]
  rw [hP _ 1 (by omega)]
  exact ⟨a1, (h.2.2.2.2.1 _ 0 (by omega) (by omega) (by omega) (by omega)).trans a2, a3, (h.2.2.2.2.2 _ 0 (by omega)).trans a4.1, (h.2.2.2.2.2 _ 1 (by omega)).trans a4.2⟩
section CREAD
variable {d : Nat}
theorem sp_become_loop {r : Rg} (hro : rgOK r) (hrk : rkOK r) : ∀ (m i : Nat) (u1 : AV) (σ : St) (Q : Option AV → St → Prop), i + m = r.1 → LN σ → LA σ → RC σ r → beI σ r i → (∀ τ, be σ τ → gR τ 11 0 = gR σ 11 0 → RC τ r → beI τ r r.1 → Q none τ) → Wp lay1 rtOf (Cl lay1 (d + 2)) k_Ri_become 0 Q (34, [aO 8 11, u1, aI (nI i)], [], σ) := by
  have h80 := hro.1
  obtain ⟨hk12, hl12⟩ := hrk
  intro m
  induction m with
  | zero =>
    intro i u1 σ Q hm hln hla hr hI h
    have e : i = r.1 := by omega
    subst e
    refine bk_Ri_become_34 _ _ ⟨fun _ => h σ (be.rf _) rfl hr hI, fun c => absurd ?_ c⟩
    rw [hr.1]
    exact (nI_leI (by omega) (by omega)).mpr (by omega)
  | succ m ih =>
    intro i u1 σ Q hm hln hla hr hI h
    have hlt : i < r.1 := by omega
    obtain ⟨g1, g2, g3, g4⟩ := id hr
    obtain ⟨p1, p2, -, -⟩ := g4 i hlt
    obtain ⟨hk4, -⟩ := hro.2 i hlt
    obtain ⟨-, -, q3, -, q4⟩ := nIk hk4
    obtain ⟨I6, I7, IA, IF⟩ := id hI
    have m3 := ahd_mono (r := r) (c := 3) (show i + 1 ≤ r.1 by omega)
    have m4 := ahd_mono (r := r) (c := 4) (show i + 1 ≤ r.1 by omega)
    have ek : gI σ (gR σ (gR σ 11 0) (ix (nI i))) 0 = nI (r.2.1 i) := by rw [ix_nI (by omega)]; exact p2
    have bP : inb (nI i) (gN σ (gR σ 11 0)) := by rw [g3]; exact inb_nI hlt (by omega)
    have nP : gR σ (gR σ 11 0) (ix (nI i)) ≠ 0 := by rw [ix_nI (by omega)]; omega
    refine bk_Ri_become_34 _ _ ⟨fun c => absurd c ?_, fun _ => nn_of g2 ⟨bP, nn_of nP ⟨fun c3 => ⟨fun z => absurd z ?_, fun _ => ?_⟩, fun c3 => nn_of g2 ⟨bP, nn_of nP ⟨fun c4 => ⟨fun z => absurd z ?_, fun _ => ?_⟩, fun c4 => ?_⟩⟩⟩⟩⟩
    · rw [g1, nI_leI (by omega) (by omega)]; omega
    · rw [ek, q3] at c3
      rcases ahd_step r 3 i with ⟨e, -⟩ | ⟨-, e⟩
      · rw [I6, show (12 : Int32) = nI 12 from rfl, nI_leI (by omega) (by omega)]; omega
      · exact absurd c3 e
    · rw [ek, q3] at c3
      have s3 : ahd r 3 (i + 1) = ahd r 3 i + 1 := by
        rcases ahd_step r 3 i with ⟨e, -⟩ | ⟨-, e⟩
        · exact e
        · exact absurd c3 e
      have s4 : ahd r 4 (i + 1) = ahd r 4 i := by
        rcases ahd_step r 4 i with ⟨-, e⟩ | ⟨e, -⟩
        · omega
        · exact e
      rw [I6, ix_nI (show i < 2147483648 by omega)]
      have f1 : gI (pI σ 28 i (nI (ahd r 3 i))) 11 6 = nI (ahd r 3 i) := by rw [gI_pI, if_neg (by omega)]; exact I6
      rw [f1, ix_nI (by omega)]
      have f2 : gI (pI (pI σ 28 i (nI (ahd r 3 i))) 26 (ahd r 3 i) (nI i)) 11 6 = nI (ahd r 3 i) := by rw [gI_pI, if_neg (by omega)]; exact f1
      have f3 : ∀ a b, gR (pI (pI σ 28 i (nI (ahd r 3 i))) 26 (ahd r 3 i) (nI i)) a b = gR σ a b := fun _ _ => rfl
      rw [f2, ix_nI (by omega), f3, hla.2.2 _ (by omega)]
      refine ⟨by rw [hln.at 28 80 (by decide)]; exact inb_nI (by omega) (by omega), by show inb _ (gN σ 26); rw [hln.at 26 12 (by decide)]; exact inb_nI (by omega) (by omega), by show inb _ (gN σ 13); rw [hln.at 13 12 (by decide)]; exact inb_nI (by omega) (by omega), nn_of (by omega) ?_⟩
      rw [show 14 + ahd r 3 i = (13 + ahd r 3 i) + 1 by omega]
      refine sp_put1 (d := d) (a := 0) (by decide) ?_
      have a1 : be σ (stF (pI (pI σ 28 i (nI (ahd r 3 i))) 26 (ahd r 3 i) (nI i)) (13 + ahd r 3 i + 1) (0, 1)) := ((be_pI (j := 28) i (nI (ahd r 3 i)) (by omega)).trans (be_pI (j := 26) (ahd r 3 i) (nI i) (by omega))).trans (be_stF (j := 13 + ahd r 3 i + 1) (0, 1) (by omega))
      have j1 : ∀ a b, gI (stF (pI (pI σ 28 i (nI (ahd r 3 i))) 26 (ahd r 3 i) (nI i)) (13 + ahd r 3 i + 1) (0, 1)) a b = gI (pI (pI σ 28 i (nI (ahd r 3 i))) 26 (ahd r 3 i) (nI i)) a b := fun _ _ => rfl
      have j2 := stF_is (pI (pI σ 28 i (nI (ahd r 3 i))) 26 (ahd r 3 i) (nI i)) (13 + ahd r 3 i + 1) (0, 1)
      have j3 := stF_ar (pI (pI σ 28 i (nI (ahd r 3 i))) 26 (ahd r 3 i) (nI i)) (13 + ahd r 3 i + 1) (0, 1)
      have jR : ∀ a b, gR (stF (pI (pI σ 28 i (nI (ahd r 3 i))) 26 (ahd r 3 i) (nI i)) (13 + ahd r 3 i + 1) (0, 1)) a b = gR σ a b := fun _ _ => rfl
      generalize stF (pI (pI σ 28 i (nI (ahd r 3 i))) 26 (ahd r 3 i) (nI i)) (13 + ahd r 3 i + 1) (0, 1) = σ1 at a1 j1 j2 j3 jR
      have k6 : gI σ1 11 6 = nI (ahd r 3 i) := (j1 11 6).trans f2
      show nn (gR (pI σ1 11 6 (gI σ1 11 6 + 1)) 11 0) _
      rw [k6, nI_1]
      have a2 : be σ (pI σ1 11 6 (nI (ahd r 3 i + 1))) := a1.trans (be_pI (j := 11) 6 (nI (ahd r 3 i + 1)) (by omega))
      have R0 : ∀ a b, gR (pI σ1 11 6 (nI (ahd r 3 i + 1))) a b = gR σ a b := jR
      have K0 : ∀ a b, ¬ (a = 11 ∧ b = 6) → gI (pI σ1 11 6 (nI (ahd r 3 i + 1))) a b = gI (pI (pI σ 28 i (nI (ahd r 3 i))) 26 (ahd r 3 i) (nI i)) a b := fun a b q => by rw [gI_pI, if_neg q]; exact j1 a b
      have K6 : gI (pI σ1 11 6 (nI (ahd r 3 i + 1))) 11 6 = nI (ahd r 3 i + 1) := by rw [gI_pI, if_pos ⟨rfl, rfl⟩]
      have N0 : gN (pI σ1 11 6 (nI (ahd r 3 i + 1))) = gN σ := a2.2.2.1
      have F0 : ∀ k, k < ahd r 3 (i + 1) → isF (pI σ1 11 6 (nI (ahd r 3 i + 1))) (14 + k) (0, 1) := fun k hk => by
        show isF σ1 (14 + k) (0, 1)
        by_cases e : k = ahd r 3 i
        · rw [e, show 14 + ahd r 3 i = 13 + ahd r 3 i + 1 by omega]; exact j2
        · exact j3.F (fun z => by have := List.mem_singleton.mp z; omega) (IF k (by omega))
      generalize pI σ1 11 6 (nI (ahd r 3 i + 1)) = σ2 at a2 R0 K0 K6 N0 F0
      rw [R0, R0, N0]
      have hr2 : RC σ2 r := a2.RC (R0 11 0) (by rw [K0 11 1 (by omega), gI_pI, if_neg (by omega), gI_pI, if_neg (by omega)]) hr
      have ek2 : gI σ2 (gR σ (gR σ 11 0) i) 0 = nI (r.2.1 i) := by rw [K0 _ 0 (by omega), gI_pI, if_neg (by omega), gI_pI, if_neg (by omega)]; exact p2
      refine nn_of g2 ⟨by rw [g3]; exact inb_nI hlt (by omega), nn_of (by omega) ⟨fun c4 => ?_, fun _ => ?_⟩⟩
      · rw [ek2, q4] at c4; omega
      rw [nI_1]
      refine ih (i + 1) _ σ2 Q (by omega) (hln.of N0) ⟨fun k hk => (R0 51 k).trans (hla.1 k hk), fun k hk => (R0 50 k).trans (hla.2.1 k hk), fun k hk => (R0 13 k).trans (hla.2.2 k hk)⟩ hr2 ⟨by rw [s3]; exact K6, ?_, fun j hj => ?_, F0⟩ (fun τ b1 b2 b3 b4 => h τ (a2.trans b1) (b2.trans (R0 11 0)) b3 b4)
      · rw [s4, K0 11 7 (by omega), gI_pI, if_neg (by omega), gI_pI, if_neg (by omega)]; exact I7
      · have hk28 : gI σ2 28 j = if j = i then nI (ahd r 3 i) else gI σ 28 j := by
          rw [K0 28 j (by omega), gI_pI, if_neg (by omega), gI_pI]
          by_cases e : j = i
          · rw [if_pos ⟨rfl, e⟩, if_pos e]
          · rw [if_neg (by omega), if_neg e]
        have hk27 : ∀ x, gI σ2 27 x = gI σ 27 x := fun x => by rw [K0 27 x (by omega), gI_pI, if_neg (by omega), gI_pI, if_neg (by omega)]
        have hk26 : ∀ x, gI σ2 26 x = if x = ahd r 3 i then nI i else gI σ 26 x := fun x => by
          rw [K0 26 x (by omega), gI_pI]
          by_cases e : x = ahd r 3 i
          · rw [if_pos ⟨rfl, e⟩, if_pos e]
          · rw [if_neg (by omega), if_neg e, gI_pI, if_neg (by omega)]
        by_cases e : j = i
        · subst e
          refine ⟨fun _ => ⟨by rw [hk28, if_pos rfl], by rw [hk26, if_pos rfl]⟩, fun z => absurd z (by omega)⟩
        · refine ⟨fun z => ?_, fun z => ?_⟩
          · have hne : ahd r 3 j ≠ ahd r 3 i := fun y => e (ahd_inj z c3 y)
            rw [hk28, if_neg e, hk26, if_neg hne]
            exact (IA j (by omega)).1 z
          · rw [hk27]
            exact (IA j (by omega)).2 z
    · rw [ek, q4] at c4
      rcases ahd_step r 4 i with ⟨e, -⟩ | ⟨-, e⟩
      · rw [I7, show (12 : Int32) = nI 12 from rfl, nI_leI (by omega) (by omega)]; omega
      · exact absurd c4 e
    · rw [ek, q3] at c3
      rw [ek, q4] at c4
      have s4 : ahd r 4 (i + 1) = ahd r 4 i + 1 := by
        rcases ahd_step r 4 i with ⟨e, -⟩ | ⟨-, e⟩
        · exact e
        · exact absurd c4 e
      have s3 : ahd r 3 (i + 1) = ahd r 3 i := by
        rcases ahd_step r 3 i with ⟨-, e⟩ | ⟨e, -⟩
        · omega
        · exact e
      rw [I7, ix_nI (by omega)]
      have f1 : gI (pI σ 27 (ahd r 4 i) (nI i)) 11 7 = nI (ahd r 4 i) := by rw [gI_pI, if_neg (by omega)]; exact I7
      rw [f1, nI_1, nI_1]
      refine ⟨by rw [hln.at 27 12 (by decide)]; exact inb_nI (by omega) (by omega), ?_⟩
      have a2 : be σ (pI (pI σ 27 (ahd r 4 i) (nI i)) 11 7 (nI (ahd r 4 i + 1))) := (be_pI (j := 27) (ahd r 4 i) (nI i) (by omega)).trans (be_pI (j := 11) 7 (nI (ahd r 4 i + 1)) (by omega))
      have hr2 : RC (pI (pI σ 27 (ahd r 4 i) (nI i)) 11 7 (nI (ahd r 4 i + 1))) r := a2.RC rfl (by rw [gI_pI, if_neg (by omega), gI_pI, if_neg (by omega)]) hr
      refine ih (i + 1) _ _ Q (by omega) (hln.of rfl) (hla.of rfl) hr2 ⟨?_, ?_, fun j hj => ?_, fun k hk => IF k (by omega)⟩ (fun τ b1 b2 b3 b4 => h τ (a2.trans b1) b2 b3 b4)
      · rw [s3, gI_pI, if_neg (by omega), gI_pI, if_neg (by omega)]; exact I6
      · rw [s4, gI_pI, if_pos ⟨rfl, rfl⟩]
      · rw [gI_pI, if_neg (by omega), gI_pI, if_neg (by omega), gI_pI, if_neg (by omega), gI_pI, if_neg (by omega), gI_pI, if_neg (by omega), gI_pI]
        by_cases e : j = i
        · subst e
          exact ⟨fun z => absurd z c3, fun _ => by rw [if_pos ⟨rfl, rfl⟩]⟩
        · refine ⟨(IA j (by omega)).1, fun z => ?_⟩
          have hne : ahd r 4 j ≠ ahd r 4 i := fun y => e (ahd_inj z c4 y)
          rw [if_neg (by omega)]
          exact (IA j (by omega)).2 z
    · rw [ek, q3] at c3
      rw [ek, q4] at c4
      have s4 : ahd r 4 (i + 1) = ahd r 4 i := by
        rcases ahd_step r 4 i with ⟨-, e⟩ | ⟨e, -⟩
        · exact absurd e c4
        · exact e
      have s3 : ahd r 3 (i + 1) = ahd r 3 i := by
        rcases ahd_step r 3 i with ⟨-, e⟩ | ⟨e, -⟩
        · exact absurd e c3
        · exact e
      rw [nI_1]
      refine ih (i + 1) _ σ Q (by omega) hln hla hr ⟨by rw [s3]; exact I6, by rw [s4]; exact I7, fun j hj => ?_, fun k hk => IF k (by omega)⟩ h
      by_cases e : j = i
      · subst e
        exact ⟨fun z => absurd z c3, fun z => absurd z c4⟩
      · exact IA j (by omega)
end CREAD
