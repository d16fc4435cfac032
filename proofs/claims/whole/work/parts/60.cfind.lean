/-! ===== LAYER 3, F: the component's reader: take, findFault ===== -/
theorem psOK_b {b : Ba} {m : Nat} (hb : baOK b) (hm : 1 ≤ m ∧ m ≤ 3) (x : Nat) (y z : Int) (w : Nat) : psOK (b, m, x, y, z, w) := ⟨hb.1, by show m ≤ 9; omega, fun _ => hb, fun q => absurd q (by show ¬ (m = 4 ∨ m = 5); omega), fun q => absurd q (by show ¬ (m = 6 ∨ m = 7); omega), fun q => absurd q (by show ¬ (m = 8 ∨ m = 9); omega)⟩
theorem fnd_mem {ls : List Ln} {nm : List Nat} {ps : List Pt} (h : fnd ls nm = some ps) : ∃ l ∈ ls, l.1 = nm ∧ l.2 = ps := by
  unfold fnd at h
  cases e : ls.find? (fun x => decide (x.1 = nm)) with
  | none => rw [e] at h; cases h
  | some l =>
    rw [e] at h
    have h2 := of_decide_eq_true (p := l.1 = nm) (List.find?_some (p := fun x : Ln => decide (x.1 = nm)) e)
    exact ⟨l, List.mem_of_find?_eq_some e, h2, Option.some.inj h⟩
theorem stItem_ok {b : Ba} {k : Tk} {p' : Ps} (hb : baOK b) (hk : tkOK k) (h : stItem b k = .inr p') : psOK p' := by
  unfold stItem at h
  by_cases c : k.1 = 2
  · rw [cite_pos c] at h
    by_cases c2 : 1 ≤ k.2.1 ∧ k.2.1 ≤ 40
    · rw [cite_pos c2] at h
      cases h
      exact ⟨hb.1, by show 8 ≤ 9; omega, fun _ => hb, fun q => absurd q (by show ¬ (8 = 4 ∨ 8 = 5); omega), fun q => absurd q (by show ¬ (8 = 6 ∨ 8 = 7); omega), fun _ => c2⟩
    · rw [cite_neg c2] at h; cases h
  rw [cite_neg c] at h
  by_cases c1 : k.1 ≠ 1
  · rw [cite_neg c1] at h; cases h
  have c1 : k.1 = 1 := Classical.not_not.mp c1
  rw [cite_pos c1] at h
  have bg : ∀ kd : Nat, kd ≤ 2 → psOK (b, 4, kd, 1, 0, 0) := fun kd hkd => ⟨hb.1, by show 4 ≤ 9; omega, fun _ => hb, fun _ => ⟨hkd, Or.inl rfl⟩, fun q => absurd q (by show ¬ (4 = 6 ∨ 4 = 7); omega), fun q => absurd q (by show ¬ (4 = 8 ∨ 4 = 9); omega)⟩
  by_cases e4 : k.2.2.1 = [4]
  · rw [cite_pos e4] at h; cases h; exact bg 0 (by omega)
  rw [cite_neg e4] at h
  by_cases e17 : k.2.2.1 = [17]
  · rw [cite_pos e17] at h; cases h; exact bg 1 (by omega)
  rw [cite_neg e17] at h
  by_cases e19 : k.2.2.1 = [19]
  · rw [cite_pos e19] at h; cases h; exact bg 2 (by omega)
  rw [cite_neg e19] at h
  by_cases e11 : k.2.2.1 = [11]
  · rw [cite_pos e11] at h; cases h; exact psOK_b (endP_ok hb (by omega) (by decide) (by omega)) (by omega) _ _ _ _
  rw [cite_neg e11] at h
  by_cases e13 : k.2.2.1 = [13]
  · rw [cite_pos e13] at h; cases h; exact psOK_b (endP_ok hb (by omega) (by decide) (by omega)) (by omega) _ _ _ _
  rw [cite_neg e13] at h
  cases e : fnd b.1 k.2.2.1 with
  | none => rw [e] at h; cases h
  | some l =>
    rw [e] at h
    cases h
    obtain ⟨ln, hm, -, e2⟩ := fnd_mem e
    have hlo := (hb.1 ln hm).1
    rw [e2] at hlo
    obtain ⟨x, hx⟩ := rfold_ext l b.2.1
    exact psOK_b (hb.row (rfold_ok hb.2.1 (fun q hq => hlo.2.2.2 q hq)) (by rw [hx, List.length_append]; omega)) (by omega) _ _ _ _
theorem stClose_ok {b : Ba} {p' : Ps} (hb : baOK b) (h : stClose b = .inr p') : psOK p' := by
  unfold stClose at h
  cases e : b.2.2.1 with
  | nil =>
    rw [e] at h
    have h : cite (b.2.1.2 = true) (.inl 4) (.inr (((b.2.2.2, b.2.1.1) :: b.1, b.2.1, [], b.2.2.2), 0, 0, 0, 0, 0)) = (.inr p' : Nat ⊕ Ps) := h
    by_cases c : b.2.1.2 = true
    · rw [cite_pos c] at h; cases h
    · rw [cite_neg c] at h
      cases h
      refine ⟨fun l hl => ?_, by show 0 ≤ 9; omega, fun z => absurd rfl z, fun z => absurd z (by show ¬ (0 = 4 ∨ 0 = 5); omega), fun z => absurd z (by show ¬ (0 = 6 ∨ 0 = 7); omega), fun z => absurd z (by show ¬ (0 = 8 ∨ 0 = 9); omega)⟩
      rcases List.mem_cons.mp hl with q | q
      · rw [q]; exact ⟨hb.2.1, hb.2.2.2⟩
      · exact hb.1 l q
  | cons q r =>
    rw [e] at h
    have h : (.inr ((b.1, rrep b.2.1 q.1 q.2, r, b.2.2.2), 3, 0, 0, 0, 0) : Nat ⊕ Ps) = .inr p' := h
    cases h
    obtain ⟨x, hx⟩ := rrepN_ext (b.2.1.1.drop q.1) (q.2 - 1) b.2.1
    have hlen : b.2.1.1.length ≤ (rrep b.2.1 q.1 q.2).1.length := by
      show _ ≤ (rrepN (b.2.1.1.drop q.1) (q.2 - 1) b.2.1).1.length
      rw [hx, List.length_append]
      omega
    have h6 := hb.2.2.1.1
    rw [e] at h6
    have h6 : r.length + 1 ≤ 6 := h6
    refine psOK_b (b := (b.1, rrep b.2.1 q.1 q.2, r, b.2.2.2)) ⟨hb.1, rrep_ok hb.2.1, ⟨by show r.length ≤ 6; omega, fun x hx => ?_⟩, hb.2.2.2⟩ (by omega) _ _ _ _
    obtain ⟨z1, z2⟩ := hb.2.2.1.2 x (by rw [e]; exact List.mem_cons_of_mem _ hx)
    exact ⟨Nat.le_trans z1 hlen, z2⟩
theorem stIC_ok {b : Ba} {k : Tk} {p' : Ps} (hb : baOK b) (hk : tkOK k) (h : stIC b k = .inr p') : psOK p' := by
  unfold stIC at h
  by_cases c : clo b k
  · rw [cite_pos c] at h; exact stClose_ok hb h
  · rw [cite_neg c] at h; exact stItem_ok hb hk h
theorem stAb_ok {b : Ba} {k : Tk} {kd : Nat} {sg : Int} {p' : Ps} (hb : baOK b) (hk : tkOK k) (hkd : kd ≤ 2) (hsg : sg = 1 ∨ sg = -1) (h : stAb b kd sg k = .inr p') : psOK p' := by
  unfold stAb at h
  by_cases c : k.1 ≠ 2
  · rw [cite_neg c] at h; cases h
  have c : k.1 = 2 := Classical.not_not.mp c
  rw [cite_pos c] at h
  have hv := hk.2.2.1 c
  have ha : (sg * (k.2.1 : Int)).natAbs ≤ 9999 := by
    rcases hsg with q | q <;> rw [q] <;> omega
  by_cases c2 : kd = 2
  · rw [cite_pos c2] at h; cases h; exact psOK_b (endP_ok hb (by omega) ha (by omega)) (by omega) _ _ _ _
  · rw [cite_neg c2] at h; cases h
    exact ⟨hb.1, by show 6 ≤ 9; omega, fun _ => hb, fun q => absurd q (by show ¬ (6 = 4 ∨ 6 = 5); omega), fun _ => ⟨hkd, ha⟩, fun q => absurd q (by show ¬ (6 = 8 ∨ 6 = 9); omega)⟩
theorem stp_ok {p p' : Ps} {k : Tk} (hp : psOK p) (hk : tkOK k) (h : stp p k = .inr p') : psOK p' := by
  unfold stp at h
  by_cases c4 : k.1 = 4
  · rw [cite_pos c4] at h; cases h
  rw [cite_neg c4] at h
  obtain ⟨b, m, kd, sg, ab, tm⟩ := p
  obtain ⟨h1, h9, hb, r45, r67, r89⟩ := hp
  have h9 : m ≤ 9 := h9
  rcases (show m = 0 ∨ m = 1 ∨ m = 2 ∨ m = 3 ∨ m = 4 ∨ m = 5 ∨ m = 6 ∨ m = 7 ∨ m = 8 ∨ m = 9 by omega) with rfl | rfl | rfl | rfl | rfl | rfl | rfl | rfl | rfl | rfl
  · have h : cite (k.1 = 0) (match b.1 with
      | [] => .inl 2
      | _ :: _ => .inr (b, 0, kd, sg, ab, tm)) (cite (k.1 = 1 ∧ ¬ own k.2.2.1 ∧ fnd b.1 k.2.2.1 = none) (.inr ((b.1, ([], false), [], k.2.2.1), 1, 0, 0, 0, 0)) (.inl 2)) = (.inr p' : Nat ⊕ Ps) := h
    by_cases c : k.1 = 0
    · rw [cite_pos c] at h
      cases e : b.1 with
      | nil => rw [e] at h; cases h
      | cons x r =>
        rw [e] at h
        have h : (.inr (b, 0, kd, sg, ab, tm) : Nat ⊕ Ps) = .inr p' := h
        cases h
        exact ⟨h1, h9, hb, r45, r67, r89⟩
    · rw [cite_neg c] at h
      by_cases c1 : k.1 = 1 ∧ ¬ own k.2.2.1 ∧ fnd b.1 k.2.2.1 = none
      · rw [cite_pos c1] at h; cases h
        exact psOK_b (b := (b.1, ([], false), [], k.2.2.1)) ⟨h1, ⟨by show 0 ≤ 80; omega, by show 0 ≤ 12; omega, by show 0 ≤ 12; omega, fun q hq => absurd hq (by simp)⟩, ⟨by show 0 ≤ 6; omega, fun q hq => absurd hq (by simp)⟩, hk.2.1 c1.1⟩ (by omega) _ _ _ _
      · rw [cite_neg c1] at h; cases h
  · have h : cite (isS k 61) (.inr (b, 2, 0, 0, 0, 0)) (.inl 2) = (.inr p' : Nat ⊕ Ps) := h
    by_cases c : isS k 61
    · rw [cite_pos c] at h; cases h; exact psOK_b (hb (Nat.succ_ne_zero _)) (by omega) _ _ _ _
    · rw [cite_neg c] at h; cases h
  · exact stItem_ok (hb (Nat.succ_ne_zero _)) hk h
  · exact stIC_ok (hb (Nat.succ_ne_zero _)) hk h
  · have h : cite (isS k 45) (.inr (b, 5, kd, -1, 0, 0)) (stAb b kd sg k) = (.inr p' : Nat ⊕ Ps) := h
    obtain ⟨q1, q2⟩ := r45 (Or.inl rfl)
    by_cases c : isS k 45
    · rw [cite_pos c] at h; cases h
      exact ⟨h1, by show 5 ≤ 9; omega, fun _ => hb (Nat.succ_ne_zero _), fun _ => ⟨q1, Or.inr rfl⟩, fun q => absurd q (by show ¬ (5 = 6 ∨ 5 = 7); omega), fun q => absurd q (by show ¬ (5 = 8 ∨ 5 = 9); omega)⟩
    · rw [cite_neg c] at h; exact stAb_ok (hb (Nat.succ_ne_zero _)) hk q1 q2 h
  · obtain ⟨q1, q2⟩ := r45 (Or.inr rfl)
    exact stAb_ok (hb (Nat.succ_ne_zero _)) hk q1 q2 h
  · have h : cite (isS k 47) (.inr (b, 7, kd, 0, ab, 0)) (stIC (endP b kd ab 1) k) = (.inr p' : Nat ⊕ Ps) := h
    obtain ⟨q1, q2⟩ := r67 (Or.inl rfl)
    have q1 : kd ≤ 2 := q1
    by_cases c : isS k 47
    · rw [cite_pos c] at h; cases h
      exact ⟨h1, by show 7 ≤ 9; omega, fun _ => hb (Nat.succ_ne_zero _), fun q => absurd q (by show ¬ (7 = 4 ∨ 7 = 5); omega), fun _ => ⟨q1, q2⟩, fun q => absurd q (by show ¬ (7 = 8 ∨ 7 = 9); omega)⟩
    · rw [cite_neg c] at h; exact stIC_ok (endP_ok (hb (Nat.succ_ne_zero _)) (by omega) q2 (by omega)) hk h
  · have h : cite (k.1 = 2 ∧ k.2.1 ≠ 0) (.inr (endP b kd ab k.2.1, 3, 0, 0, 0, 0)) (.inl 2) = (.inr p' : Nat ⊕ Ps) := h
    obtain ⟨q1, q2⟩ := r67 (Or.inr rfl)
    have q1 : kd ≤ 2 := q1
    by_cases c : k.1 = 2 ∧ k.2.1 ≠ 0
    · rw [cite_pos c] at h; cases h
      have hv := hk.2.2.1 c.1
      exact psOK_b (endP_ok (hb (Nat.succ_ne_zero _)) (by omega) q2 (by omega)) (by omega) _ _ _ _
    · rw [cite_neg c] at h; cases h
  · have h : cite (isS k 42) (.inr (b, 9, 0, 0, 0, tm)) (.inl 2) = (.inr p' : Nat ⊕ Ps) := h
    by_cases c : isS k 42
    · rw [cite_pos c] at h; cases h
      exact ⟨h1, by show 9 ≤ 9; omega, fun _ => hb (Nat.succ_ne_zero _), fun q => absurd q (by show ¬ (9 = 4 ∨ 9 = 5); omega), fun q => absurd q (by show ¬ (9 = 6 ∨ 9 = 7); omega), fun _ => r89 (Or.inl rfl)⟩
    · rw [cite_neg c] at h; cases h
  · have h : cite (isS k 40) (cite (6 ≤ b.2.2.1.length) (.inl 3) (.inr ((b.1, b.2.1, (b.2.1.1.length, tm) :: b.2.2.1, b.2.2.2), 2, 0, 0, 0, 0))) (.inl 2) = (.inr p' : Nat ⊕ Ps) := h
    by_cases c : isS k 40
    · rw [cite_pos c] at h
      by_cases c6 : 6 ≤ b.2.2.1.length
      · rw [cite_pos c6] at h; cases h
      · rw [cite_neg c6] at h; cases h
        obtain ⟨b1, b2, b3, b4⟩ := hb (Nat.succ_ne_zero _)
        refine psOK_b (b := (b.1, b.2.1, (b.2.1.1.length, tm) :: b.2.2.1, b.2.2.2)) ⟨b1, b2, ⟨by show b.2.2.1.length + 1 ≤ 6; omega, fun x hx => ?_⟩, b4⟩ (by omega) _ _ _ _
        rcases List.mem_cons.mp hx with z | z
        · rw [z]; exact ⟨Nat.le_refl _, r89 (Or.inr rfl)⟩
        · exact b3.2 x z
    · rw [cite_neg c] at h; cases h
section CFIND
variable {d : Nat}
theorem lines_nil {σ : St} {j : Nat} {ls : List Ln} (h : linesC σ j ls) : j = 0 ↔ ls = [] := by
  cases ls with
  | nil => exact ⟨fun _ => rfl, fun _ => h⟩
  | cons l r => exact ⟨fun z => absurd h.1 (by omega), fun z => absurd z (by simp)⟩
theorem sp_takeLineName {σ : St} {Q : Option AV → St → Prop} {p : Ps} {k : Tk} (hp : psC σ p) (hpo : psOK p) (hm : p.2.1 = 0) (hk : tkC σ k) (hko : tkOK k) (h4 : k.1 ≠ 4) (h : stQ 4 87 σ Q (stp p k)) : Cl lay1 (d + 4) M_Re_takeLineName [aO 6 4] σ Q := by
  obtain ⟨f0, f1, f2, f4, fs⟩ := ckd_f hko
  have hl := hp.2.1
  have hs : stp p k = cite (k.1 = 0) (match p.1.1 with
      | [] => .inl 2
      | _ :: _ => .inr p) (cite (k.1 = 1 ∧ ¬ own k.2.2.1 ∧ fnd p.1.1 k.2.2.1 = none) (.inr ((p.1.1, ([], false), [], k.2.2.1), 1, 0, 0, 0, 0)) (.inl 2)) := by
    unfold stp
    rw [cite_neg h4, hm]
    rfl
  rw [hs] at h
  refine bk_Re_takeLineName_0 ?_
  rw [hk.1, f0, f1]
  refine ⟨fun c => ?_, fun c => ⟨fun c1 => ?_, fun c1 => ?_⟩⟩
  · rw [cite_pos c] at h
    rw [lines_nil hl]
    refine ⟨fun z => ?_, fun z => ?_⟩
    · rw [z] at h
      exact h.l rfl
    · cases e : p.1.1 with
      | nil => exact absurd e z
      | cons x r =>
        rw [e] at h
        exact (h σ (rdT.rf σ) (by omega) (by omega)).2 p rfl hp
  · rw [cite_neg c] at h
    have bad : ¬ (¬ own k.2.2.1 ∧ fnd p.1.1 k.2.2.1 = none) → Q (some (aI 2)) σ := fun z => by
      rw [cite_neg (fun y => z y.2)] at h
      exact h.l rfl
    refine bk_Te_isKindLetter_0 ?_
    refine sp_isName (d := d) (c := 4) hk hko (by omega) (fun _ e => ⟨fun z => absurd z (by decide), fun _ => ⟨b11, fun z => absurd z (by decide), fun _ => bad (fun z => z.1 (Or.inl e))⟩⟩) (fun e4 => ⟨fun _ => ?_, fun z => absurd rfl z⟩)
    refine sp_isName (d := d) (c := 17) hk hko (by omega) (fun _ e => ⟨fun z => absurd z (by decide), fun _ => ⟨b11, fun z => absurd z (by decide), fun _ => bad (fun z => z.1 (Or.inr (Or.inl e)))⟩⟩) (fun e17 => ⟨fun _ => ?_, fun z => absurd rfl z⟩)
    refine sp_isName (d := d) (c := 19) hk hko (by omega) (fun _ e => ⟨fun z => absurd z (by decide), fun _ => ⟨b11, fun z => absurd z (by decide), fun _ => bad (fun z => z.1 (Or.inr (Or.inr (Or.inl e))))⟩⟩) (fun e19 => ⟨fun _ => ?_, fun z => absurd rfl z⟩)
    refine sp_isName (d := d) (c := 11) hk hko (by omega) (fun _ e => ⟨fun z => absurd z (by decide), fun _ => ⟨b11, fun z => absurd z (by decide), fun _ => bad (fun z => z.1 (Or.inr (Or.inr (Or.inr (Or.inl e)))))⟩⟩) (fun e11 => ⟨fun _ => ?_, fun z => absurd rfl z⟩)
    refine sp_isName (d := d) (c := 13) hk hko (by omega) (fun _ e => ⟨fun z => absurd z (by decide), fun _ => ⟨b11, fun z => absurd z (by decide), fun _ => bad (fun z => z.1 (Or.inr (Or.inr (Or.inr (Or.inr e)))))⟩⟩) (fun e13 => ⟨fun _ => ⟨b01, fun _ => ?_, fun z => absurd rfl z⟩, fun z => absurd rfl z⟩)
    have no : ¬ own k.2.2.1 := by
      rintro (z | z | z | z | z)
      · exact e4 ⟨c1, z⟩
      · exact e17 ⟨c1, z⟩
      · exact e19 ⟨c1, z⟩
      · exact e11 ⟨c1, z⟩
      · exact e13 ⟨c1, z⟩
    rw [hk.2.2.2.1 c1]
    refine sp_lineOf (d := d + 2) (hko.2.1 c1) hpo.1 hl (fun e => ⟨rfl, fun _ => ?_, fun z => absurd rfl z⟩) (fun j ps e j1 _ _ _ _ => ⟨rfl, fun z => absurd z (by omega), fun _ => bad (fun z => by rw [z.2] at e; cases e)⟩)
    rw [cite_pos ⟨c1, no, e⟩] at h
    refine bk_Ro_clear_0 ⟨b01, ?_⟩
    rw [hk.2.2.2.1 c1]
    have a0 : rdT σ (pL σ 4 7 (L64 (encL 32 k.2.2.1 : Nat))) := ⟨⟨Nat.le_refl _, fun j h1 _ => ⟨fun _ => rfl, fun i => by rw [gL_pL, if_neg (by omega)], fun _ => rfl, rfl⟩⟩, fun _ _ => rfl, fun _ _ _ _ _ => rfl, fun _ _ _ _ _ _ _ => rfl, fun j i h1 h2 => by rw [gL_pL, if_neg h2]⟩
    have a1 : rdT σ (pI (pI (pI (pI (pL σ 4 7 (L64 (encL 32 k.2.2.1 : Nat))) 7 1 0) 7 2 0) 7 3 0) 7 4 0) := a0.trans ((((fA_pI 1 0).trans (fA_pI 2 0)).trans (fA_pI 3 0)).trans (fA_pI 4 0)).rd
    have a2 := (a1.trans (rdT_4 (k := 4) 0 (by omega))).trans (rdT_4 (k := 6) 1 (by omega))
    refine (h _ a2 (by show sN σ ≤ _; omega) (by show sS σ ≤ _; omega)).2 _ rfl (psC_b (b := (p.1.1, ([], false), [], k.2.2.1)) (m := 1) ⟨a2.1.lines hl, ⟨?_, fun z => absurd z (by show ¬ false = true; decide), fun _ => ⟨?_, ?_, ?_⟩, fun i q hq => by simp at hq⟩, ⟨?_, fun i q hq => by simp at hq⟩, ?_⟩ ?_ (by omega) _ _ _ _)
    · rw [gI_pI, if_neg (by omega), gI_pI, if_neg (by omega), gI_pI, if_neg (by omega), gI_pI, if_neg (by omega), gI_pI, if_neg (by omega), gI_pI, if_pos ⟨rfl, rfl⟩]; rfl
    · rw [gI_pI, if_neg (by omega), gI_pI, if_neg (by omega), gI_pI, if_pos ⟨rfl, rfl⟩]
    · rw [gI_pI, if_neg (by omega), gI_pI, if_neg (by omega), gI_pI, if_neg (by omega), gI_pI, if_neg (by omega), gI_pI, if_pos ⟨rfl, rfl⟩]; rfl
    · rw [gI_pI, if_neg (by omega), gI_pI, if_neg (by omega), gI_pI, if_neg (by omega), gI_pI, if_pos ⟨rfl, rfl⟩]; rfl
    · rw [gI_pI, if_neg (by omega), gI_pI, if_pos ⟨rfl, rfl⟩]; rfl
    · show gL (pL σ 4 7 _) 4 7 = _
      rw [gL_pL, if_pos ⟨rfl, rfl⟩]
    · rw [gI_pI, if_pos ⟨rfl, rfl⟩]; rfl
  · rw [cite_neg c, cite_neg (fun y => c1 y.1)] at h
    exact h.l rfl
theorem sp_takeAlone {σ : St} {Q : Option AV → St → Prop} {k : Tk} {c m : Nat} {p' : Ps} {r : Nat ⊕ Ps} (hk : tkC σ k) (hko : tkOK k) (hc : c < 256) (hr : r = cite (isS k c) (.inr p') (.inl 2)) (hp' : psC (pI σ 4 6 (nI m)) p') (h : stQ 4 87 σ Q r) : Cl lay1 (d + 1) M_Re_takeAlone [aO 6 4, aI (nI c), aI (nI m)] σ Q := by
  obtain ⟨-, -, -, -, fs⟩ := ckd_f hko
  refine bk_Re_takeAlone_0 _ _ ?_
  rw [hk.1, fs c hc]
  refine ⟨fun z => ?_, fun z => ?_⟩
  · rw [cite_pos z] at hr
    exact (h _ (rdT_4 _ (by omega)) (by show sN σ ≤ _; omega) (by show sS σ ≤ _; omega)).2 _ hr hp'
  · rw [cite_neg z] at hr
    exact h.l hr
end CFIND
