/-! ===== LAYER 3, F: the reference's reading: a line, all lines ===== -/
section RREAD
variable {d : Nat}
theorem line_loop {t : Tx} (hto : txOK t) : ∀ (n a : Nat) (b : Ba) (m : Nat) (u4 : AV) (σ : St) (Q : Option AV → St → Prop), t.1 + 1 - a = n → RI σ t a b m → baOK b → (m = 2 ∨ m = 3) → ndL b.1 → (∀ l ∈ b.1, l.1 ≠ b.2.2.2) → 4 * b.1.length + 2 + (if m = 3 then 1 else 0) ≤ a → lnEnd t a b m σ Q → lnBad t a b m σ Q → Wp lay1 rtOf (Cl lay1 (d + 4)) k_R_line 2 Q (97, [aO 12 71, aJ (L64 (encL 27 b.2.2.2 : Nat)), aZ, aI 1, u4], [], σ) := by
  have h15 := hto.1
  intro n
  induction n using Nat.strongRecOn with
  | ind n ih =>
    intro a b m u4 σ Q hn hr hbo hm hnd hnew h4 hs hf
    obtain ⟨hB, hk, ha, h84⟩ := id hr
    have hko := tok_ok hto ha
    have hl6 := hbo.2.2.1.1
    have e23 : gI σ 71 23 = nI b.2.2.1.length := hB.2.2.2.2.2.1
    have goS : ∀ τ a' b' m', fR σ τ → RI τ t a' b' m' → baOK b' → b'.1 = b.1 → b'.2.2.2 = b.2.2.2 → a < a' → (m' = 2 ∨ m' = 3) → prP t a (b, m, 0, 0, 0, 0) = prP t a' (b', m', 0, 0, 0, 0) → Wp lay1 rtOf (Cl lay1 (d + 4)) k_R_line 2 Q (97, [aO 12 71, aJ (L64 (encL 27 b.2.2.2 : Nat)), aZ, aI 1, u4], [], τ) := by
      intro τ a' b' m' g1 g2 g3 g4 g5 g6 g7 g8
      have ha' := g2.2.2.1
      rw [← g5]
      refine ih (t.1 + 1 - a') (by omega) a' b' m' u4 τ Q rfl g2 g3 g7 (by rw [g4]; exact hnd) (by rw [g4, g5]; exact hnew) ?_ (fun υ a'' b'' x1 x2 x3 x4 x5 x6 x7 x8 x9 x10 => hs υ a'' b'' (g1.trans x1) x2 x3 x4 x5 x6 x7 (by omega) x9 (g8.trans x10)) (fun υ c pl x1 x2 x3 => hf υ c pl ⟨g1.trans x1.1, x1.2⟩ x2 (g8.trans x3))
      rw [g4]
      split at h4 <;> split <;> omega
    have goF : ∀ τ c pl, flP σ c pl τ → 1 ≤ c ∧ c ≤ 4 → prP t a (b, m, 0, 0, 0, 0) = .inl (c, pl) → Wp lay1 rtOf (Cl lay1 (d + 4)) k_R_line 2 Q (97, [aO 12 71, aJ (L64 (encL 27 b.2.2.2 : Nat)), aZ, aI 0, u4], [], τ) := fun τ c pl g1 g2 g3 => bk_R_line_97 _ _ _ ⟨fun _ => ⟨fun _ => ⟨b01, hf τ c pl g1 g2 g3⟩, fun z => absurd rfl z⟩, fun z => absurd rfl z⟩
    have go41 : ¬ (isS (tok t a) 59 ∧ b.2.2.1 = [] ∧ m = 3) → Cl lay1 (d + 4) M_R_isSign [aO 12 71, aI (41 : Int32)] σ (rI fun r6 σ5 => (r6 = 0 → Cl lay1 (d + 4) M_R_item [aO 12 71] σ5 (rI fun r8 σ7 => Wp lay1 rtOf (Cl lay1 (d + 4)) k_R_line 2 Q (97, [aO 12 71, aJ (L64 (encL 27 b.2.2.2 : Nat)), aZ, aI r8, u4], [], σ7))) ∧ (¬ r6 = 0 → Cl lay1 (d + 4) M_R_closes [aO 12 71] σ5 (rI fun r10 σ9 => Wp lay1 rtOf (Cl lay1 (d + 4)) k_R_line 2 Q (97, [aO 12 71, aJ (L64 (encL 27 b.2.2.2 : Nat)), aZ, aI r10, u4], [], σ9)))) := by
      intro ne
      refine sp_isSign (d := d + 3) (c := 41) hk hko (by omega) (fun c41 => ⟨fun z => absurd z (by decide), fun _ => ?_⟩) (fun c41 => ⟨fun _ => ?_, fun z => absurd rfl z⟩)
      · exact sp_rcloses (d := d + 1) hto hr hbo hm c41 goS goF
      · refine sp_item (d := d) hto hr hbo hnd (by split at h4 <;> omega) (fun z => ?_) goS goF
        rcases hm with q | q
        · subst q; exact cite_neg z
        · subst q
          have e1 : stp (b, 3, 0, 0, 0, 0) (tok t a) = stIC b (tok t a) := cite_neg z
          rw [e1]
          unfold stIC
          rw [cite_neg]
          rintro (⟨z1, z2⟩ | ⟨z1, z2⟩)
          · exact c41 z2
          · exact ne ⟨z2, z1, rfl⟩
    refine bk_R_line_97 _ _ _ ⟨fun z => absurd z (by decide), fun _ => ?_⟩
    refine sp_isSign (d := d + 3) (c := 59) hk hko (by omega) (fun c59 => ⟨fun z => absurd z (by decide), fun _ => ?_⟩) (fun c59 => ⟨fun _ => go41 (fun y => c59 y.1), fun z => absurd rfl z⟩)
    show (gI σ 71 23 = 0 → _) ∧ (¬ gI σ 71 23 = 0 → _)
    have e230 : gI σ 71 23 = 0 ↔ b.2.2.1 = [] := by
      rw [e23, show (0 : Int32) = nI 0 from rfl, nI_eq (by omega) (by omega)]
      exact ⟨fun z => List.eq_nil_of_length_eq_zero z, fun z => by rw [z]; rfl⟩
    rw [e230]
    refine ⟨fun z0 => ⟨by rw [hB.1.at 84 8 (by decide)]; exact inb_nI (n := 0) (by omega) (by omega), fun z84 => go41 (fun y => ?_), fun z84 => ⟨fun z => absurd z (by decide), fun _ => ⟨fun z16 => ?_, fun z16 => ?_⟩⟩⟩, fun z0 => go41 (fun y => z0 y.2.1)⟩
    · have e84 : gI σ 84 (ix (0 : Int32)) = 1 := by
        have : gI σ 84 b.2.2.1.length = 1 := by rw [h84, if_pos y.2.2]
        rw [y.2.1] at this
        exact this
      rw [e84] at z84
      exact absurd z84 (by decide)
    · have hm3 : m = 3 := by
        rcases hm with q | q
        · exfalso
          have : gI σ 84 b.2.2.1.length = 0 := by rw [h84, if_neg (by omega)]
          rw [z0] at this
          exact z84 this
        · exact q
      subst hm3
      rw [if_pos rfl] at h4
      have hmany : b.2.1.2 = false := by
        cases z : b.2.1.2 with
        | false => rfl
        | true => rw [hB.2.2.2.2.1.2.1, z] at z16; exact absurd z16 (by decide)
      exact sp_reg (d := d + 2) hto hr hbo hnd hnew (by omega) c59 z0 hmany hs
    · have hm3 : m = 3 := by
        rcases hm with q | q
        · exfalso
          have : gI σ 84 b.2.2.1.length = 0 := by rw [h84, if_neg (by omega)]
          rw [z0] at this
          exact z84 this
        · exact q
      subst hm3
      have hmany : b.2.1.2 = true := by
        cases z : b.2.1.2 with
        | true => rfl
        | false => rw [hB.2.2.2.2.1.2.1, z] at z16; exact absurd rfl z16
      have c3 := c59.1
      refine sp_fails (d := d + 3) (c := 4) hk hko hB.2.2.1.1 (fun τ ff => ⟨b01, hf τ _ _ ff ?_ ?_⟩)
      · split <;> omega
      · rw [if_neg (by omega)]
        refine prP_l ha ?_
        have e1 : stp (b, 3, 0, 0, 0, 0) (tok t a) = stIC b (tok t a) := cite_neg (by omega)
        rw [e1]
        unfold stIC
        rw [cite_pos (show clo b (tok t a) from Or.inr ⟨z0, c59⟩)]
        unfold stClose
        rw [z0]
        exact cite_pos hmany
theorem sp_isOwn {σ : St} {Q : Option AV → St → Prop} {l : List Nat} (hl : lettersOK l) (hy : own l → Q (some (aI 1)) σ) (hn : ¬ own l → Q (some (aI 0)) σ) : Cl lay1 (d + 1) M_R_isOwn [aJ (L64 (encL 27 l : Nat))] σ Q := by
  have ec : ∀ c : Nat, 1 ≤ c ∧ c ≤ 26 → (lg_cmp (L64 (encL 27 l : Nat)) (L64 (c : Int)) = 0 ↔ l = [c]) := fun c hc => by
    have e1 : (c : Int) = ((encL 27 [c] : Nat) : Int) := by
      show (c : Int) = ((0 * 27 + c : Nat) : Int)
      omega
    rw [e1, lg_cmp_eq, enc_eq (by omega) (by omega) hl (one_ok hc)]
  have e4 : lg_cmp (L64 (encL 27 l : Nat)) (4 : Int64) = 0 ↔ l = [4] := ec 4 (by omega)
  have e17 : lg_cmp (L64 (encL 27 l : Nat)) (17 : Int64) = 0 ↔ l = [17] := ec 17 (by omega)
  have e19 : lg_cmp (L64 (encL 27 l : Nat)) (19 : Int64) = 0 ↔ l = [19] := ec 19 (by omega)
  have e11 : lg_cmp (L64 (encL 27 l : Nat)) (11 : Int64) = 0 ↔ l = [11] := ec 11 (by omega)
  have e13 : lg_cmp (L64 (encL 27 l : Nat)) (13 : Int64) = 0 ↔ l = [13] := ec 13 (by omega)
  refine bk_R_isOwn_0 _ ?_
  rw [e4, e17, e19, e11, e13]
  refine ⟨fun z => ⟨b11, hy (Or.inl z)⟩, fun n4 => ⟨fun z => ⟨b11, hy (Or.inr (Or.inl z))⟩, fun n17 => ⟨fun z => ⟨b11, hy (Or.inr (Or.inr (Or.inl z)))⟩, fun n19 => ⟨fun z => ⟨b11, hy (Or.inr (Or.inr (Or.inr (Or.inl z))))⟩, fun n11 => ⟨fun z => ⟨b11, hy (Or.inr (Or.inr (Or.inr (Or.inr z))))⟩, fun n13 => ⟨b01, hn ?_⟩⟩⟩⟩⟩⟩
  rintro (z | z | z | z | z)
  · exact n4 z
  · exact n17 z
  · exact n19 z
  · exact n11 z
  · exact n13 z
theorem sp_line {σ : St} {Q : Option AV → St → Prop} {t : Tx} {b : Ba} {a : Nat} (hto : txOK t) (hr : RLn σ t a b) (hlo : liOK b.1) (hnd : ndL b.1) (h4 : 4 * b.1.length ≤ a) (h0 : (tok t a).1 ≠ 0) (hs : lnEnd t a b 0 σ Q) (hf : lnBad t a b 0 σ Q) : Cl lay1 (d + 5) M_R_line [aO 12 71] σ Q := by
  obtain ⟨ln, tx, f6, li, hk, ha⟩ := hr
  have h15 := hto.1
  have hko := tok_ok hto ha
  have hpos := tok_pos ha
  have hle4 := hko.1
  have st0 : (tok t a).1 ≠ 4 → stp (b, 0, 0, 0, 0, 0) (tok t a) = cite ((tok t a).1 = 1 ∧ ¬ own (tok t a).2.2.1 ∧ fnd b.1 (tok t a).2.2.1 = none) (.inr ((b.1, ([], false), [], (tok t a).2.2.1), 1, 0, 0, 0, 0)) (.inl 2) := fun z => by
    have e : stp (b, 0, 0, 0, 0, 0) (tok t a) = cite ((tok t a).1 = 0) (match b.1 with
      | [] => .inl 2
      | _ :: _ => .inr (b, 0, 0, 0, 0, 0)) (cite ((tok t a).1 = 1 ∧ ¬ own (tok t a).2.2.1 ∧ fnd b.1 (tok t a).2.2.1 = none) (.inr ((b.1, ([], false), [], (tok t a).2.2.1), 1, 0, 0, 0, 0)) (.inl 2)) := cite_neg z
    rw [e, cite_neg h0]
  have bad : ¬ ((tok t a).1 = 1 ∧ ¬ own (tok t a).2.2.1 ∧ fnd b.1 (tok t a).2.2.1 = none) → Cl lay1 (d + 4) M_R_fails [aO 12 71, aI (2 : Int32)] σ (rI fun r7 σ6 => (r7 = 0 ∨ r7 = 1) ∧ Q (some (aI r7)) σ6) := by
    intro nn
    refine sp_fails (d := d + 3) (c := 2) hk hko f6.1 (fun τ ff => ⟨b01, hf τ _ _ ff ?_ ?_⟩)
    · split <;> omega
    · by_cases z : (tok t a).1 = 4
      · rw [if_pos z]
        exact prP_l ha (cite_pos z)
      · rw [if_neg z]
        exact prP_l ha (by rw [st0 z, cite_neg nn])
  refine bk_R_line_0 ?_
  have e41 : gI σ 71 4 = (1 : Int32) ↔ (tok t a).1 = 1 := by rw [hk.1, show (1 : Int32) = nI 1 from rfl, nI_eq (by omega) (by omega)]
  rw [e41]
  refine ⟨fun c1 => ?_, fun c1 => bad (fun y => c1 y.1)⟩
  have hlet := hko.2.1 c1
  have e5 := hk.2.2.2.1 c1
  rw [e5]
  refine sp_isOwn (d := d + 3) hlet (fun ow => ⟨fun z => absurd z (by decide), fun _ => bad (fun y => y.2.1 ow)⟩) (fun no => ⟨fun _ => ?_, fun z => absurd rfl z⟩)
  rw [e5]
  refine sp_named (d := d + 3) ln li hlo (by omega) hlet (fun hno => ⟨fun _ => ?_, fun z => absurd (by decide) z⟩) (fun kx l hkx el => ⟨fun z => absurd z ?_, fun _ => bad (fun y => ?_)⟩)
  · have hfn := fnd_none hno
    have es := prP_s ha (by rw [st0 (by omega), cite_pos ⟨c1, no, hfn⟩]) h0
    have hlt := hpos.2.2.2.1 h0
    refine sp_rnext (d := d + 2) ln tx hto hpos.1 hk.2.2.1 (fun σ1 b1 k1 => ?_)
    rw [e5]
    have hko1 := tok_ok hto hpos.1
    have hpos1 := tok_pos hpos.1
    generalize hA1 : (tok t a).2.2.2.2 = A1 at es hlt k1 hko1 hpos1 hpos
    have hA1' : A1 ≤ t.1 := hpos.1
    have ln1 := ln.of b1.2.2.1
    have f61 : gI σ1 71 6 = 0 ∧ gI σ1 71 7 = -4 := ⟨(b1.2.2.2.2.1 71 6 (by omega)).trans f6.1, (b1.2.2.2.2.1 71 7 (by omega)).trans f6.2⟩
    have st1 : (tok t A1).1 ≠ 4 → stp ((b.1, ([], false), [], (tok t a).2.2.1), 1, 0, 0, 0, 0) (tok t A1) = cite (isS (tok t A1) 61) (.inr ((b.1, ([], false), [], (tok t a).2.2.1), 2, 0, 0, 0, 0)) (.inl 2) := fun z => cite_neg z
    refine bk_R_line_44 _ _ _ ?_
    refine sp_isSign (d := d + 3) (c := 61) k1 hko1 (by omega) (fun c61 => ⟨fun z => absurd z (by decide), fun _ => ⟨b01, ?_⟩⟩) (fun c61 => ⟨fun _ => ?_, fun z => absurd rfl z⟩)
    · have c3 := c61.1
      have es1 := prP_s hA1' (by rw [st1 (by omega), cite_pos c61]) (by omega)
      have hlt1 := hpos1.2.2.2.1 (by omega)
      rw [ixl0, show vp_nar .boolean (0 : Int32) = 0 from rfl]
      have a1 : fR σ1 (pI (pI (pI (pI (pI (pI σ1 71 16 0) 71 17 0) 71 18 0) 71 19 0) 71 23 0) 84 0 0) := (((((fR_pI (j := 71) (k := 16) _ (by omega)).trans (fR_pI (j := 71) (k := 17) _ (by omega))).trans (fR_pI (j := 71) (k := 18) _ (by omega))).trans (fR_pI (j := 71) (k := 19) _ (by omega))).trans (fR_pI (j := 71) (k := 23) _ (by omega))).trans (fR_pI (j := 84) _ (by omega))
      have eI : ∀ j k, ¬ (j = 71 ∧ 16 ≤ k ∧ k ≤ 23) → j ≠ 84 → gI (pI (pI (pI (pI (pI (pI σ1 71 16 0) 71 17 0) 71 18 0) 71 19 0) 71 23 0) 84 0 0) j k = gI σ1 j k := fun j k x1 x2 => by rw [gI_pI, if_neg (by omega), gI_pI, if_neg (by omega), gI_pI, if_neg (by omega), gI_pI, if_neg (by omega), gI_pI, if_neg (by omega), gI_pI, if_neg (by omega)]
      have v16 : gI (pI (pI (pI (pI (pI (pI σ1 71 16 0) 71 17 0) 71 18 0) 71 19 0) 71 23 0) 84 0 0) 71 16 = 0 := by rw [gI_pI, if_neg (by omega), gI_pI, if_neg (by omega), gI_pI, if_neg (by omega), gI_pI, if_neg (by omega), gI_pI, if_neg (by omega), gI_pI, if_pos ⟨rfl, rfl⟩]
      have v17 : gI (pI (pI (pI (pI (pI (pI σ1 71 16 0) 71 17 0) 71 18 0) 71 19 0) 71 23 0) 84 0 0) 71 17 = 0 := by rw [gI_pI, if_neg (by omega), gI_pI, if_neg (by omega), gI_pI, if_neg (by omega), gI_pI, if_neg (by omega), gI_pI, if_pos ⟨rfl, rfl⟩]
      have v18 : gI (pI (pI (pI (pI (pI (pI σ1 71 16 0) 71 17 0) 71 18 0) 71 19 0) 71 23 0) 84 0 0) 71 18 = 0 := by rw [gI_pI, if_neg (by omega), gI_pI, if_neg (by omega), gI_pI, if_neg (by omega), gI_pI, if_pos ⟨rfl, rfl⟩]
      have v19 : gI (pI (pI (pI (pI (pI (pI σ1 71 16 0) 71 17 0) 71 18 0) 71 19 0) 71 23 0) 84 0 0) 71 19 = 0 := by rw [gI_pI, if_neg (by omega), gI_pI, if_neg (by omega), gI_pI, if_pos ⟨rfl, rfl⟩]
      have v23 : gI (pI (pI (pI (pI (pI (pI σ1 71 16 0) 71 17 0) 71 18 0) 71 19 0) 71 23 0) 84 0 0) 71 23 = 0 := by rw [gI_pI, if_neg (by omega), gI_pI, if_pos ⟨rfl, rfl⟩]
      have v84 : gI (pI (pI (pI (pI (pI (pI σ1 71 16 0) 71 17 0) 71 18 0) 71 19 0) 71 23 0) 84 0 0) 84 0 = 0 := by rw [gI_pI, if_pos ⟨rfl, rfl⟩]
      have eL : gL (pI (pI (pI (pI (pI (pI σ1 71 16 0) 71 17 0) 71 18 0) 71 19 0) 71 23 0) 84 0 0) = gL σ1 := rfl
      refine ⟨by show inb _ (gN σ1 84); rw [ln1.at 84 8 (by decide)]; exact inb_nI (n := 0) (by omega) (by omega), ?_⟩
      generalize pI (pI (pI (pI (pI (pI σ1 71 16 0) 71 17 0) 71 18 0) 71 19 0) 71 23 0) 84 0 0 = σ2 at a1 eI v16 v17 v18 v19 v23 v84 eL
      have li1 := b1.lines li
      have r2 : riB σ2 t (b.1, ([], false), [], (tok t a).2.2.1) := by
        refine ⟨ln1.of a1.2.2.1, ⟨(eI 71 1 (by omega) (by omega)).trans (b1.tx tx).1, fun i hi => (eI 72 i (by omega) (by omega)).trans ((b1.tx tx).2 i hi)⟩, ⟨(eI 71 6 (by omega) (by omega)).trans f61.1, (eI 71 7 (by omega) (by omega)).trans f61.2⟩, li1.of (eI _ _ (by omega) (by omega)) (eI _ _ (by omega) (by omega)) (fun k => by rw [eL]) (fun k => eI _ _ (by omega) (by omega)) (fun k => eI _ _ (by omega) (by omega)) (fun k => eI _ _ (by omega) (by omega)) (fun k => by rw [eL]) (fun k => by rw [eL]), ⟨v17, v16, v18, v19, fun i q hq => by simp at hq⟩, ⟨v23, fun i q hq => by simp at hq⟩⟩
      have n2 : gI σ2 71 2 = nI (tok t A1).2.2.2.2 := (eI 71 2 (by omega) (by omega)).trans k1.2.2.1
      refine sp_rnext (d := d + 2) r2.1 r2.2.1 hto hpos1.1 n2 (fun σ3 b3 k3 => ?_)
      have r3 := b3.g.ri r2
      have a3 : fR σ σ3 := (b1.f.trans a1).trans b3.f
      refine line_loop (d := d) hto _ _ (b.1, ([], false), [], (tok t a).2.2.1) 2 _ σ3 Q rfl ⟨r3, k3, hpos1.1, ?_⟩ ⟨hlo, ⟨by show 0 ≤ 80; omega, by show 0 ≤ 12; omega, by show 0 ≤ 12; omega, fun q hq => absurd hq (by simp)⟩, ⟨by show 0 ≤ 6; omega, fun q hq => absurd hq (by simp)⟩, hlet⟩ (Or.inl rfl) hnd hno ?_ (fun υ a'' b'' x1 x2 x3 x4 x5 x6 x7 x8 x9 x10 => hs υ a'' b'' (a3.trans x1) x2 x3 x4 x5 x6 x7 (by omega) x9 (by rw [es, es1]; exact x10)) (fun υ c pl x1 x2 x3 => hf υ c pl ⟨a3.trans x1.1, x1.2⟩ x2 (by rw [es, es1]; exact x3))
      · rw [b3.2.2.2.2.1 84 _ (by omega)]
        exact v84
      · rw [if_neg (by omega)]
        show 4 * b.1.length + 2 + 0 ≤ _
        omega
    · refine sp_fails (d := d + 3) (c := 2) k1 hko1 f61.1 (fun τ ff => ⟨b01, hf τ _ _ ⟨b1.f.trans ff.1, ff.2⟩ ?_ ?_⟩)
      · split <;> omega
      · rw [es]
        by_cases z : (tok t A1).1 = 4
        · rw [if_pos z]
          exact prP_l hA1' (cite_pos z)
        · rw [if_neg z]
          exact prP_l hA1' (by rw [st1 z, cite_neg c61])
  · exact nI_pos (by have := (List.getElem?_eq_some_iff.mp hkx).1; rw [List.length_reverse] at this; omega)
  · have hmem : l ∈ b.1 := List.mem_reverse.mp (List.mem_of_getElem? hkx)
    rw [fnd_some hnd hmem el] at y
    cases y.2.2
end RREAD
