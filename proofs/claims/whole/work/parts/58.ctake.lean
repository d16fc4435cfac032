/-! ===== LAYER 3, F: the component's reader: a token is taken ===== -/
def tkOK (k : Tk) : Prop := k.1 ≤ 4 ∧ (k.1 = 1 → lettersOK k.2.2.1) ∧ (k.1 = 2 → k.2.1 ≤ 9999) ∧ (k.1 = 3 → k.2.1 < 256)
theorem tok_sign {t : Tx} {a : Nat} (hto : txOK t) (h : (tok t a).1 = 3) : (tok t a).2.1 < 256 := by
  unfold tok at h ⊢
  by_cases c : t.1 ≤ spE isBl t a
  · rw [if_pos c] at h; exact absurd h (by show ¬ 0 = 3; omega)
  rw [if_neg c] at h ⊢
  by_cases c1 : isLe (t.2 (spE isBl t a)) = true
  · rw [if_pos c1] at h
    have h : (if spE isLe t (spE isBl t a) - spE isBl t a ≤ 8 then 1 else 4) = 3 := h
    split at h <;> omega
  rw [if_neg c1] at h ⊢
  by_cases c2 : isFi (t.2 (spE isBl t a)) = true
  · rw [if_pos c2] at h
    have h : (if spE isFi t (spE isBl t a) - spE isBl t a ≤ 4 then 2 else 4) = 3 := h
    split at h <;> omega
  · rw [if_neg c2]
    exact hto.2 _ (by omega)
theorem tok_ok {t : Tx} {a : Nat} (hto : txOK t) (ha : a ≤ t.1) : tkOK (tok t a) := ⟨(tok_pos ha).2.2.2.2, tok_name, tok_num, tok_sign hto⟩
theorem nI_nneg {n : Nat} (h : n < 256) (m : Int32) (hm : m.toInt < 0) : ¬ nI n = m := fun z => by
  have := congrArg Int32.toInt z
  rw [nI_toInt (by omega)] at this
  omega
theorem ckd_f {k : Tk} (h : tkOK k) : (ckd k = -1 ↔ k.1 = 0) ∧ (ckd k = -3 ↔ k.1 = 1) ∧ (ckd k = -4 ↔ k.1 = 2) ∧ (ckd k = -2 ↔ k.1 = 4) ∧ ∀ c, c < 256 → (ckd k = nI c ↔ isS k c) := by
  obtain ⟨h4, -, -, h3⟩ := h
  unfold ckd isS
  rcases (show k.1 = 0 ∨ k.1 = 1 ∨ k.1 = 2 ∨ k.1 = 3 ∨ k.1 = 4 by omega) with q | q | q | q | q
  · rw [if_pos q, q]
    exact ⟨by decide, by decide, by decide, by decide, fun c hc => ⟨fun z => absurd z.symm (nI_nneg hc _ (by decide)), fun z => absurd z.1 (by omega)⟩⟩
  · rw [if_neg (by omega), if_pos q, q]
    exact ⟨by decide, by decide, by decide, by decide, fun c hc => ⟨fun z => absurd z.symm (nI_nneg hc _ (by decide)), fun z => absurd z.1 (by omega)⟩⟩
  · rw [if_neg (by omega), if_neg (by omega), if_pos q, q]
    exact ⟨by decide, by decide, by decide, by decide, fun c hc => ⟨fun z => absurd z.symm (nI_nneg hc _ (by decide)), fun z => absurd z.1 (by omega)⟩⟩
  · rw [if_neg (by omega), if_neg (by omega), if_neg (by omega), if_pos q, q]
    have hv := h3 q
    exact ⟨⟨fun z => absurd z (nI_nneg hv _ (by decide)), fun z => absurd z (by omega)⟩, ⟨fun z => absurd z (nI_nneg hv _ (by decide)), fun z => absurd z (by omega)⟩, ⟨fun z => absurd z (nI_nneg hv _ (by decide)), fun z => absurd z (by omega)⟩, ⟨fun z => absurd z (nI_nneg hv _ (by decide)), fun z => absurd z (by omega)⟩, fun c hc => by rw [nI_eq (by omega) (by omega)]; exact ⟨fun z => ⟨rfl, z⟩, fun z => z.2⟩⟩
  · rw [if_neg (by omega), if_neg (by omega), if_neg (by omega), if_neg (by omega), q]
    exact ⟨by decide, by decide, by decide, by decide, fun c hc => ⟨fun z => absurd z.symm (nI_nneg hc _ (by decide)), fun z => absurd z.1 (by omega)⟩⟩
theorem rdT.tk {σ τ : St} (h : rdT σ τ) {k : Tk} (hk : tkC σ k) : tkC τ k := by
  obtain ⟨h1, h2, h3, h4, h5⟩ := hk
  have e : ∀ i, gI τ 5 i = gI σ 5 i := fun i => h.2.2.2.1 5 i (by omega) (by omega) (by omega) (by omega) (by omega)
  have e5 : gL τ 5 5 = gL σ 5 5 := h.2.2.2.2 5 5 (by omega) (by omega)
  exact ⟨(e 2).trans h1, (e 3).trans h2, (e 4).trans h3, fun z => e5.trans (h4 z), fun z => e5.trans (h5 z)⟩
def stQ (x y : Nat) (σ : St) (Q : Option AV → St → Prop) (r : Nat ⊕ Ps) : Prop := ∀ τ, rdT σ τ → sN τ ≤ sN σ + x → sS τ ≤ sS σ + y → (∀ c, r = .inl c → Q (some (aI (nI c))) τ) ∧ (∀ p', r = .inr p' → psC τ p' → Q (some (aI 0)) τ)
theorem stQ.l {x y : Nat} {σ : St} {Q : Option AV → St → Prop} {r : Nat ⊕ Ps} (h : stQ x y σ Q r) {c : Nat} (e : r = .inl c) : Q (some (aI (nI c))) σ := (h σ (rdT.rf σ) (by omega) (by omega)).1 c e
theorem psC_b {τ : St} {b : Ba} {m : Nat} (hb : baC τ b) (h6 : gI τ 4 6 = nI m) (hm : 1 ≤ m ∧ m ≤ 3) (x : Nat) (y z : Int) (w : Nat) : psC τ (b, m, x, y, z, w) := ⟨h6, hb.1, fun _ => hb, fun q => absurd q (by show ¬ (m = 4 ∨ m = 5); omega), fun q => absurd q (by show ¬ (m = 6 ∨ m = 7); omega), fun q => absurd q (by show ¬ (m = 8 ∨ m = 9); omega)⟩
theorem baC.p4 {σ : St} {b : Ba} (h : baC σ b) {k : Nat} (v : Int32) (hk : k ≠ 4) (hk4 : 4 ≤ k) : baC (pI σ 4 k v) b := h.of (rdT_4 v hk4).1 rfl (fun i => by rw [gI_pI, if_neg (by omega)]) (fun _ => rfl) (by rw [gI_pI, if_neg (by omega)]) (fun i => by rw [gI_pI, if_neg (by omega)]) (fun i => by rw [gI_pI, if_neg (by omega)]) rfl
section CTAKE
variable {d : Nat}
theorem sp_isName {σ : St} {Q : Option AV → St → Prop} {k : Tk} {c : Nat} (hk : tkC σ k) (hko : tkOK k) (hc : 1 ≤ c ∧ c ≤ 26) (hy : k.1 = 1 → k.2.2.1 = [c] → Q (some (aI 1)) σ) (hn : ¬ (k.1 = 1 ∧ k.2.2.1 = [c]) → Q (some (aI 0)) σ) : Cl lay1 (d + 2) M_Te_isName [aO 10 5, aI (nI (c + 96))] σ Q := by
  obtain ⟨-, f1, -⟩ := ckd_f hko
  refine bk_Te_isName_0 _ ?_
  rw [hk.1, f1]
  refine ⟨fun c1 => ?_, fun c1 => ⟨b01, hn (fun z => c1 z.1)⟩⟩
  refine bk_Te_letterWorth_0 _ ?_
  have ew : nI (c + 96) - (97 : Int32) + 1 = nI c := by
    rw [show (97 : Int32) = nI 97 from rfl, pk_sub (by omega), nI_1]
    congr 1
    omega
  show (lg_cmp (gL σ 5 5) (nI (c + 96) - (97 : Int32) + 1).toInt64 = 0 → _) ∧ _
  have hle := hko.2.1 c1
  have e1 : (c : Int) = ((encL 32 [c] : Nat) : Int) := by
    show (c : Int) = ((0 * 32 + c : Nat) : Int)
    omega
  rw [ew, i64_nI (by omega), hk.2.2.2.1 c1, e1, lg_cmp_eq, enc_eq (by omega) (by omega) hle (one_ok hc)]
  exact ⟨fun z => ⟨b11, hy c1 z⟩, fun z => ⟨b01, hn (fun y => z y.2)⟩⟩
theorem sp_takeTold {σ : St} {Q : Option AV → St → Prop} {b : Ba} {k : Tk} {r : Nat ⊕ Ps} (hln : LN σ) (hb : baC σ b) (hbo : baOK b) (hk : tkC σ k) (hko : tkOK k) (h1 : k.1 = 1) (hr : r = match fnd b.1 k.2.2.1 with
    | none => .inl 2
    | some l => .inr ((b.1, rfold b.2.1 l, b.2.2.1, b.2.2.2), 3, 0, 0, 0, 0)) (h : stQ 2 4 σ Q r) : Cl lay1 (d + 3) M_Re_takeToldName [aO 6 4] σ Q := by
  refine bk_Re_takeToldName_0 ?_
  rw [hk.2.2.2.1 h1]
  refine sp_lineOf (hko.2.1 h1) hbo.1 hb.1 (fun e => ⟨rfl, fun _ => ?_, fun z => absurd rfl z⟩) (fun j ps e j1 j2 j3 j4 j5 => ⟨rfl, fun z => absurd z (by omega), fun _ => ?_⟩)
  · rw [e] at hr
    exact h.l hr
  · rw [e] at hr
    have hP : ∀ q ∈ ps, ptK q := fun q hq => j5.2.2.2 q hq
    refine bk_Ro_addLine_0 _ ?_
    refine sp_addLine_loop (d := d) j1 j2 ps [] b.2.1 σ _ hln hb.2.1 hbo.2.1 rfl j3 (by show ps.length ≤ 80; exact j5.1) j4 hP (fun τ a hw => ?_)
    have hb' := (hb.row a hw).p4 (k := 6) 3 (by omega) (by omega)
    have a' := a.rd.trans (rdT_4 (σ := τ) (k := 6) 3 (by omega))
    refine (h _ a' ?_ ?_).2 _ hr (psC_b hb' (by rw [gI_pI, if_pos ⟨rfl, rfl⟩]; rfl) (by omega) _ _ _ _)
    · show sN τ ≤ _
      rw [a.1]; omega
    · show sS τ ≤ _
      rw [a.2.1]; omega
theorem sp_beginPart {σ : St} {Q : Option AV → St → Prop} {b : Ba} {kd : Nat} {r : Nat ⊕ Ps} (hb : baC σ b) (hr : r = .inr (b, 4, kd, 1, 0, 0)) (h : stQ 2 4 σ Q r) : Cl lay1 (d + 1) M_Re_beginPart [aO 6 4, aI (nI kd)] σ Q := by
  refine bk_Re_beginPart_0 _ ?_
  have hb' := ((hb.p4 (k := 8) (nI kd) (by omega) (by omega)).p4 (k := 9) 1 (by omega) (by omega)).p4 (k := 6) 4 (by omega) (by omega)
  have a' := ((rdT_4 (σ := σ) (k := 8) (nI kd) (by omega)).trans (rdT_4 (k := 9) 1 (by omega))).trans (rdT_4 (k := 6) 4 (by omega))
  refine (h _ a' (by show sN σ ≤ _; omega) (by show sS σ ≤ _; omega)).2 _ hr ⟨by rw [gI_pI, if_pos ⟨rfl, rfl⟩]; rfl, hb'.1, fun _ => hb', fun _ => ⟨?_, ?_⟩, fun q => absurd q (by show ¬ (4 = 6 ∨ 4 = 7); omega), fun q => absurd q (by show ¬ (4 = 8 ∨ 4 = 9); omega)⟩
  · rw [gI_pI, if_neg (by omega), gI_pI, if_neg (by omega), gI_pI, if_pos ⟨rfl, rfl⟩]
  · rw [gI_pI, if_neg (by omega), gI_pI, if_pos ⟨rfl, rfl⟩]; rfl
/-- a PART ends the token -/
theorem sp_endQ {σ : St} {Q : Option AV → St → Prop} {b : Ba} {kd : Nat} {a : Int} {c : Nat} {r : Nat ⊕ Ps} (hln : LN σ) (h95 : 95 ≤ sN σ) (hb : baC σ b) (hbo : baOK b) (hk : kd ≤ 4) (ha : a.natAbs ≤ 9999) (hc : 1 ≤ c ∧ c ≤ 9999) (hr : r = .inr (endP b kd a c, 3, 0, 0, 0, 0)) (h : stQ 2 4 σ Q r) : Cl lay1 (d + 3) M_Re_endPart [aO 6 4, aI (nI kd), aI (I32 a), aI (nI c)] σ Q :=
  sp_endPart hln h95 hb hbo hk ha hc (fun τ a1 a2 a3 a4 a5 => (h τ a1 (by omega) (by omega)).2 _ hr (psC_b a4 (by rw [a5]; rfl) (by omega) _ _ _ _))
theorem sp_takeItem {σ : St} {Q : Option AV → St → Prop} {b : Ba} {k : Tk} (hln : LN σ) (h95 : 95 ≤ sN σ) (hb : baC σ b) (hbo : baOK b) (hk : tkC σ k) (hko : tkOK k) (h : stQ 2 4 σ Q (stItem b k)) : Cl lay1 (d + 4) M_Re_takeItem [aO 6 4] σ Q := by
  obtain ⟨f0, f1, f2, f4, fs⟩ := ckd_f hko
  refine bk_Re_takeItem_0 ?_
  rw [hk.1, f2, f1]
  unfold stItem at h
  refine ⟨fun c => ?_, fun c => ⟨fun c1 => ?_, fun c1 => ?_⟩⟩
  · rw [cite_pos c] at h
    have hv := hko.2.2.1 c
    refine bk_Re_takeTimes_0 ?_
    rw [hk.2.2.2.2 c, show (40 : Int64) = L64 40 by decide, L64_1, cmpL_lt (by omega) (by omega) (by omega) (by omega), cmpL_le (by omega) (by omega) (by omega) (by omega)]
    refine ⟨fun z => ?_, fun z1 => ⟨fun z2 => ?_, fun z => ?_⟩⟩
    · rw [cite_neg (by omega)] at h
      exact h.l rfl
    · rw [cite_pos (by omega)] at h
      rw [L64_I32, ← nI_I32]
      have hb' := (hb.p4 (k := 11) (nI k.2.1) (by omega) (by omega)).p4 (k := 6) 8 (by omega) (by omega)
      have a' := (rdT_4 (σ := σ) (k := 11) (nI k.2.1) (by omega)).trans (rdT_4 (k := 6) 8 (by omega))
      refine (h _ a' (by show sN σ ≤ _; omega) (by show sS σ ≤ _; omega)).2 _ rfl ⟨by rw [gI_pI, if_pos ⟨rfl, rfl⟩]; rfl, hb'.1, fun _ => hb', fun q => absurd q (by show ¬ (8 = 4 ∨ 8 = 5); omega), fun q => absurd q (by show ¬ (8 = 6 ∨ 8 = 7); omega), fun _ => ?_⟩
      rw [gI_pI, if_neg (by omega), gI_pI, if_pos ⟨rfl, rfl⟩]
    · rw [cite_neg (by omega)] at h
      exact h.l rfl
  · rw [cite_neg c, cite_pos c1] at h
    refine sp_isName (d := d + 1) (c := 4) hk hko (by omega) (fun _ e => ⟨fun z => absurd z (by decide), fun _ => ?_⟩) (fun e4 => ⟨fun _ => ?_, fun z => absurd rfl z⟩)
    · rw [cite_pos e] at h
      exact sp_beginPart (d := d + 2) (kd := 0) hb rfl h
    have n4 : ¬ k.2.2.1 = [4] := fun z => e4 ⟨c1, z⟩
    rw [cite_neg n4] at h
    refine sp_isName (d := d + 1) (c := 17) hk hko (by omega) (fun _ e => ⟨fun z => absurd z (by decide), fun _ => ?_⟩) (fun e17 => ⟨fun _ => ?_, fun z => absurd rfl z⟩)
    · rw [cite_pos e] at h
      exact sp_beginPart (d := d + 2) (kd := 1) hb rfl h
    have n17 : ¬ k.2.2.1 = [17] := fun z => e17 ⟨c1, z⟩
    rw [cite_neg n17] at h
    refine sp_isName (d := d + 1) (c := 19) hk hko (by omega) (fun _ e => ⟨fun z => absurd z (by decide), fun _ => ?_⟩) (fun e19 => ⟨fun _ => ?_, fun z => absurd rfl z⟩)
    · rw [cite_pos e] at h
      exact sp_beginPart (d := d + 2) (kd := 2) hb rfl h
    have n19 : ¬ k.2.2.1 = [19] := fun z => e19 ⟨c1, z⟩
    rw [cite_neg n19] at h
    refine sp_isName (d := d + 1) (c := 11) hk hko (by omega) (fun _ e => ⟨fun z => absurd z (by decide), fun _ => ?_⟩) (fun e11 => ⟨fun _ => ?_, fun z => absurd rfl z⟩)
    · rw [cite_pos e] at h
      exact sp_endQ (kd := 3) (a := 0) (c := 1) hln h95 hb hbo (by omega) (by decide) (by omega) rfl h
    have n11 : ¬ k.2.2.1 = [11] := fun z => e11 ⟨c1, z⟩
    rw [cite_neg n11] at h
    refine sp_isName (d := d + 1) (c := 13) hk hko (by omega) (fun _ e => ⟨fun z => absurd z (by decide), fun _ => ?_⟩) (fun e13 => ⟨fun _ => ?_, fun z => absurd rfl z⟩)
    · rw [cite_pos e] at h
      exact sp_endQ (kd := 4) (a := 0) (c := 1) hln h95 hb hbo (by omega) (by decide) (by omega) rfl h
    have n13 : ¬ k.2.2.1 = [13] := fun z => e13 ⟨c1, z⟩
    rw [cite_neg n13] at h
    exact sp_takeTold hln hb hbo hk hko c1 rfl h
  · rw [cite_neg c, cite_neg c1] at h
    exact h.l rfl
theorem sp_takeAbove {σ : St} {Q : Option AV → St → Prop} {b : Ba} {k : Tk} {kd : Nat} {sg : Int} (hln : LN σ) (h95 : 95 ≤ sN σ) (hb : baC σ b) (hbo : baOK b) (hk : tkC σ k) (hko : tkOK k) (h8 : gI σ 4 8 = nI kd) (h9 : gI σ 4 9 = I32 sg) (hkd : kd ≤ 2) (hsg : sg = 1 ∨ sg = -1) (h : stQ 2 4 σ Q (stAb b kd sg k)) : Cl lay1 (d + 4) M_Re_takeAbove [aO 6 4] σ Q := by
  obtain ⟨f0, f1, f2, f4, fs⟩ := ckd_f hko
  refine bk_Re_takeAbove_0 ?_
  rw [hk.1, f2]
  unfold stAb at h
  refine ⟨fun c => ?_, fun c => ?_⟩
  · rw [cite_pos c] at h
    have hv := hko.2.2.1 c
    have ha : (sg * (k.2.1 : Int)).natAbs ≤ 9999 := by
      rcases hsg with q | q <;> rw [q] <;> omega
    rw [hk.2.2.2.2 c, L64_I32, h9, I32_mul]
    have e8 : gI (pI σ 4 10 (I32 (sg * (k.2.1 : Nat)))) 4 8 = nI kd := by rw [gI_pI, if_neg (by omega)]; exact h8
    have e10 : gI (pI σ 4 10 (I32 (sg * (k.2.1 : Nat)))) 4 10 = I32 (sg * (k.2.1 : Nat)) := by rw [gI_pI, if_pos ⟨rfl, rfl⟩]
    have a1 := rdT_4 (σ := σ) (k := 10) (I32 (sg * (k.2.1 : Nat))) (by omega)
    have hb1 := hb.p4 (k := 10) (I32 (sg * (k.2.1 : Nat))) (by omega) (by omega)
    have s1 : sN (pI σ 4 10 (I32 (sg * (k.2.1 : Nat)))) = sN σ := rfl
    have t1 : sS (pI σ 4 10 (I32 (sg * (k.2.1 : Nat)))) = sS σ := rfl
    rw [e8, e10, show (2 : Int32) = nI 2 from rfl, nI_eq (by omega) (by omega)]
    generalize pI σ 4 10 (I32 (sg * (k.2.1 : Nat))) = σ1 at a1 hb1 s1 t1 e8 e10
    refine ⟨fun c2 => ?_, fun c2 => ?_⟩
    · rw [cite_pos c2] at h
      refine sp_endQ (b := b) (kd := 2) (c := 1) (a1.LN hln) (by omega) hb1 hbo (by omega) ha (by omega) rfl (fun τ b1 b2 b3 => h τ (a1.trans b1) (by omega) (by omega))
    · rw [cite_neg c2] at h
      have hb' := hb1.p4 (k := 6) 6 (by omega) (by omega)
      have a' := a1.trans (rdT_4 (k := 6) 6 (by omega))
      refine (h _ a' (by show sN σ1 ≤ _; omega) (by show sS σ1 ≤ _; omega)).2 _ rfl ⟨by rw [gI_pI, if_pos ⟨rfl, rfl⟩]; rfl, hb'.1, fun _ => hb', fun q => absurd q (by show ¬ (6 = 4 ∨ 6 = 5); omega), fun _ => ⟨?_, ?_⟩, fun q => absurd q (by show ¬ (6 = 8 ∨ 6 = 9); omega)⟩
      · rw [gI_pI, if_neg (by omega)]; exact e8
      · rw [gI_pI, if_neg (by omega)]; exact e10
  · rw [cite_neg c] at h
    exact h.l rfl
end CTAKE
