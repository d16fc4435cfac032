/-! ===== LAYER 3, F: the component's reader: take, findFault ===== -/
def swP (d : Nat) (Q : Option AV → St → Prop) (σ : St) : Prop := ((gI σ 4 6) = (0 : Int32) → Cl lay1 d M_Re_takeLineName [aO 6 4] σ (rI fun r74 σ73 => Q (some (aI r74)) σ73)) ∧ (¬ (gI σ 4 6) = (0 : Int32) → ((gI σ 4 6) = (1 : Int32) → Cl lay1 d M_Re_takeAlone [aO 6 4, aI (61 : Int32), aI (2 : Int32)] σ (rI fun r72 σ71 => Q (some (aI r72)) σ71)) ∧ (¬ (gI σ 4 6) = (1 : Int32) → ((gI σ 4 6) = (2 : Int32) → Cl lay1 d M_Re_takeItem [aO 6 4] σ (rI fun r70 σ69 => Q (some (aI r70)) σ69)) ∧ (¬ (gI σ 4 6) = (2 : Int32) → ((gI σ 4 6) = (3 : Int32) → Cl lay1 d M_Re_closes [aO 6 4] σ (rI fun r64 σ63 => (r64 = 0 → Cl lay1 d M_Re_takeItem [aO 6 4] σ63 (rI fun r66 σ65 => Q (some (aI r66)) σ65)) ∧ (¬ r64 = 0 → Cl lay1 d M_Re_takeClose [aO 6 4] σ63 (rI fun r68 σ67 => Q (some (aI r68)) σ67)))) ∧ (¬ (gI σ 4 6) = (3 : Int32) → ((gI σ 4 6) = (4 : Int32) → Cl lay1 d M_Re_takeMinusOrNumber [aO 6 4] σ (rI fun r62 σ61 => Q (some (aI r62)) σ61)) ∧ (¬ (gI σ 4 6) = (4 : Int32) → ((gI σ 4 6) = (5 : Int32) → Cl lay1 d M_Re_takeAbove [aO 6 4] σ (rI fun r60 σ59 => Q (some (aI r60)) σ59)) ∧ (¬ (gI σ 4 6) = (5 : Int32) → ((gI σ 4 6) = (6 : Int32) → Cl lay1 d M_Re_takeAlone [aO 6 4, aI (47 : Int32), aI (7 : Int32)] σ (rI fun r58 σ57 => Q (some (aI r58)) σ57)) ∧ (¬ (gI σ 4 6) = (6 : Int32) → ((gI σ 4 6) = (7 : Int32) → Cl lay1 d M_Re_takeBelow [aO 6 4] σ (rI fun r56 σ55 => Q (some (aI r56)) σ55)) ∧ (¬ (gI σ 4 6) = (7 : Int32) → ((gI σ 4 6) = (8 : Int32) → Cl lay1 d M_Re_takeAlone [aO 6 4, aI (42 : Int32), aI (9 : Int32)] σ (rI fun r54 σ53 => Q (some (aI r54)) σ53)) ∧ (¬ (gI σ 4 6) = (8 : Int32) → Cl lay1 d M_Re_takeOpen [aO 6 4] σ (rI fun r52 σ51 => Q (some (aI r52)) σ51))))))))))
def swC (d : Nat) (Q : Option AV → St → Prop) (σ : St) : Nat → Prop
  | 0 => Cl lay1 d M_Re_takeLineName [aO 6 4] σ (rI fun r σ' => Q (some (aI r)) σ')
  | 1 => Cl lay1 d M_Re_takeAlone [aO 6 4, aI (nI 61), aI (nI 2)] σ (rI fun r σ' => Q (some (aI r)) σ')
  | 2 => Cl lay1 d M_Re_takeItem [aO 6 4] σ (rI fun r σ' => Q (some (aI r)) σ')
  | 3 => Cl lay1 d M_Re_closes [aO 6 4] σ (rI fun r σ' => (r = 0 → Cl lay1 d M_Re_takeItem [aO 6 4] σ' (rI fun r σ' => Q (some (aI r)) σ')) ∧ (¬ r = 0 → Cl lay1 d M_Re_takeClose [aO 6 4] σ' (rI fun r σ' => Q (some (aI r)) σ')))
  | 4 => Cl lay1 d M_Re_takeMinusOrNumber [aO 6 4] σ (rI fun r σ' => Q (some (aI r)) σ')
  | 5 => Cl lay1 d M_Re_takeAbove [aO 6 4] σ (rI fun r σ' => Q (some (aI r)) σ')
  | 6 => Cl lay1 d M_Re_takeAlone [aO 6 4, aI (nI 47), aI (nI 7)] σ (rI fun r σ' => Q (some (aI r)) σ')
  | 7 => Cl lay1 d M_Re_takeBelow [aO 6 4] σ (rI fun r σ' => Q (some (aI r)) σ')
  | 8 => Cl lay1 d M_Re_takeAlone [aO 6 4, aI (nI 42), aI (nI 9)] σ (rI fun r σ' => Q (some (aI r)) σ')
  | _ => Cl lay1 d M_Re_takeOpen [aO 6 4] σ (rI fun r σ' => Q (some (aI r)) σ')
theorem sw_go {d : Nat} {Q : Option AV → St → Prop} {σ : St} {m : Nat} (h6 : gI σ 4 6 = nI m) (hm : m ≤ 9) (h : swC d Q σ m) : swP d Q σ := by
  have e : ∀ c, c < 10 → (gI σ 4 6 = nI c ↔ m = c) := fun c hc => by rw [h6, nI_eq (by omega) (by omega)]
  unfold swP
  rw [show (0 : Int32) = nI 0 from rfl, show (1 : Int32) = nI 1 from rfl, show (2 : Int32) = nI 2 from rfl, show (3 : Int32) = nI 3 from rfl, show (4 : Int32) = nI 4 from rfl, show (5 : Int32) = nI 5 from rfl, show (6 : Int32) = nI 6 from rfl, show (7 : Int32) = nI 7 from rfl, show (8 : Int32) = nI 8 from rfl, e 0 (by omega), e 1 (by omega), e 2 (by omega), e 3 (by omega), e 4 (by omega), e 5 (by omega), e 6 (by omega), e 7 (by omega), e 8 (by omega)]
  refine ⟨fun c => by subst c; exact h, fun c0 => ⟨fun c => by subst c; exact h, fun c1 => ⟨fun c => by subst c; exact h, fun c2 => ⟨fun c => by subst c; exact h, fun c3 => ⟨fun c => by subst c; exact h, fun c4 => ⟨fun c => by subst c; exact h, fun c5 => ⟨fun c => by subst c; exact h, fun c6 => ⟨fun c => by subst c; exact h, fun c7 => ⟨fun c => by subst c; exact h, fun c8 => ?_⟩⟩⟩⟩⟩⟩⟩⟩⟩
  have c9 : m = 9 := by omega
  subst c9
  exact h
theorem stQ.mono {x y x' y' : Nat} {σ : St} {Q : Option AV → St → Prop} {r : Nat ⊕ Ps} (h : stQ x y σ Q r) (hx : x' ≤ x) (hy : y' ≤ y) : stQ x' y' σ Q r := fun τ a b c => h τ a (by omega) (by omega)
/-- as seen from a state behind -/
theorem stQ.next {x y x' y' : Nat} {σ τ : St} {Q : Option AV → St → Prop} {r : Nat ⊕ Ps} (h : stQ x y σ Q r) (a : rdT σ τ) (hx : sN τ + x' ≤ sN σ + x) (hy : sS τ + y' ≤ sS σ + y) : stQ x' y' τ Q r := fun υ b c d => h υ (a.trans b) (by omega) (by omega)
section CTAKE2
variable {d : Nat}
theorem sp_ic {σ : St} {Q : Option AV → St → Prop} {b : Ba} {k : Tk} (hln : LN σ) (h95 : 95 ≤ sN σ) (h6 : gI σ 4 6 = 3) (hb : baC σ b) (hbo : baOK b) (hk : tkC σ k) (hko : tkOK k) (h : stQ 2 83 σ Q (stIC b k)) : swC (d + 5) Q σ 3 := by
  unfold stIC at h
  refine sp_closes (d := d + 4) hb hbo hk hko (fun c => ⟨fun z => absurd z (by decide), fun _ => ?_⟩) (fun c => ⟨fun _ => ?_, fun z => absurd rfl z⟩)
  · rw [cite_pos c] at h
    exact sp_takeClose (d := d + 2) hln h95 h6 hb hbo h
  · rw [cite_neg c] at h
    exact sp_takeItem (d := d + 1) hln h95 hb hbo hk hko (h.mono (by omega) (by omega))
theorem sp_take {σ : St} {Q : Option AV → St → Prop} {p : Ps} {k : Tk} (hln : LN σ) (h95 : 95 ≤ sN σ) (hp : psC σ p) (hpo : psOK p) (hk : tkC σ k) (hko : tkOK k) (h : stQ 4 87 σ Q (stp p k)) : Cl lay1 (d + 6) M_Re_take [aO 6 4] σ Q := by
  obtain ⟨f0, f1, f2, f4, fs⟩ := ckd_f hko
  have e6 : gI σ 4 6 = 6 ↔ p.2.1 = 6 := by
    have := hpo.2.1
    rw [hp.1, show (6 : Int32) = nI 6 from rfl, nI_eq (by omega) (by omega)]
  refine bk_Re_take_0 ?_
  rw [hk.1, f4]
  refine ⟨fun c4 => ?_, fun c4 => ?_⟩
  · have hs : stp p k = .inl 1 := cite_pos c4
    exact h.l hs
  show (gI σ 4 6 = 6 → (ckd k = 47 → swP (d + 5) Q σ) ∧ (¬ ckd k = 47 → Cl lay1 (d + 5) M_Re_endPart [aO 6 4, aI (gI σ 4 8), aI (gI σ 4 10), aI (1 : Int32)] σ (rI fun _ σ25 => swP (d + 5) Q σ25))) ∧ (¬ gI σ 4 6 = 6 → swP (d + 5) Q σ)
  rw [e6, show (47 : Int32) = nI 47 from rfl, fs 47 (by omega)]
  obtain ⟨b, m, kd, sg, ab, tm⟩ := p
  obtain ⟨p1, p2, p3, p45, p67, p89⟩ := id hp
  obtain ⟨o1, o9, ob, o45, o67, o89⟩ := id hpo
  have p1 : gI σ 4 6 = nI m := p1
  have o9 : m ≤ 9 := o9
  refine ⟨fun c6 => ?_, fun c6 => ?_⟩
  · have c6 : m = 6 := c6
    subst c6
    obtain ⟨r8, r10⟩ := p67 (Or.inl rfl)
    obtain ⟨q8, q10⟩ := o67 (Or.inl rfl)
    have hb := p3 (Nat.succ_ne_zero _)
    have hbo := ob (Nat.succ_ne_zero _)
    have q8 : kd ≤ 2 := q8
    have hs : stp (b, 6, kd, sg, ab, tm) k = cite (isS k 47) (.inr (b, 7, kd, 0, ab, 0)) (stIC (endP b kd ab 1) k) := cite_neg c4
    rw [hs] at h
    refine ⟨fun z => sw_go p1 (by omega) ?_, fun z => ?_⟩
    · rw [cite_pos z] at h
      have hb' := hb.p4 (k := 6) (nI 7) (by omega) (by omega)
      refine sp_takeAlone (d := d + 4) (m := 7) (p' := (b, 7, kd, 0, ab, 0)) hk hko (by omega) (cite_pos z).symm ⟨by rw [gI_pI, if_pos ⟨rfl, rfl⟩], hb'.1, fun _ => hb', fun q => absurd q (by show ¬ (7 = 4 ∨ 7 = 5); omega), fun _ => ⟨?_, ?_⟩, fun q => absurd q (by show ¬ (7 = 8 ∨ 7 = 9); omega)⟩ h
      · rw [gI_pI, if_neg (by omega)]; exact r8
      · rw [gI_pI, if_neg (by omega)]; exact r10
    · rw [cite_neg z] at h
      have r8 : gI σ 4 8 = nI kd := r8
      have r10 : gI σ 4 10 = I32 ab := r10
      rw [r8, r10]
      refine sp_endPart (d := d + 2) (c := 1) hln h95 hb hbo (by omega) q10 (by omega) (fun τ a1 a2 a3 a4 a5 => ?_)
      refine sw_go (m := 3) (by rw [a5]; rfl) (by omega) ?_
      exact sp_ic (a1.LN hln) (by omega) a5 a4 (endP_ok hbo (by omega) q10 (by omega)) (a1.tk hk) hko (h.next a1 (by omega) (by omega))
  · have c6 : ¬ m = 6 := c6
    refine sw_go p1 o9 ?_
    rcases (show m = 0 ∨ m = 1 ∨ m = 2 ∨ m = 3 ∨ m = 4 ∨ m = 5 ∨ m = 7 ∨ m = 8 ∨ m = 9 by omega) with rfl | rfl | rfl | rfl | rfl | rfl | rfl | rfl | rfl
    · exact sp_takeLineName (d := d + 1) hp hpo rfl hk hko c4 h
    · have hs : stp (b, 1, kd, sg, ab, tm) k = cite (isS k 61) (.inr (b, 2, 0, 0, 0, 0)) (.inl 2) := cite_neg c4
      rw [hs] at h
      exact sp_takeAlone (d := d + 4) (m := 2) (p' := (b, 2, 0, 0, 0, 0)) hk hko (by omega) rfl (psC_b ((p3 (Nat.succ_ne_zero _)).p4 (k := 6) (nI 2) (by omega) (by omega)) (by rw [gI_pI, if_pos ⟨rfl, rfl⟩]) (by omega) _ _ _ _) h
    · have hs : stp (b, 2, kd, sg, ab, tm) k = stItem b k := cite_neg c4
      rw [hs] at h
      exact sp_takeItem (d := d + 1) hln h95 (p3 (Nat.succ_ne_zero _)) (ob (Nat.succ_ne_zero _)) hk hko (h.mono (by omega) (by omega))
    · have hs : stp (b, 3, kd, sg, ab, tm) k = stIC b k := cite_neg c4
      rw [hs] at h
      exact sp_ic hln h95 p1 (p3 (Nat.succ_ne_zero _)) (ob (Nat.succ_ne_zero _)) hk hko (h.mono (by omega) (by omega))
    · have hs : stp (b, 4, kd, sg, ab, tm) k = cite (isS k 45) (.inr (b, 5, kd, -1, 0, 0)) (stAb b kd sg k) := cite_neg c4
      rw [hs] at h
      obtain ⟨r8, r9⟩ := p45 (Or.inl rfl)
      obtain ⟨q8, q9⟩ := o45 (Or.inl rfl)
      have hb := p3 (Nat.succ_ne_zero _)
      refine bk_Re_takeMinusOrNumber_0 ?_
      rw [hk.1, show (45 : Int32) = nI 45 from rfl, fs 45 (by omega)]
      refine ⟨fun z => ?_, fun z => ?_⟩
      · rw [cite_pos z] at h
        have hb' := (hb.p4 (k := 9) (-1) (by omega) (by omega)).p4 (k := 6) 5 (by omega) (by omega)
        have a' := (rdT_4 (σ := σ) (k := 9) (-1) (by omega)).trans (rdT_4 (k := 6) 5 (by omega))
        refine (h _ a' (by show sN σ ≤ _; omega) (by show sS σ ≤ _; omega)).2 _ rfl ⟨by rw [gI_pI, if_pos ⟨rfl, rfl⟩]; rfl, hb'.1, fun _ => hb', fun _ => ⟨?_, ?_⟩, fun q => absurd q (by show ¬ (5 = 6 ∨ 5 = 7); omega), fun q => absurd q (by show ¬ (5 = 8 ∨ 5 = 9); omega)⟩
        · rw [gI_pI, if_neg (by omega), gI_pI, if_neg (by omega)]; exact r8
        · rw [gI_pI, if_neg (by omega), gI_pI, if_pos ⟨rfl, rfl⟩]; rfl
      · rw [cite_neg z] at h
        exact sp_takeAbove (d := d) hln h95 hb (ob (Nat.succ_ne_zero _)) hk hko r8 r9 q8 q9 (h.mono (by omega) (by omega))
    · have hs : stp (b, 5, kd, sg, ab, tm) k = stAb b kd sg k := cite_neg c4
      rw [hs] at h
      obtain ⟨r8, r9⟩ := p45 (Or.inr rfl)
      obtain ⟨q8, q9⟩ := o45 (Or.inr rfl)
      exact sp_takeAbove (d := d + 1) hln h95 (p3 (Nat.succ_ne_zero _)) (ob (Nat.succ_ne_zero _)) hk hko r8 r9 q8 q9 (h.mono (by omega) (by omega))
    · have hs : stp (b, 7, kd, sg, ab, tm) k = cite (k.1 = 2 ∧ k.2.1 ≠ 0) (.inr (endP b kd ab k.2.1, 3, 0, 0, 0, 0)) (.inl 2) := cite_neg c4
      rw [hs] at h
      obtain ⟨r8, r10⟩ := p67 (Or.inr rfl)
      obtain ⟨q8, q10⟩ := o67 (Or.inr rfl)
      have q8 : kd ≤ 2 := q8
      have r8 : gI σ 4 8 = nI kd := r8
      have r10 : gI σ 4 10 = I32 ab := r10
      refine bk_Re_takeBelow_0 ?_
      rw [hk.1, f2]
      refine ⟨fun z => ?_, fun z => ?_⟩
      · have hv := hko.2.2.1 z
        rw [hk.2.2.2.2 z, L64_0, cmpL_eq (by omega) (by omega) (by omega) (by omega), L64_I32, ← nI_I32, r8, r10]
        refine ⟨fun z0 => ?_, fun z0 => ?_⟩
        · rw [cite_neg (fun y => y.2 (by omega))] at h
          exact h.l rfl
        · have z1 : k.2.1 ≠ 0 := fun y => z0 (by omega)
          rw [cite_pos ⟨z, z1⟩] at h
          exact sp_endQ (d := d + 1) hln h95 (p3 (Nat.succ_ne_zero _)) (ob (Nat.succ_ne_zero _)) (by omega) q10 (by omega) rfl (h.mono (by omega) (by omega))
      · rw [cite_neg (fun y => z y.1)] at h
        exact h.l rfl
    · have hs : stp (b, 8, kd, sg, ab, tm) k = cite (isS k 42) (.inr (b, 9, 0, 0, 0, tm)) (.inl 2) := cite_neg c4
      rw [hs] at h
      have hb' := (p3 (Nat.succ_ne_zero _)).p4 (k := 6) (nI 9) (by omega) (by omega)
      refine sp_takeAlone (d := d + 4) (m := 9) (p' := (b, 9, 0, 0, 0, tm)) hk hko (by omega) rfl ⟨by rw [gI_pI, if_pos ⟨rfl, rfl⟩], hb'.1, fun _ => hb', fun q => absurd q (by show ¬ (9 = 4 ∨ 9 = 5); omega), fun q => absurd q (by show ¬ (9 = 6 ∨ 9 = 7); omega), fun _ => ?_⟩ h
      rw [gI_pI, if_neg (by omega)]
      exact p89 (Or.inl rfl)
    · have hs : stp (b, 9, kd, sg, ab, tm) k = cite (isS k 40) (cite (6 ≤ b.2.2.1.length) (.inl 3) (.inr ((b.1, b.2.1, (b.2.1.1.length, tm) :: b.2.2.1, b.2.2.2), 2, 0, 0, 0, 0))) (.inl 2) := cite_neg c4
      rw [hs] at h
      exact sp_takeOpen (d := d + 4) hln (p3 (Nat.succ_ne_zero _)) (ob (Nat.succ_ne_zero _)) hk hko (p89 (Or.inr rfl)) rfl (h.mono (by omega) (by omega))
/-- what a reading changes -/
def rdC (σ τ : St) : Prop := he σ τ ∧ (∀ j, j < 95 → gN τ j = gN σ j) ∧ (∀ j k, j < 95 → ¬ (j = 4 ∧ k = 5) → j ≠ 8 → gR τ j k = gR σ j k) ∧ (∀ j k, j < 95 → ¬ (j = 4 ∧ 4 ≤ k) → ¬ (j = 5 ∧ 2 ≤ k ∧ k ≤ 4) → j ≠ 7 → j ≠ 9 → j ≠ 10 → gI τ j k = gI σ j k) ∧ ∀ j k, j < 95 → ¬ (j = 4 ∧ k = 7) → ¬ (j = 5 ∧ k = 5) → gL τ j k = gL σ j k
theorem rdC.trans {σ τ υ : St} (h : rdC σ τ) (g : rdC τ υ) : rdC σ υ := ⟨h.1.trans g.1, fun j a => (g.2.1 j a).trans (h.2.1 j a), fun j k a b c => (g.2.2.1 j k a b c).trans (h.2.2.1 j k a b c), fun j k a b c e f i => (g.2.2.2.1 j k a b c e f i).trans (h.2.2.2.1 j k a b c e f i), fun j k a b c => (g.2.2.2.2 j k a b c).trans (h.2.2.2.2 j k a b c)⟩
theorem rdT.c {σ τ : St} (h : rdT σ τ) : rdC σ τ := ⟨h.1, h.2.1, h.2.2.1, fun j k a b _ e f i => h.2.2.2.1 j k a b e f i, fun j k a b _ => h.2.2.2.2 j k a b⟩
theorem ac.he {σ τ : St} (h : ac σ τ) : he σ τ := ⟨by rw [h.1]; exact Nat.le_refl _, fun j h1 _ => ⟨fun k => h.2.2.2.2.1 j k (by omega), fun k => h.2.2.2.2.2 j k (by omega), fun k => by rw [h.2.2.2.1], by rw [h.2.2.1]⟩⟩
theorem ac.c {σ τ : St} (h : ac σ τ) : rdC σ τ := ⟨h.he, fun j _ => by rw [h.2.2.1], fun j k _ _ _ => by rw [h.2.2.2.1], fun j k _ _ q _ _ _ => h.2.2.2.2.1 j k q, fun j k _ _ q => h.2.2.2.2.2 j k q⟩
theorem ac.ps {σ τ : St} (h : ac σ τ) {p : Ps} (hp : psC σ p) : psC τ p := by
  obtain ⟨p1, p2, p3, p45, p67, p89⟩ := hp
  have e4 : ∀ k, gI τ 4 k = gI σ 4 k := fun k => h.2.2.2.2.1 4 k (by omega)
  refine ⟨(e4 6).trans p1, by rw [h.2.2.2.1]; exact h.he.lines p2, fun z => (p3 z).of h.he (by rw [h.2.2.2.1]) (fun k => h.2.2.2.2.1 7 k (by omega)) (fun k => by rw [h.2.2.2.1]) (e4 4) (fun k => h.2.2.2.2.1 9 k (by omega)) (fun k => h.2.2.2.2.1 10 k (by omega)) (h.2.2.2.2.2 4 7 (by omega)), fun z => ?_, fun z => ?_, fun z => ?_⟩
  · rw [e4, e4]; exact p45 z
  · rw [e4, e4]; exact p67 z
  · rw [e4]; exact p89 z
theorem rdT.tx {σ τ : St} (h : rdT σ τ) {t : Tx} (ht : txC σ t) : txC τ t := ⟨(h.2.2.2.1 5 1 (by omega) (by omega) (by omega) (by omega) (by omega)).trans ht.1, fun i hi => (h.2.2.2.1 6 i (by omega) (by omega) (by omega) (by omega) (by omega)).trans (ht.2 i hi)⟩
theorem stItem_c {b : Ba} {k : Tk} {c : Nat} (h : stItem b k = .inl c) : c = 2 := by
  unfold stItem at h
  by_cases c2 : k.1 = 2
  · rw [cite_pos c2] at h
    by_cases c3 : 1 ≤ k.2.1 ∧ k.2.1 ≤ 40
    · rw [cite_pos c3] at h; cases h
    · rw [cite_neg c3] at h; cases h; rfl
  rw [cite_neg c2] at h
  by_cases c1 : k.1 ≠ 1
  · rw [cite_neg c1] at h; cases h; rfl
  have c1 : k.1 = 1 := Classical.not_not.mp c1
  rw [cite_pos c1] at h
  by_cases e4 : k.2.2.1 = [4]
  · rw [cite_pos e4] at h; cases h
  rw [cite_neg e4] at h
  by_cases e17 : k.2.2.1 = [17]
  · rw [cite_pos e17] at h; cases h
  rw [cite_neg e17] at h
  by_cases e19 : k.2.2.1 = [19]
  · rw [cite_pos e19] at h; cases h
  rw [cite_neg e19] at h
  by_cases e11 : k.2.2.1 = [11]
  · rw [cite_pos e11] at h; cases h
  rw [cite_neg e11] at h
  by_cases e13 : k.2.2.1 = [13]
  · rw [cite_pos e13] at h; cases h
  rw [cite_neg e13] at h
  cases e : fnd b.1 k.2.2.1 with
  | none => rw [e] at h; cases h; rfl
  | some l => rw [e] at h; cases h
theorem stIC_c {b : Ba} {k : Tk} {c : Nat} (h : stIC b k = .inl c) : 1 ≤ c ∧ c ≤ 4 := by
  unfold stIC at h
  by_cases cc : clo b k
  · rw [cite_pos cc] at h
    unfold stClose at h
    cases e : b.2.2.1 with
    | nil =>
      rw [e] at h
      have h : cite (b.2.1.2 = true) (.inl 4) (.inr (((b.2.2.2, b.2.1.1) :: b.1, b.2.1, [], b.2.2.2), 0, 0, 0, 0, 0)) = (.inl c : Nat ⊕ Ps) := h
      by_cases q : b.2.1.2 = true
      · rw [cite_pos q] at h; cases h; omega
      · rw [cite_neg q] at h; cases h
    | cons x r => rw [e] at h; cases h
  · rw [cite_neg cc] at h
    have := stItem_c h
    omega
theorem stAb_c {b : Ba} {k : Tk} {kd : Nat} {sg : Int} {c : Nat} (h : stAb b kd sg k = .inl c) : 1 ≤ c ∧ c ≤ 4 := by
  unfold stAb at h
  by_cases q : k.1 = 2
  · rw [cite_pos q] at h
    by_cases q2 : kd = 2
    · rw [cite_pos q2] at h; cases h
    · rw [cite_neg q2] at h; cases h
  · rw [cite_neg q] at h; cases h; omega
theorem c2_c {P : Prop} {x : Ps} {c : Nat} (h : cite P (.inr x) (.inl 2) = (.inl c : Nat ⊕ Ps)) : 1 ≤ c ∧ c ≤ 4 := by
  by_cases q : P
  · rw [cite_pos q] at h; cases h
  · rw [cite_neg q] at h; cases h; omega
theorem stp_c {p : Ps} {k : Tk} {c : Nat} (hp : psOK p) (h : stp p k = .inl c) : 1 ≤ c ∧ c ≤ 4 := by
  unfold stp at h
  by_cases c4 : k.1 = 4
  · rw [cite_pos c4] at h; cases h; omega
  rw [cite_neg c4] at h
  obtain ⟨b, m, kd, sg, ab, tm⟩ := p
  have h9 : m ≤ 9 := hp.2.1
  rcases (show m = 0 ∨ m = 1 ∨ m = 2 ∨ m = 3 ∨ m = 4 ∨ m = 5 ∨ m = 6 ∨ m = 7 ∨ m = 8 ∨ m = 9 by omega) with rfl | rfl | rfl | rfl | rfl | rfl | rfl | rfl | rfl | rfl
  · have h : cite (k.1 = 0) (match b.1 with
      | [] => .inl 2
      | _ :: _ => .inr (b, 0, kd, sg, ab, tm)) (cite (k.1 = 1 ∧ ¬ own k.2.2.1 ∧ fnd b.1 k.2.2.1 = none) (.inr ((b.1, ([], false), [], k.2.2.1), 1, 0, 0, 0, 0)) (.inl 2)) = (.inl c : Nat ⊕ Ps) := h
    by_cases q : k.1 = 0
    · rw [cite_pos q] at h
      cases e : b.1 with
      | nil => rw [e] at h; cases h; omega
      | cons x r => rw [e] at h; cases h
    · rw [cite_neg q] at h
      exact c2_c h
  · exact c2_c h
  · have := stItem_c h; omega
  · exact stIC_c h
  · have h : cite (isS k 45) (.inr (b, 5, kd, -1, 0, 0)) (stAb b kd sg k) = (.inl c : Nat ⊕ Ps) := h
    by_cases q : isS k 45
    · rw [cite_pos q] at h; cases h
    · rw [cite_neg q] at h; exact stAb_c h
  · exact stAb_c h
  · have h : cite (isS k 47) (.inr (b, 7, kd, 0, ab, 0)) (stIC (endP b kd ab 1) k) = (.inl c : Nat ⊕ Ps) := h
    by_cases q : isS k 47
    · rw [cite_pos q] at h; cases h
    · rw [cite_neg q] at h; exact stIC_c h
  · exact c2_c h
  · exact c2_c h
  · have h : cite (isS k 40) (cite (6 ≤ b.2.2.1.length) (.inl 3) (.inr ((b.1, b.2.1, (b.2.1.1.length, tm) :: b.2.2.1, b.2.2.2), 2, 0, 0, 0, 0))) (.inl 2) = (.inl c : Nat ⊕ Ps) := h
    by_cases q : isS k 40
    · rw [cite_pos q] at h
      by_cases q6 : 6 ≤ b.2.2.1.length
      · rw [cite_pos q6] at h; cases h; omega
      · rw [cite_neg q6] at h; cases h
    · rw [cite_neg q] at h; cases h; omega
theorem sp_find_loop {t : Tx} (hto : txOK t) : ∀ (m a : Nat) (p : Ps) (x : Nat) (u2 : AV) (σ : St) (Q : Option AV → St → Prop), t.1 + 1 - a = m → a ≤ t.1 → x ≤ a → LN σ → 95 ≤ sN σ → txC σ t → psC σ p → psOK p → gI σ 5 4 = nI a → (∀ τ c pl, rdC σ τ → sN τ ≤ sN σ + 4 * m → sS τ ≤ sS σ + 87 * m → prP t a p = .inl (c, pl) → 1 ≤ c ∧ c ≤ 4 → gI τ 5 3 = nI pl → Q (some (aI (nI c))) τ) → (∀ τ p', rdC σ τ → sN τ ≤ sN σ + 4 * m → sS τ ≤ sS σ + 87 * m → prP t a p = .inr p' → psC τ p' → psOK p' → Q (some (aI 0)) τ) → Wp lay1 rtOf (Cl lay1 (d + 6)) k_Re_findFault 1 Q (19, [aO 6 4, aI (nI x), u2], [], σ) := by
  have h15 := hto.1
  intro m
  induction m using Nat.strongRecOn with
  | ind m ih =>
    intro a p x u2 σ Q hm ha hx hln h95 ht hp hpo h4 hl hr
    refine bk_Re_findFault_19 _ _ ⟨fun c => absurd c ?_, fun _ => ?_⟩
    · rw [show (1500 : Int32) = nI 1500 from rfl, nI_ltI (by omega) (by omega)]; omega
    refine sp_advance (d := d + 3) hln ht hto ha h4 (fun τ1 a1 k1 => ?_)
    have hko := tok_ok hto ha
    have hpos := tok_pos ha
    refine sp_take (hln.of a1.2.2.1) (by rw [a1.1]; exact h95) (a1.ps hp) hpo k1 hko (fun τ a2 s2 t2 => ?_)
    rw [a1.1] at s2
    rw [a1.2.1] at t2
    have aa := a1.c.trans a2.c
    have k2 := a2.tk k1
    obtain ⟨f0, -⟩ := ckd_f hko
    have e5 : gI τ 5 2 = -1 ↔ (tok t a).1 = 0 := by rw [k2.1, f0]
    refine ⟨fun c hc => ?_, fun p' hp' hpc => ?_⟩
    · have hcc := stp_c hpo hc
      have n0 : ¬ nI c = 0 := nI_ne0 (by omega) (by omega)
      refine ⟨fun z => absurd z n0, fun _ => hl τ c _ aa (by omega) (by omega) (prP_l ha hc) hcc k2.2.1⟩
    · have hpo' := stp_ok hpo hko hp'
      refine ⟨fun _ => ⟨fun z => ?_, fun z => ?_⟩, fun z => absurd rfl z⟩
      · rw [e5] at z
        exact hr τ p' aa (by omega) (by omega) (prP_e ha hp' z) hpc hpo'
      · rw [e5] at z
        have hlt := hpos.2.2.2.1 z
        have es := prP_s ha hp' z
        show Wp lay1 rtOf (Cl lay1 (d + 6)) k_Re_findFault 1 Q (19, [aO 6 4, aI (nI x + 1), aI 0], [], τ)
        rw [nI_1]
        refine ih (t.1 + 1 - (tok t a).2.2.2.2) (by omega) (tok t a).2.2.2.2 p' (x + 1) _ τ Q rfl hpos.1 (by omega) (a2.LN (hln.of a1.2.2.1)) (by have := a2.1.1; rw [a1.1] at this; omega) (a2.tx (a1.tx ht)) hpc hpo' k2.2.2.1 (fun υ c pl b1 b2 b3 b4 b5 b6 => hl υ c pl (aa.trans b1) (by omega) (by omega) (es.trans b4) b5 b6) (fun υ q b1 b2 b3 b4 b5 b6 => hr υ q (aa.trans b1) (by omega) (by omega) (es.trans b4) b5 b6)
end CTAKE2
