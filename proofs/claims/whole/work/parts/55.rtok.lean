/-! ===== LAYER 3, F: tokens, the reference ===== -/
def tkR (σ : St) (k : Tk) : Prop := gI σ 71 4 = nI k.1 ∧ gI σ 71 3 = nI k.2.2.2.1 ∧ gI σ 71 2 = nI k.2.2.2.2 ∧ (k.1 = 1 → gL σ 71 5 = L64 (encL 27 k.2.2.1)) ∧ (k.1 = 2 → gL σ 71 5 = L64 k.2.1) ∧ (k.1 = 3 → gL σ 71 5 = L64 k.2.1)
def rc (σ τ : St) : Prop := sN τ = sN σ ∧ sS τ = sS σ ∧ gN τ = gN σ ∧ gR τ = gR σ ∧ (∀ j k, ¬ (j = 71 ∧ 2 ≤ k ∧ k ≤ 4) → gI τ j k = gI σ j k) ∧ ∀ j k, ¬ (j = 71 ∧ k = 5) → gL τ j k = gL σ j k
theorem rc.rf (σ : St) : rc σ σ := ⟨rfl, rfl, rfl, rfl, fun _ _ _ => rfl, fun _ _ _ => rfl⟩
theorem rc.trans {σ τ υ : St} (h : rc σ τ) (g : rc τ υ) : rc σ υ := ⟨g.1.trans h.1, g.2.1.trans h.2.1, g.2.2.1.trans h.2.2.1, g.2.2.2.1.trans h.2.2.2.1, fun j k q => (g.2.2.2.2.1 j k q).trans (h.2.2.2.2.1 j k q), fun j k q => (g.2.2.2.2.2 j k q).trans (h.2.2.2.2.2 j k q)⟩
theorem rc_pI {σ : St} {k : Nat} (v : Int32) (h : 2 ≤ k ∧ k ≤ 4) : rc σ (pI σ 71 k v) := ⟨rfl, rfl, rfl, rfl, fun a b q => by rw [gI_pI, if_neg (by omega)], fun _ _ _ => rfl⟩
theorem rc_pL {σ : St} (v : Int64) : rc σ (pL σ 71 5 v) := ⟨rfl, rfl, rfl, rfl, fun _ _ _ => rfl, fun a b q => by rw [gL_pL, if_neg q]⟩
theorem rc.tx {σ τ : St} (h : rc σ τ) {t : Tx} (ht : txR σ t) : txR τ t := ⟨(h.2.2.2.2.1 71 1 (by omega)).trans ht.1, fun i hi => (h.2.2.2.2.1 72 i (by omega)).trans (ht.2 i hi)⟩
section RTOK
variable {d : Nat}
theorem sp_rLetter {σ : St} {Q : Option AV → St → Prop} {c : Nat} (hc : c < 256) (hy : isLe c = true → Q (some (aI 1)) σ) (hn : isLe c = false → Q (some (aI 0)) σ) : Cl lay1 (d + 1) M_R_isLetter [aI (nI c)] σ Q := by
  refine bk_R_isLetter_0 _ ?_
  rw [show (97 : Int32) = nI 97 from rfl, show (122 : Int32) = nI 122 from rfl, nI_ltI (by omega) (by omega), nI_ltI (by omega) (by omega)]
  refine ⟨fun c1 => ⟨b01, hn (decide_eq_false (by omega))⟩, fun c1 => ⟨fun c2 => ⟨b01, hn (decide_eq_false (by omega))⟩, fun c2 => ⟨b11, hy (decide_eq_true (by omega))⟩⟩⟩
theorem sp_rFigure {σ : St} {Q : Option AV → St → Prop} {c : Nat} (hc : c < 256) (hy : isFi c = true → Q (some (aI 1)) σ) (hn : isFi c = false → Q (some (aI 0)) σ) : Cl lay1 (d + 1) M_R_isFigure [aI (nI c)] σ Q := by
  refine bk_R_isFigure_0 _ ?_
  rw [show (48 : Int32) = nI 48 from rfl, show (57 : Int32) = nI 57 from rfl, nI_ltI (by omega) (by omega), nI_ltI (by omega) (by omega)]
  refine ⟨fun c1 => ⟨b01, hn (decide_eq_false (by omega))⟩, fun c1 => ⟨fun c2 => ⟨b01, hn (decide_eq_false (by omega))⟩, fun c2 => ⟨b11, hy (decide_eq_true (by omega))⟩⟩⟩
theorem sp_rname_loop {t : Tx} {s : Nat} (hto : txOK t) : ∀ (m k : Nat) (u1 u2 : AV) (σ : St) (Q : Option AV → St → Prop), s + k + m = t.1 → LN σ → txR σ t → gI σ 71 3 = nI s → gI σ 71 2 = nI (s + k) → (k ≤ 8 → gL σ 71 5 = L64 (encL 27 (lts t s k))) → (∀ τ, rc σ τ → gI τ 71 4 = (if spE isLe t (s + k) - s ≤ 8 then 1 else 4) → gI τ 71 3 = nI s → gI τ 71 2 = nI (spE isLe t (s + k)) → (spE isLe t (s + k) - s ≤ 8 → gL τ 71 5 = L64 (encL 27 (lts t s (spE isLe t (s + k) - s)))) → Q none τ) → Wp lay1 rtOf (Cl lay1 (d + 1)) k_R_next 0 Q (99, [aO 12 71, u1, u2], [], σ) := by
  have h15 := hto.1
  intro m
  have fin : ∀ (k : Nat) (σ : St) (Q : Option AV → St → Prop), s + k ≤ t.1 → spE isLe t (s + k) = s + k → gI σ 71 3 = nI s → gI σ 71 2 = nI (s + k) → (k ≤ 8 → gL σ 71 5 = L64 (encL 27 (lts t s k))) → (∀ τ, rc σ τ → gI τ 71 4 = (if spE isLe t (s + k) - s ≤ 8 then 1 else 4) → gI τ 71 3 = nI s → gI τ 71 2 = nI (spE isLe t (s + k)) → (spE isLe t (s + k) - s ≤ 8 → gL τ 71 5 = L64 (encL 27 (lts t s (spE isLe t (s + k) - s)))) → Q none τ) → (((gI σ 71 2) - (gI σ 71 3)) ≤ (8 : Int32) → Q none (pI σ 71 4 (1 : Int32))) ∧ (¬ ((gI σ 71 2) - (gI σ 71 3)) ≤ (8 : Int32) → Q none (pI σ 71 4 (4 : Int32))) := by
    intro k σ Q hk e h3 h4 h5 h
    rw [e, Nat.add_sub_cancel_left] at h
    rw [h3, h4, pk_sub (by omega), Nat.add_sub_cancel_left, show (8 : Int32) = nI 8 from rfl, nI_leI (by omega) (by omega)]
    refine ⟨fun c => h _ (rc_pI _ (by omega)) ?_ ?_ ?_ h5, fun c => h _ (rc_pI _ (by omega)) ?_ ?_ ?_ h5⟩
    · rw [gI_pI, if_pos ⟨rfl, rfl⟩, if_pos c]
    · rw [gI_pI, if_neg (by omega)]; exact h3
    · rw [gI_pI, if_neg (by omega)]; exact h4
    · rw [gI_pI, if_pos ⟨rfl, rfl⟩, if_neg c]
    · rw [gI_pI, if_neg (by omega)]; exact h3
    · rw [gI_pI, if_neg (by omega)]; exact h4
  induction m with
  | zero =>
    intro k u1 u2 σ Q hm hln ht h3 h4 h5 h
    refine bk_R_next_99 _ _ ⟨fun _ => fin k σ Q (by omega) (spE_st (by omega)) h3 h4 h5 h, fun c => absurd ?_ c⟩
    rw [ht.1, h4, nI_leI (by omega) (by omega)]; omega
  | succ m ih =>
    intro k u1 u2 σ Q hm hln ht h3 h4 h5 h
    have ha : s + k < t.1 := by omega
    have h256 := hto.2 _ ha
    have hb : inb (gI σ 71 2) (gN σ 72) := by rw [h4, hln.at 72 1500 (by decide)]; exact inb_nI (by omega) (by omega)
    have hc0 : gI σ 72 (ix (gI σ 71 2)) = nI (t.2 (s + k)) := by rw [h4, ix_nI (by omega)]; exact ht.2 _ ha
    refine bk_R_next_99 _ _ ⟨fun c => absurd c ?_, fun _ => ⟨hb, ?_⟩⟩
    · rw [ht.1, h4, nI_leI (by omega) (by omega)]; omega
    rw [hc0]
    refine sp_rLetter h256 (fun c => ⟨fun z => absurd z (by decide), fun _ => ?_⟩) (fun c => ⟨fun _ => fin k σ Q (by omega) (spE_st (fun z => by rw [c] at z; exact absurd z.2 (by decide))) h3 h4 h5 h, fun z => absurd rfl z⟩)
    have hc := of_decide_eq_true c
    have step : ∀ (v : Int64), (k + 1 ≤ 8 → v = L64 (encL 27 (lts t s (k + 1)))) → Wp lay1 rtOf (Cl lay1 (d + 1)) k_R_next 0 Q (170, [aO 12 71, u1, u2], [aJ v, aO 12 71], σ) := by
      intro v hv
      refine bk_R_next_170 _ _ _ ?_
      have e4 : gI (pL σ 71 5 v) 71 2 = nI (s + k) := h4
      rw [e4, nI_1]
      have a1 : rc σ (pI (pL σ 71 5 v) 71 2 (nI (s + k + 1))) := (rc_pL _).trans (rc_pI _ (by omega))
      refine ih (k + 1) u1 u2 _ Q (by omega) (hln.of rfl) (a1.tx ht) ?_ ?_ ?_ (fun τ b1 b2 b3 b4 b5 => h τ (a1.trans b1) ?_ b3 ?_ ?_)
      · rw [gI_pI, if_neg (by omega)]; exact h3
      · rw [gI_pI, if_pos ⟨rfl, rfl⟩]; rfl
      · intro q
        show gL (pL σ 71 5 _) 71 5 = _
        rw [gL_pL, if_pos ⟨rfl, rfl⟩]
        exact hv q
      · rw [spE_go ha c]; exact b2
      · rw [spE_go ha c]; exact b4
      · rw [spE_go ha c]; exact b5
    show (((gI σ 71 2) - (gI σ 71 3)) ≤ (8 : Int32) → inb (gI σ 71 2) (gN σ 72) ∧ (Wp lay1 rtOf (Cl lay1 (d + 1)) k_R_next 0 Q (170, [aO 12 71, u1, u2], [aJ ((((gL σ 71 5) * (27 : Int64)) + (gI σ 72 (ix (gI σ 71 2))).toInt64) - (96 : Int64)), aO 12 71], σ))) ∧ (¬ ((gI σ 71 2) - (gI σ 71 3)) ≤ (8 : Int32) → Wp lay1 rtOf (Cl lay1 (d + 1)) k_R_next 0 Q (170, [aO 12 71, u1, u2], [aJ (gL σ 71 5), aO 12 71], σ))
    have e8 : ((gI σ 71 2) - (gI σ 71 3)) ≤ (8 : Int32) ↔ k ≤ 8 := by
      rw [h3, h4, pk_sub (by omega), Nat.add_sub_cancel_left, show (8 : Int32) = nI 8 from rfl, nI_leI (by omega) (by omega)]
    rw [e8]
    refine ⟨fun q => ⟨hb, step _ (fun _ => ?_)⟩, fun q => step _ (fun q2 => absurd q2 (by omega))⟩
    rw [hc0, i64_nI (by omega), h5 q, show (27 : Int64) = L64 27 by decide, show (96 : Int64) = L64 96 by decide, L64_mul, L64_add, L64_sub, lts_succ, encL_app]
    congr 1
    omega
theorem sp_rnum_loop {t : Tx} {s : Nat} (hto : txOK t) : ∀ (m k : Nat) (u1 u2 : AV) (σ : St) (Q : Option AV → St → Prop), s + k + m = t.1 → LN σ → txR σ t → gI σ 71 3 = nI s → gI σ 71 2 = nI (s + k) → (k ≤ 4 → gL σ 71 5 = L64 (num t s k)) → (∀ τ, rc σ τ → gI τ 71 4 = (if spE isFi t (s + k) - s ≤ 4 then 2 else 4) → gI τ 71 3 = nI s → gI τ 71 2 = nI (spE isFi t (s + k)) → (spE isFi t (s + k) - s ≤ 4 → gL τ 71 5 = L64 (num t s (spE isFi t (s + k) - s))) → Q none τ) → Wp lay1 rtOf (Cl lay1 (d + 1)) k_R_next 0 Q (219, [aO 12 71, u1, u2], [], σ) := by
  have h15 := hto.1
  intro m
  have fin : ∀ (k : Nat) (σ : St) (Q : Option AV → St → Prop), s + k ≤ t.1 → spE isFi t (s + k) = s + k → gI σ 71 3 = nI s → gI σ 71 2 = nI (s + k) → (k ≤ 4 → gL σ 71 5 = L64 (num t s k)) → (∀ τ, rc σ τ → gI τ 71 4 = (if spE isFi t (s + k) - s ≤ 4 then 2 else 4) → gI τ 71 3 = nI s → gI τ 71 2 = nI (spE isFi t (s + k)) → (spE isFi t (s + k) - s ≤ 4 → gL τ 71 5 = L64 (num t s (spE isFi t (s + k) - s))) → Q none τ) → (((gI σ 71 2) - (gI σ 71 3)) ≤ (4 : Int32) → Q none (pI σ 71 4 (2 : Int32))) ∧ (¬ ((gI σ 71 2) - (gI σ 71 3)) ≤ (4 : Int32) → Q none (pI σ 71 4 (4 : Int32))) := by
    intro k σ Q hk e h3 h4 h5 h
    rw [e, Nat.add_sub_cancel_left] at h
    have e4 : gI σ 71 2 - gI σ 71 3 ≤ 4 ↔ k ≤ 4 := by rw [h3, h4, pk_sub (by omega), Nat.add_sub_cancel_left, show (4 : Int32) = nI 4 from rfl, nI_leI (by omega) (by omega)]
    rw [e4]
    refine ⟨fun c => h _ (rc_pI _ (by omega)) ?_ ?_ ?_ h5, fun c => h _ (rc_pI _ (by omega)) ?_ ?_ ?_ h5⟩
    · rw [gI_pI, if_pos ⟨rfl, rfl⟩, if_pos c]
    · rw [gI_pI, if_neg (by omega)]; exact h3
    · rw [gI_pI, if_neg (by omega)]; exact h4
    · rw [gI_pI, if_pos ⟨rfl, rfl⟩, if_neg c]
    · rw [gI_pI, if_neg (by omega)]; exact h3
    · rw [gI_pI, if_neg (by omega)]; exact h4
  induction m with
  | zero =>
    intro k u1 u2 σ Q hm hln ht h3 h4 h5 h
    refine bk_R_next_219 _ _ ⟨fun _ => fin k σ Q (by omega) (spE_st (by omega)) h3 h4 h5 h, fun c => absurd ?_ c⟩
    rw [ht.1, h4, nI_leI (by omega) (by omega)]; omega
  | succ m ih =>
    intro k u1 u2 σ Q hm hln ht h3 h4 h5 h
    have ha : s + k < t.1 := by omega
    have h256 := hto.2 _ ha
    have hb : inb (gI σ 71 2) (gN σ 72) := by rw [h4, hln.at 72 1500 (by decide)]; exact inb_nI (by omega) (by omega)
    have hc0 : gI σ 72 (ix (gI σ 71 2)) = nI (t.2 (s + k)) := by rw [h4, ix_nI (by omega)]; exact ht.2 _ ha
    refine bk_R_next_219 _ _ ⟨fun c => absurd c ?_, fun _ => ⟨hb, ?_⟩⟩
    · rw [ht.1, h4, nI_leI (by omega) (by omega)]; omega
    rw [hc0]
    refine sp_rFigure h256 (fun c => ⟨fun z => absurd z (by decide), fun _ => ?_⟩) (fun c => ⟨fun _ => fin k σ Q (by omega) (spE_st (fun z => by rw [c] at z; exact absurd z.2 (by decide))) h3 h4 h5 h, fun z => absurd rfl z⟩)
    have hc := of_decide_eq_true c
    have step : ∀ (v : Int64), (k + 1 ≤ 4 → v = L64 (num t s (k + 1))) → Wp lay1 rtOf (Cl lay1 (d + 1)) k_R_next 0 Q (289, [aO 12 71, u1, u2], [aJ v, aO 12 71], σ) := by
      intro v hv
      refine bk_R_next_289 _ _ _ ?_
      have e4 : gI (pL σ 71 5 v) 71 2 = nI (s + k) := h4
      rw [e4, nI_1]
      have a1 : rc σ (pI (pL σ 71 5 v) 71 2 (nI (s + k + 1))) := (rc_pL _).trans (rc_pI _ (by omega))
      refine ih (k + 1) u1 u2 _ Q (by omega) (hln.of rfl) (a1.tx ht) ?_ ?_ ?_ (fun τ b1 b2 b3 b4 b5 => h τ (a1.trans b1) ?_ b3 ?_ ?_)
      · rw [gI_pI, if_neg (by omega)]; exact h3
      · rw [gI_pI, if_pos ⟨rfl, rfl⟩]; rfl
      · intro q
        show gL (pL σ 71 5 _) 71 5 = _
        rw [gL_pL, if_pos ⟨rfl, rfl⟩]
        exact hv q
      · rw [spE_go ha c]; exact b2
      · rw [spE_go ha c]; exact b4
      · rw [spE_go ha c]; exact b5
    show (((gI σ 71 2) - (gI σ 71 3)) ≤ (4 : Int32) → inb (gI σ 71 2) (gN σ 72) ∧ (Wp lay1 rtOf (Cl lay1 (d + 1)) k_R_next 0 Q (289, [aO 12 71, u1, u2], [aJ ((((gL σ 71 5) * (10 : Int64)) + (gI σ 72 (ix (gI σ 71 2))).toInt64) - (48 : Int64)), aO 12 71], σ))) ∧ (¬ ((gI σ 71 2) - (gI σ 71 3)) ≤ (4 : Int32) → Wp lay1 rtOf (Cl lay1 (d + 1)) k_R_next 0 Q (289, [aO 12 71, u1, u2], [aJ (gL σ 71 5), aO 12 71], σ))
    have e8 : ((gI σ 71 2) - (gI σ 71 3)) ≤ (4 : Int32) ↔ k ≤ 4 := by
      rw [h3, h4, pk_sub (by omega), Nat.add_sub_cancel_left, show (4 : Int32) = nI 4 from rfl, nI_leI (by omega) (by omega)]
    rw [e8]
    refine ⟨fun q => ⟨hb, step _ (fun _ => ?_)⟩, fun q => step _ (fun q2 => absurd q2 (by omega))⟩
    rw [hc0, i64_nI (by omega), h5 q, show (10 : Int64) = L64 10 by decide, show (48 : Int64) = L64 48 by decide, L64_mul, L64_add, L64_sub]
    show _ = L64 ((num t s k * 10 + (t.2 (s + k) - 48) : Nat) : Int)
    congr 1
    omega
theorem sp_rskip_loop {t : Tx} (hto : txOK t) : ∀ (m a : Nat) (u1 u2 : AV) (σ : St) (Q : Option AV → St → Prop), a + m = t.1 → LN σ → txR σ t → gI σ 71 2 = nI a → (∀ τ, rc σ τ → gI τ 71 2 = nI (spE isBl t a) → Wp lay1 rtOf (Cl lay1 (d + 1)) k_R_next 0 Q (52, [aO 12 71, u1, u2], [], τ)) → Wp lay1 rtOf (Cl lay1 (d + 1)) k_R_next 0 Q (0, [aO 12 71, u1, u2], [], σ) := by
  have h15 := hto.1
  intro m
  induction m with
  | zero =>
    intro a u1 u2 σ Q hm hln ht h4 h
    refine bk_R_next_0 _ _ ⟨fun _ => h σ (rc.rf _) ?_, fun c => absurd ?_ c⟩
    · rw [spE_st (by omega)]; exact h4
    · rw [ht.1, h4, nI_leI (by omega) (by omega)]; omega
  | succ m ih =>
    intro a u1 u2 σ Q hm hln ht h4 h
    have ha : a < t.1 := by omega
    have h256 := hto.2 _ ha
    have hb : inb (gI σ 71 2) (gN σ 72) := by rw [h4, hln.at 72 1500 (by decide)]; exact inb_nI (by omega) (by omega)
    have hc0 : gI σ 72 (ix (gI σ 71 2)) = nI (t.2 a) := by rw [h4, ix_nI (by omega)]; exact ht.2 _ ha
    have step : isBl (t.2 a) = true → Wp lay1 rtOf (Cl lay1 (d + 1)) k_R_next 0 Q (39, [aO 12 71, u1, u2], [], σ) := by
      intro c
      refine bk_R_next_39 _ _ ?_
      rw [h4, nI_1]
      have a1 := rc_pI (σ := σ) (k := 2) (nI (a + 1)) (by omega)
      refine ih (a + 1) u1 u2 _ Q (by omega) (hln.of rfl) (a1.tx ht) (by rw [gI_pI, if_pos ⟨rfl, rfl⟩]) (fun τ b1 b2 => h τ (a1.trans b1) ?_)
      rw [spE_go ha c]
      exact b2
    refine bk_R_next_0 _ _ ⟨fun c => absurd c ?_, fun _ => ⟨hb, fun c => step ?_, fun c => ⟨hb, fun c2 => step ?_, fun c2 => h σ (rc.rf _) ?_⟩⟩⟩
    · rw [ht.1, h4, nI_leI (by omega) (by omega)]; omega
    · rw [hc0, show (32 : Int32) = nI 32 from rfl, nI_eq (by omega) (by omega)] at c
      exact decide_eq_true (Or.inl c)
    · rw [hc0, show (10 : Int32) = nI 10 from rfl, nI_eq (by omega) (by omega)] at c2
      exact decide_eq_true (Or.inr c2)
    · rw [hc0, show (32 : Int32) = nI 32 from rfl, nI_eq (by omega) (by omega)] at c
      rw [hc0, show (10 : Int32) = nI 10 from rfl, nI_eq (by omega) (by omega)] at c2
      rw [spE_st (fun z => by have := of_decide_eq_true z.2; omega)]
      exact h4
theorem sp_rnext {σ : St} {Q : Option AV → St → Prop} {t : Tx} {a : Nat} (hln : LN σ) (ht : txR σ t) (hto : txOK t) (ha : a ≤ t.1) (h4 : gI σ 71 2 = nI a) (h : ∀ τ, rc σ τ → tkR τ (tok t a) → Q none τ) : Cl lay1 (d + 2) M_R_next [aO 12 71] σ Q := by
  have h15 := hto.1
  show Wp lay1 rtOf (Cl lay1 (d + 1)) k_R_next 0 Q (0, [aO 12 71, aZ, aZ], [], σ)
  refine sp_rskip_loop hto (t.1 - a) a aZ aZ σ Q (by omega) hln ht h4 (fun τ1 a1 g4 => ?_)
  have s1 := spE_ge isBl t a
  have s2 := spE_le isBl ha
  unfold tok at h
  generalize hs : spE isBl t a = s at h g4 s1 s2
  refine bk_R_next_52 _ _ ?_
  have a2 : rc σ (pL (pI τ1 71 3 (gI τ1 71 2)) 71 5 0) := (a1.trans (rc_pI _ (by omega))).trans (rc_pL _)
  have g3 : gI (pL (pI τ1 71 3 (gI τ1 71 2)) 71 5 0) 71 3 = nI s := by
    show gI (pI τ1 71 3 (gI τ1 71 2)) 71 3 = nI s
    rw [gI_pI, if_pos ⟨rfl, rfl⟩]; exact g4
  have g4' : gI (pL (pI τ1 71 3 (gI τ1 71 2)) 71 5 0) 71 2 = nI s := by
    show gI (pI τ1 71 3 (gI τ1 71 2)) 71 2 = nI s
    rw [gI_pI, if_neg (by omega)]; exact g4
  have g5 : gL (pL (pI τ1 71 3 (gI τ1 71 2)) 71 5 0) 71 5 = L64 0 := by rw [gL_pL, if_pos ⟨rfl, rfl⟩]; rfl
  generalize pL (pI τ1 71 3 (gI τ1 71 2)) 71 5 0 = τ2 at a2 g3 g4' g5
  have ln2 := hln.of a2.2.2.1
  have tx2 := a2.tx ht
  have e12 : gI τ2 71 2 = gI τ2 71 1 ↔ s = t.1 := by rw [g4', tx2.1, nI_eq (by omega) (by omega)]
  rw [e12]
  by_cases c : t.1 ≤ s
  · rw [if_pos c] at h
    refine ⟨fun _ => ?_, fun z => absurd (by omega) z⟩
    refine h _ (a2.trans (rc_pI _ (by omega))) ⟨?_, ?_, ?_, fun z => absurd z (by show ¬ 0 = 1; omega), fun z => absurd z (by show ¬ 0 = 2; omega), fun z => absurd z (by show ¬ 0 = 3; omega)⟩
    · rw [gI_pI, if_pos ⟨rfl, rfl⟩]; rfl
    · rw [gI_pI, if_neg (by omega)]; exact g3
    · rw [gI_pI, if_neg (by omega)]; exact g4'
  rw [if_neg c] at h
  have hlt : s < t.1 := by omega
  have h256 := hto.2 s hlt
  have hb : inb (gI τ2 71 2) (gN τ2 72) := by rw [g4', ln2.at 72 1500 (by decide)]; exact inb_nI (by omega) (by omega)
  have hc0 : gI τ2 72 (ix (gI τ2 71 2)) = nI (t.2 s) := by rw [g4', ix_nI (by omega)]; exact tx2.2 _ hlt
  refine ⟨fun z => absurd z (by omega), fun _ => ⟨hb, ?_⟩⟩
  rw [hc0]
  refine sp_rLetter h256 (fun c1 => ⟨fun z => absurd z (by decide), fun _ => ?_⟩) (fun c1 => ⟨fun _ => ?_, fun z => absurd rfl z⟩)
  · rw [if_pos c1] at h
    refine sp_rname_loop (s := s) hto (t.1 - s) 0 _ _ τ2 Q (by omega) ln2 tx2 g3 g4' (fun _ => g5) (fun τ b1 b2 b3 b4 b5 => ?_)
    refine h τ (a2.trans b1) ⟨?_, b3, b4, fun z => b5 ?_, fun z => absurd z ?_, fun z => absurd z ?_⟩
    · rw [b2]
      show _ = nI (if spE isLe t s - s ≤ 8 then 1 else 4)
      by_cases q : spE isLe t s - s ≤ 8
      · rw [if_pos (show spE isLe t (s + 0) - s ≤ 8 from q), if_pos q]; rfl
      · rw [if_neg (show ¬ spE isLe t (s + 0) - s ≤ 8 from q), if_neg q]; rfl
    · have z : (if spE isLe t s - s ≤ 8 then 1 else 4) = 1 := z
      by_cases q : spE isLe t s - s ≤ 8
      · exact q
      · rw [if_neg q] at z; exact absurd z (by omega)
    · show ¬ (if _ then 1 else 4) = 2
      split <;> omega
    · show ¬ (if _ then 1 else 4) = 3
      split <;> omega
  rw [if_neg (by rw [c1]; decide)] at h
  refine sp_rFigure h256 (fun c2 => ⟨fun z => absurd z (by decide), fun _ => ?_⟩) (fun c2 => ⟨fun _ => ?_, fun z => absurd rfl z⟩)
  · rw [if_pos c2] at h
    refine sp_rnum_loop (s := s) hto (t.1 - s) 0 _ _ τ2 Q (by omega) ln2 tx2 g3 g4' (fun _ => g5) (fun τ b1 b2 b3 b4 b5 => ?_)
    refine h τ (a2.trans b1) ⟨?_, b3, b4, fun z => absurd z ?_, fun z => b5 ?_, fun z => absurd z ?_⟩
    · rw [b2]
      show _ = nI (if spE isFi t s - s ≤ 4 then 2 else 4)
      by_cases q : spE isFi t s - s ≤ 4
      · rw [if_pos (show spE isFi t (s + 0) - s ≤ 4 from q), if_pos q]; rfl
      · rw [if_neg (show ¬ spE isFi t (s + 0) - s ≤ 4 from q), if_neg q]; rfl
    · show ¬ (if _ then 2 else 4) = 1
      split <;> omega
    · have z : (if spE isFi t s - s ≤ 4 then 2 else 4) = 2 := z
      by_cases q : spE isFi t s - s ≤ 4
      · exact q
      · rw [if_neg q] at z; exact absurd z (by omega)
    · show ¬ (if _ then 2 else 4) = 3
      split <;> omega
  rw [if_neg (by rw [c2]; decide)] at h
  rw [g4', nI_1, i64_nI (by omega)]
  have a3 : rc σ (pL (pI τ2 71 2 (nI (s + 1))) 71 5 (L64 (t.2 s : Nat))) := (a2.trans (rc_pI _ (by omega))).trans (rc_pL _)
  have f3 : ∀ v, gI (pI (pL (pI τ2 71 2 (nI (s + 1))) 71 5 (L64 (t.2 s : Nat))) 71 4 v) 71 3 = nI s := fun v => by
    rw [gI_pI, if_neg (by omega)]
    show gI (pI τ2 71 2 (nI (s + 1))) 71 3 = nI s
    rw [gI_pI, if_neg (by omega)]; exact g3
  have f2 : ∀ v, gI (pI (pL (pI τ2 71 2 (nI (s + 1))) 71 5 (L64 (t.2 s : Nat))) 71 4 v) 71 2 = nI (s + 1) := fun v => by
    rw [gI_pI, if_neg (by omega)]
    show gI (pI τ2 71 2 (nI (s + 1))) 71 2 = nI (s + 1)
    rw [gI_pI, if_pos ⟨rfl, rfl⟩]
  have f5 : ∀ v, gL (pI (pL (pI τ2 71 2 (nI (s + 1))) 71 5 (L64 (t.2 s : Nat))) 71 4 v) 71 5 = L64 (t.2 s : Nat) := fun v => by
    show gL (pL (pI τ2 71 2 (nI (s + 1))) 71 5 (L64 (t.2 s : Nat))) 71 5 = _
    rw [gL_pL, if_pos ⟨rfl, rfl⟩]
  have yes : isAl (t.2 s) = true → Q none (pI (pL (pI τ2 71 2 (nI (s + 1))) 71 5 (L64 (t.2 s : Nat))) 71 4 3) := by
    intro c3
    rw [if_pos c3] at h
    exact h _ (a3.trans (rc_pI _ (by omega))) ⟨by rw [gI_pI, if_pos ⟨rfl, rfl⟩]; rfl, f3 _, f2 _, fun z => absurd z (by show ¬ 3 = 1; omega), fun z => absurd z (by show ¬ 3 = 2; omega), fun _ => f5 _⟩
  have no : isAl (t.2 s) = false → Q none (pI (pL (pI τ2 71 2 (nI (s + 1))) 71 5 (L64 (t.2 s : Nat))) 71 4 4) := by
    intro c3
    rw [if_neg (by rw [c3]; decide)] at h
    exact h _ (a3.trans (rc_pI _ (by omega))) ⟨by rw [gI_pI, if_pos ⟨rfl, rfl⟩]; rfl, f3 _, f2 _, fun z => absurd z (by show ¬ 4 = 1; omega), fun z => absurd z (by show ¬ 4 = 2; omega), fun z => absurd z (by show ¬ 4 = 3; omega)⟩
  have e : ∀ k : Nat, k < 256 → (nI (t.2 s) = nI k ↔ t.2 s = k) := fun k hk => nI_eq (by omega) (by omega)
  have y : ∀ k : Nat, k < 256 → isAl k = true → nI (t.2 s) = nI k → isAl (t.2 s) = true := fun k hk ha z => by rw [(e k hk).mp z]; exact ha
  have m : ∀ k : Nat, k < 256 → ¬ nI (t.2 s) = nI k → t.2 s ≠ k := fun k hk z q => z ((e k hk).mpr q)
  refine ⟨fun q => ⟨fun z => absurd z (by decide), fun _ => yes (y 61 (by omega) (by decide) q)⟩, fun q1 => ⟨fun q => ⟨fun z => absurd z (by decide), fun _ => yes (y 59 (by omega) (by decide) q)⟩, fun q2 => ⟨fun q => ⟨fun z => absurd z (by decide), fun _ => yes (y 40 (by omega) (by decide) q)⟩, fun q3 => ⟨fun q => ⟨fun z => absurd z (by decide), fun _ => yes (y 41 (by omega) (by decide) q)⟩, fun q4 => ⟨fun q => ⟨fun z => absurd z (by decide), fun _ => yes (y 42 (by omega) (by decide) q)⟩, fun q5 => ⟨fun q => ⟨fun z => absurd z (by decide), fun _ => yes (y 47 (by omega) (by decide) q)⟩, fun q6 => ⟨fun q => ⟨fun z => absurd z (by decide), fun _ => yes (y 45 (by omega) (by decide) q)⟩, fun q7 => ⟨fun _ => no (decide_eq_false ?_), fun z => absurd rfl z⟩⟩⟩⟩⟩⟩⟩⟩
  have h1 := m 61 (by omega) q1
  have h2 := m 59 (by omega) q2
  have h3 := m 40 (by omega) q3
  have h4 := m 41 (by omega) q4
  have h5 := m 42 (by omega) q5
  have h6 := m 47 (by omega) q6
  have h7 := m 45 (by omega) q7
  omega
end RTOK
